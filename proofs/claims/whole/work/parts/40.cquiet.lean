/-! ===== the class: how many ticks are quiet ===== -/
def fU (r : Row) : List (Nat × Int32) → Option (Nat × Int32)
  | [] => none
  | (x, z) :: t => if rO r x 3 = 0 then some (x, z) else fU r t
def tWR (r : Row) (lim : Int32) : Option (Nat × Int32) → Int32
  | none => lim
  | some (x, z) => if 0 < z - r 5 - r 0 then z - r 5 - r 0 else if ropeL r + wk r x ≤ r 7 then 0 else lim
/-- nothing is released, begun or ended in v ticks -/
def QuS (r : Row) (v : Int) (q : Nat) : Prop := (dnn r q ∧ v ≤ (rS r q 2).toInt - (r 0).toInt) ∨ (¬ dnn r q ∧ ¬ rS r q 0 = -1 ∧ v ≤ (rO r (nn (rS r q 0)) 7).toInt - 1) ∨ (¬ dnn r q ∧ rS r q 0 = -1 ∧ wtC r q = 0)
def Qui (r : Row) (v : Int) : Prop := (∀ q, q < SC r → QuS r v q) ∧ ∀ x z, fU r (schF r) = some (x, z) → v ≤ z.toInt - (r 5).toInt - (r 0).toInt ∨ r 7 < ropeL r + wk r x
theorem QuS.mono {r : Row} {v v' : Int} {q : Nat} (h : QuS r v q) (hv : v' ≤ v) : QuS r v' q := by
  rcases h with h | h | h
  · exact Or.inl ⟨h.1, by omega⟩
  · exact Or.inr (Or.inl ⟨h.1, h.2.1, by omega⟩)
  · exact Or.inr (Or.inr h)
theorem fU_none {r : Row} : ∀ (l : List (Nat × Int32)), (∀ q ∈ l, ¬ rO r q.1 3 = 0) → fU r l = none := by
  intro l
  induction l with
  | nil => intro _; rfl
  | cons y t ih =>
    obtain ⟨x, z⟩ := y
    intro h
    rw [fU, if_neg (h (x, z) List.mem_cons_self)]
    exact ih (fun q hq => h q (List.mem_cons_of_mem _ hq))
theorem fU_mem {r : Row} : ∀ (l : List (Nat × Int32)) {x : Nat} {z : Int32}, fU r l = some (x, z) → (x, z) ∈ l ∧ rO r x 3 = 0 := by
  intro l
  induction l with
  | nil => intro x z h; cases h
  | cons y t ih =>
    obtain ⟨x', z'⟩ := y
    intro x z h
    rw [fU] at h
    by_cases hc : rO r x' 3 = 0
    · rw [if_pos hc] at h
      cases h
      exact ⟨List.mem_cons_self, hc⟩
    · rw [if_neg hc] at h
      exact ⟨List.mem_cons_of_mem _ (ih h).1, (ih h).2⟩
section QT
variable {σ : iM} {s : Nat} {r : Row}
theorem c_twr (h : Sh σ s r) (hr : RI r) (hs4 : s < 4) (lim : Int32) {a b : Row} (hF : rF a b (schF r) 0) :
    ∀ (t v : List (Nat × Int32)) (d3 d4 : Option iV), schF r = v ++ t → AtP mX4_ticksWithoutRelease 20 [some (.inr (4, s)), some (.inl lim), some (.inl (nI v.length)), d3, d4] [] (mC σ s a b (nI (schF r).length)) (fun z => z = evi (tWR r lim (fU r t)) (mC σ s a b (nI (schF r).length))) := by
  have hom := hr.om
  have hpm := hr.pm
  have hlen := schL_len r (OM r)
  have hl2 := schF_len r
  have hS := h.C (a := a) (b := b) (n := nI (schF r).length) hs4 hpm.2
  intro t
  induction t with
  | nil =>
    intro v d3 d4 h1
    rw [List.append_nil] at h1
    refine AtP.Bt rfl (by rw [mC_n, h1]; exact (nI_leI (by rw [h1] at hl2; omega) (by rw [h1] at hl2; omega)).mpr (Nat.le_refl _)) ?_
    exact AtP.R rfl (rfl)
  | cons y t ih =>
    obtain ⟨x, z⟩ := y
    intro v d3 d4 h1
    have hlen3 : (schF r).length = v.length + t.length + 1 := by rw [h1]; simp; omega
    have hx := (schF_mem (r := r) (x := x) (s := z) (by rw [h1]; simp)).1
    have hg := rF_get a b (schF r) 0 v.length x z hF (by rw [h1, List.getElem?_append_right (Nat.le_refl _), Nat.sub_self]; rfl)
    rw [Nat.zero_add] at hg
    have ho := hS.2.2.2 x hx
    refine AtP.Bf rfl (by rw [mC_n]; exact fun h => absurd ((nI_leI (by omega) (by omega)).mp h) (by omega)) ?_
    refine AtP.N rfl (by exact vA hs4 _ (by omega)) ?_
    rw [mC_a, nI_clamp (by omega), hg.1]
    refine AtP.N rfl (v12 s x (by omega)) ?_
    rw [nI_clamp (by omega)]
    rw [fU]
    refine AtP.B rfl (fun hst => ?_) (fun hst => ?_)
    · have hst : mC σ s a b (nI (schF r).length) 0 (24 * s + x) 5 = 0 := hst
      rw [ho.2.2.2.2.2.1] at hst
      rw [if_pos hst]
      refine AtP.N rfl (by exact vB hs4 _ (by omega)) ?_
      rw [mC_b, nI_clamp (by omega), hg.2]
      have e5 : mC σ s a b (nI (schF r).length) 4 s 8 = r 5 := hS.1.2.2.2.2.1
      have e0 : mC σ s a b (nI (schF r).length) 4 s 13 = r 0 := hS.1.2.2.2.2.2.2.2.2.2.1
      rw [show tWR r lim (some (x, z)) = if 0 < z - r 5 - r 0 then z - r 5 - r 0 else if ropeL r + wk r x ≤ r 7 then 0 else lim from rfl]
      refine AtP.B rfl (fun hw => ?_) (fun hw => ?_)
      · rw [e5, e0] at hw
        rw [if_neg (le_nlt hw)]
        refine AtP.Ci rfl (c_releasedWork hS hr) ?_
        refine AtP.B rfl (fun hrp => ?_) (fun hrp => ?_)
        · rw [ho.2.2.2.1, hS.1.2.2.2.2.2.2.1] at hrp
          rw [if_neg (lt_nle hrp)]
          exact AtP.R rfl (rfl)
        · rw [ho.2.2.2.1, hS.1.2.2.2.2.2.2.1] at hrp
          rw [if_pos (fa_of_nlt hrp)]
          refine AtP.J rfl ?_
          exact AtP.R rfl (rfl)
      · rw [e5, e0] at hw ⊢
        rw [if_pos (fa_of_nle hw)]
        exact AtP.R rfl (rfl)
    · have hst : ¬ mC σ s a b (nI (schF r).length) 0 (24 * s + x) 5 = 0 := hst
      rw [ho.2.2.2.2.2.1] at hst
      rw [if_neg hst]
      refine AtP.J rfl ?_
      rw [nI_1]
      have := ih (v ++ [(x, z)]) (some (.inr (0, 24 * s + x))) d4 (by rw [h1]; simp)
      rw [List.length_append] at this
      exact this
theorem c_ticks (h : Sh σ s r) (hr : RI r) (hs4 : s < 4) (lim : Int32) : EvP mX4_ticksWithoutRelease [.inr (4, s), .inl lim] σ (fun z => ∃ v σ1, z = evi v σ1 ∧ v = tWR r lim (fU r (schF r)) ∧ Sh σ1 s r ∧ cfr s σ σ1) := by
  obtain ⟨om1, om2⟩ := hr.om
  have hpm := hr.pm.2
  have hct : nrl r ≤ OM r := fb_ct_le _ _
  show AtP mX4_ticksWithoutRelease 0 [some (.inr (4, s)), some (.inl lim), none, none, none] [] σ _
  refine AtP.Ci rfl (c_countInState h hr 0) ?_
  refine AtP.B rfl (fun hc => ?_) (fun hc => ?_)
  · have hc0 : nrl r = 0 := by
      have hc1 : nI (nrl r) = nI 0 := hc
      exact (nI_inj (by omega) (by omega)).mp hc1
    exact AtP.R rfl (⟨_, _, rfl, by rw [fU_none _ (fun q hq => nrl_none hc0 q.1 (schF_mem (s := q.2) hq).1)]; rfl, h, cfr.rfl⟩)
  · refine AtP.CvP rfl (c_make h hr hs4) (fun σ9 h9 => ?_)
    obtain ⟨a, b, hF, rfl⟩ := h9
    refine AtP.F 20 [some (.inr (4, s)), some (.inl lim), some (.inl (nI 0)), none, none] [] _ rfl ?_
    refine (c_twr h hr hs4 lim hF (schF r) [] none none rfl).mono (fun z hz => ⟨_, _, hz, rfl, h.C hs4 hpm, cfr.C⟩)
theorem c_quietTicks (h : Sh σ s r) (hr : RI r) (hs4 : s < 4) {lim : Int32} (hl : 1 ≤ lim.toInt) : EvP mX4_quietTicks [.inr (4, s), .inl lim] σ (fun z => ∃ v σ1, z = evi v σ1 ∧ (0 ≤ v.toInt ∧ v.toInt ≤ lim.toInt ∧ (0 < v.toInt → Qui r v.toInt)) ∧ Sh σ1 s r ∧ cfr s σ σ1) := by
  have hsc := hr.sc
  have hom := hr.om
  have h00 := hr.1
  show AtP mX4_quietTicks 0 [some (.inr (4, s)), some (.inl lim), none, none, none] [] σ _
  refine AtP.F 4 [some (.inr (4, s)), some (.inl lim), some (.inl lim), some (.inl (nI 0)), none] [] _ rfl ?_
  have h1i : (1 : Int32).toInt = 1 := rfl
  have h0i : (0 : Int32).toInt = 0 := rfl
  have key : ∀ n, n ≤ SC r → ∀ (acc : Int32) (d4 : Option iV), 0 ≤ acc.toInt → acc.toInt ≤ lim.toInt → (∀ q, q < n → QuS r acc.toInt q) → AtP mX4_quietTicks 4 [some (.inr (4, s)), some (.inl lim), some (.inl acc), some (.inl (nI n)), d4] [] σ (fun z => ∃ v σ1, z = evi v σ1 ∧ (0 ≤ v.toInt ∧ v.toInt ≤ lim.toInt ∧ (0 < v.toInt → Qui r v.toInt)) ∧ Sh σ1 s r ∧ cfr s σ σ1) := by
    refine down_ind (N := SC r) ?_ ?_
    · intro acc d4 ha1 ha2 hq
      refine AtP.Bt rfl (by rw [h.sc hr]; exact (nI_leI (by omega) (by omega)).mpr (Nat.le_refl _)) ?_
      refine AtP.B rfl (fun hacc => ?_) (fun hacc => ?_)
      · exact AtP.R rfl (⟨_, _, rfl, ⟨by decide, by rw [h0i]; omega, fun x => absurd x (by decide)⟩, h, cfr.rfl⟩)
      · have hacc := fa_of_nle hacc
        rw [fa_lt, h0i] at hacc
        refine AtP.CiP rfl (c_ticks h hr hs4 acc) (fun v9 σ9 h9 => ?_)
        obtain ⟨hv, hS, hf⟩ := h9
        refine AtP.J rfl ?_
        refine AtP.R rfl ⟨_, _, rfl, ?_, hS, hf⟩
        have hmin : ∀ x y : Int32, (iMin x y).toInt = if y.toInt < x.toInt then y.toInt else x.toInt := fun x y => by
          unfold iMin
          by_cases c : y < x
          · rw [if_pos c, if_pos ((fa_lt _ _).mp c)]
          · rw [if_neg c, if_neg (fun z => c ((fa_lt _ _).mpr z))]
        rw [hmin]
        have hQ : ∀ w : Int, w ≤ acc.toInt → (∀ q, q < SC r → QuS r w q) := fun w hw q hq' => (hq q hq').mono hw
        cases hfu : fU r (schF r) with
        | none =>
          rw [hfu] at hv
          have hv : v9 = acc := hv
          rw [hv, if_neg (by omega)]
          exact ⟨ha1, ha2, fun _ => ⟨hQ _ (Int.le_refl _), fun x z hxz => by rw [hfu] at hxz; cases hxz⟩⟩
        | some xz =>
          obtain ⟨x, z⟩ := xz
          rw [hfu] at hv
          have hm := fU_mem _ hfu
          have hb := schF_b hr hm.1
          have h5 := hr.2.2.2.2.2.1
          have e1 : (z - r 5).toInt = z.toInt - (r 5).toInt := fb_subI (by omega) (by omega)
          have e2 : (z - r 5 - r 0).toInt = z.toInt - (r 5).toInt - (r 0).toInt := by rw [fb_subI (by omega) (by omega), e1]
          have hv : v9 = if 0 < z - r 5 - r 0 then z - r 5 - r 0 else if ropeL r + wk r x ≤ r 7 then 0 else acc := hv
          by_cases c1 : 0 < z - r 5 - r 0
          · rw [if_pos c1] at hv
            rw [fa_lt, h0i] at c1
            rw [hv]
            by_cases c2 : (z - r 5 - r 0).toInt < acc.toInt
            · rw [if_pos c2]
              refine ⟨by omega, by omega, fun _ => ⟨hQ _ (by omega), fun x' z' hxz => Or.inl ?_⟩⟩
              rw [hfu] at hxz; cases hxz
              omega
            · rw [if_neg c2]
              refine ⟨by omega, by omega, fun _ => ⟨hQ _ (by omega), fun x' z' hxz => Or.inl ?_⟩⟩
              rw [hfu] at hxz; cases hxz
              omega
          · rw [if_neg c1] at hv
            by_cases c3 : ropeL r + wk r x ≤ r 7
            · rw [if_pos c3] at hv
              rw [hv, h0i, if_pos (by omega)]
              exact ⟨by omega, by omega, fun z => absurd z (by omega)⟩
            · rw [if_neg c3] at hv
              rw [hv, if_neg (by omega)]
              refine ⟨by omega, by omega, fun _ => ⟨hQ _ (by omega), fun x' z' hxz => Or.inr ?_⟩⟩
              rw [hfu] at hxz; cases hxz
              exact fa_of_nle c3
    · intro n hn ih acc d4 ha1 ha2 hq
      have hqq := h.2.1 n hn
      have hnow : σ 4 s 13 = r 0 := h.1.2.2.2.2.2.2.2.2.2.1
      have hsi := hr.sta hn
      have hw24 := wtC_le hr n
      refine AtP.Bf rfl (by rw [h.sc hr]; exact fun x => absurd ((nI_leI (by omega) (by omega)).mp x) (by omega)) ?_
      refine AtP.N rfl (v15 s n (by omega)) ?_
      rw [nI_clamp (by omega)]
      refine AtP.Ci rfl (c_isDown (6 * s + n) _) ?_
      rw [hqq.2.1, hnow]
      have nxt : ∀ (w : Int32) (d4 : Option iV), (w.toInt = acc.toInt ∨ (0 ≤ w.toInt ∧ w.toInt < acc.toInt)) → QuS r w.toInt n → AtP mX4_quietTicks 92 [some (.inr (4, s)), some (.inl lim), some (.inl w), some (.inl (nI n)), d4] [] σ (fun z => ∃ v σ1, z = evi v σ1 ∧ (0 ≤ v.toInt ∧ v.toInt ≤ lim.toInt ∧ (0 < v.toInt → Qui r v.toInt)) ∧ Sh σ1 s r ∧ cfr s σ σ1) := by
        intro w d4 hw hQ
        refine AtP.J rfl ?_
        rw [nI_1]
        refine ih w d4 (by omega) (by omega) (fun q hq' => ?_)
        by_cases e : q = n
        · rw [e]; exact hQ
        · exact (hq q (by omega)).mono (by omega)
      by_cases hd : r 0 < rS r n 2
      · rw [if_pos hd]
        refine AtP.Bf rfl (by decide) ?_
        refine AtP.J rfl ?_
        rw [hqq.2.1, hnow]
        have e1 : (rS r n 2 - r 0).toInt = (rS r n 2).toInt - (r 0).toInt := by have := hsi.1; exact fb_subI (by omega) (by omega)
        have hd' := (fa_lt _ _).mp hd
        refine nxt _ _ ?_ ?_
        · unfold iMin
          by_cases c : rS r n 2 - r 0 < acc
          · rw [if_pos c]; rw [fa_lt] at c; right; omega
          · rw [if_neg c]; left; rfl
        · refine Or.inl ⟨hd, ?_⟩
          unfold iMin
          by_cases c : rS r n 2 - r 0 < acc
          · rw [if_pos c]; omega
          · rw [if_neg c]; rw [fa_lt] at c; omega
      · rw [if_neg hd]
        refine AtP.Bt rfl (rfl) ?_
        refine AtP.B rfl (fun hw => ?_) (fun hw => ?_)
        · have hw : σ 5 (6 * s + n) 2 = -1 := hw
          rw [hqq.2.2.1] at hw
          refine AtP.B rfl (fun hwt => ?_) (fun hwt => ?_)
          · rw [hqq.2.2.2.2.1, fa_le, nI_toInt (by omega), h0i] at hwt
            exact nxt acc _ (Or.inl rfl) (Or.inr (Or.inr ⟨hd, hw, by omega⟩))
          · exact AtP.R rfl (⟨_, _, rfl, ⟨by decide, by rw [h0i]; omega, fun x => absurd x (by decide)⟩, h, cfr.rfl⟩)
        · have hw : ¬ σ 5 (6 * s + n) 2 = -1 := hw
          rw [hqq.2.2.1] at hw
          obtain ⟨w1, w2, w3, w4, w5, w6⟩ := hsi.w hw
          have ho := h.2.2.2 _ w2
          obtain ⟨l1, l2, l3⟩ := hr.wkd w2 w4 w5
          have l2 := l2 trivial
          refine AtP.N rfl (by rw [hqq.2.2.1, w1]; exact v12 s _ w3) ?_
          rw [hqq.2.2.1]
          have e1 : (rO r (nn (rS r n 0)) 7 - 1).toInt = (rO r (nn (rS r n 0)) 7).toInt - 1 := by rw [fb_subI (by omega) (by omega), h1i]
          refine AtP.J rfl ?_
          rw [ho.2.2.2.2.2.2.2.1]
          refine nxt _ _ ?_ ?_
          · unfold iMin
            by_cases c : rO r (nn (rS r n 0)) 7 - 1 < acc
            · rw [if_pos c]; rw [fa_lt] at c; right; omega
            · rw [if_neg c]; left; rfl
          · refine Or.inr (Or.inl ⟨hd, hw, ?_⟩)
            unfold iMin
            by_cases c : rO r (nn (rS r n 0)) 7 - 1 < acc
            · rw [if_pos c]; omega
            · rw [if_neg c]; rw [fa_lt] at c; omega
  exact key 0 (Nat.zero_le _) lim _ (by omega) (Int.le_refl _) (fun q hq => absurd hq (Nat.not_lt_zero q))
end QT
