/-! ===== what is told of the schedule ===== -/
def fnd : List (Nat × Int32) → Nat → Int32
  | [], _ => -1000000
  | (x, s) :: t, i => if x = i then s else fnd t i
def plc : List (Nat × Int32) → Nat → Nat → Int32
  | [], _, _ => -1
  | (x, _) :: t, i, k => if x = i then nI k else plc t i (k + 1)
theorem drop_at {F : List (Nat × Int32)} {n : Nat} (h : n < F.length) : ∃ x s, F[n]? = some (x, s) ∧ F.drop n = (x, s) :: F.drop (n + 1) := ⟨F[n].1, F[n].2, List.getElem?_eq_getElem h, List.drop_eq_getElem_cons h⟩
theorem eF_get (r c : Row) : ∀ (u : List (Nat × Int32)) (m k : Nat) (x : Nat) (s : Int32), eF r c u m → u[k]? = some (x, s) → c (m + k) = s + wk r x := by
  intro u
  induction u with
  | nil => intro m k x s _ h; simp at h
  | cons q t ih =>
    intro m k x s h hk
    obtain ⟨y, z⟩ := q
    cases k with
    | zero => simp at hk; obtain ⟨rfl, rfl⟩ := hk; exact h.1
    | succ k =>
      rw [List.getElem?_cons_succ] at hk
      rw [show m + (k + 1) = m + 1 + k by omega]
      exact ih (m + 1) k x s h.2 hk
theorem plc_cases (i : Nat) : ∀ (F : List (Nat × Int32)) (k0 : Nat), (plc F i k0 = -1 ∧ fnd F i = -1000000 ∧ ∀ q ∈ F, q.1 ≠ i) ∨ ∃ k s, F[k]? = some (i, s) ∧ plc F i k0 = nI (k0 + k) ∧ fnd F i = s := by
  intro F
  induction F with
  | nil => intro k0; left; exact ⟨rfl, rfl, fun q h => nomatch h⟩
  | cons q t ih =>
    intro k0
    obtain ⟨x, s⟩ := q
    rw [plc, fnd]
    by_cases c : x = i
    · right
      subst c
      exact ⟨0, s, rfl, by rw [if_pos rfl, Nat.add_zero], by rw [if_pos rfl]⟩
    · rw [if_neg c, if_neg c]
      rcases ih (k0 + 1) with ⟨a, b, d⟩ | ⟨k, z, a, b, d⟩
      · left
        refine ⟨a, b, fun q hq => ?_⟩
        rcases List.mem_cons.mp hq with rfl | hq
        · exact c
        · exact d q hq
      · right
        exact ⟨k + 1, z, by rw [List.getElem?_cons_succ]; exact a, by rw [b]; congr 1; omega, d⟩
theorem schF_len24 {r : Row} (hr : RI r) : (schF r).length ≤ 24 := by
  rw [schF_len]
  have := schL_len r (OM r)
  have := hr.om
  omega
theorem schF_has {r : Row} {i : Nat} (hi : i < OM r) (hb : bef r i) : ∃ q ∈ schF r, q.1 = i := by
  have h1 : i ∈ (schF r).map Prod.fst := by rw [schF_fst, List.mem_reverse, schL_mem]; exact ⟨hi, hb⟩
  obtain ⟨q, hq, e⟩ := List.mem_map.mp h1
  exact ⟨q, hq, e⟩
section SS
variable {σ : iM} {s : Nat} {r : Row}
theorem c_sst (h : Sh σ s r) (hr : RI r) (hs4 : s < 4) {i : Nat} (hi : i < 24) : EvP mX4_scheduledStart [.inr (4, s), .inl (nI i)] σ (fun z => ∃ v σ1, z = evi v σ1 ∧ v = fnd (schF r) i ∧ ∃ a b n, σ1 = mC σ s a b n) := by
  have hl := schF_len24 hr
  show AtP mX4_scheduledStart 0 [some (.inr (4, s)), some (.inl (nI i)), none] [] σ _
  refine AtP.CvP rfl (c_make h hr hs4) (fun σ9 h9 => ?_)
  obtain ⟨a, b, hF, rfl⟩ := h9
  refine AtP.F 10 [some (.inr (4, s)), some (.inl (nI i)), some (.inl (nI 0))] [] _ rfl ?_
  refine down_ind (N := (schF r).length) (P := fun n => AtP mX4_scheduledStart 10 [some (.inr (4, s)), some (.inl (nI i)), some (.inl (nI n))] [] (mC σ s a b (nI (schF r).length)) (fun z => ∃ v σ1, z = evi v σ1 ∧ v = fnd ((schF r).drop n) i ∧ ∃ a b n, σ1 = mC σ s a b n)) ?_ ?_ 0 (Nat.zero_le _)
  · refine AtP.Bt rfl (by rw [mC_n]; exact ge_s) ?_
    exact AtP.R rfl (⟨_, _, rfl, by rw [List.drop_length]; rfl, _, _, _, rfl⟩)
  · intro n hn ih
    obtain ⟨x, st, g1, g2⟩ := drop_at hn
    have hg := rF_get a b _ 0 n x st hF g1
    rw [Nat.zero_add] at hg
    have hx := (schF_mem (List.mem_of_getElem? g1)).1
    have hom := hr.om
    refine AtP.Bf rfl (by rw [mC_n]; exact ge_n hl hn) ?_
    refine AtP.N rfl (vA hs4 n (by omega)) ?_
    rw [nI_clamp (by omega), g2]
    refine AtP.B rfl (fun hc => ?_) (fun hc => ?_)
    · rw [mC_a, hg.1, nI_inj (by omega) (by omega)] at hc
      refine AtP.N rfl (vB hs4 n (by omega)) ?_
      rw [nI_clamp (by omega)]
      exact AtP.R rfl (⟨_, _, rfl, by rw [mC_b, hg.2, fnd, if_pos hc], _, _, _, rfl⟩)
    · rw [mC_a, hg.1, nI_inj (by omega) (by omega)] at hc
      refine AtP.J rfl ?_
      rw [nI_1, fnd, if_neg hc]
      exact ih
theorem e_plc (hr : RI (σ 8 58)) {i : Nat} (hi : i < 24) : EvP mX7_placeOf [M, .inl (nI i)] σ (fun z => ∃ v σ1, z = evi v σ1 ∧ v = plc (schF (σ 8 58)) i 0 ∧ ∃ a b c, rF a b (schF (σ 8 58)) 0 ∧ eF (σ 8 58) c (schF (σ 8 58)) 0 ∧ σ1 = mS σ a b c (nI (schF (σ 8 58)).length)) := by
  have hl := schF_len24 hr
  show AtP mX7_placeOf 0 [some M, some (.inl (nI i)), none] [] σ _
  refine AtP.CvP rfl (e_lays hr) (fun σ9 h9 => ?_)
  obtain ⟨a, b, c, hF, hE, rfl⟩ := h9
  refine AtP.F 6 [some M, some (.inl (nI i)), some (.inl (nI 0))] [] _ rfl ?_
  refine down_ind (N := (schF (σ 8 58)).length) (P := fun n => AtP mX7_placeOf 6 [some M, some (.inl (nI i)), some (.inl (nI n))] [] (mS σ a b c (nI (schF (σ 8 58)).length)) (fun z => ∃ v σ1, z = evi v σ1 ∧ v = plc ((schF (σ 8 58)).drop n) i n ∧ ∃ a b c, rF a b (schF (σ 8 58)) 0 ∧ eF (σ 8 58) c (schF (σ 8 58)) 0 ∧ σ1 = mS σ a b c (nI (schF (σ 8 58)).length))) ?_ ?_ 0 (Nat.zero_le _)
  · refine AtP.Bt rfl (by rw [mS_n]; exact ge_s) ?_
    exact AtP.R rfl (⟨_, _, rfl, by rw [List.drop_length]; rfl, _, _, _, hF, hE, rfl⟩)
  · intro n hn ih
    obtain ⟨x, st, g1, g2⟩ := drop_at hn
    have hg := rF_get a b _ 0 n x st hF g1
    rw [Nat.zero_add] at hg
    have hx := (schF_mem (List.mem_of_getElem? g1)).1
    have hom := hr.om
    refine AtP.Bf rfl (by rw [mS_n]; exact ge_n hl hn) ?_
    refine AtP.N rfl (v63 n (by omega)) ?_
    rw [nI_clamp (by omega), g2]
    refine AtP.B rfl (fun hc => ?_) (fun hc => ?_)
    · rw [mS_a, hg.1, nI_inj (by omega) (by omega)] at hc
      exact AtP.R rfl (⟨_, _, rfl, by rw [plc, if_pos hc], _, _, _, hF, hE, rfl⟩)
    · rw [mS_a, hg.1, nI_inj (by omega) (by omega)] at hc
      refine AtP.J rfl ?_
      rw [nI_1, plc, if_neg hc]
      exact ih
/-- the start of an order that isn't cancelled -/
def stO (r : Row) (i : Nat) : Int32 := if rO r i 3 = 3 then -1000000 else if plc (schF r) i 0 = -1 then rO r i 10 else fnd (schF r) i
theorem e_startOf (hr : RI (σ 8 58)) {i : Nat} (hi : i < 24) : EvP mX7_startOf [M, .inl (nI i)] σ (fun z => ∃ v σ1, z = evi v σ1 ∧ v = stO (σ 8 58) i ∧ ∃ a b c n, σ1 = mS σ a b c n) := by
  have hl := schF_len24 hr
  show AtP mX7_startOf 0 [some M, some (.inl (nI i)), none] [] σ _
  unfold stO
  refine AtP.Ci rfl (e_order i 3 hi (by omega) _) ?_
  refine AtP.B rfl (fun hc => ?_) (fun hc => ?_)
  · rw [if_pos hc]
    exact AtP.R rfl (⟨_, _, rfl, rfl, _, _, _, _, mS_self.symm⟩)
  · rw [if_neg hc]
    refine AtP.CiP rfl (e_plc hr hi) (fun v9 σ9 h9 => ?_)
    obtain ⟨rfl, a, b, c, hF, hE, rfl⟩ := h9
    refine AtP.B rfl (fun hp => ?_) (fun hp => ?_)
    · rw [if_pos hp]
      refine AtP.Ci rfl (e_order i 10 hi (by omega) _) ?_
      refine AtP.J rfl ?_
      rw [mS_58]
      exact AtP.R rfl (⟨_, _, rfl, rfl, _, _, _, _, rfl⟩)
    · rw [if_neg hp]
      rcases plc_cases i (schF (σ 8 58)) 0 with q | ⟨k, st, g1, g2, g3⟩
      · exact absurd q.1 hp
      · have hk : k < (schF (σ 8 58)).length := (List.getElem?_eq_some_iff.mp g1).1
        rw [g2, Nat.zero_add, g3]
        refine AtP.N rfl (v64 k (by omega)) ?_
        rw [nI_clamp (by omega)]
        have hg := rF_get a b _ 0 k i st hF g1
        rw [Nat.zero_add] at hg
        exact AtP.R rfl (⟨_, _, rfl, by rw [mS_b]; exact hg.2, _, _, _, _, rfl⟩)
/-- where an order stands -/
theorem where_is (hr : RI r) {i : Nat} (hi : i < OM r) : (bef r i ∧ ¬ rO r i 3 = 3 ∧ ¬ plc (schF r) i 0 = -1 ∧ dbg r i = -1 ∧ (∃ k st, (schF r)[k]? = some (i, st) ∧ k < 24 ∧ plc (schF r) i 0 = nI k ∧ fnd (schF r) i = st ∧ inR st 0 70000)) ∨ (¬ bef r i ∧ plc (schF r) i 0 = -1 ∧ fnd (schF r) i = -1000000 ∧ (rO r i 3 = 3 ∧ dbg r i = -1 ∨ ¬ rO r i 3 = 3 ∧ (rO r i 3 = 1 ∨ rO r i 3 = 2) ∧ dbg r i = rO r i 10)) := by
  have hl := schF_len24 hr
  have hO := hr.ord hi
  by_cases hb : bef r i
  · left
    have h3 : ¬ rO r i 3 = 3 := fun e => by
      rcases hb.1 with q | q
      · rw [e] at q; exact absurd q (by decide)
      · rw [e] at q; exact absurd q (by decide)
    refine ⟨hb, h3, ?_, if_pos (Or.inr (Or.inr hb)), ?_⟩
    · rcases plc_cases i (schF r) 0 with q | ⟨k, st, g1, g2, g3⟩
      · obtain ⟨z, z1, z2⟩ := schF_has hi hb
        exact absurd z2 (q.2.2 z z1)
      · rw [g2]; exact nI_m1 (by have := (List.getElem?_eq_some_iff.mp g1).1; omega)
    · rcases plc_cases i (schF r) 0 with q | ⟨k, st, g1, g2, g3⟩
      · obtain ⟨z, z1, z2⟩ := schF_has hi hb
        exact absurd z2 (q.2.2 z z1)
      · have hk := (List.getElem?_eq_some_iff.mp g1).1
        have := schF_b hr (List.mem_of_getElem? g1)
        have := hr.1
        exact ⟨k, st, g1, by omega, by rw [g2, Nat.zero_add], g3, by omega, by omega⟩
  · right
    refine ⟨hb, ?_⟩
    rcases plc_cases i (schF r) 0 with q | ⟨k, st, g1, g2, g3⟩
    · refine ⟨q.1, q.2.1, ?_⟩
      by_cases h3 : rO r i 3 = 3
      · exact Or.inl ⟨h3, if_pos (Or.inr (Or.inl h3))⟩
      · refine Or.inr ⟨h3, ?_, ?_⟩
        · rcases hO.2.2.2.2.2.2.2.2 with z | z | z | z
          · exfalso
            apply hb
            refine ⟨Or.inl z.1, Or.inl ?_⟩
            have hd := (hr.op hi).2.2.2.1.d
            rw [z.2.1, fa_lt, nI_toInt (by omega)]
            show (-1 : Int) < _
            omega
          · exact absurd z.1 h3
          · exact Or.inl z.1
          · exact Or.inr z.1
        · refine if_neg ?_
          rintro (z | z | z)
          · apply hb
            have o := hr.i0 hi z
            refine ⟨Or.inl z, Or.inl ?_⟩
            have hd := (hr.op hi).2.2.2.1.d
            rw [o.1, fa_lt, nI_toInt (by omega)]
            show (-1 : Int) < _
            omega
          · exact h3 z
          · exact hb z
    · exact absurd (schF_mem (List.mem_of_getElem? g1)).2 hb
end SS
section PSS
variable {σ : iM}
theorem p_plannedStart (h : INV σ) (o : Int32) : OKi mX6_plannedStart mX7_plannedStart [.inl o] 0 σ := by
  have hom := h.1.om
  rcases ix_cases (OM (σ 8 58)) hom.2 o with ⟨i, hi, rfl⟩ | ho
  · refine OKi.rd (stO (σ 8 58) i) h ?_ (fun τ hτ e => ?_)
    · show AtP mX6_plannedStart 0 [some X, some (.inl (nI i)), none] [] σ _
      refine AtP.Cr rfl (c_order h hi) (show 24 * 0 + i < 96 by omega) ?_
      have hO := h.2.2.1.2.2.2 i hi
      have h10 := (h.1.ord hi).2.2.2.2.2.2.1
      unfold stO
      rcases where_is h.1 hi with ⟨w1, w2, w3, w4, w5⟩ | ⟨w1, w2, w3, w4⟩
      · rw [if_neg w2, if_neg w3]
        refine AtP.Bt rfl (by rw [hO.2.2.2.2.2.2.2.2.2.2.2.1]; exact w4) ?_
        refine AtP.CiP rfl (c_sst h.2.2.1 h.1 (by omega) (i := i) (by omega)) (fun v9 σ9 h9 => ?_)
        obtain ⟨rfl, a, b, n, rfl⟩ := h9
        exact AtP.R rfl (⟨_, rfl, scr.C⟩)
      · rcases w4 with ⟨x, y⟩ | ⟨x, z, y⟩
        · rw [if_pos x]
          refine AtP.Bt rfl (by rw [hO.2.2.2.2.2.2.2.2.2.2.2.1]; exact y) ?_
          refine AtP.CiP rfl (c_sst h.2.2.1 h.1 (by omega) (i := i) (by omega)) (fun v9 σ9 h9 => ?_)
          obtain ⟨rfl, a, b, n, rfl⟩ := h9
          exact AtP.R rfl (⟨_, by rw [w3], scr.C⟩)
        · rw [if_neg x, if_pos w2]
          refine AtP.Bf rfl (by rw [hO.2.2.2.2.2.2.2.2.2.2.2.1, y]; exact m1_ne h10) ?_
          exact AtP.R rfl (⟨_, by rw [hO.2.2.2.2.2.2.2.2.2.2.2.1, y], scr.rfl⟩)
    · show AtP mX7_plannedStart 0 [some M, some (.inl (nI i))] [] τ _
      refine AtP.Ci rfl (e_ord1 e h.1 hi) ?_
      refine AtP.Ci rfl (e_thr1 _ _) ?_
      refine AtP.Bt rfl (rfl) ?_
      refine AtP.CiP rfl (e_startOf (by rw [U7_r, e]; exact h.1) (i := i) (by omega)) (fun v9 σ9 h9 => ?_)
      obtain ⟨rfl, a, b, c, n, rfl⟩ := h9
      exact AtP.R rfl (⟨_, by rw [U7_r, e], by rw [show ∀ x : Int32, mS (iU τ 7 0 5 x) a b c n 7 0 5 = iU τ 7 0 5 x 7 0 5 from fun x => by simp [mS]]; exact iU_same, scr.T.trans scr.S⟩)
  · refine OKi.t0 h (v := 0) ?_ ?_
    · show At mX6_plannedStart 0 [some X, some (.inl o), none] [] σ _
      exact At.X rfl (c_order_no h ho)
    · show At mX7_plannedStart 0 [some M, some (.inl o)] [] σ _
      refine At.Ci rfl (e_ord0 rfl h.1 ho) ?_
      refine At.Ci rfl (e_thr0 _ _) ?_
      refine At.Bf rfl (by decide) ?_
      refine At.J rfl ?_
      exact At.R rfl
theorem mS_5 {a b c : Row} {n x : Int32} {τ : iM} : mS (iU τ 7 0 5 x) a b c n 7 0 5 = x := by
  have : mS (iU τ 7 0 5 x) a b c n 7 0 5 = iU τ 7 0 5 x 7 0 5 := by simp [mS]
  rw [this, iU_same]
theorem p_isAtRisk (h : INV σ) (o : Int32) : OKi mX6_isAtRisk mX7_isAtRisk [.inl o] 0 σ := by
  have hom := h.1.om
  rcases ix_cases (OM (σ 8 58)) hom.2 o with ⟨i, hi, rfl⟩ | ho
  · refine OKi.rd (if ¬ plc (schF (σ 8 58)) i 0 = -1 ∧ rO (σ 8 58) i 2 - σ 8 58 6 < fnd (schF (σ 8 58)) i + wk (σ 8 58) i then 1 else 0) h ?_ (fun τ hτ e => ?_)
    · show AtP mX6_isAtRisk 0 [some X, some (.inl (nI i)), none, none] [] σ _
      refine AtP.Cr rfl (c_order h hi) (show 24 * 0 + i < 96 by omega) ?_
      have hO := h.2.2.1.2.2.2 i hi
      refine AtP.CiP rfl (c_sst h.2.2.1 h.1 (by omega) (i := i) (by omega)) (fun v9 σ9 h9 => ?_)
      obtain ⟨rfl, a, b, n, rfl⟩ := h9
      have hC := (h.2.2.1.C (a := a) (b := b) (n := n) (by omega) h.1.pm.2)
      have hO := hC.2.2.2 i hi
      rcases where_is h.1 hi with ⟨w1, w2, w3, w4, k, st, w5, w6, w7, w8, w9⟩ | ⟨w1, w2, w3, w4⟩
      · refine AtP.Bf rfl (by rw [w8, fa_eq]; show ¬ st.toInt = -1000000; omega) ?_
        refine AtP.B rfl (fun hc => ?_) (fun hc => ?_)
        · rw [hO.2.2.2.1, hO.2.2.1, hC.1.2.2.2.2.2.1] at hc
          rw [if_neg (fun z => le_nlt hc z.2)]
          exact AtP.Z rfl (Or.inl rfl) (⟨_, rfl, scr.C⟩)
        · rw [hO.2.2.2.1, hO.2.2.1, hC.1.2.2.2.2.2.1] at hc
          rw [if_pos ⟨w3, fa_of_nle hc⟩]
          refine AtP.J rfl ?_
          exact AtP.Z rfl (Or.inr rfl) (⟨_, rfl, scr.C⟩)
      · rw [if_neg (fun z => z.1 w2)]
        refine AtP.Bt rfl (w3) ?_
        exact AtP.Z rfl (Or.inl rfl) (⟨_, rfl, scr.C⟩)
    · show AtP mX7_isAtRisk 0 [some M, some (.inl (nI i)), none] [] τ _
      refine AtP.Ci rfl (e_ord1 e h.1 hi) ?_
      refine AtP.Ci rfl (e_thr1 _ _) ?_
      refine AtP.Bt rfl (rfl) ?_
      have hl := schF_len24 h.1
      refine AtP.CiP rfl (e_plc (by rw [U7_r, e]; exact h.1) (i := i) (by omega)) (fun v9 σ9 h9 => ?_)
      obtain ⟨rfl, a, b, c, hF, hE, rfl⟩ := h9
      rw [U7_r, e] at hF hE ⊢
      refine AtP.B rfl (fun hp => ?_) (fun hp => ?_)
      · rw [if_neg (fun z => z.1 hp)]
        exact AtP.Z rfl (Or.inl rfl) (⟨_, rfl, mS_5, scr.T.trans scr.S⟩)
      · rcases plc_cases i (schF (σ 8 58)) 0 with q | ⟨k, st, g1, g2, g3⟩
        · exact absurd q.1 hp
        · have hk : k < (schF (σ 8 58)).length := (List.getElem?_eq_some_iff.mp g1).1
          rw [g2, Nat.zero_add] at hp ⊢
          have hg := eF_get _ c _ 0 k i st hE g1
          rw [Nat.zero_add] at hg
          rw [g3]
          refine AtP.N rfl (v65 k (by omega)) ?_
          rw [nI_clamp (by omega)]
          refine AtP.Ci rfl (e_order i 2 (by omega) (by omega) _) ?_
          refine AtP.N rfl (v58 6 (by omega)) ?_
          rw [t6, mS_58, U7_r, e]
          refine AtP.B rfl (fun hc => ?_) (fun hc => ?_)
          · rw [mS_c, hg] at hc
            rw [if_neg (fun z => le_nlt hc z.2)]
            exact AtP.Z rfl (Or.inl rfl) (⟨_, rfl, mS_5, scr.T.trans scr.S⟩)
          · rw [mS_c, hg] at hc
            rw [if_pos ⟨hp, fa_of_nle hc⟩]
            refine AtP.J rfl ?_
            exact AtP.Z rfl (Or.inr rfl) (⟨_, rfl, mS_5, scr.T.trans scr.S⟩)
  · refine OKi.t0 h (v := 0) ?_ ?_
    · show At mX6_isAtRisk 0 [some X, some (.inl o), none, none] [] σ _
      exact At.X rfl (c_order_no h ho)
    · show At mX7_isAtRisk 0 [some M, some (.inl o), none] [] σ _
      refine At.Ci rfl (e_ord0 rfl h.1 ho) ?_
      refine At.Ci rfl (e_thr0 _ _) ?_
      refine At.Bf rfl (by decide) ?_
      exact At.Z rfl (Or.inl rfl)
theorem p_releaseTime (h : INV σ) (o : Int32) : OKi mX6_releaseTime mX7_releaseTime [.inl o] 0 σ := by
  have hom := h.1.om
  rcases ix_cases (OM (σ 8 58)) hom.2 o with ⟨i, hi, rfl⟩ | ho
  · refine OKi.rd (if rO (σ 8 58) i 3 = 0 then stO (σ 8 58) i - σ 8 58 5 else if rO (σ 8 58) i 3 = 3 then -1000000 else rO (σ 8 58) i 9) h ?_ (fun τ hτ e => ?_)
    · show AtP mX6_releaseTime 0 [some X, some (.inl (nI i)), none, none] [] σ _
      refine AtP.Cr rfl (c_order h hi) (show 24 * 0 + i < 96 by omega) ?_
      have hO := h.2.2.1.2.2.2 i hi
      rcases (h.1.ord hi).2.2.2.2.2.2.2.2 with q | q | q | q
      · rw [if_pos q.1]
        refine AtP.Bt rfl (by rw [hO.2.2.2.2.2.2.2.2.2.1]; exact q.2.2.2.2.1) ?_
        refine AtP.CiP rfl (c_sst h.2.2.1 h.1 (by omega) (i := i) (by omega)) (fun v9 σ9 h9 => ?_)
        obtain ⟨rfl, a, b, n, rfl⟩ := h9
        have hC := (h.2.2.1.C (a := a) (b := b) (n := n) (by omega) h.1.pm.2)
        rcases where_is h.1 hi with ⟨w1, w2, w3, w4, k, st, w5, w6, w7, w8, w9⟩ | ⟨w1, w2, w3, w4⟩
        · refine AtP.Bf rfl (by rw [w8, fa_eq]; show ¬ st.toInt = -1000000; omega) ?_
          exact AtP.R rfl (⟨_, by unfold stO; rw [if_neg w2, if_neg w3, hC.1.2.2.2.2.1], scr.C⟩)
        · exfalso
          rcases w4 with ⟨x, y⟩ | ⟨x, z, y⟩
          · rw [q.1] at x; exact absurd x (by decide)
          · rw [q.1] at z; exact absurd z (by decide)
      · have x0 : ¬ rO (σ 8 58) i 3 = 0 := by rw [q.1]; decide
        rw [if_neg x0, if_pos q.1]
        refine AtP.Bt rfl (by rw [hO.2.2.2.2.2.2.2.2.2.1]; exact q.2.2.2.2.1) ?_
        refine AtP.CiP rfl (c_sst h.2.2.1 h.1 (by omega) (i := i) (by omega)) (fun v9 σ9 h9 => ?_)
        obtain ⟨rfl, a, b, n, rfl⟩ := h9
        rcases where_is h.1 hi with ⟨w1, w2, w3, w4, k, st, w5, w6, w7, w8, w9⟩ | ⟨w1, w2, w3, w4⟩
        · exact absurd q.1 w2
        · refine AtP.Bt rfl (w3) ?_
          refine AtP.J rfl ?_
          exact AtP.R rfl (⟨_, rfl, scr.C⟩)
      · have x0 : ¬ rO (σ 8 58) i 3 = 0 := by rw [q.1]; decide
        have x3 : ¬ rO (σ 8 58) i 3 = 3 := by rw [q.1]; decide
        rw [if_neg x0, if_neg x3]
        refine AtP.Bf rfl (by rw [hO.2.2.2.2.2.2.2.2.2.1]; exact m1_ne q.2.2.2.1) ?_
        exact AtP.R rfl (⟨_, by rw [hO.2.2.2.2.2.2.2.2.2.2.1 (Or.inl q.1)], scr.rfl⟩)
      · have x0 : ¬ rO (σ 8 58) i 3 = 0 := by rw [q.1]; decide
        have x3 : ¬ rO (σ 8 58) i 3 = 3 := by rw [q.1]; decide
        rw [if_neg x0, if_neg x3]
        refine AtP.Bf rfl (by rw [hO.2.2.2.2.2.2.2.2.2.1]; exact m1_ne q.2.2.2.2.1) ?_
        exact AtP.R rfl (⟨_, by rw [hO.2.2.2.2.2.2.2.2.2.2.1 (Or.inr q.1)], scr.rfl⟩)
    · show AtP mX7_releaseTime 0 [some M, some (.inl (nI i))] [] τ _
      refine AtP.Ci rfl (e_ord1 e h.1 hi) ?_
      refine AtP.Ci rfl (e_thr1 _ _) ?_
      refine AtP.Bt rfl (rfl) ?_
      refine AtP.Ci rfl (e_order i 3 (by omega) (by omega) _) ?_
      refine AtP.Sw rfl ?_
      rw [U7_r, e]
      by_cases x0 : rO (σ 8 58) i 3 = 0
      · rw [if_pos x0, x0]
        show AtP mX7_releaseTime 48 _ _ _ _
        refine AtP.CiP rfl (e_startOf (by rw [U7_r, e]; exact h.1) (i := i) (by omega)) (fun v9 σ9 h9 => ?_)
        obtain ⟨rfl, a, b, c, n, rfl⟩ := h9
        refine AtP.N rfl (v58 5 (by omega)) ?_
        rw [t5, mS_58, U7_r, e]
        exact AtP.R rfl (⟨_, rfl, mS_5, scr.T.trans scr.S⟩)
      · rw [if_neg x0]
        by_cases x3 : rO (σ 8 58) i 3 = 3
        · rw [if_pos x3, x3]
          show AtP mX7_releaseTime 61 _ _ _ _
          exact AtP.R rfl (⟨_, rfl, iU_same, scr.T⟩)
        · rw [if_neg x3]
          simp only [swT, if_neg x0, if_neg x3]
          refine AtP.Ci rfl (e_order i 9 (by omega) (by omega) _) ?_
          rw [U7_r, e]
          exact AtP.R rfl (⟨_, rfl, iU_same, scr.T⟩)
  · refine OKi.t0 h (v := 0) ?_ ?_
    · show At mX6_releaseTime 0 [some X, some (.inl o), none, none] [] σ _
      exact At.X rfl (c_order_no h ho)
    · show At mX7_releaseTime 0 [some M, some (.inl o)] [] σ _
      refine At.Ci rfl (e_ord0 rfl h.1 ho) ?_
      refine At.Ci rfl (e_thr0 _ _) ?_
      refine At.Bf rfl (by decide) ?_
      exact At.R rfl
theorem p_scheduleAt (h : INV σ) (o : Int32) : OKi mX6_scheduleAt mX7_scheduleAt [.inl o] 3 σ := by
  have hl := schF_len24 h.1
  have hom := h.1.om
  rcases ix_cases (schF (σ 8 58)).length hl o with ⟨k, hk, rfl⟩ | ho
  · obtain ⟨x, st, g1, g2⟩ := drop_at hk
    refine OKi.rd (nI x) h ?_ (fun τ hτ e => ?_)
    · show AtP mX6_scheduleAt 0 [some X, some (.inl (nI k))] [] σ _
      refine AtP.CvP rfl (c_make h.2.2.1 h.1 (by omega)) (fun σ9 h9 => ?_)
      obtain ⟨a, b, hF, rfl⟩ := h9
      have hg := rF_get a b _ 0 k x st hF g1
      rw [Nat.zero_add] at hg
      refine AtP.Bf rfl (by rw [fa_lt, nI_toInt (by omega)]; show ¬ (k : Int) < 0; omega) ?_
      refine AtP.Bt rfl (by rw [mC_n]; exact (nI_lt_iff (by omega) (by omega)).mpr hk) ?_
      refine AtP.N rfl (vA (by omega) k (by omega)) ?_
      rw [nI_clamp (by omega)]
      exact AtP.R rfl (⟨_, by rw [mC_a, hg.1], scr.C⟩)
    · show AtP mX7_scheduleAt 0 [some M, some (.inl (nI k))] [] τ _
      refine AtP.CvP rfl (e_lays (by rw [U7_r, e]; exact h.1)) (fun σ9 h9 => ?_)
      obtain ⟨a, b, c, hF, hE, rfl⟩ := h9
      rw [U7_r, e] at hF hE ⊢
      have hg := rF_get a b _ 0 k x st hF g1
      rw [Nat.zero_add] at hg
      have hin := e_in1 (σ := mS (iU τ 7 0 5 0) a b c (nI (schF (σ 8 58)).length)) ((m1_in hl (nI k)).mpr (no_ix hl hk))
      rw [← mS_n (σ := iU τ 7 0 5 0) (a := a) (b := b) (c := c) (n := nI (schF (σ 8 58)).length)] at hin
      refine AtP.Ci rfl (hin) ?_
      refine AtP.Bf rfl (by decide) ?_
      refine AtP.N rfl (v63 k (by omega)) ?_
      rw [nI_clamp (by omega)]
      refine AtP.J rfl ?_
      exact AtP.R rfl (⟨_, by rw [mS_a, hg.1], mS_5, scr.T.trans scr.S⟩)
  · refine OKi.rd (-1) h ?_ (fun τ hτ e => ?_)
    · show AtP mX6_scheduleAt 0 [some X, some (.inl o)] [] σ _
      refine AtP.CvP rfl (c_make h.2.2.1 h.1 (by omega)) (fun σ9 h9 => ?_)
      obtain ⟨a, b, hF, rfl⟩ := h9
      refine AtP.B rfl (fun hc => ?_) (fun hc => ?_)
      · exact AtP.R rfl (⟨_, rfl, scr.C⟩)
      · refine AtP.Bf rfl (by rw [mC_n]; exact le_nlt (ho.resolve_left hc)) ?_
        exact AtP.R rfl (⟨_, rfl, scr.C⟩)
    · show AtP mX7_scheduleAt 0 [some M, some (.inl o)] [] τ _
      refine AtP.CvP rfl (e_lays (by rw [U7_r, e]; exact h.1)) (fun σ9 h9 => ?_)
      obtain ⟨a, b, c, hF, hE, rfl⟩ := h9
      rw [U7_r, e] at hF hE ⊢
      have hin := e_in0 (σ := mS (iU τ 7 0 5 0) a b c (nI (schF (σ 8 58)).length)) (fun q => (m1_in hl o).mp q ho)
      rw [← mS_n (σ := iU τ 7 0 5 0) (a := a) (b := b) (c := c) (n := nI (schF (σ 8 58)).length)] at hin
      refine AtP.Ci rfl (hin) ?_
      refine AtP.Bt rfl (rfl) ?_
      exact AtP.R rfl (⟨_, rfl, mS_5, scr.T.trans scr.S⟩)
end PSS
