/-! ===== quote ===== -/
def ffit (r : Row) (w : Int32) : Int32 → List (Nat × Int32) → Int32
  | t, [] => t
  | t, (x, s) :: l => if t + w ≤ s then t else ffit r w (iMax t (s + wk r x)) l
abbrev ovl (r : Row) (w t : Int32) (q : Nat × Int32) : Prop := t < q.2 + wk r q.1 ∧ q.2 < t + w
def isFb (r : Row) (w t : Int32) : List (Nat × Int32) → Bool
  | [] => true
  | q :: l => if ovl r w t q then false else isFb r w t l
def bstL (r : Row) (w t0 : Int32) (F : List (Nat × Int32)) : Int32 → List (Nat × Int32) → Int32
  | acc, [] => acc
  | acc, q :: l => bstL r w t0 F (if t0 ≤ q.2 + wk r q.1 ∧ q.2 + wk r q.1 < acc ∧ isFb r w (q.2 + wk r q.1) F = true then q.2 + wk r q.1 else acc) l
def gdF (r : Row) (F : List (Nat × Int32)) : Prop := (∀ q ∈ F, 0 ≤ q.2.toInt ∧ q.2.toInt ≤ 70000 ∧ 1 ≤ (wk r q.1).toInt ∧ (wk r q.1).toInt ≤ 1000) ∧ F.Pairwise (fun p q => p.2.toInt + (wk r p.1).toInt ≤ q.2.toInt)
theorem isFb_iff {r : Row} {w t : Int32} : ∀ F, isFb r w t F = true ↔ ∀ q ∈ F, ¬ ovl r w t q := by
  intro F
  induction F with
  | nil => exact ⟨fun _ q h => (nomatch h), fun _ => rfl⟩
  | cons q l ih =>
    rw [isFb]
    by_cases c : ovl r w t q
    · rw [if_pos c]
      exact ⟨fun h => (nomatch h), fun h => absurd c (h q List.mem_cons_self)⟩
    · rw [if_neg c, ih]
      refine ⟨fun h z hz => ?_, fun h z hz => h z (List.mem_cons_of_mem _ hz)⟩
      rcases List.mem_cons.mp hz with rfl | hz
      · exact c
      · exact h z hz
theorem fw_pw {m : Nat → Prop} {r : Row} (hr : RIg m r) : ∀ (l : List (Nat × Int32)) (e : Int32) (E : Int), (∀ q ∈ l, q.1 < OM r ∧ q.2.toInt ≤ 30000) → e.toInt ≤ E → 30000 ≤ E → E + 1000 * l.length ≤ 100000 → 0 ≤ e.toInt → (fwF r e l).Pairwise (fun p q => p.2.toInt + (wk r p.1).toInt ≤ q.2.toInt) := by
  intro l
  induction l with
  | nil => intro e E _ _ _ _ _; exact List.Pairwise.nil
  | cons q t ih =>
    intro e E h1 h2 h3 h4 h5
    obtain ⟨x, s⟩ := q
    have hx : x < OM r ∧ s.toInt ≤ 30000 := h1 (x, s) List.mem_cons_self
    have hw := hr.wkB hx.1
    rw [List.length_cons] at h4
    rw [fwF]
    have hs : e.toInt ≤ (if s < e then e else s).toInt ∧ (if s < e then e else s).toInt ≤ E := by
      by_cases c : s < e
      · rw [if_pos c]; omega
      · rw [if_neg c]; rw [fa_lt] at c; omega
    generalize (if s < e then e else s) = s' at hs
    have es : (s' + wk r x).toInt = s'.toInt + (wk r x).toInt := fb_addI (by omega) (by omega)
    have ht : ∀ q ∈ t, q.1 < OM r ∧ q.2.toInt ≤ 30000 := fun q hq => h1 q (List.mem_cons_of_mem _ hq)
    refine List.Pairwise.cons (fun q hq => ?_) (ih (s' + wk r x) (E + 1000) ht (by omega) (by omega) (by omega) (by omega))
    have := (fw_b hr t (s' + wk r x) (E + 1000) ht (by omega) (by omega) (by omega) (by omega) q hq).1
    dsimp only
    omega
theorem schF_gd {r : Row} (hr : RI r) : gdF r (schF r) := by
  refine ⟨fun q hq => ?_, ?_⟩
  · have h1 := schF_b hr (x := q.1) (s := q.2) hq
    have h2 := hr.wkB (schF_mem (x := q.1) (s := q.2) hq).1
    have h3 := hr.1
    omega
  · have he := hr.earlB
    have h0 := hr.1
    have hlen := schL_len r (OM r)
    have hom := hr.om
    refine fw_pw hr (bk r none (schL r (OM r))).reverse (earl r) 41050 (fun q hq => ?_) (by omega) (by omega) (by rw [List.length_reverse, bk_len]; omega) (by omega)
    rw [List.mem_reverse] at hq
    refine ⟨?_, (bk_b hr (schL r (OM r)) none 0 (fun x hx => ((schL_mem r _ x).mp hx).1) (by omega) (fun s hs => nomatch hs) q hq).2⟩
    have h1 : q.1 ∈ (bk r none (schL r (OM r))).map Prod.fst := List.mem_map.mpr ⟨_, hq, rfl⟩
    rw [bk_fst] at h1
    exact ((schL_mem r _ _).mp h1).1
theorem ffit_spec {r : Row} {w : Int32} (hw : 0 ≤ w.toInt ∧ w.toInt ≤ 100000) : ∀ (l : List (Nat × Int32)) (t : Int32), gdF r l → 0 ≤ t.toInt → t.toInt ≤ 75000 →
    t.toInt ≤ (ffit r w t l).toInt ∧ (ffit r w t l).toInt ≤ 75000 ∧ (ffit r w t l = t ∨ ∃ q ∈ l, ffit r w t l = q.2 + wk r q.1) ∧ (∀ q ∈ l, ¬ ovl r w (ffit r w t l) q) ∧ (∀ u : Int32, t ≤ u → u < ffit r w t l → ∃ q ∈ l, ovl r w u q) := by
  intro l
  induction l with
  | nil =>
    intro t _ h0 h1
    exact ⟨Int.le_refl _, h1, Or.inl rfl, fun q h => (nomatch h), fun u h2 h3 => absurd h2 (lt_nle h3)⟩
  | cons q l ih =>
    intro t hg h0 h1
    obtain ⟨x, s⟩ := q
    obtain ⟨g1, g2⟩ := hg
    have hq := g1 _ List.mem_cons_self
    dsimp only at hq
    obtain ⟨p1, p2⟩ := List.pairwise_cons.mp g2
    have e1 : (s + wk r x).toInt = s.toInt + (wk r x).toInt := fb_addI (by omega) (by omega)
    have e2 : (t + w).toInt = t.toInt + w.toInt := fb_addI (by omega) (by omega)
    rw [ffit]
    by_cases c : t + w ≤ s
    · rw [if_pos c]
      rw [fa_le, e2] at c
      refine ⟨Int.le_refl _, h1, Or.inl rfl, fun q hq2 => ?_, fun u h2 h3 => absurd h2 (lt_nle h3)⟩
      rintro ⟨o1, o2⟩
      rw [fa_lt, e2] at o2
      rcases List.mem_cons.mp hq2 with rfl | hq2
      · dsimp only at o2; omega
      · have := p1 q hq2
        dsimp only at this
        omega
    · rw [if_neg c]
      rw [fa_le, e2] at c
      have hm : (iMax t (s + wk r x)).toInt = if t.toInt < s.toInt + (wk r x).toInt then s.toInt + (wk r x).toInt else t.toInt := by
        unfold iMax
        by_cases d : t < s + wk r x
        · rw [if_pos d, e1]; rw [fa_lt, e1] at d; rw [if_pos d]
        · rw [if_neg d]; rw [fa_lt, e1] at d; rw [if_neg d]
      have hm2 : t < s + wk r x → iMax t (s + wk r x) = s + wk r x := fun d => if_pos d
      have hm3 : ¬ t < s + wk r x → iMax t (s + wk r x) = t := fun d => if_neg d
      have hb : t.toInt ≤ (iMax t (s + wk r x)).toInt ∧ s.toInt + (wk r x).toInt ≤ (iMax t (s + wk r x)).toInt ∧ (iMax t (s + wk r x)).toInt ≤ 75000 := by
        rw [hm]; split <;> omega
      obtain ⟨i1, i2, i3, i4, i5⟩ := ih (iMax t (s + wk r x)) ⟨fun q hq => g1 q (List.mem_cons_of_mem _ hq), p2⟩ (by omega) (by omega)
      refine ⟨by omega, i2, ?_, fun q hq2 => ?_, fun u h2 h3 => ?_⟩
      · rcases i3 with z | ⟨q, z1, z2⟩
        · by_cases d : t < s + wk r x
          · right; exact ⟨(x, s), List.mem_cons_self, by rw [z, hm2 d]⟩
          · left; rw [z, hm3 d]
        · right; exact ⟨q, List.mem_cons_of_mem _ z1, z2⟩
      · rcases List.mem_cons.mp hq2 with rfl | hq2
        · rintro ⟨o1, o2⟩
          rw [fa_lt] at o1
          dsimp only at o1
          rw [e1] at o1
          omega
        · exact i4 q hq2
      · by_cases d : iMax t (s + wk r x) ≤ u
        · obtain ⟨q, z1, z2⟩ := i5 u d h3
          exact ⟨q, List.mem_cons_of_mem _ z1, z2⟩
        · refine ⟨(x, s), List.mem_cons_self, ?_, ?_⟩
          · by_cases d2 : t < s + wk r x
            · rw [hm2 d2] at d; exact fa_of_nle d
            · rw [hm3 d2] at d; exact absurd h2 d
          · rw [fa_le] at h2
            rw [fa_lt] at h3
            rw [fa_lt, fb_addI (by omega) (by omega)]
            dsimp only
            omega
theorem bst_spec {r : Row} {w t0 R : Int32} {F : List (Nat × Int32)} (hR : R.toInt ≤ 75000) (h0 : t0 ≤ R) (hfree : ∀ q ∈ F, ¬ ovl r w R q) (hmin : ∀ u : Int32, t0 ≤ u → u < R → ∃ q ∈ F, ovl r w u q) : ∀ (l : List (Nat × Int32)) (acc : Int32), (acc = 2147483647 ∨ (t0 ≤ acc ∧ ∀ q ∈ F, ¬ ovl r w acc q)) → (acc = R ∨ ∃ q ∈ l, q.2 + wk r q.1 = R) → bstL r w t0 F acc l = R := by
  intro l
  have hM : (2147483647 : Int32).toInt = 2147483647 := rfl
  have no : ∀ u : Int32, t0 ≤ u → (∀ q ∈ F, ¬ ovl r w u q) → ¬ u < R := fun u a b c => by
    obtain ⟨q, z1, z2⟩ := hmin u a c
    exact b q z1 z2
  induction l with
  | nil =>
    intro acc _ h2
    rcases h2 with h2 | ⟨q, hq, -⟩
    · exact h2
    · exact nomatch hq
  | cons q l ih =>
    intro acc h1 h2
    rw [bstL]
    by_cases c : t0 ≤ q.2 + wk r q.1 ∧ q.2 + wk r q.1 < acc ∧ isFb r w (q.2 + wk r q.1) F = true
    · rw [if_pos c]
      have hf := (isFb_iff F).mp c.2.2
      refine ih _ (Or.inr ⟨c.1, hf⟩) ?_
      rcases h2 with h2 | ⟨z, hz, ez⟩
      · exact absurd (h2 ▸ c.2.1) (no _ c.1 hf)
      · rcases List.mem_cons.mp hz with rfl | hz
        · exact Or.inl ez
        · exact Or.inr ⟨z, hz, ez⟩
    · rw [if_neg c]
      refine ih _ h1 ?_
      rcases h2 with h2 | ⟨z, hz, ez⟩
      · exact Or.inl h2
      · rcases List.mem_cons.mp hz with rfl | hz
        · left
          have c2 : ¬ R < acc := fun d => c ⟨by rw [ez]; exact h0, by rw [ez]; exact d, by rw [ez]; exact (isFb_iff F).mpr hfree⟩
          rcases h1 with h1 | ⟨a1, a2⟩
          · rw [h1, fa_lt, hM] at c2; omega
          · have c3 := no acc a1 a2
            rw [fa_lt] at c2 c3
            rw [fa_eq]; omega
        · exact Or.inr ⟨z, hz, ez⟩
theorem quote_eq {r : Row} (hr : RI r) {w t0 : Int32} (hw : 0 ≤ w.toInt ∧ w.toInt ≤ 100000) (h0 : 0 ≤ t0.toInt) (h1 : t0.toInt ≤ 75000) : bstL r w t0 (schF r) (if isFb r w t0 (schF r) = true then t0 else 2147483647) (schF r) = ffit r w t0 (schF r) := by
  obtain ⟨i1, i2, i3, i4, i5⟩ := ffit_spec hw (schF r) t0 (schF_gd hr) h0 h1
  refine bst_spec i2 (by rw [fa_le]; exact i1) i4 i5 (schF r) _ ?_ ?_
  · by_cases c : isFb r w t0 (schF r) = true
    · rw [if_pos c]; exact Or.inr ⟨by rw [fa_le]; exact Int.le_refl _, (isFb_iff _).mp c⟩
    · rw [if_neg c]; exact Or.inl rfl
  · rcases i3 with z | ⟨q, z1, z2⟩
    · left
      rw [if_pos]
      · exact z.symm
      · rw [isFb_iff, ← z]; rw [z]; rw [z] at i4; exact i4
    · exact Or.inr ⟨q, z1, z2.symm⟩
theorem iMax_comm (x y : Int32) : iMax x y = iMax y x := by
  unfold iMax
  by_cases c : x < y
  · rw [if_pos c, if_neg (le_nlt (fa_of_lt c).1)]
  · rw [if_neg c]
    by_cases d : y < x
    · rw [if_pos d]
    · rw [if_neg d]; rw [fa_lt] at c d; rw [fa_eq]; omega
section QT
variable {σ : iM} {s : Nat} {r : Row}
theorem c_firstFit {a b : Row} (h : Sh σ s r) (hr : RI r) (hs4 : s < 4) (hF : rF a b (schF r) 0) (w t : Int32) : Ev mX3_firstFit [.inr (3, s), .inr (4, s), .inl w, .inl t] (mC σ s a b (nI (schF r).length)) (evi (ffit r w t (schF r)) (mC σ s a b (nI (schF r).length))) := by
  have hl := schF_len24 hr
  have hom := hr.om
  have hC := h.C (a := a) (b := b) (n := nI (schF r).length) hs4 hr.pm.2
  show At mX3_firstFit 0 [some (.inr (3, s)), some (.inr (4, s)), some (.inl w), some (.inl t), none, none] [] _ _
  refine At.F 6 [some (.inr (3, s)), some (.inr (4, s)), some (.inl w), some (.inl t), some (.inl t), some (.inl (nI 0))] [] (mC σ s a b (nI (schF r).length)) rfl ?_
  have key : ∀ n, n ≤ (schF r).length → ∀ u, At mX3_firstFit 6 [some (.inr (3, s)), some (.inr (4, s)), some (.inl w), some (.inl t), some (.inl u), some (.inl (nI n))] [] (mC σ s a b (nI (schF r).length)) (evi (ffit r w u ((schF r).drop n)) (mC σ s a b (nI (schF r).length))) := by
    refine down_ind (N := (schF r).length) ?_ ?_
    · intro u
      refine At.Bt rfl (by rw [mC_n]; exact ge_s) ?_
      rw [List.drop_length]
      exact At.R rfl
    · intro n hn ih u
      obtain ⟨x, st, g1, g2⟩ := drop_at hn
      have hg := rF_get a b _ 0 n x st hF g1
      rw [Nat.zero_add] at hg
      have hx := (schF_mem (List.mem_of_getElem? g1)).1
      have hO := hC.2.2.2 x hx
      refine At.Bf rfl (by rw [mC_n]; exact ge_n hl hn) ?_
      refine At.N rfl (vB hs4 n (by omega)) ?_
      rw [nI_clamp (by omega), g2, ffit, mC_b, hg.2]
      refine At.B rfl (fun hc => ?_) (fun hc => ?_)
      · rw [if_neg (lt_nle hc)]
        refine At.N rfl (vB hs4 n (by omega)) ?_
        refine At.N rfl (vA hs4 n (by omega)) ?_
        rw [nI_clamp (by omega), mC_a, mC_b, hg.1, hg.2]
        refine At.N rfl (v12 s x (by omega)) ?_
        rw [nI_clamp (by omega)]
        refine At.J rfl ?_
        rw [nI_1, hO.2.2.2.1]
        exact ih _
      · rw [if_pos (fa_of_nlt hc)]
        exact At.R rfl
  exact key 0 (Nat.zero_le _) t
theorem e_isFree {a b c : Row} (hr : RI r) (hF : rF a b (schF r) 0) (hE : eF r c (schF r) 0) (t w : Int32) : Ev mX7_isFree [M, .inl t, .inl w] (mS σ a b c (nI (schF r).length)) (evi (if isFb r w t (schF r) = true then 1 else 0) (mS σ a b c (nI (schF r).length))) := by
  have hl := schF_len24 hr
  show At mX7_isFree 0 [some M, some (.inl t), some (.inl w), none] [] _ _
  refine At.F 2 [some M, some (.inl t), some (.inl w), some (.inl (nI 0))] [] (mS σ a b c (nI (schF r).length)) rfl ?_
  have key : ∀ n, n ≤ (schF r).length → At mX7_isFree 2 [some M, some (.inl t), some (.inl w), some (.inl (nI n))] [] (mS σ a b c (nI (schF r).length)) (evi (if isFb r w t ((schF r).drop n) = true then 1 else 0) (mS σ a b c (nI (schF r).length))) := by
    refine down_ind (N := (schF r).length) ?_ ?_
    · refine At.Bt rfl (by rw [mS_n]; exact ge_s) ?_
      rw [List.drop_length, isFb, if_pos rfl]
      exact At.Z rfl (Or.inr rfl)
    · intro n hn ih
      obtain ⟨x, st, g1, g2⟩ := drop_at hn
      have hg := rF_get a b _ 0 n x st hF g1
      have hg2 := eF_get r c _ 0 n x st hE g1
      rw [Nat.zero_add] at hg hg2
      refine At.Bf rfl (by rw [mS_n]; exact ge_n hl hn) ?_
      refine At.N rfl (v65 n (by omega)) ?_
      rw [nI_clamp (by omega), g2, isFb, mS_c, hg2]
      refine At.B rfl (fun hc => ?_) (fun hc => ?_)
      · rw [if_neg (c := ovl r w t (x, st)) (fun z => le_nlt hc z.1)]
        refine At.J rfl ?_
        rw [nI_1]
        exact ih
      · refine At.N rfl (v64 n (by omega)) ?_
        rw [nI_clamp (by omega), mS_b, hg.2]
        refine At.B rfl (fun hd => ?_) (fun hd => ?_)
        · rw [if_neg (c := ovl r w t (x, st)) (fun z => le_nlt hd z.2)]
          refine At.J rfl ?_
          rw [nI_1]
          exact ih
        · rw [if_pos (c := ovl r w t (x, st)) ⟨fa_of_nle hc, fa_of_nle hd⟩, if_neg (by decide)]
          exact At.Z rfl (Or.inl rfl)
  exact key 0 (Nat.zero_le _)
end QT
theorem AtP.G {j pc t : Nat} {L L' : iL} {S S' : iS} {σ σ' : iM} {Q : iRes → Prop} (k : AtP j t L' S' σ' Q) (h : blk (sfx (iTb j) pc) L S σ = blk (sfx (iTb j) t) L' S' σ') : AtP j pc L S σ Q := AtP.F t L' S' σ' h k
section PQT
variable {σ : iM}
theorem p_quote (h : INV σ) (o q : Int32) : OKi mX6_quote mX7_quote [.inl o, .inl q] 2 σ := by
  have hom := h.1.pm
  have hl := schF_len24 h.1
  rcases ix_cases (PM (σ 8 58)) (by omega) o with ⟨i, hi, rfl⟩ | ho
  · have hP := h.2.2.1.2.2.1 i hi
    have hI := h.1.prd hi
    by_cases hw : 1 ≤ q ∧ q ≤ 50
    · by_cases hrp : rPt (σ 8 58) i (dS (σ 8 58) i) * q ≤ σ 8 58 7
      · have hb1 := (hI.2.1 _ hI.d.1).2.2
        have hb2 := hw
        rw [fa_le, fa_le] at hb2
        have hb3 := mul_b hb1.1 hb1.2 hb2.1 hb2.2 (by decide) (by decide)
        have e50 : (50 : Int32).toInt = 50 := rfl
        rw [e50] at hb3
        have hwb : 0 ≤ (rPt (σ 8 58) i (dS (σ 8 58) i) * q).toInt ∧ (rPt (σ 8 58) i (dS (σ 8 58) i) * q).toInt ≤ 100000 := by rw [hb3.1]; omega
        generalize hwk : rPt (σ 8 58) i (dS (σ 8 58) i) * q = w at hrp hwb
        have he := h.1.earlB
        have hn := h.1.1
        have h5 := h.1.2.2.2.2.2.1
        have e1 : (σ 8 58 0 + σ 8 58 5).toInt = (σ 8 58 0).toInt + (σ 8 58 5).toInt := fb_addI (by omega) (by omega)
        have ht : 0 ≤ (iMax (earl (σ 8 58)) (σ 8 58 0 + σ 8 58 5)).toInt ∧ (iMax (earl (σ 8 58)) (σ 8 58 0 + σ 8 58 5)).toInt ≤ 75000 := by
          unfold iMax; split <;> omega
        refine OKi.rd (ffit (σ 8 58) w (iMax (earl (σ 8 58)) (σ 8 58 0 + σ 8 58 5)) (schF (σ 8 58)) + w + σ 8 58 6) h ?_ (fun τ hτ e => ?_)
        · show AtP mX6_quote 0 [some X, some (.inl (nI i)), some (.inl q), none, none, none] [] σ _
          refine AtP.Cr rfl (c_product h hi) (show 6 * 0 + i < 24 by omega) ?_
          refine AtP.Cv rfl (c_range hw) ?_
          refine AtP.Ci rfl (c_drumTime hP hI (by omega) (by omega)) ?_
          refine AtP.Bt rfl (by rw [hwk, h.2.2.1.1.2.2.2.2.2.2.1]; exact hrp) ?_
          rw [hwk]
          refine AtP.CvP rfl (c_make h.2.2.1 h.1 (by omega)) (fun σ9 h9 => ?_)
          obtain ⟨a, b, hF, rfl⟩ := h9
          have hC := h.2.2.1.C (a := a) (b := b) (n := nI (schF (σ 8 58)).length) (by omega) h.1.pm.2
          refine AtP.Ci rfl (c_drumFreeAt hC h.1) ?_
          rw [hC.1.2.2.2.2.2.2.2.2.2.1, hC.1.2.2.2.2.1]
          refine AtP.Ci rfl (c_firstFit h.2.2.1 h.1 (by omega) hF w _) ?_
          exact AtP.R rfl (⟨_, by rw [hC.1.2.2.2.2.2.1, iMax_comm], scr.C⟩)
        · show AtP mX7_quote 0 [some M, some (.inl (nI i)), some (.inl q), none, none, none, none] [] τ _
          refine AtP.Ci rfl (e_isWork1 e h.1 hi hw) ?_
          refine AtP.Bf rfl (by decide) ?_
          have eU : iU τ 7 0 5 0 8 58 = σ 8 58 := by rw [U7_r, e]
          have hIU : PI (iU τ 7 0 5 0 8 58) i := by rw [eU]; exact hI
          refine AtP.Ci rfl (e_drumTicks 58 i q rfl (by omega) _ hIU.d.2.1 hIU.d.2.2) ?_
          rw [eU, hwk]
          refine AtP.N rfl (v58 7 (by omega)) ?_
          rw [t7, eU]
          refine AtP.Bt rfl (hrp) ?_
          refine AtP.CvP rfl (e_lays (by rw [eU]; exact h.1)) (fun σ9 h9 => ?_)
          obtain ⟨a, b, c, hF, hE, rfl⟩ := h9
          rw [eU] at hF hE ⊢
          have e58 : mS (iU τ 7 0 5 0) a b c (nI (schF (σ 8 58)).length) 8 58 = σ 8 58 := by rw [mS_58, eU]
          have her := e_earliest (σ := mS (iU τ 7 0 5 0) a b c (nI (schF (σ 8 58)).length)) (by rw [e58]; exact h.1)
          rw [e58] at her
          refine AtP.Ci rfl (her) ?_
          refine AtP.N rfl (v58 0 (by omega)) ?_
          refine AtP.N rfl (v58 5 (by omega)) ?_
          rw [t0, t5, e58]
          have hq := quote_eq h.1 hwb ht.1 ht.2
          refine AtP.Ci rfl (e_isFree h.1 hF hE _ w) ?_
          have L : ∀ n, n ≤ (schF (σ 8 58)).length → ∀ acc, bstL (σ 8 58) w (iMax (earl (σ 8 58)) (σ 8 58 0 + σ 8 58 5)) (schF (σ 8 58)) acc ((schF (σ 8 58)).drop n) = ffit (σ 8 58) w (iMax (earl (σ 8 58)) (σ 8 58 0 + σ 8 58 5)) (schF (σ 8 58)) → AtP mX7_quote 84 [some M, some (.inl (nI i)), some (.inl q), some (.inl w), some (.inl (iMax (earl (σ 8 58)) (σ 8 58 0 + σ 8 58 5))), some (.inl acc), some (.inl (nI n))] [] (mS (iU τ 7 0 5 0) a b c (nI (schF (σ 8 58)).length)) (fun z => ∃ σ2, z = evi (ffit (σ 8 58) w (iMax (earl (σ 8 58)) (σ 8 58 0 + σ 8 58 5)) (schF (σ 8 58)) + w + σ 8 58 6) σ2 ∧ σ2 7 0 5 = 0 ∧ scr τ σ2) := by
            refine down_ind (N := (schF (σ 8 58)).length) ?_ ?_
            · intro acc hacc
              rw [List.drop_length, bstL] at hacc
              refine AtP.Bt rfl (by rw [mS_n]; exact ge_s) ?_
              refine AtP.N rfl (v58 6 (by omega)) ?_
              rw [t6, e58, hacc]
              exact AtP.R rfl (⟨_, rfl, mS_5, scr.T.trans scr.S⟩)
            · intro n hn ih acc hacc
              obtain ⟨x, st, g1, g2⟩ := drop_at hn
              have hg := rF_get a b _ 0 n x st hF g1
              have hg2 := eF_get (σ 8 58) c _ 0 n x st hE g1
              rw [Nat.zero_add] at hg hg2
              rw [g2, bstL] at hacc
              dsimp only at hacc
              refine AtP.Bf rfl (by rw [mS_n]; exact ge_n hl hn) ?_
              refine AtP.N rfl (v65 n (by omega)) ?_
              rw [nI_clamp (by omega), mS_c, hg2]
              refine AtP.B rfl (fun hc => ?_) (fun hc => ?_)
              · rw [if_neg (fun z => lt_nle hc z.1)] at hacc
                refine AtP.J rfl ?_
                rw [nI_1]
                exact ih acc hacc
              · refine AtP.N rfl (v65 n (by omega)) ?_
                rw [nI_clamp (by omega), mS_c, hg2]
                refine AtP.B rfl (fun hd => ?_) (fun hd => ?_)
                · rw [if_neg (fun z => le_nlt hd z.2.1)] at hacc
                  refine AtP.J rfl ?_
                  rw [nI_1]
                  exact ih acc hacc
                · refine AtP.N rfl (v65 n (by omega)) ?_
                  rw [nI_clamp (by omega), mS_c, hg2]
                  refine AtP.Ci rfl (e_isFree h.1 hF hE _ w) ?_
                  by_cases hf : isFb (σ 8 58) w (st + wk (σ 8 58) x) (schF (σ 8 58)) = true
                  · rw [if_pos hf]
                    rw [if_pos ⟨fa_of_nlt hc, fa_of_nle hd, hf⟩] at hacc
                    refine AtP.Bf rfl (by decide) ?_
                    refine AtP.N rfl (v65 n (by omega)) ?_
                    rw [nI_clamp (by omega), mS_c, hg2]
                    refine AtP.J rfl ?_
                    rw [nI_1]
                    exact ih _ hacc
                  · rw [if_neg hf]
                    rw [if_neg (fun z => hf z.2.2)] at hacc
                    refine AtP.Bt rfl (rfl) ?_
                    refine AtP.J rfl ?_
                    rw [nI_1]
                    exact ih acc hacc
          by_cases hf : isFb (σ 8 58) w (iMax (earl (σ 8 58)) (σ 8 58 0 + σ 8 58 5)) (schF (σ 8 58)) = true
          · rw [if_pos hf] at hq ⊢
            refine AtP.Bf rfl (by decide) ?_
            refine AtP.J rfl ?_
            exact AtP.G (L 0 (Nat.zero_le _) (iMax (earl (σ 8 58)) (σ 8 58 0 + σ 8 58 5)) hq) rfl
          · rw [if_neg hf] at hq ⊢
            refine AtP.Bt rfl (rfl) ?_
            exact AtP.G (L 0 (Nat.zero_le _) _ hq) rfl
      · refine OKi.ask (-4) h ?_ ?_
        · show At mX6_quote 0 [some X, some (.inl (nI i)), some (.inl q), none, none, none] [] σ _
          refine At.Cr rfl (c_product h hi) (show 6 * 0 + i < 24 by omega) ?_
          refine At.Cv rfl (c_range hw) ?_
          refine At.Ci rfl (c_drumTime hP hI (by omega) (by omega)) ?_
          refine At.Bf rfl (by rw [h.2.2.1.1.2.2.2.2.2.2.1]; exact hrp) ?_
          exact At.R rfl
        · show At mX7_quote 0 [some M, some (.inl (nI i)), some (.inl q), none, none, none, none] [] σ _
          refine At.Ci rfl (e_isWork1 rfl h.1 hi hw) ?_
          refine At.Bf rfl (by decide) ?_
          have e := U7_r (σ := σ) (j := 5) (x := 0)
          generalize iU σ 7 0 5 0 = τ at e ⊢
          rw [← e] at hI hrp
          refine At.Ci rfl (e_drumTicks 58 i q rfl (by omega) _ hI.d.2.1 hI.d.2.2) ?_
          refine At.N rfl (v58 7 (by omega)) ?_
          rw [t7]
          refine At.Bf rfl (hrp) ?_
          exact At.R rfl
    · refine OKi.t1 h (v := 0) ?_ (σ2 := iU σ 7 0 5 2) ?_ iU_same scr.T
      · show At mX6_quote 0 [some X, some (.inl (nI i)), some (.inl q), none, none, none] [] σ _
        refine At.Cr rfl (c_product h hi) (show 6 * 0 + i < 24 by omega) ?_
        exact At.X rfl (c_range_no hw)
      · show At mX7_quote 0 [some M, some (.inl (nI i)), some (.inl q), none, none, none, none] [] σ _
        refine At.Ci rfl (e_isWork2 rfl h.1 hi hw) ?_
        refine At.Bt rfl (rfl) ?_
        exact At.R rfl
  · refine OKi.t0 h (v := 0) ?_ ?_
    · show At mX6_quote 0 [some X, some (.inl o), some (.inl q), none, none, none] [] σ _
      exact At.X rfl (c_product_no h ho)
    · show At mX7_quote 0 [some M, some (.inl o), some (.inl q), none, none, none, none] [] σ _
      refine At.Ci rfl (e_isWork0 rfl h.1 ho q) ?_
      refine At.Bt rfl (rfl) ?_
      exact At.R rfl
end PQT
