/-! ===== orders are added; time passes ===== -/
section ADV
variable {σ : iM}
theorem e_isNew1 {r : Row} (e : σ 8 58 = r) (hr : RI r) {i : Nat} (hi : i < PM r) {q d : Int32} (hq : 1 ≤ q ∧ q ≤ 50) (hd : 0 ≤ d ∧ d ≤ 30000) : Ev mX7_isNewOrder [M, .inl (nI i), .inl q, .inl d] σ (evi 1 (iU σ 7 0 5 0)) := by
  show At mX7_isNewOrder 0 [some M, some (.inl (nI i)), some (.inl q), some (.inl d)] [] σ _
  refine At.Ci rfl (e_prd1 e hr hi) ?_
  refine At.Ci rfl (e_thr1 _ _) ?_
  refine At.Bt rfl (rfl) ?_
  refine At.Ci rfl (e_in1 hq) ?_
  refine At.Bf rfl (by decide) ?_
  refine At.Ci rfl (e_in1 hd) ?_
  refine At.Bf rfl (by decide) ?_
  refine At.J rfl ?_
  refine At.Ci rfl (e_thr1 _ _) ?_
  refine At.Bt rfl (rfl) ?_
  refine At.J rfl ?_
  rw [UTT]
  exact At.Z rfl (Or.inr rfl)
theorem e_isNew2 {r : Row} (e : σ 8 58 = r) (hr : RI r) {i : Nat} (hi : i < PM r) {q d : Int32} (hq : ¬ ((1 ≤ q ∧ q ≤ 50) ∧ (0 ≤ d ∧ d ≤ 30000))) : Ev mX7_isNewOrder [M, .inl (nI i), .inl q, .inl d] σ (evi 0 (iU σ 7 0 5 2)) := by
  show At mX7_isNewOrder 0 [some M, some (.inl (nI i)), some (.inl q), some (.inl d)] [] σ _
  refine At.Ci rfl (e_prd1 e hr hi) ?_
  refine At.Ci rfl (e_thr1 _ _) ?_
  refine At.Bt rfl (rfl) ?_
  by_cases h1 : 1 ≤ q ∧ q ≤ 50
  · refine At.Ci rfl (e_in1 h1) ?_
    refine At.Bf rfl (by decide) ?_
    refine At.Ci rfl (e_in0 (fun z => hq ⟨h1, z⟩)) ?_
    refine At.Bt rfl (rfl) ?_
    refine At.Ci rfl (e_thr0 _ _) ?_
    refine At.Bf rfl (by decide) ?_
    rw [UTT]
    exact At.Z rfl (Or.inl rfl)
  · refine At.Ci rfl (e_in0 h1) ?_
    refine At.Bt rfl (rfl) ?_
    refine At.Ci rfl (e_thr0 _ _) ?_
    refine At.Bf rfl (by decide) ?_
    rw [UTT]
    exact At.Z rfl (Or.inl rfl)
theorem e_isNew0 {r : Row} (e : σ 8 58 = r) (hr : RI r) {o : Int32} (ho : o < 0 ∨ nI (PM r) ≤ o) (q d : Int32) : Ev mX7_isNewOrder [M, .inl o, .inl q, .inl d] σ (evi 0 (iU σ 7 0 5 1)) := by
  show At mX7_isNewOrder 0 [some M, some (.inl o), some (.inl q), some (.inl d)] [] σ _
  refine At.Ci rfl (e_prd0 e hr ho) ?_
  refine At.Ci rfl (e_thr0 _ _) ?_
  refine At.Bf rfl (by decide) ?_
  exact At.Z rfl (Or.inl rfl)
/-- why an order can't be added -/
def noA (r : Row) (p : Nat) (q : Int32) : Int32 := if OM r = 24 then -2 else if r 7 < rPt r p (dS r p) * q then -4 else 0
theorem e_noAdding (hr : RI (σ 8 58)) {i : Nat} (hi : i < PM (σ 8 58)) (q : Int32) : Ev mX7_noAdding [M, .inl (nI i), .inl q] σ (evi (noA (σ 8 58) i q) σ) := by
  have hom := hr.om
  have hpm := hr.pm
  have hI := hr.prd hi
  show At mX7_noAdding 0 [some M, some (.inl (nI i)), some (.inl q)] [] σ _
  unfold noA
  refine At.N rfl (v58 4 (by omega)) ?_
  rw [t4, hom.1]
  refine At.B rfl (fun hc => ?_) (fun hc => ?_)
  · rw [show (24 : Int32) = nI 24 from rfl, nI_inj (by omega) (by omega)] at hc
    rw [if_pos hc]
    refine At.J rfl ?_
    exact At.R rfl
  · rw [show (24 : Int32) = nI 24 from rfl, nI_inj (by omega) (by omega)] at hc
    rw [if_neg hc]
    refine At.Ci rfl (e_drumTicks 58 i q rfl (by omega) _ hI.d.2.1 hI.d.2.2) ?_
    refine At.N rfl (v58 7 (by omega)) ?_
    rw [t7]
    refine At.B rfl (fun hd => ?_) (fun hd => ?_)
    · rw [if_neg (le_nlt hd)]
      exact At.R rfl
    · rw [if_pos (fa_of_nle hd)]
      refine At.J rfl ?_
      exact At.R rfl
theorem p_addOrder (h : INV σ) (o q d : Int32) : OKi mX6_addOrder mX7_addOrder [.inl o, .inl q, .inl d] 2 σ := by
  have hpm := h.1.pm
  have hom := h.1.om
  rcases ix_cases (PM (σ 8 58)) (by omega) o with ⟨i, hi, rfl⟩ | ho
  · have hP := h.2.2.1.2.2.1 i hi
    have hI := h.1.prd hi
    by_cases hq : 1 ≤ q ∧ q ≤ 50
    · by_cases hd : 0 ≤ d ∧ d ≤ 30000
      · by_cases h24 : OM (σ 8 58) = 24
        · refine OKi.ask (-2) h ?_ ?_
          · show At mX6_addOrder 0 [some X, some (.inl (nI i)), some (.inl q), some (.inl d), none] [] σ _
            refine At.Cr rfl (c_product h hi) (show 6 * 0 + i < 24 by omega) ?_
            refine At.Cv rfl (c_range hq) ?_
            refine At.Cv rfl (c_range hd) ?_
            refine At.Bf rfl (by rw [h.2.2.1.om h.1, h24]; decide) ?_
            exact At.R rfl
          · show At mX7_addOrder 0 [some M, some (.inl (nI i)), some (.inl q), some (.inl d), none] [] σ _
            refine At.Ci rfl (e_isNew1 rfl h.1 hi hq hd) ?_
            refine At.Bf rfl (by decide) ?_
            refine At.Ci rfl (e_noAdding (by rw [U7_r]; exact h.1) (by rw [U7_r]; exact hi) q) ?_
            rw [U7_r, show noA (σ 8 58) i q = -2 from if_pos h24]
            refine At.Bf rfl (by decide) ?_
            exact At.R rfl
        · by_cases hw : σ 8 58 7 < rPt (σ 8 58) i (dS (σ 8 58) i) * q
          · refine OKi.ask (-4) h ?_ ?_
            · show At mX6_addOrder 0 [some X, some (.inl (nI i)), some (.inl q), some (.inl d), none] [] σ _
              refine At.Cr rfl (c_product h hi) (show 6 * 0 + i < 24 by omega) ?_
              refine At.Cv rfl (c_range hq) ?_
              refine At.Cv rfl (c_range hd) ?_
              refine At.Bt rfl (by rw [h.2.2.1.om h.1]; exact (nI_lt_iff (by omega) (b := 24) (by omega)).mpr (by omega)) ?_
              refine At.Ci rfl (c_drumTime hP hI (by omega) (by omega)) ?_
              refine At.Bf rfl (by rw [h.2.2.1.1.2.2.2.2.2.2.1]; exact lt_nle hw) ?_
              exact At.R rfl
            · show At mX7_addOrder 0 [some M, some (.inl (nI i)), some (.inl q), some (.inl d), none] [] σ _
              refine At.Ci rfl (e_isNew1 rfl h.1 hi hq hd) ?_
              refine At.Bf rfl (by decide) ?_
              refine At.Ci rfl (e_noAdding (by rw [U7_r]; exact h.1) (by rw [U7_r]; exact hi) q) ?_
              rw [U7_r, show noA (σ 8 58) i q = -4 from by unfold noA; rw [if_neg h24, if_pos hw]]
              refine At.Bf rfl (by decide) ?_
              exact At.R rfl
          · have hb := hq
            have hb2 := hd
            rw [fa_le, fa_le] at hb hb2
            have hlt : OM (σ 8 58) < 24 := by omega
            have hR := lay_RI h.1 hlt hi (q := q) (d := d) hb hb2
            refine OKi.both (v := nI (OM (σ 8 58))) (σ1 := entU σ 0 (24 * 0 + OM (σ 8 58)) (nI i) q d (rPt (σ 8 58) i (dS (σ 8 58) i) * q) (nI (OM (σ 8 58) + 1))) (σ3 := mR (iU (entU σ 0 (24 * 0 + OM (σ 8 58)) (nI i) q d (rPt (σ 8 58) i (dS (σ 8 58) i) * q) (nI (OM (σ 8 58) + 1))) 7 0 5 0) 58 (layR (σ 8 58) i q d)) (r' := layR (σ 8 58) i q d) h ?_ ?_ mR5 rfl (ent_cfr hlt) hR (by rw [lay_n (by omega) (by omega)]; exact h.2.1) (h.2.2.1.ent h.1 (by omega) hlt hi q d)
            · show At mX6_addOrder 0 [some X, some (.inl (nI i)), some (.inl q), some (.inl d), none] [] σ _
              refine At.Cr rfl (c_product h hi) (show 6 * 0 + i < 24 by omega) ?_
              refine At.Cv rfl (c_range hq) ?_
              refine At.Cv rfl (c_range hd) ?_
              refine At.Bt rfl (by rw [h.2.2.1.om h.1]; exact (nI_lt_iff (by omega) (b := 24) (by omega)).mpr hlt) ?_
              refine At.Ci rfl (c_drumTime hP hI (by omega) (by omega)) ?_
              refine At.Bt rfl (by rw [h.2.2.1.1.2.2.2.2.2.2.1]; exact fa_of_nlt hw) ?_
              refine At.Ci rfl (c_enter h.2.2.1 h.1 (by omega) hlt hi q d) ?_
              exact At.R rfl
            · show At mX7_addOrder 0 [some M, some (.inl (nI i)), some (.inl q), some (.inl d), none] [] _ _
              have e8 : entU σ 0 (24 * 0 + OM (σ 8 58)) (nI i) q d (rPt (σ 8 58) i (dS (σ 8 58) i) * q) (nI (OM (σ 8 58) + 1)) 8 58 = σ 8 58 := funext fun _ => entU_k (by omega) (by omega)
              generalize entU σ 0 (24 * 0 + OM (σ 8 58)) (nI i) q d (rPt (σ 8 58) i (dS (σ 8 58) i) * q) (nI (OM (σ 8 58) + 1)) = τ at e8 ⊢
              have e9 : iU τ 7 0 5 0 8 58 = σ 8 58 := by rw [U7_r, e8]
              refine At.Ci rfl (e_isNew1 e8 h.1 hi hq hd) ?_
              refine At.Bf rfl (by decide) ?_
              refine At.Ci rfl (e_noAdding (by rw [e9]; exact h.1) (by rw [e9]; exact hi) q) ?_
              rw [e9, show noA (σ 8 58) i q = 0 from by unfold noA; rw [if_neg h24, if_neg hw]]
              refine At.Bt rfl (rfl) ?_
              refine At.Cv rfl (e_laysOrder 58 rfl (by rw [e9]; exact hom.1) (by rw [e9]; exact hlt) i q d) ?_
              rw [e9]
              refine At.N rfl (v58 4 (by omega)) ?_
              rw [t4, mR_at, lay_4]
              refine At.Re' rfl ?_
              rw [Int32.add_sub_cancel, hom.1]
      · refine OKi.t1 h (v := 0) ?_ (σ2 := iU σ 7 0 5 2) ?_ iU_same scr.T
        · show At mX6_addOrder 0 [some X, some (.inl (nI i)), some (.inl q), some (.inl d), none] [] σ _
          refine At.Cr rfl (c_product h hi) (show 6 * 0 + i < 24 by omega) ?_
          refine At.Cv rfl (c_range hq) ?_
          exact At.X rfl (c_range_no hd)
        · show At mX7_addOrder 0 [some M, some (.inl (nI i)), some (.inl q), some (.inl d), none] [] σ _
          refine At.Ci rfl (e_isNew2 rfl h.1 hi (fun z => hd z.2)) ?_
          refine At.Bt rfl (rfl) ?_
          exact At.R rfl
    · refine OKi.t1 h (v := 0) ?_ (σ2 := iU σ 7 0 5 2) ?_ iU_same scr.T
      · show At mX6_addOrder 0 [some X, some (.inl (nI i)), some (.inl q), some (.inl d), none] [] σ _
        refine At.Cr rfl (c_product h hi) (show 6 * 0 + i < 24 by omega) ?_
        exact At.X rfl (c_range_no hq)
      · show At mX7_addOrder 0 [some M, some (.inl (nI i)), some (.inl q), some (.inl d), none] [] σ _
        refine At.Ci rfl (e_isNew2 rfl h.1 hi (fun z => hq z.1)) ?_
        refine At.Bt rfl (rfl) ?_
        exact At.R rfl
  · refine OKi.t0 h (v := 0) ?_ ?_
    · show At mX6_addOrder 0 [some X, some (.inl o), some (.inl q), some (.inl d), none] [] σ _
      exact At.X rfl (c_product_no h ho)
    · show At mX7_addOrder 0 [some M, some (.inl o), some (.inl q), some (.inl d), none] [] σ _
      refine At.Ci rfl (e_isNew0 rfl h.1 ho q d) ?_
      refine At.Bt rfl (rfl) ?_
      exact At.R rfl
theorem p_advance (h : INV σ) (v : Int32) : OKi mX6_advance mX7_advance [.inl v] 1 σ := by
  have hn0 := h.1.1
  have h30 := h.2.1
  by_cases hv : 1 ≤ v ∧ v ≤ 500
  · have hb := hv
    rw [fa_le, fa_le, show (1 : Int32).toInt = 1 from rfl, show (500 : Int32).toInt = 500 from rfl] at hb
    have ev := (inR.toN (x := v) (a := 1) (b := 500) hb (by omega) (by omega))
    generalize nn v = n at ev
    obtain ⟨ev1, ev2, ev3, ev4⟩ := ev
    subst ev1
    have e1 : (σ 8 58 0 + nI n).toInt = (σ 8 58 0).toInt + n := by rw [fb_addI (by omega) (by omega)]; omega
    have e30 : (30000 : Int32).toInt = 30000 := rfl
    by_cases ht : σ 8 58 0 + nI n ≤ 30000
    · have ht2 := ht
      rw [fa_le, e1, e30] at ht2
      obtain ⟨a, b, c⟩ := tkN_ok h.1 n (by omega)
      obtain ⟨s1, s2, s3⟩ := tkN_st h.1 n (by omega)
      refine OKi.mk (P := fun v9 σ9 => v9 = nI (FC (tkN (σ 8 58) n) - FC (σ 8 58)) ∧ Sh σ9 0 (tkN (σ 8 58) n) ∧ cfr 0 σ σ9) ?_ ?_
      · show AtP mX6_advance 0 [some X, some (.inl (nI n)), none] [] σ _
        refine AtP.Cv rfl (c_range hv) ?_
        refine AtP.Bt rfl (by rw [h.2.2.1.1.2.2.2.2.2.2.2.2.2.1]; exact ht) ?_
        refine AtP.Ci rfl (c_countInState h.2.2.1 h.1 2) ?_
        refine AtP.CvP rfl (c_pass h.2.2.1 h.1 (by omega) (n := n) (by omega)) (fun σ9 h9 => ?_)
        obtain ⟨hS, hf⟩ := h9
        refine AtP.Ci rfl (c_countInState hS a 2) ?_
        exact AtP.R rfl (⟨_, _, rfl, pk_sub s2, hS, hf⟩)
      · rintro v1 σ1 ⟨rfl, hS, hf⟩
        show AtP mX7_advance 0 [some M, some (.inl (nI n)), none, none] [] σ1 _
        have e8 : σ1 8 58 = σ 8 58 := funext fun j => hf _ _ _ (by unfold own; omega)
        refine AtP.Ci rfl (e_in1 hv) ?_
        refine AtP.Ci rfl (e_thr1 _ _) ?_
        refine AtP.Bt rfl (rfl) ?_
        refine AtP.N rfl (v58 0 (by omega)) ?_
        rw [t0, U7_r, e8]
        refine AtP.Bt rfl (ht) ?_
        refine AtP.F 39 [some M, some (.inl (nI n)), some (.inl (nI 0)), some (.inl (nI 0))] [] (iU σ1 7 0 5 0) rfl ?_
        have key : ∀ k, k ≤ n → ∀ τ : iM, τ 8 58 = tkN (σ 8 58) k → mfr (iU σ1 7 0 5 0) τ → AtP mX7_advance 39 [some M, some (.inl (nI n)), some (.inl (nI (FC (tkN (σ 8 58) k) - FC (σ 8 58)))), some (.inl (nI k))] [] τ (fun z => ∃ σ2, z = evi (nI (FC (tkN (σ 8 58) n) - FC (σ 8 58))) σ2 ∧ σ2 7 0 5 = 0 ∧ INV σ2) := by
          refine down_ind (N := n) ?_ ?_
          · intro τ eτ fτ
            refine AtP.Bt rfl (ge_s) ?_
            refine AtP.R rfl ⟨_, rfl, ?_, ?_⟩
            · rw [fτ _ _ _ (by omega) (by omega)]; exact iU_same
            · refine h.chg ((hf.chg.trans scr.T.chg).trans fτ.chg) (by rw [eτ]; exact a) (by rw [eτ]; omega) ?_
              rw [eτ]
              exact hS.cell a (fun j => (fτ _ _ _ (by omega) (by omega)).trans (iU_ne (by omega))) (fun q j hq => (fτ _ _ _ (by omega) (by omega)).trans (iU_ne (by omega))) (fun q j hq => (fτ _ _ _ (by omega) (by omega)).trans (iU_ne (by omega))) (fun q j hq => (fτ _ _ _ (by omega) (by omega)).trans (iU_ne (by omega))) (fun q j hq => (fτ _ _ _ (by omega) (by omega)).trans (iU_ne (by omega)))
          · intro k hk ih τ eτ fτ
            obtain ⟨ak, bk', ck⟩ := tkN_ok h.1 k (by omega)
            obtain ⟨t1', t2', t3'⟩ := tkN_st h.1 k (by omega)
            have hst := (tick_st ak (by omega)).2.1
            refine AtP.Bf rfl (by intro x; exact absurd ((nI_leI (by omega) (by omega)).mp x) (by omega)) ?_
            refine AtP.CiP rfl (e_passes (by rw [eτ]; exact ak) (by rw [eτ]; omega)) (fun v9 σ9 h9 => ?_)
            obtain ⟨rfl, g1, g2⟩ := h9
            rw [eτ] at g1 ⊢
            refine AtP.J rfl ?_
            rw [nI_1, finC_K, nI_add]
            have ihk := ih _ g1 (fτ.trans g2)
            have e : FC (tkN (σ 8 58) (k + 1)) - FC (σ 8 58) = FC (tkN (σ 8 58) k) - FC (σ 8 58) + finK (tk3 (tkN (σ 8 58) k)) (SC (tkN (σ 8 58) k)) := by
              show FC (tick (tkN (σ 8 58) k)) - FC (σ 8 58) = _
              rw [hst]
              omega
            rw [e] at ihk
            exact ihk
        have k0 := key 0 (Nat.zero_le _) _ (by rw [U7_r, e8]; rfl) mfr.rfl
        rw [show FC (tkN (σ 8 58) 0) - FC (σ 8 58) = 0 from Nat.sub_self _] at k0
        exact k0
    · refine OKi.ask (-2) h ?_ ?_
      · show At mX6_advance 0 [some X, some (.inl (nI n)), none] [] σ _
        refine At.Cv rfl (c_range hv) ?_
        refine At.Bf rfl (by rw [h.2.2.1.1.2.2.2.2.2.2.2.2.2.1]; exact ht) ?_
        exact At.R rfl
      · show At mX7_advance 0 [some M, some (.inl (nI n)), none, none] [] σ _
        refine At.Ci rfl (e_in1 hv) ?_
        refine At.Ci rfl (e_thr1 _ _) ?_
        refine At.Bt rfl (rfl) ?_
        refine At.N rfl (v58 0 (by omega)) ?_
        rw [t0, U7_r]
        refine At.Bf rfl (ht) ?_
        exact At.R rfl
  · refine OKi.t1 h (v := 0) ?_ (σ2 := iU σ 7 0 5 1) ?_ iU_same scr.T
    · show At mX6_advance 0 [some X, some (.inl v), none] [] σ _
      exact At.X rfl (c_range_no hv)
    · show At mX7_advance 0 [some M, some (.inl v), none, none] [] σ _
      refine At.Ci rfl (e_in0 hv) ?_
      refine At.Ci rfl (e_thr0 _ _) ?_
      refine At.Bf rfl (by decide) ?_
      exact At.R rfl
end ADV
