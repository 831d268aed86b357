/-! ===== products; stations one after the other; loads (written by mk49.py) ===== -/
section PRD
variable {σ : iM}
theorem c_drumTime {s : Nat} {r : Row} {p : Nat} (h : ShP σ s r p) (hp : PI r p) (hs4 : s < 4) (hp6 : p < 6) : Ev mX1_drumTime [.inr (1, 6 * s + p)] σ (evi (rPt r p (dS r p)) σ) := by
  show At mX1_drumTime 0 [some (.inr (1, 6 * s + p))] [] σ _
  have hd := hp.d
  have h0 : (0 : Int32).toInt = 0 := rfl
  refine At.Bt rfl (by rw [h.2.1, fa_le, nI_toInt (by omega), h0]; omega) ?_
  refine At.N rfl (by rw [(iN_p s p hs4 hp6).2, h.2.1]; exact vin hd.2.1 (by omega)) ?_
  rw [h.2.1, nI_clamp (by omega), ← (h.2.2 _ hd.1).2]
  exact At.R rfl
theorem sum_mul (f : Nat → Int32) (q : Int32) : ∀ n, sumN f n * q = sumN (fun k => f k * q) n := by
  intro n
  induction n with
  | zero => exact Int32.zero_mul
  | succ n ih => rw [sumN, sumN, Int32.add_mul, ih]
theorem c_timeOfPiece {s : Nat} {r : Row} {p : Nat} (h : ShP σ s r p) (hp : PI r p) (hs4 : s < 4) (hp6 : p < 6) : Ev mX1_timeOfPiece [.inr (1, 6 * s + p)] σ (evi (sumN (rPt r p) (sN r p)) σ) := by
  show At mX1_timeOfPiece 0 [some (.inr (1, 6 * s + p)), none, none] [] σ _
  have hn := hp.n
  refine At.F 4 [some (.inr (1, 6 * s + p)), some (.inl (sumN (rPt r p) 0)), some (.inl (nI 0))] [] σ rfl ?_
  refine down_ind (N := sN r p) (P := fun n => At mX1_timeOfPiece 4 [some (.inr (1, 6 * s + p)), some (.inl (sumN (rPt r p) n)), some (.inl (nI n))] [] σ _) ?_ ?_ 0 (Nat.zero_le _)
  · refine At.Bt rfl (by rw [h.1, hn.1]; exact ge_s) ?_
    exact At.R rfl
  · intro n hk ih
    refine At.Bf rfl (by rw [h.1, hn.1]; exact ge_n (by omega) hk) ?_
    refine At.N rfl (by rw [(iN_p s p hs4 hp6).2]; exact vin (by omega) (by omega)) ?_
    rw [nI_clamp (by omega)]
    refine At.J rfl ?_
    rw [nI_1, (h.2.2 n hk).2]
    exact ih
theorem p_stepCount (h : INV σ) (o : Int32) : OKi mX6_stepCount mX7_stepCount [.inl o] 0 σ := by
  have hom := h.1.pm
  rcases ix_cases (PM (σ 8 58)) (by omega) o with ⟨i, hi, rfl⟩ | ho
  · refine OKi.ask (rPn (σ 8 58) i) h ?_ ?_
    · show At mX6_stepCount 0 [some X, some (.inl (nI i))] [] σ _
      refine At.Cr rfl (c_product h hi) (show 6 * 0 + i < 24 by omega) ?_
      rw [← (h.2.2.1.2.2.1 i hi).1]
      exact At.R rfl
    · show At mX7_stepCount 0 [some M, some (.inl (nI i))] [] σ _
      refine At.Ci rfl (e_prd1 rfl h.1 hi) ?_
      refine At.Ci rfl (e_thr1 _ _) ?_
      refine At.Bt rfl (rfl) ?_
      refine At.Ci rfl (e_steps 58 i rfl (by omega) _) ?_
      rw [U7_r]
      exact At.R rfl
  · refine OKi.t0 h (v := 0) ?_ ?_
    · show At mX6_stepCount 0 [some X, some (.inl o)] [] σ _
      exact At.X rfl (c_product_no h ho)
    · show At mX7_stepCount 0 [some M, some (.inl o)] [] σ _
      refine At.Ci rfl (e_prd0 rfl h.1 ho) ?_
      refine At.Ci rfl (e_thr0 _ _) ?_
      refine At.Bf rfl (by decide) ?_
      refine At.J rfl ?_
      exact At.R rfl
theorem UTT {x y : Int32} : iU (iU σ 7 0 5 x) 7 0 5 y = iU σ 7 0 5 y := by
  funext a b c; unfold iU; by_cases h : a = 7 ∧ b = 0 ∧ c = 5
  · rw [if_pos h, if_pos h]
  · rw [if_neg h, if_neg h, if_neg h]
theorem p_stepAt (h : INV σ) (o st wh : Int32) : OKi mX6_stepAt mX7_stepAt [.inl o, .inl st, .inl wh] 2 σ := by
  have hom := h.1.pm
  rcases ix_cases (PM (σ 8 58)) (by omega) o with ⟨i, hi, rfl⟩ | ho
  · have hP := h.2.2.1.2.2.1 i hi
    have hn := (h.1.prd hi).n
    by_cases hw : 0 ≤ wh ∧ wh ≤ 1
    · have e := U7_r (σ := σ) (j := 5) (x := 0)
      rcases ix_cases (sN (σ 8 58) i) (by omega) st with ⟨k, hk, rfl⟩ | hst
      · refine OKi.ask (if wh = 0 then rPs (σ 8 58) i k else rPt (σ 8 58) i k) h ?_ ?_
        · show At mX6_stepAt 0 [some X, some (.inl (nI i)), some (.inl (nI k)), some (.inl wh), none] [] σ _
          refine At.Cr rfl (c_product h hi) (show 6 * 0 + i < 24 by omega) ?_
          refine At.Cv rfl (c_range hw) ?_
          refine At.Bf rfl (by rw [fa_lt, nI_toInt (by omega)]; show ¬ (k : Int) < 0; omega) ?_
          refine At.Bt rfl (by rw [hP.1, hn.1]; exact (nI_lt_iff (by omega) (by omega)).mpr hk) ?_
          refine At.B rfl (fun hc => ?_) (fun hc => ?_)
          · rw [if_pos hc]
            refine At.N rfl (by rw [(iN_p 0 i (by omega) (by omega)).1]; exact vin (by omega) (by omega)) ?_
            refine At.J rfl ?_
            rw [nI_clamp (by omega), (hP.2.2 k hk).1]
            exact At.R rfl
          · rw [if_neg hc]
            refine At.N rfl (by rw [(iN_p 0 i (by omega) (by omega)).2]; exact vin (by omega) (by omega)) ?_
            rw [nI_clamp (by omega), (hP.2.2 k hk).2]
            exact At.R rfl
        · show At mX7_stepAt 0 [some M, some (.inl (nI i)), some (.inl (nI k)), some (.inl wh)] [] σ _
          refine At.Ci rfl (e_prd1 rfl h.1 hi) ?_
          refine At.Ci rfl (e_thr1 _ _) ?_
          refine At.Bt rfl (rfl) ?_
          refine At.Ci rfl (e_in1 hw) ?_
          refine At.Ci rfl (e_thr1 _ _) ?_
          refine At.Bt rfl (rfl) ?_
          rw [UTT]
          generalize iU σ 7 0 5 0 = τ at e ⊢
          refine At.Ci rfl (e_steps 58 i rfl (by omega) _) ?_
          rw [e, hn.1]
          refine At.Ci rfl (e_in1 ((m1_in (n := sN (σ 8 58) i) (by omega) (nI k)).mpr (no_ix (by omega) hk))) ?_
          refine At.Bf rfl (by decide) ?_
          refine At.B rfl (fun hc => ?_) (fun hc => ?_)
          · rw [if_pos hc]
            refine At.Ci rfl (e_stepStation 58 i k rfl (by omega) (by omega) _) ?_
            rw [e]
            refine At.J rfl ?_
            exact At.R rfl
          · rw [if_neg hc]
            refine At.Ci rfl (e_stepTime 58 i k rfl (by omega) (by omega) _) ?_
            rw [e]
            exact At.R rfl
      · refine OKi.ask (-1) h ?_ ?_
        · show At mX6_stepAt 0 [some X, some (.inl (nI i)), some (.inl st), some (.inl wh), none] [] σ _
          refine At.Cr rfl (c_product h hi) (show 6 * 0 + i < 24 by omega) ?_
          refine At.Cv rfl (c_range hw) ?_
          refine At.B rfl (fun hc => ?_) (fun hc => ?_)
          · exact At.R rfl
          · refine At.Bf rfl (by rw [hP.1, hn.1]; exact le_nlt (hst.resolve_left hc)) ?_
            exact At.R rfl
        · show At mX7_stepAt 0 [some M, some (.inl (nI i)), some (.inl st), some (.inl wh)] [] σ _
          refine At.Ci rfl (e_prd1 rfl h.1 hi) ?_
          refine At.Ci rfl (e_thr1 _ _) ?_
          refine At.Bt rfl (rfl) ?_
          refine At.Ci rfl (e_in1 hw) ?_
          refine At.Ci rfl (e_thr1 _ _) ?_
          refine At.Bt rfl (rfl) ?_
          rw [UTT]
          generalize iU σ 7 0 5 0 = τ at e ⊢
          refine At.Ci rfl (e_steps 58 i rfl (by omega) _) ?_
          rw [e, hn.1]
          refine At.Ci rfl (e_in0 (fun q => (m1_in (n := sN (σ 8 58) i) (by omega) st).mp q hst)) ?_
          refine At.Bt rfl (rfl) ?_
          exact At.R rfl
    · refine OKi.t1 h (v := 0) ?_ (σ2 := iU (iU σ 7 0 5 0) 7 0 5 2) ?_ iU_same (scr.T.trans scr.T)
      · show At mX6_stepAt 0 [some X, some (.inl (nI i)), some (.inl st), some (.inl wh), none] [] σ _
        refine At.Cr rfl (c_product h hi) (show 6 * 0 + i < 24 by omega) ?_
        exact At.X rfl (c_range_no hw)
      · show At mX7_stepAt 0 [some M, some (.inl (nI i)), some (.inl st), some (.inl wh)] [] σ _
        refine At.Ci rfl (e_prd1 rfl h.1 hi) ?_
        refine At.Ci rfl (e_thr1 _ _) ?_
        refine At.Bt rfl (rfl) ?_
        refine At.Ci rfl (e_in0 hw) ?_
        refine At.Ci rfl (e_thr0 _ _) ?_
        refine At.Bf rfl (by decide) ?_
        exact At.R rfl
  · refine OKi.t0 h (v := 0) ?_ ?_
    · show At mX6_stepAt 0 [some X, some (.inl o), some (.inl st), some (.inl wh), none] [] σ _
      exact At.X rfl (c_product_no h ho)
    · show At mX7_stepAt 0 [some M, some (.inl o), some (.inl st), some (.inl wh)] [] σ _
      refine At.Ci rfl (e_prd0 rfl h.1 ho) ?_
      refine At.Ci rfl (e_thr0 _ _) ?_
      refine At.Bf rfl (by decide) ?_
      exact At.R rfl
/-- a product and a quantity: the reference's test -/
theorem e_isWork1 {r : Row} (e : σ 8 58 = r) (hr : RI r) {i : Nat} (hi : i < PM r) {q : Int32} (hq : 1 ≤ q ∧ q ≤ 50) : Ev mX7_isWork [M, .inl (nI i), .inl q] σ (evi 1 (iU σ 7 0 5 0)) := by
  show At mX7_isWork 0 [some M, some (.inl (nI i)), some (.inl q)] [] σ _
  refine At.Ci rfl (e_prd1 e hr hi) ?_
  refine At.Ci rfl (e_thr1 _ _) ?_
  refine At.Bt rfl (rfl) ?_
  refine At.Ci rfl (e_in1 hq) ?_
  refine At.Ci rfl (e_thr1 _ _) ?_
  refine At.Bt rfl (rfl) ?_
  refine At.J rfl ?_
  rw [UTT]
  exact At.Z rfl (Or.inr rfl)
theorem e_isWork2 {r : Row} (e : σ 8 58 = r) (hr : RI r) {i : Nat} (hi : i < PM r) {q : Int32} (hq : ¬ (1 ≤ q ∧ q ≤ 50)) : Ev mX7_isWork [M, .inl (nI i), .inl q] σ (evi 0 (iU σ 7 0 5 2)) := by
  show At mX7_isWork 0 [some M, some (.inl (nI i)), some (.inl q)] [] σ _
  refine At.Ci rfl (e_prd1 e hr hi) ?_
  refine At.Ci rfl (e_thr1 _ _) ?_
  refine At.Bt rfl (rfl) ?_
  refine At.Ci rfl (e_in0 hq) ?_
  refine At.Ci rfl (e_thr0 _ _) ?_
  refine At.Bf rfl (by decide) ?_
  rw [UTT]
  exact At.Z rfl (Or.inl rfl)
theorem e_isWork0 {r : Row} (e : σ 8 58 = r) (hr : RI r) {o : Int32} (ho : o < 0 ∨ nI (PM r) ≤ o) (q : Int32) : Ev mX7_isWork [M, .inl o, .inl q] σ (evi 0 (iU σ 7 0 5 1)) := by
  show At mX7_isWork 0 [some M, some (.inl o), some (.inl q)] [] σ _
  refine At.Ci rfl (e_prd0 e hr ho) ?_
  refine At.Ci rfl (e_thr0 _ _) ?_
  refine At.Bf rfl (by decide) ?_
  exact At.Z rfl (Or.inl rfl)
theorem p_drumWork (h : INV σ) (o q : Int32) : OKi mX6_drumWork mX7_drumWork [.inl o, .inl q] 2 σ := by
  have hom := h.1.pm
  rcases ix_cases (PM (σ 8 58)) (by omega) o with ⟨i, hi, rfl⟩ | ho
  · have hP := h.2.2.1.2.2.1 i hi
    have hI := h.1.prd hi
    by_cases hw : 1 ≤ q ∧ q ≤ 50
    · refine OKi.ask (rPt (σ 8 58) i (dS (σ 8 58) i) * q) h ?_ ?_
      · show At mX6_drumWork 0 [some X, some (.inl (nI i)), some (.inl q), none] [] σ _
        refine At.Cr rfl (c_product h hi) (show 6 * 0 + i < 24 by omega) ?_
        refine At.Cv rfl (c_range hw) ?_
        refine At.Ci rfl (c_drumTime hP hI (by omega) (by omega)) ?_
        exact At.R rfl
      · show At mX7_drumWork 0 [some M, some (.inl (nI i)), some (.inl q)] [] σ _
        refine At.Ci rfl (e_isWork1 rfl h.1 hi hw) ?_
        refine At.Bf rfl (by decide) ?_
        have e := U7_r (σ := σ) (j := 5) (x := 0)
        generalize iU σ 7 0 5 0 = τ at e ⊢
        rw [← e] at hI ⊢
        refine At.Ci rfl (e_drumTicks 58 i q rfl (by omega) _ hI.d.2.1 hI.d.2.2) ?_
        refine At.J rfl ?_
        exact At.R rfl
    · refine OKi.t1 h (v := 0) ?_ (σ2 := iU σ 7 0 5 2) ?_ iU_same scr.T
      · show At mX6_drumWork 0 [some X, some (.inl (nI i)), some (.inl q), none] [] σ _
        refine At.Cr rfl (c_product h hi) (show 6 * 0 + i < 24 by omega) ?_
        exact At.X rfl (c_range_no hw)
      · show At mX7_drumWork 0 [some M, some (.inl (nI i)), some (.inl q)] [] σ _
        refine At.Ci rfl (e_isWork2 rfl h.1 hi hw) ?_
        refine At.Bt rfl (rfl) ?_
        exact At.R rfl
  · refine OKi.t0 h (v := 0) ?_ ?_
    · show At mX6_drumWork 0 [some X, some (.inl o), some (.inl q), none] [] σ _
      exact At.X rfl (c_product_no h ho)
    · show At mX7_drumWork 0 [some M, some (.inl o), some (.inl q)] [] σ _
      refine At.Ci rfl (e_isWork0 rfl h.1 ho q) ?_
      refine At.Bt rfl (rfl) ?_
      exact At.R rfl
theorem p_workOf (h : INV σ) (o q : Int32) : OKi mX6_workOf mX7_workOf [.inl o, .inl q] 2 σ := by
  have hom := h.1.pm
  rcases ix_cases (PM (σ 8 58)) (by omega) o with ⟨i, hi, rfl⟩ | ho
  · have hP := h.2.2.1.2.2.1 i hi
    have hI := h.1.prd hi
    have hn := hI.n
    by_cases hw : 1 ≤ q ∧ q ≤ 50
    · refine OKi.ask (sumN (rPt (σ 8 58) i) (sN (σ 8 58) i) * q) h ?_ ?_
      · show At mX6_workOf 0 [some X, some (.inl (nI i)), some (.inl q), none] [] σ _
        refine At.Cr rfl (c_product h hi) (show 6 * 0 + i < 24 by omega) ?_
        refine At.Cv rfl (c_range hw) ?_
        refine At.Ci rfl (c_timeOfPiece hP hI (by omega) (by omega)) ?_
        exact At.R rfl
      · show At mX7_workOf 0 [some M, some (.inl (nI i)), some (.inl q), none, none] [] σ _
        refine At.Ci rfl (e_isWork1 rfl h.1 hi hw) ?_
        refine At.Bf rfl (by decide) ?_
        have e := U7_r (σ := σ) (j := 5) (x := 0)
        generalize iU σ 7 0 5 0 = τ at e ⊢
        rw [← e] at hn ⊢
        rw [sum_mul]
        refine At.F 16 [some M, some (.inl (nI i)), some (.inl q), some (.inl (sumN (fun k => rPt (τ 8 58) i k * q) 0)), some (.inl (nI 0))] [] τ rfl ?_
        refine down_ind (N := sN (τ 8 58) i) (P := fun n => At mX7_workOf 16 [some M, some (.inl (nI i)), some (.inl q), some (.inl (sumN (fun k => rPt (τ 8 58) i k * q) n)), some (.inl (nI n))] [] τ _) ?_ ?_ 0 (Nat.zero_le _)
        · refine At.Ci rfl (e_steps 58 i rfl (by omega) _) ?_
          refine At.Bt rfl (by rw [hn.1]; exact ge_s) ?_
          exact At.R rfl
        · intro n hk ih
          refine At.Ci rfl (e_steps 58 i rfl (by omega) _) ?_
          refine At.Bf rfl (by rw [hn.1]; exact ge_n (by omega) hk) ?_
          refine At.Ci rfl (e_stepTime 58 i n rfl (by omega) (by omega) _) ?_
          refine At.J rfl ?_
          rw [nI_1]
          exact ih
    · refine OKi.t1 h (v := 0) ?_ (σ2 := iU σ 7 0 5 2) ?_ iU_same scr.T
      · show At mX6_workOf 0 [some X, some (.inl (nI i)), some (.inl q), none] [] σ _
        refine At.Cr rfl (c_product h hi) (show 6 * 0 + i < 24 by omega) ?_
        exact At.X rfl (c_range_no hw)
      · show At mX7_workOf 0 [some M, some (.inl (nI i)), some (.inl q), none, none] [] σ _
        refine At.Ci rfl (e_isWork2 rfl h.1 hi hw) ?_
        refine At.Bt rfl (rfl) ?_
        exact At.R rfl
  · refine OKi.t0 h (v := 0) ?_ ?_
    · show At mX6_workOf 0 [some X, some (.inl o), some (.inl q), none] [] σ _
      exact At.X rfl (c_product_no h ho)
    · show At mX7_workOf 0 [some M, some (.inl o), some (.inl q), none, none] [] σ _
      refine At.Ci rfl (e_isWork0 rfl h.1 ho q) ?_
      refine At.Bt rfl (rfl) ?_
      exact At.R rfl
abbrev mfC (r : Row) : Nat → Nat := fb_ct (fun k => decide (rO r k 3 = 2))
abbrev mfS (r : Row) : Nat → Int32 := sumN (fun k => if rO r k 3 = 2 then flw r k else 0)
theorem p_meanFlow (h : INV σ) : OKi mX6_meanFlow mX7_meanFlow [] 3 σ := by
  have hom := h.1.om
  have hsc := h.1.sc
  refine OKi.ask (if nI (mfC (σ 8 58) (OM (σ 8 58))) = 0 then -1 else mfS (σ 8 58) (OM (σ 8 58)) / nI (mfC (σ 8 58) (OM (σ 8 58)))) h ?_ ?_
  · show At mX6_meanFlow 0 [some X, none, none, none, none] [] σ _
    refine At.F 6 [some X, some (.inl (mfS (σ 8 58) 0)), some (.inl (nI (mfC (σ 8 58) 0))), some (.inl (nI 0)), none] [] σ rfl ?_
    refine down_ind (N := OM (σ 8 58)) (P := fun n => ∀ d, At mX6_meanFlow 6 [some X, some (.inl (mfS (σ 8 58) n)), some (.inl (nI (mfC (σ 8 58) n))), some (.inl (nI n)), d] [] σ _) ?_ ?_ 0 (Nat.zero_le _) none
    · intro d
      refine At.Bt rfl (by rw [h.2.2.1.om h.1]; exact ge_s) ?_
      refine At.B rfl (fun hc => ?_) (fun hc => ?_)
      · rw [if_pos hc]
        refine At.J rfl ?_
        exact At.R rfl
      · rw [if_neg hc]
        refine At.N rfl (hc) ?_
        exact At.R rfl
    · intro n hn ih d
      refine At.Bf rfl (by rw [h.2.2.1.om h.1]; exact ge_n hom.2 hn) ?_
      refine At.N rfl (v12 0 n (by omega)) ?_
      rw [nI_clamp (by omega)]
      have hO := h.2.2.1.2.2.2 n hn
      have ih := ih (some (.inr (0, 24 * 0 + n)))
      unfold mfS mfC at ih
      rw [sumN, fb_ct_succ] at ih
      refine At.B rfl (fun hc => ?_) (fun hc => ?_)
      · rw [hO.2.2.2.2.2.1] at hc
        rw [if_pos hc, if_pos (decide_eq_true hc)] at ih
        refine At.Ci rfl (c_flow (s := 0) h.2.2.1 hn) ?_
        refine At.J rfl ?_
        rw [nI_1, nI_1]
        exact ih
      · rw [hO.2.2.2.2.2.1] at hc
        rw [if_neg hc, if_neg (by rw [decide_eq_false hc]; decide), Nat.add_zero, Int32.add_zero] at ih
        refine At.J rfl ?_
        rw [nI_1]
        exact ih
  · show At mX7_meanFlow 0 [some M, none, none, none] [] σ _
    refine At.F 5 [some M, none, none, none] [] (iU σ 7 0 5 0) rfl ?_
    have e := U7_r (σ := σ) (j := 5) (x := 0)
    have hr := h.1
    generalize iU σ 7 0 5 0 = τ at e ⊢
    rw [← e] at hr hom hsc ⊢
    refine At.F 11 [some M, some (.inl (mfS (τ 8 58) 0)), some (.inl (nI (mfC (τ 8 58) 0))), some (.inl (nI 0))] [] τ rfl ?_
    refine down_ind (N := OM (τ 8 58)) (P := fun n => At mX7_meanFlow 11 [some M, some (.inl (mfS (τ 8 58) n)), some (.inl (nI (mfC (τ 8 58) n))), some (.inl (nI n))] [] τ _) ?_ ?_ 0 (Nat.zero_le _)
    · refine At.N rfl (v58 4 (by omega)) ?_
      rw [t4]
      refine At.Bt rfl (by rw [hom.1]; exact ge_s) ?_
      refine At.B rfl (fun hc => ?_) (fun hc => ?_)
      · rw [if_pos hc]
        refine At.J rfl ?_
        exact At.R rfl
      · rw [if_neg hc]
        refine At.N rfl (hc) ?_
        exact At.R rfl
    · intro n hn ih
      refine At.N rfl (v58 4 (by omega)) ?_
      rw [t4]
      refine At.Bf rfl (by rw [hom.1]; exact ge_n hom.2 hn) ?_
      refine At.Ci rfl (e_order n 3 (by omega) (by omega) _) ?_
      unfold mfS mfC at ih
      rw [sumN, fb_ct_succ] at ih
      refine At.B rfl (fun hc => ?_) (fun hc => ?_)
      · rw [if_pos hc, if_pos (decide_eq_true hc)] at ih
        refine At.Ci rfl (e_flowOf (by omega)) ?_
        refine At.J rfl ?_
        rw [nI_1, nI_1]
        exact ih
      · rw [if_neg hc, if_neg (by rw [decide_eq_false hc]; decide), Nat.add_zero, Int32.add_zero] at ih
        refine At.J rfl ?_
        rw [nI_1]
        exact ih
def wst (r : Row) : Nat → Int32 × Int32
  | 0 => (-1, 0)
  | n + 1 => if (wst r n).2 < rS r n 6 then (nI n, rS r n 6) else wst r n
theorem p_worstStation (h : INV σ) : OKi mX6_worstStation mX7_worstStation [] 3 σ := by
  have hom := h.1.om
  have hsc := h.1.sc
  refine OKi.ask ((wst (σ 8 58) (SC (σ 8 58))).1) h ?_ ?_
  · show At mX6_worstStation 0 [some X, none, none, none] [] σ _
    refine At.F 6 [some X, some (.inl (wst (σ 8 58) 0).1), some (.inl (wst (σ 8 58) 0).2), some (.inl (nI 0))] [] σ rfl ?_
    refine down_ind (N := SC (σ 8 58)) (P := fun n => At mX6_worstStation 6 [some X, some (.inl (wst (σ 8 58) n).1), some (.inl (wst (σ 8 58) n).2), some (.inl (nI n))] [] σ _) ?_ ?_ 0 (Nat.zero_le _)
    · refine At.Bt rfl (by rw [h.2.2.1.sc h.1]; exact ge_s) ?_
      exact At.R rfl
    · intro n hn ih
      refine At.Bf rfl (by rw [h.2.2.1.sc h.1]; exact ge_n (by omega) hn) ?_
      refine At.N rfl (v15 0 n (by omega)) ?_
      rw [nI_clamp (by omega)]
      have hQ := h.2.2.1.2.1 n hn
      rw [wst] at ih
      refine At.B rfl (fun hc => ?_) (fun hc => ?_)
      · rw [hQ.2.2.2.2.2.2.2] at hc
        rw [if_neg (le_nlt hc)] at ih
        refine At.J rfl ?_
        rw [nI_1]
        exact ih
      · rw [hQ.2.2.2.2.2.2.2] at hc
        rw [if_pos (fa_of_nle hc), ← hQ.2.2.2.2.2.2.2] at ih
        refine At.N rfl (v15 0 n (by omega)) ?_
        rw [nI_clamp (by omega)]
        refine At.J rfl ?_
        rw [nI_1]
        exact ih
  · show At mX7_worstStation 0 [some M, none, none, none] [] σ _
    refine At.F 5 [some M, none, none, none] [] (iU σ 7 0 5 0) rfl ?_
    have e := U7_r (σ := σ) (j := 5) (x := 0)
    have hr := h.1
    generalize iU σ 7 0 5 0 = τ at e ⊢
    rw [← e] at hr hom hsc ⊢
    refine At.F 11 [some M, some (.inl (wst (τ 8 58) 0).1), some (.inl (wst (τ 8 58) 0).2), some (.inl (nI 0))] [] τ rfl ?_
    refine down_ind (N := SC (τ 8 58)) (P := fun n => At mX7_worstStation 11 [some M, some (.inl (wst (τ 8 58) n).1), some (.inl (wst (τ 8 58) n).2), some (.inl (nI n))] [] τ _) ?_ ?_ 0 (Nat.zero_le _)
    · refine At.N rfl (v58 1 (by omega)) ?_
      rw [t1]
      refine At.Bt rfl (by rw [hsc.1]; exact ge_s) ?_
      exact At.R rfl
    · intro n hn ih
      refine At.N rfl (v58 1 (by omega)) ?_
      rw [t1]
      refine At.Bf rfl (by rw [hsc.1]; exact ge_n (by omega) hn) ?_
      refine At.Ci rfl (e_station n 6 (by omega) (by omega) _) ?_
      rw [wst] at ih
      refine At.B rfl (fun hc => ?_) (fun hc => ?_)
      · rw [if_neg (le_nlt hc)] at ih
        refine At.J rfl ?_
        rw [nI_1]
        exact ih
      · rw [if_pos (fa_of_nle hc)] at ih
        refine At.Ci rfl (e_station n 6 (by omega) (by omega) _) ?_
        refine At.J rfl ?_
        rw [nI_1]
        exact ih
end PRD
