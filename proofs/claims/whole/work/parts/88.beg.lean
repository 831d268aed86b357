/-! ===== the start: the reference's first row, and what holds of both ===== -/
section BEG
variable {σ : iM}
theorem e_begins58 (x y : Int32) : Ev mX7_begins [.inr (8, 58), .inl x, .inl y] σ (evv (mR σ 58 (bgX (σ 8 58) x y))) := by
  show At mX7_begins 0 [some (.inr (8, 58)), some (.inl x), some (.inl y), none] [] σ _
  refine At.F 2 [some (.inr (8, 58)), some (.inl x), some (.inl y), some (.inl (nI 0))] [] σ rfl ?_
  have hz : σ = mR σ 58 (zr (σ 8 58) 0 0) := by rw [zr_0, mR_self]
  generalize hR : σ 8 58 = R at hz ⊢
  have L2 : ∀ m, m ≤ 6 → At mX7_begins 46 [some (.inr (8, 58)), some (.inl x), some (.inl y), some (.inl (nI m))] [] (mR σ 58 (sbR (upd (upd (upd (upd (upd (zr R 0 467) 1 x) 2 y) 5 20) 6 20) 7 100) m)) (evv (mR σ 58 (bgX R x y))) := by
    refine down_ind (N := 6) ?_ ?_
    · refine At.Bt rfl (by decide) ?_
      rw [bgX_e]
      exact At.R rfl
    · intro m hm ih
      have i0 : (11 + 7 * nI m + 0 : Int32) = nI (11 + 7 * m + 0) := ixS m 0
      have i1 : (11 + 7 * nI m + 1 : Int32) = nI (11 + 7 * m + 1) := ixS m 1
      refine At.Bf rfl (by rw [show (6 : Int32) = nI 6 from rfl]; exact ge_n (by omega) hm) ?_
      refine At.N rfl (by rw [i0]; exact v58 _ (by omega)) ?_
      refine At.N rfl (by rw [i1]; exact v58 _ (by omega)) ?_
      rw [i0, i1, nI_clamp (by omega), nI_clamp (by omega)]
      simp only [iU_mR, mR_at, mR_mR]
      rw [sbR_s]
      refine At.J rfl ?_
      rw [nI_1]
      exact ih
  have L1 : ∀ m, m ≤ 467 → At mX7_begins 2 [some (.inr (8, 58)), some (.inl x), some (.inl y), some (.inl (nI m))] [] (mR σ 58 (zr R 0 m)) (evv (mR σ 58 (bgX R x y))) := by
    refine down_ind (N := 467) ?_ ?_
    · refine At.Bt rfl (by decide) ?_
      refine At.N rfl (v58 1 (by omega)) ?_
      refine At.N rfl (v58 2 (by omega)) ?_
      refine At.N rfl (v58 5 (by omega)) ?_
      refine At.N rfl (v58 6 (by omega)) ?_
      refine At.N rfl (v58 7 (by omega)) ?_
      rw [t1, t2, t5, t6, t7]
      simp only [iU_mR, mR_at, mR_mR]
      have := L2 0 (by omega)
      rw [show sbR (upd (upd (upd (upd (upd (zr R 0 467) 1 x) 2 y) 5 20) 6 20) 7 100) 0 = upd (upd (upd (upd (upd (zr R 0 467) 1 x) 2 y) 5 20) 6 20) 7 100 from funext fun j => if_neg (by omega)] at this
      exact At.G this rfl
    · intro m hm ih
      refine At.Bf rfl (by rw [show (467 : Int32) = nI 467 from rfl]; exact fun q => absurd ((nI_leI (by omega) (by omega)).mp q) (by omega)) ?_
      refine At.N rfl (v58 m hm) ?_
      have hs := zr_s (r := R) (a := 0) (n := m)
      rw [Nat.zero_add] at hs
      rw [nI_clamp (by omega), iU_mR, mR_at, mR_mR, hs]
      refine At.J rfl ?_
      rw [nI_1]
      exact ih
  have h0 := L1 0 (by omega)
  rw [← hz] at h0
  exact h0
end BEG
/-- what the cells hold when both constructors have made them -/
def m0 : iM := fun k _ s => match k with
  | 1 => if s = 3 then -1 else 0
  | 2 => if s = 4 then -1 else 0
  | 4 => if s = 4 then 1 else if s = 8 then 20 else if s = 9 then 20 else if s = 10 then 100 else 0
  | 5 => if s = 2 then -1 else if s = 3 then -1 else 0
  | 7 => if s = 14 then -1 else 0
  | _ => 0
def m1 : iM := mR m0 58 (bgX (m0 8 58) 1 0)
theorem m1_r : m1 8 58 = bgX (fun _ => 0) 1 0 := by
  unfold m1
  rw [mR_at]
  rfl
theorem m1_o {k i j : Nat} (h : ¬ (k = 8 ∧ i = 58)) : m1 k i j = m0 k i j := by
  unfold m1 mR
  first | rw [if_neg h] | simp [h]
theorem INV_m1 : INV m1 := by
  have e0 : bgX (fun _ => 0) 1 0 0 = 0 := rfl
  have e1 : bgX (fun _ => 0) 1 0 1 = 1 := rfl
  have e2 : bgX (fun _ => 0) 1 0 2 = 0 := rfl
  have e3 : bgX (fun _ => 0) 1 0 3 = 0 := rfl
  have e4 : bgX (fun _ => 0) 1 0 4 = 0 := rfl
  have e5 : bgX (fun _ => 0) 1 0 5 = 20 := rfl
  have e6 : bgX (fun _ => 0) 1 0 6 = 20 := rfl
  have e7 : bgX (fun _ => 0) 1 0 7 = 100 := rfl
  have e8 : bgX (fun _ => 0) 1 0 8 = 0 := rfl
  have e9 : bgX (fun _ => 0) 1 0 9 = 0 := rfl
  have hSC : SC (bgX (fun _ => 0) 1 0) = 1 := rfl
  have hPM : PM (bgX (fun _ => 0) 1 0) = 0 := rfl
  have hOM : OM (bgX (fun _ => 0) 1 0) = 0 := rfl
  unfold INV
  rw [m1_r]
  refine ⟨?_, ?_, ?_, ?_, ?_, ?_⟩
  · refine ⟨?_, ?_, ⟨?_, ?_⟩, ?_, ?_, ?_, ?_, ?_, ?_, ?_, fun p hp => ?_, fun i hi => ?_, fun q hq => ?_⟩
    · rw [e0]; unfold inR; decide
    · rw [e1]; unfold inR; decide
    · rw [e2]; unfold inR; decide
    · rw [hSC]; show nn (bgX (fun _ => 0) 1 0 2) < 1; rw [e2]; decide
    · rw [e3]; unfold inR; decide
    · rw [e4]; unfold inR; decide
    · rw [e5]; unfold inR; decide
    · rw [e6]; unfold inR; decide
    · rw [e7]; unfold inR; decide
    · rw [e8]; unfold inR; decide
    · rw [e9]; unfold inR; decide
    · rw [hPM] at hp; omega
    · rw [hOM] at hi; omega
    · rw [hSC] at hq
      obtain rfl : q = 0 := by omega
      refine ⟨?_, ?_, Or.inl rfl⟩
      · show inR (0 : Int32) 0 40500
        unfold inR; decide
      · show inR (0 : Int32) 0 50
        unfold inR; decide
  · rw [e0]; decide
  · refine ⟨⟨rfl, rfl, rfl, rfl, rfl, rfl, rfl, rfl, rfl, rfl, rfl⟩, fun q hq => ?_, fun p hp => ?_, fun i hi => ?_⟩
    · rw [hSC] at hq
      obtain rfl : q = 0 := by omega
      exact ⟨rfl, rfl, rfl, rfl, rfl, rfl, rfl, rfl⟩
    · rw [hPM] at hp; omega
    · rw [hOM] at hi; omega
  · refine ⟨?_, rfl, fun i hi => ?_, rfl, rfl⟩
    · show inR (0 : Int32) 0 700
      unfold inR; decide
    · have hi : i < 0 := hi
      omega
  · exact ⟨rfl, Or.inl rfl⟩
  · exact ⟨rfl, Or.inl rfl⟩
