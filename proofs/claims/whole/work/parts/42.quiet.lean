/-! ===== quiet ticks go in one ===== -/
def wkdO (r : Row) (n : Nat) (i : Nat) : Prop := ∃ q, q < n ∧ ¬ rS r q 0 = -1 ∧ ¬ dnn r q ∧ nn (rS r q 0) = i
section QA
variable {r r' : Row} {m : Nat → Prop} {v : Int32}
theorem wrkVN_7 (hr : RIg m r) {i : Nat} : ∀ n, n ≤ SC r → (wkdO r n i → rO (wrkVN r v n) i 7 = rO r i 7 - v) ∧ (¬ wkdO r n i → rO (wrkVN r v n) i 7 = rO r i 7) := by
  have hsc := hr.sc
  intro n
  induction n with
  | zero => intro _; exact ⟨fun ⟨q, hq, _⟩ => absurd hq (Nat.not_lt_zero q), fun _ => rfl⟩
  | succ n ih =>
    intro hn
    obtain ⟨i1, i2⟩ := ih (by omega)
    have hd := wrkVN_dn (r := r) (v := v) (n := n) (q := n) (by omega) (by omega)
    by_cases c : rS r n 0 = -1 ∨ dnn r n
    · have e : wrkVN r v (n + 1) = wrkVN r v n := by
        rw [wrkVN, wrkV, if_pos (by rw [hd.1, hd.2]; exact c)]
      have k : wkdO r (n + 1) i ↔ wkdO r n i := by
        constructor
        · rintro ⟨q, a, b, d, f⟩
          refine ⟨q, ?_, b, d, f⟩
          by_cases h : q = n
          · subst h; exact absurd c (by rintro (x | x); exact b x; exact d x)
          · omega
        · rintro ⟨q, a, b⟩; exact ⟨q, by omega, b⟩
      rw [e, k]
      exact ⟨i1, i2⟩
    · have hw : ¬ rS r n 0 = -1 := fun x => c (Or.inl x)
      have hdn : ¬ dnn r n := fun x => c (Or.inr x)
      by_cases e : nn (rS r n 0) = i
      · have hno : ¬ wkdO r n i := by
          rintro ⟨q, a, b, d, f⟩
          rcases hr.dis (q := n) (q' := q) (by omega) (by omega) (by omega) hw with x | x
          · exact b x
          · exact x (e.trans f.symm)
        have h7 := wrkV_7 (r := wrkVN r v n) (v := v) (q := n) (by omega) (by rw [hd.1]; exact hw)
        rw [hd.1, e, if_neg (by rw [hd.2]; exact hdn), i2 hno] at h7
        exact ⟨fun _ => h7, fun x => absurd ⟨n, by omega, hw, hdn, e⟩ x⟩
      · have k : wkdO r (n + 1) i ↔ wkdO r n i := by
          constructor
          · rintro ⟨q, a, b, d, f⟩
            refine ⟨q, ?_, b, d, f⟩
            by_cases h : q = n
            · subst h; exact absurd f e
            · omega
          · rintro ⟨q, a, b⟩; exact ⟨q, by omega, b⟩
        have h7 : rO (wrkVN r v (n + 1)) i 7 = rO (wrkVN r v n) i 7 := by
          rw [wrkVN, wrkV_o (by omega) (by omega) (Or.inr (Or.inr (by rw [hd.1]; exact fun x => e x.symm)))]
        rw [h7, k]
        exact ⟨i1, i2⟩
theorem wrkVN_s3 {q : Nat} : ∀ n, n ≤ 6 → q < n → rS (wrkVN r v n) q 3 = if rS r q 0 = -1 ∨ dnn r q then rS r q 3 else rS r q 3 + v := by
  intro n
  induction n with
  | zero => intro _ h; omega
  | succ n ih =>
    intro hn hq
    have hd := wrkVN_dn (r := r) (v := v) (n := n) (q := n) (by omega) (by omega)
    by_cases e : q = n
    · subst e
      have e3 : rS (wrkVN r v q) q 3 = rS r q 3 := wrkVN_n q (by omega) _ (by omega) (fun q' hq' => by omega)
      by_cases c : rS r q 0 = -1 ∨ dnn r q
      · rw [if_pos c, wrkVN, wrkV, if_pos (by rw [hd.1, hd.2]; exact c)]; exact e3
      · rw [if_neg c, wrkVN, wrkV_3 (by rw [hd.1, hd.2]; exact c), e3]
    · rw [wrkVN, show rS (wrkV (wrkVN r v n) n v) q 3 = rS (wrkVN r v n) q 3 from wrkV_n (by omega) (by omega)]
      exact ih (by omega) (by omega)
theorem stvV_ne {n : Nat} (h : n ≠ 10) : stvV r v n = r n := upd_ne' h
theorem wkd_n (hr : RIg m r) {n : Nat} (hn : n < 131) (h0 : n ≠ 0) (h10 : n ≠ 10) (h : ∀ q, q < SC r → n ≠ 11 + 7 * q + 3) : wkd r v n = r n := by
  have hsc := hr.sc
  unfold wkd
  rw [upd_ne' h0, wrkVN_n _ (by omega) _ hn h, stvV_ne h10]
theorem wkd_00 : wkd r v 0 = r 0 + v := upd_eq'
theorem wkd_10 (hr : RIg m r) : wkd r v 10 = r 10 + if isStv r then v else 0 := by
  have hsc := hr.sc
  unfold wkd
  rw [upd_ne' (by omega), wrkVN_n _ (by omega) _ (by omega) (fun q _ => by omega)]
  exact upd_eq'
theorem dn_stvV {q : Nat} : dnn (stvV r v) q ↔ dnn r q := by
  unfold dnn
  rw [stvV_ne (by omega), show rS (stvV r v) q 2 = rS r q 2 from stvV_ne (by omega)]
theorem wkd_s3 (hr : RIg m r) {q : Nat} (hq : q < SC r) : rS (wkd r v) q 3 = if rS r q 0 = -1 ∨ dnn r q then rS r q 3 else rS r q 3 + v := by
  have hsc := hr.sc
  have h := wrkVN_s3 (r := stvV r v) (v := v) (q := q) (SC r) (by omega) hq
  have e0 : rS (stvV r v) q 0 = rS r q 0 := stvV_ne (by omega)
  have e3 : rS (stvV r v) q 3 = rS r q 3 := stvV_ne (by omega)
  show upd (wrkVN (stvV r v) v (SC r)) 0 (r 0 + v) (11 + 7 * q + 3) = _
  rw [upd_ne' (by omega)]
  by_cases c : rS r q 0 = -1 ∨ dnn r q
  · rw [if_pos c]
    rw [if_pos (by rw [e0, dn_stvV]; exact c)] at h
    exact h.trans e3
  · rw [if_neg c]
    rw [if_neg (by rw [e0, dn_stvV]; exact c), e3] at h
    exact h
theorem wkd_o (hr : RIg m r) {i w : Nat} (hw : w < 14) (h7 : w ≠ 7) : rO (wkd r v) i w = rO r i w := by
  have hsc := hr.sc
  show wkd r v (131 + 14 * i + w) = _
  unfold wkd
  rw [upd_ne' (by omega)]
  have := wrkVN_o (r := stvV r v) (v := v) (i := i) hw (SC r) (by omega) (Or.inl h7)
  exact this.trans (stvV_ne (by omega))
theorem wkdO_stvV {n i : Nat} : wkdO (stvV r v) n i ↔ wkdO r n i := by
  have e : ∀ q, rS (stvV r v) q 0 = rS r q 0 := fun q => stvV_ne (by omega)
  constructor
  · rintro ⟨q, a, b, c, d⟩
    rw [e] at b d
    rw [dn_stvV] at c
    exact ⟨q, a, b, c, d⟩
  · rintro ⟨q, a, b, c, d⟩
    refine ⟨q, a, ?_, ?_, ?_⟩
    · rw [e]; exact b
    · rw [dn_stvV]; exact c
    · rw [e]; exact d
theorem wkd_7 (hr : RIg m r) {i : Nat} : (wkdO r (SC r) i → rO (wkd r v) i 7 = rO r i 7 - v) ∧ (¬ wkdO r (SC r) i → rO (wkd r v) i 7 = rO r i 7) := by
  have hu := upd10_ok hr (r 10 + if isStv r then v else 0)
  have h := wrkVN_7 (r := stvV r v) (v := v) hu.1 (i := i) (SC r) (by rw [show SC (stvV r v) = SC r from hu.2.1.sc]; exact Nat.le_refl _)
  rw [wkdO_stvV, show rO (stvV r v) i 7 = rO r i 7 from stvV_ne (by omega)] at h
  have e : rO (wkd r v) i 7 = rO (wrkVN (stvV r v) v (SC r)) i 7 := upd_ne' (by omega)
  rw [e]
  exact h
theorem wkd_lik (hr : RIg m r) : lik r (wkd r v) := by
  have hsc := hr.sc
  exact ⟨fun i w a b c => wkd_o hr a b, fun n hn => wkd_n hr (by omega) (by omega) (by omega) (fun q hq => by omega), fun q w a b c d => wkd_n hr (by omega) (by omega) (by omega) (fun q' hq' => by omega)⟩
/-- zones -/
theorem lik.bfrL (h : lik r r') (hr : RIg m r) {i : Nat} (hi : i < OM r) : bfr r' i = bfr r i := by
  unfold bfr
  by_cases c : bef r i
  · rw [if_pos c, if_pos ((h.befL hr hi).mpr c)]; exact h.1 i 9 (by omega) (by omega) (by omega)
  · rw [if_neg c, if_neg (fun z => c ((h.befL hr hi).mp z)), h.1 i 2 (by omega) (by omega) (by omega), h.2.1.n (by omega) (by omega)]
theorem lik.blnL (h : lik r r') (hr : RIg m r) {i : Nat} (hi : i < OM r) : bln r' i = bln r i := by
  unfold bln
  by_cases c : bef r i
  · rw [if_pos c, if_pos ((h.befL hr hi).mpr c)]; exact h.2.1.n (by omega) (by omega)
  · rw [if_neg c, if_neg (fun z => c ((h.befL hr hi).mp z))]; exact h.2.1.n (by omega) (by omega)
theorem lik.zonE (h : lik r r') (hr : RI r) (hr' : RI r') {i : Nat} (hi : i < OM r) (h0 : r' 0 = r 0) : zon r' i = zon r i := by
  have e3 := h.1 i 3 (by omega) (by omega) (by omega)
  unfold zon
  by_cases hs : rO r i 3 = 1
  · rw [if_pos hs, if_pos (e3.trans hs), pen_eq hr hi hs, pen_eq hr' (by rw [h.2.1.om]; exact hi) (e3.trans hs), h.bfrL hr hi, h.blnL hr hi, h0]
  · rw [if_neg hs, if_neg (fun z => hs (e3.symm.trans z))]
theorem lik.zonM (h : lik r r') (hr : RI r) (hr' : RI r') {i : Nat} (hi : i < OM r) (h0 : (r 0).toInt ≤ (r' 0).toInt) (hz : 2 ≤ zon r i) : 2 ≤ zon r' i := by
  have hs := zon_rel hz
  have hs' : rO r' i 3 = 1 := (h.1 i 3 (by omega) (by omega) (by omega)).trans hs
  have hi' : i < OM r' := by rw [h.2.1.om]; exact hi
  rw [zon_red hr hi hs] at hz
  rw [zon_red hr' hi' hs']
  have hb := pen_b hr hi
  have hb' := pen_b hr' hi'
  have h3 : (3 : Int32).toInt = 3 := rfl
  have hkk : (2000 : Int32).toInt = 2000 := rfl
  have e1 : (3 * pen r i).toInt = 3 * (pen r i).toInt := by rw [fb_mulI (by rw [h3]; omega) (by rw [h3]; omega), h3]
  have e2 : (3 * pen r' i).toInt = 3 * (pen r' i).toInt := by rw [fb_mulI (by rw [h3]; omega) (by rw [h3]; omega), h3]
  rw [fa_lt, e1, hkk] at hz
  rw [fa_lt, e2, hkk]
  have p1 := pen_eq hr hi hs
  have p2 := pen_eq hr' hi' hs'
  have v1 := pen_val hr hi
  have v2 := pen_val hr' hi'
  rw [h.bfrL hr hi, h.blnL hr hi] at p2 v2
  have hbl := bln_b hr i
  have hz0 : (0 : Int32).toInt = 0 := rfl
  by_cases c : r 0 ≤ bfr r i
  · rw [if_pos c] at p1
    rw [p1, hz0] at hz
    omega
  · rw [if_neg c] at p1
    have c := fa_of_nle c
    rw [fa_lt] at c
    rw [if_neg (fun z => by rw [fa_le] at z; omega)] at p2
    rw [p1, v1] at hz
    rw [p2, v2]
    rw [Int.tdiv_eq_ediv_of_nonneg (by omega)] at hz ⊢
    have := Int.ediv_le_ediv (a := 1000 * ((r 0).toInt - (bfr r i).toInt)) (b := 1000 * ((r' 0).toInt - (bfr r i).toInt)) (c := (bln r i).toInt) (by omega) (by omega)
    omega
/-- what seeN changes -/
abbrev mkd (r : Row) (i : Nat) : Prop := rO r i 13 = -1 ∧ 2 ≤ zon r i
abbrev stq (r : Row) (i : Nat) : Int32 := rPs r (oP r i) (oK r i)
def mkS (r : Row) (q n : Nat) : Int32 := sumN (fun i => if mkd r i ∧ stq r i = nI q then 1 else 0) n
theorem seeN_pt (hr : RI r) : ∀ n, n ≤ OM r → (∀ k, k < 131 → (∀ q, q < 6 → k ≠ 11 + 7 * q + 6) → seeN r n k = r k) ∧ (∀ i w, w < 14 → w ≠ 13 → rO (seeN r n) i w = rO r i w) ∧ (∀ i, i < n → mkd r i → rO (seeN r n) i 13 = stq r i) ∧ (∀ i, ¬ (i < n ∧ mkd r i) → rO (seeN r n) i 13 = rO r i 13) ∧ (∀ q, q < 6 → rS (seeN r n) q 6 = rS r q 6 + mkS r q n) := by
  intro n
  induction n with
  | zero => intro _; exact ⟨fun _ _ _ => rfl, fun _ _ _ _ => rfl, fun i h => absurd h (Nat.not_lt_zero i), fun _ _ => rfl, fun q _ => (Int32.add_zero _).symm⟩
  | succ n ih =>
    intro hn
    obtain ⟨a1, a2, a3, a4, a5⟩ := ih (by omega)
    obtain ⟨k1, k2, k3⟩ := seeN_ok hr n (by omega)
    have hl : lik r (seeN r n) := ⟨fun i w a b c => a2 i w a c, k2, fun q w a b c d => a1 _ (by omega) (fun q' _ => by omega)⟩
    have e13 : rO (seeN r n) n 13 = rO r n 13 := a4 n (fun z => absurd z.1 (Nat.lt_irrefl n))
    have ez : zon (seeN r n) n = zon r n := hl.zonE hr k1 (by omega) k3
    rw [seeN, see, e13, ez]
    by_cases c : mkd r n
    · rw [if_pos c]
      have hs := zon_rel c.2
      have est : stq (seeN r n) n = stq r n := hl.stL hr (by omega) hs
      obtain ⟨s1, s2, s3⟩ := hr.at (j := n) (by omega) hs
      have s2' : nn (stq (seeN r n) n) < 6 := by rw [est]; exact s2
      refine ⟨fun k h1 h2 => ?_, fun i w h1 h2 => ?_, fun i h1 h2 => ?_, fun i h1 => ?_, fun q h1 => ?_⟩
      · rw [seeR_n h1 (h2 _ s2')]; exact a1 k h1 h2
      · rw [seeR_o s2' h1 (Or.inr h2)]; exact a2 i w h1 h2
      · by_cases e : i = n
        · subst e
          show seeR (seeN r i) i (131 + 14 * i + 13) = _
          unfold seeR
          rw [upd_ne' (by omega), upd_eq']
          exact est
        · rw [seeR_o s2' (by omega) (Or.inl e)]; exact a3 i (by omega) h2
      · by_cases e : i = n
        · subst e; exact absurd ⟨by omega, c⟩ h1
        · rw [seeR_o s2' (by omega) (Or.inl e)]; exact a4 i (fun z => h1 ⟨by omega, z.2⟩)
      · have hS : mkS r q (n + 1) = mkS r q n + if mkd r n ∧ stq r n = nI q then 1 else 0 := rfl
        rw [hS, ← Int32.add_assoc, ← a5 q h1]
        by_cases e : stq r n = nI q
        · rw [if_pos ⟨c, e⟩]
          have en : nn (stq (seeN r n) n) = q := by rw [est, e]; exact nn_nI (by omega)
          show seeR (seeN r n) n (11 + 7 * q + 6) = _
          unfold seeR
          rw [en, upd_eq']
        · rw [if_neg (fun z => e z.2), Int32.add_zero]
          have s3' : stq r n = nI (nn (stq r n)) := s3
          have en : nn (rPs (seeN r n) (oP (seeN r n) n) (oK (seeN r n) n)) ≠ q := fun z => e (by have z : nn (stq (seeN r n) n) = q := z; rw [est] at z; rw [s3', z])
          exact seeR_n (by omega) (by omega)
    · rw [if_neg c]
      refine ⟨a1, a2, fun i h1 h2 => ?_, fun i h1 => a4 i (fun z => h1 ⟨by omega, z.2⟩), fun q h1 => ?_⟩
      · by_cases e : i = n
        · subst e; exact absurd h2 c
        · exact a3 i (by omega) h2
      · have hS : mkS r q (n + 1) = mkS r q n + if mkd r n ∧ stq r n = nI q then 1 else 0 := rfl
        rw [hS, if_neg (fun z => c z.1), Int32.add_zero]
        exact a5 q h1
theorem seeN_lik (hr : RI r) : lik r (seeN r (OM r)) := by
  obtain ⟨a1, a2, a3, a4, a5⟩ := seeN_pt hr (OM r) (Nat.le_refl _)
  exact ⟨fun i w a b c => a2 i w a c, (seeN_ok hr (OM r) (Nat.le_refl _)).2.1, fun q w a b c d => a1 _ (by omega) (fun q' _ => by omega)⟩
end QA
