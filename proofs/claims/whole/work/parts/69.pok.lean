/-! ===== what statements leave behind is good ===== -/
/-- a row that reading has made -/
def gdR (r : Row) : Prop := RI r ∧ frs r ∧ r 0 = 0
theorem num1_ok {T : Row} {n : Nat} {lo hi : Int} {a : Nat} {f : Nat → Nat → Out} {y : Nat × Row × Row} (ha : a ≤ n) (h : num1 T n lo hi a f = .inr y) : ∃ (V b : Nat), lo ≤ (V : Int) ∧ (V : Int) ≤ hi ∧ a < b ∧ b ≤ n ∧ f V b = .inr y := by
  unfold num1 at h
  rcases nmb_b (T := T) (lo := lo) (hi := hi) ha with ⟨V, b, e, e1, e2, e3, e4⟩ | ⟨k, q, e, hk⟩
  · rw [e] at h
    exact ⟨V, b, e1, e2, e3, e4, h⟩
  · rw [e] at h; cases h
theorem out_inj {a a' : Nat} {r r' so so' : Row} (h : (.inr (a, r, so) : Out) = .inr (a', r', so')) : a = a' ∧ r = r' ∧ so = so' := by
  have h := Sum.inr.inj h
  exact ⟨congrArg Prod.fst h, congrArg (fun z => z.2.1) h, congrArg (fun z => z.2.2) h⟩
section POK
variable {T : Row} {n : Nat}
theorem frs_upd {r : Row} {w : Nat} {v : Int32} (h : frs r) (hw : w < 53) (h3 : w ≠ 3) : frs (upd r w v) := fun p hp hp6 => by
  have e : PM (upd r w v) = PM r := by unfold PM; rw [upd_ne' (by omega)]
  rw [e] at hp
  rw [show rPn (upd r w v) p = rPn r p from upd_ne' (by omega)]
  exact h p hp hp6
theorem prL_ok : ∀ f k, f + k = 7 → k ≤ 6 → ∀ (a : Nat) (r : Row), a ≤ n → RI r → PM r < 6 → pgI r k → (∀ p, PM r < p → p < 6 → rPn r p = 0) → ∀ a' r', prL T n f a r k = .inr (a', r') → RI r' ∧ frs r' ∧ r' 0 = r 0 ∧ a < a' ∧ a' ≤ n ∧ OM r' = OM r ∧ (∀ j, 467 ≤ j → r' j = r j) := by
  intro f
  induction f with
  | zero => intro k hk hk6; omega
  | succ f ih =>
    intro k hk hk6 a r ha hr hp hg hfr a' r' h
    rw [prL] at h
    cases hs : stp1 T n a r k with
    | inl e => rw [hs] at h; cases h
    | inr y =>
      obtain ⟨a4, r4⟩ := y
      rw [hs] at h
      dsimp only at h
      obtain ⟨q, t, e4, hk5, hr', epm, hg', hlt, hle⟩ := stp1_ok ha hr hp hg hk6 hs
      have hA : a4 ≤ nmA T n a4 ∧ nmA T n a4 ≤ n ∧ ¬ (nmA T n a4 < n ∧ isSp (T (nmA T n a4)) = true) := sc_b hle
      have hn : ∀ j, j < 53 + 13 * PM r ∨ 53 + 13 * PM r + 13 ≤ j → r4 j = r j := fun j hj => by rw [e4]; exact stU_n hj hk5
      have hfr4 : ∀ p, PM r4 < p → p < 6 → rPn r4 p = 0 := fun p h1 h2 => by rw [epm] at h1; exact (hn _ (by omega)).trans (hfr p h1 h2)
      have eom : OM r4 = OM r := by unfold OM; rw [hn _ (by omega)]
      by_cases cd : nmA T n a4 < n ∧ isDg (T (nmA T n a4)) = true
      · rw [if_pos cd] at h
        obtain ⟨x1, x2, x3, x4, x5, x6, x7⟩ := ih (k + 1) (by omega) (by omega) _ r4 hA.2.1 hr' (by omega) hg' hfr4 a' r' h
        exact ⟨x1, x2, x3.trans (hn _ (by omega)), by omega, x5, x6.trans eom, fun j hj => (x7 j hj).trans (hn j (by omega))⟩
      · rw [if_neg cd] at h
        by_cases ch : hsD r4 (PM r4) (k + 1) = true
        · rw [if_pos ch] at h
          have h := Sum.inr.inj h
          have x1 : nmA T n a4 = a' := congrArg Prod.fst h
          have x2 : upd r4 3 (nI (PM r4 + 1)) = r' := congrArg Prod.snd h
          subst x1
          subst x2
          obtain ⟨g1, -, -⟩ := prd_RI hr' (by omega) (k := k + 1) (by omega) (by omega) hg' ch
          have e' : PM (upd r4 3 (nI (PM r4 + 1))) = PM r4 + 1 := by
            show nn (upd r4 3 (nI (PM r4 + 1)) 3) = _
            rw [upd_eq', nn_nI (by omega)]
          refine ⟨g1, fun p h1 h2 => ?_, ?_, by omega, hA.2.1, ?_, fun j hj => ?_⟩
          · rw [e'] at h1
            rw [show rPn (upd r4 3 (nI (PM r4 + 1))) p = rPn r4 p from upd_ne' (by omega)]
            exact hfr4 p (by omega) h2
          · rw [upd_ne' (by omega)]; exact hn _ (by omega)
          · rw [← eom]; unfold OM; rw [upd_ne' (by omega)]
          · rw [upd_ne' (by omega)]; exact hn j (by omega)
        · rw [if_neg ch] at h; cases h
theorem stF_ok {st a : Nat} {r so : Row} (ha : a ≤ n) (hr : RI r) (hf : frs r) {a' : Nat} {r' so' : Row} (h : stF T n st a r so = .inr (a', r', so')) : RI r' ∧ frs r' ∧ r' 0 = r 0 ∧ a < a' ∧ a' ≤ n ∧ (∀ j, 467 ≤ j → r' j = r j) := by
  have hA : a ≤ wdA T n a ∧ wdA T n a ≤ n ∧ ¬ (wdA T n a < n ∧ isSp (T (wdA T n a)) = true) := sc_b ha
  have hE : wdA T n a ≤ wdE T n a ∧ wdE T n a ≤ n ∧ ¬ (wdE T n a < n ∧ isLt (T (wdE T n a)) = true) := sc_b hA.2.1
  have hsc := hr.sc
  have hpm := hr.pm
  have hom := hr.om
  unfold stF at h
  by_cases c3 : isW T (wdA T n a) (wdE T n a) 3
  · rw [if_pos c3] at h
    obtain ⟨V, b, e1, e2, e3, e4, h⟩ := num1_ok hE.2.1 h
    obtain ⟨V2, b2, f1, f2, f3, f4, h⟩ := num1_ok e4 h
    obtain ⟨rfl, rfl, rfl⟩ := out_inj h
    refine ⟨(hr.t5 (inR_n e1 e2 (by omega))).t6 (inR_n f1 f2 (by omega)), frs_upd (frs_upd hf (by omega) (by omega)) (by omega) (by omega), by rw [upd_ne' (by omega), upd_ne' (by omega)], by omega, f4, fun j hj => by rw [upd_ne' (by omega), upd_ne' (by omega)]⟩
  rw [if_neg c3] at h
  by_cases c4 : isW T (wdA T n a) (wdE T n a) 4
  · rw [if_pos c4] at h
    obtain ⟨V, b, e1, e2, e3, e4, h⟩ := num1_ok hE.2.1 h
    obtain ⟨rfl, rfl, rfl⟩ := out_inj h
    exact ⟨hr.rope (inR_n e1 e2 (by omega)), frs_upd hf (by omega) (by omega), upd_ne' (by omega), by omega, e4, fun j hj => upd_ne' (by omega)⟩
  rw [if_neg c4] at h
  by_cases c5 : isW T (wdA T n a) (wdE T n a) 5
  · rw [if_pos c5] at h
    obtain ⟨V, b, e1, e2, e3, e4, h⟩ := num1_ok hE.2.1 h
    obtain ⟨rfl, rfl, rfl⟩ := out_inj h
    exact ⟨hr.rule (inR_n e1 e2 (by omega)), frs_upd hf (by omega) (by omega), upd_ne' (by omega), by omega, e4, fun j hj => upd_ne' (by omega)⟩
  rw [if_neg c5] at h
  by_cases c6 : isW T (wdA T n a) (wdE T n a) 6
  · rw [if_pos c6] at h
    obtain ⟨V, b, e1, e2, e3, e4, h⟩ := num1_ok hE.2.1 h
    obtain ⟨rfl, rfl, rfl⟩ := out_inj h
    exact ⟨hr.t9 (inR_n e1 e2 (by omega)), frs_upd hf (by omega) (by omega), upd_ne' (by omega), by omega, e4, fun j hj => upd_ne' (by omega)⟩
  rw [if_neg c6] at h
  by_cases c7 : isW T (wdA T n a) (wdE T n a) 7
  · rw [if_pos c7] at h
    obtain ⟨V, b, e1, e2, e3, e4, h⟩ := num1_ok hE.2.1 h
    obtain ⟨V2, b2, f1, f2, f3, f4, h⟩ := num1_ok e4 h
    obtain ⟨rfl, rfl, rfl⟩ := out_inj h
    exact ⟨hr.set5 (q := V) (by omega) (inR_n f1 f2 (by omega)), frs_upd hf (by omega) (by omega), upd_ne' (by omega), by omega, f4, fun j hj => upd_ne' (by omega)⟩
  rw [if_neg c7] at h
  by_cases c1 : isW T (wdA T n a) (wdE T n a) 1
  · rw [if_pos c1] at h
    by_cases c : PM r = 6
    · rw [if_pos c] at h; cases h
    · rw [if_neg c] at h
      have hB : wdE T n a ≤ nmA T n (wdE T n a) ∧ nmA T n (wdE T n a) ≤ n ∧ ¬ (nmA T n (wdE T n a) < n ∧ isSp (T (nmA T n (wdE T n a))) = true) := sc_b hE.2.1
      cases hs : prL T n 7 (nmA T n (wdE T n a)) r 0 with
      | inl e => rw [hs] at h; cases h
      | inr y =>
        obtain ⟨a4, r4⟩ := y
        rw [hs] at h
        dsimp only at h
        obtain ⟨rfl, rfl, rfl⟩ := out_inj h
        have hg : pgI r 0 := ⟨hf _ (Nat.le_refl _) (by omega), fun j hj => absurd hj (Nat.not_lt_zero j), fun i j hi => absurd hi (Nat.not_lt_zero i)⟩
        obtain ⟨x1, x2, x3, x4, x5, x6, x7⟩ := prL_ok 7 0 rfl (by omega) _ r hB.2.1 hr (by omega) hg (fun p h1 h2 => hf p (by omega) h2) _ _ hs
        exact ⟨x1, x2, x3, by omega, x5, x7⟩
  rw [if_neg c1] at h
  by_cases c2 : isW T (wdA T n a) (wdE T n a) 2
  · rw [if_pos c2] at h
    by_cases c : OM r = 24
    · rw [if_pos c] at h; cases h
    · rw [if_neg c] at h
      obtain ⟨V, b, e1, e2, e3, e4, h⟩ := num1_ok hE.2.1 h
      obtain ⟨V2, b2, f1, f2, f3, f4, h⟩ := num1_ok e4 h
      obtain ⟨V3, b3, g1, g2, g3, g4, h⟩ := num1_ok f4 h
      obtain ⟨rfl, rfl, rfl⟩ := out_inj h
      refine ⟨lay_RI hr (by omega) (by omega) (inR_n f1 f2 (by omega)) (inR_n g1 g2 (by omega)), fun p h1 h2 => ?_, lay_n (by omega) (by omega), by omega, g4, fun j hj => lay_n (by omega) (by omega)⟩
      rw [lay_pm] at h1
      exact (lay_n (by omega) (by omega)).trans (hf p h1 h2)
  rw [if_neg c2] at h
  cases h
theorem fsF_ok {R so : Row} {a' : Nat} {r' so' : Row} (h : fsF T n R so = .inr (a', r', so')) : ∃ c d, r' = bgU R c d ∧ 1 ≤ c ∧ c ≤ 6 ∧ d < c ∧ a' ≤ n ∧ so' = so := by
  have hA : 0 ≤ wdA T n 0 ∧ wdA T n 0 ≤ n ∧ ¬ (wdA T n 0 < n ∧ isSp (T (wdA T n 0)) = true) := sc_b (Nat.zero_le _)
  have hE : wdA T n 0 ≤ wdE T n 0 ∧ wdE T n 0 ≤ n ∧ ¬ (wdE T n 0 < n ∧ isLt (T (wdE T n 0)) = true) := sc_b hA.2.1
  unfold fsF at h
  by_cases c : isW T (wdA T n 0) (wdE T n 0) 0
  · rw [if_pos c] at h
    obtain ⟨V, b, e1, e2, e3, e4, h⟩ := num1_ok hE.2.1 h
    obtain ⟨V2, b2, f1, f2, f3, f4, h⟩ := num1_ok e4 h
    obtain ⟨rfl, rfl, rfl⟩ := out_inj h
    exact ⟨V, V2, rfl, by omega, by omega, by omega, f4, rfl⟩
  · rw [if_neg c] at h; cases h
end POK
