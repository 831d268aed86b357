/-! ===== what a tick leaves as it is ===== -/
abbrev stS (r r' : Row) (i : Nat) : Prop := rO r' i 2 = rO r i 2 ∧ (¬ rO r i 3 = 0 → rO r' i 3 = rO r i 3 ∧ rO r' i 11 = rO r i 11) ∧ (rO r i 3 = 0 → rO r' i 3 = 0 ∨ rO r' i 3 = 1)
section STAY
variable {r : Row}
theorem relF_st : ∀ (t : List (Nat × Int32)) (r : Row) (load : Int32), (∀ i, stS r (relF r load t) i) ∧ (∀ i w, (∀ q ∈ t, q.1 ≠ i) → w < 14 → rO (relF r load t) i w = rO r i w) := by
  intro t
  induction t with
  | nil => intro r load; exact ⟨fun i => ⟨rfl, fun _ => ⟨rfl, rfl⟩, fun h => Or.inl h⟩, fun _ _ _ _ => rfl⟩
  | cons q t ih =>
    intro r load
    obtain ⟨x, s⟩ := q
    rw [relF]
    by_cases c : rO r x 3 = 0 ∧ s - r 5 ≤ r 0
    · rw [if_pos c]
      by_cases d : r 7 < load + wk r x
      · rw [if_pos d]
        exact ⟨fun i => ⟨rfl, fun _ => ⟨rfl, rfl⟩, fun h => Or.inl h⟩, fun _ _ _ _ => rfl⟩
      · rw [if_neg d]
        obtain ⟨i1, i2⟩ := ih (rel1 r x (s - r 5)) (load + wk r x)
        refine ⟨fun i => ?_, fun i w hq hw => ?_⟩
        · obtain ⟨a1, a2, a3⟩ := i1 i
          by_cases e : i = x
          · subst e
            have h3 : rO (rel1 r i (s - r 5)) i 3 = 1 := rel1_3
            have n0 : ¬ rO (rel1 r i (s - r 5)) i 3 = 0 := by rw [h3]; decide
            refine ⟨a1.trans (rel1_o (by omega) (by omega)), fun h => absurd c.1 h, fun _ => Or.inr ((a2 n0).1.trans h3)⟩
          · have o : ∀ w, w < 14 → rO (rel1 r x (s - r 5)) i w = rO r i w := fun w hw => rel1_o hw (Or.inl e)
            unfold stS at *
            rw [o 2 (by omega)] at a1
            rw [o 3 (by omega), o 11 (by omega)] at a2
            rw [o 3 (by omega)] at a3
            exact ⟨a1, a2, a3⟩
        · rw [i2 i w (fun q hq' => hq q (List.mem_cons_of_mem _ hq')) hw]
          exact rel1_o hw (Or.inl (Ne.symm (hq (x, s) List.mem_cons_self)))
    · rw [if_neg c]
      obtain ⟨i1, i2⟩ := ih r load
      exact ⟨i1, fun i w hq hw => i2 i w (fun q hq' => hq q (List.mem_cons_of_mem _ hq')) hw⟩
theorem begN_o (hr : RI r) {i w : Nat} (hw : w < 14) (h : OM r ≤ i ∨ (w ≠ 6 ∧ w ≠ 7 ∧ w ≠ 10)) : ∀ n, n ≤ SC r → rO (begN r n) i w = rO r i w := by
  intro n
  have hsc := hr.sc
  induction n with
  | zero => intro _; rfl
  | succ n ih =>
    intro hn
    obtain ⟨a, b, c⟩ := begN_ok hr n (by omega)
    rw [← ih (by omega), begN, beg]
    split
    · rename_i hc
      refine begR_o (by omega) hw (h.imp (fun z => ?_) id)
      rcases cho_ok a n (OM (begN r n)) (Nat.le_refl _) with q | ⟨x, q1, q2, q3⟩
      · exact absurd q hc.2.2
      · have := a.om
        rw [q2, nn_nI (by omega)]
        rw [b.om] at q1
        omega
    · rfl
theorem tk3_st (hr : RI r) {i : Nat} : stS r (tk3 r) i := by
  obtain ⟨a, b, c⟩ := rels_ok hr
  obtain ⟨a', b', c'⟩ := tk1_ok hr
  rw [tk3_wkd hr]
  have e : ∀ w, w < 14 → w ≠ 6 → w ≠ 7 → w ≠ 10 → rO (wkd (tk1 r) 1) i w = rO (rels r) i w := fun w h1 h2 h3 h4 => by
    rw [wkd_o a' h1 h3]
    exact begN_o a h1 (Or.inr ⟨h2, h3, h4⟩) (SC r) (by rw [b.sc]; exact Nat.le_refl _)
  have h := (relF_st (schF r) r (ropeL r)).1 i
  unfold stS at h ⊢
  rw [e 2 (by omega) (by omega) (by omega) (by omega), e 3 (by omega) (by omega) (by omega) (by omega), e 11 (by omega) (by omega) (by omega) (by omega)]
  exact h
theorem tk3_tl (hr : RI r) {i w : Nat} (hi : 24 ≤ i) (hw : w < 14) : rO (tk3 r) i w = rO r i w := by
  obtain ⟨a, b, c⟩ := rels_ok hr
  obtain ⟨a', b', c'⟩ := tk1_ok hr
  have hom := hr.om
  have hsc := hr.sc
  rw [tk3_wkd hr]
  have e1 : rO (wkd (tk1 r) 1) i w = rO (tk1 r) i w := by
    by_cases h7 : w = 7
    · subst h7
      refine (wkd_7 a').2 ?_
      rintro ⟨q, q1, q2, q3, q4⟩
      have := ((a'.sta q1).w q2).2.2.1
      omega
    · exact wkd_o a' hw h7
  have e2 : rO (tk1 r) i w = rO (rels r) i w := begN_o a hw (Or.inl (by rw [b.om]; omega)) (SC r) (by rw [b.sc]; exact Nat.le_refl _)
  rw [e1, e2]
  exact (relF_st (schF r) r (ropeL r)).2 i w (fun q hq => by have := (schF_mem (x := q.1) (s := q.2) hq).1; omega) hw
abbrev FC (r : Row) : Nat := fb_ct (fun i => decide (rO r i 3 = 2)) (OM r)
def finK (r : Row) : Nat → Nat
  | 0 => 0
  | n + 1 => finK r n + if isFinO (finN r n) n then 1 else 0
theorem finC_K (r : Row) : ∀ n, finC r n = nI (finK r n) := by
  intro n
  induction n with
  | zero => rfl
  | succ n ih =>
    rw [finC, finK, ih]
    by_cases c : isFinO (finN r n) n
    · rw [if_pos c, if_pos c, nI_1]
    · rw [if_neg c, if_neg c, Int32.add_zero, Nat.add_zero]
theorem finN_st (hr : RIg (fun _ => False) r) : ∀ n, n ≤ SC r → (∀ i, rO (finN r n) i 2 = rO r i 2 ∧ (¬ rO r i 3 = 1 → ∀ w, w < 14 → rO (finN r n) i w = rO r i w)) ∧ FC (finN r n) = FC r + finK r n := by
  intro n
  have hsc := hr.sc
  induction n with
  | zero => intro _; exact ⟨fun i => ⟨rfl, fun _ _ _ => rfl⟩, rfl⟩
  | succ n ih =>
    intro hn
    obtain ⟨i1, i2⟩ := ih (by omega)
    obtain ⟨a, b, c⟩ := finN_ok hr n (by omega)
    obtain ⟨a2, b2, c2⟩ := finN_ok hr (n + 1) hn
    have hq : n < SC (finN r n) := by rw [b.sc]; omega
    rw [finK, finN, fin]
    by_cases f : isFin (finN r n) n
    · rw [if_pos f]
      obtain ⟨w1, w2, w3, w4, w5, w6⟩ := (a.sta hq).w f.1
      refine ⟨fun i => ⟨?_, fun h3 w hw => ?_⟩, ?_⟩
      · rw [finR_o (by omega) (by omega) (by omega)]; exact (i1 i).1
      · have e : i ≠ (nn (rS (finN r n) n 0)) := fun e => by
          rw [← e, (i1 i).2 h3 3 (by omega)] at w4
          exact h3 w4
        rw [finR_o (by omega) hw (Or.inl e)]; exact (i1 i).2 h3 w hw
      · have e3 := finR_3 (r := finN r n) (q := n) (i := (nn (rS (finN r n) n 0))) (by omega)
        have hom : OM (finR (finN r n) n (nn (rS (finN r n) n 0))) = OM (finN r n) := (finR_s (by omega)).om
        have h := fb_ct_upd (fun i => decide (rO (finN r n) i 3 = 2)) (decide (rO (finR (finN r n) n (nn (rS (finN r n) n 0))) (nn (rS (finN r n) n 0)) 3 = 2)) w2
        have e : fb_ct (fun k => if k = (nn (rS (finN r n) n 0)) then decide (rO (finR (finN r n) n (nn (rS (finN r n) n 0))) (nn (rS (finN r n) n 0)) 3 = 2) else decide (rO (finN r n) k 3 = 2)) (OM (finN r n)) = FC (finR (finN r n) n (nn (rS (finN r n) n 0))) := by
          unfold FC
          rw [hom]
          refine fb_ct_cong (fun k hk => ?_)
          by_cases e : k = (nn (rS (finN r n) n 0))
          · rw [if_pos e, e]
          · rw [if_neg e, finR_o (by omega) (by omega) (Or.inl e)]
        rw [e] at h
        have n2 : ¬ rO (finN r n) (nn (rS (finN r n) n 0)) 3 = 2 := by rw [w4]; decide
        rw [if_neg (by rw [decide_eq_true_eq]; exact n2), Nat.add_zero] at h
        rw [h]
        have i2 : fb_ct (fun i => decide (rO (finN r n) i 3 = 2)) (OM (finN r n)) = FC r + finK r n := i2
        rw [i2]
        by_cases g : rO (finN r n) (nn (rS (finN r n) n 0)) 4 + 1 = rPn (finN r n) (oP (finN r n) (nn (rS (finN r n) n 0)))
        · rw [if_pos g] at e3
          rw [if_pos (by rw [decide_eq_true_eq]; exact e3), if_pos ⟨f, g⟩]
          omega
        · rw [if_neg g] at e3
          rw [if_neg (by rw [decide_eq_true_eq, e3]; exact n2), if_neg (fun z => g z.2)]
          omega
    · rw [if_neg f, if_neg (fun z => f z.1), Nat.add_zero]
      exact ⟨i1, i2⟩
theorem finN_tl (hr : RIg (fun _ => False) r) {i w : Nat} (hi : 24 ≤ i) (hw : w < 14) : ∀ n, n ≤ SC r → rO (finN r n) i w = rO r i w := by
  intro n
  have hsc := hr.sc
  induction n with
  | zero => intro _; rfl
  | succ n ih =>
    intro hn
    obtain ⟨a, b, c⟩ := finN_ok hr n (by omega)
    have hq : n < SC (finN r n) := by rw [b.sc]; omega
    rw [← ih (by omega), finN, fin]
    by_cases f : isFin (finN r n) n
    · rw [if_pos f]
      have := ((a.sta hq).w f.1).2.2.1
      exact finR_o (by omega) hw (Or.inl (by omega))
    · rw [if_neg f]
theorem tick_st (hr : RI r) (h0 : (r 0).toInt < 40000) : (∀ i, rO (tick r) i 2 = rO r i 2 ∧ (rO r i 3 = 2 ∨ rO r i 3 = 3 → rO (tick r) i 3 = rO r i 3 ∧ rO (tick r) i 11 = rO r i 11)) ∧ FC (tick r) = FC r + finK (tk3 r) (SC r) ∧ (∀ i w, 24 ≤ i → w < 14 → rO (tick r) i w = rO r i w) := by
  obtain ⟨a3, b3, c3⟩ := tk3_ok hr h0
  obtain ⟨a4, b4, c4⟩ := tk4_ok hr h0
  obtain ⟨a5, b5, c5⟩ := tick_ok hr h0
  have hsc : SC (tk3 r) = SC r := b3.sc
  obtain ⟨f1, f2⟩ := finN_st a3 (SC r) (by rw [hsc]; exact Nat.le_refl _)
  have hse := seeN_pt a4 (OM r) (by rw [b4.om]; exact Nat.le_refl _)
  have s2 : ∀ i w, w < 14 → w ≠ 13 → rO (tick r) i w = rO (tk4 r) i w := hse.2.1
  refine ⟨fun i => ⟨?_, fun h => ?_⟩, ?_, fun i w hi hw => ?_⟩
  · rw [s2 i 2 (by omega) (by omega)]
    exact ((f1 i).1).trans (tk3_st hr).1
  · rw [s2 i 3 (by omega) (by omega), s2 i 11 (by omega) (by omega)]
    have n0 : ¬ rO r i 3 = 0 := by rcases h with h | h <;> rw [h] <;> decide
    have n1 : ¬ rO r i 3 = 1 := by rcases h with h | h <;> rw [h] <;> decide
    obtain ⟨k1, k2⟩ := (tk3_st hr (i := i)).2.1 n0
    have n1' : ¬ rO (tk3 r) i 3 = 1 := by rw [k1]; exact n1
    exact ⟨((f1 i).2 n1' 3 (by omega)).trans k1, ((f1 i).2 n1' 11 (by omega)).trans k2⟩
  · have e1 : FC (tick r) = FC (tk4 r) := by
      unfold FC
      rw [b5.om, b4.om]
      exact fb_ct_cong (fun i _ => by rw [s2 i 3 (by omega) (by omega)])
    have e2 : FC (tk3 r) = FC r := by
      unfold FC
      rw [b3.om]
      refine fb_ct_cong (fun i _ => decide_eq_decide.mpr ?_)
      obtain ⟨k1, k2, k3⟩ := tk3_st hr (i := i)
      by_cases z : rO r i 3 = 0
      · rw [z]
        rcases k3 z with q | q <;> rw [q] <;> decide
      · rw [(k2 z).1]
    rw [e1]
    show FC (finN (tk3 r) (SC r)) = _
    rw [f2, e2]
  · have hom := hr.om
    have e : rO (tick r) i w = rO (tk4 r) i w := by
      by_cases c : w = 13
      · subst c
        exact hse.2.2.2.1 i (fun z => by omega)
      · exact s2 i w hw c
    rw [e]
    show rO (finN (tk3 r) (SC r)) i w = _
    rw [finN_tl a3 hi hw (SC r) (by rw [hsc]; exact Nat.le_refl _), tk3_tl hr hi hw]
theorem tkN_st (hr : RI r) : ∀ n : Nat, (r 0).toInt + n ≤ 40000 → (∀ i, rO (tkN r n) i 2 = rO r i 2 ∧ (rO r i 3 = 2 ∨ rO r i 3 = 3 → rO (tkN r n) i 3 = rO r i 3 ∧ rO (tkN r n) i 11 = rO r i 11)) ∧ FC r ≤ FC (tkN r n) ∧ (∀ j, 467 ≤ j → tkN r n j = r j) := by
  intro n
  induction n with
  | zero => intro _; exact ⟨fun i => ⟨rfl, fun _ => ⟨rfl, rfl⟩⟩, Nat.le_refl _, fun _ _ => rfl⟩
  | succ n ih =>
    intro hn
    obtain ⟨i1, i2, i3⟩ := ih (by omega)
    obtain ⟨a, b, c⟩ := tkN_ok hr n (by omega)
    obtain ⟨t1, t2, t3⟩ := tick_st a (by omega)
    refine ⟨fun i => ⟨(t1 i).1.trans (i1 i).1, fun h => ?_⟩, ?_, fun j hj => ?_⟩
    · obtain ⟨k1, k2⟩ := (i1 i).2 h
      obtain ⟨m1, m2⟩ := (t1 i).2 (by rw [k1]; exact h)
      exact ⟨m1.trans k1, m2.trans k2⟩
    · show _ ≤ FC (tick (tkN r n))
      omega
    · rw [← i3 j hj]
      have := t3 ((j - 131) / 14) ((j - 131) % 14) (by omega) (by omega)
      unfold rO at this
      rw [show 131 + 14 * ((j - 131) / 14) + (j - 131) % 14 = j by omega] at this
      exact this
end STAY
