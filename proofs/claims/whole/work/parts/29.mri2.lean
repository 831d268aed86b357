/-! ===== rows stay good: work, finish, see; a tick ===== -/
theorem RIg.weak {m m' : Nat → Prop} {r : Row} (hr : RIg m r) (h : ∀ q, q < SC r → m' q → m q) : RIg m' r := by
  obtain ⟨a0, a1, a2, a3, a4, a5, a6, a7, a8, a9, b1, b2, b3⟩ := id hr
  refine ⟨a0, a1, a2, a3, a4, a5, a6, a7, a8, a9, b1, fun i hi => ?_, b3⟩
  obtain ⟨c0, c1, c2, c3, c5, c9, c10, c12, c⟩ := b2 i hi
  refine ⟨c0, c1, c2, c3, c5, c9, c10, c12, ?_⟩
  rcases c with c | c | c | c
  · exact Or.inl c
  · exact Or.inr (Or.inl c)
  · refine Or.inr (Or.inr (Or.inl ⟨c.1, c.2.1, c.2.2.1, c.2.2.2.1, c.2.2.2.2.1, ?_⟩))
    rcases c.2.2.2.2.2 with d | d
    · exact Or.inl d
    · exact Or.inr ⟨d.1, d.2.1, fun x => d.2.2.1 (h _ (hr.at hi c.1).1 x), d.2.2.2⟩
  · exact Or.inr (Or.inr (Or.inr c))
/-- an order that is worked on -/
theorem RIg.wkd {m : Nat → Prop} {r : Row} (hr : RIg m r) {i : Nat} (hi : i < OM r) (h3 : rO r i 3 = 1) (h6 : rO r i 6 = 1) : inR (rO r i 7) 0 1050 ∧ (m (nn (rPs r (oP r i) (oK r i))) → 1 ≤ (rO r i 7).toInt) ∧ rS r (nn (rPs r (oP r i) (oK r i))) 0 = nI i := by
  have := (hr.ord hi).k h3
  rcases this.2.2.2.2 with q | q
  · rw [h6] at q; exact absurd q.1 (by decide)
  · exact q.2
theorem wrk_o {r : Row} {q j w : Nat} (hq : q < 6) (hw : w < 14) (h : w ≠ 7 ∨ rS r q 0 = -1 ∨ j ≠ nn (rS r q 0)) : rO (wrk r q) j w = rO r j w := by
  show wrk r q (131 + 14 * j + w) = _
  unfold wrk
  by_cases hc : rS r q 0 = -1 ∨ dnn r q
  · rw [if_pos hc]
  · rw [if_neg hc, upd_ne' (by omega)]
    rcases h with h | h | h
    · rw [upd_ne' (by omega)]
    · exact absurd (Or.inl h) hc
    · rw [upd_ne' (by omega)]
theorem wrk_n {r : Row} {q n : Nat} (hn : n < 131) (h : n ≠ 11 + 7 * q + 3) : wrk r q n = r n := by
  unfold wrk
  by_cases hc : rS r q 0 = -1 ∨ dnn r q
  · rw [if_pos hc]
  · rw [if_neg hc, upd_ne' (by omega), upd_ne' (by omega)]
theorem wrk_s {r : Row} {q : Nat} (hq : q < 6) : samB r (wrk r q) := fun _ hn => wrk_n (by omega) (by omega)
theorem wrk_7 {r : Row} {q : Nat} (hq : q < 6) (hw : ¬ rS r q 0 = -1) : rO (wrk r q) (nn (rS r q 0)) 7 = if dnn r q then rO r (nn (rS r q 0)) 7 else rO r (nn (rS r q 0)) 7 - 1 := by
  show wrk r q (131 + 14 * nn (rS r q 0) + 7) = _
  unfold wrk
  by_cases hd : dnn r q
  · rw [if_pos (Or.inr hd), if_pos hd]
  · rw [if_neg (by rintro (x | x); exact hw x; exact hd x), if_neg hd, upd_ne' (by omega), upd_eq']
theorem RIg.wrkR {m : Nat → Prop} {r : Row} (hr : RIg m r) {q : Nat} (hq : q < SC r) (hm : m q) : RIg (fun x => m x ∧ x ≠ q) (wrk r q) := by
  have hpm := hr.pm
  have hsc := hr.sc
  have hq6 : q < 6 := by omega
  have hr' : RIg (fun x => m x ∧ x ≠ q) r := hr.weak (fun _ _ h => h.1)
  have hS : ∀ q', q' < SC r → SI (wrk r q) q' := by
    intro q' hq'
    refine SI.same (wrk_s hq6) (hr.sta hq') (wrk_n (by omega) (by omega)) (wrk_n (by omega) (by omega)) (wrk_n (by omega) (by omega)) (fun hn => ?_)
    obtain ⟨w1, w2, w3, w4, w5, w6⟩ := (hr.sta hq').w hn
    exact ⟨fun w hw9 => wrk_o hq6 (by omega) (Or.inl (by omega)), (hr.op w2).2.2.1, (hr.st w2 w4).2.2⟩
  refine hr'.of (wrk_s hq6) (by rw [wrk_n (by omega) (by omega)]; exact hr.1) (fun j hj => ?_) hS
  by_cases e : rS r q 0 = -1 ∨ j ≠ nn (rS r q 0)
  · refine OIg.same (wrk_s hq6) hpm.2 (hr'.ord hj) (fun w hw => wrk_o hq6 hw (Or.inr e)) (fun hs _ h => ?_) (fun h => (hr.st hj h).2.2)
    obtain ⟨p1, p2, -⟩ := hr.at hj hs
    rw [show rS (wrk r q) (nn (rPs r (oP r j) (oK r j))) 0 = rS r (nn (rPs r (oP r j) (oK r j))) 0 from wrk_n (by omega) (by omega)]
    exact h
  · have hw : ¬ rS r q 0 = -1 := fun x => e (Or.inl x)
    have ej : j = nn (rS r q 0) := Classical.byContradiction fun x => e (Or.inr x)
    obtain ⟨w1, w2, w3, w4, w5, w6⟩ := (hr.sta hq).w hw
    have h7 := wrk_7 hq6 hw
    rw [← ej] at w1 w2 w3 w4 w5 w6 h7
    obtain ⟨l1, l2, l3⟩ := hr.wkd hj w4 w5
    have hst : nn (rPs r (oP r j) (oK r j)) = q := by rw [w6]; exact nn_nI (by omega)
    rw [hst] at l2 l3
    have l2 := l2 hm
    obtain ⟨a1, a2, a3, a4, a5⟩ := hr.op hj
    have hk6 := (hr.st hj w4).2.2
    have o1 := a5.k w4
    obtain ⟨b0, b1, b2, b3, b5, b9, b10, b12, -⟩ := a5
    have ho : ∀ w, w < 14 → w ≠ 7 → rO (wrk r q) j w = rO r j w := fun w h1 h2 => wrk_o hq6 h1 (Or.inl h2)
    have eP : oP (wrk r q) j = oP r j := by unfold oP; rw [ho 0 (by omega) (by omega)]
    have eK : oK (wrk r q) j = oK r j := by unfold oK; rw [ho 4 (by omega) (by omega)]
    unfold OIg
    rw [eP, (wrk_s hq6).pm, ho 0 (by omega) (by omega), ho 1 (by omega) (by omega), ho 2 (by omega) (by omega), ho 3 (by omega) (by omega), ho 5 (by omega) (by omega), ho 9 (by omega) (by omega), ho 10 (by omega) (by omega), ho 12 (by omega) (by omega)]
    refine ⟨b0, b1, b2, b3, b5, b9, b10, b12, Or.inr (Or.inr (Or.inl ⟨w4, ?_⟩))⟩
    unfold OI1
    rw [eP, eK, (wrk_s hq6).sn a3, (wrk_s hq6).ps a3 hk6, ho 4 (by omega) (by omega), ho 6 (by omega) (by omega), ho 8 (by omega) (by omega), ho 11 (by omega) (by omega), hst, show rS (wrk r q) q 0 = rS r q 0 from wrk_n (by omega) (by omega)]
    refine ⟨o1.1, o1.2.1, o1.2.2.1, o1.2.2.2.1, Or.inr ⟨w5, ?_, fun x => absurd rfl x.2, l3⟩⟩
    rw [h7]
    split
    · exact l1
    · have : (rO r j 7 - 1).toInt = (rO r j 7).toInt - (1 : Int32).toInt := fb_subI (by have : (1 : Int32).toInt = 1 := rfl; omega) (by have : (1 : Int32).toInt = 1 := rfl; omega)
      have h1 : (1 : Int32).toInt = 1 := rfl
      exact ⟨by omega, by omega⟩
def wrkN (r : Row) : Nat → Row
  | 0 => r
  | n + 1 => wrk (wrkN r n) n
theorem wrkN_ok {r : Row} (hr : RI r) : ∀ n, n ≤ SC r → RIg (fun q => n ≤ q) (wrkN r n) ∧ samB r (wrkN r n) ∧ wrkN r n 0 = r 0 := by
  intro n
  induction n with
  | zero => intro _; exact ⟨hr.weak (fun _ _ _ => trivial), samB.rfl, rfl⟩
  | succ n ih =>
    intro hn
    obtain ⟨a, b, c⟩ := ih (by omega)
    have hsc := hr.sc
    have h2 := a.wrkR (q := n) (by rw [b.sc]; omega) (Nat.le_refl n)
    exact ⟨h2.weak (fun q _ h => ⟨Nat.le_of_succ_le h, by omega⟩), b.trans (wrk_s (by omega)), (wrk_n (by omega) (by omega)).trans c⟩
theorem fin4_o {r : Row} {q i j w : Nat} (hq : q < 6) (hw : w < 14) (h : j ≠ i ∨ (w ≠ 6 ∧ w ≠ 4 ∧ w ≠ 5)) : rO (fin4 r q i) j w = rO r j w := by
  show fin4 r q i (131 + 14 * j + w) = _
  unfold fin4
  repeat (rw [upd_ne' (by omega)])
theorem finR_o {r : Row} {q i j w : Nat} (hq : q < 6) (hw : w < 14) (h : j ≠ i ∨ (w ≠ 6 ∧ w ≠ 4 ∧ w ≠ 5 ∧ w ≠ 3 ∧ w ≠ 11)) : rO (finR r q i) j w = rO r j w := by
  show finR r q i (131 + 14 * j + w) = _
  unfold finR
  split
  · rw [upd_ne' (by omega), upd_ne' (by omega)]
    exact fin4_o hq hw (by omega)
  · exact fin4_o hq hw (by omega)
theorem finR_n {r : Row} {q i n : Nat} (hn : n < 131) (h : n ≠ 11 + 7 * q) : finR r q i n = r n := by
  unfold finR fin4
  split <;> repeat (rw [upd_ne' (by omega)])
theorem finR_s {r : Row} {q i : Nat} (hq : q < 6) : samB r (finR r q i) := fun _ hn => finR_n (by omega) (by omega)
theorem finR_s0 {r : Row} {q i : Nat} (hq : q < 6) : rS (finR r q i) q 0 = -1 := by
  show finR r q i (11 + 7 * q + 0) = _
  unfold finR fin4
  split <;> repeat (first | rw [upd_eq'] | rw [upd_ne' (by omega)])
theorem finR_6 {r : Row} {q i : Nat} : rO (finR r q i) i 6 = 0 := by
  show finR r q i (131 + 14 * i + 6) = _
  unfold finR fin4
  split <;> repeat (first | rw [upd_eq'] | rw [upd_ne' (by omega)])
theorem finR_4 {r : Row} {q i : Nat} : rO (finR r q i) i 4 = rO r i 4 + 1 := by
  show finR r q i (131 + 14 * i + 4) = _
  unfold finR fin4
  split <;> repeat (first | rw [upd_eq'] | rw [upd_ne' (by omega)])
theorem finR_5 {r : Row} {q i : Nat} : rO (finR r q i) i 5 = r 0 := by
  show finR r q i (131 + 14 * i + 5) = _
  unfold finR fin4
  split <;> repeat (first | rw [upd_eq'] | rw [upd_ne' (by omega)])
theorem finR_3 {r : Row} {q i : Nat} (hq : q < 6) : rO (finR r q i) i 3 = if rO r i 4 + 1 = rPn r (oP r i) then 2 else rO r i 3 := by
  show finR r q i (131 + 14 * i + 3) = _
  unfold finR fin4
  split <;> repeat (first | rw [upd_eq'] | rw [upd_ne' (by omega)])
theorem finR_11 {r : Row} {q i : Nat} (hq : q < 6) : rO (finR r q i) i 11 = if rO r i 4 + 1 = rPn r (oP r i) then r 0 else rO r i 11 := by
  show finR r q i (131 + 14 * i + 11) = _
  unfold finR fin4
  split <;> repeat (first | rw [upd_eq'] | rw [upd_ne' (by omega)])
theorem RIg.finRR {m : Nat → Prop} {r : Row} (hr : RIg m r) {q i : Nat} (hq : q < SC r) (hi : i < OM r) (h0 : rS r q 0 = nI i) (h3 : rO r i 3 = 1) (h6 : rO r i 6 = 1) (hs : rPs r (oP r i) (oK r i) = nI q) (h7 : rO r i 7 ≤ 0) : RIg (fun x => m x ∨ x = q) (finR r q i) := by
  have hpm := hr.pm
  have hsc := hr.sc
  have hom := hr.om
  have hq6 : q < 6 := by omega
  obtain ⟨l1, l2, l3⟩ := hr.wkd hi h3 h6
  have h7z : rO r i 7 = 0 := by
    rw [fa_le] at h7
    rw [fa_eq]
    have : (0 : Int32).toInt = 0 := rfl
    omega
  obtain ⟨a1, a2, a3, a4, a5⟩ := hr.op hi
  have hk := hr.st hi h3
  have hn := a4.n
  -- the other orders are not worked on at q
  have hoth : ∀ j, j < OM r → j ≠ i → rO r j 3 = 1 → rO r j 6 = 1 → nn (rPs r (oP r j) (oK r j)) ≠ q := by
    intro j hj e c3 c6 x
    have := (hr.wkd hj c3 c6).2.2
    rw [x, h0] at this
    exact e ((nI_eq (by omega) (by omega)).mp this.symm)
  have hr' : ∀ j, j < OM r → j ≠ i → OIg (fun x => m x ∨ x = q) r j := by
    intro j hj e
    obtain ⟨c0, c1, c2, c3, c5, c9, c10, c12, c⟩ := hr.ord hj
    refine ⟨c0, c1, c2, c3, c5, c9, c10, c12, ?_⟩
    rcases c with c | c | c | c
    · exact Or.inl c
    · exact Or.inr (Or.inl c)
    · refine Or.inr (Or.inr (Or.inl ⟨c.1, c.2.1, c.2.2.1, c.2.2.2.1, c.2.2.2.2.1, ?_⟩))
      rcases c.2.2.2.2.2 with d | d
      · exact Or.inl d
      · exact Or.inr ⟨d.1, d.2.1, fun x => x.elim d.2.2.1 (fun y => absurd y (hoth j hj e c.1 d.1)), d.2.2.2⟩
    · exact Or.inr (Or.inr (Or.inr c))
  have base : RIg (fun _ => False) r := hr.weak (fun _ _ h => h.elim)
  have key : ∀ j, j < OM r → OIg (fun x => m x ∨ x = q) (finR r q i) j := by
    intro j hj
    by_cases e : j = i
    · subst e
      have o1 := a5.k h3
      obtain ⟨b0, b1, b2, b3, b5, b9, b10, b12, -⟩ := a5
      have eP : oP (finR r q j) j = oP r j := by unfold oP; rw [finR_o hq6 (by omega) (by omega)]
      have e41 : rO r j 4 + 1 = nI (oK r j + 1) := by rw [hk.1]; exact nI_1 _
      have eK : oK (finR r q j) j = oK r j + 1 := by unfold oK; rw [finR_4, e41]; exact nn_nI (by omega)
      unfold OIg
      rw [eP, (finR_s hq6).pm, finR_5, finR_3 hq6, finR_o (w := 0) hq6 (by omega) (by omega), finR_o (w := 1) hq6 (by omega) (by omega), finR_o (w := 2) hq6 (by omega) (by omega), finR_o (w := 9) hq6 (by omega) (by omega), finR_o (w := 10) hq6 (by omega) (by omega), finR_o (w := 12) hq6 (by omega) (by omega)]
      refine ⟨b0, b1, b2, b3, hr.1, b9, b10, b12, ?_⟩
      by_cases hl : rO r j 4 + 1 = rPn r (oP r j)
      · rw [if_pos hl]
        refine Or.inr (Or.inr (Or.inr ⟨rfl, ?_⟩))
        unfold OI2
        rw [eP, finR_4, finR_6, finR_11 hq6, if_pos hl, (finR_s hq6).pn a3, finR_o (w := 7) hq6 (by omega) (by omega), finR_o (w := 8) hq6 (by omega) (by omega)]
        exact ⟨hl, rfl, h7z, o1.2.2.1, hr.1⟩
      · rw [if_neg hl]
        refine Or.inr (Or.inr (Or.inl ⟨h3, ?_⟩))
        have hlt : oK r j + 1 < sN r (oP r j) := by
          have : oK r j + 1 ≠ sN r (oP r j) := fun x => hl (by rw [e41, hn.1, x])
          omega
        unfold OI1
        rw [eP, eK, (finR_s hq6).sn a3, finR_4, finR_6, finR_11 hq6, if_neg hl, finR_o (w := 7) hq6 (by omega) (by omega), finR_o (w := 8) hq6 (by omega) (by omega)]
        refine ⟨?_, hlt, o1.2.2.1, o1.2.2.2.1, Or.inl ⟨rfl, h7z⟩⟩
        rw [e41, inR, nI_toInt (by omega)]
        omega
    · refine OIg.same (finR_s hq6) hpm.2 (hr' j hj e) (fun w hw => finR_o hq6 hw (Or.inl e)) (fun c3 c6 h => ?_) (fun h => (hr.st hj h).2.2)
      obtain ⟨p1, p2, -⟩ := hr.at hj c3
      have := hoth j hj e c3 c6
      rw [show rS (finR r q i) (nn (rPs r (oP r j) (oK r j))) 0 = rS r (nn (rPs r (oP r j) (oK r j))) 0 from finR_n (by omega) (by omega)]
      exact h
  have hS : ∀ q', q' < SC r → SI (finR r q i) q' := by
    intro q' hq'
    by_cases e : q' = q
    · subst e
      have hS := hr.sta hq'
      unfold SI
      rw [finR_s0 hq6, show rS (finR r q' i) q' 2 = rS r q' 2 from finR_n (by omega) (by omega), show rS (finR r q' i) q' 5 = rS r q' 5 from finR_n (by omega) (by omega)]
      exact ⟨hS.1, hS.2.1, Or.inl rfl⟩
    · refine SI.same (finR_s hq6) (hr.sta hq') (finR_n (by omega) (by omega)) (finR_n (by omega) (by omega)) (finR_n (by omega) (by omega)) (fun hn9 => ?_)
      obtain ⟨w1, w2, w3, w4, w5, w6⟩ := (hr.sta hq').w hn9
      have hne : nn (rS r q' 0) ≠ i := fun x => by
        rw [x, hs] at w6
        exact e ((nI_eq (by omega) (by omega)).mp w6).symm
      exact ⟨fun w hw9 => finR_o hq6 (by omega) (Or.inl hne), (hr.op w2).2.2.1, (hr.st w2 w4).2.2⟩
  exact hr.of (finR_s hq6) (by rw [finR_n (by omega) (by omega)]; exact hr.1) key hS
theorem RIg.finRI {m : Nat → Prop} {r : Row} (hr : RIg m r) {q : Nat} (hq : q < SC r) : RIg (fun x => m x ∨ x = q) (fin r q) ∧ samB r (fin r q) ∧ fin r q 0 = r 0 := by
  have hsc := hr.sc
  unfold fin
  by_cases h : isFin r q
  · rw [if_pos h]
    obtain ⟨w1, w2, w3, w4, w5, w6⟩ := (hr.sta hq).w h.1
    exact ⟨hr.finRR hq w2 w1 w4 w5 w6 h.2, finR_s (by omega), finR_n (by omega) (by omega)⟩
  · rw [if_neg h]
    refine ⟨?_, samB.rfl, rfl⟩
    obtain ⟨a0, a1, a2, a3, a4, a5, a6, a7, a8, a9, b1, b2, b3⟩ := id hr
    refine ⟨a0, a1, a2, a3, a4, a5, a6, a7, a8, a9, b1, fun i hi => ?_, b3⟩
    obtain ⟨c0, c1, c2, c3, c5, c9, c10, c12, c⟩ := b2 i hi
    refine ⟨c0, c1, c2, c3, c5, c9, c10, c12, ?_⟩
    rcases c with c | c | c | c
    · exact Or.inl c
    · exact Or.inr (Or.inl c)
    · refine Or.inr (Or.inr (Or.inl ⟨c.1, c.2.1, c.2.2.1, c.2.2.2.1, c.2.2.2.2.1, ?_⟩))
      rcases c.2.2.2.2.2 with d | d
      · exact Or.inl d
      · refine Or.inr ⟨d.1, d.2.1, fun x => x.elim d.2.2.1 (fun y => ?_), d.2.2.2⟩
        have hl := d.2.2.2
        rw [y] at hl
        have hom := hr.om
        have hw : ¬ rS r q 0 = -1 := fun z => by rw [z] at hl; exact nI_m1 (by omega) hl.symm
        have hnn : nn (rS r q 0) = i := by rw [hl]; exact nn_nI (by omega)
        have h7 : ¬ rO r i 7 ≤ 0 := fun z => h ⟨hw, by rw [hnn]; exact z⟩
        have h8 := fa_of_nle h7
        rw [fa_lt] at h8
        have : (0 : Int32).toInt = 0 := rfl
        omega
    · exact Or.inr (Or.inr (Or.inr c))
def finN (r : Row) : Nat → Row
  | 0 => r
  | n + 1 => fin (finN r n) n
theorem finN_ok {r : Row} (hr : RIg (fun _ => False) r) : ∀ n, n ≤ SC r → RIg (fun q => q < n) (finN r n) ∧ samB r (finN r n) ∧ finN r n 0 = r 0 := by
  intro n
  induction n with
  | zero => intro _; exact ⟨hr.weak (fun q _ h => absurd h (Nat.not_lt_zero q)), samB.rfl, rfl⟩
  | succ n ih =>
    intro hn
    obtain ⟨a, b, c⟩ := ih (by omega)
    obtain ⟨a', b', c'⟩ := a.finRI (q := n) (by rw [b.sc]; omega)
    exact ⟨a'.weak (fun q _ h => by have : q < n + 1 := h; by_cases e : q = n; exact Or.inr e; exact Or.inl (show q < n by omega)), b.trans b', c'.trans c⟩
theorem seeR_o {r : Row} {i j w : Nat} (hq : nn (rPs r (oP r i) (oK r i)) < 6) (hw : w < 14) (h : j ≠ i ∨ w ≠ 13) : rO (seeR r i) j w = rO r j w := by
  show seeR r i (131 + 14 * j + w) = _
  unfold seeR
  rw [upd_ne' (by omega), upd_ne' (by omega)]
theorem seeR_n {r : Row} {i n : Nat} (hn : n < 131) (h : n ≠ 11 + 7 * nn (rPs r (oP r i) (oK r i)) + 6) : seeR r i n = r n := by
  unfold seeR
  rw [upd_ne' (by omega), upd_ne' (by omega)]
theorem RIg.seeRI {m : Nat → Prop} {r : Row} (hr : RIg m r) {i : Nat} (hi : i < OM r) : RIg m (see r i) ∧ samB r (see r i) ∧ see r i 0 = r 0 := by
  have hsc := hr.sc
  unfold see
  by_cases h : rO r i 13 = -1 ∧ 2 ≤ zon r i
  · rw [if_pos h]
    have h3 := zon_rel h.2
    obtain ⟨s1, s2, s3⟩ := hr.at hi h3
    have hs : samB r (seeR r i) := fun n hn => seeR_n (by omega) (by omega)
    refine ⟨?_, hs, seeR_n (by omega) (by omega)⟩
    refine hr.of hs (by rw [seeR_n (by omega) (by omega)]; exact hr.1) (fun j hj => ?_) (fun q hq => ?_)
    · have o := hr.ord hj
      -- a field that no premise speaks of
      have hf : ∀ w, w < 13 → rO (seeR r i) j w = rO r j w := fun w hw => seeR_o s2 (by omega) (Or.inr (by omega))
      obtain ⟨a0, a1, a2, a3, a5, a9, a10, a12, b⟩ := o
      obtain ⟨q1, q2, q3, q4, q5⟩ := hr.op hj
      have eP : oP (seeR r i) j = oP r j := by unfold oP; rw [hf 0 (by omega)]
      have eK : oK (seeR r i) j = oK r j := by unfold oK; rw [hf 4 (by omega)]
      unfold OIg OI0 OI1 OI2
      rw [eP, eK, hs.pm, hs.sn q3, hs.pn q3, hf 0 (by omega), hf 1 (by omega), hf 2 (by omega), hf 3 (by omega), hf 4 (by omega), hf 5 (by omega), hf 6 (by omega), hf 7 (by omega), hf 8 (by omega), hf 9 (by omega), hf 10 (by omega), hf 11 (by omega), hf 12 (by omega)]
      refine ⟨a0, a1, a2, a3, a5, a9, a10, a12, ?_⟩
      rcases b with b | b | b | b
      · exact Or.inl b
      · exact Or.inr (Or.inl b)
      · refine Or.inr (Or.inr (Or.inl ⟨b.1, b.2.1, b.2.2.1, b.2.2.2.1, b.2.2.2.2.1, ?_⟩))
        rw [hs.ps q3 (hr.st hj b.1).2.2]
        rcases b.2.2.2.2.2 with c | c
        · exact Or.inl c
        · obtain ⟨p1, p2, -⟩ := hr.at hj b.1
          refine Or.inr ⟨c.1, c.2.1, c.2.2.1, ?_⟩
          rw [show rS (seeR r i) (nn (rPs r (oP r j) (oK r j))) 0 = rS r (nn (rPs r (oP r j) (oK r j))) 0 from seeR_n (by omega) (by omega)]
          exact c.2.2.2
      · exact Or.inr (Or.inr (Or.inr b))
    · refine SI.same hs (hr.sta hq) (seeR_n (by omega) (by omega)) (seeR_n (by omega) (by omega)) (seeR_n (by omega) (by omega)) (fun hn => ?_)
      obtain ⟨w1, w2, w3, w4, w5, w6⟩ := (hr.sta hq).w hn
      exact ⟨fun w hw9 => seeR_o s2 (by omega) (Or.inr (by omega)), (hr.op w2).2.2.1, (hr.st w2 w4).2.2⟩
  · rw [if_neg h]
    exact ⟨hr, samB.rfl, rfl⟩
def seeN (r : Row) : Nat → Row
  | 0 => r
  | n + 1 => see (seeN r n) n
theorem seeN_ok {m : Nat → Prop} {r : Row} (hr : RIg m r) : ∀ n, n ≤ OM r → RIg m (seeN r n) ∧ samB r (seeN r n) ∧ seeN r n 0 = r 0 := by
  intro n
  induction n with
  | zero => intro _; exact ⟨hr, samB.rfl, rfl⟩
  | succ n ih =>
    intro hn
    obtain ⟨a, b, c⟩ := ih (by omega)
    obtain ⟨a', b', c'⟩ := a.seeRI (i := n) (by rw [b.om]; omega)
    exact ⟨a', b.trans b', c'.trans c⟩
/-- a tick -/
def tk1 (r : Row) : Row := begN (rels r) (SC r)
def tk2 (r : Row) : Row := wrkN (stvR (tk1 r)) (SC r)
def tk3 (r : Row) : Row := upd (tk2 r) 0 (tk2 r 0 + 1)
def tk4 (r : Row) : Row := finN (tk3 r) (SC r)
def tick (r : Row) : Row := seeN (tk4 r) (OM r)
/-- how many orders are finished in it -/
def finC (r : Row) : Nat → Int32
  | 0 => 0
  | n + 1 => finC r n + if isFinO (finN r n) n then 1 else 0
theorem tk1_ok {r : Row} (hr : RI r) : RI (tk1 r) ∧ samB r (tk1 r) ∧ tk1 r 0 = r 0 := by
  obtain ⟨a, b, c⟩ := rels_ok hr
  obtain ⟨a', b', c'⟩ := begN_ok a (SC r) (by rw [b.sc]; exact Nat.le_refl _)
  exact ⟨a', b.trans b', c'.trans (c 0 (by omega))⟩
theorem tk2_ok {r : Row} (hr : RI r) : RIg (fun _ => False) (tk2 r) ∧ samB r (tk2 r) ∧ tk2 r 0 = r 0 := by
  obtain ⟨a, b, c⟩ := tk1_ok hr
  obtain ⟨a2, b2, c2⟩ := upd10_ok a (tk1 r 10 + if isStv (tk1 r) then 1 else 0)
  obtain ⟨a', b', c'⟩ := wrkN_ok (r := stvR (tk1 r)) a2 (SC r) (by rw [show SC (stvR (tk1 r)) = SC r from (b.trans b2).sc]; exact Nat.le_refl _)
  exact ⟨a'.weak (fun _ _ h => h.elim), (b.trans b2).trans b', c'.trans (c2.trans c)⟩
theorem tk3_ok {r : Row} (hr : RI r) (h0 : (r 0).toInt < 40000) : RIg (fun _ => False) (tk3 r) ∧ samB r (tk3 r) ∧ tk3 r 0 = r 0 + 1 := by
  obtain ⟨a, b, c⟩ := tk2_ok hr
  have h1 : (1 : Int32).toInt = 1 := rfl
  have hr0 := hr.1
  have hx : (tk2 r 0 + 1).toInt = (r 0).toInt + 1 := by rw [c, fb_addI (by omega) (by omega), h1]
  obtain ⟨a', b'⟩ := upd0_ok a (tk2 r 0 + 1) ⟨by omega, by omega⟩
  exact ⟨a', b.trans b', by show upd (tk2 r) 0 (tk2 r 0 + 1) 0 = _; rw [upd_eq', c]⟩
theorem tk4_ok {r : Row} (hr : RI r) (h0 : (r 0).toInt < 40000) : RI (tk4 r) ∧ samB r (tk4 r) ∧ tk4 r 0 = r 0 + 1 := by
  obtain ⟨a, b, c⟩ := tk3_ok hr h0
  obtain ⟨a', b', c'⟩ := finN_ok a (SC r) (by rw [b.sc]; exact Nat.le_refl _)
  exact ⟨a'.weak (fun q h _ => by rw [show SC (finN (tk3 r) (SC r)) = SC r from (b.trans b').sc] at h; exact h), b.trans b', c'.trans c⟩
theorem tick_ok {r : Row} (hr : RI r) (h0 : (r 0).toInt < 40000) : RI (tick r) ∧ samB r (tick r) ∧ tick r 0 = r 0 + 1 := by
  obtain ⟨a, b, c⟩ := tk4_ok hr h0
  obtain ⟨a', b', c'⟩ := seeN_ok a (OM r) (by rw [b.om]; exact Nat.le_refl _)
  exact ⟨a', b.trans b', c'.trans c⟩
