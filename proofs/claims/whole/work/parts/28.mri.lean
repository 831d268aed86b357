/-! ===== rows stay good: release, begin, work, finish, see ===== -/
theorem relF_ok {m : Nat → Prop} : ∀ (t : List (Nat × Int32)) (r : Row) (load : Int32), RIg m r → (∀ q ∈ t, q.1 < OM r ∧ (r 0).toInt ≤ q.2.toInt ∧ q.2.toInt ≤ 70000) → RIg m (relF r load t) ∧ samB r (relF r load t) ∧ ∀ n, n < 131 → relF r load t n = r n := by
  intro t
  induction t with
  | nil => intro r load hr _; exact ⟨hr, samB.rfl, fun _ _ => rfl⟩
  | cons y t ih =>
    obtain ⟨x, s⟩ := y
    intro r load hr h3
    have hx : x < OM r ∧ (r 0).toInt ≤ s.toInt ∧ s.toInt ≤ 70000 := h3 (x, s) List.mem_cons_self
    have h5 := hr.2.2.2.2.2.1
    have h00 := hr.1
    have hsub : (s - r 5).toInt = s.toInt - (r 5).toInt := fb_subI (by omega) (by omega)
    rw [relF]
    by_cases hc : rO r x 3 = 0 ∧ s - r 5 ≤ r 0
    · rw [if_pos hc]
      by_cases hl : r 7 < load + wk r x
      · rw [if_pos hl]; exact ⟨hr, samB.rfl, fun _ _ => rfl⟩
      · rw [if_neg hl]
        have ht := hc.2
        rw [fa_le] at ht
        have h2 := ih (rel1 r x (s - r 5)) (load + wk r x) (hr.rel1R hx.1 hc.1 ⟨by omega, by omega⟩) (fun q hq => by rw [rel1_s.om, rel1_n (by omega)]; exact h3 q (List.mem_cons_of_mem _ hq))
        exact ⟨h2.1, rel1_s.trans h2.2.1, fun n hn => (h2.2.2 n hn).trans (rel1_n hn)⟩
    · rw [if_neg hc]
      exact ih r load hr (fun q hq => h3 q (List.mem_cons_of_mem _ hq))
theorem rels_ok {m : Nat → Prop} {r : Row} (hr : RIg m r) : RIg m (rels r) ∧ samB r (rels r) ∧ ∀ n, n < 131 → rels r n = r n := by
  refine relF_ok (schF r) r (ropeL r) hr (fun q hq => ?_)
  obtain ⟨x, s⟩ := q
  have := schF_b hr hq
  exact ⟨(schF_mem hq).1, this.1, this.2⟩
theorem begR_o {r : Row} {q i j w : Nat} (hq : q < 6) (hw : w < 14) (h : j ≠ i ∨ (w ≠ 6 ∧ w ≠ 7 ∧ w ≠ 10)) : rO (begR r q i) j w = rO r j w := by
  show begR r q i (131 + 14 * j + w) = _
  unfold begR
  dsimp only
  split <;> split <;> repeat (rw [upd_ne' (by omega)])
theorem begR_n {r : Row} {q i n : Nat} (hn : n < 131) (h : n ≠ 11 + 7 * q ∧ n ≠ 11 + 7 * q + 1 ∧ n ≠ 11 + 7 * q + 4) : begR r q i n = r n := by
  unfold begR
  dsimp only
  split <;> split <;> repeat (rw [upd_ne' (by omega)])
theorem begR_6 {r : Row} {q i : Nat} (hq : q < 6) : rO (begR r q i) i 6 = 1 := by
  show begR r q i (131 + 14 * i + 6) = _
  unfold begR
  dsimp only
  split <;> split <;> repeat (first | rw [upd_eq'] | rw [upd_ne' (by omega)])
theorem begR_7 {r : Row} {q i : Nat} (hq : q < 6) : rO (begR r q i) i 7 = if rO r i 0 = rS r q 1 then wH r i else wH r i + rS r q 5 := by
  show begR r q i (131 + 14 * i + 7) = _
  unfold begR
  dsimp only
  by_cases hd : nI q = r 2
  · rw [if_pos hd, upd_ne' (by omega), upd_eq']
  · rw [if_neg hd, upd_eq']
theorem begR_10 {r : Row} {q i : Nat} (hq : q < 6) : rO (begR r q i) i 10 = if nI q = r 2 then r 0 else rO r i 10 := by
  show begR r q i (131 + 14 * i + 10) = _
  unfold begR
  dsimp only
  by_cases hd : nI q = r 2
  · rw [if_pos hd, if_pos hd, upd_eq']
  · rw [if_neg hd, if_neg hd]
    split <;> repeat (rw [upd_ne' (by omega)])
theorem begR_s0 {r : Row} {q i : Nat} (hq : q < 6) : rS (begR r q i) q 0 = nI i := by
  show begR r q i (11 + 7 * q + 0) = _
  unfold begR
  dsimp only
  split <;> split <;> repeat (first | rw [upd_eq'] | rw [upd_ne' (by omega)])
theorem begR_s {r : Row} {q i : Nat} (hq : q < 6) : samB r (begR r q i) := fun _ hn => begR_n (by omega) (by omega)
theorem nI_m1 {n : Nat} (h : n < 2 ^ 31) : ¬ nI n = -1 := by
  intro x
  have y := congrArg Int32.toInt x
  rw [nI_toInt h] at y
  exact absurd y (by show ¬ (n : Int) = -1; omega)
/-- where a released order stands -/
theorem RIg.at {m : Nat → Prop} {r : Row} (hr : RIg m r) {j : Nat} (hj : j < OM r) (hs : rO r j 3 = 1) : nn (rPs r (oP r j) (oK r j)) < SC r ∧ nn (rPs r (oP r j) (oK r j)) < 6 ∧ rPs r (oP r j) (oK r j) = nI (nn (rPs r (oP r j) (oK r j))) := by
  obtain ⟨c1, c2, c3, c4, c5⟩ := hr.op hj
  have h1 := c4.2.1 _ (hr.st hj hs).2.1
  have h2 := h1.1.toN (by omega) (by omega)
  exact ⟨h1.2.1, Nat.lt_of_lt_of_le h1.2.1 hr.sc.2.1, h2.1⟩
theorem RIg.begRR {m : Nat → Prop} {r : Row} (hr : RIg m r) {q i : Nat} (hq : q < SC r) (hi : i < OM r) (hw : wts r i q) (h0 : rS r q 0 = -1) : RIg m (begR r q i) := by
  have hpm := hr.pm
  have hsc := hr.sc
  have hq6 : q < 6 := by omega
  obtain ⟨a1, a2, a3, a4, a5⟩ := hr.op hi
  have hW := hr.wHB hi hw.1
  have hset := (hr.sta hq).2.1
  refine hr.of (begR_s hq6) (by rw [begR_n (by omega) (by omega)]; exact hr.1) (fun j hj => ?_) (fun q' hq' => ?_)
  · by_cases e : j = i
    · subst e
      have o1 := a5.k hw.1
      obtain ⟨b0, b1, b2, b3, b5, b9, b10, b12, -⟩ := a5
      have eP : oP (begR r q j) j = oP r j := by unfold oP; rw [begR_o hq6 (by omega) (by omega)]
      have eK : oK (begR r q j) j = oK r j := by unfold oK; rw [begR_o hq6 (by omega) (by omega)]
      unfold OIg
      rw [eP, (begR_s hq6).pm, begR_10 hq6, begR_o (w := 0) hq6 (by omega) (by omega), begR_o (w := 1) hq6 (by omega) (by omega), begR_o (w := 2) hq6 (by omega) (by omega), begR_o (w := 5) hq6 (by omega) (by omega), begR_o (w := 9) hq6 (by omega) (by omega), begR_o (w := 12) hq6 (by omega) (by omega), begR_o (w := 3) hq6 (by omega) (by omega)]
      refine ⟨b0, b1, b2, b3, b5, b9, ?_, b12, Or.inr (Or.inr (Or.inl ⟨hw.1, ?_⟩))⟩
      · split
        · exact hr.1
        · exact b10
      · have hk6 := (hr.st hi hw.1).2.2
        have hst : nn (rPs r (oP r j) (oK r j)) = q := by rw [hw.2.2]; exact nn_nI (by omega)
        unfold OI1
        rw [eP, eK, (begR_s hq6).sn a3, (begR_s hq6).ps a3 hk6, begR_6 hq6, begR_7 hq6, begR_o (w := 4) hq6 (by omega) (by omega), begR_o (w := 8) hq6 (by omega) (by omega), begR_o (w := 11) hq6 (by omega) (by omega), hst, begR_s0 hq6]
        refine ⟨o1.1, o1.2.1, o1.2.2.1, o1.2.2.2.1, Or.inr ⟨rfl, ?_, ?_, rfl⟩⟩
        · split
          · exact ⟨by omega, by omega⟩
          · have : (wH r j + rS r q 5).toInt = (wH r j).toInt + (rS r q 5).toInt := fb_addI (by omega) (by omega)
            exact ⟨by omega, by omega⟩
        · intro _
          split
          · exact hW.1
          · have : (wH r j + rS r q 5).toInt = (wH r j).toInt + (rS r q 5).toInt := fb_addI (by omega) (by omega)
            omega
    · refine OIg.same (begR_s hq6) hpm.2 (hr.ord hj) (fun w hw => begR_o hq6 hw (Or.inl e)) (fun hs _ h => ?_) (fun h => (hr.st hj h).2.2)
      obtain ⟨p1, p2, -⟩ := hr.at hj hs
      have hne : nn (rPs r (oP r j) (oK r j)) ≠ q := fun x => by rw [x, h0] at h; exact nI_m1 (by have := hr.om; omega) h.symm
      rw [show rS (begR r q i) (nn (rPs r (oP r j) (oK r j))) 0 = rS r (nn (rPs r (oP r j) (oK r j))) 0 from begR_n (by omega) (by omega)]
      exact h
  · by_cases e : q' = q
    · subst e
      have hS := hr.sta hq'
      have hk6 := (hr.st hi hw.1).2.2
      have eP : oP (begR r q' i) i = oP r i := by unfold oP; rw [begR_o hq6 (by omega) (by omega)]
      have eK : oK (begR r q' i) i = oK r i := by unfold oK; rw [begR_o hq6 (by omega) (by omega)]
      have hnn : nn (nI i) = i := nn_nI (by omega)
      unfold SI
      rw [begR_s0 hq6, (begR_s hq6).om, hnn, eP, eK, begR_6 hq6, begR_o (w := 3) hq6 (by omega) (by omega), (begR_s hq6).ps a3 hk6, show rS (begR r q' i) q' 2 = rS r q' 2 from begR_n (by omega) (by omega), show rS (begR r q' i) q' 5 = rS r q' 5 from begR_n (by omega) (by omega)]
      refine ⟨hS.1, hS.2.1, Or.inr ⟨?_, hi, hw.1, rfl, hw.2.2⟩⟩
      rw [inR, nI_toInt (by omega)]
      omega
    · refine SI.same (begR_s hq6) (hr.sta hq') (begR_n (by omega) (by omega)) (begR_n (by omega) (by omega)) (begR_n (by omega) (by omega)) (fun hn => ?_)
      obtain ⟨w1, w2, w3, w4, w5, w6⟩ := (hr.sta hq').w hn
      have hne : nn (rS r q' 0) ≠ i := fun x => by rw [x, hw.2.1] at w5; exact absurd w5 (by decide)
      exact ⟨fun w hw9 => begR_o hq6 (by omega) (Or.inl hne), (hr.op w2).2.2.1, (hr.st w2 w4).2.2⟩
theorem RIg.begRI {m : Nat → Prop} {r : Row} (hr : RIg m r) (h6 : RI r) {q : Nat} (hq : q < SC r) : RIg m (beg r q) ∧ samB r (beg r q) ∧ beg r q 0 = r 0 := by
  unfold beg
  have hsc := hr.sc
  by_cases h : rS r q 0 = -1 ∧ ¬ dnn r q ∧ ¬ cho r q (OM r) = -1
  · rw [if_pos h]
    rcases cho_ok h6 q (OM r) (Nat.le_refl _) with a | ⟨i, a, b, c⟩
    · exact absurd a h.2.2
    · have : nn (cho r q (OM r)) = i := by rw [b]; exact nn_nI (by have := hr.om; omega)
      rw [this]
      exact ⟨hr.begRR hq a c h.1, begR_s (by omega), begR_n (by omega) (by omega)⟩
  · rw [if_neg h]
    exact ⟨hr, samB.rfl, rfl⟩
/-- the stations begin, one after the other -/
def begN (r : Row) : Nat → Row
  | 0 => r
  | n + 1 => beg (begN r n) n
theorem begN_ok {r : Row} (hr : RI r) : ∀ n, n ≤ SC r → RI (begN r n) ∧ samB r (begN r n) ∧ begN r n 0 = r 0 := by
  intro n
  induction n with
  | zero => intro _; exact ⟨hr, samB.rfl, rfl⟩
  | succ n ih =>
    intro hn
    obtain ⟨a, b, c⟩ := ih (by omega)
    obtain ⟨a', b', c'⟩ := a.begRI a (q := n) (by rw [b.sc]; omega)
    exact ⟨a', b.trans b', c'.trans c⟩
/-- what the drum has waited in vain -/
def stvR (r : Row) : Row := upd r 10 (r 10 + if isStv r then 1 else 0)
theorem upd10_ok {m : Nat → Prop} {r : Row} (hr : RIg m r) (x : Int32) : RIg m (upd r 10 x) ∧ samB r (upd r 10 x) ∧ upd r 10 x 0 = r 0 := by
  have hsc := hr.sc
  have hs : samB r (upd r 10 x) := fun n hn => upd_ne' (by omega)
  refine ⟨hr.of hs (by rw [upd_ne' (by omega)]; exact hr.1) (fun j hj => ?_) (fun q hq => ?_), hs, upd_ne' (by omega)⟩
  · refine OIg.same hs hr.pm.2 (hr.ord hj) (fun w hw => upd_ne' (by omega)) (fun _ _ h => ?_) (fun h => (hr.st hj h).2.2)
    rw [show rS (upd r 10 x) (nn (rPs r (oP r j) (oK r j))) 0 = rS r (nn (rPs r (oP r j) (oK r j))) 0 from upd_ne' (by omega)]
    exact h
  · refine SI.same hs (hr.sta hq) (upd_ne' (by omega)) (upd_ne' (by omega)) (upd_ne' (by omega)) (fun hn => ?_)
    obtain ⟨w1, w2, w3, w4, w5, w6⟩ := (hr.sta hq).w hn
    exact ⟨fun w hw9 => upd_ne' (by omega), (hr.op w2).2.2.1, (hr.st w2 w4).2.2⟩
theorem upd0_ok {m : Nat → Prop} {r : Row} (hr : RIg m r) (x : Int32) (hx : inR x 0 40000) : RIg m (upd r 0 x) ∧ samB r (upd r 0 x) := by
  have hsc := hr.sc
  have hs : samB r (upd r 0 x) := fun n hn => upd_ne' (by omega)
  refine ⟨hr.of hs (by rw [upd_eq']; exact hx) (fun j hj => ?_) (fun q hq => ?_), hs⟩
  · refine OIg.same hs hr.pm.2 (hr.ord hj) (fun w hw => upd_ne' (by omega)) (fun _ _ h => ?_) (fun h => (hr.st hj h).2.2)
    rw [show rS (upd r 0 x) (nn (rPs r (oP r j) (oK r j))) 0 = rS r (nn (rPs r (oP r j) (oK r j))) 0 from upd_ne' (by omega)]
    exact h
  · refine SI.same hs (hr.sta hq) (upd_ne' (by omega)) (upd_ne' (by omega)) (upd_ne' (by omega)) (fun hn => ?_)
    obtain ⟨w1, w2, w3, w4, w5, w6⟩ := (hr.sta hq).w hn
    exact ⟨fun w hw9 => upd_ne' (by omega), (hr.op w2).2.2.1, (hr.st w2 w4).2.2⟩
