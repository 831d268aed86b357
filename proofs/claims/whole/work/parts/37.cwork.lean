/-! ===== the work of some ticks ===== -/
def wrkV (r : Row) (q : Nat) (v : Int32) : Row := if rS r q 0 = -1 ∨ dnn r q then r else upd (upd r (131 + 14 * nn (rS r q 0) + 7) (rO r (nn (rS r q 0)) 7 - v)) (11 + 7 * q + 3) (rS r q 3 + v)
section WV
theorem wrkV_o {r : Row} {v : Int32} {q j w : Nat} (hq : q < 6) (hw : w < 14) (h : w ≠ 7 ∨ rS r q 0 = -1 ∨ j ≠ nn (rS r q 0)) : rO (wrkV r q v) j w = rO r j w := by
  show wrkV r q v (131 + 14 * j + w) = _
  unfold wrkV
  by_cases hc : rS r q 0 = -1 ∨ dnn r q
  · rw [if_pos hc]
  · rw [if_neg hc, upd_ne' (by omega)]
    rcases h with h | h | h
    · rw [upd_ne' (by omega)]
    · exact absurd (Or.inl h) hc
    · rw [upd_ne' (by omega)]
theorem wrkV_n {r : Row} {v : Int32} {q n : Nat} (hn : n < 131) (h : n ≠ 11 + 7 * q + 3) : wrkV r q v n = r n := by
  unfold wrkV
  by_cases hc : rS r q 0 = -1 ∨ dnn r q
  · rw [if_pos hc]
  · rw [if_neg hc, upd_ne' (by omega), upd_ne' (by omega)]
theorem wrkV_s {r : Row} {v : Int32} {q : Nat} (hq : q < 6) : samB r (wrkV r q v) := fun _ hn => wrkV_n (by omega) (by omega)
theorem wrkV_7 {r : Row} {v : Int32} {q : Nat} (hq : q < 6) (hw : ¬ rS r q 0 = -1) : rO (wrkV r q v) (nn (rS r q 0)) 7 = if dnn r q then rO r (nn (rS r q 0)) 7 else rO r (nn (rS r q 0)) 7 - v := by
  show wrkV r q v (131 + 14 * nn (rS r q 0) + 7) = _
  unfold wrkV
  by_cases hd : dnn r q
  · rw [if_pos (Or.inr hd), if_pos hd]
  · rw [if_neg (by rintro (x | x); exact hw x; exact hd x), if_neg hd, upd_ne' (by omega), upd_eq']
theorem wrkV_3 {r : Row} {v : Int32} {q : Nat} (hw : ¬ (rS r q 0 = -1 ∨ dnn r q)) : rS (wrkV r q v) q 3 = rS r q 3 + v := by
  show wrkV r q v (11 + 7 * q + 3) = _
  unfold wrkV
  rw [if_neg hw, upd_eq']
theorem RIg.wrkVR {m : Nat → Prop} {r : Row} {v : Int32} (hr : RIg m r) {q : Nat} (hq : q < SC r) (hv0 : 0 ≤ v.toInt) (hv : ¬ rS r q 0 = -1 → ¬ dnn r q → v.toInt ≤ (rO r (nn (rS r q 0)) 7).toInt) : RIg (fun x => m x ∧ x ≠ q) (wrkV r q v) := by
  have hpm := hr.pm
  have hsc := hr.sc
  have hq6 : q < 6 := by omega
  have hr' : RIg (fun x => m x ∧ x ≠ q) r := hr.weak (fun _ _ h => h.1)
  have hS : ∀ q', q' < SC r → SI (wrkV r q v) q' := by
    intro q' hq'
    refine SI.same (wrkV_s hq6) (hr.sta hq') (wrkV_n (by omega) (by omega)) (wrkV_n (by omega) (by omega)) (wrkV_n (by omega) (by omega)) (fun hn => ?_)
    obtain ⟨w1, w2, w3, w4, w5, w6⟩ := (hr.sta hq').w hn
    exact ⟨fun w hw9 => wrkV_o hq6 (by omega) (Or.inl (by omega)), (hr.op w2).2.2.1, (hr.st w2 w4).2.2⟩
  refine hr'.of (wrkV_s hq6) (by rw [wrkV_n (by omega) (by omega)]; exact hr.1) (fun j hj => ?_) hS
  by_cases e : rS r q 0 = -1 ∨ j ≠ nn (rS r q 0)
  · refine OIg.same (wrkV_s hq6) hpm.2 (hr'.ord hj) (fun w hw => wrkV_o hq6 hw (Or.inr e)) (fun hs _ h => ?_) (fun h => (hr.st hj h).2.2)
    obtain ⟨p1, p2, -⟩ := hr.at hj hs
    rw [show rS (wrkV r q v) (nn (rPs r (oP r j) (oK r j))) 0 = rS r (nn (rPs r (oP r j) (oK r j))) 0 from wrkV_n (by omega) (by omega)]
    exact h
  · have hw : ¬ rS r q 0 = -1 := fun x => e (Or.inl x)
    have ej : j = nn (rS r q 0) := Classical.byContradiction fun x => e (Or.inr x)
    obtain ⟨w1, w2, w3, w4, w5, w6⟩ := (hr.sta hq).w hw
    have h7 := wrkV_7 (v := v) hq6 hw
    rw [← ej] at w1 w2 w3 w4 w5 w6 h7
    obtain ⟨l1, l2, l3⟩ := hr.wkd hj w4 w5
    have hst : nn (rPs r (oP r j) (oK r j)) = q := by rw [w6]; exact nn_nI (by omega)
    rw [hst] at l3
    obtain ⟨a1, a2, a3, a4, a5⟩ := hr.op hj
    have hk6 := (hr.st hj w4).2.2
    have o1 := a5.k w4
    obtain ⟨b0, b1, b2, b3, b5, b9, b10, b12, -⟩ := a5
    have ho : ∀ w, w < 14 → w ≠ 7 → rO (wrkV r q v) j w = rO r j w := fun w h1 h2 => wrkV_o hq6 h1 (Or.inl h2)
    have eP : oP (wrkV r q v) j = oP r j := by unfold oP; rw [ho 0 (by omega) (by omega)]
    have eK : oK (wrkV r q v) j = oK r j := by unfold oK; rw [ho 4 (by omega) (by omega)]
    unfold OIg
    rw [eP, (wrkV_s hq6).pm, ho 0 (by omega) (by omega), ho 1 (by omega) (by omega), ho 2 (by omega) (by omega), ho 3 (by omega) (by omega), ho 5 (by omega) (by omega), ho 9 (by omega) (by omega), ho 10 (by omega) (by omega), ho 12 (by omega) (by omega)]
    refine ⟨b0, b1, b2, b3, b5, b9, b10, b12, Or.inr (Or.inr (Or.inl ⟨w4, ?_⟩))⟩
    unfold OI1
    rw [eP, eK, (wrkV_s hq6).sn a3, (wrkV_s hq6).ps a3 hk6, ho 4 (by omega) (by omega), ho 6 (by omega) (by omega), ho 8 (by omega) (by omega), ho 11 (by omega) (by omega), hst, show rS (wrkV r q v) q 0 = rS r q 0 from wrkV_n (by omega) (by omega)]
    refine ⟨o1.1, o1.2.1, o1.2.2.1, o1.2.2.2.1, Or.inr ⟨w5, ?_, fun x => absurd rfl x.2, l3⟩⟩
    rw [h7]
    split
    · exact l1
    · next hd =>
      have hv := hv hw hd
      rw [← ej] at hv
      have : (rO r j 7 - v).toInt = (rO r j 7).toInt - v.toInt := fb_subI (by omega) (by omega)
      exact ⟨by omega, by omega⟩
def wrkVN (r : Row) (v : Int32) : Nat → Row
  | 0 => r
  | n + 1 => wrkV (wrkVN r v n) n v
theorem wrkVN_n {r : Row} {v : Int32} : ∀ (n : Nat), n ≤ 6 → ∀ k, k < 131 → (∀ q, q < n → k ≠ 11 + 7 * q + 3) → wrkVN r v n k = r k := by
  intro n
  induction n with
  | zero => intro _ k _ _; rfl
  | succ n ih =>
    intro hn k hk h
    rw [wrkVN, wrkV_n hk (h n (by omega))]
    exact ih (by omega) k hk (fun q hq => h q (by omega))
theorem wrkVN_o {r : Row} {v : Int32} {i w : Nat} (hw : w < 14) : ∀ (n : Nat), n ≤ 6 → (w ≠ 7 ∨ ∀ q, q < n → rS r q 0 = -1 ∨ i ≠ nn (rS r q 0)) → rO (wrkVN r v n) i w = rO r i w := by
  intro n
  induction n with
  | zero => intro _ _; rfl
  | succ n ih =>
    intro hn h
    have e : rS (wrkVN r v n) n 0 = rS r n 0 := wrkVN_n n (by omega) _ (by omega) (fun q hq => by omega)
    rw [wrkVN, wrkV_o (by omega) hw]
    · exact ih (by omega) (h.imp id (fun h q hq => h q (by omega)))
    · rw [e]
      exact h.imp id (fun h => h n (by omega))
theorem wrkVN_dn {r : Row} {v : Int32} {n q : Nat} (hn : n ≤ 6) (hq : q < 6) : (rS (wrkVN r v n) q 0 = rS r q 0) ∧ (dnn (wrkVN r v n) q ↔ dnn r q) := by
  refine ⟨wrkVN_n n hn _ (by omega) (fun q hq => by omega), ?_⟩
  unfold dnn
  rw [wrkVN_n n hn 0 (by omega) (fun q hq => by omega), show rS (wrkVN r v n) q 2 = rS r q 2 from wrkVN_n n hn _ (by omega) (fun q hq => by omega)]
/-- no two stations work on one order -/
theorem RIg.dis {m : Nat → Prop} {r : Row} (hr : RIg m r) {q q' : Nat} (hq : q < SC r) (hq' : q' < SC r) (hne : q' ≠ q) (hw : ¬ rS r q 0 = -1) : rS r q' 0 = -1 ∨ nn (rS r q 0) ≠ nn (rS r q' 0) := by
  have hsc := hr.sc
  by_cases hw' : rS r q' 0 = -1
  · exact Or.inl hw'
  · refine Or.inr (fun e => ?_)
    obtain ⟨w1, w2, w3, w4, w5, w6⟩ := (hr.sta hq).w hw
    obtain ⟨x1, x2, x3, x4, x5, x6⟩ := (hr.sta hq').w hw'
    rw [← e, w6, nI_inj (by omega) (by omega)] at x6
    exact hne x6.symm
theorem wrkVN_ok {r : Row} {v : Int32} (hr : RI r) (hv0 : 0 ≤ v.toInt) (hv : ∀ q, q < SC r → ¬ rS r q 0 = -1 → ¬ dnn r q → v.toInt ≤ (rO r (nn (rS r q 0)) 7).toInt) : ∀ n, n ≤ SC r → RIg (fun q => n ≤ q) (wrkVN r v n) ∧ samB r (wrkVN r v n) ∧ wrkVN r v n 0 = r 0 := by
  intro n
  induction n with
  | zero => intro _; exact ⟨hr.weak (fun _ _ _ => trivial), samB.rfl, rfl⟩
  | succ n ih =>
    intro hn
    obtain ⟨a, b, c⟩ := ih (by omega)
    have hsc := hr.sc
    have hd := wrkVN_dn (r := r) (v := v) (n := n) (q := n) (by omega) (by omega)
    have h2 := a.wrkVR (v := v) (q := n) (by rw [b.sc]; omega) hv0 (fun x y => by
      rw [hd.1] at x ⊢
      rw [hd.2] at y
      rw [wrkVN_o (by omega) n (by omega) (Or.inr (fun q hq => hr.dis (q := n) (q' := q) (by omega) (by omega) (by omega) x))]
      exact hv n (by omega) x y)
    exact ⟨h2.weak (fun q _ h => ⟨Nat.le_of_succ_le h, by omega⟩), b.trans (wrkV_s (by omega)), (wrkV_n (by omega) (by omega)).trans c⟩
end WV
def stvV (r : Row) (v : Int32) : Row := upd r 10 (r 10 + if isStv r then v else 0)
/-- all of it: what was waited, worked, and the clock -/
def wkd (r : Row) (v : Int32) : Row := upd (wrkVN (stvV r v) v (SC r)) 0 (r 0 + v)
theorem wrkN_V (r : Row) : ∀ n, wrkN r n = wrkVN r 1 n := by
  intro n
  induction n with
  | zero => rfl
  | succ n ih => rw [wrkN, wrkVN, ih]; rfl
theorem tk3_wkd {r : Row} (hr : RI r) : tk3 r = wkd (tk1 r) 1 := by
  obtain ⟨a, b, c⟩ := tk1_ok hr
  obtain ⟨a2, b2, c2⟩ := tk2_ok hr
  unfold tk3
  rw [c2]
  unfold tk2
  rw [wrkN_V]
  unfold wkd
  rw [b.sc, c]
  rfl
theorem wkd_ok {r : Row} {v : Int32} (hr : RI r) (hv0 : 0 ≤ v.toInt) (hv : ∀ q, q < SC r → ¬ rS r q 0 = -1 → ¬ dnn r q → v.toInt ≤ (rO r (nn (rS r q 0)) 7).toInt) (h0 : (r 0).toInt + v.toInt ≤ 40000) : RIg (fun _ => False) (wkd r v) ∧ samB r (wkd r v) ∧ wkd r v 0 = r 0 + v := by
  have hr0 := hr.1
  obtain ⟨a2, b2, c2⟩ := upd10_ok hr (r 10 + if isStv r then v else 0)
  obtain ⟨a', b', c'⟩ := wrkVN_ok (r := stvV r v) (v := v) a2 hv0 (fun q hq x y => by
    have hsc := hr.sc
    rw [show SC (stvV r v) = SC r from b2.sc] at hq
    have e0 : rS (stvV r v) q 0 = rS r q 0 := upd_ne' (by omega)
    have e2 : rS (stvV r v) q 2 = rS r q 2 := upd_ne' (by omega)
    have e3 : stvV r v 0 = r 0 := upd_ne' (by omega)
    rw [e0] at x ⊢
    unfold dnn at y
    rw [e2, e3] at y
    rw [show rO (stvV r v) (nn (rS r q 0)) 7 = rO r (nn (rS r q 0)) 7 from upd_ne' (by omega)]
    exact hv q hq x y) (SC r) (by rw [show SC (stvV r v) = SC r from b2.sc]; exact Nat.le_refl _)
  have hx : (r 0 + v).toInt = (r 0).toInt + v.toInt := fb_addI (by omega) (by omega)
  obtain ⟨a3, b3⟩ := upd0_ok a' (r 0 + v) ⟨by omega, by omega⟩
  refine ⟨a3.weak (fun _ _ h => h.elim), (b2.trans b').trans b3, ?_⟩
  unfold wkd
  rw [upd_eq']
section CW
variable {σ : iM} {s : Nat} {r : Row}
theorem upd_self {f : Row} {k : Nat} : upd f k (f k) = f := by
  funext j
  by_cases h : j = k
  · rw [h, upd_eq']
  · rw [upd_ne' h]
/-- orders and stations as they were -/
theorem Sh.shp {m : Nat → Prop} (h : Sh σ s r) (hr : RIg m r) (hs4 : s < 4) {r' : Row} {j : Nat} {x : Int32} (hs : samB r r') (hn : ∀ n, 11 ≤ n → r' n = r n) (hS : ShS (iU σ 4 s j x) s r') : Sh (iU σ 4 s j x) s r' := by
  have hsc := hr.sc
  refine h.of hr hs4 hs (cfr.rfl.U own4) hS (fun q hq => ?_) (fun i hi => ?_)
  · have h2 := h.2.1 q hq
    refine h2.same (fun j _ => Ukk (by omega)) (fun w hw => hn _ (by omega)) ?_
    rw [Ukk (by omega), h2.2.2.2.2.1, wtC_eq hs.om q (fun i hi => wts_eq hs (hr.op hi).2.2.1 (fun h1 => (hr.st hi h1).2.2) (hn _ (by omega)) (hn _ (by omega)) (hn _ (by omega)) (hn _ (by omega)))]
  · exact (h.2.2.2 i hi).same hs (hr.op hi).2.2.1 (by have := (hr.op hi).2.2.2.1.d; omega) (fun w _ => Ukk (by omega)) (fun w _ => hn _ (by omega))
theorem Sh.s14 {m : Nat → Prop} (h : Sh σ s r) (hr : RIg m r) (hs4 : s < 4) (x : Int32) : Sh (iU σ 4 s 14 x) s (upd r 10 x) := by
  refine h.shp hr hs4 (fun n hn => upd_ne' (by omega)) (fun n hn => upd_ne' (by omega)) ?_
  have h1 := h.1
  unfold ShS at h1 ⊢
  rw [iU_same, upd_eq', iU_ne (by omega), iU_ne (by omega), iU_ne (by omega), iU_ne (by omega), iU_ne (by omega), iU_ne (by omega), iU_ne (by omega), iU_ne (by omega), iU_ne (by omega), iU_ne (by omega), upd_ne' (by omega), upd_ne' (by omega), upd_ne' (by omega), upd_ne' (by omega), upd_ne' (by omega), upd_ne' (by omega), upd_ne' (by omega), upd_ne' (by omega), upd_ne' (by omega), upd_ne' (by omega)]
  exact ⟨h1.1, h1.2.1, h1.2.2.1, h1.2.2.2.1, h1.2.2.2.2.1, h1.2.2.2.2.2.1, h1.2.2.2.2.2.2.1, h1.2.2.2.2.2.2.2.1, h1.2.2.2.2.2.2.2.2.1, h1.2.2.2.2.2.2.2.2.2.1, rfl⟩
theorem Sh.s13 {m : Nat → Prop} (h : Sh σ s r) (hr : RIg m r) (hs4 : s < 4) (x : Int32) : Sh (iU σ 4 s 13 x) s (upd r 0 x) := by
  refine h.shp hr hs4 (fun n hn => upd_ne' (by omega)) (fun n hn => upd_ne' (by omega)) ?_
  have h1 := h.1
  unfold ShS at h1 ⊢
  rw [iU_same, upd_eq', iU_ne (by omega), iU_ne (by omega), iU_ne (by omega), iU_ne (by omega), iU_ne (by omega), iU_ne (by omega), iU_ne (by omega), iU_ne (by omega), iU_ne (by omega), iU_ne (by omega), upd_ne' (by omega), upd_ne' (by omega), upd_ne' (by omega), upd_ne' (by omega), upd_ne' (by omega), upd_ne' (by omega), upd_ne' (by omega), upd_ne' (by omega), upd_ne' (by omega), upd_ne' (by omega)]
  exact ⟨h1.1, h1.2.1, h1.2.2.1, h1.2.2.2.1, h1.2.2.2.2.1, h1.2.2.2.2.2.1, h1.2.2.2.2.2.2.1, h1.2.2.2.2.2.2.2.1, h1.2.2.2.2.2.2.2.2.1, rfl, h1.2.2.2.2.2.2.2.2.2.2⟩
theorem Sh.wrkC {m : Nat → Prop} (h : Sh σ s r) (hr : RIg m r) (hs4 : s < 4) {q : Nat} (hq : q < SC r) (hw : ¬ rS r q 0 = -1) (hd : ¬ dnn r q) (v : Int32) : Sh (mOQ σ (24 * s + nn (rS r q 0)) (6 * s + q) (upd (σ 0 (24 * s + nn (rS r q 0))) 7 (σ 0 (24 * s + nn (rS r q 0)) 7 - v)) (upd (σ 5 (6 * s + q)) 5 (σ 5 (6 * s + q) 5 + v))) s (wrkV r q v) := by
  have hsc := hr.sc
  have hq6 : q < 6 := by omega
  obtain ⟨w1, w2, w3, w4, w5, w6⟩ := (hr.sta hq).w hw
  have hs : samB r (wrkV r q v) := wrkV_s hq6
  obtain ⟨a1, a2, a3, a4, a5⟩ := hr.op w2
  have hwt : ∀ q', wtC (wrkV r q v) q' = wtC r q' := fun q' => wtC_eq hs.om q' (fun i hi => wts_eq hs (hr.op hi).2.2.1 (fun h1 => (hr.st hi h1).2.2) (wrkV_o hq6 (by omega) (by omega)) (wrkV_o hq6 (by omega) (by omega)) (wrkV_o hq6 (by omega) (by omega)) (wrkV_o hq6 (by omega) (by omega)))
  refine h.oq hr hs4 w2 hq hs (fun n hn => wrkV_n (by omega) (by omega)) (fun q' hq' hne => ⟨fun w hw => wrkV_n (by omega) (by omega), hwt q'⟩) (fun i hi hne w hw => wrkV_o hq6 hw (Or.inr (Or.inr hne))) ?_ ?_
  · have ho := h.2.2.2 _ w2
    have h7 := wrkV_7 (v := v) hq6 hw
    rw [if_neg hd] at h7
    have e : ∀ w, w < 14 → w ≠ 7 → rO (wrkV r q v) (nn (rS r q 0)) w = rO r (nn (rS r q 0)) w := fun w h1 h2 => wrkV_o hq6 h1 (Or.inl h2)
    unfold ShO at ho ⊢
    rw [mOQ_o, upd_eq']
    repeat (rw [upd_ne' (by omega)])
    rw [e 0 (by omega) (by omega), e 1 (by omega) (by omega), e 2 (by omega) (by omega), e 3 (by omega) (by omega), e 4 (by omega) (by omega), e 5 (by omega) (by omega), h7, e 8 (by omega) (by omega), e 9 (by omega) (by omega), e 11 (by omega) (by omega), e 12 (by omega) (by omega), e 13 (by omega) (by omega), wk_eq hs a3 (by have := a4.d; omega) (e 0 (by omega) (by omega)) (e 1 (by omega) (by omega)), dbg_eq (bef_eq hs a3 (e 0 (by omega) (by omega)) (e 3 (by omega) (by omega)) (e 4 (by omega) (by omega)) (e 6 (by omega) (by omega))) (e 3 (by omega) (by omega)) (e 10 (by omega) (by omega)), ho.2.2.2.2.2.2.2.1]
    obtain ⟨b0, b1, b2, b3, b4, b5, b6, b7, b8, b9, b10, b11, b12, b13⟩ := ho
    exact ⟨b0, b1, b2, b3, b4, b5, b6, rfl, b8, b9, b10, b11, b12, b13⟩
  · have h2 := h.2.1 q hq
    have e : ∀ w, w < 7 → w ≠ 3 → rS (wrkV r q v) q w = rS r q w := fun w h1 h2 => wrkV_n (by omega) (by omega)
    unfold ShQ at h2 ⊢
    rw [mOQ_q, upd_eq']
    repeat (rw [upd_ne' (by omega)])
    rw [e 0 (by omega) (by omega), e 1 (by omega) (by omega), e 2 (by omega) (by omega), e 4 (by omega) (by omega), e 5 (by omega) (by omega), e 6 (by omega) (by omega), wrkV_3 (by rintro (x | x); exact hw x; exact hd x), hwt q, h2.2.2.2.2.2.1]
    obtain ⟨b0, b1, b2, b3, b4, b5, b6, b7⟩ := h2
    exact ⟨b0, b1, b2, b3, b4, rfl, b6, b7⟩
theorem c_work (h : Sh σ s r) (hr : RI r) (hs4 : s < 4) {v : Int32} (hv0 : 0 ≤ v.toInt) (hv : ∀ q, q < SC r → ¬ rS r q 0 = -1 → ¬ dnn r q → v.toInt ≤ (rO r (nn (rS r q 0)) 7).toInt) : EvP mX4_work [.inr (4, s), .inl v] σ (fun z => ∃ σ1, z = evv σ1 ∧ Sh σ1 s (wkd r v) ∧ cfr s σ σ1) := by
  have hsc := hr.sc
  obtain ⟨a2, b2, c2⟩ := upd10_ok hr (r 10 + if isStv r then v else 0)
  have a2 : RI (stvV r v) := a2
  have b2 : samB r (stvV r v) := b2
  have hv' : ∀ q, q < SC (stvV r v) → ¬ rS (stvV r v) q 0 = -1 → ¬ dnn (stvV r v) q → v.toInt ≤ (rO (stvV r v) (nn (rS (stvV r v) q 0)) 7).toInt := fun q hq x y => by
    rw [b2.sc] at hq
    have e0 : rS (stvV r v) q 0 = rS r q 0 := upd_ne' (by omega)
    have e2 : rS (stvV r v) q 2 = rS r q 2 := upd_ne' (by omega)
    have e3 : stvV r v 0 = r 0 := upd_ne' (by omega)
    rw [e0] at x ⊢
    unfold dnn at y
    rw [e2, e3] at y
    rw [show rO (stvV r v) (nn (rS r q 0)) 7 = rO r (nn (rS r q 0)) 7 from upd_ne' (by omega)]
    exact hv q hq x y
  have hok := wrkVN_ok a2 hv0 hv'
  show AtP mX4_work 0 [some (.inr (4, s)), some (.inl v), none, none] [] σ _
  have key : ∀ n, n ≤ SC r → ∀ (σ' : iM) (d3 : Option iV), Sh σ' s (wrkVN (stvV r v) v n) → cfr s σ σ' → AtP mX4_work 19 [some (.inr (4, s)), some (.inl v), some (.inl (nI n)), d3] [] σ' (fun z => ∃ σ1, z = evv σ1 ∧ Sh σ1 s (wkd r v) ∧ cfr s σ σ1) := by
    refine down_ind (N := SC r) ?_ ?_
    · intro σ' d2 hS hf
      obtain ⟨a, b, c⟩ := hok (SC r) (by rw [b2.sc]; exact Nat.le_refl _)
      refine AtP.Bt rfl (by rw [hS.sc a, b.sc, b2.sc]; exact (nI_leI (by omega) (by omega)).mpr (Nat.le_refl _)) ?_
      have h13 : σ' 4 s 13 = r 0 := hS.1.2.2.2.2.2.2.2.2.2.1.trans (c.trans c2)
      exact AtP.R rfl (⟨_, rfl, by rw [h13]; exact hS.s13 a hs4 _, hf.U own4⟩)
    · intro n hn ih σ' d2 hS hf
      obtain ⟨a, b, c⟩ := hok n (by rw [b2.sc]; omega)
      have hn' : n < SC (wrkVN (stvV r v) v n) := by rw [b.sc, b2.sc]; exact hn
      have hq := hS.2.1 n hn'
      have hnow : σ' 4 s 13 = wrkVN (stvV r v) v n 0 := hS.1.2.2.2.2.2.2.2.2.2.1
      refine AtP.Bf rfl (by rw [hS.sc a, b.sc, b2.sc]; exact fun x => absurd ((nI_leI (by omega) (by omega)).mp x) (by omega)) ?_
      refine AtP.N rfl (v15 s n (by omega)) ?_
      rw [nI_clamp (by omega)]
      refine AtP.Ci rfl (c_isWorking (6 * s + n) _) ?_
      rw [hq.2.2.1, hq.2.1, hnow]
      by_cases hid : ¬ rS (wrkVN (stvV r v) v n) n 0 = -1 ∧ ¬ wrkVN (stvV r v) v n 0 < rS (wrkVN (stvV r v) v n) n 2
      · rw [if_pos hid]
        refine AtP.Bf rfl (by decide) ?_
        obtain ⟨w1, w2, w3, w4, w5, w6⟩ := (a.sta hn').w hid.1
        refine AtP.N rfl (by rw [hq.2.2.1, w1]; exact v12 s _ w3) ?_
        rw [hq.2.2.1]
        have hC := hS.wrkC a hs4 hn' hid.1 hid.2 v
        have hu : iU (iU σ' 0 (24 * s + nn (rS (wrkVN (stvV r v) v n) n 0)) 7 (σ' 0 (24 * s + nn (rS (wrkVN (stvV r v) v n) n 0)) 7 - v)) 5 (6 * s + n) 5 (iU σ' 0 (24 * s + nn (rS (wrkVN (stvV r v) v n) n 0)) 7 (σ' 0 (24 * s + nn (rS (wrkVN (stvV r v) v n) n 0)) 7 - v) 5 (6 * s + n) 5 + v) = mOQ σ' (24 * s + nn (rS (wrkVN (stvV r v) v n) n 0)) (6 * s + n) (upd (σ' 0 (24 * s + nn (rS (wrkVN (stvV r v) v n) n 0))) 7 (σ' 0 (24 * s + nn (rS (wrkVN (stvV r v) v n) n 0)) 7 - v)) (upd (σ' 5 (6 * s + n)) 5 (σ' 5 (6 * s + n) 5 + v)) := by
          rw [Ukk (k := 0) (k' := 5) (by omega)]
          conv => lhs; rw [← mOQ_self (σ := σ') (X := 24 * s + nn (rS (wrkVN (stvV r v) v n) n 0)) (Q := 6 * s + n)]
          rw [mOQ_uo, mOQ_uq, mOQ_o, mOQ_q]
        rw [← hu] at hC
        have hcf : cfr s σ (iU (iU σ' 0 (24 * s + nn (rS (wrkVN (stvV r v) v n) n 0)) 7 (σ' 0 (24 * s + nn (rS (wrkVN (stvV r v) v n) n 0)) 7 - v)) 5 (6 * s + n) 5 (iU σ' 0 (24 * s + nn (rS (wrkVN (stvV r v) v n) n 0)) 7 (σ' 0 (24 * s + nn (rS (wrkVN (stvV r v) v n) n 0)) 7 - v) 5 (6 * s + n) 5 + v)) := (hf.U (own0 w3)).U (own5 (by omega))
        refine AtP.J rfl ?_
        rw [nI_1]
        exact ih _ _ hC hcf
      · rw [if_neg hid]
        refine AtP.Bt rfl (rfl) ?_
        refine AtP.J rfl ?_
        rw [nI_1]
        refine ih σ' _ ?_ hf
        rw [wrkVN, wrkV, if_pos (by by_cases x : rS (wrkVN (stvV r v) v n) n 0 = -1; exact Or.inl x; exact Or.inr (Classical.byContradiction fun y => hid ⟨x, y⟩))]
        exact hS
  refine AtP.Ci rfl (c_isStarved h hr) ?_
  by_cases hst : isStv r
  · rw [if_pos hst]
    refine AtP.Bf rfl (by decide) ?_
    refine AtP.F 19 [some (.inr (4, s)), some (.inl v), some (.inl (nI 0)), none] [] (iU σ 4 s 14 (σ 4 s 14 + v)) rfl ?_
    refine key 0 (Nat.zero_le _) _ _ ?_ (cfr.rfl.U own4)
    have := h.s14 hr hs4 (σ 4 s 14 + v)
    rw [h.1.2.2.2.2.2.2.2.2.2.2] at this ⊢
    rw [wrkVN, stvV, if_pos hst]
    exact this
  · rw [if_neg hst]
    refine AtP.Bt rfl (rfl) ?_
    refine AtP.F 19 [some (.inr (4, s)), some (.inl v), some (.inl (nI 0)), none] [] σ rfl ?_
    refine key 0 (Nat.zero_le _) _ _ ?_ cfr.rfl
    rw [wrkVN, stvV, if_neg hst, Int32.add_zero, upd_self]
    exact h
end CW
