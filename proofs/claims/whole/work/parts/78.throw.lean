/-! ===== the four places that throw ===== -/
def exOk : Cond → Bool
  | .declares _ => true
  | .castable _ _ => true
  | w => goodWord w
theorem exOk_warm {w : Cond} (h : exOk w = true) {s U : State} (hW : s.WarmedH U.vm) (hZ : va_Nw w s) : va_Nw w U := by
  unfold exOk at h
  split at h
  · exact va_Nw.warmD hW hZ
  · exact va_Nw.warmC hW hZ
  · exact word_at hW (good_of_word h) hZ
theorem exOk_use {w : Cond} (h : exOk w = true) {s : State} {args : Array Value} (hZ : va_Nw w s) : w.before args s = true := by
  unfold exOk at h
  split at h
  · exact va_Nw.use rfl hZ
  · exact va_Nw.use rfl hZ
  · exact word_at (State.WarmedH.refl s) (good_of_word h) hZ
theorem exOk_ot {w : Cond} (h : exOk w = true) : vx_ot w = true := by
  unfold exOk at h
  unfold vx_ot
  split at h
  · rfl
  · rfl
  · rw [h, Bool.or_true]
def exS : List String := ["java/lang/RuntimeException", "java/lang/Exception"]
def thX (k ik ic : Nat) : List Cond := .classLink RX6 ik (exN k) :: .initialized (exN k) :: vx_atS RX6 ic (exN k) exS
/-- kind, class, text, constructor -/
def thP : List (Nat × Nat × Nat × Nat) := [(0, 277, 279, 281), (0, 277, 288, 281), (0, 277, 290, 281), (1, 292, 294, 296)]
theorem th_good : thP.all (fun q => (thX q.1 q.2.1 q.2.2.2).all exOk && Bundle.fit (exN q.1)) = true := by decide +kernel
def thJ (j : Nat) (x : iE) (q : Nat × Nat × Nat × Nat) : Bool := decide (iOwn j = RX6) && Nat.beq x.2.2.2.1 q.1 && decide (decode (iCd j) x.1 = .ok (.new q.2.1, 3)) && decide (decode (iCd j) (x.1 + 3) = .ok (.dup, 1)) && decide (decode (iCd j) (x.1 + 4) = .ok (.ldc_w q.2.2.1, 3)) && decide (decode (iCd j) (x.1 + 7) = .ok (.invokespecial q.2.2.2, 3)) && decide (decode (iCd j) (x.1 + 10) = .ok (.athrow, 1)) && Nat.ble 6 (iFr j) && Nat.ble 82 (iLo j)
theorem th_all : (List.range nMt).all (fun j => (iTb j).all (fun x => !iNw x.2.1 || thP.any (thJ j x))) = true := by decide +kernel
/-- what the places that throw want of a state -/
def EXt (ad : Nat → Nat → Nat) (s : State) : Prop := (∀ q ∈ thP, (∀ w ∈ thX q.1 q.2.1 q.2.2.2, va_Nw w s) ∧ ∃ tx sa, vk_R RX6 q.2.2.1 tx sa s) ∧ vx_Zq Bundle.tN "UNASSIGNED_STACK" Bundle.steD (wA ad) s s.heap ∧ vx_Zq Bundle.tN "SUPPRESSED_SENTINEL" Bundle.listD (wA ad) s s.heap
theorem thX_ok {q : Nat × Nat × Nat × Nat} (hq : q ∈ thP) : (∀ w ∈ thX q.1 q.2.1 q.2.2.2, exOk w = true) ∧ Bundle.fit (exN q.1) = true := by
  have h := List.all_eq_true.mp th_good q hq
  rw [Bool.and_eq_true] at h
  exact ⟨fun w hw => List.all_eq_true.mp h.1 w hw, h.2⟩
theorem EXt.move {ad : Nat → Nat → Nat} {s U : State} {locs : List Loc} (h : EXt ad s) (hW : s.WarmedH U.vm) (hS : va_S (wA ad) s.heap U.heap locs) : EXt ad U :=
  ⟨fun q hq => ⟨fun w hw => exOk_warm ((thX_ok hq).1 w hw) hW ((h.1 q hq).1 w hw), by
    obtain ⟨tx, sa, hR⟩ := (h.1 q hq).2
    exact ⟨tx, sa, vk_R.warm hW hR⟩⟩, vx_Zq.moved hW.alike (h.2.1.kept hS.2.1), vx_Zq.moved hW.alike (h.2.2.kept hS.2.1)⟩
theorem EXt.call {ad : Nat → Nat → Nat} {U : State} (g : JFrame) (mk : MethodId) (a : Array Value) (h : EXt ad U) : EXt ad (U.calling g mk a) := h.move (locs := []) (State.WarmedH.refl U) va_S.rf
theorem th_ok {l : Launch} {dC : Nat → ClassId} {dI ad : Nat → Nat → Nat} {cy : Nat → ClassId} {EX : State → Prop} (hl : l.stackTraces = false) (hT : ∀ s, EX s → EXt ad s) : iTH l dC dI ad cy EX := by
  intro j p e s m args below meth c C x L σ hx hn
  obtain ⟨hj, hexec, hb, hr, hml, hts, hown, hlocks, hK, hex, hEX, hI, htab⟩ := id C
  have h1 := List.all_eq_true.mp (List.all_eq_true.mp th_all j (List.mem_range.mpr hj)) x hx
  rw [hn] at h1
  obtain ⟨q, hq, h2⟩ := List.any_eq_true.mp (show thP.any (thJ j x) = true from h1)
  simp only [thJ, Bool.and_eq_true, decide_eq_true_eq, Nat.beq_eq, Nat.ble_eq] at h2
  obtain ⟨⟨⟨⟨⟨⟨⟨⟨c1, c2⟩, c3⟩, c4⟩, c5⟩, c6⟩, c7⟩, c8⟩, c9⟩ := h2
  obtain ⟨hE, hU, hN⟩ := hT s hex
  obtain ⟨hw, tx, sa, hR⟩ := hE q hq
  obtain ⟨g1, g2⟩ := thX_ok hq
  have hw2 : ∀ w ∈ thX q.1 q.2.1 q.2.2.2, w.before args s = true := fun w h => exOk_use (g1 w h) (hw w h)
  intro H locs ls hP hS hL hLl hSv hLv
  refine vx_throwSW (A := wA ad) (own := RX6) (cls := exN q.1) (names := exS) (ik := q.2.1) (is := q.2.2.1) (ic := q.2.2.2) (text := tx) (sa := sa) (cc := iCd j) hexec hb hl (by rw [← c1]; exact hown) g2 (by decide +kernel) (hw2 _ List.mem_cons_self) (hw2 _ (List.mem_cons_of_mem _ List.mem_cons_self)) hR (fun w h => hw2 w (List.mem_cons_of_mem _ (List.mem_cons_of_mem _ h))) (fun w h => exOk_ot (g1 w h)) hU hN hS (by rw [hL.len, hLl, hml]) c3 c4 c5 c6 c7 (by rw [htab]; intro z hz; cases hz) ?_ ?_ (Nat.le_refl _) (Nat.le_refl _) hlocks (fun t ha hs hq2 => ⟨by rw [c2], hP.kept (fun k q9 hk => hq2 q9.1 (vx_lt hP hk)), Nat.le_trans hS.1 hs, fun z z1 z2 => (hq2 z (Nat.lt_of_lt_of_le z1 hS.1)).trans (hS.2.1 z z1 z2)⟩) hS.2.2 (Nat.le_refl _) (Nat.le_refl _)
  · show 2 + 3 < iFr j
    omega
  · show 0 + (13 * (2 + 1) + 43) ≤ iLo j
    omega
