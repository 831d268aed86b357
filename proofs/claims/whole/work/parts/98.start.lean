/-! ===== from the law's entry to its loop (written by mk98b.py) ===== -/
theorem dW_0 : decode code 0 = .ok (.new 8, 3) := by decide +kernel
theorem dW_3 : decode code 3 = .ok (.dup, 1) := by decide +kernel
theorem dW_4 : decode code 4 = .ok (.invokespecial 150, 3) := by decide +kernel
theorem dW_7 : decode code 7 = .ok (.astore_n 1, 1) := by decide +kernel
theorem dW_8 : decode code 8 = .ok (.new 151, 3) := by decide +kernel
theorem dW_11 : decode code 11 = .ok (.dup, 1) := by decide +kernel
theorem dW_12 : decode code 12 = .ok (.invokespecial 153, 3) := by decide +kernel
theorem dW_15 : decode code 15 = .ok (.astore_n 2, 1) := by decide +kernel
theorem dW_16 : decode code 16 = .ok (.iconst 1, 1) := by decide +kernel
theorem dW_17 : decode code 17 = .ok (.newarray .long, 2) := by decide +kernel
theorem dW_19 : decode code 19 = .ok (.astore_n 3, 1) := by decide +kernel
theorem dW_20 : decode code 20 = .ok (.iconst 0, 1) := by decide +kernel
theorem dW_21 : decode code 21 = .ok (.istore 4, 2) := by decide +kernel
theorem gd_c3 {c1 : Cond} (h : c1 ∈ tw2) : GoodIn tw3 (c1 :: tw2) := gd_3 (fun w h9 => h9) (fun w hw => (List.mem_cons.mp hw).elim (fun e9 => e9 ▸ w3t h) w3t)
theorem no_traces {l : Launch} (h : l.flags = flags0) : l.stackTraces = false := by
  unfold Launch.stackTraces
  rw [h]
  decide +kernel
set_option maxHeartbeats 4000000 in
set_option maxRecDepth 100000 in
theorem whole_start {p : Program} {e : Env} {s : State} {m : MethodId} {below : List Frame} {meth : Method} {c : Code} (l : Launch) (hflags : l.flags = flags0) {b L : Nat} {xs : Nat → Int32} (hL : L ≤ 2048) (C0 : lw_At p s m meth c b L xs) : W p l e room_1 s m #[Value.ref b] below meth c s.heap [] 0 0 (lw_Z below #[Value.ref b] s) (entryFrame m ([Value.ref b] : List Value).toArray 7) := by
  obtain ⟨hx, hb, hr, hml, hown, hts, hX, hbl, hlocks, hgv⟩ := id C0
  have hts3 : ∀ w ∈ tw3, w.before #[Value.ref b] s = true := fun w h9 => hts w (tw3_in w h9)
  have hts2 : ∀ w ∈ Cond.initialized RL :: tw2, w.before #[Value.ref b] s = true := fun w h9 => (List.mem_cons.mp h9).elim (fun e9 => by rw [e9]; exact hts3 _ (w3l (i := 0) rfl)) (fun h9 => hts3 w (w3t h9))
  have hown : s.vm.findClass RL = some m.cls := hown
  obtain ⟨dC, dI, cy, cL, hK, hKl⟩ := en_K hts
  obtain ⟨sa, adV, hE⟩ := en_ex hts hgv
  have hNB := en_NB hts
  have hC := en_CX hts hgv
  obtain ⟨h, hh⟩ : ∃ h, h = s.heap.size := ⟨_, rfl⟩
  rw [← hh] at hE hbl
  have hl := lv_entry ([.ref b]) (n := 7) (Nat.le_of_ble_eq_true rfl)
  rw [lg_entry_eq]
  generalize (lg_sl ([.ref b]) ++ List.replicate (7 - (lg_sl ([.ref b])).length) Slot.unset).toArray = ls at hl ⊢
  have hl : lv_has ls 7 [(0, .ref b)] := hl
  have hF : ∀ q, h ≤ q → cF h q := fun _ h9 => h9
  have hS : cS (dC, dI) (cF h) h 0 (h + 0) (fun _ => eO) s.heap s.heap [] := ⟨hh.symm, fun k hk => absurd hk (Nat.not_lt_zero k), fun _ _ => rfl, fun _ h9 => nomatch h9⟩
  refine b_new (own := RL) (index := 8) (fs := [.null, .null, .null, .null, .null]) hx hb hown hts2 hK 6 (by decide) tyX6 tyX6_ok (hts3 _ (w3l (i := 3) rfl)) (hts3 _ (w3t (w2c (i := 26) rfl))) (hts3 _ (w3t (w2r (i := 561) rfl))) hS hF dfX6 (Nat.le_of_ble_eq_true rfl) (Nat.le_of_ble_eq_true rfl) dW_0 (fun H hS => ?_)
  refine lv_dup (va := .ref (h + 0)) hx hb dW_3 rfl ?_
  refine b_call (n := 0) (w := 226) (Cf := gX cy h) (va_runI (As := []) (rest := [.ref (h + 0)]) ⟨hx, hb, hml, hown, hts3⟩ (c_X6 l (dC, dI) cy h) (cwI 0 hts3 (gd_c3 (w2c (i := 24) rfl)) rfl rfl rfl (hts3 _ (w3t (w2r (i := 561) rfl))) (hts3 _ (w3l (i := 93) rfl)) (hts3 _ (w3t (w2c (i := 25) rfl))) rfl dsX6 ⟨Nat.le_of_ble_eq_true rfl, Nat.le_of_ble_eq_true rfl⟩) (cP.of (ci := 6) hS.1 hS.last hK hNB) rfl rfl hl.1 rfl (lv_room (Nat.le_of_ble_eq_true rfl)) dW_4 ⟨Nat.le_of_ble_eq_true rfl, Nat.le_of_ble_eq_true rfl⟩) hS (fun H locs hS => ?_)
  have hS : cS (dC, dI) (cF h) h 226 (h + 226) (gX cy h) s.heap H locs := ⟨hS.1.trans (by omega), fun k hk => hS.2.1 k (by omega), hS.2.2⟩
  refine lv_astore_n (lv' := [(1, .ref h), (0, .ref b)]) hx hb dW_7 rfl hl (by decide) rfl (fun ls hl => ?_)
  refine b_new (own := RL) (index := 151) (fs := [.null, .null, .null, .null, .null, .int 0, .null, .int 0, .int 0, .int 0, .int 0, .int 0, .int 0, .int 0, .int 0, .null, .null, .null, .null, .int 0]) hx hb hown hts2 hK 7 (by decide) tyX7 tyX7_ok (hts3 _ (w3l (i := 4) rfl)) (hts3 _ (w3t (w2c (i := 30) rfl))) (hts3 _ (w3t (w2r (i := 771) rfl))) hS hF dfX7 (Nat.le_of_ble_eq_true rfl) (Nat.le_of_ble_eq_true rfl) dW_8 (fun H hS => ?_)
  refine lv_dup (va := .ref (h + 226)) hx hb dW_11 rfl ?_
  have hcl : ∀ k, k < 226 → va_at (dC, dI) vwCl (h + k, gX cy h k) H := fun k hk => by
    have h1 := hS.2.1 k (by omega)
    rw [up_ne (by omega)] at h1
    exact h1
  have hSE : va_S (wA (adW h sa)) s.heap H [] := ⟨by rw [hS.1, ← hh]; omega, fun q h1 _ => hS.2.2.1 q (by rw [← hh] at h1; exact Nat.not_le.mpr h1), fun _ h9 => nomatch h9⟩
  have hrun := va_runI (p := p) (l := l) (e := e) (R := room_1) (s := s) (m := m) (args := #[Value.ref b]) (below := below) (meth := meth) (c := c) (H := H) (locs := locs) (cells := 0 + 1 + 225 + 1) (slots := 0 + 5 + 3064 + 20) (g := F0 m 12 ls [.ref (h + 226), .ref (h + 226)]) (b := h + 226) (As := []) (rest := [.ref (h + 226)]) ⟨hx, hb, hml, hown, hts3⟩ (c_X7 l dC dI cy h sa adV) (cwI 0 hts3 (gd_c3 (w2c (i := 28) rfl)) rfl rfl rfl (hts3 _ (w3t (w2r (i := 771) rfl))) (hts3 _ (w3l (i := 201) rfl)) (hts3 _ (w3t (w2c (i := 29) rfl))) rfl dsX7 ⟨Nat.le_of_ble_eq_true rfl, Nat.le_of_ble_eq_true rfl⟩) ⟨moP.blind, fun U hU hW => ⟨rfl, by rw [hU]; exact hS.1, fun k hk => by rw [hU]; exact hcl k hk, by rw [hU]; exact hS.last, va_K.moved hW.alike hK, hE.move hW (by rw [hU]; exact hSE)⟩⟩ rfl rfl hl.1 rfl (lv_room (Nat.le_of_ble_eq_true rfl)) dW_12 ⟨Nat.le_of_ble_eq_true rfl, Nat.le_of_ble_eq_true rfl⟩
  intro T hT X
  obtain ⟨v, st₀, t, T', L1, g0, X', hL1, e1, e2, ⟨hv, hP1, hz1, hk1⟩, st⟩ := hrun T hT X
  cases hv
  have hgo : W p l e room_1 s m #[Value.ref b] below meth c T'.heap (locs ++ L1) (0 + 1 + 225 + 1 + 10) (0 + 5 + 3064 + 20 + 3133) (lw_Z below #[Value.ref b] s) (F0 m 15 ls [.ref (h + 226)]) := by
    have hP : va_P (dC, dI) vwCl (wW (adW h sa) cy m1) T'.heap := by rw [e1]; exact hP1
    have hold : ∀ q, q < h → T'.heap[q]? = s.heap[q]? := fun q hq => by
      rw [e1, hk1 q hq, g0]
      exact hS.2.2.1 q (Nat.not_le.mpr hq)
    have hsz : h + 237 ≤ T'.heap.size := by rw [e1]; exact hz1
    have hlc : ∀ z ∈ locs ++ L1, h ≤ z.base := fun z hz9 => (List.mem_append.mp hz9).elim (hS.2.2.2 z) (hL1 z)
    generalize T'.heap = H1 at hP hold hsz ⊢
    generalize locs ++ L1 = locs1 at hlc ⊢
    refine lv_astore_n (lv' := [(2, .ref (h + 226)), (1, .ref h), (0, .ref b)]) hx hb dW_15 rfl hl (by decide) rfl (fun ls hl => ?_)
    refine lv_iconst (v := 1) hx hb dW_16 rfl ?_
    refine va_newaK (g := F0 m 17 ls [.int 1]) (N := 1) (atype := .long) hx hb (hts3 _ (w3t (w2c (i := 43) rfl))) rfl dW_17 rfl (by decide) (by decide) (by decide) (Nat.le_of_ble_eq_true rfl) (Nat.le_of_ble_eq_true rfl) rfl (fun H2 cA q1 z1 o1 hAr hNm => ?_)
    have hcA : cA = cL := Option.some.inj (hNm.symm.trans (hKl.2 0 _ rfl).2)
    subst hcA
    refine W.eq (g2 := F0 m 19 ls [.ref H1.size]) rfl ?_
    refine lv_astore_n (lv' := [(3, .ref H1.size), (2, .ref (h + 226)), (1, .ref h), (0, .ref b)]) hx hb dW_19 rfl hl (by decide) rfl (fun ls hl => ?_)
    refine lv_iconst (v := 0) hx hb dW_20 rfl ?_
    refine lv_istore (lv' := [(4, .int 0), (3, .ref H1.size), (2, .ref (h + 226)), (1, .ref h), (0, .ref b)]) hx hb dW_21 hl (by decide) rfl (fun ls hl => ?_)
    have hob : ¬ wA (adW h sa) H1.size := fun h9 => absurd (adW_A h9).2 (by omega)
    have hLC : LCx p l s m #[Value.ref b] meth c dC dI (adW h sa) adV cy cA H1.size b L xs := ⟨⟨hx, hb, hml, hown, hts3⟩, hK, hKl, hE, hC, hX, by rw [← hh]; exact hbl, hL, fun q h9 => by rw [← hh]; exact (adW_A h9).1, by rw [← hh]; omega, hob, adW_I h sa, no_traces hflags⟩
    refine l_loop hLC hr hlocks 512 0 H2 locs1 ls m1 (fun _ => 0) _ _ (by omega) (by omega) (Nat.le_of_ble_eq_true rfl) (Nat.le_of_ble_eq_true rfl) INV_m1 ⟨hP.kept (fun k q hq => o1 q.1 ((hP k q hq).lt)), q1, by rw [z1, ← hh]; omega, fun q h1 _ => by
      rw [← hh] at h1
      exact (o1 q (by omega)).trans (hold q h1), fun z hz9 => by
      show s.heap.size ≤ z.base
      rw [← hh]
      exact hlc z hz9⟩ (lv_sub hl [0, 4, 3, 2, 1] rfl)
  obtain ⟨t2, a1, b1⟩ := hgo T' rfl X'
  exact ⟨t2, st t2 a1, b1⟩
