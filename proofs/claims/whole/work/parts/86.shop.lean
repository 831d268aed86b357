/-! ===== Shop(): its methods and its constructor (written by mk86.py) ===== -/
theorem gd_V2 {c0 : Cond} {own C : String} {idx mL : Nat} {y : MethodName} {bytes : ByteArray} {ret : Option FieldType} {ws : List Cond} (h0 : Cond.methodLink own idx y ∈ tw2) (h1 : Cond.instanceMethod y ∈ tw2) (h2 : Cond.selects C y y ∈ tw2) (h3 : Cond.initialized C ∈ tw2) (h4 : Cond.code y bytes mL ret ∈ tw2) (h5 : ∀ w ∈ ws, w ∈ tw2) : GoodIn (c0 :: tw2) (wsV own idx C y (.code y bytes mL ret :: ws)) := by
  have key : ∀ w ∈ wsV own idx C y (.code y bytes mL ret :: ws), w ∈ tw2 := by
    intro w hw9
    unfold wsV at hw9
    rcases List.mem_append.mp hw9 with hw9 | hw9
    · simp only [List.mem_cons, List.not_mem_nil, or_false] at hw9
      rcases hw9 with rfl | rfl | rfl | rfl
      · exact h0
      · exact h1
      · exact h2
      · exact h3
    · rcases List.mem_cons.mp hw9 with rfl | hw9
      · exact h4
      · exact h5 w hw9
  exact fun w hw => ⟨List.mem_cons_of_mem _ (key w hw), tw2_good1 (key w hw)⟩
theorem cP.blind {D : va_G} {cy : Nat → ClassId} {h n : Nat} {G : Nat → va_E} {av : List Value} : FrameBlind (va_Pc av (cP D cy h n G)) := fun a U g mk q => ⟨q.1, q.2.call g mk a⟩
theorem cP.of {D : va_G} {cy : Nat → ClassId} {a ci : Nat} {fs : List Value} {s : State} {H : Heap} (h1 : H.size = a + 1) (h2 : va_at D vwCl (a, .inr (ci, fs)) H) (hK : va_K D vwCl (wT cy) s) (hNB : NB s) : PreS s H (va_Pc [.ref a] (cP D cy a 1 (fun _ => .inr (ci, fs)))) (.ref a :: []) :=
  ⟨cP.blind, fun U hU hW => ⟨rfl, by rw [hU]; exact h1, fun k hk => by
    obtain rfl : k = 0 := by omega
    rw [hU]
    exact h2, va_K.moved hW.alike hK, hNB.move hW⟩⟩
theorem cS.last {D : va_G} {F : Nat → Prop} {h n sz : Nat} {G : Nat → va_E} {e : va_E} {H0 H : Heap} {locs : List Loc} (hS : cS D F h (n + 1) sz (va_up G n e) H0 H locs) : va_at D vwCl (h + n, e) H := by
  have h1 := hS.2.1 n (Nat.lt_succ_self n)
  unfold va_up at h1
  rw [if_pos rfl] at h1
  exact h1
theorem at_recv {D : va_G} {cy : Nat → ClassId} {a ci : Nat} {fs : List Value} {s : State} {H : Heap} (hK : va_K D vwCl (wT cy) s) (hci : ci < 8) (h2 : va_at D vwCl (a, .inr (ci, fs)) H) : ∃ cell : Cell, H[a]? = some cell ∧ cell.vm.isStatics = false ∧ s.vm.findClass (iCl ci).1 = some cell.cls := by
  obtain ⟨q', h1, cell, g1, g2, g3, -⟩ := h2
  exact ⟨cell, g1, by rw [g3]; rfl, by rw [g2]; exact (hK.1 ci _ (cl_get ci hci)).2.1⟩
theorem cPs.blind {D : va_G} {cy : Nat → ClassId} {h : Nat} {av : List Value} : FrameBlind (va_Pc av (cPs D cy h)) := fun a U g mk q => ⟨q.1, q.2.1, va_K.moved (u := U) (U := U.calling g mk a) (Vm.Alike.refl U.vm) q.2.2⟩
def shN (h : Nat) : List Value := [.ref (h + 1), .ref (h + 2), .ref (h + 3), .ref (h + 4), .int 0, .int 0, .int 0, .int 0, .int 0, .int 0, .int 0, .int 0, .int 0, .int 0, .int 0]
def shF (h : Nat) : List Value := [.ref (h + 1), .ref (h + 2), .ref (h + 3), .ref (h + 4), .int 1, .int 0, .int 0, .int 0, .int 20, .int 20, .int 100, .int 0, .int 0, .int 0, .int 0]
theorem dsX5c : yX5_clear.cls = RX5 ∧ yX5_clear.cls ≠ "java/lang/invoke/MethodHandle" ∧ yX5_clear.cls ≠ "java/lang/invoke/VarHandle" ∧ (parseMethodDescriptor yX5_clear.desc).map (fun d => d.parameters.length) = some 0 := by decide +kernel
theorem dsX4c : yX4_clear.cls = RX4 ∧ yX4_clear.cls ≠ "java/lang/invoke/MethodHandle" ∧ yX4_clear.cls ≠ "java/lang/invoke/VarHandle" ∧ (parseMethodDescriptor yX4_clear.desc).map (fun d => d.parameters.length) = some 0 := by decide +kernel
theorem dsX0 : yX0_init.cls ≠ "java/lang/invoke/MethodHandle" ∧ yX0_init.cls ≠ "java/lang/invoke/VarHandle" ∧ (parseMethodDescriptor yX0_init.desc).map (fun d => d.parameters.length) = some 0 := by decide +kernel
theorem dsX1 : yX1_init.cls ≠ "java/lang/invoke/MethodHandle" ∧ yX1_init.cls ≠ "java/lang/invoke/VarHandle" ∧ (parseMethodDescriptor yX1_init.desc).map (fun d => d.parameters.length) = some 0 := by decide +kernel
theorem dsX2 : yX2_init.cls ≠ "java/lang/invoke/MethodHandle" ∧ yX2_init.cls ≠ "java/lang/invoke/VarHandle" ∧ (parseMethodDescriptor yX2_init.desc).map (fun d => d.parameters.length) = some 0 := by decide +kernel
theorem dsX3 : yX3_init.cls ≠ "java/lang/invoke/MethodHandle" ∧ yX3_init.cls ≠ "java/lang/invoke/VarHandle" ∧ (parseMethodDescriptor yX3_init.desc).map (fun d => d.parameters.length) = some 0 := by decide +kernel
theorem dsX4 : yX4_init.cls ≠ "java/lang/invoke/MethodHandle" ∧ yX4_init.cls ≠ "java/lang/invoke/VarHandle" ∧ (parseMethodDescriptor yX4_init.desc).map (fun d => d.parameters.length) = some 0 := by decide +kernel
theorem dsX5 : yX5_init.cls ≠ "java/lang/invoke/MethodHandle" ∧ yX5_init.cls ≠ "java/lang/invoke/VarHandle" ∧ (parseMethodDescriptor yX5_init.desc).map (fun d => d.parameters.length) = some 0 := by decide +kernel
theorem dsX6 : yX6_init.cls ≠ "java/lang/invoke/MethodHandle" ∧ yX6_init.cls ≠ "java/lang/invoke/VarHandle" ∧ (parseMethodDescriptor yX6_init.desc).map (fun d => d.parameters.length) = some 0 := by decide +kernel
theorem dsX7 : yX7_init.cls ≠ "java/lang/invoke/MethodHandle" ∧ yX7_init.cls ≠ "java/lang/invoke/VarHandle" ∧ (parseMethodDescriptor yX7_init.desc).map (fun d => d.parameters.length) = some 0 := by decide +kernel
theorem dfX0 : ∀ j, j < 14 → defaultValue (tyX0 j) = vp_V [.int 0, .int 0, .int 0, .int 0, .int 0, .int 0, .int 0, .int 0, .int 0, .int 0, .int 0, .int 0, .int 0, .int 0] j := by decide +kernel
theorem dfX1 : ∀ j, j < 4 → defaultValue (tyX1 j) = vp_V [.null, .null, .int 0, .int 0] j := by decide +kernel
theorem dfX2 : ∀ j, j < 8 → defaultValue (tyX2 j) = vp_V [.null, .int 0, .int 0, .int 0, .int 0, .int 0, .int 0, .null] j := by decide +kernel
theorem dfX3 : ∀ j, j < 3 → defaultValue (tyX3 j) = vp_V [.null, .null, .int 0] j := by decide +kernel
theorem dfX4 : ∀ j, j < 15 → defaultValue (tyX4 j) = vp_V [.null, .null, .null, .null, .int 0, .int 0, .int 0, .int 0, .int 0, .int 0, .int 0, .int 0, .int 0, .int 0, .int 0] j := by decide +kernel
theorem dfX5 : ∀ j, j < 8 → defaultValue (tyX5 j) = vp_V [.int 0, .int 0, .int 0, .int 0, .int 0, .int 0, .int 0, .int 0] j := by decide +kernel
theorem dfX6 : ∀ j, j < 5 → defaultValue (tyX6 j) = vp_V [.null, .null, .null, .null, .null] j := by decide +kernel
theorem dfX7 : ∀ j, j < 20 → defaultValue (tyX7 j) = vp_V [.null, .null, .null, .null, .null, .int 0, .null, .int 0, .int 0, .int 0, .int 0, .int 0, .int 0, .int 0, .int 0, .null, .null, .null, .null, .int 0] j := by decide +kernel
set_option maxHeartbeats 4000000 in
set_option maxRecDepth 100000 in
theorem c_X4c (l : Launch) (D : va_G) (cy : Nat → ClassId) (h : Nat) (G : Nat → va_E) (hG0 : G 0 = .inr (4, shN h)) (hG1 : G 1 = .inl (cy 15, 6, .inr (.inr (.inr (.inr (fun j => if j < 6 then some (h + (7 + 1 * j)) else none)))))) (hGs : ∀ j, j < 6 → G (7 + 1 * j) = eSt) : cM l D cy yX4_clear cX4_clear 2 1 20 0 0 h 55 55 G (va_up G 0 (.inr (4, shF h))) := by
  show Met _ _ _ _ _ _ _ _ _
  refine Met.ofW (cc := cX4_clear) (maxL := 2) (ret := none) (by decide) rfl ?_
  intro p e s m args below meth c s₁ B hml hv
  obtain ⟨rfl, hsz, hat, hK, hNB⟩ := hv
  have hx := B.exec
  have hb := B.bytes
  have hr := B.returns
  have hts := atoms_spec (ws := .code yX4_clear cX4_clear 2 none :: tw2) B.pre
  have hown : s.vm.findClass RX4 = some m.cls := findClass_of_methodNamed B.named
  have hlocks := B.notSynchronized
  have hin : meth.name = "clear" := (name_of_methodNamed B.named B.method).1
  have hF : ∀ q, h ≤ q → cF h q := fun _ h9 => h9
  have hFk : ∀ k, cF h (h + k) := fun k => Nat.le_add_right h k
  have hl := lv_entry ([.ref h]) (n := 2) (Nat.le_of_ble_eq_true rfl)
  rw [lg_entry_eq]
  generalize (lg_sl ([.ref h]) ++ List.replicate (2 - (lg_sl ([.ref h])).length) Slot.unset).toArray = ls at hl ⊢
  have hl : lv_has ls 2 [(0, .ref h)] := hl
  have hS : cS D (cF h) h 55 (h + 55) G s.heap s.heap [] := ⟨hsz, hat, fun _ _ => rfl, fun _ h9 => nomatch h9⟩
  refine lv_aload_n (k := 0) (i := 0) (x := h) hx hb (by decide +kernel) rfl (lv_at hl 0 rfl) ?_
  refine lv_iconst (n := 1) (v := 1) hx hb (by decide +kernel) rfl ?_
  refine b_put (ty := .int) (v := .int (1)) hx hb hown hts hK 4 (by decide) hS 0 (by decide) rfl (hFk 0) hG0 4 (by decide) (hts _ (List.mem_cons_of_mem _ (w2r (i := 81) rfl))) rfl rfl (by decide +kernel) rfl rfl (Nat.le_of_ble_eq_true rfl) (by decide +kernel) (fun H locs hS => ?_)
  refine lv_aload_n (k := 0) (i := 0) (x := h) hx hb (by decide +kernel) rfl (lv_at hl 0 rfl) ?_
  refine lv_iconst (n := 0) (v := 0) hx hb (by decide +kernel) rfl ?_
  refine b_put (ty := .int) (v := .int (0)) hx hb hown hts hK 4 (by decide) hS 0 (by decide) rfl (hFk 0) rfl 5 (by decide) (hts _ (List.mem_cons_of_mem _ (w2r (i := 82) rfl))) rfl rfl (by decide +kernel) rfl rfl (Nat.le_of_ble_eq_true rfl) (by decide +kernel) (fun H locs hS => ?_)
  refine lv_aload_n (k := 0) (i := 0) (x := h) hx hb (by decide +kernel) rfl (lv_at hl 0 rfl) ?_
  refine lv_iconst (n := 0) (v := 0) hx hb (by decide +kernel) rfl ?_
  refine b_put (ty := .int) (v := .int (0)) hx hb hown hts hK 4 (by decide) hS 0 (by decide) rfl (hFk 0) rfl 6 (by decide) (hts _ (List.mem_cons_of_mem _ (w2r (i := 83) rfl))) rfl rfl (by decide +kernel) rfl rfl (Nat.le_of_ble_eq_true rfl) (by decide +kernel) (fun H locs hS => ?_)
  refine lv_aload_n (k := 0) (i := 0) (x := h) hx hb (by decide +kernel) rfl (lv_at hl 0 rfl) ?_
  refine lv_iconst (n := 0) (v := 0) hx hb (by decide +kernel) rfl ?_
  refine b_put (ty := .int) (v := .int (0)) hx hb hown hts hK 4 (by decide) hS 0 (by decide) rfl (hFk 0) rfl 7 (by decide) (hts _ (List.mem_cons_of_mem _ (w2r (i := 84) rfl))) rfl rfl (by decide +kernel) rfl rfl (Nat.le_of_ble_eq_true rfl) (by decide +kernel) (fun H locs hS => ?_)
  refine lv_aload_n (k := 0) (i := 0) (x := h) hx hb (by decide +kernel) rfl (lv_at hl 0 rfl) ?_
  refine lv_bipush (n := 20) (v := 20) hx hb (by decide +kernel) (by decide) ?_
  refine b_put (ty := .int) (v := .int (20)) hx hb hown hts hK 4 (by decide) hS 0 (by decide) rfl (hFk 0) rfl 8 (by decide) (hts _ (List.mem_cons_of_mem _ (w2r (i := 85) rfl))) rfl rfl (by decide +kernel) rfl rfl (Nat.le_of_ble_eq_true rfl) (by decide +kernel) (fun H locs hS => ?_)
  refine lv_aload_n (k := 0) (i := 0) (x := h) hx hb (by decide +kernel) rfl (lv_at hl 0 rfl) ?_
  refine lv_bipush (n := 20) (v := 20) hx hb (by decide +kernel) (by decide) ?_
  refine b_put (ty := .int) (v := .int (20)) hx hb hown hts hK 4 (by decide) hS 0 (by decide) rfl (hFk 0) rfl 9 (by decide) (hts _ (List.mem_cons_of_mem _ (w2r (i := 86) rfl))) rfl rfl (by decide +kernel) rfl rfl (Nat.le_of_ble_eq_true rfl) (by decide +kernel) (fun H locs hS => ?_)
  refine lv_aload_n (k := 0) (i := 0) (x := h) hx hb (by decide +kernel) rfl (lv_at hl 0 rfl) ?_
  refine lv_bipush (n := 100) (v := 100) hx hb (by decide +kernel) (by decide) ?_
  refine b_put (ty := .int) (v := .int (100)) hx hb hown hts hK 4 (by decide) hS 0 (by decide) rfl (hFk 0) rfl 10 (by decide) (hts _ (List.mem_cons_of_mem _ (w2r (i := 87) rfl))) rfl rfl (by decide +kernel) rfl rfl (Nat.le_of_ble_eq_true rfl) (by decide +kernel) (fun H locs hS => ?_)
  refine lv_aload_n (k := 0) (i := 0) (x := h) hx hb (by decide +kernel) rfl (lv_at hl 0 rfl) ?_
  refine lv_iconst (n := 0) (v := 0) hx hb (by decide +kernel) rfl ?_
  refine b_put (ty := .int) (v := .int (0)) hx hb hown hts hK 4 (by decide) hS 0 (by decide) rfl (hFk 0) rfl 11 (by decide) (hts _ (List.mem_cons_of_mem _ (w2r (i := 88) rfl))) rfl rfl (by decide +kernel) rfl rfl (Nat.le_of_ble_eq_true rfl) (by decide +kernel) (fun H locs hS => ?_)
  refine lv_aload_n (k := 0) (i := 0) (x := h) hx hb (by decide +kernel) rfl (lv_at hl 0 rfl) ?_
  refine lv_iconst (n := 0) (v := 0) hx hb (by decide +kernel) rfl ?_
  refine b_put (ty := .int) (v := .int (0)) hx hb hown hts hK 4 (by decide) hS 0 (by decide) rfl (hFk 0) rfl 12 (by decide) (hts _ (List.mem_cons_of_mem _ (w2r (i := 89) rfl))) rfl rfl (by decide +kernel) rfl rfl (Nat.le_of_ble_eq_true rfl) (by decide +kernel) (fun H locs hS => ?_)
  refine lv_aload_n (k := 0) (i := 0) (x := h) hx hb (by decide +kernel) rfl (lv_at hl 0 rfl) ?_
  refine lv_iconst (n := 0) (v := 0) hx hb (by decide +kernel) rfl ?_
  refine b_put (ty := .int) (v := .int (0)) hx hb hown hts hK 4 (by decide) hS 0 (by decide) rfl (hFk 0) rfl 13 (by decide) (hts _ (List.mem_cons_of_mem _ (w2r (i := 90) rfl))) rfl rfl (by decide +kernel) rfl rfl (Nat.le_of_ble_eq_true rfl) (by decide +kernel) (fun H locs hS => ?_)
  refine lv_aload_n (k := 0) (i := 0) (x := h) hx hb (by decide +kernel) rfl (lv_at hl 0 rfl) ?_
  refine lv_iconst (n := 0) (v := 0) hx hb (by decide +kernel) rfl ?_
  refine b_put (ty := .int) (v := .int (0)) hx hb hown hts hK 4 (by decide) hS 0 (by decide) rfl (hFk 0) rfl 14 (by decide) (hts _ (List.mem_cons_of_mem _ (w2r (i := 91) rfl))) rfl rfl (by decide +kernel) rfl rfl (Nat.le_of_ble_eq_true rfl) (by decide +kernel) (fun H locs hS => ?_)
  have hS := hS.to (G' := va_up G 0 (.inr (4, shF h))) (by
    intro k hk
    by_cases hk0 : k = 0
    · subst hk0
      rfl
    · unfold va_up
      simp only [if_neg hk0])
  refine lv_iconst (n := 0) (v := 0) hx hb (by decide +kernel) rfl ?_
  refine lv_istore_n (k := 1) (i := 1) (lv' := [(1, .int 0), (0, .ref h)]) hx hb (by decide +kernel) rfl hl (by decide) rfl (fun ls hl => ?_)
  have hg1 : va_up G 0 (.inr (4, shF h)) 1 = .inl (cy 15, 6, .inr (.inr (.inr (.inr (fun j => if j < 6 then some (h + (7 + 1 * j)) else none))))) := hG1
  have hgs : ∀ j, j < 6 → va_up G 0 (.inr (4, shF h)) (7 + 1 * j) = eSt := fun j hj => by
    unfold va_up
    rw [if_neg (by omega)]
    exact hGs j hj
  generalize hGc : va_up G 0 (.inr (4, shF h)) = Gc at hS hg1 hgs ⊢
  have hg0 : Gc 0 = .inr (4, shF h) := by rw [← hGc]; rfl
  have loop : ∀ (r i : Nat) (H : Heap) (locs : List Loc) (ls : Array Slot), i + r = 6 → lv_has ls 2 [(1, .int (nI i)), (0, .ref h)] → cS D (cF h) h 55 (h + 55) Gc s.heap H locs → W p l e { frames := 1, cells := 0, slots := 0, locals := 20 } s m [Value.ref h].toArray below meth c H locs 0 0 (MQ below (cQ D h 55 Gc) [Value.ref h].toArray s 0 0 (cF h)) (F0 m 60 ls []) := by
    intro r
    induction r with
    | zero =>
      intro i H locs ls hi hl hS
      obtain rfl : i = 6 := by omega
      refine lv_iload_n (k := 1) (i := 1) (x := nI 6) hx hb (by decide +kernel) rfl (lv_at hl 0 rfl) ?_
      refine lv_aload_n (k := 0) (i := 0) (x := h) hx hb (by decide +kernel) rfl (lv_at hl 1 rfl) ?_
      refine b_get (index := 11) hx hb hown hts hK 4 (by decide) hS 0 (by decide) rfl hg0 0 (by decide) (hts _ (List.mem_cons_of_mem _ (w2r (i := 92) rfl))) rfl rfl (by decide +kernel) ?_
      refine b_alen hx hb hK hS 1 (by decide) rfl hg1 6 rfl (v := nI 6) rfl (by decide +kernel) ?_
      refine lv_icmp_ge (off := 18) (tgt := 84) hx hb (by decide +kernel) (by decide) (fun _ => ?_) (fun h9 => absurd (nI_le (Nat.le_refl 6) (by omega)) h9)
      exact W.vret hx hb hr (fun t ht hW => ⟨rfl, by rw [ht]; exact hS.1, fun k hk => by rw [ht]; exact hS.2.1 k hk, fun q hq => (congrArg (fun z : Heap => z[q]?) ht).trans (hS.2.2.1 q (Nat.not_le.mpr hq))⟩) hS.2.2.2 (by decide +kernel)
    | succ r ih =>
      intro i H locs ls hi hl hS
      have hi6 : i < 6 := by omega
      refine lv_iload_n (k := 1) (i := 1) (x := nI i) hx hb (by decide +kernel) rfl (lv_at hl 0 rfl) ?_
      refine lv_aload_n (k := 0) (i := 0) (x := h) hx hb (by decide +kernel) rfl (lv_at hl 1 rfl) ?_
      refine b_get (index := 11) hx hb hown hts hK 4 (by decide) hS 0 (by decide) rfl hg0 0 (by decide) (hts _ (List.mem_cons_of_mem _ (w2r (i := 92) rfl))) rfl rfl (by decide +kernel) ?_
      refine b_alen hx hb hK hS 1 (by decide) rfl hg1 6 rfl (v := nI 6) rfl (by decide +kernel) ?_
      refine lv_icmp_ge (off := 18) (tgt := 84) hx hb (by decide +kernel) (by decide) (fun h9 => absurd h9 (lt_nle (nI_lt hi6 (by omega)))) (fun _ => ?_)
      refine lv_aload_n (k := 0) (i := 0) (x := h) hx hb (by decide +kernel) rfl (lv_at hl 1 rfl) ?_
      refine b_get (index := 11) hx hb hown hts hK 4 (by decide) hS 0 (by decide) rfl hg0 0 (by decide) (hts _ (List.mem_cons_of_mem _ (w2r (i := 92) rfl))) rfl rfl (by decide +kernel) ?_
      refine lv_iload_n (k := 1) (i := 1) (x := nI i) hx hb (by decide +kernel) rfl (lv_at hl 0 rfl) ?_
      refine b_aald (v := h + (7 + 1 * i)) hx hb hK hS 1 (by decide) rfl hg1 6 rfl (vin hi6 (by omega)) (by rw [nI_clamp (by omega), if_pos hi6]) (by decide +kernel) ?_
      have hst : va_at D vwCl (h + (7 + 1 * i), eSt) H := by
        have h9 := hS.2.1 (7 + 1 * i) (by omega)
        rw [hgs i hi6] at h9
        exact h9
      refine call_go (va_runV (As := []) (rest := []) (C := RX5) ⟨hx, hb, hml, hown, hts⟩ (c_X5c l D cy (h + (7 + 1 * i))) (cwV 0 hts (gd_V2 (idx := 76) (w2r (i := 93) rfl) (w2r (i := 543) rfl) (w2r (i := 544) rfl) (w2r (i := 545) rfl) (w2r (i := 542) rfl) (fun _ h9 => h9)) rfl rfl rfl dsX5c ⟨Nat.le_of_ble_eq_true rfl, Nat.le_of_ble_eq_true rfl⟩) ⟨cPs.blind, at_recv hK (ci := 5) (by decide) hst, fun U hU hW => ⟨rfl, by rw [hU]; exact hst, va_K.moved hW.alike hK⟩⟩ rfl rfl hl.1 rfl (lv_room (Nat.le_of_ble_eq_true rfl)) (show decode cX4_clear 75 = .ok (.invokevirtual 76, 3) by decide +kernel) ⟨Nat.le_of_ble_eq_true rfl, Nat.le_of_ble_eq_true rfl⟩) (fun v9 st t H1 L1 h1 h2 h3 h4 => ?_)
      obtain ⟨hv9, hz, ha, ho⟩ := h3
      cases hv9
      subst h2
      have hS : cS D (cF h) h 55 (h + 55) Gc s.heap t.heap (locs ++ L1) := by
        refine ⟨hz.trans (by rw [h1]; exact hS.1), fun k hk => ?_, fun q hq => ?_, fun z hz9 => (List.mem_append.mp hz9).elim (hS.2.2.2 z) (fun h9 => ?_)⟩
        · by_cases hkk : k = 7 + 1 * i
          · subst hkk
            rw [hgs i hi6]
            exact ha
          · exact (hS.2.1 k hk).kept (by rw [ho _ (by show h + k ≠ _; omega), h1])
        · rw [ho q (fun q9 => hq (by rw [q9]; exact Nat.le_add_right h _)), h1]
          exact hS.2.2.1 q hq
        · rw [h4 z h9]
          exact Nat.le_add_right h _
      refine lv_iinc (i := 1) (n := 1) (v := nI (i + 1)) (lv' := [(1, .int (nI (i + 1))), (0, .ref h)]) hx hb (by decide +kernel) hl (k := 0) rfl (nI_1 i) (by decide) rfl (fun ls hl => ?_)
      refine lv_goto (off := -21) (tgt := 60) hx hb (by decide +kernel) (by decide) ?_
      exact ih (i + 1) t.heap (locs ++ L1) ls (by omega) hl hS
  exact loop 6 0 _ _ ls rfl hl hS
/-- the cells of a shop before its three loops, behind each of them, and behind the constructor -/
def g7 (cy : Nat → ClassId) (h k : Nat) : va_E := match k with
  | 0 => .inr (4, shN h)
  | 1 => .inl (cy 15, 6, .inr (.inr (.inr (.inr (fun _ => none)))))
  | 2 => .inl (cy 13, 6, .inr (.inr (.inr (.inr (fun _ => none)))))
  | 3 => .inl (cy 12, 24, .inr (.inr (.inr (.inr (fun _ => none)))))
  | k + 4 => gSc cy (h + 4) k
def g13 (cy : Nat → ClassId) (h : Nat) : Nat → va_E := gL h 7 1 6 1 (cy 15) (fun _ _ => eSt) (g7 cy h) 6
def g31 (cy : Nat → ClassId) (h : Nat) : Nat → va_E := gL h 13 3 6 2 (cy 13) (gP cy) (g13 cy h) 6
def g55 (cy : Nat → ClassId) (h : Nat) : Nat → va_E := gL h 31 1 24 3 (cy 12) (fun _ _ => eO) (g31 cy h) 24
def gSh (cy : Nat → ClassId) (h : Nat) : Nat → va_E := va_up (g55 cy h) 0 (.inr (4, shF h))
theorem gL_0 {h b w N kA : Nat} {cA : ClassId} {Cf : Nat → Nat → va_E} {G : Nat → va_E} {f : Nat → Option Nat} (hkA : G kA = .inl (cA, N, .inr (.inr (.inr (.inr (fun _ => none)))))) : ∀ k, k < b → G k = gL h b w N kA cA Cf G 0 k := by
  intro k hk
  unfold gL
  by_cases h1 : k = kA
  · rw [if_pos h1, h1, hkA]
    rfl
  · rw [if_neg h1, if_pos hk]
set_option maxHeartbeats 4000000 in
set_option maxRecDepth 100000 in
theorem c_X4 (l : Launch) (D : va_G) (cy : Nat → ClassId) (h : Nat) : cM l D cy yX4_init cX4_init 2 2 41 54 567 h 1 55 (fun _ => .inr (4, [.null, .null, .null, .null, .int 0, .int 0, .int 0, .int 0, .int 0, .int 0, .int 0, .int 0, .int 0, .int 0, .int 0])) (gSh cy h) := by
  show Met _ _ _ _ _ _ _ _ _
  generalize hCf : gSh cy h = Cf
  refine Met.ofW (cc := cX4_init) (maxL := 2) (ret := none) (by decide) rfl ?_
  intro p e s m args below meth c s₁ B hml hv
  obtain ⟨rfl, hsz, hat, hK, hNB⟩ := hv
  have hx := B.exec
  have hb := B.bytes
  have hr := B.returns
  have hts := atoms_spec (ws := .code yX4_init cX4_init 2 none :: tw2) B.pre
  have hown : s.vm.findClass RX4 = some m.cls := findClass_of_methodNamed B.named
  have hlocks := B.notSynchronized
  have hin : meth.name = "<init>" := (name_of_methodNamed B.named B.method).1
  have hF : ∀ q, h ≤ q → cF h q := fun _ h9 => h9
  have hFk : ∀ k, cF h (h + k) := fun k => Nat.le_add_right h k
  have hl := lv_entry ([.ref h]) (n := 2) (Nat.le_of_ble_eq_true rfl)
  rw [lg_entry_eq]
  generalize (lg_sl ([.ref h]) ++ List.replicate (2 - (lg_sl ([.ref h])).length) Slot.unset).toArray = ls at hl ⊢
  have hl : lv_has ls 2 [(0, .ref h)] := hl
  have hS : cS D (cF h) h 1 (h + 1) (fun _ => .inr (4, [.null, .null, .null, .null, .int 0, .int 0, .int 0, .int 0, .int 0, .int 0, .int 0, .int 0, .int 0, .int 0, .int 0])) s.heap s.heap [] := ⟨hsz, hat, fun _ _ => rfl, fun _ h9 => nomatch h9⟩
  refine lv_aload_n (k := 0) (i := 0) (x := h) hx hb (by decide +kernel) rfl (lv_at hl 0 rfl) ?_
  refine W.objInit hx hb hown (hts _ (List.mem_cons_of_mem _ (w2c (i := 19) rfl))) (hts _ (List.mem_cons_of_mem _ (w2c (i := 32) rfl))) (hts _ (List.mem_cons_of_mem _ (w2c (i := 33) rfl))) rfl (by rw [hml]; exact hl.1) rfl (show decode cX4_init 1 = .ok (.invokespecial 3, 3) by decide +kernel) (Nat.le_of_ble_eq_true rfl) (Nat.le_of_ble_eq_true rfl) ?_
  refine W.eq (g2 := F0 m 4 ls []) rfl ?_
  refine lv_aload_n (k := 0) (i := 0) (x := h) hx hb (by decide +kernel) rfl (lv_at hl 0 rfl) ?_
  refine lv_bipush (n := 6) (v := 6) hx hb (by decide +kernel) (by decide) ?_
  refine b_anew (C := RX5) (cA := cy 15) (k := 6) (N := 6) hx hb hown (hts _ (List.mem_cons_of_mem _ (w2c (i := 36) rfl))) hNB.2.1 (hK.2 6 _ rfl).2 hS hF (by decide) (by decide) (by decide) (Nat.le_of_ble_eq_true rfl) (Nat.le_of_ble_eq_true rfl) (by decide +kernel) (fun H hS => ?_)
  refine b_putF (ty := .array (.object "DrumRope$Station")) (v := .ref (h + 1)) hx hb hown hts hK 4 (by decide) hS 0 (by decide) rfl (hFk 0) rfl 0 (by decide) (hts _ (List.mem_cons_of_mem _ (w2r (i := 92) rfl))) rfl hin rfl (by decide +kernel) rfl rfl (Nat.le_of_ble_eq_true rfl) (by decide +kernel) (fun H locs hS => ?_)
  refine lv_aload_n (k := 0) (i := 0) (x := h) hx hb (by decide +kernel) rfl (lv_at hl 0 rfl) ?_
  refine lv_bipush (n := 6) (v := 6) hx hb (by decide +kernel) (by decide) ?_
  refine b_anew (C := RX1) (cA := cy 13) (k := 6) (N := 6) hx hb hown (hts _ (List.mem_cons_of_mem _ (w2c (i := 37) rfl))) hNB.2.2.1 (hK.2 4 _ rfl).2 hS hF (by decide) (by decide) (by decide) (Nat.le_of_ble_eq_true rfl) (Nat.le_of_ble_eq_true rfl) (by decide +kernel) (fun H hS => ?_)
  refine b_putF (ty := .array (.object "DrumRope$Product")) (v := .ref (h + 2)) hx hb hown hts hK 4 (by decide) hS 0 (by decide) rfl (hFk 0) rfl 1 (by decide) (hts _ (List.mem_cons_of_mem _ (w2r (i := 95) rfl))) rfl hin rfl (by decide +kernel) rfl rfl (Nat.le_of_ble_eq_true rfl) (by decide +kernel) (fun H locs hS => ?_)
  refine lv_aload_n (k := 0) (i := 0) (x := h) hx hb (by decide +kernel) rfl (lv_at hl 0 rfl) ?_
  refine lv_bipush (n := 24) (v := 24) hx hb (by decide +kernel) (by decide) ?_
  refine b_anew (C := RX0) (cA := cy 12) (k := 24) (N := 24) hx hb hown (hts _ (List.mem_cons_of_mem _ (w2c (i := 38) rfl))) hNB.2.2.2.1 (hK.2 3 _ rfl).2 hS hF (by decide) (by decide) (by decide) (Nat.le_of_ble_eq_true rfl) (Nat.le_of_ble_eq_true rfl) (by decide +kernel) (fun H hS => ?_)
  refine b_putF (ty := .array (.object "DrumRope$Order")) (v := .ref (h + 3)) hx hb hown hts hK 4 (by decide) hS 0 (by decide) rfl (hFk 0) rfl 2 (by decide) (hts _ (List.mem_cons_of_mem _ (w2r (i := 97) rfl))) rfl hin rfl (by decide +kernel) rfl rfl (Nat.le_of_ble_eq_true rfl) (by decide +kernel) (fun H locs hS => ?_)
  refine lv_aload_n (k := 0) (i := 0) (x := h) hx hb (by decide +kernel) rfl (lv_at hl 0 rfl) ?_
  refine b_new (index := 29) (fs := [.null, .null, .int 0]) hx hb hown hts hK 3 (by decide) tyX3 tyX3_ok (hts _ (List.mem_cons_of_mem _ (w2c (i := 39) rfl))) (hts _ (List.mem_cons_of_mem _ (w2c (i := 14) rfl))) (hts _ (List.mem_cons_of_mem _ (w2r (i := 433) rfl))) hS hF dfX3 (Nat.le_of_ble_eq_true rfl) (Nat.le_of_ble_eq_true rfl) (by decide +kernel) (fun H hS => ?_)
  refine lv_dup (va := .ref (h + 4)) hx hb (by decide +kernel) rfl ?_
  refine b_call (n := 4) (w := 3) (Cf := gSc cy (h + 4)) (va_runIN (As := []) (rest := [.ref (h + 4), .ref h]) ⟨hx, hb, hml, hown, hts⟩ (c_X3 l D cy (h + 4)) ⟨va_cnB 0 hts (gd_2 (w2c (i := 12) rfl) (fun _ h9 => h9)) rfl rfl rfl (hNB.at 1 rfl) (hts _ (List.mem_cons_of_mem _ (w2r (i := 433) rfl))) dsX3 ⟨(Nat.le_of_ble_eq_true rfl), (Nat.le_of_ble_eq_true rfl)⟩, rfl, (hts _ (List.mem_cons_of_mem _ (w2c (i := 13) rfl)))⟩ (cP.of (ci := 3) hS.1 hS.last hK hNB) rfl rfl hl.1 rfl (lv_room (Nat.le_of_ble_eq_true rfl)) (show decode cX4_init 36 = .ok (.invokespecial 31, 3) by decide +kernel) ⟨(Nat.le_of_ble_eq_true rfl), (Nat.le_of_ble_eq_true rfl)⟩) hS (fun H locs hS => ?_)
  refine b_putF (ty := .object "DrumRope$Schedule") (v := .ref (h + 4)) hx hb hown hts hK 4 (by decide) hS 0 (by decide) rfl (hFk 0) rfl 3 (by decide) (hts _ (List.mem_cons_of_mem _ (w2r (i := 109) rfl))) rfl hin rfl (by decide +kernel) rfl rfl (Nat.le_of_ble_eq_true rfl) (by decide +kernel) (fun H locs hS => ?_)
  have hS := hS.to (G' := g7 cy h) (by
    intro k hk
    match k, hk with
    | 0, _ => rfl
    | 1, _ => rfl
    | 2, _ => rfl
    | 3, _ => rfl
    | 4, _ => rfl
    | 5, _ => rfl
    | 6, _ => rfl)
  have hS := hS.to (G' := gL h 7 1 6 1 (cy 15) (fun _ _ => eSt) (g7 cy h) 0) (gL_0 (f := fun _ => none) rfl)
  refine lv_iconst (n := 0) (v := 0) hx hb (by decide +kernel) rfl ?_
  refine lv_istore_n (k := 1) (i := 1) (lv' := [(1, .int 0), (0, .ref h)]) hx hb (by decide +kernel) rfl hl (by decide) rfl (fun ls hl => ?_)
  refine b_loop (b := 7) (w := 1) (N := 6) (kA := 1) (cA := cy 15) (Cf := fun _ _ => eSt) (G := g7 cy h) (co := 4) (ce := 5) (fs := shN h) (fs1 := [.int 0, .int 0, .int 0, .int 0, .int 0, .int 0, .int 0, .int 0]) (fi := 11) (ki := 9) (mc := 0) (ms := 0) (cells := 6) (slots := 87) (pc := 44) hx hb hown hts hK (by decide) (by decide) rfl (by decide) (by decide) (by decide) (by decide) 0 (by decide) rfl (hts _ (List.mem_cons_of_mem _ (w2r (i := 92) rfl))) rfl 6 rfl tyX5 tyX5_ok (hts _ (List.mem_cons_of_mem _ (w2c (i := 36) rfl))) (hts _ (List.mem_cons_of_mem _ (w2c (i := 22) rfl))) (hts _ (List.mem_cons_of_mem _ (w2r (i := 545) rfl))) dfX5 (fun a => ⟨_, rfl⟩) (by decide +kernel) (by decide +kernel) (by decide +kernel) (by decide +kernel) (by decide +kernel) (by decide +kernel) (by decide +kernel) (by decide +kernel) (by decide +kernel) (by decide +kernel) (by decide +kernel) (by decide +kernel) (by decide +kernel) (fun a i H locs cells slots ls hls h1 h2 h3 h4 => va_runIN (As := []) (rest := [.ref a, .int i, .ref (h + 1)]) ⟨hx, hb, hml, hown, hts⟩ (c_X5 l D cy a) ⟨va_cnB 0 hts (gd_2 (w2c (i := 20) rfl) (fun _ h9 => h9)) rfl rfl rfl (hNB.at 2 rfl) (hts _ (List.mem_cons_of_mem _ (w2r (i := 545) rfl))) dsX5 ⟨(Nat.le_of_ble_eq_true rfl), (Nat.le_of_ble_eq_true rfl)⟩, rfl, (hts _ (List.mem_cons_of_mem _ (w2c (i := 21) rfl)))⟩ (cP.of (ci := 5) h1 h2 hK hNB) rfl rfl hls rfl (lv_room (Nat.le_of_ble_eq_true rfl)) (show decode cX4_init 62 = .ok (.invokespecial 36, 3) by decide +kernel) ⟨h3, h4⟩) (Nat.le_of_ble_eq_true rfl) (Nat.le_of_ble_eq_true rfl) (fun H locs ls hl hS => ?_) 6 0 _ _ ls rfl hl hS
  have hS : cS D (cF h) h 13 (h + 13) (g13 cy h) s.heap H locs := hS
  have hS := hS.to (G' := gL h 13 3 6 2 (cy 13) (gP cy) (g13 cy h) 0) (gL_0 (f := fun _ => none) rfl)
  refine lv_iconst (n := 0) (v := 0) hx hb (by decide +kernel) rfl ?_
  refine lv_istore_n (k := 1) (i := 1) (lv' := [(1, .int 0), (0, .ref h)]) hx hb (by decide +kernel) rfl hl (by decide) rfl (fun ls hl => ?_)
  refine b_loop (b := 13) (w := 3) (N := 6) (kA := 2) (cA := cy 13) (Cf := gP cy) (G := g13 cy h) (co := 4) (ce := 1) (fs := shN h) (fs1 := [.null, .null, .int 0, .int 0]) (fi := 19) (ki := 17) (mc := 2) (ms := 12) (cells := 12) (slots := 135) (pc := 74) hx hb hown hts hK (by decide) (by decide) rfl (by decide) (by decide) (by decide) (by decide) 1 (by decide) rfl (hts _ (List.mem_cons_of_mem _ (w2r (i := 95) rfl))) rfl 4 rfl tyX1 tyX1_ok (hts _ (List.mem_cons_of_mem _ (w2c (i := 37) rfl))) (hts _ (List.mem_cons_of_mem _ (w2c (i := 6) rfl))) (hts _ (List.mem_cons_of_mem _ (w2r (i := 368) rfl))) dfX1 (fun a => ⟨_, rfl⟩) (by decide +kernel) (by decide +kernel) (by decide +kernel) (by decide +kernel) (by decide +kernel) (by decide +kernel) (by decide +kernel) (by decide +kernel) (by decide +kernel) (by decide +kernel) (by decide +kernel) (by decide +kernel) (by decide +kernel) (fun a i H locs cells slots ls hls h1 h2 h3 h4 => va_runIN (As := []) (rest := [.ref a, .int i, .ref (h + 2)]) ⟨hx, hb, hml, hown, hts⟩ (c_X1 l D cy a) ⟨va_cnB 0 hts (gd_2 (w2c (i := 4) rfl) (fun _ h9 => h9)) rfl rfl rfl (hNB.at 3 rfl) (hts _ (List.mem_cons_of_mem _ (w2r (i := 368) rfl))) dsX1 ⟨(Nat.le_of_ble_eq_true rfl), (Nat.le_of_ble_eq_true rfl)⟩, rfl, (hts _ (List.mem_cons_of_mem _ (w2c (i := 5) rfl)))⟩ (cP.of (ci := 1) h1 h2 hK hNB) rfl rfl hls rfl (lv_room (Nat.le_of_ble_eq_true rfl)) (show decode cX4_init 92 = .ok (.invokespecial 37, 3) by decide +kernel) ⟨h3, h4⟩) (Nat.le_of_ble_eq_true rfl) (Nat.le_of_ble_eq_true rfl) (fun H locs ls hl hS => ?_) 6 0 _ _ ls rfl hl hS
  have hS : cS D (cF h) h 31 (h + 31) (g31 cy h) s.heap H locs := hS
  have hS := hS.to (G' := gL h 31 1 24 3 (cy 12) (fun _ _ => eO) (g31 cy h) 0) (gL_0 (f := fun _ => none) rfl)
  refine lv_iconst (n := 0) (v := 0) hx hb (by decide +kernel) rfl ?_
  refine lv_istore_n (k := 1) (i := 1) (lv' := [(1, .int 0), (0, .ref h)]) hx hb (by decide +kernel) rfl hl (by decide) rfl (fun ls hl => ?_)
  refine b_loop (b := 31) (w := 1) (N := 24) (kA := 3) (cA := cy 12) (Cf := fun _ _ => eO) (G := g31 cy h) (co := 4) (ce := 0) (fs := shN h) (fs1 := [.int 0, .int 0, .int 0, .int 0, .int 0, .int 0, .int 0, .int 0, .int 0, .int 0, .int 0, .int 0, .int 0, .int 0]) (fi := 25) (ki := 23) (mc := 0) (ms := 0) (cells := 30) (slots := 231) (pc := 104) hx hb hown hts hK (by decide) (by decide) rfl (by decide) (by decide) (by decide) (by decide) 2 (by decide) rfl (hts _ (List.mem_cons_of_mem _ (w2r (i := 97) rfl))) rfl 3 rfl tyX0 tyX0_ok (hts _ (List.mem_cons_of_mem _ (w2c (i := 38) rfl))) (hts _ (List.mem_cons_of_mem _ (w2c (i := 2) rfl))) (hts _ (List.mem_cons_of_mem _ (w2r (i := 352) rfl))) dfX0 (fun a => ⟨_, rfl⟩) (by decide +kernel) (by decide +kernel) (by decide +kernel) (by decide +kernel) (by decide +kernel) (by decide +kernel) (by decide +kernel) (by decide +kernel) (by decide +kernel) (by decide +kernel) (by decide +kernel) (by decide +kernel) (by decide +kernel) (fun a i H locs cells slots ls hls h1 h2 h3 h4 => va_runIN (As := []) (rest := [.ref a, .int i, .ref (h + 3)]) ⟨hx, hb, hml, hown, hts⟩ (c_X0 l D cy a) ⟨va_cnB 0 hts (gd_2 (w2c (i := 0) rfl) (fun _ h9 => h9)) rfl rfl rfl (hNB.at 4 rfl) (hts _ (List.mem_cons_of_mem _ (w2r (i := 352) rfl))) dsX0 ⟨(Nat.le_of_ble_eq_true rfl), (Nat.le_of_ble_eq_true rfl)⟩, rfl, (hts _ (List.mem_cons_of_mem _ (w2c (i := 1) rfl)))⟩ (cP.of (ci := 0) h1 h2 hK hNB) rfl rfl hls rfl (lv_room (Nat.le_of_ble_eq_true rfl)) (show decode cX4_init 122 = .ok (.invokespecial 38, 3) by decide +kernel) ⟨h3, h4⟩) (Nat.le_of_ble_eq_true rfl) (Nat.le_of_ble_eq_true rfl) (fun H locs ls hl hS => ?_) 24 0 _ _ ls rfl hl hS
  have hS : cS D (cF h) h 55 (h + 55) (g55 cy h) s.heap H locs := hS
  refine lv_aload_n (k := 0) (i := 0) (x := h) hx hb (by decide +kernel) rfl (lv_at hl 0 rfl) ?_
  have hc : cM l D cy yX4_clear cX4_clear 2 1 20 0 0 h 55 55 (g55 cy h) Cf := by
    rw [← hCf]
    refine c_X4c l D cy h (g55 cy h) rfl rfl (fun j hj => ?_)
    match j, hj with
    | 0, _ => rfl
    | 1, _ => rfl
    | 2, _ => rfl
    | 3, _ => rfl
    | 4, _ => rfl
    | 5, _ => rfl
  have hrun := va_runV (p := p) (e := e) (R := { frames := 2, cells := 54, slots := 567, locals := 41 }) (below := below) (meth := meth) (H := H) (locs := locs) (cells := 54) (slots := 567) (g := F0 m 133 ls [.ref h]) (As := []) (rest := []) (b := h) (C := RX4) ⟨hx, hb, hml, hown, hts⟩ hc (cwV 0 hts (gd_V2 (idx := 39) (w2c (i := 45) rfl) (w2r (i := 447) rfl) (w2r (i := 448) rfl) (w2r (i := 449) rfl) (w2r (i := 446) rfl) (fun _ h9 => h9)) rfl rfl rfl dsX4c ⟨Nat.le_of_ble_eq_true rfl, Nat.le_of_ble_eq_true rfl⟩) ⟨cP.blind, at_recv hK (ci := 4) (fs := shN h) (by decide) (hS.2.1 0 (by decide)), fun U hU hW => ⟨rfl, by rw [hU]; exact hS.1, fun k hk => by rw [hU]; exact hS.2.1 k hk, va_K.moved hW.alike hK, hNB.move hW⟩⟩ rfl rfl hl.1 rfl (lv_room (Nat.le_of_ble_eq_true rfl)) (show decode cX4_init 133 = .ok (.invokevirtual 39, 3) by decide +kernel) ⟨Nat.le_refl _, Nat.le_refl _⟩
  intro T hT X
  obtain ⟨v, st₀, t, T', L, h0, X', hL, e1, e2, ⟨hv, hz, hcl, hk⟩, st⟩ := hrun T hT X
  cases hv
  have hfin : W p l e { frames := 2, cells := 54, slots := 567, locals := 41 } s m [Value.ref h].toArray below meth c T'.heap (locs ++ L) 54 567 (MQ below (cQ D h 55 Cf) [Value.ref h].toArray s 54 567 (cF h)) (F0 m 136 ls []) := W.vret hx hb hr (fun t9 ht hW => ⟨rfl, by rw [ht, e1]; exact hz, fun k hk9 => by rw [ht, e1]; exact hcl k hk9, fun q hq => by
    rw [ht, e1, hk q hq, h0]
    exact hS.2.2.1 q (Nat.not_le.mpr hq)⟩) (fun z hz9 => (List.mem_append.mp hz9).elim (hS.2.2.2 z) (hL z)) (by decide +kernel)
  obtain ⟨t2, a1, b1⟩ := hfin T' rfl X'
  exact ⟨t2, st t2 a1, b1⟩
