/-! ===== the texts: length and charAt ===== -/
theorem gd_tw {c0 : Cond} {ws : List Cond} (h : ∀ w ∈ ws, w ∈ tw) : GoodIn (c0 :: tw) ws := fun w hw => ⟨List.mem_cons_of_mem _ (h w hw), tw_good1 (h w hw)⟩
theorem gd_c {c0 c1 : Cond} (h : c1 ∈ tw) : GoodIn (c0 :: tw) (c1 :: tw) := gd_tw (fun w hw => (List.mem_cons.mp hw).elim (fun e9 => e9 ▸ h) id)
theorem gd_V {c0 : Cond} {own C : String} {idx mL : Nat} {y : MethodName} {bytes : ByteArray} {ret : Option FieldType} (h0 : Cond.methodLink own idx y ∈ tw) (h1 : Cond.instanceMethod y ∈ tw) (h2 : Cond.selects C y y ∈ tw) (h3 : Cond.initialized C ∈ tw) (h4 : Cond.code y bytes mL ret ∈ tw) : GoodIn (c0 :: tw) (wsV own idx C y (.code y bytes mL ret :: tw)) := by
  apply gd_tw
  intro w hw9
  unfold wsV at hw9
  rcases List.mem_append.mp hw9 with hw9 | hw9
  · simp only [List.mem_cons, List.not_mem_nil, or_false] at hw9
    rcases hw9 with rfl | rfl | rfl | rfl
    · exact h0
    · exact h1
    · exact h2
    · exact h3
  · rcases List.mem_cons.mp hw9 with rfl | hw9
    · exact h4
    · exact hw9
section STR
variable {p : Program} {l : Launch} {e : Env} {R : Room} {s : State} {m : MethodId} {args : Array Value} {below : List Frame} {meth : Method} {c : Code} {H : Heap} {locs : List Loc} {Q : State → Prop} {ad : Nat → Nat → Nat} {adV : Nat → Nat}
variable {c0 : Cond} {cc bytes : ByteArray} {nL mL idx pc : Nat} {own C : String} {y : MethodName} {ret : Option FieldType} {rm : Room} {b : Addr} {As rest : List Value} {ls : Array Slot} {r : Option Value}
theorem jV (hx : p.tables.exec = Jvm.exec) (hb : c.code = cc) (hml : c.maxLocals = nL) (hown : s.vm.findClass own = some m.cls) (hts : ∀ w ∈ c0 :: tw, w.before args s = true) (hE : EXs ad adV s) (hS : va_S (wA ad) s.heap H locs)
    (hM : Met l y (.code y bytes mL ret :: tw) rm (va_Pc (.ref b :: As) (EXs ad adV)) (fun _ st o t => o = .returned r ∧ t.heap = st.heap) 0 0 (fun _ => False)) (hG : GoodIn (c0 :: tw) (wsV own idx C y (.code y bytes mL ret :: tw)))
    (hd : y.cls = C ∧ y.cls ≠ "java/lang/invoke/MethodHandle" ∧ y.cls ≠ "java/lang/invoke/VarHandle" ∧ (parseMethodDescriptor y.desc).map (fun d => d.parameters.length) = some As.length) (hR : rm.frames + 1 ≤ R.frames ∧ 8 + (mL + 11) + rm.locals ≤ R.locals) (hrc : rm.cells = 0) (hrs : rm.slots = 0)
    (hcell : ∃ cell : Cell, H[b]? = some cell ∧ cell.vm.isStatics = false ∧ s.vm.findClass C = some cell.cls) (hls : ls.size = nL) (h8 : (rest.map fun v => v.category).sum ≤ 8) (hdg : decode cc pc = .ok (.invokevirtual idx, 3))
    (k : W p l e R s m args below meth c H locs 0 0 Q (F0 m (pc + 3) ls (r.toList ++ rest))) : W p l e R s m args below meth c H locs 0 0 Q (F0 m pc ls (As.reverse ++ .ref b :: rest)) := by
  have hrun := va_runV (p := p) (l := l) (e := e) (R := R) (s := s) (m := m) (args := args) (below := below) (meth := meth) (c := c) (H := H) (locs := locs) (cells := 0) (slots := 0) (g := F0 m pc ls (As.reverse ++ .ref b :: rest)) (rest := rest) (As := As) (b := b) (C := C) ⟨hx, hb, hml, hown, hts⟩ hM
    (cwV As.length hts hG rfl hrc hrs hd hR)
    ⟨fun a9 U g mk q9 => ⟨q9.1, EXs.call g mk a9 q9.2⟩, hcell, fun U hU hW => ⟨rfl, hE.move hW (by rw [hU]; exact hS)⟩⟩
    rfl rfl hls rfl (lv_room h8) hdg ⟨Nat.zero_le _, Nat.zero_le _⟩
  refine call_go hrun (fun v9 st t H1 L1 h1 h2 h3 h4 => ?_)
  obtain ⟨hv9, hH⟩ := h3
  cases hv9
  subst h2
  rw [hH, h1]
  cases L1 with
  | nil => rw [List.append_nil]; exact k
  | cons z L1 => exact (h4 z List.mem_cons_self).elim
theorem jS (hx : p.tables.exec = Jvm.exec) (hb : c.code = cc) (hml : c.maxLocals = nL) (hown : s.vm.findClass own = some m.cls) (hts : ∀ w ∈ c0 :: tw, w.before args s = true) (hE : EXs ad adV s) (hS : va_S (wA ad) s.heap H locs)
    (hM : Met l y (.code y bytes mL ret :: tw) rm (va_Pc As (EXs ad adV)) (fun _ st o t => o = .returned r ∧ t.heap = st.heap) 0 0 (fun _ => False)) (h0 : Cond.methodLink own idx y ∈ tw) (h1 : Cond.static y ∈ tw) (h2 : Cond.initialized y.cls ∈ tw) (h3 : Cond.code y bytes mL ret ∈ tw)
    (hd : y.cls ≠ "java/lang/invoke/MethodHandle" ∧ y.cls ≠ "java/lang/invoke/VarHandle" ∧ (parseMethodDescriptor y.desc).map (fun d => d.parameters.length) = some As.length) (hR : rm.frames + 1 ≤ R.frames ∧ 8 + (mL + 11) + rm.locals ≤ R.locals) (hrc : rm.cells = 0) (hrs : rm.slots = 0)
    (hls : ls.size = nL) (h8 : (rest.map fun v => v.category).sum ≤ 8) (hdg : decode cc pc = .ok (.invokestatic idx, 3))
    (k : W p l e R s m args below meth c H locs 0 0 Q (F0 m (pc + 3) ls (r.toList ++ rest))) : W p l e R s m args below meth c H locs 0 0 Q (F0 m pc ls (As.reverse ++ rest)) := by
  have hrun := va_runS (p := p) (l := l) (e := e) (R := R) (s := s) (m := m) (args := args) (below := below) (meth := meth) (c := c) (H := H) (locs := locs) (cells := 0) (slots := 0) (g := F0 m pc ls (As.reverse ++ rest)) (rest := rest) (As := As) ⟨hx, hb, hml, hown, hts⟩ hM
    ⟨callB_of As.length hts (gd_c h3) rfl hrc hrs (hts _ (List.mem_cons_of_mem _ h2)) (hts _ (List.mem_cons_of_mem _ h0)) hd hR, hts _ (List.mem_cons_of_mem _ h1)⟩
    ⟨fun a9 U g mk q9 => ⟨q9.1, EXs.call g mk a9 q9.2⟩, fun U hU hW => ⟨rfl, hE.move hW (by rw [hU]; exact hS)⟩⟩
    rfl rfl hls rfl (lv_room h8) hdg ⟨Nat.zero_le _, Nat.zero_le _⟩
  refine call_go hrun (fun v9 st t H1 L1 h1 h2 h3 h4 => ?_)
  obtain ⟨hv9, hH⟩ := h3
  cases hv9
  subst h2
  rw [hH, h1]
  cases L1 with
  | nil => rw [List.append_nil]; exact k
  | cons z L1 => exact (h4 z List.mem_cons_self).elim
end STR
theorem sK_at : ∀ i, i < 8 → sK.getD i 0 = sLen i := by decide +kernel
theorem sB_at : ∀ i, i < 8 → sB.getD i [] = sTx i := by decide +kernel
theorem s_shr : ∀ i, i < 8 → Int32.ofNat (sLen i) >>> ((0 : Int32) &&& 31) = Int32.ofNat (sLen i) := by decide +kernel
theorem s_small : ∀ i, i < 8 → sLen i < 2 ^ 31 := by decide +kernel
theorem s_byte : ∀ i, i < 8 → ∀ n, n < sLen i → (((sTx i).getD n 0 &&& 255).toUInt32 % 65536).toInt32 = sCh i n := by decide +kernel
theorem s_nar : ∀ i, i < 8 → ∀ n, n < sLen i → (sCh i n).toUInt32.toUInt16.toUInt32.toInt32 = sCh i n := by decide +kernel
section STR
variable {l : Launch} {ad : Nat → Nat → Nat} {adV : Nat → Nat}
theorem s_length {i : Nat} (hi : i < 8) : Met l yJ0_length_8abf5 (.code yJ0_length_8abf5 cJ0_length_8abf5 1 (some .int) :: tw) { frames := 4, cells := 0, slots := 0, locals := 100 } (va_Pc [.ref (ad 16 i)] (EXs ad adV)) (fun _ st o t => o = .returned (some (.int (Int32.ofNat (sLen i)))) ∧ t.heap = st.heap) 0 0 (fun _ => False) := by
  refine Met.ofW (cc := cJ0_length_8abf5) (maxL := 1) (ret := some .int) (by decide) rfl ?_
  intro p e s m args below meth c s₁ B hml hv
  obtain ⟨rfl, hE⟩ := hv
  have hts := atoms_spec (ws := .code yJ0_length_8abf5 cJ0_length_8abf5 1 (some .int) :: tw) B.pre
  have hown : s.vm.findClass RJ0 = some m.cls := findClass_of_methodNamed B.named
  have hx := B.exec
  have hb := B.bytes
  rw [lg_entry_eq]
  refine lv_aload_n (k := 0) (i := 0) (x := ad 16 i) hx hb (by decide +kernel) rfl rfl ?_
  refine vk_getf (index := 9) hx hb (hE.1.1 i hi).2.2.1 va_S.rf hown (hts _ (List.mem_cons_of_mem _ (in_j (i := 7) rfl))) (fun x h => h) (by decide +kernel) ?_
  refine va_tlen (v := Int32.ofNat (sLen i)) hx hb (hE.1.1 i hi).2.2.2 va_S.rf (by rw [sK_at i hi]) (by decide +kernel) ?_
  refine lv_aload_n (k := 0) (i := 0) (x := ad 16 i) hx hb (by decide +kernel) rfl rfl ?_
  refine jV (idx := 335) (C := RJ0) (As := []) (b := ad 16 i) (nL := 1) (r := some (.int 0)) hx hb hml hown hts hE va_S.rf (s_coder hi) (gd_V (in_j (i := 8) rfl) (in_j (i := 9) rfl) (in_j (i := 10) rfl) (in_j (i := 3) rfl) (in_j (i := 11) rfl)) (by decide +kernel) (by decide) rfl rfl (vk_recv hE.1 hi va_S.rf) rfl (by simp [Value.category]) (by decide +kernel) ?_
  refine lv_ishr (x := Int32.ofNat (sLen i)) (y := 0) hx hb (by decide +kernel) ?_
  rw [s_shr i hi]
  exact W.iret hx hb B.returns (fun t ht hW => ⟨rfl, ht⟩) (fun q h => nomatch h) (by decide +kernel) B.notSynchronized
end STR
