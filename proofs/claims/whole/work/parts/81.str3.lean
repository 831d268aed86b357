/-! ===== the texts: charAt; what is given of the texts is enough ===== -/
theorem s_narC : ∀ i, i < 8 → ∀ n, n < sLen i → narrow .char (.int (sCh i n)) = .int (sCh i n) := by decide +kernel
theorem ds3 : yJ3_checkIndex_8e157.cls ≠ "java/lang/invoke/MethodHandle" ∧ yJ3_checkIndex_8e157.cls ≠ "java/lang/invoke/VarHandle" ∧ (parseMethodDescriptor yJ3_checkIndex_8e157.desc).map (fun d => d.parameters.length) = some 3 := by decide +kernel
theorem ds2 : yJ0_checkIndex_df160.cls ≠ "java/lang/invoke/MethodHandle" ∧ yJ0_checkIndex_df160.cls ≠ "java/lang/invoke/VarHandle" ∧ (parseMethodDescriptor yJ0_checkIndex_df160.desc).map (fun d => d.parameters.length) = some 2 := by decide +kernel
theorem ds1 : yJ1_charAt_3b067.cls ≠ "java/lang/invoke/MethodHandle" ∧ yJ1_charAt_3b067.cls ≠ "java/lang/invoke/VarHandle" ∧ (parseMethodDescriptor yJ1_charAt_3b067.desc).map (fun d => d.parameters.length) = some 2 := by decide +kernel
section STR
variable {l : Launch} {ad : Nat → Nat → Nat} {adV : Nat → Nat}
theorem s_ci {k n : Int32} (h1 : ¬ k < 0) (h2 : k < n) : Met l yJ0_checkIndex_df160 (.code yJ0_checkIndex_df160 cJ0_checkIndex_df160 2 none :: tw) { frames := 1, cells := 0, slots := 0, locals := 22 } (va_Pc [.int k, .int n] (EXs ad adV)) (fun _ st o t => o = .returned none ∧ t.heap = st.heap) 0 0 (fun _ => False) := by
  refine Met.ofW (cc := cJ0_checkIndex_df160) (maxL := 2) (ret := none) (by decide) rfl ?_
  intro p e s m args below meth c s₁ B hml hv
  obtain ⟨rfl, hE⟩ := hv
  have hts := atoms_spec (ws := .code yJ0_checkIndex_df160 cJ0_checkIndex_df160 2 none :: tw) B.pre
  have hown : s.vm.findClass RJ0 = some m.cls := findClass_of_methodNamed B.named
  have hx := B.exec
  have hb := B.bytes
  rw [lg_entry_eq]
  refine lv_iload_n (k := 0) (i := 0) (x := k) hx hb (by decide +kernel) rfl rfl ?_
  refine lv_iload_n (k := 1) (i := 1) (x := n) hx hb (by decide +kernel) rfl rfl ?_
  have key : ∀ v : Value, va_Z "jdk/internal/util/Preconditions" "SIOOBE_FORMATTER" "Ljava/util/function/BiFunction;" v (wA ad) s s.heap → W p l e { frames := 1, cells := 0, slots := 0, locals := 22 } s m ([.int k, .int n] : List Value).toArray below meth c s.heap [] 0 0 (MQ below (fun _ st o t => o = .returned none ∧ t.heap = st.heap) ([.int k, .int n] : List Value).toArray s 0 0 (fun _ => False)) (F0 m (0 + 1 + 1) ((lg_sl [.int k, .int n] ++ List.replicate (2 - (lg_sl [.int k, .int n]).length) Slot.unset).toArray) [.int n, .int k]) := by
    intro v hZ
    refine va_gets (index := 1053) hx hb hZ va_S.rf hown (hts _ (List.mem_cons_of_mem _ (in_j (i := 25) rfl))) (fun x h => h) (by decide +kernel) ?_
    refine jS (idx := 1059) (As := [.int k, .int n, v]) (rest := []) (nL := 2) (r := some (.int k)) hx hb hml hown hts hE va_S.rf (s_ci3 h1 h2) (in_j (i := 26) rfl) (in_j (i := 27) rfl) (in_j (i := 28) rfl) (in_j (i := 29) rfl) ds3 (by decide) rfl rfl rfl (by simp) (by decide +kernel) ?_
    refine lv_pop (va := .int k) hx hb (by decide +kernel) rfl ?_
    exact W.vret hx hb B.returns (fun t ht hW => ⟨rfl, ht⟩) (fun q h => nomatch h) (by decide +kernel) B.notSynchronized
  rcases hE.2.2.1 with hZ | ⟨t, hZ⟩
  · exact key _ hZ
  · exact key _ hZ
theorem s_l1 {i : Nat} (hi : i < 8) {k : Int32} (hk : vp_in k (sLen i)) : Met l yJ1_charAt_3b067 (.code yJ1_charAt_3b067 cJ1_charAt_3b067 2 (some .char) :: tw) { frames := 2, cells := 0, slots := 0, locals := 43 } (va_Pc [.ref (adV i), .int k] (EXs ad adV)) (fun _ st o t => o = .returned (some (.int (sCh i k.toNatClampNeg))) ∧ t.heap = st.heap) 0 0 (fun _ => False) := by
  have hlt : k.toNatClampNeg < sLen i := Nat.lt_of_not_le (fun h => hk (Or.inr h))
  have hlt2 : k < Int32.ofNat (sLen i) := by
    obtain ⟨j, hj, rfl⟩ := vp_in_of hk (s_small i hi)
    exact nI_lt hj (s_small i hi)
  refine Met.ofW (cc := cJ1_charAt_3b067) (maxL := 2) (ret := some .char) (by decide) rfl ?_
  intro p e s m args below meth c s₁ B hml hv
  obtain ⟨rfl, hE⟩ := hv
  have hts := atoms_spec (ws := .code yJ1_charAt_3b067 cJ1_charAt_3b067 2 (some .char) :: tw) B.pre
  have hown : s.vm.findClass RJ1 = some m.cls := findClass_of_methodNamed B.named
  have hx := B.exec
  have hb := B.bytes
  rw [lg_entry_eq]
  refine lv_iload_n (k := 1) (i := 1) (x := k) hx hb (by decide +kernel) rfl rfl ?_
  refine lv_aload_n (k := 0) (i := 0) (x := adV i) hx hb (by decide +kernel) rfl rfl ?_
  refine va_tlen (v := Int32.ofNat (sLen i)) hx hb (hE.1.1 i hi).2.2.2 va_S.rf (by rw [sK_at i hi]) (by decide +kernel) ?_
  refine jS (idx := 9) (As := [.int k, .int (Int32.ofNat (sLen i))]) (rest := []) (nL := 2) (r := none) hx hb hml hown hts hE va_S.rf (s_ci (fun h => hk (Or.inl h)) hlt2) (in_j (i := 22) rfl) (in_j (i := 23) rfl) (in_j (i := 3) rfl) (in_j (i := 24) rfl) ds2 (by decide) rfl rfl rfl (by simp) (by decide +kernel) ?_
  refine lv_aload_n (k := 0) (i := 0) (x := adV i) hx hb (by decide +kernel) rfl rfl ?_
  refine lv_iload_n (k := 1) (i := 1) (x := k) hx hb (by decide +kernel) rfl rfl ?_
  refine va_tb (v := .int ((sTx i).getD k.toNatClampNeg 0)) hx hb (hE.1.1 i hi).2.2.2 va_S.rf (by rw [sK_at i hi]; exact hk) (by rw [sB_at i hi]) (by decide +kernel) ?_
  refine lv_sipush (n := 255) (v := 255) hx hb (by decide +kernel) (by decide) ?_
  refine lv_iand (x := (sTx i).getD k.toNatClampNeg 0) (y := 255) hx hb (by decide +kernel) ?_
  refine lv_i2c (v := sCh i k.toNatClampNeg) hx hb (by decide +kernel) (s_byte i hi _ hlt) ?_
  exact W.zret hx hb B.returns (s_narC i hi _ hlt) (fun t ht hW => ⟨rfl, ht⟩) (fun q h => nomatch h) (by decide +kernel) B.notSynchronized
theorem s_charAt {i : Nat} (hi : i < 8) {k : Int32} (hk : vp_in k (sLen i)) : Met l yJ0_charAt_5068e (.code yJ0_charAt_5068e cJ0_charAt_5068e 2 (some .char) :: tw) { frames := 4, cells := 0, slots := 0, locals := 99 } (va_Pc [.ref (ad 16 i), .int k] (EXs ad adV)) (fun _ st o t => o = .returned (some (.int (sCh i k.toNatClampNeg))) ∧ t.heap = st.heap) 0 0 (fun _ => False) := by
  have hlt : k.toNatClampNeg < sLen i := Nat.lt_of_not_le (fun h => hk (Or.inr h))
  refine Met.ofW (cc := cJ0_charAt_5068e) (maxL := 2) (ret := some .char) (by decide) rfl ?_
  intro p e s m args below meth c s₁ B hml hv
  obtain ⟨rfl, hE⟩ := hv
  have hts := atoms_spec (ws := .code yJ0_charAt_5068e cJ0_charAt_5068e 2 (some .char) :: tw) B.pre
  have hown : s.vm.findClass RJ0 = some m.cls := findClass_of_methodNamed B.named
  have hx := B.exec
  have hb := B.bytes
  rw [lg_entry_eq]
  refine lv_aload_n (k := 0) (i := 0) (x := ad 16 i) hx hb (by decide +kernel) rfl rfl ?_
  refine jV (idx := 492) (C := RJ0) (As := []) (b := ad 16 i) (nL := 2) (r := some (.int 1)) hx hb hml hown hts hE va_S.rf (s_latin hi) (gd_V (in_j (i := 14) rfl) (in_j (i := 15) rfl) (in_j (i := 16) rfl) (in_j (i := 3) rfl) (in_j (i := 17) rfl)) (by decide +kernel) (by decide) rfl rfl (vk_recv hE.1 hi va_S.rf) rfl (by simp) (by decide +kernel) ?_
  refine lv_if_eq (x := 1) (off := 12) (tgt := 16) hx hb (by decide +kernel) (by decide) (fun h => absurd h (by decide)) (fun _ => ?_)
  refine lv_aload_n (k := 0) (i := 0) (x := ad 16 i) hx hb (by decide +kernel) rfl rfl ?_
  refine vk_getf (index := 9) hx hb (hE.1.1 i hi).2.2.1 va_S.rf hown (hts _ (List.mem_cons_of_mem _ (in_j (i := 7) rfl))) (fun x h => h) (by decide +kernel) ?_
  refine lv_iload_n (k := 1) (i := 1) (x := k) hx hb (by decide +kernel) rfl rfl ?_
  refine jS (idx := 495) (As := [.ref (adV i), .int k]) (rest := []) (nL := 2) (r := some (.int (sCh i k.toNatClampNeg))) hx hb hml hown hts hE va_S.rf (s_l1 hi hk) (in_j (i := 18) rfl) (in_j (i := 19) rfl) (in_j (i := 20) rfl) (in_j (i := 21) rfl) ds1 (by decide) rfl rfl rfl (by simp) (by decide +kernel) ?_
  exact W.zret hx hb B.returns (s_narC i hi _ hlt) (fun t ht hW => ⟨rfl, ht⟩) (fun q h => nomatch h) (by decide +kernel) B.notSynchronized
/-- M1: what the interpreter wants of the texts -/
theorem EXs_ok : iEX l ad (EXs ad adV) := ⟨fun s U locs h hW hS => h.move hW hS, fun U g mk a h => h.call g mk a, fun s h => h.2.2.2.1, fun s h H locs hS i hi => vk_recv h.1 hi hS, fun i hi => s_length hi, fun i hi k hk => s_charAt hi hk⟩
/-- M2: what it wants of the places that throw -/
theorem EXs_th {dC : Nat → ClassId} {dI : Nat → Nat → Nat} {cy : Nat → ClassId} (hl : l.stackTraces = false) : iTH l dC dI ad cy (EXs ad adV) := th_ok hl (fun s h => h.2.2.2.2)
end STR
