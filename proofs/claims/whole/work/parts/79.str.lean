/-! ===== the texts: what the JDK's own members answer ===== -/
def sK : List Nat := (List.range 8).map sLen
def sB : List (List Int32) := (List.range 8).map sTx
/-- what is given of the texts, and of the places that throw -/
def EXs (ad : Nat → Nat → Nat) (adV : Nat → Nat) (s : State) : Prop := vk_S 8 sK sB (ad 16) adV (wA ad) s s.heap ∧ va_Z "java/lang/String" "COMPACT_STRINGS" "Z" (.int 1) (wA ad) s s.heap ∧ va_Zq "jdk/internal/util/Preconditions" "SIOOBE_FORMATTER" "Ljava/util/function/BiFunction;" (wA ad) s s.heap ∧ (∀ q ∈ strTab, ∃ tx, vk_R q.1 q.2.1 tx (ad 16 q.2.2) s) ∧ EXt ad s
theorem EXs.move {ad : Nat → Nat → Nat} {adV : Nat → Nat} {s U : State} {locs : List Loc} (h : EXs ad adV s) (hW : s.WarmedH U.vm) (hS : va_S (wA ad) s.heap U.heap locs) : EXs ad adV U :=
  ⟨vk_S.moved hW.alike (h.1.kept hS.2.1), va_Z.moved hW.alike (h.2.1.kept hS.2.1), va_Zq.moved hW.alike (h.2.2.1.kept hS.2.1), fun q hq => by
    obtain ⟨tx, hR⟩ := h.2.2.2.1 q hq
    exact ⟨tx, vk_R.warm hW hR⟩, h.2.2.2.2.move hW hS⟩
theorem EXs.call {ad : Nat → Nat → Nat} {adV : Nat → Nat} {U : State} (g : JFrame) (mk : MethodId) (a : Array Value) (h : EXs ad adV U) : EXs ad adV (U.calling g mk a) := h.move (locs := []) (State.WarmedH.refl U) va_S.rf
section STR
variable {l : Launch} {ad : Nat → Nat → Nat} {adV : Nat → Nat}
theorem s_coder {i : Nat} (hi : i < 8) : Met l yJ0_coder_7d493 (.code yJ0_coder_7d493 cJ0_coder_7d493 1 (some .byte) :: tw) { frames := 0, cells := 0, slots := 0, locals := 0 } (va_Pc [.ref (ad 16 i)] (EXs ad adV)) (fun _ st o t => o = .returned (some (.int 0)) ∧ t.heap = st.heap) 0 0 (fun _ => False) := by
  refine Met.ofW (cc := cJ0_coder_7d493) (maxL := 1) (ret := some .byte) (by decide) rfl ?_
  intro p e s m args below meth c s₁ B hml hv
  obtain ⟨rfl, hS, hZ, hQ, hR, hT⟩ := hv
  have hts := atoms_spec (ws := .code yJ0_coder_7d493 cJ0_coder_7d493 1 (some .byte) :: tw) B.pre
  have hown : s.vm.findClass RJ0 = some m.cls := findClass_of_methodNamed B.named
  have hx := B.exec
  have hb := B.bytes
  rw [lg_entry_eq]
  refine va_gets (index := 38) hx hb hZ va_S.rf hown (hts _ (List.mem_cons_of_mem _ (in_j (i := 12) rfl))) (fun x h => h) (by decide +kernel) ?_
  refine lv_if_eq (off := 10) (tgt := 13) hx hb (by decide +kernel) (by decide) (fun h => absurd h (by decide)) (fun _ => ?_)
  refine lv_aload_n (k := 0) (i := 0) (x := ad 16 i) hx hb (by decide +kernel) rfl rfl ?_
  refine vk_getf (index := 15) hx hb (hS.1 i hi).2.1 va_S.rf hown (hts _ (List.mem_cons_of_mem _ (in_j (i := 13) rfl))) (fun x h => h) (by decide +kernel) ?_
  refine lv_goto (off := 4) (tgt := 14) hx hb (by decide +kernel) (by decide) ?_
  exact W.zret (v := 0) hx hb B.returns rfl (fun t ht hW => ⟨rfl, ht⟩) (fun q h => nomatch h) (by decide +kernel) B.notSynchronized
theorem s_latin {i : Nat} (hi : i < 8) : Met l yJ0_isLatin1_aae02 (.code yJ0_isLatin1_aae02 cJ0_isLatin1_aae02 1 (some .boolean) :: tw) { frames := 0, cells := 0, slots := 0, locals := 0 } (va_Pc [.ref (ad 16 i)] (EXs ad adV)) (fun _ st o t => o = .returned (some (.int 1)) ∧ t.heap = st.heap) 0 0 (fun _ => False) := by
  refine Met.ofW (cc := cJ0_isLatin1_aae02) (maxL := 1) (ret := some .boolean) (by decide) rfl ?_
  intro p e s m args below meth c s₁ B hml hv
  obtain ⟨rfl, hS, hZ, hQ, hR, hT⟩ := hv
  have hts := atoms_spec (ws := .code yJ0_isLatin1_aae02 cJ0_isLatin1_aae02 1 (some .boolean) :: tw) B.pre
  have hown : s.vm.findClass RJ0 = some m.cls := findClass_of_methodNamed B.named
  have hx := B.exec
  have hb := B.bytes
  rw [lg_entry_eq]
  refine va_gets (index := 38) hx hb hZ va_S.rf hown (hts _ (List.mem_cons_of_mem _ (in_j (i := 12) rfl))) (fun x h => h) (by decide +kernel) ?_
  refine lv_if_eq (off := 14) (tgt := 17) hx hb (by decide +kernel) (by decide) (fun h => absurd h (by decide)) (fun _ => ?_)
  refine lv_aload_n (k := 0) (i := 0) (x := ad 16 i) hx hb (by decide +kernel) rfl rfl ?_
  refine vk_getf (index := 15) hx hb (hS.1 i hi).2.1 va_S.rf hown (hts _ (List.mem_cons_of_mem _ (in_j (i := 13) rfl))) (fun x h => h) (by decide +kernel) ?_
  refine lv_if_ne (off := 7) (tgt := 17) hx hb (by decide +kernel) (by decide) (fun h => absurd rfl h) (fun _ => ?_)
  refine lv_iconst (n := 1) (v := 1) hx hb (by decide +kernel) rfl ?_
  refine lv_goto (off := 4) (tgt := 18) hx hb (by decide +kernel) (by decide) ?_
  exact W.zret (v := 1) hx hb B.returns rfl (fun t ht hW => ⟨rfl, ht⟩) (fun q h => nomatch h) (by decide +kernel) B.notSynchronized
theorem s_ci3 {k n : Int32} {v : Value} (h1 : ¬ k < 0) (h2 : k < n) : Met l yJ3_checkIndex_8e157 (.code yJ3_checkIndex_8e157 cJ3_checkIndex_8e157 3 (some .int) :: tw) { frames := 0, cells := 0, slots := 0, locals := 0 } (va_Pc [.int k, .int n, v] (EXs ad adV)) (fun _ st o t => o = .returned (some (.int k)) ∧ t.heap = st.heap) 0 0 (fun _ => False) := by
  refine Met.ofW (cc := cJ3_checkIndex_8e157) (maxL := 3) (ret := some .int) (by decide) rfl ?_
  intro p e s m args below meth c s₁ B hml hv
  obtain ⟨rfl, hS, hZ, hQ, hR, hT⟩ := hv
  have hx := B.exec
  have hb := B.bytes
  rw [lg_entry_eq]
  refine lv_iload_n (k := 0) (i := 0) (x := k) hx hb (by decide +kernel) rfl rfl ?_
  refine lv_if_lt (off := 8) (tgt := 9) hx hb (by decide +kernel) (by decide) (fun h => absurd h h1) (fun _ => ?_)
  refine lv_iload_n (k := 0) (i := 0) (x := k) hx hb (by decide +kernel) rfl rfl ?_
  refine lv_iload_n (k := 1) (i := 1) (x := n) hx hb (by decide +kernel) rfl rfl ?_
  refine lv_icmp_lt (off := 10) (tgt := 16) hx hb (by decide +kernel) (by decide) (fun _ => ?_) (fun h => absurd h2 h)
  refine lv_iload_n (k := 0) (i := 0) (x := k) hx hb (by decide +kernel) rfl rfl ?_
  exact W.iret (v := k) hx hb B.returns (fun t ht hW => ⟨rfl, ht⟩) (fun q h => nomatch h) (by decide +kernel) B.notSynchronized
end STR
