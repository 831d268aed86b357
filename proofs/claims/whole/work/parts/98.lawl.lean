/-! THE CLAIM OUT OF ONE WALK OF THE LAW'S BODY. Your part is whole_start (and what it stands on); all else here is the same for every law, but numbers. -/
def R_law : String := "DrumRopeLaw"
def lw_P (b : Addr) (xs : List Int32) (args : Array Value) (s : State) : Prop := args = #[.ref b] ∧ s.IntsAt b xs ∧ xs.length ≤ 2048 ∧ (Jvm.Cond.and given_1 narrow_1).before args s = true
def lw_Q (_ : Array Value) (s : State) (o : Outcome) (t : State) : Prop := o = .returned (some (.int 1)) ∧ Framed s o t [] room_1.cells room_1.slots
def lw_Z (below : List Frame) (a : Array Value) (s : State) : State → Prop := fun t => ∃ o, t.status = .running ∧ Ended t below o ∧ lw_Q a s o t
/-- the law's own end, with 1 on the stack, nothing written that was there before, its room as the claim has it -/
theorem lw_ret {p : Program} {l : Launch} {e : Env} {s : State} {m : MethodId} {below : List Frame} {meth : Method} {c : Code} {b : Nat} (hx : p.tables.exec = Jvm.exec) (hb : c.code = code) (hr : meth.sig.returnType = ret) (hlocks : meth.locks = false) {pc : Nat} {H : Heap} {ls : Array Slot} (hdg : decode code pc = .ok (.ireturn, 1)) : W p l e room_1 s m #[Value.ref b] below meth c H [] room_1.cells room_1.slots (lw_Z below #[Value.ref b] s) (F0 m pc ls [.int 1]) := by
  intro T hT X
  obtain ⟨fs, hret, hrun, hended, hW, hframe⟩ := X.leave (v := some (.int 1)) (hlocks := hlocks) (fun h => by rw [hr] at h; cases h)
  have hmeth' : T.vm.method? m = some meth := X.method'
  refine ⟨T.setFrames fs, ?_, .returned (some (.int 1)), hrun, hended, rfl, ⟨_, rfl⟩, hW, hframe⟩
  jvm_step X.here [X.here.top, hx, hb, hdg, hmeth', hr, ret, narrow_b1]
  (try refine ⟨rfl, ?_⟩); (try refine ⟨rfl, ?_⟩)
  first | (intro acts; rw [hret _ acts rfl rfl rfl]) | rw [hret _ _ rfl rfl rfl]
  exact Steps.refl _
/-- what holds at the law's entry: the machine, the code, the tables' words (any of lw_tbl by 'hts w (by decide +kernel)'), the script of L ints xs at the cell b, what the Statement gives of the start (any of its parts by flat_of_before) -/
def lw_At (p : Program) (s : State) (m : MethodId) (meth : Method) (c : Code) (b L : Nat) (xs : Nat → Int32) : Prop :=
  p.tables.exec = Jvm.exec ∧ c.code = code ∧ meth.sig.returnType = ret ∧ c.maxLocals = 7 ∧ s.vm.findClass R_law = some m.cls ∧ (∀ w ∈ lw_tbl, w.before #[Value.ref b] s = true) ∧ va_X b L xs s s.heap ∧ b < s.heap.size ∧ meth.locks = false ∧ (Jvm.Cond.and given_1 narrow_1).before #[Value.ref b] s = true
/-! ===== the law's loop (written by mk98.py) ===== -/
theorem dW_23 : decode code 23 = .ok (.iload 4, 2) := by decide +kernel
theorem dW_25 : decode code 25 = .ok (.aload_n 0, 1) := by decide +kernel
theorem dW_26 : decode code 26 = .ok (.arraylength, 1) := by decide +kernel
theorem dW_27 : decode code 27 = .ok (.iconst 4, 1) := by decide +kernel
theorem dW_28 : decode code 28 = .ok (.isub, 1) := by decide +kernel
theorem dW_29 : decode code 29 = .ok (.if_icmp .gt 3185, 3) := by decide +kernel
theorem dW_32 : decode code 32 = .ok (.aload_n 0, 1) := by decide +kernel
theorem dW_33 : decode code 33 = .ok (.iload 4, 2) := by decide +kernel
theorem dW_35 : decode code 35 = .ok (.iaload, 1) := by decide +kernel
theorem dW_36 : decode code 36 = .ok (.bipush 63, 2) := by decide +kernel
theorem dW_38 : decode code 38 = .ok (.iand, 1) := by decide +kernel
theorem dW_3208 : decode code 3208 = .ok (.iinc 4 4, 3) := by decide +kernel
theorem dW_3211 : decode code 3211 = .ok (.goto (-3188), 3) := by decide +kernel
theorem dW_3214 : decode code 3214 = .ok (.iconst 1, 1) := by decide +kernel
theorem dW_3215 : decode code 3215 = .ok (.ireturn, 1) := by decide +kernel
def offsW : Array Int := #[265, 321, 334, 347, 360, 373, 386, 399, 455, 535, 603, 671, 684, 740, 820, 876, 944, 1035, 1091, 1147, 1160, 1228, 1284, 1340, 1396, 1452, 1508, 1571, 1627, 1683, 1739, 1795, 1820, 1883, 1896, 1952, 2008, 2064, 2120, 2176, 2189, 2245, 2301, 2357, 2413, 2469, 2525, 2538, 2551, 2564, 2632, 2712, 2768, 2824, 2837, 2850, 2906, 2962, 2975, 3031, 3044, 3057, 3113]
theorem dW_39 : ∃ len, decode code 39 = .ok (.tableswitch 3169 0 62 offsW, len) := ⟨265, by decide +kernel⟩
section LOOPW
variable {p : Program} {l : Launch} {e : Env} {s : State} {m : MethodId} {args : Array Value} {below : List Frame} {meth : Method} {c : Code} {Q : State → Prop} {dC : Nat → ClassId} {dI : Nat → Nat → Nat} {ad : Nat → Nat → Nat} {adV : Nat → Nat} {cy : Nat → ClassId} {cL : ClassId} {ob b L : Nat} {xs : Nat → Int32}
set_option maxHeartbeats 4000000 in
/-- the switch -/
theorem l_switch {H : Heap} {locs : List Loc} {cells slots i : Nat} {ls : Array Slot} {σ : iM} {f : Nat → Int64} (C : LCx p l s m args meth c dC dI ad adV cy cL ob b L xs) (hS : LwS s dC dI ad cy cL ob σ f H locs) (hv : INV σ) (hik : i + 4 ≤ L) (hl : lv_has ls 7 (lvL ad ob b i)) (hf : cells + 1 ≤ room_1.cells ∧ slots + 6 ≤ room_1.slots) (kk : LK p l e s m args below meth c dC dI ad cy cL ob b i Q cells slots) (n : Nat) (hn : n < 64) : W p l e room_1 s m args below meth c H locs cells slots Q (F0 m 39 ls [.int (nI n)]) := by
  have hx := C.1.1
  have hb := C.1.2.1
  obtain ⟨len, d39⟩ := dW_39
  match n, hn with
  | 0, _ => exact lv_tableIn (off := 265) (tgt := 304) hx hb d39 (by decide) (by decide) rfl (by decide) (ca_0 C hS hv hik hl hf kk)
  | 1, _ => exact lv_tableIn (off := 321) (tgt := 360) hx hb d39 (by decide) (by decide) rfl (by decide) (ca_1 C hS hv hik hl hf kk)
  | 2, _ => exact lv_tableIn (off := 334) (tgt := 373) hx hb d39 (by decide) (by decide) rfl (by decide) (ca_2 C hS hv hik hl hf kk)
  | 3, _ => exact lv_tableIn (off := 347) (tgt := 386) hx hb d39 (by decide) (by decide) rfl (by decide) (ca_3 C hS hv hik hl hf kk)
  | 4, _ => exact lv_tableIn (off := 360) (tgt := 399) hx hb d39 (by decide) (by decide) rfl (by decide) (ca_4 C hS hv hik hl hf kk)
  | 5, _ => exact lv_tableIn (off := 373) (tgt := 412) hx hb d39 (by decide) (by decide) rfl (by decide) (ca_5 C hS hv hik hl hf kk)
  | 6, _ => exact lv_tableIn (off := 386) (tgt := 425) hx hb d39 (by decide) (by decide) rfl (by decide) (ca_6 C hS hv hik hl hf kk)
  | 7, _ => exact lv_tableIn (off := 399) (tgt := 438) hx hb d39 (by decide) (by decide) rfl (by decide) (ca_7 C hS hv hik hl hf kk)
  | 8, _ => exact lv_tableIn (off := 455) (tgt := 494) hx hb d39 (by decide) (by decide) rfl (by decide) (ca_8 C hS hv hik hl hf kk)
  | 9, _ => exact lv_tableIn (off := 535) (tgt := 574) hx hb d39 (by decide) (by decide) rfl (by decide) (ca_9 C hS hv hik hl hf kk)
  | 10, _ => exact lv_tableIn (off := 603) (tgt := 642) hx hb d39 (by decide) (by decide) rfl (by decide) (ca_10 C hS hv hik hl hf kk)
  | 11, _ => exact lv_tableIn (off := 671) (tgt := 710) hx hb d39 (by decide) (by decide) rfl (by decide) (ca_11 C hS hv hik hl hf kk)
  | 12, _ => exact lv_tableIn (off := 684) (tgt := 723) hx hb d39 (by decide) (by decide) rfl (by decide) (ca_12 C hS hv hik hl hf kk)
  | 13, _ => exact lv_tableIn (off := 740) (tgt := 779) hx hb d39 (by decide) (by decide) rfl (by decide) (ca_13 C hS hv hik hl hf kk)
  | 14, _ => exact lv_tableIn (off := 820) (tgt := 859) hx hb d39 (by decide) (by decide) rfl (by decide) (ca_14 C hS hv hik hl hf kk)
  | 15, _ => exact lv_tableIn (off := 876) (tgt := 915) hx hb d39 (by decide) (by decide) rfl (by decide) (ca_15 C hS hv hik hl hf kk)
  | 16, _ => exact lv_tableIn (off := 944) (tgt := 983) hx hb d39 (by decide) (by decide) rfl (by decide) (ca_16 C hS hv hik hl hf kk)
  | 17, _ => exact lv_tableIn (off := 1035) (tgt := 1074) hx hb d39 (by decide) (by decide) rfl (by decide) (ca_17 C hS hv hik hl hf kk)
  | 18, _ => exact lv_tableIn (off := 1091) (tgt := 1130) hx hb d39 (by decide) (by decide) rfl (by decide) (ca_18 C hS hv hik hl hf kk)
  | 19, _ => exact lv_tableIn (off := 1147) (tgt := 1186) hx hb d39 (by decide) (by decide) rfl (by decide) (ca_19 C hS hv hik hl hf kk)
  | 20, _ => exact lv_tableIn (off := 1160) (tgt := 1199) hx hb d39 (by decide) (by decide) rfl (by decide) (ca_20 C hS hv hik hl hf kk)
  | 21, _ => exact lv_tableIn (off := 1228) (tgt := 1267) hx hb d39 (by decide) (by decide) rfl (by decide) (ca_21 C hS hv hik hl hf kk)
  | 22, _ => exact lv_tableIn (off := 1284) (tgt := 1323) hx hb d39 (by decide) (by decide) rfl (by decide) (ca_22 C hS hv hik hl hf kk)
  | 23, _ => exact lv_tableIn (off := 1340) (tgt := 1379) hx hb d39 (by decide) (by decide) rfl (by decide) (ca_23 C hS hv hik hl hf kk)
  | 24, _ => exact lv_tableIn (off := 1396) (tgt := 1435) hx hb d39 (by decide) (by decide) rfl (by decide) (ca_24 C hS hv hik hl hf kk)
  | 25, _ => exact lv_tableIn (off := 1452) (tgt := 1491) hx hb d39 (by decide) (by decide) rfl (by decide) (ca_25 C hS hv hik hl hf kk)
  | 26, _ => exact lv_tableIn (off := 1508) (tgt := 1547) hx hb d39 (by decide) (by decide) rfl (by decide) (ca_26 C hS hv hik hl hf kk)
  | 27, _ => exact lv_tableIn (off := 1571) (tgt := 1610) hx hb d39 (by decide) (by decide) rfl (by decide) (ca_27 C hS hv hik hl hf kk)
  | 28, _ => exact lv_tableIn (off := 1627) (tgt := 1666) hx hb d39 (by decide) (by decide) rfl (by decide) (ca_28 C hS hv hik hl hf kk)
  | 29, _ => exact lv_tableIn (off := 1683) (tgt := 1722) hx hb d39 (by decide) (by decide) rfl (by decide) (ca_29 C hS hv hik hl hf kk)
  | 30, _ => exact lv_tableIn (off := 1739) (tgt := 1778) hx hb d39 (by decide) (by decide) rfl (by decide) (ca_30 C hS hv hik hl hf kk)
  | 31, _ => exact lv_tableIn (off := 1795) (tgt := 1834) hx hb d39 (by decide) (by decide) rfl (by decide) (ca_31 C hS hv hik hl hf kk)
  | 32, _ => exact lv_tableIn (off := 1820) (tgt := 1859) hx hb d39 (by decide) (by decide) rfl (by decide) (ca_32 C hS hv hik hl hf kk)
  | 33, _ => exact lv_tableIn (off := 1883) (tgt := 1922) hx hb d39 (by decide) (by decide) rfl (by decide) (ca_33 C hS hv hik hl hf kk)
  | 34, _ => exact lv_tableIn (off := 1896) (tgt := 1935) hx hb d39 (by decide) (by decide) rfl (by decide) (ca_34 C hS hv hik hl hf kk)
  | 35, _ => exact lv_tableIn (off := 1952) (tgt := 1991) hx hb d39 (by decide) (by decide) rfl (by decide) (ca_35 C hS hv hik hl hf kk)
  | 36, _ => exact lv_tableIn (off := 2008) (tgt := 2047) hx hb d39 (by decide) (by decide) rfl (by decide) (ca_36 C hS hv hik hl hf kk)
  | 37, _ => exact lv_tableIn (off := 2064) (tgt := 2103) hx hb d39 (by decide) (by decide) rfl (by decide) (ca_37 C hS hv hik hl hf kk)
  | 38, _ => exact lv_tableIn (off := 2120) (tgt := 2159) hx hb d39 (by decide) (by decide) rfl (by decide) (ca_38 C hS hv hik hl hf kk)
  | 39, _ => exact lv_tableIn (off := 2176) (tgt := 2215) hx hb d39 (by decide) (by decide) rfl (by decide) (ca_39 C hS hv hik hl hf kk)
  | 40, _ => exact lv_tableIn (off := 2189) (tgt := 2228) hx hb d39 (by decide) (by decide) rfl (by decide) (ca_40 C hS hv hik hl hf kk)
  | 41, _ => exact lv_tableIn (off := 2245) (tgt := 2284) hx hb d39 (by decide) (by decide) rfl (by decide) (ca_41 C hS hv hik hl hf kk)
  | 42, _ => exact lv_tableIn (off := 2301) (tgt := 2340) hx hb d39 (by decide) (by decide) rfl (by decide) (ca_42 C hS hv hik hl hf kk)
  | 43, _ => exact lv_tableIn (off := 2357) (tgt := 2396) hx hb d39 (by decide) (by decide) rfl (by decide) (ca_43 C hS hv hik hl hf kk)
  | 44, _ => exact lv_tableIn (off := 2413) (tgt := 2452) hx hb d39 (by decide) (by decide) rfl (by decide) (ca_44 C hS hv hik hl hf kk)
  | 45, _ => exact lv_tableIn (off := 2469) (tgt := 2508) hx hb d39 (by decide) (by decide) rfl (by decide) (ca_45 C hS hv hik hl hf kk)
  | 46, _ => exact lv_tableIn (off := 2525) (tgt := 2564) hx hb d39 (by decide) (by decide) rfl (by decide) (ca_46 C hS hv hik hl hf kk)
  | 47, _ => exact lv_tableIn (off := 2538) (tgt := 2577) hx hb d39 (by decide) (by decide) rfl (by decide) (ca_47 C hS hv hik hl hf kk)
  | 48, _ => exact lv_tableIn (off := 2551) (tgt := 2590) hx hb d39 (by decide) (by decide) rfl (by decide) (ca_48 C hS hv hik hl hf kk)
  | 49, _ => exact lv_tableIn (off := 2564) (tgt := 2603) hx hb d39 (by decide) (by decide) rfl (by decide) (ca_49 C hS hv hik hl hf kk)
  | 50, _ => exact lv_tableIn (off := 2632) (tgt := 2671) hx hb d39 (by decide) (by decide) rfl (by decide) (ca_50 C hS hv hik hl hf kk)
  | 51, _ => exact lv_tableIn (off := 2712) (tgt := 2751) hx hb d39 (by decide) (by decide) rfl (by decide) (ca_51 C hS hv hik hl hf kk)
  | 52, _ => exact lv_tableIn (off := 2768) (tgt := 2807) hx hb d39 (by decide) (by decide) rfl (by decide) (ca_52 C hS hv hik hl hf kk)
  | 53, _ => exact lv_tableIn (off := 2824) (tgt := 2863) hx hb d39 (by decide) (by decide) rfl (by decide) (ca_53 C hS hv hik hl hf kk)
  | 54, _ => exact lv_tableIn (off := 2837) (tgt := 2876) hx hb d39 (by decide) (by decide) rfl (by decide) (ca_54 C hS hv hik hl hf kk)
  | 55, _ => exact lv_tableIn (off := 2850) (tgt := 2889) hx hb d39 (by decide) (by decide) rfl (by decide) (ca_55 C hS hv hik hl hf kk)
  | 56, _ => exact lv_tableIn (off := 2906) (tgt := 2945) hx hb d39 (by decide) (by decide) rfl (by decide) (ca_56 C hS hv hik hl hf kk)
  | 57, _ => exact lv_tableIn (off := 2962) (tgt := 3001) hx hb d39 (by decide) (by decide) rfl (by decide) (ca_57 C hS hv hik hl hf kk)
  | 58, _ => exact lv_tableIn (off := 2975) (tgt := 3014) hx hb d39 (by decide) (by decide) rfl (by decide) (ca_58 C hS hv hik hl hf kk)
  | 59, _ => exact lv_tableIn (off := 3031) (tgt := 3070) hx hb d39 (by decide) (by decide) rfl (by decide) (ca_59 C hS hv hik hl hf kk)
  | 60, _ => exact lv_tableIn (off := 3044) (tgt := 3083) hx hb d39 (by decide) (by decide) rfl (by decide) (ca_60 C hS hv hik hl hf kk)
  | 61, _ => exact lv_tableIn (off := 3057) (tgt := 3096) hx hb d39 (by decide) (by decide) rfl (by decide) (ca_61 C hS hv hik hl hf kk)
  | 62, _ => exact lv_tableIn (off := 3113) (tgt := 3152) hx hb d39 (by decide) (by decide) rfl (by decide) (ca_62 C hS hv hik hl hf kk)
  | 63, _ => exact lv_tableOut (tgt := 3208) hx hb d39 (Or.inr (by decide)) (by decide) (W.widen (k := cells + 1) (n := slots + 6) (by omega) (by omega) (kk H locs ls σ f hv hS hl))
  | n + 64, hn => exact absurd hn (by omega)
end LOOPW
theorem nI_sub4 {L : Nat} (hL : L ≤ 2048) : (nI L - 4).toInt = (L : Int) - 4 := by
  have h1 := nI_toInt (n := L) (by omega)
  have h2 : (4 : Int32).toInt = 4 := rfl
  rw [fb_subI (by rw [h1, h2]; omega) (by rw [h1, h2]; omega), h1, h2]
section LOOPW
variable {p : Program} {l : Launch} {e : Env} {s : State} {m : MethodId} {below : List Frame} {meth : Method} {c : Code} {dC : Nat → ClassId} {dI : Nat → Nat → Nat} {ad : Nat → Nat → Nat} {adV : Nat → Nat} {cy : Nat → ClassId} {cL : ClassId} {ob b L : Nat} {xs : Nat → Int32}
set_option maxHeartbeats 4000000 in
/-- the law's loop: from i on it comes to its end, with 1 -/
theorem l_loop (C : LCx p l s m #[Value.ref b] meth c dC dI ad adV cy cL ob b L xs) (hr : meth.sig.returnType = ret) (hlocks : meth.locks = false) : ∀ (n i : Nat) (H : Heap) (locs : List Loc) (ls : Array Slot) (σ : iM) (f : Nat → Int64) (cells slots : Nat), L < i + 4 * (n + 1) → i ≤ 2052 → cells + (n + 1) ≤ room_1.cells → slots + 6 * (n + 1) ≤ room_1.slots → INV σ → LwS s dC dI ad cy cL ob σ f H locs → lv_has ls 7 (lvL ad ob b i) → W p l e room_1 s m #[Value.ref b] below meth c H locs cells slots (lw_Z below #[Value.ref b] s) (F0 m 23 ls []) := by
  have hx := C.1.1
  have hb := C.1.2.1
  have hX := C.2.2.2.2.2.1
  have hbl := C.2.2.2.2.2.2.1
  have hL := C.2.2.2.2.2.2.2.1
  intro n
  induction n with
  | zero =>
    intro i H locs ls σ f cells slots hi hi2 hc hs hv hS hl
    refine lv_iload hx hb dW_23 (lv_at hl 0 rfl) ?_
    refine lv_aload_n hx hb dW_25 rfl (lv_at hl 1 rfl) ?_
    refine va_slen (A := lA s) hx hb hX hbl (Nat.not_le.mpr hbl) hS.2.2 dW_26 ?_
    refine lv_iconst (v := 4) hx hb dW_27 rfl ?_
    refine lv_isub hx hb dW_28 ?_
    refine lv_icmp_gt (tgt := 3214) hx hb dW_29 (by decide) (fun _ => ?_) (fun h9 => ?_)
    · refine lv_iconst (v := 1) hx hb dW_3214 rfl ?_
      refine va_forget hS.2.2.2.2 ?_
      refine W.widen (k := room_1.cells) (n := room_1.slots) (by omega) (by omega) ?_
      exact lw_ret hx hb hr hlocks dW_3215
    · refine absurd ?_ h9
      show nI L - 4 < nI i
      rw [fa_lt, nI_sub4 hL, nI_toInt (by omega)]
      omega
  | succ n ih =>
    intro i H locs ls σ f cells slots hi hi2 hc hs hv hS hl
    refine lv_iload hx hb dW_23 (lv_at hl 0 rfl) ?_
    refine lv_aload_n hx hb dW_25 rfl (lv_at hl 1 rfl) ?_
    refine va_slen (A := lA s) hx hb hX hbl (Nat.not_le.mpr hbl) hS.2.2 dW_26 ?_
    refine lv_iconst (v := 4) hx hb dW_27 rfl ?_
    refine lv_isub hx hb dW_28 ?_
    refine lv_icmp_gt (tgt := 3214) hx hb dW_29 (by decide) (fun _ => ?_) (fun h9 => ?_)
    · refine lv_iconst (v := 1) hx hb dW_3214 rfl ?_
      refine va_forget hS.2.2.2.2 ?_
      refine W.widen (k := room_1.cells) (n := room_1.slots) (by omega) (by omega) ?_
      exact lw_ret hx hb hr hlocks dW_3215
    · have hik : i + 4 ≤ L := by
        have h9 : ¬ nI L - 4 < nI i := h9
        rw [fa_lt, nI_sub4 hL, nI_toInt (by omega)] at h9
        omega
      refine lv_aload_n hx hb dW_32 rfl (lv_at hl 1 rfl) ?_
      refine lv_iload hx hb dW_33 (lv_at hl 0 rfl) ?_
      refine va_sld (A := lA s) hx hb hX hbl (Nat.not_le.mpr hbl) hS.2.2 (vp_in_nI (show i < L by omega) (by omega)) dW_35 ?_
      refine lv_bipush (v := 63) hx hb dW_36 (by decide) ?_
      refine lv_iand hx hb dW_38 ?_
      obtain ⟨k, hk, hke⟩ := pk_andE (xs (nI i).toNatClampNeg) (m := 63) 6 (by decide)
      rw [hke]
      refine l_switch C hS hv hik hl ⟨by omega, by omega⟩ (fun H locs ls σ f hv hS hl => ?_) k hk
      refine lv_iinc (v := nI (i + 4)) (lv' := lvL ad ob b (i + 4)) hx hb dW_3208 hl (k := 0) rfl (nI_add i 4) (by decide) rfl (fun ls hl => ?_)
      refine lv_goto (tgt := 23) hx hb dW_3211 (by decide) ?_
      exact ih (i + 4) H locs ls σ f (cells + 1) (slots + 6) (by omega) (by omega) (by omega) (by omega) hv hS hl
end LOOPW
