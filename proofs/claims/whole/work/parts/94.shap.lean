/-! ===== the law's cases, by their shapes (written by mk94.py) ===== -/
theorem lg_cmp_self (x : Int64) : lg_cmp x x = 0 := by
  unfold lg_cmp
  rw [if_neg (Int64.lt_irrefl (a := x)), if_pos rfl]
abbrev iD : Type := Nat × Instr × Nat
def tlI (T : Nat) : List iD := [(T, .istore 6, 2), (T + 2, .aload_n 2, 1), (T + 3, .invokevirtual 160, 3), (T + 6, .iload 5, 2), (T + 8, .if_icmp .eq 5, 3), (T + 13, .iload 5, 2), (T + 15, .ifCond .ne 15, 3), (T + 18, .aload_n 3, 1), (T + 19, .iconst 0, 1), (T + 20, .laload, 1), (T + 21, .iload 6, 2), (T + 23, .i2l, 1), (T + 24, .lcmp, 1), (T + 25, .ifCond .eq 5, 3), (T + 30, .goto (3208 - ((T + 30 : Nat) : Int)), 3)]
def tlZ (T : Nat) : List iD := [(T, .istore 6, 2), (T + 2, .aload_n 2, 1), (T + 3, .invokevirtual 160, 3), (T + 6, .iload 5, 2), (T + 8, .if_icmp .eq 5, 3), (T + 13, .iload 5, 2), (T + 15, .ifCond .ne 22, 3), (T + 18, .aload_n 3, 1), (T + 19, .iconst 0, 1), (T + 20, .laload, 1), (T + 21, .iload 6, 2), (T + 23, .ifCond .eq 7, 3), (T + 26, .lconst 1, 1), (T + 27, .goto 4, 3), (T + 30, .lconst 0, 1), (T + 31, .lcmp, 1), (T + 32, .ifCond .eq 5, 3), (T + 37, .goto (3208 - ((T + 37 : Nat) : Int)), 3)]
section SHP
variable {p : Program} {l : Launch} {e : Env} {s : State} {m : MethodId} {args : Array Value} {below : List Frame} {meth : Method} {c : Code} {H : Heap} {locs : List Loc} {cells slots : Nat} {Q : State → Prop}
variable {ls : Array Slot} {dC : Nat → ClassId} {dI : Nat → Nat → Nat} {ad : Nat → Nat → Nat} {adV : Nat → Nat} {cy : Nat → ClassId} {cL : ClassId} {ob b L i : Nat} {xs : Nat → Int32} {σ : iM} {f : Nat → Int64}
/-- behind the reference's call: was the throw the same, and the answer -/
theorem l_tail (C : LCx p l s m args meth c dC dI ad adV cy cL ob b L xs) (hS : LwS s dC dI ad cy cL ob σ f H locs) {t v : Int32} (ht : σ 7 0 5 = t) (hf0 : t = 0 → f 0 = v.toInt64) {T : Nat} (hd : ∀ q ∈ tlI T, decode code q.1 = .ok q.2) (hl : lv_has ls 7 ((5, .int t) :: lvL ad ob b i)) (hf : cells ≤ room_1.cells ∧ slots ≤ room_1.slots)
    (kk : ∀ (H1 : Heap) (locs1 : List Loc) (ls1 : Array Slot), LwS s dC dI ad cy cL ob σ f H1 locs1 → lv_has ls1 7 (lvL ad ob b i) → W p l e room_1 s m args below meth c H1 locs1 cells slots Q (F0 m 3208 ls1 [])) : W p l e room_1 s m args below meth c H locs cells slots Q (F0 m T ls [.int v]) := by
  have hx := C.1.1
  have hb := C.1.2.1
  have hKl := C.2.2.1
  have hI : wI ad := C.2.2.2.2.2.2.2.2.2.2.2.1
  have d0 : decode code (T) = .ok (.istore 6, 2) := hd (T, .istore 6, 2) (List.mem_of_getElem? (i := 0) rfl)
  have d2 : decode code (T + 2) = .ok (.aload_n 2, 1) := hd (T + 2, .aload_n 2, 1) (List.mem_of_getElem? (i := 1) rfl)
  have d3 : decode code (T + 3) = .ok (.invokevirtual 160, 3) := hd (T + 3, .invokevirtual 160, 3) (List.mem_of_getElem? (i := 2) rfl)
  have d6 : decode code (T + 6) = .ok (.iload 5, 2) := hd (T + 6, .iload 5, 2) (List.mem_of_getElem? (i := 3) rfl)
  have d8 : decode code (T + 8) = .ok (.if_icmp .eq 5, 3) := hd (T + 8, .if_icmp .eq 5, 3) (List.mem_of_getElem? (i := 4) rfl)
  have d13 : decode code (T + 13) = .ok (.iload 5, 2) := hd (T + 13, .iload 5, 2) (List.mem_of_getElem? (i := 5) rfl)
  have d15 : decode code (T + 15) = .ok (.ifCond .ne 15, 3) := hd (T + 15, .ifCond .ne 15, 3) (List.mem_of_getElem? (i := 6) rfl)
  have d18 : decode code (T + 18) = .ok (.aload_n 3, 1) := hd (T + 18, .aload_n 3, 1) (List.mem_of_getElem? (i := 7) rfl)
  have d19 : decode code (T + 19) = .ok (.iconst 0, 1) := hd (T + 19, .iconst 0, 1) (List.mem_of_getElem? (i := 8) rfl)
  have d20 : decode code (T + 20) = .ok (.laload, 1) := hd (T + 20, .laload, 1) (List.mem_of_getElem? (i := 9) rfl)
  have d21 : decode code (T + 21) = .ok (.iload 6, 2) := hd (T + 21, .iload 6, 2) (List.mem_of_getElem? (i := 10) rfl)
  have d23 : decode code (T + 23) = .ok (.i2l, 1) := hd (T + 23, .i2l, 1) (List.mem_of_getElem? (i := 11) rfl)
  have d24 : decode code (T + 24) = .ok (.lcmp, 1) := hd (T + 24, .lcmp, 1) (List.mem_of_getElem? (i := 12) rfl)
  have d25 : decode code (T + 25) = .ok (.ifCond .eq 5, 3) := hd (T + 25, .ifCond .eq 5, 3) (List.mem_of_getElem? (i := 13) rfl)
  have d30 : decode code (T + 30) = .ok (.goto (3208 - ((T + 30 : Nat) : Int)), 3) := hd (T + 30, .goto (3208 - ((T + 30 : Nat) : Int)), 3) (List.mem_of_getElem? (i := 14) rfl)
  refine lv_istore (lv' := (6, .int v) :: (5, .int t) :: lvL ad ob b i) hx hb d0 hl (by decide) rfl (fun ls hl => ?_)
  refine lv_aload_n hx hb d2 rfl (lv_at hl 5 rfl) ?_
  refine l_obj C hS (as := []) (rest := []) (j := mX7_thrown) (by decide) rfl (w3l (i := 202) rfl) rfl rfl (by decide) (thr_met hI) (by decide) hl.1 (Nat.zero_le _) d3 rfl hf (fun H locs hS => ?_)
  rw [ht]
  refine lv_iload hx hb d6 (lv_at hl 1 rfl) ?_
  refine lv_icmp_eq (tgt := T + 13) hx hb d8 (by omega) (fun _ => ?_) (fun h9 => absurd rfl h9)
  refine lv_iload hx hb d13 (lv_at hl 1 rfl) ?_
  have hgo : W p l e room_1 s m args below meth c H locs cells slots Q (F0 m (T + 30) ls []) := lv_goto (tgt := 3208) hx hb d30 (by omega) (kk H locs ls hS (lv_sub hl [2, 3, 4, 5, 6] rfl))
  refine lv_if_ne (tgt := T + 30) hx hb d15 (by omega) (fun _ => hgo) (fun h0 => ?_)
  refine lv_aload_n hx hb d18 rfl (lv_at hl 6 rfl) ?_
  refine lv_iconst (v := 0) hx hb d19 rfl ?_
  refine va_lald (D := (dC, dI)) (cl := vwCl) (ws := [(ob, eL cL f)]) hx hb hKl (fun k q hq => by
    match k, hq with
    | 0, hq => cases hq; exact hS.2.1) 0 0 rfl rfl (by unfold vp_in; decide) d20 ?_
  rw [show f (0 : Int32).toNatClampNeg = v.toInt64 from hf0 h0]
  refine lv_iload hx hb d21 (lv_at hl 0 rfl) ?_
  refine lv_i2l (v := v.toInt64) hx hb d23 rfl ?_
  refine W.lcmp hx hb d24 ?_
  rw [lg_cmp_self]
  exact lv_if_eq (tgt := T + 30) hx hb d25 (by omega) (fun _ => hgo) (fun h9 => absurd rfl h9)
/-- behind the reference's call: was the throw the same, and the answer -/
theorem l_tailz (C : LCx p l s m args meth c dC dI ad adV cy cL ob b L xs) (hS : LwS s dC dI ad cy cL ob σ f H locs) {t v : Int32} (ht : σ 7 0 5 = t) (hf0 : t = 0 → f 0 = lz v) {T : Nat} (hd : ∀ q ∈ tlZ T, decode code q.1 = .ok q.2) (hl : lv_has ls 7 ((5, .int t) :: lvL ad ob b i)) (hf : cells ≤ room_1.cells ∧ slots ≤ room_1.slots)
    (kk : ∀ (H1 : Heap) (locs1 : List Loc) (ls1 : Array Slot), LwS s dC dI ad cy cL ob σ f H1 locs1 → lv_has ls1 7 (lvL ad ob b i) → W p l e room_1 s m args below meth c H1 locs1 cells slots Q (F0 m 3208 ls1 [])) : W p l e room_1 s m args below meth c H locs cells slots Q (F0 m T ls [.int v]) := by
  have hx := C.1.1
  have hb := C.1.2.1
  have hKl := C.2.2.1
  have hI : wI ad := C.2.2.2.2.2.2.2.2.2.2.2.1
  have d0 : decode code (T) = .ok (.istore 6, 2) := hd (T, .istore 6, 2) (List.mem_of_getElem? (i := 0) rfl)
  have d2 : decode code (T + 2) = .ok (.aload_n 2, 1) := hd (T + 2, .aload_n 2, 1) (List.mem_of_getElem? (i := 1) rfl)
  have d3 : decode code (T + 3) = .ok (.invokevirtual 160, 3) := hd (T + 3, .invokevirtual 160, 3) (List.mem_of_getElem? (i := 2) rfl)
  have d6 : decode code (T + 6) = .ok (.iload 5, 2) := hd (T + 6, .iload 5, 2) (List.mem_of_getElem? (i := 3) rfl)
  have d8 : decode code (T + 8) = .ok (.if_icmp .eq 5, 3) := hd (T + 8, .if_icmp .eq 5, 3) (List.mem_of_getElem? (i := 4) rfl)
  have d13 : decode code (T + 13) = .ok (.iload 5, 2) := hd (T + 13, .iload 5, 2) (List.mem_of_getElem? (i := 5) rfl)
  have d15 : decode code (T + 15) = .ok (.ifCond .ne 22, 3) := hd (T + 15, .ifCond .ne 22, 3) (List.mem_of_getElem? (i := 6) rfl)
  have d18 : decode code (T + 18) = .ok (.aload_n 3, 1) := hd (T + 18, .aload_n 3, 1) (List.mem_of_getElem? (i := 7) rfl)
  have d19 : decode code (T + 19) = .ok (.iconst 0, 1) := hd (T + 19, .iconst 0, 1) (List.mem_of_getElem? (i := 8) rfl)
  have d20 : decode code (T + 20) = .ok (.laload, 1) := hd (T + 20, .laload, 1) (List.mem_of_getElem? (i := 9) rfl)
  have d21 : decode code (T + 21) = .ok (.iload 6, 2) := hd (T + 21, .iload 6, 2) (List.mem_of_getElem? (i := 10) rfl)
  have d23 : decode code (T + 23) = .ok (.ifCond .eq 7, 3) := hd (T + 23, .ifCond .eq 7, 3) (List.mem_of_getElem? (i := 11) rfl)
  have d26 : decode code (T + 26) = .ok (.lconst 1, 1) := hd (T + 26, .lconst 1, 1) (List.mem_of_getElem? (i := 12) rfl)
  have d27 : decode code (T + 27) = .ok (.goto 4, 3) := hd (T + 27, .goto 4, 3) (List.mem_of_getElem? (i := 13) rfl)
  have d30 : decode code (T + 30) = .ok (.lconst 0, 1) := hd (T + 30, .lconst 0, 1) (List.mem_of_getElem? (i := 14) rfl)
  have d31 : decode code (T + 31) = .ok (.lcmp, 1) := hd (T + 31, .lcmp, 1) (List.mem_of_getElem? (i := 15) rfl)
  have d32 : decode code (T + 32) = .ok (.ifCond .eq 5, 3) := hd (T + 32, .ifCond .eq 5, 3) (List.mem_of_getElem? (i := 16) rfl)
  have d37 : decode code (T + 37) = .ok (.goto (3208 - ((T + 37 : Nat) : Int)), 3) := hd (T + 37, .goto (3208 - ((T + 37 : Nat) : Int)), 3) (List.mem_of_getElem? (i := 17) rfl)
  refine lv_istore (lv' := (6, .int v) :: (5, .int t) :: lvL ad ob b i) hx hb d0 hl (by decide) rfl (fun ls hl => ?_)
  refine lv_aload_n hx hb d2 rfl (lv_at hl 5 rfl) ?_
  refine l_obj C hS (as := []) (rest := []) (j := mX7_thrown) (by decide) rfl (w3l (i := 202) rfl) rfl rfl (by decide) (thr_met hI) (by decide) hl.1 (Nat.zero_le _) d3 rfl hf (fun H locs hS => ?_)
  rw [ht]
  refine lv_iload hx hb d6 (lv_at hl 1 rfl) ?_
  refine lv_icmp_eq (tgt := T + 13) hx hb d8 (by omega) (fun _ => ?_) (fun h9 => absurd rfl h9)
  refine lv_iload hx hb d13 (lv_at hl 1 rfl) ?_
  have hgo : W p l e room_1 s m args below meth c H locs cells slots Q (F0 m (T + 37) ls []) := lv_goto (tgt := 3208) hx hb d37 (by omega) (kk H locs ls hS (lv_sub hl [2, 3, 4, 5, 6] rfl))
  refine lv_if_ne (tgt := T + 37) hx hb d15 (by omega) (fun _ => hgo) (fun h0 => ?_)
  refine lv_aload_n hx hb d18 rfl (lv_at hl 6 rfl) ?_
  refine lv_iconst (v := 0) hx hb d19 rfl ?_
  refine va_lald (D := (dC, dI)) (cl := vwCl) (ws := [(ob, eL cL f)]) hx hb hKl (fun k q hq => by
    match k, hq with
    | 0, hq => cases hq; exact hS.2.1) 0 0 rfl rfl (by unfold vp_in; decide) d20 ?_
  rw [show f (0 : Int32).toNatClampNeg = lz v from hf0 h0]
  refine lv_iload hx hb d21 (lv_at hl 0 rfl) ?_
  have hend : W p l e room_1 s m args below meth c H locs cells slots Q (F0 m (T + 31) ls [.long (lz v), .long (lz v)]) := by
    refine W.lcmp hx hb d31 ?_
    rw [lg_cmp_self]
    exact lv_if_eq (tgt := T + 37) hx hb d32 (by omega) (fun _ => hgo) (fun h9 => absurd rfl h9)
  refine lv_if_eq (tgt := T + 30) hx hb d23 (by omega) (fun h9 => ?_) (fun h9 => ?_)
  · refine lv_lconst (v := lz v) hx hb d30 (by rw [show lz v = 0 from if_pos h9]; rfl) ?_
    exact hend
  · refine lv_lconst (v := lz v) hx hb d26 (by rw [show lz v = 1 from if_neg h9]; rfl) ?_
    exact lv_goto (tgt := T + 31) hx hb d27 (by omega) hend
/-- how a case ends -/
def LK (p : Program) (l : Launch) (e : Env) (s : State) (m : MethodId) (args : Array Value) (below : List Frame) (meth : Method) (c : Code) (dC : Nat → ClassId) (dI : Nat → Nat → Nat) (ad : Nat → Nat → Nat) (cy : Nat → ClassId) (cL : ClassId) (ob b i : Nat) (Q : State → Prop) (cells slots : Nat) : Prop := ∀ (H : Heap) (locs : List Loc) (ls : Array Slot) (σ : iM) (f : Nat → Int64), INV σ → LwS s dC dI ad cy cL ob σ f H locs → lv_has ls 7 (lvL ad ob b i) → W p l e room_1 s m args below meth c H locs (cells + 1) (slots + 6) Q (F0 m 3208 ls [])
/-- what a wrapper does -/
def WSp (l : Launch) (dC : Nat → ClassId) (dI : Nat → Nat → Nat) (ad : Nat → Nat → Nat) (adV : Nat → Nat) (cy : Nat → ClassId) (cL : ClassId) (ob : Nat) (y : MethodName) (bytes : ByteArray) (mL : Nat) (hh : List (Nat × Nat × Nat × Nat)) (jc : Nat) (c1 : Int32) (lo : Int32 → Int64) (as : List iV) (av : List Value) : Prop := ∀ (σ : iM) (f : Nat → Int64),
  (∀ v σ1, iMet l dC dI ad cy (EXs ad adV) jc (X :: as) σ (some (.inl v)) σ1 → Met l y (.codeWith y bytes mL (some .int) hh :: tw3) wRm (va_Pc av (wX dC dI ad adV cy cL ob σ f)) (wY dC dI ad cy cL ob 0 σ1 (vp_updL f 0 (lo v))) 1 6 (wB ad ob)) ∧
  (∀ x σ1 t, iMetX l dC dI ad cy (EXs ad adV) jc (X :: as) σ x σ1 → (x = 0 ∧ t = 1 ∧ (c1 = 0 ∨ c1 = 2) ∨ x = 1 ∧ t = c1 ∧ (c1 = 1 ∨ c1 = 2)) → Met l y (.codeWith y bytes mL (some .int) hh :: tw3) wRm (va_Pc av (wX dC dI ad adV cy cL ob σ f)) (wY dC dI ad cy cL ob t σ1 f) 1 6 (wB ad ob))
theorem thr_ne {x : Nat} {t c1 : Int32} (h : x = 0 ∧ t = 1 ∧ (c1 = 0 ∨ c1 = 2) ∨ x = 1 ∧ t = c1 ∧ (c1 = 1 ∨ c1 = 2)) : t ≠ 0 := by
  rcases h with ⟨-, rfl, -⟩ | ⟨-, rfl, rfl | rfl⟩
  · decide
  · decide
  · decide
def sh_a0 (P ic im : Nat) : List iD := [(P, .aload_n 1, 1), (P + 1, .invokevirtual ic, 3), (P + 4, .aload_n 2, 1), (P + 5, .invokevirtual im, 3), (P + 8, .if_icmp .eq (3208 - ((P + 8 : Nat) : Int)), 3)]
set_option maxHeartbeats 2000000 in
theorem cs_a0 (C : LCx p l s m args meth c dC dI ad adV cy cL ob b L xs) (hS : LwS s dC dI ad cy cL ob σ f H locs) (hik : i + 4 ≤ L) (hl : lv_has ls 7 (lvL ad ob b i)) {jc jm ic im P : Nat} (hOK : OKi jc jm [] 3 σ) (hjc : jc < nMt) (hjm : jm < nMt) (hac : iNa jc = 1) (ham : iNa jm = 1) (hkc : iKd jc = 6) (hkm : iKd jm = 7) (hsc : iStt jc = false) (hsm : iStt jm = false) (hlc : Cond.methodLink RL ic (iY jc) ∈ tw3) (hlm : Cond.methodLink RL im (iY jm) ∈ tw3) (hRc : iFr jc + 1 ≤ 15 ∧ 8 + (iMl jc + 11) + iLo jc ≤ 584) (hRm : iFr jm + 1 ≤ 15 ∧ 8 + (iMl jm + 11) + iLo jm ≤ 584)
    (hd : ∀ q ∈ sh_a0 P ic im, decode code q.1 = .ok q.2) (hf : cells + 1 ≤ room_1.cells ∧ slots + 6 ≤ room_1.slots) (kk : LK p l e s m args below meth c dC dI ad cy cL ob b i Q cells slots) : W p l e room_1 s m args below meth c H locs cells slots Q (F0 m P ls []) := by
  have hx := C.1.1
  have hb := C.1.2.1
  have hI : wI ad := C.2.2.2.2.2.2.2.2.2.2.2.1
  have hlst : l.stackTraces = false := C.2.2.2.2.2.2.2.2.2.2.2.2
  have d0 : decode code (P) = .ok (.aload_n 1, 1) := hd (P, .aload_n 1, 1) (List.mem_of_getElem? (i := 0) rfl)
  have d1 : decode code (P + 1) = .ok (.invokevirtual ic, 3) := hd (P + 1, .invokevirtual ic, 3) (List.mem_of_getElem? (i := 1) rfl)
  have d4 : decode code (P + 4) = .ok (.aload_n 2, 1) := hd (P + 4, .aload_n 2, 1) (List.mem_of_getElem? (i := 2) rfl)
  have d5 : decode code (P + 5) = .ok (.invokevirtual im, 3) := hd (P + 5, .invokevirtual im, 3) (List.mem_of_getElem? (i := 3) rfl)
  have d8 : decode code (P + 8) = .ok (.if_icmp .eq (3208 - ((P + 8 : Nat) : Int)), 3) := hd (P + 8, .if_icmp .eq (3208 - ((P + 8 : Nat) : Int)), 3) (List.mem_of_getElem? (i := 4) rfl)
  rcases (hOK).met (dC := dC) (dI := dI) (ad := ad) (cy := cy) (adV := adV) hI hlst hjc hjm (by rw [hac]; rfl) (by rw [ham]; rfl) (by
    intro x hx9
    simp only [List.mem_cons, List.not_mem_nil, or_false] at hx9) with ⟨v, σ1, σ2, hc, hm, h5, hi2⟩ | ⟨v, x, σ1, σ2, hc, hm, hi2, hthr⟩
  · refine lv_aload_n hx hb d0 rfl (lv_at hl 2 rfl) ?_
    refine l_obj C hS (as := []) (rest := []) hjc hsc hlc (by rw [hac]; rfl) hkc (by decide) hc hRc hl.1 (Nat.zero_le _) d1 rfl ⟨by omega, by omega⟩ (fun H locs hS => ?_)
    refine lv_aload_n hx hb d4 rfl (lv_at hl 3 rfl) ?_
    refine l_obj C hS (as := []) (rest := [.int v]) hjm hsm hlm (by rw [ham]; rfl) hkm (by decide) hm hRm hl.1 (Nat.le_of_ble_eq_true rfl) d5 rfl ⟨by omega, by omega⟩ (fun H locs hS => ?_)
    refine lv_icmp_eq (tgt := 3208) hx hb d8 (by omega) (fun _ => ?_) (fun h9 => absurd rfl h9)
    refine W.widen (k := cells + 1) (n := slots + 6) (by omega) (by omega) ?_
    exact kk H locs ls σ2 _ hi2 hS hl
  · rcases hthr with ⟨-, -, h9 | h9⟩ | ⟨-, -, h9 | h9⟩
    · exact absurd h9 (by decide)
    · exact absurd h9 (by decide)
    · exact absurd h9 (by decide)
    · exact absurd h9 (by decide)
def sh_a1 (P ic im : Nat) : List iD := [(P, .aload_n 1, 1), (P + 1, .aload_n 0, 1), (P + 2, .iload 4, 2), (P + 4, .iconst 1, 1), (P + 5, .iadd, 1), (P + 6, .iaload, 1), (P + 7, .invokevirtual ic, 3), (P + 10, .aload_n 2, 1), (P + 11, .aload_n 0, 1), (P + 12, .iload 4, 2), (P + 14, .iconst 1, 1), (P + 15, .iadd, 1), (P + 16, .iaload, 1), (P + 17, .invokevirtual im, 3), (P + 20, .if_icmp .eq (3208 - ((P + 20 : Nat) : Int)), 3)]
set_option maxHeartbeats 2000000 in
theorem cs_a1 (C : LCx p l s m args meth c dC dI ad adV cy cL ob b L xs) (hS : LwS s dC dI ad cy cL ob σ f H locs) (hik : i + 4 ≤ L) (hl : lv_has ls 7 (lvL ad ob b i)) {jc jm ic im P : Nat} (hOK : ∀ (y1 : Int32), OKi jc jm [.inl y1] 3 σ) (hjc : jc < nMt) (hjm : jm < nMt) (hac : iNa jc = 2) (ham : iNa jm = 2) (hkc : iKd jc = 6) (hkm : iKd jm = 7) (hsc : iStt jc = false) (hsm : iStt jm = false) (hlc : Cond.methodLink RL ic (iY jc) ∈ tw3) (hlm : Cond.methodLink RL im (iY jm) ∈ tw3) (hRc : iFr jc + 1 ≤ 15 ∧ 8 + (iMl jc + 11) + iLo jc ≤ 584) (hRm : iFr jm + 1 ≤ 15 ∧ 8 + (iMl jm + 11) + iLo jm ≤ 584)
    (hd : ∀ q ∈ sh_a1 P ic im, decode code q.1 = .ok q.2) (hf : cells + 1 ≤ room_1.cells ∧ slots + 6 ≤ room_1.slots) (kk : LK p l e s m args below meth c dC dI ad cy cL ob b i Q cells slots) : W p l e room_1 s m args below meth c H locs cells slots Q (F0 m P ls []) := by
  have hx := C.1.1
  have hb := C.1.2.1
  have hI : wI ad := C.2.2.2.2.2.2.2.2.2.2.2.1
  have hlst : l.stackTraces = false := C.2.2.2.2.2.2.2.2.2.2.2.2
  have d0 : decode code (P) = .ok (.aload_n 1, 1) := hd (P, .aload_n 1, 1) (List.mem_of_getElem? (i := 0) rfl)
  have d1 : decode code (P + 1) = .ok (.aload_n 0, 1) := hd (P + 1, .aload_n 0, 1) (List.mem_of_getElem? (i := 1) rfl)
  have d2 : decode code (P + 2) = .ok (.iload 4, 2) := hd (P + 2, .iload 4, 2) (List.mem_of_getElem? (i := 2) rfl)
  have d4 : decode code (P + 4) = .ok (.iconst 1, 1) := hd (P + 4, .iconst 1, 1) (List.mem_of_getElem? (i := 3) rfl)
  have d5 : decode code (P + 5) = .ok (.iadd, 1) := hd (P + 5, .iadd, 1) (List.mem_of_getElem? (i := 4) rfl)
  have d6 : decode code (P + 6) = .ok (.iaload, 1) := hd (P + 6, .iaload, 1) (List.mem_of_getElem? (i := 5) rfl)
  have d7 : decode code (P + 7) = .ok (.invokevirtual ic, 3) := hd (P + 7, .invokevirtual ic, 3) (List.mem_of_getElem? (i := 6) rfl)
  have d10 : decode code (P + 10) = .ok (.aload_n 2, 1) := hd (P + 10, .aload_n 2, 1) (List.mem_of_getElem? (i := 7) rfl)
  have d11 : decode code (P + 11) = .ok (.aload_n 0, 1) := hd (P + 11, .aload_n 0, 1) (List.mem_of_getElem? (i := 8) rfl)
  have d12 : decode code (P + 12) = .ok (.iload 4, 2) := hd (P + 12, .iload 4, 2) (List.mem_of_getElem? (i := 9) rfl)
  have d14 : decode code (P + 14) = .ok (.iconst 1, 1) := hd (P + 14, .iconst 1, 1) (List.mem_of_getElem? (i := 10) rfl)
  have d15 : decode code (P + 15) = .ok (.iadd, 1) := hd (P + 15, .iadd, 1) (List.mem_of_getElem? (i := 11) rfl)
  have d16 : decode code (P + 16) = .ok (.iaload, 1) := hd (P + 16, .iaload, 1) (List.mem_of_getElem? (i := 12) rfl)
  have d17 : decode code (P + 17) = .ok (.invokevirtual im, 3) := hd (P + 17, .invokevirtual im, 3) (List.mem_of_getElem? (i := 13) rfl)
  have d20 : decode code (P + 20) = .ok (.if_icmp .eq (3208 - ((P + 20 : Nat) : Int)), 3) := hd (P + 20, .if_icmp .eq (3208 - ((P + 20 : Nat) : Int)), 3) (List.mem_of_getElem? (i := 14) rfl)
  rcases (hOK (xs (i + 1))).met (dC := dC) (dI := dI) (ad := ad) (cy := cy) (adV := adV) hI hlst hjc hjm (by rw [hac]; rfl) (by rw [ham]; rfl) (by
    intro x hx9
    simp only [List.mem_cons, List.not_mem_nil, or_false] at hx9
    rw [hx9]
    trivial) with ⟨v, σ1, σ2, hc, hm, h5, hi2⟩ | ⟨v, x, σ1, σ2, hc, hm, hi2, hthr⟩
  · refine lv_aload_n hx hb d0 rfl (lv_at hl 2 rfl) ?_
    refine l_arg C hS (k := 1) (v := 1) rfl rfl (by omega) (lv_at hl 1 rfl) (lv_at hl 0 rfl) d1 d2 d4 d5 d6 ?_
    refine l_obj C hS (as := [.inl (xs (i + 1))]) (rest := []) hjc hsc hlc (by rw [hac]; rfl) hkc (by decide) hc hRc hl.1 (Nat.zero_le _) d7 rfl ⟨by omega, by omega⟩ (fun H locs hS => ?_)
    refine lv_aload_n hx hb d10 rfl (lv_at hl 3 rfl) ?_
    refine l_arg C hS (k := 1) (v := 1) rfl rfl (by omega) (lv_at hl 1 rfl) (lv_at hl 0 rfl) d11 d12 d14 d15 d16 ?_
    refine l_obj C hS (as := [.inl (xs (i + 1))]) (rest := [.int v]) hjm hsm hlm (by rw [ham]; rfl) hkm (by decide) hm hRm hl.1 (Nat.le_of_ble_eq_true rfl) d17 rfl ⟨by omega, by omega⟩ (fun H locs hS => ?_)
    refine lv_icmp_eq (tgt := 3208) hx hb d20 (by omega) (fun _ => ?_) (fun h9 => absurd rfl h9)
    refine W.widen (k := cells + 1) (n := slots + 6) (by omega) (by omega) ?_
    exact kk H locs ls σ2 _ hi2 hS hl
  · rcases hthr with ⟨-, -, h9 | h9⟩ | ⟨-, -, h9 | h9⟩
    · exact absurd h9 (by decide)
    · exact absurd h9 (by decide)
    · exact absurd h9 (by decide)
    · exact absurd h9 (by decide)
def sh_b1 (P iw im : Nat) : List iD := [(P, .aload_n 1, 1), (P + 1, .aload_n 0, 1), (P + 2, .iload 4, 2), (P + 4, .iconst 1, 1), (P + 5, .iadd, 1), (P + 6, .iaload, 1), (P + 7, .aload_n 3, 1), (P + 8, .invokestatic iw, 3), (P + 11, .istore 5, 2), (P + 13, .aload_n 2, 1), (P + 14, .aload_n 0, 1), (P + 15, .iload 4, 2), (P + 17, .iconst 1, 1), (P + 18, .iadd, 1), (P + 19, .iaload, 1), (P + 20, .invokevirtual im, 3)]
set_option maxHeartbeats 2000000 in
theorem cs_b1 (C : LCx p l s m args meth c dC dI ad adV cy cL ob b L xs) (hS : LwS s dC dI ad cy cL ob σ f H locs) (hik : i + 4 ≤ L) (hl : lv_has ls 7 (lvL ad ob b i)) {jc jm mL iw im P : Nat} {c1 : Int32} {y : MethodName} {bytes : ByteArray} {hh : List (Nat × Nat × Nat × Nat)} (hOK : ∀ (y1 : Int32), OKi jc jm [.inl y1] c1 σ) (hjc : jc < nMt) (hjm : jm < nMt) (hac : iNa jc = 2) (ham : iNa jm = 2) (hkm : iKd jm = 7) (hsm : iStt jm = false) (hlm : Cond.methodLink RL im (iY jm) ∈ tw3) (hRm : iFr jm + 1 ≤ 15 ∧ 8 + (iMl jm + 11) + iLo jm ≤ 584)
    (hcw : Cond.codeWith y bytes mL (some .int) hh ∈ tw3) (hst : Cond.static y ∈ tw3) (hlk : Cond.methodLink RL iw y ∈ tw3) (hin : Cond.initialized y.cls ∈ tw3) (hy : y.cls ≠ "java/lang/invoke/MethodHandle" ∧ y.cls ≠ "java/lang/invoke/VarHandle" ∧ (parseMethodDescriptor y.desc).map (fun d => d.parameters.length) = some 3) (hmL : mL ≤ 6) (hW : ∀ (y1 : Int32), WSp l dC dI ad adV cy cL ob y bytes mL hh jc c1 Int32.toInt64 [.inl y1] [.ref (ad 6 0), .int y1, .ref ob])
    (hd : ∀ q ∈ sh_b1 P iw im, decode code q.1 = .ok q.2) (hdT : ∀ q ∈ tlI (P + 23), decode code q.1 = .ok q.2) (hf : cells + 1 ≤ room_1.cells ∧ slots + 6 ≤ room_1.slots) (kk : LK p l e s m args below meth c dC dI ad cy cL ob b i Q cells slots) : W p l e room_1 s m args below meth c H locs cells slots Q (F0 m P ls []) := by
  have hx := C.1.1
  have hb := C.1.2.1
  have hI : wI ad := C.2.2.2.2.2.2.2.2.2.2.2.1
  have hlst : l.stackTraces = false := C.2.2.2.2.2.2.2.2.2.2.2.2
  have d0 : decode code (P) = .ok (.aload_n 1, 1) := hd (P, .aload_n 1, 1) (List.mem_of_getElem? (i := 0) rfl)
  have d1 : decode code (P + 1) = .ok (.aload_n 0, 1) := hd (P + 1, .aload_n 0, 1) (List.mem_of_getElem? (i := 1) rfl)
  have d2 : decode code (P + 2) = .ok (.iload 4, 2) := hd (P + 2, .iload 4, 2) (List.mem_of_getElem? (i := 2) rfl)
  have d4 : decode code (P + 4) = .ok (.iconst 1, 1) := hd (P + 4, .iconst 1, 1) (List.mem_of_getElem? (i := 3) rfl)
  have d5 : decode code (P + 5) = .ok (.iadd, 1) := hd (P + 5, .iadd, 1) (List.mem_of_getElem? (i := 4) rfl)
  have d6 : decode code (P + 6) = .ok (.iaload, 1) := hd (P + 6, .iaload, 1) (List.mem_of_getElem? (i := 5) rfl)
  have d7 : decode code (P + 7) = .ok (.aload_n 3, 1) := hd (P + 7, .aload_n 3, 1) (List.mem_of_getElem? (i := 6) rfl)
  have d8 : decode code (P + 8) = .ok (.invokestatic iw, 3) := hd (P + 8, .invokestatic iw, 3) (List.mem_of_getElem? (i := 7) rfl)
  have d11 : decode code (P + 11) = .ok (.istore 5, 2) := hd (P + 11, .istore 5, 2) (List.mem_of_getElem? (i := 8) rfl)
  have d13 : decode code (P + 13) = .ok (.aload_n 2, 1) := hd (P + 13, .aload_n 2, 1) (List.mem_of_getElem? (i := 9) rfl)
  have d14 : decode code (P + 14) = .ok (.aload_n 0, 1) := hd (P + 14, .aload_n 0, 1) (List.mem_of_getElem? (i := 10) rfl)
  have d15 : decode code (P + 15) = .ok (.iload 4, 2) := hd (P + 15, .iload 4, 2) (List.mem_of_getElem? (i := 11) rfl)
  have d17 : decode code (P + 17) = .ok (.iconst 1, 1) := hd (P + 17, .iconst 1, 1) (List.mem_of_getElem? (i := 12) rfl)
  have d18 : decode code (P + 18) = .ok (.iadd, 1) := hd (P + 18, .iadd, 1) (List.mem_of_getElem? (i := 13) rfl)
  have d19 : decode code (P + 19) = .ok (.iaload, 1) := hd (P + 19, .iaload, 1) (List.mem_of_getElem? (i := 14) rfl)
  have d20 : decode code (P + 20) = .ok (.invokevirtual im, 3) := hd (P + 20, .invokevirtual im, 3) (List.mem_of_getElem? (i := 15) rfl)
  refine lv_aload_n hx hb d0 rfl (lv_at hl 2 rfl) ?_
  refine l_arg C hS (k := 1) (v := 1) rfl rfl (by omega) (lv_at hl 1 rfl) (lv_at hl 0 rfl) d1 d2 d4 d5 d6 ?_
  refine lv_aload_n hx hb d7 rfl (lv_at hl 4 rfl) ?_
  rcases (hOK (xs (i + 1))).met (dC := dC) (dI := dI) (ad := ad) (cy := cy) (adV := adV) hI hlst hjc hjm (by rw [hac]; rfl) (by rw [ham]; rfl) (by
    intro x hx9
    simp only [List.mem_cons, List.not_mem_nil, or_false] at hx9
    rcases hx9 with rfl
    · trivial) with ⟨v, σ1, σ2, hc, hm, h5, hi2⟩ | ⟨v, x, σ1, σ2, hc, hm, hi2, hthr⟩
  · refine l_wrap C hS ((hW (xs (i + 1)) σ f).1 v σ1 hc) hcw hst hlk hin hy hmL hl.1 d8 rfl hf (fun H locs hS => ?_)
    refine lv_istore (lv' := (5, .int 0) :: lvL ad ob b i) hx hb d11 hl (by decide) rfl (fun ls hl => ?_)
    refine lv_aload_n hx hb d13 rfl (lv_at hl 4 rfl) ?_
    refine l_arg C hS (k := 1) (v := 1) rfl rfl (by omega) (lv_at hl 2 rfl) (lv_at hl 1 rfl) d14 d15 d17 d18 d19 ?_
    refine l_obj C hS (as := [.inl (xs (i + 1))]) (rest := []) hjm hsm hlm (by rw [ham]; rfl) hkm (by decide) hm hRm hl.1 (Nat.zero_le _) d20 rfl hf (fun H locs hS => ?_)
    refine l_tail C hS h5 (fun _ => rfl) hdT hl hf (fun H locs ls hS hl => ?_)
    exact kk H locs ls σ2 _ hi2 hS hl
  · refine l_wrap C hS ((hW (xs (i + 1)) σ f).2 x σ1 (σ2 7 0 5) hc hthr) hcw hst hlk hin hy hmL hl.1 d8 rfl hf (fun H locs hS => ?_)
    refine lv_istore (lv' := (5, .int (σ2 7 0 5)) :: lvL ad ob b i) hx hb d11 hl (by decide) rfl (fun ls hl => ?_)
    refine lv_aload_n hx hb d13 rfl (lv_at hl 4 rfl) ?_
    refine l_arg C hS (k := 1) (v := 1) rfl rfl (by omega) (lv_at hl 2 rfl) (lv_at hl 1 rfl) d14 d15 d17 d18 d19 ?_
    refine l_obj C hS (as := [.inl (xs (i + 1))]) (rest := []) hjm hsm hlm (by rw [ham]; rfl) hkm (by decide) hm hRm hl.1 (Nat.zero_le _) d20 rfl hf (fun H locs hS => ?_)
    refine l_tail C hS rfl (fun h9 => absurd h9 (thr_ne hthr)) hdT hl hf (fun H locs ls hS hl => ?_)
    exact kk H locs ls σ2 _ hi2 hS hl
def sh_b1z (P iw im : Nat) : List iD := [(P, .aload_n 1, 1), (P + 1, .aload_n 0, 1), (P + 2, .iload 4, 2), (P + 4, .iconst 1, 1), (P + 5, .iadd, 1), (P + 6, .iaload, 1), (P + 7, .aload_n 3, 1), (P + 8, .invokestatic iw, 3), (P + 11, .istore 5, 2), (P + 13, .aload_n 2, 1), (P + 14, .aload_n 0, 1), (P + 15, .iload 4, 2), (P + 17, .iconst 1, 1), (P + 18, .iadd, 1), (P + 19, .iaload, 1), (P + 20, .invokevirtual im, 3)]
set_option maxHeartbeats 2000000 in
theorem cs_b1z (C : LCx p l s m args meth c dC dI ad adV cy cL ob b L xs) (hS : LwS s dC dI ad cy cL ob σ f H locs) (hik : i + 4 ≤ L) (hl : lv_has ls 7 (lvL ad ob b i)) {jc jm mL iw im P : Nat} {c1 : Int32} {y : MethodName} {bytes : ByteArray} {hh : List (Nat × Nat × Nat × Nat)} (hOK : ∀ (y1 : Int32), OKi jc jm [.inl y1] c1 σ) (hjc : jc < nMt) (hjm : jm < nMt) (hac : iNa jc = 2) (ham : iNa jm = 2) (hkm : iKd jm = 7) (hsm : iStt jm = false) (hlm : Cond.methodLink RL im (iY jm) ∈ tw3) (hRm : iFr jm + 1 ≤ 15 ∧ 8 + (iMl jm + 11) + iLo jm ≤ 584)
    (hcw : Cond.codeWith y bytes mL (some .int) hh ∈ tw3) (hst : Cond.static y ∈ tw3) (hlk : Cond.methodLink RL iw y ∈ tw3) (hin : Cond.initialized y.cls ∈ tw3) (hy : y.cls ≠ "java/lang/invoke/MethodHandle" ∧ y.cls ≠ "java/lang/invoke/VarHandle" ∧ (parseMethodDescriptor y.desc).map (fun d => d.parameters.length) = some 3) (hmL : mL ≤ 6) (hW : ∀ (y1 : Int32), WSp l dC dI ad adV cy cL ob y bytes mL hh jc c1 lz [.inl y1] [.ref (ad 6 0), .int y1, .ref ob])
    (hd : ∀ q ∈ sh_b1z P iw im, decode code q.1 = .ok q.2) (hdT : ∀ q ∈ tlZ (P + 23), decode code q.1 = .ok q.2) (hf : cells + 1 ≤ room_1.cells ∧ slots + 6 ≤ room_1.slots) (kk : LK p l e s m args below meth c dC dI ad cy cL ob b i Q cells slots) : W p l e room_1 s m args below meth c H locs cells slots Q (F0 m P ls []) := by
  have hx := C.1.1
  have hb := C.1.2.1
  have hI : wI ad := C.2.2.2.2.2.2.2.2.2.2.2.1
  have hlst : l.stackTraces = false := C.2.2.2.2.2.2.2.2.2.2.2.2
  have d0 : decode code (P) = .ok (.aload_n 1, 1) := hd (P, .aload_n 1, 1) (List.mem_of_getElem? (i := 0) rfl)
  have d1 : decode code (P + 1) = .ok (.aload_n 0, 1) := hd (P + 1, .aload_n 0, 1) (List.mem_of_getElem? (i := 1) rfl)
  have d2 : decode code (P + 2) = .ok (.iload 4, 2) := hd (P + 2, .iload 4, 2) (List.mem_of_getElem? (i := 2) rfl)
  have d4 : decode code (P + 4) = .ok (.iconst 1, 1) := hd (P + 4, .iconst 1, 1) (List.mem_of_getElem? (i := 3) rfl)
  have d5 : decode code (P + 5) = .ok (.iadd, 1) := hd (P + 5, .iadd, 1) (List.mem_of_getElem? (i := 4) rfl)
  have d6 : decode code (P + 6) = .ok (.iaload, 1) := hd (P + 6, .iaload, 1) (List.mem_of_getElem? (i := 5) rfl)
  have d7 : decode code (P + 7) = .ok (.aload_n 3, 1) := hd (P + 7, .aload_n 3, 1) (List.mem_of_getElem? (i := 6) rfl)
  have d8 : decode code (P + 8) = .ok (.invokestatic iw, 3) := hd (P + 8, .invokestatic iw, 3) (List.mem_of_getElem? (i := 7) rfl)
  have d11 : decode code (P + 11) = .ok (.istore 5, 2) := hd (P + 11, .istore 5, 2) (List.mem_of_getElem? (i := 8) rfl)
  have d13 : decode code (P + 13) = .ok (.aload_n 2, 1) := hd (P + 13, .aload_n 2, 1) (List.mem_of_getElem? (i := 9) rfl)
  have d14 : decode code (P + 14) = .ok (.aload_n 0, 1) := hd (P + 14, .aload_n 0, 1) (List.mem_of_getElem? (i := 10) rfl)
  have d15 : decode code (P + 15) = .ok (.iload 4, 2) := hd (P + 15, .iload 4, 2) (List.mem_of_getElem? (i := 11) rfl)
  have d17 : decode code (P + 17) = .ok (.iconst 1, 1) := hd (P + 17, .iconst 1, 1) (List.mem_of_getElem? (i := 12) rfl)
  have d18 : decode code (P + 18) = .ok (.iadd, 1) := hd (P + 18, .iadd, 1) (List.mem_of_getElem? (i := 13) rfl)
  have d19 : decode code (P + 19) = .ok (.iaload, 1) := hd (P + 19, .iaload, 1) (List.mem_of_getElem? (i := 14) rfl)
  have d20 : decode code (P + 20) = .ok (.invokevirtual im, 3) := hd (P + 20, .invokevirtual im, 3) (List.mem_of_getElem? (i := 15) rfl)
  refine lv_aload_n hx hb d0 rfl (lv_at hl 2 rfl) ?_
  refine l_arg C hS (k := 1) (v := 1) rfl rfl (by omega) (lv_at hl 1 rfl) (lv_at hl 0 rfl) d1 d2 d4 d5 d6 ?_
  refine lv_aload_n hx hb d7 rfl (lv_at hl 4 rfl) ?_
  rcases (hOK (xs (i + 1))).met (dC := dC) (dI := dI) (ad := ad) (cy := cy) (adV := adV) hI hlst hjc hjm (by rw [hac]; rfl) (by rw [ham]; rfl) (by
    intro x hx9
    simp only [List.mem_cons, List.not_mem_nil, or_false] at hx9
    rcases hx9 with rfl
    · trivial) with ⟨v, σ1, σ2, hc, hm, h5, hi2⟩ | ⟨v, x, σ1, σ2, hc, hm, hi2, hthr⟩
  · refine l_wrap C hS ((hW (xs (i + 1)) σ f).1 v σ1 hc) hcw hst hlk hin hy hmL hl.1 d8 rfl hf (fun H locs hS => ?_)
    refine lv_istore (lv' := (5, .int 0) :: lvL ad ob b i) hx hb d11 hl (by decide) rfl (fun ls hl => ?_)
    refine lv_aload_n hx hb d13 rfl (lv_at hl 4 rfl) ?_
    refine l_arg C hS (k := 1) (v := 1) rfl rfl (by omega) (lv_at hl 2 rfl) (lv_at hl 1 rfl) d14 d15 d17 d18 d19 ?_
    refine l_obj C hS (as := [.inl (xs (i + 1))]) (rest := []) hjm hsm hlm (by rw [ham]; rfl) hkm (by decide) hm hRm hl.1 (Nat.zero_le _) d20 rfl hf (fun H locs hS => ?_)
    refine l_tailz C hS h5 (fun _ => rfl) hdT hl hf (fun H locs ls hS hl => ?_)
    exact kk H locs ls σ2 _ hi2 hS hl
  · refine l_wrap C hS ((hW (xs (i + 1)) σ f).2 x σ1 (σ2 7 0 5) hc hthr) hcw hst hlk hin hy hmL hl.1 d8 rfl hf (fun H locs hS => ?_)
    refine lv_istore (lv' := (5, .int (σ2 7 0 5)) :: lvL ad ob b i) hx hb d11 hl (by decide) rfl (fun ls hl => ?_)
    refine lv_aload_n hx hb d13 rfl (lv_at hl 4 rfl) ?_
    refine l_arg C hS (k := 1) (v := 1) rfl rfl (by omega) (lv_at hl 2 rfl) (lv_at hl 1 rfl) d14 d15 d17 d18 d19 ?_
    refine l_obj C hS (as := [.inl (xs (i + 1))]) (rest := []) hjm hsm hlm (by rw [ham]; rfl) hkm (by decide) hm hRm hl.1 (Nat.zero_le _) d20 rfl hf (fun H locs hS => ?_)
    refine l_tailz C hS rfl (fun h9 => absurd h9 (thr_ne hthr)) hdT hl hf (fun H locs ls hS hl => ?_)
    exact kk H locs ls σ2 _ hi2 hS hl
def sh_b2 (P iw im : Nat) : List iD := [(P, .aload_n 1, 1), (P + 1, .aload_n 0, 1), (P + 2, .iload 4, 2), (P + 4, .iconst 1, 1), (P + 5, .iadd, 1), (P + 6, .iaload, 1), (P + 7, .aload_n 0, 1), (P + 8, .iload 4, 2), (P + 10, .iconst 2, 1), (P + 11, .iadd, 1), (P + 12, .iaload, 1), (P + 13, .aload_n 3, 1), (P + 14, .invokestatic iw, 3), (P + 17, .istore 5, 2), (P + 19, .aload_n 2, 1), (P + 20, .aload_n 0, 1), (P + 21, .iload 4, 2), (P + 23, .iconst 1, 1), (P + 24, .iadd, 1), (P + 25, .iaload, 1), (P + 26, .aload_n 0, 1), (P + 27, .iload 4, 2), (P + 29, .iconst 2, 1), (P + 30, .iadd, 1), (P + 31, .iaload, 1), (P + 32, .invokevirtual im, 3)]
set_option maxHeartbeats 2000000 in
theorem cs_b2 (C : LCx p l s m args meth c dC dI ad adV cy cL ob b L xs) (hS : LwS s dC dI ad cy cL ob σ f H locs) (hik : i + 4 ≤ L) (hl : lv_has ls 7 (lvL ad ob b i)) {jc jm mL iw im P : Nat} {c1 : Int32} {y : MethodName} {bytes : ByteArray} {hh : List (Nat × Nat × Nat × Nat)} (hOK : ∀ (y1 y2 : Int32), OKi jc jm [.inl y1, .inl y2] c1 σ) (hjc : jc < nMt) (hjm : jm < nMt) (hac : iNa jc = 3) (ham : iNa jm = 3) (hkm : iKd jm = 7) (hsm : iStt jm = false) (hlm : Cond.methodLink RL im (iY jm) ∈ tw3) (hRm : iFr jm + 1 ≤ 15 ∧ 8 + (iMl jm + 11) + iLo jm ≤ 584)
    (hcw : Cond.codeWith y bytes mL (some .int) hh ∈ tw3) (hst : Cond.static y ∈ tw3) (hlk : Cond.methodLink RL iw y ∈ tw3) (hin : Cond.initialized y.cls ∈ tw3) (hy : y.cls ≠ "java/lang/invoke/MethodHandle" ∧ y.cls ≠ "java/lang/invoke/VarHandle" ∧ (parseMethodDescriptor y.desc).map (fun d => d.parameters.length) = some 4) (hmL : mL ≤ 6) (hW : ∀ (y1 y2 : Int32), WSp l dC dI ad adV cy cL ob y bytes mL hh jc c1 Int32.toInt64 [.inl y1, .inl y2] [.ref (ad 6 0), .int y1, .int y2, .ref ob])
    (hd : ∀ q ∈ sh_b2 P iw im, decode code q.1 = .ok q.2) (hdT : ∀ q ∈ tlI (P + 35), decode code q.1 = .ok q.2) (hf : cells + 1 ≤ room_1.cells ∧ slots + 6 ≤ room_1.slots) (kk : LK p l e s m args below meth c dC dI ad cy cL ob b i Q cells slots) : W p l e room_1 s m args below meth c H locs cells slots Q (F0 m P ls []) := by
  have hx := C.1.1
  have hb := C.1.2.1
  have hI : wI ad := C.2.2.2.2.2.2.2.2.2.2.2.1
  have hlst : l.stackTraces = false := C.2.2.2.2.2.2.2.2.2.2.2.2
  have d0 : decode code (P) = .ok (.aload_n 1, 1) := hd (P, .aload_n 1, 1) (List.mem_of_getElem? (i := 0) rfl)
  have d1 : decode code (P + 1) = .ok (.aload_n 0, 1) := hd (P + 1, .aload_n 0, 1) (List.mem_of_getElem? (i := 1) rfl)
  have d2 : decode code (P + 2) = .ok (.iload 4, 2) := hd (P + 2, .iload 4, 2) (List.mem_of_getElem? (i := 2) rfl)
  have d4 : decode code (P + 4) = .ok (.iconst 1, 1) := hd (P + 4, .iconst 1, 1) (List.mem_of_getElem? (i := 3) rfl)
  have d5 : decode code (P + 5) = .ok (.iadd, 1) := hd (P + 5, .iadd, 1) (List.mem_of_getElem? (i := 4) rfl)
  have d6 : decode code (P + 6) = .ok (.iaload, 1) := hd (P + 6, .iaload, 1) (List.mem_of_getElem? (i := 5) rfl)
  have d7 : decode code (P + 7) = .ok (.aload_n 0, 1) := hd (P + 7, .aload_n 0, 1) (List.mem_of_getElem? (i := 6) rfl)
  have d8 : decode code (P + 8) = .ok (.iload 4, 2) := hd (P + 8, .iload 4, 2) (List.mem_of_getElem? (i := 7) rfl)
  have d10 : decode code (P + 10) = .ok (.iconst 2, 1) := hd (P + 10, .iconst 2, 1) (List.mem_of_getElem? (i := 8) rfl)
  have d11 : decode code (P + 11) = .ok (.iadd, 1) := hd (P + 11, .iadd, 1) (List.mem_of_getElem? (i := 9) rfl)
  have d12 : decode code (P + 12) = .ok (.iaload, 1) := hd (P + 12, .iaload, 1) (List.mem_of_getElem? (i := 10) rfl)
  have d13 : decode code (P + 13) = .ok (.aload_n 3, 1) := hd (P + 13, .aload_n 3, 1) (List.mem_of_getElem? (i := 11) rfl)
  have d14 : decode code (P + 14) = .ok (.invokestatic iw, 3) := hd (P + 14, .invokestatic iw, 3) (List.mem_of_getElem? (i := 12) rfl)
  have d17 : decode code (P + 17) = .ok (.istore 5, 2) := hd (P + 17, .istore 5, 2) (List.mem_of_getElem? (i := 13) rfl)
  have d19 : decode code (P + 19) = .ok (.aload_n 2, 1) := hd (P + 19, .aload_n 2, 1) (List.mem_of_getElem? (i := 14) rfl)
  have d20 : decode code (P + 20) = .ok (.aload_n 0, 1) := hd (P + 20, .aload_n 0, 1) (List.mem_of_getElem? (i := 15) rfl)
  have d21 : decode code (P + 21) = .ok (.iload 4, 2) := hd (P + 21, .iload 4, 2) (List.mem_of_getElem? (i := 16) rfl)
  have d23 : decode code (P + 23) = .ok (.iconst 1, 1) := hd (P + 23, .iconst 1, 1) (List.mem_of_getElem? (i := 17) rfl)
  have d24 : decode code (P + 24) = .ok (.iadd, 1) := hd (P + 24, .iadd, 1) (List.mem_of_getElem? (i := 18) rfl)
  have d25 : decode code (P + 25) = .ok (.iaload, 1) := hd (P + 25, .iaload, 1) (List.mem_of_getElem? (i := 19) rfl)
  have d26 : decode code (P + 26) = .ok (.aload_n 0, 1) := hd (P + 26, .aload_n 0, 1) (List.mem_of_getElem? (i := 20) rfl)
  have d27 : decode code (P + 27) = .ok (.iload 4, 2) := hd (P + 27, .iload 4, 2) (List.mem_of_getElem? (i := 21) rfl)
  have d29 : decode code (P + 29) = .ok (.iconst 2, 1) := hd (P + 29, .iconst 2, 1) (List.mem_of_getElem? (i := 22) rfl)
  have d30 : decode code (P + 30) = .ok (.iadd, 1) := hd (P + 30, .iadd, 1) (List.mem_of_getElem? (i := 23) rfl)
  have d31 : decode code (P + 31) = .ok (.iaload, 1) := hd (P + 31, .iaload, 1) (List.mem_of_getElem? (i := 24) rfl)
  have d32 : decode code (P + 32) = .ok (.invokevirtual im, 3) := hd (P + 32, .invokevirtual im, 3) (List.mem_of_getElem? (i := 25) rfl)
  refine lv_aload_n hx hb d0 rfl (lv_at hl 2 rfl) ?_
  refine l_arg C hS (k := 1) (v := 1) rfl rfl (by omega) (lv_at hl 1 rfl) (lv_at hl 0 rfl) d1 d2 d4 d5 d6 ?_
  refine l_arg C hS (k := 2) (v := 2) rfl rfl (by omega) (lv_at hl 1 rfl) (lv_at hl 0 rfl) d7 d8 d10 d11 d12 ?_
  refine lv_aload_n hx hb d13 rfl (lv_at hl 4 rfl) ?_
  rcases (hOK (xs (i + 1)) (xs (i + 2))).met (dC := dC) (dI := dI) (ad := ad) (cy := cy) (adV := adV) hI hlst hjc hjm (by rw [hac]; rfl) (by rw [ham]; rfl) (by
    intro x hx9
    simp only [List.mem_cons, List.not_mem_nil, or_false] at hx9
    rcases hx9 with rfl | rfl
    · trivial
    · trivial) with ⟨v, σ1, σ2, hc, hm, h5, hi2⟩ | ⟨v, x, σ1, σ2, hc, hm, hi2, hthr⟩
  · refine l_wrap C hS ((hW (xs (i + 1)) (xs (i + 2)) σ f).1 v σ1 hc) hcw hst hlk hin hy hmL hl.1 d14 rfl hf (fun H locs hS => ?_)
    refine lv_istore (lv' := (5, .int 0) :: lvL ad ob b i) hx hb d17 hl (by decide) rfl (fun ls hl => ?_)
    refine lv_aload_n hx hb d19 rfl (lv_at hl 4 rfl) ?_
    refine l_arg C hS (k := 1) (v := 1) rfl rfl (by omega) (lv_at hl 2 rfl) (lv_at hl 1 rfl) d20 d21 d23 d24 d25 ?_
    refine l_arg C hS (k := 2) (v := 2) rfl rfl (by omega) (lv_at hl 2 rfl) (lv_at hl 1 rfl) d26 d27 d29 d30 d31 ?_
    refine l_obj C hS (as := [.inl (xs (i + 1)), .inl (xs (i + 2))]) (rest := []) hjm hsm hlm (by rw [ham]; rfl) hkm (by decide) hm hRm hl.1 (Nat.zero_le _) d32 rfl hf (fun H locs hS => ?_)
    refine l_tail C hS h5 (fun _ => rfl) hdT hl hf (fun H locs ls hS hl => ?_)
    exact kk H locs ls σ2 _ hi2 hS hl
  · refine l_wrap C hS ((hW (xs (i + 1)) (xs (i + 2)) σ f).2 x σ1 (σ2 7 0 5) hc hthr) hcw hst hlk hin hy hmL hl.1 d14 rfl hf (fun H locs hS => ?_)
    refine lv_istore (lv' := (5, .int (σ2 7 0 5)) :: lvL ad ob b i) hx hb d17 hl (by decide) rfl (fun ls hl => ?_)
    refine lv_aload_n hx hb d19 rfl (lv_at hl 4 rfl) ?_
    refine l_arg C hS (k := 1) (v := 1) rfl rfl (by omega) (lv_at hl 2 rfl) (lv_at hl 1 rfl) d20 d21 d23 d24 d25 ?_
    refine l_arg C hS (k := 2) (v := 2) rfl rfl (by omega) (lv_at hl 2 rfl) (lv_at hl 1 rfl) d26 d27 d29 d30 d31 ?_
    refine l_obj C hS (as := [.inl (xs (i + 1)), .inl (xs (i + 2))]) (rest := []) hjm hsm hlm (by rw [ham]; rfl) hkm (by decide) hm hRm hl.1 (Nat.zero_le _) d32 rfl hf (fun H locs hS => ?_)
    refine l_tail C hS rfl (fun h9 => absurd h9 (thr_ne hthr)) hdT hl hf (fun H locs ls hS hl => ?_)
    exact kk H locs ls σ2 _ hi2 hS hl
def sh_b2z (P iw im : Nat) : List iD := [(P, .aload_n 1, 1), (P + 1, .aload_n 0, 1), (P + 2, .iload 4, 2), (P + 4, .iconst 1, 1), (P + 5, .iadd, 1), (P + 6, .iaload, 1), (P + 7, .aload_n 0, 1), (P + 8, .iload 4, 2), (P + 10, .iconst 2, 1), (P + 11, .iadd, 1), (P + 12, .iaload, 1), (P + 13, .ifCond .eq 7, 3), (P + 16, .iconst 1, 1), (P + 17, .goto 4, 3), (P + 20, .iconst 0, 1), (P + 21, .aload_n 3, 1), (P + 22, .invokestatic iw, 3), (P + 25, .istore 5, 2), (P + 27, .aload_n 2, 1), (P + 28, .aload_n 0, 1), (P + 29, .iload 4, 2), (P + 31, .iconst 1, 1), (P + 32, .iadd, 1), (P + 33, .iaload, 1), (P + 34, .aload_n 0, 1), (P + 35, .iload 4, 2), (P + 37, .iconst 2, 1), (P + 38, .iadd, 1), (P + 39, .iaload, 1), (P + 40, .ifCond .eq 7, 3), (P + 43, .iconst 1, 1), (P + 44, .goto 4, 3), (P + 47, .iconst 0, 1), (P + 48, .invokevirtual im, 3)]
set_option maxHeartbeats 2000000 in
theorem cs_b2z (C : LCx p l s m args meth c dC dI ad adV cy cL ob b L xs) (hS : LwS s dC dI ad cy cL ob σ f H locs) (hik : i + 4 ≤ L) (hl : lv_has ls 7 (lvL ad ob b i)) {jc jm mL iw im P : Nat} {c1 : Int32} {y : MethodName} {bytes : ByteArray} {hh : List (Nat × Nat × Nat × Nat)} (hOK : ∀ (y1 y2 : Int32) (hz : y2 = 0 ∨ y2 = 1), OKi jc jm [.inl y1, .inl y2] c1 σ) (hjc : jc < nMt) (hjm : jm < nMt) (hac : iNa jc = 3) (ham : iNa jm = 3) (hkm : iKd jm = 7) (hsm : iStt jm = false) (hlm : Cond.methodLink RL im (iY jm) ∈ tw3) (hRm : iFr jm + 1 ≤ 15 ∧ 8 + (iMl jm + 11) + iLo jm ≤ 584)
    (hcw : Cond.codeWith y bytes mL (some .int) hh ∈ tw3) (hst : Cond.static y ∈ tw3) (hlk : Cond.methodLink RL iw y ∈ tw3) (hin : Cond.initialized y.cls ∈ tw3) (hy : y.cls ≠ "java/lang/invoke/MethodHandle" ∧ y.cls ≠ "java/lang/invoke/VarHandle" ∧ (parseMethodDescriptor y.desc).map (fun d => d.parameters.length) = some 4) (hmL : mL ≤ 6) (hW : ∀ (y1 y2 : Int32), WSp l dC dI ad adV cy cL ob y bytes mL hh jc c1 lz [.inl y1, .inl y2] [.ref (ad 6 0), .int y1, .int y2, .ref ob])
    (hd : ∀ q ∈ sh_b2z P iw im, decode code q.1 = .ok q.2) (hdT : ∀ q ∈ tlZ (P + 51), decode code q.1 = .ok q.2) (hf : cells + 1 ≤ room_1.cells ∧ slots + 6 ≤ room_1.slots) (kk : LK p l e s m args below meth c dC dI ad cy cL ob b i Q cells slots) : W p l e room_1 s m args below meth c H locs cells slots Q (F0 m P ls []) := by
  have hx := C.1.1
  have hb := C.1.2.1
  have hI : wI ad := C.2.2.2.2.2.2.2.2.2.2.2.1
  have hlst : l.stackTraces = false := C.2.2.2.2.2.2.2.2.2.2.2.2
  have d0 : decode code (P) = .ok (.aload_n 1, 1) := hd (P, .aload_n 1, 1) (List.mem_of_getElem? (i := 0) rfl)
  have d1 : decode code (P + 1) = .ok (.aload_n 0, 1) := hd (P + 1, .aload_n 0, 1) (List.mem_of_getElem? (i := 1) rfl)
  have d2 : decode code (P + 2) = .ok (.iload 4, 2) := hd (P + 2, .iload 4, 2) (List.mem_of_getElem? (i := 2) rfl)
  have d4 : decode code (P + 4) = .ok (.iconst 1, 1) := hd (P + 4, .iconst 1, 1) (List.mem_of_getElem? (i := 3) rfl)
  have d5 : decode code (P + 5) = .ok (.iadd, 1) := hd (P + 5, .iadd, 1) (List.mem_of_getElem? (i := 4) rfl)
  have d6 : decode code (P + 6) = .ok (.iaload, 1) := hd (P + 6, .iaload, 1) (List.mem_of_getElem? (i := 5) rfl)
  have d7 : decode code (P + 7) = .ok (.aload_n 0, 1) := hd (P + 7, .aload_n 0, 1) (List.mem_of_getElem? (i := 6) rfl)
  have d8 : decode code (P + 8) = .ok (.iload 4, 2) := hd (P + 8, .iload 4, 2) (List.mem_of_getElem? (i := 7) rfl)
  have d10 : decode code (P + 10) = .ok (.iconst 2, 1) := hd (P + 10, .iconst 2, 1) (List.mem_of_getElem? (i := 8) rfl)
  have d11 : decode code (P + 11) = .ok (.iadd, 1) := hd (P + 11, .iadd, 1) (List.mem_of_getElem? (i := 9) rfl)
  have d12 : decode code (P + 12) = .ok (.iaload, 1) := hd (P + 12, .iaload, 1) (List.mem_of_getElem? (i := 10) rfl)
  have d13 : decode code (P + 13) = .ok (.ifCond .eq 7, 3) := hd (P + 13, .ifCond .eq 7, 3) (List.mem_of_getElem? (i := 11) rfl)
  have d16 : decode code (P + 16) = .ok (.iconst 1, 1) := hd (P + 16, .iconst 1, 1) (List.mem_of_getElem? (i := 12) rfl)
  have d17 : decode code (P + 17) = .ok (.goto 4, 3) := hd (P + 17, .goto 4, 3) (List.mem_of_getElem? (i := 13) rfl)
  have d20 : decode code (P + 20) = .ok (.iconst 0, 1) := hd (P + 20, .iconst 0, 1) (List.mem_of_getElem? (i := 14) rfl)
  have d21 : decode code (P + 21) = .ok (.aload_n 3, 1) := hd (P + 21, .aload_n 3, 1) (List.mem_of_getElem? (i := 15) rfl)
  have d22 : decode code (P + 22) = .ok (.invokestatic iw, 3) := hd (P + 22, .invokestatic iw, 3) (List.mem_of_getElem? (i := 16) rfl)
  have d25 : decode code (P + 25) = .ok (.istore 5, 2) := hd (P + 25, .istore 5, 2) (List.mem_of_getElem? (i := 17) rfl)
  have d27 : decode code (P + 27) = .ok (.aload_n 2, 1) := hd (P + 27, .aload_n 2, 1) (List.mem_of_getElem? (i := 18) rfl)
  have d28 : decode code (P + 28) = .ok (.aload_n 0, 1) := hd (P + 28, .aload_n 0, 1) (List.mem_of_getElem? (i := 19) rfl)
  have d29 : decode code (P + 29) = .ok (.iload 4, 2) := hd (P + 29, .iload 4, 2) (List.mem_of_getElem? (i := 20) rfl)
  have d31 : decode code (P + 31) = .ok (.iconst 1, 1) := hd (P + 31, .iconst 1, 1) (List.mem_of_getElem? (i := 21) rfl)
  have d32 : decode code (P + 32) = .ok (.iadd, 1) := hd (P + 32, .iadd, 1) (List.mem_of_getElem? (i := 22) rfl)
  have d33 : decode code (P + 33) = .ok (.iaload, 1) := hd (P + 33, .iaload, 1) (List.mem_of_getElem? (i := 23) rfl)
  have d34 : decode code (P + 34) = .ok (.aload_n 0, 1) := hd (P + 34, .aload_n 0, 1) (List.mem_of_getElem? (i := 24) rfl)
  have d35 : decode code (P + 35) = .ok (.iload 4, 2) := hd (P + 35, .iload 4, 2) (List.mem_of_getElem? (i := 25) rfl)
  have d37 : decode code (P + 37) = .ok (.iconst 2, 1) := hd (P + 37, .iconst 2, 1) (List.mem_of_getElem? (i := 26) rfl)
  have d38 : decode code (P + 38) = .ok (.iadd, 1) := hd (P + 38, .iadd, 1) (List.mem_of_getElem? (i := 27) rfl)
  have d39 : decode code (P + 39) = .ok (.iaload, 1) := hd (P + 39, .iaload, 1) (List.mem_of_getElem? (i := 28) rfl)
  have d40 : decode code (P + 40) = .ok (.ifCond .eq 7, 3) := hd (P + 40, .ifCond .eq 7, 3) (List.mem_of_getElem? (i := 29) rfl)
  have d43 : decode code (P + 43) = .ok (.iconst 1, 1) := hd (P + 43, .iconst 1, 1) (List.mem_of_getElem? (i := 30) rfl)
  have d44 : decode code (P + 44) = .ok (.goto 4, 3) := hd (P + 44, .goto 4, 3) (List.mem_of_getElem? (i := 31) rfl)
  have d47 : decode code (P + 47) = .ok (.iconst 0, 1) := hd (P + 47, .iconst 0, 1) (List.mem_of_getElem? (i := 32) rfl)
  have d48 : decode code (P + 48) = .ok (.invokevirtual im, 3) := hd (P + 48, .invokevirtual im, 3) (List.mem_of_getElem? (i := 33) rfl)
  refine lv_aload_n hx hb d0 rfl (lv_at hl 2 rfl) ?_
  refine l_arg C hS (k := 1) (v := 1) rfl rfl (by omega) (lv_at hl 1 rfl) (lv_at hl 0 rfl) d1 d2 d4 d5 d6 ?_
  refine l_arg C hS (k := 2) (v := 2) rfl rfl (by omega) (lv_at hl 1 rfl) (lv_at hl 0 rfl) d7 d8 d10 d11 d12 ?_
  refine l_argz hx hb d13 d16 d17 d20 ?_
  refine lv_aload_n hx hb d21 rfl (lv_at hl 4 rfl) ?_
  rcases (hOK (xs (i + 1)) (if xs (i + 2) = 0 then 0 else 1) (by split; exact Or.inl rfl; exact Or.inr rfl)).met (dC := dC) (dI := dI) (ad := ad) (cy := cy) (adV := adV) hI hlst hjc hjm (by rw [hac]; rfl) (by rw [ham]; rfl) (by
    intro x hx9
    simp only [List.mem_cons, List.not_mem_nil, or_false] at hx9
    rcases hx9 with rfl | rfl
    · trivial
    · trivial) with ⟨v, σ1, σ2, hc, hm, h5, hi2⟩ | ⟨v, x, σ1, σ2, hc, hm, hi2, hthr⟩
  · refine l_wrap C hS ((hW (xs (i + 1)) (if xs (i + 2) = 0 then 0 else 1) σ f).1 v σ1 hc) hcw hst hlk hin hy hmL hl.1 d22 rfl hf (fun H locs hS => ?_)
    refine lv_istore (lv' := (5, .int 0) :: lvL ad ob b i) hx hb d25 hl (by decide) rfl (fun ls hl => ?_)
    refine lv_aload_n hx hb d27 rfl (lv_at hl 4 rfl) ?_
    refine l_arg C hS (k := 1) (v := 1) rfl rfl (by omega) (lv_at hl 2 rfl) (lv_at hl 1 rfl) d28 d29 d31 d32 d33 ?_
    refine l_arg C hS (k := 2) (v := 2) rfl rfl (by omega) (lv_at hl 2 rfl) (lv_at hl 1 rfl) d34 d35 d37 d38 d39 ?_
    refine l_argz hx hb d40 d43 d44 d47 ?_
    refine l_obj C hS (as := [.inl (xs (i + 1)), .inl (if xs (i + 2) = 0 then 0 else 1)]) (rest := []) hjm hsm hlm (by rw [ham]; rfl) hkm (by decide) hm hRm hl.1 (Nat.zero_le _) d48 rfl hf (fun H locs hS => ?_)
    refine l_tailz C hS h5 (fun _ => rfl) hdT hl hf (fun H locs ls hS hl => ?_)
    exact kk H locs ls σ2 _ hi2 hS hl
  · refine l_wrap C hS ((hW (xs (i + 1)) (if xs (i + 2) = 0 then 0 else 1) σ f).2 x σ1 (σ2 7 0 5) hc hthr) hcw hst hlk hin hy hmL hl.1 d22 rfl hf (fun H locs hS => ?_)
    refine lv_istore (lv' := (5, .int (σ2 7 0 5)) :: lvL ad ob b i) hx hb d25 hl (by decide) rfl (fun ls hl => ?_)
    refine lv_aload_n hx hb d27 rfl (lv_at hl 4 rfl) ?_
    refine l_arg C hS (k := 1) (v := 1) rfl rfl (by omega) (lv_at hl 2 rfl) (lv_at hl 1 rfl) d28 d29 d31 d32 d33 ?_
    refine l_arg C hS (k := 2) (v := 2) rfl rfl (by omega) (lv_at hl 2 rfl) (lv_at hl 1 rfl) d34 d35 d37 d38 d39 ?_
    refine l_argz hx hb d40 d43 d44 d47 ?_
    refine l_obj C hS (as := [.inl (xs (i + 1)), .inl (if xs (i + 2) = 0 then 0 else 1)]) (rest := []) hjm hsm hlm (by rw [ham]; rfl) hkm (by decide) hm hRm hl.1 (Nat.zero_le _) d48 rfl hf (fun H locs hS => ?_)
    refine l_tailz C hS rfl (fun h9 => absurd h9 (thr_ne hthr)) hdT hl hf (fun H locs ls hS hl => ?_)
    exact kk H locs ls σ2 _ hi2 hS hl
def sh_b3 (P iw im : Nat) : List iD := [(P, .aload_n 1, 1), (P + 1, .aload_n 0, 1), (P + 2, .iload 4, 2), (P + 4, .iconst 1, 1), (P + 5, .iadd, 1), (P + 6, .iaload, 1), (P + 7, .aload_n 0, 1), (P + 8, .iload 4, 2), (P + 10, .iconst 2, 1), (P + 11, .iadd, 1), (P + 12, .iaload, 1), (P + 13, .aload_n 0, 1), (P + 14, .iload 4, 2), (P + 16, .iconst 3, 1), (P + 17, .iadd, 1), (P + 18, .iaload, 1), (P + 19, .aload_n 3, 1), (P + 20, .invokestatic iw, 3), (P + 23, .istore 5, 2), (P + 25, .aload_n 2, 1), (P + 26, .aload_n 0, 1), (P + 27, .iload 4, 2), (P + 29, .iconst 1, 1), (P + 30, .iadd, 1), (P + 31, .iaload, 1), (P + 32, .aload_n 0, 1), (P + 33, .iload 4, 2), (P + 35, .iconst 2, 1), (P + 36, .iadd, 1), (P + 37, .iaload, 1), (P + 38, .aload_n 0, 1), (P + 39, .iload 4, 2), (P + 41, .iconst 3, 1), (P + 42, .iadd, 1), (P + 43, .iaload, 1), (P + 44, .invokevirtual im, 3)]
set_option maxHeartbeats 2000000 in
theorem cs_b3 (C : LCx p l s m args meth c dC dI ad adV cy cL ob b L xs) (hS : LwS s dC dI ad cy cL ob σ f H locs) (hik : i + 4 ≤ L) (hl : lv_has ls 7 (lvL ad ob b i)) {jc jm mL iw im P : Nat} {c1 : Int32} {y : MethodName} {bytes : ByteArray} {hh : List (Nat × Nat × Nat × Nat)} (hOK : ∀ (y1 y2 y3 : Int32), OKi jc jm [.inl y1, .inl y2, .inl y3] c1 σ) (hjc : jc < nMt) (hjm : jm < nMt) (hac : iNa jc = 4) (ham : iNa jm = 4) (hkm : iKd jm = 7) (hsm : iStt jm = false) (hlm : Cond.methodLink RL im (iY jm) ∈ tw3) (hRm : iFr jm + 1 ≤ 15 ∧ 8 + (iMl jm + 11) + iLo jm ≤ 584)
    (hcw : Cond.codeWith y bytes mL (some .int) hh ∈ tw3) (hst : Cond.static y ∈ tw3) (hlk : Cond.methodLink RL iw y ∈ tw3) (hin : Cond.initialized y.cls ∈ tw3) (hy : y.cls ≠ "java/lang/invoke/MethodHandle" ∧ y.cls ≠ "java/lang/invoke/VarHandle" ∧ (parseMethodDescriptor y.desc).map (fun d => d.parameters.length) = some 5) (hmL : mL ≤ 6) (hW : ∀ (y1 y2 y3 : Int32), WSp l dC dI ad adV cy cL ob y bytes mL hh jc c1 Int32.toInt64 [.inl y1, .inl y2, .inl y3] [.ref (ad 6 0), .int y1, .int y2, .int y3, .ref ob])
    (hd : ∀ q ∈ sh_b3 P iw im, decode code q.1 = .ok q.2) (hdT : ∀ q ∈ tlI (P + 47), decode code q.1 = .ok q.2) (hf : cells + 1 ≤ room_1.cells ∧ slots + 6 ≤ room_1.slots) (kk : LK p l e s m args below meth c dC dI ad cy cL ob b i Q cells slots) : W p l e room_1 s m args below meth c H locs cells slots Q (F0 m P ls []) := by
  have hx := C.1.1
  have hb := C.1.2.1
  have hI : wI ad := C.2.2.2.2.2.2.2.2.2.2.2.1
  have hlst : l.stackTraces = false := C.2.2.2.2.2.2.2.2.2.2.2.2
  have d0 : decode code (P) = .ok (.aload_n 1, 1) := hd (P, .aload_n 1, 1) (List.mem_of_getElem? (i := 0) rfl)
  have d1 : decode code (P + 1) = .ok (.aload_n 0, 1) := hd (P + 1, .aload_n 0, 1) (List.mem_of_getElem? (i := 1) rfl)
  have d2 : decode code (P + 2) = .ok (.iload 4, 2) := hd (P + 2, .iload 4, 2) (List.mem_of_getElem? (i := 2) rfl)
  have d4 : decode code (P + 4) = .ok (.iconst 1, 1) := hd (P + 4, .iconst 1, 1) (List.mem_of_getElem? (i := 3) rfl)
  have d5 : decode code (P + 5) = .ok (.iadd, 1) := hd (P + 5, .iadd, 1) (List.mem_of_getElem? (i := 4) rfl)
  have d6 : decode code (P + 6) = .ok (.iaload, 1) := hd (P + 6, .iaload, 1) (List.mem_of_getElem? (i := 5) rfl)
  have d7 : decode code (P + 7) = .ok (.aload_n 0, 1) := hd (P + 7, .aload_n 0, 1) (List.mem_of_getElem? (i := 6) rfl)
  have d8 : decode code (P + 8) = .ok (.iload 4, 2) := hd (P + 8, .iload 4, 2) (List.mem_of_getElem? (i := 7) rfl)
  have d10 : decode code (P + 10) = .ok (.iconst 2, 1) := hd (P + 10, .iconst 2, 1) (List.mem_of_getElem? (i := 8) rfl)
  have d11 : decode code (P + 11) = .ok (.iadd, 1) := hd (P + 11, .iadd, 1) (List.mem_of_getElem? (i := 9) rfl)
  have d12 : decode code (P + 12) = .ok (.iaload, 1) := hd (P + 12, .iaload, 1) (List.mem_of_getElem? (i := 10) rfl)
  have d13 : decode code (P + 13) = .ok (.aload_n 0, 1) := hd (P + 13, .aload_n 0, 1) (List.mem_of_getElem? (i := 11) rfl)
  have d14 : decode code (P + 14) = .ok (.iload 4, 2) := hd (P + 14, .iload 4, 2) (List.mem_of_getElem? (i := 12) rfl)
  have d16 : decode code (P + 16) = .ok (.iconst 3, 1) := hd (P + 16, .iconst 3, 1) (List.mem_of_getElem? (i := 13) rfl)
  have d17 : decode code (P + 17) = .ok (.iadd, 1) := hd (P + 17, .iadd, 1) (List.mem_of_getElem? (i := 14) rfl)
  have d18 : decode code (P + 18) = .ok (.iaload, 1) := hd (P + 18, .iaload, 1) (List.mem_of_getElem? (i := 15) rfl)
  have d19 : decode code (P + 19) = .ok (.aload_n 3, 1) := hd (P + 19, .aload_n 3, 1) (List.mem_of_getElem? (i := 16) rfl)
  have d20 : decode code (P + 20) = .ok (.invokestatic iw, 3) := hd (P + 20, .invokestatic iw, 3) (List.mem_of_getElem? (i := 17) rfl)
  have d23 : decode code (P + 23) = .ok (.istore 5, 2) := hd (P + 23, .istore 5, 2) (List.mem_of_getElem? (i := 18) rfl)
  have d25 : decode code (P + 25) = .ok (.aload_n 2, 1) := hd (P + 25, .aload_n 2, 1) (List.mem_of_getElem? (i := 19) rfl)
  have d26 : decode code (P + 26) = .ok (.aload_n 0, 1) := hd (P + 26, .aload_n 0, 1) (List.mem_of_getElem? (i := 20) rfl)
  have d27 : decode code (P + 27) = .ok (.iload 4, 2) := hd (P + 27, .iload 4, 2) (List.mem_of_getElem? (i := 21) rfl)
  have d29 : decode code (P + 29) = .ok (.iconst 1, 1) := hd (P + 29, .iconst 1, 1) (List.mem_of_getElem? (i := 22) rfl)
  have d30 : decode code (P + 30) = .ok (.iadd, 1) := hd (P + 30, .iadd, 1) (List.mem_of_getElem? (i := 23) rfl)
  have d31 : decode code (P + 31) = .ok (.iaload, 1) := hd (P + 31, .iaload, 1) (List.mem_of_getElem? (i := 24) rfl)
  have d32 : decode code (P + 32) = .ok (.aload_n 0, 1) := hd (P + 32, .aload_n 0, 1) (List.mem_of_getElem? (i := 25) rfl)
  have d33 : decode code (P + 33) = .ok (.iload 4, 2) := hd (P + 33, .iload 4, 2) (List.mem_of_getElem? (i := 26) rfl)
  have d35 : decode code (P + 35) = .ok (.iconst 2, 1) := hd (P + 35, .iconst 2, 1) (List.mem_of_getElem? (i := 27) rfl)
  have d36 : decode code (P + 36) = .ok (.iadd, 1) := hd (P + 36, .iadd, 1) (List.mem_of_getElem? (i := 28) rfl)
  have d37 : decode code (P + 37) = .ok (.iaload, 1) := hd (P + 37, .iaload, 1) (List.mem_of_getElem? (i := 29) rfl)
  have d38 : decode code (P + 38) = .ok (.aload_n 0, 1) := hd (P + 38, .aload_n 0, 1) (List.mem_of_getElem? (i := 30) rfl)
  have d39 : decode code (P + 39) = .ok (.iload 4, 2) := hd (P + 39, .iload 4, 2) (List.mem_of_getElem? (i := 31) rfl)
  have d41 : decode code (P + 41) = .ok (.iconst 3, 1) := hd (P + 41, .iconst 3, 1) (List.mem_of_getElem? (i := 32) rfl)
  have d42 : decode code (P + 42) = .ok (.iadd, 1) := hd (P + 42, .iadd, 1) (List.mem_of_getElem? (i := 33) rfl)
  have d43 : decode code (P + 43) = .ok (.iaload, 1) := hd (P + 43, .iaload, 1) (List.mem_of_getElem? (i := 34) rfl)
  have d44 : decode code (P + 44) = .ok (.invokevirtual im, 3) := hd (P + 44, .invokevirtual im, 3) (List.mem_of_getElem? (i := 35) rfl)
  refine lv_aload_n hx hb d0 rfl (lv_at hl 2 rfl) ?_
  refine l_arg C hS (k := 1) (v := 1) rfl rfl (by omega) (lv_at hl 1 rfl) (lv_at hl 0 rfl) d1 d2 d4 d5 d6 ?_
  refine l_arg C hS (k := 2) (v := 2) rfl rfl (by omega) (lv_at hl 1 rfl) (lv_at hl 0 rfl) d7 d8 d10 d11 d12 ?_
  refine l_arg C hS (k := 3) (v := 3) rfl rfl (by omega) (lv_at hl 1 rfl) (lv_at hl 0 rfl) d13 d14 d16 d17 d18 ?_
  refine lv_aload_n hx hb d19 rfl (lv_at hl 4 rfl) ?_
  rcases (hOK (xs (i + 1)) (xs (i + 2)) (xs (i + 3))).met (dC := dC) (dI := dI) (ad := ad) (cy := cy) (adV := adV) hI hlst hjc hjm (by rw [hac]; rfl) (by rw [ham]; rfl) (by
    intro x hx9
    simp only [List.mem_cons, List.not_mem_nil, or_false] at hx9
    rcases hx9 with rfl | rfl | rfl
    · trivial
    · trivial
    · trivial) with ⟨v, σ1, σ2, hc, hm, h5, hi2⟩ | ⟨v, x, σ1, σ2, hc, hm, hi2, hthr⟩
  · refine l_wrap C hS ((hW (xs (i + 1)) (xs (i + 2)) (xs (i + 3)) σ f).1 v σ1 hc) hcw hst hlk hin hy hmL hl.1 d20 rfl hf (fun H locs hS => ?_)
    refine lv_istore (lv' := (5, .int 0) :: lvL ad ob b i) hx hb d23 hl (by decide) rfl (fun ls hl => ?_)
    refine lv_aload_n hx hb d25 rfl (lv_at hl 4 rfl) ?_
    refine l_arg C hS (k := 1) (v := 1) rfl rfl (by omega) (lv_at hl 2 rfl) (lv_at hl 1 rfl) d26 d27 d29 d30 d31 ?_
    refine l_arg C hS (k := 2) (v := 2) rfl rfl (by omega) (lv_at hl 2 rfl) (lv_at hl 1 rfl) d32 d33 d35 d36 d37 ?_
    refine l_arg C hS (k := 3) (v := 3) rfl rfl (by omega) (lv_at hl 2 rfl) (lv_at hl 1 rfl) d38 d39 d41 d42 d43 ?_
    refine l_obj C hS (as := [.inl (xs (i + 1)), .inl (xs (i + 2)), .inl (xs (i + 3))]) (rest := []) hjm hsm hlm (by rw [ham]; rfl) hkm (by decide) hm hRm hl.1 (Nat.zero_le _) d44 rfl hf (fun H locs hS => ?_)
    refine l_tail C hS h5 (fun _ => rfl) hdT hl hf (fun H locs ls hS hl => ?_)
    exact kk H locs ls σ2 _ hi2 hS hl
  · refine l_wrap C hS ((hW (xs (i + 1)) (xs (i + 2)) (xs (i + 3)) σ f).2 x σ1 (σ2 7 0 5) hc hthr) hcw hst hlk hin hy hmL hl.1 d20 rfl hf (fun H locs hS => ?_)
    refine lv_istore (lv' := (5, .int (σ2 7 0 5)) :: lvL ad ob b i) hx hb d23 hl (by decide) rfl (fun ls hl => ?_)
    refine lv_aload_n hx hb d25 rfl (lv_at hl 4 rfl) ?_
    refine l_arg C hS (k := 1) (v := 1) rfl rfl (by omega) (lv_at hl 2 rfl) (lv_at hl 1 rfl) d26 d27 d29 d30 d31 ?_
    refine l_arg C hS (k := 2) (v := 2) rfl rfl (by omega) (lv_at hl 2 rfl) (lv_at hl 1 rfl) d32 d33 d35 d36 d37 ?_
    refine l_arg C hS (k := 3) (v := 3) rfl rfl (by omega) (lv_at hl 2 rfl) (lv_at hl 1 rfl) d38 d39 d41 d42 d43 ?_
    refine l_obj C hS (as := [.inl (xs (i + 1)), .inl (xs (i + 2)), .inl (xs (i + 3))]) (rest := []) hjm hsm hlm (by rw [ham]; rfl) hkm (by decide) hm hRm hl.1 (Nat.zero_le _) d44 rfl hf (fun H locs hS => ?_)
    refine l_tail C hS rfl (fun h9 => absurd h9 (thr_ne hthr)) hdT hl hf (fun H locs ls hS hl => ?_)
    exact kk H locs ls σ2 _ hi2 hS hl
end SHP
