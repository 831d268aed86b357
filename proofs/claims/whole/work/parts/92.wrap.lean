/-! ===== the law's wrappers: shapes (written by mk92.py) ===== -/
theorem Met.ofWH {l : Launch} {y : MethodName} {ws ws' : List Cond} {rm : Room} {Pc : Array Value → State → Prop} {Qc : Array Value → State → Outcome → State → Prop} {mc ms : Nat} {free : Addr → Prop} {cc : ByteArray} {maxL : Nat} {ret : Option FieldType} {hh : List (Nat × Nat × Nat × Nat)}
    (hy : plainName y.cls = true) (hw : ws = Cond.codeWith y cc maxL ret hh :: ws')
    (body : ∀ p e s m args below meth c s₁, BodyLoose p l y (headSpec ws rm) cc maxL ret e s m args below meth c s₁ → c.maxLocals = maxL → Pc args s →
      W p l e (headSpec ws rm).room s m args below meth c s.heap [] 0 0 (MQ below Qc args s mc ms free) (entryFrame m args maxL)) : Met l y ws rm Pc Qc mc ms free := by
  refine MetFree.of_bodyS (code := cc) (maxLocals := maxL) (ret := ret) hy ?_ ?_
  · intro args s m h hn
    obtain ⟨m9, meth, c, hn9, h1, h2, h3, h4, -, h5, h6, -⟩ := Cond.codeWith_spec (atoms_spec (ws := ws) h _ (by rw [hw]; exact List.mem_cons_self))
    cases hn.symm.trans hn9
    exact ⟨meth, c, h1, h2, h3, h4, h5, h6⟩
  · intro p e s m args below meth c s₁ B hml hP _
    have hh0 : s₁.heap = s.heap := by rw [B.state]; rfl
    obtain ⟨t, a1, o, b1, b2, b3⟩ := body p e s m args below meth c s₁ B hml hP s₁ hh0 (Stand.of_body B)
    exact ⟨t, o, a1, b1, b2, b3⟩
abbrev eL (cL : ClassId) (f : Nat → Int64) : va_E := .inl (cL, 1, .inr (.inl f))
def wX (dC : Nat → ClassId) (dI : Nat → Nat → Nat) (ad : Nat → Nat → Nat) (adV : Nat → Nat) (cy : Nat → ClassId) (cL : ClassId) (ob : Nat) (σ : iM) (f : Nat → Int64) (U : State) : Prop := va_P (dC, dI) vwCl (wW ad cy σ) U.heap ∧ va_at (dC, dI) vwCl (ob, eL cL f) U.heap ∧ va_K (dC, dI) vwCl (wT cy) U ∧ va_K (dC, dI) vwCl [(cL, .long)] U ∧ EXs ad adV U ∧ CX U
theorem wX.blind {dC : Nat → ClassId} {dI : Nat → Nat → Nat} {ad : Nat → Nat → Nat} {adV : Nat → Nat} {cy : Nat → ClassId} {cL : ClassId} {ob : Nat} {σ : iM} {f : Nat → Int64} {av : List Value} : FrameBlind (va_Pc av (wX dC dI ad adV cy cL ob σ f)) := fun a U g mk q => ⟨q.1, q.2.1, q.2.2.1, va_K.moved (u := U) (U := U.calling g mk a) (Vm.Alike.refl U.vm) q.2.2.2.1, va_K.moved (u := U) (U := U.calling g mk a) (Vm.Alike.refl U.vm) q.2.2.2.2.1, q.2.2.2.2.2.1.call g mk a, q.2.2.2.2.2.2.move (State.WarmedH.refl U)⟩
def wB (ad : Nat → Nat → Nat) (ob : Nat) : Nat → Prop := fun q => wA ad q ∨ q = ob
def wY (dC : Nat → ClassId) (dI : Nat → Nat → Nat) (ad : Nat → Nat → Nat) (cy : Nat → ClassId) (cL : ClassId) (ob : Nat) (r : Int32) (σ : iM) (f : Nat → Int64) : Array Value → State → Outcome → State → Prop := fun _ st o t => o = .returned (some (.int r)) ∧ va_P (dC, dI) vwCl (wW ad cy σ) t.heap ∧ va_at (dC, dI) vwCl (ob, eL cL f) t.heap ∧ va_F (wB ad ob) st t
abbrev wRm : Room := { frames := 13, cells := 1, slots := 6, locals := 559 }
/-- a boolean as a long -/
def lz (v : Int32) : Int64 := if v = 0 then 0 else 1
theorem o_last {p : Program} {l : Launch} {e : Env} {R : Room} {s : State} {m : MethodId} {args : Array Value} {below : List Frame} {meth : Method} {c : Code} {H : Heap} {locs : List Loc} {cells slots : Nat} {Q : State → Prop} {cc : ByteArray} {pc : Nat} {ls : Array Slot} {rest : List Value} {D : va_G} {cL : ClassId} {ob : Nat} {f : Nat → Int64} {x : Int64}
    (hx : p.tables.exec = Jvm.exec) (hb : c.code = cc) (hK : va_K D vwCl [(cL, .long)] s) (hO : va_at D vwCl (ob, eL cL f) H) (hdg : decode cc pc = .ok (.lastore, 1))
    (kk : ∀ H1 : Heap, va_at D vwCl (ob, eL cL (vp_updL f 0 x)) H1 → H1.size = H.size → (∀ q, q ≠ ob → H1[q]? = H[q]?) → W p l e R s m args below meth c H1 (locs ++ [⟨ob, 0⟩]) cells slots Q (F0 m (pc + 1) ls rest)) : W p l e R s m args below meth c H locs cells slots Q (F0 m pc ls (.long x :: .int 0 :: .ref ob :: rest)) := by
  refine W.last hx hb hO ((hK.2 0 _ rfl).1 1 (fun j => .long (f j))) (fun q => by cases q) (by show ¬ ((0 : Int32) < 0 ∨ (arrV _ _ _).slots.size ≤ _); rw [arrV_size]; exact (show ¬ ((0 : Int32) < 0 ∨ 1 ≤ Int32.toNatClampNeg 0) by decide)) rfl rfl hdg fun H1 e z oq => ?_
  refine kk H1 ?_ z oq
  show H1[ob]? = some (vp_cell _ _)
  rw [e]
  rw [vp_cell_l, vp_cell_l, arrV_store]
  congr 2
  funext q
  by_cases hq : q = 0
  · subst hq
    simp [updV, vp_updL]
  · simp [updV, vp_updL, hq]
theorem wW_kept {dC : Nat → ClassId} {dI : Nat → Nat → Nat} {ad : Nat → Nat → Nat} {cy : Nat → ClassId} {σ : iM} {H H1 : Heap} {ob : Nat} (hP : va_P (dC, dI) vwCl (wW ad cy σ) H) (hob : ¬ wA ad ob) (h : ∀ q, q ≠ ob → H1[q]? = H[q]?) : va_P (dC, dI) vwCl (wW ad cy σ) H1 := hP.kept (fun k q hq => by
  obtain ⟨k9, i9, -, h1, h2, rfl⟩ := wW_at hq
  exact h _ (fun e9 => hob ⟨k9, i9, h1, h2, e9.symm⟩))
set_option maxHeartbeats 2000000 in
theorem wr11 {l : Launch} {dC : Nat → ClassId} {dI : Nat → Nat → Nat} {ad : Nat → Nat → Nat} {adV : Nat → Nat} {cy : Nat → ClassId} {cL : ClassId} {ob : Nat} (hob : ¬ wA ad ob) {y : MethodName} {cc : ByteArray} {jc idx kt x0 : Nat} (hy : plainName y.cls = true) (hyc : y.cls = RL) (hjc : jc < nMt) (hkd : iKd jc = 6) (hstt : iStt jc = false) (hna : iNa jc = 2) (hlink : Cond.methodLink RL idx (iY jc) ∈ tw3) (hR : iFr jc + 1 ≤ 13 ∧ 8 + (iMl jc + 11) + iLo jc ≤ 559) (hk0 : kt ≠ 0) (hct : Cond.classLink RL kt (exN x0) ∈ tw3) (hcx : ∀ U, CX U → va_Nw (.castable (exN x0) (exN x0)) U)
    (d0 : decode cc 0 = .ok (.aload_n 2, 1)) (d1 : decode cc 1 = .ok (.iconst 0, 1)) (d2 : decode cc 2 = .ok (.aload_n 0, 1)) (d3 : decode cc 3 = .ok (.iload_n 1, 1)) (d4 : decode cc 4 = .ok (.invokevirtual idx, 3)) (d7 : decode cc 7 = .ok (.i2l, 1)) (d8 : decode cc 8 = .ok (.lastore, 1)) (d9 : decode cc 9 = .ok (.goto 6, 3)) (d12 : decode cc 12 = .ok (.astore_n 3, 1)) (d13 : decode cc 13 = .ok (.iconst 1, 1)) (d14 : decode cc 14 = .ok (.ireturn, 1)) (d15 : decode cc 15 = .ok (.iconst 0, 1)) (d16 : decode cc 16 = .ok (.ireturn, 1)) (x1 : Int32) (σ : iM) (f : Nat → Int64) :
    (∀ v σ1, iMet l dC dI ad cy (EXs ad adV) jc (X :: [.inl x1]) σ (some (.inl v)) σ1 → Met l y (.codeWith y cc 4 (some .int) [(0, 9, 12, kt)] :: tw3) wRm (va_Pc [.ref (ad 6 0), .int x1, .ref ob] (wX dC dI ad adV cy cL ob σ f)) (wY dC dI ad cy cL ob 0 σ1 (vp_updL f 0 (v.toInt64))) 1 6 (wB ad ob)) ∧
    (∀ σ1, iMetX l dC dI ad cy (EXs ad adV) jc (X :: [.inl x1]) σ x0 σ1 → Met l y (.codeWith y cc 4 (some .int) [(0, 9, 12, kt)] :: tw3) wRm (va_Pc [.ref (ad 6 0), .int x1, .ref ob] (wX dC dI ad adV cy cL ob σ f)) (wY dC dI ad cy cL ob 1 σ1 f) 1 6 (wB ad ob)) := by
  constructor
  · intro v σ1 hM
    refine Met.ofWH (cc := cc) (maxL := 4) (ret := some .int) (hh := [(0, 9, 12, kt)]) hy rfl ?_
    intro p e s m args below meth c s₁ B hml hv
    obtain ⟨rfl, hP, hO, hK, hKl, hE, hC⟩ := hv
    have hx := B.exec
    have hb := B.bytes
    have hr := B.returns
    have hts := atoms_spec (ws := .codeWith y cc 4 (some .int) [(0, 9, 12, kt)] :: tw3) B.pre
    have hown : s.vm.findClass RL = some m.cls := by rw [← hyc]; exact findClass_of_methodNamed B.named
    have hlocks := B.notSynchronized
    have hl := lv_entry ([.ref (ad 6 0), .int x1, .ref ob]) (n := 4) (Nat.le_of_ble_eq_true rfl)
    rw [lg_entry_eq]
    generalize (lg_sl ([.ref (ad 6 0), .int x1, .ref ob]) ++ List.replicate (4 - (lg_sl ([.ref (ad 6 0), .int x1, .ref ob])).length) Slot.unset).toArray = ls at hl ⊢
    have hl : lv_has ls 4 [(0, .ref (ad 6 0)), (1, .int x1), (2, .ref ob)] := hl
    refine lv_aload_n hx hb d0 rfl (lv_at hl 2 rfl) ?_
    refine lv_iconst (v := 0) hx hb d1 rfl ?_
    refine lv_aload_n hx hb d2 rfl (lv_at hl 0 rfl) ?_
    refine lv_iload_n hx hb d3 rfl (lv_at hl 1 rfl) ?_
    refine l_call (as := [.inl x1]) (i0 := 0) (rest := [.int 0, .ref ob]) ⟨hx, hb, hml, hown, hts⟩ (fun w h9 => List.mem_cons_of_mem _ h9) hjc hstt hlink (by rw [hna]; rfl) (by rw [hkd]; decide) (by rw [hkd]; exact hM) hP hK (fun U hU hW => hE.move (locs := []) hW (by rw [hU]; exact va_S.rf)) hR hl.1 (Nat.le_of_ble_eq_true rfl) d4 (by rw [hkd]; rfl) ⟨Nat.le_of_ble_eq_true rfl, Nat.le_of_ble_eq_true rfl⟩ (fun H L hP1 hz hk hL => ?_)
    have hO1 : va_at (dC, dI) vwCl (ob, eL cL f) H := hO.kept (hk ob hO.lt hob)
    refine lv_i2l (v := v.toInt64) hx hb d7 rfl ?_
    refine o_last hx hb hKl hO1 d8 (fun H2 hO2 hz2 hk2 => ?_)
    refine lv_goto (tgt := 15) hx hb d9 (by decide) ?_
    refine lv_iconst (v := 0) hx hb d15 rfl ?_
    refine W.widen (k := 1) (n := 6) (by omega) (by omega) ?_
    exact W.iret hx hb hr (fun t ht hW => ⟨rfl, by rw [ht]; exact wW_kept hP1 hob hk2, by rw [ht]; exact hO2, by rw [ht, hz2]; exact hz, fun q h1 h2 => by rw [ht, hk2 q (fun h9 => h2 (Or.inr h9))]; exact hk q h1 (fun h9 => h2 (Or.inl h9))⟩) (fun z hz9 => (List.mem_append.mp hz9).elim (fun h9 => Or.inl (hL z h9)) (fun h9 => Or.inr (by rw [List.mem_singleton.mp h9]))) d16
  · intro σ1 hM
    refine Met.ofWH (cc := cc) (maxL := 4) (ret := some .int) (hh := [(0, 9, 12, kt)]) hy rfl ?_
    intro p e s m args below meth c s₁ B hml hv
    obtain ⟨rfl, hP, hO, hK, hKl, hE, hC⟩ := hv
    have hx := B.exec
    have hb := B.bytes
    have hr := B.returns
    have hts := atoms_spec (ws := .codeWith y cc 4 (some .int) [(0, 9, 12, kt)] :: tw3) B.pre
    have hown : s.vm.findClass RL = some m.cls := by rw [← hyc]; exact findClass_of_methodNamed B.named
    have hlocks := B.notSynchronized
    have hl := lv_entry ([.ref (ad 6 0), .int x1, .ref ob]) (n := 4) (Nat.le_of_ble_eq_true rfl)
    rw [lg_entry_eq]
    generalize (lg_sl ([.ref (ad 6 0), .int x1, .ref ob]) ++ List.replicate (4 - (lg_sl ([.ref (ad 6 0), .int x1, .ref ob])).length) Slot.unset).toArray = ls at hl ⊢
    have hl : lv_has ls 4 [(0, .ref (ad 6 0)), (1, .int x1), (2, .ref ob)] := hl
    have htab : c.exceptionTable.toList = tableOf [(0, 9, 12, kt)] := vx_table (x := y) B (hts _ List.mem_cons_self)
    refine lv_aload_n hx hb d0 rfl (lv_at hl 2 rfl) ?_
    refine lv_iconst (v := 0) hx hb d1 rfl ?_
    refine lv_aload_n hx hb d2 rfl (lv_at hl 0 rfl) ?_
    refine lv_iload_n hx hb d3 rfl (lv_at hl 1 rfl) ?_
    refine l_callX (as := [.inl x1]) (i0 := 0) (rest := [.int 0, .ref ob]) ⟨hx, hb, hml, hown, hts⟩ (fun w h9 => List.mem_cons_of_mem _ h9) hjc hstt hlink (by rw [hna]; rfl) (by rw [hkd]; decide) (by rw [hkd]; exact hM) hP hK (fun U hU hW => hE.move (locs := []) hW (by rw [hU]; exact va_S.rf)) hR hl.1 (Nat.le_of_ble_eq_true rfl) d4 (by rw [hkd]; rfl) ⟨Nat.le_of_ble_eq_true rfl, Nat.le_of_ble_eq_true rfl⟩ (fun q ce H L hP1 hz hk hL hce hcv hcl => ?_)
    refine vx_catch (own := RL) (name := exN x0) (E := exN x0) hown [] ⟨0, 9, 12, kt⟩ [] (by rw [htab]; rfl) (fun z h9 => nomatch h9) rfl hk0 (hts _ (List.mem_cons_of_mem _ hct)) (va_Nw.use rfl (hcx s hC)) hce hcv hcl ?_
    refine lv_astore_n (lv' := [(3, .ref q), (0, .ref (ad 6 0)), (1, .int x1), (2, .ref ob)]) hx hb d12 rfl hl (by decide) rfl (fun ls hl => ?_)
    refine lv_iconst (v := 1) hx hb d13 rfl ?_
    exact W.iret hx hb hr (fun t ht hW => ⟨rfl, by rw [ht]; exact hP1, by rw [ht]; exact hO.kept (hk ob hO.lt hob), by rw [ht]; exact hz, fun q h1 h2 => by rw [ht]; exact hk q h1 (fun h9 => h2 (Or.inl h9))⟩) (fun z hz9 => Or.inl (hL z hz9)) d14
set_option maxHeartbeats 2000000 in
theorem wr32 {l : Launch} {dC : Nat → ClassId} {dI : Nat → Nat → Nat} {ad : Nat → Nat → Nat} {adV : Nat → Nat} {cy : Nat → ClassId} {cL : ClassId} {ob : Nat} (hob : ¬ wA ad ob) {y : MethodName} {cc : ByteArray} {jc idx : Nat} (hy : plainName y.cls = true) (hyc : y.cls = RL) (hjc : jc < nMt) (hkd : iKd jc = 6) (hstt : iStt jc = false) (hna : iNa jc = 4) (hlink : Cond.methodLink RL idx (iY jc) ∈ tw3) (hR : iFr jc + 1 ≤ 13 ∧ 8 + (iMl jc + 11) + iLo jc ≤ 559)
    (d0 : decode cc 0 = .ok (.aload 4, 2)) (d2 : decode cc 2 = .ok (.iconst 0, 1)) (d3 : decode cc 3 = .ok (.aload_n 0, 1)) (d4 : decode cc 4 = .ok (.iload_n 1, 1)) (d5 : decode cc 5 = .ok (.iload_n 2, 1)) (d6 : decode cc 6 = .ok (.iload_n 3, 1)) (d7 : decode cc 7 = .ok (.invokevirtual idx, 3)) (d10 : decode cc 10 = .ok (.i2l, 1)) (d11 : decode cc 11 = .ok (.lastore, 1)) (d12 : decode cc 12 = .ok (.goto 11, 3)) (d15 : decode cc 15 = .ok (.astore 5, 2)) (d17 : decode cc 17 = .ok (.iconst 1, 1)) (d18 : decode cc 18 = .ok (.ireturn, 1)) (d19 : decode cc 19 = .ok (.astore 5, 2)) (d21 : decode cc 21 = .ok (.iconst 2, 1)) (d22 : decode cc 22 = .ok (.ireturn, 1)) (d23 : decode cc 23 = .ok (.iconst 0, 1)) (d24 : decode cc 24 = .ok (.ireturn, 1)) (x1 x2 x3 : Int32) (σ : iM) (f : Nat → Int64) :
    (∀ v σ1, iMet l dC dI ad cy (EXs ad adV) jc (X :: [.inl x1, .inl x2, .inl x3]) σ (some (.inl v)) σ1 → Met l y (.codeWith y cc 6 (some .int) [(0, 12, 15, 18), (0, 12, 19, 13)] :: tw3) wRm (va_Pc [.ref (ad 6 0), .int x1, .int x2, .int x3, .ref ob] (wX dC dI ad adV cy cL ob σ f)) (wY dC dI ad cy cL ob 0 σ1 (vp_updL f 0 (v.toInt64))) 1 6 (wB ad ob)) ∧
    (∀ x σ1, iMetX l dC dI ad cy (EXs ad adV) jc (X :: [.inl x1, .inl x2, .inl x3]) σ x σ1 → (x = 0 ∨ x = 1) → Met l y (.codeWith y cc 6 (some .int) [(0, 12, 15, 18), (0, 12, 19, 13)] :: tw3) wRm (va_Pc [.ref (ad 6 0), .int x1, .int x2, .int x3, .ref ob] (wX dC dI ad adV cy cL ob σ f)) (wY dC dI ad cy cL ob (if x = 0 then 1 else 2) σ1 f) 1 6 (wB ad ob)) := by
  constructor
  · intro v σ1 hM
    refine Met.ofWH (cc := cc) (maxL := 6) (ret := some .int) (hh := [(0, 12, 15, 18), (0, 12, 19, 13)]) hy rfl ?_
    intro p e s m args below meth c s₁ B hml hv
    obtain ⟨rfl, hP, hO, hK, hKl, hE, hC⟩ := hv
    have hx := B.exec
    have hb := B.bytes
    have hr := B.returns
    have hts := atoms_spec (ws := .codeWith y cc 6 (some .int) [(0, 12, 15, 18), (0, 12, 19, 13)] :: tw3) B.pre
    have hown : s.vm.findClass RL = some m.cls := by rw [← hyc]; exact findClass_of_methodNamed B.named
    have hlocks := B.notSynchronized
    have hl := lv_entry ([.ref (ad 6 0), .int x1, .int x2, .int x3, .ref ob]) (n := 6) (Nat.le_of_ble_eq_true rfl)
    rw [lg_entry_eq]
    generalize (lg_sl ([.ref (ad 6 0), .int x1, .int x2, .int x3, .ref ob]) ++ List.replicate (6 - (lg_sl ([.ref (ad 6 0), .int x1, .int x2, .int x3, .ref ob])).length) Slot.unset).toArray = ls at hl ⊢
    have hl : lv_has ls 6 [(0, .ref (ad 6 0)), (1, .int x1), (2, .int x2), (3, .int x3), (4, .ref ob)] := hl
    refine lv_aload hx hb d0 (lv_at hl 4 rfl) ?_
    refine lv_iconst (v := 0) hx hb d2 rfl ?_
    refine lv_aload_n hx hb d3 rfl (lv_at hl 0 rfl) ?_
    refine lv_iload_n hx hb d4 rfl (lv_at hl 1 rfl) ?_
    refine lv_iload_n hx hb d5 rfl (lv_at hl 2 rfl) ?_
    refine lv_iload_n hx hb d6 rfl (lv_at hl 3 rfl) ?_
    refine l_call (as := [.inl x1, .inl x2, .inl x3]) (i0 := 0) (rest := [.int 0, .ref ob]) ⟨hx, hb, hml, hown, hts⟩ (fun w h9 => List.mem_cons_of_mem _ h9) hjc hstt hlink (by rw [hna]; rfl) (by rw [hkd]; decide) (by rw [hkd]; exact hM) hP hK (fun U hU hW => hE.move (locs := []) hW (by rw [hU]; exact va_S.rf)) hR hl.1 (Nat.le_of_ble_eq_true rfl) d7 (by rw [hkd]; rfl) ⟨Nat.le_of_ble_eq_true rfl, Nat.le_of_ble_eq_true rfl⟩ (fun H L hP1 hz hk hL => ?_)
    have hO1 : va_at (dC, dI) vwCl (ob, eL cL f) H := hO.kept (hk ob hO.lt hob)
    refine lv_i2l (v := v.toInt64) hx hb d10 rfl ?_
    refine o_last hx hb hKl hO1 d11 (fun H2 hO2 hz2 hk2 => ?_)
    refine lv_goto (tgt := 23) hx hb d12 (by decide) ?_
    refine lv_iconst (v := 0) hx hb d23 rfl ?_
    refine W.widen (k := 1) (n := 6) (by omega) (by omega) ?_
    exact W.iret hx hb hr (fun t ht hW => ⟨rfl, by rw [ht]; exact wW_kept hP1 hob hk2, by rw [ht]; exact hO2, by rw [ht, hz2]; exact hz, fun q h1 h2 => by rw [ht, hk2 q (fun h9 => h2 (Or.inr h9))]; exact hk q h1 (fun h9 => h2 (Or.inl h9))⟩) (fun z hz9 => (List.mem_append.mp hz9).elim (fun h9 => Or.inl (hL z h9)) (fun h9 => Or.inr (by rw [List.mem_singleton.mp h9]))) d24
  · intro x σ1 hM hx01
    refine Met.ofWH (cc := cc) (maxL := 6) (ret := some .int) (hh := [(0, 12, 15, 18), (0, 12, 19, 13)]) hy rfl ?_
    intro p e s m args below meth c s₁ B hml hv
    obtain ⟨rfl, hP, hO, hK, hKl, hE, hC⟩ := hv
    have hx := B.exec
    have hb := B.bytes
    have hr := B.returns
    have hts := atoms_spec (ws := .codeWith y cc 6 (some .int) [(0, 12, 15, 18), (0, 12, 19, 13)] :: tw3) B.pre
    have hown : s.vm.findClass RL = some m.cls := by rw [← hyc]; exact findClass_of_methodNamed B.named
    have hlocks := B.notSynchronized
    have hl := lv_entry ([.ref (ad 6 0), .int x1, .int x2, .int x3, .ref ob]) (n := 6) (Nat.le_of_ble_eq_true rfl)
    rw [lg_entry_eq]
    generalize (lg_sl ([.ref (ad 6 0), .int x1, .int x2, .int x3, .ref ob]) ++ List.replicate (6 - (lg_sl ([.ref (ad 6 0), .int x1, .int x2, .int x3, .ref ob])).length) Slot.unset).toArray = ls at hl ⊢
    have hl : lv_has ls 6 [(0, .ref (ad 6 0)), (1, .int x1), (2, .int x2), (3, .int x3), (4, .ref ob)] := hl
    have htab : c.exceptionTable.toList = tableOf [(0, 12, 15, 18), (0, 12, 19, 13)] := vx_table (x := y) B (hts _ List.mem_cons_self)
    refine lv_aload hx hb d0 (lv_at hl 4 rfl) ?_
    refine lv_iconst (v := 0) hx hb d2 rfl ?_
    refine lv_aload_n hx hb d3 rfl (lv_at hl 0 rfl) ?_
    refine lv_iload_n hx hb d4 rfl (lv_at hl 1 rfl) ?_
    refine lv_iload_n hx hb d5 rfl (lv_at hl 2 rfl) ?_
    refine lv_iload_n hx hb d6 rfl (lv_at hl 3 rfl) ?_
    refine l_callX (as := [.inl x1, .inl x2, .inl x3]) (i0 := 0) (rest := [.int 0, .ref ob]) ⟨hx, hb, hml, hown, hts⟩ (fun w h9 => List.mem_cons_of_mem _ h9) hjc hstt hlink (by rw [hna]; rfl) (by rw [hkd]; decide) (by rw [hkd]; exact hM) hP hK (fun U hU hW => hE.move (locs := []) hW (by rw [hU]; exact va_S.rf)) hR hl.1 (Nat.le_of_ble_eq_true rfl) d7 (by rw [hkd]; rfl) ⟨Nat.le_of_ble_eq_true rfl, Nat.le_of_ble_eq_true rfl⟩ (fun q ce H L hP1 hz hk hL hce hcv hcl => ?_)
    rcases hx01 with rfl | rfl
    · refine vx_catch (own := RL) (name := exN 0) (E := exN 0) hown [] ⟨0, 12, 15, 18⟩ [⟨0, 12, 19, 13⟩] (by rw [htab]; rfl) (fun z h9 => nomatch h9) rfl (by decide) (hts _ (List.mem_cons_of_mem _ (w3l (i := 2) rfl))) (va_Nw.use rfl hC.1) hce hcv hcl ?_
      refine lv_astore (lv' := [(5, .ref q), (0, .ref (ad 6 0)), (1, .int x1), (2, .int x2), (3, .int x3), (4, .ref ob)]) hx hb d15 hl (by decide) rfl (fun ls hl => ?_)
      refine lv_iconst (v := 1) hx hb d17 rfl ?_
      exact W.iret hx hb hr (fun t ht hW => ⟨rfl, by rw [ht]; exact hP1, by rw [ht]; exact hO.kept (hk ob hO.lt hob), by rw [ht]; exact hz, fun q h1 h2 => by rw [ht]; exact hk q h1 (fun h9 => h2 (Or.inl h9))⟩) (fun z hz9 => Or.inl (hL z hz9)) d18
    · refine vx_catch (own := RL) (name := exN 1) (E := exN 1) hown [⟨0, 12, 15, 18⟩] ⟨0, 12, 19, 13⟩ [] (by rw [htab]; rfl) (fun z h9 => Or.inr (by rw [List.mem_singleton.mp h9]; exact ⟨by decide, exN 0, (hts _ (List.mem_cons_of_mem _ (w3l (i := 2) rfl))), hC.2.2⟩)) rfl (by decide) (hts _ (List.mem_cons_of_mem _ (w3l (i := 1) rfl))) (va_Nw.use rfl hC.2.1) hce hcv hcl ?_
      refine lv_astore (lv' := [(5, .ref q), (0, .ref (ad 6 0)), (1, .int x1), (2, .int x2), (3, .int x3), (4, .ref ob)]) hx hb d19 hl (by decide) rfl (fun ls hl => ?_)
      refine lv_iconst (v := 2) hx hb d21 rfl ?_
      exact W.iret hx hb hr (fun t ht hW => ⟨rfl, by rw [ht]; exact hP1, by rw [ht]; exact hO.kept (hk ob hO.lt hob), by rw [ht]; exact hz, fun q h1 h2 => by rw [ht]; exact hk q h1 (fun h9 => h2 (Or.inl h9))⟩) (fun z hz9 => Or.inl (hL z hz9)) d22
set_option maxHeartbeats 2000000 in
theorem wr22 {l : Launch} {dC : Nat → ClassId} {dI : Nat → Nat → Nat} {ad : Nat → Nat → Nat} {adV : Nat → Nat} {cy : Nat → ClassId} {cL : ClassId} {ob : Nat} (hob : ¬ wA ad ob) {y : MethodName} {cc : ByteArray} {jc idx : Nat} (hy : plainName y.cls = true) (hyc : y.cls = RL) (hjc : jc < nMt) (hkd : iKd jc = 6) (hstt : iStt jc = false) (hna : iNa jc = 3) (hlink : Cond.methodLink RL idx (iY jc) ∈ tw3) (hR : iFr jc + 1 ≤ 13 ∧ 8 + (iMl jc + 11) + iLo jc ≤ 559)
    (d0 : decode cc 0 = .ok (.aload_n 3, 1)) (d1 : decode cc 1 = .ok (.iconst 0, 1)) (d2 : decode cc 2 = .ok (.aload_n 0, 1)) (d3 : decode cc 3 = .ok (.iload_n 1, 1)) (d4 : decode cc 4 = .ok (.iload_n 2, 1)) (d5 : decode cc 5 = .ok (.invokevirtual idx, 3)) (d8 : decode cc 8 = .ok (.i2l, 1)) (d9 : decode cc 9 = .ok (.lastore, 1)) (d10 : decode cc 10 = .ok (.goto 11, 3)) (d13 : decode cc 13 = .ok (.astore 4, 2)) (d15 : decode cc 15 = .ok (.iconst 1, 1)) (d16 : decode cc 16 = .ok (.ireturn, 1)) (d17 : decode cc 17 = .ok (.astore 4, 2)) (d19 : decode cc 19 = .ok (.iconst 2, 1)) (d20 : decode cc 20 = .ok (.ireturn, 1)) (d21 : decode cc 21 = .ok (.iconst 0, 1)) (d22 : decode cc 22 = .ok (.ireturn, 1)) (x1 x2 : Int32) (σ : iM) (f : Nat → Int64) :
    (∀ v σ1, iMet l dC dI ad cy (EXs ad adV) jc (X :: [.inl x1, .inl x2]) σ (some (.inl v)) σ1 → Met l y (.codeWith y cc 5 (some .int) [(0, 10, 13, 18), (0, 10, 17, 13)] :: tw3) wRm (va_Pc [.ref (ad 6 0), .int x1, .int x2, .ref ob] (wX dC dI ad adV cy cL ob σ f)) (wY dC dI ad cy cL ob 0 σ1 (vp_updL f 0 (v.toInt64))) 1 6 (wB ad ob)) ∧
    (∀ x σ1, iMetX l dC dI ad cy (EXs ad adV) jc (X :: [.inl x1, .inl x2]) σ x σ1 → (x = 0 ∨ x = 1) → Met l y (.codeWith y cc 5 (some .int) [(0, 10, 13, 18), (0, 10, 17, 13)] :: tw3) wRm (va_Pc [.ref (ad 6 0), .int x1, .int x2, .ref ob] (wX dC dI ad adV cy cL ob σ f)) (wY dC dI ad cy cL ob (if x = 0 then 1 else 2) σ1 f) 1 6 (wB ad ob)) := by
  constructor
  · intro v σ1 hM
    refine Met.ofWH (cc := cc) (maxL := 5) (ret := some .int) (hh := [(0, 10, 13, 18), (0, 10, 17, 13)]) hy rfl ?_
    intro p e s m args below meth c s₁ B hml hv
    obtain ⟨rfl, hP, hO, hK, hKl, hE, hC⟩ := hv
    have hx := B.exec
    have hb := B.bytes
    have hr := B.returns
    have hts := atoms_spec (ws := .codeWith y cc 5 (some .int) [(0, 10, 13, 18), (0, 10, 17, 13)] :: tw3) B.pre
    have hown : s.vm.findClass RL = some m.cls := by rw [← hyc]; exact findClass_of_methodNamed B.named
    have hlocks := B.notSynchronized
    have hl := lv_entry ([.ref (ad 6 0), .int x1, .int x2, .ref ob]) (n := 5) (Nat.le_of_ble_eq_true rfl)
    rw [lg_entry_eq]
    generalize (lg_sl ([.ref (ad 6 0), .int x1, .int x2, .ref ob]) ++ List.replicate (5 - (lg_sl ([.ref (ad 6 0), .int x1, .int x2, .ref ob])).length) Slot.unset).toArray = ls at hl ⊢
    have hl : lv_has ls 5 [(0, .ref (ad 6 0)), (1, .int x1), (2, .int x2), (3, .ref ob)] := hl
    refine lv_aload_n hx hb d0 rfl (lv_at hl 3 rfl) ?_
    refine lv_iconst (v := 0) hx hb d1 rfl ?_
    refine lv_aload_n hx hb d2 rfl (lv_at hl 0 rfl) ?_
    refine lv_iload_n hx hb d3 rfl (lv_at hl 1 rfl) ?_
    refine lv_iload_n hx hb d4 rfl (lv_at hl 2 rfl) ?_
    refine l_call (as := [.inl x1, .inl x2]) (i0 := 0) (rest := [.int 0, .ref ob]) ⟨hx, hb, hml, hown, hts⟩ (fun w h9 => List.mem_cons_of_mem _ h9) hjc hstt hlink (by rw [hna]; rfl) (by rw [hkd]; decide) (by rw [hkd]; exact hM) hP hK (fun U hU hW => hE.move (locs := []) hW (by rw [hU]; exact va_S.rf)) hR hl.1 (Nat.le_of_ble_eq_true rfl) d5 (by rw [hkd]; rfl) ⟨Nat.le_of_ble_eq_true rfl, Nat.le_of_ble_eq_true rfl⟩ (fun H L hP1 hz hk hL => ?_)
    have hO1 : va_at (dC, dI) vwCl (ob, eL cL f) H := hO.kept (hk ob hO.lt hob)
    refine lv_i2l (v := v.toInt64) hx hb d8 rfl ?_
    refine o_last hx hb hKl hO1 d9 (fun H2 hO2 hz2 hk2 => ?_)
    refine lv_goto (tgt := 21) hx hb d10 (by decide) ?_
    refine lv_iconst (v := 0) hx hb d21 rfl ?_
    refine W.widen (k := 1) (n := 6) (by omega) (by omega) ?_
    exact W.iret hx hb hr (fun t ht hW => ⟨rfl, by rw [ht]; exact wW_kept hP1 hob hk2, by rw [ht]; exact hO2, by rw [ht, hz2]; exact hz, fun q h1 h2 => by rw [ht, hk2 q (fun h9 => h2 (Or.inr h9))]; exact hk q h1 (fun h9 => h2 (Or.inl h9))⟩) (fun z hz9 => (List.mem_append.mp hz9).elim (fun h9 => Or.inl (hL z h9)) (fun h9 => Or.inr (by rw [List.mem_singleton.mp h9]))) d22
  · intro x σ1 hM hx01
    refine Met.ofWH (cc := cc) (maxL := 5) (ret := some .int) (hh := [(0, 10, 13, 18), (0, 10, 17, 13)]) hy rfl ?_
    intro p e s m args below meth c s₁ B hml hv
    obtain ⟨rfl, hP, hO, hK, hKl, hE, hC⟩ := hv
    have hx := B.exec
    have hb := B.bytes
    have hr := B.returns
    have hts := atoms_spec (ws := .codeWith y cc 5 (some .int) [(0, 10, 13, 18), (0, 10, 17, 13)] :: tw3) B.pre
    have hown : s.vm.findClass RL = some m.cls := by rw [← hyc]; exact findClass_of_methodNamed B.named
    have hlocks := B.notSynchronized
    have hl := lv_entry ([.ref (ad 6 0), .int x1, .int x2, .ref ob]) (n := 5) (Nat.le_of_ble_eq_true rfl)
    rw [lg_entry_eq]
    generalize (lg_sl ([.ref (ad 6 0), .int x1, .int x2, .ref ob]) ++ List.replicate (5 - (lg_sl ([.ref (ad 6 0), .int x1, .int x2, .ref ob])).length) Slot.unset).toArray = ls at hl ⊢
    have hl : lv_has ls 5 [(0, .ref (ad 6 0)), (1, .int x1), (2, .int x2), (3, .ref ob)] := hl
    have htab : c.exceptionTable.toList = tableOf [(0, 10, 13, 18), (0, 10, 17, 13)] := vx_table (x := y) B (hts _ List.mem_cons_self)
    refine lv_aload_n hx hb d0 rfl (lv_at hl 3 rfl) ?_
    refine lv_iconst (v := 0) hx hb d1 rfl ?_
    refine lv_aload_n hx hb d2 rfl (lv_at hl 0 rfl) ?_
    refine lv_iload_n hx hb d3 rfl (lv_at hl 1 rfl) ?_
    refine lv_iload_n hx hb d4 rfl (lv_at hl 2 rfl) ?_
    refine l_callX (as := [.inl x1, .inl x2]) (i0 := 0) (rest := [.int 0, .ref ob]) ⟨hx, hb, hml, hown, hts⟩ (fun w h9 => List.mem_cons_of_mem _ h9) hjc hstt hlink (by rw [hna]; rfl) (by rw [hkd]; decide) (by rw [hkd]; exact hM) hP hK (fun U hU hW => hE.move (locs := []) hW (by rw [hU]; exact va_S.rf)) hR hl.1 (Nat.le_of_ble_eq_true rfl) d5 (by rw [hkd]; rfl) ⟨Nat.le_of_ble_eq_true rfl, Nat.le_of_ble_eq_true rfl⟩ (fun q ce H L hP1 hz hk hL hce hcv hcl => ?_)
    rcases hx01 with rfl | rfl
    · refine vx_catch (own := RL) (name := exN 0) (E := exN 0) hown [] ⟨0, 10, 13, 18⟩ [⟨0, 10, 17, 13⟩] (by rw [htab]; rfl) (fun z h9 => nomatch h9) rfl (by decide) (hts _ (List.mem_cons_of_mem _ (w3l (i := 2) rfl))) (va_Nw.use rfl hC.1) hce hcv hcl ?_
      refine lv_astore (lv' := [(4, .ref q), (0, .ref (ad 6 0)), (1, .int x1), (2, .int x2), (3, .ref ob)]) hx hb d13 hl (by decide) rfl (fun ls hl => ?_)
      refine lv_iconst (v := 1) hx hb d15 rfl ?_
      exact W.iret hx hb hr (fun t ht hW => ⟨rfl, by rw [ht]; exact hP1, by rw [ht]; exact hO.kept (hk ob hO.lt hob), by rw [ht]; exact hz, fun q h1 h2 => by rw [ht]; exact hk q h1 (fun h9 => h2 (Or.inl h9))⟩) (fun z hz9 => Or.inl (hL z hz9)) d16
    · refine vx_catch (own := RL) (name := exN 1) (E := exN 1) hown [⟨0, 10, 13, 18⟩] ⟨0, 10, 17, 13⟩ [] (by rw [htab]; rfl) (fun z h9 => Or.inr (by rw [List.mem_singleton.mp h9]; exact ⟨by decide, exN 0, (hts _ (List.mem_cons_of_mem _ (w3l (i := 2) rfl))), hC.2.2⟩)) rfl (by decide) (hts _ (List.mem_cons_of_mem _ (w3l (i := 1) rfl))) (va_Nw.use rfl hC.2.1) hce hcv hcl ?_
      refine lv_astore (lv' := [(4, .ref q), (0, .ref (ad 6 0)), (1, .int x1), (2, .int x2), (3, .ref ob)]) hx hb d17 hl (by decide) rfl (fun ls hl => ?_)
      refine lv_iconst (v := 2) hx hb d19 rfl ?_
      exact W.iret hx hb hr (fun t ht hW => ⟨rfl, by rw [ht]; exact hP1, by rw [ht]; exact hO.kept (hk ob hO.lt hob), by rw [ht]; exact hz, fun q h1 h2 => by rw [ht]; exact hk q h1 (fun h9 => h2 (Or.inl h9))⟩) (fun z hz9 => Or.inl (hL z hz9)) d20
set_option maxHeartbeats 2000000 in
theorem wr2z1 {l : Launch} {dC : Nat → ClassId} {dI : Nat → Nat → Nat} {ad : Nat → Nat → Nat} {adV : Nat → Nat} {cy : Nat → ClassId} {cL : ClassId} {ob : Nat} (hob : ¬ wA ad ob) {y : MethodName} {cc : ByteArray} {jc idx kt x0 : Nat} (hy : plainName y.cls = true) (hyc : y.cls = RL) (hjc : jc < nMt) (hkd : iKd jc = 6) (hstt : iStt jc = false) (hna : iNa jc = 3) (hlink : Cond.methodLink RL idx (iY jc) ∈ tw3) (hR : iFr jc + 1 ≤ 13 ∧ 8 + (iMl jc + 11) + iLo jc ≤ 559) (hk0 : kt ≠ 0) (hct : Cond.classLink RL kt (exN x0) ∈ tw3) (hcx : ∀ U, CX U → va_Nw (.castable (exN x0) (exN x0)) U)
    (d0 : decode cc 0 = .ok (.aload_n 3, 1)) (d1 : decode cc 1 = .ok (.iconst 0, 1)) (d2 : decode cc 2 = .ok (.aload_n 0, 1)) (d3 : decode cc 3 = .ok (.iload_n 1, 1)) (d4 : decode cc 4 = .ok (.iload_n 2, 1)) (d5 : decode cc 5 = .ok (.invokevirtual idx, 3)) (d8 : decode cc 8 = .ok (.ifCond .eq 7, 3)) (d11 : decode cc 11 = .ok (.lconst 1, 1)) (d12 : decode cc 12 = .ok (.goto 4, 3)) (d15 : decode cc 15 = .ok (.lconst 0, 1)) (d16 : decode cc 16 = .ok (.lastore, 1)) (d17 : decode cc 17 = .ok (.goto 7, 3)) (d20 : decode cc 20 = .ok (.astore 4, 2)) (d22 : decode cc 22 = .ok (.iconst 1, 1)) (d23 : decode cc 23 = .ok (.ireturn, 1)) (d24 : decode cc 24 = .ok (.iconst 0, 1)) (d25 : decode cc 25 = .ok (.ireturn, 1)) (x1 x2 : Int32) (σ : iM) (f : Nat → Int64) :
    (∀ v σ1, iMet l dC dI ad cy (EXs ad adV) jc (X :: [.inl x1, .inl x2]) σ (some (.inl v)) σ1 → Met l y (.codeWith y cc 5 (some .int) [(0, 17, 20, kt)] :: tw3) wRm (va_Pc [.ref (ad 6 0), .int x1, .int x2, .ref ob] (wX dC dI ad adV cy cL ob σ f)) (wY dC dI ad cy cL ob 0 σ1 (vp_updL f 0 (lz v))) 1 6 (wB ad ob)) ∧
    (∀ σ1, iMetX l dC dI ad cy (EXs ad adV) jc (X :: [.inl x1, .inl x2]) σ x0 σ1 → Met l y (.codeWith y cc 5 (some .int) [(0, 17, 20, kt)] :: tw3) wRm (va_Pc [.ref (ad 6 0), .int x1, .int x2, .ref ob] (wX dC dI ad adV cy cL ob σ f)) (wY dC dI ad cy cL ob 1 σ1 f) 1 6 (wB ad ob)) := by
  constructor
  · intro v σ1 hM
    refine Met.ofWH (cc := cc) (maxL := 5) (ret := some .int) (hh := [(0, 17, 20, kt)]) hy rfl ?_
    intro p e s m args below meth c s₁ B hml hv
    obtain ⟨rfl, hP, hO, hK, hKl, hE, hC⟩ := hv
    have hx := B.exec
    have hb := B.bytes
    have hr := B.returns
    have hts := atoms_spec (ws := .codeWith y cc 5 (some .int) [(0, 17, 20, kt)] :: tw3) B.pre
    have hown : s.vm.findClass RL = some m.cls := by rw [← hyc]; exact findClass_of_methodNamed B.named
    have hlocks := B.notSynchronized
    have hl := lv_entry ([.ref (ad 6 0), .int x1, .int x2, .ref ob]) (n := 5) (Nat.le_of_ble_eq_true rfl)
    rw [lg_entry_eq]
    generalize (lg_sl ([.ref (ad 6 0), .int x1, .int x2, .ref ob]) ++ List.replicate (5 - (lg_sl ([.ref (ad 6 0), .int x1, .int x2, .ref ob])).length) Slot.unset).toArray = ls at hl ⊢
    have hl : lv_has ls 5 [(0, .ref (ad 6 0)), (1, .int x1), (2, .int x2), (3, .ref ob)] := hl
    refine lv_aload_n hx hb d0 rfl (lv_at hl 3 rfl) ?_
    refine lv_iconst (v := 0) hx hb d1 rfl ?_
    refine lv_aload_n hx hb d2 rfl (lv_at hl 0 rfl) ?_
    refine lv_iload_n hx hb d3 rfl (lv_at hl 1 rfl) ?_
    refine lv_iload_n hx hb d4 rfl (lv_at hl 2 rfl) ?_
    refine l_call (as := [.inl x1, .inl x2]) (i0 := 0) (rest := [.int 0, .ref ob]) ⟨hx, hb, hml, hown, hts⟩ (fun w h9 => List.mem_cons_of_mem _ h9) hjc hstt hlink (by rw [hna]; rfl) (by rw [hkd]; decide) (by rw [hkd]; exact hM) hP hK (fun U hU hW => hE.move (locs := []) hW (by rw [hU]; exact va_S.rf)) hR hl.1 (Nat.le_of_ble_eq_true rfl) d5 (by rw [hkd]; rfl) ⟨Nat.le_of_ble_eq_true rfl, Nat.le_of_ble_eq_true rfl⟩ (fun H L hP1 hz hk hL => ?_)
    have hO1 : va_at (dC, dI) vwCl (ob, eL cL f) H := hO.kept (hk ob hO.lt hob)
    refine lv_if_eq (tgt := 15) hx hb d8 (by decide) (fun h0 => ?_) (fun h0 => ?_)
    · rw [show lz v = 0 from if_pos h0]
      refine lv_lconst (v := 0) hx hb d15 rfl ?_
      refine o_last hx hb hKl hO1 d16 (fun H2 hO2 hz2 hk2 => ?_)
      refine lv_goto (tgt := 24) hx hb d17 (by decide) ?_
      refine lv_iconst (v := 0) hx hb d24 rfl ?_
      refine W.widen (k := 1) (n := 6) (by omega) (by omega) ?_
      exact W.iret hx hb hr (fun t ht hW => ⟨rfl, by rw [ht]; exact wW_kept hP1 hob hk2, by rw [ht]; exact hO2, by rw [ht, hz2]; exact hz, fun q h1 h2 => by rw [ht, hk2 q (fun h9 => h2 (Or.inr h9))]; exact hk q h1 (fun h9 => h2 (Or.inl h9))⟩) (fun z hz9 => (List.mem_append.mp hz9).elim (fun h9 => Or.inl (hL z h9)) (fun h9 => Or.inr (by rw [List.mem_singleton.mp h9]))) d25
    · rw [show lz v = 1 from if_neg h0]
      refine lv_lconst (v := 1) hx hb d11 rfl ?_
      refine lv_goto (tgt := 16) hx hb d12 (by decide) ?_
      refine o_last hx hb hKl hO1 d16 (fun H2 hO2 hz2 hk2 => ?_)
      refine lv_goto (tgt := 24) hx hb d17 (by decide) ?_
      refine lv_iconst (v := 0) hx hb d24 rfl ?_
      refine W.widen (k := 1) (n := 6) (by omega) (by omega) ?_
      exact W.iret hx hb hr (fun t ht hW => ⟨rfl, by rw [ht]; exact wW_kept hP1 hob hk2, by rw [ht]; exact hO2, by rw [ht, hz2]; exact hz, fun q h1 h2 => by rw [ht, hk2 q (fun h9 => h2 (Or.inr h9))]; exact hk q h1 (fun h9 => h2 (Or.inl h9))⟩) (fun z hz9 => (List.mem_append.mp hz9).elim (fun h9 => Or.inl (hL z h9)) (fun h9 => Or.inr (by rw [List.mem_singleton.mp h9]))) d25
  · intro σ1 hM
    refine Met.ofWH (cc := cc) (maxL := 5) (ret := some .int) (hh := [(0, 17, 20, kt)]) hy rfl ?_
    intro p e s m args below meth c s₁ B hml hv
    obtain ⟨rfl, hP, hO, hK, hKl, hE, hC⟩ := hv
    have hx := B.exec
    have hb := B.bytes
    have hr := B.returns
    have hts := atoms_spec (ws := .codeWith y cc 5 (some .int) [(0, 17, 20, kt)] :: tw3) B.pre
    have hown : s.vm.findClass RL = some m.cls := by rw [← hyc]; exact findClass_of_methodNamed B.named
    have hlocks := B.notSynchronized
    have hl := lv_entry ([.ref (ad 6 0), .int x1, .int x2, .ref ob]) (n := 5) (Nat.le_of_ble_eq_true rfl)
    rw [lg_entry_eq]
    generalize (lg_sl ([.ref (ad 6 0), .int x1, .int x2, .ref ob]) ++ List.replicate (5 - (lg_sl ([.ref (ad 6 0), .int x1, .int x2, .ref ob])).length) Slot.unset).toArray = ls at hl ⊢
    have hl : lv_has ls 5 [(0, .ref (ad 6 0)), (1, .int x1), (2, .int x2), (3, .ref ob)] := hl
    have htab : c.exceptionTable.toList = tableOf [(0, 17, 20, kt)] := vx_table (x := y) B (hts _ List.mem_cons_self)
    refine lv_aload_n hx hb d0 rfl (lv_at hl 3 rfl) ?_
    refine lv_iconst (v := 0) hx hb d1 rfl ?_
    refine lv_aload_n hx hb d2 rfl (lv_at hl 0 rfl) ?_
    refine lv_iload_n hx hb d3 rfl (lv_at hl 1 rfl) ?_
    refine lv_iload_n hx hb d4 rfl (lv_at hl 2 rfl) ?_
    refine l_callX (as := [.inl x1, .inl x2]) (i0 := 0) (rest := [.int 0, .ref ob]) ⟨hx, hb, hml, hown, hts⟩ (fun w h9 => List.mem_cons_of_mem _ h9) hjc hstt hlink (by rw [hna]; rfl) (by rw [hkd]; decide) (by rw [hkd]; exact hM) hP hK (fun U hU hW => hE.move (locs := []) hW (by rw [hU]; exact va_S.rf)) hR hl.1 (Nat.le_of_ble_eq_true rfl) d5 (by rw [hkd]; rfl) ⟨Nat.le_of_ble_eq_true rfl, Nat.le_of_ble_eq_true rfl⟩ (fun q ce H L hP1 hz hk hL hce hcv hcl => ?_)
    refine vx_catch (own := RL) (name := exN x0) (E := exN x0) hown [] ⟨0, 17, 20, kt⟩ [] (by rw [htab]; rfl) (fun z h9 => nomatch h9) rfl hk0 (hts _ (List.mem_cons_of_mem _ hct)) (va_Nw.use rfl (hcx s hC)) hce hcv hcl ?_
    refine lv_astore (lv' := [(4, .ref q), (0, .ref (ad 6 0)), (1, .int x1), (2, .int x2), (3, .ref ob)]) hx hb d20 hl (by decide) rfl (fun ls hl => ?_)
    refine lv_iconst (v := 1) hx hb d22 rfl ?_
    exact W.iret hx hb hr (fun t ht hW => ⟨rfl, by rw [ht]; exact hP1, by rw [ht]; exact hO.kept (hk ob hO.lt hob), by rw [ht]; exact hz, fun q h1 h2 => by rw [ht]; exact hk q h1 (fun h9 => h2 (Or.inl h9))⟩) (fun z hz9 => Or.inl (hL z hz9)) d23
set_option maxHeartbeats 2000000 in
theorem wr1z1 {l : Launch} {dC : Nat → ClassId} {dI : Nat → Nat → Nat} {ad : Nat → Nat → Nat} {adV : Nat → Nat} {cy : Nat → ClassId} {cL : ClassId} {ob : Nat} (hob : ¬ wA ad ob) {y : MethodName} {cc : ByteArray} {jc idx kt x0 : Nat} (hy : plainName y.cls = true) (hyc : y.cls = RL) (hjc : jc < nMt) (hkd : iKd jc = 6) (hstt : iStt jc = false) (hna : iNa jc = 2) (hlink : Cond.methodLink RL idx (iY jc) ∈ tw3) (hR : iFr jc + 1 ≤ 13 ∧ 8 + (iMl jc + 11) + iLo jc ≤ 559) (hk0 : kt ≠ 0) (hct : Cond.classLink RL kt (exN x0) ∈ tw3) (hcx : ∀ U, CX U → va_Nw (.castable (exN x0) (exN x0)) U)
    (d0 : decode cc 0 = .ok (.aload_n 2, 1)) (d1 : decode cc 1 = .ok (.iconst 0, 1)) (d2 : decode cc 2 = .ok (.aload_n 0, 1)) (d3 : decode cc 3 = .ok (.iload_n 1, 1)) (d4 : decode cc 4 = .ok (.invokevirtual idx, 3)) (d7 : decode cc 7 = .ok (.ifCond .eq 7, 3)) (d10 : decode cc 10 = .ok (.lconst 1, 1)) (d11 : decode cc 11 = .ok (.goto 4, 3)) (d14 : decode cc 14 = .ok (.lconst 0, 1)) (d15 : decode cc 15 = .ok (.lastore, 1)) (d16 : decode cc 16 = .ok (.goto 6, 3)) (d19 : decode cc 19 = .ok (.astore_n 3, 1)) (d20 : decode cc 20 = .ok (.iconst 1, 1)) (d21 : decode cc 21 = .ok (.ireturn, 1)) (d22 : decode cc 22 = .ok (.iconst 0, 1)) (d23 : decode cc 23 = .ok (.ireturn, 1)) (x1 : Int32) (σ : iM) (f : Nat → Int64) :
    (∀ v σ1, iMet l dC dI ad cy (EXs ad adV) jc (X :: [.inl x1]) σ (some (.inl v)) σ1 → Met l y (.codeWith y cc 4 (some .int) [(0, 16, 19, kt)] :: tw3) wRm (va_Pc [.ref (ad 6 0), .int x1, .ref ob] (wX dC dI ad adV cy cL ob σ f)) (wY dC dI ad cy cL ob 0 σ1 (vp_updL f 0 (lz v))) 1 6 (wB ad ob)) ∧
    (∀ σ1, iMetX l dC dI ad cy (EXs ad adV) jc (X :: [.inl x1]) σ x0 σ1 → Met l y (.codeWith y cc 4 (some .int) [(0, 16, 19, kt)] :: tw3) wRm (va_Pc [.ref (ad 6 0), .int x1, .ref ob] (wX dC dI ad adV cy cL ob σ f)) (wY dC dI ad cy cL ob 1 σ1 f) 1 6 (wB ad ob)) := by
  constructor
  · intro v σ1 hM
    refine Met.ofWH (cc := cc) (maxL := 4) (ret := some .int) (hh := [(0, 16, 19, kt)]) hy rfl ?_
    intro p e s m args below meth c s₁ B hml hv
    obtain ⟨rfl, hP, hO, hK, hKl, hE, hC⟩ := hv
    have hx := B.exec
    have hb := B.bytes
    have hr := B.returns
    have hts := atoms_spec (ws := .codeWith y cc 4 (some .int) [(0, 16, 19, kt)] :: tw3) B.pre
    have hown : s.vm.findClass RL = some m.cls := by rw [← hyc]; exact findClass_of_methodNamed B.named
    have hlocks := B.notSynchronized
    have hl := lv_entry ([.ref (ad 6 0), .int x1, .ref ob]) (n := 4) (Nat.le_of_ble_eq_true rfl)
    rw [lg_entry_eq]
    generalize (lg_sl ([.ref (ad 6 0), .int x1, .ref ob]) ++ List.replicate (4 - (lg_sl ([.ref (ad 6 0), .int x1, .ref ob])).length) Slot.unset).toArray = ls at hl ⊢
    have hl : lv_has ls 4 [(0, .ref (ad 6 0)), (1, .int x1), (2, .ref ob)] := hl
    refine lv_aload_n hx hb d0 rfl (lv_at hl 2 rfl) ?_
    refine lv_iconst (v := 0) hx hb d1 rfl ?_
    refine lv_aload_n hx hb d2 rfl (lv_at hl 0 rfl) ?_
    refine lv_iload_n hx hb d3 rfl (lv_at hl 1 rfl) ?_
    refine l_call (as := [.inl x1]) (i0 := 0) (rest := [.int 0, .ref ob]) ⟨hx, hb, hml, hown, hts⟩ (fun w h9 => List.mem_cons_of_mem _ h9) hjc hstt hlink (by rw [hna]; rfl) (by rw [hkd]; decide) (by rw [hkd]; exact hM) hP hK (fun U hU hW => hE.move (locs := []) hW (by rw [hU]; exact va_S.rf)) hR hl.1 (Nat.le_of_ble_eq_true rfl) d4 (by rw [hkd]; rfl) ⟨Nat.le_of_ble_eq_true rfl, Nat.le_of_ble_eq_true rfl⟩ (fun H L hP1 hz hk hL => ?_)
    have hO1 : va_at (dC, dI) vwCl (ob, eL cL f) H := hO.kept (hk ob hO.lt hob)
    refine lv_if_eq (tgt := 14) hx hb d7 (by decide) (fun h0 => ?_) (fun h0 => ?_)
    · rw [show lz v = 0 from if_pos h0]
      refine lv_lconst (v := 0) hx hb d14 rfl ?_
      refine o_last hx hb hKl hO1 d15 (fun H2 hO2 hz2 hk2 => ?_)
      refine lv_goto (tgt := 22) hx hb d16 (by decide) ?_
      refine lv_iconst (v := 0) hx hb d22 rfl ?_
      refine W.widen (k := 1) (n := 6) (by omega) (by omega) ?_
      exact W.iret hx hb hr (fun t ht hW => ⟨rfl, by rw [ht]; exact wW_kept hP1 hob hk2, by rw [ht]; exact hO2, by rw [ht, hz2]; exact hz, fun q h1 h2 => by rw [ht, hk2 q (fun h9 => h2 (Or.inr h9))]; exact hk q h1 (fun h9 => h2 (Or.inl h9))⟩) (fun z hz9 => (List.mem_append.mp hz9).elim (fun h9 => Or.inl (hL z h9)) (fun h9 => Or.inr (by rw [List.mem_singleton.mp h9]))) d23
    · rw [show lz v = 1 from if_neg h0]
      refine lv_lconst (v := 1) hx hb d10 rfl ?_
      refine lv_goto (tgt := 15) hx hb d11 (by decide) ?_
      refine o_last hx hb hKl hO1 d15 (fun H2 hO2 hz2 hk2 => ?_)
      refine lv_goto (tgt := 22) hx hb d16 (by decide) ?_
      refine lv_iconst (v := 0) hx hb d22 rfl ?_
      refine W.widen (k := 1) (n := 6) (by omega) (by omega) ?_
      exact W.iret hx hb hr (fun t ht hW => ⟨rfl, by rw [ht]; exact wW_kept hP1 hob hk2, by rw [ht]; exact hO2, by rw [ht, hz2]; exact hz, fun q h1 h2 => by rw [ht, hk2 q (fun h9 => h2 (Or.inr h9))]; exact hk q h1 (fun h9 => h2 (Or.inl h9))⟩) (fun z hz9 => (List.mem_append.mp hz9).elim (fun h9 => Or.inl (hL z h9)) (fun h9 => Or.inr (by rw [List.mem_singleton.mp h9]))) d23
  · intro σ1 hM
    refine Met.ofWH (cc := cc) (maxL := 4) (ret := some .int) (hh := [(0, 16, 19, kt)]) hy rfl ?_
    intro p e s m args below meth c s₁ B hml hv
    obtain ⟨rfl, hP, hO, hK, hKl, hE, hC⟩ := hv
    have hx := B.exec
    have hb := B.bytes
    have hr := B.returns
    have hts := atoms_spec (ws := .codeWith y cc 4 (some .int) [(0, 16, 19, kt)] :: tw3) B.pre
    have hown : s.vm.findClass RL = some m.cls := by rw [← hyc]; exact findClass_of_methodNamed B.named
    have hlocks := B.notSynchronized
    have hl := lv_entry ([.ref (ad 6 0), .int x1, .ref ob]) (n := 4) (Nat.le_of_ble_eq_true rfl)
    rw [lg_entry_eq]
    generalize (lg_sl ([.ref (ad 6 0), .int x1, .ref ob]) ++ List.replicate (4 - (lg_sl ([.ref (ad 6 0), .int x1, .ref ob])).length) Slot.unset).toArray = ls at hl ⊢
    have hl : lv_has ls 4 [(0, .ref (ad 6 0)), (1, .int x1), (2, .ref ob)] := hl
    have htab : c.exceptionTable.toList = tableOf [(0, 16, 19, kt)] := vx_table (x := y) B (hts _ List.mem_cons_self)
    refine lv_aload_n hx hb d0 rfl (lv_at hl 2 rfl) ?_
    refine lv_iconst (v := 0) hx hb d1 rfl ?_
    refine lv_aload_n hx hb d2 rfl (lv_at hl 0 rfl) ?_
    refine lv_iload_n hx hb d3 rfl (lv_at hl 1 rfl) ?_
    refine l_callX (as := [.inl x1]) (i0 := 0) (rest := [.int 0, .ref ob]) ⟨hx, hb, hml, hown, hts⟩ (fun w h9 => List.mem_cons_of_mem _ h9) hjc hstt hlink (by rw [hna]; rfl) (by rw [hkd]; decide) (by rw [hkd]; exact hM) hP hK (fun U hU hW => hE.move (locs := []) hW (by rw [hU]; exact va_S.rf)) hR hl.1 (Nat.le_of_ble_eq_true rfl) d4 (by rw [hkd]; rfl) ⟨Nat.le_of_ble_eq_true rfl, Nat.le_of_ble_eq_true rfl⟩ (fun q ce H L hP1 hz hk hL hce hcv hcl => ?_)
    refine vx_catch (own := RL) (name := exN x0) (E := exN x0) hown [] ⟨0, 16, 19, kt⟩ [] (by rw [htab]; rfl) (fun z h9 => nomatch h9) rfl hk0 (hts _ (List.mem_cons_of_mem _ hct)) (va_Nw.use rfl (hcx s hC)) hce hcv hcl ?_
    refine lv_astore_n (lv' := [(3, .ref q), (0, .ref (ad 6 0)), (1, .int x1), (2, .ref ob)]) hx hb d19 rfl hl (by decide) rfl (fun ls hl => ?_)
    refine lv_iconst (v := 1) hx hb d20 rfl ?_
    exact W.iret hx hb hr (fun t ht hW => ⟨rfl, by rw [ht]; exact hP1, by rw [ht]; exact hO.kept (hk ob hO.lt hob), by rw [ht]; exact hz, fun q h1 h2 => by rw [ht]; exact hk q h1 (fun h9 => h2 (Or.inl h9))⟩) (fun z hz9 => Or.inl (hL z hz9)) d21
