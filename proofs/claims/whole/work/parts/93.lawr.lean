/-! ===== the law's body: what is known in it, and its rows ===== -/
abbrev lA (s : State) : Nat → Prop := fun q => s.heap.size ≤ q
/-- what is known in the law's body, and doesn't change -/
def LCx (p : Program) (l : Launch) (s : State) (m : MethodId) (args : Array Value) (meth : Method) (c : Code) (dC : Nat → ClassId) (dI : Nat → Nat → Nat) (ad : Nat → Nat → Nat) (adV : Nat → Nat) (cy : Nat → ClassId) (cL : ClassId) (ob b L : Nat) (xs : Nat → Int32) : Prop :=
  CallFix p m c code 7 s args tw3 RL ∧ va_K (dC, dI) vwCl (wT cy) s ∧ va_K (dC, dI) vwCl [(cL, .long)] s ∧ EXs ad adV s ∧ CX s ∧ va_X b L xs s s.heap ∧ b < s.heap.size ∧ L ≤ 2048 ∧ (∀ q, wA ad q → s.heap.size ≤ q) ∧ s.heap.size ≤ ob ∧ ¬ wA ad ob ∧ wI ad ∧ l.stackTraces = false
/-- what holds between two calls of the law -/
def LwS (s : State) (dC : Nat → ClassId) (dI : Nat → Nat → Nat) (ad : Nat → Nat → Nat) (cy : Nat → ClassId) (cL : ClassId) (ob : Nat) (σ : iM) (f : Nat → Int64) (H : Heap) (locs : List Loc) : Prop := va_P (dC, dI) vwCl (wW ad cy σ) H ∧ va_at (dC, dI) vwCl (ob, eL cL f) H ∧ va_S (lA s) s.heap H locs
abbrev lvL (ad : Nat → Nat → Nat) (ob b i : Nat) : List (Nat × Value) := [(4, .int (nI i)), (0, .ref b), (1, .ref (ad 6 0)), (2, .ref (ad 7 0)), (3, .ref ob)]
section LR
variable {p : Program} {l : Launch} {e : Env} {s : State} {m : MethodId} {args : Array Value} {below : List Frame} {meth : Method} {c : Code} {H : Heap} {locs : List Loc} {cells slots : Nat} {Q : State → Prop}
variable {pc : Nat} {ls : Array Slot} {rest st0 : List Value} {dC : Nat → ClassId} {dI : Nat → Nat → Nat} {ad : Nat → Nat → Nat} {adV : Nat → Nat} {cy : Nat → ClassId} {cL : ClassId} {ob b L i : Nat} {xs : Nat → Int32} {σ σ1 : iM} {f f1 : Nat → Int64}
theorem LwS.ex (C : LCx p l s m args meth c dC dI ad adV cy cL ob b L xs) (hS : LwS s dC dI ad cy cL ob σ f H locs) : ∀ U : State, U.heap = H → s.WarmedH U.vm → EXs ad adV U := fun U hU hW => C.2.2.2.1.move (locs := []) hW (by
  rw [hU]
  exact ⟨hS.2.2.1, fun q h1 h2 => hS.2.2.2.1 q h1 (Nat.not_le.mpr h1), fun _ h9 => nomatch h9⟩)
/-- script[i + k] -/
theorem l_arg (C : LCx p l s m args meth c dC dI ad adV cy cL ob b L xs) (hS : LwS s dC dI ad cy cL ob σ f H locs) {k : Nat} {v : Int32} (hv : Int32.ofInt (k : Int) = v) (hv2 : v = nI k) (hik : i + k < L) (h0 : ls[0]? = some (.val (.ref b))) (h4 : ls[4]? = some (.val (.int (nI i))))
    (d0 : decode code pc = .ok (.aload_n 0, 1)) (d1 : decode code (pc + 1) = .ok (.iload 4, 2)) (d3 : decode code (pc + 3) = .ok (.iconst (k : Int), 1)) (d4 : decode code (pc + 4) = .ok (.iadd, 1)) (d5 : decode code (pc + 5) = .ok (.iaload, 1))
    (kk : W p l e room_1 s m args below meth c H locs cells slots Q (F0 m (pc + 6) ls (.int (xs (i + k)) :: rest))) : W p l e room_1 s m args below meth c H locs cells slots Q (F0 m pc ls rest) := by
  obtain ⟨⟨hx, hb, hml, hown, hts⟩, hK, hKl, hE, hC, hX, hbl, hL, hA, hob1, hob, hI, hlst⟩ := C
  have hsm : i + k < 2 ^ 31 := by omega
  refine lv_aload_n hx hb d0 rfl h0 ?_
  refine lv_iload hx hb d1 h4 ?_
  refine lv_iconst (v := v) hx hb d3 hv ?_
  refine lv_iadd hx hb d4 ?_
  rw [hv2, show nI i + nI k = nI (i + k) from nI_add i k]
  refine va_sld (A := lA s) hx hb hX hbl (Nat.not_le.mpr hbl) hS.2.2 (vp_in_nI hik (by omega)) d5 ?_
  rw [nI_clamp hsm]
  exact kk
/-- script[i + 2] != 0 -/
theorem l_argz (hx : p.tables.exec = Jvm.exec) (hb : c.code = code) {x : Int32} (d0 : decode code pc = .ok (.ifCond .eq 7, 3)) (d3 : decode code (pc + 3) = .ok (.iconst 1, 1)) (d4 : decode code (pc + 4) = .ok (.goto 4, 3)) (d7 : decode code (pc + 7) = .ok (.iconst 0, 1))
    (kk : W p l e room_1 s m args below meth c H locs cells slots Q (F0 m (pc + 8) ls (.int (if x = 0 then 0 else 1) :: rest))) : W p l e room_1 s m args below meth c H locs cells slots Q (F0 m pc ls (.int x :: rest)) := by
  refine lv_if_eq (tgt := pc + 7) hx hb d0 (by omega) (fun h0 => ?_) (fun h0 => ?_)
  · rw [if_pos h0] at kk
    refine lv_iconst (v := 0) hx hb d7 rfl ?_
    exact kk
  · rw [if_neg h0] at kk
    refine lv_iconst (v := 1) hx hb d3 rfl ?_
    refine lv_goto (tgt := pc + 8) hx hb d4 (by omega) ?_
    exact kk
/-- a call of one of the two objects -/
theorem l_obj (C : LCx p l s m args meth c dC dI ad adV cy cL ob b L xs) (hS : LwS s dC dI ad cy cL ob σ f H locs) {j idx : Nat} (hj : j < nMt) (hstt : iStt j = false) (hlink : Cond.methodLink RL idx (iY j) ∈ tw3) {as : List iV} (hna : as.length + 1 = iNa j) {kd : Nat} (hkd : iKd j = kd) (hcn : 0 < iCnt kd) {v : Int32} (hM : iMet l dC dI ad cy (EXs ad adV) j (.inr (kd, 0) :: as) σ (some (.inl v)) σ1)
    (hR : iFr j + 1 ≤ 15 ∧ 8 + (iMl j + 11) + iLo j ≤ 584) (hls : ls.size = 7) (h8 : (rest.map fun v => v.category).sum ≤ 8) (hdg : decode code pc = .ok (.invokevirtual idx, 3)) (hst : st0 = (as.map (emb ad)).reverse ++ .ref (ad kd 0) :: rest) (hf : cells ≤ room_1.cells ∧ slots ≤ room_1.slots)
    (kk : ∀ (H1 : Heap) (locs1 : List Loc), LwS s dC dI ad cy cL ob σ1 f H1 locs1 → W p l e room_1 s m args below meth c H1 locs1 cells slots Q (F0 m (pc + 3) ls (.int v :: rest))) : W p l e room_1 s m args below meth c H locs cells slots Q (F0 m pc ls st0) := by
  subst hkd
  have hE := hS.ex C
  obtain ⟨S, hK, hKl, hE0, hC, hX, hbl, hL, hA, hob1, hob, hI, hlst⟩ := C
  refine l_call S (fun w h9 => h9) hj hstt hlink hna hcn hM hS.1 hK hE hR hls h8 hdg hst hf (fun H1 L1 hP1 hz hk hL1 => ?_)
  exact kk H1 _ ⟨hP1, hS.2.1.kept (hk ob hS.2.1.lt hob), Nat.le_trans hS.2.2.1 hz, fun q h1 h2 => (hk q (Nat.lt_of_lt_of_le h1 hS.2.2.1) (fun h9 => h2 (hA q h9))).trans (hS.2.2.2.1 q h1 h2), fun z hz9 => (List.mem_append.mp hz9).elim (hS.2.2.2.2 z) (fun h9 => hA _ (hL1 z h9))⟩
/-- a call of a wrapper -/
theorem l_wrap (C : LCx p l s m args meth c dC dI ad adV cy cL ob b L xs) (hS : LwS s dC dI ad cy cL ob σ f H locs) {y : MethodName} {bytes : ByteArray} {mL iw : Nat} {hh : List (Nat × Nat × Nat × Nat)} {av : List Value} {r : Int32} (hM : Met l y (.codeWith y bytes mL (some .int) hh :: tw3) wRm (va_Pc av (wX dC dI ad adV cy cL ob σ f)) (wY dC dI ad cy cL ob r σ1 f1) 1 6 (wB ad ob))
    (hcw : Cond.codeWith y bytes mL (some .int) hh ∈ tw3) (hst : Cond.static y ∈ tw3) (hlk : Cond.methodLink RL iw y ∈ tw3) (hin : Cond.initialized y.cls ∈ tw3) (hd : y.cls ≠ "java/lang/invoke/MethodHandle" ∧ y.cls ≠ "java/lang/invoke/VarHandle" ∧ (parseMethodDescriptor y.desc).map (fun d => d.parameters.length) = some av.length) (hmL : mL ≤ 6) (hls : ls.size = 7) (hdg : decode code pc = .ok (.invokestatic iw, 3)) (hs0 : st0 = av.reverse) (hf : cells + 1 ≤ room_1.cells ∧ slots + 6 ≤ room_1.slots)
    (kk : ∀ (H1 : Heap) (locs1 : List Loc), LwS s dC dI ad cy cL ob σ1 f1 H1 locs1 → W p l e room_1 s m args below meth c H1 locs1 (cells + 1) (slots + 6) Q (F0 m (pc + 3) ls [.int r])) : W p l e room_1 s m args below meth c H locs cells slots Q (F0 m pc ls st0) := by
  have hE := hS.ex C
  obtain ⟨S, hK, hKl, hE0, hC, hX, hbl, hL, hA, hob1, hob, hI, hlst⟩ := C
  have hrun := vx_runSW (p := p) (l := l) (e := e) (R := room_1) (s := s) (m := m) (args := args) (below := below) (meth := meth) (c := c) (H := H) (locs := locs) (cells := cells) (slots := slots) (g := F0 m pc ls st0) (rest := []) (As := av) S hM
    (vx_cwSW av.length S.2.2.2.2 (gd_3 (fun w h9 => h9) (fun w h9 => by
      unfold va_wsS at h9
      rcases List.mem_append.mp h9 with h9 | h9
      · simp only [List.mem_cons, List.not_mem_nil, or_false] at h9
        rcases h9 with rfl | rfl | rfl
        · exact hlk
        · exact hst
        · exact hin
      · rcases List.mem_cons.mp h9 with rfl | h9
        · exact hcw
        · exact h9)) rfl rfl rfl hd ⟨by decide, by show 8 + (mL + 11) + 559 ≤ 584; omega⟩)
    ⟨wX.blind, fun U hU hW => ⟨rfl, by rw [hU]; exact hS.1, by rw [hU]; exact hS.2.1, va_K.moved hW.alike hK, va_K.moved hW.alike hKl, hE U hU hW, hC.move hW⟩⟩
    rfl rfl hls (by rw [hs0, List.append_nil]) (lv_room (Nat.zero_le _)) hdg hf
  intro T hT X
  obtain ⟨v9, st₀, t, T', L9, h0, X', hL9, e1, e2, ⟨hv, hP1, hO1, hF1, hF2⟩, st⟩ := hrun T hT X
  cases hv
  rw [h0] at hF1 hF2
  have hAB : ∀ q, wB ad ob q → s.heap.size ≤ q := fun q h9 => h9.elim (hA q) (fun h9 => h9 ▸ hob1)
  obtain ⟨t2, a1, b1⟩ := kk T'.heap (locs ++ L9) ⟨by rw [e1]; exact hP1, by rw [e1]; exact hO1, by rw [e1]; exact Nat.le_trans hS.2.2.1 hF1, fun q h1 h2 => by
    rw [e1]
    exact (hF2 q (Nat.lt_of_lt_of_le h1 hS.2.2.1) (fun h9 => h2 (hAB q h9))).trans (hS.2.2.2.1 q h1 h2), fun z hz9 => (List.mem_append.mp hz9).elim (hS.2.2.2.2 z) (fun h9 => hAB _ (hL9 z h9))⟩ T' rfl X'
  exact ⟨t2, st t2 a1, b1⟩
/-- m.thrown() -/
theorem thr_met (hI : wI ad) : iMet l dC dI ad cy (EXs ad adV) mX7_thrown (.inr (7, 0) :: []) σ (some (.inl (σ 7 0 5))) σ := snd_ev (by decide) EXs_ok hI (by
  intro x hx9
  rw [List.mem_singleton.mp hx9]
  show 0 < iCnt 7
  decide) rfl e_thrown
end LR
