/-! ===== soundness: what the interpreter answers, the machine does ===== -/
def twu : List Cond := u_ws RX0 TX0 14 ++ (u_ws RX1 TX1 4 ++ (u_ws RX2 TX2 8 ++ (u_ws RX3 TX3 3 ++ (u_ws RX4 TX4 15 ++ (u_ws RX5 TX5 8 ++ (u_ws RX6 TX6 5 ++ u_ws RX7 TX7 20))))))
def twj : List Cond := [.code yJ0_length_8abf5 cJ0_length_8abf5 1 (some .int), .instanceMethod yJ0_length_8abf5, .selects RJ0 yJ0_length_8abf5 yJ0_length_8abf5, .initialized RJ0, .code yJ0_charAt_5068e cJ0_charAt_5068e 2 (some .char), .instanceMethod yJ0_charAt_5068e, .selects RJ0 yJ0_charAt_5068e yJ0_charAt_5068e, .fieldLink RJ0 9 "java/lang/String" "value" "[B", .methodLink RJ0 335 yJ0_coder_7d493, .instanceMethod yJ0_coder_7d493, .selects RJ0 yJ0_coder_7d493 yJ0_coder_7d493, .code yJ0_coder_7d493 cJ0_coder_7d493 1 (some .byte), .fieldLink RJ0 38 "java/lang/String" "COMPACT_STRINGS" "Z", .fieldLink RJ0 15 "java/lang/String" "coder" "B", .methodLink RJ0 492 yJ0_isLatin1_aae02, .instanceMethod yJ0_isLatin1_aae02, .selects RJ0 yJ0_isLatin1_aae02 yJ0_isLatin1_aae02, .code yJ0_isLatin1_aae02 cJ0_isLatin1_aae02 1 (some .boolean), .methodLink RJ0 495 yJ1_charAt_3b067, .static yJ1_charAt_3b067, .initialized RJ1, .code yJ1_charAt_3b067 cJ1_charAt_3b067 2 (some .char), .methodLink RJ1 9 yJ0_checkIndex_df160, .static yJ0_checkIndex_df160, .code yJ0_checkIndex_df160 cJ0_checkIndex_df160 2 none, .fieldLink RJ0 1053 "jdk/internal/util/Preconditions" "SIOOBE_FORMATTER" "Ljava/util/function/BiFunction;", .methodLink RJ0 1059 yJ3_checkIndex_8e157, .static yJ3_checkIndex_8e157, .initialized RJ3, .code yJ3_checkIndex_8e157 cJ3_checkIndex_8e157 3 (some .int)]
def tw : List Cond := twu ++ (twr ++ twj)
theorem tw_good : tw.all goodWord = true := by decide +kernel
theorem in_r {w : Cond} {i : Nat} (h : twr[i]? = some w) : w ∈ tw := List.mem_append_right _ (List.mem_append_left _ (List.mem_of_getElem? h))
theorem in_j {w : Cond} {i : Nat} (h : twj[i]? = some w) : w ∈ tw := List.mem_append_right _ (List.mem_append_right _ (List.mem_of_getElem? h))
theorem in_u : ∀ (k : Nat), k < 8 → ∀ w ∈ u_ws (iCl k).1 (iCl k).2.1 (iCl k).2.2, w ∈ tw := by
  have key : ∀ (k : Nat), k < 8 → ∀ w ∈ u_ws (iCl k).1 (iCl k).2.1 (iCl k).2.2, w ∈ twu := by
    refine fun k hk => lt8 (P := fun k => ∀ w ∈ u_ws (iCl k).1 (iCl k).2.1 (iCl k).2.2, w ∈ twu) ?_ ?_ ?_ ?_ ?_ ?_ ?_ ?_ k hk
    · exact fun w h => List.mem_append_left _ h
    · exact fun w h => List.mem_append_right _ (List.mem_append_left _ h)
    · exact fun w h => List.mem_append_right _ (List.mem_append_right _ (List.mem_append_left _ h))
    · exact fun w h => List.mem_append_right _ (List.mem_append_right _ (List.mem_append_right _ (List.mem_append_left _ h)))
    · exact fun w h => List.mem_append_right _ (List.mem_append_right _ (List.mem_append_right _ (List.mem_append_right _ (List.mem_append_left _ h))))
    · exact fun w h => List.mem_append_right _ (List.mem_append_right _ (List.mem_append_right _ (List.mem_append_right _ (List.mem_append_right _ (List.mem_append_left _ h)))))
    · exact fun w h => List.mem_append_right _ (List.mem_append_right _ (List.mem_append_right _ (List.mem_append_right _ (List.mem_append_right _ (List.mem_append_right _ (List.mem_append_left _ h))))))
    · exact fun w h => List.mem_append_right _ (List.mem_append_right _ (List.mem_append_right _ (List.mem_append_right _ (List.mem_append_right _ (List.mem_append_right _ (List.mem_append_right _ h))))))
  exact fun k hk w h => List.mem_append_left _ (key k hk w h)
def iWs (j : Nat) : List Cond := .code (iY j) (iCd j) (iMl j) (iRt j) :: tw
theorem ws_tw {j : Nat} {w : Cond} (h : w ∈ tw) : w ∈ iWs j := List.mem_cons_of_mem _ h
theorem tw_good1 {w : Cond} (h : w ∈ tw) : (w.onTables && w.keeps) = true ∨ ∃ ty, w = .arrayClass ty := good_of_word (List.all_eq_true.mp tw_good w h)
theorem good_tw {j : Nat} {ws : List Cond} (h : ∀ w ∈ ws, w ∈ tw) : GoodIn (iWs j) ws := fun w hw => ⟨ws_tw (h w hw), tw_good1 (h w hw)⟩
abbrev iRm (j : Nat) : Room := { frames := iFr j, cells := 0, slots := 0, locals := iLo j }
/-- what chkM says of a method -/
theorem ckM {j : Nat} (h : j < nMt) : Cond.code (iY j) (iCd j) (iMl j) (iRt j) ∈ tw ∧ (bif iStt j then Cond.static (iY j) else Cond.instanceMethod (iY j)) ∈ tw ∧ (iStt j = true ∨ Cond.selects (iOwn j) (iY j) (iY j) ∈ tw) ∧ Cond.initialized (iOwn j) ∈ tw ∧ (iY j).cls = iOwn j ∧ iKd j < 8 ∧ (iCl (iKd j)).1 = iOwn j ∧ plainName (iOwn j) = true ∧ (iOwn j ≠ "java/lang/invoke/MethodHandle" ∧ iOwn j ≠ "java/lang/invoke/VarHandle") ∧ (parseMethodDescriptor (iY j).desc).map (fun d => d.parameters.length) = some (bif iStt j then iNa j else iNa j - 1) ∧ (bif iStt j then 0 else 1) ≤ iNa j ∧ iNa j ≤ iMl j ∧ (∀ e ∈ iTb j, chk j e = true) ∧ chn (iTb j) = true ∧ (∃ e t, iTb j = e :: t ∧ e.1 = 0) := by
  have hc := ck_all j h
  unfold chkM at hc
  simp only [Bool.and_eq_true, Bool.or_eq_true, decide_eq_true_eq, Nat.blt_eq, Nat.ble_eq] at hc
  obtain ⟨⟨⟨⟨⟨⟨⟨⟨⟨⟨⟨⟨⟨⟨c1, c2⟩, c3⟩, c4⟩, c5⟩, c6⟩, c7⟩, c8⟩, c9⟩, c10⟩, c11⟩, c12⟩, c13⟩, c14⟩, c15⟩ := hc
  refine ⟨in_r c1, in_r c2, c3.imp id in_r, in_r c4, c5, c6, c7, c8, c9, c10, c11, c12, fun e he => List.all_eq_true.mp c13 e he, c14, ?_⟩
  split at c15
  · rename_i e t he
    exact ⟨e, t, he, Nat.eq_of_beq_eq_true c15⟩
  · cases c15
theorem geL_spec : ∀ {L : iL} {i : Nat} {k : iV → Option iEv} {ev : iEv}, geL L i k = some ev → ∃ v, L[i]? = some (some v) ∧ k v = some ev
  | [], _, _, _, h => by cases h
  | none :: _, 0, _, _, h => by cases h
  | some v :: _, 0, _, _, h => ⟨v, rfl, h⟩
  | _ :: t, i + 1, k, ev, h => by
    obtain ⟨v, h1, h2⟩ := geL_spec (L := t) (i := i) (k := k) (ev := ev) h
    exact ⟨v, by rw [List.getElem?_cons_succ]; exact h1, h2⟩
theorem geI_spec {L : iL} {i : Nat} {k : Int32 → Option iEv} {ev : iEv} (h : geI L i k = some ev) : ∃ x, L[i]? = some (some (.inl x)) ∧ k x = some ev := by
  obtain ⟨v, h1, h2⟩ := geL_spec h
  cases v with
  | inl x => exact ⟨x, h1, h2⟩
  | inr q => cases h2
theorem geR_spec {L : iL} {i : Nat} {k : Nat → Nat → Option iEv} {ev : iEv} (h : geR L i k = some ev) : ∃ x y, L[i]? = some (some (.inr (x, y))) ∧ k x y = some ev := by
  obtain ⟨v, h1, h2⟩ := geL_spec h
  cases v with
  | inl x => cases h2
  | inr q => exact ⟨q.1, q.2, h1, h2⟩
theorem seL_spec : ∀ {L : iL} {i : Nat} {v : iV} {k : iL → Option iEv} {ev : iEv}, seL L i v k = some ev → i < L.length ∧ k (L.set i (some v)) = some ev
  | [], _, _, _, _, h => by cases h
  | _ :: _, 0, _, _, _, h => ⟨Nat.succ_pos _, h⟩
  | o :: t, i + 1, v, k, ev, h => by
    obtain ⟨h1, h2⟩ := seL_spec (L := t) (i := i) (v := v) (k := fun t' => k (o :: t')) (ev := ev) h
    exact ⟨Nat.succ_lt_succ h1, h2⟩
theorem popN_spec : ∀ {n : Nat} {S : iS} {acc : List iV} {k : List iV → iS → Option iEv} {ev : iEv}, popN n S acc k = some ev → ∃ T S', S = T ++ S' ∧ T.length = n ∧ k (T.reverse ++ acc) S' = some ev
  | 0, S, acc, k, ev, h => ⟨[], S, rfl, rfl, h⟩
  | _ + 1, [], _, _, _, h => by cases h
  | n + 1, v :: S, acc, k, ev, h => by
    obtain ⟨T, S', h1, h2, h3⟩ := popN_spec (n := n) (S := S) (acc := v :: acc) (k := k) (ev := ev) h
    exact ⟨v :: T, S', by rw [h1]; rfl, by simp [h2], by simpa using h3⟩
/-- what a contract says: the start, the end -/
def iPc (dC : Nat → ClassId) (dI : Nat → Nat → Nat) (ad : Nat → Nat → Nat) (cy : Nat → ClassId) (EX : State → Prop) (as : List iV) (σ : iM) : Array Value → State → Prop := va_Pc (as.map (emb ad)) (fun U => va_P (dC, dI) vwCl (wW ad cy σ) U.heap ∧ va_K (dC, dI) vwCl (wT cy) U ∧ EX U)
def iQc (dC : Nat → ClassId) (dI : Nat → Nat → Nat) (ad : Nat → Nat → Nat) (cy : Nat → ClassId) (v : Option iV) (σ : iM) : Array Value → State → Outcome → State → Prop := fun _ st o t => o = .returned (v.map (emb ad)) ∧ va_P (dC, dI) vwCl (wW ad cy σ) t.heap ∧ va_F (wA ad) st t
/-- what must be given of the texts -/
def iEX (l : Launch) (ad : Nat → Nat → Nat) (EX : State → Prop) : Prop :=
  (∀ (s U : State) (locs : List Loc), EX s → s.WarmedH U.vm → va_S (wA ad) s.heap U.heap locs → EX U) ∧
  (∀ (U : State) (g : JFrame) (mk : MethodId) (a : Array Value), EX U → EX (U.calling g mk a)) ∧
  (∀ (s : State), EX s → ∀ q ∈ strTab, ∃ tx, vk_R q.1 q.2.1 tx (ad 16 q.2.2) s) ∧
  (∀ (s : State), EX s → ∀ (H : Heap) (locs : List Loc), va_S (wA ad) s.heap H locs → ∀ i, i < 8 → ∃ cell : Cell, H[ad 16 i]? = some cell ∧ cell.vm.isStatics = false ∧ s.vm.findClass RJ0 = some cell.cls) ∧
  (∀ i, i < 8 → Met l yJ0_length_8abf5 (.code yJ0_length_8abf5 cJ0_length_8abf5 1 (some .int) :: tw) { frames := 4, cells := 0, slots := 0, locals := 100 } (va_Pc [.ref (ad 16 i)] EX) (fun _ st o t => o = .returned (some (.int (Int32.ofNat (sLen i)))) ∧ t.heap = st.heap) 0 0 (fun _ => False)) ∧
  (∀ i, i < 8 → ∀ k : Int32, vp_in k (sLen i) → Met l yJ0_charAt_5068e (.code yJ0_charAt_5068e cJ0_charAt_5068e 2 (some .char) :: tw) { frames := 4, cells := 0, slots := 0, locals := 99 } (va_Pc [.ref (ad 16 i), .int k] EX) (fun _ st o t => o = .returned (some (.int (sCh i k.toNatClampNeg))) ∧ t.heap = st.heap) 0 0 (fun _ => False))
section SND
variable {p : Program} {l : Launch} {e : Env} {s : State} {m : MethodId} {args : Array Value} {below : List Frame} {meth : Method} {c : Code} {dC : Nat → ClassId} {dI : Nat → Nat → Nat} {ad : Nat → Nat → Nat} {cy : Nat → ClassId} {EX : State → Prop}
/-- the machine at a place of method j comes to Q -/
def WAt (p : Program) (l : Launch) (e : Env) (s : State) (m : MethodId) (args : Array Value) (below : List Frame) (meth : Method) (c : Code) (dC : Nat → ClassId) (dI : Nat → Nat → Nat) (ad : Nat → Nat → Nat) (cy : Nat → ClassId) (R : Room) (Q : State → Prop) (j : Nat) (pc : Nat) (L : iL) (S : iS) (σ : iM) : Prop :=
  ∀ (H : Heap) (locs : List Loc) (ls : Array Slot), va_P (dC, dI) vwCl (wW ad cy σ) H → va_S (wA ad) s.heap H locs → LR ad ls L → L.length = iMl j → (∀ v ∈ S, vok v) → (∀ v, some v ∈ L → vok v) →
    W p l e R s m args below meth c H locs 0 0 Q (F0 m pc ls (S.map (emb ad)))
/-- what is known in the body of method j -/
def iCF (p : Program) (l : Launch) (s : State) (m : MethodId) (args : Array Value) (meth : Method) (c : Code) (dC : Nat → ClassId) (dI : Nat → Nat → Nat) (ad : Nat → Nat → Nat) (cy : Nat → ClassId) (EX : State → Prop) (j : Nat) : Prop :=
  j < nMt ∧ p.tables.exec = Jvm.exec ∧ c.code = iCd j ∧ meth.sig.returnType = iRt j ∧ c.maxLocals = iMl j ∧ (∀ w ∈ iWs j, w.before args s = true) ∧ s.vm.findClass (iOwn j) = some m.cls ∧ meth.locks = false ∧ va_K (dC, dI) vwCl (wT cy) s ∧ EX s ∧ iEX l ad EX ∧ wI ad ∧ c.exceptionTable.toList = []
/-- a call's contract -/
def iMet (l : Launch) (dC : Nat → ClassId) (dI : Nat → Nat → Nat) (ad : Nat → Nat → Nat) (cy : Nat → ClassId) (EX : State → Prop) (k : Nat) (as : List iV) (σ : iM) (v : Option iV) (σ1 : iM) : Prop := Met l (iY k) (iWs k) (iRm k) (iPc dC dI ad cy EX as σ) (iQc dC dI ad cy v σ1) 0 0 (wA ad)
def EvW (WA : Nat → iL → iS → iM → Prop) (WC : Nat → List iV → Nat → iL → iS → iM → Prop) (PR : Option iV → iM → Prop) (PT : Nat → iM → Prop) : iEv → Prop
  | .inl (t, L, S, σ) => WA t L S σ
  | .inr (.inl (c, t1, t2, L, S, σ)) => (c → WA t1 L S σ) ∧ (¬ c → WA t2 L S σ)
  | .inr (.inr (.inl (c, t, L, S, σ))) => c ∧ WA t L S σ
  | .inr (.inr (.inr (.inl (k, as, t, L, S, σ)))) => WC k as t L S σ
  | .inr (.inr (.inr (.inr (.inl (v, σ))))) => PR v σ
  | .inr (.inr (.inr (.inr (.inr (.inl (x, σ)))))) => (x = 0 ∨ x = 1) ∧ PR (some (.inl x)) σ
  | .inr (.inr (.inr (.inr (.inr (.inr (.inl (x, ts, t, L, S, σ))))))) => WA (swT x ts t) L S σ
  | .inr (.inr (.inr (.inr (.inr (.inr (.inr (k, σ))))))) => PT k σ
/-- a call's place: a virtual one, or a static one -/
def iCS (j a : Nat) (as : List iV) (pc : Nat) : Prop :=
  (∃ (idx i : Nat) (As : List iV), as = .inr (iKd a, i) :: As ∧ decode (iCd j) pc = .ok (.invokevirtual idx, 3) ∧ Cond.methodLink (iOwn j) idx (iY a) ∈ tw ∧ iStt a = false) ∨
  (∃ (idx : Nat), decode (iCd j) pc = .ok (.invokestatic idx, 3) ∧ Cond.methodLink (iOwn j) idx (iY a) ∈ tw ∧ iStt a = true ∧ iOwn a = iOwn j)
/-- a return's place -/
def iRS (j : Nat) (v : Option iV) (pc : Nat) : Prop :=
  (∃ x : Int32, v = some (.inl x) ∧ decode (iCd j) pc = .ok (.ireturn, 1) ∧ iRt j = some .int) ∨
  (∃ x : Int32, v = some (.inl x) ∧ decode (iCd j) pc = .ok (.ireturn, 1) ∧ iRt j = some .boolean ∧ (x = 0 ∨ x = 1)) ∨
  (∃ (k i : Nat) (nm : String), v = some (.inr (k, i)) ∧ decode (iCd j) pc = .ok (.areturn, 1) ∧ iRt j = some (.object nm)) ∨
  (v = none ∧ decode (iCd j) pc = .ok (.return_, 1) ∧ iRt j = none)
def iNw : Instr → Bool
  | .new _ => true
  | _ => false
theorem vok_cons {v : iV} {S : iS} (h : vok v) (hS : ∀ w ∈ S, vok w) : ∀ w ∈ v :: S, vok w := fun w hw => (List.mem_cons.mp hw).elim (fun q => q ▸ h) (hS w)
theorem vok_set {L : iL} {i : Nat} {v : iV} (hv : vok v) (hL : ∀ w, some w ∈ L → vok w) : ∀ w, some w ∈ L.set i (some v) → vok w := fun w hw => (List.mem_or_eq_of_mem_set hw).elim (hL w) (fun q => by cases q; exact hv)
/-- behind a call -/
theorem call_go {R : Room} {H : Heap} {locs : List Loc} {Q : State → Prop} {pc : Nat} {ls : Array Slot} {st0 rest : List Value} {Qa : State → Outcome → State → Prop} {free : Addr → Prop} (hr : va_Run p l e R s m args below meth c H locs 0 0 0 0 (F0 m pc ls st0) rest Qa free)
    (kk : ∀ (v : Option Value) (st t : State) (H1 : Heap) (L1 : List Loc), st.heap = H → H1 = t.heap → Qa st (.returned v) t → (∀ q ∈ L1, free q.base) → W p l e R s m args below meth c H1 (locs ++ L1) 0 0 Q (F0 m (pc + 3) ls (v.toList ++ rest))) : W p l e R s m args below meth c H locs 0 0 Q (F0 m pc ls st0) := by
  intro T hT X
  obtain ⟨v, st₀, t, T', L, h0, X', hL, e1, e2, hq, st⟩ := hr T hT X
  obtain ⟨t2, a1, b1⟩ := kk v st₀ t T'.heap L h0 e1 hq hL T' rfl X'
  exact ⟨t2, st t2 a1, b1⟩
theorem va_S.call {A free : Nat → Prop} {H0 H H1 : Heap} {locs L : List Loc} (hS : va_S A H0 H locs) (h1 : H.size ≤ H1.size) (h2 : ∀ q : Nat, q < H.size → ¬ A q → H1[q]? = H[q]?) (hL : ∀ q ∈ L, A q.base) : va_S A H0 H1 (locs ++ L) :=
  ⟨Nat.le_trans hS.1 h1, fun q a b => (h2 q (Nat.lt_of_lt_of_le a hS.1) b).trans (hS.2.1 q a b), fun q hq => (List.mem_append.mp hq).elim (hS.2.2 q) (hL q)⟩
end SND
