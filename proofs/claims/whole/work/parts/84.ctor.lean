/-! ===== the small constructors (written by mk84.py) ===== -/
def cF (h : Nat) : Nat → Prop := fun q => h ≤ q
/-- a constructor's start: the cells from h on; its end: the cells that it has made, from h on -/
def cP (D : va_G) (cy : Nat → ClassId) (h n : Nat) (G : Nat → va_E) (U : State) : Prop := U.heap.size = h + n ∧ (∀ k, k < n → va_at D vwCl (h + k, G k) U.heap) ∧ va_K D vwCl (wT cy) U ∧ NB U
def cQ (D : va_G) (h w : Nat) (Cf : Nat → va_E) : Array Value → State → Outcome → State → Prop := fun _ st o t => o = .returned none ∧ t.heap.size = h + w ∧ (∀ k, k < w → va_at D vwCl (h + k, Cf k) t.heap) ∧ ∀ q, q < h → t.heap[q]? = st.heap[q]?
theorem cP.call {D : va_G} {cy : Nat → ClassId} {h n : Nat} {G : Nat → va_E} {U : State} (g : JFrame) (mk : MethodId) (a : Array Value) (hP : cP D cy h n G U) : cP D cy h n G (U.calling g mk a) := ⟨hP.1, hP.2.1, va_K.moved (u := U) (U := U.calling g mk a) (Vm.Alike.refl U.vm) hP.2.2.1, hP.2.2.2.move (State.WarmedH.refl U)⟩
/-- the contract of a constructor, or of a method that is called in one -/
def cM (l : Launch) (D : va_G) (cy : Nat → ClassId) (y : MethodName) (cc : ByteArray) (mL fr lo mc ms h n w : Nat) (G Cf : Nat → va_E) : Prop := Met l y (.code y cc mL none :: tw2) { frames := fr, cells := mc, slots := ms, locals := lo } (va_Pc [.ref h] (cP D cy h n G)) (cQ D h w Cf) mc ms (cF h)
def fO : List Value := [.int 0, .int 0, .int 0, .int 0, .int 0, .int 0, .int 0, .int 0, .int 0, .int 0, .int 0, .int 0, .int 0, .int 0]
def eO : va_E := .inr (0, fO)
def gP (cy : Nat → ClassId) (h k : Nat) : va_E := match k with
  | 0 => .inr (1, [.ref (h + 1), .ref (h + 2), .int 0, .int (-1)])
  | _ => .inl (cy 8, 6, .inl (fun _ => 0))
def gR (cy : Nat → ClassId) (h k : Nat) : va_E := match k with
  | 0 => .inr (2, [.ref (h + 1), .int 0, .int 0, .int 0, .int (-1), .int 0, .int 0, .ref (h + 2)])
  | 1 => .inl (cy 8, 700, .inl (fun _ => 0))
  | _ => .inl (cy 8, 24, .inl (fun _ => 0))
def gSc (cy : Nat → ClassId) (h k : Nat) : va_E := match k with
  | 0 => .inr (3, [.ref (h + 1), .ref (h + 2), .int 0])
  | _ => .inl (cy 8, 24, .inl (fun _ => 0))
def fSt : List Value := [.int 0, .int 0, .int (-1), .int (-1), .int 0, .int 0, .int 0, .int 0]
def eSt : va_E := .inr (5, fSt)
set_option maxHeartbeats 2000000 in
theorem c_X0 (l : Launch) (D : va_G) (cy : Nat → ClassId) (h : Nat) : cM l D cy yX0_init cX0_init 1 1 12 0 0 h 1 1 (fun _ => .inr (0, [.int 0, .int 0, .int 0, .int 0, .int 0, .int 0, .int 0, .int 0, .int 0, .int 0, .int 0, .int 0, .int 0, .int 0])) (fun _ => eO) := by
  show Met _ _ _ _ _ _ _ _ _
  generalize hCf : (fun _ => eO : Nat → va_E) = Cf
  refine Met.ofW (cc := cX0_init) (maxL := 1) (ret := none) (by decide) rfl ?_
  intro p e s m args below meth c s₁ B hml hv
  obtain ⟨rfl, hsz, hat, hK, hNB⟩ := hv
  have hx := B.exec
  have hb := B.bytes
  have hr := B.returns
  have hts := atoms_spec (ws := .code yX0_init cX0_init 1 none :: tw2) B.pre
  have hown : s.vm.findClass RX0 = some m.cls := findClass_of_methodNamed B.named
  have hlocks := B.notSynchronized
  have hin : meth.name = "<init>" := (name_of_methodNamed B.named B.method).1
  have hF : ∀ q, h ≤ q → cF h q := fun _ h9 => h9
  have hFk : ∀ k, cF h (h + k) := fun k => Nat.le_add_right h k
  have hl := lv_entry ([.ref h]) (n := 1) (Nat.le_of_ble_eq_true rfl)
  rw [lg_entry_eq]
  generalize (lg_sl ([.ref h]) ++ List.replicate (1 - (lg_sl ([.ref h])).length) Slot.unset).toArray = ls at hl ⊢
  have hl : lv_has ls 1 [(0, .ref h)] := hl
  have hS : cS D (cF h) h 1 (h + 1) (fun _ => .inr (0, [.int 0, .int 0, .int 0, .int 0, .int 0, .int 0, .int 0, .int 0, .int 0, .int 0, .int 0, .int 0, .int 0, .int 0])) s.heap s.heap [] := ⟨hsz, hat, fun _ _ => rfl, fun _ h9 => nomatch h9⟩
  refine lv_aload_n (k := 0) (i := 0) (x := h) hx hb (by decide +kernel) rfl (lv_at hl 0 rfl) ?_
  refine W.objInit hx hb hown (hts _ (List.mem_cons_of_mem _ (w2c (i := 3) rfl))) (hts _ (List.mem_cons_of_mem _ (w2c (i := 32) rfl))) (hts _ (List.mem_cons_of_mem _ (w2c (i := 33) rfl))) rfl (by rw [hml]; exact hl.1) rfl (show decode cX0_init 1 = .ok (.invokespecial 3, 3) by decide +kernel) (Nat.le_of_ble_eq_true rfl) (Nat.le_of_ble_eq_true rfl) ?_
  refine W.eq (g2 := F0 m 4 ls []) rfl ?_
  have hS := hS.to (G' := Cf) (by
    rw [← hCf]
    intro k hk
    match k, hk with
    | 0, _ => rfl)
  exact W.vret hx hb hr (fun t ht hW => ⟨rfl, by rw [ht]; exact hS.1, fun k hk => by rw [ht]; exact hS.2.1 k hk, fun q hq => (congrArg (fun z : Heap => z[q]?) ht).trans (hS.2.2.1 q (Nat.not_le.mpr hq))⟩) hS.2.2.2 (by decide +kernel)
set_option maxHeartbeats 2000000 in
theorem c_X1 (l : Launch) (D : va_G) (cy : Nat → ClassId) (h : Nat) : cM l D cy yX1_init cX1_init 1 1 12 2 12 h 1 3 (fun _ => .inr (1, [.null, .null, .int 0, .int 0])) (gP cy h) := by
  show Met _ _ _ _ _ _ _ _ _
  generalize hCf : (gP cy h : Nat → va_E) = Cf
  refine Met.ofW (cc := cX1_init) (maxL := 1) (ret := none) (by decide) rfl ?_
  intro p e s m args below meth c s₁ B hml hv
  obtain ⟨rfl, hsz, hat, hK, hNB⟩ := hv
  have hx := B.exec
  have hb := B.bytes
  have hr := B.returns
  have hts := atoms_spec (ws := .code yX1_init cX1_init 1 none :: tw2) B.pre
  have hown : s.vm.findClass RX1 = some m.cls := findClass_of_methodNamed B.named
  have hlocks := B.notSynchronized
  have hin : meth.name = "<init>" := (name_of_methodNamed B.named B.method).1
  have hF : ∀ q, h ≤ q → cF h q := fun _ h9 => h9
  have hFk : ∀ k, cF h (h + k) := fun k => Nat.le_add_right h k
  have hl := lv_entry ([.ref h]) (n := 1) (Nat.le_of_ble_eq_true rfl)
  rw [lg_entry_eq]
  generalize (lg_sl ([.ref h]) ++ List.replicate (1 - (lg_sl ([.ref h])).length) Slot.unset).toArray = ls at hl ⊢
  have hl : lv_has ls 1 [(0, .ref h)] := hl
  have hS : cS D (cF h) h 1 (h + 1) (fun _ => .inr (1, [.null, .null, .int 0, .int 0])) s.heap s.heap [] := ⟨hsz, hat, fun _ _ => rfl, fun _ h9 => nomatch h9⟩
  refine lv_aload_n (k := 0) (i := 0) (x := h) hx hb (by decide +kernel) rfl (lv_at hl 0 rfl) ?_
  refine W.objInit hx hb hown (hts _ (List.mem_cons_of_mem _ (w2c (i := 7) rfl))) (hts _ (List.mem_cons_of_mem _ (w2c (i := 32) rfl))) (hts _ (List.mem_cons_of_mem _ (w2c (i := 33) rfl))) rfl (by rw [hml]; exact hl.1) rfl (show decode cX1_init 1 = .ok (.invokespecial 3, 3) by decide +kernel) (Nat.le_of_ble_eq_true rfl) (Nat.le_of_ble_eq_true rfl) ?_
  refine W.eq (g2 := F0 m 4 ls []) rfl ?_
  refine lv_aload_n (k := 0) (i := 0) (x := h) hx hb (by decide +kernel) rfl (lv_at hl 0 rfl) ?_
  refine lv_bipush (n := 6) (v := 6) hx hb (by decide +kernel) (by decide) ?_
  refine b_newa (atype := .int) (cA := cy 8) (k := 6) (N := 6) hx hb (hts _ (List.mem_cons_of_mem _ (w2c (i := 40) rfl))) (hK.2 0 _ rfl).2 hS hF (6, .inl (fun _ => 0)) (fun _ => rfl) (by decide) (by decide) (by decide) (Nat.le_of_ble_eq_true rfl) (Nat.le_of_ble_eq_true rfl) (by decide +kernel) (fun H hS => ?_)
  refine b_putF (ty := .array .int) (v := .ref (h + 1)) hx hb hown hts hK 1 (by decide) hS 0 (by decide) rfl (hFk 0) rfl 0 (by decide) (hts _ (List.mem_cons_of_mem _ (w2r (i := 17) rfl))) rfl hin rfl (by decide +kernel) rfl rfl (Nat.le_of_ble_eq_true rfl) (by decide +kernel) (fun H locs hS => ?_)
  refine lv_aload_n (k := 0) (i := 0) (x := h) hx hb (by decide +kernel) rfl (lv_at hl 0 rfl) ?_
  refine lv_bipush (n := 6) (v := 6) hx hb (by decide +kernel) (by decide) ?_
  refine b_newa (atype := .int) (cA := cy 8) (k := 6) (N := 6) hx hb (hts _ (List.mem_cons_of_mem _ (w2c (i := 40) rfl))) (hK.2 0 _ rfl).2 hS hF (6, .inl (fun _ => 0)) (fun _ => rfl) (by decide) (by decide) (by decide) (Nat.le_of_ble_eq_true rfl) (Nat.le_of_ble_eq_true rfl) (by decide +kernel) (fun H hS => ?_)
  refine b_putF (ty := .array .int) (v := .ref (h + 2)) hx hb hown hts hK 1 (by decide) hS 0 (by decide) rfl (hFk 0) rfl 1 (by decide) (hts _ (List.mem_cons_of_mem _ (w2r (i := 18) rfl))) rfl hin rfl (by decide +kernel) rfl rfl (Nat.le_of_ble_eq_true rfl) (by decide +kernel) (fun H locs hS => ?_)
  refine lv_aload_n (k := 0) (i := 0) (x := h) hx hb (by decide +kernel) rfl (lv_at hl 0 rfl) ?_
  refine lv_iconst (n := (-1)) (v := (-1)) hx hb (by decide +kernel) rfl ?_
  refine b_put (ty := .int) (v := .int (-1)) hx hb hown hts hK 1 (by decide) hS 0 (by decide) rfl (hFk 0) rfl 3 (by decide) (hts _ (List.mem_cons_of_mem _ (w2r (i := 16) rfl))) rfl rfl (by decide +kernel) rfl rfl (Nat.le_of_ble_eq_true rfl) (by decide +kernel) (fun H locs hS => ?_)
  have hS := hS.to (G' := Cf) (by
    rw [← hCf]
    intro k hk
    match k, hk with
    | 0, _ => rfl
    | 1, _ => rfl
    | 2, _ => rfl)
  exact W.vret hx hb hr (fun t ht hW => ⟨rfl, by rw [ht]; exact hS.1, fun k hk => by rw [ht]; exact hS.2.1 k hk, fun q hq => (congrArg (fun z : Heap => z[q]?) ht).trans (hS.2.2.1 q (Nat.not_le.mpr hq))⟩) hS.2.2.2 (by decide +kernel)
set_option maxHeartbeats 2000000 in
theorem c_X2 (l : Launch) (D : va_G) (cy : Nat → ClassId) (h : Nat) : cM l D cy yX2_init cX2_init 1 1 12 2 724 h 1 3 (fun _ => .inr (2, [.null, .int 0, .int 0, .int 0, .int 0, .int 0, .int 0, .null])) (gR cy h) := by
  show Met _ _ _ _ _ _ _ _ _
  generalize hCf : (gR cy h : Nat → va_E) = Cf
  refine Met.ofW (cc := cX2_init) (maxL := 1) (ret := none) (by decide) rfl ?_
  intro p e s m args below meth c s₁ B hml hv
  obtain ⟨rfl, hsz, hat, hK, hNB⟩ := hv
  have hx := B.exec
  have hb := B.bytes
  have hr := B.returns
  have hts := atoms_spec (ws := .code yX2_init cX2_init 1 none :: tw2) B.pre
  have hown : s.vm.findClass RX2 = some m.cls := findClass_of_methodNamed B.named
  have hlocks := B.notSynchronized
  have hin : meth.name = "<init>" := (name_of_methodNamed B.named B.method).1
  have hF : ∀ q, h ≤ q → cF h q := fun _ h9 => h9
  have hFk : ∀ k, cF h (h + k) := fun k => Nat.le_add_right h k
  have hl := lv_entry ([.ref h]) (n := 1) (Nat.le_of_ble_eq_true rfl)
  rw [lg_entry_eq]
  generalize (lg_sl ([.ref h]) ++ List.replicate (1 - (lg_sl ([.ref h])).length) Slot.unset).toArray = ls at hl ⊢
  have hl : lv_has ls 1 [(0, .ref h)] := hl
  have hS : cS D (cF h) h 1 (h + 1) (fun _ => .inr (2, [.null, .int 0, .int 0, .int 0, .int 0, .int 0, .int 0, .null])) s.heap s.heap [] := ⟨hsz, hat, fun _ _ => rfl, fun _ h9 => nomatch h9⟩
  refine lv_aload_n (k := 0) (i := 0) (x := h) hx hb (by decide +kernel) rfl (lv_at hl 0 rfl) ?_
  refine W.objInit hx hb hown (hts _ (List.mem_cons_of_mem _ (w2c (i := 11) rfl))) (hts _ (List.mem_cons_of_mem _ (w2c (i := 32) rfl))) (hts _ (List.mem_cons_of_mem _ (w2c (i := 33) rfl))) rfl (by rw [hml]; exact hl.1) rfl (show decode cX2_init 1 = .ok (.invokespecial 3, 3) by decide +kernel) (Nat.le_of_ble_eq_true rfl) (Nat.le_of_ble_eq_true rfl) ?_
  refine W.eq (g2 := F0 m 4 ls []) rfl ?_
  refine lv_aload_n (k := 0) (i := 0) (x := h) hx hb (by decide +kernel) rfl (lv_at hl 0 rfl) ?_
  refine lv_sipush (n := 700) (v := 700) hx hb (by decide +kernel) (by decide) ?_
  refine b_newa (atype := .int) (cA := cy 8) (k := 700) (N := 700) hx hb (hts _ (List.mem_cons_of_mem _ (w2c (i := 40) rfl))) (hK.2 0 _ rfl).2 hS hF (700, .inl (fun _ => 0)) (fun _ => rfl) (by decide) (by decide) (by decide) (Nat.le_of_ble_eq_true rfl) (Nat.le_of_ble_eq_true rfl) (by decide +kernel) (fun H hS => ?_)
  refine b_putF (ty := .array .int) (v := .ref (h + 1)) hx hb hown hts hK 2 (by decide) hS 0 (by decide) rfl (hFk 0) rfl 0 (by decide) (hts _ (List.mem_cons_of_mem _ (w2r (i := 20) rfl))) rfl hin rfl (by decide +kernel) rfl rfl (Nat.le_of_ble_eq_true rfl) (by decide +kernel) (fun H locs hS => ?_)
  refine lv_aload_n (k := 0) (i := 0) (x := h) hx hb (by decide +kernel) rfl (lv_at hl 0 rfl) ?_
  refine lv_iconst (n := (-1)) (v := (-1)) hx hb (by decide +kernel) rfl ?_
  refine b_put (ty := .int) (v := .int (-1)) hx hb hown hts hK 2 (by decide) hS 0 (by decide) rfl (hFk 0) rfl 4 (by decide) (hts _ (List.mem_cons_of_mem _ (w2r (i := 29) rfl))) rfl rfl (by decide +kernel) rfl rfl (Nat.le_of_ble_eq_true rfl) (by decide +kernel) (fun H locs hS => ?_)
  refine lv_aload_n (k := 0) (i := 0) (x := h) hx hb (by decide +kernel) rfl (lv_at hl 0 rfl) ?_
  refine lv_bipush (n := 24) (v := 24) hx hb (by decide +kernel) (by decide) ?_
  refine b_newa (atype := .int) (cA := cy 8) (k := 24) (N := 24) hx hb (hts _ (List.mem_cons_of_mem _ (w2c (i := 40) rfl))) (hK.2 0 _ rfl).2 hS hF (24, .inl (fun _ => 0)) (fun _ => rfl) (by decide) (by decide) (by decide) (Nat.le_of_ble_eq_true rfl) (Nat.le_of_ble_eq_true rfl) (by decide +kernel) (fun H hS => ?_)
  refine b_putF (ty := .array .int) (v := .ref (h + 2)) hx hb hown hts hK 2 (by decide) hS 0 (by decide) rfl (hFk 0) rfl 7 (by decide) (hts _ (List.mem_cons_of_mem _ (w2r (i := 58) rfl))) rfl hin rfl (by decide +kernel) rfl rfl (Nat.le_of_ble_eq_true rfl) (by decide +kernel) (fun H locs hS => ?_)
  have hS := hS.to (G' := Cf) (by
    rw [← hCf]
    intro k hk
    match k, hk with
    | 0, _ => rfl
    | 1, _ => rfl
    | 2, _ => rfl)
  exact W.vret hx hb hr (fun t ht hW => ⟨rfl, by rw [ht]; exact hS.1, fun k hk => by rw [ht]; exact hS.2.1 k hk, fun q hq => (congrArg (fun z : Heap => z[q]?) ht).trans (hS.2.2.1 q (Nat.not_le.mpr hq))⟩) hS.2.2.2 (by decide +kernel)
set_option maxHeartbeats 2000000 in
theorem c_X3 (l : Launch) (D : va_G) (cy : Nat → ClassId) (h : Nat) : cM l D cy yX3_init cX3_init 1 1 12 2 48 h 1 3 (fun _ => .inr (3, [.null, .null, .int 0])) (gSc cy h) := by
  show Met _ _ _ _ _ _ _ _ _
  generalize hCf : (gSc cy h : Nat → va_E) = Cf
  refine Met.ofW (cc := cX3_init) (maxL := 1) (ret := none) (by decide) rfl ?_
  intro p e s m args below meth c s₁ B hml hv
  obtain ⟨rfl, hsz, hat, hK, hNB⟩ := hv
  have hx := B.exec
  have hb := B.bytes
  have hr := B.returns
  have hts := atoms_spec (ws := .code yX3_init cX3_init 1 none :: tw2) B.pre
  have hown : s.vm.findClass RX3 = some m.cls := findClass_of_methodNamed B.named
  have hlocks := B.notSynchronized
  have hin : meth.name = "<init>" := (name_of_methodNamed B.named B.method).1
  have hF : ∀ q, h ≤ q → cF h q := fun _ h9 => h9
  have hFk : ∀ k, cF h (h + k) := fun k => Nat.le_add_right h k
  have hl := lv_entry ([.ref h]) (n := 1) (Nat.le_of_ble_eq_true rfl)
  rw [lg_entry_eq]
  generalize (lg_sl ([.ref h]) ++ List.replicate (1 - (lg_sl ([.ref h])).length) Slot.unset).toArray = ls at hl ⊢
  have hl : lv_has ls 1 [(0, .ref h)] := hl
  have hS : cS D (cF h) h 1 (h + 1) (fun _ => .inr (3, [.null, .null, .int 0])) s.heap s.heap [] := ⟨hsz, hat, fun _ _ => rfl, fun _ h9 => nomatch h9⟩
  refine lv_aload_n (k := 0) (i := 0) (x := h) hx hb (by decide +kernel) rfl (lv_at hl 0 rfl) ?_
  refine W.objInit hx hb hown (hts _ (List.mem_cons_of_mem _ (w2c (i := 15) rfl))) (hts _ (List.mem_cons_of_mem _ (w2c (i := 32) rfl))) (hts _ (List.mem_cons_of_mem _ (w2c (i := 33) rfl))) rfl (by rw [hml]; exact hl.1) rfl (show decode cX3_init 1 = .ok (.invokespecial 3, 3) by decide +kernel) (Nat.le_of_ble_eq_true rfl) (Nat.le_of_ble_eq_true rfl) ?_
  refine W.eq (g2 := F0 m 4 ls []) rfl ?_
  refine lv_aload_n (k := 0) (i := 0) (x := h) hx hb (by decide +kernel) rfl (lv_at hl 0 rfl) ?_
  refine lv_bipush (n := 24) (v := 24) hx hb (by decide +kernel) (by decide) ?_
  refine b_newa (atype := .int) (cA := cy 8) (k := 24) (N := 24) hx hb (hts _ (List.mem_cons_of_mem _ (w2c (i := 40) rfl))) (hK.2 0 _ rfl).2 hS hF (24, .inl (fun _ => 0)) (fun _ => rfl) (by decide) (by decide) (by decide) (Nat.le_of_ble_eq_true rfl) (Nat.le_of_ble_eq_true rfl) (by decide +kernel) (fun H hS => ?_)
  refine b_putF (ty := .array .int) (v := .ref (h + 1)) hx hb hown hts hK 3 (by decide) hS 0 (by decide) rfl (hFk 0) rfl 0 (by decide) (hts _ (List.mem_cons_of_mem _ (w2r (i := 75) rfl))) rfl hin rfl (by decide +kernel) rfl rfl (Nat.le_of_ble_eq_true rfl) (by decide +kernel) (fun H locs hS => ?_)
  refine lv_aload_n (k := 0) (i := 0) (x := h) hx hb (by decide +kernel) rfl (lv_at hl 0 rfl) ?_
  refine lv_bipush (n := 24) (v := 24) hx hb (by decide +kernel) (by decide) ?_
  refine b_newa (atype := .int) (cA := cy 8) (k := 24) (N := 24) hx hb (hts _ (List.mem_cons_of_mem _ (w2c (i := 40) rfl))) (hK.2 0 _ rfl).2 hS hF (24, .inl (fun _ => 0)) (fun _ => rfl) (by decide) (by decide) (by decide) (Nat.le_of_ble_eq_true rfl) (Nat.le_of_ble_eq_true rfl) (by decide +kernel) (fun H hS => ?_)
  refine b_putF (ty := .array .int) (v := .ref (h + 2)) hx hb hown hts hK 3 (by decide) hS 0 (by decide) rfl (hFk 0) rfl 1 (by decide) (hts _ (List.mem_cons_of_mem _ (w2r (i := 78) rfl))) rfl hin rfl (by decide +kernel) rfl rfl (Nat.le_of_ble_eq_true rfl) (by decide +kernel) (fun H locs hS => ?_)
  have hS := hS.to (G' := Cf) (by
    rw [← hCf]
    intro k hk
    match k, hk with
    | 0, _ => rfl
    | 1, _ => rfl
    | 2, _ => rfl)
  exact W.vret hx hb hr (fun t ht hW => ⟨rfl, by rw [ht]; exact hS.1, fun k hk => by rw [ht]; exact hS.2.1 k hk, fun q hq => (congrArg (fun z : Heap => z[q]?) ht).trans (hS.2.2.1 q (Nat.not_le.mpr hq))⟩) hS.2.2.2 (by decide +kernel)
set_option maxHeartbeats 2000000 in
theorem c_X5 (l : Launch) (D : va_G) (cy : Nat → ClassId) (h : Nat) : cM l D cy yX5_init cX5_init 1 1 12 0 0 h 1 1 (fun _ => .inr (5, [.int 0, .int 0, .int 0, .int 0, .int 0, .int 0, .int 0, .int 0])) (fun _ => eSt) := by
  show Met _ _ _ _ _ _ _ _ _
  generalize hCf : (fun _ => eSt : Nat → va_E) = Cf
  refine Met.ofW (cc := cX5_init) (maxL := 1) (ret := none) (by decide) rfl ?_
  intro p e s m args below meth c s₁ B hml hv
  obtain ⟨rfl, hsz, hat, hK, hNB⟩ := hv
  have hx := B.exec
  have hb := B.bytes
  have hr := B.returns
  have hts := atoms_spec (ws := .code yX5_init cX5_init 1 none :: tw2) B.pre
  have hown : s.vm.findClass RX5 = some m.cls := findClass_of_methodNamed B.named
  have hlocks := B.notSynchronized
  have hin : meth.name = "<init>" := (name_of_methodNamed B.named B.method).1
  have hF : ∀ q, h ≤ q → cF h q := fun _ h9 => h9
  have hFk : ∀ k, cF h (h + k) := fun k => Nat.le_add_right h k
  have hl := lv_entry ([.ref h]) (n := 1) (Nat.le_of_ble_eq_true rfl)
  rw [lg_entry_eq]
  generalize (lg_sl ([.ref h]) ++ List.replicate (1 - (lg_sl ([.ref h])).length) Slot.unset).toArray = ls at hl ⊢
  have hl : lv_has ls 1 [(0, .ref h)] := hl
  have hS : cS D (cF h) h 1 (h + 1) (fun _ => .inr (5, [.int 0, .int 0, .int 0, .int 0, .int 0, .int 0, .int 0, .int 0])) s.heap s.heap [] := ⟨hsz, hat, fun _ _ => rfl, fun _ h9 => nomatch h9⟩
  refine lv_aload_n (k := 0) (i := 0) (x := h) hx hb (by decide +kernel) rfl (lv_at hl 0 rfl) ?_
  refine W.objInit hx hb hown (hts _ (List.mem_cons_of_mem _ (w2c (i := 23) rfl))) (hts _ (List.mem_cons_of_mem _ (w2c (i := 32) rfl))) (hts _ (List.mem_cons_of_mem _ (w2c (i := 33) rfl))) rfl (by rw [hml]; exact hl.1) rfl (show decode cX5_init 1 = .ok (.invokespecial 3, 3) by decide +kernel) (Nat.le_of_ble_eq_true rfl) (Nat.le_of_ble_eq_true rfl) ?_
  refine W.eq (g2 := F0 m 4 ls []) rfl ?_
  refine lv_aload_n (k := 0) (i := 0) (x := h) hx hb (by decide +kernel) rfl (lv_at hl 0 rfl) ?_
  refine lv_iconst (n := (-1)) (v := (-1)) hx hb (by decide +kernel) rfl ?_
  refine b_put (ty := .int) (v := .int (-1)) hx hb hown hts hK 5 (by decide) hS 0 (by decide) rfl (hFk 0) rfl 2 (by decide) (hts _ (List.mem_cons_of_mem _ (w2r (i := 164) rfl))) rfl rfl (by decide +kernel) rfl rfl (Nat.le_of_ble_eq_true rfl) (by decide +kernel) (fun H locs hS => ?_)
  refine lv_aload_n (k := 0) (i := 0) (x := h) hx hb (by decide +kernel) rfl (lv_at hl 0 rfl) ?_
  refine lv_iconst (n := (-1)) (v := (-1)) hx hb (by decide +kernel) rfl ?_
  refine b_put (ty := .int) (v := .int (-1)) hx hb hown hts hK 5 (by decide) hS 0 (by decide) rfl (hFk 0) rfl 3 (by decide) (hts _ (List.mem_cons_of_mem _ (w2r (i := 165) rfl))) rfl rfl (by decide +kernel) rfl rfl (Nat.le_of_ble_eq_true rfl) (by decide +kernel) (fun H locs hS => ?_)
  have hS := hS.to (G' := Cf) (by
    rw [← hCf]
    intro k hk
    match k, hk with
    | 0, _ => rfl)
  exact W.vret hx hb hr (fun t ht hW => ⟨rfl, by rw [ht]; exact hS.1, fun k hk => by rw [ht]; exact hS.2.1 k hk, fun q hq => (congrArg (fun z : Heap => z[q]?) ht).trans (hS.2.2.1 q (Nat.not_le.mpr hq))⟩) hS.2.2.2 (by decide +kernel)
/-- Station.clear on a new station: it stays as it is -/
def cPs (D : va_G) (cy : Nat → ClassId) (h : Nat) (U : State) : Prop := va_at D vwCl (h, eSt) U.heap ∧ va_K D vwCl (wT cy) U
theorem c_X5c (l : Launch) (D : va_G) (cy : Nat → ClassId) (h : Nat) : Met l yX5_clear (.code yX5_clear cX5_clear 1 none :: tw2) { frames := 0, cells := 0, slots := 0, locals := 0 } (va_Pc [.ref h] (cPs D cy h)) (fun _ st o t => o = .returned none ∧ t.heap.size = st.heap.size ∧ va_at D vwCl (h, eSt) t.heap ∧ ∀ q, q ≠ h → t.heap[q]? = st.heap[q]?) 0 0 (fun q => q = h) := by
  refine Met.ofW (cc := cX5_clear) (maxL := 1) (ret := none) (by decide) rfl ?_
  intro p e s m args below meth c s₁ B hml hv
  obtain ⟨rfl, hat, hK⟩ := hv
  have hx := B.exec
  have hb := B.bytes
  have hr := B.returns
  have hts := atoms_spec (ws := .code yX5_clear cX5_clear 1 none :: tw2) B.pre
  have hown : s.vm.findClass RX5 = some m.cls := findClass_of_methodNamed B.named
  have hlocks := B.notSynchronized
  have hin : meth.name = "clear" := (name_of_methodNamed B.named B.method).1
  have hl := lv_entry ([.ref h]) (n := 1) (Nat.le_of_ble_eq_true rfl)
  rw [lg_entry_eq]
  generalize (lg_sl ([.ref h]) ++ List.replicate (1 - (lg_sl ([.ref h])).length) Slot.unset).toArray = ls at hl ⊢
  have hl : lv_has ls 1 [(0, .ref h)] := hl
  have hS : cS D (fun q => q = h) h 1 s.heap.size (fun _ => eSt) s.heap s.heap [] := ⟨rfl, fun k hk => by
    obtain rfl : k = 0 := by omega
    exact hat, fun _ _ => rfl, fun _ h9 => nomatch h9⟩
  refine lv_aload_n (k := 0) (i := 0) (x := h) hx hb (by decide +kernel) rfl (lv_at hl 0 rfl) ?_
  refine lv_iconst (n := 0) (v := 0) hx hb (by decide +kernel) rfl ?_
  refine b_put (ty := .int) (v := .int (0)) hx hb hown hts hK 5 (by decide) hS 0 (by decide) rfl rfl rfl 0 (by decide) (hts _ (List.mem_cons_of_mem _ (w2r (i := 162) rfl))) rfl rfl (by decide +kernel) rfl rfl (Nat.le_of_ble_eq_true rfl) (by decide +kernel) (fun H locs hS => ?_)
  refine lv_aload_n (k := 0) (i := 0) (x := h) hx hb (by decide +kernel) rfl (lv_at hl 0 rfl) ?_
  refine lv_iconst (n := 0) (v := 0) hx hb (by decide +kernel) rfl ?_
  refine b_put (ty := .int) (v := .int (0)) hx hb hown hts hK 5 (by decide) hS 0 (by decide) rfl rfl rfl 1 (by decide) (hts _ (List.mem_cons_of_mem _ (w2r (i := 163) rfl))) rfl rfl (by decide +kernel) rfl rfl (Nat.le_of_ble_eq_true rfl) (by decide +kernel) (fun H locs hS => ?_)
  refine lv_aload_n (k := 0) (i := 0) (x := h) hx hb (by decide +kernel) rfl (lv_at hl 0 rfl) ?_
  refine lv_iconst (n := (-1)) (v := (-1)) hx hb (by decide +kernel) rfl ?_
  refine b_put (ty := .int) (v := .int (-1)) hx hb hown hts hK 5 (by decide) hS 0 (by decide) rfl rfl rfl 2 (by decide) (hts _ (List.mem_cons_of_mem _ (w2r (i := 164) rfl))) rfl rfl (by decide +kernel) rfl rfl (Nat.le_of_ble_eq_true rfl) (by decide +kernel) (fun H locs hS => ?_)
  refine lv_aload_n (k := 0) (i := 0) (x := h) hx hb (by decide +kernel) rfl (lv_at hl 0 rfl) ?_
  refine lv_iconst (n := (-1)) (v := (-1)) hx hb (by decide +kernel) rfl ?_
  refine b_put (ty := .int) (v := .int (-1)) hx hb hown hts hK 5 (by decide) hS 0 (by decide) rfl rfl rfl 3 (by decide) (hts _ (List.mem_cons_of_mem _ (w2r (i := 165) rfl))) rfl rfl (by decide +kernel) rfl rfl (Nat.le_of_ble_eq_true rfl) (by decide +kernel) (fun H locs hS => ?_)
  refine lv_aload_n (k := 0) (i := 0) (x := h) hx hb (by decide +kernel) rfl (lv_at hl 0 rfl) ?_
  refine lv_iconst (n := 0) (v := 0) hx hb (by decide +kernel) rfl ?_
  refine b_put (ty := .int) (v := .int (0)) hx hb hown hts hK 5 (by decide) hS 0 (by decide) rfl rfl rfl 4 (by decide) (hts _ (List.mem_cons_of_mem _ (w2r (i := 166) rfl))) rfl rfl (by decide +kernel) rfl rfl (Nat.le_of_ble_eq_true rfl) (by decide +kernel) (fun H locs hS => ?_)
  refine lv_aload_n (k := 0) (i := 0) (x := h) hx hb (by decide +kernel) rfl (lv_at hl 0 rfl) ?_
  refine lv_iconst (n := 0) (v := 0) hx hb (by decide +kernel) rfl ?_
  refine b_put (ty := .int) (v := .int (0)) hx hb hown hts hK 5 (by decide) hS 0 (by decide) rfl rfl rfl 5 (by decide) (hts _ (List.mem_cons_of_mem _ (w2r (i := 167) rfl))) rfl rfl (by decide +kernel) rfl rfl (Nat.le_of_ble_eq_true rfl) (by decide +kernel) (fun H locs hS => ?_)
  refine lv_aload_n (k := 0) (i := 0) (x := h) hx hb (by decide +kernel) rfl (lv_at hl 0 rfl) ?_
  refine lv_iconst (n := 0) (v := 0) hx hb (by decide +kernel) rfl ?_
  refine b_put (ty := .int) (v := .int (0)) hx hb hown hts hK 5 (by decide) hS 0 (by decide) rfl rfl rfl 6 (by decide) (hts _ (List.mem_cons_of_mem _ (w2r (i := 168) rfl))) rfl rfl (by decide +kernel) rfl rfl (Nat.le_of_ble_eq_true rfl) (by decide +kernel) (fun H locs hS => ?_)
  refine lv_aload_n (k := 0) (i := 0) (x := h) hx hb (by decide +kernel) rfl (lv_at hl 0 rfl) ?_
  refine lv_iconst (n := 0) (v := 0) hx hb (by decide +kernel) rfl ?_
  refine b_put (ty := .int) (v := .int (0)) hx hb hown hts hK 5 (by decide) hS 0 (by decide) rfl rfl rfl 7 (by decide) (hts _ (List.mem_cons_of_mem _ (w2r (i := 169) rfl))) rfl rfl (by decide +kernel) rfl rfl (Nat.le_of_ble_eq_true rfl) (by decide +kernel) (fun H locs hS => ?_)
  have hS := hS.to (G' := fun _ => eSt) (by
    intro k hk
    match k, hk with
    | 0, _ => rfl)
  exact W.vret hx hb hr (fun t ht hW => ⟨rfl, by rw [ht]; exact hS.1, by rw [ht]; exact hS.2.1 0 (by decide), fun q hq => by rw [ht]; exact hS.2.2.1 q hq⟩) hS.2.2.2 (by decide +kernel)
