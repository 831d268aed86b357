/-! ===== DrumRope(): the class's constructor (written by mk87.py) ===== -/
/-- n cells, then those of a constructor's call; the object itself (at 0) has got a new field -/
def gJ (G : Nat → va_E) (n : Nat) (Cf : Nat → va_E) (o : va_E) : Nat → va_E := fun k => if k = 0 then o else if k < n then G k else Cf (k - n)
theorem gJ_of {G : Nat → va_E} {n : Nat} {Cf : Nat → va_E} {o e : va_E} : ∀ k, va_up (fun k => if k < n then va_up G n e k else Cf (k - n)) 0 o k = gJ G n Cf o k := by
  intro k
  unfold gJ va_up
  by_cases h0 : k = 0
  · rw [if_pos h0, if_pos h0]
  · rw [if_neg h0, if_neg h0]
    by_cases h1 : k < n
    · simp only [if_pos h1]
      rw [if_neg (by omega)]
    · simp only [if_neg h1]
abbrev dX (a b c d e : Value) : va_E := .inr (6, [a, b, c, d, e])
def gA (cy : Nat → ClassId) (h : Nat) : Nat → va_E := gJ (fun _ => dX .null .null .null .null .null) 1 (gR cy (h + 1)) (dX (.ref (h + 1)) .null .null .null .null)
def gB (cy : Nat → ClassId) (h : Nat) : Nat → va_E := gJ (gA cy h) 4 (gSh cy (h + 4)) (dX (.ref (h + 1)) (.ref (h + 4)) .null .null .null)
def gC (cy : Nat → ClassId) (h : Nat) : Nat → va_E := gJ (gB cy h) 59 (gSh cy (h + 59)) (dX (.ref (h + 1)) (.ref (h + 4)) (.ref (h + 59)) .null .null)
def gD (cy : Nat → ClassId) (h : Nat) : Nat → va_E := va_up (va_up (gC cy h) 114 (.inl (cy 14, 2, .inr (.inr (.inr (.inr (fun _ => none))))))) 0 (dX (.ref (h + 1)) (.ref (h + 4)) (.ref (h + 59)) (.ref (h + 114)) .null)
def gE (cy : Nat → ClassId) (h : Nat) : Nat → va_E := va_up (va_up (gD cy h) 115 (.inl (cy 10, 2, .inl (fun _ => 0)))) 0 (dX (.ref (h + 1)) (.ref (h + 4)) (.ref (h + 59)) (.ref (h + 114)) (.ref (h + 115)))
def gX (cy : Nat → ClassId) (h : Nat) : Nat → va_E := gL h 116 55 2 114 (cy 14) (gSh cy) (gE cy h) 2
set_option maxHeartbeats 4000000 in
set_option maxRecDepth 100000 in
theorem c_X6 (l : Launch) (D : va_G) (cy : Nat → ClassId) (h : Nat) : cM l D cy yX6_init cX6_init 2 3 62 225 3064 h 1 226 (fun _ => dX .null .null .null .null .null) (gX cy h) := by
  show Met _ _ _ _ _ _ _ _ _
  generalize hCf : gX cy h = Cf
  refine Met.ofW (cc := cX6_init) (maxL := 2) (ret := none) (by decide) rfl ?_
  intro p e s m args below meth c s₁ B hml hv
  obtain ⟨rfl, hsz, hat, hK, hNB⟩ := hv
  have hx := B.exec
  have hb := B.bytes
  have hr := B.returns
  have hts := atoms_spec (ws := .code yX6_init cX6_init 2 none :: tw2) B.pre
  have hown : s.vm.findClass RX6 = some m.cls := findClass_of_methodNamed B.named
  have hlocks := B.notSynchronized
  have hin : meth.name = "<init>" := (name_of_methodNamed B.named B.method).1
  have hF : ∀ q, h ≤ q → cF h q := fun _ h9 => h9
  have hFk : ∀ k, cF h (h + k) := fun k => Nat.le_add_right h k
  have hl := lv_entry ([.ref h]) (n := 2) (Nat.le_of_ble_eq_true rfl)
  rw [lg_entry_eq]
  generalize (lg_sl ([.ref h]) ++ List.replicate (2 - (lg_sl ([.ref h])).length) Slot.unset).toArray = ls at hl ⊢
  have hl : lv_has ls 2 [(0, .ref h)] := hl
  have hS : cS D (cF h) h 1 (h + 1) (fun _ => dX .null .null .null .null .null) s.heap s.heap [] := ⟨hsz, hat, fun _ _ => rfl, fun _ h9 => nomatch h9⟩
  refine lv_aload_n (k := 0) (i := 0) (x := h) hx hb (by decide +kernel) rfl (lv_at hl 0 rfl) ?_
  refine W.objInit hx hb hown (hts _ (List.mem_cons_of_mem _ (w2c (i := 27) rfl))) (hts _ (List.mem_cons_of_mem _ (w2c (i := 32) rfl))) (hts _ (List.mem_cons_of_mem _ (w2c (i := 33) rfl))) rfl (by rw [hml]; exact hl.1) rfl (show decode cX6_init 1 = .ok (.invokespecial 1, 3) by decide +kernel) (Nat.le_of_ble_eq_true rfl) (Nat.le_of_ble_eq_true rfl) ?_
  refine W.eq (g2 := F0 m 4 ls []) rfl ?_
  refine lv_aload_n (k := 0) (i := 0) (x := h) hx hb (by decide +kernel) rfl (lv_at hl 0 rfl) ?_
  refine b_new (index := 7) (fs := [.null, .int 0, .int 0, .int 0, .int 0, .int 0, .int 0, .null]) hx hb hown hts hK 2 (by decide) tyX2 tyX2_ok (hts _ (List.mem_cons_of_mem _ (w2c (i := 34) rfl))) (hts _ (List.mem_cons_of_mem _ (w2c (i := 10) rfl))) (hts _ (List.mem_cons_of_mem _ (w2r (i := 381) rfl))) hS hF dfX2 (Nat.le_of_ble_eq_true rfl) (Nat.le_of_ble_eq_true rfl) (by decide +kernel) (fun H hS => ?_)
  refine lv_dup (va := .ref (h + 1)) hx hb (by decide +kernel) rfl ?_
  refine b_call (n := 1) (w := 3) (Cf := gR cy (h + 1)) (va_runIN (As := []) (rest := [.ref (h + 1), .ref h]) ⟨hx, hb, hml, hown, hts⟩ (c_X2 l D cy (h + 1)) ⟨va_cnB 0 hts (gd_2 (w2c (i := 8) rfl) (fun _ h9 => h9)) rfl rfl rfl (hNB.at 0 rfl) (hts _ (List.mem_cons_of_mem _ (w2r (i := 381) rfl))) dsX2 ⟨(Nat.le_of_ble_eq_true rfl), (Nat.le_of_ble_eq_true rfl)⟩, rfl, (hts _ (List.mem_cons_of_mem _ (w2c (i := 9) rfl)))⟩ (cP.of (ci := 2) hS.1 hS.last hK hNB) rfl rfl hl.1 rfl (lv_room (Nat.le_of_ble_eq_true rfl)) (show decode cX6_init 9 = .ok (.invokespecial 9, 3) by decide +kernel) ⟨(Nat.le_of_ble_eq_true rfl), (Nat.le_of_ble_eq_true rfl)⟩) hS (fun H locs hS => ?_)
  refine b_putF (ty := .object "DrumRope$Reader") (v := .ref (h + 1)) hx hb hown hts hK 6 (by decide) hS 0 (by decide) rfl (hFk 0) rfl 0 (by decide) (hts _ (List.mem_cons_of_mem _ (w2r (i := 172) rfl))) rfl hin rfl (by decide +kernel) rfl rfl (Nat.le_of_ble_eq_true rfl) (by decide +kernel) (fun H locs hS => ?_)
  have hS := hS.to (G' := gA cy h) (fun k _ => gJ_of k)
  refine lv_aload_n (k := 0) (i := 0) (x := h) hx hb (by decide +kernel) rfl (lv_at hl 0 rfl) ?_
  refine b_new (index := 16) (fs := [.null, .null, .null, .null, .int 0, .int 0, .int 0, .int 0, .int 0, .int 0, .int 0, .int 0, .int 0, .int 0, .int 0]) hx hb hown hts hK 4 (by decide) tyX4 tyX4_ok (hts _ (List.mem_cons_of_mem _ (w2c (i := 35) rfl))) (hts _ (List.mem_cons_of_mem _ (w2c (i := 18) rfl))) (hts _ (List.mem_cons_of_mem _ (w2r (i := 449) rfl))) hS hF dfX4 (Nat.le_of_ble_eq_true rfl) (Nat.le_of_ble_eq_true rfl) (by decide +kernel) (fun H hS => ?_)
  refine lv_dup (va := .ref (h + 4)) hx hb (by decide +kernel) rfl ?_
  refine b_call (n := 4) (w := 55) (Cf := gSh cy (h + 4)) (va_runI (As := []) (rest := [.ref (h + 4), .ref h]) ⟨hx, hb, hml, hown, hts⟩ (c_X4 l D cy (h + 4)) (cwI 0 hts (gd_2 (w2c (i := 16) rfl) (fun _ h9 => h9)) rfl rfl rfl (hts _ (List.mem_cons_of_mem _ (w2r (i := 449) rfl))) (hts _ (List.mem_cons_of_mem _ (w2c (i := 44) rfl))) (hts _ (List.mem_cons_of_mem _ (w2c (i := 17) rfl))) rfl dsX4 ⟨(Nat.le_of_ble_eq_true rfl), (Nat.le_of_ble_eq_true rfl)⟩) (cP.of (ci := 4) hS.1 hS.last hK hNB) rfl rfl hl.1 rfl (lv_room (Nat.le_of_ble_eq_true rfl)) (show decode cX6_init 20 = .ok (.invokespecial 18, 3) by decide +kernel) ⟨(Nat.le_of_ble_eq_true rfl), (Nat.le_of_ble_eq_true rfl)⟩) hS (fun H locs hS => ?_)
  refine b_putF (ty := .object "DrumRope$Shop") (v := .ref (h + 4)) hx hb hown hts hK 6 (by decide) hS 0 (by decide) rfl (hFk 0) rfl 1 (by decide) (hts _ (List.mem_cons_of_mem _ (w2r (i := 179) rfl))) rfl hin rfl (by decide +kernel) rfl rfl (Nat.le_of_ble_eq_true rfl) (by decide +kernel) (fun H locs hS => ?_)
  have hS := hS.to (G' := gB cy h) (fun k _ => gJ_of k)
  refine lv_aload_n (k := 0) (i := 0) (x := h) hx hb (by decide +kernel) rfl (lv_at hl 0 rfl) ?_
  refine b_new (index := 16) (fs := [.null, .null, .null, .null, .int 0, .int 0, .int 0, .int 0, .int 0, .int 0, .int 0, .int 0, .int 0, .int 0, .int 0]) hx hb hown hts hK 4 (by decide) tyX4 tyX4_ok (hts _ (List.mem_cons_of_mem _ (w2c (i := 35) rfl))) (hts _ (List.mem_cons_of_mem _ (w2c (i := 18) rfl))) (hts _ (List.mem_cons_of_mem _ (w2r (i := 449) rfl))) hS hF dfX4 (Nat.le_of_ble_eq_true rfl) (Nat.le_of_ble_eq_true rfl) (by decide +kernel) (fun H hS => ?_)
  refine lv_dup (va := .ref (h + 59)) hx hb (by decide +kernel) rfl ?_
  refine b_call (n := 59) (w := 55) (Cf := gSh cy (h + 59)) (va_runI (As := []) (rest := [.ref (h + 59), .ref h]) ⟨hx, hb, hml, hown, hts⟩ (c_X4 l D cy (h + 59)) (cwI 0 hts (gd_2 (w2c (i := 16) rfl) (fun _ h9 => h9)) rfl rfl rfl (hts _ (List.mem_cons_of_mem _ (w2r (i := 449) rfl))) (hts _ (List.mem_cons_of_mem _ (w2c (i := 44) rfl))) (hts _ (List.mem_cons_of_mem _ (w2c (i := 17) rfl))) rfl dsX4 ⟨(Nat.le_of_ble_eq_true rfl), (Nat.le_of_ble_eq_true rfl)⟩) (cP.of (ci := 4) hS.1 hS.last hK hNB) rfl rfl hl.1 rfl (lv_room (Nat.le_of_ble_eq_true rfl)) (show decode cX6_init 31 = .ok (.invokespecial 18, 3) by decide +kernel) ⟨(Nat.le_of_ble_eq_true rfl), (Nat.le_of_ble_eq_true rfl)⟩) hS (fun H locs hS => ?_)
  refine b_putF (ty := .object "DrumRope$Shop") (v := .ref (h + 59)) hx hb hown hts hK 6 (by decide) hS 0 (by decide) rfl (hFk 0) rfl 2 (by decide) (hts _ (List.mem_cons_of_mem _ (w2r (i := 174) rfl))) rfl hin rfl (by decide +kernel) rfl rfl (Nat.le_of_ble_eq_true rfl) (by decide +kernel) (fun H locs hS => ?_)
  have hS := hS.to (G' := gC cy h) (fun k _ => gJ_of k)
  refine lv_aload_n (k := 0) (i := 0) (x := h) hx hb (by decide +kernel) rfl (lv_at hl 0 rfl) ?_
  refine lv_iconst (n := 2) (v := 2) hx hb (by decide +kernel) rfl ?_
  refine b_anew (C := RX4) (cA := cy 14) (k := 2) (N := 2) hx hb hown (hts _ (List.mem_cons_of_mem _ (w2c (i := 35) rfl))) hNB.2.2.2.2 (hK.2 5 _ rfl).2 hS hF (by decide) (by decide) (by decide) (Nat.le_of_ble_eq_true rfl) (Nat.le_of_ble_eq_true rfl) (by decide +kernel) (fun H hS => ?_)
  refine b_putF (ty := .array (.object "DrumRope$Shop")) (v := .ref (h + 114)) hx hb hown hts hK 6 (by decide) hS 0 (by decide) rfl (hFk 0) rfl 3 (by decide) (hts _ (List.mem_cons_of_mem _ (w2r (i := 245) rfl))) rfl hin rfl (by decide +kernel) rfl rfl (Nat.le_of_ble_eq_true rfl) (by decide +kernel) (fun H locs hS => ?_)
  have hS : cS D (cF h) h 115 (h + 115) (gD cy h) s.heap H locs := hS
  refine lv_aload_n (k := 0) (i := 0) (x := h) hx hb (by decide +kernel) rfl (lv_at hl 0 rfl) ?_
  refine lv_iconst (n := 2) (v := 2) hx hb (by decide +kernel) rfl ?_
  refine b_newa (atype := .boolean) (cA := cy 10) (k := 2) (N := 2) hx hb (hts _ (List.mem_cons_of_mem _ (w2c (i := 41) rfl))) (hK.2 2 _ rfl).2 hS hF (2, .inl (fun _ => 0)) (fun _ => rfl) (by decide) (by decide) (by decide) (Nat.le_of_ble_eq_true rfl) (Nat.le_of_ble_eq_true rfl) (by decide +kernel) (fun H hS => ?_)
  refine b_putF (ty := .array .boolean) (v := .ref (h + 115)) hx hb hown hts hK 6 (by decide) hS 0 (by decide) rfl (hFk 0) rfl 4 (by decide) (hts _ (List.mem_cons_of_mem _ (w2r (i := 246) rfl))) rfl hin rfl (by decide +kernel) rfl rfl (Nat.le_of_ble_eq_true rfl) (by decide +kernel) (fun H locs hS => ?_)
  have hS : cS D (cF h) h 116 (h + 116) (gE cy h) s.heap H locs := hS
  have hS := hS.to (G' := gL h 116 55 2 114 (cy 14) (gSh cy) (gE cy h) 0) (gL_0 (f := fun _ => none) rfl)
  refine lv_iconst (n := 0) (v := 0) hx hb (by decide +kernel) rfl ?_
  refine lv_istore_n (k := 1) (i := 1) (lv' := [(1, .int 0), (0, .ref h)]) hx hb (by decide +kernel) rfl hl (by decide) rfl (fun ls hl => ?_)
  refine b_loop (b := 116) (w := 55) (N := 2) (kA := 114) (cA := cy 14) (Cf := gSh cy) (G := gE cy h) (co := 6) (ce := 4) (fs := [.ref (h + 1), .ref (h + 4), .ref (h + 59), .ref (h + 114), .ref (h + 115)]) (fs1 := [.null, .null, .null, .null, .int 0, .int 0, .int 0, .int 0, .int 0, .int 0, .int 0, .int 0, .int 0, .int 0, .int 0]) (fi := 26) (ki := 16) (mc := 54) (ms := 567) (cells := 115) (slots := 1900) (pc := 54) hx hb hown hts hK (by decide) (by decide) rfl (by decide) (by decide) (by decide) (by decide) 3 (by decide) rfl (hts _ (List.mem_cons_of_mem _ (w2r (i := 245) rfl))) rfl 5 rfl tyX4 tyX4_ok (hts _ (List.mem_cons_of_mem _ (w2c (i := 35) rfl))) (hts _ (List.mem_cons_of_mem _ (w2c (i := 18) rfl))) (hts _ (List.mem_cons_of_mem _ (w2r (i := 449) rfl))) dfX4 (fun a => ⟨_, rfl⟩) (by decide +kernel) (by decide +kernel) (by decide +kernel) (by decide +kernel) (by decide +kernel) (by decide +kernel) (by decide +kernel) (by decide +kernel) (by decide +kernel) (by decide +kernel) (by decide +kernel) (by decide +kernel) (by decide +kernel) (fun a i H locs cells slots ls hls h1 h2 h3 h4 => va_runI (As := []) (rest := [.ref a, .int i, .ref (h + 114)]) ⟨hx, hb, hml, hown, hts⟩ (c_X4 l D cy a) (cwI 0 hts (gd_2 (w2c (i := 16) rfl) (fun _ h9 => h9)) rfl rfl rfl (hts _ (List.mem_cons_of_mem _ (w2r (i := 449) rfl))) (hts _ (List.mem_cons_of_mem _ (w2c (i := 44) rfl))) (hts _ (List.mem_cons_of_mem _ (w2c (i := 17) rfl))) rfl dsX4 ⟨(Nat.le_of_ble_eq_true rfl), (Nat.le_of_ble_eq_true rfl)⟩) (cP.of (ci := 4) h1 h2 hK hNB) rfl rfl hls rfl (lv_room (Nat.le_of_ble_eq_true rfl)) (show decode cX6_init 72 = .ok (.invokespecial 18, 3) by decide +kernel) ⟨h3, h4⟩) (Nat.le_of_ble_eq_true rfl) (Nat.le_of_ble_eq_true rfl) (fun H locs ls hl hS => ?_) 2 0 _ _ ls rfl hl hS
  have hS : cS D (cF h) h 226 (h + 226) Cf s.heap H locs := by rw [← hCf]; exact hS
  exact W.vret hx hb hr (fun t ht hW => ⟨rfl, by rw [ht]; exact hS.1, fun k hk => by rw [ht]; exact hS.2.1 k hk, fun q hq => (congrArg (fun z : Heap => z[q]?) ht).trans (hS.2.2.1 q (Nat.not_le.mpr hq))⟩) hS.2.2.2 (by decide +kernel)
