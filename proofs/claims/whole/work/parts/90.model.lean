/-! ===== DrumRopeModel(): the reference's constructor (written by mk90.py) ===== -/
theorem offW_on : ∀ o, o < 237 → ∃ q ∈ iAll, offW q.1 q.2 = o := by decide +kernel
theorem wA_on {h : Nat} {sa : Nat → Nat} {q : Nat} (h1 : h ≤ q) (h2 : q < h + 237) : wA (adW h sa) q := by
  obtain ⟨⟨k, i⟩, hm, he⟩ := offW_on (q - h) (by omega)
  have hv := iAll_mem.mp hm
  have he : offW k i = q - h := he
  exact ⟨k, i, hv.1, hv.2, by rw [adW_lt hv.1, he]; omega⟩
def moP (dC : Nat → ClassId) (dI : Nat → Nat → Nat) (cy : Nat → ClassId) (h0 : Nat) (sa adV : Nat → Nat) (U : State) : Prop := U.heap.size = h0 + 226 + 1 ∧ (∀ k, k < 226 → va_at (dC, dI) vwCl (h0 + k, gX cy h0 k) U.heap) ∧ va_at (dC, dI) vwCl (h0 + 226, .inr (7, [.null, .null, .null, .null, .null, .int 0, .null, .int 0, .int 0, .int 0, .int 0, .int 0, .int 0, .int 0, .int 0, .null, .null, .null, .null, .int 0])) U.heap ∧ va_K (dC, dI) vwCl (wT cy) U ∧ EXs (adW h0 sa) adV U
theorem moP.blind {dC : Nat → ClassId} {dI : Nat → Nat → Nat} {cy : Nat → ClassId} {h0 : Nat} {sa adV : Nat → Nat} {av : List Value} : FrameBlind (va_Pc av (moP dC dI cy h0 sa adV)) := fun a U g mk q => ⟨q.1, q.2.1, q.2.2.1, q.2.2.2.1, va_K.moved (u := U) (U := U.calling g mk a) (Vm.Alike.refl U.vm) q.2.2.2.2.1, q.2.2.2.2.2.call g mk a⟩
theorem dsX7b : yX7_begins.cls ≠ "java/lang/invoke/MethodHandle" ∧ yX7_begins.cls ≠ "java/lang/invoke/VarHandle" ∧ (parseMethodDescriptor yX7_begins.desc).map (fun d => d.parameters.length) = some 3 := by decide +kernel
set_option maxHeartbeats 4000000 in
set_option maxRecDepth 100000 in
theorem c_X7 (l : Launch) (dC : Nat → ClassId) (dI : Nat → Nat → Nat) (cy : Nat → ClassId) (h0 : Nat) (sa adV : Nat → Nat) : Met l yX7_init (.code yX7_init cX7_init 1 none :: tw2) { frames := 4, cells := 10, slots := 3133, locals := 100 } (va_Pc [.ref (h0 + 226)] (moP dC dI cy h0 sa adV)) (fun _ st o t => o = .returned none ∧ va_P (dC, dI) vwCl (wW (adW h0 sa) cy m1) t.heap ∧ h0 + 237 ≤ t.heap.size ∧ ∀ q, q < h0 → t.heap[q]? = st.heap[q]?) 10 3133 (cF h0) := by
  generalize hD : ((dC, dI) : va_G) = D
  obtain ⟨h, hh⟩ : ∃ h, h = h0 + 226 := ⟨_, rfl⟩
  rw [← hh]
  refine Met.ofW (cc := cX7_init) (maxL := 1) (ret := none) (by decide) rfl ?_
  intro p e s m args below meth c s₁ B hml hv
  obtain ⟨rfl, hsz, hcl, hat, hK, hE⟩ := hv
  rw [hD] at hcl hat hK
  rw [← hh] at hsz hat
  have hx := B.exec
  have hb := B.bytes
  have hr := B.returns
  have hts := atoms_spec (ws := .code yX7_init cX7_init 1 none :: tw2) B.pre
  have hown : s.vm.findClass RX7 = some m.cls := findClass_of_methodNamed B.named
  have hlocks := B.notSynchronized
  have hin : meth.name = "<init>" := (name_of_methodNamed B.named B.method).1
  have hF : ∀ q, h ≤ q → cF h q := fun _ h9 => h9
  have hFk : ∀ k, cF h (h + k) := fun k => Nat.le_add_right h k
  have hl := lv_entry ([.ref h]) (n := 1) (Nat.le_of_ble_eq_true rfl)
  rw [lg_entry_eq]
  generalize (lg_sl ([.ref h]) ++ List.replicate (1 - (lg_sl ([.ref h])).length) Slot.unset).toArray = ls at hl ⊢
  have hl : lv_has ls 1 [(0, .ref h)] := hl
  have hS : cS D (cF h) h 1 (h + 1) (fun _ => .inr (7, [.null, .null, .null, .null, .null, .int 0, .null, .int 0, .int 0, .int 0, .int 0, .int 0, .int 0, .int 0, .int 0, .null, .null, .null, .null, .int 0])) s.heap s.heap [] := ⟨hsz, fun k hk => by
    obtain rfl : k = 0 := by omega
    exact hat, fun _ _ => rfl, fun _ h9 => nomatch h9⟩
  refine lv_aload_n (k := 0) (i := 0) (x := h) hx hb (by decide +kernel) rfl (lv_at hl 0 rfl) ?_
  refine W.objInit hx hb hown (hts _ (List.mem_cons_of_mem _ (w2c (i := 31) rfl))) (hts _ (List.mem_cons_of_mem _ (w2c (i := 32) rfl))) (hts _ (List.mem_cons_of_mem _ (w2c (i := 33) rfl))) rfl (by rw [hml]; exact hl.1) rfl (show decode cX7_init 1 = .ok (.invokespecial 3, 3) by decide +kernel) (Nat.le_of_ble_eq_true rfl) (Nat.le_of_ble_eq_true rfl) ?_
  refine W.eq (g2 := F0 m 4 ls []) rfl ?_
  refine lv_aload_n (k := 0) (i := 0) (x := h) hx hb (by decide +kernel) rfl (lv_at hl 0 rfl) ?_
  refine lv_sipush (n := 467) (v := 467) hx hb (by decide +kernel) (by decide) ?_
  refine b_newa (atype := .int) (cA := cy 8) (k := 467) (N := 467) hx hb (hts _ (List.mem_cons_of_mem _ (w2c (i := 40) rfl))) (hK.2 0 _ rfl).2 hS hF (467, .inl (fun _ => 0)) (fun _ => rfl) (by decide) (by decide) (by decide) (Nat.le_of_ble_eq_true rfl) (Nat.le_of_ble_eq_true rfl) (by decide +kernel) (fun H hS => ?_)
  refine b_putF (ty := .array .int) (v := .ref (h + 1)) hx hb hown hts hK 7 (by decide) hS 0 (by decide) rfl (hFk 0) rfl 0 (by decide) (hts _ (List.mem_cons_of_mem _ (w2r (i := 250) rfl))) rfl hin rfl (by decide +kernel) rfl rfl (Nat.le_of_ble_eq_true rfl) (by decide +kernel) (fun H locs hS => ?_)
  refine lv_aload_n (k := 0) (i := 0) (x := h) hx hb (by decide +kernel) rfl (lv_at hl 0 rfl) ?_
  refine lv_sipush (n := 467) (v := 467) hx hb (by decide +kernel) (by decide) ?_
  refine b_newa (atype := .int) (cA := cy 8) (k := 467) (N := 467) hx hb (hts _ (List.mem_cons_of_mem _ (w2c (i := 40) rfl))) (hK.2 0 _ rfl).2 hS hF (467, .inl (fun _ => 0)) (fun _ => rfl) (by decide) (by decide) (by decide) (Nat.le_of_ble_eq_true rfl) (Nat.le_of_ble_eq_true rfl) (by decide +kernel) (fun H hS => ?_)
  refine b_putF (ty := .array .int) (v := .ref (h + 2)) hx hb hown hts hK 7 (by decide) hS 0 (by decide) rfl (hFk 0) rfl 1 (by decide) (hts _ (List.mem_cons_of_mem _ (w2r (i := 269) rfl))) rfl hin rfl (by decide +kernel) rfl rfl (Nat.le_of_ble_eq_true rfl) (by decide +kernel) (fun H locs hS => ?_)
  refine lv_aload_n (k := 0) (i := 0) (x := h) hx hb (by decide +kernel) rfl (lv_at hl 0 rfl) ?_
  refine lv_sipush (n := 467) (v := 467) hx hb (by decide +kernel) (by decide) ?_
  refine b_newa (atype := .int) (cA := cy 8) (k := 467) (N := 467) hx hb (hts _ (List.mem_cons_of_mem _ (w2c (i := 40) rfl))) (hK.2 0 _ rfl).2 hS hF (467, .inl (fun _ => 0)) (fun _ => rfl) (by decide) (by decide) (by decide) (Nat.le_of_ble_eq_true rfl) (Nat.le_of_ble_eq_true rfl) (by decide +kernel) (fun H hS => ?_)
  refine b_putF (ty := .array .int) (v := .ref (h + 3)) hx hb hown hts hK 7 (by decide) hS 0 (by decide) rfl (hFk 0) rfl 2 (by decide) (hts _ (List.mem_cons_of_mem _ (w2r (i := 339) rfl))) rfl hin rfl (by decide +kernel) rfl rfl (Nat.le_of_ble_eq_true rfl) (by decide +kernel) (fun H locs hS => ?_)
  refine lv_aload_n (k := 0) (i := 0) (x := h) hx hb (by decide +kernel) rfl (lv_at hl 0 rfl) ?_
  refine lv_sipush (n := 934) (v := 934) hx hb (by decide +kernel) (by decide) ?_
  refine b_newa (atype := .int) (cA := cy 8) (k := 934) (N := 934) hx hb (hts _ (List.mem_cons_of_mem _ (w2c (i := 40) rfl))) (hK.2 0 _ rfl).2 hS hF (934, .inl (fun _ => 0)) (fun _ => rfl) (by decide) (by decide) (by decide) (Nat.le_of_ble_eq_true rfl) (Nat.le_of_ble_eq_true rfl) (by decide +kernel) (fun H hS => ?_)
  refine b_putF (ty := .array .int) (v := .ref (h + 4)) hx hb hown hts hK 7 (by decide) hS 0 (by decide) rfl (hFk 0) rfl 3 (by decide) (hts _ (List.mem_cons_of_mem _ (w2r (i := 347) rfl))) rfl hin rfl (by decide +kernel) rfl rfl (Nat.le_of_ble_eq_true rfl) (by decide +kernel) (fun H locs hS => ?_)
  refine lv_aload_n (k := 0) (i := 0) (x := h) hx hb (by decide +kernel) rfl (lv_at hl 0 rfl) ?_
  refine lv_iconst (n := 2) (v := 2) hx hb (by decide +kernel) rfl ?_
  refine b_newa (atype := .boolean) (cA := cy 10) (k := 2) (N := 2) hx hb (hts _ (List.mem_cons_of_mem _ (w2c (i := 41) rfl))) (hK.2 2 _ rfl).2 hS hF (2, .inl (fun _ => 0)) (fun _ => rfl) (by decide) (by decide) (by decide) (Nat.le_of_ble_eq_true rfl) (Nat.le_of_ble_eq_true rfl) (by decide +kernel) (fun H hS => ?_)
  refine b_putF (ty := .array .boolean) (v := .ref (h + 5)) hx hb hown hts hK 7 (by decide) hS 0 (by decide) rfl (hFk 0) rfl 4 (by decide) (hts _ (List.mem_cons_of_mem _ (w2r (i := 348) rfl))) rfl hin rfl (by decide +kernel) rfl rfl (Nat.le_of_ble_eq_true rfl) (by decide +kernel) (fun H locs hS => ?_)
  refine lv_aload_n (k := 0) (i := 0) (x := h) hx hb (by decide +kernel) rfl (lv_at hl 0 rfl) ?_
  refine lv_sipush (n := 700) (v := 700) hx hb (by decide +kernel) (by decide) ?_
  refine b_newa (atype := .byte) (cA := cy 9) (k := 700) (N := 700) hx hb (hts _ (List.mem_cons_of_mem _ (w2c (i := 42) rfl))) (hK.2 1 _ rfl).2 hS hF (700, .inl (fun _ => 0)) (fun _ => rfl) (by decide) (by decide) (by decide) (Nat.le_of_ble_eq_true rfl) (Nat.le_of_ble_eq_true rfl) (by decide +kernel) (fun H hS => ?_)
  refine b_putF (ty := .array .byte) (v := .ref (h + 6)) hx hb hown hts hK 7 (by decide) hS 0 (by decide) rfl (hFk 0) rfl 6 (by decide) (hts _ (List.mem_cons_of_mem _ (w2r (i := 257) rfl))) rfl hin rfl (by decide +kernel) rfl rfl (Nat.le_of_ble_eq_true rfl) (by decide +kernel) (fun H locs hS => ?_)
  refine lv_aload_n (k := 0) (i := 0) (x := h) hx hb (by decide +kernel) rfl (lv_at hl 0 rfl) ?_
  refine lv_iconst (n := (-1)) (v := (-1)) hx hb (by decide +kernel) rfl ?_
  refine b_put (ty := .int) (v := .int (-1)) hx hb hown hts hK 7 (by decide) hS 0 (by decide) rfl (hFk 0) rfl 14 (by decide) (hts _ (List.mem_cons_of_mem _ (w2r (i := 287) rfl))) rfl rfl (by decide +kernel) rfl rfl (Nat.le_of_ble_eq_true rfl) (by decide +kernel) (fun H locs hS => ?_)
  refine lv_aload_n (k := 0) (i := 0) (x := h) hx hb (by decide +kernel) rfl (lv_at hl 0 rfl) ?_
  refine lv_bipush (n := 24) (v := 24) hx hb (by decide +kernel) (by decide) ?_
  refine b_newa (atype := .int) (cA := cy 8) (k := 24) (N := 24) hx hb (hts _ (List.mem_cons_of_mem _ (w2c (i := 40) rfl))) (hK.2 0 _ rfl).2 hS hF (24, .inl (fun _ => 0)) (fun _ => rfl) (by decide) (by decide) (by decide) (Nat.le_of_ble_eq_true rfl) (Nat.le_of_ble_eq_true rfl) (by decide +kernel) (fun H hS => ?_)
  refine b_putF (ty := .array .int) (v := .ref (h + 7)) hx hb hown hts hK 7 (by decide) hS 0 (by decide) rfl (hFk 0) rfl 15 (by decide) (hts _ (List.mem_cons_of_mem _ (w2r (i := 273) rfl))) rfl hin rfl (by decide +kernel) rfl rfl (Nat.le_of_ble_eq_true rfl) (by decide +kernel) (fun H locs hS => ?_)
  refine lv_aload_n (k := 0) (i := 0) (x := h) hx hb (by decide +kernel) rfl (lv_at hl 0 rfl) ?_
  refine lv_bipush (n := 24) (v := 24) hx hb (by decide +kernel) (by decide) ?_
  refine b_newa (atype := .int) (cA := cy 8) (k := 24) (N := 24) hx hb (hts _ (List.mem_cons_of_mem _ (w2c (i := 40) rfl))) (hK.2 0 _ rfl).2 hS hF (24, .inl (fun _ => 0)) (fun _ => rfl) (by decide) (by decide) (by decide) (Nat.le_of_ble_eq_true rfl) (Nat.le_of_ble_eq_true rfl) (by decide +kernel) (fun H hS => ?_)
  refine b_putF (ty := .array .int) (v := .ref (h + 8)) hx hb hown hts hK 7 (by decide) hS 0 (by decide) rfl (hFk 0) rfl 16 (by decide) (hts _ (List.mem_cons_of_mem _ (w2r (i := 296) rfl))) rfl hin rfl (by decide +kernel) rfl rfl (Nat.le_of_ble_eq_true rfl) (by decide +kernel) (fun H locs hS => ?_)
  refine lv_aload_n (k := 0) (i := 0) (x := h) hx hb (by decide +kernel) rfl (lv_at hl 0 rfl) ?_
  refine lv_bipush (n := 24) (v := 24) hx hb (by decide +kernel) (by decide) ?_
  refine b_newa (atype := .int) (cA := cy 8) (k := 24) (N := 24) hx hb (hts _ (List.mem_cons_of_mem _ (w2c (i := 40) rfl))) (hK.2 0 _ rfl).2 hS hF (24, .inl (fun _ => 0)) (fun _ => rfl) (by decide) (by decide) (by decide) (Nat.le_of_ble_eq_true rfl) (Nat.le_of_ble_eq_true rfl) (by decide +kernel) (fun H hS => ?_)
  refine b_putF (ty := .array .int) (v := .ref (h + 9)) hx hb hown hts hK 7 (by decide) hS 0 (by decide) rfl (hFk 0) rfl 17 (by decide) (hts _ (List.mem_cons_of_mem _ (w2r (i := 298) rfl))) rfl hin rfl (by decide +kernel) rfl rfl (Nat.le_of_ble_eq_true rfl) (by decide +kernel) (fun H locs hS => ?_)
  refine lv_aload_n (k := 0) (i := 0) (x := h) hx hb (by decide +kernel) rfl (lv_at hl 0 rfl) ?_
  refine lv_bipush (n := 24) (v := 24) hx hb (by decide +kernel) (by decide) ?_
  refine b_newa (atype := .int) (cA := cy 8) (k := 24) (N := 24) hx hb (hts _ (List.mem_cons_of_mem _ (w2c (i := 40) rfl))) (hK.2 0 _ rfl).2 hS hF (24, .inl (fun _ => 0)) (fun _ => rfl) (by decide) (by decide) (by decide) (Nat.le_of_ble_eq_true rfl) (Nat.le_of_ble_eq_true rfl) (by decide +kernel) (fun H hS => ?_)
  refine b_putF (ty := .array .int) (v := .ref (h + 10)) hx hb hown hts hK 7 (by decide) hS 0 (by decide) rfl (hFk 0) rfl 18 (by decide) (hts _ (List.mem_cons_of_mem _ (w2r (i := 297) rfl))) rfl hin rfl (by decide +kernel) rfl rfl (Nat.le_of_ble_eq_true rfl) (by decide +kernel) (fun H locs hS => ?_)
  have hS := hS.to (G' := gMo cy h0) (by
    subst hh
    intro k hk
    match k, hk with
    | 0, _ => rfl
    | 1, _ => rfl
    | 2, _ => rfl
    | 3, _ => rfl
    | 4, _ => rfl
    | 5, _ => rfl
    | 6, _ => rfl
    | 7, _ => rfl
    | 8, _ => rfl
    | 9, _ => rfl
    | 10, _ => rfl)
  refine lv_aload_n (k := 0) (i := 0) (x := h) hx hb (by decide +kernel) rfl (lv_at hl 0 rfl) ?_
  refine b_get (index := 9) (v := .ref (h0 + 227)) hx hb hown hts hK 7 (by decide) hS 0 (by decide) rfl (fs := moF h0) rfl 0 (by decide) (hts _ (List.mem_cons_of_mem _ (w2r (i := 250) rfl))) rfl rfl (by decide +kernel) ?_
  refine lv_iconst (n := 1) (v := 1) hx hb (by decide +kernel) rfl ?_
  refine lv_iconst (n := 0) (v := 0) hx hb (by decide +kernel) rfl ?_
  subst hD
  have hall : ∀ k, k < 237 → va_at (dC, dI) vwCl (h0 + k, gW cy h0 k) H := fun k hk => by
    unfold gW
    by_cases c1 : k < 226
    · rw [if_pos c1]
      exact (hcl k c1).kept (hS.2.2.1 _ (by show ¬ h ≤ h0 + k; omega))
    · rw [if_neg c1]
      have h1 := hS.2.1 (k - 226) (by omega)
      rw [show h + (k - 226) = h0 + k by omega] at h1
      exact h1
  have hP := world_of (sa := sa) hall
  have hSE : va_S (wA (adW h0 sa)) s.heap H [] := ⟨by rw [hS.1, hsz]; omega, fun q h1 h2 => by
    have hq : q < h0 := by
      rcases Nat.lt_or_ge q h0 with c1 | c1
      · exact c1
      · exact absurd (wA_on c1 (by omega)) h2
    exact hS.2.2.1 q (by show ¬ h ≤ q; omega), fun _ h9 => nomatch h9⟩
  have hM : iMet l dC dI (adW h0 sa) cy (EXs (adW h0 sa) adV) mX7_begins [.inr (8, 58), .inl 1, .inl 0] m0 none m1 := snd_ev (by decide) EXs_ok (adW_I h0 sa) (by
    intro x hx9
    simp only [List.mem_cons, List.not_mem_nil, or_false] at hx9
    rcases hx9 with rfl | rfl | rfl
    · show 58 < iCnt 8
      decide
    · trivial
    · trivial) rfl (e_begins58 1 0)
  have hrun := va_runS (p := p) (l := l) (e := e) (R := { frames := 4, cells := 10, slots := 3133, locals := 100 }) (s := s) (m := m) (args := [Value.ref h].toArray) (below := below) (meth := meth) (c := c) (H := H) (locs := locs) (cells := 10) (slots := 3133) (g := F0 m 99 ls [.int 0, .int 1, .ref (h0 + 227)]) (rest := []) (As := [.ref (h0 + 227), .int 1, .int 0]) ⟨hx, hb, hml, hown, hts⟩ hM
    ⟨callB_of 3 hts (gd_2 (w2r (i := 776) rfl) (fun w h9 => w2t h9)) rfl rfl rfl (hts _ (List.mem_cons_of_mem _ (w2r (i := 771) rfl))) (hts _ (List.mem_cons_of_mem _ (w2r (i := 282) rfl))) dsX7b ⟨(Nat.le_of_ble_eq_true rfl), (Nat.le_of_ble_eq_true rfl)⟩, (hts _ (List.mem_cons_of_mem _ (w2r (i := 777) rfl)))⟩
    ⟨fun a9 U g mk q9 => ⟨q9.1, q9.2.1, va_K.moved (u := U) (U := U.calling g mk a9) (Vm.Alike.refl U.vm) q9.2.2.1, EXs.call g mk a9 q9.2.2.2⟩, fun U hU hW => ⟨rfl, by rw [hU]; exact hP, va_K.moved hW.alike hK, hE.move hW (by rw [hU]; exact hSE)⟩⟩
    rfl rfl hl.1 rfl (lv_room (Nat.le_of_ble_eq_true rfl)) (show decode cX7_init 99 = .ok (.invokestatic 46, 3) by decide +kernel) ⟨Nat.le_refl _, Nat.le_refl _⟩
  intro T hT X
  obtain ⟨v, st₀, t, T', L, g0, X', hL, e1, e2, ⟨hv, hP1, hF1, hF2⟩, st⟩ := hrun T hT X
  cases hv
  have hfin : W p l e { frames := 4, cells := 10, slots := 3133, locals := 100 } s m [Value.ref h].toArray below meth c T'.heap (locs ++ L) 10 3133 (MQ below (fun _ st o t => o = .returned none ∧ va_P (dC, dI) vwCl (wW (adW h0 sa) cy m1) t.heap ∧ h0 + 237 ≤ t.heap.size ∧ ∀ q, q < h0 → t.heap[q]? = st.heap[q]?) [Value.ref h].toArray s 10 3133 (cF h0)) (F0 m 102 ls []) := W.vret hx hb hr (fun t9 ht hW => ⟨rfl, by rw [ht, e1]; exact hP1, by
    rw [ht, e1]
    refine Nat.le_trans ?_ hF1
    rw [g0, hS.1]
    omega, fun q hq => by
    rw [ht, e1, hF2 q (by rw [g0, hS.1]; omega) (fun h9 => absurd (adW_A h9).1 (by omega)), g0]
    exact hS.2.2.1 q (by show ¬ h ≤ q; omega)⟩) (fun z hz9 => (List.mem_append.mp hz9).elim (fun h9 => by
      have : h ≤ z.base := hS.2.2.2 z h9
      show h0 ≤ z.base
      omega) (fun h9 => (adW_A (hL z h9)).1)) (by decide +kernel)
  obtain ⟨t2, a1, b1⟩ := hfin T' rfl X'
  exact ⟨t2, st t2 a1, b1⟩
