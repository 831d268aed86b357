/-! ===== cells that are made in a row at the heap's end: words, and rows with exact places (written by mk83.py) ===== -/
def twc : List Cond := [.code yX0_init cX0_init 1 none, .instanceMethod yX0_init, .instantiable RX0 14, .methodLink RX0 3 objectInit, .code yX1_init cX1_init 1 none, .instanceMethod yX1_init, .instantiable RX1 4, .methodLink RX1 3 objectInit, .code yX2_init cX2_init 1 none, .instanceMethod yX2_init, .instantiable RX2 8, .methodLink RX2 3 objectInit, .code yX3_init cX3_init 1 none, .instanceMethod yX3_init, .instantiable RX3 3, .methodLink RX3 3 objectInit, .code yX4_init cX4_init 2 none, .instanceMethod yX4_init, .instantiable RX4 15, .methodLink RX4 3 objectInit, .code yX5_init cX5_init 1 none, .instanceMethod yX5_init, .instantiable RX5 8, .methodLink RX5 3 objectInit, .code yX6_init cX6_init 2 none, .instanceMethod yX6_init, .instantiable RX6 5, .methodLink RX6 1 objectInit, .code yX7_init cX7_init 1 none, .instanceMethod yX7_init, .instantiable RX7 20, .methodLink RX7 3 objectInit, .instanceMethod objectInit, .code objectInit ⟨#[0xb1]⟩ 1 none, .classLink RX6 7 RX2, .classLink RX6 16 RX4, .classLink RX4 9 RX5, .classLink RX4 17 RX1, .classLink RX4 23 RX0, .classLink RX4 29 RX3, .arrayClass .int, .arrayClass .boolean, .arrayClass .byte, .arrayClass .long, .methodLink RX6 18 yX4_init, .methodLink RX4 39 yX4_clear]
def tw2 : List Cond := twc ++ tw
theorem twc_good : twc.all goodWord = true := by decide +kernel
theorem w2c {w : Cond} {i : Nat} (h : twc[i]? = some w) : w ∈ tw2 := List.mem_append_left _ (List.mem_of_getElem? h)
theorem w2t {w : Cond} (h : w ∈ tw) : w ∈ tw2 := List.mem_append_right _ h
theorem w2r {w : Cond} {i : Nat} (h : twr[i]? = some w) : w ∈ tw2 := w2t (in_r h)
theorem tw2_good1 {w : Cond} (h : w ∈ tw2) : (w.onTables && w.keeps) = true ∨ ∃ ty, w = .arrayClass ty := (List.mem_append.mp h).elim (fun h => good_of_word (List.all_eq_true.mp twc_good w h)) tw_good1
theorem gd_2 {c0 c1 : Cond} {ws : List Cond} (h1 : c1 ∈ tw2) (h : ∀ w ∈ ws, w ∈ tw2) : GoodIn (c0 :: tw2) (c1 :: ws) := fun w hw => (List.mem_cons.mp hw).elim (fun e9 => e9 ▸ ⟨List.mem_cons_of_mem _ h1, tw2_good1 h1⟩) (fun hw => ⟨List.mem_cons_of_mem _ (h w hw), tw2_good1 (h w hw)⟩)
theorem in_u2 {k : Nat} {c0 : Cond} (hk : k < 8) : ∀ w ∈ u_ws (iCl k).1 (iCl k).2.1 (iCl k).2.2, w ∈ c0 :: tw2 := fun w h => List.mem_cons_of_mem _ (w2t (in_u k hk w h))
/-- private constructors of nest mates, arrays of references -/
def nbL : List (String × Nat × MethodName) := [(RX6, 9, yX2_init), (RX4, 31, yX3_init), (RX4, 36, yX5_init), (RX4, 37, yX1_init), (RX4, 38, yX0_init)]
def NB (U : State) : Prop := (∀ q ∈ nbL, va_Nw (.methodLinkNest q.1 q.2.1 q.2.2 RX6) U) ∧ va_AO RX5 U ∧ va_AO RX1 U ∧ va_AO RX0 U ∧ va_AO RX4 U
theorem NB.move {s U : State} (h : NB s) (hW : s.WarmedH U.vm) : NB U := ⟨fun q hq => va_Nw.warmM hW (h.1 q hq), h.2.1.moved hW.alike, h.2.2.1.moved hW.alike, h.2.2.2.1.moved hW.alike, h.2.2.2.2.moved hW.alike⟩
theorem NB.at {s : State} (h : NB s) {q : String × Nat × MethodName} (i : Nat) (hi : nbL[i]? = some q) : va_Nw (.methodLinkNest q.1 q.2.1 q.2.2 RX6) s := h.1 q (List.mem_of_getElem? hi)
/-- the cells h, h + 1 .. h + n - 1 are G 0, G 1 ..; the heap has sz cells; what lies outside of F is as it was -/
def cS (D : va_G) (F : Nat → Prop) (h n sz : Nat) (G : Nat → va_E) (H0 H : Heap) (locs : List Loc) : Prop := H.size = sz ∧ (∀ k, k < n → va_at D vwCl (h + k, G k) H) ∧ (∀ q : Nat, ¬ F q → H[q]? = H0[q]?) ∧ ∀ z ∈ locs, F z.base
theorem cS.to {D : va_G} {F : Nat → Prop} {h n sz : Nat} {G G' : Nat → va_E} {H0 H : Heap} {locs : List Loc} (hS : cS D F h n sz G H0 H locs) (hG : ∀ k, k < n → G k = G' k) : cS D F h n sz G' H0 H locs := ⟨hS.1, fun k hk => by rw [← hG k hk]; exact hS.2.1 k hk, hS.2.2⟩
theorem cS.upd {D : va_G} {F : Nat → Prop} {h n sz : Nat} {G : Nat → va_E} {H0 H H1 : Heap} {locs : List Loc} {j : Nat} {z : Loc} {e : va_E} (hS : cS D F h n sz G H0 H locs) (hF : F (h + j)) (hz : z.base = h + j) (e1 : va_at D vwCl (h + j, e) H1) (e2 : H1.size = H.size) (e3 : ∀ q, q ≠ h + j → H1[q]? = H[q]?) : cS D F h n sz (va_up G j e) H0 H1 (locs ++ [z]) := by
  refine ⟨e2.trans hS.1, fun k hk => ?_, fun q hq => ?_, fun y hy => ?_⟩
  · unfold va_up
    by_cases hkj : k = j
    · subst hkj
      rw [if_pos rfl]
      exact e1
    · rw [if_neg hkj]
      exact (hS.2.1 k hk).kept (e3 _ (by show h + k ≠ h + j; omega))
  · exact (e3 q (fun q9 => hq (q9 ▸ hF))).trans (hS.2.2.1 q hq)
  · rcases List.mem_append.mp hy with h1 | h1
    · exact hS.2.2.2 y h1
    · rw [List.mem_singleton.mp h1, hz]
      exact hF
theorem cS.push {D : va_G} {F : Nat → Prop} {h n : Nat} {G : Nat → va_E} {H0 H H1 : Heap} {locs : List Loc} {e : va_E} (hS : cS D F h n (h + n) G H0 H locs) (hF : ∀ q, h ≤ q → F q) (e1 : va_at D vwCl (h + n, e) H1) (e2 : H1.size = h + n + 1) (e3 : ∀ q, q < h + n → H1[q]? = H[q]?) : cS D F h (n + 1) (h + (n + 1)) (va_up G n e) H0 H1 locs := by
  refine ⟨e2, fun k hk => ?_, fun q hq => ?_, hS.2.2.2⟩
  · unfold va_up
    by_cases hkj : k = n
    · subst hkj
      rw [if_pos rfl]
      exact e1
    · rw [if_neg hkj]
      exact (hS.2.1 k (by omega)).kept (e3 _ (by show h + k < h + n; omega))
  · have hq2 : q < h := Nat.lt_of_not_le (fun q9 => hq (hF q q9))
    exact (e3 q (by omega)).trans (hS.2.2.1 q hq)
section BLK
variable {p : Program} {l : Launch} {e : Env} {R : Room} {s : State} {m : MethodId} {args : Array Value} {below : List Frame} {meth : Method} {c : Code} {H : Heap} {locs : List Loc} {cells slots : Nat} {Q : State → Prop}
variable {cc : ByteArray} {pc : Nat} {ls : Array Slot} {rest : List Value} {D : va_G} {cy : Nat → ClassId} {F : Nat → Prop} {h n sz : Nat} {G : Nat → va_E} {H0 : Heap} {c0 : Cond} {own : String}
theorem b_new (hx : p.tables.exec = Jvm.exec) (hb : c.code = cc) (hown : s.vm.findClass own = some m.cls) (hts : ∀ w ∈ c0 :: tw2, w.before args s = true) (hK : va_K D vwCl (wT cy) s) (ci : Nat) (hci : ci < 8) {index : Nat} (ty : Nat → FieldType) (hty : ∀ k, k < (iCl ci).2.2 → parseFieldDescriptor ((iCl ci).2.1 k).2.2.1 = some (ty k))
    (hcl : (Cond.classLink own index (iCl ci).1).before args s = true) (hinst : (Cond.instantiable (iCl ci).1 (iCl ci).2.2).before args s = true) (hini : (Cond.initialized (iCl ci).1).before args s = true) (hS : cS D F h n (h + n) G H0 H locs) (hF : ∀ q, h ≤ q → F q) {fs : List Value} (hfs : ∀ j, j < (iCl ci).2.2 → defaultValue (ty j) = vp_V fs j)
    (hcells : cells + 1 ≤ R.cells) (hslots : slots + (iCl ci).2.2 ≤ R.slots) (hdg : decode cc pc = .ok (.new index, 3))
    (kk : ∀ H1 : Heap, cS D F h (n + 1) (h + (n + 1)) (va_up G n (.inr (ci, fs))) H0 H1 locs → W p l e R s m args below meth c H1 locs (cells + 1) (slots + (iCl ci).2.2) Q (F0 m (pc + 3) ls (.ref (h + n) :: rest))) : W p l e R s m args below meth c H locs cells slots Q (F0 m pc ls rest) := by
  have hKn := hK.1 ci _ (cl_get ci hci)
  refine W.newcK hx hb hown hcl hinst hini rfl hdg hcells hslots hKn.2.1 hS.1 fun H1 kC hkC e1 z1 o1 => ?_
  exact kk H1 (hS.push hF ⟨_, cl_get ci hci, (u_born ty hts (in_u2 hci) hKn hkC e1 hty).to hfs⟩ z1 o1)
theorem b_newa (hx : p.tables.exec = Jvm.exec) (hb : c.code = cc) {atype : ArrayType} (harr : (Cond.arrayClass (newarray.typeOf atype)).before args s = true) {cA : ClassId} (hra : s.vm.findClass ("[" ++ (newarray.typeOf atype).toString) = some cA) (hS : cS D F h n (h + n) G H0 H locs) (hF : ∀ q, h ≤ q → F q)
    {k : Int32} {N : Nat} (a0 : vp_A) (ha : ∀ cA : ClassId, vp_cell cA a0 = arrV cA N (fun _ => defaultValue (newarray.typeOf atype))) (hn : ¬ k < 0) (hN : k.toNatClampNeg = N) (hbytes : N * componentBytes (newarray.typeOf atype) ≤ 536870912) (hcells : cells + 1 ≤ R.cells) (hslots : slots + N ≤ R.slots) (hdg : decode cc pc = .ok (.newarray atype, 2))
    (kk : ∀ H1 : Heap, cS D F h (n + 1) (h + (n + 1)) (va_up G n (.inl (cA, a0))) H0 H1 locs → W p l e R s m args below meth c H1 locs (cells + 1) (slots + N) Q (F0 m (pc + 2) ls (.ref (h + n) :: rest))) : W p l e R s m args below meth c H locs cells slots Q (F0 m pc ls (.int k :: rest)) := by
  refine va_newaK hx hb harr rfl hdg rfl hn hN hbytes hcells hslots hS.1 fun H1 cB e1 z1 o1 hAr hNm => ?_
  cases hra.symm.trans hNm
  refine kk H1 (hS.push hF ?_ z1 o1)
  show H1[h + n]? = some (vp_cell _ _)
  rw [ha]
  exact e1
theorem b_anew (hx : p.tables.exec = Jvm.exec) (hb : c.code = cc) {C : String} {index : Nat} (hown : s.vm.findClass own = some m.cls) (hcl : (Cond.classLink own index C).before args s = true) (hAO : va_AO C s) {cA : ClassId} (hra : va_RA s cA (.object C)) (hS : cS D F h n (h + n) G H0 H locs) (hF : ∀ q, h ≤ q → F q)
    {k : Int32} {N : Nat} (hn : ¬ k < 0) (hN : k.toNatClampNeg = N) (hbytes : N * 4 ≤ 536870912) (hcells : cells + 1 ≤ R.cells) (hslots : slots + N ≤ R.slots) (hdg : decode cc pc = .ok (.anewarray index, 3))
    (kk : ∀ H1 : Heap, cS D F h (n + 1) (h + (n + 1)) (va_up G n (.inl (cA, N, .inr (.inr (.inr (.inr (fun _ => none))))))) H0 H1 locs → W p l e R s m args below meth c H1 locs (cells + 1) (slots + N) Q (F0 m (pc + 3) ls (.ref (h + n) :: rest))) : W p l e R s m args below meth c H locs cells slots Q (F0 m pc ls (.int k :: rest)) := by
  subst hN
  refine W.anew hx hb hown hcl (va_AO.use hAO) rfl hdg rfl hn hbytes hcells hslots fun cB kA comp f1 f2 f3 f4 => ?_
  obtain ⟨kA', comp', g1, g2, g3, g4⟩ := hra
  cases g4.symm.trans f1
  have hsz := hS.1
  generalize hH1 : H.push ({ cls := cA, slots := Array.replicate k.toNatClampNeg .null, vm := .none } : Cell) = H1
  have z1 : H1.size = H.size + 1 := by rw [← hH1, Array.size_push]
  have e1 : H1[H.size]? = some (arrV cA k.toNatClampNeg (fun _ => .null)) := by rw [← hH1, Array.getElem?_push_size, ← arrV_new]
  have o1 : ∀ q : Nat, q < H.size → H1[q]? = H[q]? := fun q hq => by rw [← hH1, Array.getElem?_push, if_neg (Nat.ne_of_lt hq)]
  rw [hsz] at z1 e1 o1 ⊢
  refine kk H1 (hS.push hF ?_ z1 o1)
  show H1[h + n]? = some (vp_cell _ _)
  rw [e1]
  rfl
theorem b_put (hx : p.tables.exec = Jvm.exec) (hb : c.code = cc) (hown : s.vm.findClass own = some m.cls) (hts : ∀ w ∈ c0 :: tw2, w.before args s = true) (hK : va_K D vwCl (wT cy) s) (ci : Nat) (hci : ci < 8) {ref : String} {index : Nat} (hS : cS D F h n sz G H0 H locs) (j : Nat) (hj : j < n) {a : Nat} (ha : a = h + j) (hF : F (h + j)) {fs : List Value} (hG : G j = .inr (ci, fs)) (k : Nat) (hk : k < (iCl ci).2.2)
    (hlink : (Cond.fieldLink own index ref ((iCl ci).2.1 k).2.1 ((iCl ci).2.1 k).2.2.1).before args s = true) (href : ((iCl ci).2.1 k).1 = ref) (hfin : ((iCl ci).2.1 k).2.2.2 = false) {ty : FieldType} {v : Value} (hd : parseFieldDescriptor ((iCl ci).2.1 k).2.2.1 = some ty) (hn : narrow ty v = v) (hfit : fits ty v = true) (hl : k < fs.length) (hdg : decode cc pc = .ok (.putfield index, 3))
    (kk : ∀ (H1 : Heap) (locs1 : List Loc), cS D F h n sz (va_up G j (.inr (ci, fs.set k v))) H0 H1 locs1 → W p l e R s m args below meth c H1 locs1 cells slots Q (F0 m (pc + 3) ls rest)) : W p l e R s m args below meth c H locs cells slots Q (F0 m pc ls (v :: .ref a :: rest)) := by
  subst ha
  subst href
  obtain ⟨ty0, hty⟩ := cl_ty ci hci
  have hap := va_apart (own := own) (C := (iCl ci).1) hts (in_u2 hci) ty0 hty (cl_nm ci hci) hK (cl_get ci hci)
  have hat := hS.2.1 j hj
  rw [hG] at hat
  obtain ⟨r, h1, cell, q1, q2, q3, q4⟩ := hat
  have hr : r = ((iCl ci).1, (iCl ci).2.1, (iCl ci).2.2) := Option.some.inj (h1.symm.trans (cl_get ci hci))
  subst hr
  obtain ⟨hSl, hfc, kC, hkC, hkind⟩ := hK.1 ci _ (cl_get ci hci)
  obtain ⟨cf, kf, fi, f, hi, hsl⟩ := hSl k hk
  have hlay := hts _ (in_u2 hci _ (u_in_lay hk))
  unfold u_lay at hlay
  rw [if_neg (by rw [hfin]; decide)] at hlay
  have hst := (u_facts hfc hkC (u_lays hts (in_u2 hci) hk) hi).1
  have h6 := u_store hfc hkC hkind hlay hi hd hn hfit
  refine W.putK hx hb (f := f) ⟨hown, hlink, ⟨_, _, _, hi⟩, hst⟩ (by rw [q2]; exact h6) q1 q3 (by rw [hsl]; exact k2_hasslot (q4 k hk)) rfl rfl hdg fun H' e1 e2 e3 => ?_
  rw [hsl] at e1 ⊢
  exact kk H' _ (hS.upd hF rfl ⟨_, cl_get ci hci, t_OB.to (V := updV (vp_V fs) k v) ⟨_, e1, q2, q3, t_set q4 hap hk v⟩ (fun j _ => vp_updV_set hl v j)⟩ e2 e3)
theorem b_putF (hx : p.tables.exec = Jvm.exec) (hb : c.code = cc) (hown : s.vm.findClass own = some m.cls) (hts : ∀ w ∈ c0 :: tw2, w.before args s = true) (hK : va_K D vwCl (wT cy) s) (ci : Nat) (hci : ci < 8) {index : Nat} (hS : cS D F h n sz G H0 H locs) (j : Nat) (hj : j < n) {a : Nat} (ha : a = h + j) (hF : F (h + j)) {fs : List Value} (hG : G j = .inr (ci, fs)) (k : Nat) (hk : k < (iCl ci).2.2)
    (hlink : (Cond.fieldLink own index own ((iCl ci).2.1 k).2.1 ((iCl ci).2.1 k).2.2.1).before args s = true) (hfin : ((iCl ci).2.1 k).2.2.2 = true) (hin2 : meth.name = "<init>") (hdecl : ((iCl ci).2.1 k).1 = own) {ty : FieldType} {v : Value} (hd : parseFieldDescriptor ((iCl ci).2.1 k).2.2.1 = some ty) (hn : narrow ty v = v) (hfit : fits ty v = true) (hl : k < fs.length) (hdg : decode cc pc = .ok (.putfield index, 3))
    (kk : ∀ (H1 : Heap) (locs1 : List Loc), cS D F h n sz (va_up G j (.inr (ci, fs.set k v))) H0 H1 locs1 → W p l e R s m args below meth c H1 locs1 cells slots Q (F0 m (pc + 3) ls rest)) : W p l e R s m args below meth c H locs cells slots Q (F0 m pc ls (v :: .ref a :: rest)) := by
  subst ha
  obtain ⟨ty0, hty⟩ := cl_ty ci hci
  have hap := va_apart (own := own) (C := (iCl ci).1) hts (in_u2 hci) ty0 hty (cl_nm ci hci) hK (cl_get ci hci)
  have hat := hS.2.1 j hj
  rw [hG] at hat
  obtain ⟨r, h1, cell, q1, q2, q3, q4⟩ := hat
  have hr : r = ((iCl ci).1, (iCl ci).2.1, (iCl ci).2.2) := Option.some.inj (h1.symm.trans (cl_get ci hci))
  subst hr
  obtain ⟨hSl, hfc, kC, hkC, hkind⟩ := hK.1 ci _ (cl_get ci hci)
  obtain ⟨cf, kf, fi, f, hi, hsl⟩ := hSl k hk
  have hlay := hts _ (in_u2 hci _ (u_in_lay hk))
  unfold u_lay at hlay
  rw [if_pos hfin] at hlay
  have hst := (u_facts hfc hkC (u_lays hts (in_u2 hci) hk) hi).1
  have hcf : m.cls = cf := by
    obtain ⟨_, _, c', _, _, _, -, -, hf', -, -, -, hown2, -⟩ := Cond.laysFinal_spec hlay
    have e1 : c' = cf := by have := hi.symm.trans hf'; simp at this; exact this.1.symm
    rw [hdecl] at hown2
    rw [← e1]; exact Option.some.inj (hown.symm.trans hown2)
  have h6 := u_fits hfc hkC hkind (Or.inr hlay) hi hd hn hfit
  rw [hdecl] at hi
  refine W.putFinK hx hb hown hlink hi hst hcf hin2 (by rw [q2]; exact h6) q1 q3 (by rw [hsl]; exact k2_hasslot (q4 k hk)) rfl rfl hdg fun H' e1 e2 e3 => ?_
  rw [hsl] at e1 ⊢
  exact kk H' _ (hS.upd hF rfl ⟨_, cl_get ci hci, t_OB.to (V := updV (vp_V fs) k v) ⟨_, e1, q2, q3, t_set q4 hap hk v⟩ (fun j _ => vp_updV_set hl v j)⟩ e2 e3)
theorem b_get (hx : p.tables.exec = Jvm.exec) (hb : c.code = cc) (hown : s.vm.findClass own = some m.cls) (hts : ∀ w ∈ c0 :: tw2, w.before args s = true) (hK : va_K D vwCl (wT cy) s) (ci : Nat) (hci : ci < 8) {ref : String} {index : Nat} (hS : cS D F h n sz G H0 H locs) (j : Nat) (hj : j < n) {a : Nat} (ha : a = h + j) {fs : List Value} (hG : G j = .inr (ci, fs)) (k : Nat) (hk : k < (iCl ci).2.2)
    (hlink : (Cond.fieldLink own index ref ((iCl ci).2.1 k).2.1 ((iCl ci).2.1 k).2.2.1).before args s = true) (href : ((iCl ci).2.1 k).1 = ref) {v : Value} (hv : fs[k]? = some v) (hdg : decode cc pc = .ok (.getfield index, 3))
    (kk : W p l e R s m args below meth c H locs cells slots Q (F0 m (pc + 3) ls (v :: rest))) : W p l e R s m args below meth c H locs cells slots Q (F0 m pc ls (.ref a :: rest)) := by
  subst ha
  subst href
  have hat := hS.2.1 j hj
  rw [hG] at hat
  refine va_get (D := D) (cl := vwCl) (ws := [(h + j, .inr (ci, fs))]) (ci := ci) (v := v) (C := (iCl ci).1) (T := (iCl ci).2.1) (N := (iCl ci).2.2) hx hb hts (in_u2 hci) hown hK (fun i q hq => ?_) 0 rfl (cl_get ci hci) k hk hlink (fun _ h9 => h9) hv hdg kk
  match i, hq with
  | 0, hq => cases hq; exact hat
theorem b_alen (hx : p.tables.exec = Jvm.exec) (hb : c.code = cc) (hK : va_K D vwCl (wT cy) s) (hS : cS D F h n sz G H0 H locs) (j : Nat) (hj : j < n) {a : Nat} (ha : a = h + j) {cA : ClassId} {x : vp_A} (hG : G j = .inl (cA, x)) (t0 : Nat) {ty : FieldType} (ht : (wT cy)[t0]? = some (cA, ty)) {v : Int32} (hv : Int32.ofNat x.1 = v) (hdg : decode cc pc = .ok (.arraylength, 1))
    (kk : W p l e R s m args below meth c H locs cells slots Q (F0 m (pc + 1) ls (.int v :: rest))) : W p l e R s m args below meth c H locs cells slots Q (F0 m pc ls (.ref a :: rest)) := by
  subst ha
  have hat := hS.2.1 j hj
  rw [hG] at hat
  refine va_alen (D := D) (cl := vwCl) (ws := [(h + j, .inl (cA, x))]) hx hb hK (fun i q hq => ?_) 0 t0 rfl ht hv hdg kk
  match i, hq with
  | 0, hq => cases hq; exact hat
theorem b_aald (hx : p.tables.exec = Jvm.exec) (hb : c.code = cc) (hK : va_K D vwCl (wT cy) s) (hS : cS D F h n sz G H0 H locs) (j : Nat) (hj : j < n) {a : Nat} (ha : a = h + j) {cA : ClassId} {N : Nat} {f : Nat → Option Nat} (hG : G j = .inl (cA, N, .inr (.inr (.inr (.inr f))))) (t0 : Nat) {C : String} (ht : (wT cy)[t0]? = some (cA, .object C)) {i : Int32} (hin : vp_in i N) {v : Nat} (hv : f i.toNatClampNeg = some v) (hdg : decode cc pc = .ok (.aaload, 1))
    (kk : W p l e R s m args below meth c H locs cells slots Q (F0 m (pc + 1) ls (.ref v :: rest))) : W p l e R s m args below meth c H locs cells slots Q (F0 m pc ls (.int i :: .ref a :: rest)) := by
  subst ha
  have hat := hS.2.1 j hj
  rw [hG] at hat
  refine va_aldq (D := D) (cl := vwCl) (ws := [(h + j, .inl (cA, N, .inr (.inr (.inr (.inr f)))))]) hx hb hK (fun i q hq => ?_) 0 t0 rfl ht hin hdg (by rw [hv]; exact kk)
  match i, hq with
  | 0, hq => cases hq; exact hat
theorem b_aast (hx : p.tables.exec = Jvm.exec) (hb : c.code = cc) (hK : va_K D vwCl (wT cy) s) (hS : cS D F h n sz G H0 H locs) (j : Nat) (hj : j < n) {a : Nat} (ha : a = h + j) (hF : F (h + j)) {cA : ClassId} {N : Nat} {f : Nat → Option Nat} (hG : G j = .inl (cA, N, .inr (.inr (.inr (.inr f))))) (t0 ci : Nat) (hci : ci < 8) (ht : (wT cy)[t0]? = some (cA, .object (iCl ci).1)) {v : Nat} {vs : List Value} (hv : va_at D vwCl (v, .inr (ci, vs)) H) {i : Int32} (hin : vp_in i N) (hdg : decode cc pc = .ok (.aastore, 1))
    (kk : ∀ (H1 : Heap) (locs1 : List Loc), cS D F h n sz (va_up G j (.inl (cA, N, .inr (.inr (.inr (.inr (va_up f i.toNatClampNeg (some v)))))))) H0 H1 locs1 → W p l e R s m args below meth c H1 locs1 cells slots Q (F0 m (pc + 1) ls rest)) : W p l e R s m args below meth c H locs cells slots Q (F0 m pc ls (.ref v :: .int i :: .ref a :: rest)) := by
  subst ha
  have hat := hS.2.1 j hj
  rw [hG] at hat
  have hlt : i.toNatClampNeg < N := Nat.not_le.mp fun q => hin (Or.inr q)
  have h0 : ¬ i < 0 := fun q => hin (Or.inl q)
  obtain ⟨r', hr', cellV, g1, g2, g3, -⟩ := hv
  have hcls := (hK.1 ci _ (cl_get ci hci)).2
  obtain ⟨kA, comp, k1, k2, k3, -⟩ := (hK.2 t0 _ ht).2
  have hcomp : comp = D.1 ci := Option.some.inj (k3.symm.trans hcls.1)
  subst hcomp
  obtain ⟨kC, hkC, -⟩ := hcls.2
  refine W.aast hx hb hat (fun q h => by cases h) (fun h => by cases h) k1 k2 rfl hkC ⟨h0, by show _ < (arrV _ _ _).slots.size; rw [arrV_size]; exact hlt⟩ g1 (fun q h => by rw [g3] at h; cases h) (by rw [g2]; exact hkC) (by rw [g2]; exact va_assign hcls) rfl rfl hdg fun H1 e z oq => ?_
  refine kk H1 _ (hS.upd hF rfl ?_ z oq)
  show H1[h + j]? = some (vp_cell _ _)
  rw [e]
  rw [vp_cell_q, vp_cell_q, arrV_store]
  congr 2
  funext q
  by_cases hq : q = i.toNatClampNeg
  · subst hq
    simp [updV, va_up, va_rf]
  · simp [updV, va_up, hq]
end BLK
