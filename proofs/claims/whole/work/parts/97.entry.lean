/-! ===== the law's entry: what the Statement gives of the start ===== -/
def ixT (i : Nat) : Nat := match i with | 0 => 58 | 1 => 67 | 2 => 73 | 3 => 93 | 4 => 101 | 5 => 105 | 6 => 109 | _ => 113
def tmS (i : Nat) : Term := .string RX2 (ixT i)
abbrev flN : List Cond := flatC (Jvm.Cond.and given_1 narrow_1)
/-- owner, place, number of the text, text -/
def strT3 : List (String × Nat × Nat × String) := [(RX2, 58, 0, "stations"), (RX2, 67, 1, "product"), (RX2, 73, 2, "order"), (RX2, 93, 3, "buffers"), (RX2, 101, 4, "rope"), (RX2, 105, 5, "rule"), (RX2, 109, 6, "auto"), (RX2, 113, 7, "setup"), (RX7, 163, 0, "stations"), (RX7, 133, 3, "buffers"), (RX7, 139, 4, "rope"), (RX7, 141, 5, "rule"), (RX7, 143, 6, "auto"), (RX7, 145, 7, "setup"), (RX7, 150, 1, "product"), (RX7, 155, 2, "order")]
theorem ff_N : ∀ i, i < 8 → sK.getD i 0 < 2 ^ 31 := by decide +kernel
theorem ff_ex : ∀ i, i < 8 → Cond.exactly (tmS i) "java/lang/String" ∈ flN := by decide +kernel
theorem ff_co : ∀ i, i < 8 → Cond.eq (.field (tmS i) "java/lang/String" "coder" "B") (.int 0) ∈ flN := by decide +kernel
theorem ff_ar : ∀ i, i < 8 → Cond.arrayOf (.field (tmS i) "java/lang/String" "value" "[B") .byte ∈ flN := by decide +kernel
theorem ff_le : ∀ i, i < 8 → Cond.eq (.length (.field (tmS i) "java/lang/String" "value" "[B")) (.int (Int32.ofNat (sK.getD i 0))) ∈ flN := by decide +kernel
theorem ff_el : ∀ i, i < 8 → ∀ j, j < sK.getD i 0 → Cond.eq (.elem (.field (tmS i) "java/lang/String" "value" "[B") (.int (Int32.ofNat j))) (.int ((sB.getD i []).getD j 0)) ∈ flN := by decide +kernel
theorem ff_ne : ∀ i, i < 8 → ∀ j, j < 8 → i ≠ j → Cond.not (Cond.eq (tmS i) (tmS j)) ∈ flN ∨ Cond.not (Cond.eq (tmS j) (tmS i)) ∈ flN := by decide +kernel
theorem ff_st : ∀ q ∈ strT3, Cond.stringRef q.1 q.2.1 q.2.2.2 ∈ lw_tbl ∧ q.2.2.1 < 8 ∧ (tmS q.2.2.1 = .string q.1 q.2.1 ∨ Cond.eq (tmS q.2.2.1) (.string q.1 q.2.1) ∈ flN) := by decide +kernel
theorem ff_tb : ∀ q ∈ strTab, ∃ r ∈ strT3, r.1 = q.1 ∧ r.2.1 = q.2.1 ∧ r.2.2.1 = q.2.2 := by decide +kernel
def msT (k : Nat) : String := if k = 279 then "no such product" else if k = 288 then "no such order" else if k = 290 then "no such station" else "a value is out of its range"
theorem ff_ms : ∀ q ∈ thP, Cond.stringRef RX6 q.2.2.1 (msT q.2.2.1) ∈ lw_tbl ∧ Cond.exactly (.string RX6 q.2.2.1) "java/lang/String" ∈ flN := by decide +kernel
theorem ff_cs : Cond.laysStatic "java/lang/String" "COMPACT_STRINGS" "Z" ∈ lw_tbl ∧ Cond.initialized "java/lang/String" ∈ lw_tbl ∧ Cond.eq (.static "java/lang/String" "COMPACT_STRINGS" "Z") (.int 1) ∈ flN := by decide +kernel
theorem ff_si : Cond.laysStatic "jdk/internal/util/Preconditions" "SIOOBE_FORMATTER" "Ljava/util/function/BiFunction;" ∈ lw_tbl ∧ Cond.initialized "jdk/internal/util/Preconditions" ∈ lw_tbl ∧ Cond.isRef (.static "jdk/internal/util/Preconditions" "SIOOBE_FORMATTER" "Ljava/util/function/BiFunction;") ∈ flN := by decide +kernel
theorem ff_us : Cond.laysStatic Bundle.tN "UNASSIGNED_STACK" Bundle.steD ∈ lw_tbl ∧ Cond.initialized Bundle.tN ∈ lw_tbl ∧ Cond.isRef (.static Bundle.tN "UNASSIGNED_STACK" Bundle.steD) ∈ flN := by decide +kernel
theorem ff_ss : Cond.laysStatic Bundle.tN "SUPPRESSED_SENTINEL" Bundle.listD ∈ lw_tbl ∧ Cond.isRef (.static Bundle.tN "SUPPRESSED_SENTINEL" Bundle.listD) ∈ flN := by decide +kernel
theorem ff_nc : Cond.not (.castable (exN 1) (exN 0)) ∈ flN := by decide +kernel
section ENTRY
variable {s : State} {args : Array Value}
theorem en_ex (hts : ∀ w ∈ lw_tbl, w.before args s = true) (hgv : (Jvm.Cond.and given_1 narrow_1).before args s = true) : ∃ sa adV : Nat → Nat, EXs (adW s.heap.size sa) adV s := by
  have hs : ∀ c ∈ flN, c.before args s = true := flat_of_before _ hgv
  obtain ⟨sa, adV, hS, hev⟩ := vk_Sof (args := args) (s := s) (N := 8) (tm := tmS) (len := sK) (byt := sB) (A := lA s) ff_N (fun i hi => hs _ (ff_ex i hi)) (fun i hi => hs _ (ff_co i hi)) (fun i hi => hs _ (ff_ar i hi)) (fun i hi => hs _ (ff_le i hi)) (fun i hi j hj => hs _ (ff_el i hi j hj)) (fun i j hi hj hij => (ff_ne i hi j hj hij).imp (hs _) (hs _)) (fun a ha => Nat.not_le.mpr ha)
  refine ⟨sa, adV, ?_⟩
  have hA : ∀ a : Nat, a < s.heap.size → ¬ wA (adW s.heap.size sa) a := fun a h1 h2 => absurd (adW_A h2).1 (by omega)
  have e16 : adW s.heap.size sa 16 = sa := funext fun i => if_pos rfl
  refine ⟨?_, ?_, ?_, fun q hq => ?_, ⟨fun q hq => ⟨fun w hw => va_Nw.of (thX_ot q hq w hw) (hts w (thX_in q hq w hw)), ?_⟩, ?_, ?_⟩⟩
  · rw [e16]
    exact hS.narrow (fun q h9 => (adW_A h9).1)
  · exact va_Zof (hts _ ff_cs.1) (hts _ ff_cs.2.1) (va_eqt (hs _ ff_cs.2.2)) hA
  · exact va_Zqof (hts _ ff_si.1) (hts _ ff_si.2.1) (hs _ ff_si.2.2) hA
  · obtain ⟨r, hr, e1, e2, e3⟩ := ff_tb q hq
    obtain ⟨h1, h2, h3⟩ := ff_st r hr
    refine ⟨r.2.2.2, ?_⟩
    rw [← e1, ← e2, ← e3, e16]
    refine vk_R.of (A := args) (hts _ h1) ?_
    rcases h3 with h3 | h3
    · rw [← h3]
      exact hev _ h2
    · exact va_eqR (hs _ h3) (hev _ h2)
  · obtain ⟨h1, h2⟩ := ff_ms q hq
    obtain ⟨a, c9, cell, k9, g1, -⟩ := Cond.exactly_spec (args := args) (first := s) (o := none) (s := s) (idx := []) (t := .string RX6 q.2.2.1) (cls := "java/lang/String") (hs _ h2)
    exact ⟨_, a, vk_R.of (A := args) (hts _ h1) g1⟩
  · exact vx_Zqof (hts _ ff_us.1) (hts _ ff_us.2.1) (hs _ ff_us.2.2) hA
  · exact vx_Zqof (hts _ ff_ss.1) (hts _ ff_us.2.1) (hs _ ff_ss.2) hA
theorem en_NB (hts : ∀ w ∈ lw_tbl, w.before args s = true) : NB s := ⟨fun q hq => va_Nw.of rfl (hts _ (nbL_in q hq)), va_AO.of (hts _ (ao_in _ (List.mem_of_getElem? (i := 0) rfl))), va_AO.of (hts _ (ao_in _ (List.mem_of_getElem? (i := 1) rfl))), va_AO.of (hts _ (ao_in _ (List.mem_of_getElem? (i := 2) rfl))), va_AO.of (hts _ (ao_in _ (List.mem_of_getElem? (i := 3) rfl)))⟩
theorem en_CX (hts : ∀ w ∈ lw_tbl, w.before args s = true) (hgv : (Jvm.Cond.and given_1 narrow_1).before args s = true) : CX s := ⟨va_Nw.of rfl (hts _ ca_in.1), va_Nw.of rfl (hts _ ca_in.2), va_Nc.of (flat_of_before _ hgv _ ff_nc)⟩
theorem en_arr {ty : FieldType} (h : (Cond.arrayClass ty).before args s = true) : ∃ cA : ClassId, ArrOfT s cA ty ∧ s.vm.findClass ("[" ++ ty.toString) = some cA := by
  obtain ⟨cA, kA, comp, h1, h2, h3⟩ := Cond.arrayClass_spec h
  exact ⟨cA, fun n z => ⟨fun k h => (by cases h), kA, h2, comp, h3⟩, h1⟩
theorem en_arq {C : String} (h : (Cond.arrayOver (.object C)).before args s = true) : ∃ cA : ClassId, ArrOfT s cA (.object C) ∧ va_RA s cA (.object C) := by
  obtain ⟨comp, cA, kA, h1, h2, h3, h4, h5⟩ := Cond.arrayOver_spec h
  exact ⟨cA, fun n z => ⟨fun k h => (by cases h), kA, h3, comp, h4⟩, kA, comp, h3, h4, h1, h5⟩
theorem en_K (hts : ∀ w ∈ lw_tbl, w.before args s = true) : ∃ (dC : Nat → ClassId) (dI : Nat → Nat → Nat) (cy : Nat → ClassId) (cL : ClassId), va_K (dC, dI) vwCl (wT cy) s ∧ va_K (dC, dI) vwCl [(cL, .long)] s := by
  have w2 : ∀ {w : Cond}, w ∈ tw2 → w.before args s = true := fun h => hts _ (tw3_in _ (w3t h))
  obtain ⟨c0, i0, k0⟩ := u_known (C := RX0) (T := TX0) (N := 14) (n := 14) hts i3_u0 (w2 (w2c (i := 2) rfl))
  obtain ⟨c1, i1, k1⟩ := u_known (C := RX1) (T := TX1) (N := 4) (n := 4) hts i3_u1 (w2 (w2c (i := 6) rfl))
  obtain ⟨c2, i2, k2⟩ := u_known (C := RX2) (T := TX2) (N := 8) (n := 8) hts i3_u2 (w2 (w2c (i := 10) rfl))
  obtain ⟨c3, i3, k3⟩ := u_known (C := RX3) (T := TX3) (N := 3) (n := 3) hts i3_u3 (w2 (w2c (i := 14) rfl))
  obtain ⟨c4, i4, k4⟩ := u_known (C := RX4) (T := TX4) (N := 15) (n := 15) hts i3_u4 (w2 (w2c (i := 18) rfl))
  obtain ⟨c5, i5, k5⟩ := u_known (C := RX5) (T := TX5) (N := 8) (n := 8) hts i3_u5 (w2 (w2c (i := 22) rfl))
  obtain ⟨c6, i6, k6⟩ := u_known (C := RX6) (T := TX6) (N := 5) (n := 5) hts i3_u6 (w2 (w2c (i := 26) rfl))
  obtain ⟨c7, i7, k7⟩ := u_known (C := RX7) (T := TX7) (N := 20) (n := 20) hts i3_u7 (w2 (w2c (i := 30) rfl))
  obtain ⟨a8, h8, n8⟩ := en_arr (ty := .int) (args := args) (w2 (w2c (i := 40) rfl))
  obtain ⟨a9, h9, n9⟩ := en_arr (ty := .byte) (args := args) (w2 (w2c (i := 42) rfl))
  obtain ⟨a10, h10, n10⟩ := en_arr (ty := .boolean) (args := args) (w2 (w2c (i := 41) rfl))
  obtain ⟨aL, hL, nL⟩ := en_arr (ty := .long) (args := args) (w2 (w2c (i := 43) rfl))
  obtain ⟨a12, h12, n12⟩ := en_arq (C := RX0) (args := args) (hts _ (ao_in _ (List.mem_of_getElem? (i := 2) rfl)))
  obtain ⟨a13, h13, n13⟩ := en_arq (C := RX1) (args := args) (hts _ (ao_in _ (List.mem_of_getElem? (i := 1) rfl)))
  obtain ⟨a14, h14, n14⟩ := en_arq (C := RX4) (args := args) (hts _ (ao_in _ (List.mem_of_getElem? (i := 3) rfl)))
  obtain ⟨a15, h15, n15⟩ := en_arq (C := RX5) (args := args) (hts _ (ao_in _ (List.mem_of_getElem? (i := 0) rfl)))
  let dC : Nat → ClassId := fun k => match k with | 0 => c0 | 1 => c1 | 2 => c2 | 3 => c3 | 4 => c4 | 5 => c5 | 6 => c6 | _ => c7
  let dI : Nat → Nat → Nat := fun k => match k with | 0 => i0 | 1 => i1 | 2 => i2 | 3 => i3 | 4 => i4 | 5 => i5 | 6 => i6 | _ => i7
  let cy : Nat → ClassId := fun k => match k with | 8 => a8 | 9 => a9 | 10 => a10 | 12 => a12 | 13 => a13 | 14 => a14 | _ => a15
  have hcl : ∀ (c : Nat) (q : vw_C), vwCl[c]? = some q → u_Kn s q.1 q.2.1 q.2.2 (dC c) (dI c) := by
    intro c q hq
    match c, hq with
    | 0, hq => cases hq; exact k0
    | 1, hq => cases hq; exact k1
    | 2, hq => cases hq; exact k2
    | 3, hq => cases hq; exact k3
    | 4, hq => cases hq; exact k4
    | 5, hq => cases hq; exact k5
    | 6, hq => cases hq; exact k6
    | 7, hq => cases hq; exact k7
    | n + 8, hq => exact absurd (List.getElem?_eq_some_iff.mp hq).1 (by show ¬ n + 8 < 8; omega)
  refine ⟨dC, dI, cy, aL, ⟨hcl, fun k q hq => ?_⟩, hcl, fun k q hq => ?_⟩
  · match k, hq with
    | 0, hq => cases hq; exact ⟨h8, n8⟩
    | 1, hq => cases hq; exact ⟨h9, n9⟩
    | 2, hq => cases hq; exact ⟨h10, n10⟩
    | 3, hq => cases hq; exact ⟨h12, n12⟩
    | 4, hq => cases hq; exact ⟨h13, n13⟩
    | 5, hq => cases hq; exact ⟨h14, n14⟩
    | 6, hq => cases hq; exact ⟨h15, n15⟩
    | n + 7, hq => exact absurd (List.getElem?_eq_some_iff.mp hq).1 (by show ¬ n + 7 < 7; omega)
  · match k, hq with
    | 0, hq => cases hq; exact ⟨hL, nL⟩
    | n + 1, hq => exact absurd (List.getElem?_eq_some_iff.mp hq).1 (by show ¬ n + 1 < 1; omega)
end ENTRY
