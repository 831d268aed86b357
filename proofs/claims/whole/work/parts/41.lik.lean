/-! ===== rows that differ in what quiet ticks change alone ===== -/
theorem row_ext {r r' : Row} (h1 : ∀ n, n < 11 → r' n = r n) (h2 : ∀ q w, q < 6 → w < 7 → rS r' q w = rS r q w) (h3 : ∀ n, 53 ≤ n → n < 131 → r' n = r n) (h4 : ∀ i w, w < 14 → rO r' i w = rO r i w) : r' = r := by
  funext n
  by_cases a : n < 11
  · exact h1 n a
  · by_cases b : n < 53
    · have := h2 ((n - 11) / 7) ((n - 11) % 7) (by omega) (by omega)
      have e : 11 + 7 * ((n - 11) / 7) + (n - 11) % 7 = n := by omega
      unfold rS at this
      rw [e] at this
      exact this
    · by_cases c : n < 131
      · exact h3 n (by omega) c
      · have := h4 ((n - 131) / 14) ((n - 131) % 14) (by omega)
        have e : 131 + 14 * ((n - 131) / 14) + (n - 131) % 14 = n := by omega
        unfold rO at this
        rw [e] at this
        exact this
def lik (r r' : Row) : Prop := (∀ i w, w < 14 → w ≠ 7 → w ≠ 13 → rO r' i w = rO r i w) ∧ samB r r' ∧ (∀ q w, q < 6 → w < 7 → w ≠ 3 → w ≠ 6 → rS r' q w = rS r q w)
section LK
variable {r r' r'' : Row}
theorem lik.trans (h : lik r r') (h2 : lik r' r'') : lik r r'' := ⟨fun i w a b c => (h2.1 i w a b c).trans (h.1 i w a b c), h.2.1.trans h2.2.1, fun q w a b c d => (h2.2.2 q w a b c d).trans (h.2.2 q w a b c d)⟩
theorem lik.symm (h : lik r r') : lik r' r := ⟨fun i w a b c => (h.1 i w a b c).symm, fun n hn => (h.2.1 n hn).symm, fun q w a b c d => (h.2.2 q w a b c d).symm⟩
theorem lik.befL {m : Nat → Prop} (h : lik r r') (hr : RIg m r) {i : Nat} (hi : i < OM r) : bef r' i ↔ bef r i := bef_eq h.2.1 (hr.op hi).2.2.1 (h.1 i 0 (by omega) (by omega) (by omega)) (h.1 i 3 (by omega) (by omega) (by omega)) (h.1 i 4 (by omega) (by omega) (by omega)) (h.1 i 6 (by omega) (by omega) (by omega))
theorem lik.wkL {m : Nat → Prop} (h : lik r r') (hr : RIg m r) {i : Nat} (hi : i < OM r) : wk r' i = wk r i := wk_eq h.2.1 (hr.op hi).2.2.1 (by have := (hr.op hi).2.2.2.1.d; omega) (h.1 i 0 (by omega) (by omega) (by omega)) (h.1 i 1 (by omega) (by omega) (by omega))
theorem lik.wtL {m : Nat → Prop} (h : lik r r') (hr : RIg m r) (q : Nat) : wtC r' q = wtC r q := wtC_eq h.2.1.om q (fun i hi => wts_eq h.2.1 (hr.op hi).2.2.1 (fun h1 => (hr.st hi h1).2.2) (h.1 i 0 (by omega) (by omega) (by omega)) (h.1 i 3 (by omega) (by omega) (by omega)) (h.1 i 4 (by omega) (by omega) (by omega)) (h.1 i 6 (by omega) (by omega) (by omega)))
theorem lik.pastL {m : Nat → Prop} (h : lik r r') (hr : RIg m r) {i : Nat} (hi : i < OM r) : past r' i ↔ past r i := by
  show nI (dS r' (oP r' i)) < rO r' i 4 ↔ nI (dS r (oP r i)) < rO r i 4
  rw [oP_eq (h.1 i 0 (by omega) (by omega) (by omega)), h.2.1.ds (hr.op hi).2.2.1, h.1 i 4 (by omega) (by omega) (by omega)]
theorem lik.stL {m : Nat → Prop} (h : lik r r') (hr : RIg m r) {i : Nat} (hi : i < OM r) (h1 : rO r i 3 = 1) : rPs r' (oP r' i) (oK r' i) = rPs r (oP r i) (oK r i) := by
  rw [oP_eq (h.1 i 0 (by omega) (by omega) (by omega)), oK_eq (h.1 i 4 (by omega) (by omega) (by omega)), h.2.1.ps (hr.op hi).2.2.1 (hr.st hi h1).2.2]
theorem lik.stvL {m : Nat → Prop} (h : lik r r') (hr : RIg m r) : ∀ n, n ≤ OM r → stv r' n = stv r n := by
  intro n
  induction n with
  | zero => intro _; rfl
  | succ n ih =>
    intro hn
    show (_ || _) = (_ || _)
    rw [ih (by omega)]
    have e : (opn r' n ∧ ¬ past r' n) ↔ (opn r n ∧ ¬ past r n) := by
      rw [h.pastL hr (by omega : n < OM r)]
      show (rO r' n 3 = 0 ∨ rO r' n 3 = 1) ∧ _ ↔ _
      rw [h.1 n 3 (by omega) (by omega) (by omega)]
    rw [decide_eq_decide.mpr e]
theorem sumN_eq {f g : Nat → Int32} : ∀ n, (∀ i, i < n → f i = g i) → sumN f n = sumN g n := by
  intro n
  induction n with
  | zero => intro _; rfl
  | succ n ih => intro h; rw [sumN, sumN, ih (fun i hi => h i (by omega)), h n (by omega)]
theorem lik.ropeL1 {m : Nat → Prop} (h : lik r r') (hr : RIg m r) : ropeL r' = ropeL r := by
  unfold ropeL
  rw [h.2.1.om]
  refine sumN_eq _ (fun i hi => ?_)
  have e : (rO r' i 3 = 1 ∧ ¬ past r' i) ↔ (rO r i 3 = 1 ∧ ¬ past r i) := by rw [h.1 i 3 (by omega) (by omega) (by omega), h.pastL hr hi]
  by_cases c : rO r i 3 = 1 ∧ ¬ past r i
  · rw [if_pos c, if_pos (e.mpr c), h.wkL hr hi]
  · rw [if_neg c, if_neg (fun z => c (e.mp z))]
theorem lik.schL1 {m : Nat → Prop} (h : lik r r') (hr : RIg m r) : ∀ n, n ≤ OM r → schL r' n = schL r n := by
  intro n
  induction n with
  | zero => intro _; rfl
  | succ n ih =>
    intro hn
    rw [schL, schL, ih (by omega), show (fun i => rO r' i 2) = (fun i => rO r i 2) from funext fun i => h.1 i 2 (by omega) (by omega) (by omega)]
    by_cases c : bef r n
    · rw [if_pos c, if_pos ((h.befL hr hn).mpr c)]
    · rw [if_neg c, if_neg (fun z => c ((h.befL hr hn).mp z))]
theorem lik.bk1 {m : Nat → Prop} (h : lik r r') (hr : RIg m r) : ∀ (l : List Nat) (o : Option Int32), (∀ x ∈ l, x < OM r) → bk r' o l = bk r o l := by
  intro l
  induction l with
  | nil => intro _ _; rfl
  | cons x t ih =>
    intro o hl
    have hx := hl x List.mem_cons_self
    have e6 : r' 6 = r 6 := h.2.1.n (by omega) (by omega)
    cases o with
    | none => simp only [bk]; rw [h.wkL hr hx, h.1 x 2 (by omega) (by omega) (by omega), e6, ih _ (fun y hy => hl y (List.mem_cons_of_mem _ hy))]
    | some z => simp only [bk]; rw [h.wkL hr hx, h.1 x 2 (by omega) (by omega) (by omega), e6, ih _ (fun y hy => hl y (List.mem_cons_of_mem _ hy))]
/-- later starts, if the drum is free later -/
theorem fw_mono {m m' : Nat → Prop} (h : lik r r') (hr : RIg m r) (hr' : RIg m' r') : ∀ (l : List (Nat × Int32)) (e e' : Int32) (E : Int), (∀ q ∈ l, q.1 < OM r ∧ q.2.toInt ≤ 30000) → e.toInt ≤ e'.toInt → e'.toInt ≤ E → 30000 ≤ E → E + 1000 * l.length ≤ 100000 → 0 ≤ e.toInt → ∀ x z, fU r (fwF r e l) = some (x, z) → ∃ z', fU r' (fwF r' e' l) = some (x, z') ∧ z.toInt ≤ z'.toInt := by
  intro l
  induction l with
  | nil => intro e e' E _ _ _ _ _ _ x z hf; cases hf
  | cons y t ih =>
    obtain ⟨x0, s0⟩ := y
    intro e e' E h1 h2 h3 h4 h5 h6 x z hf
    rw [List.length_cons] at h5
    have hx : x0 < OM r ∧ s0.toInt ≤ 30000 := h1 (x0, s0) List.mem_cons_self
    have hw := hr.wkB hx.1
    have hwe := h.wkL hr hx.1
    simp only [fwF] at hf ⊢
    have b1 : e.toInt ≤ (if s0 < e then e else s0).toInt ∧ (if s0 < e then e else s0).toInt ≤ E ∧ (if s0 < e then e else s0).toInt ≤ (if s0 < e' then e' else s0).toInt ∧ (if s0 < e' then e' else s0).toInt ≤ E := by
      by_cases c : s0 < e
      · rw [if_pos c]
        rw [fa_lt] at c
        rw [if_pos ((fa_lt _ _).mpr (by omega))]
        omega
      · rw [if_neg c]
        rw [fa_lt] at c
        by_cases c2 : s0 < e'
        · rw [if_pos c2]; rw [fa_lt] at c2; omega
        · rw [if_neg c2]; omega
    generalize (if s0 < e then e else s0) = s1 at hf b1
    generalize (if s0 < e' then e' else s0) = s2 at b1 ⊢
    rw [fU] at hf
    rw [fU, h.1 x0 3 (by omega) (by omega) (by omega)]
    by_cases c : rO r x0 3 = 0
    · rw [if_pos c] at hf ⊢
      cases hf
      exact ⟨s2, rfl, by omega⟩
    · rw [if_neg c] at hf ⊢
      have a1 : (s1 + wk r x0).toInt = s1.toInt + (wk r x0).toInt := fb_addI (by omega) (by omega)
      have a2 : (s2 + wk r' x0).toInt = s2.toInt + (wk r x0).toInt := by rw [hwe]; exact fb_addI (by omega) (by omega)
      exact ih _ _ (E + 1000) (fun q hq => h1 q (List.mem_cons_of_mem _ hq)) (by omega) (by omega) (by omega) (by omega) (by omega) x z hf
theorem sch_mem1 {m : Nat → Prop} (hr : RIg m r) : ∀ q ∈ (bk r none (schL r (OM r))).reverse, q.1 < OM r ∧ q.2.toInt ≤ 30000 := fun q hq => by
  have hlen := schL_len r (OM r)
  have hom := hr.om
  have hq := List.mem_reverse.mp hq
  refine ⟨?_, (bk_b hr (schL r (OM r)) none 0 (fun x hx => ((schL_mem _ _ _).mp hx).1) (by omega) (fun s hs => by cases hs) q hq).2⟩
  have : q.1 ∈ (bk r none (schL r (OM r))).map Prod.fst := List.mem_map.mpr ⟨q, hq, rfl⟩
  rw [bk_fst, schL_mem] at this
  exact this.1
theorem lik.fU1 {m m' : Nat → Prop} (h : lik r r') (hr : RIg m r) (hr' : RIg m' r') (he : (earl r).toInt ≤ (earl r').toInt) {x : Nat} {z : Int32} (hf : fU r (schF r) = some (x, z)) : ∃ z', fU r' (schF r') = some (x, z') ∧ z.toInt ≤ z'.toInt := by
  have hom := hr.om
  have hlen := schL_len r (OM r)
  have e : schF r' = fwF r' (earl r') (bk r none (schL r (OM r))).reverse := by
    unfold schF
    rw [h.2.1.om, h.schL1 hr _ (Nat.le_refl _), h.bk1 hr _ _ (fun x hx => ((schL_mem _ _ _).mp hx).1)]
  rw [e]
  have := hr'.earlB
  have := hr.earlB
  have := hr.1
  exact fw_mono h hr hr' _ _ _ 41050 (sch_mem1 hr) he (by omega) (by omega) (by rw [List.length_reverse, bk_len]; omega) (by omega) x z hf
theorem lik.fUn {m m' : Nat → Prop} (h : lik r r') (hr : RIg m r) (hr' : RIg m' r') (he : (earl r').toInt ≤ (earl r).toInt ∨ (earl r).toInt ≤ (earl r').toInt) (hf : fU r (schF r) = none) : fU r' (schF r') = none := by
  cases hf' : fU r' (schF r') with
  | none => rfl
  | some xz =>
    obtain ⟨x, z⟩ := xz
    have hm := fU_mem _ hf'
    have hx := schF_mem hm.1
    rw [h.2.1.om] at hx
    have h3 : rO r x 3 = 0 := (h.1 x 3 (by omega) (by omega) (by omega)).symm.trans hm.2
    have hb := (h.befL hr hx.1).mp hx.2
    exfalso
    have hin : x ∈ (schF r).map Prod.fst := by rw [schF_fst, List.mem_reverse, schL_mem]; exact ⟨hx.1, hb⟩
    obtain ⟨q, hq1, hq2⟩ := List.mem_map.mp hin
    have key : ∀ l : List (Nat × Int32), q ∈ l → rO r q.1 3 = 0 → ¬ fU r l = none := by
      intro l
      induction l with
      | nil => intro hq; cases hq
      | cons y t ih =>
        obtain ⟨y1, y2⟩ := y
        intro hq h0 hn
        rw [fU] at hn
        by_cases c : rO r y1 3 = 0
        · rw [if_pos c] at hn; cases hn
        · rw [if_neg c] at hn
          rcases List.mem_cons.mp hq with e | e
          · rw [e] at h0; exact c h0
          · exact ih e h0 hn
    exact key _ hq1 (by rw [hq2]; exact h3) hf
/-- the starts ascend -/
theorem fw_asc {m : Nat → Prop} (hr : RIg m r) : ∀ (l : List (Nat × Int32)) (e : Int32) (E : Int), (∀ q ∈ l, q.1 < OM r ∧ q.2.toInt ≤ 30000) → e.toInt ≤ E → 30000 ≤ E → E + 1000 * l.length ≤ 100000 → 0 ≤ e.toInt → ∀ x z, fU r (fwF r e l) = some (x, z) → ∀ load, (∀ t, (∀ q ∈ t, z.toInt ≤ q.2.toInt ∧ q.2.toInt ≤ 100000) → relF r load ((x, z) :: t) = r) → relF r load (fwF r e l) = r := by
  intro l
  induction l with
  | nil => intro e E _ _ _ _ _ x z hf; cases hf
  | cons y t ih =>
    obtain ⟨x0, s0⟩ := y
    intro e E h1 h2 h3 h5 h6 x z hf load hk
    rw [List.length_cons] at h5
    have hx : x0 < OM r ∧ s0.toInt ≤ 30000 := h1 (x0, s0) List.mem_cons_self
    have hw := hr.wkB hx.1
    simp only [fwF] at hf ⊢
    have b1 : e.toInt ≤ (if s0 < e then e else s0).toInt ∧ (if s0 < e then e else s0).toInt ≤ E := by
      by_cases c : s0 < e
      · rw [if_pos c]; omega
      · rw [if_neg c]
        rw [fa_lt] at c
        omega
    generalize (if s0 < e then e else s0) = s1 at hf b1 ⊢
    have a1 : (s1 + wk r x0).toInt = s1.toInt + (wk r x0).toInt := fb_addI (by omega) (by omega)
    rw [fU] at hf
    by_cases c : rO r x0 3 = 0
    · rw [if_pos c] at hf
      have hf := Option.some.inj hf
      have e1 : x0 = x := congrArg Prod.fst hf
      have e2 : s1 = z := congrArg Prod.snd hf
      subst e1
      subst e2
      refine hk _ (fun q hq => ?_)
      have := fw_b hr t (s1 + wk r x0) (E + 1000) (fun q hq => h1 q (List.mem_cons_of_mem _ hq)) (by omega) (by omega) (by omega) (by omega) q hq
      omega
    · rw [if_neg c] at hf
      rw [relF, if_neg (fun z => c z.1)]
      exact ih _ (E + 1000) (fun q hq => h1 q (List.mem_cons_of_mem _ hq)) (by omega) (by omega) (by omega) (by omega) x z hf load hk
theorem relF_late {m : Nat → Prop} (hr : RIg m r) : ∀ (t : List (Nat × Int32)) (load : Int32), (∀ q ∈ t, (r 0).toInt < q.2.toInt - (r 5).toInt ∧ q.2.toInt ≤ 100000) → relF r load t = r := by
  have h5 := hr.2.2.2.2.2.1
  have h0 := hr.1
  intro t
  induction t with
  | nil => intro _ _; rfl
  | cons y t ih =>
    obtain ⟨x, z⟩ := y
    intro load h
    have hz : (r 0).toInt < z.toInt - (r 5).toInt ∧ z.toInt ≤ 100000 := h (x, z) List.mem_cons_self
    have e1 : (z - r 5).toInt = z.toInt - (r 5).toInt := fb_subI (by omega) (by omega)
    rw [relF, if_neg (fun q => by have := q.2; rw [fa_le, e1] at this; omega)]
    exact ih load (fun q hq => h q (List.mem_cons_of_mem _ hq))
end LK
