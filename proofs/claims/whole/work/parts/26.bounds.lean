/-! ===== bounds of the schedule; rows that hold the same ===== -/
theorem mul_b {x y : Int32} {a b : Int} (h1 : 1 ≤ x.toInt) (h2 : x.toInt ≤ a) (h3 : 1 ≤ y.toInt) (h4 : y.toInt ≤ b) (hab : a * b < 2147483648) (ha : 0 ≤ a) : (x * y).toInt = x.toInt * y.toInt ∧ 1 ≤ x.toInt * y.toInt ∧ x.toInt * y.toInt ≤ a * b := by
  have e1 : x.toInt * y.toInt ≤ a * b := Int.mul_le_mul h2 h4 (by omega) ha
  have e2 : 1 * 1 ≤ x.toInt * y.toInt := Int.mul_le_mul h1 h3 (by omega) (by omega)
  exact ⟨fb_mulI (by omega) (by omega), by omega, e1⟩
theorem RIg.wkB {m : Nat → Prop} {r : Row} (hr : RIg m r) {i : Nat} (hi : i < OM r) : 1 ≤ (wk r i).toInt ∧ (wk r i).toInt ≤ 1000 := by
  obtain ⟨h1, h2, h3, h4, h5⟩ := hr.op hi
  have a := (h4.2.1 _ h4.d.1).2.2
  have b := h5.2.2.1
  have := mul_b a.1 a.2 b.1 b.2 (by decide) (by decide)
  unfold wk
  rw [this.1]
  exact ⟨this.2.1, this.2.2⟩
theorem RIg.wHB {m : Nat → Prop} {r : Row} (hr : RIg m r) {i : Nat} (hi : i < OM r) (hs : rO r i 3 = 1) : 1 ≤ (wH r i).toInt ∧ (wH r i).toInt ≤ 1000 := by
  obtain ⟨h1, h2, h3, h4, h5⟩ := hr.op hi
  have a := (h4.2.1 _ (hr.st hi hs).2.1).2.2
  have b := h5.2.2.1
  have := mul_b a.1 a.2 b.1 b.2 (by decide) (by decide)
  unfold wH
  rw [this.1]
  exact ⟨this.2.1, this.2.2⟩
theorem RIg.earlB {m : Nat → Prop} {r : Row} (hr : RIg m r) : (r 0).toInt ≤ (earl r).toInt ∧ (earl r).toInt ≤ 41050 := by
  have h0 := hr.1
  have hs := hr.sta hr.dr.2.1
  unfold earl
  by_cases h : rS r (DR r) 0 = -1
  · rw [if_pos h, Int32.add_zero]
    omega
  · rw [if_neg h]
    obtain ⟨a, b, c, d, e⟩ := hs.2.2.resolve_left h
    have o := (hr.ord b).k c
    rcases o.2.2.2.2 with q | q
    · rw [d] at q; exact absurd q.1 (by decide)
    · have := q.2.1
      rw [fb_addI (by omega) (by omega)]
      omega
theorem bk_b {m : Nat → Prop} {r : Row} (hr : RIg m r) : ∀ (l : List Nat) (o : Option Int32) (n : Nat), (∀ x ∈ l, x < OM r) → n + l.length ≤ 24 → (∀ s, o = some s → -500 - 1000 * (n : Int) ≤ s.toInt ∧ s.toInt ≤ 30000) → ∀ q ∈ bk r o l, -24500 ≤ q.2.toInt ∧ q.2.toInt ≤ 30000 := by
  intro l
  induction l with
  | nil => intro o n _ _ _ q hq; cases hq
  | cons x t ih =>
    intro o n h1 h2 h3 q hq
    rw [List.length_cons] at h2
    have hx := h1 x List.mem_cons_self
    have hw := hr.wkB hx
    have hd := (hr.ord hx).2.2.2.1
    have hsh := hr.2.2.2.2.2.2.1
    have hds : (rO r x 2 - r 6).toInt = (rO r x 2).toInt - (r 6).toInt := fb_subI (by omega) (by omega)
    have key : ∀ ee : Int32, -500 - 1000 * (n : Int) ≤ ee.toInt → ee.toInt ≤ 30000 → q ∈ (x, ee - wk r x) :: bk r (some (ee - wk r x)) t → -24500 ≤ q.2.toInt ∧ q.2.toInt ≤ 30000 := by
      intro ee e1 e2 hm
      have hs : (ee - wk r x).toInt = ee.toInt - (wk r x).toInt := fb_subI (by omega) (by omega)
      rcases List.mem_cons.mp hm with rfl | hm
      · show -24500 ≤ (ee - wk r x).toInt ∧ (ee - wk r x).toInt ≤ 30000
        omega
      · refine ih _ (n + 1) (fun y hy => h1 y (List.mem_cons_of_mem _ hy)) (by omega) (fun s hs9 => ?_) q hm
        cases hs9
        omega
    cases o with
    | none =>
      simp only [bk] at hq
      exact key _ (by omega) (by omega) hq
    | some s =>
      simp only [bk] at hq
      have hs := h3 s rfl
      refine key _ ?_ ?_ hq
      · unfold iMin; split <;> omega
      · unfold iMin; split <;> omega
theorem fw_b {m : Nat → Prop} {r : Row} (hr : RIg m r) : ∀ (l : List (Nat × Int32)) (e : Int32) (E : Int), (∀ q ∈ l, q.1 < OM r ∧ q.2.toInt ≤ 30000) → e.toInt ≤ E → 30000 ≤ E → E + 1000 * l.length ≤ 100000 → 0 ≤ e.toInt → ∀ q ∈ fwF r e l, e.toInt ≤ q.2.toInt ∧ q.2.toInt ≤ E + 1000 * l.length := by
  intro l
  induction l with
  | nil => intro e E _ _ _ _ _ q hq; cases hq
  | cons y t ih =>
    obtain ⟨x, s⟩ := y
    intro e E h1 h2 h3 h4 h5 q hq
    rw [List.length_cons] at h4 ⊢
    have hx : x < OM r ∧ s.toInt ≤ 30000 := h1 (x, s) List.mem_cons_self
    have hw := hr.wkB hx.1
    simp only [fwF] at hq
    have key : ∀ ss : Int32, e.toInt ≤ ss.toInt → ss.toInt ≤ E → q ∈ (x, ss) :: fwF r (ss + wk r x) t → e.toInt ≤ q.2.toInt ∧ q.2.toInt ≤ E + 1000 * ((t.length + 1 : Nat) : Int) := by
      intro ss e1 e2 hm
      rcases List.mem_cons.mp hm with rfl | hm
      · show e.toInt ≤ ss.toInt ∧ ss.toInt ≤ _
        omega
      · have hs : (ss + wk r x).toInt = ss.toInt + (wk r x).toInt := fb_addI (by omega) (by omega)
        have := ih (ss + wk r x) (E + 1000) (fun z hz => h1 z (List.mem_cons_of_mem _ hz)) (by omega) (by omega) (by omega) (by omega) q hm
        omega
    have hs2 : s.toInt ≤ 30000 := hx.2
    by_cases hse : s < e
    · rw [if_pos hse] at hq
      exact key e (by omega) (by omega) hq
    · rw [if_neg hse] at hq
      have := fa_of_nlt hse
      rw [fa_le] at this
      exact key s (by omega) (by omega) hq
theorem schF_b {m : Nat → Prop} {r : Row} (hr : RIg m r) {x : Nat} {s : Int32} (h : (x, s) ∈ schF r) : (r 0).toInt ≤ s.toInt ∧ s.toInt ≤ 70000 := by
  have he := hr.earlB
  have h0 := hr.1
  have hlen := schL_len r (OM r)
  have hom := hr.om
  have := fw_b hr (bk r none (schL r (OM r))).reverse (earl r) 41050 (fun q hq => by
    have hq := List.mem_reverse.mp hq
    refine ⟨?_, (bk_b hr (schL r (OM r)) none 0 (fun x hx => ((schL_mem _ _ _).mp hx).1) (by omega) (fun s hs => by cases hs) q hq).2⟩
    have : q.1 ∈ (bk r none (schL r (OM r))).map Prod.fst := List.mem_map.mpr ⟨q, hq, rfl⟩
    rw [bk_fst, schL_mem] at this
    exact this.1) (by omega) (by omega) (by rw [List.length_reverse, bk_len]; omega) (by omega) (x, s) h
  rw [List.length_reverse, bk_len] at this
  have h1 := this.1
  have h2 := this.2
  simp only at h1 h2
  omega
/-- the parts of a row that nothing in a tick changes -/
def samB (r r' : Row) : Prop := ∀ n, (1 ≤ n ∧ n ≤ 9) ∨ (53 ≤ n ∧ n < 131) → r' n = r n
section SAM
variable {r r' : Row} (hs : samB r r')
theorem samB.rfl : samB r r := fun _ _ => Eq.refl _
theorem samB.trans {r'' : Row} (h1 : samB r r') (h2 : samB r' r'') : samB r r'' := fun n hn => (h2 n hn).trans (h1 n hn)
theorem samB.n (hs : samB r r') {n : Nat} (h1 : 1 ≤ n) (h2 : n ≤ 9) : r' n = r n := hs n (Or.inl ⟨h1, h2⟩)
theorem samB.om (hs : samB r r') : OM r' = OM r := by unfold OM; rw [hs.n (by omega) (by omega)]
theorem samB.sc (hs : samB r r') : SC r' = SC r := by unfold SC; rw [hs.n (by omega) (by omega)]
theorem samB.pm (hs : samB r r') : PM r' = PM r := by unfold PM; rw [hs.n (by omega) (by omega)]
theorem samB.dr (hs : samB r r') : DR r' = DR r := by unfold DR; rw [hs.n (by omega) (by omega)]
theorem samB.pn (hs : samB r r') {p : Nat} (hp : p < 6) : rPn r' p = rPn r p := hs _ (Or.inr ⟨by omega, by omega⟩)
theorem samB.ps (hs : samB r r') {p k : Nat} (hp : p < 6) (hk : k < 6) : rPs r' p k = rPs r p k := hs _ (Or.inr ⟨by omega, by omega⟩)
theorem samB.pt (hs : samB r r') {p k : Nat} (hp : p < 6) (hk : k < 6) : rPt r' p k = rPt r p k := hs _ (Or.inr ⟨by omega, by omega⟩)
theorem samB.sn (hs : samB r r') {p : Nat} (hp : p < 6) : sN r' p = sN r p := by unfold sN; rw [hs.pn hp]
theorem samB.ds (hs : samB r r') {p : Nat} (hp : p < 6) : dS r' p = dS r p := by
  have key : ∀ n k, n + k ≤ 6 → dSf r' p n k = dSf r p n k := by
    intro n
    induction n with
    | zero => intro k _; rfl
    | succ n ih =>
      intro k hk
      rw [dSf, dSf, hs.ps hp (by omega), hs.n (n := 2) (by omega) (by omega), ih (k + 1) (by omega)]
  exact key 6 0 (by omega)
theorem samB.pi (hs : samB r r') {p : Nat} (hp : p < 6) (h : PI r p) : PI r' p := by
  obtain ⟨n1, n2, n3⟩ := h.n
  unfold PI
  rw [hs.pn hp, hs.sn hp, hs.ds hp, hs.n (n := 2) (by omega) (by omega), hs.sc, hs.ps hp h.d.2.1]
  refine ⟨h.1, fun k hk => ?_, h.2.2.1, h.2.2.2.1, fun k hk => ?_⟩
  · rw [hs.ps hp (by omega), hs.pt hp (by omega)]
    exact h.2.1 k hk
  · rw [hs.ps hp (by omega)]
    exact h.2.2.2.2 k hk
end SAM
/-- a row with the same base is good if its orders and stations are -/
theorem RIg.of {m m0 : Nat → Prop} {r r' : Row} (hr : RIg m0 r) (hs : samB r r') (h0 : inR (r' 0) 0 40000) (ho : ∀ i, i < OM r → OIg m r' i) (hq : ∀ q, q < SC r → SI r' q) : RIg m r' := by
  obtain ⟨a0, a1, a2, a3, a4, a5, a6, a7, a8, a9, b1, b2, b3⟩ := hr
  have hpm : PM r ≤ 6 := (a3.toN (by omega) (by omega)).2.1
  unfold RIg
  rw [hs.n (n := 1) (by omega) (by omega), hs.n (n := 2) (by omega) (by omega), hs.n (n := 3) (by omega) (by omega), hs.n (n := 4) (by omega) (by omega), hs.n (n := 5) (by omega) (by omega), hs.n (n := 6) (by omega) (by omega), hs.n (n := 7) (by omega) (by omega), hs.n (n := 8) (by omega) (by omega), hs.n (n := 9) (by omega) (by omega), hs.dr, hs.sc, hs.pm, hs.om]
  exact ⟨h0, a1, a2, a3, a4, a5, a6, a7, a8, a9, fun p hp => hs.pi (by omega) (b1 p hp), ho, hq⟩
theorem OIg.same {m : Nat → Prop} {r r' : Row} {i : Nat} (hs : samB r r') (hp : PM r ≤ 6) (h : OIg m r i) (hf : ∀ w, w < 14 → rO r' i w = rO r i w) (hl : rO r i 3 = 1 → rO r i 6 = 1 → rS r (nn (rPs r (oP r i) (oK r i))) 0 = nI i → rS r' (nn (rPs r (oP r i) (oK r i))) 0 = nI i) (hk : rO r i 3 = 1 → oK r i < 6) : OIg m r' i := by
  obtain ⟨a0, a1, a2, a3, a5, a9, a10, a12, b⟩ := h
  have hp6 : oP r i < 6 := by omega
  have eP : oP r' i = oP r i := by unfold oP; rw [hf 0 (by omega)]
  have eK : oK r' i = oK r i := by unfold oK; rw [hf 4 (by omega)]
  unfold OIg OI0 OI1 OI2
  rw [eP, eK, hs.pm, hs.sn hp6, hs.pn hp6, hf 0 (by omega), hf 1 (by omega), hf 2 (by omega), hf 3 (by omega), hf 4 (by omega), hf 5 (by omega), hf 6 (by omega), hf 7 (by omega), hf 8 (by omega), hf 9 (by omega), hf 10 (by omega), hf 11 (by omega), hf 12 (by omega)]
  refine ⟨a0, a1, a2, a3, a5, a9, a10, a12, ?_⟩
  rcases b with b | b | b | b
  · exact Or.inl b
  · exact Or.inr (Or.inl b)
  · refine Or.inr (Or.inr (Or.inl ⟨b.1, b.2.1, b.2.2.1, b.2.2.2.1, b.2.2.2.2.1, ?_⟩))
    rw [hs.ps hp6 (hk b.1)]
    rcases b.2.2.2.2.2 with c | c
    · exact Or.inl c
    · exact Or.inr ⟨c.1, c.2.1, c.2.2.1, hl b.1 c.1 c.2.2.2⟩
  · exact Or.inr (Or.inr (Or.inr b))
theorem SI.same {r r' : Row} {q : Nat} (hs : samB r r') (h : SI r q) (hf0 : rS r' q 0 = rS r q 0) (hf2 : rS r' q 2 = rS r q 2) (hf5 : rS r' q 5 = rS r q 5)
    (hw : ¬ rS r q 0 = -1 → (∀ w, w = 0 ∨ w = 3 ∨ w = 4 ∨ w = 6 → rO r' (nn (rS r q 0)) w = rO r (nn (rS r q 0)) w) ∧ oP r (nn (rS r q 0)) < 6 ∧ oK r (nn (rS r q 0)) < 6) : SI r' q := by
  unfold SI
  rw [hf0, hf2, hf5, hs.om]
  refine ⟨h.1, h.2.1, ?_⟩
  rcases h.2.2 with b | b
  · exact Or.inl b
  · by_cases hn : rS r q 0 = -1
    · exact Or.inl hn
    · obtain ⟨c1, c2, c3⟩ := hw hn
      refine Or.inr ⟨b.1, b.2.1, ?_, ?_, ?_⟩
      · rw [c1 3 (by omega)]; exact b.2.2.1
      · rw [c1 6 (by omega)]; exact b.2.2.2.1
      · have eP : oP r' (nn (rS r q 0)) = oP r (nn (rS r q 0)) := by unfold oP; rw [c1 0 (by omega)]
        have eK : oK r' (nn (rS r q 0)) = oK r (nn (rS r q 0)) := by unfold oK; rw [c1 4 (by omega)]
        rw [eP, eK, hs.ps c2 c3]
        exact b.2.2.2.2
