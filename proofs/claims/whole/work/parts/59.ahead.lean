/-! ===== predictions: what both sides do ===== -/
def cpy (σ : iM) (a ia b ib n : Nat) : iM := fun k i j => if k = 8 ∧ i = b ∧ 467 * ib ≤ j ∧ j < 467 * ib + n then σ 8 a (467 * ia + (j - 467 * ib)) else σ k i j
section CPY
variable {σ : iM} {a ia b ib n : Nat}
theorem cpy_0 : cpy σ a ia b ib 0 = σ := by funext k i j; exact if_neg (by omega)
theorem cpy_s (hab : a ≠ b) : iU (cpy σ a ia b ib n) 8 b (467 * ib + n) (cpy σ a ia b ib n 8 a (467 * ia + n)) = cpy σ a ia b ib (n + 1) := by
  have e : cpy σ a ia b ib n 8 a (467 * ia + n) = σ 8 a (467 * ia + n) := if_neg (by omega)
  rw [e]
  funext k i j
  unfold iU
  by_cases c : k = 8 ∧ i = b ∧ j = 467 * ib + n
  · rw [if_pos c]
    obtain ⟨rfl, rfl, rfl⟩ := c
    unfold cpy
    rw [if_pos (by omega), show 467 * ib + n - 467 * ib = n by omega]
  · rw [if_neg c]
    unfold cpy
    by_cases d : k = 8 ∧ i = b ∧ 467 * ib ≤ j ∧ j < 467 * ib + n
    · rw [if_pos d, if_pos (by omega)]
    · rw [if_neg d, if_neg (by omega)]
theorem cpy_in {j : Nat} (h1 : 467 * ib ≤ j) (h2 : j < 467 * ib + n) : cpy σ a ia b ib n 8 b j = σ 8 a (467 * ia + (j - 467 * ib)) := if_pos ⟨rfl, rfl, h1, h2⟩
theorem cpy_out {k i j : Nat} (h : ¬ (k = 8 ∧ i = b ∧ 467 * ib ≤ j ∧ j < 467 * ib + n)) : cpy σ a ia b ib n k i j = σ k i j := if_neg h
theorem e_copies (hab : a ≠ b) (ha : 467 * ia + 467 ≤ iN 8 a) (hb : 467 * ib + 467 ≤ iN 8 b) (ha2 : iN 8 a ≤ 934) (hb2 : iN 8 b ≤ 934) : Ev mX7_copies [.inr (8, a), .inl (nI ia), .inr (8, b), .inl (nI ib)] σ (evv (cpy σ a ia b ib 467)) := by
  show At mX7_copies 0 [some (.inr (8, a)), some (.inl (nI ia)), some (.inr (8, b)), some (.inl (nI ib)), none] [] σ _
  refine At.F 3 [some (.inr (8, a)), some (.inl (nI ia)), some (.inr (8, b)), some (.inl (nI ib)), some (.inl (nI 0))] [] σ rfl ?_
  have ix : ∀ x y : Nat, (467 * nI x + nI y : Int32) = nI (467 * x + y) := fun x y => by rw [show (467 : Int32) = nI 467 from rfl, nI_mul, nI_add]
  have L : ∀ m, m ≤ 467 → At mX7_copies 3 [some (.inr (8, a)), some (.inl (nI ia)), some (.inr (8, b)), some (.inl (nI ib)), some (.inl (nI m))] [] (cpy σ a ia b ib m) (evv (cpy σ a ia b ib 467)) := by
    refine down_ind (N := 467) ?_ ?_
    · refine At.Bt rfl (by decide) ?_
      exact At.R rfl
    · intro m hm ih
      refine At.Bf rfl (by rw [show (467 : Int32) = nI 467 from rfl]; exact fun x => absurd ((nI_leI (by omega) (by omega)).mp x) (by omega)) ?_
      refine At.N rfl (by rw [ix]; exact vin (by omega) (by omega)) ?_
      refine At.N rfl (by rw [ix]; exact vin (by omega) (by omega)) ?_
      rw [ix, ix, nI_clamp (by omega), nI_clamp (by omega), cpy_s hab]
      refine At.J rfl ?_
      rw [nI_1]
      exact ih
  have h0 := L 0 (by omega)
  rw [cpy_0] at h0
  exact h0
theorem e_leaves : Ev mX7_leaves [M] σ (evv (cpy σ 58 0 60 0 467)) := by
  show At mX7_leaves 0 [some M] [] σ _
  refine At.Cv rfl (e_copies (ia := 0) (ib := 0) (by decide) (by decide) (by decide) (by decide) (by decide)) ?_
  exact At.R rfl
theorem e_comesBack : Ev mX7_comesBack [M] σ (evv (cpy σ 60 0 58 0 467)) := by
  show At mX7_comesBack 0 [some M] [] σ _
  refine At.Cv rfl (e_copies (ia := 0) (ib := 0) (by decide) (by decide) (by decide) (by decide) (by decide)) ?_
  exact At.R rfl
theorem cb_58 {r : Row} (h1 : ∀ j, j < 467 → σ 8 60 j = r j) (h2 : ∀ j, 467 ≤ j → σ 8 58 j = r j) : cpy σ 60 0 58 0 467 8 58 = r := by
  funext j
  by_cases c : j < 467
  · rw [cpy_in (by omega) (by omega), show 467 * 0 + (j - 467 * 0) = j by omega]; exact h1 j c
  · rw [cpy_out (by omega)]; exact h2 j (by omega)
end CPY
/-- the tardiness if it ended now -/
def tdO (r : Row) (i : Nat) : Int32 := if rO r i 3 = 3 then 0 else ltn r i (if rO r i 3 = 2 then rO r i 11 else r 0)
def tard (r : Row) : Int32 := sumN (tdO r) (OM r)
section TD
variable {σ : iM} {s : Nat} {r : Row}
theorem c_tard (h : Sh σ s r) (hr : RI r) : Ev mX4_tardinessIfEndedNow [.inr (4, s)] σ (evi (tard r) σ) := by
  have hom := hr.om
  show At mX4_tardinessIfEndedNow 0 [some (.inr (4, s)), none, none, none] [] σ _
  refine At.F 4 [some (.inr (4, s)), some (.inl (sumN (tdO r) 0)), some (.inl (nI 0)), none] [] σ rfl ?_
  refine down_ind (N := OM r) (P := fun n => ∀ d3, At mX4_tardinessIfEndedNow 4 [some (.inr (4, s)), some (.inl (sumN (tdO r) n)), some (.inl (nI n)), d3] [] σ _) ?_ ?_ 0 (Nat.zero_le _) none
  · intro d3
    refine At.Bt rfl (by rw [h.om hr]; exact ge_s) ?_
    exact At.R rfl
  · intro n hn ih d3
    refine At.Bf rfl (by rw [h.om hr]; exact ge_n hom.2 hn) ?_
    refine At.N rfl (v12 s n (by omega)) ?_
    rw [nI_clamp (by omega)]
    have hO := h.2.2.2 n hn
    have ih := ih (some (.inr (0, 24 * s + n)))
    rw [sumN] at ih
    unfold tdO at ih
    refine At.B rfl (fun hc => ?_) (fun hc => ?_)
    · rw [hO.2.2.2.2.2.1] at hc
      rw [if_pos hc, Int32.add_zero] at ih
      refine At.J rfl ?_
      rw [nI_1]
      exact ih
    · rw [hO.2.2.2.2.2.1] at hc
      rw [if_neg hc] at ih
      refine At.B rfl (fun hd => ?_) (fun hd => ?_)
      · rw [hO.2.2.2.2.2.1] at hd
        rw [if_pos hd] at ih
        refine At.J rfl ?_
        rw [hO.2.2.2.2.2.2.2.2.2.2.2.2.1]
        refine At.Ci rfl (c_late h hr hn (hr.fin hn hd).2.2.2.2) ?_
        refine At.J rfl ?_
        rw [nI_1]
        exact ih
      · rw [hO.2.2.2.2.2.1] at hd
        rw [if_neg hd] at ih
        have hl := c_late h hr hn hr.1
        rw [← h.1.2.2.2.2.2.2.2.2.2.1] at hl
        refine At.Ci rfl (hl) ?_
        refine At.J rfl ?_
        rw [nI_1, h.1.2.2.2.2.2.2.2.2.2.1]
        exact ih
theorem e_anyOpen (hr : RI (σ 8 58)) : Ev mX7_isAnyOpen [M] σ (evi (if fb_ct (fun i => decide (opn (σ 8 58) i)) (OM (σ 8 58)) = 0 then 0 else 1) σ) := by
  have hom := hr.om
  show At mX7_isAnyOpen 0 [some M, none] [] σ _
  refine At.F 2 [some M, some (.inl (nI 0))] [] σ rfl ?_
  have key : ∀ n, n ≤ OM (σ 8 58) → fb_ct (fun i => decide (opn (σ 8 58) i)) n = 0 → At mX7_isAnyOpen 2 [some M, some (.inl (nI n))] [] σ (evi (if fb_ct (fun i => decide (opn (σ 8 58) i)) (OM (σ 8 58)) = 0 then 0 else 1) σ) := by
    refine down_ind (N := OM (σ 8 58)) ?_ ?_
    · intro h0
      refine At.N rfl (v58 4 (by omega)) ?_
      rw [t4]
      refine At.Bt rfl (by rw [hom.1]; exact ge_s) ?_
      rw [if_pos h0]
      exact At.Z rfl (Or.inl rfl)
    · intro n hn ih h0
      refine At.N rfl (v58 4 (by omega)) ?_
      rw [t4]
      refine At.Bf rfl (by rw [hom.1]; exact ge_n hom.2 hn) ?_
      refine At.Ci rfl (e_isOpen (by omega)) ?_
      by_cases ho : opn (σ 8 58) n
      · rw [if_pos ho, if_neg]
        · refine At.Bf rfl (by decide) ?_
          exact At.Z rfl (Or.inr rfl)
        · intro z
          have := (fb_ct_zero.mp z) n hn
          rw [decide_eq_false_iff_not] at this
          exact this ho
      · rw [if_neg ho]
        refine At.Bt rfl (rfl) ?_
        refine At.J rfl ?_
        rw [nI_1]
        exact ih (by rw [fb_ct_succ, h0, if_neg (by rw [decide_eq_false ho]; decide)])
  exact key 0 (Nat.zero_le _) rfl
theorem tard_st (hr : RI r) {m : Nat} (h0 : (r 0).toInt + m ≤ 40000) (hno : ∀ i, i < OM r → ¬ opn r i) : tard (tkN r m) = tard r := by
  obtain ⟨a, b, c⟩ := tkN_ok hr m h0
  obtain ⟨s1, s2, s3⟩ := tkN_st hr m h0
  unfold tard
  rw [b.om]
  refine sumN_eq _ (fun i hi => ?_)
  have h23 : rO r i 3 = 2 ∨ rO r i 3 = 3 := by
    rcases (hr.ord hi).2.2.2.2.2.2.2.2 with q | q | q | q
    · exact absurd (Or.inl q.1) (hno i hi)
    · exact Or.inr q.1
    · exact absurd (Or.inr q.1) (hno i hi)
    · exact Or.inl q.1
  obtain ⟨k1, k2⟩ := (s1 i).2 h23
  unfold tdO ltn
  rw [k1, k2, (s1 i).1]
  rcases h23 with h | h
  · have h3 : ¬ rO r i 3 = 3 := by rw [h]; decide
    rw [if_neg h3, if_neg h3, if_pos h, if_pos h]
  · rw [if_pos h, if_pos h]
theorem e_lateAhead {τ : iM} (hr : RI (τ 8 58)) (h0 : (τ 8 58 0).toInt + 2000 ≤ 40000) (h1 : ∀ j, j < 467 → τ 8 60 j = r j) (h2 : ∀ j, 467 ≤ j → τ 8 58 j = r j) : EvP mX7_lateAhead [M] τ (fun z => ∃ v σ1, z = evi v σ1 ∧ v = tard (tkN (τ 8 58) 2000) ∧ σ1 8 58 = r ∧ mfr τ σ1) := by
  show AtP mX7_lateAhead 0 [some M, none, none, none] [] τ _
  refine AtP.F 2 [some M, some (.inl (nI 0)), none, none] [] τ rfl ?_
  have B : ∀ (k : Nat) (υ : iM) (d2 d3 : Option iV), k ≤ 2000 → υ 8 58 = tkN (τ 8 58) k → mfr τ υ → tard (tkN (τ 8 58) k) = tard (tkN (τ 8 58) 2000) → AtP mX7_lateAhead 27 [some M, some (.inl (nI k)), d2, d3] [] υ (fun z => ∃ v σ1, z = evi v σ1 ∧ v = tard (tkN (τ 8 58) 2000) ∧ σ1 8 58 = r ∧ mfr τ σ1) := by
    intro k υ d2 d3 hk eυ fυ ht
    obtain ⟨a, b, c⟩ := tkN_ok hr k (by omega)
    obtain ⟨s1, s2, s3⟩ := tkN_st hr k (by omega)
    rw [← ht]
    have hom := a.om
    have h60 : ∀ j, j < 467 → υ 8 60 j = r j := fun j hj => (fυ _ _ _ (by omega) (by omega)).trans (h1 j hj)
    have h58 : ∀ j, 467 ≤ j → υ 8 58 j = r j := fun j hj => by rw [eυ, s3 j hj]; exact h2 j hj
    generalize tkN (τ 8 58) k = R at eυ a hom ⊢
    refine AtP.F 31 [some M, some (.inl (sumN (tdO R) 0)), some (.inl (nI 0)), d3] [] υ rfl ?_
    refine down_ind (N := OM R) (P := fun n => ∀ d3, AtP mX7_lateAhead 31 [some M, some (.inl (sumN (tdO R) n)), some (.inl (nI n)), d3] [] υ (fun z => ∃ v σ1, z = evi v σ1 ∧ v = tard R ∧ σ1 8 58 = r ∧ mfr τ σ1)) ?_ ?_ 0 (Nat.zero_le _) d3
    · intro d3
      refine AtP.N rfl (v58 4 (by omega)) ?_
      rw [t4, eυ]
      refine AtP.Bt rfl (by rw [hom.1]; exact ge_s) ?_
      refine AtP.Cv rfl (e_comesBack) ?_
      exact AtP.R rfl (⟨_, _, rfl, rfl, cb_58 h60 h58, fun k i j x y => (cpy_out (by omega)).trans (fυ k i j x y)⟩)
    · intro n hn ih d3
      refine AtP.N rfl (v58 4 (by omega)) ?_
      rw [t4, eυ]
      refine AtP.Bf rfl (by rw [hom.1]; exact ge_n hom.2 hn) ?_
      rw [sumN] at ih
      unfold tdO at ih
      have fin : ∀ t : Int32, (∀ d3, AtP mX7_lateAhead 31 [some M, some (.inl (sumN (tdO R) n + if rO R n 3 = 3 then 0 else ltn R n t)), some (.inl (nI (n + 1))), d3] [] υ (fun z => ∃ v σ1, z = evi v σ1 ∧ v = tard R ∧ σ1 8 58 = r ∧ mfr τ σ1)) → AtP mX7_lateAhead 67 [some M, some (.inl (sumN (tdO R) n)), some (.inl (nI n)), d3] [.inl t] υ (fun z => ∃ v σ1, z = evi v σ1 ∧ v = tard R ∧ σ1 8 58 = r ∧ mfr τ σ1) := by
        intro t ih
        refine AtP.Ci rfl (e_order n 3 (by omega) (by omega) _) ?_
        rw [eυ]
        refine AtP.B rfl (fun hc => ?_) (fun hc => ?_)
        · rw [if_pos hc] at ih
          refine AtP.J rfl ?_
          refine AtP.J rfl ?_
          rw [nI_1]
          exact ih _
        · rw [if_neg hc] at ih
          refine AtP.Ci rfl (e_lateOf (by omega) _) ?_
          rw [eυ]
          refine AtP.J rfl ?_
          rw [nI_1]
          exact ih _
      refine AtP.Ci rfl (e_order n 3 (by omega) (by omega) _) ?_
      rw [eυ]
      refine AtP.B rfl (fun hd => ?_) (fun hd => ?_)
      · rw [if_pos hd] at ih
        refine AtP.Ci rfl (e_order n 11 (by omega) (by omega) _) ?_
        rw [eυ]
        refine AtP.J rfl ?_
        exact fin _ ih
      · rw [if_neg hd] at ih
        refine AtP.N rfl (v58 0 (by omega)) ?_
        rw [t0, eυ]
        exact fin _ ih
  have L : ∀ k, k ≤ 2000 → ∀ (υ : iM) (d2 d3 : Option iV), υ 8 58 = tkN (τ 8 58) k → mfr τ υ → AtP mX7_lateAhead 2 [some M, some (.inl (nI k)), d2, d3] [] υ (fun z => ∃ v σ1, z = evi v σ1 ∧ v = tard (tkN (τ 8 58) 2000) ∧ σ1 8 58 = r ∧ mfr τ σ1) := by
    refine down_ind (N := 2000) ?_ ?_
    · intro υ d2 d3 eυ fυ
      refine AtP.Bt rfl (by decide) ?_
      exact B 2000 υ d2 d3 (Nat.le_refl _) eυ fυ rfl
    · intro k hk ih υ d2 d3 eυ fυ
      obtain ⟨a, b, c⟩ := tkN_ok hr k (by omega)
      refine AtP.Bf rfl (by rw [show (2000 : Int32) = nI 2000 from rfl]; exact fun x => absurd ((nI_leI (by omega) (by omega)).mp x) (by omega)) ?_
      refine AtP.Ci rfl (e_anyOpen (by rw [eυ]; exact a)) ?_
      rw [eυ]
      by_cases hz : fb_ct (fun i => decide (opn (tkN (τ 8 58) k) i)) (OM (tkN (τ 8 58) k)) = 0
      · rw [if_pos hz]
        refine AtP.Bt rfl (rfl) ?_
        refine B k υ d2 d3 (by omega) eυ fυ ?_
        have hno : ∀ i, i < OM (tkN (τ 8 58) k) → ¬ opn (tkN (τ 8 58) k) i := fun i hi => of_decide_eq_false (fb_ct_zero.mp hz i hi)
        have := tard_st a (m := 2000 - k) (by omega) hno
        rw [← tkN_add, show k + (2000 - k) = 2000 by omega] at this
        exact this.symm
      · rw [if_neg hz]
        refine AtP.Bf rfl (by decide) ?_
        refine AtP.CiP rfl (e_passes (by rw [eυ]; exact a) (by rw [eυ]; omega)) (fun v9 σ9 h9 => ?_)
        obtain ⟨-, g1, g2⟩ := h9
        rw [eυ] at g1
        refine AtP.J rfl ?_
        rw [nI_1]
        exact ih _ _ _ g1 (fυ.trans g2)
  exact L 0 (by omega) τ none none rfl mfr.rfl
/-- when an order is finished -/
theorem e_endOf {τ : iM} (hr : RI (τ 8 58)) (h0 : (τ 8 58 0).toInt + 2000 ≤ 40000) {i : Nat} (hi : i < OM (τ 8 58)) : EvP mX7_endOf [M, .inl (nI i)] τ (fun z => ∃ v σ1, z = evi v σ1 ∧ v = rO (tkN (τ 8 58) 2000) i 11 ∧ (∀ j, 467 ≤ j → σ1 8 58 j = τ 8 58 j) ∧ mfr τ σ1) := by
  have hom := hr.om
  show AtP mX7_endOf 0 [some M, some (.inl (nI i)), none, none] [] τ _
  refine AtP.F 2 [some M, some (.inl (nI i)), some (.inl (nI 0)), none] [] τ rfl ?_
  have B : ∀ (k : Nat) (υ : iM) (d3 : Option iV), k ≤ 2000 → υ 8 58 = tkN (τ 8 58) k → mfr τ υ → rO (tkN (τ 8 58) k) i 11 = rO (tkN (τ 8 58) 2000) i 11 → AtP mX7_endOf 30 [some M, some (.inl (nI i)), some (.inl (nI k)), d3] [] υ (fun z => ∃ v σ1, z = evi v σ1 ∧ v = rO (tkN (τ 8 58) 2000) i 11 ∧ (∀ j, 467 ≤ j → σ1 8 58 j = τ 8 58 j) ∧ mfr τ σ1) := by
    intro k υ d3 hk eυ fυ ht
    obtain ⟨s1, s2, s3⟩ := tkN_st hr k (by omega)
    refine AtP.Ci rfl (e_order i 11 (by omega) (by omega) _) ?_
    rw [eυ, ht]
    exact AtP.R rfl (⟨_, _, rfl, rfl, fun j hj => by rw [eυ]; exact s3 j hj, fυ⟩)
  have L : ∀ k, k ≤ 2000 → ∀ (υ : iM) (d3 : Option iV), υ 8 58 = tkN (τ 8 58) k → mfr τ υ → AtP mX7_endOf 2 [some M, some (.inl (nI i)), some (.inl (nI k)), d3] [] υ (fun z => ∃ v σ1, z = evi v σ1 ∧ v = rO (tkN (τ 8 58) 2000) i 11 ∧ (∀ j, 467 ≤ j → σ1 8 58 j = τ 8 58 j) ∧ mfr τ σ1) := by
    refine down_ind (N := 2000) ?_ ?_
    · intro υ d3 eυ fυ
      refine AtP.Bt rfl (by decide) ?_
      exact B 2000 υ d3 (Nat.le_refl _) eυ fυ rfl
    · intro k hk ih υ d3 eυ fυ
      obtain ⟨a, b, c⟩ := tkN_ok hr k (by omega)
      refine AtP.Bf rfl (by rw [show (2000 : Int32) = nI 2000 from rfl]; exact fun x => absurd ((nI_leI (by omega) (by omega)).mp x) (by omega)) ?_
      refine AtP.Ci rfl (e_order i 3 (by omega) (by omega) _) ?_
      rw [eυ]
      refine AtP.B rfl (fun hc => ?_) (fun hc => ?_)
      · refine B k υ d3 (by omega) eυ fυ ?_
        obtain ⟨s1, s2, s3⟩ := tkN_st a (2000 - k) (by omega)
        have := ((s1 i).2 (Or.inl hc)).2
        rw [← tkN_add, show k + (2000 - k) = 2000 by omega] at this
        exact this.symm
      · refine AtP.CiP rfl (e_passes (by rw [eυ]; exact a) (by rw [eυ]; omega)) (fun v9 σ9 h9 => ?_)
        obtain ⟨-, g1, g2⟩ := h9
        rw [eυ] at g1
        refine AtP.J rfl ?_
        rw [nI_1]
        exact ih _ _ g1 (fυ.trans g2)
  exact L 0 (by omega) τ none rfl mfr.rfl
theorem RIg.rule {m : Nat → Prop} (hr : RIg m r) {v : Int32} (hv : inR v 0 3) : RIg m (upd r 8 v) := by
  obtain ⟨a0, a1, a2, a3, a4, a5, a6, a7, a8, a9, -⟩ := id hr
  exact hr.top (fun n hn => upd_ne' (by omega)) (inR.eq (upd_ne' (by omega)) a0) (inR.eq (upd_ne' (by omega)) a5) (inR.eq (upd_ne' (by omega)) a6) (inR.eq (upd_ne' (by omega)) a7) (inR.eq upd_eq' hv) (inR.eq (upd_ne' (by omega)) a9)
theorem RIg.rope {m : Nat → Prop} (hr : RIg m r) {v : Int32} (hv : inR v 1 5000) : RIg m (upd r 7 v) := by
  obtain ⟨a0, a1, a2, a3, a4, a5, a6, a7, a8, a9, -⟩ := id hr
  exact hr.top (fun n hn => upd_ne' (by omega)) (inR.eq (upd_ne' (by omega)) a0) (inR.eq (upd_ne' (by omega)) a5) (inR.eq (upd_ne' (by omega)) a6) (inR.eq upd_eq' hv) (inR.eq (upd_ne' (by omega)) a8) (inR.eq (upd_ne' (by omega)) a9)
theorem Sh.rule {m : Nat → Prop} (h : Sh σ s r) (hr : RIg m r) (hs4 : s < 4) (v : Int32) : Sh (iU σ 4 s 11 v) s (upd r 8 v) := by
  have h1 := h.1
  refine h.top hr hs4 (fun n hn => upd_ne' (by omega)) ?_ (fun k i j hk => iU_ne (by omega))
  unfold ShS at h1 ⊢
  rw [iU_same, upd_eq', iU_ne (by omega), iU_ne (by omega), iU_ne (by omega), iU_ne (by omega), iU_ne (by omega), iU_ne (by omega), iU_ne (by omega), iU_ne (by omega), iU_ne (by omega), iU_ne (by omega), upd_ne' (by omega), upd_ne' (by omega), upd_ne' (by omega), upd_ne' (by omega), upd_ne' (by omega), upd_ne' (by omega), upd_ne' (by omega), upd_ne' (by omega), upd_ne' (by omega), upd_ne' (by omega)]
  exact ⟨h1.1, h1.2.1, h1.2.2.1, h1.2.2.2.1, h1.2.2.2.2.1, h1.2.2.2.2.2.1, h1.2.2.2.2.2.2.1, rfl, h1.2.2.2.2.2.2.2.2.1, h1.2.2.2.2.2.2.2.2.2.1, h1.2.2.2.2.2.2.2.2.2.2⟩
theorem Sh.rope {m : Nat → Prop} (h : Sh σ s r) (hr : RIg m r) (hs4 : s < 4) (v : Int32) : Sh (iU σ 4 s 10 v) s (upd r 7 v) := by
  have h1 := h.1
  refine h.top hr hs4 (fun n hn => upd_ne' (by omega)) ?_ (fun k i j hk => iU_ne (by omega))
  unfold ShS at h1 ⊢
  rw [iU_same, upd_eq', iU_ne (by omega), iU_ne (by omega), iU_ne (by omega), iU_ne (by omega), iU_ne (by omega), iU_ne (by omega), iU_ne (by omega), iU_ne (by omega), iU_ne (by omega), iU_ne (by omega), upd_ne' (by omega), upd_ne' (by omega), upd_ne' (by omega), upd_ne' (by omega), upd_ne' (by omega), upd_ne' (by omega), upd_ne' (by omega), upd_ne' (by omega), upd_ne' (by omega), upd_ne' (by omega)]
  exact ⟨h1.1, h1.2.1, h1.2.2.1, h1.2.2.2.1, h1.2.2.2.2.1, h1.2.2.2.2.2.1, rfl, h1.2.2.2.2.2.2.2.1, h1.2.2.2.2.2.2.2.2.1, h1.2.2.2.2.2.2.2.2.2.1, h1.2.2.2.2.2.2.2.2.2.2⟩
end TD
section CPD
variable {σ : iM}
theorem scr.U4 {j : Nat} {x : Int32} : scr σ (iU σ 4 1 j x) := fun k i j' a => iU_ne (fun z => a (Or.inl (by unfold ow2 own; omega)))
theorem scr.U0 {i j : Nat} {x : Int32} (hi : i < 24) : scr σ (iU σ 0 (24 * 1 + i) j x) := fun k i' j' a => iU_ne (fun z => a (Or.inl (by unfold ow2 own; omega)))
theorem c_byRule (h : INV σ) {v : Int32} (hv : inR v 0 3) : EvP mX6_tardinessByRule [X, .inl v] σ (fun z => ∃ w σ1, z = evi w σ1 ∧ w = tard (tkN (upd (σ 8 58) 8 v) 2000) ∧ scr σ σ1) := by
  have h30 := h.2.1
  have hR := h.1.rule hv
  have e0 : upd (σ 8 58) 8 v 0 = σ 8 58 0 := upd_ne' (by omega)
  show AtP mX6_tardinessByRule 0 [some X, some (.inl v)] [] σ _
  refine AtP.CvP rfl (c_copyFrom h.2.2.1 h.1 (a := 1) (b := 0) (by omega) (by omega) (by omega)) (fun σ9 h9 => ?_)
  obtain ⟨hS, hf⟩ := h9
  refine AtP.CvP rfl (c_pass (hS.rule h.1 (by omega) v) hR (by omega) (n := 2000) (by rw [e0]; omega)) (fun σ9 h9 => ?_)
  obtain ⟨hS2, hf2⟩ := h9
  obtain ⟨a, b, c⟩ := tkN_ok hR 2000 (by rw [e0]; omega)
  refine AtP.Ci rfl (c_tard hS2 a) ?_
  exact AtP.R rfl (⟨_, _, rfl, rfl, (hf.scr.trans scr.U4).trans hf2.w.scr⟩)
theorem c_byRope (h : INV σ) {v : Int32} (hv : inR v 1 5000) : EvP mX6_tardinessByRope [X, .inl v] σ (fun z => ∃ w σ1, z = evi w σ1 ∧ w = tard (tkN (upd (σ 8 58) 7 v) 2000) ∧ scr σ σ1) := by
  have h30 := h.2.1
  have hR := h.1.rope hv
  have e0 : upd (σ 8 58) 7 v 0 = σ 8 58 0 := upd_ne' (by omega)
  show AtP mX6_tardinessByRope 0 [some X, some (.inl v)] [] σ _
  refine AtP.CvP rfl (c_copyFrom h.2.2.1 h.1 (a := 1) (b := 0) (by omega) (by omega) (by omega)) (fun σ9 h9 => ?_)
  obtain ⟨hS, hf⟩ := h9
  refine AtP.CvP rfl (c_pass (hS.rope h.1 (by omega) v) hR (by omega) (n := 2000) (by rw [e0]; omega)) (fun σ9 h9 => ?_)
  obtain ⟨hS2, hf2⟩ := h9
  obtain ⟨a, b, c⟩ := tkN_ok hR 2000 (by rw [e0]; omega)
  refine AtP.Ci rfl (c_tard hS2 a) ?_
  exact AtP.R rfl (⟨_, _, rfl, rfl, (hf.scr.trans scr.U4).trans hf2.w.scr⟩)
theorem c_byExp (h : INV σ) {i : Nat} (hi : i < OM (σ 8 58)) : EvP mX6_tardinessIfExpedited [X, .inl (nI i)] σ (fun z => ∃ w σ1, z = evi w σ1 ∧ w = tard (tkN (upd (σ 8 58) (131 + 14 * i + 12) 1) 2000) ∧ scr σ σ1) := by
  have h30 := h.2.1
  have hom := h.1.om
  have hR := mrk h.1 hi (b := 1) (Or.inr rfl)
  have e0 : upd (σ 8 58) (131 + 14 * i + 12) 1 0 = σ 8 58 0 := upd_ne' (by omega)
  show AtP mX6_tardinessIfExpedited 0 [some X, some (.inl (nI i))] [] σ _
  refine AtP.CvP rfl (c_copyFrom h.2.2.1 h.1 (a := 1) (b := 0) (by omega) (by omega) (by omega)) (fun σ9 h9 => ?_)
  obtain ⟨hS, hf⟩ := h9
  refine AtP.N rfl (v12 1 i (by omega)) ?_
  rw [nI_clamp (by omega)]
  refine AtP.N rfl (Or.inr rfl) ?_
  refine AtP.CvP rfl (c_pass (hS.mrk h.1 (by omega) hi 1) hR (by omega) (n := 2000) (by rw [e0]; omega)) (fun σ9 h9 => ?_)
  obtain ⟨hS2, hf2⟩ := h9
  obtain ⟨a, b, c⟩ := tkN_ok hR 2000 (by rw [e0]; omega)
  refine AtP.Ci rfl (c_tard hS2 a) ?_
  exact AtP.R rfl (⟨_, _, rfl, rfl, (hf.scr.trans (scr.U0 (by omega))).trans hf2.w.scr⟩)
end CPD
