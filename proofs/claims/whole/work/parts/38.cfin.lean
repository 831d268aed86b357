/-! ===== the class: steps end ===== -/
section FN
variable {σ : iM} {s : Nat} {r : Row}
def finA (σ : iM) (s X k q2 q : Nat) : iM := iU (arrU σ s X k q2) 5 (6 * s + q) 2 (-1)
def finB (σ : iM) (s X q : Nat) : iM := iU (iU (iU (iU σ 0 X 6 (σ 0 X 6 + 1)) 0 X 5 2) 0 X 12 (σ 4 s 13)) 5 (6 * s + q) 2 (-1)
theorem finA_cfr {x k q2 q : Nat} (hx : x < 24) (hq : q < 6) (hq2 : q2 < 6) : cfr s σ (finA σ s (24 * s + x) k q2 q) := (((cfr.rfl.U (own0 hx)).U (own0 hx)).U (own5 hq2)).U (own5 hq)
theorem finB_cfr {x q : Nat} (hx : x < 24) (hq : q < 6) : cfr s σ (finB σ s (24 * s + x) q) := (((cfr.rfl.U (own0 hx)).U (own0 hx)).U (own0 hx)).U (own5 hq)
theorem bef1 {r : Row} {i : Nat} (h3 : rO r i 3 = 1) (h6 : rO r i 6 = 1) : bef r i ↔ rO r i 4 < nI (dS r (oP r i)) := by
  unfold bef opn
  rw [h3, h6]
  constructor
  · rintro ⟨-, z | z⟩
    · exact z
    · exact absurd z.2 (by decide)
  · intro z; exact ⟨Or.inr rfl, Or.inl z⟩
theorem bef0 {r : Row} {i : Nat} (h3 : rO r i 3 = 1) (h6 : rO r i 6 = 0) : bef r i ↔ rO r i 4 ≤ nI (dS r (oP r i)) := by
  unfold bef opn
  rw [h3, h6, fa_lt, fa_le]
  constructor
  · rintro ⟨-, z | z⟩
    · omega
    · have := (fa_eq _ _).mp z.1; omega
  · intro z
    refine ⟨Or.inr rfl, ?_⟩
    by_cases e : (rO r i 4).toInt = (nI (dS r (oP r i))).toInt
    · exact Or.inr ⟨(fa_eq _ _).mpr e, rfl⟩
    · exact Or.inl (by omega)
theorem finC_dbg {m : Nat → Prop} (hr : RIg m r) {q i : Nat} (hq : q < SC r) (hi : i < OM r) (h3 : rO r i 3 = 1) (h6 : rO r i 6 = 1) : dbg (finR r q i) i = dbg r i := by
  have hsc := hr.sc
  have hq6 : q < 6 := by omega
  obtain ⟨a1, a2, a3, a4, a5⟩ := hr.op hi
  obtain ⟨k1, k2, k3⟩ := hr.st hi h3
  have hd := a4.d
  have hn := a4.n
  have e10 : rO (finR r q i) i 10 = rO r i 10 := finR_o hq6 (by omega) (by omega)
  have eP : oP (finR r q i) i = oP r i := oP_eq (finR_o hq6 (by omega) (by omega))
  rw [dbg1 h3]
  by_cases hl : rO r i 4 + 1 = rPn r (oP r i)
  · have h3' := finR_3 (r := r) (i := i) hq6
    rw [if_pos hl] at h3'
    rw [if_neg (fun z => by
      rw [bef1 h3 h6, k1, nI_lt_iff (by omega) (by omega)] at z
      rw [k1, hn.1, nI_1, nI_inj (by omega) (by omega)] at hl
      omega)]
    unfold dbg
    rw [if_neg (by
      rintro (z | z | z)
      · rw [h3'] at z; exact absurd z (by decide)
      · rw [h3'] at z; exact absurd z (by decide)
      · have := z.1; unfold opn at this; rw [h3'] at this; exact absurd this (by decide)), e10]
  · have h3' := finR_3 (r := r) (i := i) hq6
    rw [if_neg hl, h3] at h3'
    rw [dbg1 h3', e10]
    have hb : bef (finR r q i) i ↔ bef r i := by
      rw [bef1 h3 h6, bef0 h3' finR_6, finR_4, eP, (finR_s hq6).ds a3, k1, nI_1, nI_lt_iff (by omega) (by omega), nI_le_iff (by omega) (by omega)]
      omega
    by_cases hc : bef r i
    · rw [if_pos hc, if_pos (hb.mpr hc)]
    · rw [if_neg hc, if_neg (fun z => hc (hb.mp z))]
theorem Sh.finC {m : Nat → Prop} {σ1 : iM} (h : Sh σ s r) (hr : RIg m r) (hs4 : s < 4) {q i : Nat} (hq : q < SC r) (hi : i < OM r) (h3 : rO r i 3 = 1) (h6 : rO r i 6 = 1) (hf : cfr s σ σ1)
    (c4 : ∀ j, σ1 4 s j = σ 4 s j) (cQ : ∀ q' j, j ≠ 4 → (q' ≠ q ∨ j ≠ 2) → σ1 5 (6 * s + q') j = σ 5 (6 * s + q') j) (cQ2 : σ1 5 (6 * s + q) 2 = -1) (cW : ∀ q', q' < SC r → σ1 5 (6 * s + q') 4 = nI (wtC (finR r q i) q'))
    (cO : ∀ i' j, i' ≠ i → σ1 0 (24 * s + i') j = σ 0 (24 * s + i') j) (cI : ∀ j, j ≠ 5 → j ≠ 6 → j ≠ 8 → j ≠ 12 → σ1 0 (24 * s + i) j = σ 0 (24 * s + i) j)
    (c5 : σ1 0 (24 * s + i) 5 = rO (finR r q i) i 3) (c6 : σ1 0 (24 * s + i) 6 = rO r i 4 + 1) (c8 : rO (finR r q i) i 3 = 1 → σ1 0 (24 * s + i) 8 = r 0) (c12 : σ1 0 (24 * s + i) 12 = rO (finR r q i) i 11) : Sh σ1 s (finR r q i) := by
  have hsc := hr.sc
  have hq6 : q < 6 := by omega
  obtain ⟨a1, a2, a3, a4, a5⟩ := hr.op hi
  have hs : samB r (finR r q i) := finR_s hq6
  refine h.of hr hs4 hs hf (h.1.same c4 (fun n hn => finR_n (by omega) (by omega))) (fun q' hq' => ?_) (fun i' hi' => ?_)
  · by_cases e : q' = q
    · subst e
      have h2 := h.2.1 q' hq'
      have eS : ∀ w, w < 7 → w ≠ 0 → rS (finR r q' i) q' w = rS r q' w := fun w h1 h2 => finR_n (by omega) (by omega)
      unfold ShQ at h2 ⊢
      rw [cQ q' 0 (by omega) (by omega), cQ q' 1 (by omega) (by omega), cQ2, cQ q' 3 (by omega) (by omega), cW q' hq', cQ q' 5 (by omega) (by omega), cQ q' 6 (by omega) (by omega), cQ q' 7 (by omega) (by omega), finR_s0 hq6, eS 1 (by omega) (by omega), eS 2 (by omega) (by omega), eS 3 (by omega) (by omega), eS 4 (by omega) (by omega), eS 5 (by omega) (by omega), eS 6 (by omega) (by omega)]
      exact ⟨h2.1, h2.2.1, rfl, h2.2.2.2.1, rfl, h2.2.2.2.2.2.1, h2.2.2.2.2.2.2.1, h2.2.2.2.2.2.2.2⟩
    · exact (h.2.1 q' hq').same (fun j hj => cQ q' j hj (Or.inl e)) (fun w hw => finR_n (by omega) (by omega)) (cW q' hq')
  · by_cases e : i' = i
    · subst e
      have ho := h.2.2.2 i' hi
      have eO : ∀ w, w < 14 → w ≠ 6 → w ≠ 4 → w ≠ 5 → w ≠ 3 → w ≠ 11 → rO (finR r q i') i' w = rO r i' w := fun w b1 b2 b3 b4 b5 b6 => finR_o hq6 b1 (Or.inr ⟨b2, b3, b4, b5, b6⟩)
      unfold ShO at ho ⊢
      rw [cI 0 (by omega) (by omega) (by omega) (by omega), cI 1 (by omega) (by omega) (by omega) (by omega), cI 2 (by omega) (by omega) (by omega) (by omega), cI 3 (by omega) (by omega) (by omega) (by omega), cI 4 (by omega) (by omega) (by omega) (by omega), c5, c6, cI 7 (by omega) (by omega) (by omega) (by omega), cI 9 (by omega) (by omega) (by omega) (by omega), cI 10 (by omega) (by omega) (by omega) (by omega), cI 11 (by omega) (by omega) (by omega) (by omega), c12, cI 13 (by omega) (by omega) (by omega) (by omega)]
      rw [eO 0 (by omega) (by omega) (by omega) (by omega) (by omega) (by omega), eO 1 (by omega) (by omega) (by omega) (by omega) (by omega) (by omega), eO 2 (by omega) (by omega) (by omega) (by omega) (by omega) (by omega), eO 7 (by omega) (by omega) (by omega) (by omega) (by omega) (by omega), eO 8 (by omega) (by omega) (by omega) (by omega) (by omega) (by omega), eO 9 (by omega) (by omega) (by omega) (by omega) (by omega) (by omega), eO 12 (by omega) (by omega) (by omega) (by omega) (by omega) (by omega), eO 13 (by omega) (by omega) (by omega) (by omega) (by omega) (by omega), finR_4, finR_5, finC_dbg hr hq hi h3 h6, wk_eq hs a3 (by have := a4.d; omega) (eO 0 (by omega) (by omega) (by omega) (by omega) (by omega) (by omega)) (eO 1 (by omega) (by omega) (by omega) (by omega) (by omega) (by omega))]
      obtain ⟨b0, b1, b2, b3, b4, b5, b6, b7, b8, b9, b10, b11, b12, b13⟩ := ho
      exact ⟨b0, b1, b2, b3, b4, rfl, rfl, b7, c8, b9, fun _ => b10 (Or.inl h3), b11, rfl, b13⟩
    · exact (h.2.2.2 i' hi').same hs (hr.op hi').2.2.1 (by have := (hr.op hi').2.2.2.1.d; omega) (fun w _ => cO i' w e) (fun w hw => finR_o hq6 hw (Or.inl e))
theorem fin_wts {m : Nat → Prop} (hr : RIg m r) {q i : Nat} (hq : q < SC r) (q' : Nat) : ∀ j, j < OM r → j ≠ i → (wts (finR r q i) j q' ↔ wts r j q') := fun j hj hne => by
  have hsc := hr.sc
  have hq6 : q < 6 := by omega
  exact wts_eq (finR_s hq6) (hr.op hj).2.2.1 (fun h1 => (hr.st hj h1).2.2) (finR_o hq6 (by omega) (Or.inl hne)) (finR_o hq6 (by omega) (Or.inl hne)) (finR_o hq6 (by omega) (Or.inl hne)) (finR_o hq6 (by omega) (Or.inl hne))
theorem Sh.finAC {m : Nat → Prop} (h : Sh σ s r) (hr : RIg m r) (hs4 : s < 4) {q i q2 : Nat} (hq : q < SC r) (hi : i < OM r) (h3 : rO r i 3 = 1) (h6 : rO r i 6 = 1) (hl : oK r i + 1 < sN r (oP r i)) (hq2 : rPs r (oP r i) (oK r i + 1) = nI q2) (hq26 : q2 < 6) : Sh (finA σ s (24 * s + i) (oK r i + 1) q2 q) s (finR r q i) := by
  have hsc := hr.sc
  have hom := hr.om
  have hq6 : q < 6 := by omega
  obtain ⟨a1, a2, a3, a4, a5⟩ := hr.op hi
  obtain ⟨k1, k2, k3⟩ := hr.st hi h3
  have hn := a4.n
  have hnl : ¬ rO r i 4 + 1 = rPn r (oP r i) := by rw [k1, hn.1, nI_1, nI_inj (by omega) (by omega)]; omega
  have h3' := finR_3 (r := r) (i := i) hq6
  have h11' := finR_11 (r := r) (i := i) hq6
  rw [if_neg hnl] at h3' h11'
  have ho := h.2.2.2 i hi
  have h13 : σ 4 s 13 = r 0 := h.1.2.2.2.2.2.2.2.2.2.1
  refine h.finC hr hs4 hq hi h3 h6 (finA_cfr a1 hq6 hq26) (fun j => ?_) (fun q' j hj hne => ?_) ?_ (fun q' hq' => ?_) (fun i' j hne => ?_) (fun j b1 b2 b3 b4 => ?_) ?_ ?_ (fun _ => ?_) ?_
  · unfold finA arrU
    rw [Ukk (by omega), Ukk (by omega), Ukk (by omega), Ukk (by omega)]
  · unfold finA arrU
    rw [U55 (by omega), U55 (by omega), Ukk (by omega), Ukk (by omega)]
  · exact iU_same
  · have hw := wtC_upd (finR_s hq6).om hi q' (fin_wts hr hq q')
    rw [if_neg (fun z => by rw [z.2.1] at h6; exact absurd h6 (by decide)), Nat.add_zero] at hw
    have hwi : wts (finR r q i) i q' ↔ q' = q2 := by
      unfold wts
      rw [h3', h3, finR_6, oP_eq (finR_o hq6 (by omega) (by omega)), show oK (finR r q i) i = oK r i + 1 from by show nn (rO (finR r q i) i 4) = _; rw [finR_4, k1, nI_1]; exact nn_nI (by omega), (finR_s hq6).ps a3 (by omega), hq2, nI_inj (by omega) (by omega)]
      exact ⟨fun z => z.2.2.symm, fun z => ⟨rfl, rfl, z.symm⟩⟩
    have h2 := (h.2.1 q' hq').2.2.2.2.1
    unfold finA arrU
    rw [U55 (by omega)]
    by_cases e : q' = q2
    · subst e
      rw [iU_same, h2, nI_1, hw, if_pos (hwi.mpr rfl)]
    · rw [U55 (by omega), Ukk (by omega), Ukk (by omega), h2, hw, if_neg (fun z => e (hwi.mp z)), Nat.add_zero]
  · unfold finA arrU
    rw [Ukk (by omega), Ukk (by omega), U00 (by omega), U00 (by omega)]
  · unfold finA arrU
    rw [Ukk (by omega), Ukk (by omega), U00 (by omega), U00 (by omega)]
  · unfold finA arrU
    rw [Ukk (by omega), Ukk (by omega), U00 (by omega), U00 (by omega), ho.2.2.2.2.2.1, h3']
  · unfold finA arrU
    rw [Ukk (by omega), Ukk (by omega), U00 (by omega), iU_same, k1, nI_1]
  · unfold finA arrU
    rw [Ukk (by omega), Ukk (by omega), iU_same, h13]
  · unfold finA arrU
    rw [Ukk (by omega), Ukk (by omega), U00 (by omega), U00 (by omega), ho.2.2.2.2.2.2.2.2.2.2.2.2.1, h11']
theorem Sh.finBC {m : Nat → Prop} (h : Sh σ s r) (hr : RIg m r) (hs4 : s < 4) {q i : Nat} (hq : q < SC r) (hi : i < OM r) (h3 : rO r i 3 = 1) (h6 : rO r i 6 = 1) (hl : ¬ oK r i + 1 < sN r (oP r i)) : Sh (finB σ s (24 * s + i) q) s (finR r q i) := by
  have hsc := hr.sc
  have hom := hr.om
  have hq6 : q < 6 := by omega
  obtain ⟨a1, a2, a3, a4, a5⟩ := hr.op hi
  obtain ⟨k1, k2, k3⟩ := hr.st hi h3
  have hn := a4.n
  have hnl : rO r i 4 + 1 = rPn r (oP r i) := by rw [k1, hn.1, nI_1, nI_inj (by omega) (by omega)]; omega
  have h3' := finR_3 (r := r) (i := i) hq6
  have h11' := finR_11 (r := r) (i := i) hq6
  rw [if_pos hnl] at h3' h11'
  have ho := h.2.2.2 i hi
  have h13 : σ 4 s 13 = r 0 := h.1.2.2.2.2.2.2.2.2.2.1
  refine h.finC hr hs4 hq hi h3 h6 (finB_cfr a1 hq6) (fun j => ?_) (fun q' j hj hne => ?_) ?_ (fun q' hq' => ?_) (fun i' j hne => ?_) (fun j b1 b2 b3 b4 => ?_) ?_ ?_ (fun z => ?_) ?_
  · unfold finB
    rw [Ukk (by omega), Ukk (by omega), Ukk (by omega), Ukk (by omega)]
  · unfold finB
    rw [U55 (by omega), Ukk (by omega), Ukk (by omega), Ukk (by omega)]
  · exact iU_same
  · have hw := wtC_upd (finR_s hq6).om hi q' (fin_wts hr hq q')
    rw [if_neg (fun z => by rw [z.2.1] at h6; exact absurd h6 (by decide)), Nat.add_zero, if_neg (fun z => by have := z.1; rw [h3'] at this; exact absurd this (by decide)), Nat.add_zero] at hw
    have h2 := (h.2.1 q' hq').2.2.2.2.1
    unfold finB
    rw [U55 (by omega), Ukk (by omega), Ukk (by omega), Ukk (by omega), h2, hw]
  · unfold finB
    rw [Ukk (by omega), U00 (by omega), U00 (by omega), U00 (by omega)]
  · unfold finB
    rw [Ukk (by omega), U00 (by omega), U00 (by omega), U00 (by omega)]
  · unfold finB
    rw [Ukk (by omega), U00 (by omega), iU_same, h3']
  · unfold finB
    rw [Ukk (by omega), U00 (by omega), U00 (by omega), iU_same, ho.2.2.2.2.2.2.1]
  · rw [h3'] at z; exact absurd z (by decide)
  · unfold finB
    rw [Ukk (by omega), iU_same, h13, h11']
theorem c_leaveStation {m : Nat → Prop} (h : Sh σ s r) (hr : RIg m r) (hs4 : s < 4) {i q2 : Nat} (hi : i < OM r) (h3 : rO r i 3 = 1) (hq2 : oK r i + 1 < sN r (oP r i) → rPs r (oP r i) (oK r i + 1) = nI q2) (hq26 : q2 < 6) : Ev mX4_leaveStation [.inr (4, s), .inr (0, 24 * s + i)] σ (evv (if oK r i + 1 < sN r (oP r i) then arrU σ s (24 * s + i) (oK r i + 1) q2 else iU (iU (iU σ 0 (24 * s + i) 6 (σ 0 (24 * s + i) 6 + 1)) 0 (24 * s + i) 5 2) 0 (24 * s + i) 12 (σ 4 s 13))) := by
  obtain ⟨p1, p2, p3, p4⟩ := h.prod hr hi
  obtain ⟨k1, k2, k3⟩ := hr.st hi h3
  have hn := p4.n
  have ho := h.2.2.2 i hi
  have hk : σ 0 (24 * s + i) 6 = nI (oK r i) := ho.2.2.2.2.2.2.1.trans k1
  show At mX4_leaveStation 0 [some (.inr (4, s)), some (.inr (0, 24 * s + i))] [] σ _
  refine At.N rfl (by rw [p1]; exact v13 s _ p2) ?_
  rw [p1, nI_clamp (by omega)]
  refine At.B rfl (fun hl => ?_) (fun hl => ?_)
  · rw [hk, nI_1, p3.1, hn.1] at hl
    have hl := (nI_leI (by omega) (by omega)).mp hl
    rw [if_neg (by omega)]
    have e : iU (iU (iU σ 0 (24 * s + i) 6 (σ 0 (24 * s + i) 6 + 1)) 0 (24 * s + i) 5 2) 0 (24 * s + i) 12 (σ 4 s 13) = iU (iU (iU σ 0 (24 * s + i) 6 (σ 0 (24 * s + i) 6 + 1)) 0 (24 * s + i) 5 2) 0 (24 * s + i) 12 (iU (iU σ 0 (24 * s + i) 6 (σ 0 (24 * s + i) 6 + 1)) 0 (24 * s + i) 5 2 4 s 13) := by
      rw [Ukk (k := 0) (k' := 4) (by omega), Ukk (k := 0) (k' := 4) (by omega)]
    rw [e]
    exact At.R rfl
  · rw [hk, nI_1, p3.1, hn.1] at hl
    have hl := Nat.lt_of_not_le (fun z => hl ((nI_leI (by omega) (by omega)).mpr z))
    rw [if_pos hl]
    have har : Ev mX4_arrive [.inr (4, s), .inr (0, 24 * s + i), .inl (σ 0 (24 * s + i) 6 + 1)] σ (evv (arrU σ s (24 * s + i) (oK r i + 1) q2)) := by
      rw [hk, nI_1]
      exact c_arrive hs4 p1 p2 (by omega) (by rw [(p3.2.2 _ hl).1]; exact hq2 hl) hq26
    refine At.Cv rfl (har) ?_
    refine At.J rfl ?_
    exact At.R rfl
theorem c_finishSteps (h : Sh σ s r) (hr : RIg (fun _ => False) r) (hs4 : s < 4) : EvP mX4_finishSteps [.inr (4, s)] σ (fun z => ∃ σ1, z = evv σ1 ∧ Sh σ1 s (finN r (SC r)) ∧ cfr s σ σ1) := by
  have hsc := hr.sc
  have hom := hr.om
  show AtP mX4_finishSteps 0 [some (.inr (4, s)), none, none] [] σ _
  refine AtP.F 2 [some (.inr (4, s)), some (.inl (nI 0)), none] [] _ rfl ?_
  have key : ∀ n, n ≤ SC r → ∀ (σ' : iM) (d2 : Option iV), Sh σ' s (finN r n) → cfr s σ σ' → AtP mX4_finishSteps 2 [some (.inr (4, s)), some (.inl (nI n)), d2] [] σ' (fun z => ∃ σ1, z = evv σ1 ∧ Sh σ1 s (finN r (SC r)) ∧ cfr s σ σ1) := by
    refine down_ind (N := SC r) ?_ ?_
    · intro σ' d2 hS hf
      obtain ⟨a, b, c⟩ := finN_ok hr (SC r) (Nat.le_refl _)
      refine AtP.Bt rfl (by rw [hS.sc a, b.sc]; exact (nI_leI (by omega) (by omega)).mpr (Nat.le_refl _)) ?_
      exact AtP.R rfl (⟨_, rfl, hS, hf⟩)
    · intro n hn ih σ' d2 hS hf
      obtain ⟨a, b, c⟩ := finN_ok hr n (by omega)
      have hn' : n < SC (finN r n) := by rw [b.sc]; exact hn
      have hq := hS.2.1 n hn'
      have hn6 : n < 6 := by omega
      refine AtP.Bf rfl (by rw [hS.sc a, b.sc]; exact fun x => absurd ((nI_leI (by omega) (by omega)).mp x) (by omega)) ?_
      refine AtP.N rfl (v15 s n (by omega)) ?_
      rw [nI_clamp (by omega)]
      have skip : ∀ d2, ¬ isFin (finN r n) n → AtP mX4_finishSteps 58 [some (.inr (4, s)), some (.inl (nI n)), d2] [] σ' (fun z => ∃ σ1, z = evv σ1 ∧ Sh σ1 s (finN r (SC r)) ∧ cfr s σ σ1) := by
        intro d2 hc
        refine AtP.J rfl ?_
        rw [nI_1]
        refine ih σ' d2 ?_ hf
        rw [finN, fin, if_neg hc]
        exact hS
      refine AtP.B rfl (fun hw => ?_) (fun hw => ?_)
      · rw [hq.2.2.1] at hw
        exact skip _ (fun z => z.1 hw)
      · rw [hq.2.2.1] at hw
        obtain ⟨w1, w2, w3, w4, w5, w6⟩ := (a.sta hn').w hw
        have ho := hS.2.2.2 _ w2
        refine AtP.N rfl (by rw [hq.2.2.1, w1]; exact v12 s _ w3) ?_
        rw [hq.2.2.1]
        obtain ⟨l1, l2, l3⟩ := a.wkd w2 w4 w5
        have hz : ((0 : Int32).toInt = 0) := rfl
        refine AtP.B rfl (fun h7 => ?_) (fun h7 => ?_)
        · have h7 : σ' 0 (24 * s + nn (rS (finN r n) n 0)) 7 = 0 := h7
          rw [ho.2.2.2.2.2.2.2.1] at h7
          have hfin : isFin (finN r n) n := ⟨hw, by rw [h7]; exact (by decide : (0 : Int32) ≤ 0)⟩
          refine AtP.N rfl (by rw [hq.2.2.1, w1]; exact v12 s _ w3) ?_
          rw [hq.2.2.1]
          obtain ⟨a1, a2, a3, a4, a5⟩ := a.op w2
          obtain ⟨k1, k2, k3⟩ := a.st w2 w4
          have hnx := a4.n
          have hex : ∃ q2, q2 < 6 ∧ (oK (finN r n) (nn (rS (finN r n) n 0)) + 1 < sN (finN r n) (oP (finN r n) (nn (rS (finN r n) n 0))) → rPs (finN r n) (oP (finN r n) (nn (rS (finN r n) n 0))) (oK (finN r n) (nn (rS (finN r n) n 0)) + 1) = nI q2) := by
            by_cases hl : oK (finN r n) (nn (rS (finN r n) n 0)) + 1 < sN (finN r n) (oP (finN r n) (nn (rS (finN r n) n 0)))
            · have := (a4.2.1 _ hl).1.toN (by omega) (by omega)
              exact ⟨_, by omega, fun _ => this.1⟩
            · exact ⟨0, by omega, fun z => absurd z hl⟩
          obtain ⟨q2, hq26, hq2⟩ := hex
          refine AtP.Cv rfl (c_leaveStation hS a hs4 w2 w4 hq2 hq26) ?_
          have hfe : finN r (n + 1) = finR (finN r n) n (nn (rS (finN r n) n 0)) := by rw [finN, fin, if_pos hfin]
          by_cases hl : oK (finN r n) (nn (rS (finN r n) n 0)) + 1 < sN (finN r n) (oP (finN r n) (nn (rS (finN r n) n 0)))
          · rw [if_pos hl]
            refine AtP.J rfl ?_
            rw [nI_1]
            refine ih _ _ ?_ (hf.trans (finA_cfr w3 hn6 hq26))
            rw [hfe]
            exact hS.finAC a hs4 hn' w2 w4 w5 hl (hq2 hl) hq26
          · rw [if_neg hl]
            refine AtP.J rfl ?_
            rw [nI_1]
            refine ih _ _ ?_ (hf.trans (finB_cfr w3 hn6))
            rw [hfe]
            exact hS.finBC a hs4 hn' w2 w4 w5 hl
        · have h7 : ¬ σ' 0 (24 * s + nn (rS (finN r n) n 0)) 7 = 0 := h7
          rw [ho.2.2.2.2.2.2.2.1] at h7
          refine skip _ (fun z => h7 ?_)
          have := z.2
          rw [fa_le] at this
          rw [fa_eq]
          omega
  exact key 0 (Nat.zero_le _) σ _ h cfr.rfl
end FN
