/-! ===== what of the memory a shop owns; the class's release of orders ===== -/
def own (s k i : Nat) : Prop := (k = 4 ∧ i = s) ∨ (k = 5 ∧ 6 * s ≤ i ∧ i < 6 * s + 6) ∨ (k = 0 ∧ 24 * s ≤ i ∧ i < 24 * s + 24) ∨ (k = 3 ∧ i = s) ∨ (k = 8 ∧ 48 + 2 * s ≤ i ∧ i ≤ 49 + 2 * s)
def cfr (s : Nat) (σ σ1 : iM) : Prop := ∀ k i j, ¬ own s k i → σ1 k i j = σ k i j
/-- the schedule's rows are the same -/
def csm (s : Nat) (σ σ1 : iM) : Prop := σ1 8 (48 + 2 * s) = σ 8 (48 + 2 * s) ∧ σ1 8 (49 + 2 * s) = σ 8 (49 + 2 * s) ∧ σ1 3 s 2 = σ 3 s 2
theorem cfr.rfl {s : Nat} {σ : iM} : cfr s σ σ := fun _ _ _ _ => Eq.refl _
theorem cfr.trans {s : Nat} {σ σ1 σ2 : iM} (h1 : cfr s σ σ1) (h2 : cfr s σ1 σ2) : cfr s σ σ2 := fun k i j a => (h2 k i j a).trans (h1 k i j a)
theorem cfr.U {s k i j : Nat} {x : Int32} {σ σ0 : iM} (h0 : cfr s σ0 σ) (h : own s k i) : cfr s σ0 (iU σ k i j x) := fun k' i' j' a => by
  rw [iU_ne (by rintro ⟨rfl, rfl, -⟩; exact a h)]
  exact h0 k' i' j' a
theorem cfr.C {s : Nat} {σ : iM} {a b : Row} {n : Int32} : cfr s σ (mC σ s a b n) := fun k i j h => by
  simp only [mC]
  unfold own at h
  rw [if_neg (by omega), if_neg (by omega), if_neg (by omega)]
theorem csm.rfl {s : Nat} {σ : iM} : csm s σ σ := ⟨Eq.refl _, Eq.refl _, Eq.refl _⟩
theorem csm.trans {s : Nat} {σ σ1 σ2 : iM} (h1 : csm s σ σ1) (h2 : csm s σ1 σ2) : csm s σ σ2 := ⟨h2.1.trans h1.1, h2.2.1.trans h1.2.1, h2.2.2.trans h1.2.2⟩
theorem csm.U {s k i j : Nat} {x : Int32} {σ σ0 : iM} (h0 : csm s σ0 σ) (h : k ≠ 8 ∧ k ≠ 3) : csm s σ0 (iU σ k i j x) := by
  refine ⟨?_, ?_, ?_⟩
  · rw [← h0.1]; funext j; exact iU_ne (by omega)
  · rw [← h0.2.1]; funext j; exact iU_ne (by omega)
  · rw [← h0.2.2]; exact iU_ne (by omega)
theorem oP_eq {r r' : Row} {i : Nat} (hf : rO r' i 0 = rO r i 0) : oP r' i = oP r i := by show nn (rO r' i 0) = nn (rO r i 0); rw [hf]
theorem oK_eq {r r' : Row} {i : Nat} (hf : rO r' i 4 = rO r i 4) : oK r' i = oK r i := by show nn (rO r' i 4) = nn (rO r i 4); rw [hf]
theorem bef_eq {r r' : Row} (hs : samB r r') {i : Nat} (hp : oP r i < 6) (h0 : rO r' i 0 = rO r i 0) (h3 : rO r' i 3 = rO r i 3) (h4 : rO r' i 4 = rO r i 4) (h6 : rO r' i 6 = rO r i 6) : bef r' i ↔ bef r i := by
  unfold bef opn
  rw [oP_eq h0, hs.ds hp, h3, h4, h6]
theorem wk_eq {r r' : Row} (hs : samB r r') {i : Nat} (hp : oP r i < 6) (hd : dS r (oP r i) < 6) (h0 : rO r' i 0 = rO r i 0) (h1 : rO r' i 1 = rO r i 1) : wk r' i = wk r i := by
  unfold wk
  rw [oP_eq h0, hs.ds hp, h1, hs.pt hp hd]
theorem dbg_eq {r r' : Row} {i : Nat} (hb : bef r' i ↔ bef r i) (h3 : rO r' i 3 = rO r i 3) (h10 : rO r' i 10 = rO r i 10) : dbg r' i = dbg r i := by
  unfold dbg
  by_cases h : rO r i 3 = 0 ∨ rO r i 3 = 3 ∨ bef r i
  · rw [if_pos h, if_pos (by rw [h3, hb]; exact h)]
  · rw [if_neg h, if_neg (by rw [h3, hb]; exact h), h10]
theorem ShO.same {σ σ1 : iM} {s : Nat} {r r' : Row} {i : Nat} (h : ShO σ s r i) (hs : samB r r') (hp : oP r i < 6) (hd : dS r (oP r i) < 6) (hc : ∀ w, w < 14 → σ1 0 (24 * s + i) w = σ 0 (24 * s + i) w) (hf : ∀ w, w < 14 → rO r' i w = rO r i w) : ShO σ1 s r' i := by
  have hb := bef_eq hs hp (hf 0 (by omega)) (hf 3 (by omega)) (hf 4 (by omega)) (hf 6 (by omega))
  unfold ShO at h ⊢
  rw [hc 0 (by omega), hc 1 (by omega), hc 2 (by omega), hc 3 (by omega), hc 4 (by omega), hc 5 (by omega), hc 6 (by omega), hc 7 (by omega), hc 8 (by omega), hc 9 (by omega), hc 10 (by omega), hc 11 (by omega), hc 12 (by omega), hc 13 (by omega)]
  rw [hf 0 (by omega), hf 1 (by omega), hf 2 (by omega), hf 3 (by omega), hf 4 (by omega), hf 5 (by omega), hf 7 (by omega), hf 8 (by omega), hf 9 (by omega), hf 11 (by omega), hf 12 (by omega), hf 13 (by omega)]
  rw [wk_eq hs hp hd (hf 0 (by omega)) (hf 1 (by omega)), dbg_eq hb (hf 3 (by omega)) (hf 10 (by omega))]
  exact h
theorem ShS.same {σ σ1 : iM} {s : Nat} {r r' : Row} (h : ShS σ s r) (hc : ∀ j, σ1 4 s j = σ 4 s j) (hf : ∀ n, n ≤ 10 → r' n = r n) : ShS σ1 s r' := by
  unfold ShS at h ⊢
  rw [hc, hc, hc, hc, hc, hc, hc, hc, hc, hc, hc, hf 1 (by omega), hf 3 (by omega), hf 4 (by omega), hf 2 (by omega), hf 5 (by omega), hf 6 (by omega), hf 7 (by omega), hf 8 (by omega), hf 9 (by omega), hf 0 (by omega), hf 10 (by omega)]
  exact h
theorem ShQ.same {σ σ1 : iM} {s : Nat} {r r' : Row} {q : Nat} (h : ShQ σ s r q) (hc : ∀ j, j ≠ 4 → σ1 5 (6 * s + q) j = σ 5 (6 * s + q) j) (hf : ∀ w, w < 7 → rS r' q w = rS r q w) (h4 : σ1 5 (6 * s + q) 4 = nI (wtC r' q)) : ShQ σ1 s r' q := by
  unfold ShQ at h ⊢
  rw [hc 0 (by omega), hc 1 (by omega), hc 2 (by omega), hc 3 (by omega), hc 5 (by omega), hc 6 (by omega), hc 7 (by omega), hf 0 (by omega), hf 1 (by omega), hf 2 (by omega), hf 3 (by omega), hf 4 (by omega), hf 5 (by omega), hf 6 (by omega)]
  exact ⟨h.1, h.2.1, h.2.2.1, h.2.2.2.1, h4, h.2.2.2.2.2.1, h.2.2.2.2.2.2.1, h.2.2.2.2.2.2.2⟩
theorem Sh.of {m : Nat → Prop} {σ σ1 : iM} {s : Nat} {r r' : Row} (h : Sh σ s r) (hr : RIg m r) (hs4 : s < 4) (hs : samB r r') (hf : cfr s σ σ1) (hS : ShS σ1 s r') (hQ : ∀ q, q < SC r → ShQ σ1 s r' q) (hO : ∀ i, i < OM r → ShO σ1 s r' i) : Sh σ1 s r' := by
  have hpm := hr.pm.2
  refine ⟨hS, fun q hq => hQ q (by rw [← hs.sc]; exact hq), fun p hp => ?_, fun i hi => hO i (by rw [← hs.om]; exact hi)⟩
  rw [hs.pm] at hp
  obtain ⟨h1, h2, h3⟩ := h.2.2.1 p hp
  have hn := (hr.prd hp).n
  unfold ShP
  rw [hs.pn (by omega), hs.ds (by omega), hs.sn (by omega), hf 1 _ _ (by unfold own; omega), hf 1 _ _ (by unfold own; omega)]
  refine ⟨h1, h2, fun k hk => ?_⟩
  rw [hs.ps (by omega) (by omega), hs.pt (by omega) (by omega), hf 8 _ _ (by unfold own; omega), hf 8 _ _ (by unfold own; omega)]
  exact h3 k hk
theorem wts_eq {r r' : Row} (hs : samB r r') {i q : Nat} (hp : oP r i < 6) (hk : rO r i 3 = 1 → oK r i < 6) (h0 : rO r' i 0 = rO r i 0) (h3 : rO r' i 3 = rO r i 3) (h4 : rO r' i 4 = rO r i 4) (h6 : rO r' i 6 = rO r i 6) : wts r' i q ↔ wts r i q := by
  unfold wts
  rw [h3, h6, oP_eq h0, oK_eq h4]
  constructor
  · rintro ⟨a, b, c⟩
    rw [hs.ps hp (hk a)] at c
    exact ⟨a, b, c⟩
  · rintro ⟨a, b, c⟩
    rw [← hs.ps hp (hk a)] at c
    exact ⟨a, b, c⟩
theorem wtC_upd {r r' : Row} (hom : OM r' = OM r) {x : Nat} (hx : x < OM r) (q : Nat) (hne : ∀ j, j < OM r → j ≠ x → (wts r' j q ↔ wts r j q)) : wtC r' q + (if wts r x q then 1 else 0) = wtC r q + (if wts r' x q then 1 else 0) := by
  have h := fb_ct_upd (fun i => decide (wts r i q)) (decide (wts r' x q)) hx
  have e : fb_ct (fun k => if k = x then decide (wts r' x q) else decide (wts r k q)) (OM r) = wtC r' q := by
    unfold wtC
    rw [hom]
    refine fb_ct_cong (fun k hk => ?_)
    by_cases e : k = x
    · rw [if_pos e, e]
    · rw [if_neg e]; exact decide_eq_decide.mpr (hne k hk e).symm
  rw [e] at h
  simp only [decide_eq_true_eq] at h
  exact h
theorem wtC_eq {r r' : Row} (hom : OM r' = OM r) (q : Nat) (hne : ∀ j, j < OM r → (wts r' j q ↔ wts r j q)) : wtC r' q = wtC r q := by
  unfold wtC
  rw [hom]
  exact fb_ct_cong (fun k hk => decide_eq_decide.mpr (hne k hk))
theorem wtC_le {m : Nat → Prop} {r : Row} (hr : RIg m r) (q : Nat) : wtC r q ≤ 24 := Nat.le_trans (fb_ct_le _ _) hr.om.2
/-- cells of orders and stations -/
theorem U00 {σ : iM} {s x i w w' : Nat} {v : Int32} (h : i ≠ x ∨ w' ≠ w) : iU σ 0 (24 * s + x) w v 0 (24 * s + i) w' = σ 0 (24 * s + i) w' := iU_ne (by omega)
theorem U55 {σ : iM} {s x i w w' : Nat} {v : Int32} (h : i ≠ x ∨ w' ≠ w) : iU σ 5 (6 * s + x) w v 5 (6 * s + i) w' = σ 5 (6 * s + i) w' := iU_ne (by omega)
theorem Ukk {σ : iM} {k k' i i' w w' : Nat} {v : Int32} (h : k' ≠ k) : iU σ k i w v k' i' w' = σ k' i' w' := iU_ne (by omega)
section AR
variable {σ : iM} {s : Nat}
theorem c_stationRaw (hs4 : s < 4) {X p k : Nat} (h0 : σ 0 X 0 = nI p) (hp : p < 6) (h6 : σ 0 X 6 = nI k) (hk : k < 6) : Ev mX4_stationOf [.inr (4, s), .inr (0, X)] σ (evi (σ 8 (2 * (6 * s + p)) k) σ) := by
  show At mX4_stationOf 0 [some (.inr (4, s)), some (.inr (0, X))] [] σ _
  refine At.N rfl (by rw [h0]; exact v13 s _ hp) ?_
  rw [h0, nI_clamp (by omega)]
  refine At.N rfl (by rw [h6, (iN_p s p hs4 hp).1]; exact vin hk (by omega)) ?_
  rw [h6, nI_clamp (by omega)]
  exact At.R rfl
def arrU (σ : iM) (s X k q : Nat) : iM := iU (iU (iU σ 0 X 6 (nI k)) 0 X 8 (σ 4 s 13)) 5 (6 * s + q) 4 (σ 5 (6 * s + q) 4 + 1)
theorem c_arrive (hs4 : s < 4) {X p k q : Nat} (h0 : σ 0 X 0 = nI p) (hp : p < 6) (hk : k < 6) (hq : σ 8 (2 * (6 * s + p)) k = nI q) (hq6 : q < 6) : Ev mX4_arrive [.inr (4, s), .inr (0, X), .inl (nI k)] σ (evv (arrU σ s X k q)) := by
  show At mX4_arrive 0 [some (.inr (4, s)), some (.inr (0, X)), some (.inl (nI k))] [] σ _
  have e1 : iU σ 0 X 6 (nI k) 4 s 13 = σ 4 s 13 := Ukk (by omega)
  have hst := c_stationRaw (σ := iU (iU σ 0 X 6 (nI k)) 0 X 8 (iU σ 0 X 6 (nI k) 4 s 13)) hs4 (X := X) (p := p) (k := k) (by rw [iU_ne (by omega), iU_ne (by omega)]; exact h0) hp (by rw [iU_ne (by omega), iU_same]) hk
  refine At.Ci rfl (hst) ?_
  rw [Ukk (by omega), Ukk (by omega), hq]
  refine At.N rfl (v15 s q hq6) ?_
  rw [nI_clamp (by omega)]
  have e2 : arrU σ s X k q = iU (iU (iU σ 0 X 6 (nI k)) 0 X 8 (iU σ 0 X 6 (nI k) 4 s 13)) 5 (6 * s + q) 4 (iU (iU σ 0 X 6 (nI k)) 0 X 8 (iU σ 0 X 6 (nI k) 4 s 13) 5 (6 * s + q) 4 + 1) := by
    unfold arrU
    rw [Ukk (k := 0) (k' := 5) (by omega), Ukk (k := 0) (k' := 5) (by omega), e1]
  rw [e2]
  exact At.R rfl
end AR
