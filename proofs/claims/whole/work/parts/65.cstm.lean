/-! ===== the class reads statements (written by mk65.py) ===== -/
section TOPS
variable {σ : iM} {s : Nat} {r : Row}
theorem Sh.t5 {m : Nat → Prop} (h : Sh σ s r) (hr : RIg m r) (hs4 : s < 4) (v : Int32) : Sh (iU σ 4 s 8 v) s (upd r 5 v) := by
  have h1 := h.1
  refine h.top hr hs4 (fun n hn => upd_ne' (by omega)) ?_ (fun k i j hk => iU_ne (by omega))
  unfold ShS at h1 ⊢
  rw [iU_same, upd_eq', iU_ne (by omega), iU_ne (by omega), iU_ne (by omega), iU_ne (by omega), iU_ne (by omega), iU_ne (by omega), iU_ne (by omega), iU_ne (by omega), iU_ne (by omega), iU_ne (by omega), upd_ne' (by omega), upd_ne' (by omega), upd_ne' (by omega), upd_ne' (by omega), upd_ne' (by omega), upd_ne' (by omega), upd_ne' (by omega), upd_ne' (by omega), upd_ne' (by omega), upd_ne' (by omega)]
  exact ⟨h1.1, h1.2.1, h1.2.2.1, h1.2.2.2.1, rfl, h1.2.2.2.2.2.1, h1.2.2.2.2.2.2.1, h1.2.2.2.2.2.2.2.1, h1.2.2.2.2.2.2.2.2.1, h1.2.2.2.2.2.2.2.2.2.1, h1.2.2.2.2.2.2.2.2.2.2⟩
theorem RIg.t5 {m : Nat → Prop} (hr : RIg m r) {v : Int32} (hv : inR v 1 500) : RIg m (upd r 5 v) := by
  obtain ⟨a0, a1, a2, a3, a4, a5, a6, a7, a8, a9, -⟩ := id hr
  exact hr.top (fun n hn => upd_ne' (by omega)) (inR.eq (upd_ne' (by omega)) a0) (inR.eq upd_eq' hv) (inR.eq (upd_ne' (by omega)) a6) (inR.eq (upd_ne' (by omega)) a7) (inR.eq (upd_ne' (by omega)) a8) (inR.eq (upd_ne' (by omega)) a9)
theorem Sh.t6 {m : Nat → Prop} (h : Sh σ s r) (hr : RIg m r) (hs4 : s < 4) (v : Int32) : Sh (iU σ 4 s 9 v) s (upd r 6 v) := by
  have h1 := h.1
  refine h.top hr hs4 (fun n hn => upd_ne' (by omega)) ?_ (fun k i j hk => iU_ne (by omega))
  unfold ShS at h1 ⊢
  rw [iU_same, upd_eq', iU_ne (by omega), iU_ne (by omega), iU_ne (by omega), iU_ne (by omega), iU_ne (by omega), iU_ne (by omega), iU_ne (by omega), iU_ne (by omega), iU_ne (by omega), iU_ne (by omega), upd_ne' (by omega), upd_ne' (by omega), upd_ne' (by omega), upd_ne' (by omega), upd_ne' (by omega), upd_ne' (by omega), upd_ne' (by omega), upd_ne' (by omega), upd_ne' (by omega), upd_ne' (by omega)]
  exact ⟨h1.1, h1.2.1, h1.2.2.1, h1.2.2.2.1, h1.2.2.2.2.1, rfl, h1.2.2.2.2.2.2.1, h1.2.2.2.2.2.2.2.1, h1.2.2.2.2.2.2.2.2.1, h1.2.2.2.2.2.2.2.2.2.1, h1.2.2.2.2.2.2.2.2.2.2⟩
theorem RIg.t6 {m : Nat → Prop} (hr : RIg m r) {v : Int32} (hv : inR v 1 500) : RIg m (upd r 6 v) := by
  obtain ⟨a0, a1, a2, a3, a4, a5, a6, a7, a8, a9, -⟩ := id hr
  exact hr.top (fun n hn => upd_ne' (by omega)) (inR.eq (upd_ne' (by omega)) a0) (inR.eq (upd_ne' (by omega)) a5) (inR.eq upd_eq' hv) (inR.eq (upd_ne' (by omega)) a7) (inR.eq (upd_ne' (by omega)) a8) (inR.eq (upd_ne' (by omega)) a9)
theorem Sh.t9 {m : Nat → Prop} (h : Sh σ s r) (hr : RIg m r) (hs4 : s < 4) (v : Int32) : Sh (iU σ 4 s 12 v) s (upd r 9 v) := by
  have h1 := h.1
  refine h.top hr hs4 (fun n hn => upd_ne' (by omega)) ?_ (fun k i j hk => iU_ne (by omega))
  unfold ShS at h1 ⊢
  rw [iU_same, upd_eq', iU_ne (by omega), iU_ne (by omega), iU_ne (by omega), iU_ne (by omega), iU_ne (by omega), iU_ne (by omega), iU_ne (by omega), iU_ne (by omega), iU_ne (by omega), iU_ne (by omega), upd_ne' (by omega), upd_ne' (by omega), upd_ne' (by omega), upd_ne' (by omega), upd_ne' (by omega), upd_ne' (by omega), upd_ne' (by omega), upd_ne' (by omega), upd_ne' (by omega), upd_ne' (by omega)]
  exact ⟨h1.1, h1.2.1, h1.2.2.1, h1.2.2.2.1, h1.2.2.2.2.1, h1.2.2.2.2.2.1, h1.2.2.2.2.2.2.1, h1.2.2.2.2.2.2.2.1, rfl, h1.2.2.2.2.2.2.2.2.2.1, h1.2.2.2.2.2.2.2.2.2.2⟩
theorem RIg.t9 {m : Nat → Prop} (hr : RIg m r) {v : Int32} (hv : inR v 0 1) : RIg m (upd r 9 v) := by
  obtain ⟨a0, a1, a2, a3, a4, a5, a6, a7, a8, a9, -⟩ := id hr
  exact hr.top (fun n hn => upd_ne' (by omega)) (inR.eq (upd_ne' (by omega)) a0) (inR.eq (upd_ne' (by omega)) a5) (inR.eq (upd_ne' (by omega)) a6) (inR.eq (upd_ne' (by omega)) a7) (inR.eq (upd_ne' (by omega)) a8) (inR.eq upd_eq' hv)
theorem RIg.set5 {m : Nat → Prop} (hr : RIg m r) {q : Nat} (hq : q < SC r) {v : Int32} (hv : inR v 0 50) : RIg m (upd r (11 + 7 * q + 5) v) := by
  have hsc := hr.sc
  have hpm := hr.pm
  have hom := hr.om
  have e : ∀ n, n ≠ 11 + 7 * q + 5 → upd r (11 + 7 * q + 5) v n = r n := fun n hn => upd_ne' hn
  have hs : sam1 r (upd r (11 + 7 * q + 5) v) := ⟨e _ (by omega), e _ (by omega), fun n a b => e _ (by omega)⟩
  have eom : OM (upd r (11 + 7 * q + 5) v) = OM r := by unfold OM; rw [e _ (by omega)]
  have epm : PM (upd r (11 + 7 * q + 5) v) = PM r := by unfold PM; rw [e _ (by omega)]
  obtain ⟨a0, a1, a2, a3, a4, a5, a6, a7, a8, a9, -⟩ := id hr
  refine hr.of1 hs (inR.eq (e _ (by omega)) a0) (inR.eq (e _ (by omega)) a3) (inR.eq (e _ (by omega)) a4) (inR.eq (e _ (by omega)) a5) (inR.eq (e _ (by omega)) a6) (inR.eq (e _ (by omega)) a7) (inR.eq (e _ (by omega)) a8) (inR.eq (e _ (by omega)) a9) (fun p hp hp2 => by omega) (fun i hi => ?_) (fun q' hq' => ?_)
  · exact hr.oS (by omega) hs (by omega) (fun w _ => e _ (by omega)) (fun q' _ => e _ (by omega))
  · have h2 := hr.sta hq'
    refine h2.same1 hr hs (by omega) (e _ (by omega)) (inR.eq (e _ (by omega)) h2.1) ?_ (fun hne w hw => e _ (by omega))
    by_cases c : q' = q
    · subst c; exact inR.eq upd_eq' hv
    · exact inR.eq (e _ (by omega)) h2.2.1
theorem Sh.set5 {m : Nat → Prop} (h : Sh σ s r) (hr : RIg m r) {q : Nat} (hq : q < SC r) (v : Int32) : Sh (iU σ 5 (6 * s + q) 0 v) s (upd r (11 + 7 * q + 5) v) := by
  have hsc := hr.sc
  have hpm := hr.pm
  have e : ∀ n, n ≠ 11 + 7 * q + 5 → upd r (11 + 7 * q + 5) v n = r n := fun n hn => upd_ne' hn
  have hs : sam1 r (upd r (11 + 7 * q + 5) v) := ⟨e _ (by omega), e _ (by omega), fun n a b => e _ (by omega)⟩
  have eom : OM (upd r (11 + 7 * q + 5) v) = OM r := by unfold OM; rw [e _ (by omega)]
  have epm : PM (upd r (11 + 7 * q + 5) v) = PM r := by unfold PM; rw [e _ (by omega)]
  refine h.of1 hr hs (fun p hp => ⟨fun j => Ukk (by omega), fun j => Ukk (by omega), fun j => Ukk (by omega)⟩) (h.1.same (fun j => Ukk (by omega)) (fun n hn => e _ (by omega))) (fun q' hq' => ?_) (fun p hp hp2 => by omega) (fun i hi => ?_)
  · have h2 := h.2.1 q' hq'
    have hwt := wtC_same hr hs eom q' (fun i w _ _ => e _ (by omega))
    by_cases c : q' = q
    · subst c
      have f : ∀ w, w ≠ 5 → w < 7 → rS (upd r (11 + 7 * q' + 5) v) q' w = rS r q' w := fun w hw _ => e _ (by omega)
      have c : ∀ w, w ≠ 0 → iU σ 5 (6 * s + q') 0 v 5 (6 * s + q') w = σ 5 (6 * s + q') w := fun w hw => iU_ne (by omega)
      unfold ShQ at h2 ⊢
      rw [c 1 (by omega), c 2 (by omega), c 3 (by omega), c 4 (by omega), c 5 (by omega), c 6 (by omega), c 7 (by omega), f 0 (by omega) (by omega), f 1 (by omega) (by omega), f 2 (by omega) (by omega), f 3 (by omega) (by omega), f 4 (by omega) (by omega), f 6 (by omega) (by omega), hwt]
      exact ⟨by rw [iU_same]; exact upd_eq'.symm, h2.2⟩
    · refine h2.same (fun j _ => iU_ne (by omega)) (fun w hw => e _ (by omega)) ?_
      rw [iU_ne (by omega), h2.2.2.2.2.1, hwt]
  · exact h.ordS hr hs (by omega) (fun w _ => Ukk (by omega)) (fun w _ => e _ (by omega))
end TOPS
/-- what the class's reading may change; and while nothing has failed no statement is told -/
def cfL (σ σ1 : iM) : Prop := (∀ k i j, ¬ ow2 1 k i → ¬ (k = 2 ∧ i = 0 ∧ 2 ≤ j ∧ j ≤ 6) → ¬ (k = 8 ∧ i = 57) → σ1 k i j = σ k i j) ∧ (σ1 2 0 2 = 0 → σ1 2 0 4 = -1)
section CFL
variable {σ σ1 σ2 : iM}
theorem cfL.rfl (h : σ 2 0 4 = -1) : cfL σ σ := ⟨fun _ _ _ _ _ _ => Eq.refl _, fun _ => h⟩
theorem cfL.c2 (h1 : cfL σ σ1) (h2 : cf2 1 σ1 σ2) : cfL σ σ2 := ⟨fun k i j a b c => (h2 k i j a).trans (h1.1 k i j a b c), fun z => by
  rw [h2 2 0 2 (by unfold ow2 own; omega)] at z
  rw [h2 2 0 4 (by unfold ow2 own; omega)]
  exact h1.2 z⟩
theorem cfL.Uk (h : cfL σ σ1) {k i j : Nat} {x : Int32} (hk : k ≠ 2) (ha : ow2 1 k i ∨ (k = 8 ∧ i = 57)) : cfL σ (iU σ1 k i j x) := ⟨fun k' i' j' a b c => (iU_ne (fun z => by
    rcases ha with ha | ha
    · exact a (by rw [z.1, z.2.1]; exact ha)
    · exact c ⟨z.1.trans ha.1, z.2.1.trans ha.2⟩)).trans (h.1 k' i' j' a b c), fun z => by
  rw [iU_ne (by omega)] at z ⊢
  exact h.2 z⟩
theorem cfL.U2 (h : cfL σ σ1) {j : Nat} {x : Int32} (hj : 3 ≤ j ∧ j ≤ 6 ∧ j ≠ 4) : cfL σ (iU σ1 2 0 j x) := ⟨fun k i j' a b c => (iU_ne (by omega)).trans (h.1 k i j' a b c), fun z => by
  rw [iU_ne (by omega)] at z ⊢
  exact h.2 z⟩
theorem cfL.U4 (h : cfL σ σ1) {j : Nat} {x : Int32} : cfL σ (iU σ1 4 1 j x) := h.Uk (by omega) (Or.inl (by unfold ow2 own; omega))
theorem cfL.U5 (h : cfL σ σ1) {q j : Nat} {x : Int32} (hq : q < 6) : cfL σ (iU σ1 5 (6 * 1 + q) j x) := h.Uk (by omega) (Or.inl (by unfold ow2 own; omega))
theorem cfL.U57 (h : cfL σ σ1) {j : Nat} {x : Int32} : cfL σ (iU σ1 8 57 j x) := h.Uk (by omega) (Or.inr ⟨Eq.refl _, Eq.refl _⟩)
theorem cfL.F (h : cfL σ σ1) {k : Int32} {q : Nat} (hk : ¬ k = 0) : cfL σ (flU σ1 k q) := ⟨fun k' i j a b c => by
  unfold flU
  rw [iU_ne (by omega), iU_ne (by omega), iU_ne (by omega)]
  exact h.1 k' i j a b c, fun z => by
  unfold flU at z
  rw [iU_ne (by omega), iU_ne (by omega), iU_same] at z
  exact absurd z hk⟩
end CFL
/-- reading has failed -/
def ER (σ σ1 : iM) (T : Row) (n st : Nat) (k : Int32) (q : Nat) : Prop := σ1 2 0 2 = k ∧ ¬ k = 0 ∧ σ1 2 0 3 = nI q ∧ σ1 2 0 4 = nI st ∧ (∃ b, RC σ1 T n b) ∧ cfL σ σ1
/-- reading goes on -/
def OKc (σ σ1 : iM) (T : Row) (n a st : Nat) (r so : Row) : Prop := RC σ1 T n a ∧ σ1 2 0 2 = 0 ∧ σ1 2 0 6 = nI st ∧ Sh σ1 1 r ∧ (∀ i, i < OM r → σ1 8 57 i = so i) ∧ cfL σ σ1
def OUc (σ σ1 : iM) (T : Row) (n st : Nat) : Out → Prop
  | .inl (k, q) => ER σ σ1 T n st k q
  | .inr (a, r, so) => OKc σ σ1 T n a st r so
section CRD
variable {σ σ0 : iM} {T : Row} {n a b st : Nat} {r so : Row}
theorem fl_2 {k : Int32} {q : Nat} : flU σ k q 2 0 2 = k := by unfold flU; rw [iU_ne (by omega), iU_ne (by omega), iU_same]
theorem RC.fl (h : RC σ T n a) {k : Int32} {q : Nat} : RC (flU σ k q) T n a := ((h.U (by omega)).U (by omega)).U (by omega)
theorem ER.mk {k : Int32} {q : Nat} (h : RC σ T n a) (hk : ¬ k = 0) (h6 : σ 2 0 6 = nI st) (hf : cfL σ0 σ) : ER σ0 (flU σ k q) T n st k q := by
  refine ⟨fl_2, hk, ?_, ?_, ⟨_, h.fl⟩, hf.F hk⟩
  · unfold flU; rw [iU_ne (by omega), iU_same]
  · unfold flU; rw [iU_same, h6]
theorem ER.U {σ1 : iM} {k : Int32} {q : Nat} (h : ER σ0 σ1 T n st k q) {k' i j : Nat} {x : Int32} (hk : k' ≠ 2 ∧ ¬ (k' = 8 ∧ i = 56)) (hf : cfL σ0 (iU σ1 k' i j x)) : ER σ0 (iU σ1 k' i j x) T n st k q := by
  obtain ⟨h1, h2, h3, h4, ⟨b, h5⟩, h6⟩ := h
  exact ⟨by rw [iU_ne (by omega)]; exact h1, h2, by rw [iU_ne (by omega)]; exact h3, by rw [iU_ne (by omega)]; exact h4, ⟨b, h5.U (by omega)⟩, hf⟩
theorem ER.ne {σ1 : iM} {k : Int32} {q : Nat} (h : ER σ0 σ1 T n st k q) : ¬ σ1 2 0 2 = 0 := by rw [h.1]; exact h.2.1
theorem OKc.at {b : Nat} (h : OKc σ0 σ T n a st r so) (hr : RI r) (hb : b ≤ n) : OKc σ0 (iU σ 2 0 5 (nI b)) T n b st r so := by
  obtain ⟨h1, h2, h3, h4, h5, h6⟩ := h
  refine ⟨h1.at hb, by rw [iU_ne (by omega)]; exact h2, by rw [iU_ne (by omega)]; exact h3, ?_, fun i hi => by rw [iU_ne (by omega)]; exact h5 i hi, h6.U2 (by omega)⟩
  exact h4.cell hr (fun j => iU_ne (by omega)) (fun q j hq => iU_ne (by omega)) (fun q j hq => iU_ne (by omega)) (fun q j hq => iU_ne (by omega)) (fun q j hq => iU_ne (by omega))
/-- a number is read, or isn't -/
theorem c_num (h : OKc σ0 σ T n a st r so) (hr : RI r) {lo hi : Int32} (hlo : 0 ≤ lo.toInt) (hhi : hi.toInt ≤ 30000) :
    (∃ V b, nmb T n lo.toInt hi.toInt a = .inr (V, b) ∧ lo.toInt ≤ (V : Int) ∧ (V : Int) ≤ hi.toInt ∧ Ev mX2_readNumber [Rc, .inl lo, .inl hi] σ (evi (nI V) (iU σ 2 0 5 (nI b))) ∧ OKc σ0 (iU σ 2 0 5 (nI b)) T n b st r so) ∨
    (∃ k q σ1, nmb T n lo.toInt hi.toInt a = .inl (k, q) ∧ Ev mX2_readNumber [Rc, .inl lo, .inl hi] σ (evi (-1) σ1) ∧ ER σ0 σ1 T n st k q) := by
  have hc := c_rn h.1 h.2.1 hlo hhi
  have h4 := h.1.2.2.2.1
  have hA : a ≤ nmA T n a ∧ nmA T n a ≤ n ∧ ¬ (nmA T n a < n ∧ isSp (T (nmA T n a)) = true) := sc_b h4
  have hE : nmA T n a ≤ nmE T n a ∧ nmE T n a ≤ n ∧ ¬ (nmE T n a < n ∧ isDg (T (nmE T n a)) = true) := sc_b hA.2.1
  rcases nmb_b (T := T) (lo := lo.toInt) (hi := hi.toInt) h4 with ⟨V, b, e, e1, e2, e3, e4⟩ | ⟨k, q, e, hk⟩
  · rw [e] at hc
    exact Or.inl ⟨V, b, e, e1, e2, hc, h.at hr e4⟩
  · rw [e] at hc
    exact Or.inr ⟨k, q, _, e, hc, ER.mk (h.1.at hE.2.1) hk (by rw [iU_ne (by omega)]; exact h.2.2.1) (h.2.2.2.2.2.U2 (by omega))⟩
abbrev Y1 : iV := .inr (4, 1)
theorem OKc.Sh' {σ1 : iM} {r' : Row} (h : OKc σ0 σ T n a st r so) (hS : Sh σ1 1 r') (ho : OM r' = OM r) (h2 : ∀ j, σ1 2 0 j = σ 2 0 j) (h56 : ∀ j, σ1 8 56 j = σ 8 56 j) (h57 : ∀ j, σ1 8 57 j = σ 8 57 j) (hf : cfL σ0 σ1) : OKc σ0 σ1 T n a st r' so := by
  obtain ⟨⟨g1, g2, g3, g4, g5⟩, b2, b3, b4, b5, b6⟩ := h
  exact ⟨⟨by rw [h2]; exact g1, g2, by rw [h2]; exact g3, g4, by rw [← g5]; exact funext h56⟩, by rw [h2]; exact b2, by rw [h2]; exact b3, hS, fun i hi => by rw [h57]; exact b5 i (by rw [← ho]; exact hi), hf⟩
theorem OKc.U4 {w j : Nat} {v : Int32} (h : OKc σ0 σ T n a st r so) (hS : Sh (iU σ 4 1 j v) 1 (upd r w v)) (hw : w ≠ 4) : OKc σ0 (iU σ 4 1 j v) T n a st (upd r w v) so :=
  h.Sh' hS (by unfold OM; rw [upd_ne' (by omega)]) (fun j => iU_ne (by omega)) (fun j => iU_ne (by omega)) (fun j => iU_ne (by omega)) h.2.2.2.2.2.U4
theorem c_setting (h : OKc σ0 σ T n b st r so) (hr : RI r) (hb : a ≤ b) (h1 : ¬ isW T a b 1) (h2 : ¬ isW T a b 2) : EvP mX2_readSetting [Rc, Y1, .inl (nI a)] σ (fun z => ∃ σ1, z = evv σ1 ∧ OUc σ0 σ1 T n st (
  if isW T a b 3 then num1 T n 1 500 b (fun b a3 => num1 T n 1 500 a3 (fun s a4 => .inr (a4, upd (upd r 5 (nI b)) 6 (nI s), so)))
  else if isW T a b 4 then num1 T n 1 5000 b (fun b a3 => .inr (a3, upd r 7 (nI b), so))
  else if isW T a b 5 then num1 T n 0 3 b (fun b a3 => .inr (a3, upd r 8 (nI b), so))
  else if isW T a b 6 then num1 T n 0 1 b (fun b a3 => .inr (a3, upd r 9 (nI b), so))
  else if isW T a b 7 then num1 T n 0 ((SC r : Int) - 1) b (fun q a3 => num1 T n 0 50 a3 (fun v a4 => .inr (a4, upd r (11 + 7 * q + 5) (nI v), so)))
  else .inl (1, a))) := by
  have hsc := hr.sc
  have hbn := h.1.2.2.2.1
  have hn := h.1.2.1
  show AtP mX2_readSetting 0 [some Rc, some Y1, some (.inl (nI a))] [] σ _
  refine AtP.Ci rfl (c_isWord h.1 hb (w := 3) (by omega)) ?_
  by_cases c3 : isW T a b 3
  · rw [if_pos c3, if_pos c3]
    refine AtP.Bf rfl (by decide) ?_
    unfold num1
    rcases c_num h hr (lo := 1) (hi := 500) (by decide) (by decide) with ⟨V, d, e, e1, e2, e3, e4⟩ | ⟨k, q, σ1, e, e1, e2⟩
    · rw [show nmb T n 1 500 b = .inr (V, d) from e]
      dsimp only
      refine AtP.Ci rfl (e3) ?_
      have hR := hr.t5 (v := nI V) (inR_n e1 e2 (by have : (500 : Int32).toInt = 500 := rfl; omega))
      have g := e4.U4 (e4.2.2.2.1.t5 hr (by omega) (nI V)) (by omega)
      rcases c_num g hR (lo := 1) (hi := 500) (by decide) (by decide) with ⟨V2, d2, f, f1, f2, f3, f4⟩ | ⟨k, q, σ1, f, f1, f2⟩
      · rw [show nmb T n 1 500 d = .inr (V2, d2) from f]
        refine AtP.Ci rfl (f3) ?_
        refine AtP.J rfl ?_
        exact AtP.R rfl (⟨_, rfl, f4.U4 (f4.2.2.2.1.t6 hR (by omega) (nI V2)) (by omega)⟩)
      · rw [show nmb T n 1 500 d = .inl (k, q) from f]
        refine AtP.Ci rfl (f1) ?_
        refine AtP.J rfl ?_
        exact AtP.R rfl (⟨_, rfl, f2.U (by omega) f2.2.2.2.2.2.U4⟩)
    · rw [show nmb T n 1 500 b = .inl (k, q) from e]
      dsimp only
      refine AtP.Ci rfl (e1) ?_
      have g := e2.U (k' := 4) (i := 1) (j := 8) (x := -1) (by omega) e2.2.2.2.2.2.U4
      refine AtP.Ci rfl (c_rnE g.ne _ _) ?_
      refine AtP.J rfl ?_
      exact AtP.R rfl (⟨_, rfl, g.U (by omega) g.2.2.2.2.2.U4⟩)
  · rw [if_neg c3, if_neg c3]
    refine AtP.Bt rfl (rfl) ?_
    refine AtP.Ci rfl (c_isWord h.1 hb (w := 4) (by omega)) ?_
    by_cases c4 : isW T a b 4
    · rw [if_pos c4, if_pos c4]
      refine AtP.Bf rfl (by decide) ?_
      unfold num1
      rcases c_num h hr (lo := 1) (hi := 5000) (by decide) (by decide) with ⟨V, d, e, e1, e2, e3, e4⟩ | ⟨k, q, σ1, e, e1, e2⟩
      · rw [show nmb T n 1 5000 b = .inr (V, d) from e]
        refine AtP.Ci rfl (e3) ?_
        refine AtP.J rfl ?_
        exact AtP.R rfl (⟨_, rfl, e4.U4 (e4.2.2.2.1.rope hr (by omega) (nI V)) (by omega)⟩)
      · rw [show nmb T n 1 5000 b = .inl (k, q) from e]
        refine AtP.Ci rfl (e1) ?_
        refine AtP.J rfl ?_
        exact AtP.R rfl (⟨_, rfl, e2.U (by omega) e2.2.2.2.2.2.U4⟩)
    · rw [if_neg c4, if_neg c4]
      refine AtP.Bt rfl (rfl) ?_
      refine AtP.Ci rfl (c_isWord h.1 hb (w := 5) (by omega)) ?_
      by_cases c5 : isW T a b 5
      · rw [if_pos c5, if_pos c5]
        refine AtP.Bf rfl (by decide) ?_
        unfold num1
        rcases c_num h hr (lo := 0) (hi := 3) (by decide) (by decide) with ⟨V, d, e, e1, e2, e3, e4⟩ | ⟨k, q, σ1, e, e1, e2⟩
        · rw [show nmb T n 0 3 b = .inr (V, d) from e]
          refine AtP.Ci rfl (e3) ?_
          refine AtP.J rfl ?_
          exact AtP.R rfl (⟨_, rfl, e4.U4 (e4.2.2.2.1.rule hr (by omega) (nI V)) (by omega)⟩)
        · rw [show nmb T n 0 3 b = .inl (k, q) from e]
          refine AtP.Ci rfl (e1) ?_
          refine AtP.J rfl ?_
          exact AtP.R rfl (⟨_, rfl, e2.U (by omega) e2.2.2.2.2.2.U4⟩)
      · rw [if_neg c5, if_neg c5]
        refine AtP.Bt rfl (rfl) ?_
        refine AtP.Ci rfl (c_isWord h.1 hb (w := 6) (by omega)) ?_
        by_cases c6 : isW T a b 6
        · rw [if_pos c6, if_pos c6]
          refine AtP.Bf rfl (by decide) ?_
          unfold num1
          rcases c_num h hr (lo := 0) (hi := 1) (by decide) (by decide) with ⟨V, d, e, e1, e2, e3, e4⟩ | ⟨k, q, σ1, e, e1, e2⟩
          · rw [show nmb T n 0 1 b = .inr (V, d) from e]
            refine AtP.Ci rfl (e3) ?_
            refine AtP.J rfl ?_
            exact AtP.R rfl (⟨_, rfl, e4.U4 (e4.2.2.2.1.t9 hr (by omega) (nI V)) (by omega)⟩)
          · rw [show nmb T n 0 1 b = .inl (k, q) from e]
            refine AtP.Ci rfl (e1) ?_
            refine AtP.J rfl ?_
            exact AtP.R rfl (⟨_, rfl, e2.U (by omega) e2.2.2.2.2.2.U4⟩)
        · rw [if_neg c6, if_neg c6]
          refine AtP.Bt rfl (rfl) ?_
          refine AtP.Ci rfl (c_isWord h.1 hb (w := 7) (by omega)) ?_
          by_cases c7 : isW T a b 7
          · rw [if_pos c7, if_pos c7]
            refine AtP.Bf rfl (by decide) ?_
            unfold num1
            have key : EvP mX2_readSetup [Rc, Y1] σ (fun z => ∃ σ1, z = evv σ1 ∧ OUc σ0 σ1 T n st (match nmb T n 0 ((SC r : Int) - 1) b with | .inl e => .inl e | .inr (q, a3) => (match nmb T n 0 50 a3 with | .inl e => .inl e | .inr (v, a4) => .inr (a4, upd r (11 + 7 * q + 5) (nI v), so)))) := by
              show AtP mX2_readSetup 0 [some Rc, some Y1, none, none] [] σ _
              have e1m : nI (SC r) - 1 = nI (SC r - 1) := pk_sub (b := 1) (by omega)
              have e1t : (nI (SC r - 1)).toInt = (SC r : Int) - 1 := by rw [nI_toInt (by omega)]; omega
              have esc : σ 4 1 4 = nI (SC r) := h.2.2.2.1.sc hr
              have hz : (0 : Int32).toInt = 0 := rfl
              rcases c_num h hr (lo := 0) (hi := nI (SC r - 1)) (by decide) (by omega) with ⟨V, d, e, e1, e2, e3, e4⟩ | ⟨k, q, σ1, e, e1, e2⟩
              · rw [hz, e1t] at e
                rw [← e1m, ← esc] at e3
                rw [e]
                dsimp only
                refine AtP.Ci rfl (e3) ?_
                rcases c_num e4 hr (lo := 0) (hi := 50) (by decide) (by decide) with ⟨V2, d2, f, f1, f2, f3, f4⟩ | ⟨k, q, σ1, f, f1, f2⟩
                · rw [show nmb T n 0 50 d = .inr (V2, d2) from f]
                  refine AtP.Ci rfl (f3) ?_
                  refine AtP.Bt rfl (f4.2.1) ?_
                  refine AtP.N rfl (v15 1 V (by omega)) ?_
                  rw [nI_clamp (by omega)]
                  exact AtP.R rfl (⟨_, rfl, f4.Sh' (f4.2.2.2.1.set5 hr (q := V) (by omega) (nI V2)) (by unfold OM; rw [upd_ne' (by omega)]) (fun j => iU_ne (by omega)) (fun j => iU_ne (by omega)) (fun j => iU_ne (by omega)) (f4.2.2.2.2.2.U5 (by omega))⟩)
                · rw [show nmb T n 0 50 d = .inl (k, q) from f]
                  refine AtP.Ci rfl (f1) ?_
                  refine AtP.Bf rfl (f2.ne) ?_
                  exact AtP.R rfl (⟨_, rfl, f2⟩)
              · rw [hz, e1t] at e
                rw [← e1m, ← esc] at e1
                rw [e]
                dsimp only
                refine AtP.Ci rfl (e1) ?_
                refine AtP.Ci rfl (c_rnE e2.ne _ _) ?_
                refine AtP.Bf rfl (e2.ne) ?_
                exact AtP.R rfl (⟨_, rfl, e2⟩)
            refine AtP.CvP rfl (key) (fun σ9 h9 => ?_)
            refine AtP.J rfl ?_
            exact AtP.R rfl (⟨_, rfl, h9⟩)
          · rw [if_neg c7, if_neg c7]
            refine AtP.Bt rfl (rfl) ?_
            refine AtP.Cv rfl (c_fail0 h.2.1 1 _) ?_
            exact AtP.R rfl (⟨_, rfl, ER.mk h.1 (by decide) h.2.2.1 h.2.2.2.2.2⟩)
theorem c_rdOrder (h : OKc σ0 σ T n b st r so) (hr : RI r) (hst : st < 2 ^ 31) : EvP mX2_readOrder [Rc, Y1, .inl (nI a)] σ (fun z => ∃ σ1, z = evv σ1 ∧ OUc σ0 σ1 T n st (if OM r = 24 then .inl (4, a) else num1 T n 0 ((PM r : Int) - 1) b (fun p a3 => num1 T n 1 50 a3 (fun q a4 => num1 T n 0 30000 a4 (fun d a5 => .inr (a5, layR r p (nI q) (nI d), upd so (OM r) (nI st))))))) := by
  have hom := hr.om
  have hpm := hr.pm
  have eom : σ 4 1 6 = nI (OM r) := h.2.2.2.1.om hr
  have epm : σ 4 1 5 = nI (PM r) := h.2.2.2.1.1.2.1.trans hpm.1
  show AtP mX2_readOrder 0 [some Rc, some Y1, some (.inl (nI a)), none, none, none] [] σ _
  by_cases c : OM r = 24
  · rw [if_pos c]
    refine AtP.Bf rfl (by rw [eom, c]; decide) ?_
    refine AtP.Cv rfl (c_fail0 h.2.1 4 _) ?_
    exact AtP.R rfl (⟨_, rfl, ER.mk h.1 (by decide) h.2.2.1 h.2.2.2.2.2⟩)
  · have hlt : OM r < 24 := by omega
    rw [if_neg c]
    refine AtP.Bt rfl (by rw [eom]; exact (nI_lt_iff (by omega) (b := 24) (by omega)).mpr hlt) ?_
    unfold num1
    have hz : (0 : Int32).toInt = 0 := rfl
    have h1t : (1 : Int32).toInt = 1 := rfl
    have e1t : (nI (PM r) - 1).toInt = (PM r : Int) - 1 := by rw [fb_subI] <;> rw [nI_toInt (by omega), h1t] <;> omega
    rcases c_num h hr (lo := 0) (hi := nI (PM r) - 1) (by decide) (by omega) with ⟨V, d, e, e1, e2, e3, e4⟩ | ⟨k, q, σ1, e, e1, e2⟩
    · rw [hz, e1t] at e
      rw [← epm] at e3
      rw [e]
      dsimp only
      refine AtP.Ci rfl (e3) ?_
      rcases c_num e4 hr (lo := 1) (hi := 50) (by decide) (by decide) with ⟨V2, d2, f, f1, f2, f3, f4⟩ | ⟨k, q, σ1, f, f1, f2⟩
      · rw [show nmb T n 1 50 d = .inr (V2, d2) from f]
        dsimp only
        refine AtP.Ci rfl (f3) ?_
        rcases c_num f4 hr (lo := 0) (hi := 30000) (by decide) (by decide) with ⟨V3, d3, g, g1, g2, g3, g4⟩ | ⟨k, q, σ1, g, g1, g2⟩
        · rw [show nmb T n 0 30000 d2 = .inr (V3, d3) from g]
          refine AtP.Ci rfl (g3) ?_
          refine AtP.Bt rfl (g4.2.1) ?_
          have eo2 := g4.2.2.2.1.om hr
          refine AtP.N rfl (by rw [eo2]; exact vin (N := iN 8 57) hlt (by show 24 < _; omega)) ?_
          rw [eo2, nI_clamp (by omega), g4.2.2.1]
          generalize hυ : iU (iU (iU σ 2 0 5 (nI d)) 2 0 5 (nI d2)) 2 0 5 (nI d3) = υ at *
          have hS : Sh (iU υ 8 57 (OM r) (nI st)) 1 r := g4.2.2.2.1.cell hr (fun j => iU_ne (by omega)) (fun q j hq => iU_ne (by omega)) (fun q j hq => iU_ne (by omega)) (fun q j hq => iU_ne (by omega)) (fun q j hq => iU_ne (by omega))
          have hV : V < PM r := by omega
          refine AtP.Ci rfl (c_enter hS hr (by omega) hlt hV (nI V2) (nI V3)) ?_
          have ho : ∀ k i j, k ≠ 0 → k ≠ 4 → ¬ (k = 8 ∧ i = 57 ∧ j = OM r) → entU (iU υ 8 57 (OM r) (nI st)) 1 (24 * 1 + OM r) (nI V) (nI V2) (nI V3) (rPt r V (dS r V) * nI V2) (nI (OM r + 1)) k i j = υ k i j := fun k i j x y z => by
            rw [entU_k (by omega) (by omega)]; exact iU_ne z
          obtain ⟨⟨q1, q2, q3, q4, q5⟩, b2, b3, b4, b5, b6⟩ := g4
          refine AtP.R rfl ⟨_, rfl, ⟨?_, q2, ?_, q4, ?_⟩, ?_, ?_, hS.ent hr (by omega) hlt hV (nI V2) (nI V3), fun i hi => ?_, ?_⟩
          · rw [ho _ _ _ (by omega) (by omega) (by omega)]; exact q1
          · rw [ho _ _ _ (by omega) (by omega) (by omega)]; exact q3
          · rw [← q5]; funext j; exact ho _ _ _ (by omega) (by omega) (by omega)
          · rw [ho _ _ _ (by omega) (by omega) (by omega)]; exact b2
          · rw [ho _ _ _ (by omega) (by omega) (by omega)]; exact b3
          · rw [lay_om hom.1 hlt] at hi
            by_cases ei : i = OM r
            · rw [ei, entU_k (by omega) (by omega), iU_same]; exact upd_eq'.symm
            · rw [ho _ _ _ (by omega) (by omega) (by omega), upd_ne' ei]; exact b5 i (by omega)
          · exact b6.U57.c2 (ent_cfr (s := 1) (r := r) hlt).w
        · rw [show nmb T n 0 30000 d2 = .inl (k, q) from g]
          refine AtP.Ci rfl (g1) ?_
          refine AtP.Bf rfl (g2.ne) ?_
          exact AtP.R rfl (⟨_, rfl, g2⟩)
      · rw [show nmb T n 1 50 d = .inl (k, q) from f]
        dsimp only
        refine AtP.Ci rfl (f1) ?_
        refine AtP.Ci rfl (c_rnE f2.ne _ _) ?_
        refine AtP.Bf rfl (f2.ne) ?_
        exact AtP.R rfl (⟨_, rfl, f2⟩)
    · rw [hz, e1t] at e
      rw [← epm] at e1
      rw [e]
      dsimp only
      refine AtP.Ci rfl (e1) ?_
      refine AtP.Ci rfl (c_rnE e2.ne _ _) ?_
      refine AtP.Ci rfl (c_rnE e2.ne _ _) ?_
      refine AtP.Bf rfl (e2.ne) ?_
      exact AtP.R rfl (⟨_, rfl, e2⟩)
end CRD
