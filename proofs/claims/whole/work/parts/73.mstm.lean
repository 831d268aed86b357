/-! ===== the reference reads numbers, steps, products ===== -/
def fm (σ σ1 : iM) : Prop := ∀ k i j, ¬ (k = 7 ∧ i = 0 ∧ 8 ≤ j ∧ j ≤ 12) → ¬ (k = 8 ∧ (i = 59 ∨ i = 62)) → σ1 k i j = σ k i j
section FM
variable {σ σ1 σ2 : iM}
theorem fm.rfl : fm σ σ := fun _ _ _ _ _ => Eq.refl _
theorem fm.trans (h1 : fm σ σ1) (h2 : fm σ1 σ2) : fm σ σ2 := fun k i j a b => (h2 k i j a b).trans (h1 k i j a b)
theorem fm.U7 (h : fm σ σ1) {j : Nat} {x : Int32} (hj : 8 ≤ j ∧ j ≤ 12) : fm σ (iU σ1 7 0 j x) := fun k i j' a b => (iU_ne (by omega)).trans (h k i j' a b)
theorem fm.nx (h : fm σ σ1) {a b : Nat} : fm σ (nxU σ1 a b) := (h.U7 (by omega)).U7 (by omega)
theorem fm.fs (h : fm σ σ1) {k : Int32} {q : Nat} : fm σ (fsU σ1 k q) := (h.U7 (by omega)).U7 (by omega)
theorem fm.R (h : fm σ σ1) {r : Row} : fm σ (mR σ1 59 r) := fun k i j a b => (mR_ne (by omega)).trans (h k i j a b)
theorem fm.U62 (h : fm σ σ1) {j : Nat} {x : Int32} : fm σ (iU σ1 8 62 j x) := fun k i j' a b => (iU_ne (by omega)).trans (h k i j' a b)
end FM
def ERm (σ σ1 : iM) (T : Row) (n st : Nat) (k : Int32) (q : Nat) : Prop := σ1 7 0 10 = k ∧ ¬ k = 0 ∧ σ1 7 0 11 = nI q ∧ σ1 7 0 12 = nI st ∧ fm σ σ1
def OKm (σ σ1 : iM) (T : Row) (n a st : Nat) (r so : Row) : Prop := RM σ1 T n a ∧ σ1 7 0 10 = 0 ∧ σ1 7 0 12 = nI st ∧ σ1 8 59 = r ∧ (∀ i, i < OM r → σ1 8 62 i = so i) ∧ fm σ σ1
def OUm (σ σ1 : iM) (T : Row) (n st : Nat) : Out → Prop
  | .inl (k, q) => ERm σ σ1 T n st k q
  | .inr (a, r, so) => OKm σ σ1 T n a st r so
section MRD
variable {σ σ0 : iM} {T : Row} {n a b st k P : Nat} {r so : Row}
theorem ERm.ne {σ1 : iM} {k : Int32} {q : Nat} (h : ERm σ0 σ1 T n st k q) : ¬ σ1 7 0 10 = 0 := by rw [h.1]; exact h.2.1
theorem ERm.mk {k : Int32} {q : Nat} (hk : ¬ k = 0) (h12 : σ 7 0 12 = nI st) (hf : fm σ0 σ) : ERm σ0 (fsU σ k q) T n st k q := by
  refine ⟨?_, hk, ?_, ?_, hf.fs⟩
  · unfold fsU; rw [iU_ne (by omega), iU_same]
  · unfold fsU; exact iU_same
  · rw [fs_o (by omega)]; exact h12
theorem ERm.R {σ1 : iM} {k : Int32} {q : Nat} (h : ERm σ0 σ1 T n st k q) {r' : Row} : ERm σ0 (mR σ1 59 r') T n st k q := by
  obtain ⟨h1, h2, h3, h4, h5⟩ := h
  exact ⟨by rw [mR_ne (by omega)]; exact h1, h2, by rw [mR_ne (by omega)]; exact h3, by rw [mR_ne (by omega)]; exact h4, h5.R⟩
theorem ERm.U62 {σ1 : iM} {k : Int32} {q : Nat} (h : ERm σ0 σ1 T n st k q) {j : Nat} {x : Int32} : ERm σ0 (iU σ1 8 62 j x) T n st k q := by
  obtain ⟨h1, h2, h3, h4, h5⟩ := h
  exact ⟨by rw [iU_ne (by omega)]; exact h1, h2, by rw [iU_ne (by omega)]; exact h3, by rw [iU_ne (by omega)]; exact h4, h5.U62⟩
theorem OKm.nx {c : Nat} (h : OKm σ0 σ T n a st r so) (hb : b ≤ n) : OKm σ0 (nxU σ b c) T n b st r so := by
  obtain ⟨h1, h2, h3, h4, h5, h6⟩ := h
  exact ⟨h1.nx hb, by rw [nx_o (by omega)]; exact h2, by rw [nx_o (by omega)]; exact h3, by rw [← h4]; funext j; exact nx_o (by omega), fun i hi => by rw [nx_o (by omega)]; exact h5 i hi, h6.nx⟩
theorem OKm.R {r' : Row} (h : OKm σ0 σ T n a st r so) (ho : OM r' = OM r) : OKm σ0 (mR σ 59 r') T n a st r' so := by
  obtain ⟨h1, h2, h3, h4, h5, h6⟩ := h
  exact ⟨h1.R, by rw [mR_ne (by omega)]; exact h2, by rw [mR_ne (by omega)]; exact h3, mR_at, fun i hi => by rw [mR_ne (by omega)]; exact h5 i (by rw [← ho]; exact hi), h6.R⟩
/-- a number is read, or isn't -/
theorem e_nm (h : OKm σ0 σ T n a st r so) {lo hi : Int32} (hlo : 0 ≤ lo.toInt) (hhi : hi.toInt ≤ 30000) :
    (∃ V b, nmb T n lo.toInt hi.toInt a = .inr (V, b) ∧ lo.toInt ≤ (V : Int) ∧ (V : Int) ≤ hi.toInt ∧ Ev mX7_number [M, .inl lo, .inl hi] σ (evi (nI V) (nxU σ b (nmA T n a))) ∧ OKm σ0 (nxU σ b (nmA T n a)) T n b st r so) ∨
    (∃ k q σ1, nmb T n lo.toInt hi.toInt a = .inl (k, q) ∧ Ev mX7_number [M, .inl lo, .inl hi] σ (evi lo σ1) ∧ ERm σ0 σ1 T n st k q ∧ σ1 8 59 = r) := by
  have hc := e_num h.1 h.2.1 hlo hhi
  have h4 := h.1.2.2.2.1
  rcases nmb_b (T := T) (lo := lo.toInt) (hi := hi.toInt) h4 with ⟨V, b, e, e1, e2, e3, e4⟩ | ⟨k, q, e, hk⟩
  · rw [e] at hc
    exact Or.inl ⟨V, b, e, e1, e2, hc, h.nx e4⟩
  · rw [e] at hc
    refine Or.inr ⟨k, q, _, e, hc, ERm.mk hk (by rw [nx_o (by omega)]; exact h.2.2.1) h.2.2.2.2.2.nx, ?_⟩
    rw [← h.2.2.2.1]; funext j; rw [fs_o (by omega), nx_o (by omega)]
theorem v59 (x : Nat) (h : x < 467) : vp_in (nI x) (iN 8 59) := vin h (by show 467 < _; omega)
theorem e_stE (h : ¬ σ 7 0 10 = 0) (hP : P < 6) (hk : k ≤ 6) {x y : Int32} {d6 : Option iV} : ∀ j, j ≤ k → At mX7_stepPart 32 [some M, some (.inl (nI P)), some (.inl x), some (.inl y), some (.inl (nI k)), some (.inl (nI j)), d6] [] σ (evv σ) := by
  refine down_ind (N := k) ?_ ?_
  · refine At.Bt rfl (ge_s) ?_
    refine At.B rfl (fun hc => ?_) (fun hc => ?_)
    · refine At.Cv rfl (e_fails1 h _ _) ?_
      refine At.Ci rfl (e_numE h _ _) ?_
      refine At.Bf rfl (h) ?_
      exact At.R rfl
    · refine At.Ci rfl (e_numE h _ _) ?_
      refine At.Bf rfl (h) ?_
      exact At.R rfl
  · intro j hj ih
    refine At.Bf rfl (ge_n (by omega) hj) ?_
    refine At.N rfl (v59 2 (by omega)) ?_
    refine At.B rfl (fun hc => ?_) (fun hc => ?_)
    · refine At.Ci rfl (e_stepStation 59 P j rfl hP (by omega) _) ?_
      refine At.B rfl (fun hd => ?_) (fun hd => ?_)
      · refine At.Cv rfl (e_fails1 h _ _) ?_
        refine At.J rfl ?_
        rw [nI_1]
        exact ih
      · refine At.J rfl ?_
        rw [nI_1]
        exact ih
    · refine At.J rfl ?_
      rw [nI_1]
      exact ih
theorem e_stepPart (h : OKm σ0 σ T n a st r so) (hr : RI r) (eP : P = PM r) (hp : P < 6) (hk : k ≤ 6) (hg : pgI r k) : EvP mX7_stepPart [M, .inl (nI P)] σ (fun z => ∃ σ1, z = evv σ1 ∧ (match stp1 T n a r k with | .inl (kd, q) => ERm σ0 σ1 T n st kd q ∧ σ1 8 59 = r | .inr (a4, r') => OKm σ0 σ1 T n a4 st r' so)) := by
  have hsc := hr.sc
  have hz : (0 : Int32).toInt = 0 := rfl
  have e1m : nI (SC r) - 1 = nI (SC r - 1) := pk_sub (b := 1) (by omega)
  have e1t : (nI (SC r - 1)).toInt = (SC r : Int) - 1 := by rw [nI_toInt (by omega)]; omega
  have hgn : rPn r P = nI k := by rw [eP]; exact hg.1
  show AtP mX7_stepPart 0 [some M, some (.inl (nI P)), none, none, none, none, none] [] σ _
  refine AtP.N rfl (v59 1 (by omega)) ?_
  rw [t1, h.2.2.2.1, hsc.1]
  unfold stp1
  rw [← eP]
  rcases e_nm h (lo := 0) (hi := nI (SC r - 1)) (by decide) (by omega) with ⟨V, d, e, e1, e2, e3, e4⟩ | ⟨kd, q, σ1, e, e1, e2, e3⟩
  · rw [hz, e1t] at e
    rw [← e1m] at e3
    rw [e]
    dsimp only
    refine AtP.Ci rfl (e3) ?_
    have e9 : nxU σ d (nmA T n a) 7 0 9 = nI (nmA T n a) := nx_9
    generalize nxU σ d (nmA T n a) = υ at e4 e9 ⊢
    have hst := e_steps 59 P rfl hp υ
    rw [e4.2.2.2.1, hgn] at hst
    refine AtP.Ci rfl (hst) ?_
    rw [e9]
    have hV : V < SC r := by omega
    -- behind the loop, with nothing found
    have to75 : ¬ (nI V = r 2 ∧ hsD r P k = true) → AtP mX7_stepPart 75 [some M, some (.inl (nI P)), some (.inl (nI V)), some (.inl (nI (nmA T n a))), some (.inl (nI k)), some (.inl (nI k)), none] [] υ (fun z => ∃ σ1, z = evv σ1 ∧ (match (if k = 6 then .inl (4, nmA T n a) else (match nmb T n 1 20 d with | .inl e => .inl e | .inr (t, a4) => .inr (a4, stU r k V t)) : (Int32 × Nat) ⊕ (Nat × Row)) with | .inl (kd, q) => ERm σ0 σ1 T n st kd q ∧ σ1 8 59 = r | .inr (a4, r') => OKm σ0 σ1 T n a4 st r' so)) := by
      intro cA
      by_cases c6 : k = 6
      · rw [if_pos c6]
        refine AtP.Bt rfl (by rw [c6]; rfl) ?_
        refine AtP.Cv rfl (e_fails0 e4.2.1 4 _ rfl) ?_
        have g := ERm.mk (σ0 := σ0) (T := T) (n := n) (k := 4) (q := nmA T n a) (by decide) e4.2.2.1 e4.2.2.2.2.2
        refine AtP.Ci rfl (e_numE g.ne _ _) ?_
        refine AtP.Bf rfl (g.ne) ?_
        exact AtP.R rfl (⟨_, rfl, g, by rw [← e4.2.2.2.1]; funext j; exact fs_o (by omega)⟩)
      · rw [if_neg c6]
        have hk6 : k < 6 := by omega
        refine AtP.Bf rfl (by rw [show (6 : Int32) = nI 6 from rfl, nI_inj (by omega) (by omega)]; exact c6) ?_
        rcases e_nm e4 (lo := 1) (hi := 20) (by decide) (by decide) with ⟨V2, d2, f, f1, f2, f3, f4⟩ | ⟨kd, q, σ1, f, f1, f2, f3⟩
        · rw [show nmb T n 1 20 d = .inr (V2, d2) from f]
          dsimp only
          refine AtP.Ci rfl (f3) ?_
          generalize nxU υ d2 (nmA T n d) = ψ at f4 ⊢
          refine AtP.Bt rfl (f4.2.1) ?_
          have i1 : (53 + 13 * nI P + 1 + 2 * nI k : Int32) = nI (54 + 13 * P + 2 * k) := ixPs P k
          have i2 : (53 + 13 * nI P + 1 + 2 * nI k + 1 : Int32) = nI (55 + 13 * P + 2 * k) := ixPt P k
          have i0 : (53 + 13 * nI P + 0 : Int32) = nI (53 + 13 * P) := ixPn P
          refine AtP.N rfl (by rw [i1]; exact v59 _ (by omega)) ?_
          refine AtP.N rfl (by rw [i2]; exact v59 _ (by omega)) ?_
          refine AtP.N rfl (by rw [i0]; exact v59 _ (by omega)) ?_
          refine AtP.N rfl (by rw [i0]; exact v59 _ (by omega)) ?_
          have er : iU (iU (iU ψ 8 59 (54 + 13 * P + 2 * k) (nI V)) 8 59 (55 + 13 * P + 2 * k) (nI V2)) 8 59 (53 + 13 * P) (iU (iU ψ 8 59 (54 + 13 * P + 2 * k) (nI V)) 8 59 (55 + 13 * P + 2 * k) (nI V2) 8 59 (53 + 13 * P) + 1) = mR ψ 59 (stU r k V V2) := by
            rw [iU_ne (by omega), iU_ne (by omega), f4.2.2.2.1, show r (53 + 13 * P) = nI k from hgn, nI_1]
            simp only [iU_mR, mR_at, mR_mR]
            rw [f4.2.2.2.1]
            unfold stU
            rw [← eP]
          refine AtP.R rfl ⟨_, rfl, ?_⟩
          rw [i2, i1, i0, nI_clamp (by omega), nI_clamp (by omega), nI_clamp (by omega), er]
          exact f4.R (by unfold OM; rw [stU_n (by omega) hk6])
        · rw [show nmb T n 1 20 d = .inl (kd, q) from f]
          dsimp only
          refine AtP.Ci rfl (f1) ?_
          refine AtP.Bf rfl (f2.ne) ?_
          exact AtP.R rfl (⟨_, rfl, f2, f3⟩)
    refine AtP.F 32 [some M, some (.inl (nI P)), some (.inl (nI V)), some (.inl (nI (nmA T n a))), some (.inl (nI k)), some (.inl (nI 0)), none] [] υ rfl ?_
    have L : ∀ j, j ≤ k → (∀ i, i < j → ¬ (nI V = r 2 ∧ rPs r P i = nI V)) → AtP mX7_stepPart 32 [some M, some (.inl (nI P)), some (.inl (nI V)), some (.inl (nI (nmA T n a))), some (.inl (nI k)), some (.inl (nI j)), none] [] υ (fun z => ∃ σ1, z = evv σ1 ∧ (match (if nI V = r 2 ∧ hsD r P k = true then .inl (3, nmA T n a) else if k = 6 then .inl (4, nmA T n a) else (match nmb T n 1 20 d with | .inl e => .inl e | .inr (t, a4) => .inr (a4, stU r k V t)) : (Int32 × Nat) ⊕ (Nat × Row)) with | .inl (kd, q) => ERm σ0 σ1 T n st kd q ∧ σ1 8 59 = r | .inr (a4, r') => OKm σ0 σ1 T n a4 st r' so)) := by
      refine down_ind (N := k) ?_ ?_
      · intro hno
        have cA : ¬ (nI V = r 2 ∧ hsD r P k = true) := by
          rintro ⟨x, y⟩
          obtain ⟨i, hi, ei⟩ := (hsD_iff k).mp y
          exact hno i hi ⟨x, ei.trans x.symm⟩
        refine AtP.Bt rfl (ge_s) ?_
        rw [if_neg cA]
        exact to75 cA
      · intro j hj ih hno
        refine AtP.Bf rfl (ge_n (by omega) hj) ?_
        refine AtP.N rfl (v59 2 (by omega)) ?_
        rw [t2, e4.2.2.2.1]
        have hss := e_stepStation 59 P j rfl hp (by omega) υ
        rw [e4.2.2.2.1] at hss
        refine AtP.B rfl (fun hc => ?_) (fun hc => ?_)
        · refine AtP.Ci rfl (hss) ?_
          refine AtP.B rfl (fun hd => ?_) (fun hd => ?_)
          · have cA : nI V = r 2 ∧ hsD r P k = true := ⟨hc, (hsD_iff k).mpr ⟨j, hj, hd.trans hc⟩⟩
            rw [if_pos cA]
            refine AtP.Cv rfl (e_fails0 e4.2.1 3 _ rfl) ?_
            have g := ERm.mk (σ0 := σ0) (T := T) (n := n) (k := 3) (q := nmA T n a) (by decide) e4.2.2.1 e4.2.2.2.2.2
            refine AtP.J rfl ?_
            rw [nI_1]
            exact ⟨_, ⟨_, rfl, g, by rw [← e4.2.2.2.1]; funext j; exact fs_o (by omega)⟩, e_stE g.ne hp hk (j + 1) (by omega)⟩
          · refine AtP.J rfl ?_
            rw [nI_1]
            refine ih (fun i hi => ?_)
            by_cases ei : i = j
            · rw [ei]; exact fun z => hd z.2
            · exact hno i (by omega)
        · refine AtP.J rfl ?_
          rw [nI_1]
          refine ih (fun i hi => ?_)
          exact fun z => hc z.1
    exact L 0 (Nat.zero_le _) (fun i hi => absurd hi (Nat.not_lt_zero i))
  · rw [hz, e1t] at e
    rw [← e1m] at e1
    rw [e]
    dsimp only
    refine AtP.Ci rfl (e1) ?_
    have hst := e_steps 59 P rfl hp σ1
    rw [e3, hgn] at hst
    refine AtP.Ci rfl (hst) ?_
    refine AtP.F 32 [some M, some (.inl (nI P)), some (.inl 0), some (.inl (σ1 7 0 9)), some (.inl (nI k)), some (.inl (nI 0)), none] [] σ1 rfl ?_
    exact ⟨_, ⟨_, rfl, e2, e3⟩, e_stE e2.ne hp hk 0 (Nat.zero_le _)⟩
/-- whether a step is at the drum -/
theorem e_has {R : Row} (e : σ 8 59 = R) (hp : P < 6) (hk : k ≤ 6) (hn : rPn R P = nI k) {Q : iRes → Prop} (kk : AtP mX7_productPart 112 [some M, some (.inl (nI P)), some (.inl (if hsD R P k = true then 1 else 0)), some (.inl (nI k))] [] σ Q) : ∀ j, j ≤ k → AtP mX7_productPart 66 [some M, some (.inl (nI P)), some (.inl (if hsD R P j = true then 1 else 0)), some (.inl (nI j))] [] σ Q := by
  have hst := e_steps 59 P rfl hp σ
  rw [e, hn] at hst
  refine down_ind (N := k) ?_ ?_
  · refine AtP.Ci rfl (hst) ?_
    refine AtP.Bt rfl (ge_s) ?_
    exact kk
  · intro j hj ih
    refine AtP.Ci rfl (hst) ?_
    refine AtP.Bf rfl (ge_n (by omega) hj) ?_
    rw [hsD] at ih
    cases hh : hsD R P j with
    | true =>
      rw [hh, Bool.true_or, if_pos rfl] at ih
      rw [if_pos rfl]
      refine AtP.Bf rfl (by decide) ?_
      refine AtP.J rfl ?_
      refine AtP.J rfl ?_
      rw [nI_1]
      exact ih
    | false =>
      rw [hh, Bool.false_or] at ih
      rw [if_neg (by decide)]
      refine AtP.Bt rfl (rfl) ?_
      have hss := e_stepStation 59 P j rfl hp (by omega) σ
      rw [e] at hss
      refine AtP.Ci rfl (hss) ?_
      refine AtP.N rfl (v59 2 (by omega)) ?_
      rw [t2, e]
      refine AtP.B rfl (fun hc => ?_) (fun hc => ?_)
      · rw [if_pos (decide_eq_true hc)] at ih
        refine AtP.J rfl ?_
        refine AtP.J rfl ?_
        rw [nI_1]
        exact ih
      · rw [if_neg (by rw [decide_eq_false hc]; decide)] at ih
        refine AtP.J rfl ?_
        rw [nI_1]
        exact ih
end MRD
