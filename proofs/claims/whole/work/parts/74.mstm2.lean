/-! ===== the reference reads statements ===== -/
section MST
variable {σ σ0 : iM} {T : Row} {n a b st P : Nat} {r so : Row}
theorem m_add3 {R : Row} (e : σ 8 59 = R) (hP : R 3 = nI P) (hp : P < 6) {d1 d2 d3 : Option iV} : At mX7_productPart 125 [some M, d1, d2, d3] [] σ (evv (mR σ 59 (upd R 3 (nI (P + 1))))) := by
  refine At.N rfl (v59 3 (by omega)) ?_
  refine At.N rfl (v59 3 (by omega)) ?_
  refine At.Re rfl ?_
  rw [t3, e, hP, nI_1, iU_mR, e]
theorem e_pr33 (hp : P < 6) : ∀ f k, f + k = 6 → ∀ (σ1 : iM) (a : Nat) (r : Row) (d2 d3 : Option iV), a ≤ n → RI r → P = PM r → pgI r k → (match stp1 T n a r k with | .inl (kd, q) => ERm σ0 σ1 T n st kd q ∧ σ1 8 59 = r | .inr (a4, r') => OKm σ0 σ1 T n a4 st r' so) → AtP mX7_productPart 33 [some M, some (.inl (nI P)), d2, d3] [] σ1 (fun z => ∃ σ2, z = evv σ2 ∧ OUm σ0 σ2 T n st (match prL T n (f + 1) a r k with | .inl e => .inl e | .inr (a', r') => .inr (a', r', so))) := by
  intro f
  induction f with
  | zero =>
    intro k hk σ1 a r d2 d3 ha hr eP hg hm
    have hk6 : k = 6 := by omega
    rw [prL]
    have hpn : rPn r P = nI k := by rw [eP]; exact hg.1
    cases hs : stp1 T n a r k with
    | inl e =>
      obtain ⟨kd, q⟩ := e
      rw [hs] at hm
      dsimp only at hm ⊢
      obtain ⟨he, hrow⟩ := hm
      refine AtP.Bf rfl (he.ne) ?_
      refine AtP.F 66 [some M, some (.inl (nI P)), some (.inl 0), some (.inl (nI 0))] [] σ1 rfl ?_
      refine e_has hrow hp (by omega) hpn ?_ 0 (Nat.zero_le _)
      have ha3 := fun (d1 d2 d3 : Option iV) (τ : iM) (g1 : τ 8 59 = r) => m_add3 (d1 := d1) (d2 := d2) (d3 := d3) g1 (by rw [eP]; exact hr.pm.1) hp
      refine AtP.B rfl (fun hc => ?_) (fun hc => ?_)
      · refine AtP.Cv rfl (e_fails1 he.ne _ _) ?_
        exact ⟨_, ⟨_, rfl, he.R⟩, ha3 _ _ _ _ hrow⟩
      · exact ⟨_, ⟨_, rfl, he.R⟩, ha3 _ _ _ _ hrow⟩
    | inr y =>
      obtain ⟨a4, r'⟩ := y
      obtain ⟨q, t, -, hk5, -⟩ := stp1_ok ha hr (by omega) hg (by omega) hs
      omega
  | succ f ih =>
    intro k hk σ1 a r d2 d3 ha hr eP hg hm
    rw [prL]
    have hpn : rPn r P = nI k := by rw [eP]; exact hg.1
    cases hs : stp1 T n a r k with
    | inl e =>
      obtain ⟨kd, q⟩ := e
      rw [hs] at hm
      dsimp only at hm ⊢
      obtain ⟨he, hrow⟩ := hm
      refine AtP.Bf rfl (he.ne) ?_
      refine AtP.F 66 [some M, some (.inl (nI P)), some (.inl 0), some (.inl (nI 0))] [] σ1 rfl ?_
      refine e_has hrow hp (by omega) hpn ?_ 0 (Nat.zero_le _)
      have ha3 := fun (d1 d2 d3 : Option iV) (τ : iM) (g1 : τ 8 59 = r) => m_add3 (d1 := d1) (d2 := d2) (d3 := d3) g1 (by rw [eP]; exact hr.pm.1) hp
      refine AtP.B rfl (fun hc => ?_) (fun hc => ?_)
      · refine AtP.Cv rfl (e_fails1 he.ne _ _) ?_
        exact ⟨_, ⟨_, rfl, he.R⟩, ha3 _ _ _ _ hrow⟩
      · exact ⟨_, ⟨_, rfl, he.R⟩, ha3 _ _ _ _ hrow⟩
    | inr y =>
      obtain ⟨a4, r'⟩ := y
      rw [hs] at hm
      dsimp only at hm ⊢
      obtain ⟨q, t, -, hk5, hr', epm, hg', hlt, hle⟩ := stp1_ok ha hr (by omega) hg (by omega) hs
      rw [← eP] at epm
      have hA : a4 ≤ nmA T n a4 ∧ nmA T n a4 ≤ n ∧ ¬ (nmA T n a4 < n ∧ isSp (T (nmA T n a4)) = true) := sc_b hle
      have hpn' : rPn r' P = nI (k + 1) := by rw [← epm]; exact hg'.1
      have hp3 : r' 3 = nI P := by rw [hr'.pm.1, epm]
      refine AtP.Bt rfl (hm.2.1) ?_
      refine AtP.Ci rfl (e_next hm.1) ?_
      have g := hm.nx (b := nmA T n a4) (c := nmA T n a4) hA.2.1
      have g9 : nxU σ1 (nmA T n a4) (nmA T n a4) 7 0 9 = nI (nmA T n a4) := nx_9
      generalize nxU σ1 (nmA T n a4) (nmA T n a4) = υ at g g9 ⊢
      have hI := @hre_in T n (nmA T n a4) 48 57 (by decide)
      by_cases cd : nmA T n a4 < n ∧ isDg (T (nmA T n a4)) = true
      · rw [if_pos cd]
        refine AtP.Ci rfl (e_in1 (hI.mpr ⟨cd.1, of_decide_eq_true cd.2⟩)) ?_
        refine AtP.Bf rfl (by decide) ?_
        refine AtP.CvP rfl (e_stepPart g hr' epm.symm hp (k := k + 1) (by omega) hg') (fun σ9 h9 => ?_)
        refine AtP.J rfl ?_
        exact ih (k + 1) (by omega) _ _ r' _ _ hA.2.1 hr' epm.symm hg' h9
      · rw [if_neg cd, epm]
        refine AtP.Ci rfl (e_in0 (fun z => cd (by have q := hI.mp z; exact ⟨q.1, decide_eq_true q.2⟩))) ?_
        refine AtP.Bt rfl (rfl) ?_
        refine AtP.F 66 [some M, some (.inl (nI P)), some (.inl 0), some (.inl (nI 0))] [] υ rfl ?_
        refine e_has g.2.2.2.1 hp (by omega) hpn' ?_ 0 (Nat.zero_le _)
        cases ch : hsD r' P (k + 1) with
        | true =>
          rw [if_pos rfl, if_pos rfl]
          refine AtP.Bf rfl (by decide) ?_
          exact ⟨_, ⟨_, rfl, g.R (by unfold OM; rw [upd_ne' (by omega)])⟩, m_add3 g.2.2.2.1 hp3 hp⟩
        | false =>
          rw [if_neg (by decide), if_neg (by decide)]
          refine AtP.Bt rfl (rfl) ?_
          refine AtP.Cv rfl (e_fails0 g.2.1 3 _ g9) ?_
          have ge := ERm.mk (σ0 := σ0) (T := T) (n := n) (k := 3) (q := nmA T n a4) (by decide) g.2.2.1 g.2.2.2.2.2
          exact ⟨_, ⟨_, rfl, ge.R⟩, m_add3 (R := r') (by rw [← g.2.2.2.1]; funext j; exact fs_o (by omega)) hp3 hp⟩
theorem e_productPart (h : OKm σ0 σ T n b st r so) (hr : RI r) (hfr : frs r) (h9 : σ 7 0 9 = nI a) : EvP mX7_productPart [M] σ (fun z => ∃ σ1, z = evv σ1 ∧ OUm σ0 σ1 T n st (if PM r = 6 then .inl (4, a) else (match prL T n 7 (nmA T n b) r 0 with | .inl e => .inl e | .inr (a', r') => .inr (a', r', so)))) := by
  have hpm := hr.pm
  have hbn := h.1.2.2.2.1
  show AtP mX7_productPart 0 [some M, none, none, none] [] σ _
  refine AtP.N rfl (v59 3 (by omega)) ?_
  rw [t3, h.2.2.2.1, hpm.1]
  by_cases c : PM r = 6
  · rw [if_pos c]
    refine AtP.Bt rfl (by rw [c]; rfl) ?_
    refine AtP.Cv rfl (e_fails0 h.2.1 4 _ h9) ?_
    exact AtP.R rfl (⟨_, rfl, ERm.mk (T := T) (n := n) (by decide) h.2.2.1 h.2.2.2.2.2⟩)
  · rw [if_neg c]
    refine AtP.Bf rfl (by rw [show (6 : Int32) = nI 6 from rfl, nI_inj (by omega) (by omega)]; exact c) ?_
    refine AtP.N rfl (v59 3 (by omega)) ?_
    rw [t3, h.2.2.2.1, hpm.1]
    obtain ⟨P, eP⟩ : ∃ P, P = PM r := ⟨_, rfl⟩
    rw [← eP]
    have hg : pgI r 0 := ⟨hfr _ (Nat.le_refl _) (by omega), fun j hj => absurd hj (Nat.not_lt_zero j), fun i j hi => absurd hi (Nat.not_lt_zero i)⟩
    have hB : b ≤ nmA T n b ∧ nmA T n b ≤ n ∧ ¬ (nmA T n b < n ∧ isSp (T (nmA T n b)) = true) := sc_b hbn
    have hsp := e_stepPart h hr eP (by omega) (k := 0) (by omega) hg
    rw [← stp1_sk hbn] at hsp
    refine AtP.CvP rfl (hsp) (fun σ9 h9 => ?_)
    exact e_pr33 (by omega) 6 0 rfl _ _ r none none hB.2.1 hr eP hg h9
theorem e_orderPart (h : OKm σ0 σ T n b st r so) (hr : RI r) (h9 : σ 7 0 9 = nI a) : EvP mX7_orderPart [M] σ (fun z => ∃ σ1, z = evv σ1 ∧ OUm σ0 σ1 T n st (if OM r = 24 then .inl (4, a) else num1 T n 0 ((PM r : Int) - 1) b (fun p a3 => num1 T n 1 50 a3 (fun q a4 => num1 T n 0 30000 a4 (fun d a5 => .inr (a5, layR r p (nI q) (nI d), upd so (OM r) (nI st))))))) := by
  have hom := hr.om
  have hpm := hr.pm
  show AtP mX7_orderPart 0 [some M, none, none, none] [] σ _
  refine AtP.N rfl (v59 4 (by omega)) ?_
  rw [t4, h.2.2.2.1, hom.1]
  by_cases c : OM r = 24
  · rw [if_pos c]
    refine AtP.Bt rfl (by rw [c]; rfl) ?_
    refine AtP.Cv rfl (e_fails0 h.2.1 4 _ h9) ?_
    exact AtP.R rfl (⟨_, rfl, ERm.mk (T := T) (n := n) (by decide) h.2.2.1 h.2.2.2.2.2⟩)
  · have hlt : OM r < 24 := by omega
    rw [if_neg c]
    refine AtP.Bf rfl (by rw [show (24 : Int32) = nI 24 from rfl, nI_inj (by omega) (by omega)]; exact c) ?_
    refine AtP.N rfl (v59 3 (by omega)) ?_
    rw [t3, h.2.2.2.1, hpm.1]
    have hz : (0 : Int32).toInt = 0 := rfl
    have h1t : (1 : Int32).toInt = 1 := rfl
    have e1t : (nI (PM r) - 1).toInt = (PM r : Int) - 1 := by rw [fb_subI] <;> rw [nI_toInt (by omega), h1t] <;> omega
    -- the end, failed
    have finE : ∀ (τ : iM) (kd : Int32) (qq p : Nat) (q d : Int32), ERm σ0 τ T n st kd qq → τ 8 59 = r → AtP mX7_orderPart 51 [some M, some (.inl (nI p)), some (.inl q), none] [.inl d] τ (fun z => ∃ σ1, z = evv σ1 ∧ ERm σ0 σ1 T n st kd qq) := by
      intro τ kd qq p q d he hrow
      refine AtP.N rfl (v59 4 (by omega)) ?_
      rw [t4, hrow, hom.1]
      refine AtP.N rfl (vin (N := iN 8 62) hlt (by show 24 < _; omega)) ?_
      rw [nI_clamp (by omega)]
      have hr2 : iU τ 8 62 (OM r) (τ 7 0 12) 8 59 = r := by rw [← hrow]; funext j; exact iU_ne (by omega)
      have hl := e_laysOrder (σ := iU τ 8 62 (OM r) (τ 7 0 12)) 59 rfl (by rw [hr2]; exact hom.1) (by rw [hr2]; exact hlt) p q d
      refine AtP.Cv rfl (hl) ?_
      exact AtP.R rfl (⟨_, rfl, he.U62.R⟩)
    unfold num1
    rcases e_nm h (lo := 0) (hi := nI (PM r) - 1) (by decide) (by omega) with ⟨V, d, e, e1, e2, e3, e4⟩ | ⟨kd, q, σ1, e, e1, e2, e3⟩
    · rw [hz, e1t] at e
      rw [e]
      dsimp only
      refine AtP.Ci rfl (e3) ?_
      rcases e_nm e4 (lo := 1) (hi := 50) (by decide) (by decide) with ⟨V2, d2, f, f1, f2, f3, f4⟩ | ⟨kd, q, σ1, f, f1, f2, f3⟩
      · rw [show nmb T n 1 50 d = .inr (V2, d2) from f]
        dsimp only
        refine AtP.Ci rfl (f3) ?_
        rcases e_nm f4 (lo := 0) (hi := 30000) (by decide) (by decide) with ⟨V3, d3, g, g1, g2, g3, g4⟩ | ⟨kd, q, σ1, g, g1, g2, g3⟩
        · rw [show nmb T n 0 30000 d2 = .inr (V3, d3) from g]
          refine AtP.Ci rfl (g3) ?_
          generalize nxU (nxU (nxU σ d (nmA T n b)) d2 (nmA T n d)) d3 (nmA T n d2) = υ at g4 ⊢
          refine AtP.N rfl (v59 4 (by omega)) ?_
          rw [t4, g4.2.2.2.1, hom.1]
          refine AtP.N rfl (vin (N := iN 8 62) hlt (by show 24 < _; omega)) ?_
          rw [nI_clamp (by omega), g4.2.2.1]
          have hr2 : iU υ 8 62 (OM r) (nI st) 8 59 = r := by rw [← g4.2.2.2.1]; funext j; exact iU_ne (by omega)
          have hl := e_laysOrder (σ := iU υ 8 62 (OM r) (nI st)) 59 rfl (by rw [hr2]; exact hom.1) (by rw [hr2]; exact hlt) V (nI V2) (nI V3)
          rw [hr2] at hl
          refine AtP.Cv rfl (hl) ?_
          obtain ⟨⟨q1, q2, q3, q4, q5⟩, b2, b3, b4, b5, b6⟩ := g4
          have o : ∀ k i j, ¬ (k = 8 ∧ i = 59) → ¬ (k = 8 ∧ i = 62 ∧ j = OM r) → mR (iU υ 8 62 (OM r) (nI st)) 59 (layR r V (nI V2) (nI V3)) k i j = υ k i j := fun k i j x y => by rw [mR_ne x, iU_ne y]
          refine AtP.R rfl ⟨_, rfl, ⟨?_, q2, ?_, q4, fun j hj => ?_⟩, ?_, ?_, mR_at, fun i hi => ?_, b6.U62.R⟩
          · rw [o _ _ _ (by omega) (by omega)]; exact q1
          · rw [o _ _ _ (by omega) (by omega)]; exact q3
          · rw [o _ _ _ (by omega) (by omega)]; exact q5 j hj
          · rw [o _ _ _ (by omega) (by omega)]; exact b2
          · rw [o _ _ _ (by omega) (by omega)]; exact b3
          · rw [lay_om hom.1 hlt] at hi
            by_cases ei : i = OM r
            · rw [ei, mR_ne (by omega), iU_same]; exact upd_eq'.symm
            · rw [o _ _ _ (by omega) (by omega), upd_ne' ei]; exact b5 i (by omega)
        · rw [show nmb T n 0 30000 d2 = .inl (kd, q) from g]
          refine AtP.Ci rfl (g1) ?_
          exact finE σ1 kd q V (nI V2) 0 g2 g3
      · rw [show nmb T n 1 50 d = .inl (kd, q) from f]
        dsimp only
        refine AtP.Ci rfl (f1) ?_
        refine AtP.Ci rfl (e_numE f2.ne _ _) ?_
        exact finE σ1 kd q V 1 0 f2 f3
    · rw [hz, e1t] at e
      rw [e]
      dsimp only
      refine AtP.Ci rfl (e1) ?_
      refine AtP.Ci rfl (e_numE e2.ne _ _) ?_
      refine AtP.Ci rfl (e_numE e2.ne _ _) ?_
      exact finE σ1 kd q 0 1 0 e2 e3
theorem e_setupPart (h : OKm σ0 σ T n b st r so) (hr : RI r) : EvP mX7_setupPart [M] σ (fun z => ∃ σ1, z = evv σ1 ∧ OUm σ0 σ1 T n st (num1 T n 0 ((SC r : Int) - 1) b (fun q a3 => num1 T n 0 50 a3 (fun v a4 => .inr (a4, upd r (11 + 7 * q + 5) (nI v), so))))) := by
  have hsc := hr.sc
  have hz : (0 : Int32).toInt = 0 := rfl
  have e1m : nI (SC r) - 1 = nI (SC r - 1) := pk_sub (b := 1) (by omega)
  have e1t : (nI (SC r - 1)).toInt = (SC r : Int) - 1 := by rw [nI_toInt (by omega)]; omega
  have ix : ∀ q : Nat, (11 + 7 * nI q + 5 : Int32) = nI (11 + 7 * q + 5) := fun q => ixS q 5
  show AtP mX7_setupPart 0 [some M, none] [] σ _
  refine AtP.N rfl (v59 1 (by omega)) ?_
  rw [t1, h.2.2.2.1, hsc.1]
  unfold num1
  rcases e_nm h (lo := 0) (hi := nI (SC r - 1)) (by decide) (by omega) with ⟨V, d, e, e1, e2, e3, e4⟩ | ⟨kd, q, σ1, e, e1, e2, e3⟩
  · rw [hz, e1t] at e
    rw [← e1m] at e3
    rw [e]
    dsimp only
    refine AtP.Ci rfl (e3) ?_
    rcases e_nm e4 (lo := 0) (hi := 50) (by decide) (by decide) with ⟨V2, d2, f, f1, f2, f3, f4⟩ | ⟨kd, q, σ1, f, f1, f2, f3⟩
    · rw [show nmb T n 0 50 d = .inr (V2, d2) from f]
      refine AtP.Ci rfl (f3) ?_
      generalize nxU (nxU σ d (nmA T n b)) d2 (nmA T n d) = υ at f4 ⊢
      refine AtP.N rfl (by rw [ix]; exact v59 _ (by omega)) ?_
      rw [ix, nI_clamp (by omega), iU_mR, f4.2.2.2.1]
      exact AtP.R rfl (⟨_, rfl, f4.R (by unfold OM; rw [upd_ne' (by omega)])⟩)
    · rw [show nmb T n 0 50 d = .inl (kd, q) from f]
      refine AtP.Ci rfl (f1) ?_
      refine AtP.N rfl (by rw [ix]; exact v59 _ (by omega)) ?_
      rw [ix, nI_clamp (by omega), iU_mR]
      exact AtP.R rfl (⟨_, rfl, f2.R⟩)
  · rw [hz, e1t] at e
    rw [← e1m] at e1
    rw [e]
    dsimp only
    refine AtP.Ci rfl (e1) ?_
    refine AtP.Ci rfl (e_numE e2.ne _ _) ?_
    refine AtP.N rfl (by rw [show (0 : Int32) = nI 0 from rfl, ix]; exact v59 _ (by omega)) ?_
    rw [show (0 : Int32) = nI 0 from rfl, ix, nI_clamp (by omega), iU_mR]
    exact AtP.R rfl (⟨_, rfl, e2.R⟩)
end MST
