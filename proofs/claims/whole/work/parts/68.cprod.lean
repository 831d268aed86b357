/-! ===== the class reads a product, the stations, a statement ===== -/
theorem stp1_ok {T : Row} {n a k : Nat} {r r' : Row} {a4 : Nat} (ha : a ≤ n) (hr : RI r) (hp : PM r < 6) (hg : pgI r k) (hk : k ≤ 6) (h : stp1 T n a r k = .inr (a4, r')) : ∃ q t, r' = stU r k q t ∧ k < 6 ∧ RI r' ∧ PM r' = PM r ∧ pgI r' (k + 1) ∧ a < a4 ∧ a4 ≤ n := by
  have hsc := hr.sc
  unfold stp1 at h
  rcases nmb_b (T := T) (lo := 0) (hi := (SC r : Int) - 1) ha with ⟨V, b, e, e1, e2, e3, e4⟩ | ⟨kd, q, e, hk⟩
  · rw [e] at h
    dsimp only at h
    by_cases cA : nI V = r 2 ∧ hsD r (PM r) k = true
    · rw [if_pos cA] at h; cases h
    · rw [if_neg cA] at h
      by_cases c6 : k = 6
      · rw [if_pos c6] at h; cases h
      · rw [if_neg c6] at h
        rcases nmb_b (T := T) (lo := 1) (hi := 20) e4 with ⟨V2, b2, f, f1, f2, f3, f4⟩ | ⟨kd, q, f, hk⟩
        · rw [f] at h
          dsimp only at h
          have h := Sum.inr.inj h
          have x1 : b2 = a4 := congrArg Prod.fst h
          have x2 : stU r k V V2 = r' := congrArg Prod.snd h
          subst x1
          subst x2
          exact ⟨V, V2, rfl, by omega, stU_RI hr hp (by omega), stU_pm.mpr trivial, hg.step hr hp (by omega) (by omega) ⟨by omega, by omega⟩ cA, by omega, f4⟩
        · rw [f] at h; cases h
  · rw [e] at h; cases h
section CPRO
variable {σ σ0 : iM} {T : Row} {n a b st k P : Nat} {r so : Row}
theorem ER.at {σ1 : iM} {kd : Int32} {q x : Nat} (h : ER σ0 σ1 T n st kd q) (hx : x ≤ n) : ER σ0 (iU σ1 2 0 5 (nI x)) T n st kd q := by
  obtain ⟨h1, h2, h3, h4, ⟨b, h5⟩, h6⟩ := h
  exact ⟨by rw [iU_ne (by omega)]; exact h1, h2, by rw [iU_ne (by omega)]; exact h3, by rw [iU_ne (by omega)]; exact h4, ⟨x, h5.at hx⟩, h6.U2 (by omega)⟩
theorem c_prE78 {x : Int32} {kd : Int32} {q : Nat} {d4 : Option iV} (h : ER σ0 σ T n st kd q) : AtP mX2_readProduct 78 [some Rc, some Y1, some (.inl x), some (.inr (1, 6 * 1 + P)), d4] [] σ (fun z => ∃ σ1, z = evv σ1 ∧ ER σ0 σ1 T n st kd q) := by
  have g := h.U (k' := 4) (i := 1) (j := 5) (x := σ 4 1 5 + 1) (by omega) h.2.2.2.2.2.U4
  refine AtP.B rfl (fun hc => ?_) (fun hc => ?_)
  · refine AtP.Cv rfl (c_fail1 h.ne _ _) ?_
    exact AtP.R rfl (⟨_, rfl, g⟩)
  · exact AtP.R rfl (⟨_, rfl, g⟩)
theorem c_prE {x : Int32} {kd : Int32} {q : Nat} (h : ER σ0 σ T n st kd q) (hk : k ≤ 7) : AtP mX2_readProduct 33 [some Rc, some Y1, some (.inl x), some (.inr (1, 6 * 1 + P)), some (.inl (nI k))] [] σ (fun z => ∃ σ1, z = evv σ1 ∧ ER σ0 σ1 T n st kd q) := by
  refine AtP.B rfl (fun hc => ?_) (fun hc => ?_)
  · exact c_prE78 h
  · obtain ⟨y, hy⟩ := h.2.2.2.2.1
    have g := h.at (x := sc isSp T n y) (sc_b hy.2.2.2.1).2.1
    refine AtP.Cv rfl (c_skip hy) ?_
    refine AtP.Bf rfl (g.ne) ?_
    exact c_prE78 g
theorem c_prL (hP6 : P < 6) {x : Int32} : ∀ f k, f + k = 7 → k ≤ 6 → ∀ (σ : iM) (a : Nat) (r : Row), OKc σ0 σ T n a st r so → RI r → P = PM r → pgI r k → PGc σ P r k → nmA T n a = a → AtP mX2_readProduct 66 [some Rc, some Y1, some (.inl x), some (.inr (1, 6 * 1 + P)), some (.inl (nI k))] [] σ (fun z => ∃ σ1, z = evv σ1 ∧ OUc σ0 σ1 T n st (match prL T n f a r k with | .inl e => .inl e | .inr (a', r') => .inr (a', r', so))) := by
  intro f
  induction f with
  | zero =>
    intro k hk hk6
    omega
  | succ f ih =>
    intro k hk hk6 σ a r h hr eP hg hc ha
    have han := h.1.2.2.2.1
    refine AtP.CvP rfl (c_rdStep h hr eP hP6 hk6 hg hc ha) (fun σ9 h9 => ?_)
    rw [prL]
    cases hs : stp1 T n a r k with
    | inl e =>
      obtain ⟨kd, q⟩ := e
      rw [hs] at h9
      dsimp only at h9 ⊢
      refine AtP.J rfl ?_
      rw [nI_1]
      exact c_prE h9 (by omega)
    | inr y =>
      obtain ⟨a4, r'⟩ := y
      rw [hs] at h9
      dsimp only at h9 ⊢
      obtain ⟨h9, hc'⟩ := h9
      obtain ⟨q, t, -, hk5, hr', epm, hg', hlt, hle⟩ := stp1_ok han hr (by omega) hg hk6 hs
      rw [← eP] at epm
      refine AtP.J rfl ?_
      rw [nI_1]
      refine AtP.Bf rfl (by rw [show (6 : Int32) = nI 6 from rfl, nI_lt_iff (by omega) (by omega)]; omega) ?_
      refine AtP.Cv rfl (c_skip h9.1) ?_
      have hA : a4 ≤ nmA T n a4 ∧ nmA T n a4 ≤ n ∧ ¬ (nmA T n a4 < n ∧ isSp (T (nmA T n a4)) = true) := sc_b hle
      have g := h9.at hr' (b := nmA T n a4) hA.2.1
      have gc : PGc (iU σ9 2 0 5 (nI (nmA T n a4))) P r' (k + 1) := hc'.at
      have eA : nmA T n (nmA T n a4) = nmA T n a4 := sc_sc hle
      rw [show sc isSp T n a4 = nmA T n a4 from rfl]
      generalize iU σ9 2 0 5 (nI (nmA T n a4)) = υ at g gc ⊢
      refine AtP.Bt rfl (g.2.1) ?_
      refine AtP.Bf rfl (by rw [fa_le, nI_toInt (by omega)]; show ¬ ((k + 1 : Nat) : Int) ≤ 0; omega) ?_
      refine AtP.Ci rfl (c_dig g.1) ?_
      by_cases cd : nmA T n a4 < n ∧ isDg (T (nmA T n a4)) = true
      · rw [if_pos cd, if_pos cd]
        refine AtP.Bf rfl (by decide) ?_
        exact ih (k + 1) (by omega) (by omega) υ _ r' g hr' epm.symm hg' gc eA
      · rw [if_neg cd, if_neg cd]
        refine AtP.Bt rfl (rfl) ?_
        refine AtP.J rfl ?_
        rw [epm]
        by_cases ch : hsD r' P (k + 1) = true
        · rw [if_pos ch]
          have hne : ¬ υ 1 (6 * 1 + P) 3 = -1 := by
            rw [gc.2.1, if_pos ch]
            obtain ⟨j, hj, ej⟩ := (hsD_iff _).mp ch
            have := dS_pg hg' (by omega) hj (by rw [epm]; exact ej)
            rw [epm] at this
            exact nI_m1 (by omega)
          have e5 : υ 4 1 5 = nI P := by rw [g.2.2.2.1.1.2.1, hr'.pm.1, epm]
          refine AtP.Bf rfl (hne) ?_
          have hS := prd_Sh (P := P) (σ1 := iU υ 4 1 5 (nI (PM r' + 1))) g.2.2.2.1 hr' (by omega) (k := k + 1) (by omega) (by omega) hg' (by rw [epm]; exact ch) epm.symm gc rfl
          rw [epm] at hS
          refine AtP.R rfl ⟨_, rfl, ?_⟩
          rw [e5, nI_1]
          exact g.Sh' hS (by unfold OM; rw [upd_ne' (by omega)]) (fun j => iU_ne (by omega)) (fun j => iU_ne (by omega)) (fun j => iU_ne (by omega)) g.2.2.2.2.2.U4
        · rw [if_neg ch]
          refine AtP.Bt rfl (by rw [gc.2.1, if_neg ch]) ?_
          have ge := ER.mk (σ0 := σ0) (k := 3) (q := nmA T n a4) g.1 (by decide) g.2.2.1 g.2.2.2.2.2
          have hf := c_fail0 g.2.1 3 (nmA T n a4)
          rw [← g.1.2.2.1] at hf
          refine AtP.Cv rfl (hf) ?_
          exact AtP.R rfl (⟨_, rfl, ge.U (k' := 4) (i := 1) (j := 5) (by omega) ge.2.2.2.2.2.U4⟩)
end CPRO
