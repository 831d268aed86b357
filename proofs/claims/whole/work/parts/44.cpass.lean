/-! ===== the class's pass ===== -/
section CP
variable {σ : iM} {s : Nat} {r : Row}
theorem c_pass (h : Sh σ s r) (hr : RI r) (hs4 : s < 4) {n : Nat} (hn : (r 0).toInt + n ≤ 40000) : EvP mX4_pass [.inr (4, s), .inl (nI n)] σ (fun z => ∃ σ1, z = evv σ1 ∧ Sh σ1 s (tkN r n) ∧ cfr s σ σ1) := by
  have hr0 := hr.1
  have h0i : (0 : Int32).toInt = 0 := rfl
  have h1i : (1 : Int32).toInt = 1 := rfl
  show AtP mX4_pass 0 [some (.inr (4, s)), some (.inl (nI n)), none, none, none] [] σ _
  refine AtP.F 2 [some (.inr (4, s)), some (.inl (nI n)), some (.inl (nI n)), none, none] [] σ rfl ?_
  have key : ∀ (B k d : Nat), k ≤ B → d + k = n → ∀ (σ' : iM) (d3 d4 : Option iV), Sh σ' s (tkN r d) → cfr s σ σ' → AtP mX4_pass 2 [some (.inr (4, s)), some (.inl (nI n)), some (.inl (nI k)), d3, d4] [] σ' (fun z => ∃ σ1, z = evv σ1 ∧ Sh σ1 s (tkN r n) ∧ cfr s σ σ1) := by
    intro B
    induction B with
    | zero =>
      intro k d hk hd σ' d3 d4 hS hf
      have e : k = 0 := by omega
      subst e
      refine AtP.Bt rfl (by decide) ?_
      rw [Nat.add_zero] at hd
      rw [hd] at hS
      exact AtP.R rfl (⟨_, rfl, hS, hf⟩)
    | succ B ih =>
      intro k d hk hd σ' d3 d4 hS hf
      by_cases ek : k = 0
      · subst ek
        refine AtP.Bt rfl (by decide) ?_
        rw [Nat.add_zero] at hd
        rw [hd] at hS
        exact AtP.R rfl (⟨_, rfl, hS, hf⟩)
      · have hki : (nI k).toInt = k := nI_toInt (by omega)
        refine AtP.Bf rfl (by rw [fa_le, hki, h0i]; omega) ?_
        obtain ⟨a, b, c⟩ := tkN_ok hr d (by omega)
        refine AtP.CiP rfl (c_quietTicks hS a hs4 (lim := nI k) (by omega)) (fun v9 σ9 h9 => ?_)
        obtain ⟨⟨v1, v2, v3⟩, hS1, hf1⟩ := h9
        rename Int32 => v
        rename iM => τ
        -- the end of the round
        have go : ∀ (w : Nat) (R : Row) (τ : iM), 1 ≤ w → w ≤ k → Sh τ s R → RI R → cfr s σ τ → (∀ q, q < SC R → ¬ rS R q 0 = -1 → ¬ dnn R q → (w : Int) ≤ (rO R (nn (rS R q 0)) 7).toInt) → (R 0).toInt + w ≤ 40000 → seeN (finN (wkd R (nI w)) (SC R)) (OM R) = tkN r (d + w) → iMax v 1 = nI w → AtP mX4_pass 24 [some (.inr (4, s)), some (.inl (nI n)), some (.inl (nI k)), some (.inl v), d4] [] τ (fun z => ∃ σ1, z = evv σ1 ∧ Sh σ1 s (tkN r n) ∧ cfr s σ σ1) := by
          intro w R τ hw1 hwk hSR hR hfR hwv hR0 hrow hmax
          have hwi : (nI w).toInt = w := nI_toInt (by omega)
          have hwv' : ∀ q, q < SC R → ¬ rS R q 0 = -1 → ¬ dnn R q → (nI w).toInt ≤ (rO R (nn (rS R q 0)) 7).toInt := by rw [hwi]; exact hwv
          have hwk := c_work hSR hR hs4 (v := nI w) (by omega) hwv'
          rw [← hmax] at hwk
          refine AtP.CvP rfl (hwk) (fun σ9 h9 => ?_)
          obtain ⟨hS2, hf2⟩ := h9
          rw [hmax] at hS2
          rw [hmax]
          obtain ⟨k1, k2, k3⟩ := wkd_ok (v := nI w) hR (by omega) hwv' (by omega)
          refine AtP.CvP rfl (c_finishSteps hS2 k1 hs4) (fun σ9 h9 => ?_)
          obtain ⟨hS3, hf3⟩ := h9
          rw [k2.sc] at hS3
          obtain ⟨f1, f2, f3⟩ := finN_ok k1 (SC R) (by rw [k2.sc]; exact Nat.le_refl _)
          have f1 : RI (finN (wkd R (nI w)) (SC R)) := f1.weak (fun q h _ => by rw [(k2.trans f2).sc] at h; exact h)
          refine AtP.CvP rfl (c_markReds hS3 f1 hs4) (fun σ9 h9 => ?_)
          obtain ⟨hS4, hf4⟩ := h9
          rw [(k2.trans f2).om, hrow] at hS4
          refine AtP.J rfl ?_
          rw [pk_sub (show w ≤ k by omega)]
          exact ih (k - w) (d + w) (by omega) (by omega) _ _ _ hS4 (((hfR.trans hf2).trans hf3).trans hf4)
        refine AtP.B rfl (fun hq => ?_) (fun hq => ?_)
        · -- not quiet
          refine AtP.CvP rfl (c_releaseOrders hS1 a hs4) (fun σ9 h9 => ?_)
          obtain ⟨hS2, hf2⟩ := h9
          obtain ⟨ra, rb, rc⟩ := rels_ok a
          refine AtP.CvP rfl (c_beginSteps hS2 ra hs4) (fun σ9 h9 => ?_)
          obtain ⟨hS3, hf3⟩ := h9
          rw [rb.sc] at hS3
          have hS3 : Sh _ s (tk1 (tkN r d)) := hS3
          obtain ⟨ta, tb, tc⟩ := tk1_ok a
          refine go 1 (tk1 (tkN r d)) _ (by omega) (by omega) hS3 ta (((hf.trans hf1).trans hf2).trans hf3) (fun q hq x y => ?_) (by rw [tc, c]; omega) ?_ (by rw [hq]; rfl)
          · obtain ⟨w1, w2, w3, w4, w5, w6⟩ := (ta.sta hq).w x
            exact (ta.wkd w2 w4 w5).2.1 trivial
          · rw [tb.sc, tb.om]
            show seeN (finN (wkd (tk1 (tkN r d)) 1) (SC (tkN r d))) (OM (tkN r d)) = tick (tkN r d)
            rw [← tk3_wkd a]
            rfl
        · have hv0 : 0 < v.toInt := by
            rw [fa_eq, h0i] at hq
            omega
          have hQ := v3 hv0
          have hwn : ((v.toInt.toNat : Nat) : Int) = v.toInt := by omega
          have hvw : v = nI v.toInt.toNat := by rw [fa_eq, nI_toInt (by omega)]; omega
          obtain ⟨q1, q2, q3⟩ := qui_wkd (v := v.toInt.toNat) a hQ (by omega) (by omega)
          refine go v.toInt.toNat (tkN r d) τ (by omega) (by omega) hS1 a (hf.trans hf1) (fun q hq x y => ?_) (by omega) ?_ ?_
          · rcases hQ.1 q hq with z | z | z
            · exact absurd z.1 y
            · have := z.2.2; omega
            · exact absurd z.2.1 x
          · rw [q2 _ (Nat.le_refl _), tkN_add]
            have := qui_all a hQ (by omega) (v.toInt.toNat - 1) (by omega)
            rw [show v.toInt.toNat - 1 + 1 = v.toInt.toNat by omega] at this
            exact this.symm
          · rw [← hvw]
            unfold iMax
            by_cases c1 : v < 1
            · rw [fa_lt, h1i] at c1; omega
            · rw [if_neg c1]
  exact key n n 0 (Nat.le_refl _) (by omega) σ none none h cfr.rfl
end CP
