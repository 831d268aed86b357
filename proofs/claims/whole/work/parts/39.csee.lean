/-! ===== the class: reds ===== -/
section SE
variable {σ : iM} {s : Nat} {r : Row}
theorem Sh.seeC {m : Nat → Prop} (h : Sh σ s r) (hr : RIg m r) (hs4 : s < 4) {i q : Nat} (hi : i < OM r) (h3 : rO r i 3 = 1) (hq : rPs r (oP r i) (oK r i) = nI q) (hqs : q < SC r) : Sh (mOQ σ (24 * s + i) (6 * s + q) (upd (σ 0 (24 * s + i)) 13 (nI q)) (upd (σ 5 (6 * s + q)) 7 (σ 5 (6 * s + q) 7 + 1))) s (seeR r i) := by
  have hsc := hr.sc
  have hq6 : q < 6 := by omega
  have hnq : nn (rPs r (oP r i) (oK r i)) = q := by rw [hq]; exact nn_nI (by omega)
  have hs : samB r (seeR r i) := fun n hn => seeR_n (by omega) (by omega)
  obtain ⟨a1, a2, a3, a4, a5⟩ := hr.op hi
  have eO : ∀ j w, w < 14 → (j ≠ i ∨ w ≠ 13) → rO (seeR r i) j w = rO r j w := fun j w h1 h2 => seeR_o (by omega) h1 h2
  have e13 : rO (seeR r i) i 13 = nI q := by
    show seeR r i (131 + 14 * i + 13) = _
    unfold seeR
    rw [upd_ne' (by omega), upd_eq', hq]
  have e6 : rS (seeR r i) q 6 = rS r q 6 + 1 := by
    show seeR r i (11 + 7 * q + 6) = _
    unfold seeR
    rw [hnq, upd_eq']
  have hwt : ∀ q', wtC (seeR r i) q' = wtC r q' := fun q' => wtC_eq hs.om q' (fun j hj => wts_eq hs (hr.op hj).2.2.1 (fun h1 => (hr.st hj h1).2.2) (eO j 0 (by omega) (by omega)) (eO j 3 (by omega) (by omega)) (eO j 4 (by omega) (by omega)) (eO j 6 (by omega) (by omega)))
  refine h.oq hr hs4 hi hqs hs (fun n hn => seeR_n (by omega) (by omega)) (fun q' hq' hne => ⟨fun w hw => seeR_n (by omega) (by omega), hwt q'⟩) (fun j hj hne w hw => eO j w hw (Or.inl hne)) ?_ ?_
  · have ho := h.2.2.2 i hi
    have e : ∀ w, w < 13 → rO (seeR r i) i w = rO r i w := fun w h1 => eO i w (by omega) (by omega)
    unfold ShO at ho ⊢
    rw [mOQ_o, upd_eq']
    repeat (rw [upd_ne' (by omega)])
    rw [e 0 (by omega), e 1 (by omega), e 2 (by omega), e 3 (by omega), e 4 (by omega), e 5 (by omega), e 7 (by omega), e 8 (by omega), e 9 (by omega), e 11 (by omega), e 12 (by omega), e13, wk_eq hs a3 (by have := a4.d; omega) (e 0 (by omega)) (e 1 (by omega)), dbg_eq (bef_eq hs a3 (e 0 (by omega)) (e 3 (by omega)) (e 4 (by omega)) (e 6 (by omega))) (e 3 (by omega)) (e 10 (by omega))]
    obtain ⟨b0, b1, b2, b3, b4, b5, b6, b7, b8, b9, b10, b11, b12, b13⟩ := ho
    exact ⟨b0, b1, b2, b3, b4, b5, b6, b7, b8, b9, b10, b11, b12, rfl⟩
  · have h2 := h.2.1 q hqs
    have e : ∀ w, w < 6 → rS (seeR r i) q w = rS r q w := fun w h1 => seeR_n (by omega) (by omega)
    unfold ShQ at h2 ⊢
    rw [mOQ_q, upd_eq']
    repeat (rw [upd_ne' (by omega)])
    rw [e 0 (by omega), e 1 (by omega), e 2 (by omega), e 3 (by omega), e 4 (by omega), e 5 (by omega), e6, hwt q, h2.2.2.2.2.2.2.2]
    obtain ⟨b0, b1, b2, b3, b4, b5, b6, b7⟩ := h2
    exact ⟨b0, b1, b2, b3, b4, b5, b6, rfl⟩
theorem c_markReds (h : Sh σ s r) (hr : RI r) (hs4 : s < 4) : EvP mX4_markReds [.inr (4, s)] σ (fun z => ∃ σ1, z = evv σ1 ∧ Sh σ1 s (seeN r (OM r)) ∧ cfr s σ σ1) := by
  have hsc := hr.sc
  have hom := hr.om
  show AtP mX4_markReds 0 [some (.inr (4, s)), none, none] [] σ _
  refine AtP.F 2 [some (.inr (4, s)), some (.inl (nI 0)), none] [] _ rfl ?_
  have key : ∀ n, n ≤ OM r → ∀ (σ' : iM) (d2 : Option iV), Sh σ' s (seeN r n) → cfr s σ σ' → AtP mX4_markReds 2 [some (.inr (4, s)), some (.inl (nI n)), d2] [] σ' (fun z => ∃ σ1, z = evv σ1 ∧ Sh σ1 s (seeN r (OM r)) ∧ cfr s σ σ1) := by
    refine down_ind (N := OM r) ?_ ?_
    · intro σ' d2 hS hf
      obtain ⟨a, b, c⟩ := seeN_ok hr (OM r) (Nat.le_refl _)
      refine AtP.Bt rfl (by rw [hS.om a, b.om]; exact (nI_leI (by omega) (by omega)).mpr (Nat.le_refl _)) ?_
      exact AtP.R rfl (⟨_, rfl, hS, hf⟩)
    · intro n hn ih σ' d2 hS hf
      obtain ⟨a, b, c⟩ := seeN_ok hr n (by omega)
      have hn' : n < OM (seeN r n) := by rw [b.om]; exact hn
      have ho := hS.2.2.2 n hn'
      refine AtP.Bf rfl (by rw [hS.om a, b.om]; exact fun x => absurd ((nI_leI (by omega) (by omega)).mp x) (by omega)) ?_
      refine AtP.N rfl (v12 s n (by omega)) ?_
      rw [nI_clamp (by omega)]
      have skip : ∀ d2, ¬ (rO (seeN r n) n 13 = -1 ∧ 2 ≤ zon (seeN r n) n) → AtP mX4_markReds 71 [some (.inr (4, s)), some (.inl (nI n)), d2] [] σ' (fun z => ∃ σ1, z = evv σ1 ∧ Sh σ1 s (seeN r (OM r)) ∧ cfr s σ σ1) := by
        intro d2 hc
        refine AtP.J rfl ?_
        rw [nI_1]
        refine ih σ' d2 ?_ hf
        rw [seeN, see, if_neg hc]
        exact hS
      refine AtP.B rfl (fun h3 => ?_) (fun h3 => ?_)
      · have h3 : σ' 0 (24 * s + n) 5 = 1 := h3
        rw [ho.2.2.2.2.2.1] at h3
        refine AtP.B rfl (fun h13 => ?_) (fun h13 => ?_)
        · have h13 : σ' 0 (24 * s + n) 13 = -1 := h13
          rw [ho.2.2.2.2.2.2.2.2.2.2.2.2.2] at h13
          refine AtP.Ci rfl (c_penetrationOf hS a hn') ?_
          refine AtP.Ci rfl (c_isRedOrBlack _) ?_
          by_cases hz : 3 * pen (seeN r n) n < 2000
          · rw [if_pos hz]
            refine AtP.Bt rfl (rfl) ?_
            exact skip _ (fun x => (zon_red a hn' h3).mp x.2 hz)
          · rw [if_neg hz]
            refine AtP.Bf rfl (by decide) ?_
            obtain ⟨p1, p2, p3⟩ := a.at hn' h3
            refine AtP.Ci rfl (c_stationOf hS a hs4 hn' h3) ?_
            rw [p3]
            refine AtP.N rfl (by rw [iU_same]; exact v15 s _ p2) ?_
            rw [iU_same, nI_clamp (by omega)]
            have hC := hS.seeC a hs4 hn' h3 p3 p1
            have hu : iU (iU σ' 0 (24 * s + n) 13 (nI (nn (rPs (seeN r n) (oP (seeN r n) n) (oK (seeN r n) n))))) 5 (6 * s + nn (rPs (seeN r n) (oP (seeN r n) n) (oK (seeN r n) n))) 7 (iU σ' 0 (24 * s + n) 13 (nI (nn (rPs (seeN r n) (oP (seeN r n) n) (oK (seeN r n) n)))) 5 (6 * s + nn (rPs (seeN r n) (oP (seeN r n) n) (oK (seeN r n) n))) 7 + 1) = mOQ σ' (24 * s + n) (6 * s + nn (rPs (seeN r n) (oP (seeN r n) n) (oK (seeN r n) n))) (upd (σ' 0 (24 * s + n)) 13 (nI (nn (rPs (seeN r n) (oP (seeN r n) n) (oK (seeN r n) n))))) (upd (σ' 5 (6 * s + nn (rPs (seeN r n) (oP (seeN r n) n) (oK (seeN r n) n)))) 7 (σ' 5 (6 * s + nn (rPs (seeN r n) (oP (seeN r n) n) (oK (seeN r n) n))) 7 + 1)) := by
              rw [Ukk (k := 0) (k' := 5) (by omega)]
              conv => lhs; rw [← mOQ_self (σ := σ') (X := 24 * s + n) (Q := 6 * s + nn (rPs (seeN r n) (oP (seeN r n) n) (oK (seeN r n) n)))]
              rw [mOQ_uo, mOQ_uq, mOQ_q]
            rw [← hu] at hC
            have hcf := (hf.U (j := 13) (x := nI (nn (rPs (seeN r n) (oP (seeN r n) n) (oK (seeN r n) n)))) (own0 (show n < 24 by omega))).U (j := 7) (x := iU σ' 0 (24 * s + n) 13 (nI (nn (rPs (seeN r n) (oP (seeN r n) n) (oK (seeN r n) n)))) 5 (6 * s + nn (rPs (seeN r n) (oP (seeN r n) n) (oK (seeN r n) n))) 7 + 1) (own5 p2)
            have hse : seeN r (n + 1) = seeR (seeN r n) n := by rw [seeN, see, if_pos ⟨h13, (zon_red a hn' h3).mpr hz⟩]
            rw [← hse] at hC
            refine AtP.J rfl ?_
            rw [nI_1]
            exact ih _ _ hC hcf
        · have h13 : ¬ σ' 0 (24 * s + n) 13 = -1 := h13
          rw [ho.2.2.2.2.2.2.2.2.2.2.2.2.2] at h13
          exact skip _ (fun x => h13 x.1)
      · have h3 : ¬ σ' 0 (24 * s + n) 5 = 1 := h3
        rw [ho.2.2.2.2.2.1] at h3
        exact skip _ (fun x => h3 (zon_rel x.2))
  exact key 0 (Nat.zero_le _) σ _ h cfr.rfl
end SE
