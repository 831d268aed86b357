/-! ===== the reference: a tick ===== -/
theorem RIg.sw {m : Nat → Prop} {r : Row} (hr : RIg m r) {q : Nat} (hq : q < SC r) (hw : ¬ rS r q 0 = -1) : rS r q 0 = nI (nn (rS r q 0)) ∧ nn (rS r q 0) < 24 ∧ rO r (nn (rS r q 0)) 0 = nI (oP r (nn (rS r q 0))) ∧ oP r (nn (rS r q 0)) < 6 := by
  obtain ⟨w1, w2, w3, w4, w5, w6⟩ := (hr.sta hq).w hw
  obtain ⟨a1, a2, a3, a4, a5⟩ := hr.op w2
  exact ⟨w1, w3, a2, a3⟩
theorem e_passes {σ : iM} (hr : RI (σ 8 58)) (h0 : (σ 8 58 0).toInt < 40000) : EvP mX7_passes [M] σ (fun r => ∃ v σ1, r = evi v σ1 ∧ v = finC (tk3 (σ 8 58)) (SC (σ 8 58)) ∧ σ1 8 58 = tick (σ 8 58) ∧ mfr σ σ1) := by
  generalize hR : σ 8 58 = r at hr h0 ⊢
  obtain ⟨sc1, sc2, sc3⟩ := hr.sc
  obtain ⟨om1, om2⟩ := hr.om
  show AtP mX7_passes 0 [some M, none, none] [] σ _
  refine AtP.CvP rfl (e_releases (by rw [hR]; exact hr)) (fun σ9 h9 => ?_)
  obtain ⟨h58, hfr⟩ := h9
  rw [hR] at h58
  rename iM => τ
  refine AtP.F 6 [some M, some (.inl (nI 0)), none] [] τ rfl ?_
  obtain ⟨ra, rb, rc⟩ := rels_ok hr
  have e1 : r 1 = nI (SC r) := sc1
  -- begin
  have L1 : ∀ n, n ≤ SC r → ∀ τ : iM, τ 8 58 = begN (rels r) n → mfr σ τ → AtP mX7_passes 6 [some M, some (.inl (nI n)), none] [] τ (fun z => ∃ v σ1, z = evi v σ1 ∧ v = finC (tk3 r) (SC r) ∧ σ1 8 58 = tick r ∧ mfr σ σ1) := by
    refine down_ind (N := SC r) ?_ ?_
    · intro τ hτ hf
      have hb := (begN_ok ra (SC r) (by rw [rb.sc]; exact Nat.le_refl _))
      have hτ1 : τ 8 58 1 = nI (SC r) := by rw [hτ, (rb.trans hb.2.1).n (by omega) (by omega)]; exact sc1
      have hτr : τ 8 58 = tk1 r := hτ
      have hRI : RI (τ 8 58) := by rw [hτ]; exact hb.1
      refine AtP.N rfl (v58 1 (by omega)) ?_
      rw [t1, hτ1]
      refine AtP.Bt rfl ((nI_leI (by omega) (by omega)).mpr (Nat.le_refl _)) ?_
      refine AtP.N rfl (v58 10 (by omega)) ?_
      refine AtP.Ci rfl (e_isStarved hRI) ?_
      have stv : ∀ x : Int32, x = (if isStv (τ 8 58) then 1 else 0) → AtP mX7_passes 47 [some M, some (.inl (nI (SC r))), none] [.inl x, .inl (τ 8 58 10), .inl 10, .inr (8, 58)] τ (fun z => ∃ v σ1, z = evi v σ1 ∧ v = finC (tk3 r) (SC r) ∧ σ1 8 58 = tick r ∧ mfr σ σ1) := by
        intro x hx
        refine AtP.N rfl (v58 10 (by omega)) ?_
        rw [iU_mR, t10]
        have hst : upd (τ 8 58) 10 (τ 8 58 10 + x) = stvR (tk1 r) := by rw [hx, hτr]; rfl
        rw [hst]
        refine AtP.F 51 [some M, some (.inl (nI 0)), none] [] _ rfl ?_
        have hu := upd10_ok (m := fun _ => True) (r := tk1 r) (by rw [← hτr]; exact hRI) (tk1 r 10 + if isStv (tk1 r) then 1 else 0)
        have hs1 : samB r (stvR (tk1 r)) := (tk1_ok hr).2.1.trans hu.2.1
        -- work
        have L2 : ∀ n, n ≤ SC r → ∀ τ : iM, τ 8 58 = wrkN (stvR (tk1 r)) n → mfr σ τ → AtP mX7_passes 51 [some M, some (.inl (nI n)), none] [] τ (fun z => ∃ v σ1, z = evi v σ1 ∧ v = finC (tk3 r) (SC r) ∧ σ1 8 58 = tick r ∧ mfr σ σ1) := by
          refine down_ind (N := SC r) ?_ ?_
          · intro τ hτ hf
            have hw := wrkN_ok (r := stvR (tk1 r)) hu.1 (SC r) (by rw [hs1.sc]; exact Nat.le_refl _)
            have hτ1 : τ 8 58 1 = nI (SC r) := by rw [hτ, (hs1.trans hw.2.1).n (by omega) (by omega)]; exact sc1
            refine AtP.N rfl (v58 1 (by omega)) ?_
            rw [t1, hτ1]
            refine AtP.Bt rfl ((nI_leI (by omega) (by omega)).mpr (Nat.le_refl _)) ?_
            refine AtP.N rfl (v58 0 (by omega)) ?_
            refine AtP.N rfl (v58 0 (by omega)) ?_
            rw [iU_mR, t0]
            have h3 : upd (τ 8 58) 0 (τ 8 58 0 + 1) = tk3 r := by rw [hτ]; rfl
            rw [h3]
            refine AtP.F 86 [some M, some (.inl (finC (tk3 r) 0)), some (.inl (nI 0))] [] _ rfl ?_
            obtain ⟨k3, s3, n3⟩ := tk3_ok hr h0
            -- finish
            have L3 : ∀ n, n ≤ SC r → ∀ τ : iM, τ 8 58 = finN (tk3 r) n → mfr σ τ → AtP mX7_passes 86 [some M, some (.inl (finC (tk3 r) n)), some (.inl (nI n))] [] τ (fun z => ∃ v σ1, z = evi v σ1 ∧ v = finC (tk3 r) (SC r) ∧ σ1 8 58 = tick r ∧ mfr σ σ1) := by
              refine down_ind (N := SC r) ?_ ?_
              · intro τ hτ hf
                obtain ⟨k4, s4, n4⟩ := tk4_ok hr h0
                have hτ1 : τ 8 58 1 = nI (SC r) := by rw [hτ]; exact (s4.n (n := 1) (by omega) (by omega)).trans sc1
                refine AtP.N rfl (v58 1 (by omega)) ?_
                rw [t1, hτ1]
                refine AtP.Bt rfl ((nI_leI (by omega) (by omega)).mpr (Nat.le_refl _)) ?_
                refine AtP.F 120 [some M, some (.inl (finC (tk3 r) (SC r))), some (.inl (nI 0))] [] τ rfl ?_
                -- see
                have L4 : ∀ n, n ≤ OM r → ∀ τ : iM, τ 8 58 = seeN (tk4 r) n → mfr σ τ → AtP mX7_passes 120 [some M, some (.inl (finC (tk3 r) (SC r))), some (.inl (nI n))] [] τ (fun z => ∃ v σ1, z = evi v σ1 ∧ v = finC (tk3 r) (SC r) ∧ σ1 8 58 = tick r ∧ mfr σ σ1) := by
                  refine down_ind (N := OM r) ?_ ?_
                  · intro τ hτ hf
                    have hs := seeN_ok k4 (OM r) (by rw [s4.om]; exact Nat.le_refl _)
                    have hτ4 : τ 8 58 4 = nI (OM r) := by rw [hτ, (s4.trans hs.2.1).n (by omega) (by omega)]; exact om1
                    refine AtP.N rfl (v58 4 (by omega)) ?_
                    rw [t4, hτ4]
                    refine AtP.Bt rfl ((nI_leI (by omega) (by omega)).mpr (Nat.le_refl _)) ?_
                    exact AtP.R rfl (⟨_, _, rfl, rfl, hτ, hf⟩)
                  · intro n hn ih τ hτ hf
                    have hs := seeN_ok k4 n (by rw [s4.om]; omega)
                    have hτ4 : τ 8 58 4 = nI (OM r) := by rw [hτ, (s4.trans hs.2.1).n (by omega) (by omega)]; exact om1
                    refine AtP.N rfl (v58 4 (by omega)) ?_
                    rw [t4, hτ4]
                    refine AtP.Bf rfl (fun h => absurd ((nI_leI (by omega) (by omega)).mp h) (by omega)) ?_
                    refine AtP.Cv rfl (e_sees (by rw [hτ]; exact hs.1) (i := n) (by rw [hτ, (s4.trans hs.2.1).om]; omega)) ?_
                    refine AtP.J rfl ?_
                    rw [nI_1]
                    exact ih _ (by rw [mR_at, hτ]; rfl) (hf.trans mfr.R)
                exact L4 0 (Nat.zero_le _) τ hτ hf
              · intro n hn ih τ hτ hf
                have hs := finN_ok k3 n (by rw [s3.sc]; omega)
                have hτ1 : τ 8 58 1 = nI (SC r) := by rw [hτ, (s3.trans hs.2.1).n (by omega) (by omega)]; exact sc1
                have hsn : SC (finN (tk3 r) n) = SC r := (s3.trans hs.2.1).sc
                refine AtP.N rfl (v58 1 (by omega)) ?_
                rw [t1, hτ1]
                refine AtP.Bf rfl (fun h => absurd ((nI_leI (by omega) (by omega)).mp h) (by omega)) ?_
                refine AtP.Ci rfl (e_finishes (q := n) (by omega) (by rw [hτ]; exact fun hw => hs.1.sw (by rw [hsn]; omega) hw)) ?_
                have go : ∀ x : Int32, x = (if isFinO (τ 8 58) n then 1 else 0) → AtP mX7_passes 110 [some M, some (.inl (finC (tk3 r) n)), some (.inl (nI n))] [.inl x, .inl (finC (tk3 r) n)] (mR τ 58 (fin (τ 8 58) n)) (fun z => ∃ v σ1, z = evi v σ1 ∧ v = finC (tk3 r) (SC r) ∧ σ1 8 58 = tick r ∧ mfr σ σ1) := by
                  intro x hx
                  refine AtP.J rfl ?_
                  rw [nI_1]
                  have hfc : finC (tk3 r) n + x = finC (tk3 r) (n + 1) := by rw [finC, hx, hτ]
                  rw [hfc]
                  exact ih _ (by rw [mR_at, hτ]; rfl) (hf.trans mfr.R)
                by_cases hF : isFinO (τ 8 58) n
                · rw [if_pos hF]
                  refine AtP.Bf rfl (by decide) ?_
                  refine AtP.J rfl ?_
                  exact go 1 (by rw [if_pos hF])
                · rw [if_neg hF]
                  refine AtP.Bt rfl (rfl) ?_
                  refine AtP.F 110 [some M, some (.inl (finC (tk3 r) n)), some (.inl (nI n))] [.inl 0, .inl (finC (tk3 r) n)] _ rfl ?_
                  exact go 0 (by rw [if_neg hF])
            exact L3 0 (Nat.zero_le _) _ (by rw [mR_at]; rfl) (hf.trans mfr.R)
          · intro n hn ih τ hτ hf
            have hw := wrkN_ok (r := stvR (tk1 r)) hu.1 n (by rw [hs1.sc]; omega)
            have hτ1 : τ 8 58 1 = nI (SC r) := by rw [hτ, (hs1.trans hw.2.1).n (by omega) (by omega)]; exact sc1
            have hsn : SC (wrkN (stvR (tk1 r)) n) = SC r := (hs1.trans hw.2.1).sc
            refine AtP.N rfl (v58 1 (by omega)) ?_
            rw [t1, hτ1]
            refine AtP.Bf rfl (fun h => absurd ((nI_leI (by omega) (by omega)).mp h) (by omega)) ?_
            refine AtP.Cv rfl (e_works (q := n) (by omega) (by rw [hτ]; exact fun hw9 => ⟨(hw.1.sw (by rw [hsn]; omega) hw9).1, (hw.1.sw (by rw [hsn]; omega) hw9).2.1⟩)) ?_
            refine AtP.J rfl ?_
            rw [nI_1]
            exact ih _ (by rw [mR_at, hτ]; rfl) (hf.trans mfr.R)
        exact L2 0 (Nat.zero_le _) _ (by rw [mR_at]; rfl) (hf.trans mfr.R)
      rw [t10]
      by_cases hst : isStv (τ 8 58)
      · rw [if_pos hst]
        refine AtP.Bf rfl (by decide) ?_
        refine AtP.J rfl ?_
        exact stv 1 (by rw [if_pos hst])
      · rw [if_neg hst]
        refine AtP.Bt rfl (rfl) ?_
        refine AtP.F 47 [some M, some (.inl (nI (SC r))), none] [.inl 0, .inl (τ 8 58 10), .inl 10, .inr (8, 58)] τ rfl ?_
        exact stv 0 (by rw [if_neg hst])
    · intro n hn ih τ hτ hf
      have hb := (begN_ok ra n (by rw [rb.sc]; omega))
      have hτ1 : τ 8 58 1 = nI (SC r) := by rw [hτ, (rb.trans hb.2.1).n (by omega) (by omega)]; exact sc1
      refine AtP.N rfl (v58 1 (by omega)) ?_
      rw [t1, hτ1]
      refine AtP.Bf rfl (fun h => absurd ((nI_leI (by omega) (by omega)).mp h) (by omega)) ?_
      refine AtP.Cv rfl (e_begins (by rw [hτ]; exact hb.1) (q := n) (by omega)) ?_
      refine AtP.J rfl ?_
      rw [nI_1]
      exact ih _ (by rw [mR_at, hτ]; rfl) (hf.trans mfr.R)
  exact L1 0 (Nat.zero_le _) τ h58 hfr
