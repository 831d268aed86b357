/-! ===== the class reads a step ===== -/
section CSTP
variable {σ σ0 : iM} {T : Row} {n a b st k P : Nat} {r so : Row}
theorem ow_p {p : Nat} (hp : p < 6) : ow2 1 1 (6 * 1 + p) := Or.inr (Or.inl ⟨rfl, by omega, by omega⟩)
theorem ow_a {p : Nat} (hp : p < 6) : ow2 1 8 (2 * (6 * 1 + p)) := Or.inr (Or.inr ⟨rfl, by omega, by omega⟩)
theorem ow_b {p : Nat} (hp : p < 6) : ow2 1 8 (2 * (6 * 1 + p) + 1) := Or.inr (Or.inr ⟨rfl, by omega, by omega⟩)
theorem c_stFin {υ : iM} {V V2 d2 : Nat} (f4 : OKc σ0 υ T n d2 st r so) (hr : RI r) (eP : P = PM r) (hp : P < 6) (hk6 : k < 6) (hc3 : PGc υ P r k) (ω : iM) (ho : ∀ k' i j, ¬ (k' = 1 ∧ i = 6 * 1 + P ∧ j = 3) → ω k' i j = υ k' i j) (h3 : ω 1 (6 * 1 + P) 3 = (if hsD (stU r k V V2) P (k + 1) = true then nI (dS (stU r k V V2) P) else -1)) : AtP mX2_readStep 100 [some Rc, some Y1, some (.inr (1, 6 * 1 + P)), some (.inl (nI a)), some (.inl (nI V)), some (.inl (nI V2))] [] (iU ω 8 (2 * (6 * 1 + P)) k (nI V)) (fun z => ∃ σ1, z = evv σ1 ∧ OKc σ0 σ1 T n d2 st (stU r k V V2) so ∧ PGc σ1 P (stU r k V V2) (k + 1)) := by
  have epm := stU_pm (r := r) (k := k) (q := V) (t := V2) |>.mpr trivial
  have eω : ω 1 (6 * 1 + P) 2 = nI k := (ho _ _ _ (by omega)).trans hc3.1
  have hN := iN_p 1 P (by omega) hp
  refine AtP.N rfl (by rw [iU_ne (by omega), eω, hN.2]; exact vin hk6 (by omega)) ?_
  rw [iU_ne (by omega), eω, nI_clamp (by omega)]
  have ev2 : iU (iU ω 8 (2 * (6 * 1 + P)) k (nI V)) 8 (2 * (6 * 1 + P) + 1) k (nI V2) 1 (6 * 1 + P) 2 + 1 = nI (k + 1) := by
    rw [iU_ne (by omega), iU_ne (by omega), eω, nI_1]
  refine AtP.R rfl ⟨_, rfl, ?_⟩
  rw [ev2]
  have o : ∀ k' i j, ¬ (k' = 1 ∧ i = 6 * 1 + P) → ¬ (k' = 8 ∧ (i = 2 * (6 * 1 + P) ∨ i = 2 * (6 * 1 + P) + 1)) → iU (iU (iU ω 8 (2 * (6 * 1 + P)) k (nI V)) 8 (2 * (6 * 1 + P) + 1) k (nI V2)) 1 (6 * 1 + P) 2 (nI (k + 1)) k' i j = υ k' i j := fun k' i j x y => by
    rw [iU_ne (by omega), iU_ne (by omega), iU_ne (by omega)]; exact ho _ _ _ (by omega)
  have oa : ∀ j, j ≠ k → iU (iU (iU ω 8 (2 * (6 * 1 + P)) k (nI V)) 8 (2 * (6 * 1 + P) + 1) k (nI V2)) 1 (6 * 1 + P) 2 (nI (k + 1)) 8 (2 * (6 * 1 + P)) j = υ 8 (2 * (6 * 1 + P)) j := fun j hj => by
    rw [iU_ne (by omega), iU_ne (by omega), iU_ne (by omega)]; exact ho _ _ _ (by omega)
  have ob : ∀ j, j ≠ k → iU (iU (iU ω 8 (2 * (6 * 1 + P)) k (nI V)) 8 (2 * (6 * 1 + P) + 1) k (nI V2)) 1 (6 * 1 + P) 2 (nI (k + 1)) 8 (2 * (6 * 1 + P) + 1) j = υ 8 (2 * (6 * 1 + P) + 1) j := fun j hj => by
    rw [iU_ne (by omega), iU_ne (by omega), iU_ne (by omega)]; exact ho _ _ _ (by omega)
  have oa2 : iU (iU (iU ω 8 (2 * (6 * 1 + P)) k (nI V)) 8 (2 * (6 * 1 + P) + 1) k (nI V2)) 1 (6 * 1 + P) 2 (nI (k + 1)) 8 (2 * (6 * 1 + P)) k = nI V := by
    rw [iU_ne (by omega), iU_ne (by omega), iU_same]
  have ob2 : iU (iU (iU ω 8 (2 * (6 * 1 + P)) k (nI V)) 8 (2 * (6 * 1 + P) + 1) k (nI V2)) 1 (6 * 1 + P) 2 (nI (k + 1)) 8 (2 * (6 * 1 + P) + 1) k = nI V2 := by
    rw [iU_ne (by omega), iU_same]
  have oc : iU (iU (iU ω 8 (2 * (6 * 1 + P)) k (nI V)) 8 (2 * (6 * 1 + P) + 1) k (nI V2)) 1 (6 * 1 + P) 2 (nI (k + 1)) 1 (6 * 1 + P) 2 = nI (k + 1) := iU_same
  have od : iU (iU (iU ω 8 (2 * (6 * 1 + P)) k (nI V)) 8 (2 * (6 * 1 + P) + 1) k (nI V2)) 1 (6 * 1 + P) 2 (nI (k + 1)) 1 (6 * 1 + P) 3 = ω 1 (6 * 1 + P) 3 := by
    rw [iU_ne (by omega), iU_ne (by omega), iU_ne (by omega)]
  have hω : cfL σ0 ω := ⟨fun k' i j x y z => (ho _ _ _ (fun w => x (by rw [w.1, w.2.1]; exact ow_p hp))).trans (f4.2.2.2.2.2.1 k' i j x y z), fun z => by
    rw [ho _ _ _ (by omega)] at z ⊢
    exact f4.2.2.2.2.2.2 z⟩
  have hcf := ((hω.Uo (j := k) (x := nI V) (ow_a hp)).Uo (j := k) (x := nI V2) (ow_b hp)).Uo (j := 2) (x := nI (k + 1)) (ow_p hp)
  generalize iU (iU (iU ω 8 (2 * (6 * 1 + P)) k (nI V)) 8 (2 * (6 * 1 + P) + 1) k (nI V2)) 1 (6 * 1 + P) 2 (nI (k + 1)) = ψ at *
  refine ⟨?_, ?_⟩
  · exact f4.Sh' (stU_Sh f4.2.2.2.1 hr (by omega) hk6 (fun i j => o _ _ _ (by omega) (by omega)) (fun i j => o _ _ _ (by omega) (by omega)) (fun i j => o _ _ _ (by omega) (by omega)) (fun p j hp' => o _ _ _ (by omega) (by omega)) (fun x j hx => o _ _ _ (by omega) (by omega))) (by unfold OM; rw [stU_n (by omega) hk6]) (fun j => o _ _ _ (by omega) (by omega)) (fun j => o _ _ _ (by omega) (by omega)) (fun j => o _ _ _ (by omega) (by omega)) hcf
  · have s1 : rPs (stU r k V V2) P k = nI V := by rw [eP]; exact stU_s
    have s2 : rPt (stU r k V V2) P k = nI V2 := by rw [eP]; exact stU_t
    have s3 : ∀ j, j < k → rPs (stU r k V V2) P j = rPs r P j ∧ rPt (stU r k V V2) P j = rPt r P j := fun j hj => by rw [eP]; exact stU_so hj
    refine ⟨oc, od.trans h3, fun j hj => ?_⟩
    by_cases ej : j = k
    · rw [ej, s1, s2]; exact ⟨oa2, ob2⟩
    · rw [(s3 j (by omega)).1, (s3 j (by omega)).2, oa j ej, ob j ej]
      exact hc3.2.2 j (by omega)

theorem c_rdStep (h : OKc σ0 σ T n a st r so) (hr : RI r) (eP : P = PM r) (hp : P < 6) (hk : k ≤ 6) (hg : pgI r k) (hc : PGc σ P r k) (ha : nmA T n a = a) : EvP mX2_readStep [Rc, Y1, .inr (1, 6 * 1 + P)] σ (fun z => ∃ σ1, z = evv σ1 ∧ (match stp1 T n a r k with | .inl (kd, q) => ER σ0 σ1 T n st kd q | .inr (a4, r') => OKc σ0 σ1 T n a4 st r' so ∧ PGc σ1 P r' (k + 1))) := by
  have hsc := hr.sc
  have hdr := hr.dr
  have e1m : nI (SC r) - 1 = nI (SC r - 1) := pk_sub (b := 1) (by omega)
  have e1t : (nI (SC r - 1)).toInt = (SC r : Int) - 1 := by rw [nI_toInt (by omega)]; omega
  have esc : σ 4 1 4 = nI (SC r) := h.2.2.2.1.sc hr
  have hz : (0 : Int32).toInt = 0 := rfl
  have hat := h.1.2.2.1
  show AtP mX2_readStep 0 [some Rc, some Y1, some (.inr (1, 6 * 1 + P)), none, none, none] [] σ _
  unfold stp1
  rw [← eP]
  rcases c_num h hr (lo := 0) (hi := nI (SC r - 1)) (by decide) (by omega) with ⟨V, d, e, e1, e2, e3, e4⟩ | ⟨kd, q, σ1, e, e1, e2⟩
  · rw [hz, e1t] at e
    rw [← e1m, ← esc] at e3
    rw [e]
    dsimp only
    refine AtP.Ci rfl (e3) ?_
    rw [hat]
    have hV : V < SC r := by omega
    have hc2 : PGc (iU σ 2 0 5 (nI d)) P r k := hc.at
    have ed2 : iU σ 2 0 5 (nI d) 4 1 7 = r 2 := e4.2.2.2.1.1.2.2.2.1
    generalize iU σ 2 0 5 (nI d) = υ at e4 hc2 ed2 ⊢
    by_cases cA : nI V = r 2 ∧ hsD r P k = true
    · rw [if_pos cA, ha]
      have hne : ¬ υ 1 (6 * 1 + P) 3 = -1 := by
        rw [hc2.2.1, if_pos cA.2]
        obtain ⟨j, hj, ej⟩ := (hsD_iff k).mp cA.2
        rw [eP] at ej ⊢
        have := dS_pg hg hk hj ej
        exact nI_m1 (by omega)
      refine AtP.Bt rfl (by rw [ed2]; exact cA.1) ?_
      refine AtP.Bf rfl (hne) ?_
      refine AtP.Cv rfl (c_fail0 e4.2.1 3 _) ?_
      have g := ER.mk (σ0 := σ0) (k := 3) (q := a) e4.1 (by decide) e4.2.2.1 e4.2.2.2.2.2
      exact ⟨_, ⟨_, rfl, g⟩, c_stE g.ne⟩
    · rw [if_neg cA]
      have to41 : AtP mX2_readStep 41 [some Rc, some Y1, some (.inr (1, 6 * 1 + P)), some (.inl (nI a)), some (.inl (nI V)), none] [] υ (fun z => ∃ σ1, z = evv σ1 ∧ (match (if k = 6 then .inl (4, nmA T n a) else (match nmb T n 1 20 d with | .inl e => .inl e | .inr (t, a4) => .inr (a4, stU r k V t)) : (Int32 × Nat) ⊕ (Nat × Row)) with | .inl (kd, q) => ER σ0 σ1 T n st kd q | .inr (a4, r') => OKc σ0 σ1 T n a4 st r' so ∧ PGc σ1 P r' (k + 1))) := by
        by_cases c6 : k = 6
        · rw [if_pos c6, ha]
          refine AtP.Bf rfl (by rw [hc2.1, c6]; decide) ?_
          refine AtP.Cv rfl (c_fail0 e4.2.1 4 _) ?_
          have g := ER.mk (σ0 := σ0) (k := 4) (q := a) e4.1 (by decide) e4.2.2.1 e4.2.2.2.2.2
          refine AtP.Ci rfl (c_rnE g.ne _ _) ?_
          refine AtP.Bf rfl (g.ne) ?_
          exact AtP.R rfl (⟨_, rfl, g⟩)
        · rw [if_neg c6]
          have hk6 : k < 6 := by omega
          refine AtP.Bt rfl (by rw [hc2.1]; exact (nI_lt_iff (by omega) (b := 6) (by omega)).mpr hk6) ?_
          rcases c_num e4 hr (lo := 1) (hi := 20) (by decide) (by decide) with ⟨V2, d2, f, f1, f2, f3, f4⟩ | ⟨kd, q, σ1, f, f1, f2⟩
          · rw [show nmb T n 1 20 d = .inr (V2, d2) from f]
            dsimp only
            refine AtP.Ci rfl (f3) ?_
            have hc3 : PGc (iU υ 2 0 5 (nI d2)) P r k := hc2.at
            have ed3 : iU υ 2 0 5 (nI d2) 4 1 7 = r 2 := f4.2.2.2.1.1.2.2.2.1
            generalize iU υ 2 0 5 (nI d2) = υ at f4 hc3 ed3 ⊢
            have f1 : 1 ≤ V2 := by have : (1 : Int32).toInt = 1 := rfl; omega
            have f2 : V2 ≤ 20 := by have : (20 : Int32).toInt = 20 := rfl; omega
            have hg' := hg.step hr (by omega) hk6 hV ⟨f1, f2⟩ (by rw [← eP]; exact cA)
            have epm := stU_pm (r := r) (k := k) (q := V) (t := V2) |>.mpr trivial
            have e2' : stU r k V V2 2 = r 2 := stU_n (by omega) hk6
            refine AtP.Bt rfl (f4.2.1) ?_
            have s1 : rPs (stU r k V V2) P k = nI V := by rw [eP]; exact stU_s
            have s3 : ∀ j, j < k → rPs (stU r k V V2) P j = rPs r P j := fun j hj => by rw [eP]; exact (stU_so hj).1
            have hsk : hsD (stU r k V V2) P k = hsD r P k := by
              refine Bool.eq_iff_iff.mpr ?_
              rw [hsD_iff, hsD_iff, e2']
              exact ⟨fun ⟨j, x, y⟩ => ⟨j, x, by rw [s3 j x] at y; exact y⟩, fun ⟨j, x, y⟩ => ⟨j, x, by rw [s3 j x]; exact y⟩⟩
            rw [← eP] at epm
            refine AtP.B rfl (fun hdm => ?_) (fun hdm => ?_)
            · rw [ed3] at hdm
              have hnd : hsD r P k = false := by
                cases hh : hsD r P k with
                | false => rfl
                | true => exact absurd ⟨hdm, hh⟩ cA
              have hd1 : hsD (stU r k V V2) P (k + 1) = true := by rw [hsD, s1, e2', decide_eq_true hdm, Bool.or_true]
              have hds : dS (stU r k V V2) P = k := by
                have := dS_pg hg' (by omega) (j := k) (by omega) (by rw [epm, e2', s1]; exact hdm)
                rw [epm] at this
                exact this
              have eω : iU υ 1 (6 * 1 + P) 3 (υ 1 (6 * 1 + P) 2) 1 (6 * 1 + P) 2 = nI k := by rw [iU_ne (by omega)]; exact hc3.1
              refine AtP.N rfl (by rw [eω, (iN_p 1 P (by omega) hp).1]; exact vin hk6 (by omega)) ?_
              rw [eω, nI_clamp (by omega)]
              refine c_stFin (a := a) (V := V) (V2 := V2) f4 hr eP hp hk6 hc3 (iU υ 1 (6 * 1 + P) 3 (υ 1 (6 * 1 + P) 2)) (fun k' i j x => iU_ne x) ?_
              rw [iU_same, if_pos hd1, hds]; exact hc3.1
            · rw [ed3] at hdm
              refine AtP.N rfl (by rw [hc3.1, (iN_p 1 P (by omega) hp).1]; exact vin hk6 (by omega)) ?_
              rw [hc3.1, nI_clamp (by omega)]
              refine c_stFin (a := a) (V := V) (V2 := V2) f4 hr eP hp hk6 hc3 υ (fun _ _ _ _ => rfl) ?_
              rw [hc3.2.1, hsD, hsk, s1, e2', decide_eq_false hdm, Bool.or_false]
              cases hh : hsD r P k with
              | false => rfl
              | true =>
                obtain ⟨j, hj, ej⟩ := (hsD_iff k).mp hh
                have d1 := dS_pg hg hk hj (by rw [← eP]; exact ej)
                have d2' := dS_pg hg' (by omega) (j := j) (by omega) (by rw [epm, e2', s3 j hj]; exact ej)
                rw [epm] at d2'
                rw [← eP] at d1
                rw [d1, d2']
          · rw [show nmb T n 1 20 d = .inl (kd, q) from f]
            dsimp only
            refine AtP.Ci rfl (f1) ?_
            refine AtP.Bf rfl (f2.ne) ?_
            exact AtP.R rfl (⟨_, rfl, f2⟩)
      refine AtP.B rfl (fun hdm => ?_) (fun hdm => ?_)
      · rw [ed2] at hdm
        have hnd : ¬ hsD r P k = true := fun z => cA ⟨hdm, z⟩
        refine AtP.Bt rfl (by rw [hc2.2.1, if_neg hnd]) ?_
        exact to41
      · exact to41
  · rw [hz, e1t] at e
    rw [← e1m, ← esc] at e1
    rw [e]
    dsimp only
    refine AtP.Ci rfl (e1) ?_
    have hne : ¬ (-1 : Int32) = σ1 4 1 7 ∨ True := Or.inr trivial
    refine AtP.B rfl (fun hdm => ?_) (fun hdm => ?_)
    · refine AtP.B rfl (fun hq => ?_) (fun hq => ?_)
      · exact ⟨_, ⟨_, rfl, e2⟩, c_stE e2.ne⟩
      · refine AtP.Cv rfl (c_fail1 e2.ne _ _) ?_
        exact ⟨_, ⟨_, rfl, e2⟩, c_stE e2.ne⟩
    · exact ⟨_, ⟨_, rfl, e2⟩, c_stE e2.ne⟩
end CSTP
