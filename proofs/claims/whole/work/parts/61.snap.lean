/-! ===== snapshots; one more prediction; a byte more ===== -/
section AGR
variable {r r' : Row}
theorem RIg.agr {m : Nat → Prop} (hr : RIg m r) (ha : ∀ j, j < 467 → r' j = r j) : RIg m r' := by
  have hpm := hr.pm
  have hom := hr.om
  have hsc := hr.sc
  have hs : sam1 r r' := ⟨ha _ (by omega), ha _ (by omega), fun n a b => ha _ (by omega)⟩
  have eom : OM r' = OM r := by unfold OM; rw [ha _ (by omega)]
  have epm : PM r' = PM r := by unfold PM; rw [ha _ (by omega)]
  obtain ⟨a0, a1, a2, a3, a4, a5, a6, a7, a8, a9, -⟩ := id hr
  refine hr.of1 hs (inR.eq (ha _ (by omega)) a0) (inR.eq (ha _ (by omega)) a3) (inR.eq (ha _ (by omega)) a4) (inR.eq (ha _ (by omega)) a5) (inR.eq (ha _ (by omega)) a6) (inR.eq (ha _ (by omega)) a7) (inR.eq (ha _ (by omega)) a8) (inR.eq (ha _ (by omega)) a9) (fun p hp hp2 => by omega) (fun i hi => ?_) (fun q hq => ?_)
  · exact hr.oS (by omega) hs (by omega) (fun w hw => ha _ (by omega)) (fun q hq => ha _ (by omega))
  · have h2 := hr.sta hq
    exact h2.same1 hr hs (by omega) (ha _ (by omega)) (inR.eq (ha _ (by omega)) h2.1) (inR.eq (ha _ (by omega)) h2.2.1) (fun hne w hw => by have := (h2.w hne).2.2.1; exact ha _ (by omega))
theorem Sh.agr {m : Nat → Prop} {σ : iM} {s : Nat} (h : Sh σ s r) (hr : RIg m r) (ha : ∀ j, j < 467 → r' j = r j) : Sh σ s r' := by
  have hpm := hr.pm
  have hom := hr.om
  have hsc := hr.sc
  have hs : sam1 r r' := ⟨ha _ (by omega), ha _ (by omega), fun n a b => ha _ (by omega)⟩
  have eom : OM r' = OM r := by unfold OM; rw [ha _ (by omega)]
  have epm : PM r' = PM r := by unfold PM; rw [ha _ (by omega)]
  refine h.of1 hr hs (fun p hp => ⟨fun _ => rfl, fun _ => rfl, fun _ => rfl⟩) (h.1.same (fun _ => rfl) (fun n hn => ha _ (by omega))) (fun q hq => ?_) (fun p hp hp2 => by omega) (fun i hi => ?_)
  · have h2 := h.2.1 q hq
    refine h2.same (fun _ _ => rfl) (fun w hw => ha _ (by omega)) ?_
    rw [h2.2.2.2.2.1, wtC_same hr hs eom q (fun i w hi hw => ha _ (by omega))]
  · exact h.ordS hr hs (by omega) (fun _ _ => rfl) (fun w hw => ha _ (by omega))
end AGR
section SNP
variable {σ : iM}
theorem v14 (n : Nat) (h : n < 2) : vp_in (nI n) (iN 14 0) := vin h (by show 2 < _; omega)
theorem v10 (s n : Nat) (h : n < 2) : vp_in (nI n) (iN 10 s) := vin h (by show 2 < _; omega)
theorem sv_same {τ : iM} {c : Nat} (hc : c < 2) (h : Sv σ c) (h1 : τ 10 1 c = σ 10 1 c) (h0 : τ 10 0 c = σ 10 0 c) (ha : ∀ j, j < 467 → cpR τ c j = cpR σ c j) (hf : ∀ k i j, ow2 (2 + c) k i → τ k i j = σ k i j) : Sv τ c := by
  unfold Sv
  rw [h1, h0]
  refine ⟨h.1, h.2.imp id (fun q => ⟨q.1, q.2.1.agr ha, by rw [ha 0 (by omega)]; exact q.2.2.1, ?_⟩)⟩
  exact (q.2.2.2.cell q.2.1 (fun j => hf _ _ _ (by unfold ow2 own; omega)) (fun q j hq => hf _ _ _ (by unfold ow2 own; omega)) (fun q j hq => hf _ _ _ (by unfold ow2 own; omega)) (fun q j hq => hf _ _ _ (by unfold ow2 own; omega)) (fun q j hq => hf _ _ _ (by unfold ow2 own; omega))).agr q.2.1 ha
theorem INV.sv {c : Nat} (h : INV σ) (hc : c < 2) : Sv σ c := by
  have : c = 0 ∨ c = 1 := by omega
  rcases this with rfl | rfl
  · exact h.2.2.2.2.1
  · exact h.2.2.2.2.2
theorem p_saveSnapshot (h : INV σ) (v : Int32) : OKi mX6_saveSnapshot mX7_saveSnapshot [.inl v] 1 σ := by
  by_cases hv : 0 ≤ v ∧ v ≤ 1
  · have hb := hv
    rw [fa_le, fa_le, show (0 : Int32).toInt = 0 from rfl, show (1 : Int32).toInt = 1 from rfl] at hb
    have ev := (inR.toN (x := v) (a := 0) (b := 1) hb (by omega) (by omega))
    generalize nn v = c at ev
    obtain ⟨ev1, ev2, ev3, ev4⟩ := ev
    subst ev1
    have hc : c < 2 := by omega
    refine OKi.mk (P := fun v9 σ9 => v9 = σ 8 58 0 ∧ ∃ σ8, σ9 = iU σ8 10 0 c 1 ∧ Sh σ8 (2 + c) (σ 8 58) ∧ cf2 (2 + c) σ σ8) ?_ ?_
    · show AtP mX6_saveSnapshot 0 [some X, some (.inl (nI c))] [] σ _
      refine AtP.Cv rfl (c_range hv) ?_
      refine AtP.N rfl (v14 c hc) ?_
      rw [nI_clamp (by omega)]
      refine AtP.CvP rfl (c_copyFrom h.2.2.1 h.1 (a := 2 + c) (b := 0) (by omega) (by omega) (by omega)) (fun σ9 h9 => ?_)
      obtain ⟨hS, hf⟩ := h9
      refine AtP.N rfl (v10 0 c hc) ?_
      rw [nI_clamp (by omega), show vp_nar .boolean 1 = 1 from by decide]
      refine AtP.R rfl ⟨_, _, rfl, ?_, σ9, rfl, hS, hf⟩
      rw [iU_ne (by omega), hf _ _ _ (by unfold ow2 own; omega), h.2.2.1.1.2.2.2.2.2.2.2.2.2.1]
    · rintro v1 σ1 ⟨rfl, σ8, rfl, hS, hf⟩
      show AtP mX7_saveSnapshot 0 [some M, some (.inl (nI c))] [] _ _
      refine AtP.Ci rfl (e_in1 hv) ?_
      refine AtP.Ci rfl (e_thr1 _ _) ?_
      refine AtP.Bt rfl (rfl) ?_
      refine AtP.Cv rfl (e_copies (a := 58) (ia := 0) (b := 61) (ib := c) (by decide) (by decide) (by show 467 * c + 467 ≤ 934; omega) (by decide) (by decide)) ?_
      refine AtP.N rfl (v10 1 c hc) ?_
      rw [nI_clamp (by omega), show vp_nar .boolean 1 = 1 from by decide]
      refine AtP.N rfl (v58 0 (by omega)) ?_
      have o : ∀ k i j, ¬ ow2 (2 + c) k i → ¬ (k = 10 ∧ j = c) → ¬ (k = 8 ∧ i = 61) → ¬ (k = 7 ∧ i = 0 ∧ j = 5) → iU (cpy (iU (iU σ8 10 0 c 1) 7 0 5 0) 58 0 61 c 467) 10 1 c 1 k i j = σ k i j := fun k i j a1 a2 a3 a4 => by
        rw [iU_ne (by omega), cpy_out (by omega), iU_ne (by omega), iU_ne (by omega)]; exact hf k i j a1
      have e58 : ∀ j, iU (cpy (iU (iU σ8 10 0 c 1) 7 0 5 0) 58 0 61 c 467) 10 1 c 1 8 58 j = σ 8 58 j := fun j => o _ _ _ (by unfold ow2 own; omega) (by omega) (by omega) (by omega)
      have e58' : iU (cpy (iU (iU σ8 10 0 c 1) 7 0 5 0) 58 0 61 c 467) 10 1 c 1 8 58 = σ 8 58 := funext e58
      have e61 : ∀ j, j < 467 → cpR (iU (cpy (iU (iU σ8 10 0 c 1) 7 0 5 0) 58 0 61 c 467) 10 1 c 1) c j = σ 8 58 j := fun j hj => by
        unfold cpR
        rw [iU_ne (by omega), cpy_in (by omega) (by omega), iU_ne (by omega), iU_ne (by omega), hf _ _ _ (by unfold ow2 own; omega)]
        congr 1; omega
      have hown : ∀ k i j, ow2 (2 + c) k i → iU (cpy (iU (iU σ8 10 0 c 1) 7 0 5 0) 58 0 61 c 467) 10 1 c 1 k i j = σ8 k i j := fun k i j a => by
        unfold ow2 own at a
        rw [iU_ne (by omega), cpy_out (by omega), iU_ne (by omega), iU_ne (by omega)]
      refine AtP.R rfl ⟨_, by rw [t0, e58], ?_, ?_⟩
      · rw [iU_ne (by omega), cpy_out (by omega)]; exact iU_same
      · unfold INV
        rw [e58']
        have sv : ∀ c', c' < 2 → Sv (iU (cpy (iU (iU σ8 10 0 c 1) 7 0 5 0) 58 0 61 c 467) 10 1 c 1) c' := by
          intro c' hc'
          by_cases ec : c' = c
          · subst ec
            have x0 : iU (cpy (iU (iU σ8 10 0 c' 1) 7 0 5 0) 58 0 61 c' 467) 10 1 c' 1 10 0 c' = 1 := by rw [iU_ne (by omega), cpy_out (by omega), iU_ne (by omega)]; exact iU_same
            refine ⟨by rw [x0]; exact iU_same, Or.inr ⟨x0, h.1.agr e61, by rw [e61 0 (by omega)]; exact h.2.1, ?_⟩⟩
            exact (hS.cell h.1 (fun j => hown _ _ _ (by unfold ow2 own; omega)) (fun q j hq => hown _ _ _ (by unfold ow2 own; omega)) (fun q j hq => hown _ _ _ (by unfold ow2 own; omega)) (fun q j hq => hown _ _ _ (by unfold ow2 own; omega)) (fun q j hq => hown _ _ _ (by unfold ow2 own; omega))).agr h.1 e61
          · refine sv_same hc' (h.sv hc') (o _ _ _ (by unfold ow2 own; omega) (by omega) (by omega) (by omega)) (o _ _ _ (by unfold ow2 own; omega) (by omega) (by omega) (by omega)) (fun j hj => ?_) (fun k i j a => ?_)
            · unfold cpR
              rw [iU_ne (by omega), cpy_out (by omega), iU_ne (by omega), iU_ne (by omega)]
              exact hf _ _ _ (by unfold ow2 own; omega)
            · refine o _ _ _ ?_ ?_ ?_ ?_
              · unfold ow2 own at a ⊢; omega
              · unfold ow2 own at a; omega
              · unfold ow2 own at a; omega
              · unfold ow2 own at a; omega
        refine ⟨h.1, h.2.1, ?_, ?_, sv 0 (by omega), sv 1 (by omega)⟩
        · exact h.2.2.1.cell h.1 (fun j => o _ _ _ (by unfold ow2 own; omega) (by omega) (by omega) (by omega)) (fun q j hq => o _ _ _ (by unfold ow2 own; omega) (by omega) (by omega) (by omega)) (fun q j hq => o _ _ _ (by unfold ow2 own; omega) (by omega) (by omega) (by omega)) (fun q j hq => o _ _ _ (by unfold ow2 own; omega) (by omega) (by omega) (by omega)) (fun q j hq => o _ _ _ (by unfold ow2 own; omega) (by omega) (by omega) (by omega))
        · have hd := h.2.2.2.1
          have e1 : iU (cpy (iU (iU σ8 10 0 c 1) 7 0 5 0) 58 0 61 c 467) 10 1 c 1 2 0 1 = σ 2 0 1 := o _ _ _ (by unfold ow2 own; omega) (by omega) (by omega) (by omega)
          unfold Rd
          rw [e1, o 7 0 7 (by unfold ow2 own; omega) (by omega) (by omega) (by omega), o 7 0 13 (by unfold ow2 own; omega) (by omega) (by omega) (by omega), o 7 0 14 (by unfold ow2 own; omega) (by omega) (by omega) (by omega), o 2 0 2 (by unfold ow2 own; omega) (by omega) (by omega) (by omega), o 2 0 4 (by unfold ow2 own; omega) (by omega) (by omega) (by omega)]
          refine ⟨hd.1, hd.2.1, fun i hi => ?_, hd.2.2.2⟩
          rw [o 8 56 i (by unfold ow2 own; omega) (by omega) (by omega) (by omega), o 9 0 i (by unfold ow2 own; omega) (by omega) (by omega) (by omega)]
          exact hd.2.2.1 i hi
  · refine OKi.t1 h (v := 0) ?_ (σ2 := iU σ 7 0 5 1) ?_ iU_same scr.T
    · show At mX6_saveSnapshot 0 [some X, some (.inl v)] [] σ _
      exact At.X rfl (c_range_no hv)
    · show At mX7_saveSnapshot 0 [some M, some (.inl v)] [] σ _
      refine At.Ci rfl (e_in0 hv) ?_
      refine At.Ci rfl (e_thr0 _ _) ?_
      refine At.Bf rfl (by decide) ?_
      exact At.R rfl
theorem p_restoreSnapshot (h : INV σ) (v : Int32) : OKi mX6_restoreSnapshot mX7_restoreSnapshot [.inl v] 1 σ := by
  by_cases hv : 0 ≤ v ∧ v ≤ 1
  · have hb := hv
    rw [fa_le, fa_le, show (0 : Int32).toInt = 0 from rfl, show (1 : Int32).toInt = 1 from rfl] at hb
    have ev := (inR.toN (x := v) (a := 0) (b := 1) hb (by omega) (by omega))
    generalize nn v = c at ev
    obtain ⟨ev1, ev2, ev3, ev4⟩ := ev
    subst ev1
    have hc : c < 2 := by omega
    obtain ⟨w1, w2⟩ := h.sv hc
    rcases w2 with w2 | ⟨w2, w3, w4, w5⟩
    · refine OKi.ask (-1) h ?_ ?_
      · show At mX6_restoreSnapshot 0 [some X, some (.inl (nI c))] [] σ _
        refine At.Cv rfl (c_range hv) ?_
        refine At.N rfl (v10 0 c hc) ?_
        rw [nI_clamp (by omega)]
        refine At.Bt rfl (w2) ?_
        exact At.R rfl
      · show At mX7_restoreSnapshot 0 [some M, some (.inl (nI c))] [] σ _
        refine At.Ci rfl (e_in1 hv) ?_
        refine At.Ci rfl (e_thr1 _ _) ?_
        refine At.Bt rfl (rfl) ?_
        refine At.N rfl (v10 1 c hc) ?_
        rw [nI_clamp (by omega)]
        refine At.Bt rfl (by rw [iU_ne (by omega), w1]; exact w2) ?_
        exact At.R rfl
    · have n1 : ¬ (1 : Int32) = 0 := by decide
      refine OKi.mk (P := fun v9 σ9 => v9 = cpR σ c 0 ∧ Sh σ9 0 (cpR σ c) ∧ cf2 0 σ σ9) ?_ ?_
      · show AtP mX6_restoreSnapshot 0 [some X, some (.inl (nI c))] [] σ _
        refine AtP.Cv rfl (c_range hv) ?_
        refine AtP.N rfl (v10 0 c hc) ?_
        rw [nI_clamp (by omega)]
        refine AtP.Bf rfl (by rw [w2]; exact n1) ?_
        refine AtP.N rfl (v14 c hc) ?_
        rw [nI_clamp (by omega)]
        refine AtP.CvP rfl (c_copyFrom w5 w3 (a := 0) (b := 2 + c) (by omega) (by omega) (by omega)) (fun σ9 h9 => ?_)
        obtain ⟨hS, hf⟩ := h9
        exact AtP.R rfl (⟨_, _, rfl, hS.1.2.2.2.2.2.2.2.2.2.1, hS, hf⟩)
      · rintro v1 σ1 ⟨rfl, hS, hf⟩
        show AtP mX7_restoreSnapshot 0 [some M, some (.inl (nI c))] [] _ _
        refine AtP.Ci rfl (e_in1 hv) ?_
        refine AtP.Ci rfl (e_thr1 _ _) ?_
        refine AtP.Bt rfl (rfl) ?_
        refine AtP.N rfl (v10 1 c hc) ?_
        rw [nI_clamp (by omega)]
        refine AtP.Bf rfl (by rw [iU_ne (by omega), hf _ _ _ (by unfold ow2 own; omega), w1, w2]; exact n1) ?_
        refine AtP.Cv rfl (e_copies (a := 61) (ia := c) (b := 58) (ib := 0) (by decide) (by show 467 * c + 467 ≤ 934; omega) (by decide) (by decide) (by decide)) ?_
        refine AtP.N rfl (v58 0 (by omega)) ?_
        have e58 : ∀ j, j < 467 → cpy (iU σ1 7 0 5 0) 61 c 58 0 467 8 58 j = cpR σ c j := fun j hj => by
          unfold cpR
          rw [cpy_in (by omega) (by omega), iU_ne (by omega), hf _ _ _ (by unfold ow2 own; omega)]
          congr 1
        refine AtP.R rfl ⟨_, by rw [t0, e58 0 (by omega)], ?_, ?_⟩
        · rw [cpy_out (by omega)]; exact iU_same
        · refine h.chg ((hf.chg.trans scr.T.chg).trans (fun k i j a => cpy_out (fun z => a (Or.inr (Or.inl ⟨z.1, z.2.1⟩))))) (w3.agr e58) (by rw [e58 0 (by omega)]; exact w4) ?_
          refine Sh.agr ?_ w3 e58
          exact hS.cell w3 (fun j => (cpy_out (by omega)).trans (iU_ne (by omega))) (fun q j hq => (cpy_out (by omega)).trans (iU_ne (by omega))) (fun q j hq => (cpy_out (by omega)).trans (iU_ne (by omega))) (fun q j hq => (cpy_out (by omega)).trans (iU_ne (by omega))) (fun q j hq => (cpy_out (by omega)).trans (iU_ne (by omega)))
  · refine OKi.t1 h (v := 0) ?_ (σ2 := iU σ 7 0 5 1) ?_ iU_same scr.T
    · show At mX6_restoreSnapshot 0 [some X, some (.inl v)] [] σ _
      exact At.X rfl (c_range_no hv)
    · show At mX7_restoreSnapshot 0 [some M, some (.inl v)] [] σ _
      refine At.Ci rfl (e_in0 hv) ?_
      refine At.Ci rfl (e_thr0 _ _) ?_
      refine At.Bf rfl (by decide) ?_
      exact At.R rfl
theorem p_finishIfAdded (h : INV σ) (o q d : Int32) : OKi mX6_finishIfAdded mX7_finishIfAdded [.inl o, .inl q, .inl d] 2 σ := by
  have hpm := h.1.pm
  have hom := h.1.om
  have h30 := h.2.1
  rcases ix_cases (PM (σ 8 58)) (by omega) o with ⟨i, hi, rfl⟩ | ho
  · have hP := h.2.2.1.2.2.1 i hi
    have hI := h.1.prd hi
    by_cases hq : 1 ≤ q ∧ q ≤ 50
    · by_cases hd : 0 ≤ d ∧ d ≤ 30000
      · by_cases h24 : OM (σ 8 58) = 24
        · refine OKi.ask (-2) h ?_ ?_
          · show At mX6_finishIfAdded 0 [some X, some (.inl (nI i)), some (.inl q), some (.inl d), none, none] [] σ _
            refine At.Cr rfl (c_product h hi) (show 6 * 0 + i < 24 by omega) ?_
            refine At.Cv rfl (c_range hq) ?_
            refine At.Cv rfl (c_range hd) ?_
            refine At.Bf rfl (by rw [h.2.2.1.om h.1, h24]; decide) ?_
            exact At.R rfl
          · show At mX7_finishIfAdded 0 [some M, some (.inl (nI i)), some (.inl q), some (.inl d), none, none] [] σ _
            refine At.Ci rfl (e_isNew1 rfl h.1 hi hq hd) ?_
            refine At.Bf rfl (by decide) ?_
            refine At.Ci rfl (e_noAdding (by rw [U7_r]; exact h.1) (by rw [U7_r]; exact hi) q) ?_
            rw [U7_r, show noA (σ 8 58) i q = -2 from if_pos h24]
            refine At.Bf rfl (by decide) ?_
            exact At.R rfl
        · by_cases hw : σ 8 58 7 < rPt (σ 8 58) i (dS (σ 8 58) i) * q
          · refine OKi.ask (-4) h ?_ ?_
            · show At mX6_finishIfAdded 0 [some X, some (.inl (nI i)), some (.inl q), some (.inl d), none, none] [] σ _
              refine At.Cr rfl (c_product h hi) (show 6 * 0 + i < 24 by omega) ?_
              refine At.Cv rfl (c_range hq) ?_
              refine At.Cv rfl (c_range hd) ?_
              refine At.Bt rfl (by rw [h.2.2.1.om h.1]; exact (nI_lt_iff (by omega) (b := 24) (by omega)).mpr (by omega)) ?_
              refine At.Ci rfl (c_drumTime hP hI (by omega) (by omega)) ?_
              refine At.Bf rfl (by rw [h.2.2.1.1.2.2.2.2.2.2.1]; exact lt_nle hw) ?_
              exact At.R rfl
            · show At mX7_finishIfAdded 0 [some M, some (.inl (nI i)), some (.inl q), some (.inl d), none, none] [] σ _
              refine At.Ci rfl (e_isNew1 rfl h.1 hi hq hd) ?_
              refine At.Bf rfl (by decide) ?_
              refine At.Ci rfl (e_noAdding (by rw [U7_r]; exact h.1) (by rw [U7_r]; exact hi) q) ?_
              rw [U7_r, show noA (σ 8 58) i q = -4 from by unfold noA; rw [if_neg h24, if_pos hw]]
              refine At.Bf rfl (by decide) ?_
              exact At.R rfl
          · have hb := hq
            have hb2 := hd
            rw [fa_le, fa_le] at hb hb2
            have hlt : OM (σ 8 58) < 24 := by omega
            have hR := lay_RI h.1 hlt hi (q := q) (d := d) hb hb2
            have el0 : layR (σ 8 58) i q d 0 = σ 8 58 0 := lay_n (by omega) (by omega)
            have elo := lay_om (p := i) (q := q) (d := d) hom.1 hlt
            obtain ⟨a, b, c⟩ := tkN_ok hR 2000 (by rw [el0]; omega)
            refine OKi.rd (rO (tkN (layR (σ 8 58) i q d) 2000) (OM (σ 8 58)) 11) h ?_ (fun τ hτ e => ?_)
            · show AtP mX6_finishIfAdded 0 [some X, some (.inl (nI i)), some (.inl q), some (.inl d), none, none] [] σ _
              refine AtP.Cr rfl (c_product h hi) (show 6 * 0 + i < 24 by omega) ?_
              refine AtP.Cv rfl (c_range hq) ?_
              refine AtP.Cv rfl (c_range hd) ?_
              refine AtP.Bt rfl (by rw [h.2.2.1.om h.1]; exact (nI_lt_iff (by omega) (b := 24) (by omega)).mpr hlt) ?_
              refine AtP.Ci rfl (c_drumTime hP hI (by omega) (by omega)) ?_
              refine AtP.Bt rfl (by rw [h.2.2.1.1.2.2.2.2.2.2.1]; exact fa_of_nlt hw) ?_
              refine AtP.CvP rfl (c_copyFrom h.2.2.1 h.1 (a := 1) (b := 0) (by omega) (by omega) (by omega)) (fun σ9 h9 => ?_)
              obtain ⟨hS, hf⟩ := h9
              refine AtP.Ci rfl (c_enter hS h.1 (by omega) hlt hi q d) ?_
              refine AtP.CvP rfl (c_pass (hS.ent h.1 (by omega) hlt hi q d) hR (by omega) (n := 2000) (by rw [el0]; omega)) (fun σ9 h9 => ?_)
              obtain ⟨hS2, hf2⟩ := h9
              refine AtP.N rfl (v12 1 _ hlt) ?_
              rw [nI_clamp (by omega)]
              have hO2 := hS2.2.2.2 (OM (σ 8 58)) (by rw [b.om, elo]; omega)
              exact AtP.R rfl (⟨_, by rw [hO2.2.2.2.2.2.2.2.2.2.2.2.2.1], (hf.scr.trans (ent_cfr hlt).w.scr).trans hf2.w.scr⟩)
            · show AtP mX7_finishIfAdded 0 [some M, some (.inl (nI i)), some (.inl q), some (.inl d), none, none] [] _ _
              rw [← e] at hi hom h30 h24 hw hlt hR el0 elo ⊢
              have e9 : iU τ 7 0 5 0 8 58 = τ 8 58 := U7_r
              refine AtP.Ci rfl (e_isNew1 rfl hτ.1 hi hq hd) ?_
              refine AtP.Bf rfl (by decide) ?_
              refine AtP.Ci rfl (e_noAdding (by rw [e9]; exact hτ.1) (by rw [e9]; exact hi) q) ?_
              rw [e9, show noA (τ 8 58) i q = 0 from by unfold noA; rw [if_neg h24, if_neg hw]]
              refine AtP.Bt rfl (rfl) ?_
              refine AtP.Cv rfl (e_leaves) ?_
              have ps : PR τ (cpy (iU τ 7 0 5 0) 58 0 60 0 467) := PR.start
              generalize cpy (iU τ 7 0 5 0) 58 0 60 0 467 = υ at ps ⊢
              refine AtP.Cv rfl (e_laysOrder 58 rfl (by rw [ps.1]; exact hom.1) (by rw [ps.1]; exact hlt) i q d) ?_
              rw [ps.1]
              refine AtP.N rfl (v58 4 (by omega)) ?_
              rw [t4, mR_at, lay_4, hom.1]
              have hen := e_endOf (τ := mR υ 58 (layR (τ 8 58) i q d)) (by rw [mR_at]; exact hR) (by rw [mR_at, el0]; omega) (i := OM (τ 8 58)) (by rw [mR_at, elo]; omega)
              rw [show nI (OM (τ 8 58)) = nI (OM (τ 8 58)) + 1 - 1 from by rw [Int32.add_sub_cancel]] at hen
              refine AtP.CiP rfl (hen) (fun v9 σ9 h9 => ?_)
              obtain ⟨hw9, g1, g2⟩ := h9
              rw [hw9]
              clear hw9
              rw [mR_at] at g1 ⊢
              refine AtP.Cv rfl (e_comesBack) ?_
              have g60 : ∀ j, j < 467 → _ := fun j hj => ((g2 8 60 j (by omega) (by omega)).trans (mR_ne (by omega))).trans (ps.2.1 j hj)
              have g58 := cb_58 (r := τ 8 58) g60 (fun j hj => (g1 j hj).trans (lay_n (by omega) (by omega)))
              refine AtP.R rfl ⟨_, rfl, ?_, ?_⟩
              · rw [cpy_out (by omega), g2 _ _ _ (by omega) (by omega), mR_ne (by omega)]; exact ps.2.2.1
              · intro k i' j' hk
                by_cases c58 : k = 8 ∧ i' = 58
                · rw [c58.1, c58.2, g58]
                · rw [cpy_out (by omega), g2 _ _ _ (fun z => hk (Or.inr (Or.inr (Or.inr (Or.inr ⟨z.1, by omega⟩))))) (fun z => hk (Or.inr (Or.inr (Or.inr (Or.inl ⟨z.1, by omega⟩))))), mR_ne (by omega)]
                  exact ps.scr k i' j' hk
      · refine OKi.t1 h (v := 0) ?_ (σ2 := iU σ 7 0 5 2) ?_ iU_same scr.T
        · show At mX6_finishIfAdded 0 [some X, some (.inl (nI i)), some (.inl q), some (.inl d), none, none] [] σ _
          refine At.Cr rfl (c_product h hi) (show 6 * 0 + i < 24 by omega) ?_
          refine At.Cv rfl (c_range hq) ?_
          exact At.X rfl (c_range_no hd)
        · show At mX7_finishIfAdded 0 [some M, some (.inl (nI i)), some (.inl q), some (.inl d), none, none] [] σ _
          refine At.Ci rfl (e_isNew2 rfl h.1 hi (fun z => hd z.2)) ?_
          refine At.Bt rfl (rfl) ?_
          exact At.R rfl
    · refine OKi.t1 h (v := 0) ?_ (σ2 := iU σ 7 0 5 2) ?_ iU_same scr.T
      · show At mX6_finishIfAdded 0 [some X, some (.inl (nI i)), some (.inl q), some (.inl d), none, none] [] σ _
        refine At.Cr rfl (c_product h hi) (show 6 * 0 + i < 24 by omega) ?_
        exact At.X rfl (c_range_no hq)
      · show At mX7_finishIfAdded 0 [some M, some (.inl (nI i)), some (.inl q), some (.inl d), none, none] [] σ _
        refine At.Ci rfl (e_isNew2 rfl h.1 hi (fun z => hq z.1)) ?_
        refine At.Bt rfl (rfl) ?_
        exact At.R rfl
  · refine OKi.t0 h (v := 0) ?_ ?_
    · show At mX6_finishIfAdded 0 [some X, some (.inl o), some (.inl q), some (.inl d), none, none] [] σ _
      exact At.X rfl (c_product_no h ho)
    · show At mX7_finishIfAdded 0 [some M, some (.inl o), some (.inl q), some (.inl d), none, none] [] σ _
      refine At.Ci rfl (e_isNew0 rfl h.1 ho q d) ?_
      refine At.Bt rfl (rfl) ?_
      exact At.R rfl
end SNP
