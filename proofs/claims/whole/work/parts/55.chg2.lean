/-! ===== stop, cancel, due, expedite ===== -/
section CH2
variable {σ : iM}
theorem p_stop (h : INV σ) (o v : Int32) : OKi mX6_stop mX7_stop [.inl o, .inl v] 2 σ := by
  have hsc := h.1.sc
  have hpm := h.1.pm
  have hom := h.1.om
  rcases ix_cases (SC (σ 8 58)) (by omega) o with ⟨q, hq, rfl⟩ | ho
  · by_cases hv : 0 ≤ v ∧ v ≤ 500
    · have hb := hv
      rw [fa_le, fa_le, show (0 : Int32).toInt = 0 from rfl, show (500 : Int32).toInt = 500 from rfl] at hb
      obtain ⟨a0, a1, a2, a3, a4, a5, a6, a7, a8, a9, -⟩ := id h.1
      have e1 : (σ 8 58 0 + v).toInt = (σ 8 58 0).toInt + v.toInt := fb_addI (by omega) (by omega)
      have h30 := h.2.1
      have hs : sam1 (σ 8 58) (upd (σ 8 58) (11 + 7 * q + 2) (σ 8 58 0 + v)) := ⟨upd_ne' (by omega), upd_ne' (by omega), fun n a b => upd_ne' (by omega)⟩
      have eom : OM (upd (σ 8 58) (11 + 7 * q + 2) (σ 8 58 0 + v)) = OM (σ 8 58) := by unfold OM; rw [upd_ne' (by omega)]
      have epm : PM (upd (σ 8 58) (11 + 7 * q + 2) (σ 8 58 0 + v)) = PM (σ 8 58) := by unfold PM; rw [upd_ne' (by omega)]
      refine OKi.both (v := σ 8 58 0 + v) (σ1 := iU σ 5 (6 * 0 + q) 1 (σ 8 58 0 + v)) (σ3 := mR (iU (iU σ 5 (6 * 0 + q) 1 (σ 8 58 0 + v)) 7 0 5 0) 58 (upd (σ 8 58) (11 + 7 * q + 2) (σ 8 58 0 + v))) (r' := upd (σ 8 58) (11 + 7 * q + 2) (σ 8 58 0 + v)) h ?_ ?_ mR5 rfl (cfr.rfl.U (own5 (by omega))) ?_ ?_ ?_
      · show At mX6_stop 0 [some X, some (.inl (nI q)), some (.inl v), none] [] σ _
        refine At.Cr rfl (c_station h hq) (show 6 * 0 + q < 24 by omega) ?_
        refine At.Cv rfl (c_range hv) ?_
        rw [← h.2.2.1.1.2.2.2.2.2.2.2.2.2.1]
        refine At.Re' rfl ?_
        exact iU_same
      · show At mX7_stop 0 [some M, some (.inl (nI q)), some (.inl v)] [] _ _
        have e8 : iU σ 5 (6 * 0 + q) 1 (σ 8 58 0 + v) 8 58 = σ 8 58 := funext fun _ => iU_ne (by omega)
        generalize iU σ 5 (6 * 0 + q) 1 (σ 8 58 0 + v) = τ at e8 ⊢
        refine At.Ci rfl (e_sta1 e8 h.1 hq) ?_
        refine At.Ci rfl (e_thr1 _ _) ?_
        refine At.Bt rfl (rfl) ?_
        refine At.Ci rfl (e_in1 hv) ?_
        refine At.Ci rfl (e_thr1 _ _) ?_
        refine At.Bt rfl (rfl) ?_
        rw [UTT]
        refine At.N rfl (v58 0 (by omega)) ?_
        rw [t0, U7_r, e8]
        refine At.Cv rfl (e_setsStation q 2 _ (by omega) (by omega) _) ?_
        rw [U7_r, e8]
        refine At.Ci rfl (e_station q 2 (by omega) (by omega) _) ?_
        rw [mR_at, show rS (upd (σ 8 58) (11 + 7 * q + 2) (σ 8 58 0 + v)) q 2 = σ 8 58 0 + v from upd_eq']
        exact At.R rfl
      · refine h.1.of1 hs (inR.eq (upd_ne' (by omega)) a0) (inR.eq (upd_ne' (by omega)) a3) (inR.eq (upd_ne' (by omega)) a4) (inR.eq (upd_ne' (by omega)) a5) (inR.eq (upd_ne' (by omega)) a6) (inR.eq (upd_ne' (by omega)) a7) (inR.eq (upd_ne' (by omega)) a8) (inR.eq (upd_ne' (by omega)) a9) (fun p hp hp2 => by omega) (fun i hi => ?_) (fun q' hq' => ?_)
        · exact h.1.oS (by omega) hs (by omega) (fun w _ => upd_ne' (by omega)) (fun q' _ => upd_ne' (by omega))
        · have h2 := h.1.sta hq'
          refine h2.same1 h.1 hs (by omega) (upd_ne' (by omega)) ?_ (inR.eq (upd_ne' (by omega)) h2.2.1) (fun hne w hw => upd_ne' (by omega))
          by_cases e : q' = q
          · subst e; exact inR.eq upd_eq' ⟨by omega, by omega⟩
          · exact inR.eq (upd_ne' (by omega)) h2.1
      · rw [upd_ne' (by omega)]; exact h.2.1
      · refine h.2.2.1.of1 h.1 hs (fun p hp => ⟨fun j => Ukk (by omega), fun j => Ukk (by omega), fun j => Ukk (by omega)⟩) (h.2.2.1.1.same (fun j => Ukk (by omega)) (fun n hn => upd_ne' (by omega))) (fun q' hq' => ?_) (fun p hp hp2 => by omega) (fun i hi => ?_)
        · have h2 := h.2.2.1.2.1 q' hq'
          have hwt := wtC_same h.1 hs eom q' (fun i w _ _ => upd_ne' (by omega))
          by_cases e : q' = q
          · subst e
            have f : ∀ w, w ≠ 2 → w < 7 → rS (upd (σ 8 58) (11 + 7 * q' + 2) (σ 8 58 0 + v)) q' w = rS (σ 8 58) q' w := fun w hw _ => upd_ne' (by omega)
            have c : ∀ w, w ≠ 1 → iU σ 5 (6 * 0 + q') 1 (σ 8 58 0 + v) 5 (6 * 0 + q') w = σ 5 (6 * 0 + q') w := fun w hw => iU_ne (by omega)
            unfold ShQ at h2 ⊢
            rw [c 0 (by omega), c 2 (by omega), c 3 (by omega), c 4 (by omega), c 5 (by omega), c 6 (by omega), c 7 (by omega), f 0 (by omega) (by omega), f 1 (by omega) (by omega), f 3 (by omega) (by omega), f 4 (by omega) (by omega), f 5 (by omega) (by omega), f 6 (by omega) (by omega), hwt]
            exact ⟨h2.1, by rw [iU_same]; exact upd_eq'.symm, h2.2.2.1, h2.2.2.2.1, h2.2.2.2.2.1, h2.2.2.2.2.2.1, h2.2.2.2.2.2.2.1, h2.2.2.2.2.2.2.2⟩
          · refine h2.same (fun j _ => iU_ne (by omega)) (fun w hw => upd_ne' (by omega)) ?_
            rw [iU_ne (by omega), h2.2.2.2.2.1, hwt]
        · exact h.2.2.1.ordS h.1 hs (by omega) (fun w _ => Ukk (by omega)) (fun w _ => upd_ne' (by omega))
    · refine OKi.t1 h (v := 0) ?_ (σ2 := iU (iU σ 7 0 5 0) 7 0 5 2) ?_ iU_same (scr.T.trans scr.T)
      · show At mX6_stop 0 [some X, some (.inl (nI q)), some (.inl v), none] [] σ _
        refine At.Cr rfl (c_station h hq) (show 6 * 0 + q < 24 by omega) ?_
        exact At.X rfl (c_range_no hv)
      · show At mX7_stop 0 [some M, some (.inl (nI q)), some (.inl v)] [] σ _
        refine At.Ci rfl (e_sta1 rfl h.1 hq) ?_
        refine At.Ci rfl (e_thr1 _ _) ?_
        refine At.Bt rfl (rfl) ?_
        refine At.Ci rfl (e_in0 hv) ?_
        refine At.Ci rfl (e_thr0 _ _) ?_
        refine At.Bf rfl (by decide) ?_
        exact At.R rfl
  · refine OKi.t0 h (v := 0) ?_ ?_
    · show At mX6_stop 0 [some X, some (.inl o), some (.inl v), none] [] σ _
      exact At.X rfl (c_station_no h ho)
    · show At mX7_stop 0 [some M, some (.inl o), some (.inl v)] [] σ _
      refine At.Ci rfl (e_sta0 rfl h.1 ho) ?_
      refine At.Ci rfl (e_thr0 _ _) ?_
      refine At.Bf rfl (by decide) ?_
      exact At.R rfl
/-- one number of an order -/
theorem ord1_s {r : Row} (hr : RI r) {i w : Nat} {v : Int32} (hi : i < OM r) (hw : w < 14) : sam1 r (upd r (131 + 14 * i + w) v) := by
  have := hr.pm
  exact ⟨upd_ne' (by omega), upd_ne' (by omega), fun n a b => upd_ne' (by omega)⟩
theorem p_cancel (h : INV σ) (o : Int32) : OKi mX6_cancel mX7_cancel [.inl o] 0 σ := by
  have hom := h.1.om
  rcases ix_cases (OM (σ 8 58)) hom.2 o with ⟨i, hi, rfl⟩ | ho
  · have hO := h.2.2.1.2.2.2 i hi
    obtain ⟨p1, p2, p3, p4, p5⟩ := h.1.op hi
    by_cases h3 : rO (σ 8 58) i 3 = 0
    · have hs := ord1_s h.1 (v := 3) (w := 3) hi (by omega)
      have eom : OM (upd (σ 8 58) (131 + 14 * i + 3) 3) = OM (σ 8 58) := by unfold OM; rw [upd_ne' (by omega)]
      have o0 := h.1.i0 hi h3
      have f : ∀ w, w ≠ 3 → rO (upd (σ 8 58) (131 + 14 * i + 3) 3) i w = rO (σ 8 58) i w := fun w hw => upd_ne' (by omega)
      have f3 : rO (upd (σ 8 58) (131 + 14 * i + 3) 3) i 3 = 3 := upd_eq'
      have hR : RI (upd (σ 8 58) (131 + 14 * i + 3) 3) := by
        refine h.1.ord1 hi (by omega) (fun _ => by rw [h3]; decide) ?_
        obtain ⟨b0, b1, b2, b3, b5, b9, b10, b12, bb⟩ := p5
        have eP : oP (upd (σ 8 58) (131 + 14 * i + 3) 3) i = oP (σ 8 58) i := oP_eq (f 0 (by omega))
        have epm : PM (upd (σ 8 58) (131 + 14 * i + 3) 3) = PM (σ 8 58) := by unfold PM; rw [upd_ne' (by omega)]
        unfold OIg
        rw [eP, epm, f 0 (by omega), f 1 (by omega), f 2 (by omega), f 5 (by omega), f 9 (by omega), f 10 (by omega), f 12 (by omega), f3]
        refine ⟨b0, b1, b2, b3, b5, b9, b10, b12, Or.inr (Or.inl ⟨rfl, ?_⟩)⟩
        unfold OI0
        rw [f 4 (by omega), f 6 (by omega), f 7 (by omega), f 8 (by omega), f 11 (by omega)]
        exact o0
      have hS : Sh (iU σ 0 (24 * 0 + i) 5 3) 0 (upd (σ 8 58) (131 + 14 * i + 3) 3) := by
        refine h.2.2.1.ord1 h.1 (by omega) hi (by omega) (by omega) (fun q => ⟨fun z => ?_, fun z => ?_⟩) ?_
        · have := z.1; rw [f3] at this; exact absurd this (by decide)
        · have := z.1; rw [h3] at this; exact absurd this (by decide)
        · have c : ∀ w, w ≠ 5 → iU σ 0 (24 * 0 + i) 5 3 0 (24 * 0 + i) w = σ 0 (24 * 0 + i) w := fun w hw => iU_ne (by omega)
          have ed : dbg (upd (σ 8 58) (131 + 14 * i + 3) 3) i = dbg (σ 8 58) i := by
            rw [show dbg (σ 8 58) i = -1 from if_pos (Or.inl h3)]
            exact if_pos (Or.inr (Or.inl f3))
          have ew := wk_eq1 hs p5.2.1 p4.d.2.1 (f 0 (by omega)) (f 1 (by omega))
          unfold ShO at hO ⊢
          rw [c 0 (by omega), c 1 (by omega), c 2 (by omega), c 3 (by omega), c 4 (by omega), c 6 (by omega), c 7 (by omega), c 8 (by omega), c 9 (by omega), c 10 (by omega), c 11 (by omega), c 12 (by omega), c 13 (by omega), iU_same, f 0 (by omega), f 1 (by omega), f 2 (by omega), f 12 (by omega), f 4 (by omega), f 7 (by omega), f 5 (by omega), f 8 (by omega), f 9 (by omega), f 11 (by omega), f 13 (by omega), f3, ew, ed]
          refine ⟨hO.1, hO.2.1, hO.2.2.1, hO.2.2.2.1, hO.2.2.2.2.1, rfl, hO.2.2.2.2.2.2.1, hO.2.2.2.2.2.2.2.1, fun z => absurd z (by decide), hO.2.2.2.2.2.2.2.2.2.1, fun z => absurd z (by decide), hO.2.2.2.2.2.2.2.2.2.2.2.1, hO.2.2.2.2.2.2.2.2.2.2.2.2.1, hO.2.2.2.2.2.2.2.2.2.2.2.2.2⟩
      refine OKi.both (v := nI (fb_ct (fun k => decide (rO (upd (σ 8 58) (131 + 14 * i + 3) 3) k 3 = 0)) (OM (upd (σ 8 58) (131 + 14 * i + 3) 3)))) (σ1 := iU σ 0 (24 * 0 + i) 5 3) (σ3 := mR (iU (iU σ 0 (24 * 0 + i) 5 3) 7 0 5 0) 58 (upd (σ 8 58) (131 + 14 * i + 3) 3)) (r' := upd (σ 8 58) (131 + 14 * i + 3) 3) h ?_ ?_ mR5 rfl (cfr.rfl.U (own0 (by omega))) hR (by rw [upd_ne' (by omega)]; exact h.2.1) hS
      · show At mX6_cancel 0 [some X, some (.inl (nI i)), none] [] σ _
        refine At.Cr rfl (c_order h hi) (show 24 * 0 + i < 96 by omega) ?_
        refine At.Bt rfl (by rw [hO.2.2.2.2.2.1]; exact h3) ?_
        refine At.Ci rfl (c_countInState hS hR 0) ?_
        exact At.R rfl
      · show At mX7_cancel 0 [some M, some (.inl (nI i)), none, none] [] _ _
        have e8 : iU σ 0 (24 * 0 + i) 5 3 8 58 = σ 8 58 := funext fun _ => iU_ne (by omega)
        generalize iU σ 0 (24 * 0 + i) 5 3 = τ at e8 ⊢
        refine At.Ci rfl (e_ord1 e8 h.1 hi) ?_
        refine At.Ci rfl (e_thr1 _ _) ?_
        refine At.Bt rfl (rfl) ?_
        refine At.Ci rfl (e_order i 3 p1 (by omega) _) ?_
        rw [U7_r, e8]
        refine At.Bt rfl (h3) ?_
        refine At.Cv rfl (e_setsOrder i 3 _ p1 (by omega) _) ?_
        rw [U7_r, e8]
        have hom' := hR.om
        have e9 : mR (iU τ 7 0 5 0) 58 (upd (σ 8 58) (131 + 14 * i + 3) 3) 8 58 = upd (σ 8 58) (131 + 14 * i + 3) 3 := mR_at
        generalize mR (iU τ 7 0 5 0) 58 (upd (σ 8 58) (131 + 14 * i + 3) 3) = υ at e9 ⊢
        generalize upd (σ 8 58) (131 + 14 * i + 3) 3 = r' at e9 hom' hR ⊢
        refine At.F 38 [some M, some (.inl (nI i)), some (.inl (nI (fb_ct (fun k => decide (rO r' k 3 = 0)) 0))), some (.inl (nI 0))] [] υ rfl ?_
        refine down_ind (N := OM r') (P := fun n => At mX7_cancel 38 [some M, some (.inl (nI i)), some (.inl (nI (fb_ct (fun k => decide (rO r' k 3 = 0)) n))), some (.inl (nI n))] [] υ _) ?_ ?_ 0 (Nat.zero_le _)
        · refine At.N rfl (v58 4 (by omega)) ?_
          rw [t4, e9]
          refine At.Bt rfl (by rw [hom'.1]; exact ge_s) ?_
          exact At.R rfl
        · intro n hn ih
          refine At.N rfl (v58 4 (by omega)) ?_
          rw [t4, e9]
          refine At.Bf rfl (by rw [hom'.1]; exact ge_n hom'.2 hn) ?_
          refine At.Ci rfl (e_order n 3 (by omega) (by omega) _) ?_
          rw [e9]
          rw [fb_ct_succ] at ih
          refine At.B rfl (fun hc => ?_) (fun hc => ?_)
          · rw [if_pos (decide_eq_true hc)] at ih
            refine At.J rfl ?_
            refine At.J rfl ?_
            rw [nI_1, nI_1]
            exact ih
          · rw [if_neg (by rw [decide_eq_false hc]; decide), Nat.add_zero] at ih
            refine At.J rfl ?_
            rw [nI_1, Int32.add_zero]
            exact ih
    · refine OKi.ask (-3) h ?_ ?_
      · show At mX6_cancel 0 [some X, some (.inl (nI i)), none] [] σ _
        refine At.Cr rfl (c_order h hi) (show 24 * 0 + i < 96 by omega) ?_
        refine At.Bf rfl (by rw [hO.2.2.2.2.2.1]; exact h3) ?_
        exact At.R rfl
      · show At mX7_cancel 0 [some M, some (.inl (nI i)), none, none] [] _ _
        refine At.Ci rfl (e_ord1 rfl h.1 hi) ?_
        refine At.Ci rfl (e_thr1 _ _) ?_
        refine At.Bt rfl (rfl) ?_
        refine At.Ci rfl (e_order i 3 p1 (by omega) _) ?_
        rw [U7_r]
        refine At.Bf rfl (h3) ?_
        exact At.R rfl
  · refine OKi.t0 h (v := 0) ?_ ?_
    · show At mX6_cancel 0 [some X, some (.inl o), none] [] σ _
      exact At.X rfl (c_order_no h ho)
    · show At mX7_cancel 0 [some M, some (.inl o), none, none] [] σ _
      refine At.Ci rfl (e_ord0 rfl h.1 ho) ?_
      refine At.Ci rfl (e_thr0 _ _) ?_
      refine At.Bf rfl (by decide) ?_
      exact At.R rfl
theorem p_setDue (h : INV σ) (o v : Int32) : OKi mX6_setDue mX7_setDue [.inl o, .inl v] 2 σ := by
  have hom := h.1.om
  rcases ix_cases (OM (σ 8 58)) hom.2 o with ⟨i, hi, rfl⟩ | ho
  · have hO := h.2.2.1.2.2.2 i hi
    obtain ⟨p1, p2, p3, p4, p5⟩ := h.1.op hi
    by_cases hv : 0 ≤ v ∧ v ≤ 30000
    · by_cases hop : opn (σ 8 58) i
      · have hb := hv
        rw [fa_le, fa_le] at hb
        have hs := ord1_s h.1 (v := v) (w := 2) hi (by omega)
        have f : ∀ w, w ≠ 2 → rO (upd (σ 8 58) (131 + 14 * i + 2) v) i w = rO (σ 8 58) i w := fun w hw => upd_ne' (by omega)
        have f2 : rO (upd (σ 8 58) (131 + 14 * i + 2) v) i 2 = v := upd_eq'
        have eP : oP (upd (σ 8 58) (131 + 14 * i + 2) v) i = oP (σ 8 58) i := oP_eq (f 0 (by omega))
        have eK : oK (upd (σ 8 58) (131 + 14 * i + 2) v) i = oK (σ 8 58) i := oK_eq (f 4 (by omega))
        have hR : RI (upd (σ 8 58) (131 + 14 * i + 2) v) := by
          refine h.1.ord1 hi (by omega) (fun z => by omega) ?_
          obtain ⟨b0, b1, b2, b3, b5, b9, b10, b12, bb⟩ := p5
          have epm : PM (upd (σ 8 58) (131 + 14 * i + 2) v) = PM (σ 8 58) := by unfold PM; rw [upd_ne' (by omega)]
          unfold OIg OI0 OI1 OI2
          rw [eP, eK, epm, hs.sn b1, hs.pn b1, f 0 (by omega), f 1 (by omega), f2, f 3 (by omega), f 4 (by omega), f 5 (by omega), f 6 (by omega), f 7 (by omega), f 8 (by omega), f 9 (by omega), f 10 (by omega), f 11 (by omega), f 12 (by omega)]
          refine ⟨b0, b1, b2, hb, b5, b9, b10, b12, ?_⟩
          rcases bb with b | b | b | b
          · exact Or.inl b
          · exact Or.inr (Or.inl b)
          · refine Or.inr (Or.inr (Or.inl ⟨b.1, b.2.1, b.2.2.1, b.2.2.2.1, b.2.2.2.2.1, ?_⟩))
            have h6 := (h.1.at hi b.1).2.1
            rw [hs.ps b1 (h.1.st hi b.1).2.2, show rS (upd (σ 8 58) (131 + 14 * i + 2) v) (nn (rPs (σ 8 58) (oP (σ 8 58) i) (oK (σ 8 58) i))) 0 = rS (σ 8 58) (nn (rPs (σ 8 58) (oP (σ 8 58) i) (oK (σ 8 58) i))) 0 from upd_ne' (by omega)]
            exact b.2.2.2.2.2
          · exact Or.inr (Or.inr (Or.inr b))
        have hS : Sh (iU σ 0 (24 * 0 + i) 2 v) 0 (upd (σ 8 58) (131 + 14 * i + 2) v) := by
          refine h.2.2.1.ord1 h.1 (by omega) hi (by omega) (by omega) (fun q => wts_eq1 hs p5.2.1 (fun h1 => (h.1.st hi h1).2.2) (f 0 (by omega)) (f 3 (by omega)) (f 4 (by omega)) (f 6 (by omega))) ?_
          have c : ∀ w, w ≠ 2 → iU σ 0 (24 * 0 + i) 2 v 0 (24 * 0 + i) w = σ 0 (24 * 0 + i) w := fun w hw => iU_ne (by omega)
          have ed : dbg (upd (σ 8 58) (131 + 14 * i + 2) v) i = dbg (σ 8 58) i := dbg_eq (bef_eq1 hs p5.2.1 (f 0 (by omega)) (f 3 (by omega)) (f 4 (by omega)) (f 6 (by omega))) (f 3 (by omega)) (f 10 (by omega))
          have ew := wk_eq1 hs p5.2.1 p4.d.2.1 (f 0 (by omega)) (f 1 (by omega))
          unfold ShO at hO ⊢
          rw [c 0 (by omega), c 1 (by omega), c 3 (by omega), c 4 (by omega), c 5 (by omega), c 6 (by omega), c 7 (by omega), c 8 (by omega), c 9 (by omega), c 10 (by omega), c 11 (by omega), c 12 (by omega), c 13 (by omega), iU_same, f 0 (by omega), f 1 (by omega), f2, f 12 (by omega), f 3 (by omega), f 4 (by omega), f 7 (by omega), f 5 (by omega), f 8 (by omega), f 9 (by omega), f 11 (by omega), f 13 (by omega), ew, ed]
          exact ⟨hO.1, hO.2.1, rfl, hO.2.2.2⟩
        refine OKi.both (v := rO (σ 8 58) i 2) (σ1 := iU σ 0 (24 * 0 + i) 2 v) (σ3 := mR (iU (iU σ 0 (24 * 0 + i) 2 v) 7 0 5 0) 58 (upd (σ 8 58) (131 + 14 * i + 2) v)) (r' := upd (σ 8 58) (131 + 14 * i + 2) v) h ?_ ?_ mR5 rfl (cfr.rfl.U (own0 (by omega))) hR (by rw [upd_ne' (by omega)]; exact h.2.1) hS
        · show At mX6_setDue 0 [some X, some (.inl (nI i)), some (.inl v), none, none] [] σ _
          refine At.Cr rfl (c_order h hi) (show 24 * 0 + i < 96 by omega) ?_
          refine At.Cv rfl (c_range hv) ?_
          refine At.Ci rfl (c_isOpen _) ?_
          rw [hO.2.2.2.2.2.1, if_pos hop]
          refine At.Bf rfl (by decide) ?_
          rw [← hO.2.2.1]
          exact At.R rfl
        · show At mX7_setDue 0 [some M, some (.inl (nI i)), some (.inl v), none] [] _ _
          have e8 : iU σ 0 (24 * 0 + i) 2 v 8 58 = σ 8 58 := funext fun _ => iU_ne (by omega)
          generalize iU σ 0 (24 * 0 + i) 2 v = τ at e8 ⊢
          refine At.Ci rfl (e_ord1 e8 h.1 hi) ?_
          refine At.Ci rfl (e_thr1 _ _) ?_
          refine At.Bt rfl (rfl) ?_
          refine At.Ci rfl (e_in1 hv) ?_
          refine At.Ci rfl (e_thr1 _ _) ?_
          refine At.Bt rfl (rfl) ?_
          rw [UTT]
          refine At.Ci rfl (e_isOpen p1) ?_
          rw [U7_r, e8, if_pos hop]
          refine At.Bf rfl (by decide) ?_
          refine At.Ci rfl (e_order i 2 p1 (by omega) _) ?_
          refine At.Cv rfl (e_setsOrder i 2 _ p1 (by omega) _) ?_
          rw [U7_r, e8]
          exact At.R rfl
      · refine OKi.ask (-3) h ?_ ?_
        · show At mX6_setDue 0 [some X, some (.inl (nI i)), some (.inl v), none, none] [] σ _
          refine At.Cr rfl (c_order h hi) (show 24 * 0 + i < 96 by omega) ?_
          refine At.Cv rfl (c_range hv) ?_
          refine At.Ci rfl (c_isOpen _) ?_
          rw [hO.2.2.2.2.2.1, if_neg hop]
          refine At.Bt rfl (rfl) ?_
          exact At.R rfl
        · show At mX7_setDue 0 [some M, some (.inl (nI i)), some (.inl v), none] [] _ _
          refine At.Ci rfl (e_ord1 rfl h.1 hi) ?_
          refine At.Ci rfl (e_thr1 _ _) ?_
          refine At.Bt rfl (rfl) ?_
          refine At.Ci rfl (e_in1 hv) ?_
          refine At.Ci rfl (e_thr1 _ _) ?_
          refine At.Bt rfl (rfl) ?_
          rw [UTT]
          refine At.Ci rfl (e_isOpen p1) ?_
          rw [U7_r, if_neg hop]
          refine At.Bt rfl (rfl) ?_
          exact At.R rfl
    · refine OKi.t1 h (v := 0) ?_ (σ2 := iU (iU σ 7 0 5 0) 7 0 5 2) ?_ iU_same (scr.T.trans scr.T)
      · show At mX6_setDue 0 [some X, some (.inl (nI i)), some (.inl v), none, none] [] σ _
        refine At.Cr rfl (c_order h hi) (show 24 * 0 + i < 96 by omega) ?_
        exact At.X rfl (c_range_no hv)
      · show At mX7_setDue 0 [some M, some (.inl (nI i)), some (.inl v), none] [] σ _
        refine At.Ci rfl (e_ord1 rfl h.1 hi) ?_
        refine At.Ci rfl (e_thr1 _ _) ?_
        refine At.Bt rfl (rfl) ?_
        refine At.Ci rfl (e_in0 hv) ?_
        refine At.Ci rfl (e_thr0 _ _) ?_
        refine At.Bf rfl (by decide) ?_
        exact At.R rfl
  · refine OKi.t0 h (v := 0) ?_ ?_
    · show At mX6_setDue 0 [some X, some (.inl o), some (.inl v), none, none] [] σ _
      exact At.X rfl (c_order_no h ho)
    · show At mX7_setDue 0 [some M, some (.inl o), some (.inl v), none] [] σ _
      refine At.Ci rfl (e_ord0 rfl h.1 ho) ?_
      refine At.Ci rfl (e_thr0 _ _) ?_
      refine At.Bf rfl (by decide) ?_
      exact At.R rfl
theorem mrk {r : Row} (hr : RI r) {i : Nat} (hi : i < OM r) {b : Int32} (hb : b = 0 ∨ b = 1) : RI (upd r (131 + 14 * i + 12) b) := by
  obtain ⟨p1, p2, p3, p4, p5⟩ := hr.op hi
  have hs := ord1_s hr (v := b) (w := 12) hi (by omega)
  have f : ∀ w, w ≠ 12 → rO (upd r (131 + 14 * i + 12) b) i w = rO r i w := fun w hw => upd_ne' (by omega)
  have f2 : rO (upd r (131 + 14 * i + 12) b) i 12 = b := upd_eq'
  have eP : oP (upd r (131 + 14 * i + 12) b) i = oP r i := oP_eq (f 0 (by omega))
  have eK : oK (upd r (131 + 14 * i + 12) b) i = oK r i := oK_eq (f 4 (by omega))
  refine hr.ord1 hi (by omega) (fun z => by omega) ?_
  obtain ⟨b0, b1, b2, b3, b5, b9, b10, b12, bb⟩ := p5
  have epm : PM (upd r (131 + 14 * i + 12) b) = PM r := by unfold PM; rw [upd_ne' (by omega)]
  unfold OIg OI0 OI1 OI2
  rw [eP, eK, epm, hs.sn b1, hs.pn b1, f 0 (by omega), f 1 (by omega), f 2 (by omega), f 3 (by omega), f 4 (by omega), f 5 (by omega), f 6 (by omega), f 7 (by omega), f 8 (by omega), f 9 (by omega), f 10 (by omega), f 11 (by omega), f2]
  refine ⟨b0, b1, b2, b3, b5, b9, b10, hb, ?_⟩
  rcases bb with b | b | b | b
  · exact Or.inl b
  · exact Or.inr (Or.inl b)
  · refine Or.inr (Or.inr (Or.inl ⟨b.1, b.2.1, b.2.2.1, b.2.2.2.1, b.2.2.2.2.1, ?_⟩))
    have h6 := (hr.at hi b.1).2.1
    rw [hs.ps b1 (hr.st hi b.1).2.2, show rS (upd r (131 + 14 * i + 12) _) (nn (rPs r (oP r i) (oK r i))) 0 = rS r (nn (rPs r (oP r i) (oK r i))) 0 from upd_ne' (by omega)]
    exact b.2.2.2.2.2
  · exact Or.inr (Or.inr (Or.inr b))
theorem Sh.mrk {s : Nat} {r : Row} (h : Sh σ s r) (hr : RI r) (hs4 : s < 4) {i : Nat} (hi : i < OM r) (b : Int32) : Sh (iU σ 0 (24 * s + i) 4 b) s (upd r (131 + 14 * i + 12) b) := by
  obtain ⟨p1, p2, p3, p4, p5⟩ := hr.op hi
  have hO := h.2.2.2 i hi
  have hs := ord1_s hr (v := b) (w := 12) hi (by omega)
  have f : ∀ w, w ≠ 12 → rO (upd r (131 + 14 * i + 12) b) i w = rO r i w := fun w hw => upd_ne' (by omega)
  have f2 : rO (upd r (131 + 14 * i + 12) b) i 12 = b := upd_eq'
  refine h.ord1 hr hs4 hi (by omega) (by omega) (fun q => wts_eq1 hs p5.2.1 (fun h1 => (hr.st hi h1).2.2) (f 0 (by omega)) (f 3 (by omega)) (f 4 (by omega)) (f 6 (by omega))) ?_
  have c : ∀ w, w ≠ 4 → iU σ 0 (24 * s + i) 4 b 0 (24 * s + i) w = σ 0 (24 * s + i) w := fun w hw => iU_ne (by omega)
  have ed : dbg (upd r (131 + 14 * i + 12) b) i = dbg r i := dbg_eq (bef_eq1 hs p5.2.1 (f 0 (by omega)) (f 3 (by omega)) (f 4 (by omega)) (f 6 (by omega))) (f 3 (by omega)) (f 10 (by omega))
  have ew := wk_eq1 hs p5.2.1 p4.d.2.1 (f 0 (by omega)) (f 1 (by omega))
  unfold ShO at hO ⊢
  rw [c 0 (by omega), c 1 (by omega), c 2 (by omega), c 3 (by omega), c 5 (by omega), c 6 (by omega), c 7 (by omega), c 8 (by omega), c 9 (by omega), c 10 (by omega), c 11 (by omega), c 12 (by omega), c 13 (by omega), iU_same, f 0 (by omega), f 1 (by omega), f 2 (by omega), f2, f 3 (by omega), f 4 (by omega), f 7 (by omega), f 5 (by omega), f 8 (by omega), f 9 (by omega), f 11 (by omega), f 13 (by omega), ew, ed]
  exact ⟨hO.1, hO.2.1, hO.2.2.1, hO.2.2.2.1, rfl, hO.2.2.2.2.2⟩
theorem p_expedite (h : INV σ) (o b : Int32) (hb : b = 0 ∨ b = 1) : OKi mX6_expedite mX7_expedite [.inl o, .inl b] 0 σ := by
  have hom := h.1.om
  rcases ix_cases (OM (σ 8 58)) hom.2 o with ⟨i, hi, rfl⟩ | ho
  · have hO := h.2.2.1.2.2.2 i hi
    obtain ⟨p1, p2, p3, p4, p5⟩ := h.1.op hi
    have h12 := p5.2.2.2.2.2.2.2.1
    refine OKi.both (v := rO (σ 8 58) i 12) (σ1 := iU σ 0 (24 * 0 + i) 4 b) (σ3 := mR (iU (iU σ 0 (24 * 0 + i) 4 b) 7 0 5 0) 58 (upd (σ 8 58) (131 + 14 * i + 12) b)) (r' := upd (σ 8 58) (131 + 14 * i + 12) b) h ?_ ?_ mR5 rfl (cfr.rfl.U (own0 (by omega))) (mrk h.1 hi hb) (by rw [upd_ne' (by omega)]; exact h.2.1) (h.2.2.1.mrk h.1 (by omega) hi b)
    · show At mX6_expedite 0 [some X, some (.inl (nI i)), some (.inl b), none, none] [] σ _
      refine At.Cr rfl (c_order h hi) (show 24 * 0 + i < 96 by omega) ?_
      refine At.N rfl (hb) ?_
      rw [← hO.2.2.2.2.1] at h12 ⊢
      exact At.Z rfl h12
    · show At mX7_expedite 0 [some M, some (.inl (nI i)), some (.inl b), none] [] _ _
      have e8 : iU σ 0 (24 * 0 + i) 4 b 8 58 = σ 8 58 := funext fun _ => iU_ne (by omega)
      generalize iU σ 0 (24 * 0 + i) 4 b = τ at e8 ⊢
      refine At.Ci rfl (e_ord1 e8 h.1 hi) ?_
      refine At.Ci rfl (e_thr1 _ _) ?_
      refine At.Bt rfl (rfl) ?_
      refine At.Ci rfl (e_order i 12 p1 (by omega) _) ?_
      rw [U7_r, e8]
      have go : ∀ w, rO (σ 8 58) i 12 = w → At mX7_expedite 31 [some M, some (.inl (nI i)), some (.inl b), none] [.inl w] (iU τ 7 0 5 0) (evi (rO (σ 8 58) i 12) (mR (iU τ 7 0 5 0) 58 (upd (σ 8 58) (131 + 14 * i + 12) b))) := by
        intro w hw
        rw [hw]
        have hw01 : w = 0 ∨ w = 1 := by rw [← hw]; exact h12
        rcases hb with rfl | rfl
        · refine At.Bt rfl (rfl) ?_
          refine At.Cv rfl (e_setsOrder i 12 _ p1 (by omega) _) ?_
          rw [U7_r, e8]
          exact At.Z rfl hw01
        · refine At.Bf rfl (by decide) ?_
          refine At.J rfl ?_
          refine At.Cv rfl (e_setsOrder i 12 _ p1 (by omega) _) ?_
          rw [U7_r, e8]
          exact At.Z rfl hw01
      refine At.B rfl (fun hc => ?_) (fun hc => ?_)
      · refine At.J rfl ?_
        exact go 1 hc
      · exact At.G (go 0 (h12.resolve_right hc)) rfl
  · refine OKi.t0 h (v := 0) ?_ ?_
    · show At mX6_expedite 0 [some X, some (.inl o), some (.inl b), none, none] [] σ _
      exact At.X rfl (c_order_no h ho)
    · show At mX7_expedite 0 [some M, some (.inl o), some (.inl b), none] [] σ _
      refine At.Ci rfl (e_ord0 rfl h.1 ho) ?_
      refine At.Ci rfl (e_thr0 _ _) ?_
      refine At.Bf rfl (by decide) ?_
      exact At.Z rfl (Or.inl rfl)
end CH2
