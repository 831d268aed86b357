/-! ===== the calls that change the shop ===== -/
/-- what a call that changes the shop may change -/
def chg (σ σ1 : iM) : Prop := ∀ k i j, ¬ (ow2 0 k i ∨ (k = 8 ∧ i = 58) ∨ ow2 1 k i ∨ k = 3 ∨ (k = 2 ∧ (j = 3 ∨ j = 5 ∨ j = 6)) ∨ (k = 7 ∧ j ≠ 7 ∧ j ≠ 13 ∧ j ≠ 14) ∨ (k = 8 ∧ ((48 ≤ i ∧ i ≤ 55) ∨ i = 57 ∨ i = 59 ∨ i = 60 ∨ 62 ≤ i))) → σ1 k i j = σ k i j
section CHG
variable {σ σ1 σ2 : iM}
theorem chg.rfl : chg σ σ := fun _ _ _ _ => Eq.refl _
theorem chg.trans (h1 : chg σ σ1) (h2 : chg σ1 σ2) : chg σ σ2 := fun k i j a => (h2 k i j a).trans (h1 k i j a)
theorem scr.chg (h : scr σ σ1) : chg σ σ1 := fun k i j a => h k i j (fun z => a (Or.inr (Or.inr z)))
theorem cf2.chg (h : cf2 0 σ σ1) : chg σ σ1 := fun k i j a => h k i j (fun z => a (Or.inl z))
theorem cfr.chg (h : cfr 0 σ σ1) : chg σ σ1 := h.w.chg
theorem chg.R {r : Row} : chg σ (mR σ 58 r) := fun k i j a => mR_ne (fun z => a (Or.inr (Or.inl z)))
theorem mfr.chg (h : mfr σ σ1) : chg σ σ1 := fun k i j a => h k i j (fun z => by
    by_cases c : i = 58
    · exact a (Or.inr (Or.inl ⟨z.1, c⟩))
    · exact a (Or.inr (Or.inr (Or.inr (Or.inr (Or.inr (Or.inr ⟨z.1, by omega⟩))))))) (fun z => a (Or.inr (Or.inr (Or.inr (Or.inr (Or.inr (Or.inl ⟨z.1, by omega⟩)))))))
theorem INV.chg (h : INV σ) (hf : chg σ σ1) (hr : RI (σ1 8 58)) (h0 : (σ1 8 58 0).toInt ≤ 30000) (hS : Sh σ1 0 (σ1 8 58)) : INV σ1 := by
  have e1 : σ1 2 0 1 = σ 2 0 1 := hf _ _ _ (by unfold ow2 own; omega)
  have sv : ∀ c, c < 2 → Sv σ c → Sv σ1 c := by
    intro c hc hv
    have e : cpR σ1 c = cpR σ c := funext fun j => hf _ _ _ (by unfold ow2 own; omega)
    unfold Sv
    rw [e, hf 10 1 c (by unfold ow2 own; omega), hf 10 0 c (by unfold ow2 own; omega)]
    exact ⟨hv.1, hv.2.imp id (fun q => ⟨q.1, q.2.1, q.2.2.1, q.2.2.2.cell q.2.1 (fun j => hf _ _ _ (by unfold ow2 own; omega)) (fun q j hq => hf _ _ _ (by unfold ow2 own; omega)) (fun q j hq => hf _ _ _ (by unfold ow2 own; omega)) (fun q j hq => hf _ _ _ (by unfold ow2 own; omega)) (fun q j hq => hf _ _ _ (by unfold ow2 own; omega))⟩)⟩
  refine ⟨hr, h0, hS, ?_, sv 0 (by omega) h.2.2.2.2.1, sv 1 (by omega) h.2.2.2.2.2⟩
  have hd := h.2.2.2.1
  unfold Rd
  rw [e1, hf 7 0 7 (by unfold ow2 own; omega), hf 7 0 13 (by unfold ow2 own; omega), hf 7 0 14 (by unfold ow2 own; omega), hf 2 0 2 (by unfold ow2 own; omega), hf 2 0 4 (by unfold ow2 own; omega)]
  refine ⟨hd.1, hd.2.1, fun i hi => ?_, hd.2.2.2⟩
  rw [hf 8 56 i (by unfold ow2 own; omega), hf 9 0 i (by unfold ow2 own; omega)]
  exact hd.2.2.1 i hi
/-- the end of such a call -/
theorem Sh.mR0 {m : Nat → Prop} {s : Nat} {r r' : Row} (h : Sh σ s r) (hs : s < 4) (hr : RIg m r) : Sh (mR σ 58 r') s r :=
  h.cell hr (fun j => mR_ne (by omega)) (fun q j hq => mR_ne (by omega)) (fun q j hq => mR_ne (by omega)) (fun q j hq => mR_ne (by omega)) (fun q j hq => mR_ne (by omega))
/-- both sides have changed alike -/
theorem OKi.both {jc jm : Nat} {as : List iV} {c1 v : Int32} (h : INV σ) {σ3 : iM} {r' : Row} (hc : Ev jc (X :: as) σ (evi v σ1)) (hm : Ev jm (M :: as) σ1 (evi v σ3)) (h5 : σ3 7 0 5 = 0) (e : σ3 = mR (iU σ1 7 0 5 0) 58 r') (hf : cfr 0 σ σ1) (hr : RI r') (h0 : (r' 0).toInt ≤ 30000) (hS : Sh σ1 0 r') : OKi jc jm as c1 σ := by
  refine Or.inl ⟨v, σ1, σ3, hc, hm, h5, ?_⟩
  have e58 : σ3 8 58 = r' := by rw [e]; exact mR_at
  refine h.chg (hf.chg.trans (by rw [e]; exact scr.T.chg.trans chg.R)) (by rw [e58]; exact hr) (by rw [e58]; exact h0) ?_
  rw [e58, e]
  exact (scr.T.sh (by omega) (by omega) hr hS).mR0 (by omega) hr
theorem T58 {x : Int32} {j : Nat} {y : Int32} : iU (iU σ 7 0 5 x) 8 58 j y = mR (iU σ 7 0 5 x) 58 (upd (σ 8 58) j y) := by rw [iU_mR, U7_r]
theorem mR5 {x : Int32} {r : Row} : mR (iU σ 7 0 5 x) 58 r 7 0 5 = x := by rw [mR_ne (by omega), iU_same]
/-- rule -/
theorem p_setRule (h : INV σ) (v : Int32) : OKi mX6_setRule mX7_setRule [.inl v] 1 σ := by
  by_cases hv : 0 ≤ v ∧ v ≤ 3
  · have hb := hv
    rw [fa_le, fa_le] at hb
    obtain ⟨a0, a1, a2, a3, a4, a5, a6, a7, a8, a9, -⟩ := id h.1
    refine OKi.both (v := σ 8 58 8) (σ1 := iU σ 4 0 11 v) (σ3 := mR (iU (iU σ 4 0 11 v) 7 0 5 0) 58 (upd (σ 8 58) 8 v)) (r' := upd (σ 8 58) 8 v) h ?_ ?_ mR5 rfl (cfr.rfl.U own4) ?_ ?_ ?_
    · show At mX6_setRule 0 [some X, some (.inl v), none] [] σ _
      refine At.Cv rfl (c_range hv) ?_
      rw [← h.2.2.1.1.2.2.2.2.2.2.2.1]
      exact At.R rfl
    · show At mX7_setRule 0 [some M, some (.inl v), none] [] _ _
      refine At.Ci rfl (e_in1 hv) ?_
      refine At.Ci rfl (e_thr1 _ _) ?_
      refine At.Bt rfl (rfl) ?_
      refine At.N rfl (v58 8 (by omega)) ?_
      refine At.N rfl (v58 8 (by omega)) ?_
      rw [t8, T58, U7_r, show iU σ 4 0 11 v 8 58 = σ 8 58 from funext fun _ => iU_ne (by omega)]
      exact At.R rfl
    · exact h.1.top (fun n hn => upd_ne' (by omega)) (inR.eq (upd_ne' (by omega)) a0) (inR.eq (upd_ne' (by omega)) a5) (inR.eq (upd_ne' (by omega)) a6) (inR.eq (upd_ne' (by omega)) a7) (inR.eq upd_eq' hb) (inR.eq (upd_ne' (by omega)) a9)
    · rw [upd_ne' (by omega)]; exact h.2.1
    · have h1 := h.2.2.1.1
      refine h.2.2.1.top h.1 (by omega) (fun n hn => upd_ne' (by omega)) ?_ (fun k i j hk => iU_ne (by omega))
      unfold ShS at h1 ⊢
      rw [iU_same, upd_eq', iU_ne (by omega), iU_ne (by omega), iU_ne (by omega), iU_ne (by omega), iU_ne (by omega), iU_ne (by omega), iU_ne (by omega), iU_ne (by omega), iU_ne (by omega), iU_ne (by omega), upd_ne' (by omega), upd_ne' (by omega), upd_ne' (by omega), upd_ne' (by omega), upd_ne' (by omega), upd_ne' (by omega), upd_ne' (by omega), upd_ne' (by omega), upd_ne' (by omega), upd_ne' (by omega)]
      exact ⟨h1.1, h1.2.1, h1.2.2.1, h1.2.2.2.1, h1.2.2.2.2.1, h1.2.2.2.2.2.1, h1.2.2.2.2.2.2.1, rfl, h1.2.2.2.2.2.2.2.2.1, h1.2.2.2.2.2.2.2.2.2.1, h1.2.2.2.2.2.2.2.2.2.2⟩
  · refine OKi.t1 h (v := 0) ?_ (σ2 := iU σ 7 0 5 1) ?_ iU_same scr.T
    · show At mX6_setRule 0 [some X, some (.inl v), none] [] σ _
      exact At.X rfl (c_range_no hv)
    · show At mX7_setRule 0 [some M, some (.inl v), none] [] σ _
      refine At.Ci rfl (e_in0 hv) ?_
      refine At.Ci rfl (e_thr0 _ _) ?_
      refine At.Bf rfl (by decide) ?_
      exact At.R rfl
/-- the greatest work of those that aren't released -/
def grW (r : Row) : Nat → Int32
  | 0 => 0
  | n + 1 => if rO r n 3 = 0 then iMax (grW r n) (wk r n) else grW r n
theorem c_greatest {s : Nat} {r : Row} (h : Sh σ s r) (hr : RI r) : Ev mX4_greatestWorkNotReleased [.inr (4, s)] σ (evi (grW r (OM r)) σ) := by
  have hom := hr.om
  show At mX4_greatestWorkNotReleased 0 [some (.inr (4, s)), none, none] [] σ _
  refine At.F 4 [some (.inr (4, s)), some (.inl (grW r 0)), some (.inl (nI 0))] [] σ rfl ?_
  refine down_ind (N := OM r) (P := fun n => At mX4_greatestWorkNotReleased 4 [some (.inr (4, s)), some (.inl (grW r n)), some (.inl (nI n))] [] σ _) ?_ ?_ 0 (Nat.zero_le _)
  · refine At.Bt rfl (by rw [h.om hr]; exact ge_s) ?_
    exact At.R rfl
  · intro n hn ih
    refine At.Bf rfl (by rw [h.om hr]; exact ge_n hom.2 hn) ?_
    refine At.N rfl (v12 s n (by omega)) ?_
    rw [nI_clamp (by omega)]
    have hO := h.2.2.2 n hn
    rw [grW] at ih
    refine At.B rfl (fun hc => ?_) (fun hc => ?_)
    · rw [hO.2.2.2.2.2.1] at hc
      rw [if_pos hc] at ih
      refine At.N rfl (v12 s n (by omega)) ?_
      rw [nI_clamp (by omega)]
      refine At.J rfl ?_
      rw [nI_1, hO.2.2.2.1]
      exact ih
    · rw [hO.2.2.2.2.2.1] at hc
      rw [if_neg hc] at ih
      refine At.J rfl ?_
      rw [nI_1]
      exact ih
theorem e_greatest (hr : RI (σ 8 58)) : Ev mX7_greatestWaiting [M] σ (evi (grW (σ 8 58) (OM (σ 8 58))) σ) := by
  have hom := hr.om
  show At mX7_greatestWaiting 0 [some M, none, none] [] σ _
  refine At.F 4 [some M, some (.inl (grW (σ 8 58) 0)), some (.inl (nI 0))] [] σ rfl ?_
  refine down_ind (N := OM (σ 8 58)) (P := fun n => At mX7_greatestWaiting 4 [some M, some (.inl (grW (σ 8 58) n)), some (.inl (nI n))] [] σ _) ?_ ?_ 0 (Nat.zero_le _)
  · refine At.N rfl (v58 4 (by omega)) ?_
    rw [t4]
    refine At.Bt rfl (by rw [hom.1]; exact ge_s) ?_
    exact At.R rfl
  · intro n hn ih
    refine At.N rfl (v58 4 (by omega)) ?_
    rw [t4]
    refine At.Bf rfl (by rw [hom.1]; exact ge_n hom.2 hn) ?_
    refine At.Ci rfl (e_order n 3 (by omega) (by omega) _) ?_
    rw [grW] at ih
    refine At.B rfl (fun hc => ?_) (fun hc => ?_)
    · rw [if_pos hc] at ih
      refine At.Ci rfl (e_workAtDrum hr hn) ?_
      refine At.J rfl ?_
      refine At.J rfl ?_
      rw [nI_1]
      exact ih
    · rw [if_neg hc] at ih
      refine At.J rfl ?_
      rw [nI_1]
      exact ih
theorem p_setRope (h : INV σ) (v : Int32) : OKi mX6_setRope mX7_setRope [.inl v] 1 σ := by
  by_cases hv : 1 ≤ v ∧ v ≤ 5000
  · have hb := hv
    rw [fa_le, fa_le] at hb
    obtain ⟨a0, a1, a2, a3, a4, a5, a6, a7, a8, a9, -⟩ := id h.1
    by_cases hg : grW (σ 8 58) (OM (σ 8 58)) ≤ v
    · refine OKi.both (v := σ 8 58 7) (σ1 := iU σ 4 0 10 v) (σ3 := mR (iU (iU σ 4 0 10 v) 7 0 5 0) 58 (upd (σ 8 58) 7 v)) (r' := upd (σ 8 58) 7 v) h ?_ ?_ mR5 rfl (cfr.rfl.U own4) ?_ ?_ ?_
      · show At mX6_setRope 0 [some X, some (.inl v), none] [] σ _
        refine At.Cv rfl (c_range hv) ?_
        refine At.Ci rfl (c_greatest h.2.2.1 h.1) ?_
        refine At.Bt rfl (hg) ?_
        rw [← h.2.2.1.1.2.2.2.2.2.2.1]
        exact At.R rfl
      · show At mX7_setRope 0 [some M, some (.inl v), none] [] _ _
        have e8 : iU σ 4 0 10 v 8 58 = σ 8 58 := funext fun _ => iU_ne (by omega)
        have e9 : iU (iU σ 4 0 10 v) 7 0 5 0 8 58 = σ 8 58 := by rw [U7_r, e8]
        refine At.Ci rfl (e_in1 hv) ?_
        refine At.Ci rfl (e_thr1 _ _) ?_
        refine At.Bt rfl (rfl) ?_
        refine At.Ci rfl (e_greatest (by rw [e9]; exact h.1)) ?_
        refine At.Bt rfl (by rw [e9]; exact hg) ?_
        refine At.N rfl (v58 7 (by omega)) ?_
        refine At.N rfl (v58 7 (by omega)) ?_
        rw [t7, T58, U7_r, e8]
        exact At.R rfl
      · exact h.1.top (fun n hn => upd_ne' (by omega)) (inR.eq (upd_ne' (by omega)) a0) (inR.eq (upd_ne' (by omega)) a5) (inR.eq (upd_ne' (by omega)) a6) (inR.eq upd_eq' hb) (inR.eq (upd_ne' (by omega)) a8) (inR.eq (upd_ne' (by omega)) a9)
      · rw [upd_ne' (by omega)]; exact h.2.1
      · have h1 := h.2.2.1.1
        refine h.2.2.1.top h.1 (by omega) (fun n hn => upd_ne' (by omega)) ?_ (fun k i j hk => iU_ne (by omega))
        unfold ShS at h1 ⊢
        rw [iU_same, upd_eq', iU_ne (by omega), iU_ne (by omega), iU_ne (by omega), iU_ne (by omega), iU_ne (by omega), iU_ne (by omega), iU_ne (by omega), iU_ne (by omega), iU_ne (by omega), iU_ne (by omega), upd_ne' (by omega), upd_ne' (by omega), upd_ne' (by omega), upd_ne' (by omega), upd_ne' (by omega), upd_ne' (by omega), upd_ne' (by omega), upd_ne' (by omega), upd_ne' (by omega), upd_ne' (by omega)]
        exact ⟨h1.1, h1.2.1, h1.2.2.1, h1.2.2.2.1, h1.2.2.2.2.1, h1.2.2.2.2.2.1, rfl, h1.2.2.2.2.2.2.2.1, h1.2.2.2.2.2.2.2.2.1, h1.2.2.2.2.2.2.2.2.2.1, h1.2.2.2.2.2.2.2.2.2.2⟩
    · refine OKi.ask (-4) h ?_ ?_
      · show At mX6_setRope 0 [some X, some (.inl v), none] [] σ _
        refine At.Cv rfl (c_range hv) ?_
        refine At.Ci rfl (c_greatest h.2.2.1 h.1) ?_
        refine At.Bf rfl (hg) ?_
        exact At.R rfl
      · show At mX7_setRope 0 [some M, some (.inl v), none] [] σ _
        refine At.Ci rfl (e_in1 hv) ?_
        refine At.Ci rfl (e_thr1 _ _) ?_
        refine At.Bt rfl (rfl) ?_
        refine At.Ci rfl (e_greatest (by rw [U7_r]; exact h.1)) ?_
        refine At.Bf rfl (by rw [U7_r]; exact hg) ?_
        exact At.R rfl
  · refine OKi.t1 h (v := 0) ?_ (σ2 := iU σ 7 0 5 1) ?_ iU_same scr.T
    · show At mX6_setRope 0 [some X, some (.inl v), none] [] σ _
      exact At.X rfl (c_range_no hv)
    · show At mX7_setRope 0 [some M, some (.inl v), none] [] σ _
      refine At.Ci rfl (e_in0 hv) ?_
      refine At.Ci rfl (e_thr0 _ _) ?_
      refine At.Bf rfl (by decide) ?_
      exact At.R rfl
end CHG
