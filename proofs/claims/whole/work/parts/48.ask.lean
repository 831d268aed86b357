/-! ===== the calls that only ask (written by mk48.py) ===== -/
theorem OKi.ask {jc jm : Nat} {as : List iV} {c1 : Int32} {σ : iM} (v : Int32) (h : INV σ) (hc : Ev jc (X :: as) σ (evi v σ)) (hm : Ev jm (M :: as) σ (evi v (iU σ 7 0 5 0))) : OKi jc jm as c1 σ := Or.inl ⟨v, σ, _, hc, hm, iU_same, h.scr scr.T⟩
section ASK
variable {σ : iM}
theorem ge_n {n m : Nat} (hn : n ≤ 24) (hm : m < n) : ¬ nI n ≤ nI m := fun x => absurd ((nI_leI (by omega) (by omega)).mp x) (by omega)
theorem ge_s {n : Nat} : nI n ≤ nI n := by rw [fa_le]; exact Int.le_refl _
theorem wkd_iff {r : Row} (hr : RI r) {i : Nat} (hi : i < OM r) : rO r i 7 ≤ 0 ↔ ¬ rO r i 6 = 1 := by
  have h0 : (0 : Int32).toInt = 0 := rfl
  have z : ¬ (0 : Int32) = 1 := by decide
  rw [fa_le, h0]
  rcases (hr.ord hi).2.2.2.2.2.2.2.2 with ⟨-, q⟩ | ⟨-, q⟩ | ⟨h1, q⟩ | ⟨-, q⟩
  · rw [q.2.1, q.2.2.1]; exact ⟨fun _ => z, fun _ => Int.le_refl _⟩
  · rw [q.2.1, q.2.2.1]; exact ⟨fun _ => z, fun _ => Int.le_refl _⟩
  · rcases q.2.2.2.2 with ⟨a, b⟩ | ⟨a, b, c, d⟩
    · rw [a, b]; exact ⟨fun _ => z, fun _ => Int.le_refl _⟩
    · rw [a]
      have := c trivial
      exact ⟨fun q => by omega, fun q => absurd rfl q⟩
  · rw [q.2.1, q.2.2.1]; exact ⟨fun _ => z, fun _ => Int.le_refl _⟩
theorem p_ropeLoad (h : INV σ) : OKi mX6_ropeLoad mX7_ropeLoad [] 3 σ := by
  have hom := h.1.om
  have hsc := h.1.sc
  refine OKi.ask (ropeL (σ 8 58)) h ?_ ?_
  · show At mX6_ropeLoad 0 [some X] [] σ _
    refine At.Ci rfl (c_releasedWork h.2.2.1 h.1) ?_
    exact At.R rfl
  · show At mX7_ropeLoad 0 [some M] [] σ _
    refine At.F 5 [some M] [] (iU σ 7 0 5 0) rfl ?_
    have e := U7_r (σ := σ) (j := 5) (x := 0)
    have hr := h.1
    generalize iU σ 7 0 5 0 = τ at e ⊢
    rw [← e] at hr hom hsc ⊢
    refine At.Ci rfl (e_ropeNow hr) ?_
    exact At.R rfl
theorem p_penetration (h : INV σ) (o : Int32) : OKi mX6_penetration mX7_penetration [.inl o] 0 σ := by
  have hom := h.1.om
  rcases ix_cases (OM (σ 8 58)) hom.2 o with ⟨i, hi, rfl⟩ | ho
  · refine OKi.ask (pen (σ 8 58) i) h ?_ ?_
    · show At mX6_penetration 0 [some X, some (.inl (nI i))] [] σ _
      refine At.Cr rfl (c_order h hi) (show 24 * 0 + i < 96 by omega) ?_
      have hO := h.2.2.1.2.2.2 i hi
      refine At.Ci rfl (c_penetrationOf h.2.2.1 h.1 hi) ?_
      exact At.R rfl
    · show At mX7_penetration 0 [some M, some (.inl (nI i))] [] σ _
      refine At.Ci rfl (e_ord1 rfl h.1 hi) ?_
      refine At.Ci rfl (e_thr1 _ _) ?_
      refine At.Bt rfl (rfl) ?_
      have e := U7_r (σ := σ) (j := 5) (x := 0)
      have hr := h.1
      generalize iU σ 7 0 5 0 = τ at e ⊢
      rw [← e] at hi hr hom ⊢
      refine At.Ci rfl (e_penetrationOf hr hi) ?_
      exact At.R rfl
  · refine OKi.t0 h (v := 0) ?_ ?_
    · show At mX6_penetration 0 [some X, some (.inl o)] [] σ _
      exact At.X rfl (c_order_no h ho)
    · show At mX7_penetration 0 [some M, some (.inl o)] [] σ _
      refine At.Ci rfl (e_ord0 rfl h.1 ho) ?_
      refine At.Ci rfl (e_thr0 _ _) ?_
      refine At.Bf rfl (by decide) ?_
      refine At.J rfl ?_
      exact At.R rfl
theorem p_zone (h : INV σ) (o : Int32) : OKi mX6_zone mX7_zone [.inl o] 0 σ := by
  have hom := h.1.om
  rcases ix_cases (OM (σ 8 58)) hom.2 o with ⟨i, hi, rfl⟩ | ho
  · refine OKi.ask (zon (σ 8 58) i) h ?_ ?_
    · show At mX6_zone 0 [some X, some (.inl (nI i))] [] σ _
      refine At.Cr rfl (c_order h hi) (show 24 * 0 + i < 96 by omega) ?_
      have hO := h.2.2.1.2.2.2 i hi
      refine At.Ci rfl (c_zoneOf h.2.2.1 h.1 hi) ?_
      exact At.R rfl
    · show At mX7_zone 0 [some M, some (.inl (nI i))] [] σ _
      refine At.Ci rfl (e_ord1 rfl h.1 hi) ?_
      refine At.Ci rfl (e_thr1 _ _) ?_
      refine At.Bt rfl (rfl) ?_
      have e := U7_r (σ := σ) (j := 5) (x := 0)
      have hr := h.1
      generalize iU σ 7 0 5 0 = τ at e ⊢
      rw [← e] at hi hr hom ⊢
      refine At.Ci rfl (e_zoneOf hr hi) ?_
      exact At.R rfl
  · refine OKi.t0 h (v := 0) ?_ ?_
    · show At mX6_zone 0 [some X, some (.inl o)] [] σ _
      exact At.X rfl (c_order_no h ho)
    · show At mX7_zone 0 [some M, some (.inl o)] [] σ _
      refine At.Ci rfl (e_ord0 rfl h.1 ho) ?_
      refine At.Ci rfl (e_thr0 _ _) ?_
      refine At.Bf rfl (by decide) ?_
      refine At.J rfl ?_
      exact At.R rfl
theorem p_isWorkedOn (h : INV σ) (o : Int32) : OKi mX6_isWorkedOn mX7_isWorkedOn [.inl o] 0 σ := by
  have hom := h.1.om
  rcases ix_cases (OM (σ 8 58)) hom.2 o with ⟨i, hi, rfl⟩ | ho
  · refine OKi.ask (if rO (σ 8 58) i 6 = 1 then 1 else 0) h ?_ ?_
    · show At mX6_isWorkedOn 0 [some X, some (.inl (nI i))] [] σ _
      refine At.Cr rfl (c_order h hi) (show 24 * 0 + i < 96 by omega) ?_
      have hO := h.2.2.1.2.2.2 i hi
      have hw := wkd_iff h.1 hi
      refine At.B rfl (fun hc => ?_) (fun hc => ?_)
      · rw [hO.2.2.2.2.2.2.2.1] at hc
        rw [if_neg (hw.mp hc)]
        exact At.Z rfl (Or.inl rfl)
      · rw [hO.2.2.2.2.2.2.2.1] at hc
        rw [if_pos (Decidable.not_not.mp (fun q => hc (hw.mpr q)))]
        refine At.J rfl ?_
        exact At.Z rfl (Or.inr rfl)
    · show At mX7_isWorkedOn 0 [some M, some (.inl (nI i))] [] σ _
      refine At.Ci rfl (e_told1 rfl h.1 hi (w := 6) (by omega)) ?_
      refine At.B rfl (fun hc => ?_) (fun hc => ?_)
      · rw [if_pos hc]
        refine At.J rfl ?_
        exact At.Z rfl (Or.inr rfl)
      · rw [if_neg hc]
        exact At.Z rfl (Or.inl rfl)
  · refine OKi.t0 h (v := 0) ?_ ?_
    · show At mX6_isWorkedOn 0 [some X, some (.inl o)] [] σ _
      exact At.X rfl (c_order_no h ho)
    · show At mX7_isWorkedOn 0 [some M, some (.inl o)] [] σ _
      refine At.Ci rfl (e_told0 rfl h.1 ho _) ?_
      refine At.Bf rfl (by decide) ?_
      exact At.Z rfl (Or.inl rfl)
def flw (r : Row) (i : Nat) : Int32 := if rO r i 8 = -1 then -1 else (if rO r i 3 = 2 then rO r i 11 else r 0) - rO r i 8
theorem c_flow {s : Nat} {r : Row} (h : Sh σ s r) {i : Nat} (hi : i < OM r) : Ev mX0_flowUntil [.inr (0, 24 * s + i), .inl (σ 4 s 13)] σ (evi (flw r i) σ) := by
  show At mX0_flowUntil 0 [some (.inr (0, 24 * s + i)), some (.inl (σ 4 s 13))] [] σ _
  have hO := h.2.2.2 i hi
  unfold flw
  refine At.B rfl (fun hc => ?_) (fun hc => ?_)
  · rw [hO.2.2.2.2.2.2.2.2.2.1] at hc
    rw [if_pos hc]
    exact At.R rfl
  · rw [hO.2.2.2.2.2.2.2.2.2.1] at hc
    rw [if_neg hc]
    refine At.B rfl (fun hd => ?_) (fun hd => ?_)
    · rw [hO.2.2.2.2.2.1] at hd
      rw [if_pos hd]
      refine At.J rfl ?_
      rw [hO.2.2.2.2.2.2.2.2.2.2.2.2.1, ← hO.2.2.2.2.2.2.2.2.2.1]
      exact At.R rfl
    · rw [hO.2.2.2.2.2.1] at hd
      rw [if_neg hd, h.1.2.2.2.2.2.2.2.2.2.1, ← hO.2.2.2.2.2.2.2.2.2.1]
      exact At.R rfl
theorem e_flowOf {i : Nat} (h1 : i < 24) : Ev mX7_flowOf [M, .inl (nI i)] σ (evi (flw (σ 8 58) i) σ) := by
  show At mX7_flowOf 0 [some M, some (.inl (nI i)), none] [] σ _
  unfold flw
  have key : ∀ x : Int32, At mX7_flowOf 26 [some M, some (.inl (nI i)), none] [.inl x] σ (evi (if rO (σ 8 58) i 8 = -1 then -1 else x - rO (σ 8 58) i 8) σ) := by
    intro x
    refine At.Ci rfl (e_order i 8 h1 (by omega) σ) ?_
    refine At.B rfl (fun hc => ?_) (fun hc => ?_)
    · rw [if_pos hc]
      refine At.J rfl ?_
      exact At.R rfl
    · rw [if_neg hc]
      refine At.Ci rfl (e_order i 8 h1 (by omega) σ) ?_
      exact At.R rfl
  refine At.Ci rfl (e_order i 3 h1 (by omega) σ) ?_
  refine At.B rfl (fun hc => ?_) (fun hc => ?_)
  · rw [if_pos hc]
    refine At.Ci rfl (e_order i 11 h1 (by omega) σ) ?_
    refine At.J rfl ?_
    exact key _
  · rw [if_neg hc]
    refine At.N rfl (v58 0 (by omega)) ?_
    exact key _
theorem p_flowTime (h : INV σ) (o : Int32) : OKi mX6_flowTime mX7_flowTime [.inl o] 0 σ := by
  have hom := h.1.om
  rcases ix_cases (OM (σ 8 58)) hom.2 o with ⟨i, hi, rfl⟩ | ho
  · refine OKi.ask (flw (σ 8 58) i) h ?_ ?_
    · show At mX6_flowTime 0 [some X, some (.inl (nI i))] [] σ _
      refine At.Cr rfl (c_order h hi) (show 24 * 0 + i < 96 by omega) ?_
      have hO := h.2.2.1.2.2.2 i hi
      refine At.Ci rfl (c_flow (s := 0) h.2.2.1 hi) ?_
      exact At.R rfl
    · show At mX7_flowTime 0 [some M, some (.inl (nI i))] [] σ _
      refine At.Ci rfl (e_ord1 rfl h.1 hi) ?_
      refine At.Ci rfl (e_thr1 _ _) ?_
      refine At.Bt rfl (rfl) ?_
      have e := U7_r (σ := σ) (j := 5) (x := 0)
      have hr := h.1
      generalize iU σ 7 0 5 0 = τ at e ⊢
      rw [← e] at hi hr hom ⊢
      refine At.Ci rfl (e_flowOf (by omega)) ?_
      exact At.R rfl
  · refine OKi.t0 h (v := 0) ?_ ?_
    · show At mX6_flowTime 0 [some X, some (.inl o)] [] σ _
      exact At.X rfl (c_order_no h ho)
    · show At mX7_flowTime 0 [some M, some (.inl o)] [] σ _
      refine At.Ci rfl (e_ord0 rfl h.1 ho) ?_
      refine At.Ci rfl (e_thr0 _ _) ?_
      refine At.Bf rfl (by decide) ?_
      refine At.J rfl ?_
      exact At.R rfl
theorem p_nextChoice (h : INV σ) (o : Int32) : OKi mX6_nextChoice mX7_nextChoice [.inl o] 0 σ := by
  have hom := h.1.sc
  rcases ix_cases (SC (σ 8 58)) (by omega) o with ⟨i, hi, rfl⟩ | ho
  · refine OKi.ask (cho (σ 8 58) i (OM (σ 8 58))) h ?_ ?_
    · show At mX6_nextChoice 0 [some X, some (.inl (nI i))] [] σ _
      refine At.Cr rfl (c_station h hi) (show 6 * 0 + i < 24 by omega) ?_
      have hQ := h.2.2.1.2.1 i hi
      refine At.Ci rfl (c_choiceAt h.2.2.1 h.1 (by omega)) ?_
      exact At.R rfl
    · show At mX7_nextChoice 0 [some M, some (.inl (nI i))] [] σ _
      refine At.Ci rfl (e_sta1 rfl h.1 hi) ?_
      refine At.Ci rfl (e_thr1 _ _) ?_
      refine At.Bt rfl (rfl) ?_
      have e := U7_r (σ := σ) (j := 5) (x := 0)
      have hr := h.1
      generalize iU σ 7 0 5 0 = τ at e ⊢
      rw [← e] at hi hr hom ⊢
      refine At.Ci rfl (e_choice hr) ?_
      exact At.R rfl
  · refine OKi.t0 h (v := 0) ?_ ?_
    · show At mX6_nextChoice 0 [some X, some (.inl o)] [] σ _
      exact At.X rfl (c_station_no h ho)
    · show At mX7_nextChoice 0 [some M, some (.inl o)] [] σ _
      refine At.Ci rfl (e_sta0 rfl h.1 ho) ?_
      refine At.Ci rfl (e_thr0 _ _) ?_
      refine At.Bf rfl (by decide) ?_
      refine At.J rfl ?_
      exact At.R rfl
theorem p_downUntil (h : INV σ) (o : Int32) : OKi mX6_downUntil mX7_downUntil [.inl o] 0 σ := by
  have hom := h.1.sc
  rcases ix_cases (SC (σ 8 58)) (by omega) o with ⟨i, hi, rfl⟩ | ho
  · refine OKi.ask (if dnn (σ 8 58) i then rS (σ 8 58) i 2 else -1) h ?_ ?_
    · show At mX6_downUntil 0 [some X, some (.inl (nI i)), none] [] σ _
      refine At.Cr rfl (c_station h hi) (show 6 * 0 + i < 24 by omega) ?_
      have hQ := h.2.2.1.2.1 i hi
      refine At.Ci rfl (c_isDown _ _) ?_
      rw [hQ.2.1, h.2.2.1.1.2.2.2.2.2.2.2.2.2.1]
      by_cases hd : dnn (σ 8 58) i
      · rw [if_pos hd, if_pos hd]
        refine At.Bf rfl (by decide) ?_
        refine At.J rfl ?_
        rw [hQ.2.1]
        exact At.R rfl
      · rw [if_neg hd, if_neg hd]
        refine At.Bt rfl (rfl) ?_
        exact At.R rfl
    · show At mX7_downUntil 0 [some M, some (.inl (nI i))] [] σ _
      refine At.Ci rfl (e_sta1 rfl h.1 hi) ?_
      refine At.Ci rfl (e_thr1 _ _) ?_
      refine At.Bt rfl (rfl) ?_
      have e := U7_r (σ := σ) (j := 5) (x := 0)
      have hr := h.1
      generalize iU σ 7 0 5 0 = τ at e ⊢
      rw [← e] at hi hr hom ⊢
      refine At.Ci rfl (e_isDown (by omega)) ?_
      by_cases hd : dnn (τ 8 58) i
      · rw [if_pos hd, if_pos hd]
        refine At.Bf rfl (by decide) ?_
        refine At.Ci rfl (e_station i 2 (by omega) (by omega) _) ?_
        refine At.J rfl ?_
        exact At.R rfl
      · rw [if_neg hd, if_neg hd]
        refine At.Bt rfl (rfl) ?_
        exact At.R rfl
  · refine OKi.t0 h (v := 0) ?_ ?_
    · show At mX6_downUntil 0 [some X, some (.inl o), none] [] σ _
      exact At.X rfl (c_station_no h ho)
    · show At mX7_downUntil 0 [some M, some (.inl o)] [] σ _
      refine At.Ci rfl (e_sta0 rfl h.1 ho) ?_
      refine At.Ci rfl (e_thr0 _ _) ?_
      refine At.Bf rfl (by decide) ?_
      exact At.R rfl
theorem p_queueLength (h : INV σ) (o : Int32) : OKi mX6_queueLength mX7_queueLength [.inl o] 0 σ := by
  have hom := h.1.sc
  rcases ix_cases (SC (σ 8 58)) (by omega) o with ⟨i, hi, rfl⟩ | ho
  · refine OKi.ask (nI (wtC (σ 8 58) i)) h ?_ ?_
    · show At mX6_queueLength 0 [some X, some (.inl (nI i))] [] σ _
      refine At.Cr rfl (c_station h hi) (show 6 * 0 + i < 24 by omega) ?_
      have hQ := h.2.2.1.2.1 i hi
      rw [← hQ.2.2.2.2.1]
      exact At.R rfl
    · show At mX7_queueLength 0 [some M, some (.inl (nI i)), none, none] [] σ _
      refine At.Ci rfl (e_sta1 rfl h.1 hi) ?_
      refine At.Ci rfl (e_thr1 _ _) ?_
      refine At.Bt rfl (rfl) ?_
      have e := U7_r (σ := σ) (j := 5) (x := 0)
      have hr := h.1
      generalize iU σ 7 0 5 0 = τ at e ⊢
      rw [← e] at hi hr hom ⊢
      refine At.F 19 [some M, some (.inl (nI i)), some (.inl (nI (fb_ct (fun k => decide (wts (τ 8 58) k i)) 0))), some (.inl (nI 0))] [] τ rfl ?_
      have hom := hr.om
      refine down_ind (N := OM (τ 8 58)) (P := fun n => At mX7_queueLength 19 [some M, some (.inl (nI i)), some (.inl (nI (fb_ct (fun k => decide (wts (τ 8 58) k i)) n))), some (.inl (nI n))] [] τ _) ?_ ?_ 0 (Nat.zero_le _)
      · refine At.N rfl (v58 4 (by omega)) ?_
        rw [t4]
        refine At.Bt rfl (by rw [hom.1]; exact ge_s) ?_
        exact At.R rfl
      · intro n hn ih
        refine At.N rfl (v58 4 (by omega)) ?_
        rw [t4]
        refine At.Bf rfl (by rw [hom.1]; exact ge_n hom.2 hn) ?_
        refine At.Ci rfl (e_waitsAt hr hn) ?_
        rw [fb_ct_succ] at ih
        by_cases hc : wts (τ 8 58) n i
        · rw [if_pos hc]
          rw [if_pos (decide_eq_true hc)] at ih
          refine At.Bf rfl (by decide) ?_
          refine At.J rfl ?_
          refine At.J rfl ?_
          rw [nI_1, nI_1]
          exact ih
        · rw [if_neg hc]
          rw [if_neg (by rw [decide_eq_false hc]; decide), Nat.add_zero] at ih
          refine At.Bt rfl (rfl) ?_
          refine At.J rfl ?_
          rw [nI_1, Int32.add_zero]
          exact ih
  · refine OKi.t0 h (v := 0) ?_ ?_
    · show At mX6_queueLength 0 [some X, some (.inl o)] [] σ _
      exact At.X rfl (c_station_no h ho)
    · show At mX7_queueLength 0 [some M, some (.inl o), none, none] [] σ _
      refine At.Ci rfl (e_sta0 rfl h.1 ho) ?_
      refine At.Ci rfl (e_thr0 _ _) ?_
      refine At.Bf rfl (by decide) ?_
      exact At.R rfl
theorem p_inZone (h : INV σ) (z : Int32) : OKi mX6_inZone mX7_inZone [.inl z] 1 σ := by
  have hom := h.1.om
  by_cases hz : 0 ≤ z ∧ z ≤ 3
  · refine OKi.ask (nI (fb_ct (fun k => decide (zon (σ 8 58) k = z)) (OM (σ 8 58)))) h ?_ ?_
    · show At mX6_inZone 0 [some X, some (.inl z), none, none] [] σ _
      refine At.Cv rfl (c_range hz) ?_
      refine At.F 10 [some X, some (.inl z), some (.inl (nI (fb_ct (fun k => decide (zon (σ 8 58) k = z)) 0))), some (.inl (nI 0))] [] σ rfl ?_
      refine down_ind (N := OM (σ 8 58)) (P := fun n => At mX6_inZone 10 [some X, some (.inl z), some (.inl (nI (fb_ct (fun k => decide (zon (σ 8 58) k = z)) n))), some (.inl (nI n))] [] σ _) ?_ ?_ 0 (Nat.zero_le _)
      · refine At.Bt rfl (by rw [h.2.2.1.om h.1]; exact ge_s) ?_
        exact At.R rfl
      · intro n hn ih
        refine At.Bf rfl (by rw [h.2.2.1.om h.1]; exact ge_n hom.2 hn) ?_
        refine At.N rfl (v12 0 n (by omega)) ?_
        rw [nI_clamp (by omega)]
        refine At.Ci rfl (c_zoneOf h.2.2.1 h.1 hn) ?_
        rw [fb_ct_succ] at ih
        refine At.B rfl (fun hc => ?_) (fun hc => ?_)
        · rw [if_pos (decide_eq_true hc)] at ih
          refine At.J rfl ?_
          rw [nI_1, nI_1]
          exact ih
        · rw [if_neg (by rw [decide_eq_false hc]; decide), Nat.add_zero] at ih
          refine At.J rfl ?_
          rw [nI_1]
          exact ih
    · show At mX7_inZone 0 [some M, some (.inl z), none, none] [] σ _
      refine At.Ci rfl (e_in1 hz) ?_
      refine At.Ci rfl (e_thr1 _ _) ?_
      refine At.Bt rfl (rfl) ?_
      have e := U7_r (σ := σ) (j := 5) (x := 0)
      have hr := h.1
      generalize iU σ 7 0 5 0 = τ at e ⊢
      rw [← e] at hr hom ⊢
      refine At.F 20 [some M, some (.inl z), some (.inl (nI (fb_ct (fun k => decide (zon (τ 8 58) k = z)) 0))), some (.inl (nI 0))] [] τ rfl ?_
      refine down_ind (N := OM (τ 8 58)) (P := fun n => At mX7_inZone 20 [some M, some (.inl z), some (.inl (nI (fb_ct (fun k => decide (zon (τ 8 58) k = z)) n))), some (.inl (nI n))] [] τ _) ?_ ?_ 0 (Nat.zero_le _)
      · refine At.N rfl (v58 4 (by omega)) ?_
        rw [t4]
        refine At.Bt rfl (by rw [hom.1]; exact ge_s) ?_
        exact At.R rfl
      · intro n hn ih
        refine At.N rfl (v58 4 (by omega)) ?_
        rw [t4]
        refine At.Bf rfl (by rw [hom.1]; exact ge_n hom.2 hn) ?_
        refine At.Ci rfl (e_zoneOf hr hn) ?_
        rw [fb_ct_succ] at ih
        refine At.B rfl (fun hc => ?_) (fun hc => ?_)
        · rw [if_pos (decide_eq_true hc)] at ih
          refine At.J rfl ?_
          refine At.J rfl ?_
          rw [nI_1, nI_1]
          exact ih
        · rw [if_neg (by rw [decide_eq_false hc]; decide), Nat.add_zero] at ih
          refine At.J rfl ?_
          rw [nI_1, Int32.add_zero]
          exact ih
  · refine OKi.t1 h (v := 0) ?_ (σ2 := iU σ 7 0 5 1) ?_ iU_same scr.T
    · show At mX6_inZone 0 [some X, some (.inl z), none, none] [] σ _
      exact At.X rfl (c_range_no hz)
    · show At mX7_inZone 0 [some M, some (.inl z), none, none] [] σ _
      refine At.Ci rfl (e_in0 hz) ?_
      refine At.Ci rfl (e_thr0 _ _) ?_
      refine At.Bf rfl (by decide) ?_
      exact At.R rfl
def ltn (r : Row) (i : Nat) (t : Int32) : Int32 := iMax 0 (t - rO r i 2)
theorem ltn_eq {r : Row} (hr : RI r) {i : Nat} (hi : i < OM r) {t : Int32} (ht : inR t 0 40000) : ltn r i t = if t ≤ rO r i 2 then 0 else t - rO r i 2 := by
  have hd := (hr.ord hi).2.2.2.1
  have e : (t - rO r i 2).toInt = t.toInt - (rO r i 2).toInt := fb_subI (by omega) (by omega)
  have h0 : (0 : Int32).toInt = 0 := rfl
  unfold ltn iMax
  by_cases hc : t ≤ rO r i 2
  · rw [if_pos hc]
    rw [fa_le] at hc
    by_cases hd : 0 < t - rO r i 2
    · rw [fa_lt, e, h0] at hd; omega
    · rw [if_neg hd]
  · rw [if_neg hc]
    rw [fa_le] at hc
    rw [if_pos (by rw [fa_lt, e, h0]; omega)]
theorem c_late {s : Nat} {r : Row} (h : Sh σ s r) (hr : RI r) {i : Nat} (hi : i < OM r) {t : Int32} (ht : inR t 0 40000) : Ev mX0_latenessAt [.inr (0, 24 * s + i), .inl t] σ (evi (ltn r i t) σ) := by
  show At mX0_latenessAt 0 [some (.inr (0, 24 * s + i)), some (.inl t)] [] σ _
  have hO := h.2.2.2 i hi
  rw [ltn_eq hr hi ht]
  refine At.B rfl (fun hc => ?_) (fun hc => ?_)
  · rw [hO.2.2.1] at hc
    rw [if_pos hc]
    exact At.R rfl
  · rw [hO.2.2.1] at hc
    rw [if_neg hc, ← hO.2.2.1]
    refine At.J rfl ?_
    exact At.R rfl
theorem e_lateOf {i : Nat} (h1 : i < 24) (t : Int32) : Ev mX7_lateOf [M, .inl (nI i), .inl t] σ (evi (ltn (σ 8 58) i t) σ) := by
  show At mX7_lateOf 0 [some M, some (.inl (nI i)), some (.inl t)] [] σ _
  refine At.Ci rfl (e_order i 2 h1 (by omega) σ) ?_
  exact At.R rfl
theorem RIg.fin {m : Nat → Prop} {r : Row} (hr : RIg m r) {i : Nat} (hi : i < OM r) (h2 : rO r i 3 = 2) : OI2 r i := by
  rcases (hr.ord hi).2.2.2.2.2.2.2.2 with q | q | q | q
  · rw [h2] at q; exact absurd q.1 (by decide)
  · rw [h2] at q; exact absurd q.1 (by decide)
  · rw [h2] at q; exact absurd q.1 (by decide)
  · exact q.2
theorem ltn_pos {r : Row} (hr : RI r) {i : Nat} (hi : i < OM r) {t : Int32} (ht : inR t 0 40000) : ltn r i t ≤ 0 ↔ t ≤ rO r i 2 := by
  have hd := (hr.ord hi).2.2.2.1
  have h0 : (0 : Int32).toInt = 0 := rfl
  have e : (t - rO r i 2).toInt = t.toInt - (rO r i 2).toInt := fb_subI (by omega) (by omega)
  rw [ltn_eq hr hi ht]
  by_cases hc : t ≤ rO r i 2
  · rw [if_pos hc]; exact ⟨fun _ => hc, fun _ => by rw [fa_le]; exact Int.le_refl _⟩
  · rw [if_neg hc]
    refine ⟨fun q => absurd ?_ hc, fun q => absurd q hc⟩
    rw [fa_le, e, h0] at q
    rw [fa_le]
    omega
theorem p_lateCount (h : INV σ) : OKi mX6_lateCount mX7_lateCount [] 3 σ := by
  have hom := h.1.om
  have hsc := h.1.sc
  refine OKi.ask (sumN (fun k => if rO (σ 8 58) k 3 = 2 ∧ rO (σ 8 58) k 2 < rO (σ 8 58) k 11 then 1 else 0) (OM (σ 8 58))) h ?_ ?_
  · show At mX6_lateCount 0 [some X, none, none, none] [] σ _
    refine At.F 4 [some X, some (.inl (sumN (fun k => if rO (σ 8 58) k 3 = 2 ∧ rO (σ 8 58) k 2 < rO (σ 8 58) k 11 then 1 else 0) 0)), some (.inl (nI 0)), none] [] σ rfl ?_
    refine down_ind (N := OM (σ 8 58)) (P := fun n => ∀ d3, At mX6_lateCount 4 [some X, some (.inl (sumN (fun k => if rO (σ 8 58) k 3 = 2 ∧ rO (σ 8 58) k 2 < rO (σ 8 58) k 11 then 1 else 0) n)), some (.inl (nI n)), d3] [] σ _) ?_ ?_ 0 (Nat.zero_le _) none
    · intro d3
      refine At.Bt rfl (by rw [h.2.2.1.om h.1]; exact ge_s) ?_
      exact At.R rfl
    · intro n hn ih d3
      refine At.Bf rfl (by rw [h.2.2.1.om h.1]; exact ge_n hom.2 hn) ?_
      refine At.N rfl (v12 0 n (by omega)) ?_
      rw [nI_clamp (by omega)]
      have hO := h.2.2.1.2.2.2 n hn
      have ih := ih (some (.inr (0, 24 * 0 + n)))
      rw [sumN] at ih
      refine At.B rfl (fun hc => ?_) (fun hc => ?_)
      · rw [hO.2.2.2.2.2.1] at hc
        refine At.B rfl (fun hd => ?_) (fun hd => ?_)
        · rw [hO.2.2.1, hO.2.2.2.2.2.2.2.2.2.2.2.2.1] at hd
          rw [if_neg (fun q => le_nlt hd q.2), Int32.add_zero] at ih
          refine At.J rfl ?_
          rw [nI_1]
          exact ih
        · rw [hO.2.2.1, hO.2.2.2.2.2.2.2.2.2.2.2.2.1] at hd
          rw [if_pos ⟨hc, fa_of_nle hd⟩] at ih
          refine At.J rfl ?_
          rw [nI_1]
          exact ih
      · rw [hO.2.2.2.2.2.1] at hc
        rw [if_neg (fun q => hc q.1), Int32.add_zero] at ih
        refine At.J rfl ?_
        rw [nI_1]
        exact ih
  · show At mX7_lateCount 0 [some M, none, none] [] σ _
    refine At.F 5 [some M, none, none] [] (iU σ 7 0 5 0) rfl ?_
    have e := U7_r (σ := σ) (j := 5) (x := 0)
    have hr := h.1
    generalize iU σ 7 0 5 0 = τ at e ⊢
    rw [← e] at hr hom hsc ⊢
    refine At.F 9 [some M, some (.inl (sumN (fun k => if rO (τ 8 58) k 3 = 2 ∧ rO (τ 8 58) k 2 < rO (τ 8 58) k 11 then 1 else 0) 0)), some (.inl (nI 0))] [] τ rfl ?_
    refine down_ind (N := OM (τ 8 58)) (P := fun n => At mX7_lateCount 9 [some M, some (.inl (sumN (fun k => if rO (τ 8 58) k 3 = 2 ∧ rO (τ 8 58) k 2 < rO (τ 8 58) k 11 then 1 else 0) n)), some (.inl (nI n))] [] τ _) ?_ ?_ 0 (Nat.zero_le _)
    · refine At.N rfl (v58 4 (by omega)) ?_
      rw [t4]
      refine At.Bt rfl (by rw [hom.1]; exact ge_s) ?_
      exact At.R rfl
    · intro n hn ih
      refine At.N rfl (v58 4 (by omega)) ?_
      rw [t4]
      refine At.Bf rfl (by rw [hom.1]; exact ge_n hom.2 hn) ?_
      refine At.Ci rfl (e_order n 3 (by omega) (by omega) _) ?_
      rw [sumN] at ih
      refine At.B rfl (fun hc => ?_) (fun hc => ?_)
      · refine At.Ci rfl (e_order n 11 (by omega) (by omega) _) ?_
        refine At.Ci rfl (e_lateOf (by omega) _) ?_
        have hp := ltn_pos hr hn (hr.fin hn hc).2.2.2.2
        refine At.B rfl (fun hd => ?_) (fun hd => ?_)
        · rw [if_neg (fun q => le_nlt (hp.mp hd) q.2), Int32.add_zero] at ih
          refine At.J rfl ?_
          rw [nI_1, Int32.add_zero]
          exact ih
        · rw [if_pos ⟨hc, fa_of_nle (fun q => hd (hp.mpr q))⟩] at ih
          refine At.J rfl ?_
          refine At.J rfl ?_
          rw [nI_1]
          exact ih
      · rw [if_neg (fun q => hc q.1), Int32.add_zero] at ih
        refine At.J rfl ?_
        rw [nI_1, Int32.add_zero]
        exact ih
theorem p_tardiness (h : INV σ) : OKi mX6_tardiness mX7_tardiness [] 3 σ := by
  have hom := h.1.om
  have hsc := h.1.sc
  refine OKi.ask (sumN (fun k => if rO (σ 8 58) k 3 = 2 then ltn (σ 8 58) k (rO (σ 8 58) k 11) else 0) (OM (σ 8 58))) h ?_ ?_
  · show At mX6_tardiness 0 [some X, none, none, none] [] σ _
    refine At.F 4 [some X, some (.inl (sumN (fun k => if rO (σ 8 58) k 3 = 2 then ltn (σ 8 58) k (rO (σ 8 58) k 11) else 0) 0)), some (.inl (nI 0)), none] [] σ rfl ?_
    refine down_ind (N := OM (σ 8 58)) (P := fun n => ∀ d3, At mX6_tardiness 4 [some X, some (.inl (sumN (fun k => if rO (σ 8 58) k 3 = 2 then ltn (σ 8 58) k (rO (σ 8 58) k 11) else 0) n)), some (.inl (nI n)), d3] [] σ _) ?_ ?_ 0 (Nat.zero_le _) none
    · intro d3
      refine At.Bt rfl (by rw [h.2.2.1.om h.1]; exact ge_s) ?_
      exact At.R rfl
    · intro n hn ih d3
      refine At.Bf rfl (by rw [h.2.2.1.om h.1]; exact ge_n hom.2 hn) ?_
      refine At.N rfl (v12 0 n (by omega)) ?_
      rw [nI_clamp (by omega)]
      have hO := h.2.2.1.2.2.2 n hn
      have ih := ih (some (.inr (0, 24 * 0 + n)))
      rw [sumN] at ih
      refine At.B rfl (fun hc => ?_) (fun hc => ?_)
      · rw [hO.2.2.2.2.2.1] at hc
        have hl := c_late h.2.2.1 h.1 hn (h.1.fin hn hc).2.2.2.2
        rw [← hO.2.2.2.2.2.2.2.2.2.2.2.2.1] at hl
        refine At.Ci rfl (hl) ?_
        rw [if_pos hc] at ih
        refine At.J rfl ?_
        rw [nI_1, hO.2.2.2.2.2.2.2.2.2.2.2.2.1]
        exact ih
      · rw [hO.2.2.2.2.2.1] at hc
        rw [if_neg hc, Int32.add_zero] at ih
        refine At.J rfl ?_
        rw [nI_1]
        exact ih
  · show At mX7_tardiness 0 [some M, none, none] [] σ _
    refine At.F 5 [some M, none, none] [] (iU σ 7 0 5 0) rfl ?_
    have e := U7_r (σ := σ) (j := 5) (x := 0)
    have hr := h.1
    generalize iU σ 7 0 5 0 = τ at e ⊢
    rw [← e] at hr hom hsc ⊢
    refine At.F 9 [some M, some (.inl (sumN (fun k => if rO (τ 8 58) k 3 = 2 then ltn (τ 8 58) k (rO (τ 8 58) k 11) else 0) 0)), some (.inl (nI 0))] [] τ rfl ?_
    refine down_ind (N := OM (τ 8 58)) (P := fun n => At mX7_tardiness 9 [some M, some (.inl (sumN (fun k => if rO (τ 8 58) k 3 = 2 then ltn (τ 8 58) k (rO (τ 8 58) k 11) else 0) n)), some (.inl (nI n))] [] τ _) ?_ ?_ 0 (Nat.zero_le _)
    · refine At.N rfl (v58 4 (by omega)) ?_
      rw [t4]
      refine At.Bt rfl (by rw [hom.1]; exact ge_s) ?_
      exact At.R rfl
    · intro n hn ih
      refine At.N rfl (v58 4 (by omega)) ?_
      rw [t4]
      refine At.Bf rfl (by rw [hom.1]; exact ge_n hom.2 hn) ?_
      refine At.Ci rfl (e_order n 3 (by omega) (by omega) _) ?_
      rw [sumN] at ih
      refine At.B rfl (fun hc => ?_) (fun hc => ?_)
      · refine At.Ci rfl (e_order n 11 (by omega) (by omega) _) ?_
        refine At.Ci rfl (e_lateOf (by omega) _) ?_
        rw [if_pos hc] at ih
        refine At.J rfl ?_
        refine At.J rfl ?_
        rw [nI_1]
        exact ih
      · rw [if_neg hc, Int32.add_zero] at ih
        refine At.J rfl ?_
        rw [nI_1, Int32.add_zero]
        exact ih
end ASK
