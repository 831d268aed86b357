/-! ===== the calls that only tell a number (written by mk47) ===== -/
theorem At.Re' {j pc : Nat} {L : iL} {S : iS} {σ σ' : iM} {v w : Int32} (h : blk (sfx (iTb j) pc) L S σ = evR (some (.inl v)) σ') (e : v = w) : At j pc L S σ (evi w σ') := e ▸ At.R h
section TELL
variable {σ : iM}
theorem p_stationCount (h : INV σ) : OKi mX6_stationCount mX7_stationCount [] 3 σ := by
  refine OKi.rd (σ 8 58 1) h ?_ (fun τ hτ e => ?_)
  · show AtP mX6_stationCount 0 [some X] [] σ _
    exact AtP.R rfl ⟨σ, by rw [h.2.2.1.1.1], scr.rfl⟩
  · show AtP mX7_stationCount 0 [some M] [] τ _
    refine AtP.N rfl (v58 1 (by omega)) ?_
    exact AtP.R rfl ⟨_, by rw [t1, U7_r, e], iU_same, scr.T⟩
theorem p_productCount (h : INV σ) : OKi mX6_productCount mX7_productCount [] 3 σ := by
  refine OKi.rd (σ 8 58 3) h ?_ (fun τ hτ e => ?_)
  · show AtP mX6_productCount 0 [some X] [] σ _
    exact AtP.R rfl ⟨σ, by rw [h.2.2.1.1.2.1], scr.rfl⟩
  · show AtP mX7_productCount 0 [some M] [] τ _
    refine AtP.N rfl (v58 3 (by omega)) ?_
    exact AtP.R rfl ⟨_, by rw [t3, U7_r, e], iU_same, scr.T⟩
theorem p_orderCount (h : INV σ) : OKi mX6_orderCount mX7_orderCount [] 3 σ := by
  refine OKi.rd (σ 8 58 4) h ?_ (fun τ hτ e => ?_)
  · show AtP mX6_orderCount 0 [some X] [] σ _
    exact AtP.R rfl ⟨σ, by rw [h.2.2.1.1.2.2.1], scr.rfl⟩
  · show AtP mX7_orderCount 0 [some M] [] τ _
    refine AtP.N rfl (v58 4 (by omega)) ?_
    exact AtP.R rfl ⟨_, by rw [t4, U7_r, e], iU_same, scr.T⟩
theorem p_now (h : INV σ) : OKi mX6_now mX7_now [] 3 σ := by
  refine OKi.rd (σ 8 58 0) h ?_ (fun τ hτ e => ?_)
  · show AtP mX6_now 0 [some X] [] σ _
    exact AtP.R rfl ⟨σ, by rw [h.2.2.1.1.2.2.2.2.2.2.2.2.2.1], scr.rfl⟩
  · show AtP mX7_now 0 [some M] [] τ _
    refine AtP.N rfl (v58 0 (by omega)) ?_
    exact AtP.R rfl ⟨_, by rw [t0, U7_r, e], iU_same, scr.T⟩
theorem p_rope (h : INV σ) : OKi mX6_rope mX7_rope [] 3 σ := by
  refine OKi.rd (σ 8 58 7) h ?_ (fun τ hτ e => ?_)
  · show AtP mX6_rope 0 [some X] [] σ _
    exact AtP.R rfl ⟨σ, by rw [h.2.2.1.1.2.2.2.2.2.2.1], scr.rfl⟩
  · show AtP mX7_rope 0 [some M] [] τ _
    refine AtP.N rfl (v58 7 (by omega)) ?_
    exact AtP.R rfl ⟨_, by rw [t7, U7_r, e], iU_same, scr.T⟩
theorem p_starvedTicks (h : INV σ) : OKi mX6_starvedTicks mX7_starvedTicks [] 3 σ := by
  refine OKi.rd (σ 8 58 10) h ?_ (fun τ hτ e => ?_)
  · show AtP mX6_starvedTicks 0 [some X] [] σ _
    exact AtP.R rfl ⟨σ, by rw [h.2.2.1.1.2.2.2.2.2.2.2.2.2.2], scr.rfl⟩
  · show AtP mX7_starvedTicks 0 [some M] [] τ _
    refine AtP.N rfl (v58 10 (by omega)) ?_
    exact AtP.R rfl ⟨_, by rw [t10, U7_r, e], iU_same, scr.T⟩
theorem p_loadError (h : INV σ) : OKi mX6_loadError mX7_loadError [] 3 σ := by
  refine Or.inl ⟨σ 2 0 2, σ, iU σ 7 0 5 0, ?_, ?_, iU_same, h.scr scr.T⟩
  · show At mX6_loadError 0 [some X] [] σ _
    exact At.R rfl
  · show At mX7_loadError 0 [some M] [] σ _
    rw [← h.2.2.2.1.2.2.2.1]
    refine At.Re' rfl ?_
    rw [iU_ne (by omega)]
theorem p_loadStatement (h : INV σ) : OKi mX6_loadStatement mX7_loadStatement [] 3 σ := by
  refine Or.inl ⟨σ 2 0 4, σ, iU σ 7 0 5 0, ?_, ?_, iU_same, h.scr scr.T⟩
  · show At mX6_loadStatement 0 [some X] [] σ _
    exact At.R rfl
  · show At mX7_loadStatement 0 [some M] [] σ _
    rw [← h.2.2.2.1.2.2.2.2]
    refine At.Re' rfl ?_
    rw [iU_ne (by omega)]
theorem p_stateOf (h : INV σ) (o : Int32) : OKi mX6_stateOf mX7_stateOf [.inl o] 0 σ := by
  have hom := h.1.om
  rcases ix_cases (OM (σ 8 58)) hom.2 o with ⟨i, hi, rfl⟩ | ho
  · refine OKi.rd (rO (σ 8 58) i 3) h ?_ (fun τ hτ e => ?_)
    · show AtP mX6_stateOf 0 [some X, some (.inl (nI i))] [] σ _
      refine AtP.Cr rfl (c_order h hi) (show 24 * 0 + i < 96 by omega) ?_
      exact AtP.R rfl ⟨σ, by rw [(h.2.2.1.2.2.2 i hi).2.2.2.2.2.1], scr.rfl⟩
    · show AtP mX7_stateOf 0 [some M, some (.inl (nI i))] [] τ _
      refine AtP.Ci rfl (e_told1 e h.1 hi (w := 3) (by omega)) ?_
      exact AtP.R rfl ⟨_, rfl, iU_same, scr.T⟩
  · refine OKi.t0 h (v := 0) ?_ ?_
    · show At mX6_stateOf 0 [some X, some (.inl o)] [] σ _
      exact At.X rfl (c_order_no h ho)
    · show At mX7_stateOf 0 [some M, some (.inl o)] [] σ _
      refine At.Ci rfl (e_told0 rfl h.1 ho _) ?_
      exact At.R rfl
theorem p_productOf (h : INV σ) (o : Int32) : OKi mX6_productOf mX7_productOf [.inl o] 0 σ := by
  have hom := h.1.om
  rcases ix_cases (OM (σ 8 58)) hom.2 o with ⟨i, hi, rfl⟩ | ho
  · refine OKi.rd (rO (σ 8 58) i 0) h ?_ (fun τ hτ e => ?_)
    · show AtP mX6_productOf 0 [some X, some (.inl (nI i))] [] σ _
      refine AtP.Cr rfl (c_order h hi) (show 24 * 0 + i < 96 by omega) ?_
      exact AtP.R rfl ⟨σ, by rw [(h.2.2.1.2.2.2 i hi).1], scr.rfl⟩
    · show AtP mX7_productOf 0 [some M, some (.inl (nI i))] [] τ _
      refine AtP.Ci rfl (e_told1 e h.1 hi (w := 0) (by omega)) ?_
      exact AtP.R rfl ⟨_, rfl, iU_same, scr.T⟩
  · refine OKi.t0 h (v := 0) ?_ ?_
    · show At mX6_productOf 0 [some X, some (.inl o)] [] σ _
      exact At.X rfl (c_order_no h ho)
    · show At mX7_productOf 0 [some M, some (.inl o)] [] σ _
      refine At.Ci rfl (e_told0 rfl h.1 ho _) ?_
      exact At.R rfl
theorem p_quantityOf (h : INV σ) (o : Int32) : OKi mX6_quantityOf mX7_quantityOf [.inl o] 0 σ := by
  have hom := h.1.om
  rcases ix_cases (OM (σ 8 58)) hom.2 o with ⟨i, hi, rfl⟩ | ho
  · refine OKi.rd (rO (σ 8 58) i 1) h ?_ (fun τ hτ e => ?_)
    · show AtP mX6_quantityOf 0 [some X, some (.inl (nI i))] [] σ _
      refine AtP.Cr rfl (c_order h hi) (show 24 * 0 + i < 96 by omega) ?_
      exact AtP.R rfl ⟨σ, by rw [(h.2.2.1.2.2.2 i hi).2.1], scr.rfl⟩
    · show AtP mX7_quantityOf 0 [some M, some (.inl (nI i))] [] τ _
      refine AtP.Ci rfl (e_told1 e h.1 hi (w := 1) (by omega)) ?_
      exact AtP.R rfl ⟨_, rfl, iU_same, scr.T⟩
  · refine OKi.t0 h (v := 0) ?_ ?_
    · show At mX6_quantityOf 0 [some X, some (.inl o)] [] σ _
      exact At.X rfl (c_order_no h ho)
    · show At mX7_quantityOf 0 [some M, some (.inl o)] [] σ _
      refine At.Ci rfl (e_told0 rfl h.1 ho _) ?_
      exact At.R rfl
theorem p_dueOf (h : INV σ) (o : Int32) : OKi mX6_dueOf mX7_dueOf [.inl o] 0 σ := by
  have hom := h.1.om
  rcases ix_cases (OM (σ 8 58)) hom.2 o with ⟨i, hi, rfl⟩ | ho
  · refine OKi.rd (rO (σ 8 58) i 2) h ?_ (fun τ hτ e => ?_)
    · show AtP mX6_dueOf 0 [some X, some (.inl (nI i))] [] σ _
      refine AtP.Cr rfl (c_order h hi) (show 24 * 0 + i < 96 by omega) ?_
      exact AtP.R rfl ⟨σ, by rw [(h.2.2.1.2.2.2 i hi).2.2.1], scr.rfl⟩
    · show AtP mX7_dueOf 0 [some M, some (.inl (nI i))] [] τ _
      refine AtP.Ci rfl (e_told1 e h.1 hi (w := 2) (by omega)) ?_
      exact AtP.R rfl ⟨_, rfl, iU_same, scr.T⟩
  · refine OKi.t0 h (v := 0) ?_ ?_
    · show At mX6_dueOf 0 [some X, some (.inl o)] [] σ _
      exact At.X rfl (c_order_no h ho)
    · show At mX7_dueOf 0 [some M, some (.inl o)] [] σ _
      refine At.Ci rfl (e_told0 rfl h.1 ho _) ?_
      exact At.R rfl
theorem p_stepOf (h : INV σ) (o : Int32) : OKi mX6_stepOf mX7_stepOf [.inl o] 0 σ := by
  have hom := h.1.om
  rcases ix_cases (OM (σ 8 58)) hom.2 o with ⟨i, hi, rfl⟩ | ho
  · refine OKi.rd (rO (σ 8 58) i 4) h ?_ (fun τ hτ e => ?_)
    · show AtP mX6_stepOf 0 [some X, some (.inl (nI i))] [] σ _
      refine AtP.Cr rfl (c_order h hi) (show 24 * 0 + i < 96 by omega) ?_
      exact AtP.R rfl ⟨σ, by rw [(h.2.2.1.2.2.2 i hi).2.2.2.2.2.2.1], scr.rfl⟩
    · show AtP mX7_stepOf 0 [some M, some (.inl (nI i))] [] τ _
      refine AtP.Ci rfl (e_told1 e h.1 hi (w := 4) (by omega)) ?_
      exact AtP.R rfl ⟨_, rfl, iU_same, scr.T⟩
  · refine OKi.t0 h (v := 0) ?_ ?_
    · show At mX6_stepOf 0 [some X, some (.inl o)] [] σ _
      exact At.X rfl (c_order_no h ho)
    · show At mX7_stepOf 0 [some M, some (.inl o)] [] σ _
      refine At.Ci rfl (e_told0 rfl h.1 ho _) ?_
      exact At.R rfl
theorem p_remaining (h : INV σ) (o : Int32) : OKi mX6_remaining mX7_remaining [.inl o] 0 σ := by
  have hom := h.1.om
  rcases ix_cases (OM (σ 8 58)) hom.2 o with ⟨i, hi, rfl⟩ | ho
  · refine OKi.rd (rO (σ 8 58) i 7) h ?_ (fun τ hτ e => ?_)
    · show AtP mX6_remaining 0 [some X, some (.inl (nI i))] [] σ _
      refine AtP.Cr rfl (c_order h hi) (show 24 * 0 + i < 96 by omega) ?_
      exact AtP.R rfl ⟨σ, by rw [(h.2.2.1.2.2.2 i hi).2.2.2.2.2.2.2.1], scr.rfl⟩
    · show AtP mX7_remaining 0 [some M, some (.inl (nI i))] [] τ _
      refine AtP.Ci rfl (e_told1 e h.1 hi (w := 7) (by omega)) ?_
      exact AtP.R rfl ⟨_, rfl, iU_same, scr.T⟩
  · refine OKi.t0 h (v := 0) ?_ ?_
    · show At mX6_remaining 0 [some X, some (.inl o)] [] σ _
      exact At.X rfl (c_order_no h ho)
    · show At mX7_remaining 0 [some M, some (.inl o)] [] σ _
      refine At.Ci rfl (e_told0 rfl h.1 ho _) ?_
      exact At.R rfl
theorem p_releasedAt (h : INV σ) (o : Int32) : OKi mX6_releasedAt mX7_releasedAt [.inl o] 0 σ := by
  have hom := h.1.om
  rcases ix_cases (OM (σ 8 58)) hom.2 o with ⟨i, hi, rfl⟩ | ho
  · refine OKi.rd (rO (σ 8 58) i 8) h ?_ (fun τ hτ e => ?_)
    · show AtP mX6_releasedAt 0 [some X, some (.inl (nI i))] [] σ _
      refine AtP.Cr rfl (c_order h hi) (show 24 * 0 + i < 96 by omega) ?_
      exact AtP.R rfl ⟨σ, by rw [(h.2.2.1.2.2.2 i hi).2.2.2.2.2.2.2.2.2.1], scr.rfl⟩
    · show AtP mX7_releasedAt 0 [some M, some (.inl (nI i))] [] τ _
      refine AtP.Ci rfl (e_told1 e h.1 hi (w := 8) (by omega)) ?_
      exact AtP.R rfl ⟨_, rfl, iU_same, scr.T⟩
  · refine OKi.t0 h (v := 0) ?_ ?_
    · show At mX6_releasedAt 0 [some X, some (.inl o)] [] σ _
      exact At.X rfl (c_order_no h ho)
    · show At mX7_releasedAt 0 [some M, some (.inl o)] [] σ _
      refine At.Ci rfl (e_told0 rfl h.1 ho _) ?_
      exact At.R rfl
theorem p_finishedAt (h : INV σ) (o : Int32) : OKi mX6_finishedAt mX7_finishedAt [.inl o] 0 σ := by
  have hom := h.1.om
  rcases ix_cases (OM (σ 8 58)) hom.2 o with ⟨i, hi, rfl⟩ | ho
  · refine OKi.rd (rO (σ 8 58) i 11) h ?_ (fun τ hτ e => ?_)
    · show AtP mX6_finishedAt 0 [some X, some (.inl (nI i))] [] σ _
      refine AtP.Cr rfl (c_order h hi) (show 24 * 0 + i < 96 by omega) ?_
      exact AtP.R rfl ⟨σ, by rw [(h.2.2.1.2.2.2 i hi).2.2.2.2.2.2.2.2.2.2.2.2.1], scr.rfl⟩
    · show AtP mX7_finishedAt 0 [some M, some (.inl (nI i))] [] τ _
      refine AtP.Ci rfl (e_told1 e h.1 hi (w := 11) (by omega)) ?_
      exact AtP.R rfl ⟨_, rfl, iU_same, scr.T⟩
  · refine OKi.t0 h (v := 0) ?_ ?_
    · show At mX6_finishedAt 0 [some X, some (.inl o)] [] σ _
      exact At.X rfl (c_order_no h ho)
    · show At mX7_finishedAt 0 [some M, some (.inl o)] [] σ _
      refine At.Ci rfl (e_told0 rfl h.1 ho _) ?_
      exact At.R rfl
theorem p_firstRedAt (h : INV σ) (o : Int32) : OKi mX6_firstRedAt mX7_firstRedAt [.inl o] 0 σ := by
  have hom := h.1.om
  rcases ix_cases (OM (σ 8 58)) hom.2 o with ⟨i, hi, rfl⟩ | ho
  · refine OKi.rd (rO (σ 8 58) i 13) h ?_ (fun τ hτ e => ?_)
    · show AtP mX6_firstRedAt 0 [some X, some (.inl (nI i))] [] σ _
      refine AtP.Cr rfl (c_order h hi) (show 24 * 0 + i < 96 by omega) ?_
      exact AtP.R rfl ⟨σ, by rw [(h.2.2.1.2.2.2 i hi).2.2.2.2.2.2.2.2.2.2.2.2.2], scr.rfl⟩
    · show AtP mX7_firstRedAt 0 [some M, some (.inl (nI i))] [] τ _
      refine AtP.Ci rfl (e_told1 e h.1 hi (w := 13) (by omega)) ?_
      exact AtP.R rfl ⟨_, rfl, iU_same, scr.T⟩
  · refine OKi.t0 h (v := 0) ?_ ?_
    · show At mX6_firstRedAt 0 [some X, some (.inl o)] [] σ _
      exact At.X rfl (c_order_no h ho)
    · show At mX7_firstRedAt 0 [some M, some (.inl o)] [] σ _
      refine At.Ci rfl (e_told0 rfl h.1 ho _) ?_
      exact At.R rfl
theorem p_redAt (h : INV σ) (o : Int32) : OKi mX6_redAt mX7_redAt [.inl o] 0 σ := by
  have hom := h.1.sc
  rcases ix_cases (SC (σ 8 58)) (by omega) o with ⟨i, hi, rfl⟩ | ho
  · refine OKi.rd (rS (σ 8 58) i 6) h ?_ (fun τ hτ e => ?_)
    · show AtP mX6_redAt 0 [some X, some (.inl (nI i))] [] σ _
      refine AtP.Cr rfl (c_station h hi) (show 6 * 0 + i < 24 by omega) ?_
      exact AtP.R rfl ⟨σ, by rw [(h.2.2.1.2.1 i hi).2.2.2.2.2.2.2], scr.rfl⟩
    · show AtP mX7_redAt 0 [some M, some (.inl (nI i))] [] τ _
      refine AtP.Ci rfl (e_toldOf1 e h.1 hi (w := 6) (by omega)) ?_
      exact AtP.R rfl ⟨_, rfl, iU_same, scr.T⟩
  · refine OKi.t0 h (v := 0) ?_ ?_
    · show At mX6_redAt 0 [some X, some (.inl o)] [] σ _
      exact At.X rfl (c_station_no h ho)
    · show At mX7_redAt 0 [some M, some (.inl o)] [] σ _
      refine At.Ci rfl (e_toldOf0 rfl h.1 ho _) ?_
      exact At.R rfl
theorem p_workingOn (h : INV σ) (o : Int32) : OKi mX6_workingOn mX7_workingOn [.inl o] 0 σ := by
  have hom := h.1.sc
  rcases ix_cases (SC (σ 8 58)) (by omega) o with ⟨i, hi, rfl⟩ | ho
  · refine OKi.rd (rS (σ 8 58) i 0) h ?_ (fun τ hτ e => ?_)
    · show AtP mX6_workingOn 0 [some X, some (.inl (nI i))] [] σ _
      refine AtP.Cr rfl (c_station h hi) (show 6 * 0 + i < 24 by omega) ?_
      exact AtP.R rfl ⟨σ, by rw [(h.2.2.1.2.1 i hi).2.2.1], scr.rfl⟩
    · show AtP mX7_workingOn 0 [some M, some (.inl (nI i))] [] τ _
      refine AtP.Ci rfl (e_toldOf1 e h.1 hi (w := 0) (by omega)) ?_
      exact AtP.R rfl ⟨_, rfl, iU_same, scr.T⟩
  · refine OKi.t0 h (v := 0) ?_ ?_
    · show At mX6_workingOn 0 [some X, some (.inl o)] [] σ _
      exact At.X rfl (c_station_no h ho)
    · show At mX7_workingOn 0 [some M, some (.inl o)] [] σ _
      refine At.Ci rfl (e_toldOf0 rfl h.1 ho _) ?_
      exact At.R rfl
theorem p_busyTicks (h : INV σ) (o : Int32) : OKi mX6_busyTicks mX7_busyTicks [.inl o] 0 σ := by
  have hom := h.1.sc
  rcases ix_cases (SC (σ 8 58)) (by omega) o with ⟨i, hi, rfl⟩ | ho
  · refine OKi.rd (rS (σ 8 58) i 3) h ?_ (fun τ hτ e => ?_)
    · show AtP mX6_busyTicks 0 [some X, some (.inl (nI i))] [] σ _
      refine AtP.Cr rfl (c_station h hi) (show 6 * 0 + i < 24 by omega) ?_
      exact AtP.R rfl ⟨σ, by rw [(h.2.2.1.2.1 i hi).2.2.2.2.2.1], scr.rfl⟩
    · show AtP mX7_busyTicks 0 [some M, some (.inl (nI i))] [] τ _
      refine AtP.Ci rfl (e_toldOf1 e h.1 hi (w := 3) (by omega)) ?_
      exact AtP.R rfl ⟨_, rfl, iU_same, scr.T⟩
  · refine OKi.t0 h (v := 0) ?_ ?_
    · show At mX6_busyTicks 0 [some X, some (.inl o)] [] σ _
      exact At.X rfl (c_station_no h ho)
    · show At mX7_busyTicks 0 [some M, some (.inl o)] [] σ _
      refine At.Ci rfl (e_toldOf0 rfl h.1 ho _) ?_
      exact At.R rfl
theorem p_setups (h : INV σ) (o : Int32) : OKi mX6_setups mX7_setups [.inl o] 0 σ := by
  have hom := h.1.sc
  rcases ix_cases (SC (σ 8 58)) (by omega) o with ⟨i, hi, rfl⟩ | ho
  · refine OKi.rd (rS (σ 8 58) i 4) h ?_ (fun τ hτ e => ?_)
    · show AtP mX6_setups 0 [some X, some (.inl (nI i))] [] σ _
      refine AtP.Cr rfl (c_station h hi) (show 6 * 0 + i < 24 by omega) ?_
      exact AtP.R rfl ⟨σ, by rw [(h.2.2.1.2.1 i hi).2.2.2.2.2.2.1], scr.rfl⟩
    · show AtP mX7_setups 0 [some M, some (.inl (nI i))] [] τ _
      refine AtP.Ci rfl (e_toldOf1 e h.1 hi (w := 4) (by omega)) ?_
      exact AtP.R rfl ⟨_, rfl, iU_same, scr.T⟩
  · refine OKi.t0 h (v := 0) ?_ ?_
    · show At mX6_setups 0 [some X, some (.inl o)] [] σ _
      exact At.X rfl (c_station_no h ho)
    · show At mX7_setups 0 [some M, some (.inl o)] [] σ _
      refine At.Ci rfl (e_toldOf0 rfl h.1 ho _) ?_
      exact At.R rfl
end TELL
