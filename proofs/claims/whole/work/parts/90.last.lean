theorem t_isOpen (i : Nat) (σ : iM) (h : σ 0 i 5 = 0 ∨ σ 0 i 5 = 1) : Ev mX0_isOpen [.inr (0, i)] σ (.inl (some (.inl 1)), σ) := by
  show At mX0_isOpen 0 [some (.inr (0, i))] [] σ _
  refine At.B rfl (fun h0 => ?_) (fun h0 => ?_)
  · trace_state
    refine At.J rfl ?_
    trace_state
    exact At.Z rfl (Or.inr rfl)
  · refine At.B rfl (fun h1 => ?_) (fun h1 => ?_)
    · trace_state
      sorry
    · sorry
theorem t_cis (s : Nat) (st : Int32) (σ : iM)  : Ev mX4_countInState [.inr (4, s), .inl st] σ (.inl (some (.inl 1)), σ) := by
  show At mX4_countInState 0 [some (.inr (4, s)), some (.inl st), none, none] [] σ _
  refine At.B rfl (fun h0 => ?_) (fun h0 => ?_)
  · trace_state
    sorry
  · refine At.N rfl ?_ ?_
    · trace_state
      sorry
    · trace_state
      refine At.B rfl (fun h1 => ?_) (fun h1 => ?_)
      · trace_state
        sorry
      · sorry
