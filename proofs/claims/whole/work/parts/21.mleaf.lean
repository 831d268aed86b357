/-! ===== the reference's leaves ===== -/
abbrev evi (x : Int32) (σ : iM) : iRes := (.inl (some (.inl x)), σ)
abbrev evv (σ : iM) : iRes := (.inl none, σ)
abbrev M : iV := .inr (7, 0)
theorem zo (c : Prop) (d : Decidable c) : (@ite _ c d (1 : Int32) 0) = 0 ∨ (@ite _ c d (1 : Int32) 0) = 1 := by by_cases h : c <;> simp [h]
theorem e_in (v lo hi : Int32) (σ : iM) : Ev mX7_in [.inl v, .inl lo, .inl hi] σ (evi (if lo ≤ v ∧ v ≤ hi then 1 else 0) σ) := by
  show At mX7_in 0 [some (.inl v), some (.inl lo), some (.inl hi)] [] σ _
  refine At.B rfl (fun h0 => ?_) (fun h0 => ?_)
  · rw [if_neg (by rintro ⟨a, b⟩; rw [fa_lt] at h0; rw [fa_le] at a; omega)]
    exact At.Z rfl (Or.inl rfl)
  · have h0 := fa_of_nlt h0
    refine At.B rfl (fun h1 => ?_) (fun h1 => ?_)
    · rw [if_neg (by rintro ⟨a, b⟩; rw [fa_lt] at h1; rw [fa_le] at b; omega)]
      exact At.Z rfl (Or.inl rfl)
    · rw [if_pos ⟨h0, fa_of_nlt h1⟩]
      refine At.J rfl ?_
      exact At.Z rfl (Or.inr rfl)
theorem e_thr1 (n : Int32) (σ : iM) : Ev mX7_isThrown [M, .inl 1, .inl n] σ (evi 0 (iU σ 7 0 5 0)) := by
  show At mX7_isThrown 0 [some M, some (.inl 1), some (.inl n)] [] σ _
  refine At.Bf rfl (by decide) ?_
  refine At.J rfl ?_
  refine At.Bf rfl (by decide) ?_
  exact At.Z rfl (Or.inl rfl)
theorem e_thr0 (n : Int32) (σ : iM) : Ev mX7_isThrown [M, .inl 0, .inl n] σ (evi 1 (iU σ 7 0 5 n)) := by
  show At mX7_isThrown 0 [some M, some (.inl 0), some (.inl n)] [] σ _
  refine At.Bt rfl rfl ?_
  refine At.Bt rfl rfl ?_
  refine At.J rfl ?_
  exact At.Z rfl (Or.inr rfl)
theorem e_order (i w : Nat) (hi : i < 24) (hw : w < 14) (σ : iM) : Ev mX7_order [M, .inl (nI i), .inl (nI w)] σ (evi (rO (σ 8 58) i w) σ) := by
  show At mX7_order 0 [some M, some (.inl (nI i)), some (.inl (nI w))] [] σ _
  refine At.N rfl (by rw [ixO]; exact vin (by show _ < 467; omega) (by show 467 < _; omega)) ?_
  rw [ixO, nI_clamp (by omega)]
  exact At.R rfl
theorem e_setsOrder (i w : Nat) (v : Int32) (hi : i < 24) (hw : w < 14) (σ : iM) : Ev mX7_setsOrder [M, .inl (nI i), .inl (nI w), .inl v] σ (evv (mR σ 58 (upd (σ 8 58) (131 + 14 * i + w) v))) := by
  show At mX7_setsOrder 0 [some M, some (.inl (nI i)), some (.inl (nI w)), some (.inl v)] [] σ _
  refine At.N rfl (by rw [ixO]; exact vin (by show _ < 467; omega) (by show 467 < _; omega)) ?_
  rw [ixO, nI_clamp (by omega), iU_mR]
  exact At.R rfl
theorem e_station (i w : Nat) (hi : i < 6) (hw : w < 7) (σ : iM) : Ev mX7_station [M, .inl (nI i), .inl (nI w)] σ (evi (rS (σ 8 58) i w) σ) := by
  show At mX7_station 0 [some M, some (.inl (nI i)), some (.inl (nI w))] [] σ _
  refine At.N rfl (by rw [ixS]; exact vin (by show _ < 467; omega) (by show 467 < _; omega)) ?_
  rw [ixS, nI_clamp (by omega)]
  exact At.R rfl
theorem e_setsStation (i w : Nat) (v : Int32) (hi : i < 6) (hw : w < 7) (σ : iM) : Ev mX7_setsStation [M, .inl (nI i), .inl (nI w), .inl v] σ (evv (mR σ 58 (upd (σ 8 58) (11 + 7 * i + w) v))) := by
  show At mX7_setsStation 0 [some M, some (.inl (nI i)), some (.inl (nI w)), some (.inl v)] [] σ _
  refine At.N rfl (by rw [ixS]; exact vin (by show _ < 467; omega) (by show 467 < _; omega)) ?_
  rw [ixS, nI_clamp (by omega), iU_mR]
  exact At.R rfl
theorem e_steps (a p : Nat) (ha : iN 8 a = 467) (hp : p < 6) (σ : iM) : Ev mX7_steps [.inr (8, a), .inl (nI p)] σ (evi (rPn (σ 8 a) p) σ) := by
  show At mX7_steps 0 [some (.inr (8, a)), some (.inl (nI p))] [] σ _
  refine At.N rfl (by rw [ixPn, ha]; exact vin (by omega) (by omega)) ?_
  rw [ixPn, nI_clamp (by omega)]
  exact At.R rfl
theorem e_stepStation (a p k : Nat) (ha : iN 8 a = 467) (hp : p < 6) (hk : k < 6) (σ : iM) : Ev mX7_stepStation [.inr (8, a), .inl (nI p), .inl (nI k)] σ (evi (rPs (σ 8 a) p k) σ) := by
  show At mX7_stepStation 0 [some (.inr (8, a)), some (.inl (nI p)), some (.inl (nI k))] [] σ _
  refine At.N rfl (by rw [ixPs, ha]; exact vin (by omega) (by omega)) ?_
  rw [ixPs, nI_clamp (by omega)]
  exact At.R rfl
theorem e_stepTime (a p k : Nat) (ha : iN 8 a = 467) (hp : p < 6) (hk : k < 6) (σ : iM) : Ev mX7_stepTime [.inr (8, a), .inl (nI p), .inl (nI k)] σ (evi (rPt (σ 8 a) p k) σ) := by
  show At mX7_stepTime 0 [some (.inr (8, a)), some (.inl (nI p)), some (.inl (nI k))] [] σ _
  refine At.N rfl (by rw [ixPt, ha]; exact vin (by omega) (by omega)) ?_
  rw [ixPt, nI_clamp (by omega)]
  exact At.R rfl
theorem e_drumStep (a p : Nat) (ha : iN 8 a = 467) (hp : p < 6) (σ : iM) (hk : dS (σ 8 a) p < 6) (hd : rPs (σ 8 a) p (dS (σ 8 a) p) = σ 8 a 2) : Ev mX7_drumStep [.inr (8, a), .inl (nI p)] σ (evi (nI (dS (σ 8 a) p)) σ) := by
  show At mX7_drumStep 0 [some (.inr (8, a)), some (.inl (nI p)), none] [] σ _
  refine At.F 2 [some (.inr (8, a)), some (.inl (nI p)), some (.inl (nI 0))] [] σ rfl ?_
  have key : ∀ n k, n + k = 6 → dSf (σ 8 a) p n k = dS (σ 8 a) p → At mX7_drumStep 2 [some (.inr (8, a)), some (.inl (nI p)), some (.inl (nI k))] [] σ (evi (nI (dS (σ 8 a) p)) σ) := by
    intro n
    induction n with
    | zero => intro k h1 h2; rw [dSf] at h2; omega
    | succ n ih =>
      intro k h1 h2
      refine At.Ci rfl (e_stepStation a p k ha hp (by omega) σ) ?_
      refine At.N rfl (by rw [ha]; exact vin (n := 2) (by omega) (by omega)) ?_
      rw [dSf] at h2
      rw [t2]
      refine At.B rfl (fun h => ?_) (fun h => ?_)
      · rw [if_pos h] at h2
        rw [← h2]
        exact At.R rfl
      · rw [if_neg h] at h2
        refine At.J rfl ?_
        rw [nI_1]
        exact ih (k + 1) (by omega) h2
  exact key 6 0 rfl rfl
theorem e_drumTicks (a p : Nat) (q : Int32) (ha : iN 8 a = 467) (hp : p < 6) (σ : iM) (hk : dS (σ 8 a) p < 6) (hd : rPs (σ 8 a) p (dS (σ 8 a) p) = σ 8 a 2) : Ev mX7_drumTicks [.inr (8, a), .inl (nI p), .inl q] σ (evi (rPt (σ 8 a) p (dS (σ 8 a) p) * q) σ) := by
  show At mX7_drumTicks 0 [some (.inr (8, a)), some (.inl (nI p)), some (.inl q)] [] σ _
  refine At.Ci rfl (e_drumStep a p ha hp σ hk hd) ?_
  refine At.Ci rfl (e_stepTime a p _ ha hp hk σ) ?_
  exact At.R rfl
section ML
variable {σ : iM}
theorem e_dS (hr : RI (σ 8 58)) {i : Nat} (hi : i < OM (σ 8 58)) : Ev mX7_drumStep [.inr (8, 58), .inl (rO (σ 8 58) i 0)] σ (evi (nI (dS (σ 8 58) (oP (σ 8 58) i))) σ) := by
  obtain ⟨h1, h2, h3, h4, h5⟩ := hr.op hi
  rw [h2]
  exact e_drumStep 58 _ rfl h3 σ h4.d.2.1 h4.d.2.2
theorem e_workAtDrum (hr : RI (σ 8 58)) {i : Nat} (hi : i < OM (σ 8 58)) : Ev mX7_workAtDrum [M, .inl (nI i)] σ (evi (wk (σ 8 58) i) σ) := by
  obtain ⟨h1, h2, h3, h4, h5⟩ := hr.op hi
  show At mX7_workAtDrum 0 [some M, some (.inl (nI i))] [] σ _
  refine At.Ci rfl (e_order i 0 h1 (by omega) σ) ?_
  refine At.Ci rfl (e_order i 1 h1 (by omega) σ) ?_
  rw [h2]
  refine At.Ci rfl (e_drumTicks 58 _ _ rfl h3 σ h4.d.2.1 h4.d.2.2) ?_
  exact At.R rfl
theorem e_isOpen {i : Nat} (h1 : i < 24) : Ev mX7_isOpen [M, .inl (nI i)] σ (evi (if opn (σ 8 58) i then 1 else 0) σ) := by
  show At mX7_isOpen 0 [some M, some (.inl (nI i))] [] σ _
  refine At.Ci rfl (e_order i 3 h1 (by omega) σ) ?_
  refine At.B rfl (fun h => ?_) (fun h => ?_)
  · rw [if_pos (Or.inl h)]
    refine At.J rfl ?_
    exact At.Z rfl (Or.inr rfl)
  · refine At.Ci rfl (e_order i 3 h1 (by omega) σ) ?_
    refine At.B rfl (fun h2 => ?_) (fun h2 => ?_)
    · rw [if_pos (Or.inr h2)]
      refine At.J rfl ?_
      exact At.Z rfl (Or.inr rfl)
    · rw [if_neg (by rintro (q | q) <;> contradiction)]
      exact At.Z rfl (Or.inl rfl)
theorem e_isBeforeDrum (hr : RI (σ 8 58)) {i : Nat} (hi : i < OM (σ 8 58)) : Ev mX7_isBeforeDrum [M, .inl (nI i)] σ (evi (if bef (σ 8 58) i then 1 else 0) σ) := by
  obtain ⟨h1, h2, h3, h4, h5⟩ := hr.op hi
  show At mX7_isBeforeDrum 0 [some M, some (.inl (nI i)), none, none] [] σ _
  refine At.Ci rfl (e_isOpen h1) ?_
  by_cases ho : opn (σ 8 58) i
  · rw [if_pos ho]
    refine At.Bf rfl (by decide) ?_
    refine At.Ci rfl (e_order i 0 h1 (by omega) σ) ?_
    refine At.Ci rfl (e_dS hr hi) ?_
    refine At.Ci rfl (e_order i 4 h1 (by omega) σ) ?_
    refine At.B rfl (fun h => ?_) (fun h => ?_)
    · rw [if_pos ⟨ho, Or.inl h⟩]
      refine At.J rfl ?_
      exact At.Z rfl (Or.inr rfl)
    · refine At.B rfl (fun h2 => ?_) (fun h2 => ?_)
      · refine At.Ci rfl (e_order i 6 h1 (by omega) σ) ?_
        refine At.B rfl (fun h3 => ?_) (fun h3 => ?_)
        · rw [if_pos ⟨ho, Or.inr ⟨h2, h3⟩⟩]
          refine At.J rfl ?_
          exact At.Z rfl (Or.inr rfl)
        · rw [if_neg (by rintro ⟨-, q | q⟩; exact h q; exact h3 q.2)]
          exact At.Z rfl (Or.inl rfl)
      · rw [if_neg (by rintro ⟨-, q | q⟩; exact h q; exact h2 q.1)]
        exact At.Z rfl (Or.inl rfl)
  · rw [if_neg ho, if_neg (fun q => ho q.1)]
    refine At.Bt rfl rfl ?_
    exact At.Z rfl (Or.inl rfl)
theorem e_isPastDrum (hr : RI (σ 8 58)) {i : Nat} (hi : i < OM (σ 8 58)) : Ev mX7_isPastDrum [M, .inl (nI i)] σ (evi (if past (σ 8 58) i then 1 else 0) σ) := by
  obtain ⟨h1, h2, h3, h4, h5⟩ := hr.op hi
  show At mX7_isPastDrum 0 [some M, some (.inl (nI i))] [] σ _
  refine At.Ci rfl (e_order i 4 h1 (by omega) σ) ?_
  refine At.Ci rfl (e_order i 0 h1 (by omega) σ) ?_
  refine At.Ci rfl (e_dS hr hi) ?_
  refine At.B rfl (fun h => ?_) (fun h => ?_)
  · rw [if_neg (le_nlt h)]
    exact At.Z rfl (Or.inl rfl)
  · rw [if_pos (fa_of_nle h)]
    refine At.J rfl ?_
    exact At.Z rfl (Or.inr rfl)
theorem e_penetrationOf (hr : RI (σ 8 58)) {i : Nat} (hi : i < OM (σ 8 58)) : Ev mX7_penetrationOf [M, .inl (nI i)] σ (evi (pen (σ 8 58) i) σ) := by
  obtain ⟨h1, h2, h3, h4, h5⟩ := hr.op hi
  show At mX7_penetrationOf 0 [some M, some (.inl (nI i)), none, none, none] [] σ _
  refine At.Ci rfl (e_order i 3 h1 (by omega) σ) ?_
  refine At.B rfl (fun h => ?_) (fun h => ?_)
  · refine At.Ci rfl (e_isBeforeDrum hr hi) ?_
    have hp : pen (σ 8 58) i = iMax 0 (1000 * (σ 8 58 0 - (if bef (σ 8 58) i then rO (σ 8 58) i 9 else rO (σ 8 58) i 2 - σ 8 58 6)) / (if bef (σ 8 58) i then σ 8 58 5 else σ 8 58 6)) := if_pos h
    rw [hp]
    by_cases hb : bef (σ 8 58) i
    · rw [if_pos hb, if_pos hb, if_pos hb]
      refine At.Bf rfl (by decide) ?_
      refine At.Ci rfl (e_order i 9 h1 (by omega) σ) ?_
      refine At.J rfl ?_
      refine At.Bf rfl (by decide) ?_
      refine At.N rfl (v58 5 (by omega)) ?_
      refine At.J rfl ?_
      refine At.N rfl (v58 0 (by omega)) ?_
      refine At.N rfl ?_ ?_
      · intro q
        have := hr.2.2.2.2.2.1
        rw [t5] at q
        rw [q] at this
        exact absurd this.1 (by decide)
      · rw [t0, t5]
        exact At.R rfl
    · rw [if_neg hb, if_neg hb, if_neg hb]
      refine At.Bt rfl rfl ?_
      refine At.Ci rfl (e_order i 2 h1 (by omega) σ) ?_
      refine At.N rfl (v58 6 (by omega)) ?_
      refine At.Bt rfl rfl ?_
      refine At.N rfl (v58 6 (by omega)) ?_
      refine At.N rfl (v58 0 (by omega)) ?_
      refine At.N rfl ?_ ?_
      · intro q
        have := hr.2.2.2.2.2.2.1
        rw [t6] at q
        rw [q] at this
        exact absurd this.1 (by decide)
      · rw [t0, t6]
        exact At.R rfl
  · have hp : pen (σ 8 58) i = 0 := if_neg h
    rw [hp]
    exact At.R rfl
theorem e_zoneOf (hr : RI (σ 8 58)) {i : Nat} (hi : i < OM (σ 8 58)) : Ev mX7_zoneOf [M, .inl (nI i)] σ (evi (zon (σ 8 58) i) σ) := by
  obtain ⟨h1, h2, h3, h4, h5⟩ := hr.op hi
  show At mX7_zoneOf 0 [some M, some (.inl (nI i))] [] σ _
  refine At.Ci rfl (e_order i 3 h1 (by omega) σ) ?_
  refine At.B rfl (fun h => ?_) (fun h => ?_)
  · refine At.Ci rfl (e_penetrationOf hr hi) ?_
    have hp : zon (σ 8 58) i = iMin 3 (3 * pen (σ 8 58) i / 1000) := if_pos h
    rw [hp]
    refine At.N rfl (by decide) ?_
    exact At.R rfl
  · have hp : zon (σ 8 58) i = -1 := if_neg h
    rw [hp]
    refine At.J rfl ?_
    exact At.R rfl
theorem e_waitsAt (hr : RI (σ 8 58)) {i q : Nat} (hi : i < OM (σ 8 58)) : Ev mX7_waitsAt [M, .inl (nI i), .inl (nI q)] σ (evi (if wts (σ 8 58) i q then 1 else 0) σ) := by
  obtain ⟨h1, h2, h3, h4, h5⟩ := hr.op hi
  show At mX7_waitsAt 0 [some M, some (.inl (nI i)), some (.inl (nI q))] [] σ _
  refine At.Ci rfl (e_order i 3 h1 (by omega) σ) ?_
  refine At.B rfl (fun h => ?_) (fun h => ?_)
  · refine At.Ci rfl (e_order i 6 h1 (by omega) σ) ?_
    refine At.B rfl (fun hb => ?_) (fun hb => ?_)
    · obtain ⟨k1, k2, k3⟩ := hr.st hi h
      refine At.Ci rfl (e_order i 0 h1 (by omega) σ) ?_
      refine At.Ci rfl (e_order i 4 h1 (by omega) σ) ?_
      rw [h2, k1]
      refine At.Ci rfl (e_stepStation 58 _ _ rfl h3 k3 σ) ?_
      refine At.B rfl (fun hc => ?_) (fun hc => ?_)
      · rw [if_pos ⟨h, hb, hc⟩]
        refine At.J rfl ?_
        exact At.Z rfl (Or.inr rfl)
      · rw [if_neg (fun q => hc q.2.2)]
        exact At.Z rfl (Or.inl rfl)
    · rw [if_neg (fun q => hb q.2.1)]
      exact At.Z rfl (Or.inl rfl)
  · rw [if_neg (fun q => h q.1)]
    exact At.Z rfl (Or.inl rfl)
theorem e_workHere (hr : RI (σ 8 58)) {i : Nat} (hi : i < OM (σ 8 58)) (hs : rO (σ 8 58) i 3 = 1) : Ev mX7_workHere [M, .inl (nI i)] σ (evi (wH (σ 8 58) i) σ) := by
  obtain ⟨h1, h2, h3, h4, h5⟩ := hr.op hi
  obtain ⟨k1, k2, k3⟩ := hr.st hi hs
  show At mX7_workHere 0 [some M, some (.inl (nI i))] [] σ _
  refine At.Ci rfl (e_order i 0 h1 (by omega) σ) ?_
  refine At.Ci rfl (e_order i 4 h1 (by omega) σ) ?_
  rw [h2, k1]
  refine At.Ci rfl (e_stepTime 58 _ _ rfl h3 k3 σ) ?_
  refine At.Ci rfl (e_order i 1 h1 (by omega) σ) ?_
  exact At.R rfl
theorem e_isUrgent (hr : RI (σ 8 58)) {i : Nat} (hi : i < OM (σ 8 58)) : Ev mX7_isUrgent [M, .inl (nI i)] σ (evi (if urg (σ 8 58) i then 1 else 0) σ) := by
  obtain ⟨h1, h2, h3, h4, h5⟩ := hr.op hi
  show At mX7_isUrgent 0 [some M, some (.inl (nI i))] [] σ _
  refine At.Ci rfl (e_order i 12 h1 (by omega) σ) ?_
  refine At.B rfl (fun h => ?_) (fun h => ?_)
  · rw [if_pos (Or.inl h)]
    refine At.J rfl ?_
    exact At.Z rfl (Or.inr rfl)
  · refine At.N rfl (v58 9 (by omega)) ?_
    refine At.B rfl (fun ha => ?_) (fun ha => ?_)
    · refine At.Ci rfl (e_zoneOf hr hi) ?_
      refine At.B rfl (fun hz => ?_) (fun hz => ?_)
      · rw [if_neg (by rintro (q | q); exact h q; exact lt_nle hz q.2)]
        exact At.Z rfl (Or.inl rfl)
      · rw [if_pos (Or.inr ⟨ha, fa_of_nlt hz⟩)]
        refine At.J rfl ?_
        exact At.Z rfl (Or.inr rfl)
    · rw [if_neg (by rintro (q | q); exact h q; exact ha q.1)]
      exact At.Z rfl (Or.inl rfl)
end ML
