/-! ===== the reference: a tick's parts ===== -/
theorem nn_nI {n : Nat} (h : n < 2 ^ 31) : nn (nI n) = n := nI_clamp h
theorem upd_ne' {f : Row} {k j : Nat} {x : Int32} (h : j ≠ k) : upd f k x j = f j := if_neg h
theorem upd_eq' {f : Row} {k : Nat} {x : Int32} : upd f k x k = x := if_pos rfl
theorem b01 {c : Prop} {d : Decidable c} : ((@ite _ c d (1 : Int32) 0) = 0) ↔ ¬ c := by by_cases h : c <;> simp [h]
theorem e_isDown {σ : iM} {q : Nat} (hq : q < 6) : Ev mX7_isDown [M, .inl (nI q)] σ (evi (if dnn (σ 8 58) q then 1 else 0) σ) := by
  show At mX7_isDown 0 [some M, some (.inl (nI q))] [] σ _
  refine At.N rfl (v58 0 (by omega)) ?_
  refine At.Ci rfl (e_station q 2 hq (by omega) σ) ?_
  rw [t0]
  refine At.B rfl (fun h => ?_) (fun h => ?_)
  · rw [if_neg (le_nlt h)]
    exact At.Z rfl (Or.inl rfl)
  · rw [if_pos (fa_of_nle h)]
    refine At.J rfl ?_
    exact At.Z rfl (Or.inr rfl)
theorem e_worth {σ : iM} (hr : RI (σ 8 58)) {i : Nat} (hi : i < OM (σ 8 58)) (hs : rO (σ 8 58) i 3 = 1) : Ev mX7_worth [M, .inl (nI i)] σ (evi (wor (σ 8 58) i) σ) := by
  obtain ⟨h1, h2, h3, h4, h5⟩ := hr.op hi
  show At mX7_worth 0 [some M, some (.inl (nI i))] [] σ _
  refine At.N rfl (v58 8 (by omega)) ?_
  refine At.Sw rfl ?_
  rw [t8]
  unfold wor
  by_cases q0 : σ 8 58 8 = 0
  · rw [if_pos q0, q0]
    show At mX7_worth 32 _ _ _ _
    refine At.Ci rfl (e_order i 5 h1 (by omega) σ) ?_
    exact At.R rfl
  · rw [if_neg q0]
    by_cases q1 : σ 8 58 8 = 1
    · rw [if_pos q1, q1]
      show At mX7_worth 39 _ _ _ _
      refine At.Ci rfl (e_penetrationOf hr hi) ?_
      exact At.R rfl
    · rw [if_neg q1]
      by_cases q2 : σ 8 58 8 = 2
      · rw [if_pos q2, q2]
        show At mX7_worth 46 _ _ _ _
        refine At.Ci rfl (e_order i 2 h1 (by omega) σ) ?_
        exact At.R rfl
      · rw [if_neg q2]
        simp only [swT, if_neg q0, if_neg q1, if_neg q2]
        refine At.Ci rfl (e_workHere hr hi hs) ?_
        exact At.R rfl
theorem e_isBetter {σ : iM} (hr : RI (σ 8 58)) {i k : Nat} (hi : i < OM (σ 8 58)) (hk : k < OM (σ 8 58)) (hs : rO (σ 8 58) i 3 = 1) (hs2 : rO (σ 8 58) k 3 = 1) : Ev mX7_isBetter [M, .inl (nI i), .inl (nI k)] σ (evi (if btr (σ 8 58) i k then 1 else 0) σ) := by
  show At mX7_isBetter 0 [some M, some (.inl (nI i)), some (.inl (nI k))] [] σ _
  refine At.Ci rfl (e_isUrgent hr hi) ?_
  refine At.Ci rfl (e_isUrgent hr hk) ?_
  refine At.B rfl (fun h => ?_) (fun h => ?_)
  · have huu : urg (σ 8 58) i ↔ urg (σ 8 58) k := by
      by_cases a : urg (σ 8 58) i <;> by_cases b : urg (σ 8 58) k <;> simp only [a, b, if_true, if_false] at h ⊢ <;> exact absurd h (by decide)
    refine At.Ci rfl (e_worth hr hi hs) ?_
    refine At.Ci rfl (e_worth hr hk hs2) ?_
    refine At.B rfl (fun h2 => ?_) (fun h2 => ?_)
    · rw [if_neg]
      · exact At.Z rfl (Or.inl rfl)
      · rintro (q | q)
        · exact q.2 (huu.mp q.1)
        · exact le_nlt h2 q.2
    · rw [if_pos (Or.inr ⟨huu, fa_of_nle h2⟩)]
      refine At.J rfl ?_
      exact At.Z rfl (Or.inr rfl)
  · refine At.Ci rfl (e_isUrgent hr hi) ?_
    have hv : (if urg (σ 8 58) i then (1 : Int32) else 0) = if btr (σ 8 58) i k then 1 else 0 := by
      by_cases a : urg (σ 8 58) i
      · have b : ¬ urg (σ 8 58) k := fun b => h (by rw [if_pos a, if_pos b])
        rw [if_pos a, if_pos (Or.inl ⟨a, b⟩)]
      · have b : urg (σ 8 58) k := Classical.byContradiction fun b => h (by rw [if_neg a, if_neg b])
        rw [if_neg a, if_neg]
        rintro (q | q)
        · exact a q.1
        · exact a (q.1.mpr b)
    rw [← hv]
    exact At.Z rfl (zo _ _)
theorem cho_ok {r : Row} (hr : RI r) (q : Nat) : ∀ n, n ≤ OM r → cho r q n = -1 ∨ ∃ i, i < n ∧ cho r q n = nI i ∧ wts r i q := by
  intro n
  induction n with
  | zero => intro _; exact Or.inl rfl
  | succ n ih =>
    intro hn
    rw [cho]
    by_cases h : wts r n q ∧ (cho r q n = -1 ∨ btr r n (nn (cho r q n)))
    · rw [if_pos h]
      exact Or.inr ⟨n, by omega, rfl, h.1⟩
    · rw [if_neg h]
      rcases ih (by omega) with a | ⟨i, a, b, c⟩
      · exact Or.inl a
      · exact Or.inr ⟨i, by omega, b, c⟩
theorem e_choice {σ : iM} (hr : RI (σ 8 58)) {q : Nat} : Ev mX7_choice [M, .inl (nI q)] σ (evi (cho (σ 8 58) q (OM (σ 8 58))) σ) := by
  show At mX7_choice 0 [some M, some (.inl (nI q)), none, none] [] σ _
  refine At.F 4 [some M, some (.inl (nI q)), some (.inl (-1)), some (.inl (nI 0))] [] σ rfl ?_
  obtain ⟨om1, om2⟩ := hr.om
  refine down_ind (N := OM (σ 8 58)) (P := fun n => At mX7_choice 4 [some M, some (.inl (nI q)), some (.inl (cho (σ 8 58) q n)), some (.inl (nI n))] [] σ _) ?_ ?_ 0 (Nat.zero_le _)
  · refine At.N rfl (v58 4 (by omega)) ?_
    rw [t4]
    refine At.Bt rfl (by rw [om1]; exact (nI_leI (by omega) (by omega)).mpr (Nat.le_refl _)) ?_
    exact At.R rfl
  · intro n hn ih
    refine At.N rfl (v58 4 (by omega)) ?_
    rw [t4]
    refine At.Bf rfl (by rw [om1]; exact fun h => absurd ((nI_leI (by omega) (by omega)).mp h) (by omega)) ?_
    refine At.Ci rfl (e_waitsAt hr hn) ?_
    rw [cho] at ih
    by_cases hw : wts (σ 8 58) n q
    · rw [if_pos hw]
      refine At.Bf rfl (by decide) ?_
      refine At.B rfl (fun hb => ?_) (fun hb => ?_)
      · rw [if_pos ⟨hw, Or.inl hb⟩] at ih
        refine At.J rfl ?_
        rw [nI_1]
        exact ih
      · rcases cho_ok hr q n (by omega) with a | ⟨i, a, b, c⟩
        · exact absurd a hb
        · have hnn : nn (cho (σ 8 58) q n) = i := by rw [b]; exact nI_clamp (by omega)
          rw [hnn] at ih
          rw [b] at ih ⊢
          refine At.Ci rfl (e_isBetter hr hn (by omega) hw.1 c.1) ?_
          by_cases hbt : btr (σ 8 58) n i
          · rw [if_pos hbt]
            rw [if_pos ⟨hw, Or.inr hbt⟩] at ih
            refine At.Bf rfl (by decide) ?_
            refine At.J rfl ?_
            rw [nI_1]
            exact ih
          · rw [if_neg hbt]
            rw [if_neg (by rintro ⟨-, x | x⟩; exact hb (b.trans x); exact hbt x)] at ih
            refine At.Bt rfl (rfl) ?_
            refine At.J rfl ?_
            rw [nI_1]
            exact ih
    · rw [if_neg hw]
      rw [if_neg (fun x => hw x.1)] at ih
      refine At.Bt rfl (rfl) ?_
      refine At.J rfl ?_
      rw [nI_1]
      exact ih
/-- the drum waits in vain: an order that has yet to pass it -/
def stv (r : Row) : Nat → Bool
  | 0 => false
  | n + 1 => stv r n || decide (opn r n ∧ ¬ past r n)
abbrev isStv (r : Row) : Prop := ¬ dnn r (DR r) ∧ rS r (DR r) 0 = -1 ∧ stv r (OM r) = true
theorem stv_ge (r : Row) {m n : Nat} (h : stv r m = true) (hmn : m ≤ n) : stv r n = true := by
  induction n with
  | zero => have : m = 0 := by omega
            subst this; exact h
  | succ n ih =>
    by_cases e : m = n + 1
    · subst e; exact h
    · rw [stv, ih (by omega)]; rfl
theorem e_isStarved {σ : iM} (hr : RI (σ 8 58)) : Ev mX7_isStarved [M] σ (evi (if isStv (σ 8 58) then 1 else 0) σ) := by
  show At mX7_isStarved 0 [some M, none] [] σ _
  obtain ⟨om1, om2⟩ := hr.om
  obtain ⟨d1, d2, d3⟩ := hr.dr
  refine At.N rfl (v58 2 (by omega)) ?_
  rw [t2, d1]
  refine At.Ci rfl (e_isDown d3) ?_
  by_cases hd : dnn (σ 8 58) (DR (σ 8 58))
  · rw [if_pos hd, if_neg (fun x => x.1 hd)]
    refine At.Bf rfl (by decide) ?_
    exact At.Z rfl (Or.inl rfl)
  · rw [if_neg hd]
    refine At.Bt rfl (rfl) ?_
    refine At.N rfl (v58 2 (by omega)) ?_
    rw [t2, d1]
    refine At.Ci rfl (e_station _ 0 d3 (by omega) σ) ?_
    refine At.B rfl (fun hw => ?_) (fun hw => ?_)
    · refine At.F 32 [some M, some (.inl (nI 0))] [] σ rfl ?_
      have key := down_ind (N := OM (σ 8 58)) (P := fun n => stv (σ 8 58) n = false → At mX7_isStarved 32 [some M, some (.inl (nI n))] [] σ (evi (if isStv (σ 8 58) then 1 else 0) σ)) ?_ ?_ 0 (Nat.zero_le _)
      · exact key rfl
      · intro hs
        refine At.N rfl (v58 4 (by omega)) ?_
        rw [t4]
        refine At.Bt rfl (by rw [om1]; exact (nI_leI (by omega) (by omega)).mpr (Nat.le_refl _)) ?_
        rw [if_neg (fun x => absurd x.2.2 (by rw [hs]; decide))]
        exact At.Z rfl (Or.inl rfl)
      · intro n hn ih hs
        refine At.N rfl (v58 4 (by omega)) ?_
        rw [t4]
        refine At.Bf rfl (by rw [om1]; exact fun h => absurd ((nI_leI (by omega) (by omega)).mp h) (by omega)) ?_
        refine At.Ci rfl (e_isOpen (by omega)) ?_
        by_cases ho : opn (σ 8 58) n
        · rw [if_pos ho]
          refine At.Bf rfl (by decide) ?_
          refine At.Ci rfl (e_isPastDrum hr hn) ?_
          by_cases hp : past (σ 8 58) n
          · rw [if_pos hp]
            refine At.Bf rfl (by decide) ?_
            refine At.J rfl ?_
            rw [nI_1]
            refine ih ?_
            rw [stv, hs, decide_eq_false (fun x => x.2 hp)]
            rfl
          · rw [if_neg hp]
            refine At.Bt rfl (rfl) ?_
            rw [if_pos ⟨hd, hw, stv_ge _ (m := n + 1) (by rw [stv, decide_eq_true ⟨ho, hp⟩]; simp) (by omega)⟩]
            exact At.Z rfl (Or.inr rfl)
        · rw [if_neg ho]
          refine At.Bt rfl (rfl) ?_
          refine At.J rfl ?_
          rw [nI_1]
          refine ih ?_
          rw [stv, hs, decide_eq_false (fun x => ho x.1)]
          rfl
    · rw [if_neg (fun x => hw x.2.1)]
      exact At.Z rfl (Or.inl rfl)
/-- the rope's load -/
def ropeL (r : Row) : Int32 := sumN (fun i => if rO r i 3 = 1 ∧ ¬ past r i then wk r i else 0) (OM r)
theorem e_ropeNow {σ : iM} (hr : RI (σ 8 58)) : Ev mX7_ropeNow [M] σ (evi (ropeL (σ 8 58)) σ) := by
  show At mX7_ropeNow 0 [some M, none, none] [] σ _
  obtain ⟨om1, om2⟩ := hr.om
  refine At.F 4 [some M, some (.inl (sumN (fun i => if rO (σ 8 58) i 3 = 1 ∧ ¬ past (σ 8 58) i then wk (σ 8 58) i else 0) 0)), some (.inl (nI 0))] [] σ rfl ?_
  refine down_ind (N := OM (σ 8 58)) (P := fun n => At mX7_ropeNow 4 [some M, some (.inl (sumN (fun i => if rO (σ 8 58) i 3 = 1 ∧ ¬ past (σ 8 58) i then wk (σ 8 58) i else 0) n)), some (.inl (nI n))] [] σ _) ?_ ?_ 0 (Nat.zero_le _)
  · refine At.N rfl (v58 4 (by omega)) ?_
    rw [t4]
    refine At.Bt rfl (by rw [om1]; exact (nI_leI (by omega) (by omega)).mpr (Nat.le_refl _)) ?_
    exact At.R rfl
  · intro n hn ih
    rw [sumN] at ih
    refine At.N rfl (v58 4 (by omega)) ?_
    rw [t4]
    refine At.Bf rfl (by rw [om1]; exact fun h => absurd ((nI_leI (by omega) (by omega)).mp h) (by omega)) ?_
    refine At.Ci rfl (e_order n 3 (by omega) (by omega) σ) ?_
    refine At.B rfl (fun h => ?_) (fun h => ?_)
    · refine At.Ci rfl (e_isPastDrum hr hn) ?_
      by_cases hp : past (σ 8 58) n
      · rw [if_pos hp]
        rw [if_neg (fun x => x.2 hp)] at ih
        refine At.Bf rfl (by decide) ?_
        refine At.J rfl ?_
        rw [nI_1]
        exact ih
      · rw [if_neg hp]
        rw [if_pos ⟨h, hp⟩] at ih
        refine At.Bt rfl (rfl) ?_
        refine At.Ci rfl (e_workAtDrum hr hn) ?_
        refine At.J rfl ?_
        refine At.J rfl ?_
        rw [nI_1]
        exact ih
    · rw [if_neg (fun x => h x.1)] at ih
      refine At.J rfl ?_
      rw [nI_1]
      exact ih
/-- when the drum is free -/
def earl (r : Row) : Int32 := r 0 + (if rS r (DR r) 0 = -1 then 0 else rO r (nn (rS r (DR r) 0)) 7)
theorem e_earliest {σ : iM} (hr : RI (σ 8 58)) : Ev mX7_earliest [M] σ (evi (earl (σ 8 58)) σ) := by
  show At mX7_earliest 0 [some M, none] [] σ _
  obtain ⟨d1, d2, d3⟩ := hr.dr
  have hs := hr.sta d2
  refine At.N rfl (v58 2 (by omega)) ?_
  rw [t2, d1]
  refine At.Ci rfl (e_station _ 0 d3 (by omega) σ) ?_
  refine At.N rfl (v58 0 (by omega)) ?_
  rw [t0]
  unfold earl
  refine At.B rfl (fun h => ?_) (fun h => ?_)
  · rw [if_pos h]
    refine At.J rfl ?_
    exact At.R rfl
  · rw [if_neg h]
    obtain ⟨a, b, c⟩ := hs.2.2.resolve_left h
    have a1 := a.toN (by omega) (by omega)
    rw [a1.1]
    have a2 : nn (rS (σ 8 58) (DR (σ 8 58)) 0) ≤ 23 := a1.2.1
    refine At.Ci rfl (e_order _ 7 (by omega) (by omega) σ) ?_
    rw [nn_nI (by omega)]
    exact At.R rfl
