/-! ===== the reference: what a tick changes ===== -/
def rel1 (r : Row) (i : Nat) (t : Int32) : Row := upd (upd (upd (upd (upd r (131 + 14 * i + 3) 1) (131 + 14 * i + 4) 0) (131 + 14 * i + 5) (r 0)) (131 + 14 * i + 8) (r 0)) (131 + 14 * i + 9) t
theorem e_release {σ : iM} {i : Nat} (hi : i < 24) (t : Int32) : Ev mX7_release [M, .inl (nI i), .inl t] σ (evv (mR σ 58 (rel1 (σ 8 58) i t))) := by
  show At mX7_release 0 [some M, some (.inl (nI i)), some (.inl t)] [] σ _
  refine At.Cv rfl (e_setsOrder i 3 1 hi (by omega) σ) ?_
  refine At.Cv rfl (e_setsOrder i 4 0 hi (by omega) _) ?_
  refine At.N rfl (v58 0 (by omega)) ?_
  refine At.Cv rfl (e_setsOrder i 5 _ hi (by omega) _) ?_
  refine At.N rfl (v58 0 (by omega)) ?_
  refine At.Cv rfl (e_setsOrder i 8 _ hi (by omega) _) ?_
  refine At.Cv rfl (e_setsOrder i 9 _ hi (by omega) _) ?_
  simp only [mR_at, mR_mR, t0]
  rw [upd_ne' (k := 131 + 14 * i + 5) (by omega), upd_ne' (k := 131 + 14 * i + 4) (by omega), upd_ne' (k := 131 + 14 * i + 3) (by omega)]
  exact At.R rfl
/-- a station begins a step -/
def begR (r : Row) (q i : Nat) : Row :=
  (fun r5 : Row => if nI q = r 2 then upd r5 (131 + 14 * i + 10) (r 0) else r5)
  (upd (upd (upd (upd (if rO r i 0 = rS r q 1 then r else upd r (11 + 7 * q + 4) (rS r q 4 + 1)) (11 + 7 * q + 1) (rO r i 0)) (11 + 7 * q + 0) (nI i)) (131 + 14 * i + 6) 1) (131 + 14 * i + 7) (if rO r i 0 = rS r q 1 then wH r i else wH r i + rS r q 5))
def beg (r : Row) (q : Nat) : Row := if rS r q 0 = -1 ∧ ¬ dnn r q ∧ ¬ cho r q (OM r) = -1 then begR r q (nn (cho r q (OM r))) else r
theorem e_begins {σ : iM} (hr : RI (σ 8 58)) {q : Nat} (hq : q < 6) : Ev mX7_begins_ [M, .inl (nI q)] σ (evv (mR σ 58 (beg (σ 8 58) q))) := by
  show At mX7_begins_ 0 [some M, some (.inl (nI q)), none, none, none] [] σ _
  obtain ⟨om1, om2⟩ := hr.om
  refine At.Ci rfl (e_station q 0 hq (by omega) σ) ?_
  unfold beg
  refine At.B rfl (fun h => ?_) (fun h => ?_)
  · refine At.Ci rfl (e_isDown hq) ?_
    by_cases hd : dnn (σ 8 58) q
    · rw [if_pos hd, if_neg (fun x => x.2.1 hd), mR_self]
      refine At.Bf rfl (by decide) ?_
      exact At.R rfl
    · rw [if_neg hd]
      refine At.Bt rfl (rfl) ?_
      refine At.Ci rfl (e_choice hr) ?_
      refine At.B rfl (fun hc => ?_) (fun hc => ?_)
      · rw [if_neg (fun x => x.2.2 hc), mR_self]
        exact At.R rfl
      · rw [if_pos ⟨h, hd, hc⟩]
        rcases cho_ok hr q (OM (σ 8 58)) (Nat.le_refl _) with a | ⟨i, a, b, c⟩
        · exact absurd a hc
        · rw [b, nn_nI (by omega)]
          have hi : i < 24 := by omega
          refine At.Ci rfl (e_order i 0 hi (by omega) σ) ?_
          refine At.Ci rfl (e_workHere hr a c.1) ?_
          refine At.Ci rfl (e_station q 1 hq (by omega) σ) ?_
          unfold begR
          refine At.B rfl (fun hp => ?_) (fun hp => ?_)
          · rw [if_pos hp, if_pos hp]
            refine At.Cv rfl (e_setsStation q 1 _ hq (by omega) σ) ?_
            refine At.Cv rfl (e_setsStation q 0 _ hq (by omega) _) ?_
            refine At.Cv rfl (e_setsOrder i 6 1 hi (by omega) _) ?_
            refine At.Cv rfl (e_setsOrder i 7 _ hi (by omega) _) ?_
            refine At.N rfl (v58 2 (by omega)) ?_
            simp only [mR_at, mR_mR, t2]
            rw [upd_ne' (k := 131 + 14 * i + 7) (by omega), upd_ne' (k := 131 + 14 * i + 6) (by omega), upd_ne' (k := 11 + 7 * q + 0) (by omega), upd_ne' (k := 11 + 7 * q + 1) (by omega)]
            refine At.B rfl (fun hdr => ?_) (fun hdr => ?_)
            · rw [if_pos hdr]
              refine At.N rfl (v58 0 (by omega)) ?_
              refine At.Cv rfl (e_setsOrder i 10 _ hi (by omega) _) ?_
              simp only [mR_at, mR_mR, t0]
              rw [upd_ne' (k := 131 + 14 * i + 7) (by omega), upd_ne' (k := 131 + 14 * i + 6) (by omega), upd_ne' (k := 11 + 7 * q + 0) (by omega), upd_ne' (k := 11 + 7 * q + 1) (by omega)]
              exact At.R rfl
            · rw [if_neg hdr]
              exact At.R rfl
          · rw [if_neg hp, if_neg hp]
            refine At.Ci rfl (e_station q 5 hq (by omega) σ) ?_
            refine At.Ci rfl (e_station q 4 hq (by omega) σ) ?_
            refine At.Cv rfl (e_setsStation q 4 _ hq (by omega) σ) ?_
            refine At.Cv rfl (e_setsStation q 1 _ hq (by omega) _) ?_
            refine At.Cv rfl (e_setsStation q 0 _ hq (by omega) _) ?_
            refine At.Cv rfl (e_setsOrder i 6 1 hi (by omega) _) ?_
            refine At.Cv rfl (e_setsOrder i 7 _ hi (by omega) _) ?_
            refine At.N rfl (v58 2 (by omega)) ?_
            simp only [mR_at, mR_mR, t2]
            rw [upd_ne' (k := 131 + 14 * i + 7) (by omega), upd_ne' (k := 131 + 14 * i + 6) (by omega), upd_ne' (k := 11 + 7 * q + 0) (by omega), upd_ne' (k := 11 + 7 * q + 1) (by omega), upd_ne' (k := 11 + 7 * q + 4) (by omega)]
            refine At.B rfl (fun hdr => ?_) (fun hdr => ?_)
            · rw [if_pos hdr]
              refine At.N rfl (v58 0 (by omega)) ?_
              refine At.Cv rfl (e_setsOrder i 10 _ hi (by omega) _) ?_
              simp only [mR_at, mR_mR, t0]
              rw [upd_ne' (k := 131 + 14 * i + 7) (by omega), upd_ne' (k := 131 + 14 * i + 6) (by omega), upd_ne' (k := 11 + 7 * q + 0) (by omega), upd_ne' (k := 11 + 7 * q + 1) (by omega), upd_ne' (k := 11 + 7 * q + 4) (by omega)]
              exact At.R rfl
            · rw [if_neg hdr]
              exact At.R rfl
  · rw [if_neg (fun x => h x.1), mR_self]
    exact At.R rfl
/-- a station's work for a tick -/
def wrk (r : Row) (q : Nat) : Row := if rS r q 0 = -1 ∨ dnn r q then r else upd (upd r (131 + 14 * nn (rS r q 0) + 7) (rO r (nn (rS r q 0)) 7 - 1)) (11 + 7 * q + 3) (rS r q 3 + 1)
theorem SI.w {r : Row} {q : Nat} (h : SI r q) (hw : ¬ rS r q 0 = -1) : rS r q 0 = nI (nn (rS r q 0)) ∧ nn (rS r q 0) < OM r ∧ nn (rS r q 0) < 24 ∧ rO r (nn (rS r q 0)) 3 = 1 ∧ rO r (nn (rS r q 0)) 6 = 1 ∧ rPs r (oP r (nn (rS r q 0))) (oK r (nn (rS r q 0))) = nI q := by
  obtain ⟨a, b, c, d, e⟩ := h.2.2.resolve_left hw
  have a1 := a.toN (by omega) (by omega)
  exact ⟨a1.1, b, Nat.lt_of_le_of_lt a1.2.1 (by decide), c, d, e⟩
theorem e_works {σ : iM} {q : Nat} (hq6 : q < 6) (hw : ¬ rS (σ 8 58) q 0 = -1 → rS (σ 8 58) q 0 = nI (nn (rS (σ 8 58) q 0)) ∧ nn (rS (σ 8 58) q 0) < 24) : Ev mX7_works [M, .inl (nI q)] σ (evv (mR σ 58 (wrk (σ 8 58) q))) := by
  show At mX7_works 0 [some M, some (.inl (nI q)), none] [] σ _
  refine At.Ci rfl (e_station q 0 hq6 (by omega) σ) ?_
  unfold wrk
  refine At.B rfl (fun h => ?_) (fun h => ?_)
  · rw [if_pos (Or.inl h), mR_self]
    exact At.R rfl
  · obtain ⟨a1, a3⟩ := hw h
    refine At.Ci rfl (e_isDown hq6) ?_
    by_cases hd : dnn (σ 8 58) q
    · rw [if_pos hd, if_pos (Or.inr hd), mR_self]
      refine At.Bf rfl (by decide) ?_
      exact At.R rfl
    · rw [if_neg hd, if_neg (by rintro (x | x); exact h x; exact hd x)]
      generalize hg : nn (rS (σ 8 58) q 0) = i at a1 a3 ⊢
      rw [a1]
      refine At.Bt rfl (rfl) ?_
      refine At.Ci rfl (e_order i 7 a3 (by omega) σ) ?_
      refine At.Cv rfl (e_setsOrder i 7 _ a3 (by omega) σ) ?_
      refine At.Ci rfl (e_station q 3 hq6 (by omega) _) ?_
      refine At.Cv rfl (e_setsStation q 3 _ hq6 (by omega) _) ?_
      simp only [mR_at, mR_mR]
      rw [show rS (upd (σ 8 58) (131 + 14 * i + 7) (rO (σ 8 58) i 7 - 1)) q 3 = rS (σ 8 58) q 3 from upd_ne' (by omega)]
      exact At.R rfl
/-- a station whose step has no work left finishes it -/
def fin4 (r : Row) (q i : Nat) : Row := upd (upd (upd (upd r (11 + 7 * q + 0) (-1)) (131 + 14 * i + 6) 0) (131 + 14 * i + 4) (rO r i 4 + 1)) (131 + 14 * i + 5) (r 0)
def finR (r : Row) (q i : Nat) : Row := if rO r i 4 + 1 = rPn r (oP r i) then upd (upd (fin4 r q i) (131 + 14 * i + 3) 2) (131 + 14 * i + 11) (r 0) else fin4 r q i
abbrev isFin (r : Row) (q : Nat) : Prop := ¬ rS r q 0 = -1 ∧ rO r (nn (rS r q 0)) 7 ≤ 0
def fin (r : Row) (q : Nat) : Row := if isFin r q then finR r q (nn (rS r q 0)) else r
/-- whether the order is finished then -/
abbrev isFinO (r : Row) (q : Nat) : Prop := isFin r q ∧ rO r (nn (rS r q 0)) 4 + 1 = rPn r (oP r (nn (rS r q 0)))
theorem e_fin1 {σ : iM} {q i : Nat} (hq6 : q < 6) (a1 : rS (σ 8 58) q 0 = nI i) (a3 : i < 24) (p1 : rO (σ 8 58) i 0 = nI (oP (σ 8 58) i)) (p2 : oP (σ 8 58) i < 6) (hl : rO (σ 8 58) i 7 ≤ 0) : Ev mX7_finishes [M, .inl (nI q)] σ (evi (if rO (σ 8 58) i 4 + 1 = rPn (σ 8 58) (oP (σ 8 58) i) then 1 else 0) (mR σ 58 (finR (σ 8 58) q i))) := by
  show At mX7_finishes 0 [some M, some (.inl (nI q)), none, none] [] σ _
  refine At.Ci rfl (e_station q 0 hq6 (by omega) σ) ?_
  rw [a1]
  refine At.Bf rfl (by intro x; have y := congrArg Int32.toInt x; rw [nI_toInt (by omega)] at y; exact absurd y (by show ¬ (i : Int) = -1; omega)) ?_
  refine At.Ci rfl (e_order i 7 a3 (by omega) σ) ?_
  refine At.Bt rfl (hl) ?_
  refine At.Cv rfl (e_setsStation q 0 (-1) hq6 (by omega) σ) ?_
  refine At.Cv rfl (e_setsOrder i 6 0 a3 (by omega) _) ?_
  refine At.Ci rfl (e_order i 4 a3 (by omega) _) ?_
  refine At.Cv rfl (e_setsOrder i 4 _ a3 (by omega) _) ?_
  refine At.N rfl (v58 0 (by omega)) ?_
  refine At.Cv rfl (e_setsOrder i 5 _ a3 (by omega) _) ?_
  simp only [mR_at, mR_mR, t0]
  have e4 : rO (upd (upd (σ 8 58) (11 + 7 * q + 0) (-1)) (131 + 14 * i + 6) 0) i 4 = rO (σ 8 58) i 4 := by
    show upd (upd (σ 8 58) (11 + 7 * q + 0) (-1)) (131 + 14 * i + 6) 0 (131 + 14 * i + 4) = _
    rw [upd_ne' (by omega), upd_ne' (by omega)]
  rw [e4]
  rw [upd_ne' (k := 131 + 14 * i + 4) (by omega), upd_ne' (k := 131 + 14 * i + 6) (by omega), upd_ne' (k := 11 + 7 * q + 0) (by omega)]
  have hf : upd (upd (upd (upd (σ 8 58) (11 + 7 * q + 0) (-1)) (131 + 14 * i + 6) 0) (131 + 14 * i + 4) (rO (σ 8 58) i 4 + 1)) (131 + 14 * i + 5) (σ 8 58 0) = fin4 (σ 8 58) q i := rfl
  rw [hf]
  have g4 : rO (fin4 (σ 8 58) q i) i 4 = rO (σ 8 58) i 4 + 1 := by
    show upd _ (131 + 14 * i + 5) _ (131 + 14 * i + 4) = _
    rw [upd_ne' (by omega), upd_eq']
  have gn : ∀ n, n < 131 → n ≠ 11 + 7 * q + 0 → fin4 (σ 8 58) q i n = σ 8 58 n := fun n h1 h2 => by
    unfold fin4
    rw [upd_ne' (by omega), upd_ne' (by omega), upd_ne' (by omega), upd_ne' h2]
  have g0 : rO (fin4 (σ 8 58) q i) i 0 = rO (σ 8 58) i 0 := by
    show upd _ (131 + 14 * i + 5) _ (131 + 14 * i + 0) = _
    rw [upd_ne' (by omega), upd_ne' (by omega), upd_ne' (by omega), upd_ne' (by omega)]
  have gp : rPn (fin4 (σ 8 58) q i) (oP (σ 8 58) i) = rPn (σ 8 58) (oP (σ 8 58) i) := gn _ (by omega) (by omega)
  unfold finR
  refine At.Ci rfl (e_order i 4 a3 (by omega) _) ?_
  refine At.Ci rfl (e_order i 0 a3 (by omega) _) ?_
  simp only [mR_at]
  rw [g0, p1]
  refine At.Ci rfl (e_steps 58 _ rfl p2 _) ?_
  simp only [mR_at]
  rw [gp, g4]
  refine At.B rfl (fun he => ?_) (fun he => ?_)
  · rw [if_pos he, if_pos he]
    refine At.J rfl ?_
    refine At.Bf rfl (by decide) ?_
    refine At.Cv rfl (e_setsOrder i 3 2 a3 (by omega) _) ?_
    refine At.N rfl (v58 0 (by omega)) ?_
    refine At.Cv rfl (e_setsOrder i 11 _ a3 (by omega) _) ?_
    simp only [mR_at, mR_mR, t0]
    rw [upd_ne' (k := 131 + 14 * i + 3) (by omega), gn 0 (by omega) (by omega)]
    exact At.Z rfl (Or.inr rfl)
  · rw [if_neg he, if_neg he]
    refine At.Bt rfl (rfl) ?_
    exact At.Z rfl (Or.inl rfl)
theorem e_finishes {σ : iM} {q : Nat} (hq6 : q < 6) (hw : ¬ rS (σ 8 58) q 0 = -1 → rS (σ 8 58) q 0 = nI (nn (rS (σ 8 58) q 0)) ∧ nn (rS (σ 8 58) q 0) < 24 ∧ rO (σ 8 58) (nn (rS (σ 8 58) q 0)) 0 = nI (oP (σ 8 58) (nn (rS (σ 8 58) q 0))) ∧ oP (σ 8 58) (nn (rS (σ 8 58) q 0)) < 6) : Ev mX7_finishes [M, .inl (nI q)] σ (evi (if isFinO (σ 8 58) q then 1 else 0) (mR σ 58 (fin (σ 8 58) q))) := by
  by_cases hF : isFin (σ 8 58) q
  · obtain ⟨a1, a3, p1, p2⟩ := hw hF.1
    have h1 := e_fin1 hq6 a1 a3 p1 p2 hF.2
    have e1 : fin (σ 8 58) q = finR (σ 8 58) q (nn (rS (σ 8 58) q 0)) := if_pos hF
    rw [e1]
    by_cases he : rO (σ 8 58) (nn (rS (σ 8 58) q 0)) 4 + 1 = rPn (σ 8 58) (oP (σ 8 58) (nn (rS (σ 8 58) q 0)))
    · rw [if_pos ⟨hF, he⟩]
      rw [if_pos he] at h1
      exact h1
    · rw [if_neg (fun x => he x.2)]
      rw [if_neg he] at h1
      exact h1
  · have e1 : fin (σ 8 58) q = σ 8 58 := if_neg hF
    rw [e1, if_neg (fun x => hF x.1), mR_self]
    show At mX7_finishes 0 [some M, some (.inl (nI q)), none, none] [] σ _
    refine At.Ci rfl (e_station q 0 hq6 (by omega) σ) ?_
    refine At.B rfl (fun h => ?_) (fun h => ?_)
    · exact At.Z rfl (Or.inl rfl)
    · obtain ⟨a1, a3, p1, p2⟩ := hw h
      rw [a1]
      refine At.Ci rfl (e_order _ 7 a3 (by omega) σ) ?_
      refine At.Bf rfl (fun hl => hF ⟨h, hl⟩) ?_
      exact At.Z rfl (Or.inl rfl)
/-- an order comes into the red -/
def seeR (r : Row) (i : Nat) : Row := upd (upd r (131 + 14 * i + 13) (rPs r (oP r i) (oK r i))) (11 + 7 * nn (rPs r (oP r i) (oK r i)) + 6) (rS r (nn (rPs r (oP r i) (oK r i))) 6 + 1)
def see (r : Row) (i : Nat) : Row := if rO r i 13 = -1 ∧ 2 ≤ zon r i then seeR r i else r
theorem zon_rel {r : Row} {i : Nat} (h : 2 ≤ zon r i) : rO r i 3 = 1 := by
  unfold zon at h
  by_cases q : rO r i 3 = 1
  · exact q
  · rw [if_neg q] at h
    exact absurd h (by decide)
theorem e_sees {σ : iM} (hr : RI (σ 8 58)) {i : Nat} (hi : i < OM (σ 8 58)) : Ev mX7_sees [M, .inl (nI i)] σ (evv (mR σ 58 (see (σ 8 58) i))) := by
  obtain ⟨h1, h2, h3, h4, h5⟩ := hr.op hi
  show At mX7_sees 0 [some M, some (.inl (nI i)), none] [] σ _
  refine At.Ci rfl (e_order i 13 h1 (by omega) σ) ?_
  unfold see
  refine At.B rfl (fun h => ?_) (fun h => ?_)
  · refine At.Ci rfl (e_zoneOf hr hi) ?_
    refine At.B rfl (fun hz => ?_) (fun hz => ?_)
    · rw [if_pos ⟨h, hz⟩]
      have hs := zon_rel hz
      obtain ⟨k1, k2, k3⟩ := hr.st hi hs
      have hst := (h4.2.1 _ k2)
      have s1 := hst.1.toN (by omega) (by omega)
      have s2 : nn (rPs (σ 8 58) (oP (σ 8 58) i) (oK (σ 8 58) i)) ≤ 5 := s1.2.1
      refine At.Ci rfl (e_order i 0 h1 (by omega) σ) ?_
      refine At.Ci rfl (e_order i 4 h1 (by omega) σ) ?_
      rw [h2, k1]
      refine At.Ci rfl (e_stepStation 58 _ _ rfl h3 k3 σ) ?_
      unfold seeR
      generalize hg : nn (rPs (σ 8 58) (oP (σ 8 58) i) (oK (σ 8 58) i)) = q at s1 s2 ⊢
      rw [s1.1]
      refine At.Cv rfl (e_setsOrder i 13 _ h1 (by omega) σ) ?_
      refine At.Ci rfl (e_station q 6 (by omega) (by omega) _) ?_
      refine At.Cv rfl (e_setsStation q 6 _ (by omega) (by omega) _) ?_
      simp only [mR_at, mR_mR]
      rw [show rS (upd (σ 8 58) (131 + 14 * i + 13) (nI q)) q 6 = rS (σ 8 58) q 6 from upd_ne' (by omega)]
      exact At.R rfl
    · rw [if_neg (fun x => hz x.2), mR_self]
      exact At.R rfl
  · rw [if_neg (fun x => h x.1), mR_self]
    exact At.R rfl
