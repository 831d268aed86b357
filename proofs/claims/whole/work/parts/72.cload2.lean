/-! ===== the class loads ===== -/
section CL2
variable {σ : iM} {T : Row} {n : Nat} {R so : Row}
theorem bg_Sh (h4 : ∀ j, 4 ≤ j → j ≤ 14 → σ 4 1 j = clU σ 4 1 j) (hq : ∀ q, q < 6 → ∀ j, j < 8 → σ 5 (6 * 1 + q) j = if j = 2 ∨ j = 3 then -1 else 0) : Sh σ 1 (bgU R 1 0) := by
  have hsc : SC (bgU R 1 0) = 1 := by unfold SC; rw [bg_1]; rfl
  refine ⟨?_, fun q hq' => ?_, fun p hp => ?_, fun i hi => ?_⟩
  · unfold ShS
    rw [h4 4 (by omega) (by omega), h4 5 (by omega) (by omega), h4 6 (by omega) (by omega), h4 7 (by omega) (by omega), h4 8 (by omega) (by omega), h4 9 (by omega) (by omega), h4 10 (by omega) (by omega), h4 11 (by omega) (by omega), h4 12 (by omega) (by omega), h4 13 (by omega) (by omega), h4 14 (by omega) (by omega)]
    rw [bg_1, bg_2, bg_7, bg_56 (Or.inl rfl), bg_56 (Or.inr rfl), bg_z (j := 3) (by omega), bg_z (j := 4) (by omega), bg_z (j := 8) (by omega), bg_z (j := 9) (by omega), bg_z (j := 0) (by omega), bg_z (j := 10) (by omega)]
    exact ⟨rfl, rfl, rfl, rfl, rfl, rfl, rfl, rfl, rfl, rfl, rfl⟩
  · rw [hsc] at hq'
    have hz2 : wtC (bgU R 1 0) q = 0 := by unfold wtC; rw [bg_om]; rfl
    have hv := hq q (by omega)
    unfold ShQ
    rw [hz2, hv 0 (by omega), hv 1 (by omega), hv 2 (by omega), hv 3 (by omega), hv 4 (by omega), hv 5 (by omega), hv 6 (by omega), hv 7 (by omega), bg_s (w := 5) (by omega) (by omega), bg_s (w := 2) (by omega) (by omega), bg_s (w := 0) (by omega) (by omega), bg_s (w := 1) (by omega) (by omega), bg_s (w := 3) (by omega) (by omega), bg_s (w := 4) (by omega) (by omega), bg_s (w := 6) (by omega) (by omega)]
    exact ⟨rfl, rfl, rfl, rfl, rfl, rfl, rfl, rfl⟩
  · rw [bg_pm] at hp; exact absurd hp (Nat.not_lt_zero p)
  · rw [bg_om] at hi; exact absurd hi (Nat.not_lt_zero i)
theorem clU_v {υ : iM} : ∀ j, 4 ≤ j → j ≤ 14 → clU σ 4 1 j = clU υ 4 1 j := by
  intro j h1 h2
  have : j = 4 ∨ j = 5 ∨ j = 6 ∨ j = 7 ∨ j = 8 ∨ j = 9 ∨ j = 10 ∨ j = 11 ∨ j = 12 ∨ j = 13 ∨ j = 14 := by omega
  rcases this with rfl | rfl | rfl | rfl | rfl | rfl | rfl | rfl | rfl | rfl | rfl <;> rfl
theorem c_readInto (h1 : σ 2 0 1 = nI n) (hn : n ≤ 700) (hT : σ 8 56 = T) (h4 : ∀ j, 4 ≤ j → j ≤ 14 → σ 4 1 j = clU σ 4 1 j) (hq : ∀ q, q < 6 → ∀ j, j < 8 → σ 5 (6 * 1 + q) j = if j = 2 ∨ j = 3 then -1 else 0) : EvP mX2_readInto [Rc, Y1] σ (fun z => ∃ σ1, z = evv σ1 ∧ LDc σ σ1 T n R so) := by
  show AtP mX2_readInto 0 [some Rc, some Y1, none] [] σ _
  refine AtP.Cv rfl (c_rewind) ?_
  have o : ∀ k i j, ¬ (k = 2 ∧ i = 0 ∧ 2 ≤ j ∧ j ≤ 6) → iU (iU (iU (iU (iU σ 2 0 2 0) 2 0 3 0) 2 0 4 (-1)) 2 0 5 0) 2 0 6 0 k i j = σ k i j := fun k i j x => by rw [iU_ne (by omega), iU_ne (by omega), iU_ne (by omega), iU_ne (by omega), iU_ne (by omega)]
  have v2 : iU (iU (iU (iU (iU σ 2 0 2 0) 2 0 3 0) 2 0 4 (-1)) 2 0 5 0) 2 0 6 0 2 0 2 = 0 := by rw [iU_ne (by omega), iU_ne (by omega), iU_ne (by omega), iU_ne (by omega), iU_same]
  have v4 : iU (iU (iU (iU (iU σ 2 0 2 0) 2 0 3 0) 2 0 4 (-1)) 2 0 5 0) 2 0 6 0 2 0 4 = -1 := by rw [iU_ne (by omega), iU_ne (by omega), iU_same]
  have v5 : iU (iU (iU (iU (iU σ 2 0 2 0) 2 0 3 0) 2 0 4 (-1)) 2 0 5 0) 2 0 6 0 2 0 5 = 0 := by rw [iU_ne (by omega), iU_same]
  have v6 : iU (iU (iU (iU (iU σ 2 0 2 0) 2 0 3 0) 2 0 4 (-1)) 2 0 5 0) 2 0 6 0 2 0 6 = 0 := iU_same
  generalize iU (iU (iU (iU (iU σ 2 0 2 0) 2 0 3 0) 2 0 4 (-1)) 2 0 5 0) 2 0 6 0 = σ0 at o v2 v4 v5 v6 ⊢
  have hq0 : ∀ q, q < 6 → ∀ j, j < 8 → σ0 5 (6 * 1 + q) j = if j = 2 ∨ j = 3 then -1 else 0 := fun q hq6 j hj => (o _ _ _ (by omega)).trans (hq q hq6 j hj)
  have hO : OKc σ0 σ0 T n 0 0 (bgU R 1 0) so := by
    refine ⟨⟨(o _ _ _ (by omega)).trans h1, hn, v5, Nat.zero_le _, ?_⟩, v2, v6, bg_Sh (fun j x y => ((o _ _ _ (by omega)).trans (h4 j x y)).trans (clU_v j x y)) hq0, fun i hi => by rw [bg_om] at hi; exact absurd hi (Nat.not_lt_zero i), cfL.rfl v4⟩
    rw [← hT]; funext j; exact o _ _ _ (by omega)
  refine AtP.CvP rfl (c_first hO hq0) (fun σ9 h9 => ?_)
  -- the end
  have fin : ∀ (τ : iM) (d2 : Option iV) (P : Prop), (∀ k i j, ¬ ow2 1 k i → ¬ (k = 2 ∧ i = 0 ∧ 2 ≤ j ∧ j ≤ 6) → ¬ (k = 8 ∧ i = 57) → τ k i j = σ0 k i j) → (match LD T n R so with | .inl ((k, q), s) => τ 2 0 2 = k ∧ ¬ k = 0 ∧ τ 2 0 3 = nI q ∧ τ 2 0 4 = s | .inr r => τ 2 0 2 = 0 ∧ τ 2 0 4 = -1 ∧ Sh τ 1 r ∧ RI r ∧ r 0 = 0 ∧ (∀ j, 467 ≤ j → r j = R j)) → AtP mX2_readInto 106 [some Rc, some Y1, d2] [] τ (fun z => ∃ σ1, z = evv σ1 ∧ LDc σ σ1 T n R so) := by
    intro τ d2 P hf hm
    refine AtP.R rfl ⟨_, rfl, iU_same, fun k i j x y z => ?_, ?_⟩
    · rw [iU_ne (by omega), hf k i j x (by omega) z]; exact o _ _ _ (by omega)
    · cases hl : LD T n R so with
      | inl e =>
        obtain ⟨⟨k, q⟩, s⟩ := e
        rw [hl] at hm
        dsimp only at hm ⊢
        rw [iU_ne (by omega), iU_ne (by omega), iU_ne (by omega)]
        exact hm
      | inr r =>
        rw [hl] at hm
        dsimp only at hm ⊢
        rw [iU_ne (by omega), iU_ne (by omega)]
        refine ⟨hm.1, hm.2.1, ?_, hm.2.2.2⟩
        exact hm.2.2.1.cell hm.2.2.2.1 (fun j => iU_ne (by omega)) (fun q j hq => iU_ne (by omega)) (fun q j hq => iU_ne (by omega)) (fun q j hq => iU_ne (by omega)) (fun q j hq => iU_ne (by omega))
  unfold LD at fin
  cases hf : fsF T n R so with
  | inl e =>
    obtain ⟨k, q⟩ := e
    rw [hf] at h9 fin
    dsimp only at fin
    have h9 : ER σ0 σ9 T n 0 k q := h9
    have k2 := fun d2 => fin σ9 d2 True h9.2.2.2.2.2.1 ⟨h9.1, h9.2.1, h9.2.2.1, h9.2.2.2.1⟩
    refine AtP.F 11 [some Rc, some Y1, some (.inl (nI 0))] [] σ9 rfl ?_
    refine AtP.B rfl (fun hc => ?_) (fun hc => ?_)
    · refine AtP.Bf rfl (h9.ne) ?_
      exact k2 _
    · refine AtP.Bf rfl (h9.ne) ?_
      refine AtP.Bf rfl (h9.ne) ?_
      exact k2 _
  | inr y =>
    obtain ⟨a, r, so2⟩ := y
    rw [hf] at h9 fin
    dsimp only at fin
    have h9 : OKc σ0 σ9 T n (nmA T n a) 0 r so2 := h9
    obtain ⟨c, d, e1, e2, e3, e4, e5, e6⟩ := fsF_ok hf
    have hr : RI r := by rw [e1]; exact bg_RI e2 e3 e4
    have hfr : frs r := by rw [e1]; exact bg_fr
    have r0 : r 0 = 0 := by rw [e1]; exact bg_z (by omega)
    have rt : ∀ j, 467 ≤ j → r j = R j := fun j hj => by rw [e1]; unfold bgU; rw [if_neg (by omega)]
    refine AtP.F 11 [some Rc, some Y1, some (.inl (nI 0))] [] σ9 rfl ?_
    refine c_loop hn n 0 0 a r so2 σ9 (by omega) (by omega) (by omega) e5 h9 hr hfr (fun σ1 d2 hk => ?_)
    cases hl : ldL T n n 0 a r so2 with
    | inl e =>
      obtain ⟨⟨k, q⟩, s⟩ := e
      rw [hl] at hk fin
      dsimp only at hk fin
      refine AtP.Bf rfl (hk.ne) ?_
      exact fin σ1 d2 True hk.2.2.2.2.2.1 ⟨hk.1, hk.2.1, hk.2.2.1, hk.2.2.2.1⟩
    | inr y =>
      obtain ⟨r', so'⟩ := y
      rw [hl] at hk fin
      dsimp only at hk fin
      obtain ⟨⟨b, s, hk⟩, g1, g2, g3, g4⟩ := hk
      refine AtP.Bt rfl (hk.2.1) ?_
      refine AtP.CvP rfl (c_check hk g1) (fun σ9 h9 => ?_)
      obtain ⟨w1, w2, w3⟩ := h9
      cases hc : chO r' (OM r') 0 with
      | some i =>
        rw [hc] at w3 fin
        dsimp only at w3 fin
        exact fin _ d2 True w2.1 ⟨w3.1, by decide, w3.2.1, w3.2.2⟩
      | none =>
        rw [hc] at w3 fin
        dsimp only at w3 fin
        subst w3
        exact fin _ d2 True w2.1 ⟨hk.2.1, hk.2.2.2.2.2.2 hk.2.1, hk.2.2.2.1, g1, g3.trans r0, fun j hj => (g4 j hj).trans (rt j hj)⟩
/-- what the class's load comes to -/
def LDx (σ σ1 : iM) (v : Int32) (T : Row) (n : Nat) (R so : Row) : Prop := σ1 2 0 1 = 0 ∧ (∀ k i j, ¬ ow2 0 k i → ¬ ow2 1 k i → ¬ (k = 2 ∧ i = 0 ∧ 1 ≤ j ∧ j ≤ 6) → ¬ (k = 8 ∧ i = 57) → σ1 k i j = σ k i j) ∧
  (match LD T n R so with
  | .inl ((k, q), s) => v = -100 - nI q ∧ σ1 2 0 2 = k ∧ ¬ k = 0 ∧ σ1 2 0 4 = s ∧ (∀ k i j, ow2 0 k i → σ1 k i j = σ k i j)
  | .inr r => v = r 4 ∧ σ1 2 0 2 = 0 ∧ σ1 2 0 4 = -1 ∧ Sh σ1 0 r ∧ RI r ∧ r 0 = 0 ∧ (∀ j, 467 ≤ j → r j = R j))
theorem c_load (h1 : σ 2 0 1 = nI n) (hn : n ≤ 700) (hT : σ 8 56 = T) : EvP mX6_load [X] σ (fun z => ∃ v σ1, z = evi v σ1 ∧ LDx σ σ1 v T n R so) := by
  show AtP mX6_load 0 [some X] [] σ _
  refine AtP.CvP rfl (c_clear) (fun σ9 h9 => ?_)
  obtain ⟨c4, c5, c6⟩ := h9
  refine AtP.CvP rfl (c_readInto (R := R) (so := so) (n := n) (T := T) ((c6 _ _ _ (by omega) (by omega)).trans h1) hn (by rw [← hT]; funext j; exact c6 _ _ _ (by omega) (by omega)) (fun j x y => (c4 j).trans (clU_v j x y)) c5) (fun σ9 h9 => ?_)
  obtain ⟨w1, w2, w3⟩ := h9
  have o : ∀ k i j, ¬ ow2 1 k i → ¬ (k = 2 ∧ i = 0 ∧ 1 ≤ j ∧ j ≤ 6) → ¬ (k = 8 ∧ i = 57) → σ9 k i j = σ k i j := fun k i j x y z => (w2 k i j x y z).trans (c6 _ _ _ (fun q => x (by unfold ow2 own; omega)) (fun q => x (by unfold ow2 own; omega)))
  cases hl : LD T n R so with
  | inl e =>
    obtain ⟨⟨k, q⟩, s⟩ := e
    rw [hl] at w3
    dsimp only at w3
    refine AtP.Bf rfl (by rw [w3.1]; exact w3.2.1) ?_
    refine AtP.R rfl ⟨_, _, rfl, w1, fun k i j _ x y z => o k i j x y z, ?_⟩
    rw [hl]
    exact ⟨by rw [w3.2.2.1], w3.1, w3.2.1, w3.2.2.2, fun k i j x => o k i j (by unfold ow2 own at *; omega) (by unfold ow2 own at x; omega) (by unfold ow2 own at x; omega)⟩
  | inr r =>
    rw [hl] at w3
    dsimp only at w3
    refine AtP.Bt rfl (w3.1) ?_
    refine AtP.CvP rfl (c_copyFrom w3.2.2.1 w3.2.2.2.1 (a := 0) (b := 1) (by omega) (by omega) (by omega)) (fun σ9 h9 => ?_)
    obtain ⟨hS, hf⟩ := h9
    refine AtP.R rfl ⟨_, _, rfl, ?_, fun k i j u x y z => (hf k i j u).trans (o k i j x y z), ?_⟩
    · rw [hf _ _ _ (by unfold ow2 own; omega)]; exact w1
    · rw [hl]
      exact ⟨hS.1.2.2.1, by rw [hf _ _ _ (by unfold ow2 own; omega)]; exact w3.1, by rw [hf _ _ _ (by unfold ow2 own; omega)]; exact w3.2.1, hS, w3.2.2.2⟩
end CL2
