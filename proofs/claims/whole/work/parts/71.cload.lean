/-! ===== the class reads the whole text ===== -/
/-- the first order whose work is beyond the rope -/
def chO (r : Row) : Nat → Nat → Option Nat
  | 0, _ => none
  | f + 1, i => if r 7 < wk r i then some i else chO r f (i + 1)
def LD (T : Row) (n : Nat) (R so : Row) : ((Int32 × Nat) × Int32) ⊕ Row :=
  match fsF T n R so with
  | .inl e => .inl (e, 0)
  | .inr (a, r, so) => (match ldL T n n 0 a r so with
    | .inl (e, s) => .inl (e, nI s)
    | .inr (r, so) => (match chO r (OM r) 0 with
      | some i => .inl ((5, n), so i)
      | none => .inr r))
def clU (σ : iM) : iM := iU (iU (iU (iU (iU (iU (iU (iU (iU (iU (iU σ 4 1 4 1) 4 1 5 0) 4 1 6 0) 4 1 7 0) 4 1 8 20) 4 1 9 20) 4 1 10 100) 4 1 11 0) 4 1 12 0) 4 1 13 0) 4 1 14 0
def sclU (σ : iM) (x : Nat) : iM := iU (iU (iU (iU (iU (iU (iU (iU σ 5 x 0 0) 5 x 1 0) 5 x 2 (-1)) 5 x 3 (-1)) 5 x 4 0) 5 x 5 0) 5 x 6 0) 5 x 7 0
section CLD
variable {σ σ0 : iM} {T : Row} {n a st : Nat} {r so R : Row}
theorem sclU_o {k i j x : Nat} (h : ¬ (k = 5 ∧ i = x)) : sclU σ x k i j = σ k i j := by
  unfold sclU
  rw [iU_ne (by omega), iU_ne (by omega), iU_ne (by omega), iU_ne (by omega), iU_ne (by omega), iU_ne (by omega), iU_ne (by omega), iU_ne (by omega)]
theorem sclU_v {x j : Nat} (hj : j < 8) : sclU σ x 5 x j = if j = 2 ∨ j = 3 then -1 else 0 := by
  have : j = 0 ∨ j = 1 ∨ j = 2 ∨ j = 3 ∨ j = 4 ∨ j = 5 ∨ j = 6 ∨ j = 7 := by omega
  unfold sclU
  rcases this with rfl | rfl | rfl | rfl | rfl | rfl | rfl | rfl
  · rw [iU_ne (by omega), iU_ne (by omega), iU_ne (by omega), iU_ne (by omega), iU_ne (by omega), iU_ne (by omega), iU_ne (by omega), iU_same]; rfl
  · rw [iU_ne (by omega), iU_ne (by omega), iU_ne (by omega), iU_ne (by omega), iU_ne (by omega), iU_ne (by omega), iU_same]; rfl
  · rw [iU_ne (by omega), iU_ne (by omega), iU_ne (by omega), iU_ne (by omega), iU_ne (by omega), iU_same]; rfl
  · rw [iU_ne (by omega), iU_ne (by omega), iU_ne (by omega), iU_ne (by omega), iU_same]; rfl
  · rw [iU_ne (by omega), iU_ne (by omega), iU_ne (by omega), iU_same]; rfl
  · rw [iU_ne (by omega), iU_ne (by omega), iU_same]; rfl
  · rw [iU_ne (by omega), iU_same]; rfl
  · rw [iU_same]; rfl
theorem clU_o {k i j : Nat} (h : ¬ (k = 4 ∧ i = 1)) : clU σ k i j = σ k i j := by
  unfold clU
  rw [iU_ne (by omega), iU_ne (by omega), iU_ne (by omega), iU_ne (by omega), iU_ne (by omega), iU_ne (by omega), iU_ne (by omega), iU_ne (by omega), iU_ne (by omega), iU_ne (by omega), iU_ne (by omega)]
theorem c_clear : EvP mX4_clear [Y1] σ (fun z => ∃ σ1, z = evv σ1 ∧ (∀ j, σ1 4 1 j = clU σ 4 1 j) ∧ (∀ q, q < 6 → ∀ j, j < 8 → σ1 5 (6 * 1 + q) j = if j = 2 ∨ j = 3 then -1 else 0) ∧ (∀ k i j, ¬ (k = 4 ∧ i = 1) → ¬ (k = 5 ∧ 6 ≤ i ∧ i < 12) → σ1 k i j = σ k i j)) := by
  show AtP mX4_clear 0 [some Y1, none] [] σ _
  refine AtP.F 60 [some Y1, some (.inl (nI 0))] [] (clU σ) rfl ?_
  have L : ∀ m, m ≤ 6 → ∀ τ : iM, (∀ j, τ 4 1 j = clU σ 4 1 j) → (∀ q, q < m → ∀ j, j < 8 → τ 5 (6 * 1 + q) j = if j = 2 ∨ j = 3 then -1 else 0) → (∀ k i j, ¬ (k = 4 ∧ i = 1) → ¬ (k = 5 ∧ 6 ≤ i ∧ i < 12) → τ k i j = σ k i j) → AtP mX4_clear 60 [some Y1, some (.inl (nI m))] [] τ (fun z => ∃ σ1, z = evv σ1 ∧ (∀ j, σ1 4 1 j = clU σ 4 1 j) ∧ (∀ q, q < 6 → ∀ j, j < 8 → σ1 5 (6 * 1 + q) j = if j = 2 ∨ j = 3 then -1 else 0) ∧ (∀ k i j, ¬ (k = 4 ∧ i = 1) → ¬ (k = 5 ∧ 6 ≤ i ∧ i < 12) → σ1 k i j = σ k i j)) := by
    refine down_ind (N := 6) ?_ ?_
    · intro τ h1 h2 h3
      refine AtP.Bt rfl (by decide) ?_
      exact AtP.R rfl (⟨_, rfl, h1, h2, h3⟩)
    · intro m hm ih τ h1 h2 h3
      refine AtP.Bf rfl (by show ¬ nI 6 ≤ nI m; exact ge_n (by omega) hm) ?_
      refine AtP.N rfl (v15 1 m hm) ?_
      rw [nI_clamp (by omega)]
      have hs : Ev mX5_clear [.inr (5, 6 * 1 + m)] τ (evv (sclU τ (6 * 1 + m))) := by
        show At mX5_clear 0 [some (.inr (5, 6 * 1 + m))] [] τ _
        exact At.R rfl
      refine AtP.Cv rfl (hs) ?_
      refine AtP.J rfl ?_
      rw [nI_1]
      refine ih _ (fun j => (sclU_o (by omega)).trans (h1 j)) (fun q hq j hj => ?_) (fun k i j x y => (sclU_o (by omega)).trans (h3 k i j x y))
      by_cases e : q = m
      · rw [e]; exact sclU_v hj
      · rw [sclU_o (by omega)]; exact h2 q (by omega) j hj
  exact L 0 (by omega) _ (fun _ => rfl) (fun q hq => absurd hq (Nat.not_lt_zero q)) (fun k i j x y => clU_o x)
theorem c_rewind : Ev mX2_rewind [Rc] σ (evv (iU (iU (iU (iU (iU σ 2 0 2 0) 2 0 3 0) 2 0 4 (-1)) 2 0 5 0) 2 0 6 0)) := by
  show At mX2_rewind 0 [some Rc] [] σ _
  exact At.R rfl
theorem chO_s {f i : Nat} : ∀ {x}, chO r f i = some x → i ≤ x ∧ x < i + f ∧ r 7 < wk r x := by
  induction f generalizing i with
  | zero => intro x h; cases h
  | succ f ih =>
    intro x h
    rw [chO] at h
    by_cases c : r 7 < wk r i
    · rw [if_pos c] at h; cases h; exact ⟨by omega, by omega, c⟩
    · rw [if_neg c] at h; have := ih h; exact ⟨by omega, by omega, this.2.2⟩
theorem c_check (h : OKc σ0 σ T n a st r so) (hr : RI r) : EvP mX2_checkDrumWorks [Rc, Y1] σ (fun z => ∃ σ1, z = evv σ1 ∧ σ1 2 0 1 = nI n ∧ cfL σ0 σ1 ∧ (match chO r (OM r) 0 with | some i => σ1 2 0 2 = 5 ∧ σ1 2 0 3 = nI n ∧ σ1 2 0 4 = so i | none => σ1 = σ)) := by
  have hom := hr.om
  have eom := h.2.2.2.1.om hr
  show AtP mX2_checkDrumWorks 0 [some Rc, some Y1, none] [] σ _
  refine AtP.F 2 [some Rc, some Y1, some (.inl (nI 0))] [] σ rfl ?_
  have L : ∀ m, m ≤ OM r → AtP mX2_checkDrumWorks 2 [some Rc, some Y1, some (.inl (nI m))] [] σ (fun z => ∃ σ1, z = evv σ1 ∧ σ1 2 0 1 = nI n ∧ cfL σ0 σ1 ∧ (match chO r (OM r - m) m with | some i => σ1 2 0 2 = 5 ∧ σ1 2 0 3 = nI n ∧ σ1 2 0 4 = so i | none => σ1 = σ)) := by
    refine down_ind (N := OM r) ?_ ?_
    · refine AtP.Bt rfl (by rw [eom]; exact ge_s) ?_
      exact AtP.R rfl (⟨_, rfl, h.1.1, h.2.2.2.2.2, by rw [Nat.sub_self, chO]⟩)
    · intro m hm ih
      have hO := h.2.2.2.1.2.2.2 m hm
      refine AtP.Bf rfl (by rw [eom]; exact ge_n hom.2 hm) ?_
      refine AtP.N rfl (v12 1 m (by omega)) ?_
      rw [nI_clamp (by omega), show OM r - m = (OM r - (m + 1)) + 1 by omega, chO]
      refine AtP.B rfl (fun hc => ?_) (fun hc => ?_)
      · rw [hO.2.2.2.1, h.2.2.2.1.1.2.2.2.2.2.2.1] at hc
        rw [if_neg (le_nlt hc)]
        refine AtP.J rfl ?_
        rw [nI_1]
        exact ih
      · rw [hO.2.2.2.1, h.2.2.2.1.1.2.2.2.2.2.2.1] at hc
        rw [if_pos (fa_of_nle hc)]
        refine AtP.N rfl (vin (N := iN 8 57) (show m < 24 by omega) (by show 24 < _; omega)) ?_
        rw [nI_clamp (by omega)]
        have hf := c_fail0 (σ := iU σ 2 0 6 (σ 8 57 m)) (by rw [iU_ne (by omega)]; exact h.2.1) 5 n
        rw [show nI n = iU σ 2 0 6 (σ 8 57 m) 2 0 1 from by rw [iU_ne (by omega)]; exact h.1.1.symm] at hf
        refine AtP.Cv rfl (hf) ?_
        refine AtP.R rfl ⟨_, rfl, ?_, ?_, ?_, ?_, ?_⟩
        · unfold flU; rw [iU_ne (by omega), iU_ne (by omega), iU_ne (by omega), iU_ne (by omega)]; exact h.1.1
        · exact (h.2.2.2.2.2.U2 (by omega)).F (by decide)
        · exact fl_2
        · unfold flU; rw [iU_ne (by omega), iU_same]
        · unfold flU; rw [iU_same, iU_same]; exact h.2.2.2.2.1 m hm
  have := L 0 (Nat.zero_le _)
  rw [Nat.sub_zero] at this
  exact this
/-- the statements behind the first -/
theorem c_loop (hn : n ≤ 700) {Q : iRes → Prop} : ∀ f i st a r so (σ : iM), n - a ≤ f → i ≤ a → st ≤ a → a ≤ n → OKc σ0 σ T n (nmA T n a) st r so → RI r → frs r → (∀ σ1 (d2 : Option iV), (match ldL T n f st a r so with | .inl ((k, q), s) => ER σ0 σ1 T n s k q | .inr (r', so') => (∃ b s, OKc σ0 σ1 T n b s r' so') ∧ RI r' ∧ frs r' ∧ r' 0 = r 0 ∧ (∀ j, 467 ≤ j → r' j = r j)) → AtP mX2_readInto 94 [some Rc, some Y1, d2] [] σ1 Q) → AtP mX2_readInto 11 [some Rc, some Y1, some (.inl (nI i))] [] σ Q := by
  intro f
  induction f with
  | zero =>
    intro i st a r so σ hf hi hst ha h hr hfr k
    have e : a = n := by omega
    have eA : nmA T n a = a := sc_f (by omega)
    have k2 := fun d2 => k σ d2 (by rw [ldL]; exact ⟨⟨_, _, h⟩, hr, hfr, rfl, fun _ _ => rfl⟩)
    refine AtP.B rfl (fun hc => ?_) (fun hc => ?_)
    · exact k2 _
    · refine AtP.Bt rfl (h.2.1) ?_
      refine AtP.Bt rfl (by rw [h.1.1, h.1.2.2.1, eA, e]; exact ge_s) ?_
      exact k2 _
  | succ f ih =>
    intro i st a r so σ hf hi hst ha h hr hfr k
    have hA : a ≤ nmA T n a ∧ nmA T n a ≤ n ∧ ¬ (nmA T n a < n ∧ isSp (T (nmA T n a)) = true) := sc_b ha
    rw [ldL] at k
    by_cases c : nmA T n a < n
    · rw [if_pos c] at k
      refine AtP.Bf rfl (by rw [h.1.1, nI_le_iff (by omega) (by omega)]; omega) ?_
      refine AtP.Bt rfl (h.2.1) ?_
      refine AtP.Bf rfl (by rw [h.1.1, h.1.2.2.1, nI_le_iff (by omega) (by omega)]; omega) ?_
      refine AtP.N rfl (by rw [h.1.2.2.1]; exact v56 _ (by omega)) ?_
      rw [h.1.2.2.1, nI_clamp (by omega), h.1.2.2.2.2]
      refine AtP.B rfl (fun hs => ?_) (fun hs => ?_)
      · rw [if_pos hs] at k
        have g0 := h.at hr (b := nmA T n a + 1) (by omega)
        have e1 : iU (iU σ 2 0 5 (σ 2 0 5 + 1)) 2 0 6 (iU σ 2 0 5 (σ 2 0 5 + 1) 2 0 6 + 1) = iU (iU σ 2 0 5 (nI (nmA T n a + 1))) 2 0 6 (nI (st + 1)) := by
          rw [h.1.2.2.1, nI_1, iU_ne (by omega), h.2.2.1, nI_1]
        have g : OKc σ0 (iU (iU σ 2 0 5 (nI (nmA T n a + 1))) 2 0 6 (nI (st + 1))) T n (nmA T n a + 1) (st + 1) r so := by
          obtain ⟨b1, b2, b3, b4, b5, b6⟩ := g0
          exact ⟨b1.U (by omega), by rw [iU_ne (by omega)]; exact b2, iU_same, b4.cell hr (fun j => iU_ne (by omega)) (fun q j hq => iU_ne (by omega)) (fun q j hq => iU_ne (by omega)) (fun q j hq => iU_ne (by omega)) (fun q j hq => iU_ne (by omega)), fun i hi => by rw [iU_ne (by omega)]; exact b5 i hi, b6.U2 (by omega)⟩
        have hst' := c_stmt g hr hfr (by omega) (by omega)
        rw [← e1] at hst'
        refine AtP.CvP rfl (hst') (fun σ9 h9 => ?_)
        refine AtP.J rfl ?_
        refine AtP.J rfl ?_
        rw [nI_1]
        cases ho : stF T n (st + 1) (nmA T n a + 1) r so with
        | inl e =>
          obtain ⟨kd, q⟩ := e
          rw [ho] at h9 k
          dsimp only at k
          have h9 : ER σ0 σ9 T n (st + 1) kd q := h9
          have k2 := fun d2 => k σ9 d2 h9
          refine AtP.B rfl (fun hc2 => ?_) (fun hc2 => ?_)
          · exact k2 _
          · refine AtP.Bf rfl (h9.ne) ?_
            exact k2 _
        | inr y =>
          obtain ⟨a', r', so'⟩ := y
          rw [ho] at h9 k
          dsimp only at k
          have h9 : OKc σ0 σ9 T n (nmA T n a') (st + 1) r' so' := h9
          obtain ⟨x1, x2, x3, x4, x5, x6⟩ := stF_ok (T := T) (by omega) hr hfr ho
          refine ih (i + 1) (st + 1) a' r' so' σ9 (by omega) (by omega) (by omega) x5 h9 x1 x2 (fun σ1 d2 hk => k σ1 d2 ?_)
          cases hl : ldL T n f (st + 1) a' r' so' with
          | inl e => rw [hl] at hk; exact hk
          | inr y =>
            obtain ⟨r'', so''⟩ := y
            rw [hl] at hk
            exact ⟨hk.1, hk.2.1, hk.2.2.1, hk.2.2.2.1.trans x3, fun j hj => (hk.2.2.2.2 j hj).trans (x6 j hj)⟩
      · rw [if_neg hs] at k
        have g := ER.mk (σ0 := σ0) (k := 1) (q := nmA T n a) h.1 (by decide) h.2.2.1 h.2.2.2.2.2
        have hf := c_fail0 h.2.1 1 (nmA T n a)
        rw [← h.1.2.2.1] at hf
        refine AtP.Cv rfl (hf) ?_
        refine AtP.J rfl ?_
        rw [nI_1]
        have k2 := fun d2 => k _ d2 g
        refine AtP.B rfl (fun hc2 => ?_) (fun hc2 => ?_)
        · exact k2 _
        · refine AtP.Bf rfl (g.ne) ?_
          exact k2 _
    · rw [if_neg c] at k
      have k2 := fun d2 => k σ d2 ⟨⟨_, _, h⟩, hr, hfr, rfl, fun _ _ => rfl⟩
      refine AtP.B rfl (fun hc => ?_) (fun hc => ?_)
      · exact k2 _
      · refine AtP.Bt rfl (h.2.1) ?_
        refine AtP.Bt rfl (by rw [h.1.1, h.1.2.2.1, nI_le_iff (by omega) (by omega)]; omega) ?_
        exact k2 _
/-- what reading the whole text comes to -/
def LDc (σ σ1 : iM) (T : Row) (n : Nat) (R so : Row) : Prop := σ1 2 0 1 = 0 ∧ (∀ k i j, ¬ ow2 1 k i → ¬ (k = 2 ∧ i = 0 ∧ 1 ≤ j ∧ j ≤ 6) → ¬ (k = 8 ∧ i = 57) → σ1 k i j = σ k i j) ∧
  (match LD T n R so with
  | .inl ((k, q), s) => σ1 2 0 2 = k ∧ ¬ k = 0 ∧ σ1 2 0 3 = nI q ∧ σ1 2 0 4 = s
  | .inr r => σ1 2 0 2 = 0 ∧ σ1 2 0 4 = -1 ∧ Sh σ1 1 r ∧ RI r ∧ r 0 = 0 ∧ (∀ j, 467 ≤ j → r j = R j))
end CLD
