/-! ===== the text: scanning, numbers, words ===== -/
abbrev isSp (x : Int32) : Bool := decide (x = 32)
abbrev isDg (x : Int32) : Bool := decide (48 ≤ x ∧ x ≤ 57)
abbrev isLt (x : Int32) : Bool := decide (97 ≤ x ∧ x ≤ 122)
def scn (p : Int32 → Bool) (T : Row) (n : Nat) : Nat → Nat → Nat
  | 0, a => a
  | f + 1, a => if a < n ∧ p (T a) = true then scn p T n f (a + 1) else a
def sc (p : Int32 → Bool) (T : Row) (n a : Nat) : Nat := scn p T n (n - a) a
section SC
variable {p : Int32 → Bool} {T : Row} {n a : Nat}
theorem sc_t (h : a < n) (hp : p (T a) = true) : sc p T n a = sc p T n (a + 1) := by
  unfold sc
  rw [show n - a = (n - (a + 1)) + 1 by omega, scn, if_pos ⟨h, hp⟩]
theorem sc_f (h : ¬ (a < n ∧ p (T a) = true)) : sc p T n a = a := by
  unfold sc
  cases hf : n - a with
  | zero => rfl
  | succ f => rw [scn, if_neg h]
theorem sc_b : a ≤ n → a ≤ sc p T n a ∧ sc p T n a ≤ n ∧ ¬ (sc p T n a < n ∧ p (T (sc p T n a)) = true) := by
  have key : ∀ f a, n - a = f → a ≤ n → a ≤ sc p T n a ∧ sc p T n a ≤ n ∧ ¬ (sc p T n a < n ∧ p (T (sc p T n a)) = true) := by
    intro f
    induction f with
    | zero => intro a h1 h2; rw [sc_f (by omega)]; exact ⟨Nat.le_refl _, h2, fun z => by omega⟩
    | succ f ih =>
      intro a h1 h2
      by_cases c : a < n ∧ p (T a) = true
      · rw [sc_t c.1 c.2]
        have := ih (a + 1) (by omega) (by omega)
        exact ⟨by omega, this.2⟩
      · rw [sc_f c]; exact ⟨Nat.le_refl _, h2, c⟩
  exact key (n - a) a rfl
theorem sc_sc (h : a ≤ n) : sc p T n (sc p T n a) = sc p T n a := sc_f (sc_b h).2.2
end SC
/-- the number that stands from a on -/
def dv (T : Row) (a : Nat) : Nat → Nat
  | 0 => 0
  | k + 1 => 10 * dv T a k + (nn (T (a + k)) - 48)
abbrev nmA (T : Row) (n a : Nat) : Nat := sc isSp T n a
abbrev nmE (T : Row) (n a : Nat) : Nat := sc isDg T n (nmA T n a)
def nmb (T : Row) (n : Nat) (lo hi : Int) (a : Nat) : (Int32 × Nat) ⊕ (Nat × Nat) :=
  if nmE T n a = nmA T n a then .inl (1, nmA T n a)
  else if lo ≤ (dv T (nmA T n a) (nmE T n a - nmA T n a) : Int) ∧ (dv T (nmA T n a) (nmE T n a - nmA T n a) : Int) ≤ hi then .inr (dv T (nmA T n a) (nmE T n a - nmA T n a), nmE T n a)
  else .inl (2, nmA T n a)
/-- what lies from a to b is word w -/
abbrev isW (T : Row) (a b w : Nat) : Prop := b - a = sLen w ∧ ∀ k, k < sLen w → T (a + k) = sCh w k
def Rc : iV := .inr (2, 0)
/-- the class's reader stands at a -/
def RC (σ : iM) (T : Row) (n a : Nat) : Prop := σ 2 0 1 = nI n ∧ n ≤ 700 ∧ σ 2 0 5 = nI a ∧ a ≤ n ∧ σ 8 56 = T
section RCL
variable {σ : iM} {T : Row} {n a : Nat}
theorem v56 (k : Nat) (h : k < 700) : vp_in (nI k) (iN 8 56) := vin h (by show 700 < _; omega)
theorem RC.at (h : RC σ T n a) {b : Nat} (hb : b ≤ n) : RC (iU σ 2 0 5 (nI b)) T n b := ⟨by rw [iU_ne (by omega)]; exact h.1, h.2.1, iU_same, hb, by rw [← h.2.2.2.2]; funext j; exact iU_ne (by omega)⟩
theorem RC.U (h : RC σ T n a) {k i j : Nat} {x : Int32} (hk : ¬ (k = 2 ∧ i = 0 ∧ (j = 1 ∨ j = 5)) ∧ ¬ (k = 8 ∧ i = 56)) : RC (iU σ k i j x) T n a := ⟨by rw [iU_ne (by omega)]; exact h.1, h.2.1, by rw [iU_ne (by omega)]; exact h.2.2.1, h.2.2.2.1, by rw [← h.2.2.2.2]; funext j; exact iU_ne (by omega)⟩
theorem c_dig (h : RC σ T n a) : Ev mX2_isDigit [Rc] σ (evi (if a < n ∧ isDg (T a) = true then 1 else 0) σ) := by
  obtain ⟨h1, h2, h3, h4, h5⟩ := h
  show At mX2_isDigit 0 [some Rc] [] σ _
  unfold isDg
  refine At.B rfl (fun hc => ?_) (fun hc => ?_)
  · rw [h1, h3, nI_le_iff (by omega) (by omega)] at hc
    rw [if_neg (fun z => by omega)]
    exact At.Z rfl (Or.inl rfl)
  · rw [h1, h3, nI_le_iff (by omega) (by omega)] at hc
    refine At.N rfl (by rw [h3]; exact v56 a (by omega)) ?_
    rw [h3, nI_clamp (by omega), h5]
    refine At.B rfl (fun hd => ?_) (fun hd => ?_)
    · rw [if_neg (fun z => by have := (of_decide_eq_true z.2).1; exact le_nlt this hd)]
      exact At.Z rfl (Or.inl rfl)
    · refine At.N rfl (by rw [h3]; exact v56 a (by omega)) ?_
      rw [h3, nI_clamp (by omega), h5]
      refine At.B rfl (fun he => ?_) (fun he => ?_)
      · rw [if_neg (fun z => by have := (of_decide_eq_true z.2).2; exact le_nlt this he)]
        exact At.Z rfl (Or.inl rfl)
      · rw [if_pos ⟨by omega, decide_eq_true ⟨fa_of_nlt hd, fa_of_nlt he⟩⟩]
        refine At.J rfl ?_
        exact At.Z rfl (Or.inr rfl)
theorem c_let (h : RC σ T n a) : Ev mX2_isLetter [Rc] σ (evi (if a < n ∧ isLt (T a) = true then 1 else 0) σ) := by
  obtain ⟨h1, h2, h3, h4, h5⟩ := h
  show At mX2_isLetter 0 [some Rc] [] σ _
  unfold isLt
  refine At.B rfl (fun hc => ?_) (fun hc => ?_)
  · rw [h1, h3, nI_le_iff (by omega) (by omega)] at hc
    rw [if_neg (fun z => by omega)]
    exact At.Z rfl (Or.inl rfl)
  · rw [h1, h3, nI_le_iff (by omega) (by omega)] at hc
    refine At.N rfl (by rw [h3]; exact v56 a (by omega)) ?_
    rw [h3, nI_clamp (by omega), h5]
    refine At.B rfl (fun hd => ?_) (fun hd => ?_)
    · rw [if_neg (fun z => by have := (of_decide_eq_true z.2).1; exact le_nlt this hd)]
      exact At.Z rfl (Or.inl rfl)
    · refine At.N rfl (by rw [h3]; exact v56 a (by omega)) ?_
      rw [h3, nI_clamp (by omega), h5]
      refine At.B rfl (fun he => ?_) (fun he => ?_)
      · rw [if_neg (fun z => by have := (of_decide_eq_true z.2).2; exact le_nlt this he)]
        exact At.Z rfl (Or.inl rfl)
      · rw [if_pos ⟨by omega, decide_eq_true ⟨fa_of_nlt hd, fa_of_nlt he⟩⟩]
        refine At.J rfl ?_
        exact At.Z rfl (Or.inr rfl)
theorem iU_iU {σ : iM} {k i j : Nat} {x y : Int32} : iU (iU σ k i j x) k i j y = iU σ k i j y := by
  funext k' i' j'
  unfold iU
  by_cases h : k' = k ∧ i' = i ∧ j' = j
  · rw [if_pos h, if_pos h]
  · rw [if_neg h, if_neg h, if_neg h]
theorem iU_self {σ : iM} {k i j : Nat} {x : Int32} (h : σ k i j = x) : iU σ k i j x = σ := by
  funext k' i' j'
  unfold iU
  by_cases c : k' = k ∧ i' = i ∧ j' = j
  · rw [if_pos c]; obtain ⟨rfl, rfl, rfl⟩ := c; exact h.symm
  · rw [if_neg c]
theorem c_skip (h : RC σ T n a) : Ev mX2_skipSpaces [Rc] σ (evv (iU σ 2 0 5 (nI (sc isSp T n a)))) := by
  have key : ∀ f a, n - a = f → ∀ σ, RC σ T n a → At mX2_skipSpaces 0 [some Rc] [] σ (evv (iU σ 2 0 5 (nI (sc isSp T n a)))) := by
    intro f
    induction f with
    | zero =>
      intro a hf σ h
      obtain ⟨h1, h2, h3, h4, h5⟩ := h
      rw [sc_f (by omega), iU_self h3]
      refine At.Bt rfl (by rw [h1, h3, nI_le_iff (by omega) (by omega)]; omega) ?_
      exact At.R rfl
    | succ f ih =>
      intro a hf σ h
      obtain ⟨h1, h2, h3, h4, h5⟩ := id h
      refine At.Bf rfl (by rw [h1, h3, nI_le_iff (by omega) (by omega)]; omega) ?_
      refine At.N rfl (by rw [h3]; exact v56 a (by omega)) ?_
      rw [h3, nI_clamp (by omega), h5]
      refine At.B rfl (fun hc => ?_) (fun hc => ?_)
      · refine At.J rfl ?_
        rw [h3, nI_1]
        have := ih (a + 1) (by omega) _ (h.at (by omega))
        rw [iU_iU, ← sc_t (by omega) (decide_eq_true hc)] at this
        exact this
      · rw [sc_f (fun z => hc (of_decide_eq_true z.2)), iU_self h3]
        exact At.R rfl
  exact key (n - a) a rfl σ h
/-- the first error is kept -/
def flU (σ : iM) (k : Int32) (q : Nat) : iM := iU (iU (iU σ 2 0 2 k) 2 0 3 (nI q)) 2 0 4 (σ 2 0 6)
theorem c_fail0 (h : σ 2 0 2 = 0) (k : Int32) (q : Nat) : Ev mX2_fail [Rc, .inl k, .inl (nI q)] σ (evv (flU σ k q)) := by
  show At mX2_fail 0 [some Rc, some (.inl k), some (.inl (nI q))] [] σ _
  refine At.Bt rfl (h) ?_
  refine At.Re rfl ?_
  unfold flU
  rw [iU_ne (by omega), iU_ne (by omega)]
theorem c_fail1 (h : ¬ σ 2 0 2 = 0) (k q : Int32) : Ev mX2_fail [Rc, .inl k, .inl q] σ (evv σ) := by
  show At mX2_fail 0 [some Rc, some (.inl k), some (.inl q)] [] σ _
  refine At.Bf rfl (h) ?_
  exact At.R rfl
theorem dg_v {x : Int32} (h : isDg x = true) : ∃ d, d < 10 ∧ x = nI (48 + d) ∧ nn x - 48 = d := by
  have := of_decide_eq_true h
  rw [fa_le, fa_le] at this
  have h1 : (48 : Int32).toInt = 48 := rfl
  have h2 : (57 : Int32).toInt = 57 := rfl
  have e := (inR.toN (x := x) (a := 48) (b := 57) ⟨by omega, by omega⟩ (by omega) (by omega))
  exact ⟨nn x - 48, by omega, by rw [show 48 + (nn x - 48) = nn x by omega]; exact e.1, rfl⟩
theorem min_s {v d C : Nat} (hd : d < 10) (hC : 1 ≤ C) : min (10 * min v C + d) C = min (10 * v + d) C := by omega
theorem c_rnE (h : ¬ σ 2 0 2 = 0) (lo hi : Int32) : Ev mX2_readNumber [Rc, .inl lo, .inl hi] σ (evi (-1) σ) := by
  show At mX2_readNumber 0 [some Rc, some (.inl lo), some (.inl hi), none, none] [] σ _
  refine At.Bf rfl (h) ?_
  exact At.R rfl
theorem c_rn (h : RC σ T n a) (h0 : σ 2 0 2 = 0) {lo hi : Int32} (hlo : 0 ≤ lo.toInt) (hhi : hi.toInt ≤ 30000) : Ev mX2_readNumber [Rc, .inl lo, .inl hi] σ (match nmb T n lo.toInt hi.toInt a with | .inr (V, a') => evi (nI V) (iU σ 2 0 5 (nI a')) | .inl (k, q) => evi (-1) (flU (iU σ 2 0 5 (nI (nmE T n a))) k q)) := by
  obtain ⟨h1, h2, h3, h4, h5⟩ := id h
  have hA : a ≤ nmA T n a ∧ nmA T n a ≤ n ∧ ¬ (nmA T n a < n ∧ isSp (T (nmA T n a)) = true) := sc_b h4
  have hE : nmA T n a ≤ nmE T n a ∧ nmE T n a ≤ n ∧ ¬ (nmE T n a < n ∧ isDg (T (nmE T n a)) = true) := sc_b hA.2.1
  show At mX2_readNumber 0 [some Rc, some (.inl lo), some (.inl hi), none, none] [] σ _
  refine At.Bt rfl (h0) ?_
  refine At.Cv rfl (c_skip h) ?_
  have e9 : iU σ 2 0 5 (nI (sc isSp T n a)) 2 0 5 = nI (nmA T n a) := iU_same
  refine At.F 21 [some Rc, some (.inl lo), some (.inl hi), some (.inl (iU σ 2 0 5 (nI (sc isSp T n a)) 2 0 5)), some (.inl 0)] [] (iU σ 2 0 5 (nI (sc isSp T n a))) (Eq.trans (b := evB _ _ _ _ _ _) rfl rfl) ?_
  rw [e9]
  have L : ∀ k, k ≤ nmE T n a - nmA T n a → At mX2_readNumber 21 [some Rc, some (.inl lo), some (.inl hi), some (.inl (nI (nmA T n a))), some (.inl (nI (min (dv T (nmA T n a) k) 1000000)))] [] (iU σ 2 0 5 (nI (nmA T n a + k))) (match nmb T n lo.toInt hi.toInt a with | .inr (V, a') => evi (nI V) (iU σ 2 0 5 (nI a')) | .inl (k, q) => evi (-1) (flU (iU σ 2 0 5 (nI (nmE T n a))) k q)) := by
    refine down_ind (N := nmE T n a - nmA T n a) ?_ ?_
    · have eE : nmA T n a + (nmE T n a - nmA T n a) = nmE T n a := by omega
      rw [eE]
      have hC := h.at hE.2.1
      have z0 : iU σ 2 0 5 (nI (nmE T n a)) 2 0 2 = 0 := by rw [iU_ne (by omega)]; exact h0
      have K : At mX2_readNumber 77 [some Rc, some (.inl lo), some (.inl hi), some (.inl (nI (nmA T n a))), some (.inl (nI (min (dv T (nmA T n a) (nmE T n a - nmA T n a)) 1000000)))] [] (iU σ 2 0 5 (nI (nmE T n a))) (match nmb T n lo.toInt hi.toInt a with | .inr (V, a') => evi (nI V) (iU σ 2 0 5 (nI a')) | .inl (k, q) => evi (-1) (flU (iU σ 2 0 5 (nI (nmE T n a))) k q)) := by
        unfold nmb
        refine At.B rfl (fun hc => ?_) (fun hc => ?_)
        · rw [iU_same, nI_inj (by omega) (by omega)] at hc
          rw [if_pos hc]
          refine At.Cv rfl (c_fail0 z0 1 _) ?_
          exact At.R rfl
        · rw [iU_same, nI_inj (by omega) (by omega)] at hc
          rw [if_neg hc]
          generalize dv T (nmA T n a) (nmE T n a - nmA T n a) = V
          have eV : (nI (min V 1000000)).toInt = ((min V 1000000 : Nat) : Int) := nI_toInt (by omega)
          refine At.B rfl (fun hd => ?_) (fun hd => ?_)
          · rw [fa_lt, eV] at hd
            rw [if_neg (by omega)]
            refine At.Cv rfl (c_fail0 z0 2 _) ?_
            exact At.R rfl
          · rw [fa_lt, eV] at hd
            refine At.B rfl (fun he => ?_) (fun he => ?_)
            · rw [fa_le, eV] at he
              rw [if_pos (by omega), show min V 1000000 = V by omega]
              exact At.R rfl
            · rw [fa_le, eV] at he
              rw [if_neg (by omega)]
              refine At.Cv rfl (c_fail0 z0 2 _) ?_
              exact At.R rfl
      generalize nI (min (dv T (nmA T n a) (nmE T n a - nmA T n a)) 1000000) = v at K ⊢
      by_cases hn : nmE T n a < n
      · refine At.Bf rfl (by rw [hC.1, hC.2.2.1, nI_le_iff (by omega) (by omega)]; omega) ?_
        refine At.Ci rfl (c_dig hC) ?_
        rw [if_neg hE.2.2]
        refine At.Bt rfl (rfl) ?_
        exact K
      · refine At.Bt rfl (by rw [hC.1, hC.2.2.1, nI_le_iff (by omega) (by omega)]; omega) ?_
        exact K
    · intro k hk ih
      have hlt : nmA T n a + k < n := by omega
      have hC := h.at (b := nmA T n a + k) (by omega)
      have hd : isDg (T (nmA T n a + k)) = true := by
        have key : ∀ k, k < nmE T n a - nmA T n a → isDg (T (nmA T n a + k)) = true ∧ nmE T n a = sc isDg T n (nmA T n a + k + 1) := by
          intro k
          induction k with
          | zero =>
            intro hk
            by_cases c : nmA T n a < n ∧ isDg (T (nmA T n a)) = true
            · exact ⟨c.2, sc_t c.1 c.2⟩
            · have : nmE T n a = nmA T n a := sc_f c
              omega
          | succ k ih =>
            intro hk
            obtain ⟨i1, i2⟩ := ih (by omega)
            by_cases c : nmA T n a + (k + 1) < n ∧ isDg (T (nmA T n a + (k + 1))) = true
            · exact ⟨c.2, i2.trans (sc_t c.1 c.2)⟩
            · have e9 : sc isDg T n (nmA T n a + k + 1) = nmA T n a + (k + 1) := sc_f c
              have i2 : nmE T n a = sc isDg T n (nmA T n a + k + 1) := i2
              omega
        exact (key k hk).1
      obtain ⟨d, d1, d2, d3⟩ := dg_v hd
      have S : ∀ (v : Int32) (z : iRes), At mX2_readNumber 21 [some Rc, some (.inl lo), some (.inl hi), some (.inl (nI (nmA T n a))), some (.inl (iMin (10 * v + nI (48 + d) - 48) 1000000))] [] (iU σ 2 0 5 (nI (nmA T n a + k + 1))) z → At mX2_readNumber 21 [some Rc, some (.inl lo), some (.inl hi), some (.inl (nI (nmA T n a))), some (.inl v)] [] (iU σ 2 0 5 (nI (nmA T n a + k))) z := by
        intro v z hz
        refine At.Bf rfl (by rw [hC.1, hC.2.2.1, nI_le_iff (by omega) (by omega)]; omega) ?_
        refine At.Ci rfl (c_dig hC) ?_
        rw [if_pos ⟨hlt, hd⟩]
        refine At.Bf rfl (by decide) ?_
        refine At.N rfl (by rw [iU_same]; exact v56 _ (by omega)) ?_
        rw [iU_same, nI_clamp (by omega), hC.2.2.2.2, d2]
        refine At.J rfl ?_
        rw [iU_same, iU_iU, nI_1]
        exact hz
      refine S _ _ ?_
      rw [dv, d3] at ih
      have e : iMin (10 * nI (min (dv T (nmA T n a) k) 1000000) + nI (48 + d) - 48) 1000000 = nI (min (10 * dv T (nmA T n a) k + d) 1000000) := by
        rw [show (10 : Int32) = nI 10 from rfl, show (48 : Int32) = nI 48 from rfl, show (1000000 : Int32) = nI 1000000 from rfl, nI_mul, nI_add, pk_sub (by omega)]
        rw [← min_s (v := dv T (nmA T n a) k) d1 (C := 1000000) (by omega)]
        generalize hv : 10 * min (dv T (nmA T n a) k) 1000000 = v
        rw [show v + (48 + d) - 48 = v + d by omega]
        unfold iMin
        by_cases c : nI 1000000 < nI (v + d)
        · rw [if_pos c]
          rw [nI_lt_iff (by omega) (by omega)] at c
          congr 1; omega
        · rw [if_neg c]
          rw [nI_lt_iff (by omega) (by omega)] at c
          congr 1; omega
      rw [e]
      exact ih
  have L0 := L 0 (Nat.zero_le _)
  have e8 : min (dv T (nmA T n a) 0) 1000000 = 0 := by
    rw [show dv T (nmA T n a) 0 = 0 from rfl]
    omega
  rw [e8] at L0
  exact L0
theorem c_isWord (h : RC σ T n a) {b w : Nat} (hb : b ≤ a) (hw : w < 8) : Ev mX2_isWord [Rc, .inl (nI b), .inr (16, w)] σ (evi (if isW T b a w then 1 else 0) σ) := by
  obtain ⟨h1, h2, h3, h4, h5⟩ := id h
  have hl : sLen w ≤ 8 := by
    have : ∀ w, w < 8 → sLen w ≤ 8 := by decide
    exact this w hw
  have eS : (nI a - nI b) = nI (a - b) := pk_sub hb
  show At mX2_isWord 0 [some Rc, some (.inl (nI b)), some (.inr (16, w)), none] [] σ _
  refine At.B rfl (fun hc => ?_) (fun hc => ?_)
  · rw [h3, eS] at hc
    have hc : a - b = sLen w := (nI_inj (by omega) (by omega)).mp hc
    refine At.F 17 [some Rc, some (.inl (nI b)), some (.inr (16, w)), some (.inl (nI 0))] [] σ rfl ?_
    have L : ∀ k, k ≤ sLen w → (∀ j, j < k → T (b + j) = sCh w j) → At mX2_isWord 17 [some Rc, some (.inl (nI b)), some (.inr (16, w)), some (.inl (nI k))] [] σ (evi (if isW T b a w then 1 else 0) σ) := by
      refine down_ind (N := sLen w) ?_ ?_
      · intro hk
        refine At.Bt rfl (ge_s) ?_
        rw [if_pos ⟨hc, hk⟩]
        exact At.Z rfl (Or.inr rfl)
      · intro k hk ih hj
        refine At.Bf rfl (ge_n (n := sLen w) (by omega) hk) ?_
        refine At.N rfl (by rw [nI_add]; exact v56 _ (by omega)) ?_
        rw [nI_add, nI_clamp (by omega), h5]
        refine At.N rfl (vin hk (by omega)) ?_
        rw [nI_clamp (by omega)]
        refine At.B rfl (fun he => ?_) (fun he => ?_)
        · refine At.J rfl ?_
          rw [nI_1]
          refine ih (fun j hj2 => ?_)
          by_cases ej : j = k
          · rw [ej]; exact he
          · exact hj j (by omega)
        · rw [if_neg (fun z => he (z.2 k hk))]
          exact At.Z rfl (Or.inl rfl)
    exact L 0 (Nat.zero_le _) (fun j hj => absurd hj (Nat.not_lt_zero j))
  · rw [h3, eS] at hc
    have hc : ¬ a - b = sLen w := fun e => hc (by rw [e]; rfl)
    rw [if_neg (fun z => hc z.1)]
    exact At.Z rfl (Or.inl rfl)
end RCL
