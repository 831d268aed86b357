/-! ===== the text: the reference's side ===== -/
/-- the reference stands at a -/
def RM (σ : iM) (T : Row) (n a : Nat) : Prop := σ 7 0 7 = nI n ∧ n ≤ 700 ∧ σ 7 0 8 = nI a ∧ a ≤ n ∧ ∀ j, j < n → inR (T j) 0 255 ∧ σ 9 0 j = (T j).toInt8.toInt32
def hre (T : Row) (n a : Nat) : Int32 := if a < n then T a else -1
def nxU (σ : iM) (a b : Nat) : iM := iU (iU σ 7 0 8 (nI a)) 7 0 9 (nI b)
def fsU (σ : iM) (k : Int32) (q : Nat) : iM := iU (iU σ 7 0 10 k) 7 0 11 (nI q)
theorem byte255 : ∀ n, n < 256 → (nI n).toInt8.toInt32 &&& 255 = nI n := by decide +kernel
theorem byteEq : ∀ w, w < 8 → ∀ k, k < sLen w → ∀ n, n < 256 → ((nI n).toInt8.toInt32 = sCh w k ↔ nI n = sCh w k) := by decide +kernel
section RML
variable {σ : iM} {T : Row} {n a : Nat}
theorem v9 (k : Nat) (h : k < 700) : vp_in (nI k) (iN 9 0) := vin h (by show 700 < _; omega)
theorem RM.at (h : RM σ T n a) {b : Nat} (hb : b ≤ n) : RM (iU σ 7 0 8 (nI b)) T n b := ⟨by rw [iU_ne (by omega)]; exact h.1, h.2.1, iU_same, hb, fun j hj => by rw [iU_ne (by omega)]; exact h.2.2.2.2 j hj⟩
theorem RM.U (h : RM σ T n a) {j : Nat} {x : Int32} (hk : j ≠ 7 ∧ j ≠ 8) : RM (iU σ 7 0 j x) T n a := ⟨by rw [iU_ne (by omega)]; exact h.1, h.2.1, by rw [iU_ne (by omega)]; exact h.2.2.1, h.2.2.2.1, fun j hj => by rw [iU_ne (by omega)]; exact h.2.2.2.2 j hj⟩
theorem RM.nx (h : RM σ T n a) {b c : Nat} (hb : b ≤ n) : RM (nxU σ b c) T n b := (h.at hb).U (by decide)
theorem RM.R (h : RM σ T n a) {i : Nat} {r : Row} : RM (mR σ i r) T n a := ⟨by rw [mR_ne (by omega)]; exact h.1, h.2.1, by rw [mR_ne (by omega)]; exact h.2.2.1, h.2.2.2.1, fun j hj => by rw [mR_ne (by omega)]; exact h.2.2.2.2 j hj⟩
theorem nx_at {b c d : Nat} : iU (nxU σ b c) 7 0 8 (nI d) = nxU σ d c := by
  funext k i j
  unfold nxU iU
  by_cases h8 : k = 7 ∧ i = 0 ∧ j = 8
  · rw [if_pos h8, if_neg (by omega), if_pos h8]
  · rw [if_neg h8]
    by_cases h9 : k = 7 ∧ i = 0 ∧ j = 9
    · rw [if_pos h9, if_pos h9]
    · rw [if_neg h9, if_neg h8, if_neg h9, if_neg h8]
theorem nx_nx {b c d f : Nat} : nxU (nxU σ b c) d f = nxU σ d f := by
  unfold nxU
  rw [show iU (iU (iU σ 7 0 8 (nI b)) 7 0 9 (nI c)) 7 0 8 (nI d) = iU (iU σ 7 0 8 (nI d)) 7 0 9 (nI c) from nx_at, iU_iU]
theorem nx_9 {b c : Nat} : nxU σ b c 7 0 9 = nI c := iU_same
theorem nx_o {b c k i j : Nat} (h : ¬ (k = 7 ∧ i = 0 ∧ (j = 8 ∨ j = 9))) : nxU σ b c k i j = σ k i j := by unfold nxU; rw [iU_ne (by omega), iU_ne (by omega)]
theorem fs_o {q k i j : Nat} {x : Int32} (h : ¬ (k = 7 ∧ i = 0 ∧ (j = 10 ∨ j = 11))) : fsU σ x q k i j = σ k i j := by unfold fsU; rw [iU_ne (by omega), iU_ne (by omega)]
theorem T_n (h : RM σ T n a) {j : Nat} (hj : j < n) : ∃ x, x < 256 ∧ T j = nI x ∧ σ 9 0 j = (nI x).toInt8.toInt32 := by
  obtain ⟨h1, h2⟩ := h.2.2.2.2 j hj
  have e := h1.toN (by omega) (by omega)
  exact ⟨nn (T j), by omega, e.1, by rw [← e.1]; exact h2⟩
theorem e_here (h : RM σ T n a) : Ev mX7_here [M] σ (evi (hre T n a) σ) := by
  obtain ⟨h1, h2, h3, h4, h5⟩ := id h
  show At mX7_here 0 [some M] [] σ _
  unfold hre
  refine At.B rfl (fun hc => ?_) (fun hc => ?_)
  · rw [h1, h3, nI_le_iff (by omega) (by omega)] at hc
    rw [if_neg (by omega)]
    exact At.R rfl
  · rw [h1, h3, nI_le_iff (by omega) (by omega)] at hc
    obtain ⟨x, x1, x2, x3⟩ := T_n h (j := a) (by omega)
    refine At.N rfl (by rw [h3]; exact v9 a (by omega)) ?_
    rw [h3, nI_clamp (by omega), x3]
    refine At.J rfl ?_
    rw [if_pos (by omega), x2, byte255 x x1]
    exact At.R rfl
theorem hre_sp (h : RM σ T n a) : hre T n a = 32 ↔ (a < n ∧ isSp (T a) = true) := by
  unfold hre
  by_cases c : a < n
  · rw [if_pos c]; exact ⟨fun z => ⟨c, decide_eq_true z⟩, fun z => of_decide_eq_true z.2⟩
  · rw [if_neg c]; exact ⟨fun z => absurd z (by decide), fun z => absurd z.1 c⟩
theorem hre_in {lo hi : Int32} (hlo : 0 ≤ lo.toInt) : (lo ≤ hre T n a ∧ hre T n a ≤ hi) ↔ (a < n ∧ lo ≤ T a ∧ T a ≤ hi) := by
  unfold hre
  by_cases c : a < n
  · rw [if_pos c]; exact ⟨fun z => ⟨c, z⟩, fun z => z.2⟩
  · rw [if_neg c]
    refine ⟨fun z => ?_, fun z => absurd z.1 c⟩
    have := z.1
    rw [fa_le, show (-1 : Int32).toInt = -1 from rfl] at this
    omega
theorem e_next (h : RM σ T n a) : Ev mX7_next [M] σ (evi (hre T n (nmA T n a)) (nxU σ (nmA T n a) (nmA T n a))) := by
  have key : ∀ f a, n - a = f → ∀ σ, RM σ T n a → At mX7_next 0 [some M] [] σ (evi (hre T n (nmA T n a)) (nxU σ (nmA T n a) (nmA T n a))) := by
    intro f
    induction f with
    | zero =>
      intro a hf σ h
      refine At.Ci rfl (e_here h) ?_
      refine At.Bf rfl (by rw [hre_sp h]; omega) ?_
      have e : nmA T n a = a := sc_f (by omega)
      rw [e]
      have hb : iU σ 7 0 9 (σ 7 0 8) = nxU σ a a := by unfold nxU; rw [iU_self h.2.2.1, h.2.2.1]
      refine At.Ci rfl (e_here (h.U (j := 9) (by decide))) ?_
      rw [hb]
      exact At.R rfl
    | succ f ih =>
      intro a hf σ h
      refine At.Ci rfl (e_here h) ?_
      refine At.B rfl (fun hc => ?_) (fun hc => ?_)
      · rw [hre_sp h] at hc
        refine At.J rfl ?_
        have i1 := ih (a + 1) (by omega) _ (h.at (by omega))
        have e : nmA T n a = nmA T n (a + 1) := sc_t hc.1 hc.2
        rw [h.2.2.1, nI_1, e]
        have e2 : nxU (iU σ 7 0 8 (nI (a + 1))) (nmA T n (a + 1)) (nmA T n (a + 1)) = nxU σ (nmA T n (a + 1)) (nmA T n (a + 1)) := by unfold nxU; rw [iU_iU]
        rw [e2] at i1
        exact i1
      · rw [hre_sp h] at hc
        have e : nmA T n a = a := sc_f hc
        rw [e]
        have hb : iU σ 7 0 9 (σ 7 0 8) = nxU σ a a := by unfold nxU; rw [iU_self h.2.2.1, h.2.2.1]
        refine At.Ci rfl (e_here (h.U (j := 9) (by decide))) ?_
        rw [hb]
        exact At.R rfl
  exact key (n - a) a rfl σ h
theorem e_reads (h : RM σ T n a) : Ev mX7_reads [M] σ (evv (nxU σ (sc isLt T n (nmA T n a)) (nmA T n a))) := by
  have hA : a ≤ nmA T n a ∧ nmA T n a ≤ n ∧ ¬ (nmA T n a < n ∧ isSp (T (nmA T n a)) = true) := sc_b h.2.2.2.1
  show At mX7_reads 0 [some M] [] σ _
  refine At.Ci rfl (e_next h) ?_
  refine At.F 5 [some M] [] (nxU σ (nmA T n a) (nmA T n a)) rfl ?_
  have key : ∀ f b, n - b = f → b ≤ n → At mX7_reads 5 [some M] [] (nxU σ b (nmA T n a)) (evv (nxU σ (sc isLt T n b) (nmA T n a))) := by
    intro f
    induction f with
    | zero =>
      intro b hf hb
      refine At.Ci rfl (e_here (h.nx (c := nmA T n a) hb)) ?_
      refine At.Ci rfl (e_in0 (fun z => by have := ((hre_in (T := T) (n := n) (a := b) (by decide)).mp z).1; omega)) ?_
      refine At.Bt rfl (rfl) ?_
      rw [sc_f (by omega)]
      exact At.R rfl
    | succ f ih =>
      intro b hf hb
      refine At.Ci rfl (e_here (h.nx (c := nmA T n a) hb)) ?_
      by_cases c : b < n ∧ isLt (T b) = true
      · refine At.Ci rfl (e_in1 ((hre_in (T := T) (n := n) (a := b) (by decide)).mpr ⟨c.1, of_decide_eq_true c.2⟩)) ?_
        refine At.Bf rfl (by decide) ?_
        refine At.J rfl ?_
        rw [(h.nx (c := nmA T n a) hb).2.2.1, nI_1, nx_at, sc_t c.1 c.2]
        exact ih (b + 1) (by omega) (by omega)
      · refine At.Ci rfl (e_in0 (fun z => c (by have q := (hre_in (T := T) (n := n) (a := b) (by decide)).mp z; exact ⟨q.1, decide_eq_true q.2⟩))) ?_
        refine At.Bt rfl (rfl) ?_
        rw [sc_f c]
        exact At.R rfl
  exact key (n - nmA T n a) _ rfl hA.2.1
theorem e_fails0 (h : σ 7 0 10 = 0) (k : Int32) (q : Nat) {x : Int32} (hx : x = nI q) : Ev mX7_fails [M, .inl k, .inl x] σ (evv (fsU σ k q)) := by
  subst hx
  show At mX7_fails 0 [some M, some (.inl k), some (.inl (nI q))] [] σ _
  refine At.Bt rfl (h) ?_
  exact At.R rfl
theorem e_fails1 (h : ¬ σ 7 0 10 = 0) (k q : Int32) : Ev mX7_fails [M, .inl k, .inl q] σ (evv σ) := by
  show At mX7_fails 0 [some M, some (.inl k), some (.inl q)] [] σ _
  refine At.Bf rfl (h) ?_
  exact At.R rfl
theorem e_isWord (h : RM σ T n a) {b w : Nat} (h9 : σ 7 0 9 = nI b) (hb : b ≤ a) (hw : w < 8) : Ev mX7_isWord [M, .inr (16, w)] σ (evi (if isW T b a w then 1 else 0) σ) := by
  obtain ⟨h1, h2, h3, h4, h5⟩ := id h
  have hl : sLen w ≤ 8 := by
    have : ∀ w, w < 8 → sLen w ≤ 8 := by decide
    exact this w hw
  have eS : (nI a - nI b) = nI (a - b) := pk_sub hb
  show At mX7_isWord 0 [some M, some (.inr (16, w)), none, none] [] σ _
  refine At.B rfl (fun hc => ?_) (fun hc => ?_)
  · rw [h3, h9, eS] at hc
    have hc : a - b = sLen w := (nI_inj (by omega) (by omega)).mp hc
    refine At.J rfl ?_
    refine At.F 24 [some M, some (.inr (16, w)), some (.inl 1), some (.inl (nI 0))] [] σ rfl ?_
    have L : ∀ k, k ≤ sLen w → (∀ j, j < k → T (b + j) = sCh w j) → At mX7_isWord 24 [some M, some (.inr (16, w)), some (.inl 1), some (.inl (nI k))] [] σ (evi (if isW T b a w then 1 else 0) σ) := by
      refine down_ind (N := sLen w) ?_ ?_
      · intro hk
        refine At.Bf rfl (by decide) ?_
        refine At.Bt rfl (ge_s) ?_
        rw [if_pos ⟨hc, hk⟩]
        exact At.Z rfl (Or.inr rfl)
      · intro k hk ih hj
        obtain ⟨x, x1, x2, x3⟩ := T_n h (j := b + k) (by omega)
        refine At.Bf rfl (by decide) ?_
        refine At.Bf rfl (ge_n (n := sLen w) (by omega) hk) ?_
        refine At.N rfl (by rw [h9, nI_add]; exact v9 _ (by omega)) ?_
        rw [h9, nI_add, nI_clamp (by omega), x3]
        refine At.N rfl (vin hk (by omega)) ?_
        rw [nI_clamp (by omega)]
        refine At.B rfl (fun he => ?_) (fun he => ?_)
        · rw [byteEq w hw k hk x x1, ← x2] at he
          refine At.J rfl ?_
          refine At.J rfl ?_
          rw [nI_1]
          refine ih (fun j hj2 => ?_)
          by_cases ej : j = k
          · rw [ej]; exact he
          · exact hj j (by omega)
        · rw [byteEq w hw k hk x x1, ← x2] at he
          rw [if_neg (fun z => he (z.2 k hk))]
          refine At.J rfl ?_
          refine At.Bt rfl (rfl) ?_
          exact At.Z rfl (Or.inl rfl)
    exact L 0 (Nat.zero_le _) (fun j hj => absurd hj (Nat.not_lt_zero j))
  · rw [h3, h9, eS] at hc
    have hc : ¬ a - b = sLen w := fun e => hc (by rw [e]; rfl)
    rw [if_neg (fun z => hc z.1)]
    refine At.Bt rfl (rfl) ?_
    exact At.Z rfl (Or.inl rfl)
theorem e_numE (h : ¬ σ 7 0 10 = 0) (lo hi : Int32) : Ev mX7_number [M, .inl lo, .inl hi] σ (evi lo σ) := by
  show At mX7_number 0 [some M, some (.inl lo), some (.inl hi), none] [] σ _
  refine At.Bf rfl (h) ?_
  exact At.R rfl
theorem e_num (h : RM σ T n a) (h0 : σ 7 0 10 = 0) {lo hi : Int32} (hlo : 0 ≤ lo.toInt) (hhi : hi.toInt ≤ 30000) : Ev mX7_number [M, .inl lo, .inl hi] σ (match nmb T n lo.toInt hi.toInt a with | .inr (V, a') => evi (nI V) (nxU σ a' (nmA T n a)) | .inl (k, q) => evi lo (fsU (nxU σ (nmE T n a) (nmA T n a)) k q)) := by
  have h4 := h.2.2.2.1
  have h2 := h.2.1
  have hA : a ≤ nmA T n a ∧ nmA T n a ≤ n ∧ ¬ (nmA T n a < n ∧ isSp (T (nmA T n a)) = true) := sc_b h4
  have hE : nmA T n a ≤ nmE T n a ∧ nmE T n a ≤ n ∧ ¬ (nmE T n a < n ∧ isDg (T (nmE T n a)) = true) := sc_b hA.2.1
  show At mX7_number 0 [some M, some (.inl lo), some (.inl hi), none] [] σ _
  refine At.Bt rfl (h0) ?_
  refine At.Ci rfl (e_next h) ?_
  have hI := @hre_in T n (nmA T n a) 48 57 (by decide)
  by_cases hd : nmA T n a < n ∧ isDg (T (nmA T n a)) = true
  · have hne : ¬ nmE T n a = nmA T n a := by
      have e : nmE T n a = sc isDg T n (nmA T n a + 1) := sc_t hd.1 hd.2
      have := sc_b (p := isDg) (T := T) (n := n) (a := nmA T n a + 1) (by omega)
      omega
    refine At.Ci rfl (e_in1 (hI.mpr ⟨hd.1, of_decide_eq_true hd.2⟩)) ?_
    refine At.Bf rfl (by decide) ?_
    refine At.F 36 [some M, some (.inl lo), some (.inl hi), some (.inl (nI (min (dv T (nmA T n a) 0) 10000000)))] [] (nxU σ (nmA T n a + 0) (nmA T n a)) rfl ?_
    have L : ∀ k, k ≤ nmE T n a - nmA T n a → At mX7_number 36 [some M, some (.inl lo), some (.inl hi), some (.inl (nI (min (dv T (nmA T n a) k) 10000000)))] [] (nxU σ (nmA T n a + k) (nmA T n a)) (match nmb T n lo.toInt hi.toInt a with | .inr (V, a') => evi (nI V) (nxU σ a' (nmA T n a)) | .inl (k, q) => evi lo (fsU (nxU σ (nmE T n a) (nmA T n a)) k q)) := by
      refine down_ind (N := nmE T n a - nmA T n a) ?_ ?_
      · have eE : nmA T n a + (nmE T n a - nmA T n a) = nmE T n a := by omega
        rw [eE]
        have hC := h.nx (c := nmA T n a) hE.2.1
        have z0 : nxU σ (nmE T n a) (nmA T n a) 7 0 10 = 0 := by rw [nx_o (by omega)]; exact h0
        refine At.Ci rfl (e_here hC) ?_
        refine At.Ci rfl (e_in0 (fun z => hE.2.2 (by have q := (@hre_in T n (nmE T n a) 48 57 (by decide)).mp z; exact ⟨q.1, decide_eq_true q.2⟩))) ?_
        refine At.Bt rfl (rfl) ?_
        unfold nmb
        rw [if_neg hne]
        generalize dv T (nmA T n a) (nmE T n a - nmA T n a) = V
        have eV : (nI (min V 10000000)).toInt = ((min V 10000000 : Nat) : Int) := nI_toInt (by omega)
        by_cases hr : lo.toInt ≤ (V : Int) ∧ (V : Int) ≤ hi.toInt
        · rw [if_pos hr, show min V 10000000 = V by omega]
          rw [show min V 10000000 = V by omega] at eV
          refine At.Ci rfl (e_in1 (v := nI V) ⟨by rw [fa_le, eV]; exact hr.1, by rw [fa_le, eV]; exact hr.2⟩) ?_
          refine At.Bf rfl (by decide) ?_
          exact At.R rfl
        · rw [if_neg hr]
          refine At.Ci rfl (e_in0 (v := nI (min V 10000000)) (fun z => hr (by rw [fa_le, fa_le, eV] at z; omega))) ?_
          refine At.Bt rfl (rfl) ?_
          refine At.Cv rfl (e_fails0 z0 2 _ nx_9) ?_
          exact At.R rfl
      · intro k hk ih
        have hlt : nmA T n a + k < n := by omega
        have hC := h.nx (b := nmA T n a + k) (c := nmA T n a) (by omega)
        have hd : isDg (T (nmA T n a + k)) = true := by
          have key : ∀ k, k < nmE T n a - nmA T n a → isDg (T (nmA T n a + k)) = true ∧ nmE T n a = sc isDg T n (nmA T n a + k + 1) := by
            intro k
            induction k with
            | zero =>
              intro hk
              exact ⟨hd.2, sc_t hd.1 hd.2⟩
            | succ k ih =>
              intro hk
              obtain ⟨i1, i2⟩ := ih (by omega)
              by_cases c : nmA T n a + (k + 1) < n ∧ isDg (T (nmA T n a + (k + 1))) = true
              · exact ⟨c.2, i2.trans (sc_t c.1 c.2)⟩
              · have e9 : sc isDg T n (nmA T n a + k + 1) = nmA T n a + (k + 1) := sc_f c
                have i2 : nmE T n a = sc isDg T n (nmA T n a + k + 1) := i2
                omega
          exact (key k hk).1
        obtain ⟨d, d1, d2, d3⟩ := dg_v hd
        have eh : hre T n (nmA T n a + k) = nI (48 + d) := by unfold hre; rw [if_pos hlt]; exact d2
        refine At.Ci rfl (e_here hC) ?_
        refine At.Ci rfl (e_in1 ((@hre_in T n (nmA T n a + k) 48 57 (by decide)).mpr ⟨hlt, of_decide_eq_true hd⟩)) ?_
        refine At.Bf rfl (by decide) ?_
        refine At.Ci rfl (e_here hC) ?_
        rw [eh]
        refine At.J rfl ?_
        rw [hC.2.2.1, nI_1, nx_at]
        rw [dv, d3] at ih
        have e : iMin 10000000 (10 * nI (min (dv T (nmA T n a) k) 10000000) + nI (48 + d) - 48) = nI (min (10 * dv T (nmA T n a) k + d) 10000000) := by
          rw [show (10 : Int32) = nI 10 from rfl, show (48 : Int32) = nI 48 from rfl, show (10000000 : Int32) = nI 10000000 from rfl, nI_mul, nI_add, pk_sub (by omega)]
          rw [← min_s (v := dv T (nmA T n a) k) d1 (C := 10000000) (by omega)]
          generalize hv : 10 * min (dv T (nmA T n a) k) 10000000 = v
          rw [show v + (48 + d) - 48 = v + d by omega]
          unfold iMin
          by_cases c : nI (v + d) < nI 10000000
          · rw [if_pos c]
            rw [nI_lt_iff (by omega) (by omega)] at c
            congr 1; omega
          · rw [if_neg c]
            rw [nI_lt_iff (by omega) (by omega)] at c
            congr 1; omega
        rw [e]
        exact ih
    exact L 0 (Nat.zero_le _)
  · have he : nmE T n a = nmA T n a := sc_f hd
    have z0 : nxU σ (nmA T n a) (nmA T n a) 7 0 10 = 0 := by rw [nx_o (by omega)]; exact h0
    refine At.Ci rfl (e_in0 (fun z => hd (by have q := hI.mp z; exact ⟨q.1, decide_eq_true q.2⟩))) ?_
    refine At.Bt rfl (rfl) ?_
    unfold nmb
    rw [if_pos he, he]
    refine At.Cv rfl (e_fails0 z0 1 _ (h.nx (c := nmA T n a) hA.2.1).2.2.1) ?_
    exact At.R rfl
end RML
