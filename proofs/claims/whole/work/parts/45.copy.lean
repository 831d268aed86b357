/-! ===== the class: shops are copied ===== -/
theorem At.Re {j pc : Nat} {L : iL} {S : iS} {σ σ' τ : iM} {v : Option iV} (h : blk (sfx (iTb j) pc) L S σ = evR v σ') (e : σ' = τ) : At j pc L S σ (.inl v, τ) := e ▸ At.R h
theorem AtP.FB {j pc t t1 t2 : Nat} {L L' L2 : iL} {S S' S2 : iS} {σ σ' τ : iM} {Q : iRes → Prop} {c c2 : Prop} (h1 : blk (sfx (iTb j) pc) L S σ = evB c t1 t2 L' S' σ') (e : σ' = τ) (hc : c ↔ c2) (h2 : blk (sfx (iTb j) t) L2 S2 τ = evB c2 t1 t2 L' S' τ) (k : AtP j t L2 S2 τ Q) : AtP j pc L S σ Q := by
  subst e
  have ec : c = c2 := propext hc
  subst ec
  exact AtP.F t L2 S2 σ' (h1.trans h2.symm) k
def cpr (σ : iM) (k x y a m : Nat) : iM := fun k' i j => if k' = k ∧ i = x ∧ a ≤ j ∧ j < m then σ k y j else σ k' i j
section CPR
variable {σ : iM} {k x y a m : Nat}
theorem cpr_0 : cpr σ k x y a a = σ := by funext k' i j; exact if_neg (by omega)
theorem cpr_s {m' : Nat} (hm : m' = m + 1) (h : a ≤ m) : iU (cpr σ k x y a m) k x m (cpr σ k x y a m k y m) = cpr σ k x y a m' := by
  subst hm
  have e : cpr σ k x y a m k y m = σ k y m := if_neg (by omega)
  rw [e]
  funext k' i j
  unfold iU
  by_cases c : k' = k ∧ i = x ∧ j = m
  · rw [if_pos c]
    obtain ⟨rfl, rfl, rfl⟩ := c
    exact (if_pos ⟨rfl, rfl, h, by omega⟩).symm
  · rw [if_neg c]
    by_cases d : k' = k ∧ i = x ∧ a ≤ j ∧ j < m
    · rw [show cpr σ k x y a m k' i j = σ k y j from if_pos d]
      exact (if_pos ⟨d.1, d.2.1, d.2.2.1, by omega⟩).symm
    · rw [show cpr σ k x y a m k' i j = σ k' i j from if_neg d]
      exact (if_neg (by omega)).symm
theorem cpr_in {j : Nat} (h1 : a ≤ j) (h2 : j < m) : cpr σ k x y a m k x j = σ k y j := if_pos ⟨rfl, rfl, h1, h2⟩
theorem cpr_out {k' i j : Nat} (h : ¬ (k' = k ∧ i = x)) : cpr σ k x y a m k' i j = σ k' i j := if_neg (fun z => h ⟨z.1, z.2.1⟩)
theorem c_staCopy : Ev mX5_copyFrom [.inr (5, x), .inr (5, y)] σ (evv (cpr σ 5 x y 0 8)) := by
  show At mX5_copyFrom 0 [some (.inr (5, x)), some (.inr (5, y))] [] σ _
  rw [show σ = cpr σ 5 x y 0 0 from cpr_0.symm]
  refine At.Re rfl ?_
  rw [cpr_s (m' := 1) rfl (by decide), cpr_s (m' := 2) rfl (by decide), cpr_s (m' := 3) rfl (by decide), cpr_s (m' := 4) rfl (by decide), cpr_s (m' := 5) rfl (by decide), cpr_s (m' := 6) rfl (by decide), cpr_s (m' := 7) rfl (by decide), cpr_s (m' := 8) rfl (by decide)]
  rw [cpr_0]
theorem c_ordCopy (h : σ 0 y 4 = 0 ∨ σ 0 y 4 = 1) : Ev mX0_copyFrom [.inr (0, x), .inr (0, y)] σ (evv (cpr σ 0 x y 0 14)) := by
  show At mX0_copyFrom 0 [some (.inr (0, x)), some (.inr (0, y))] [] σ _
  have key : At mX0_copyFrom 0 [some (.inr (0, x)), some (.inr (0, y))] [] (cpr σ 0 x y 0 0) (evv (cpr σ 0 x y 0 14)) := by
    refine At.N rfl ?_ ?_
    · rw [cpr_s (m' := 1) rfl (by decide), cpr_s (m' := 2) rfl (by decide), cpr_s (m' := 3) rfl (by decide), cpr_s (m' := 4) rfl (by decide)]
      rw [show cpr σ 0 x y 0 4 0 y 4 = σ 0 y 4 from if_neg (by omega)]
      exact h
    · rw [cpr_s (m' := 1) rfl (by decide), cpr_s (m' := 2) rfl (by decide), cpr_s (m' := 3) rfl (by decide), cpr_s (m' := 4) rfl (by decide), cpr_s (m' := 5) rfl (by decide)]
      refine At.Re rfl ?_
      rw [cpr_s (m' := 6) rfl (by decide), cpr_s (m' := 7) rfl (by decide), cpr_s (m' := 8) rfl (by decide), cpr_s (m' := 9) rfl (by decide), cpr_s (m' := 10) rfl (by decide), cpr_s (m' := 11) rfl (by decide), cpr_s (m' := 12) rfl (by decide), cpr_s (m' := 13) rfl (by decide), cpr_s (m' := 14) rfl (by decide)]
  rw [cpr_0] at key
  exact key
end CPR
/-- what of the memory a shop owns, with its products -/
def ow2 (s k i : Nat) : Prop := own s k i ∨ (k = 1 ∧ 6 * s ≤ i ∧ i < 6 * s + 6) ∨ (k = 8 ∧ 12 * s ≤ i ∧ i < 12 * s + 12)
def cf2 (s : Nat) (σ σ1 : iM) : Prop := ∀ k i j, ¬ ow2 s k i → σ1 k i j = σ k i j
theorem cf2.rfl {s : Nat} {σ : iM} : cf2 s σ σ := fun _ _ _ _ => Eq.refl _
theorem cf2.trans {s : Nat} {σ σ1 σ2 : iM} (h1 : cf2 s σ σ1) (h2 : cf2 s σ1 σ2) : cf2 s σ σ2 := fun k i j a => (h2 k i j a).trans (h1 k i j a)
theorem cfr.w {s : Nat} {σ σ1 : iM} (h : cfr s σ σ1) : cf2 s σ σ1 := fun k i j a => h k i j (fun z => a (Or.inl z))
theorem cf2.U {s k i j : Nat} {x : Int32} {σ σ0 : iM} (h0 : cf2 s σ0 σ) (h : ow2 s k i) : cf2 s σ0 (iU σ k i j x) := fun k' i' j' a => by
  rw [iU_ne (fun z => a (by rw [z.1, z.2.1]; exact h))]
  exact h0 k' i' j' a
theorem cf2.P {s k x y a m : Nat} {σ σ0 : iM} (h0 : cf2 s σ0 σ) (h : ow2 s k x) : cf2 s σ0 (cpr σ k x y a m) := fun k' i' j' b => by
  rw [cpr_out (fun z => b (by rw [z.1, z.2]; exact h))]
  exact h0 k' i' j' b
/-- a shop's own cells decide -/
theorem Sh.cell {m : Nat → Prop} {σ σ1 : iM} {s : Nat} {r : Row} (h : Sh σ s r) (hr : RIg m r) (h4 : ∀ j, σ1 4 s j = σ 4 s j) (h5 : ∀ q j, q < 6 → σ1 5 (6 * s + q) j = σ 5 (6 * s + q) j) (h1 : ∀ p j, p < 6 → σ1 1 (6 * s + p) j = σ 1 (6 * s + p) j) (h8 : ∀ p j, p < 12 → σ1 8 (12 * s + p) j = σ 8 (12 * s + p) j) (h0 : ∀ i j, i < 24 → σ1 0 (24 * s + i) j = σ 0 (24 * s + i) j) : Sh σ1 s r := by
  have hsc := hr.sc
  have hpm := hr.pm
  have hom := hr.om
  refine ⟨?_, fun q hq => ?_, fun p hp => ?_, fun i hi => ?_⟩
  · unfold ShS
    simp only [h4]
    exact h.1
  · have := h.2.1 q hq
    unfold ShQ
    simp only [h5 q _ (show q < 6 by omega)]
    exact this
  · have := h.2.2.1 p hp
    unfold ShP
    simp only [h1 p _ (show p < 6 by omega)]
    refine ⟨this.1, this.2.1, fun k hk => ?_⟩
    rw [show 2 * (6 * s + p) = 12 * s + 2 * p by omega, show 12 * s + 2 * p + 1 = 12 * s + (2 * p + 1) by omega, h8 _ _ (by omega), h8 _ _ (by omega)]
    have := this.2.2 k hk
    rw [show 2 * (6 * s + p) = 12 * s + 2 * p by omega, show 12 * s + 2 * p + 1 = 12 * s + (2 * p + 1) by omega] at this
    exact this
  · have := h.2.2.2 i hi
    unfold ShO
    simp only [h0 i _ (show i < 24 by omega)]
    exact this
/-- a shop beside the one that changes -/
theorem Sh.apart {m : Nat → Prop} {σ σ1 : iM} {s t : Nat} {r : Row} (h : Sh σ s r) (hr : RIg m r) (hf : cf2 t σ σ1) (hs : s < 4) (ht : t < 4) (hne : s ≠ t) : Sh σ1 s r :=
  h.cell hr (fun j => hf _ _ _ (by unfold ow2 own; omega)) (fun q j hq => hf _ _ _ (by unfold ow2 own; omega)) (fun q j hq => hf _ _ _ (by unfold ow2 own; omega)) (fun q j hq => hf _ _ _ (by unfold ow2 own; omega)) (fun q j hq => hf _ _ _ (by unfold ow2 own; omega))
section CPS
variable {σ : iM} {a b : Nat} {r : Row}
/-- a product is copied -/
theorem c_prdCopy (ha : a < 4) (hb : b < 4) (hne : a ≠ b) {p : Nat} (hp : p < 6) (h : ShP σ b r p) (hn : sN r p ≤ 6) (hN : rPn r p = nI (sN r p)) : EvP mX1_copyFrom [.inr (1, 6 * a + p), .inr (1, 6 * b + p)] σ (fun z => ∃ σ1, z = evv σ1 ∧ ShP σ1 a r p ∧ ∀ k i j, ¬ (k = 1 ∧ i = 6 * a + p) → ¬ (k = 8 ∧ (i = 2 * (6 * a + p) ∨ i = 2 * (6 * a + p) + 1)) → σ1 k i j = σ k i j) := by
  show AtP mX1_copyFrom 0 [some (.inr (1, 6 * a + p)), some (.inr (1, 6 * b + p)), none] [] σ _
  refine AtP.F 2 [some (.inr (1, 6 * a + p)), some (.inr (1, 6 * b + p)), some (.inl (nI 0))] [] _ rfl ?_
  have key : ∀ n, n ≤ sN r p → ∀ τ : iM, (∀ k, k < n → τ 8 (2 * (6 * a + p)) k = rPs r p k ∧ τ 8 (2 * (6 * a + p) + 1) k = rPt r p k) → (∀ k i j, ¬ (k = 8 ∧ (i = 2 * (6 * a + p) ∨ i = 2 * (6 * a + p) + 1)) → τ k i j = σ k i j) → AtP mX1_copyFrom 2 [some (.inr (1, 6 * a + p)), some (.inr (1, 6 * b + p)), some (.inl (nI n))] [] τ (fun z => ∃ σ1, z = evv σ1 ∧ ShP σ1 a r p ∧ ∀ k i j, ¬ (k = 1 ∧ i = 6 * a + p) → ¬ (k = 8 ∧ (i = 2 * (6 * a + p) ∨ i = 2 * (6 * a + p) + 1)) → σ1 k i j = σ k i j) := by
    refine down_ind (N := sN r p) ?_ ?_
    · intro τ h1 h2
      have e2 : τ 1 (6 * b + p) 2 = nI (sN r p) := by rw [h2 _ _ _ (by omega), h.1, hN]
      refine AtP.Bt rfl (by rw [e2]; exact (nI_leI (by omega) (by omega)).mpr (Nat.le_refl _)) ?_
      refine AtP.R rfl ⟨_, rfl, ?_, fun k i j g1 g2 => ?_⟩
      · refine ⟨?_, ?_, fun k hk => ?_⟩
        · rw [iU_ne (by omega), iU_same, h2 _ _ _ (by omega)]; exact h.1
        · rw [iU_same, iU_ne (by omega), h2 _ _ _ (by omega)]; exact h.2.1
        · rw [iU_ne (by omega), iU_ne (by omega), iU_ne (by omega), iU_ne (by omega)]; exact h1 k hk
      · rw [iU_ne (by omega), iU_ne (by omega)]; exact h2 k i j g2
    · intro n hn2 ih τ h1 h2
      have e2 : τ 1 (6 * b + p) 2 = nI (sN r p) := by rw [h2 _ _ _ (by omega), h.1, hN]
      refine AtP.Bf rfl (by rw [e2]; exact fun x => absurd ((nI_leI (by omega) (by omega)).mp x) (by omega)) ?_
      refine AtP.N rfl (by rw [(iN_p b p hb hp).1]; exact vin (by omega) (by omega)) ?_
      refine AtP.N rfl (by rw [(iN_p a p ha hp).1]; exact vin (by omega) (by omega)) ?_
      refine AtP.N rfl (by rw [(iN_p b p hb hp).2]; exact vin (by omega) (by omega)) ?_
      refine AtP.N rfl (by rw [(iN_p a p ha hp).2]; exact vin (by omega) (by omega)) ?_
      refine AtP.J rfl ?_
      rw [nI_clamp (by omega), nI_1]
      have hs := h.2.2 n hn2
      have v1 : τ 8 (2 * (6 * b + p)) n = rPs r p n := by rw [h2 _ _ _ (by omega)]; exact hs.1
      have v2 : iU τ 8 (2 * (6 * a + p)) n (τ 8 (2 * (6 * b + p)) n) 8 (2 * (6 * b + p) + 1) n = rPt r p n := by rw [iU_ne (by omega), h2 _ _ _ (by omega)]; exact hs.2
      rw [v2, v1]
      refine ih _ (fun k hk => ?_) (fun k i j g => ?_)
      · by_cases e : k = n
        · subst e; rw [iU_ne (by omega), iU_same, iU_same]; exact ⟨rfl, rfl⟩
        · rw [iU_ne (by omega), iU_ne (by omega), iU_ne (by omega), iU_ne (by omega)]; exact h1 k (by omega)
      · rw [iU_ne (by omega), iU_ne (by omega)]; exact h2 k i j g
  exact key 0 (Nat.zero_le _) σ (fun k hk => absurd hk (Nat.not_lt_zero k)) (fun _ _ _ _ => rfl)
theorem c_copyFrom (h : Sh σ b r) (hr : RI r) (ha : a < 4) (hb : b < 4) (hne : a ≠ b) : EvP mX4_copyFrom [.inr (4, a), .inr (4, b)] σ (fun z => ∃ σ1, z = evv σ1 ∧ Sh σ1 a r ∧ cf2 a σ σ1) := by
  have hsc := hr.sc
  have hpm := hr.pm
  have hom := hr.om
  show AtP mX4_copyFrom 0 [some (.inr (4, a)), some (.inr (4, b)), none] [] σ _
  suffices hh : AtP mX4_copyFrom 0 [some (.inr (4, a)), some (.inr (4, b)), none] [] (cpr σ 4 a b 4 4) (fun z => ∃ σ1, z = evv σ1 ∧ Sh σ1 a r ∧ cf2 a σ σ1) by
    rw [cpr_0] at hh; exact hh
  refine AtP.FB (t := 90) (L2 := [some (.inr (4, a)), some (.inr (4, b)), some (.inl (nI 0))]) (S2 := []) (τ := cpr σ 4 a b 4 15) (c2 := cpr σ 4 a b 4 15 4 a 4 ≤ nI 0) rfl (by rw [cpr_s (m' := 5) rfl (by decide), cpr_s (m' := 6) rfl (by decide), cpr_s (m' := 7) rfl (by decide), cpr_s (m' := 8) rfl (by decide), cpr_s (m' := 9) rfl (by decide), cpr_s (m' := 10) rfl (by decide), cpr_s (m' := 11) rfl (by decide), cpr_s (m' := 12) rfl (by decide), cpr_s (m' := 13) rfl (by decide), cpr_s (m' := 14) rfl (by decide), cpr_s (m' := 15) rfl (by decide)]) (by rw [cpr_s (m' := 5) rfl (by decide), cpr_s (m' := 6) rfl (by decide), cpr_s (m' := 7) rfl (by decide), cpr_s (m' := 8) rfl (by decide), cpr_s (m' := 9) rfl (by decide), cpr_s (m' := 10) rfl (by decide), cpr_s (m' := 11) rfl (by decide), cpr_s (m' := 12) rfl (by decide), cpr_s (m' := 13) rfl (by decide), cpr_s (m' := 14) rfl (by decide), cpr_s (m' := 15) rfl (by decide)]; exact Iff.rfl) rfl ?_
  have hS : ShS (cpr σ 4 a b 4 15) a r := by
    unfold ShS
    rw [cpr_in (by omega) (by omega), cpr_in (by omega) (by omega), cpr_in (by omega) (by omega), cpr_in (by omega) (by omega), cpr_in (by omega) (by omega), cpr_in (by omega) (by omega), cpr_in (by omega) (by omega), cpr_in (by omega) (by omega), cpr_in (by omega) (by omega), cpr_in (by omega) (by omega), cpr_in (by omega) (by omega)]
    exact h.1
  -- orders
  have L3 : ∀ n, n ≤ OM r → ∀ τ : iM, cf2 a σ τ → ShS τ a r → (∀ q, q < SC r → ShQ τ a r q) → (∀ p, p < PM r → ShP τ a r p) → (∀ i, i < n → ShO τ a r i) → AtP mX4_copyFrom 152 [some (.inr (4, a)), some (.inr (4, b)), some (.inl (nI n))] [] τ (fun z => ∃ σ1, z = evv σ1 ∧ Sh σ1 a r ∧ cf2 a σ σ1) := by
    refine down_ind (N := OM r) ?_ ?_
    · intro τ hf h1 h2 h3 h4
      refine AtP.Bt rfl (by rw [h1.2.2.1, hom.1]; exact (nI_leI (by omega) (by omega)).mpr (Nat.le_refl _)) ?_
      exact AtP.R rfl ⟨_, rfl, ⟨h1, h2, h3, h4⟩, hf⟩
    · intro n hn ih τ hf h1 h2 h3 h4
      have hb2 := (h.apart hr hf hb ha (Ne.symm hne)).2.2.2 n hn
      refine AtP.Bf rfl (by rw [h1.2.2.1, hom.1]; exact fun x => absurd ((nI_leI (by omega) (by omega)).mp x) (by omega)) ?_
      refine AtP.N rfl (v12 a n (by omega)) ?_
      refine AtP.N rfl (v12 b n (by omega)) ?_
      rw [nI_clamp (by omega)]
      refine AtP.Cv rfl (c_ordCopy (by rw [hb2.2.2.2.2.1]; exact (hr.ord hn).2.2.2.2.2.2.2.1)) ?_
      refine AtP.J rfl ?_
      rw [nI_1]
      have hin : ∀ j, j < 14 → cpr τ 0 (24 * a + n) (24 * b + n) 0 14 0 (24 * a + n) j = τ 0 (24 * b + n) j := fun j hj => cpr_in (by omega) hj
      have ho : ∀ k i j, ¬ (k = 0 ∧ i = 24 * a + n) → cpr τ 0 (24 * a + n) (24 * b + n) 0 14 k i j = τ k i j := fun k i j hk => cpr_out hk
      refine ih _ (hf.P (Or.inl (own0 (by omega)))) ?_ (fun q hq => ?_) (fun p hp => ?_) (fun i hi => ?_)
      · unfold ShS; simp only [fun (i j : Nat) => ho 4 i j (by omega)]; exact h1
      · unfold ShQ; simp only [fun (i j : Nat) => ho 5 i j (by omega)]; exact h2 q hq
      · unfold ShP; simp only [fun (i j : Nat) => ho 1 i j (by omega), fun (i j : Nat) => ho 8 i j (by omega)]; exact h3 p hp
      · by_cases e : i = n
        · subst e
          unfold ShO
          rw [hin 0 (by omega), hin 1 (by omega), hin 2 (by omega), hin 3 (by omega), hin 4 (by omega), hin 5 (by omega), hin 6 (by omega), hin 7 (by omega), hin 8 (by omega), hin 9 (by omega), hin 10 (by omega), hin 11 (by omega), hin 12 (by omega), hin 13 (by omega)]
          exact hb2
        · unfold ShO
          simp only [ho 0 (24 * a + i) _ (by omega)]
          exact h4 i (by omega)
  -- products
  have L2 : ∀ n, n ≤ PM r → ∀ τ : iM, cf2 a σ τ → ShS τ a r → (∀ q, q < SC r → ShQ τ a r q) → (∀ p, p < n → ShP τ a r p) → AtP mX4_copyFrom 121 [some (.inr (4, a)), some (.inr (4, b)), some (.inl (nI n))] [] τ (fun z => ∃ σ1, z = evv σ1 ∧ Sh σ1 a r ∧ cf2 a σ σ1) := by
    refine down_ind (N := PM r) ?_ ?_
    · intro τ hf h1 h2 h3
      refine AtP.Bt rfl (by rw [h1.2.1, hpm.1]; exact (nI_leI (by omega) (by omega)).mpr (Nat.le_refl _)) ?_
      refine AtP.F 152 [some (.inr (4, a)), some (.inr (4, b)), some (.inl (nI 0))] [] τ rfl ?_
      exact L3 0 (Nat.zero_le _) τ hf h1 h2 h3 (fun i hi => absurd hi (Nat.not_lt_zero i))
    · intro n hn ih τ hf h1 h2 h3
      have hb2 := (h.apart hr hf hb ha (Ne.symm hne)).2.2.1 n hn
      have hpn := (hr.prd hn).n
      refine AtP.Bf rfl (by rw [h1.2.1, hpm.1]; exact fun x => absurd ((nI_leI (by omega) (by omega)).mp x) (by omega)) ?_
      refine AtP.N rfl (v13 a n (by omega)) ?_
      refine AtP.N rfl (v13 b n (by omega)) ?_
      rw [nI_clamp (by omega)]
      refine AtP.CvP rfl (c_prdCopy ha hb hne (p := n) (by omega) hb2 hpn.2.1 hpn.1) (fun σ9 h9 => ?_)
      obtain ⟨g1, g2⟩ := h9
      refine AtP.J rfl ?_
      rw [nI_1]
      refine ih _ (fun k i j hk => (g2 k i j (fun z => hk (by unfold ow2; omega)) (fun z => hk (by unfold ow2; omega))).trans (hf k i j hk)) ?_ (fun q hq => ?_) (fun p hp => ?_)
      · unfold ShS; simp only [fun (i j : Nat) => g2 4 i j (by omega) (by omega)]; exact h1
      · unfold ShQ; simp only [fun (i j : Nat) => g2 5 i j (by omega) (by omega)]; exact h2 q hq
      · by_cases e : p = n
        · subst e; exact g1
        · unfold ShP
          simp only [g2 1 (6 * a + p) _ (by omega) (by omega), g2 8 (2 * (6 * a + p)) _ (by omega) (by omega), g2 8 (2 * (6 * a + p) + 1) _ (by omega) (by omega)]
          exact h3 p (by omega)
  -- stations
  have L1 : ∀ n, n ≤ SC r → ∀ τ : iM, cf2 a σ τ → ShS τ a r → (∀ q, q < n → ShQ τ a r q) → AtP mX4_copyFrom 90 [some (.inr (4, a)), some (.inr (4, b)), some (.inl (nI n))] [] τ (fun z => ∃ σ1, z = evv σ1 ∧ Sh σ1 a r ∧ cf2 a σ σ1) := by
    refine down_ind (N := SC r) ?_ ?_
    · intro τ hf h1 h2
      refine AtP.Bt rfl (by rw [h1.1, hsc.1]; exact (nI_leI (by omega) (by omega)).mpr (Nat.le_refl _)) ?_
      refine AtP.F 121 [some (.inr (4, a)), some (.inr (4, b)), some (.inl (nI 0))] [] τ rfl ?_
      exact L2 0 (Nat.zero_le _) τ hf h1 h2 (fun i hi => absurd hi (Nat.not_lt_zero i))
    · intro n hn ih τ hf h1 h2
      have hb2 := (h.apart hr hf hb ha (Ne.symm hne)).2.1 n hn
      refine AtP.Bf rfl (by rw [h1.1, hsc.1]; exact fun x => absurd ((nI_leI (by omega) (by omega)).mp x) (by omega)) ?_
      refine AtP.N rfl (v15 a n (by omega)) ?_
      refine AtP.N rfl (v15 b n (by omega)) ?_
      rw [nI_clamp (by omega)]
      refine AtP.Cv rfl c_staCopy ?_
      refine AtP.J rfl ?_
      rw [nI_1]
      have hin : ∀ j, j < 8 → cpr τ 5 (6 * a + n) (6 * b + n) 0 8 5 (6 * a + n) j = τ 5 (6 * b + n) j := fun j hj => cpr_in (by omega) hj
      have ho : ∀ k i j, ¬ (k = 5 ∧ i = 6 * a + n) → cpr τ 5 (6 * a + n) (6 * b + n) 0 8 k i j = τ k i j := fun k i j hk => cpr_out hk
      refine ih _ (hf.P (Or.inl (own5 (by omega)))) ?_ (fun q hq => ?_)
      · unfold ShS; simp only [fun (i j : Nat) => ho 4 i j (by omega)]; exact h1
      · by_cases e : q = n
        · subst e
          unfold ShQ
          rw [hin 0 (by omega), hin 1 (by omega), hin 2 (by omega), hin 3 (by omega), hin 4 (by omega), hin 5 (by omega), hin 6 (by omega), hin 7 (by omega)]
          exact hb2
        · unfold ShQ
          simp only [ho 5 (6 * a + q) _ (by omega)]
          exact h2 q (by omega)
  exact L1 0 (Nat.zero_le _) _ (cf2.rfl.P (Or.inl own4)) hS (fun i hi => absurd hi (Nat.not_lt_zero i))
end CPS