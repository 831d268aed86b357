/-! ===== a shop of the class, and the row that it stands for ===== -/
/-- when an order's step at the drum was begun, in the class's words -/
def dbg (r : Row) (i : Nat) : Int32 := if rO r i 3 = 0 ∨ rO r i 3 = 3 ∨ bef r i then -1 else rO r i 10
def wtC (r : Row) (q : Nat) : Nat := fb_ct (fun i => decide (wts r i q)) (OM r)
def ShS (σ : iM) (s : Nat) (r : Row) : Prop := σ 4 s 4 = r 1 ∧ σ 4 s 5 = r 3 ∧ σ 4 s 6 = r 4 ∧ σ 4 s 7 = r 2 ∧ σ 4 s 8 = r 5 ∧ σ 4 s 9 = r 6 ∧ σ 4 s 10 = r 7 ∧ σ 4 s 11 = r 8 ∧ σ 4 s 12 = r 9 ∧ σ 4 s 13 = r 0 ∧ σ 4 s 14 = r 10
def ShQ (σ : iM) (s : Nat) (r : Row) (q : Nat) : Prop := σ 5 (6 * s + q) 0 = rS r q 5 ∧ σ 5 (6 * s + q) 1 = rS r q 2 ∧ σ 5 (6 * s + q) 2 = rS r q 0 ∧ σ 5 (6 * s + q) 3 = rS r q 1 ∧ σ 5 (6 * s + q) 4 = nI (wtC r q) ∧ σ 5 (6 * s + q) 5 = rS r q 3 ∧ σ 5 (6 * s + q) 6 = rS r q 4 ∧ σ 5 (6 * s + q) 7 = rS r q 6
def ShP (σ : iM) (s : Nat) (r : Row) (p : Nat) : Prop := σ 1 (6 * s + p) 2 = rPn r p ∧ σ 1 (6 * s + p) 3 = nI (dS r p) ∧ ∀ k, k < sN r p → σ 8 (2 * (6 * s + p)) k = rPs r p k ∧ σ 8 (2 * (6 * s + p) + 1) k = rPt r p k
def ShO (σ : iM) (s : Nat) (r : Row) (i : Nat) : Prop := σ 0 (24 * s + i) 0 = rO r i 0 ∧ σ 0 (24 * s + i) 1 = rO r i 1 ∧ σ 0 (24 * s + i) 2 = rO r i 2 ∧ σ 0 (24 * s + i) 3 = wk r i ∧ σ 0 (24 * s + i) 4 = rO r i 12 ∧ σ 0 (24 * s + i) 5 = rO r i 3 ∧ σ 0 (24 * s + i) 6 = rO r i 4 ∧ σ 0 (24 * s + i) 7 = rO r i 7 ∧ (rO r i 3 = 1 → σ 0 (24 * s + i) 8 = rO r i 5) ∧ σ 0 (24 * s + i) 9 = rO r i 8 ∧ (rO r i 3 = 1 ∨ rO r i 3 = 2 → σ 0 (24 * s + i) 10 = rO r i 9) ∧ σ 0 (24 * s + i) 11 = dbg r i ∧ σ 0 (24 * s + i) 12 = rO r i 11 ∧ σ 0 (24 * s + i) 13 = rO r i 13
def Sh (σ : iM) (s : Nat) (r : Row) : Prop := ShS σ s r ∧ (∀ q, q < SC r → ShQ σ s r q) ∧ (∀ p, p < PM r → ShP σ s r p) ∧ (∀ i, i < OM r → ShO σ s r i)
theorem v12 (s n : Nat) (h : n < 24) : vp_in (nI n) (iN 12 s) := vin h (by show 24 < _; omega)
theorem v13 (s n : Nat) (h : n < 6) : vp_in (nI n) (iN 13 s) := vin h (by show 6 < _; omega)
theorem v15 (s n : Nat) (h : n < 6) : vp_in (nI n) (iN 15 s) := vin h (by show 6 < _; omega)
theorem iN_p (s p : Nat) (hs : s < 4) (hp : p < 6) : iN 8 (2 * (6 * s + p)) = 6 ∧ iN 8 (2 * (6 * s + p) + 1) = 6 := by
  constructor
  · show (if _ then _ else _) = _; rw [if_pos (by omega)]
  · show (if _ then _ else _) = _; rw [if_pos (by omega)]
theorem iN_s (s : Nat) (hs : s < 4) : iN 8 (48 + 2 * s) = 24 ∧ iN 8 (49 + 2 * s) = 24 := by
  constructor
  · show (if _ then _ else _) = _; rw [if_neg (by omega), if_pos (by omega)]
  · show (if _ then _ else _) = _; rw [if_neg (by omega), if_pos (by omega)]
theorem m1_ne {x : Int32} {b : Int} (h : inR x 0 b) : ¬ x = -1 := fun e => by rw [e] at h; exact absurd h.1 (by decide)
section RD
variable {σ : iM} {s : Nat} {r : Row}
theorem Sh.om {m : Nat → Prop} (h : Sh σ s r) (hr : RIg m r) : σ 4 s 6 = nI (OM r) := by rw [h.1.2.2.1]; exact hr.om.1
theorem Sh.sc {m : Nat → Prop} (h : Sh σ s r) (hr : RIg m r) : σ 4 s 4 = nI (SC r) := by rw [h.1.1]; exact hr.sc.1
theorem c_isDown (x : Nat) (t : Int32) : Ev mX5_isDown [.inr (5, x), .inl t] σ (evi (if t < σ 5 x 1 then 1 else 0) σ) := by
  show At mX5_isDown 0 [some (.inr (5, x)), some (.inl t)] [] σ _
  refine At.B rfl (fun h => ?_) (fun h => ?_)
  · rw [if_neg (le_nlt h)]
    exact At.Z rfl (Or.inl rfl)
  · rw [if_pos (fa_of_nle h)]
    refine At.J rfl ?_
    exact At.Z rfl (Or.inr rfl)
theorem c_isWorking (x : Nat) (t : Int32) : Ev mX5_isWorking [.inr (5, x), .inl t] σ (evi (if ¬ σ 5 x 2 = -1 ∧ ¬ t < σ 5 x 1 then 1 else 0) σ) := by
  show At mX5_isWorking 0 [some (.inr (5, x)), some (.inl t)] [] σ _
  refine At.B rfl (fun h => ?_) (fun h => ?_)
  · rw [if_neg (fun q => q.1 h)]
    exact At.Z rfl (Or.inl rfl)
  · refine At.Ci rfl (c_isDown x t) ?_
    by_cases hd : t < σ 5 x 1
    · rw [if_pos hd, if_neg (fun q => q.2 hd)]
      refine At.Bf rfl (by decide) ?_
      exact At.Z rfl (Or.inl rfl)
    · rw [if_neg hd, if_pos ⟨h, hd⟩]
      refine At.Bt rfl (rfl) ?_
      refine At.J rfl ?_
      exact At.Z rfl (Or.inr rfl)
theorem c_isIdle (x : Nat) (t : Int32) : Ev mX5_isIdle [.inr (5, x), .inl t] σ (evi (if σ 5 x 2 = -1 ∧ ¬ t < σ 5 x 1 then 1 else 0) σ) := by
  show At mX5_isIdle 0 [some (.inr (5, x)), some (.inl t)] [] σ _
  refine At.B rfl (fun h => ?_) (fun h => ?_)
  · refine At.Ci rfl (c_isDown x t) ?_
    by_cases hd : t < σ 5 x 1
    · rw [if_pos hd, if_neg (fun q => q.2 hd)]
      refine At.Bf rfl (by decide) ?_
      exact At.Z rfl (Or.inl rfl)
    · rw [if_neg hd, if_pos ⟨h, hd⟩]
      refine At.Bt rfl (rfl) ?_
      refine At.J rfl ?_
      exact At.Z rfl (Or.inr rfl)
  · rw [if_neg (fun q => h q.1)]
    exact At.Z rfl (Or.inl rfl)
theorem c_isOpen (x : Nat) : Ev mX0_isOpen [.inr (0, x)] σ (evi (if σ 0 x 5 = 0 ∨ σ 0 x 5 = 1 then 1 else 0) σ) := by
  show At mX0_isOpen 0 [some (.inr (0, x))] [] σ _
  refine At.B rfl (fun h => ?_) (fun h => ?_)
  · rw [if_pos (Or.inl h)]
    refine At.J rfl ?_
    exact At.Z rfl (Or.inr rfl)
  · refine At.B rfl (fun h2 => ?_) (fun h2 => ?_)
    · rw [if_pos (Or.inr h2)]
      refine At.J rfl ?_
      exact At.Z rfl (Or.inr rfl)
    · rw [if_neg (by rintro (q | q) <;> contradiction)]
      exact At.Z rfl (Or.inl rfl)
theorem c_countInState (h : Sh σ s r) (hr : RI r) (st : Int32) : Ev mX4_countInState [.inr (4, s), .inl st] σ (evi (nI (fb_ct (fun i => decide (rO r i 3 = st)) (OM r))) σ) := by
  show At mX4_countInState 0 [some (.inr (4, s)), some (.inl st), none, none] [] σ _
  have hom := hr.om
  refine At.F 4 [some (.inr (4, s)), some (.inl st), some (.inl (nI (fb_ct (fun i => decide (rO r i 3 = st)) 0))), some (.inl (nI 0))] [] σ rfl ?_
  refine down_ind (N := OM r) (P := fun n => At mX4_countInState 4 [some (.inr (4, s)), some (.inl st), some (.inl (nI (fb_ct (fun i => decide (rO r i 3 = st)) n))), some (.inl (nI n))] [] σ _) ?_ ?_ 0 (Nat.zero_le _)
  · refine At.Bt rfl (by rw [h.om hr]; exact (nI_leI (by omega) (by omega)).mpr (Nat.le_refl _)) ?_
    exact At.R rfl
  · intro n hn ih
    refine At.Bf rfl (by rw [h.om hr]; exact fun x => absurd ((nI_leI (by omega) (by omega)).mp x) (by omega)) ?_
    refine At.N rfl (v12 s n (by omega)) ?_
    rw [nI_clamp (by omega)]
    have ho := h.2.2.2 n hn
    rw [fb_ct_succ] at ih
    refine At.B rfl (fun hc => ?_) (fun hc => ?_)
    · rw [ho.2.2.2.2.2.1] at hc
      rw [if_pos (decide_eq_true hc)] at ih
      refine At.J rfl ?_
      rw [nI_1, nI_1]
      exact ih
    · rw [ho.2.2.2.2.2.1] at hc
      rw [if_neg (by rw [decide_eq_false hc]; decide), Nat.add_zero] at ih
      refine At.J rfl ?_
      rw [nI_1]
      exact ih
theorem c_drumFreeAt (h : Sh σ s r) (hr : RI r) : Ev mX4_drumFreeAt [.inr (4, s)] σ (evi (earl r) σ) := by
  show At mX4_drumFreeAt 0 [some (.inr (4, s)), none] [] σ _
  obtain ⟨d1, d2, d3⟩ := hr.dr
  have hq := h.2.1 _ d2
  have hd : σ 4 s 7 = nI (DR r) := by rw [h.1.2.2.2.1]; exact d1
  refine At.N rfl (by rw [hd]; exact v15 s _ d3) ?_
  rw [hd, nI_clamp (by omega)]
  unfold earl
  refine At.B rfl (fun hw => ?_) (fun hw => ?_)
  · rw [hq.2.2.1] at hw
    rw [if_pos hw, Int32.add_zero]
    refine At.J rfl ?_
    rw [h.1.2.2.2.2.2.2.2.2.2.1]
    exact At.R rfl
  · rw [hq.2.2.1] at hw ⊢
    rw [if_neg hw]
    obtain ⟨w1, w2, w3, w4, w5, w6⟩ := (hr.sta d2).w hw
    refine At.N rfl (by rw [w1]; exact v12 s _ w3) ?_
    have ho := h.2.2.2 _ w2
    rw [show nn (rS r (DR r) 0) = (rS r (DR r) 0).toNatClampNeg from rfl] at ho
    rw [← h.1.2.2.2.2.2.2.2.2.2.1]
    show At _ _ _ _ _ (evi (σ 4 s 13 + rO r (rS r (DR r) 0).toNatClampNeg 7) σ)
    rw [← ho.2.2.2.2.2.2.2.1]
    exact At.R rfl
theorem Sh.prod {m : Nat → Prop} (h : Sh σ s r) (hr : RIg m r) {i : Nat} (hi : i < OM r) : σ 0 (24 * s + i) 0 = nI (oP r i) ∧ oP r i < 6 ∧ ShP σ s r (oP r i) ∧ PI r (oP r i) := by
  obtain ⟨a1, a2, a3, a4, a5⟩ := hr.op hi
  exact ⟨(h.2.2.2 i hi).1.trans a2, a3, h.2.2.1 _ a5.p.2, a4⟩
theorem c_hasToPassDrum (h : Sh σ s r) (hr : RI r) {i : Nat} (hi : i < OM r) : Ev mX4_hasToPassDrum [.inr (4, s), .inr (0, 24 * s + i)] σ (evi (if opn r i ∧ ¬ past r i then 1 else 0) σ) := by
  show At mX4_hasToPassDrum 0 [some (.inr (4, s)), some (.inr (0, 24 * s + i))] [] σ _
  have ho := h.2.2.2 i hi
  obtain ⟨p1, p2, p3, p4⟩ := h.prod hr hi
  refine At.B rfl (fun h0 => ?_) (fun h0 => ?_)
  · rw [ho.2.2.2.2.2.1] at h0
    have o0 := hr.i0 hi h0
    rw [if_pos]
    · refine At.J rfl ?_
      exact At.Z rfl (Or.inr rfl)
    · refine ⟨Or.inl h0, ?_⟩
      show ¬ nI (dS r (oP r i)) < rO r i 4
      rw [o0.1, fa_lt, nI_toInt (by have := p4.d; omega)]
      show ¬ ((dS r (oP r i) : Nat) : Int) < -1
      omega
  · rw [ho.2.2.2.2.2.1] at h0
    refine At.B rfl (fun h1 => ?_) (fun h1 => ?_)
    · rw [ho.2.2.2.2.2.1] at h1
      refine At.N rfl (by rw [p1]; exact v13 s _ p2) ?_
      rw [p1, nI_clamp (by omega)]
      refine At.B rfl (fun hd => ?_) (fun hd => ?_)
      · rw [p3.2.1, ho.2.2.2.2.2.2.1] at hd
        rw [if_neg (fun q => q.2 hd)]
        exact At.Z rfl (Or.inl rfl)
      · rw [p3.2.1, ho.2.2.2.2.2.2.1] at hd
        rw [if_pos ⟨Or.inr h1, hd⟩]
        refine At.J rfl ?_
        exact At.Z rfl (Or.inr rfl)
    · rw [ho.2.2.2.2.2.1] at h1
      rw [if_neg (by rintro ⟨q | q, -⟩ <;> contradiction)]
      exact At.Z rfl (Or.inl rfl)
theorem c_releasedWork (h : Sh σ s r) (hr : RI r) : Ev mX4_releasedWork [.inr (4, s)] σ (evi (ropeL r) σ) := by
  show At mX4_releasedWork 0 [some (.inr (4, s)), none, none, none] [] σ _
  have hom := hr.om
  refine At.F 4 [some (.inr (4, s)), some (.inl (sumN (fun i => if rO r i 3 = 1 ∧ ¬ past r i then wk r i else 0) 0)), some (.inl (nI 0)), none] [] σ rfl ?_
  refine down_ind (N := OM r) (P := fun n => ∀ d3, At mX4_releasedWork 4 [some (.inr (4, s)), some (.inl (sumN (fun i => if rO r i 3 = 1 ∧ ¬ past r i then wk r i else 0) n)), some (.inl (nI n)), d3] [] σ _) ?_ ?_ 0 (Nat.zero_le _) none
  · intro d3
    refine At.Bt rfl (by rw [h.om hr]; exact (nI_leI (by omega) (by omega)).mpr (Nat.le_refl _)) ?_
    exact At.R rfl
  · intro n hn ih d3
    refine At.Bf rfl (by rw [h.om hr]; exact fun x => absurd ((nI_leI (by omega) (by omega)).mp x) (by omega)) ?_
    refine At.N rfl (v12 s n (by omega)) ?_
    rw [nI_clamp (by omega)]
    have ho := h.2.2.2 n hn
    have ih := ih (some (.inr (0, 24 * s + n)))
    rw [sumN] at ih
    refine At.B rfl (fun hc => ?_) (fun hc => ?_)
    · rw [ho.2.2.2.2.2.1] at hc
      refine At.Ci rfl (c_hasToPassDrum h hr hn) ?_
      by_cases hp : past r n
      · rw [if_neg (fun q => q.2 hp)]
        rw [if_neg (fun q => q.2 hp), Int32.add_zero] at ih
        refine At.Bt rfl (rfl) ?_
        refine At.J rfl ?_
        rw [nI_1]
        exact ih
      · rw [if_pos ⟨Or.inr hc, hp⟩]
        rw [if_pos ⟨hc, hp⟩] at ih
        refine At.Bf rfl (by decide) ?_
        refine At.J rfl ?_
        rw [nI_1, ho.2.2.2.1]
        exact ih
    · rw [ho.2.2.2.2.2.1] at hc
      rw [if_neg (fun q => hc q.1), Int32.add_zero] at ih
      refine At.J rfl ?_
      rw [nI_1]
      exact ih
end RD
