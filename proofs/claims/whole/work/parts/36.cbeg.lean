/-! ===== the class: a station begins ===== -/
/-- the memory with an order's and a station's cells -/
def mOQ (σ : iM) (X Q : Nat) (fo fq : Row) : iM := fun k i j => if k = 0 ∧ i = X then fo j else if k = 5 ∧ i = Q then fq j else σ k i j
section MO
variable {σ : iM} {X Q : Nat} {fo fq : Row} {v : Int32}
theorem mOQ_o : mOQ σ X Q fo fq 0 X = fo := by funext j; simp [mOQ]
theorem mOQ_q : mOQ σ X Q fo fq 5 Q = fq := by funext j; simp [mOQ]
theorem mOQ_k {k i j : Nat} (h : k ≠ 0 ∧ k ≠ 5) : mOQ σ X Q fo fq k i j = σ k i j := by
  simp only [mOQ]
  rw [if_neg (by omega), if_neg (by omega)]
theorem mOQ_i {k i j : Nat} (h : ¬ (k = 0 ∧ i = X)) (h2 : ¬ (k = 5 ∧ i = Q)) : mOQ σ X Q fo fq k i j = σ k i j := by
  simp only [mOQ]
  rw [if_neg h, if_neg h2]
theorem mOQ_uo {j : Nat} : iU (mOQ σ X Q fo fq) 0 X j v = mOQ σ X Q (upd fo j v) fq := by
  funext p q k; simp only [iU, mOQ, upd]
  by_cases h1 : p = 0 <;> by_cases h2 : q = X <;> by_cases h3 : k = j <;> simp [h1, h2, h3]
theorem mOQ_uq {j : Nat} : iU (mOQ σ X Q fo fq) 5 Q j v = mOQ σ X Q fo (upd fq j v) := by
  funext p q k; simp only [iU, mOQ, upd]
  by_cases h1 : p = 5 <;> by_cases h2 : q = Q <;> by_cases h3 : k = j <;> simp [h1, h2, h3]
theorem mOQ_self : mOQ σ X Q (σ 0 X) (σ 5 Q) = σ := by
  funext p q j; simp only [mOQ]
  by_cases h1 : p = 0 ∧ q = X
  · obtain ⟨rfl, rfl⟩ := h1; simp
  · rw [if_neg h1]
    by_cases h2 : p = 5 ∧ q = Q
    · obtain ⟨rfl, rfl⟩ := h2; simp
    · rw [if_neg h2]
theorem mOQ_cfr {s x q : Nat} (hx : x < 24) (hq : q < 6) (h1 : X = 24 * s + x) (h2 : Q = 6 * s + q) : cfr s σ (mOQ σ X Q fo fq) := fun k i j h => by
  refine mOQ_i ?_ ?_
  · rintro ⟨rfl, rfl⟩; exact h (h1 ▸ own0 hx)
  · rintro ⟨rfl, rfl⟩; exact h (h2 ▸ own5 hq)
end MO
theorem Sh.oq {m : Nat → Prop} {σ : iM} {s : Nat} {r r' : Row} {fo fq : Row} (h : Sh σ s r) (hr : RIg m r) (hs4 : s < 4) {x q : Nat} (hx : x < OM r) (hq : q < SC r) (hs : samB r r') (h10 : ∀ n, n ≤ 10 → r' n = r n)
    (hS' : ∀ q', q' < SC r → q' ≠ q → (∀ w, w < 7 → rS r' q' w = rS r q' w) ∧ wtC r' q' = wtC r q') (hO' : ∀ i, i < OM r → i ≠ x → ∀ w, w < 14 → rO r' i w = rO r i w)
    (hX : ShO (mOQ σ (24 * s + x) (6 * s + q) fo fq) s r' x) (hQ : ShQ (mOQ σ (24 * s + x) (6 * s + q) fo fq) s r' q) : Sh (mOQ σ (24 * s + x) (6 * s + q) fo fq) s r' := by
  have hom := hr.om
  have hsc := hr.sc
  refine h.of hr hs4 hs (mOQ_cfr (x := x) (q := q) (by omega) (by omega) rfl rfl) (h.1.same (fun j => mOQ_k (by omega)) h10) (fun q' hq' => ?_) (fun i hi => ?_)
  · by_cases e : q' = q
    · rw [e]; exact hQ
    · have h2 := h.2.1 q' hq'
      have hS2 := hS' q' hq' e
      refine h2.same (fun j _ => mOQ_i (by omega) (by omega)) hS2.1 ?_
      rw [mOQ_i (by omega) (by omega), h2.2.2.2.2.1, hS2.2]
  · by_cases e : i = x
    · rw [e]; exact hX
    · exact (h.2.2.2 i hi).same hs (hr.op hi).2.2.1 (by have := (hr.op hi).2.2.2.1.d; omega) (fun w _ => mOQ_i (by omega) (by omega)) (hO' i hi e)
theorem dbg1 {r : Row} {i : Nat} (h : rO r i 3 = 1) : dbg r i = if bef r i then -1 else rO r i 10 := by
  unfold dbg
  by_cases hb : bef r i
  · rw [if_pos hb, if_pos (Or.inr (Or.inr hb))]
  · rw [if_neg hb, if_neg (by rw [h]; rintro (z | z | z); exact absurd z (by decide); exact absurd z (by decide); exact hb z)]
theorem begR_4 {r : Row} {q i : Nat} (hq : q < 6) : rS (begR r q i) q 4 = if rO r i 0 = rS r q 1 then rS r q 4 else rS r q 4 + 1 := by
  show begR r q i (11 + 7 * q + 4) = _
  unfold begR
  dsimp only
  split <;> split <;> repeat (first | rw [upd_eq'] | rw [upd_ne' (by omega)])
theorem begR_1 {r : Row} {q i : Nat} (hq : q < 6) : rS (begR r q i) q 1 = rO r i 0 := by
  show begR r q i (11 + 7 * q + 1) = _
  unfold begR
  dsimp only
  split <;> split <;> repeat (first | rw [upd_eq'] | rw [upd_ne' (by omega)])
section BG
variable {σ : iM} {s : Nat} {r : Row}
def begO (r : Row) (q i : Nat) (fo : Row) : Row :=
  (fun f => if nI q = r 2 then upd f 11 (r 0) else f) (if rO r i 0 = rS r q 1 then upd fo 7 (wH r i) else upd (upd fo 7 (wH r i)) 7 (wH r i + rS r q 5))
def begQ (r : Row) (q i : Nat) (fq : Row) : Row :=
  (fun f : Row => upd (upd f 2 (nI i)) 4 (f 4 - 1)) (if rO r i 0 = rS r q 1 then fq else upd (upd fq 6 (rS r q 4 + 1)) 3 (rO r i 0))
theorem c_beginStep (h : Sh σ s r) (hr : RI r) (hs4 : s < 4) {q i : Nat} (hq : q < SC r) (hi : i < OM r) (hw : rO r i 3 = 1) : Ev mX4_beginStep [.inr (4, s), .inl (nI q), .inl (nI i)] σ (evv (mOQ σ (24 * s + i) (6 * s + q) (begO r q i (σ 0 (24 * s + i))) (begQ r q i (σ 5 (6 * s + q))))) := by
  have hom := hr.om
  have hsc := hr.sc
  have ho := h.2.2.2 i hi
  have hqq := h.2.1 q hq
  show At mX4_beginStep 0 [some (.inr (4, s)), some (.inl (nI q)), some (.inl (nI i)), none, none] [] σ _
  refine At.N rfl (v15 s q (by omega)) ?_
  rw [nI_clamp (by omega)]
  refine At.N rfl (v12 s i (by omega)) ?_
  rw [nI_clamp (by omega)]
  refine At.Ci rfl (c_workOfStep h hr hs4 hi hw) ?_
  have hst : iU σ 0 (24 * s + i) 7 (wH r i) = mOQ σ (24 * s + i) (6 * s + q) (upd (σ 0 (24 * s + i)) 7 (wH r i)) (σ 5 (6 * s + q)) := by
    conv => lhs; rw [← mOQ_self (σ := σ) (X := 24 * s + i) (Q := 6 * s + q)]
    rw [mOQ_uo]
  have e4 : ∀ {fo fq : Row} {j : Nat}, mOQ σ (24 * s + i) (6 * s + q) fo fq 4 s j = σ 4 s j := mOQ_k (by omega)
  have hdr : σ 4 s 7 = r 2 := h.1.2.2.2.1
  have hnow : σ 4 s 13 = r 0 := h.1.2.2.2.2.2.2.2.2.2.1
  have tail : ∀ (fo fq : Row), At mX4_beginStep 71 [some (.inr (4, s)), some (.inl (nI q)), some (.inl (nI i)), some (.inr (5, 6 * s + q)), some (.inr (0, 24 * s + i))] [] (mOQ σ (24 * s + i) (6 * s + q) fo fq) (evv (mOQ σ (24 * s + i) (6 * s + q) (if nI q = r 2 then upd fo 11 (r 0) else fo) (upd (upd fq 2 (nI i)) 4 (fq 4 - 1)))) := by
    intro fo fq
    have fin : ∀ fo : Row, At mX4_beginStep 88 [some (.inr (4, s)), some (.inl (nI q)), some (.inl (nI i)), some (.inr (5, 6 * s + q)), some (.inr (0, 24 * s + i))] [] (mOQ σ (24 * s + i) (6 * s + q) fo fq) (evv (mOQ σ (24 * s + i) (6 * s + q) fo (upd (upd fq 2 (nI i)) 4 (fq 4 - 1)))) := by
      intro fo
      have e : mOQ σ (24 * s + i) (6 * s + q) fo (upd (upd fq 2 (nI i)) 4 (fq 4 - 1)) = iU (iU (mOQ σ (24 * s + i) (6 * s + q) fo fq) 5 (6 * s + q) 2 (nI i)) 5 (6 * s + q) 4 (iU (mOQ σ (24 * s + i) (6 * s + q) fo fq) 5 (6 * s + q) 2 (nI i) 5 (6 * s + q) 4 - 1) := by
        rw [mOQ_uq, mOQ_uq, mOQ_q, upd_ne' (by omega)]
      rw [e]
      exact At.R rfl
    refine At.B rfl (fun hd => ?_) (fun hd => ?_)
    · rw [e4, hdr] at hd
      rw [if_pos hd]
      refine At.F 88 [some (.inr (4, s)), some (.inl (nI q)), some (.inl (nI i)), some (.inr (5, 6 * s + q)), some (.inr (0, 24 * s + i))] [] (iU (mOQ σ (24 * s + i) (6 * s + q) fo fq) 0 (24 * s + i) 11 (mOQ σ (24 * s + i) (6 * s + q) fo fq 4 s 13)) rfl ?_
      rw [e4, hnow, mOQ_uo]
      exact fin _
    · rw [e4, hdr] at hd
      rw [if_neg hd]
      exact fin _
  unfold begO begQ
  refine At.B rfl (fun hp => ?_) (fun hp => ?_)
  · rw [hst, mOQ_o, mOQ_q, upd_ne' (by omega), ho.1, hqq.2.2.2.1] at hp
    rw [if_pos hp, if_pos hp, hst]
    exact tail _ _
  · rw [hst, mOQ_o, mOQ_q, upd_ne' (by omega), ho.1, hqq.2.2.2.1] at hp
    rw [if_neg hp, if_neg hp, hst]
    generalize hM : mOQ σ (24 * s + i) (6 * s + q) (upd (σ 0 (24 * s + i)) 7 (wH r i)) (σ 5 (6 * s + q)) = M1
    refine At.F 71 [some (.inr (4, s)), some (.inl (nI q)), some (.inl (nI i)), some (.inr (5, 6 * s + q)), some (.inr (0, 24 * s + i))] [] (iU (iU (iU M1 0 (24 * s + i) 7 (M1 0 (24 * s + i) 7 + M1 5 (6 * s + q) 0)) 5 (6 * s + q) 6 (iU M1 0 (24 * s + i) 7 (M1 0 (24 * s + i) 7 + M1 5 (6 * s + q) 0) 5 (6 * s + q) 6 + 1)) 5 (6 * s + q) 3 (iU (iU M1 0 (24 * s + i) 7 (M1 0 (24 * s + i) 7 + M1 5 (6 * s + q) 0)) 5 (6 * s + q) 6 (iU M1 0 (24 * s + i) 7 (M1 0 (24 * s + i) 7 + M1 5 (6 * s + q) 0) 5 (6 * s + q) 6 + 1) 0 (24 * s + i) 0)) rfl ?_
    rw [← hM]
    simp only [mOQ_uo, mOQ_uq, mOQ_o, mOQ_q]
    rw [upd_eq', upd_ne' (by omega), upd_ne' (by omega), hqq.1, ho.1, hqq.2.2.2.2.2.2.1]
    exact tail _ _
theorem Sh.begC (h : Sh σ s r) (hr : RI r) (hs4 : s < 4) {q i : Nat} (hq : q < SC r) (hi : i < OM r) (hw : wts r i q) (h0 : rS r q 0 = -1) : Sh (mOQ σ (24 * s + i) (6 * s + q) (begO r q i (σ 0 (24 * s + i))) (begQ r q i (σ 5 (6 * s + q)))) s (begR r q i) := by
  have hom := hr.om
  have hsc := hr.sc
  have hq6 : q < 6 := by omega
  obtain ⟨a1, a2, a3, a4, a5⟩ := hr.op hi
  obtain ⟨k1, k2, k3⟩ := hr.st hi hw.1
  have ho := h.2.2.2 i hi
  have hqq := h.2.1 q hq
  have hs : samB r (begR r q i) := begR_s hq6
  have hoth : ∀ j, j < OM r → j ≠ i → ∀ w, w < 14 → rO (begR r q i) j w = rO r j w := fun j _ hne w hw => begR_o hq6 hw (Or.inl hne)
  have hwt : ∀ q', (∀ j, j < OM r → j ≠ i → (wts (begR r q i) j q' ↔ wts r j q')) := fun q' j hj hne => wts_eq hs (hr.op hj).2.2.1 (fun h1 => (hr.st hj h1).2.2) (hoth j hj hne 0 (by omega)) (hoth j hj hne 3 (by omega)) (hoth j hj hne 4 (by omega)) (hoth j hj hne 6 (by omega))
  have hn : ∀ q', ¬ wts (begR r q i) i q' := fun q' z => by have := z.2.1; rw [begR_6 hq6] at this; exact absurd this (by decide)
  refine h.oq hr hs4 hi hq hs (fun n hn => begR_n (by omega) (by omega)) (fun q' hq' hne => ⟨fun w hw => begR_n (by omega) (by omega), ?_⟩) hoth ?_ ?_
  · have := wtC_upd hs.om hi q' (hwt q')
    rw [if_neg (hn q'), if_neg (fun z => hne (by have := z.2.2; rw [hw.2.2, nI_inj (by omega) (by omega)] at this; exact this.symm))] at this
    omega
  · have hb : bef (begR r q i) i ↔ (rO r i 4 < nI (dS r (oP r i))) := by
      unfold bef opn
      rw [oP_eq (begR_o hq6 (by omega) (by omega)), hs.ds a3, begR_o hq6 (w := 3) (by omega) (by omega), begR_o hq6 (w := 4) (by omega) (by omega), begR_6 hq6]
      constructor
      · rintro ⟨-, z | z⟩
        · exact z
        · exact absurd z.2 (by decide)
      · intro z; exact ⟨Or.inr hw.1, Or.inl z⟩
    have hdv : dbg (begR r q i) i = if nI q = r 2 then r 0 else dbg r i := by
      have hb0 : bef r i ↔ (rO r i 4 < nI (dS r (oP r i)) ∨ rO r i 4 = nI (dS r (oP r i))) := by
        unfold bef opn
        constructor
        · rintro ⟨-, z | z⟩
          · exact Or.inl z
          · exact Or.inr z.1
        · rintro (z | z)
          · exact ⟨Or.inr hw.1, Or.inl z⟩
          · exact ⟨Or.inr hw.1, Or.inr ⟨z, hw.2.1⟩⟩
      have hd : nI q = r 2 ↔ rO r i 4 = nI (dS r (oP r i)) := by
        rw [← hw.2.2, k1, nI_inj (by omega) (by have := a4.d; omega)]
        constructor
        · intro z; exact a4.2.2.2.2 _ k2 z
        · intro z; rw [z]; exact a4.d.2.2
      have h31 : ¬ rO r i 3 = 0 ∧ ¬ rO r i 3 = 3 := by rw [hw.1]; decide
      have h3' : rO (begR r q i) i 3 = rO r i 3 := begR_o hq6 (by omega) (by omega)
      rw [dbg1 hw.1, dbg1 (h3'.trans hw.1), begR_10 hq6]
      by_cases hc : nI q = r 2
      · have hnb : ¬ bef (begR r q i) i := fun z => by
          have z1 := hb.mp z
          rw [hd.mp hc, fa_lt] at z1
          omega
        rw [if_pos hc, if_neg hnb, if_pos hc]
      · rw [if_neg hc, if_neg hc]
        have hbe : bef (begR r q i) i ↔ bef r i := by
          rw [hb, hb0]
          constructor
          · exact Or.inl
          · rintro (z | z)
            · exact z
            · exact absurd (hd.mpr z) hc
        by_cases hcc : bef r i
        · rw [if_pos (hbe.mpr hcc), if_pos hcc]
        · rw [if_neg (fun z => hcc (hbe.mp z)), if_neg hcc]
    have c0 : ∀ w, w ≠ 7 → w ≠ 11 → begO r q i (σ 0 (24 * s + i)) w = σ 0 (24 * s + i) w := fun w b1 b2 => by
      unfold begO
      dsimp only
      split <;> split <;> repeat (rw [upd_ne' (by omega)])
    have c7 : begO r q i (σ 0 (24 * s + i)) 7 = if rO r i 0 = rS r q 1 then wH r i else wH r i + rS r q 5 := by
      unfold begO
      dsimp only
      split <;> split <;> repeat (first | rw [upd_eq'] | rw [upd_ne' (by omega)])
    have c11 : begO r q i (σ 0 (24 * s + i)) 11 = if nI q = r 2 then r 0 else σ 0 (24 * s + i) 11 := by
      unfold begO
      dsimp only
      split <;> split <;> repeat (first | rw [upd_eq'] | rw [upd_ne' (by omega)])
    unfold ShO at ho ⊢
    rw [mOQ_o, c0 0 (by omega) (by omega), c0 1 (by omega) (by omega), c0 2 (by omega) (by omega), c0 3 (by omega) (by omega), c0 4 (by omega) (by omega), c0 5 (by omega) (by omega), c0 6 (by omega) (by omega), c7, c0 8 (by omega) (by omega), c0 9 (by omega) (by omega), c0 10 (by omega) (by omega), c11, c0 12 (by omega) (by omega), c0 13 (by omega) (by omega)]
    rw [begR_o hq6 (w := 0) (by omega) (by omega), begR_o hq6 (w := 1) (by omega) (by omega), begR_o hq6 (w := 2) (by omega) (by omega), begR_o hq6 (w := 3) (by omega) (by omega), begR_o hq6 (w := 4) (by omega) (by omega), begR_o hq6 (w := 5) (by omega) (by omega), begR_7 hq6, begR_o hq6 (w := 8) (by omega) (by omega), begR_o hq6 (w := 9) (by omega) (by omega), begR_o hq6 (w := 11) (by omega) (by omega), begR_o hq6 (w := 12) (by omega) (by omega), begR_o hq6 (w := 13) (by omega) (by omega), hdv, wk_eq hs a3 (by have := a4.d; omega) (begR_o hq6 (by omega) (by omega)) (begR_o hq6 (by omega) (by omega))]
    obtain ⟨b0, b1, b2, b3, b4, b5, b6, b7, b8, b9, b10, b11, b12, b13⟩ := ho
    refine ⟨b0, b1, b2, b3, b4, b5, b6, rfl, b8, b9, b10, ?_, b12, b13⟩
    rw [b11]
  · have hwq := wtC_upd hs.om hi q (hwt q)
    rw [if_neg (hn q), if_pos hw] at hwq
    have c0 : ∀ w, w ≠ 2 → w ≠ 3 → w ≠ 4 → w ≠ 6 → begQ r q i (σ 5 (6 * s + q)) w = σ 5 (6 * s + q) w := fun w b1 b2 b3 b4 => by
      unfold begQ
      dsimp only
      split <;> repeat (rw [upd_ne' (by omega)])
    have c2 : begQ r q i (σ 5 (6 * s + q)) 2 = nI i := by
      unfold begQ
      dsimp only
      rw [upd_ne' (by omega), upd_eq']
    have c3 : begQ r q i (σ 5 (6 * s + q)) 3 = rO r i 0 := by
      unfold begQ
      dsimp only
      rw [upd_ne' (by omega), upd_ne' (by omega)]
      by_cases z : rO r i 0 = rS r q 1
      · rw [if_pos z, hqq.2.2.2.1, z]
      · rw [if_neg z, upd_eq']
    have c4 : begQ r q i (σ 5 (6 * s + q)) 4 = nI (wtC (begR r q i) q) := by
      unfold begQ
      dsimp only
      rw [upd_eq']
      have : ∀ f : Row, (if rO r i 0 = rS r q 1 then σ 5 (6 * s + q) else upd (upd (σ 5 (6 * s + q)) 6 (rS r q 4 + 1)) 3 (rO r i 0)) 4 = σ 5 (6 * s + q) 4 := fun _ => by
        split
        · rfl
        · rw [upd_ne' (by omega), upd_ne' (by omega)]
      rw [this (σ 5 0), hqq.2.2.2.2.1, show wtC r q = wtC (begR r q i) q + 1 by omega, nI_pred]
    have c6 : begQ r q i (σ 5 (6 * s + q)) 6 = if rO r i 0 = rS r q 1 then rS r q 4 else rS r q 4 + 1 := by
      unfold begQ
      dsimp only
      rw [upd_ne' (by omega), upd_ne' (by omega)]
      by_cases z : rO r i 0 = rS r q 1
      · rw [if_pos z, if_pos z, hqq.2.2.2.2.2.2.1]
      · rw [if_neg z, if_neg z, upd_ne' (by omega), upd_eq']
    obtain ⟨b0, b1, b2, b3, b4, b5, b6, b7⟩ := hqq
    unfold ShQ
    rw [mOQ_q, c0 0 (by omega) (by omega) (by omega) (by omega), c0 1 (by omega) (by omega) (by omega) (by omega), c2, c3, c4, c0 5 (by omega) (by omega) (by omega) (by omega), c6, c0 7 (by omega) (by omega) (by omega) (by omega)]
    rw [begR_s0 hq6, begR_1 hq6, begR_4 hq6, show rS (begR r q i) q 5 = rS r q 5 from begR_n (by omega) (by omega), show rS (begR r q i) q 2 = rS r q 2 from begR_n (by omega) (by omega), show rS (begR r q i) q 3 = rS r q 3 from begR_n (by omega) (by omega), show rS (begR r q i) q 6 = rS r q 6 from begR_n (by omega) (by omega)]
    exact ⟨b0, b1, rfl, rfl, rfl, b5, rfl, b7⟩
theorem cho_0 (hr : RI r) {q : Nat} (h : wtC r q = 0) : cho r q (OM r) = -1 := by
  rcases cho_ok hr q (OM r) (Nat.le_refl _) with a | ⟨i, a, b, c⟩
  · exact a
  · exact absurd c (of_decide_eq_false (fb_ct_zero.mp h i a))
theorem c_beginSteps (h : Sh σ s r) (hr : RI r) (hs4 : s < 4) : EvP mX4_beginSteps [.inr (4, s)] σ (fun z => ∃ σ1, z = evv σ1 ∧ Sh σ1 s (begN r (SC r)) ∧ cfr s σ σ1) := by
  have hsc := hr.sc
  have hom := hr.om
  show AtP mX4_beginSteps 0 [some (.inr (4, s)), none, none] [] σ _
  refine AtP.F 2 [some (.inr (4, s)), some (.inl (nI 0)), none] [] _ rfl ?_
  have key : ∀ n, n ≤ SC r → ∀ (σ' : iM) (d2 : Option iV), Sh σ' s (begN r n) → cfr s σ σ' → AtP mX4_beginSteps 2 [some (.inr (4, s)), some (.inl (nI n)), d2] [] σ' (fun z => ∃ σ1, z = evv σ1 ∧ Sh σ1 s (begN r (SC r)) ∧ cfr s σ σ1) := by
    refine down_ind (N := SC r) ?_ ?_
    · intro σ' d2 hS hf
      obtain ⟨a, b, c⟩ := begN_ok hr (SC r) (Nat.le_refl _)
      refine AtP.Bt rfl (by rw [hS.sc a, b.sc]; exact (nI_leI (by omega) (by omega)).mpr (Nat.le_refl _)) ?_
      exact AtP.R rfl (⟨_, rfl, hS, hf⟩)
    · intro n hn ih σ' d2 hS hf
      obtain ⟨a, b, c⟩ := begN_ok hr n (by omega)
      have hn' : n < SC (begN r n) := by rw [b.sc]; exact hn
      have hq := hS.2.1 n hn'
      have hnow : σ' 4 s 13 = begN r n 0 := hS.1.2.2.2.2.2.2.2.2.2.1
      have hw24 := wtC_le a n
      refine AtP.Bf rfl (by rw [hS.sc a, b.sc]; exact fun x => absurd ((nI_leI (by omega) (by omega)).mp x) (by omega)) ?_
      refine AtP.N rfl (v15 s n (by omega)) ?_
      rw [nI_clamp (by omega)]
      refine AtP.Ci rfl (c_isIdle (6 * s + n) _) ?_
      rw [hq.2.2.1, hq.2.1, hnow]
      have skip : ∀ d2, ¬ (rS (begN r n) n 0 = -1 ∧ ¬ dnn (begN r n) n ∧ ¬ cho (begN r n) n (OM (begN r n)) = -1) → AtP mX4_beginSteps 55 [some (.inr (4, s)), some (.inl (nI n)), d2] [] σ' (fun z => ∃ σ1, z = evv σ1 ∧ Sh σ1 s (begN r (SC r)) ∧ cfr s σ σ1) := by
        intro d2 hc
        refine AtP.J rfl ?_
        rw [nI_1]
        refine ih σ' d2 ?_ hf
        rw [begN, beg, if_neg hc]
        exact hS
      by_cases hid : rS (begN r n) n 0 = -1 ∧ ¬ begN r n 0 < rS (begN r n) n 2
      · rw [if_pos hid]
        refine AtP.Bf rfl (by decide) ?_
        refine AtP.N rfl (v15 s n (by omega)) ?_
        rw [nI_clamp (by omega)]
        refine AtP.B rfl (fun hwt => ?_) (fun hwt => ?_)
        · rw [hq.2.2.2.2.1, fa_le, nI_toInt (by omega)] at hwt
          have h0 : ((0 : Int32).toInt = 0) := rfl
          refine skip _ (fun z => z.2.2 (cho_0 a ?_))
          omega
        · refine AtP.Ci rfl (c_choiceAt hS a hs4) ?_
          refine AtP.B rfl (fun hch => ?_) (fun hch => ?_)
          · exact skip _ (fun z => z.2.2 hch)
          · rcases cho_ok a n (OM (begN r n)) (Nat.le_refl _) with hh | ⟨i, i1, i2, i3⟩
            · exact absurd hh hch
            · have hbe : begN r (n + 1) = begR (begN r n) n i := by
                rw [begN, beg, if_pos ⟨hid.1, hid.2, hch⟩, i2, nn_nI (by have := a.om; omega)]
              rw [i2]
              refine AtP.Cv rfl (c_beginStep hS a hs4 hn' i1 i3.1) ?_
              refine AtP.J rfl ?_
              rw [nI_1]
              refine ih _ _ ?_ (hf.trans (mOQ_cfr (x := i) (q := n) (by have := a.om; omega) (by omega) rfl rfl))
              rw [hbe]
              exact hS.begC a hs4 hn' i1 i3 hid.1
      · rw [if_neg hid]
        refine AtP.Bt rfl (rfl) ?_
        exact skip _ (fun z => hid ⟨z.1, z.2.1⟩)
  exact key 0 (Nat.zero_le _) σ _ h cfr.rfl
end BG
