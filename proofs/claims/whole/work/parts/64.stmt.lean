/-! ===== a description as a function of the text ===== -/
def bgU (R : Row) (c d : Nat) : Row := fun j => if j < 467 then (if j = 1 then nI c else if j = 2 then nI d else if j = 5 ∨ j = 6 then 20 else if j = 7 then 100 else if 11 ≤ j ∧ j < 53 ∧ ((j - 11) % 7 = 0 ∨ (j - 11) % 7 = 1) then -1 else 0) else R j
def frs (r : Row) : Prop := ∀ p, PM r ≤ p → p < 6 → rPn r p = 0
def hsD (r : Row) (p : Nat) : Nat → Bool
  | 0 => false
  | k + 1 => hsD r p k || decide (rPs r p k = r 2)
def stU (r : Row) (k q t : Nat) : Row := upd (upd (upd r (54 + 13 * PM r + 2 * k) (nI q)) (55 + 13 * PM r + 2 * k) (nI t)) (53 + 13 * PM r) (nI (k + 1))
def stp1 (T : Row) (n a : Nat) (r : Row) (k : Nat) : (Int32 × Nat) ⊕ (Nat × Row) :=
  match nmb T n 0 ((SC r : Int) - 1) a with
  | .inl e => .inl e
  | .inr (q, a3) => if nI q = r 2 ∧ hsD r (PM r) k = true then .inl (3, nmA T n a) else if k = 6 then .inl (4, nmA T n a) else
    (match nmb T n 1 20 a3 with
    | .inl e => .inl e
    | .inr (t, a4) => .inr (a4, stU r k q t))
def prL (T : Row) (n : Nat) : Nat → Nat → Row → Nat → (Int32 × Nat) ⊕ (Nat × Row)
  | 0, _, _, _ => .inl (4, 0)
  | f + 1, a, r, k => (match stp1 T n a r k with
    | .inl e => .inl e
    | .inr (a4, r') => if nmA T n a4 < n ∧ isDg (T (nmA T n a4)) = true then prL T n f (nmA T n a4) r' (k + 1)
      else if hsD r' (PM r') (k + 1) = true then .inr (nmA T n a4, upd r' 3 (nI (PM r' + 1))) else .inl (3, nmA T n a4))
abbrev wdA (T : Row) (n a : Nat) : Nat := sc isSp T n a
abbrev wdE (T : Row) (n a : Nat) : Nat := sc isLt T n (wdA T n a)
abbrev Out : Type := (Int32 × Nat) ⊕ (Nat × Row × Row)
def num1 (T : Row) (n : Nat) (lo hi : Int) (a : Nat) (f : Nat → Nat → Out) : Out :=
  match nmb T n lo hi a with
  | .inl e => .inl e
  | .inr (v, a') => f v a'
/-- one statement behind the first -/
def stF (T : Row) (n st a : Nat) (r so : Row) : Out :=
  if isW T (wdA T n a) (wdE T n a) 3 then num1 T n 1 500 (wdE T n a) (fun b a3 => num1 T n 1 500 a3 (fun s a4 => .inr (a4, upd (upd r 5 (nI b)) 6 (nI s), so)))
  else if isW T (wdA T n a) (wdE T n a) 4 then num1 T n 1 5000 (wdE T n a) (fun b a3 => .inr (a3, upd r 7 (nI b), so))
  else if isW T (wdA T n a) (wdE T n a) 5 then num1 T n 0 3 (wdE T n a) (fun b a3 => .inr (a3, upd r 8 (nI b), so))
  else if isW T (wdA T n a) (wdE T n a) 6 then num1 T n 0 1 (wdE T n a) (fun b a3 => .inr (a3, upd r 9 (nI b), so))
  else if isW T (wdA T n a) (wdE T n a) 7 then num1 T n 0 ((SC r : Int) - 1) (wdE T n a) (fun q a3 => num1 T n 0 50 a3 (fun v a4 => .inr (a4, upd r (11 + 7 * q + 5) (nI v), so)))
  else if isW T (wdA T n a) (wdE T n a) 1 then (if PM r = 6 then .inl (4, wdA T n a) else (match prL T n 7 (nmA T n (wdE T n a)) r 0 with | .inl e => .inl e | .inr (a', r') => .inr (a', r', so)))
  else if isW T (wdA T n a) (wdE T n a) 2 then (if OM r = 24 then .inl (4, wdA T n a) else num1 T n 0 ((PM r : Int) - 1) (wdE T n a) (fun p a3 => num1 T n 1 50 a3 (fun q a4 => num1 T n 0 30000 a4 (fun d a5 => .inr (a5, layR r p (nI q) (nI d), upd so (OM r) (nI st))))))
  else .inl (1, wdA T n a)
/-- the first statement -/
def fsF (T : Row) (n : Nat) (R so : Row) : Out :=
  if isW T (wdA T n 0) (wdE T n 0) 0 then num1 T n 1 6 (wdE T n 0) (fun c a3 => num1 T n 0 ((c : Int) - 1) a3 (fun d a4 => .inr (a4, bgU R c d, so)))
  else .inl (1, wdA T n 0)
/-- the statements behind it -/
def ldL (T : Row) (n : Nat) : Nat → Nat → Nat → Row → Row → ((Int32 × Nat) × Nat) ⊕ (Row × Row)
  | 0, _, _, r, so => .inr (r, so)
  | f + 1, st, a, r, so => if nmA T n a < n then (if T (nmA T n a) = 59 then (match stF T n (st + 1) (nmA T n a + 1) r so with
      | .inl e => .inl (e, st + 1)
      | .inr (a', r', so') => ldL T n f (st + 1) a' r' so') else .inl ((1, nmA T n a), st)) else .inr (r, so)
theorem nmb_b {T : Row} {n a : Nat} {lo hi : Int} (ha : a ≤ n) : (∃ V b, nmb T n lo hi a = .inr (V, b) ∧ lo ≤ (V : Int) ∧ (V : Int) ≤ hi ∧ a < b ∧ b ≤ n) ∨ (∃ k q, nmb T n lo hi a = .inl (k, q) ∧ ¬ k = 0) := by
  have hA : a ≤ nmA T n a ∧ nmA T n a ≤ n ∧ ¬ (nmA T n a < n ∧ isSp (T (nmA T n a)) = true) := sc_b ha
  have hE : nmA T n a ≤ nmE T n a ∧ nmE T n a ≤ n ∧ ¬ (nmE T n a < n ∧ isDg (T (nmE T n a)) = true) := sc_b hA.2.1
  unfold nmb
  by_cases c : nmE T n a = nmA T n a
  · rw [if_pos c]; exact Or.inr ⟨_, _, rfl, by decide⟩
  · rw [if_neg c]
    by_cases d : lo ≤ (dv T (nmA T n a) (nmE T n a - nmA T n a) : Int) ∧ (dv T (nmA T n a) (nmE T n a - nmA T n a) : Int) ≤ hi
    · rw [if_pos d]; exact Or.inl ⟨_, _, rfl, d.1, d.2, by omega, hE.2.1⟩
    · rw [if_neg d]; exact Or.inr ⟨_, _, rfl, by decide⟩
theorem nmb_sk {T : Row} {n a : Nat} {lo hi : Int} (ha : a ≤ n) : nmb T n lo hi (nmA T n a) = nmb T n lo hi a := by
  have e : nmA T n (nmA T n a) = nmA T n a := sc_sc ha
  unfold nmb nmE
  rw [e]
theorem stp1_sk {T : Row} {n a : Nat} {r : Row} {k : Nat} (ha : a ≤ n) : stp1 T n (nmA T n a) r k = stp1 T n a r k := by
  have e : nmA T n (nmA T n a) = nmA T n a := sc_sc ha
  unfold stp1
  rw [nmb_sk ha, e]
theorem isW_ne {T : Row} {a b w w' : Nat} (h : isW T a b w) (hw : w < 8) (hw' : w' < 8) (hne : w ≠ w') : ¬ isW T a b w' := by
  intro h'
  have key : ∀ w, w < 8 → ∀ w', w' < 8 → w ≠ w' → ¬ (sLen w = sLen w' ∧ ∀ k, k < sLen w → sCh w k = sCh w' k) := by decide
  refine key w hw w' hw' hne ⟨h.1.symm.trans h'.1, fun k hk => ?_⟩
  rw [← h.2 k hk]
  exact h'.2 k (by have := h.1.symm.trans h'.1; omega)
section BG
variable {R : Row} {c d : Nat}
theorem bg_s {q w : Nat} (hq : q < 6) (hw : w < 7) : rS (bgU R c d) q w = if w = 0 ∨ w = 1 then -1 else 0 := by
  show bgU R c d (11 + 7 * q + w) = _
  unfold bgU
  rw [if_pos (by omega), if_neg (by omega), if_neg (by omega), if_neg (by omega), if_neg (by omega)]
  by_cases h : w = 0 ∨ w = 1
  · rw [if_pos h, if_pos (by omega)]
  · rw [if_neg h, if_neg (by omega)]
theorem bg_z {j : Nat} (h : j = 0 ∨ j = 3 ∨ j = 4 ∨ j = 8 ∨ j = 9 ∨ j = 10 ∨ (53 ≤ j ∧ j < 467)) : bgU R c d j = 0 := by
  unfold bgU
  rw [if_pos (by omega), if_neg (by omega), if_neg (by omega), if_neg (by omega), if_neg (by omega), if_neg (by omega)]
theorem bg_1 : bgU R c d 1 = nI c := by unfold bgU; rw [if_pos (by omega), if_pos rfl]
theorem bg_2 : bgU R c d 2 = nI d := by unfold bgU; rw [if_pos (by omega), if_neg (by omega), if_pos rfl]
theorem bg_56 {j : Nat} (h : j = 5 ∨ j = 6) : bgU R c d j = 20 := by unfold bgU; rw [if_pos (by omega), if_neg (by omega), if_neg (by omega), if_pos h]
theorem bg_7 : bgU R c d 7 = 100 := by unfold bgU; rw [if_pos (by omega), if_neg (by omega), if_neg (by omega), if_neg (by omega), if_pos rfl]
theorem bg_om : OM (bgU R c d) = 0 := by unfold OM; rw [bg_z (by omega)]; rfl
theorem bg_pm : PM (bgU R c d) = 0 := by unfold PM; rw [bg_z (by omega)]; rfl
theorem bg_fr : frs (bgU R c d) := fun p _ hp => bg_z (by omega)
theorem bg_RI (hc : 1 ≤ c) (hc6 : c ≤ 6) (hd : d < c) : RI (bgU R c d) := by
  have z0 : ∀ a b : Int, a ≤ 0 → 0 ≤ b → inR 0 a b := fun a b x y => ⟨x, y⟩
  have hsc : SC (bgU R c d) = c := by unfold SC; rw [bg_1, nn_nI (by omega)]
  have hdr : DR (bgU R c d) = d := by unfold DR; rw [bg_2, nn_nI (by omega)]
  unfold RI RIg
  rw [bg_om, bg_pm, hsc, hdr, bg_1, bg_2, bg_7, bg_56 (Or.inl rfl), bg_56 (Or.inr rfl), bg_z (j := 0) (by omega), bg_z (j := 3) (by omega), bg_z (j := 4) (by omega), bg_z (j := 8) (by omega), bg_z (j := 9) (by omega)]
  refine ⟨z0 _ _ (by omega) (by omega), ⟨?_, ?_⟩, ⟨⟨?_, ?_⟩, hd⟩, z0 _ _ (by omega) (by omega), z0 _ _ (by omega) (by omega), by decide, by decide, by decide, z0 _ _ (by omega) (by omega), z0 _ _ (by omega) (by omega), fun p hp => absurd hp (Nat.not_lt_zero p), fun p hp => absurd hp (Nat.not_lt_zero p), fun q hq => ?_⟩
  · rw [nI_toInt (by omega)]; omega
  · rw [nI_toInt (by omega)]; omega
  · rw [nI_toInt (by omega)]; omega
  · rw [nI_toInt (by omega)]; omega
  · unfold SI
    rw [bg_s (w := 2) (by omega) (by omega), bg_s (w := 5) (by omega) (by omega), bg_s (w := 0) (by omega) (by omega)]
    exact ⟨z0 _ _ (by omega) (by omega), z0 _ _ (by omega) (by omega), Or.inl rfl⟩
end BG

section STP
variable {r : Row} {k q t : Nat}
theorem stU_n {j : Nat} (h : j < 53 + 13 * PM r ∨ 53 + 13 * PM r + 13 ≤ j) (hk : k < 6) : stU r k q t j = r j := by
  unfold stU
  rw [upd_ne' (by omega), upd_ne' (by omega), upd_ne' (by omega)]
theorem stU_pm : PM (stU r k q t) = PM r ↔ True := by
  refine ⟨fun _ => trivial, fun _ => ?_⟩
  unfold PM stU
  rw [upd_ne' (by omega), upd_ne' (by omega), upd_ne' (by omega)]
theorem stU_c : rPn (stU r k q t) (PM r) = nI (k + 1) := upd_eq'
theorem stU_s : rPs (stU r k q t) (PM r) k = nI q := by
  show stU r k q t (54 + 13 * PM r + 2 * k) = _
  unfold stU
  rw [upd_ne' (by omega), upd_ne' (by omega), upd_eq']
theorem stU_t : rPt (stU r k q t) (PM r) k = nI t := by
  show stU r k q t (55 + 13 * PM r + 2 * k) = _
  unfold stU
  rw [upd_ne' (by omega), upd_eq']
theorem stU_so {j : Nat} (h : j < k) : rPs (stU r k q t) (PM r) j = rPs r (PM r) j ∧ rPt (stU r k q t) (PM r) j = rPt r (PM r) j := by
  constructor
  · show stU r k q t (54 + 13 * PM r + 2 * j) = _
    unfold stU
    rw [upd_ne' (by omega), upd_ne' (by omega), upd_ne' (by omega)]
  · show stU r k q t (55 + 13 * PM r + 2 * j) = _
    unfold stU
    rw [upd_ne' (by omega), upd_ne' (by omega), upd_ne' (by omega)]
/-- the product that is read: k steps so far -/
def pgI (r : Row) (k : Nat) : Prop := rPn r (PM r) = nI k ∧ (∀ j, j < k → inR (rPs r (PM r) j) 0 5 ∧ nn (rPs r (PM r) j) < SC r ∧ inR (rPt r (PM r) j) 1 20) ∧ (∀ i j, i < k → j < k → rPs r (PM r) i = r 2 → rPs r (PM r) j = r 2 → i = j)
theorem hsD_iff {p : Nat} : ∀ k, hsD r p k = true ↔ ∃ j, j < k ∧ rPs r p j = r 2 := by
  intro k
  induction k with
  | zero => exact ⟨fun h => (nomatch h), fun ⟨j, h, _⟩ => absurd h (Nat.not_lt_zero j)⟩
  | succ k ih =>
    rw [hsD, Bool.or_eq_true, ih, decide_eq_true_eq]
    constructor
    · rintro (⟨j, h1, h2⟩ | h)
      · exact ⟨j, by omega, h2⟩
      · exact ⟨k, by omega, h⟩
    · rintro ⟨j, h1, h2⟩
      by_cases e : j = k
      · subst e; exact Or.inr h2
      · exact Or.inl ⟨j, by omega, h2⟩
theorem pgI.step (h : pgI r k) (hr : RI r) (hp : PM r < 6) (hk : k < 6) (hq : q < SC r) (ht : 1 ≤ t ∧ t ≤ 20) (hd : ¬ (nI q = r 2 ∧ hsD r (PM r) k = true)) : pgI (stU r k q t) (k + 1) := by
  have hsc := hr.sc
  have epm := stU_pm (r := r) (k := k) (q := q) (t := t) |>.mpr trivial
  have e2 : stU r k q t 2 = r 2 := stU_n (by omega) hk
  have esc : SC (stU r k q t) = SC r := by unfold SC; rw [stU_n (by omega) hk]
  unfold pgI
  rw [epm, e2, esc]
  refine ⟨stU_c, fun j hj => ?_, fun i j hi hj ei ej => ?_⟩
  · by_cases e : j = k
    · subst e
      rw [stU_s, stU_t, nn_nI (by omega)]
      exact ⟨inR_n (by omega) (by omega) (by omega), hq, inR_n (by omega) (by omega) (by omega)⟩
    · rw [(stU_so (by omega)).1, (stU_so (by omega)).2]
      exact h.2.1 j (by omega)
  · by_cases c1 : i = k <;> by_cases c2 : j = k
    · omega
    · subst c1
      rw [stU_s] at ei
      rw [(stU_so (by omega)).1] at ej
      exact absurd ⟨ei, (hsD_iff _).mpr ⟨j, by omega, ej⟩⟩ hd
    · subst c2
      rw [stU_s] at ej
      rw [(stU_so (by omega)).1] at ei
      exact absurd ⟨ej, (hsD_iff _).mpr ⟨i, by omega, ei⟩⟩ hd
    · rw [(stU_so (by omega)).1] at ei ej
      exact h.2.2 i j (by omega) (by omega) ei ej
theorem stU_RI (hr : RI r) (hp : PM r < 6) (hk : k < 6) : RI (stU r k q t) := by
  have hsc := hr.sc
  have hom := hr.om
  have epm := stU_pm (r := r) (k := k) (q := q) (t := t) |>.mpr trivial
  have eom : OM (stU r k q t) = OM r := by unfold OM; rw [stU_n (by omega) hk]
  have hs : sam1 r (stU r k q t) := ⟨stU_n (by omega) hk, stU_n (by omega) hk, fun n a b => stU_n (by omega) hk⟩
  obtain ⟨a0, a1, a2, a3, a4, a5, a6, a7, a8, a9, -⟩ := id hr
  refine hr.of1 hs (inR.eq (stU_n (by omega) hk) a0) (inR.eq (stU_n (by omega) hk) a3) (inR.eq (stU_n (by omega) hk) a4) (inR.eq (stU_n (by omega) hk) a5) (inR.eq (stU_n (by omega) hk) a6) (inR.eq (stU_n (by omega) hk) a7) (inR.eq (stU_n (by omega) hk) a8) (inR.eq (stU_n (by omega) hk) a9) (fun p hp hp2 => by omega) (fun i hi => ?_) (fun x hx => ?_)
  · exact hr.oS (by omega) hs (by omega) (fun w hw => stU_n (by omega) hk) (fun x hx => stU_n (by omega) hk)
  · have h2 := hr.sta hx
    exact h2.same1 hr hs (by omega) (stU_n (by omega) hk) (inR.eq (stU_n (by omega) hk) h2.1) (inR.eq (stU_n (by omega) hk) h2.2.1) (fun hne w hw => stU_n (by omega) hk)
theorem dSf_at {p : Nat} : ∀ f k, (∃ j, k ≤ j ∧ j < k + f ∧ rPs r p j = r 2 ∧ (∀ i, k ≤ i → i < j → ¬ rPs r p i = r 2) ∧ dSf r p f k = j) ∨ (∀ i, k ≤ i → i < k + f → ¬ rPs r p i = r 2) := by
  intro f
  induction f with
  | zero => intro k; right; intro i h1 h2; omega
  | succ f ih =>
    intro k
    rw [dSf]
    by_cases c : rPs r p k = r 2
    · rw [if_pos c]
      exact Or.inl ⟨k, by omega, by omega, c, fun i h1 h2 => by omega, rfl⟩
    · rw [if_neg c]
      rcases ih (k + 1) with ⟨j, a1, a2, a3, a4, a5⟩ | h
      · refine Or.inl ⟨j, by omega, by omega, a3, fun i h1 h2 => ?_, a5⟩
        by_cases e : i = k
        · rw [e]; exact c
        · exact a4 i (by omega) h2
      · right
        intro i h1 h2
        by_cases e : i = k
        · rw [e]; exact c
        · exact h i (by omega) (by omega)
theorem dS_pg (h : pgI r k) (hk : k ≤ 6) {j : Nat} (hj : j < k) (e : rPs r (PM r) j = r 2) : dS r (PM r) = j := by
  unfold dS
  rcases dSf_at (r := r) (p := PM r) 6 0 with ⟨i, a1, a2, a3, a4, a5⟩ | z
  · rw [a5]
    by_cases c : i < k
    · exact h.2.2 i j c hj a3 e
    · exact absurd e (a4 j (by omega) (by omega))
  · exact absurd e (z j (by omega) (by omega))
/-- the product is whole -/
theorem prd_RI (hr : RI r) (hp : PM r < 6) (hk1 : 1 ≤ k) (hk : k ≤ 6) (h : pgI r k) (hd : hsD r (PM r) k = true) : RI (upd r 3 (nI (PM r + 1))) ∧ PI (upd r 3 (nI (PM r + 1))) (PM r) ∧ dS (upd r 3 (nI (PM r + 1))) (PM r) = dS r (PM r) := by
  have hsc := hr.sc
  have hom := hr.om
  have e : ∀ n, n ≠ 3 → upd r 3 (nI (PM r + 1)) n = r n := fun n hn => upd_ne' hn
  have epm : PM (upd r 3 (nI (PM r + 1))) = PM r + 1 := by
    show nn (upd r 3 (nI (PM r + 1)) 3) = _
    rw [upd_eq', nn_nI (by omega)]
  have eom : OM (upd r 3 (nI (PM r + 1))) = OM r := by unfold OM; rw [e _ (by omega)]
  have esc : SC (upd r 3 (nI (PM r + 1))) = SC r := by unfold SC; rw [e _ (by omega)]
  have eds : dS (upd r 3 (nI (PM r + 1))) (PM r) = dS r (PM r) := by
    unfold dS
    have key : ∀ f k, dSf (upd r 3 (nI (PM r + 1))) (PM r) f k = dSf r (PM r) f k := by
      intro f
      induction f with
      | zero => intro k; rfl
      | succ f ih => intro k; rw [dSf, dSf, ih, e 2 (by omega), show rPs (upd r 3 (nI (PM r + 1))) (PM r) k = rPs r (PM r) k from e _ (by omega)]
    exact key 6 0
  have hPI : PI (upd r 3 (nI (PM r + 1))) (PM r) := by
    obtain ⟨j, hj, ej⟩ := (hsD_iff k).mp hd
    have hdj := dS_pg h hk hj ej
    have hn : sN r (PM r) = k := by unfold sN; rw [h.1, nn_nI (by omega)]
    have hn' : sN (upd r 3 (nI (PM r + 1))) (PM r) = k := by unfold sN; rw [show rPn (upd r 3 (nI (PM r + 1))) (PM r) = rPn r (PM r) from e _ (by omega)]; exact hn
    unfold PI
    rw [hn', eds, hdj, esc, e 2 (by omega), show rPn (upd r 3 (nI (PM r + 1))) (PM r) = rPn r (PM r) from e _ (by omega), h.1]
    refine ⟨inR_n (by omega) (by omega) (by omega), fun i hi => ?_, hj, ?_, fun i hi ei => ?_⟩
    · rw [show rPs (upd r 3 (nI (PM r + 1))) (PM r) i = rPs r (PM r) i from e _ (by omega), show rPt (upd r 3 (nI (PM r + 1))) (PM r) i = rPt r (PM r) i from e _ (by omega)]
      exact h.2.1 i hi
    · rw [show rPs (upd r 3 (nI (PM r + 1))) (PM r) j = rPs r (PM r) j from e _ (by omega)]; exact ej
    · rw [show rPs (upd r 3 (nI (PM r + 1))) (PM r) i = rPs r (PM r) i from e _ (by omega)] at ei
      exact h.2.2 i j hi hj ei ej
  refine ⟨?_, hPI, eds⟩
  have hs : sam1 r (upd r 3 (nI (PM r + 1))) := ⟨e _ (by omega), e _ (by omega), fun n a b => e _ (by omega)⟩
  obtain ⟨a0, a1, a2, a3, a4, a5, a6, a7, a8, a9, -⟩ := id hr
  refine hr.of1 hs (inR.eq (e _ (by omega)) a0) (inR.eq upd_eq' (inR_n (by omega) (by omega) (by omega))) (inR.eq (e _ (by omega)) a4) (inR.eq (e _ (by omega)) a5) (inR.eq (e _ (by omega)) a6) (inR.eq (e _ (by omega)) a7) (inR.eq (e _ (by omega)) a8) (inR.eq (e _ (by omega)) a9) (fun p hp1 hp2 => ?_) (fun i hi => ?_) (fun x hx => ?_)
  · have : p = PM r := by omega
    rw [this]; exact hPI
  · exact hr.oS (by omega) hs (by omega) (fun w hw => e _ (by omega)) (fun x hx => e _ (by omega))
  · have h2 := hr.sta hx
    exact h2.same1 hr hs (by omega) (e _ (by omega)) (inR.eq (e _ (by omega)) h2.1) (inR.eq (e _ (by omega)) h2.2.1) (fun hne w hw => e _ (by omega))
end STP
