/-! ===== the class's schedule ===== -/
def mC (σ : iM) (s : Nat) (a b : Row) (n : Int32) : iM := fun k i j => if k = 8 ∧ i = 48 + 2 * s then a j else if k = 8 ∧ i = 49 + 2 * s then b j else if k = 3 ∧ i = s ∧ j = 2 then n else σ k i j
section MC
variable {σ : iM} {s : Nat} {a b : Row} {n x : Int32}
theorem mC_a : mC σ s a b n 8 (48 + 2 * s) = a := by funext j; simp [mC]
theorem mC_b : mC σ s a b n 8 (49 + 2 * s) = b := by
  funext j
  have hne : 49 + 2 * s ≠ 48 + 2 * s := by omega
  simp [mC, hne]
theorem mC_n : mC σ s a b n 3 s 2 = n := by simp [mC]
theorem mC_ua {k : Nat} : iU (mC σ s a b n) 8 (48 + 2 * s) k x = mC σ s (upd a k x) b n := by
  funext p q j; simp only [iU, mC, upd]
  by_cases h1 : p = 8 <;> by_cases h2 : q = 48 + 2 * s <;> by_cases h3 : j = k <;> simp [h1, h2, h3]
theorem mC_ub {k : Nat} : iU (mC σ s a b n) 8 (49 + 2 * s) k x = mC σ s a (upd b k x) n := by
  funext p q j; simp only [iU, mC, upd]
  have hne : 49 + 2 * s ≠ 48 + 2 * s := by omega
  by_cases h1 : p = 8 <;> by_cases h2 : q = 49 + 2 * s <;> by_cases h3 : j = k <;> simp [h1, h2, h3, hne]
theorem mC_un : iU (mC σ s a b n) 3 s 2 x = mC σ s a b x := by
  funext p q j; simp only [iU, mC]
  by_cases h1 : p = 3 <;> by_cases h2 : q = s <;> by_cases h3 : j = 2 <;> simp [h1, h2, h3]
theorem mC_self : mC σ s (σ 8 (48 + 2 * s)) (σ 8 (49 + 2 * s)) (σ 3 s 2) = σ := by
  funext p q j; simp only [mC]
  by_cases h1 : p = 8 ∧ q = 48 + 2 * s
  · obtain ⟨rfl, rfl⟩ := h1; simp
  · rw [if_neg h1]
    by_cases h2 : p = 8 ∧ q = 49 + 2 * s
    · obtain ⟨rfl, rfl⟩ := h2; simp
    · rw [if_neg h2]
      by_cases h4 : p = 3 ∧ q = s ∧ j = 2
      · obtain ⟨rfl, rfl, rfl⟩ := h4; simp
      · rw [if_neg h4]
theorem mC_o {k i j : Nat} (h : k ≠ 3) (h8 : k = 8 → i < 48 ∨ 55 < i) (hs : s < 4) : mC σ s a b n k i j = σ k i j := by
  simp only [mC]
  rw [if_neg (by rintro ⟨x, y⟩; have := h8 x; omega), if_neg (by rintro ⟨x, y⟩; have := h8 x; omega), if_neg (fun x => h x.1)]
/-- the scratch rows are no part of the shop -/
theorem Sh.C {r : Row} (h : Sh σ s r) (hs : s < 4) (hpm : PM r ≤ 6) : Sh (mC σ s a b n) s r := by
  obtain ⟨h1, h2, h3, h4⟩ := h
  have o4 : ∀ j, mC σ s a b n 4 s j = σ 4 s j := fun j => mC_o (by omega) (by omega) hs
  have o5 : ∀ i j, mC σ s a b n 5 i j = σ 5 i j := fun i j => mC_o (by omega) (by omega) hs
  have o1 : ∀ i j, mC σ s a b n 1 i j = σ 1 i j := fun i j => mC_o (by omega) (by omega) hs
  have o0 : ∀ i j, mC σ s a b n 0 i j = σ 0 i j := fun i j => mC_o (by omega) (by omega) hs
  refine ⟨?_, fun q hq => ?_, fun p hp => ?_, fun i hi => ?_⟩
  · unfold ShS at h1 ⊢
    simp only [o4]
    exact h1
  · have := h2 q hq
    unfold ShQ at this ⊢
    simp only [o5]
    exact this
  · have := h3 p hp
    unfold ShP at this ⊢
    simp only [o1]
    refine ⟨this.1, this.2.1, fun k hk => ?_⟩
    rw [mC_o (by omega) (by omega) hs, mC_o (by omega) (by omega) hs]
    exact this.2.2 k hk
  · have := h4 i hi
    unfold ShO at this ⊢
    simp only [o0]
    exact this
end MC
theorem col_iff {r : Row} (hr : RI r) {i : Nat} (hi : i < OM r) : (¬ rO r i 3 = 3 ∧ dbg r i = -1) ↔ bef r i := by
  have h10 := (hr.ord hi).2.2.2.2.2.2.1
  obtain ⟨a1, a2, a3, a4, a5⟩ := hr.op hi
  unfold dbg
  constructor
  · rintro ⟨x, y⟩
    by_cases hc : rO r i 3 = 0 ∨ rO r i 3 = 3 ∨ bef r i
    · rcases hc with q | q | q
      · have o0 := hr.i0 hi q
        refine ⟨Or.inl q, Or.inl ?_⟩
        rw [o0.1, fa_lt, nI_toInt (by have := a4.d; omega)]
        show (-1 : Int) < _
        omega
      · exact absurd q x
      · exact q
    · rw [if_neg hc] at y
      exact absurd y (m1_ne h10)
  · intro hb
    refine ⟨fun x => ?_, if_pos (Or.inr (Or.inr hb))⟩
    rcases hb.1 with q | q <;> rw [x] at q <;> exact absurd q (by decide)
section CS
variable {σ : iM} {s : Nat} {r : Row}
theorem vA (hs4 : s < 4) (n : Nat) (h : n < 24) : vp_in (nI n) (iN 8 (48 + 2 * s)) := by rw [(iN_s s hs4).1]; exact vin h (by omega)
theorem vB (hs4 : s < 4) (n : Nat) (h : n < 24) : vp_in (nI n) (iN 8 (49 + 2 * s)) := by rw [(iN_s s hs4).2]; exact vin h (by omega)
theorem c_col1 (hs4 : s < 4) {i : Nat} {b : Row} {n : Int32} {res : iRes → Prop} (hdue : ∀ x, x < 24 → ∀ a n, mC σ s a b n 0 (24 * s + x) 2 = mC σ s (σ 8 (48 + 2 * s)) b 0 0 (24 * s + x) 2) (d : Nat → Int32) (hd : ∀ x, x < OM r → σ 0 (24 * s + x) 2 = d x) (hiO : i < OM r) (hom : OM r ≤ 24) :
    ∀ (t u : List Nat) (a : Row), sh a t 0 → sh a u (t.length + 1) → t.length + u.length < 24 → (∀ x ∈ t, x < OM r) →
    (∀ a', sh a' (u ++ insR d t i) 0 → ∀ d4, AtP mX3_collectByDue 113 [some (.inr (3, s)), some (.inr (4, s)), some (.inl (nI i)), some (.inr (0, 24 * s + i)), d4] [] (mC σ s a' b (n + 1)) res) →
    AtP mX3_collectByDue 44 [some (.inr (3, s)), some (.inr (4, s)), some (.inl (nI i)), some (.inr (0, 24 * s + i)), some (.inl (nI t.length))] [] (mC σ s a b n) res := by
  intro t
  induction t with
  | nil =>
    intro u a h1 h2 h3 h4 k
    refine AtP.Bt rfl ((by decide : nI 0 ≤ 0)) ?_
    refine AtP.N rfl (by exact vA hs4 0 (by omega)) ?_
    rw [mC_ua]
    refine AtP.F 113 [some (.inr (3, s)), some (.inr (4, s)), some (.inl (nI i)), some (.inr (0, 24 * s + i)), some (.inl (nI 0))] [] (iU (mC σ s (upd a (nI 0).toNatClampNeg (nI i)) b n) 3 s 2 (mC σ s (upd a (nI 0).toNatClampNeg (nI i)) b n 3 s 2 + 1)) rfl ?_
    rw [mC_un, mC_n, nI_clamp (by omega)]
    refine k _ ?_ _
    rw [insR, sh_app]
    refine ⟨?_, ?_⟩
    · rw [sh_upd _ _ _ _ _ (by left; simp)]
      exact h2
    · exact ⟨upd_eq', trivial⟩
  | cons x t ih =>
    intro u a h1 h2 h3 h4 k
    rw [sh, Nat.zero_add] at h1
    rw [List.length_cons] at h2 h3
    have hx : x < OM r := h4 x List.mem_cons_self
    have dx : ∀ a n, mC σ s a b n 0 (24 * s + x) 2 = d x := fun a n => (mC_o (by omega) (by omega) hs4).trans (hd x hx)
    have di : ∀ a n, mC σ s a b n 0 (24 * s + i) 2 = d i := fun a n => (mC_o (by omega) (by omega) hs4).trans (hd i hiO)
    refine AtP.Bf rfl (by rw [List.length_cons]; intro q; rw [fa_le, nI_toInt (by omega)] at q; exact absurd q (by show ¬ ((t.length + 1 : Nat) : Int) ≤ 0; omega)) ?_
    rw [List.length_cons]
    refine AtP.N rfl (by rw [nI_pred]; exact vA hs4 _ (by omega)) ?_
    rw [nI_pred, nI_clamp (by omega), mC_a, h1.1]
    refine AtP.N rfl (v12 s x (by omega)) ?_
    rw [nI_clamp (by omega)]
    refine AtP.B rfl (fun hdd => ?_) (fun hdd => ?_)
    · rw [dx, di] at hdd
      refine AtP.N rfl (by exact vA hs4 _ (by omega)) ?_
      rw [mC_ua]
      refine AtP.F 113 [some (.inr (3, s)), some (.inr (4, s)), some (.inl (nI i)), some (.inr (0, 24 * s + i)), some (.inl (nI (t.length + 1)))] [] (iU (mC σ s (upd a (nI (t.length + 1)).toNatClampNeg (nI i)) b n) 3 s 2 (mC σ s (upd a (nI (t.length + 1)).toNatClampNeg (nI i)) b n 3 s 2 + 1)) rfl ?_
      rw [mC_un, mC_n, nI_clamp (by omega)]
      refine k _ ?_ _
      rw [insR, if_neg (le_nlt hdd), sh_app]
      refine ⟨?_, ?_⟩
      · rw [sh_upd _ _ _ _ _ (by left; simp)]
        simpa using h2
      · rw [sh]
        refine ⟨?_, ?_⟩
        · rw [Nat.zero_add, List.length_cons]; exact upd_eq'
        · rw [sh_upd _ _ _ _ _ (by right; simp), sh, Nat.zero_add]
          exact h1
    · rw [dx, di] at hdd
      refine AtP.N rfl (by rw [nI_pred]; exact vA hs4 _ (by omega)) ?_
      rw [nI_pred, nI_clamp (by omega), mC_a, h1.1]
      refine AtP.N rfl (by exact vA hs4 _ (by omega)) ?_
      rw [mC_ua, nI_clamp (by omega)]
      refine AtP.J rfl ?_
      rw [show nI (t.length + 1) + -1 = nI t.length from by rw [← nI_pred t.length, Int32.sub_eq_add_neg]]
      refine ih (u ++ [x]) _ ?_ ?_ (by rw [List.length_append]; simp; omega) (fun y hy => h4 y (List.mem_cons_of_mem _ hy)) (fun a' ha' => k a' ?_)
      · rw [sh_upd _ _ _ _ _ (by right; omega)]
        exact h1.2
      · rw [sh_app]
        refine ⟨?_, ?_⟩
        · rw [sh_upd _ _ _ _ _ (by left; simp)]
          simpa using h2
        · exact ⟨upd_eq', trivial⟩
      · rw [insR, if_pos (fa_of_nle hdd)]
        simpa using ha'
theorem c_collect (h : Sh σ s r) (hr : RI r) (hs4 : s < 4) : EvP mX3_collectByDue [.inr (3, s), .inr (4, s)] σ (fun z => ∃ σ1, z = evv σ1 ∧ ∃ a, sh a (schL r (OM r)) 0 ∧ σ1 = mC σ s a (σ 8 (49 + 2 * s)) (nI (schL r (OM r)).length)) := by
  obtain ⟨om1, om2⟩ := hr.om
  show AtP mX3_collectByDue 0 [some (.inr (3, s)), some (.inr (4, s)), none, none, none] [] σ _
  refine AtP.F 7 [some (.inr (3, s)), some (.inr (4, s)), some (.inl (nI 0)), none, none] [] (iU σ 3 s 2 0) rfl ?_
  have hst : iU σ 3 s 2 0 = mC σ s (σ 8 (48 + 2 * s)) (σ 8 (49 + 2 * s)) (nI (schL r 0).length) := by
    conv => lhs; rw [← mC_self (σ := σ) (s := s)]
    rw [mC_un]
    rfl
  rw [hst]
  have key : ∀ i, i ≤ OM r → ∀ (a : Row) (d3 d4 : Option iV), sh a (schL r i) 0 → AtP mX3_collectByDue 7 [some (.inr (3, s)), some (.inr (4, s)), some (.inl (nI i)), d3, d4] [] (mC σ s a (σ 8 (49 + 2 * s)) (nI (schL r i).length)) (fun z => ∃ σ1, z = evv σ1 ∧ ∃ a, sh a (schL r (OM r)) 0 ∧ σ1 = mC σ s a (σ 8 (49 + 2 * s)) (nI (schL r (OM r)).length)) := by
    refine down_ind (N := OM r) ?_ ?_
    · intro a d3 d4 ha
      refine AtP.Bt rfl (by rw [mC_o (by omega) (by omega) hs4, h.om hr]; exact (nI_leI (by omega) (by omega)).mpr (Nat.le_refl _)) ?_
      exact AtP.R rfl (⟨_, rfl, a, ha, rfl⟩)
    · intro i hi ih a d3 d4 ha
      have ho := h.2.2.2 i hi
      have hlen := schL_len r i
      have hci := col_iff hr hi
      refine AtP.Bf rfl (by rw [mC_o (by omega) (by omega) hs4, h.om hr]; exact fun x => absurd ((nI_leI (by omega) (by omega)).mp x) (by omega)) ?_
      refine AtP.N rfl (v12 s i (by omega)) ?_
      rw [nI_clamp (by omega)]
      have skip : ¬ bef r i → AtP mX3_collectByDue 113 [some (.inr (3, s)), some (.inr (4, s)), some (.inl (nI i)), some (.inr (0, 24 * s + i)), d4] [] (mC σ s a (σ 8 (49 + 2 * s)) (nI (schL r i).length)) (fun z => ∃ σ1, z = evv σ1 ∧ ∃ a, sh a (schL r (OM r)) 0 ∧ σ1 = mC σ s a (σ 8 (49 + 2 * s)) (nI (schL r (OM r)).length)) := by
        intro hb
        refine AtP.J rfl ?_
        rw [nI_1]
        have h2 := ih a (some (.inr (0, 24 * s + i))) d4
        rw [schL, if_neg hb] at h2
        exact h2 ha
      refine AtP.B rfl (fun h3 => ?_) (fun h3 => ?_)
      · rw [mC_o (by omega) (by omega) hs4, ho.2.2.2.2.2.1] at h3
        exact skip (fun hb => (hci.mpr hb).1 h3)
      · rw [mC_o (by omega) (by omega) hs4, ho.2.2.2.2.2.1] at h3
        refine AtP.B rfl (fun hd => ?_) (fun hd => ?_)
        · rw [mC_o (by omega) (by omega) hs4, ho.2.2.2.2.2.2.2.2.2.2.2.1] at hd
          have hb := hci.mp ⟨h3, hd⟩
          refine AtP.F 44 [some (.inr (3, s)), some (.inr (4, s)), some (.inl (nI i)), some (.inr (0, 24 * s + i)), some (.inl (mC σ s a (σ 8 (49 + 2 * s)) (nI (schL r i).length) 3 s 2))] [] _ rfl ?_
          rw [mC_n]
          refine c_col1 (r := r) hs4 (fun x hx a n => by rw [mC_o (by omega) (by omega) hs4, mC_o (by omega) (by omega) hs4]) (fun x => rO r x 2) (fun x hx => (h.2.2.2 x hx).2.2.1) hi om2 (schL r i) [] a ha trivial (by simp; omega) (fun x hx => by have := (schL_mem _ _ _).mp hx; omega) (fun a' ha' d4' => ?_)
          refine AtP.J rfl ?_
          rw [nI_1, nI_1]
          have h2 := ih a' (some (.inr (0, 24 * s + i))) d4'
          rw [schL, if_pos hb, insR_len] at h2
          exact h2 (by simpa using ha')
        · rw [mC_o (by omega) (by omega) hs4, ho.2.2.2.2.2.2.2.2.2.2.2.1] at hd
          exact skip (fun hb => hd (hci.mpr hb).2)
  exact key 0 (Nat.zero_le _) _ _ _ trivial
end CS
section CS2
variable {σ : iM} {s : Nat} {r : Row}
theorem c_back (h : Sh σ s r) (hr : RI r) (hs4 : s < 4) {a : Row} {res : iRes → Prop} (N : Nat) (hN : N ≤ 24)
    (W : List (Nat × Int32)) (k : ∀ b', s2 b' W 0 → ∀ d2 d3 d4, AtP mX3_planBackward 86 [some (.inr (3, s)), some (.inr (4, s)), d2, d3, d4] [] (mC σ s a b' (nI N)) res) :
    ∀ (t : List Nat) (w : List (Nat × Int32)) (o : Option Int32) (b : Row) (d3 d4 : Option iV), sh a t 0 → (∀ x ∈ t, x < OM r) → t.length + w.length = N → s2 b w t.length → lastS w o → w ++ bk r o t = W → AtP mX3_planBackward 7 [some (.inr (3, s)), some (.inr (4, s)), some (.inl (nI t.length - 1)), d3, d4] [] (mC σ s a b (nI N)) res := by
  obtain ⟨om1, om2⟩ := hr.om
  intro t
  induction t with
  | nil =>
    intro w o b d3 d4 h1 h2 h3 h4 h6 h7
    refine AtP.Bt rfl ((by decide : nI 0 - 1 < 0)) ?_
    rw [bk, List.append_nil] at h7
    subst h7
    exact k b h4 _ _ _
  | cons x t ih =>
    intro w o b d3 d4 h1 h2 h3 h4 h6 h7
    rw [sh, Nat.zero_add] at h1
    rw [List.length_cons] at h3 h4 ⊢
    rw [nI_pred]
    have hxo : x < OM r := h2 x List.mem_cons_self
    have ho := h.2.2.2 x hxo
    have ew : ∀ b', mC σ s a b' (nI N) 0 (24 * s + x) 3 = wk r x := fun b' => (mC_o (by omega) (by omega) hs4).trans ho.2.2.2.1
    have ed : ∀ b', mC σ s a b' (nI N) 0 (24 * s + x) 2 = rO r x 2 := fun b' => (mC_o (by omega) (by omega) hs4).trans ho.2.2.1
    have e9 : ∀ b', mC σ s a b' (nI N) 4 s 9 = r 6 := fun b' => (mC_o (by omega) (by omega) hs4).trans h.1.2.2.2.2.2.1
    refine AtP.Bf rfl (by intro q; rw [fa_lt, nI_toInt (by omega)] at q; exact absurd q (by show ¬ ((t.length : Nat) : Int) < 0; omega)) ?_
    refine AtP.N rfl (by exact vA hs4 _ (by omega)) ?_
    rw [nI_clamp (by omega), mC_a, h1.1]
    refine AtP.N rfl (v12 s x (by omega)) ?_
    rw [nI_clamp (by omega)]
    have fin : ∀ (ee : Int32) (d3 d4 : Option iV), (w ++ (x, ee - wk r x) :: bk r (some (ee - wk r x)) t = W) → AtP mX3_planBackward 7 [some (.inr (3, s)), some (.inr (4, s)), some (.inl (nI t.length - 1)), d3, d4] [] (mC σ s a (upd b t.length (ee - wk r x)) (nI N)) res := by
      intro ee d3 d4 hW
      refine ih (w ++ [(x, ee - wk r x)]) (some (ee - wk r x)) _ _ _ h1.2 (fun y hy => h2 y (List.mem_cons_of_mem _ hy)) (by rw [List.length_append]; simp; omega) ?_ (Or.inr ⟨w, x, _, rfl, rfl⟩) (by rw [← hW]; simp)
      rw [s2_app]
      refine ⟨?_, ?_⟩
      · rw [s2_upd _ _ _ _ _ (by left; simp)]; exact h4
      · exact ⟨upd_eq', trivial⟩
    rcases h6 with ⟨rfl, rfl⟩ | ⟨w0, y, z, rfl, rfl⟩
    · simp only [bk] at h7
      rw [List.length_nil, Nat.add_zero] at h3
      refine AtP.Bt rfl (by rw [mC_n, nI_1, ← h3]; exact (nI_leI (by omega) (by omega)).mpr (Nat.le_refl _)) ?_
      rw [ed, e9]
      refine AtP.N rfl (by exact vB hs4 _ (by omega)) ?_
      rw [mC_ub, nI_clamp (by omega), ew]
      refine AtP.J rfl ?_
      rw [show nI t.length + -1 = nI t.length - 1 from (Int32.sub_eq_add_neg _ _).symm]
      exact fin _ _ _ h7
    · simp only [bk] at h7
      rw [List.length_append, List.length_singleton] at h3
      refine AtP.Bf rfl (by rw [mC_n, nI_1]; exact fun q => absurd ((nI_leI (by omega) (by omega)).mp q) (by omega)) ?_
      refine AtP.N rfl (by rw [nI_1]; exact vB hs4 _ (by omega)) ?_
      rw [nI_1, mC_b, nI_clamp (by omega)]
      rw [s2_app] at h4
      have hz : b (t.length + 1) = z := by have := h4.2; rw [s2] at this; simpa using this.1
      rw [hz, ed, e9]
      refine AtP.B rfl (fun hc => ?_) (fun hc => ?_)
      · rw [show iMin (rO r x 2 - r 6) z = rO r x 2 - r 6 from if_neg (le_nlt hc)] at h7
        refine AtP.N rfl (by exact vB hs4 _ (by omega)) ?_
        rw [mC_ub, nI_clamp (by omega), ew]
        refine AtP.J rfl ?_
        rw [show nI t.length + -1 = nI t.length - 1 from (Int32.sub_eq_add_neg _ _).symm]
        exact fin _ _ _ h7
      · rw [show iMin (rO r x 2 - r 6) z = z from if_pos (fa_of_nle hc)] at h7
        refine AtP.N rfl (by rw [nI_1]; exact vB hs4 _ (by omega)) ?_
        rw [nI_1, mC_b, nI_clamp (by omega), hz]
        refine AtP.N rfl (by exact vB hs4 _ (by omega)) ?_
        rw [mC_ub, nI_clamp (by omega), ew]
        refine AtP.J rfl ?_
        rw [show nI t.length + -1 = nI t.length - 1 from (Int32.sub_eq_add_neg _ _).symm]
        exact fin _ _ _ h7
theorem c_forw (h : Sh σ s r) (hr : RI r) (hs4 : s < 4) {a : Row} {res : iRes → Prop} (N : Nat) (hN : N ≤ 24) {d2 : Option iV}
    (W : List (Nat × Int32)) (k : ∀ b', rF a b' W 0 → ∀ d3 d4, AtP mX3_planForward 63 [some (.inr (3, s)), some (.inr (4, s)), d2, d3, d4] [] (mC σ s a b' (nI N)) res) :
    ∀ (t v : List (Nat × Int32)) (e : Int32) (b : Row), rF a b (v ++ t) 0 → (∀ x ∈ t, x.1 < OM r) → v.length + t.length = N → v ++ fwF r e t = W → AtP mX3_planForward 5 [some (.inr (3, s)), some (.inr (4, s)), d2, some (.inl e), some (.inl (nI v.length))] [] (mC σ s a b (nI N)) res := by
  obtain ⟨om1, om2⟩ := hr.om
  intro t
  induction t with
  | nil =>
    intro v e b h1 h3 h4 h5
    rw [List.length_nil, Nat.add_zero] at h4
    refine AtP.Bt rfl (by rw [mC_n, h4]; exact (nI_leI (by omega) (by omega)).mpr (Nat.le_refl _)) ?_
    rw [fwF, List.append_nil] at h5
    rw [List.append_nil] at h1
    subst h5
    exact k b h1 _ _
  | cons y t ih =>
    obtain ⟨x, z⟩ := y
    intro v e b h1 h3 h4 h5
    rw [List.length_cons] at h4
    have hxo : x < OM r := h3 (x, z) List.mem_cons_self
    have ho := h.2.2.2 x hxo
    have ew : ∀ b', mC σ s a b' (nI N) 0 (24 * s + x) 3 = wk r x := fun b' => (mC_o (by omega) (by omega) hs4).trans ho.2.2.2.1
    refine AtP.Bf rfl (by rw [mC_n]; exact fun h => absurd ((nI_leI (by omega) (by omega)).mp h) (by omega)) ?_
    rw [rF_app, Nat.zero_add, rF] at h1
    refine AtP.N rfl (by exact vB hs4 _ (by omega)) ?_
    rw [mC_b, nI_clamp (by omega), h1.2.2.1]
    simp only [fwF] at h5
    have fin : ∀ (zz : Int32) (b' : Row), b' v.length = zz → rF a b' v 0 → rF a b' t (v.length + 1) → v ++ (x, zz) :: fwF r (zz + wk r x) t = W → AtP mX3_planForward 33 [some (.inr (3, s)), some (.inr (4, s)), d2, some (.inl e), some (.inl (nI v.length))] [] (mC σ s a b' (nI N)) res := by
      intro zz b' hz hb1 hb2 hW
      refine AtP.N rfl (by exact vB hs4 _ (by omega)) ?_
      rw [mC_b, nI_clamp (by omega), hz]
      refine AtP.N rfl (by exact vA hs4 _ (by omega)) ?_
      rw [mC_a, nI_clamp (by omega), h1.2.1]
      refine AtP.N rfl (v12 s x (by omega)) ?_
      rw [nI_clamp (by omega)]
      refine AtP.J rfl ?_
      rw [nI_1, ew]
      have := ih (v ++ [(x, zz)]) (zz + wk r x) b' (by rw [List.append_assoc, rF_app, Nat.zero_add]; exact ⟨hb1, h1.2.1, hz, hb2⟩) (fun z hz => h3 z (List.mem_cons_of_mem _ hz)) (by rw [List.length_append]; simp; omega) (by rw [← hW]; simp)
      rw [List.length_append] at this
      exact this
    refine AtP.B rfl (fun hs => ?_) (fun hs => ?_)
    · rw [if_neg (le_nlt hs)] at h5
      exact fin z b h1.2.2.1 h1.1 h1.2.2.2 h5
    · rw [if_pos (fa_of_nle hs)] at h5
      refine AtP.N rfl (by exact vB hs4 _ (by omega)) ?_
      rw [mC_ub, nI_clamp (by omega)]
      exact fin e _ upd_eq' (by rw [rF_upd _ _ _ _ _ _ (by right; omega)]; exact h1.1) (by rw [rF_upd _ _ _ _ _ _ (by left; omega)]; exact h1.2.2.2) h5
theorem c_make (h : Sh σ s r) (hr : RI r) (hs4 : s < 4) : EvP mX3_make [.inr (3, s), .inr (4, s)] σ (fun z => ∃ σ1, z = evv σ1 ∧ ∃ a b, rF a b (schF r) 0 ∧ σ1 = mC σ s a b (nI (schF r).length)) := by
  obtain ⟨om1, om2⟩ := hr.om
  have hlen := schL_len r (OM r)
  have hpm := hr.pm.2
  show AtP mX3_make 0 [some (.inr (3, s)), some (.inr (4, s))] [] σ _
  refine AtP.CvP rfl (c_collect h hr hs4) (fun σ9 h9 => ?_)
  obtain ⟨a, ha, rfl⟩ := h9
  have hB : EvP mX3_planBackward [.inr (3, s), .inr (4, s)] (mC σ s a (σ 8 (49 + 2 * s)) (nI (schL r (OM r)).length)) (fun z => ∃ σ1, z = evv σ1 ∧ ∃ b, s2 b (bk r none (schL r (OM r))) 0 ∧ σ1 = mC σ s a b (nI (schL r (OM r)).length)) := by
    show AtP mX3_planBackward 0 [some (.inr (3, s)), some (.inr (4, s)), none, none, none] [] _ _
    refine AtP.F 7 [some (.inr (3, s)), some (.inr (4, s)), some (.inl (mC σ s a (σ 8 (49 + 2 * s)) (nI (schL r (OM r)).length) 3 s 2 - 1)), none, none] [] _ rfl ?_
    rw [mC_n]
    refine c_back h hr hs4 _ (by omega) (bk r none (schL r (OM r))) (fun b hb d2 d3 d4 => ?_) (schL r (OM r)) [] none _ _ _ ha (fun x hx => ((schL_mem _ _ _).mp hx).1) (by simp) trivial (Or.inl ⟨rfl, rfl⟩) rfl
    exact AtP.R rfl (⟨_, rfl, b, hb, rfl⟩)
  refine AtP.CvP rfl (hB) (fun σ9 h9 => ?_)
  obtain ⟨b, hb, rfl⟩ := h9
  refine AtP.Ci rfl (c_drumFreeAt (h.C hs4 hpm) hr) ?_
  have h1 := rF_rev a b (bk r none (schL r (OM r))) (by rw [bk_fst]; exact ha) hb
  have hF : EvP mX3_planForward [.inr (3, s), .inr (4, s), .inl (earl r)] (mC σ s a b (nI (schL r (OM r)).length)) (fun z => ∃ σ1, z = evv σ1 ∧ ∃ b, rF a b (schF r) 0 ∧ σ1 = mC σ s a b (nI (schL r (OM r)).length)) := by
    show AtP mX3_planForward 0 [some (.inr (3, s)), some (.inr (4, s)), some (.inl (earl r)), none, none] [] _ _
    refine AtP.F 5 [some (.inr (3, s)), some (.inr (4, s)), some (.inl (earl r)), some (.inl (earl r)), some (.inl (nI 0))] [] _ rfl ?_
    refine c_forw h hr hs4 (schL r (OM r)).length (by omega) (schF r) (fun b' hb' d3 d4 => ?_) (bk r none (schL r (OM r))).reverse [] (earl r) b h1 ?_ ?_ rfl
    · exact AtP.R rfl (⟨_, rfl, b', hb', rfl⟩)
    · intro x hx
      have : x.1 ∈ (bk r none (schL r (OM r))).map Prod.fst := List.mem_map.mpr ⟨x, List.mem_reverse.mp hx, rfl⟩
      rw [bk_fst, schL_mem] at this
      exact this.1
    · simp [bk_len]
  refine AtP.CvP rfl (hF) (fun σ9 h9 => ?_)
  obtain ⟨b, hb, rfl⟩ := h9
  exact AtP.R rfl (⟨_, rfl, a, b, hb, by rw [schF_len]⟩)
end CS2
