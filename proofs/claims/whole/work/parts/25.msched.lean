/-! ===== the reference's laysSchedule ===== -/
theorem v63 (n : Nat) (h : n < 24) : vp_in (nI n) (iN 8 63) := vin h (by show 24 < _; omega)
theorem v64 (n : Nat) (h : n < 24) : vp_in (nI n) (iN 8 64) := vin h (by show 24 < _; omega)
theorem v65 (n : Nat) (h : n < 24) : vp_in (nI n) (iN 8 65) := vin h (by show 24 < _; omega)
/-- the inner loop: an order goes to its place -/
theorem e_lay1 {σ : iM} {r : Row} (h58 : σ 8 58 = r) {i : Nat} (hi : i < 24) {b c : Row} {n : Int32} {d3 : Option iV} {res : iRes → Prop} : ∀ (t u : List Nat) (a : Row), sh a t 0 → sh a u (t.length + 1) → t.length + u.length < 24 → (∀ x ∈ t, x < 24) →
    (∀ a', sh a' (u ++ insR (fun i => rO r i 2) t i) 0 → ∀ d2, AtP mX7_laysSchedule 96 [some M, some (.inl (nI i)), d2, d3] [] (mS σ a' b c (n + 1)) res) →
    AtP mX7_laysSchedule 33 [some M, some (.inl (nI i)), some (.inl (nI t.length)), d3] [] (mS σ a b c n) res := by
  intro t
  induction t with
  | nil =>
    intro u a h1 h2 h3 h4 k
    refine AtP.Bt rfl ((by decide : nI 0 ≤ 0)) ?_
    refine AtP.N rfl (by exact v63 0 (by omega)) ?_
    rw [mS_ua]
    refine AtP.F 96 [some M, some (.inl (nI i)), some (.inl (nI 0)), d3] [] (iU (mS σ (upd a (nI 0).toNatClampNeg (nI i)) b c n) 7 0 19 (mS σ (upd a (nI 0).toNatClampNeg (nI i)) b c n 7 0 19 + 1)) rfl ?_
    rw [mS_un, mS_n, nI_clamp (by omega)]
    refine k _ ?_ _
    rw [insR, sh_app]
    refine ⟨?_, ?_⟩
    · rw [sh_upd _ _ _ _ _ (by left; simp)]
      exact h2
    · exact ⟨upd_eq', trivial⟩
  | cons x t ih =>
    intro u a h1 h2 h3 h4 k
    rw [sh, Nat.zero_add] at h1
    rw [List.length_cons] at h2 h3
    have hx : x < 24 := h4 x List.mem_cons_self
    refine AtP.Bf rfl (by rw [List.length_cons]; intro q; rw [fa_le, nI_toInt (by omega)] at q; exact absurd q (by show ¬ ((t.length + 1 : Nat) : Int) ≤ 0; omega)) ?_
    rw [List.length_cons]
    refine AtP.N rfl (by rw [nI_pred]; exact v63 _ (by omega)) ?_
    rw [nI_pred, nI_clamp (by omega), mS_a, h1.1]
    refine AtP.Ci rfl (e_order x 2 hx (by omega) _) ?_
    refine AtP.Ci rfl (e_order i 2 hi (by omega) _) ?_
    rw [mS_58, h58]
    refine AtP.B rfl (fun hd => ?_) (fun hd => ?_)
    · refine AtP.N rfl (by exact v63 _ (by omega)) ?_
      rw [mS_ua]
      refine AtP.F 96 [some M, some (.inl (nI i)), some (.inl (nI (t.length + 1))), d3] [] (iU (mS σ (upd a (nI (t.length + 1)).toNatClampNeg (nI i)) b c n) 7 0 19 (mS σ (upd a (nI (t.length + 1)).toNatClampNeg (nI i)) b c n 7 0 19 + 1)) rfl ?_
      rw [mS_un, mS_n, nI_clamp (by omega)]
      refine k _ ?_ _
      rw [insR, if_neg (le_nlt hd), sh_app]
      refine ⟨?_, ?_⟩
      · rw [sh_upd _ _ _ _ _ (by left; simp)]
        simpa using h2
      · rw [sh]
        refine ⟨?_, ?_⟩
        · rw [Nat.zero_add, List.length_cons]; exact upd_eq'
        · rw [sh_upd _ _ _ _ _ (by right; simp), sh, Nat.zero_add]
          exact h1
    · refine AtP.N rfl (by rw [nI_pred]; exact v63 _ (by omega)) ?_
      rw [nI_pred, nI_clamp (by omega), mS_a, h1.1]
      refine AtP.N rfl (by exact v63 _ (by omega)) ?_
      rw [mS_ua, nI_clamp (by omega)]
      refine AtP.J rfl ?_
      rw [show nI (t.length + 1) + -1 = nI t.length from by rw [← nI_pred t.length, Int32.sub_eq_add_neg]]
      refine ih (u ++ [x]) _ ?_ ?_ (by rw [List.length_append]; simp; omega) (fun y hy => h4 y (List.mem_cons_of_mem _ hy)) (fun a' ha' => k a' ?_)
      · rw [sh_upd _ _ _ _ _ (by right; omega)]
        exact h1.2
      · rw [sh_app]
        refine ⟨?_, ?_⟩
        · rw [sh_upd _ _ _ _ _ (by left; simp)]
          simpa using h2
        · exact ⟨upd_eq', trivial⟩
      · rw [insR, if_pos (fa_of_nle hd)]
        simpa using ha'
/-- the outer loop: all orders -/
theorem e_lay2 {σ : iM} (hr : RI (σ 8 58)) {b c : Row} {res : iRes → Prop}
    (k : ∀ a', sh a' (schL (σ 8 58) (OM (σ 8 58))) 0 → ∀ d1 d2, AtP mX7_laysSchedule 102 [some M, d1, d2, none] [] (mS σ a' b c (nI (schL (σ 8 58) (OM (σ 8 58))).length)) res) :
    ∀ i, i ≤ OM (σ 8 58) → ∀ (a : Row) (d2 : Option iV), sh a (schL (σ 8 58) i) 0 → AtP mX7_laysSchedule 7 [some M, some (.inl (nI i)), d2, none] [] (mS σ a b c (nI (schL (σ 8 58) i).length)) res := by
  obtain ⟨om1, om2⟩ := hr.om
  refine down_ind (N := OM (σ 8 58)) (P := fun i => ∀ (a : Row) (d2 : Option iV), sh a (schL (σ 8 58) i) 0 → AtP mX7_laysSchedule 7 [some M, some (.inl (nI i)), d2, none] [] (mS σ a b c (nI (schL (σ 8 58) i).length)) res) ?_ ?_
  · intro a d2 ha
    refine AtP.N rfl (v58 4 (by omega)) ?_
    rw [mS_58, t4]
    refine AtP.Bt rfl (by rw [om1]; exact (nI_leI (by omega) (by omega)).mpr (Nat.le_refl _)) ?_
    exact k a ha _ _
  · intro i hi ih a d2 ha
    refine AtP.N rfl (v58 4 (by omega)) ?_
    rw [mS_58, t4]
    refine AtP.Bf rfl (by rw [om1]; exact fun h => absurd ((nI_leI (by omega) (by omega)).mp h) (by omega)) ?_
    have hr' : RI (mS σ a b c (nI (schL (σ 8 58) i).length) 8 58) := by rw [mS_58]; exact hr
    have hb := e_isBeforeDrum hr' (i := i) (by rw [mS_58]; exact hi)
    rw [mS_58] at hb
    refine AtP.Ci rfl (hb) ?_
    have hlen := schL_len (σ 8 58) i
    by_cases hbf : bef (σ 8 58) i
    · rw [if_pos hbf]
      refine AtP.Bf rfl (by decide) ?_
      refine AtP.F 33 [some M, some (.inl (nI i)), some (.inl (mS σ a b c (nI (schL (σ 8 58) i).length) 7 0 19)), none] [] _ rfl ?_
      rw [mS_n]
      refine e_lay1 (r := σ 8 58) rfl (by omega) (schL (σ 8 58) i) [] a ha trivial (by simp; omega) (fun x hx => by have := (schL_mem _ _ _).mp hx; omega) (fun a' ha' d2' => ?_)
      refine AtP.J rfl ?_
      rw [nI_1, nI_1]
      have h2 := ih a' d2'
      rw [schL, if_pos hbf, insR_len] at h2
      exact h2 (by simpa using ha')
    · rw [if_neg hbf]
      refine AtP.Bt rfl (rfl) ?_
      refine AtP.J rfl ?_
      refine AtP.J rfl ?_
      rw [nI_1]
      have h2 := ih a d2
      rw [schL, if_neg hbf] at h2
      exact h2 ha
/-- ends, reversed, from place m on -/
def e2 (r c : Row) : List (Nat × Int32) → Nat → Prop
  | [], _ => True
  | (x, s) :: t, m => c (m + t.length) = s + wk r x ∧ e2 r c t m
theorem e2_app (r c : Row) : ∀ (u v : List (Nat × Int32)) (m : Nat), e2 r c (u ++ v) m ↔ e2 r c u (m + v.length) ∧ e2 r c v m := by
  intro u
  induction u with
  | nil => intro v m; simp [e2]
  | cons x t ih =>
    intro v m
    obtain ⟨x, s⟩ := x
    rw [List.cons_append, e2, e2, ih, List.length_append, and_assoc]
    rw [show m + (t.length + v.length) = m + v.length + t.length by omega]
theorem e2_upd (r c : Row) (k : Nat) (y : Int32) : ∀ (u : List (Nat × Int32)) (m : Nat), (k < m ∨ m + u.length ≤ k) → (e2 r (upd c k y) u m ↔ e2 r c u m) := by
  intro u
  induction u with
  | nil => intro m _; simp [e2]
  | cons x t ih =>
    intro m h
    obtain ⟨x, s⟩ := x
    rw [List.length_cons] at h
    rw [e2, e2, ih m (by omega), upd_ne' (by omega)]
/-- the start of the one behind -/
def lastS (w : List (Nat × Int32)) (o : Option Int32) : Prop := (w = [] ∧ o = none) ∨ ∃ w0 x s, w = w0 ++ [(x, s)] ∧ o = some s
theorem e_lay3 {σ : iM} (hr : RI (σ 8 58)) {a : Row} {res : iRes → Prop} (N : Nat) (hN : N ≤ 24)
    (W : List (Nat × Int32)) (k : ∀ b' c', s2 b' W 0 → e2 (σ 8 58) c' W 0 → ∀ d1 d2 d3, AtP mX7_laysSchedule 191 [some M, d1, d2, d3] [] (mS σ a b' c' (nI N)) res) :
    ∀ (t : List Nat) (w : List (Nat × Int32)) (o : Option Int32) (b c : Row) (d2 d3 : Option iV), sh a t 0 → (∀ x ∈ t, x < OM (σ 8 58)) → t.length + w.length = N → s2 b w t.length → e2 (σ 8 58) c w t.length → lastS w o → w ++ bk (σ 8 58) o t = W → AtP mX7_laysSchedule 109 [some M, some (.inl (nI t.length - 1)), d2, d3] [] (mS σ a b c (nI N)) res := by
  obtain ⟨om1, om2⟩ := hr.om
  intro t
  induction t with
  | nil =>
    intro w o b c d2 d3 h1 h2 h3 h4 h5 h6 h7
    refine AtP.Bt rfl ((by decide : nI 0 - 1 < 0)) ?_
    rw [bk, List.append_nil] at h7
    subst h7
    exact k b c h4 h5 _ _ _
  | cons x t ih =>
    intro w o b c d2 d3 h1 h2 h3 h4 h5 h6 h7
    rw [sh, Nat.zero_add] at h1
    rw [List.length_cons] at h3 h4 h5 ⊢
    rw [nI_pred]
    have hxo : x < OM (σ 8 58) := h2 x List.mem_cons_self
    refine AtP.Bf rfl (by intro q; rw [fa_lt, nI_toInt (by omega)] at q; exact absurd q (by show ¬ ((t.length : Nat) : Int) < 0; omega)) ?_
    refine AtP.N rfl (by exact v63 _ (by omega)) ?_
    rw [nI_clamp (by omega), mS_a, h1.1]
    refine AtP.Ci rfl (e_order x 2 (by omega) (by omega) _) ?_
    refine AtP.N rfl (v58 6 (by omega)) ?_
    rw [mS_58, t6]
    have hr' : ∀ {b' c' : Row} {n' : Int32}, RI (mS σ a b' c' n' 8 58) := fun {b' c' n'} => by rw [mS_58]; exact hr
    have hwk : ∀ {b' c' : Row} {n' : Int32}, Ev mX7_workAtDrum [M, .inl (nI x)] (mS σ a b' c' n') (evi (wk (σ 8 58) x) (mS σ a b' c' n')) := fun {b' c' n'} => by
      have := e_workAtDrum (hr' (b' := b') (c' := c') (n' := n')) (i := x) (by rw [mS_58]; exact hxo)
      rw [mS_58] at this
      exact this
    have fin : ∀ (ee : Int32) (d2 d3 : Option iV), (w ++ (x, ee - wk (σ 8 58) x) :: bk (σ 8 58) (some (ee - wk (σ 8 58) x)) t = W) → AtP mX7_laysSchedule 109 [some M, some (.inl (nI t.length - 1)), d2, d3] [] (mS σ a (upd b t.length (ee - wk (σ 8 58) x)) (upd c t.length ee) (nI N)) res := by
      intro ee d2 d3 hW
      refine ih (w ++ [(x, ee - wk (σ 8 58) x)]) (some (ee - wk (σ 8 58) x)) _ _ d2 d3 h1.2 (fun y hy => h2 y (List.mem_cons_of_mem _ hy)) (by rw [List.length_append]; simp; omega) ?_ ?_ (Or.inr ⟨w, x, _, rfl, rfl⟩) (by rw [← hW]; simp)
      · rw [s2_app]
        refine ⟨?_, ?_⟩
        · rw [s2_upd _ _ _ _ _ (by left; simp)]; exact h4
        · exact ⟨upd_eq', trivial⟩
      · rw [e2_app]
        refine ⟨?_, ?_⟩
        · rw [e2_upd _ _ _ _ _ _ (by left; simp)]; exact h5
        · refine ⟨?_, trivial⟩
          rw [List.length_nil, Nat.add_zero, upd_eq', Int32.sub_add_cancel]
    rcases h6 with ⟨rfl, rfl⟩ | ⟨w0, y, s, rfl, rfl⟩
    · simp only [bk] at h7
      rw [List.length_nil, Nat.add_zero] at h3
      refine AtP.Bt rfl (by rw [mS_n, ← h3, nI_pred]) ?_
      refine AtP.J rfl ?_
      refine AtP.N rfl (by exact v65 _ (by omega)) ?_
      rw [mS_uc, nI_clamp (by omega)]
      refine AtP.N rfl (by exact v65 _ (by omega)) ?_
      rw [mS_c, nI_clamp (by omega), upd_eq']
      refine AtP.Ci rfl (hwk) ?_
      refine AtP.N rfl (by exact v64 _ (by omega)) ?_
      rw [mS_ub, nI_clamp (by omega)]
      refine AtP.J rfl ?_
      rw [show nI t.length + -1 = nI t.length - 1 from (Int32.sub_eq_add_neg _ _).symm]
      exact fin _ _ _ h7
    · simp only [bk] at h7
      rw [List.length_append, List.length_singleton] at h3
      refine AtP.Bf rfl (by rw [mS_n, show nI N - 1 = nI (N - 1) from by rw [← nI_pred (N - 1), show N - 1 + 1 = N by omega]]; exact fun q => absurd ((nI_eq (by omega) (by omega)).mp q) (by omega)) ?_
      refine AtP.N rfl (by rw [nI_1]; exact v64 _ (by omega)) ?_
      rw [nI_1, mS_b, nI_clamp (by omega)]
      rw [s2_app] at h4
      have hs : b (t.length + 1) = s := by have := h4.2; rw [s2] at this; simpa using this.1
      rw [hs]
      refine AtP.N rfl (by exact v65 _ (by omega)) ?_
      rw [mS_uc, nI_clamp (by omega)]
      refine AtP.N rfl (by exact v65 _ (by omega)) ?_
      rw [mS_c, nI_clamp (by omega), upd_eq']
      refine AtP.Ci rfl (hwk) ?_
      refine AtP.N rfl (by exact v64 _ (by omega)) ?_
      rw [mS_ub, nI_clamp (by omega)]
      refine AtP.J rfl ?_
      rw [show nI t.length + -1 = nI t.length - 1 from (Int32.sub_eq_add_neg _ _).symm]
      exact fin _ _ _ h7
/-- ends in their order, from place m on -/
def eF (r c : Row) : List (Nat × Int32) → Nat → Prop
  | [], _ => True
  | (x, s) :: t, m => c m = s + wk r x ∧ eF r c t (m + 1)
theorem eF_app (r c : Row) : ∀ (u v : List (Nat × Int32)) (m : Nat), eF r c (u ++ v) m ↔ eF r c u m ∧ eF r c v (m + u.length) := by
  intro u
  induction u with
  | nil => intro v m; simp [eF]
  | cons x t ih =>
    intro v m
    obtain ⟨x, s⟩ := x
    rw [List.cons_append, eF, eF, ih, List.length_cons, and_assoc]
    rw [show m + (t.length + 1) = m + 1 + t.length by omega]
theorem eF_rev (r c : Row) : ∀ (w : List (Nat × Int32)), e2 r c w 0 → eF r c w.reverse 0 := by
  intro w
  induction w with
  | nil => intro _; trivial
  | cons x t ih =>
    obtain ⟨x, s⟩ := x
    intro h2
    rw [e2] at h2
    rw [List.reverse_cons, eF_app]
    refine ⟨ih h2.2, ?_⟩
    rw [List.length_reverse, eF]
    exact ⟨h2.1, trivial⟩
theorem eF_upd (r c : Row) (k : Nat) (y : Int32) : ∀ (u : List (Nat × Int32)) (m : Nat), (k < m ∨ m + u.length ≤ k) → (eF r (upd c k y) u m ↔ eF r c u m) := by
  intro u
  induction u with
  | nil => intro m _; simp [eF]
  | cons x t ih =>
    intro m h
    obtain ⟨x, s⟩ := x
    rw [List.length_cons] at h
    rw [eF, eF, ih (m + 1) (by omega), upd_ne' (by omega)]
/-- the last loop: forward -/
theorem e_lay4 {σ : iM} (hr : RI (σ 8 58)) {a : Row} {res : iRes → Prop} (N : Nat) (hN : N ≤ 24)
    (W : List (Nat × Int32)) (k : ∀ b' c', rF a b' W 0 → eF (σ 8 58) c' W 0 → ∀ d1 d2 d3, AtP mX7_laysSchedule 254 [some M, d1, d2, d3] [] (mS σ a b' c' (nI N)) res) :
    ∀ (t v : List (Nat × Int32)) (e : Int32) (b c : Row) (d3 : Option iV), rF a b (v ++ t) 0 → eF (σ 8 58) c (v ++ t) 0 → (∀ x ∈ t, x.1 < OM (σ 8 58)) → v.length + t.length = N → v ++ fwF (σ 8 58) e t = W → AtP mX7_laysSchedule 198 [some M, some (.inl e), some (.inl (nI v.length)), d3] [] (mS σ a b c (nI N)) res := by
  obtain ⟨om1, om2⟩ := hr.om
  intro t
  induction t with
  | nil =>
    intro v e b c d3 h1 h2 h3 h4 h5
    rw [List.length_nil, Nat.add_zero] at h4
    refine AtP.Bt rfl (by rw [mS_n, h4]; exact (nI_leI (by omega) (by omega)).mpr (Nat.le_refl _)) ?_
    rw [fwF, List.append_nil] at h5
    rw [List.append_nil] at h1 h2
    subst h5
    exact k b c h1 h2 _ _ _
  | cons y t ih =>
    obtain ⟨x, s⟩ := y
    intro v e b c d3 h1 h2 h3 h4 h5
    rw [List.length_cons] at h4
    have hxo : x < OM (σ 8 58) := h3 (x, s) List.mem_cons_self
    refine AtP.Bf rfl (by rw [mS_n]; exact fun h => absurd ((nI_leI (by omega) (by omega)).mp h) (by omega)) ?_
    rw [rF_app, Nat.zero_add, rF] at h1
    rw [eF_app, Nat.zero_add, eF] at h2
    have hwk : ∀ {b' c' : Row} {n' : Int32}, Ev mX7_workAtDrum [M, .inl (nI x)] (mS σ a b' c' n') (evi (wk (σ 8 58) x) (mS σ a b' c' n')) := fun {b' c' n'} => by
      have := e_workAtDrum (σ := mS σ a b' c' n') (by rw [mS_58]; exact hr) (i := x) (by rw [mS_58]; exact hxo)
      rw [mS_58] at this
      exact this
    refine AtP.N rfl (by exact v64 _ (by omega)) ?_
    rw [mS_b, nI_clamp (by omega), h1.2.2.1]
    simp only [fwF] at h5
    refine AtP.B rfl (fun hs => ?_) (fun hs => ?_)
    · rw [if_neg (le_nlt hs)] at h5
      refine AtP.N rfl (by exact v65 _ (by omega)) ?_
      rw [mS_c, nI_clamp (by omega), h2.2.1]
      refine AtP.J rfl ?_
      rw [nI_1]
      have := ih (v ++ [(x, s)]) (s + wk (σ 8 58) x) b c d3 (by rw [List.append_assoc, rF_app, Nat.zero_add]; exact ⟨h1.1, by simpa [rF] using h1.2⟩) (by rw [List.append_assoc, eF_app, Nat.zero_add]; exact ⟨h2.1, by simpa [eF] using h2.2⟩) (fun z hz => h3 z (List.mem_cons_of_mem _ hz)) (by rw [List.length_append]; simp; omega) (by rw [← h5]; simp)
      rw [List.length_append] at this
      exact this
    · rw [if_pos (fa_of_nle hs)] at h5
      refine AtP.N rfl (by exact v64 _ (by omega)) ?_
      rw [mS_ub, nI_clamp (by omega)]
      refine AtP.N rfl (by exact v63 _ (by omega)) ?_
      rw [mS_a, nI_clamp (by omega), h1.2.1]
      refine AtP.Ci rfl (hwk) ?_
      refine AtP.N rfl (by exact v65 _ (by omega)) ?_
      rw [mS_uc, nI_clamp (by omega)]
      refine AtP.N rfl (by exact v65 _ (by omega)) ?_
      rw [mS_c, nI_clamp (by omega), upd_eq']
      refine AtP.J rfl ?_
      rw [nI_1]
      have := ih (v ++ [(x, e)]) (e + wk (σ 8 58) x) (upd b v.length e) (upd c v.length (e + wk (σ 8 58) x)) d3
        (by rw [List.append_assoc, rF_app, Nat.zero_add, rF_upd _ _ _ _ _ _ (by right; omega)]
            refine ⟨h1.1, ?_⟩
            rw [List.singleton_append, rF, rF_upd _ _ _ _ _ _ (by left; omega)]
            exact ⟨h1.2.1, upd_eq', h1.2.2.2⟩)
        (by rw [List.append_assoc, eF_app, Nat.zero_add, eF_upd _ _ _ _ _ _ (by right; omega)]
            refine ⟨h2.1, ?_⟩
            rw [List.singleton_append, eF, eF_upd _ _ _ _ _ _ (by left; omega)]
            exact ⟨upd_eq', h2.2.2⟩)
        (fun z hz => h3 z (List.mem_cons_of_mem _ hz)) (by rw [List.length_append]; simp; omega) (by rw [← h5]; simp)
      rw [List.length_append] at this
      exact this
/-- laysSchedule: the schedule stands in the scratch rows -/
theorem e_lays {σ : iM} (hr : RI (σ 8 58)) : EvP mX7_laysSchedule [M] σ (fun r => ∃ σ1, r = evv σ1 ∧ ∃ a b c, rF a b (schF (σ 8 58)) 0 ∧ eF (σ 8 58) c (schF (σ 8 58)) 0 ∧ σ1 = mS σ a b c (nI (schF (σ 8 58)).length)) := by
  obtain ⟨om1, om2⟩ := hr.om
  have hlen := schL_len (σ 8 58) (OM (σ 8 58))
  show AtP mX7_laysSchedule 0 [some M, none, none, none] [] σ _
  refine AtP.F 7 [some M, some (.inl (nI 0)), none, none] [] (iU σ 7 0 19 0) rfl ?_
  have hst : iU σ 7 0 19 0 = mS σ (σ 8 63) (σ 8 64) (σ 8 65) (nI (schL (σ 8 58) 0).length) := by
    conv => lhs; rw [← mS_self (σ := σ)]
    rw [mS_un]
    rfl
  rw [hst]
  refine e_lay2 hr (fun a ha d1 d2 => ?_) 0 (Nat.zero_le _) _ _ trivial
  refine AtP.F 109 [some M, some (.inl (mS σ a (σ 8 64) (σ 8 65) (nI (schL (σ 8 58) (OM (σ 8 58))).length) 7 0 19 - 1)), d2, none] [] _ rfl ?_
  rw [mS_n]
  refine e_lay3 hr _ (by omega) (bk (σ 8 58) none (schL (σ 8 58) (OM (σ 8 58)))) (fun b c hb hc d1 d2 d3 => ?_) (schL (σ 8 58) (OM (σ 8 58))) [] none _ _ _ _ ha (fun x hx => ((schL_mem _ _ _).mp hx).1) (by simp) trivial trivial (Or.inl ⟨rfl, rfl⟩) rfl
  have he := e_earliest (σ := mS σ a b c (nI (schL (σ 8 58) (OM (σ 8 58))).length)) (by rw [mS_58]; exact hr)
  rw [mS_58] at he
  refine AtP.Ci rfl (he) ?_
  refine AtP.F 198 [some M, some (.inl (earl (σ 8 58))), some (.inl (nI 0)), d3] [] _ rfl ?_
  have h1 := rF_rev a b (bk (σ 8 58) none (schL (σ 8 58) (OM (σ 8 58)))) (by rw [bk_fst]; exact ha) hb
  have h2 := eF_rev (σ 8 58) c (bk (σ 8 58) none (schL (σ 8 58) (OM (σ 8 58)))) hc
  refine e_lay4 hr (schL (σ 8 58) (OM (σ 8 58))).length (by omega) (schF (σ 8 58)) (fun b' c' hb' hc' d1 d2 d3 => ?_) (bk (σ 8 58) none (schL (σ 8 58) (OM (σ 8 58)))).reverse [] (earl (σ 8 58)) b c d3 h1 h2 ?_ ?_ rfl
  · refine AtP.R rfl ⟨_, rfl, a, b', c', hb', hc', ?_⟩
    rw [schF_len]
  · intro x hx
    have : x.1 ∈ (bk (σ 8 58) none (schL (σ 8 58) (OM (σ 8 58)))).map Prod.fst := List.mem_map.mpr ⟨x, List.mem_reverse.mp hx, rfl⟩
    rw [bk_fst, schL_mem] at this
    exact this.1
  · simp [bk_len]
