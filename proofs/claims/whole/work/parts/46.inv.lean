/-! ===== class and reference side by side: what holds between two calls ===== -/
abbrev X : iV := .inr (6, 0)
/-- a saved row of the reference -/
def cpR (σ : iM) (c : Nat) : Row := fun j => σ 8 61 (467 * c + j)
def Rd (σ : iM) : Prop := inR (σ 2 0 1) 0 700 ∧ σ 7 0 7 = σ 2 0 1 ∧ (∀ i, i < nn (σ 2 0 1) → inR (σ 8 56 i) 0 255 ∧ σ 9 0 i = (σ 8 56 i).toInt8.toInt32) ∧ σ 7 0 13 = σ 2 0 2 ∧ σ 7 0 14 = σ 2 0 4
def Sv (σ : iM) (c : Nat) : Prop := σ 10 1 c = σ 10 0 c ∧ (σ 10 0 c = 0 ∨ (σ 10 0 c = 1 ∧ RI (cpR σ c) ∧ (cpR σ c 0).toInt ≤ 30000 ∧ Sh σ (2 + c) (cpR σ c)))
def INV (σ : iM) : Prop := RI (σ 8 58) ∧ (σ 8 58 0).toInt ≤ 30000 ∧ Sh σ 0 (σ 8 58) ∧ Rd σ ∧ Sv σ 0 ∧ Sv σ 1
/-- what a call may leave behind without meaning -/
def scr (σ σ1 : iM) : Prop := ∀ k i j, ¬ (ow2 1 k i ∨ k = 3 ∨ (k = 2 ∧ (j = 3 ∨ j = 5 ∨ j = 6)) ∨ (k = 7 ∧ j ≠ 7 ∧ j ≠ 13 ∧ j ≠ 14) ∨ (k = 8 ∧ ((48 ≤ i ∧ i ≤ 55) ∨ i = 57 ∨ i = 59 ∨ i = 60 ∨ 62 ≤ i))) → σ1 k i j = σ k i j
section SCR
variable {σ σ1 σ2 : iM}
theorem scr.rfl : scr σ σ := fun _ _ _ _ => Eq.refl _
theorem scr.trans (h1 : scr σ σ1) (h2 : scr σ1 σ2) : scr σ σ2 := fun k i j a => (h2 k i j a).trans (h1 k i j a)
theorem scr.U7 {j : Nat} {x : Int32} (hj : j ≠ 7 ∧ j ≠ 13 ∧ j ≠ 14) : scr σ (iU σ 7 0 j x) := fun k i j' a => iU_ne (by omega)
theorem scr.T {x : Int32} : scr σ (iU σ 7 0 5 x) := scr.U7 (by decide)
theorem scr.C {a b : Row} {n : Int32} : scr σ (mC σ 0 a b n) := fun k i j h => by
  unfold mC; rw [if_neg (by omega), if_neg (by omega), if_neg (by omega)]
theorem scr.S {a b c : Row} {n : Int32} : scr σ (mS σ a b c n) := fun k i j h => by
  unfold mS; rw [if_neg (by omega), if_neg (by omega), if_neg (by omega), if_neg (by omega)]
theorem cf2.scr (h : cf2 1 σ σ1) : scr σ σ1 := fun k i j a => h k i j (fun z => a (Or.inl z))
theorem scr.r (h : scr σ σ1) : σ1 8 58 = σ 8 58 := funext fun j => h _ _ _ (by unfold ow2 own; omega)
theorem scr.rd (h : scr σ σ1) (hr : Rd σ) : Rd σ1 := by
  have e1 : σ1 2 0 1 = σ 2 0 1 := h _ _ _ (by unfold ow2 own; omega)
  unfold Rd
  rw [e1, h 7 0 7 (by unfold ow2 own; omega), h 7 0 13 (by unfold ow2 own; omega), h 7 0 14 (by unfold ow2 own; omega), h 2 0 2 (by unfold ow2 own; omega), h 2 0 4 (by unfold ow2 own; omega)]
  refine ⟨hr.1, hr.2.1, fun i hi => ?_, hr.2.2.2⟩
  rw [h 8 56 i (by unfold ow2 own; omega), h 9 0 i (by unfold ow2 own; omega)]
  exact hr.2.2.1 i hi
theorem scr.sh {m : Nat → Prop} {s : Nat} {r : Row} (h : scr σ σ1) (hs : s < 4) (hne : s ≠ 1) (hr : RIg m r) (h1 : Sh σ s r) : Sh σ1 s r :=
  h1.cell hr (fun j => h _ _ _ (by unfold ow2 own; omega)) (fun q j hq => h _ _ _ (by unfold ow2 own; omega)) (fun q j hq => h _ _ _ (by unfold ow2 own; omega)) (fun q j hq => h _ _ _ (by unfold ow2 own; omega)) (fun q j hq => h _ _ _ (by unfold ow2 own; omega))
theorem scr.sv {c : Nat} (h : scr σ σ1) (hc : c < 2) (hr : Sv σ c) : Sv σ1 c := by
  have e : cpR σ1 c = cpR σ c := funext fun j => h _ _ _ (by unfold ow2 own; omega)
  unfold Sv
  rw [e, h 10 1 c (by unfold ow2 own; omega), h 10 0 c (by unfold ow2 own; omega)]
  exact ⟨hr.1, hr.2.imp id (fun q => ⟨q.1, q.2.1, q.2.2.1, h.sh (by omega) (by omega) q.2.1 q.2.2.2⟩)⟩
theorem INV.scr (h : INV σ) (hf : scr σ σ1) : INV σ1 := by
  unfold INV
  rw [hf.r]
  exact ⟨h.1, h.2.1, hf.sh (by omega) (by omega) h.1 h.2.2.1, hf.rd h.2.2.2.1, hf.sv (by omega) h.2.2.2.2.1, hf.sv (by omega) h.2.2.2.2.2⟩
end SCR
/-- what is claimed of a call: both answer, and answer the same; or the class throws, and the reference says so -/
def OKi (jc jm : Nat) (as : List iV) (c1 : Int32) (σ : iM) : Prop :=
  (∃ v σ1 σ2, Ev jc (X :: as) σ (evi v σ1) ∧ Ev jm (M :: as) σ1 (evi v σ2) ∧ σ2 7 0 5 = 0 ∧ INV σ2) ∨
  (∃ v σ1 σ2, ((Ev jc (X :: as) σ (.inr 0, σ1) ∧ σ2 7 0 5 = 1 ∧ (c1 = 0 ∨ c1 = 2)) ∨ (Ev jc (X :: as) σ (.inr 1, σ1) ∧ σ2 7 0 5 = c1 ∧ (c1 = 1 ∨ c1 = 2))) ∧ Ev jm (M :: as) σ1 (evi v σ2) ∧ INV σ2)
section OK
variable {jc jm : Nat} {as : List iV} {c1 : Int32} {σ : iM}
theorem OKi.mk {P : Int32 → iM → Prop} (hc : EvP jc (X :: as) σ (fun z => ∃ v σ1, z = evi v σ1 ∧ P v σ1)) (hm : ∀ v σ1, P v σ1 → EvP jm (M :: as) σ1 (fun z => ∃ σ2, z = evi v σ2 ∧ σ2 7 0 5 = 0 ∧ INV σ2)) : OKi jc jm as c1 σ := by
  obtain ⟨_, ⟨v, σ1, rfl, hP⟩, h1⟩ := hc
  obtain ⟨_, ⟨σ2, rfl, h3, h4⟩, h2⟩ := hm v σ1 hP
  exact Or.inl ⟨v, σ1, σ2, h1, h2, h3, h4⟩
/-- a call that only asks -/
theorem OKi.rd (v : Int32) (h : INV σ) (hc : EvP jc (X :: as) σ (fun z => ∃ σ1, z = evi v σ1 ∧ scr σ σ1)) (hm : ∀ τ, INV τ → τ 8 58 = σ 8 58 → EvP jm (M :: as) τ (fun z => ∃ σ2, z = evi v σ2 ∧ σ2 7 0 5 = 0 ∧ scr τ σ2)) : OKi jc jm as c1 σ := by
  obtain ⟨_, ⟨σ1, rfl, hP⟩, h1⟩ := hc
  obtain ⟨_, ⟨σ2, rfl, h3, h4⟩, h2⟩ := hm σ1 (h.scr hP) hP.r
  exact Or.inl ⟨v, σ1, σ2, h1, h2, h3, (h.scr hP).scr h4⟩
theorem OKi.t0 (h : INV σ) {v : Int32} (hc : Ev jc (X :: as) σ (.inr 0, σ)) (hm : Ev jm (M :: as) σ (evi v (iU σ 7 0 5 1))) (hk : c1 = 0 ∨ c1 = 2 := by decide) : OKi jc jm as c1 σ :=
  Or.inr ⟨v, σ, _, Or.inl ⟨hc, iU_same, hk⟩, hm, h.scr scr.T⟩
theorem OKi.t1 (h : INV σ) {v : Int32} (hc : Ev jc (X :: as) σ (.inr 1, σ)) {σ2 : iM} (hm : Ev jm (M :: as) σ (evi v σ2)) (h5 : σ2 7 0 5 = c1) (hs : scr σ σ2) (hk : c1 = 1 ∨ c1 = 2 := by decide) : OKi jc jm as c1 σ :=
  Or.inr ⟨v, σ, _, Or.inr ⟨hc, h5, hk⟩, hm, h.scr hs⟩
end OK
theorem ix_cases (n : Nat) (hn : n ≤ 24) (o : Int32) : (∃ i, i < n ∧ o = nI i) ∨ (o < 0 ∨ nI n ≤ o) := by
  by_cases h : 0 ≤ o.toInt ∧ o.toInt < n
  · left
    refine ⟨nn o, ?_, ?_⟩
    · have : nn o = o.toInt.toNat := Eq.refl _
      omega
    · exact (nn_of (x := o) (b := 24) ⟨h.1, by omega⟩ (by omega)).1
  · right
    rw [fa_lt, fa_le, nI_toInt (by omega)]
    have : (0 : Int32).toInt = 0 := Eq.refl _
    omega
section FIND
variable {σ : iM}
theorem c_order (h : INV σ) {i : Nat} (hi : i < OM (σ 8 58)) : Ev mX6_findOrder [X, .inl (nI i)] σ (.inl (some (.inr (0, 24 * 0 + i))), σ) := by
  have hom := h.1.om
  show At mX6_findOrder 0 [some X, some (.inl (nI i))] [] σ _
  refine At.Bf rfl (by rw [fa_lt, nI_toInt (by omega)]; show ¬ (i : Int) < 0; omega) ?_
  refine At.Bt rfl (by rw [h.2.2.1.om h.1]; exact (nI_lt_iff (by omega) (by omega)).mpr hi) ?_
  refine At.N rfl (v12 0 i (by omega)) ?_
  rw [nI_clamp (by omega)]
  exact At.R rfl
theorem c_order_no (h : INV σ) {o : Int32} (ho : o < 0 ∨ nI (OM (σ 8 58)) ≤ o) : Ev mX6_findOrder [X, .inl o] σ (.inr 0, σ) := by
  show At mX6_findOrder 0 [some X, some (.inl o)] [] σ _
  refine At.B rfl (fun hc => ?_) (fun hc => ?_)
  · exact At.T rfl
  · refine At.Bf rfl (by rw [h.2.2.1.om h.1]; exact le_nlt (ho.resolve_left hc)) ?_
    exact At.T rfl
theorem c_product (h : INV σ) {i : Nat} (hi : i < PM (σ 8 58)) : Ev mX6_findProduct [X, .inl (nI i)] σ (.inl (some (.inr (1, 6 * 0 + i))), σ) := by
  have hom := h.1.pm
  have e5 : σ 4 0 5 = nI (PM (σ 8 58)) := h.2.2.1.1.2.1.trans hom.1
  show At mX6_findProduct 0 [some X, some (.inl (nI i))] [] σ _
  refine At.Bf rfl (by rw [fa_lt, nI_toInt (by omega)]; show ¬ (i : Int) < 0; omega) ?_
  refine At.Bt rfl (by rw [e5]; exact (nI_lt_iff (by omega) (by omega)).mpr hi) ?_
  refine At.N rfl (v13 0 i (by omega)) ?_
  rw [nI_clamp (by omega)]
  exact At.R rfl
theorem c_product_no (h : INV σ) {o : Int32} (ho : o < 0 ∨ nI (PM (σ 8 58)) ≤ o) : Ev mX6_findProduct [X, .inl o] σ (.inr 0, σ) := by
  have e5 : σ 4 0 5 = nI (PM (σ 8 58)) := h.2.2.1.1.2.1.trans h.1.pm.1
  show At mX6_findProduct 0 [some X, some (.inl o)] [] σ _
  refine At.B rfl (fun hc => ?_) (fun hc => ?_)
  · exact At.T rfl
  · refine At.Bf rfl (by rw [e5]; exact le_nlt (ho.resolve_left hc)) ?_
    exact At.T rfl
theorem c_station (h : INV σ) {i : Nat} (hi : i < SC (σ 8 58)) : Ev mX6_findStation [X, .inl (nI i)] σ (.inl (some (.inr (5, 6 * 0 + i))), σ) := by
  have hom := h.1.sc
  show At mX6_findStation 0 [some X, some (.inl (nI i))] [] σ _
  refine At.Bf rfl (by rw [fa_lt, nI_toInt (by omega)]; show ¬ (i : Int) < 0; omega) ?_
  refine At.Bt rfl (by rw [h.2.2.1.sc h.1]; exact (nI_lt_iff (by omega) (by omega)).mpr hi) ?_
  refine At.N rfl (v15 0 i (by omega)) ?_
  rw [nI_clamp (by omega)]
  exact At.R rfl
theorem c_station_no (h : INV σ) {o : Int32} (ho : o < 0 ∨ nI (SC (σ 8 58)) ≤ o) : Ev mX6_findStation [X, .inl o] σ (.inr 0, σ) := by
  show At mX6_findStation 0 [some X, some (.inl o)] [] σ _
  refine At.B rfl (fun hc => ?_) (fun hc => ?_)
  · exact At.T rfl
  · refine At.Bf rfl (by rw [h.2.2.1.sc h.1]; exact le_nlt (ho.resolve_left hc)) ?_
    exact At.T rfl
theorem c_range {v lo hi : Int32} (h : lo ≤ v ∧ v ≤ hi) : Ev mX6_checkRange [.inl v, .inl lo, .inl hi] σ (evv σ) := by
  show At mX6_checkRange 0 [some (.inl v), some (.inl lo), some (.inl hi)] [] σ _
  refine At.Bf rfl (le_nlt h.1) ?_
  refine At.Bt rfl (h.2) ?_
  exact At.R rfl
theorem c_range_no {v lo hi : Int32} (h : ¬ (lo ≤ v ∧ v ≤ hi)) : Ev mX6_checkRange [.inl v, .inl lo, .inl hi] σ (.inr 1, σ) := by
  show At mX6_checkRange 0 [some (.inl v), some (.inl lo), some (.inl hi)] [] σ _
  refine At.B rfl (fun hc => ?_) (fun hc => ?_)
  · exact At.T rfl
  · refine At.Bf rfl (fun q => h ⟨fa_of_nlt hc, q⟩) ?_
    exact At.T rfl
/-- the reference's own tests -/
theorem m1_in {n : Nat} (hn : n ≤ 24) (o : Int32) : (0 ≤ o ∧ o ≤ nI n - 1) ↔ ¬ (o < 0 ∨ nI n ≤ o) := by
  have e : (nI n - 1).toInt = (n : Int) - 1 := by
    have h1 := nI_toInt (n := n) (by omega)
    have h2 : (1 : Int32).toInt = 1 := Eq.refl _
    rw [fb_subI (by rw [h1, h2]; omega) (by rw [h1, h2]; omega), h1, h2]
  have h0 : (0 : Int32).toInt = 0 := Eq.refl _
  rw [fa_lt, fa_le, fa_le, fa_le, e, nI_toInt (by omega), h0]
  omega
theorem e_isOrder {r : Row} (e : σ 8 58 = r) (hr : RI r) (o : Int32) : Ev mX7_isOrder [M, .inl o] σ (evi (if o < 0 ∨ nI (OM r) ≤ o then 0 else 1) σ) := by
  subst e
  have hom := hr.om
  show At mX7_isOrder 0 [some M, some (.inl o)] [] σ _
  refine At.N rfl (v58 4 (by omega)) ?_
  rw [t4, hom.1]
  refine At.Ci rfl (e_in _ _ _ _) ?_
  by_cases hc : o < 0 ∨ nI (OM (σ 8 58)) ≤ o
  · rw [if_neg (fun q => (m1_in hom.2 o).mp q hc), if_pos hc]
    exact At.Z rfl (Or.inl rfl)
  · rw [if_pos ((m1_in hom.2 o).mpr hc), if_neg hc]
    exact At.Z rfl (Or.inr rfl)
theorem e_isProduct {r : Row} (e : σ 8 58 = r) (hr : RI r) (o : Int32) : Ev mX7_isProduct [M, .inl o] σ (evi (if o < 0 ∨ nI (PM r) ≤ o then 0 else 1) σ) := by
  subst e
  have hom := hr.pm
  show At mX7_isProduct 0 [some M, some (.inl o)] [] σ _
  refine At.N rfl (v58 3 (by omega)) ?_
  rw [t3, hom.1]
  refine At.Ci rfl (e_in _ _ _ _) ?_
  by_cases hc : o < 0 ∨ nI (PM (σ 8 58)) ≤ o
  · rw [if_neg (fun q => (m1_in (by omega) o).mp q hc), if_pos hc]
    exact At.Z rfl (Or.inl rfl)
  · rw [if_pos ((m1_in (by omega) o).mpr hc), if_neg hc]
    exact At.Z rfl (Or.inr rfl)
theorem e_isStation {r : Row} (e : σ 8 58 = r) (hr : RI r) (o : Int32) : Ev mX7_isStation [M, .inl o] σ (evi (if o < 0 ∨ nI (SC r) ≤ o then 0 else 1) σ) := by
  subst e
  have hom := hr.sc
  show At mX7_isStation 0 [some M, some (.inl o)] [] σ _
  refine At.N rfl (v58 1 (by omega)) ?_
  rw [t1, hom.1]
  refine At.Ci rfl (e_in _ _ _ _) ?_
  by_cases hc : o < 0 ∨ nI (SC (σ 8 58)) ≤ o
  · rw [if_neg (fun q => (m1_in (by omega) o).mp q hc), if_pos hc]
    exact At.Z rfl (Or.inl rfl)
  · rw [if_pos ((m1_in (by omega) o).mpr hc), if_neg hc]
    exact At.Z rfl (Or.inr rfl)
theorem no_ix {n i : Nat} (hn : n ≤ 24) (hi : i < n) : ¬ (nI i < 0 ∨ nI n ≤ nI i) := by
  have h0 : (0 : Int32).toInt = 0 := Eq.refl _
  rw [fa_lt, fa_le, nI_toInt (by omega), nI_toInt (by omega), h0]
  omega
theorem e_ord1 {r : Row} (e : σ 8 58 = r) (hr : RI r) {i : Nat} (hi : i < OM r) : Ev mX7_isOrder [M, .inl (nI i)] σ (evi 1 σ) := by
  have := e_isOrder e hr (nI i)
  rw [if_neg (no_ix hr.om.2 hi)] at this
  exact this
theorem e_ord0 {r : Row} (e : σ 8 58 = r) (hr : RI r) {o : Int32} (ho : o < 0 ∨ nI (OM r) ≤ o) : Ev mX7_isOrder [M, .inl o] σ (evi 0 σ) := by
  have := e_isOrder e hr o
  rw [if_pos ho] at this
  exact this
theorem e_sta1 {r : Row} (e : σ 8 58 = r) (hr : RI r) {i : Nat} (hi : i < SC r) : Ev mX7_isStation [M, .inl (nI i)] σ (evi 1 σ) := by
  have := e_isStation e hr (nI i)
  rw [if_neg (no_ix (by have := hr.sc; omega) hi)] at this
  exact this
theorem e_sta0 {r : Row} (e : σ 8 58 = r) (hr : RI r) {o : Int32} (ho : o < 0 ∨ nI (SC r) ≤ o) : Ev mX7_isStation [M, .inl o] σ (evi 0 σ) := by
  have := e_isStation e hr o
  rw [if_pos ho] at this
  exact this
theorem e_prd1 {r : Row} (e : σ 8 58 = r) (hr : RI r) {i : Nat} (hi : i < PM r) : Ev mX7_isProduct [M, .inl (nI i)] σ (evi 1 σ) := by
  have := e_isProduct e hr (nI i)
  rw [if_neg (no_ix (by have := hr.pm; omega) hi)] at this
  exact this
theorem e_prd0 {r : Row} (e : σ 8 58 = r) (hr : RI r) {o : Int32} (ho : o < 0 ∨ nI (PM r) ≤ o) : Ev mX7_isProduct [M, .inl o] σ (evi 0 σ) := by
  have := e_isProduct e hr o
  rw [if_pos ho] at this
  exact this
theorem e_in1 {v lo hi : Int32} (h : lo ≤ v ∧ v ≤ hi) : Ev mX7_in [.inl v, .inl lo, .inl hi] σ (evi 1 σ) := by
  have := e_in v lo hi σ
  rw [if_pos h] at this
  exact this
theorem e_in0 {v lo hi : Int32} (h : ¬ (lo ≤ v ∧ v ≤ hi)) : Ev mX7_in [.inl v, .inl lo, .inl hi] σ (evi 0 σ) := by
  have := e_in v lo hi σ
  rw [if_neg h] at this
  exact this
theorem U7_r {j : Nat} {x : Int32} : iU σ 7 0 j x 8 58 = σ 8 58 := by funext j'; exact iU_ne (by omega)
theorem U7_8 {i j : Nat} {x : Int32} : iU σ 7 0 j x 8 i = σ 8 i := by funext j'; exact iU_ne (by omega)
/-- the reference tells a number of an order -/
theorem e_told1 {r : Row} (e : σ 8 58 = r) (hr : RI r) {i w : Nat} (hi : i < OM r) (hw : w < 14) : Ev mX7_told [M, .inl (nI i), .inl (nI w)] σ (evi (rO r i w) (iU σ 7 0 5 0)) := by
  have hom := hr.om
  show At mX7_told 0 [some M, some (.inl (nI i)), some (.inl (nI w))] [] σ _
  refine At.Ci rfl (e_ord1 e hr hi) ?_
  refine At.Ci rfl (e_thr1 _ _) ?_
  refine At.Bt rfl (rfl) ?_
  refine At.Ci rfl (e_order i w (by omega) hw _) ?_
  rw [U7_r, e]
  exact At.R rfl
theorem e_told0 {r : Row} (e : σ 8 58 = r) (hr : RI r) {o : Int32} (ho : o < 0 ∨ nI (OM r) ≤ o) (w : Int32) : Ev mX7_told [M, .inl o, .inl w] σ (evi 0 (iU σ 7 0 5 1)) := by
  show At mX7_told 0 [some M, some (.inl o), some (.inl w)] [] σ _
  refine At.Ci rfl (e_ord0 e hr ho) ?_
  refine At.Ci rfl (e_thr0 _ _) ?_
  refine At.Bf rfl (by decide) ?_
  refine At.J rfl ?_
  exact At.R rfl
theorem e_toldOf1 {r : Row} (e : σ 8 58 = r) (hr : RI r) {i w : Nat} (hi : i < SC r) (hw : w < 7) : Ev mX7_toldOf [M, .inl (nI i), .inl (nI w)] σ (evi (rS r i w) (iU σ 7 0 5 0)) := by
  have hom := hr.sc
  show At mX7_toldOf 0 [some M, some (.inl (nI i)), some (.inl (nI w))] [] σ _
  refine At.Ci rfl (e_sta1 e hr hi) ?_
  refine At.Ci rfl (e_thr1 _ _) ?_
  refine At.Bt rfl (rfl) ?_
  refine At.Ci rfl (e_station i w (by omega) hw _) ?_
  rw [U7_r, e]
  exact At.R rfl
theorem e_toldOf0 {r : Row} (e : σ 8 58 = r) (hr : RI r) {o : Int32} (ho : o < 0 ∨ nI (SC r) ≤ o) (w : Int32) : Ev mX7_toldOf [M, .inl o, .inl w] σ (evi 0 (iU σ 7 0 5 1)) := by
  show At mX7_toldOf 0 [some M, some (.inl o), some (.inl w)] [] σ _
  refine At.Ci rfl (e_sta0 e hr ho) ?_
  refine At.Ci rfl (e_thr0 _ _) ?_
  refine At.Bf rfl (by decide) ?_
  refine At.J rfl ?_
  exact At.R rfl
theorem e_thrown : Ev mX7_thrown [M] σ (evi (σ 7 0 5) σ) := by
  show At mX7_thrown 0 [some M] [] σ _
  exact At.R rfl
end FIND
