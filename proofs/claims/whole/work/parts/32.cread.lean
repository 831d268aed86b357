/-! ===== the class: what a station goes by ===== -/
/-- where an order's buffer begins, and how long it is -/
def bfr (r : Row) (i : Nat) : Int32 := if bef r i then rO r i 9 else rO r i 2 - r 6
def bln (r : Row) (i : Nat) : Int32 := if bef r i then r 5 else r 6
theorem bfr_b {r : Row} (hr : RI r) {i : Nat} (hi : i < OM r) : -500 ≤ (bfr r i).toInt ∧ (bfr r i).toInt ≤ 40000 := by
  have o := hr.ord hi
  have h6 := hr.2.2.2.2.2.2.1
  unfold bfr
  split
  · exact o.2.2.2.2.2.1
  · have hd := o.2.2.2.1
    rw [fb_subI (by omega) (by omega)]
    omega
theorem bln_b {r : Row} (hr : RI r) (i : Nat) : 1 ≤ (bln r i).toInt ∧ (bln r i).toInt ≤ 500 := by
  unfold bln
  split
  · exact hr.2.2.2.2.2.1
  · exact hr.2.2.2.2.2.2.1
theorem pen_val {r : Row} (hr : RI r) {i : Nat} (hi : i < OM r) : (1000 * (r 0 - bfr r i) / bln r i).toInt = (1000 * ((r 0).toInt - (bfr r i).toInt)).tdiv (bln r i).toInt := by
  have h1 := bfr_b hr hi
  have h2 := bln_b hr i
  have h0 := hr.1
  have hk : (1000 : Int32).toInt = 1000 := rfl
  have e1 : (r 0 - bfr r i).toInt = (r 0).toInt - (bfr r i).toInt := fb_subI (by omega) (by omega)
  have e2 : (1000 * (r 0 - bfr r i)).toInt = 1000 * ((r 0).toInt - (bfr r i).toInt) := by
    rw [fb_mulI (by rw [hk, e1]; omega) (by rw [hk, e1]; omega), hk, e1]
  rw [Int32.toInt_div_of_ne_right _ _ (fun q => by rw [q] at h2; exact absurd h2.1 (by decide)), e2]
theorem pen_eq {r : Row} (hr : RI r) {i : Nat} (hi : i < OM r) (hs : rO r i 3 = 1) : pen r i = if r 0 ≤ bfr r i then 0 else 1000 * (r 0 - bfr r i) / bln r i := by
  have h2 := bln_b hr i
  have hv := pen_val hr hi
  have hp : pen r i = iMax 0 (1000 * (r 0 - bfr r i) / bln r i) := if_pos hs
  rw [hp]
  have hz : (0 : Int32).toInt = 0 := rfl
  unfold iMax
  by_cases hc : r 0 ≤ bfr r i
  · rw [if_pos hc, if_neg]
    rw [fa_lt, hv, hz]
    rw [fa_le] at hc
    have := Int.tdiv_nonneg (a := -(1000 * ((r 0).toInt - (bfr r i).toInt))) (b := (bln r i).toInt) (by omega) (by omega)
    rw [Int.neg_tdiv] at this
    omega
  · rw [if_neg hc]
    have hc := fa_of_nle hc
    rw [fa_lt] at hc
    have h3 := Int.tdiv_nonneg (a := 1000 * ((r 0).toInt - (bfr r i).toInt)) (b := (bln r i).toInt) (by omega) (by omega)
    by_cases h4 : (0 : Int32) < 1000 * (r 0 - bfr r i) / bln r i
    · rw [if_pos h4]
    · rw [if_neg h4, fa_eq, hz]
      rw [fa_lt, hz] at h4
      omega
theorem pen_b {r : Row} (hr : RI r) {i : Nat} (hi : i < OM r) : 0 ≤ (pen r i).toInt ∧ (pen r i).toInt ≤ 41000000 := by
  have hz : (0 : Int32).toInt = 0 := rfl
  by_cases hs : rO r i 3 = 1
  · rw [pen_eq hr hi hs]
    have h1 := bfr_b hr hi
    have h2 := bln_b hr i
    have h0 := hr.1
    by_cases hc : r 0 ≤ bfr r i
    · rw [if_pos hc, hz]; omega
    · rw [if_neg hc, pen_val hr hi]
      have hc := fa_of_nle hc
      rw [fa_lt] at hc
      refine ⟨Int.tdiv_nonneg (by omega) (by omega), ?_⟩
      have h3 := Int.tdiv_le_self (a := 1000 * ((r 0).toInt - (bfr r i).toInt)) (bln r i).toInt (by omega)
      omega
  · have : pen r i = 0 := if_neg hs
    rw [this, hz]; omega
theorem zon_red {r : Row} (hr : RI r) {i : Nat} (hi : i < OM r) (hs : rO r i 3 = 1) : 2 ≤ zon r i ↔ ¬ 3 * pen r i < 2000 := by
  have hb := pen_b hr hi
  have h3 : (3 : Int32).toInt = 3 := rfl
  have h2 : (2 : Int32).toInt = 2 := rfl
  have hk : (1000 : Int32).toInt = 1000 := rfl
  have hkk : (2000 : Int32).toInt = 2000 := rfl
  have hz : zon r i = iMin 3 (3 * pen r i / 1000) := if_pos hs
  have e1 : (3 * pen r i).toInt = 3 * (pen r i).toInt := by rw [fb_mulI (by rw [h3]; omega) (by rw [h3]; omega), h3]
  have e2 : (3 * pen r i / 1000).toInt = (3 * (pen r i).toInt).tdiv 1000 := by rw [Int32.toInt_div_of_ne_right _ _ (by decide), e1, hk]
  have e3 : (3 * (pen r i).toInt).tdiv 1000 = (3 * (pen r i).toInt) / 1000 := Int.tdiv_eq_ediv_of_nonneg (by omega)
  rw [hz, fa_le, h2, fa_lt, e1, hkk]
  unfold iMin
  by_cases hc : 3 * pen r i / 1000 < 3
  · rw [if_pos hc, e2, e3]; omega
  · rw [if_neg hc, h3]
    rw [fa_lt, e2, e3, h3] at hc
    omega
section RD2
variable {σ : iM} {s : Nat} {r : Row}
theorem c_penetrationOf (h : Sh σ s r) (hr : RI r) {i : Nat} (hi : i < OM r) : Ev mX4_penetrationOf [.inr (4, s), .inr (0, 24 * s + i)] σ (evi (pen r i) σ) := by
  show At mX4_penetrationOf 0 [some (.inr (4, s)), some (.inr (0, 24 * s + i)), none, none, none] [] σ _
  have ho := h.2.2.2 i hi
  have hS := h.1
  refine At.B rfl (fun hs => ?_) (fun hs => ?_)
  · rw [ho.2.2.2.2.2.1] at hs
    have hdb := ho.2.2.2.2.2.2.2.2.2.2.2.1
    have h10 := (hr.ord hi).2.2.2.2.2.2.1
    rw [pen_eq hr hi hs]
    have h2 := bln_b hr i
    have tail : ∀ d2 : Option iV, At mX4_penetrationOf 60 [some (.inr (4, s)), some (.inr (0, 24 * s + i)), d2, some (.inl (bfr r i)), none] [.inl (bln r i)] σ (evi (if r 0 ≤ bfr r i then 0 else 1000 * (r 0 - bfr r i) / bln r i) σ) := by
      intro d2
      refine At.B rfl (fun hc => ?_) (fun hc => ?_)
      · rw [hS.2.2.2.2.2.2.2.2.2.1] at hc
        rw [if_pos hc]
        exact At.R rfl
      · rw [hS.2.2.2.2.2.2.2.2.2.1] at hc
        rw [if_neg hc]
        refine At.Bt rfl (by rw [fa_le]; exact h2.1) ?_
        refine At.N rfl (fun q => by rw [q] at h2; exact absurd h2.1 (by decide)) ?_
        rw [hS.2.2.2.2.2.2.2.2.2.1]
        exact At.R rfl
    by_cases hb : bef r i
    · have hd : dbg r i = -1 := if_pos (Or.inr (Or.inr hb))
      have hf : bfr r i = rO r i 9 := if_pos hb
      have hl : bln r i = r 5 := if_pos hb
      refine At.Bt rfl (by rw [hdb]; exact hd) ?_
      refine At.Bt rfl (rfl) ?_
      refine At.Bt rfl (rfl) ?_
      refine At.F 60 [some (.inr (4, s)), some (.inr (0, 24 * s + i)), some (.inl 0), some (.inl (σ 0 (24 * s + i) 10)), none] [.inl (σ 4 s 8)] σ rfl ?_
      rw [ho.2.2.2.2.2.2.2.2.2.2.1 (Or.inl hs), hS.2.2.2.2.1, ← hf, ← hl]
      exact tail _
    · have hd : dbg r i = rO r i 10 := if_neg (by rintro (q | q | q); rw [hs] at q; exact absurd q (by decide); rw [hs] at q; exact absurd q (by decide); exact hb q)
      have hf : bfr r i = rO r i 2 - r 6 := if_neg hb
      have hl : bln r i = r 6 := if_neg hb
      refine At.Bf rfl (by rw [hdb, hd]; exact m1_ne h10) ?_
      refine At.J rfl ?_
      refine At.Bf rfl (by decide) ?_
      refine At.J rfl ?_
      refine At.Bf rfl (by decide) ?_
      refine At.J rfl ?_
      rw [ho.2.2.1, hS.2.2.2.2.2.1, ← hf, ← hl]
      exact tail _
  · rw [ho.2.2.2.2.2.1] at hs
    have : pen r i = 0 := if_neg hs
    rw [this]
    exact At.R rfl
theorem c_zoneOf (h : Sh σ s r) (hr : RI r) {i : Nat} (hi : i < OM r) : Ev mX4_zoneOf [.inr (4, s), .inr (0, 24 * s + i)] σ (evi (zon r i) σ) := by
  show At mX4_zoneOf 0 [some (.inr (4, s)), some (.inr (0, 24 * s + i)), none] [] σ _
  have ho := h.2.2.2 i hi
  refine At.B rfl (fun hs => ?_) (fun hs => ?_)
  · rw [ho.2.2.2.2.2.1] at hs
    refine At.Ci rfl (c_penetrationOf h hr hi) ?_
    refine At.N rfl (by decide) ?_
    have hz : zon r i = iMin 3 (3 * pen r i / 1000) := if_pos hs
    rw [hz]
    unfold iMin
    refine At.B rfl (fun hc => ?_) (fun hc => ?_)
    · rw [if_neg (le_nlt hc)]
      exact At.R rfl
    · rw [if_pos (fa_of_nle hc)]
      refine At.J rfl ?_
      exact At.R rfl
  · rw [ho.2.2.2.2.2.1] at hs
    have : zon r i = -1 := if_neg hs
    rw [this]
    exact At.R rfl
theorem c_isRedOrBlack (x : Int32) : Ev mX4_isRedOrBlack [.inl x] σ (evi (if 3 * x < 2000 then 0 else 1) σ) := by
  show At mX4_isRedOrBlack 0 [some (.inl x)] [] σ _
  refine At.B rfl (fun hc => ?_) (fun hc => ?_)
  · rw [if_pos hc]
    exact At.Z rfl (Or.inl rfl)
  · rw [if_neg hc]
    refine At.J rfl ?_
    exact At.Z rfl (Or.inr rfl)
theorem c_stationOf (h : Sh σ s r) (hr : RI r) (hs4 : s < 4) {i : Nat} (hi : i < OM r) (hs : rO r i 3 = 1) : Ev mX4_stationOf [.inr (4, s), .inr (0, 24 * s + i)] σ (evi (rPs r (oP r i) (oK r i)) σ) := by
  show At mX4_stationOf 0 [some (.inr (4, s)), some (.inr (0, 24 * s + i))] [] σ _
  have ho := h.2.2.2 i hi
  obtain ⟨p1, p2, p3, p4⟩ := h.prod hr hi
  obtain ⟨k1, k2, k3⟩ := hr.st hi hs
  have hk : σ 0 (24 * s + i) 6 = nI (oK r i) := ho.2.2.2.2.2.2.1.trans k1
  refine At.N rfl (by rw [p1]; exact v13 s _ p2) ?_
  rw [p1, nI_clamp (by omega)]
  refine At.N rfl (by rw [hk, (iN_p s (oP r i) hs4 p2).1]; exact vin k3 (by omega)) ?_
  rw [hk, nI_clamp (by omega), (p3.2.2 _ k2).1]
  exact At.R rfl
theorem c_workOfStep (h : Sh σ s r) (hr : RI r) (hs4 : s < 4) {i : Nat} (hi : i < OM r) (hs : rO r i 3 = 1) : Ev mX4_workOfStep [.inr (4, s), .inr (0, 24 * s + i)] σ (evi (wH r i) σ) := by
  show At mX4_workOfStep 0 [some (.inr (4, s)), some (.inr (0, 24 * s + i))] [] σ _
  have ho := h.2.2.2 i hi
  obtain ⟨p1, p2, p3, p4⟩ := h.prod hr hi
  obtain ⟨k1, k2, k3⟩ := hr.st hi hs
  have hk : σ 0 (24 * s + i) 6 = nI (oK r i) := ho.2.2.2.2.2.2.1.trans k1
  refine At.N rfl (by rw [p1]; exact v13 s _ p2) ?_
  rw [p1, nI_clamp (by omega)]
  refine At.N rfl (by rw [hk, (iN_p s (oP r i) hs4 p2).2]; exact vin k3 (by omega)) ?_
  rw [hk, nI_clamp (by omega), (p3.2.2 _ k2).2]
  have hw : wH r i = rPt r (oP r i) (oK r i) * σ 0 (24 * s + i) 1 := by rw [ho.2.1]; rfl
  rw [hw]
  exact At.R rfl
/-- not worked on: nothing is left of the step -/
theorem RIg.left0 {m : Nat → Prop} (hr : RIg m r) {i : Nat} (hi : i < OM r) (hs : rO r i 3 = 1) (hm : m (nn (rPs r (oP r i) (oK r i)))) : rO r i 7 = 0 ↔ rO r i 6 = 0 := by
  have := (hr.ord hi).k hs
  rcases this.2.2.2.2 with q | q
  · exact ⟨fun _ => q.1, fun _ => q.2⟩
  · constructor
    · intro h7
      have := q.2.2.1 hm
      rw [h7] at this
      exact absurd this (by decide)
    · intro h6
      rw [h6] at q
      exact absurd q.1 (by decide)
theorem c_waitsAt (h : Sh σ s r) (hr : RI r) (hs4 : s < 4) {i q : Nat} (hi : i < OM r) : Ev mX4_waitsAt [.inr (4, s), .inr (0, 24 * s + i), .inl (nI q)] σ (evi (if wts r i q then 1 else 0) σ) := by
  show At mX4_waitsAt 0 [some (.inr (4, s)), some (.inr (0, 24 * s + i)), some (.inl (nI q))] [] σ _
  have ho := h.2.2.2 i hi
  refine At.B rfl (fun hs => ?_) (fun hs => ?_)
  · rw [ho.2.2.2.2.2.1] at hs
    have h70 := hr.left0 hi hs trivial
    refine At.B rfl (fun h7 => ?_) (fun h7 => ?_)
    · rw [ho.2.2.2.2.2.2.2.1] at h7
      refine At.Ci rfl (c_stationOf h hr hs4 hi hs) ?_
      refine At.B rfl (fun hq => ?_) (fun hq => ?_)
      · rw [if_pos ⟨hs, h70.mp h7, hq⟩]
        refine At.J rfl ?_
        exact At.Z rfl (Or.inr rfl)
      · rw [if_neg (fun x => hq x.2.2)]
        exact At.Z rfl (Or.inl rfl)
    · rw [ho.2.2.2.2.2.2.2.1] at h7
      rw [if_neg (fun x => h7 (h70.mpr x.2.1))]
      exact At.Z rfl (Or.inl rfl)
  · rw [ho.2.2.2.2.2.1] at hs
    rw [if_neg (fun x => hs x.1)]
    exact At.Z rfl (Or.inl rfl)
theorem c_keyByRule (h : Sh σ s r) (hr : RI r) (hs4 : s < 4) {i : Nat} (hi : i < OM r) (hs : rO r i 3 = 1) : Ev mX4_keyByRule [.inr (4, s), .inr (0, 24 * s + i), .inl (pen r i)] σ (evi (wor r i) σ) := by
  show At mX4_keyByRule 0 [some (.inr (4, s)), some (.inr (0, 24 * s + i)), some (.inl (pen r i))] [] σ _
  have ho := h.2.2.2 i hi
  have hR := h.1.2.2.2.2.2.2.2.1
  have h8 := hr.2.2.2.2.2.2.2.2.1
  refine At.Sw rfl ?_
  rw [hR]
  unfold wor
  by_cases q1 : r 8 = 1
  · rw [if_neg (by rw [q1]; decide), if_pos q1, q1]
    show At mX4_keyByRule 32 _ _ _ _
    exact At.R rfl
  · by_cases q2 : r 8 = 2
    · rw [if_neg (by rw [q2]; decide), if_neg q1, if_pos q2, q2]
      show At mX4_keyByRule 35 _ _ _ _
      rw [← ho.2.2.1]
      exact At.R rfl
    · by_cases q3 : r 8 = 3
      · rw [if_neg (by rw [q3]; decide), if_neg q1, if_neg q2, q3]
        show At mX4_keyByRule 40 _ _ _ _
        refine At.Ci rfl (c_workOfStep h hr hs4 hi hs) ?_
        exact At.R rfl
      · have q0 : r 8 = 0 := by
          rw [fa_eq] at q1 q2 q3 ⊢
          have e1 : (1 : Int32).toInt = 1 := rfl
          have e2 : (2 : Int32).toInt = 2 := rfl
          have e3 : (3 : Int32).toInt = 3 := rfl
          have e0 : (0 : Int32).toInt = 0 := rfl
          omega
        rw [if_pos q0, q0]
        show At mX4_keyByRule 46 _ _ _ _
        rw [← ho.2.2.2.2.2.2.2.2.1 hs]
        exact At.R rfl
/-- the class's choice: the best so far, what it goes by, whether it is hurried -/
theorem c_choiceAt (h : Sh σ s r) (hr : RI r) (hs4 : s < 4) {q : Nat} : Ev mX4_choiceAt [.inr (4, s), .inl (nI q)] σ (evi (cho r q (OM r)) σ) := by
  show At mX4_choiceAt 0 [some (.inr (4, s)), some (.inl (nI q)), none, none, none, none, none, none, none, none, none] [] σ _
  have hom := hr.om
  have hS := h.1
  refine At.F 10 [some (.inr (4, s)), some (.inl (nI q)), some (.inl (-1)), some (.inl 0), some (.inl 0), some (.inl (nI 0)), none, none, none, none, none] [] σ rfl ?_
  have key := down_ind (N := OM r) (P := fun n => ∀ (bk bh : Int32) (d6 d7 d8 d9 d10 : Option iV), (¬ cho r q n = -1 → bk = wor r (nn (cho r q n)) ∧ bh = if urg r (nn (cho r q n)) then 1 else 0) → At mX4_choiceAt 10 [some (.inr (4, s)), some (.inl (nI q)), some (.inl (cho r q n)), some (.inl bk), some (.inl bh), some (.inl (nI n)), d6, d7, d8, d9, d10] [] σ (evi (cho r q (OM r)) σ)) ?_ ?_ 0 (Nat.zero_le _)
  · exact key 0 0 none none none none none (fun x => absurd rfl x)
  · intro bk bh d6 d7 d8 d9 d10 hb
    refine At.Bt rfl (by rw [h.om hr]; exact (nI_leI (by omega) (by omega)).mpr (Nat.le_refl _)) ?_
    exact At.R rfl
  · intro n hn ih bk bh d6 d7 d8 d9 d10 hb
    refine At.Bf rfl (by rw [h.om hr]; exact fun x => absurd ((nI_leI (by omega) (by omega)).mp x) (by omega)) ?_
    refine At.N rfl (v12 s n (by omega)) ?_
    rw [nI_clamp (by omega)]
    have ho := h.2.2.2 n hn
    refine At.Ci rfl (c_waitsAt h hr hs4 hn) ?_
    by_cases hw : wts r n q
    · rw [if_pos hw]
      refine At.Bf rfl (by decide) ?_
      refine At.Ci rfl (c_penetrationOf h hr hn) ?_
      refine At.Ci rfl (c_keyByRule h hr hs4 hn hw.1) ?_
      have h12 := (hr.ord hn).2.2.2.2.2.2.2.1
      have hx : σ 0 (24 * s + n) 4 = rO r n 12 := ho.2.2.2.2.1
      -- it is hurried or not
      have go : ∀ hu : Int32, hu = (if urg r n then 1 else 0) → At mX4_choiceAt 85 [some (.inr (4, s)), some (.inl (nI q)), some (.inl (cho r q n)), some (.inl bk), some (.inl bh), some (.inl (nI n)), some (.inr (0, 24 * s + n)), some (.inl (pen r n)), some (.inl (wor r n)), d9, d10] [.inl hu] σ (evi (cho r q (OM r)) σ) := by
        intro hu hhu
        have take : (cho r q n = -1 ∨ btr r n (nn (cho r q n))) → ∀ d10 : Option iV, At mX4_choiceAt 122 [some (.inr (4, s)), some (.inl (nI q)), some (.inl (cho r q n)), some (.inl bk), some (.inl bh), some (.inl (nI n)), some (.inr (0, 24 * s + n)), some (.inl (pen r n)), some (.inl (wor r n)), some (.inl hu), d10] [] σ (evi (cho r q (OM r)) σ) := by
          intro hc d10
          have hcn : cho r q (n + 1) = nI n := by rw [cho, if_pos ⟨hw, hc⟩]
          refine At.J rfl ?_
          rw [nI_1]
          have := ih (wor r n) hu (some (.inr (0, 24 * s + n))) (some (.inl (pen r n))) (some (.inl (wor r n))) (some (.inl hu)) d10
          rw [hcn] at this
          exact this (fun _ => by rw [nn_nI (by omega)]; exact ⟨rfl, hhu⟩)
        have skip : ¬ (cho r q n = -1 ∨ btr r n (nn (cho r q n))) → ∀ d9 d10 : Option iV, At mX4_choiceAt 132 [some (.inr (4, s)), some (.inl (nI q)), some (.inl (cho r q n)), some (.inl bk), some (.inl bh), some (.inl (nI n)), some (.inr (0, 24 * s + n)), some (.inl (pen r n)), some (.inl (wor r n)), d9, d10] [] σ (evi (cho r q (OM r)) σ) := by
          intro hc d9 d10
          have hcn : cho r q (n + 1) = cho r q n := by rw [cho, if_neg (fun x => hc x.2)]
          refine At.J rfl ?_
          rw [nI_1]
          have := ih bk bh (some (.inr (0, 24 * s + n))) (some (.inl (pen r n))) (some (.inl (wor r n))) d9 d10
          rw [hcn] at this
          exact this hb
        -- the last test
        have last : ∀ z : Int32, (¬ cho r q n = -1 → (z = 0 ↔ ¬ btr r n (nn (cho r q n)))) → At mX4_choiceAt 110 [some (.inr (4, s)), some (.inl (nI q)), some (.inl (cho r q n)), some (.inl bk), some (.inl bh), some (.inl (nI n)), some (.inr (0, 24 * s + n)), some (.inl (pen r n)), some (.inl (wor r n)), some (.inl hu), d10] [.inl z] σ (evi (cho r q (OM r)) σ) := by
          intro z hz
          refine At.B rfl (fun hc => ?_) (fun hc => ?_)
          · exact take (Or.inl hc) _
          · refine At.B rfl (fun hzz => ?_) (fun hzz => ?_)
            · exact skip (by rintro (x | x); exact hc x; exact (hz hc).mp hzz x) _ _
            · exact take (Or.inr (Classical.byContradiction fun x => hzz ((hz hc).mpr x))) _
        refine At.B rfl (fun he => ?_) (fun he => ?_)
        · refine At.B rfl (fun hk => ?_) (fun hk => ?_)
          · refine At.J rfl ?_
            refine last 0 (fun hc => ⟨fun _ => ?_, fun _ => rfl⟩)
            obtain ⟨b1, b2⟩ := hb hc
            rw [b1] at hk
            rw [hhu, b2] at he
            rintro (x | x)
            · rw [if_pos x.1, if_neg x.2] at he; exact absurd he (by decide)
            · exact le_nlt hk x.2
          · refine At.J rfl ?_
            refine last 1 (fun hc => ⟨fun x => absurd x (by decide), fun x => absurd ?_ x⟩)
            obtain ⟨b1, b2⟩ := hb hc
            rw [b1] at hk
            rw [hhu, b2] at he
            refine Or.inr ⟨?_, fa_of_nle hk⟩
            by_cases a : urg r n <;> by_cases b : urg r (nn (cho r q n)) <;> simp only [a, b, if_true, if_false] at he ⊢ <;> exact absurd he (by decide)
        · refine At.F 110 [some (.inr (4, s)), some (.inl (nI q)), some (.inl (cho r q n)), some (.inl bk), some (.inl bh), some (.inl (nI n)), some (.inr (0, 24 * s + n)), some (.inl (pen r n)), some (.inl (wor r n)), some (.inl hu), d10] [.inl hu] σ rfl ?_
          refine last hu (fun hc => ?_)
          obtain ⟨b1, b2⟩ := hb hc
          rw [b2] at he
          rw [hhu] at he ⊢
          by_cases a : urg r n
          · have b : ¬ urg r (nn (cho r q n)) := fun b => he (by rw [if_pos a, if_pos b])
            rw [if_pos a]
            exact ⟨fun x => absurd x (by decide), fun x => absurd (Or.inl ⟨a, b⟩) x⟩
          · have b : urg r (nn (cho r q n)) := Classical.byContradiction fun b => he (by rw [if_neg a, if_neg b])
            rw [if_neg a]
            refine ⟨fun _ => ?_, fun _ => rfl⟩
            rintro (x | x)
            · exact a x.1
            · exact a (x.1.mpr b)
      have hrd := zon_red hr hn hw.1
      refine At.B rfl (fun hex => ?_) (fun hex => ?_)
      · rw [hx] at hex
        have n1 : ¬ rO r n 12 = 1 := by rw [hex]; decide
        refine At.B rfl (fun hau => ?_) (fun hau => ?_)
        · rw [hS.2.2.2.2.2.2.2.2.1] at hau
          refine At.Ci rfl (c_isRedOrBlack (pen r n)) ?_
          by_cases hz : 3 * pen r n < 2000
          · rw [if_pos hz]
            refine At.Bt rfl (rfl) ?_
            refine At.F 85 [some (.inr (4, s)), some (.inl (nI q)), some (.inl (cho r q n)), some (.inl bk), some (.inl bh), some (.inl (nI n)), some (.inr (0, 24 * s + n)), some (.inl (pen r n)), some (.inl (wor r n)), d9, d10] [.inl 0] σ rfl ?_
            exact go 0 (by rw [if_neg (by rintro (x | x); exact n1 x; exact hrd.mp x.2 hz)])
          · rw [if_neg hz]
            refine At.Bf rfl (by decide) ?_
            refine At.J rfl ?_
            exact go 1 (by rw [if_pos (Or.inr ⟨hau, hrd.mpr hz⟩)])
        · rw [hS.2.2.2.2.2.2.2.2.1] at hau
          refine At.F 85 [some (.inr (4, s)), some (.inl (nI q)), some (.inl (cho r q n)), some (.inl bk), some (.inl bh), some (.inl (nI n)), some (.inr (0, 24 * s + n)), some (.inl (pen r n)), some (.inl (wor r n)), d9, d10] [.inl 0] σ rfl ?_
          exact go 0 (by rw [if_neg (by rintro (x | x); exact n1 x; exact hau x.1)])
      · rw [hx] at hex
        refine At.J rfl ?_
        exact go 1 (by rw [if_pos (Or.inl (h12.resolve_left hex))])
    · rw [if_neg hw]
      refine At.Bt rfl (rfl) ?_
      refine At.J rfl ?_
      rw [nI_1]
      have hcn : cho r q (n + 1) = cho r q n := by rw [cho, if_neg (fun x => hw x.1)]
      have := ih bk bh (some (.inr (0, 24 * s + n))) d7 d8 d9 d10
      rw [hcn] at this
      exact this hb
theorem c_isStarved (h : Sh σ s r) (hr : RI r) : Ev mX4_isStarved [.inr (4, s)] σ (evi (if isStv r then 1 else 0) σ) := by
  show At mX4_isStarved 0 [some (.inr (4, s)), none] [] σ _
  have hom := hr.om
  obtain ⟨d1, d2, d3⟩ := hr.dr
  have hq := h.2.1 _ d2
  have hd : σ 4 s 7 = nI (DR r) := by rw [h.1.2.2.2.1]; exact d1
  refine At.N rfl (by rw [hd]; exact v15 s _ d3) ?_
  rw [hd, nI_clamp (by omega)]
  refine At.Ci rfl (c_isIdle (6 * s + DR r) (σ 4 s 13)) ?_
  by_cases hc : σ 5 (6 * s + DR r) 2 = -1 ∧ ¬ σ 4 s 13 < σ 5 (6 * s + DR r) 1
  · rw [if_pos hc]
    rw [hq.2.2.1, h.1.2.2.2.2.2.2.2.2.2.1, hq.2.1] at hc
    refine At.Bf rfl (by decide) ?_
    refine At.F 23 [some (.inr (4, s)), some (.inl (nI 0))] [] σ rfl ?_
    have key := down_ind (N := OM r) (P := fun n => stv r n = false → At mX4_isStarved 23 [some (.inr (4, s)), some (.inl (nI n))] [] σ (evi (if isStv r then 1 else 0) σ)) ?_ ?_ 0 (Nat.zero_le _)
    · exact key rfl
    · intro hs
      refine At.Bt rfl (by rw [h.om hr]; exact (nI_leI (by omega) (by omega)).mpr (Nat.le_refl _)) ?_
      rw [if_neg (fun x => absurd x.2.2 (by rw [hs]; decide))]
      exact At.Z rfl (Or.inl rfl)
    · intro n hn ih hs
      refine At.Bf rfl (by rw [h.om hr]; exact fun x => absurd ((nI_leI (by omega) (by omega)).mp x) (by omega)) ?_
      refine At.N rfl (v12 s n (by omega)) ?_
      rw [nI_clamp (by omega)]
      refine At.Ci rfl (c_hasToPassDrum h hr hn) ?_
      by_cases ho : opn r n ∧ ¬ past r n
      · rw [if_pos ho]
        refine At.Bf rfl (by decide) ?_
        rw [if_pos ⟨hc.2, hc.1, stv_ge _ (m := n + 1) (by rw [stv, decide_eq_true ho]; simp) (by omega)⟩]
        exact At.Z rfl (Or.inr rfl)
      · rw [if_neg ho]
        refine At.Bt rfl (rfl) ?_
        refine At.J rfl ?_
        rw [nI_1]
        refine ih ?_
        rw [stv, hs, decide_eq_false ho]
        rfl
  · rw [if_neg hc]
    rw [hq.2.2.1, h.1.2.2.2.2.2.2.2.2.2.1, hq.2.1] at hc
    refine At.Bt rfl (rfl) ?_
    rw [if_neg (fun x => hc ⟨x.2.1, x.1⟩)]
    exact At.Z rfl (Or.inl rfl)
end RD2
