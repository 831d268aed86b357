/-! ===== the reference: releases ===== -/
theorem rel1_o {r : Row} {i j w : Nat} {t : Int32} (hw : w < 14) (h : j ≠ i ∨ (w ≠ 3 ∧ w ≠ 4 ∧ w ≠ 5 ∧ w ≠ 8 ∧ w ≠ 9)) : rO (rel1 r i t) j w = rO r j w := by
  show rel1 r i t (131 + 14 * j + w) = _
  unfold rel1
  rw [upd_ne' (by omega), upd_ne' (by omega), upd_ne' (by omega), upd_ne' (by omega), upd_ne' (by omega)]
theorem rel1_n {r : Row} {i n : Nat} {t : Int32} (hn : n < 131) : rel1 r i t n = r n := by
  unfold rel1
  rw [upd_ne' (by omega), upd_ne' (by omega), upd_ne' (by omega), upd_ne' (by omega), upd_ne' (by omega)]
theorem rel1_3 {r : Row} {i : Nat} {t : Int32} : rO (rel1 r i t) i 3 = 1 := by
  show rel1 r i t (131 + 14 * i + 3) = _
  unfold rel1
  rw [upd_ne' (by omega), upd_ne' (by omega), upd_ne' (by omega), upd_ne' (by omega), upd_eq']
theorem rel1_4 {r : Row} {i : Nat} {t : Int32} : rO (rel1 r i t) i 4 = 0 := by
  show rel1 r i t (131 + 14 * i + 4) = _
  unfold rel1
  rw [upd_ne' (by omega), upd_ne' (by omega), upd_ne' (by omega), upd_eq']
theorem rel1_5 {r : Row} {i : Nat} {t : Int32} : rO (rel1 r i t) i 5 = r 0 := by
  show rel1 r i t (131 + 14 * i + 5) = _
  unfold rel1
  rw [upd_ne' (by omega), upd_ne' (by omega), upd_eq']
theorem rel1_8 {r : Row} {i : Nat} {t : Int32} : rO (rel1 r i t) i 8 = r 0 := by
  show rel1 r i t (131 + 14 * i + 8) = _
  unfold rel1
  rw [upd_ne' (by omega), upd_eq']
theorem rel1_9 {r : Row} {i : Nat} {t : Int32} : rO (rel1 r i t) i 9 = t := upd_eq'
theorem rel1_s {r : Row} {i : Nat} {t : Int32} : samB r (rel1 r i t) := fun _ hn => rel1_n (by omega)
theorem RIg.i0 {m : Nat → Prop} {r : Row} (h : RIg m r) {i : Nat} (hi : i < OM r) (h0 : rO r i 3 = 0) : OI0 r i := by
  rcases (h.ord hi).2.2.2.2.2.2.2.2 with q | q | q | q
  · exact q.2
  · exact q.2
  · rw [h0] at q; exact absurd q.1 (by decide)
  · rw [h0] at q; exact absurd q.1 (by decide)
theorem RIg.rel1R {m : Nat → Prop} {r : Row} (hr : RIg m r) {i : Nat} {t : Int32} (hi : i < OM r) (h0 : rO r i 3 = 0) (ht : inR t (-500) 40000) : RIg m (rel1 r i t) := by
  have hpm := hr.pm
  obtain ⟨a1, a2, a3, a4, a5⟩ := hr.op hi
  have i0 := hr.i0 hi h0
  refine hr.of rel1_s (by rw [rel1_n (by omega)]; exact hr.1) (fun j hj => ?_) (fun q hq => ?_)
  · by_cases e : j = i
    · subst e
      obtain ⟨b0, b1, b2, b3, b5, b9, b10, b12, -⟩ := a5
      have eP : oP (rel1 r j t) j = oP r j := by unfold oP; rw [rel1_o (by omega) (by omega)]
      have eK : oK (rel1 r j t) j = 0 := by unfold oK; rw [rel1_4]; rfl
      unfold OIg
      rw [eP, rel1_s.pm, rel1_5, rel1_9, rel1_3, rel1_o (w := 0) (by omega) (by omega), rel1_o (w := 1) (by omega) (by omega), rel1_o (w := 2) (by omega) (by omega), rel1_o (w := 10) (by omega) (by omega), rel1_o (w := 12) (by omega) (by omega)]
      refine ⟨b0, b1, b2, b3, hr.1, ht, b10, b12, Or.inr (Or.inr (Or.inl ⟨rfl, ?_⟩))⟩
      unfold OI1
      rw [eP, eK, rel1_s.sn a3, rel1_4, rel1_8, rel1_o (w := 11) (by omega) (by omega), rel1_o (w := 6) (by omega) (by omega), rel1_o (w := 7) (by omega) (by omega)]
      exact ⟨⟨by decide, by decide⟩, by have := a4.n; omega, hr.1, i0.2.2.2.2, Or.inl ⟨i0.2.1, i0.2.2.1⟩⟩
    · refine OIg.same rel1_s hpm.2 (hr.ord hj) (fun w hw => rel1_o hw (Or.inl e)) (fun _ _ h => ?_) (fun h => (hr.st hj h).2.2)
      rw [show rS (rel1 r i t) (nn (rPs r (oP r j) (oK r j))) 0 = rS r (nn (rPs r (oP r j) (oK r j))) 0 from ?_]
      · exact h
      · have q := hr.st hj
        obtain ⟨c1, c2, c3, c4, c5⟩ := hr.op hj
        by_cases hst : rO r j 3 = 1
        · have := (c4.2.1 _ (q hst).2.1).1.toN (by omega) (by omega)
          have h5 : nn (rPs r (oP r j) (oK r j)) ≤ 5 := this.2.1
          exact rel1_n (by omega)
        · contradiction
  · have hsc := hr.sc
    refine SI.same rel1_s (hr.sta hq) (rel1_n (by omega)) (rel1_n (by omega)) (rel1_n (by omega)) (fun hw => ?_)
    obtain ⟨w1, w2, w3, w4, w5, w6⟩ := (hr.sta hq).w hw
    have hne : nn (rS r q 0) ≠ i := fun e => by rw [e, h0] at w4; exact absurd w4 (by decide)
    exact ⟨fun w hw9 => rel1_o (by omega) (Or.inl hne), (hr.op w2).2.2.1, (hr.st w2 w4).2.2⟩
/-- the release of what has come, as far as the rope bears it -/
def relF : Row → Int32 → List (Nat × Int32) → Row
  | r, _, [] => r
  | r, load, (x, s) :: t => if rO r x 3 = 0 ∧ s - r 5 ≤ r 0 then (if r 7 < load + wk r x then r else relF (rel1 r x (s - r 5)) (load + wk r x) t) else relF r load t
def rels (r : Row) : Row := relF r (ropeL r) (schF r)
/-- all but the reference's own rows is as it was -/
def mfr (σ σ1 : iM) : Prop := ∀ k i j, ¬ (k = 8 ∧ (i = 58 ∨ i = 63 ∨ i = 64 ∨ i = 65)) → ¬ (k = 7 ∧ i = 0 ∧ j = 19) → σ1 k i j = σ k i j
theorem mfr.rfl {σ : iM} : mfr σ σ := fun _ _ _ _ _ => Eq.refl _
theorem mfr.trans {σ σ1 σ2 : iM} (h1 : mfr σ σ1) (h2 : mfr σ1 σ2) : mfr σ σ2 := fun k i j a b => (h2 k i j a b).trans (h1 k i j a b)
theorem mfr.S {σ : iM} {a b c : Row} {n : Int32} : mfr σ (mS σ a b c n) := fun k i j h1 h2 => by
  simp only [mS]
  rw [if_neg (fun q => h1 ⟨q.1, by omega⟩), if_neg (fun q => h1 ⟨q.1, by omega⟩), if_neg (fun q => h1 ⟨q.1, by omega⟩), if_neg h2]
theorem mfr.R {σ : iM} {r : Row} : mfr σ (mR σ 58 r) := fun k i j h1 h2 => by
  simp only [mR]
  rw [if_neg (fun q => h1 ⟨q.1, by omega⟩)]
theorem mR_a {σ : iM} {r : Row} {a : Nat} (h : a ≠ 58) : mR σ 58 r 8 a = σ 8 a := by funext j; exact mR_ne (by omega)
theorem mR_7 {σ : iM} {r : Row} {i j : Nat} : mR σ 58 r 7 i j = σ 7 i j := mR_ne (by omega)
theorem e_rel {σ : iM} {a b c : Row} {Q : iRes → Prop} (F : List (Nat × Int32)) (hF : rF a b F 0) (hl : F.length ≤ 24) :
    ∀ (t v : List (Nat × Int32)) (r' : Row) (load : Int32) (d3 d4 : Option iV), F = v ++ t → RI r' → (∀ q ∈ t, q.1 < OM r' ∧ (r' 0).toInt ≤ q.2.toInt ∧ q.2.toInt ≤ 70000) → Q (evv (mR (mS σ a b c (nI F.length)) 58 (relF r' load t))) →
    AtP mX7_releases 11 [some M, some (.inl load), some (.inl (nI v.length)), d3, d4] [] (mR (mS σ a b c (nI F.length)) 58 r') Q := by
  intro t
  induction t with
  | nil =>
    intro v r' load d3 d4 h1 h2 h3 hQ
    rw [List.append_nil] at h1
    subst h1
    refine AtP.Bt rfl (by rw [mR_7, mS_n]; exact (nI_leI (by omega) (by omega)).mpr (Nat.le_refl _)) ?_
    exact AtP.R rfl (hQ)
  | cons y t ih =>
    obtain ⟨x, s⟩ := y
    intro v r' load d3 d4 h1 h2 h3 hQ
    have hlen : F.length = v.length + t.length + 1 := by rw [h1]; simp; omega
    have hx : x < OM r' ∧ (r' 0).toInt ≤ s.toInt ∧ s.toInt ≤ 70000 := h3 (x, s) List.mem_cons_self
    have hom := h2.om
    have h5 := h2.2.2.2.2.2.1
    have h00 := h2.1
    have hsub : (s - r' 5).toInt = s.toInt - (r' 5).toInt := fb_subI (by omega) (by omega)
    have hg := rF_get a b F 0 v.length x s hF (by rw [h1, List.getElem?_append_right (Nat.le_refl _), Nat.sub_self]; rfl)
    rw [Nat.zero_add] at hg
    refine AtP.Bf rfl (by rw [mR_7, mS_n]; exact fun h => absurd ((nI_leI (by omega) (by omega)).mp h) (by omega)) ?_
    refine AtP.N rfl (by exact v63 _ (by omega)) ?_
    rw [mR_a (by omega), mS_a, nI_clamp (by omega), hg.1]
    refine AtP.N rfl (by exact v64 _ (by omega)) ?_
    rw [mR_a (by omega), mS_b, nI_clamp (by omega), hg.2]
    refine AtP.N rfl (v58 5 (by omega)) ?_
    rw [mR_at, t5]
    refine AtP.Ci rfl (e_order x 3 (by omega) (by omega) _) ?_
    rw [mR_at]
    have hF2 : F = (v ++ [(x, s)]) ++ t := by rw [h1]; simp
    have hlen2 : (v ++ [(x, s)]).length = v.length + 1 := by simp
    rw [relF] at hQ
    refine AtP.B rfl (fun hs => ?_) (fun hs => ?_)
    · refine AtP.N rfl (v58 0 (by omega)) ?_
      rw [mR_at, t0]
      refine AtP.B rfl (fun ht => ?_) (fun ht => ?_)
      · rw [if_pos ⟨hs, ht⟩] at hQ
        have hwk := e_workAtDrum (σ := mR (mS σ a b c (nI F.length)) 58 r') (by rw [mR_at]; exact h2) (i := x) (by rw [mR_at]; exact hx.1)
        rw [mR_at] at hwk
        refine AtP.Ci rfl (hwk) ?_
        refine AtP.N rfl (v58 7 (by omega)) ?_
        rw [mR_at, t7]
        refine AtP.B rfl (fun hrp => ?_) (fun hrp => ?_)
        · rw [if_neg (le_nlt hrp)] at hQ
          have hre := e_release (σ := mR (mS σ a b c (nI F.length)) 58 r') (i := x) (by omega) (s - r' 5)
          rw [mR_at, mR_mR] at hre
          refine AtP.Cv rfl (hre) ?_
          refine AtP.J rfl ?_
          rw [nI_1, ← hlen2]
          rw [fa_le] at ht
          refine ih (v ++ [(x, s)]) _ _ _ _ hF2 (h2.rel1R hx.1 hs ⟨by omega, by omega⟩) (fun q hq => ?_) hQ
          have := h3 q (List.mem_cons_of_mem _ hq)
          rw [rel1_s.om, rel1_n (by omega)]
          exact this
        · rw [if_pos (fa_of_nle hrp)] at hQ
          exact AtP.R rfl (hQ)
      · rw [if_neg (fun q => ht q.2)] at hQ
        refine AtP.J rfl ?_
        refine AtP.J rfl ?_
        rw [nI_1, ← hlen2]
        exact ih (v ++ [(x, s)]) _ _ _ _ hF2 h2 (fun q hq => h3 q (List.mem_cons_of_mem _ hq)) hQ
    · rw [if_neg (fun q => hs q.1)] at hQ
      refine AtP.J rfl ?_
      rw [nI_1, ← hlen2]
      exact ih (v ++ [(x, s)]) _ _ _ _ hF2 h2 (fun q hq => h3 q (List.mem_cons_of_mem _ hq)) hQ
theorem e_releases {σ : iM} (hr : RI (σ 8 58)) : EvP mX7_releases [M] σ (fun r => ∃ σ1, r = evv σ1 ∧ σ1 8 58 = rels (σ 8 58) ∧ mfr σ σ1) := by
  obtain ⟨om1, om2⟩ := hr.om
  show AtP mX7_releases 0 [some M, none, none, none, none] [] σ _
  refine AtP.CvP rfl (e_lays hr) (fun σ9 h9 => ?_)
  obtain ⟨a, b, c, h1, h2, rfl⟩ := h9
  have hrp := e_ropeNow (σ := mS σ a b c (nI (schF (σ 8 58)).length)) (by rw [mS_58]; exact hr)
  rw [mS_58] at hrp
  refine AtP.Ci rfl (hrp) ?_
  refine AtP.F 11 [some M, some (.inl (ropeL (σ 8 58))), some (.inl (nI 0)), none, none] [] _ rfl ?_
  have hst : mS σ a b c (nI (schF (σ 8 58)).length) = mR (mS σ a b c (nI (schF (σ 8 58)).length)) 58 (σ 8 58) := by
    conv => lhs; rw [← mR_self (σ := mS σ a b c (nI (schF (σ 8 58)).length)) (a := 58), mS_58]
  rw [hst]
  have hlen := schL_len (σ 8 58) (OM (σ 8 58))
  have hl2 := schF_len (σ 8 58)
  refine e_rel (schF (σ 8 58)) h1 (by omega) (schF (σ 8 58)) [] (σ 8 58) _ _ _ rfl hr (fun q hq => ?_) ⟨_, rfl, ?_, ?_⟩
  · obtain ⟨x, s⟩ := q
    have := schF_b hr hq
    exact ⟨(schF_mem hq).1, this.1, this.2⟩
  · rw [mR_at]; rfl
  · exact mfr.S.trans mfr.R
