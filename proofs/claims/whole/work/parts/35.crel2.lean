/-! ===== the class: releaseOrders ===== -/
def relU (σ : iM) (s X q : Nat) (t : Int32) : iM := arrU (iU (iU (iU σ 0 X 5 1) 0 X 9 (σ 4 s 13)) 0 X 10 t) s X 0 q
section RL
variable {σ : iM} {s : Nat} {r : Row}
theorem own0 {s x : Nat} (h : x < 24) : own s 0 (24 * s + x) := by unfold own; omega
theorem own5 {s x : Nat} (h : x < 6) : own s 5 (6 * s + x) := by unfold own; omega
theorem own4 {s : Nat} : own s 4 s := by unfold own; omega
theorem relU_cfr {x q : Nat} {t : Int32} (hx : x < 24) (hq : q < 6) : cfr s σ (relU σ s (24 * s + x) q t) := by
  unfold relU arrU
  exact (((((cfr.rfl.U (own0 hx)).U (own0 hx)).U (own0 hx)).U (own0 hx)).U (own0 hx)).U (own5 hq)
theorem relU_csm {x q : Nat} {t : Int32} : csm s σ (relU σ s (24 * s + x) q t) := by
  unfold relU arrU
  exact (((((csm.rfl.U (by omega)).U (by omega)).U (by omega)).U (by omega)).U (by omega)).U (by omega)
theorem Sh.rel1C (h : Sh σ s r) (hr : RI r) (hs4 : s < 4) {x : Nat} (hx : x < OM r) (h0 : rO r x 3 = 0) {q : Nat} (hq : rPs r (oP r x) 0 = nI q) (hq6 : q < 6) (t : Int32) : Sh (relU σ s (24 * s + x) q t) s (rel1 r x t) := by
  obtain ⟨a1, a2, a3, a4, a5⟩ := hr.op hx
  have i0 := hr.i0 hx h0
  have hn := a4.n
  have hom : OM (rel1 r x t) = OM r := rel1_s.om
  have hox := h.2.2.2 x hx
  refine h.of hr hs4 rel1_s (relU_cfr a1 hq6) ?_ (fun q' hq' => ?_) (fun i hi => ?_)
  · have e : ∀ j, relU σ s (24 * s + x) q t 4 s j = σ 4 s j := fun j => by
      unfold relU arrU
      rw [Ukk (by omega), Ukk (by omega), Ukk (by omega), Ukk (by omega), Ukk (by omega), Ukk (by omega)]
    exact h.1.same e (fun n hn => rel1_n (by omega))
  · have hq5 : q' < 6 := by have := hr.sc; omega
    have e : ∀ j, j ≠ 4 → relU σ s (24 * s + x) q t 5 (6 * s + q') j = σ 5 (6 * s + q') j := fun j hj => by
      unfold relU arrU
      rw [U55 (by omega), Ukk (by omega), Ukk (by omega), Ukk (by omega), Ukk (by omega), Ukk (by omega)]
    have e4 : relU σ s (24 * s + x) q t 5 (6 * s + q') 4 = if q' = q then σ 5 (6 * s + q') 4 + 1 else σ 5 (6 * s + q') 4 := by
      unfold relU arrU
      by_cases hc : q' = q
      · subst hc
        rw [if_pos rfl, iU_same, Ukk (by omega), Ukk (by omega), Ukk (by omega)]
      · rw [if_neg hc, U55 (by omega), Ukk (by omega), Ukk (by omega), Ukk (by omega), Ukk (by omega), Ukk (by omega)]
    have hw := wtC_upd hom hx q' (fun j hj hne => wts_eq rel1_s (hr.op hj).2.2.1 (fun h1 => (hr.st hj h1).2.2) (rel1_o (by omega) (Or.inl hne)) (rel1_o (by omega) (Or.inl hne)) (rel1_o (by omega) (Or.inl hne)) (rel1_o (by omega) (Or.inl hne)))
    rw [if_neg (fun q => by rw [q.1] at h0; exact absurd h0 (by decide)), Nat.add_zero] at hw
    have hwx : wts (rel1 r x t) x q' ↔ q' = q := by
      have eP : oP (rel1 r x t) x = oP r x := oP_eq (rel1_o (by omega) (by omega))
      have eK : oK (rel1 r x t) x = 0 := by show nn (rO (rel1 r x t) x 4) = 0; rw [rel1_4]; rfl
      unfold wts
      rw [rel1_3, rel1_o (w := 6) (by omega) (by omega), i0.2.1, eP, eK, rel1_s.ps a3 (by omega), hq, nI_inj (by omega) (by omega)]
      exact ⟨fun q => q.2.2.symm, fun q => ⟨rfl, rfl, q.symm⟩⟩
    have h2 := h.2.1 q' hq'
    refine h2.same e (fun w hw => rel1_n (by omega)) ?_
    rw [e4, hw]
    by_cases hc : q' = q
    · rw [if_pos hc, if_pos (hwx.mpr hc), h2.2.2.2.2.1, nI_1]
    · rw [if_neg hc, if_neg (fun z => hc (hwx.mp z)), h2.2.2.2.2.1, Nat.add_zero]
  · by_cases e : i = x
    · subst e
      have c0 : ∀ w, w ≠ 5 → w ≠ 6 → w ≠ 8 → w ≠ 9 → w ≠ 10 → relU σ s (24 * s + i) q t 0 (24 * s + i) w = σ 0 (24 * s + i) w := fun w b1 b2 b3 b4 b5 => by
        unfold relU arrU
        rw [Ukk (by omega), U00 (by omega), U00 (by omega), U00 (by omega), U00 (by omega), U00 (by omega)]
      have c5 : relU σ s (24 * s + i) q t 0 (24 * s + i) 5 = 1 := by
        unfold relU arrU
        rw [Ukk (by omega), U00 (by omega), U00 (by omega), U00 (by omega), U00 (by omega), iU_same]
      have c6 : relU σ s (24 * s + i) q t 0 (24 * s + i) 6 = 0 := by
        unfold relU arrU
        rw [Ukk (by omega), U00 (by omega), iU_same]; rfl
      have c8 : relU σ s (24 * s + i) q t 0 (24 * s + i) 8 = σ 4 s 13 := by
        unfold relU arrU
        rw [Ukk (by omega), iU_same, Ukk (by omega), Ukk (by omega), Ukk (by omega)]
      have c9 : relU σ s (24 * s + i) q t 0 (24 * s + i) 9 = σ 4 s 13 := by
        unfold relU arrU
        rw [Ukk (by omega), U00 (by omega), U00 (by omega), U00 (by omega), iU_same]
      have c10 : relU σ s (24 * s + i) q t 0 (24 * s + i) 10 = t := by
        unfold relU arrU
        rw [Ukk (by omega), U00 (by omega), U00 (by omega), iU_same]
      have h13 : σ 4 s 13 = r 0 := h.1.2.2.2.2.2.2.2.2.2.1
      have hbf : bef (rel1 r i t) i := by
        refine ⟨Or.inr rel1_3, ?_⟩
        rw [oP_eq (rel1_o (by omega) (by omega)), rel1_s.ds a3, rel1_4, rel1_o (w := 6) (by omega) (by omega), i0.2.1]
        rcases Nat.eq_zero_or_pos (dS r (oP r i)) with z | z
        · exact Or.inr ⟨by rw [z]; rfl, rfl⟩
        · refine Or.inl ?_
          rw [fa_lt, nI_toInt (by have := a4.d; omega)]
          show (0 : Int) < _
          omega
      have hdb : dbg (rel1 r i t) i = -1 := if_pos (Or.inr (Or.inr hbf))
      have hdo : dbg r i = -1 := if_pos (Or.inl h0)
      unfold ShO at hox ⊢
      rw [c0 0 (by omega) (by omega) (by omega) (by omega) (by omega), c0 1 (by omega) (by omega) (by omega) (by omega) (by omega), c0 2 (by omega) (by omega) (by omega) (by omega) (by omega), c0 3 (by omega) (by omega) (by omega) (by omega) (by omega), c0 4 (by omega) (by omega) (by omega) (by omega) (by omega), c5, c6, c0 7 (by omega) (by omega) (by omega) (by omega) (by omega), c8, c9, c10, c0 11 (by omega) (by omega) (by omega) (by omega) (by omega), c0 12 (by omega) (by omega) (by omega) (by omega) (by omega), c0 13 (by omega) (by omega) (by omega) (by omega) (by omega)]
      rw [rel1_3, rel1_4, rel1_5, rel1_8, rel1_9, rel1_o (w := 0) (by omega) (by omega), rel1_o (w := 1) (by omega) (by omega), rel1_o (w := 2) (by omega) (by omega), rel1_o (w := 7) (by omega) (by omega), rel1_o (w := 11) (by omega) (by omega), rel1_o (w := 12) (by omega) (by omega), rel1_o (w := 13) (by omega) (by omega), hdb, wk_eq rel1_s a3 (by have := a4.d; omega) (rel1_o (by omega) (by omega)) (rel1_o (by omega) (by omega))]
      rw [hdo] at hox
      exact ⟨hox.1, hox.2.1, hox.2.2.1, hox.2.2.2.1, hox.2.2.2.2.1, rfl, rfl, hox.2.2.2.2.2.2.2.1, fun _ => h13, h13, fun _ => rfl, hox.2.2.2.2.2.2.2.2.2.2.2.1, hox.2.2.2.2.2.2.2.2.2.2.2.2.1, hox.2.2.2.2.2.2.2.2.2.2.2.2.2⟩
    · refine (h.2.2.2 i hi).same rel1_s (hr.op hi).2.2.1 (by have := (hr.op hi).2.2.2.1.d; omega) (fun w hw => ?_) (fun w hw => rel1_o hw (Or.inl e))
      unfold relU arrU
      rw [Ukk (by omega), U00 (by omega), U00 (by omega), U00 (by omega), U00 (by omega), U00 (by omega)]
theorem c_rel (hs4 : s < 4) {a b : Row} {Q : iRes → Prop} (F : List (Nat × Int32)) (hF : rF a b F 0) (hl : F.length ≤ 24) :
    ∀ (t v : List (Nat × Int32)) (σ' : iM) (r' : Row) (load : Int32) (d3 d4 : Option iV), F = v ++ t → RI r' → Sh σ' s r' → cfr s σ σ' → σ' 8 (48 + 2 * s) = a ∧ σ' 8 (49 + 2 * s) = b ∧ σ' 3 s 2 = nI F.length → (∀ q ∈ t, q.1 < OM r' ∧ (r' 0).toInt ≤ q.2.toInt ∧ q.2.toInt ≤ 70000) → (∀ σ1, Sh σ1 s (relF r' load t) → cfr s σ σ1 → Q (evv σ1)) →
    AtP mX4_releaseOrders 24 [some (.inr (4, s)), some (.inl load), some (.inl (nI v.length)), d3, d4] [] σ' Q := by
  intro t
  induction t with
  | nil =>
    intro v σ' r' load d3 d4 h1 h2 hS hf hm h3 hQ
    rw [List.append_nil] at h1
    subst h1
    refine AtP.Bt rfl (by rw [hm.2.2]; exact (nI_leI (by omega) (by omega)).mpr (Nat.le_refl _)) ?_
    exact AtP.R rfl (hQ _ hS hf)
  | cons y t ih =>
    obtain ⟨x, z⟩ := y
    intro v σ' r' load d3 d4 h1 h2 hS hf hm h3 hQ
    have hlen : F.length = v.length + t.length + 1 := by rw [h1]; simp; omega
    have hx : x < OM r' ∧ (r' 0).toInt ≤ z.toInt ∧ z.toInt ≤ 70000 := h3 (x, z) List.mem_cons_self
    have hom := h2.om
    have h5 := h2.2.2.2.2.2.1
    have h00 := h2.1
    have hsub : (z - r' 5).toInt = z.toInt - (r' 5).toInt := fb_subI (by omega) (by omega)
    have hg := rF_get a b F 0 v.length x z hF (by rw [h1, List.getElem?_append_right (Nat.le_refl _), Nat.sub_self]; rfl)
    rw [Nat.zero_add] at hg
    have hox := hS.2.2.2 x hx.1
    obtain ⟨a1, a2, a3, a4, a5⟩ := h2.op hx.1
    have hF2 : F = (v ++ [(x, z)]) ++ t := by rw [h1]; simp
    have hlen2 : (v ++ [(x, z)]).length = v.length + 1 := by simp
    refine AtP.Bf rfl (by rw [hm.2.2]; exact fun h => absurd ((nI_leI (by omega) (by omega)).mp h) (by omega)) ?_
    refine AtP.N rfl (by exact vA hs4 _ (by omega)) ?_
    rw [hm.1, nI_clamp (by omega), hg.1]
    refine AtP.N rfl (v12 s x (by omega)) ?_
    rw [nI_clamp (by omega)]
    refine AtP.N rfl (by exact vB hs4 _ (by omega)) ?_
    rw [hm.2.1, nI_clamp (by omega), hg.2]
    rw [relF] at hQ
    refine AtP.B rfl (fun hst => ?_) (fun hst => ?_)
    · rw [hox.2.2.2.2.2.1] at hst
      refine AtP.B rfl (fun ht => ?_) (fun ht => ?_)
      · rw [hS.1.2.2.2.2.2.2.2.2.2.1, hS.1.2.2.2.2.1] at ht
        rw [if_neg (fun q => le_nlt q.2 ht)] at hQ
        refine AtP.J rfl ?_
        rw [nI_1, ← hlen2]
        exact ih (v ++ [(x, z)]) _ _ _ _ _ hF2 h2 hS hf hm (fun q hq => h3 q (List.mem_cons_of_mem _ hq)) hQ
      · rw [hS.1.2.2.2.2.2.2.2.2.2.1, hS.1.2.2.2.2.1] at ht
        have ht2 := fa_of_nlt ht
        rw [if_pos ⟨hst, ht2⟩] at hQ
        rw [fa_le] at ht2
        refine AtP.B rfl (fun hrp => ?_) (fun hrp => ?_)
        · rw [hox.2.2.2.1, hS.1.2.2.2.2.2.2.1] at hrp
          rw [if_neg (le_nlt hrp)] at hQ
          have hp0 := a4.2.1 0 (by have := a4.n; omega)
          obtain ⟨q1, q2, q3, q4⟩ := hp0.1.toN (by omega) (by omega)
          have hpS := (hS.2.2.1 _ a5.p.2).2.2 0 (by have := a4.n; omega)
          rw [hS.1.2.2.2.2.1]
          have har := c_arrive (σ := iU (iU (iU σ' 0 (24 * s + x) 5 1) 0 (24 * s + x) 9 (iU σ' 0 (24 * s + x) 5 1 4 s 13)) 0 (24 * s + x) 10 (z - r' 5)) hs4 (X := 24 * s + x) (p := oP r' x) (k := 0) (q := nn (rPs r' (oP r' x) 0)) (by rw [U00 (by omega), U00 (by omega), U00 (by omega), hox.1]; exact a2) a3 (by omega) (by rw [Ukk (by omega), Ukk (by omega), Ukk (by omega), hpS.1]; exact q1) (by omega)
          refine AtP.Cv rfl (har) ?_
          have e9 : arrU (iU (iU (iU σ' 0 (24 * s + x) 5 1) 0 (24 * s + x) 9 (iU σ' 0 (24 * s + x) 5 1 4 s 13)) 0 (24 * s + x) 10 (z - r' 5)) s (24 * s + x) 0 (nn (rPs r' (oP r' x) 0)) = relU σ' s (24 * s + x) (nn (rPs r' (oP r' x) 0)) (z - r' 5) := by
            unfold relU
            rw [Ukk (k := 0) (k' := 4) (by omega)]
          rw [e9]
          refine AtP.J rfl ?_
          rw [nI_1, ← hlen2, hox.2.2.2.1]
          have hcs : csm s σ' (relU σ' s (24 * s + x) (nn (rPs r' (oP r' x) 0)) (z - r' 5)) := relU_csm
          refine ih (v ++ [(x, z)]) _ _ _ _ _ hF2 (h2.rel1R hx.1 hst ⟨by omega, by omega⟩) (hS.rel1C h2 hs4 hx.1 hst q1 (by omega) _) (hf.trans (relU_cfr a1 (by omega))) ⟨hcs.1.trans hm.1, hcs.2.1.trans hm.2.1, hcs.2.2.trans hm.2.2⟩ (fun q hq => ?_) hQ
          have := h3 q (List.mem_cons_of_mem _ hq)
          rw [rel1_s.om, rel1_n (by omega)]
          exact this
        · rw [hox.2.2.2.1, hS.1.2.2.2.2.2.2.1] at hrp
          rw [if_pos (fa_of_nle hrp)] at hQ
          exact AtP.R rfl (hQ _ hS hf)
    · rw [hox.2.2.2.2.2.1] at hst
      rw [if_neg (fun q => hst q.1)] at hQ
      refine AtP.J rfl ?_
      rw [nI_1, ← hlen2]
      exact ih (v ++ [(x, z)]) _ _ _ _ _ hF2 h2 hS hf hm (fun q hq => h3 q (List.mem_cons_of_mem _ hq)) hQ
theorem relF_none : ∀ (t : List (Nat × Int32)) (load : Int32), (∀ q ∈ t, ¬ rO r q.1 3 = 0) → relF r load t = r := by
  intro t
  induction t with
  | nil => intro _ _; rfl
  | cons y t ih =>
    obtain ⟨x, z⟩ := y
    intro load h
    rw [relF, if_neg (fun q => h (x, z) List.mem_cons_self q.1)]
    exact ih load (fun q hq => h q (List.mem_cons_of_mem _ hq))
/-- how many are not released -/
abbrev nrl (r : Row) : Nat := fb_ct (fun i => decide (rO r i 3 = 0)) (OM r)
theorem nrl_none (h : nrl r = 0) : ∀ i, i < OM r → ¬ rO r i 3 = 0 := fun i hi => of_decide_eq_false (fb_ct_zero.mp h i hi)
theorem c_releaseOrders (h : Sh σ s r) (hr : RI r) (hs4 : s < 4) : EvP mX4_releaseOrders [.inr (4, s)] σ (fun z => ∃ σ1, z = evv σ1 ∧ Sh σ1 s (rels r) ∧ cfr s σ σ1) := by
  obtain ⟨om1, om2⟩ := hr.om
  have hpm := hr.pm.2
  have hct : nrl r ≤ OM r := fb_ct_le _ _
  show AtP mX4_releaseOrders 0 [some (.inr (4, s)), none, none, none, none] [] σ _
  refine AtP.Ci rfl (c_countInState h hr 0) ?_
  refine AtP.B rfl (fun hc => ?_) (fun hc => ?_)
  · have hc0 : nrl r = 0 := by
      have hc1 : nI (nrl r) = nI 0 := hc
      exact (nI_inj (by omega) (by omega)).mp hc1
    exact AtP.R rfl (⟨σ, rfl, by rw [show rels r = r from relF_none _ _ (fun q hq => nrl_none hc0 q.1 (schF_mem (s := q.2) hq).1)]; exact h, cfr.rfl⟩)
  · refine AtP.CvP rfl (c_make h hr hs4) (fun σ9 h9 => ?_)
    obtain ⟨a, b, hF, rfl⟩ := h9
    have hS := h.C (a := a) (b := b) (n := nI (schF r).length) hs4 hpm
    refine AtP.Ci rfl (c_releasedWork hS hr) ?_
    refine AtP.F 24 [some (.inr (4, s)), some (.inl (ropeL r)), some (.inl (nI 0)), none, none] [] _ rfl ?_
    have hlen := schL_len r (OM r)
    have hl2 := schF_len r
    refine c_rel hs4 (schF r) hF (by omega) (schF r) [] _ r _ _ _ rfl hr hS cfr.C ⟨mC_a, mC_b, mC_n⟩ (fun q hq => ?_) (fun σ1 h1 h2 => ⟨_, rfl, h1, h2⟩)
    obtain ⟨x, z⟩ := q
    have := schF_b hr hq
    exact ⟨(schF_mem hq).1, this.1, this.2⟩
end RL
