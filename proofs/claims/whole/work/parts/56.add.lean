/-! ===== an order is added ===== -/
def zr (r : Row) (at0 n : Nat) : Row := fun k => if at0 ≤ k ∧ k < at0 + n then 0 else r k
theorem zr_s {r : Row} {a n : Nat} : upd (zr r a n) (a + n) 0 = zr r a (n + 1) := by
  funext k
  unfold upd zr
  by_cases c : k = a + n
  · rw [if_pos c, if_pos (by omega)]
  · rw [if_neg c]
    by_cases d : a ≤ k ∧ k < a + n
    · rw [if_pos d, if_pos (by omega)]
    · rw [if_neg d, if_neg (by omega)]
theorem zr_0 {r : Row} {a : Nat} : zr r a 0 = r := by funext k; exact if_neg (by omega)
theorem zr_in {r : Row} {a n k : Nat} (h : a ≤ k ∧ k < a + n) : zr r a n k = 0 := if_pos h
theorem zr_out {r : Row} {a n k : Nat} (h : ¬ (a ≤ k ∧ k < a + n)) : zr r a n k = r k := if_neg h
def layR (r : Row) (p : Nat) (q d : Int32) : Row :=
  upd (upd (upd (upd (upd (upd (upd (upd (zr r (131 + 14 * OM r) 14) (131 + 14 * OM r + 0) (nI p)) (131 + 14 * OM r + 1) q) (131 + 14 * OM r + 2) d) (131 + 14 * OM r + 4) (-1)) (131 + 14 * OM r + 8) (-1)) (131 + 14 * OM r + 11) (-1)) (131 + 14 * OM r + 13) (-1)) 4 (r 4 + 1)
section LAY
variable {r : Row} {p : Nat} {q d : Int32}
theorem lay_n {n : Nat} (h : n < 131 + 14 * OM r ∨ 131 + 14 * OM r + 14 ≤ n) (h4 : n ≠ 4) : layR r p q d n = r n := by
  unfold layR
  rw [upd_ne' (by omega), upd_ne' (by omega), upd_ne' (by omega), upd_ne' (by omega), upd_ne' (by omega), upd_ne' (by omega), upd_ne' (by omega), upd_ne' (by omega), zr_out (by omega)]
theorem lay_o {i w : Nat} (h : i < OM r) (hw : w < 14) : rO (layR r p q d) i w = rO r i w := lay_n (by omega) (by omega)
theorem lay_4 : layR r p q d 4 = r 4 + 1 := upd_eq'
theorem lay_0 : rO (layR r p q d) (OM r) 0 = nI p := by
  unfold layR rO
  rw [upd_ne' (by omega), upd_ne' (by omega), upd_ne' (by omega), upd_ne' (by omega), upd_ne' (by omega), upd_ne' (by omega), upd_ne' (by omega), upd_eq']
theorem lay_1 : rO (layR r p q d) (OM r) 1 = q := by
  unfold layR rO
  rw [upd_ne' (by omega), upd_ne' (by omega), upd_ne' (by omega), upd_ne' (by omega), upd_ne' (by omega), upd_ne' (by omega), upd_eq']
theorem lay_2 : rO (layR r p q d) (OM r) 2 = d := by
  unfold layR rO
  rw [upd_ne' (by omega), upd_ne' (by omega), upd_ne' (by omega), upd_ne' (by omega), upd_ne' (by omega), upd_eq']
theorem lay_4' : rO (layR r p q d) (OM r) 4 = -1 := by
  unfold layR rO
  rw [upd_ne' (by omega), upd_ne' (by omega), upd_ne' (by omega), upd_ne' (by omega), upd_eq']
theorem lay_8 : rO (layR r p q d) (OM r) 8 = -1 := by
  unfold layR rO
  rw [upd_ne' (by omega), upd_ne' (by omega), upd_ne' (by omega), upd_eq']
theorem lay_11 : rO (layR r p q d) (OM r) 11 = -1 := by
  unfold layR rO
  rw [upd_ne' (by omega), upd_ne' (by omega), upd_eq']
theorem lay_13 : rO (layR r p q d) (OM r) 13 = -1 := by
  unfold layR rO
  rw [upd_ne' (by omega), upd_eq']
theorem lay_z {w : Nat} (hw : w < 14) (h : w ≠ 0 ∧ w ≠ 1 ∧ w ≠ 2 ∧ w ≠ 4 ∧ w ≠ 8 ∧ w ≠ 11 ∧ w ≠ 13) : rO (layR r p q d) (OM r) w = 0 := by
  unfold layR rO
  rw [upd_ne' (by omega), upd_ne' (by omega), upd_ne' (by omega), upd_ne' (by omega), upd_ne' (by omega), upd_ne' (by omega), upd_ne' (by omega), upd_ne' (by omega), zr_in (by omega)]
theorem lay_s (hpm : PM r ≤ 6) : sam1 r (layR r p q d) := ⟨lay_n (by omega) (by omega), lay_n (by omega) (by omega), fun n a b => lay_n (by omega) (by omega)⟩
theorem lay_om (h4 : r 4 = nI (OM r)) (hom : OM r < 24) : OM (layR r p q d) = OM r + 1 := by
  show nn (layR r p q d 4) = _
  rw [lay_4, h4, nI_1, nn_nI (by omega)]
theorem lay_pm : PM (layR r p q d) = PM r := by unfold PM; rw [lay_n (by omega) (by omega)]
theorem lay_RI (hr : RI r) (hom : OM r < 24) (hp : p < PM r) (hq : inR q 1 50) (hd : inR d 0 30000) : RI (layR r p q d) := by
  have hpm := hr.pm
  have h4 := hr.om
  have hs := lay_s (p := p) (q := q) (d := d) hpm.2
  have hom' := lay_om (p := p) (q := q) (d := d) h4.1 hom
  obtain ⟨a0, a1, a2, a3, a4, a5, a6, a7, a8, a9, -⟩ := id hr
  have hsc := hr.sc
  refine hr.of1 hs (inR.eq (lay_n (by omega) (by omega)) a0) (inR.eq (lay_n (by omega) (by omega)) a3) ?_ (inR.eq (lay_n (by omega) (by omega)) a5) (inR.eq (lay_n (by omega) (by omega)) a6) (inR.eq (lay_n (by omega) (by omega)) a7) (inR.eq (lay_n (by omega) (by omega)) a8) (inR.eq (lay_n (by omega) (by omega)) a9) (fun p' hp' hp2 => by rw [lay_pm] at hp'; omega) (fun i hi => ?_) (fun x hx => ?_)
  · rw [lay_4, h4.1, nI_1]
    refine ⟨?_, ?_⟩ <;> rw [nI_toInt (by omega)] <;> omega
  · rw [hom'] at hi
    by_cases e : i < OM r
    · exact hr.oS e hs (by rw [lay_pm]; exact Nat.le_refl _) (fun w hw => lay_o e hw) (fun x _ => lay_n (by omega) (by omega))
    · have e : i = OM r := by omega
      subst e
      have eP : oP (layR r p q d) (OM r) = p := by unfold oP; rw [lay_0, nn_nI (by omega)]
      unfold OIg OI0
      rw [eP, lay_pm, lay_0, lay_1, lay_2, lay_4', lay_8, lay_11, lay_z (w := 3) (by omega) (by omega), lay_z (w := 5) (by omega) (by omega), lay_z (w := 6) (by omega) (by omega), lay_z (w := 7) (by omega) (by omega), lay_z (w := 9) (by omega) (by omega), lay_z (w := 10) (by omega) (by omega), lay_z (w := 12) (by omega) (by omega)]
      have z0 : ∀ a b : Int, a ≤ 0 → 0 ≤ b → inR 0 a b := fun a b x y => ⟨x, y⟩
      refine ⟨⟨?_, ?_⟩, hp, hq, hd, z0 _ _ (by omega) (by omega), z0 _ _ (by omega) (by omega), z0 _ _ (by omega) (by omega), Or.inl rfl, Or.inl ⟨rfl, rfl, rfl, rfl, rfl, rfl⟩⟩ <;> rw [nI_toInt (by omega)] <;> omega
  · have h2 := hr.sta hx
    exact h2.same1 hr hs (by omega) (lay_n (by omega) (by omega)) (inR.eq (lay_n (by omega) (by omega)) h2.1) (inR.eq (lay_n (by omega) (by omega)) h2.2.1) (fun hne w hw => lay_o (h2.w hne).2.1 (by omega))
end LAY
section ENT
variable {σ : iM} {s : Nat} {r : Row}
def clrU (σ : iM) (x : Nat) : iM := iU (iU (iU (iU (iU (iU (iU (iU (iU (iU σ 0 x 4 0) 0 x 5 0) 0 x 6 (-1)) 0 x 7 0) 0 x 8 (-1)) 0 x 9 (-1)) 0 x 10 (-1000000)) 0 x 11 (-1)) 0 x 12 (-1)) 0 x 13 (-1)
theorem c_ordClear (x : Nat) : Ev mX0_clear [.inr (0, x)] σ (evv (clrU σ x)) := by
  show At mX0_clear 0 [some (.inr (0, x))] [] σ _
  refine At.N rfl (Or.inl rfl) ?_
  exact At.R rfl
def entU (σ : iM) (s x : Nat) (p q d w n : Int32) : iM := iU (iU (iU (iU (iU (clrU σ x) 0 x 0 p) 0 x 1 q) 0 x 2 d) 0 x 3 w) 4 s 6 n
theorem entU_k {k i j x : Nat} {p q d w n : Int32} (h : ¬ (k = 0 ∧ i = x)) (h2 : ¬ (k = 4 ∧ i = s ∧ j = 6)) : entU σ s x p q d w n k i j = σ k i j := by
  unfold entU clrU
  rw [iU_ne (by omega), iU_ne (by omega), iU_ne (by omega), iU_ne (by omega), iU_ne (by omega), iU_ne (by omega), iU_ne (by omega), iU_ne (by omega), iU_ne (by omega), iU_ne (by omega), iU_ne (by omega), iU_ne (by omega), iU_ne (by omega), iU_ne (by omega), iU_ne (by omega)]
theorem c_enter (h : Sh σ s r) (hr : RI r) (hs4 : s < 4) (hom : OM r < 24) {p : Nat} (hp : p < PM r) (q d : Int32) : Ev mX4_enter [.inr (4, s), .inl (nI p), .inl q, .inl d] σ (evi (nI (OM r)) (entU σ s (24 * s + OM r) (nI p) q d (rPt r p (dS r p) * q) (nI (OM r + 1)))) := by
  have hpm := hr.pm
  have e4 := h.om hr
  show At mX4_enter 0 [some (.inr (4, s)), some (.inl (nI p)), some (.inl q), some (.inl d), none, none] [] σ _
  refine At.N rfl (by rw [e4]; exact v12 s _ hom) ?_
  rw [e4, nI_clamp (by omega)]
  refine At.Cv rfl (c_ordClear _) ?_
  refine At.N rfl (v13 s p (by omega)) ?_
  rw [nI_clamp (by omega)]
  have hP : ShP (iU (iU (iU (clrU σ (24 * s + OM r)) 0 (24 * s + OM r) 0 (nI p)) 0 (24 * s + OM r) 1 q) 0 (24 * s + OM r) 2 d) s r p := by
    have h1 := h.2.2.1 p hp
    have k1 : ∀ k i j, k ≠ 0 → iU (iU (iU (clrU σ (24 * s + OM r)) 0 (24 * s + OM r) 0 (nI p)) 0 (24 * s + OM r) 1 q) 0 (24 * s + OM r) 2 d k i j = σ k i j := fun k i j hk => by
      unfold clrU
      rw [iU_ne (by omega), iU_ne (by omega), iU_ne (by omega), iU_ne (by omega), iU_ne (by omega), iU_ne (by omega), iU_ne (by omega), iU_ne (by omega), iU_ne (by omega), iU_ne (by omega), iU_ne (by omega), iU_ne (by omega), iU_ne (by omega)]
    unfold ShP at h1 ⊢
    rw [k1 1 _ _ (by omega), k1 1 _ _ (by omega)]
    refine ⟨h1.1, h1.2.1, fun k hk => ?_⟩
    rw [k1 8 _ _ (by omega), k1 8 _ _ (by omega)]
    exact h1.2.2 k hk
  refine At.Ci rfl (c_drumTime hP (hr.prd hp) hs4 (by omega)) ?_
  refine At.Re rfl ?_
  unfold entU
  congr 1
  unfold clrU
  rw [iU_ne (by omega), iU_ne (by omega), iU_ne (by omega), iU_ne (by omega), iU_ne (by omega), iU_ne (by omega), iU_ne (by omega), iU_ne (by omega), iU_ne (by omega), iU_ne (by omega), iU_ne (by omega), iU_ne (by omega), iU_ne (by omega), iU_ne (by omega), e4, nI_1]
theorem Sh.ent (h : Sh σ s r) (hr : RI r) (hs4 : s < 4) (hom : OM r < 24) {p : Nat} (hp : p < PM r) (q d : Int32) : Sh (entU σ s (24 * s + OM r) (nI p) q d (rPt r p (dS r p) * q) (nI (OM r + 1))) s (layR r p q d) := by
  have hpm := hr.pm
  have h4 := hr.om
  have hsc := hr.sc
  have hs := lay_s (p := p) (q := q) (d := d) hpm.2
  have hom' := lay_om (p := p) (q := q) (d := d) h4.1 hom
  refine h.of1 hr hs (fun p' hp' => ⟨fun j => entU_k (by omega) (by omega), fun j => entU_k (by omega) (by omega), fun j => entU_k (by omega) (by omega)⟩) ?_ (fun x hx => ?_) (fun p' hp' hp2 => by rw [lay_pm] at hp'; omega) (fun i hi => ?_)
  · have h1 := h.1
    have e6 : entU σ s (24 * s + OM r) (nI p) q d (rPt r p (dS r p) * q) (nI (OM r + 1)) 4 s 6 = nI (OM r + 1) := iU_same
    have k4 : ∀ j, j ≠ 6 → entU σ s (24 * s + OM r) (nI p) q d (rPt r p (dS r p) * q) (nI (OM r + 1)) 4 s j = σ 4 s j := fun j hj => entU_k (by omega) (by omega)
    unfold ShS at h1 ⊢
    rw [e6, k4 4 (by omega), k4 5 (by omega), k4 7 (by omega), k4 8 (by omega), k4 9 (by omega), k4 10 (by omega), k4 11 (by omega), k4 12 (by omega), k4 13 (by omega), k4 14 (by omega), lay_4, lay_n (by omega) (by omega), lay_n (by omega) (by omega), lay_n (by omega) (by omega), lay_n (by omega) (by omega), lay_n (by omega) (by omega), lay_n (by omega) (by omega), lay_n (by omega) (by omega), lay_n (by omega) (by omega), lay_n (by omega) (by omega), lay_n (by omega) (by omega)]
    exact ⟨h1.1, h1.2.1, by rw [h4.1, nI_1], h1.2.2.2⟩
  · have h2 := h.2.1 x hx
    refine h2.same (fun j _ => entU_k (by omega) (by omega)) (fun w hw => lay_n (by omega) (by omega)) ?_
    rw [entU_k (by omega) (by omega), h2.2.2.2.2.1]
    congr 1
    unfold wtC
    rw [hom', fb_ct_succ, if_neg, Nat.add_zero]
    · exact (fb_ct_cong (fun i hi => decide_eq_decide.mpr (wts_eq1 hs (hr.ord hi).2.1 (fun h1 => (hr.st hi h1).2.2) (lay_o hi (by omega)) (lay_o hi (by omega)) (lay_o hi (by omega)) (lay_o hi (by omega))))).symm
    · rw [decide_eq_true_eq]
      intro z
      have := z.1
      rw [lay_z (w := 3) (by omega) (by omega)] at this
      exact absurd this (by decide)
  · rw [hom'] at hi
    by_cases e : i < OM r
    · exact h.ordS hr hs e (fun w hw => entU_k (by omega) (by omega)) (fun w hw => lay_o e hw)
    · have e : i = OM r := by omega
      subst e
      have eP : oP (layR r p q d) (OM r) = p := by unfold oP; rw [lay_0, nn_nI (by omega)]
      have hd := (hr.prd hp).d
      have ew : wk (layR r p q d) (OM r) = rPt r p (dS r p) * q := by
        unfold wk
        rw [eP, hs.ds hp, hs.pt hp hd.2.1, lay_1]
      have z3 : rO (layR r p q d) (OM r) 3 = 0 := lay_z (by omega) (by omega)
      have ed : dbg (layR r p q d) (OM r) = -1 := if_pos (Or.inl z3)
      unfold ShO
      rw [ew, ed, z3, lay_0, lay_1, lay_2, lay_4', lay_8, lay_11, lay_13, lay_z (w := 5) (by omega) (by omega), lay_z (w := 7) (by omega) (by omega), lay_z (w := 9) (by omega) (by omega), lay_z (w := 12) (by omega) (by omega)]
      unfold entU clrU
      refine ⟨?_, ?_, ?_, ?_, ?_, ?_, ?_, ?_, fun z => absurd z (by decide), ?_, fun z => absurd z (by decide), ?_, ?_, ?_⟩
      · rw [iU_ne (by omega), iU_ne (by omega), iU_ne (by omega), iU_ne (by omega), iU_same]
      · rw [iU_ne (by omega), iU_ne (by omega), iU_ne (by omega), iU_same]
      · rw [iU_ne (by omega), iU_ne (by omega), iU_same]
      · rw [iU_ne (by omega), iU_same]
      · rw [iU_ne (by omega), iU_ne (by omega), iU_ne (by omega), iU_ne (by omega), iU_ne (by omega), iU_ne (by omega), iU_ne (by omega), iU_ne (by omega), iU_ne (by omega), iU_ne (by omega), iU_ne (by omega), iU_ne (by omega), iU_ne (by omega), iU_ne (by omega), iU_same]
      · rw [iU_ne (by omega), iU_ne (by omega), iU_ne (by omega), iU_ne (by omega), iU_ne (by omega), iU_ne (by omega), iU_ne (by omega), iU_ne (by omega), iU_ne (by omega), iU_ne (by omega), iU_ne (by omega), iU_ne (by omega), iU_ne (by omega), iU_same]
      · rw [iU_ne (by omega), iU_ne (by omega), iU_ne (by omega), iU_ne (by omega), iU_ne (by omega), iU_ne (by omega), iU_ne (by omega), iU_ne (by omega), iU_ne (by omega), iU_ne (by omega), iU_ne (by omega), iU_ne (by omega), iU_same]
      · rw [iU_ne (by omega), iU_ne (by omega), iU_ne (by omega), iU_ne (by omega), iU_ne (by omega), iU_ne (by omega), iU_ne (by omega), iU_ne (by omega), iU_ne (by omega), iU_ne (by omega), iU_ne (by omega), iU_same]
      · rw [iU_ne (by omega), iU_ne (by omega), iU_ne (by omega), iU_ne (by omega), iU_ne (by omega), iU_ne (by omega), iU_ne (by omega), iU_ne (by omega), iU_ne (by omega), iU_same]
      · rw [iU_ne (by omega), iU_ne (by omega), iU_ne (by omega), iU_ne (by omega), iU_ne (by omega), iU_ne (by omega), iU_ne (by omega), iU_same]
      · rw [iU_ne (by omega), iU_ne (by omega), iU_ne (by omega), iU_ne (by omega), iU_ne (by omega), iU_ne (by omega), iU_same]
      · rw [iU_ne (by omega), iU_ne (by omega), iU_ne (by omega), iU_ne (by omega), iU_ne (by omega), iU_same]
theorem ent_cfr (hom : OM r < 24) {p q d w n : Int32} : cfr s σ (entU σ s (24 * s + OM r) p q d w n) := fun k i j hk => entU_k (fun z => hk (by unfold own; omega)) (fun z => hk (by unfold own; omega))
/-- the reference lays an order -/
theorem e_laysOrder (a : Nat) (ha : iN 8 a = 467) (h4 : σ 8 a 4 = nI (OM (σ 8 a))) (hom : OM (σ 8 a) < 24) (p : Nat) (q d : Int32) : Ev mX7_laysOrder [.inr (8, a), .inl (nI p), .inl q, .inl d] σ (evv (mR σ a (layR (σ 8 a) p q d))) := by
  have va : ∀ n, n < 467 → vp_in (nI n) (iN 8 a) := fun n hn => by rw [ha]; exact vin hn (by omega)
  have ix : ∀ n : Nat, (131 + 14 * nI n : Int32) = nI (131 + 14 * n) := fun n => by rw [show (131 : Int32) = nI 131 from rfl, show (14 : Int32) = nI 14 from rfl, nI_mul, nI_add]
  show At mX7_laysOrder 0 [some (.inr (8, a)), some (.inl (nI p)), some (.inl q), some (.inl d), none, none] [] σ _
  refine At.N rfl (va 4 (by omega)) ?_
  rw [t4, h4]
  refine At.F 15 [some (.inr (8, a)), some (.inl (nI p)), some (.inl q), some (.inl d), some (.inl (131 + 14 * nI (OM (σ 8 a)))), some (.inl (nI 0))] [] σ rfl ?_
  rw [ix]
  have hz : σ = mR σ a (zr (σ 8 a) (131 + 14 * OM (σ 8 a)) 0) := by rw [zr_0, mR_self]
  generalize hr : σ 8 a = r at *
  have L : ∀ n, n ≤ 14 → At mX7_laysOrder 15 [some (.inr (8, a)), some (.inl (nI p)), some (.inl q), some (.inl d), some (.inl (nI (131 + 14 * OM r))), some (.inl (nI n))] [] (mR σ a (zr r (131 + 14 * OM r) n)) (evv (mR σ a (layR r p q d))) := by
    refine down_ind (N := 14) ?_ ?_
    · refine At.Bt rfl (by decide) ?_
      have nx : ∀ w, w < 14 → nI (131 + 14 * OM r) + nI w = nI (131 + 14 * OM r + w) := fun w _ => by rw [nI_add]
      refine At.N rfl (by rw [show (0 : Int32) = nI 0 from rfl, nI_add]; exact va _ (by omega)) ?_
      refine At.N rfl (by rw [show (1 : Int32) = nI 1 from rfl, nI_add]; exact va _ (by omega)) ?_
      refine At.N rfl (by rw [show (2 : Int32) = nI 2 from rfl, nI_add]; exact va _ (by omega)) ?_
      refine At.N rfl (by rw [show (4 : Int32) = nI 4 from rfl, nI_add]; exact va _ (by omega)) ?_
      refine At.N rfl (by rw [show (8 : Int32) = nI 8 from rfl, nI_add]; exact va _ (by omega)) ?_
      refine At.N rfl (by rw [show (11 : Int32) = nI 11 from rfl, nI_add]; exact va _ (by omega)) ?_
      refine At.N rfl (by rw [show (13 : Int32) = nI 13 from rfl, nI_add]; exact va _ (by omega)) ?_
      refine At.N rfl (va 4 (by omega)) ?_
      refine At.N rfl (va 4 (by omega)) ?_
      refine At.Re rfl ?_
      rw [show (0 : Int32) = nI 0 from rfl, show (1 : Int32) = nI 1 from rfl, show (2 : Int32) = nI 2 from rfl, show (4 : Int32) = nI 4 from rfl, show (8 : Int32) = nI 8 from rfl, show (11 : Int32) = nI 11 from rfl, show (13 : Int32) = nI 13 from rfl]
      rw [nI_add, nI_add, nI_add, nI_add, nI_add, nI_add, nI_add, nI_clamp (by omega), nI_clamp (by omega), nI_clamp (by omega), nI_clamp (by omega), nI_clamp (by omega), nI_clamp (by omega), nI_clamp (by omega), nI_clamp (by omega)]
      simp only [iU_mR, mR_at, mR_mR]
      congr 1
      unfold layR
      congr 1
      rw [upd_ne' (by omega), upd_ne' (by omega), upd_ne' (by omega), upd_ne' (by omega), upd_ne' (by omega), upd_ne' (by omega), upd_ne' (by omega), zr_out (by omega)]
      rfl
    · intro n hn ih
      refine At.Bf rfl (by rw [show (14 : Int32) = nI 14 from rfl]; exact ge_n (by omega) hn) ?_
      refine At.N rfl (by rw [nI_add]; exact va _ (by omega)) ?_
      rw [nI_add, nI_clamp (by omega), iU_mR, mR_at, mR_mR, zr_s]
      refine At.J rfl ?_
      rw [nI_1]
      exact ih
  have := L 0 (by omega)
  rw [← hz] at this
  exact this
end ENT
