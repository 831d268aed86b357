/-! ===== the class reads products, statements, the whole text ===== -/
theorem cfL.Uo {σ σ1 : iM} (h : cfL σ σ1) {k i j : Nat} {x : Int32} (ho : ow2 1 k i) : cfL σ (iU σ1 k i j x) := h.Uk (by unfold ow2 own at ho; omega) (Or.inl ho)
def PGc (σ : iM) (P : Nat) (r : Row) (k : Nat) : Prop := σ 1 (6 * 1 + P) 2 = nI k ∧ σ 1 (6 * 1 + P) 3 = (if hsD r P k = true then nI (dS r P) else -1) ∧ ∀ j, j < k → σ 8 (2 * (6 * 1 + P)) j = rPs r P j ∧ σ 8 (2 * (6 * 1 + P) + 1) j = rPt r P j
section CPRD
variable {σ σ0 : iM} {T : Row} {n a b st k P : Nat} {r so : Row}
theorem PGc.at {x : Nat} (h : PGc σ P r k) : PGc (iU σ 2 0 5 (nI x)) P r k := by
  obtain ⟨h1, h2, h3⟩ := h
  exact ⟨by rw [iU_ne (by omega)]; exact h1, by rw [iU_ne (by omega)]; exact h2, fun j hj => by rw [iU_ne (by omega), iU_ne (by omega)]; exact h3 j hj⟩
theorem c_stE {x y : Int32} {d5 : Option iV} (h : ¬ σ 2 0 2 = 0) : At mX2_readStep 41 [some Rc, some Y1, some (.inr (1, P)), some (.inl x), some (.inl y), d5] [] σ (evv σ) := by
  refine At.B rfl (fun hc => ?_) (fun hc => ?_)
  · refine At.Ci rfl (c_rnE h _ _) ?_
    refine At.Bf rfl (h) ?_
    exact At.R rfl
  · refine At.Cv rfl (c_fail1 h _ _) ?_
    refine At.Ci rfl (c_rnE h _ _) ?_
    refine At.Bf rfl (h) ?_
    exact At.R rfl
theorem stU_Sh {σ1 : iM} {q t : Nat} (h : Sh σ 1 r) (hr : RI r) (hp : PM r < 6) (hk : k < 6) (h4 : ∀ i j, σ1 4 i j = σ 4 i j) (h5 : ∀ i j, σ1 5 i j = σ 5 i j) (h0 : ∀ i j, σ1 0 i j = σ 0 i j) (h1 : ∀ p j, p < PM r → σ1 1 (6 * 1 + p) j = σ 1 (6 * 1 + p) j) (h8 : ∀ x j, x < 12 + 2 * PM r → σ1 8 x j = σ 8 x j) : Sh σ1 1 (stU r k q t) := by
  have hsc := hr.sc
  have hom := hr.om
  have epm := stU_pm (r := r) (k := k) (q := q) (t := t) |>.mpr trivial
  have eom : OM (stU r k q t) = OM r := by unfold OM; rw [stU_n (by omega) hk]
  have hs : sam1 r (stU r k q t) := ⟨stU_n (by omega) hk, stU_n (by omega) hk, fun n a b => stU_n (by omega) hk⟩
  refine h.of1 hr hs (fun p hp => ⟨fun j => h1 p j hp, fun j => h8 _ _ (by omega), fun j => h8 _ _ (by omega)⟩) (h.1.same (fun j => h4 _ _) (fun n hn => stU_n (by omega) hk)) (fun x hx => ?_) (fun p hp hp2 => by omega) (fun i hi => ?_)
  · have h2 := h.2.1 x hx
    refine h2.same (fun j _ => h5 _ _) (fun w hw => stU_n (by omega) hk) ?_
    rw [h5, h2.2.2.2.2.1, wtC_same hr hs eom x (fun i w _ _ => stU_n (by omega) hk)]
  · exact h.ordS hr hs (by omega) (fun w _ => h0 _ _) (fun w _ => stU_n (by omega) hk)
theorem prd_Sh {σ1 : iM} (h : Sh σ 1 r) (hr : RI r) (hp : PM r < 6) (hk1 : 1 ≤ k) (hk : k ≤ 6) (hg : pgI r k) (hd : hsD r (PM r) k = true) (eP : P = PM r) (hc : PGc σ P r k) (e : σ1 = iU σ 4 1 5 (nI (PM r + 1))) : Sh σ1 1 (upd r 3 (nI (PM r + 1))) := by
  subst e
  have hsc := hr.sc
  have hom := hr.om
  obtain ⟨g1, g2, g3⟩ := prd_RI hr hp hk1 hk hg hd
  have ee : ∀ n, n ≠ 3 → upd r 3 (nI (PM r + 1)) n = r n := fun n hn => upd_ne' hn
  have epm : PM (upd r 3 (nI (PM r + 1))) = PM r + 1 := by
    show nn (upd r 3 (nI (PM r + 1)) 3) = _
    rw [upd_eq', nn_nI (by omega)]
  have eom : OM (upd r 3 (nI (PM r + 1))) = OM r := by unfold OM; rw [ee _ (by omega)]
  have hs : sam1 r (upd r 3 (nI (PM r + 1))) := ⟨ee _ (by omega), ee _ (by omega), fun n a b => ee _ (by omega)⟩
  refine h.of1 hr hs (fun p hp => ⟨fun j => iU_ne (by omega), fun j => iU_ne (by omega), fun j => iU_ne (by omega)⟩) ?_ (fun x hx => ?_) (fun p hp1 hp2 => ?_) (fun i hi => ?_)
  · have h1 := h.1
    have c : ∀ j, j ≠ 5 → iU σ 4 1 5 (nI (PM r + 1)) 4 1 j = σ 4 1 j := fun j hj => iU_ne (by omega)
    unfold ShS at h1 ⊢
    rw [iU_same, c 4 (by omega), c 6 (by omega), c 7 (by omega), c 8 (by omega), c 9 (by omega), c 10 (by omega), c 11 (by omega), c 12 (by omega), c 13 (by omega), c 14 (by omega), show upd r 3 (nI (PM r + 1)) 3 = nI (PM r + 1) from upd_eq', ee 1 (by omega), ee 4 (by omega), ee 2 (by omega), ee 5 (by omega), ee 6 (by omega), ee 7 (by omega), ee 8 (by omega), ee 9 (by omega), ee 0 (by omega), ee 10 (by omega)]
    exact ⟨h1.1, rfl, h1.2.2⟩
  · have h2 := h.2.1 x hx
    refine h2.same (fun j _ => iU_ne (by omega)) (fun w hw => ee _ (by omega)) ?_
    rw [iU_ne (by omega), h2.2.2.2.2.1, wtC_same hr hs eom x (fun i w _ _ => ee _ (by omega))]
  · have hpe : p = P := by omega
    subst hpe
    have hn : sN (upd r 3 (nI (PM r + 1))) p = k := by
      show nn (rPn (upd r 3 (nI (PM r + 1))) p) = k
      rw [show rPn (upd r 3 (nI (PM r + 1))) p = rPn r p from ee _ (by omega), eP, hg.1, nn_nI (by omega)]
    have h1 := hg.1
    rw [← eP] at g3 hd h1
    unfold ShP
    rw [hn, eP, ← eP, g3, iU_ne (by omega), iU_ne (by omega), hc.1, hc.2.1, if_pos hd, show rPn (upd r 3 (nI (p + 1))) p = rPn r p from upd_ne' (by omega), h1]
    refine ⟨rfl, rfl, fun j hj => ?_⟩
    rw [iU_ne (by omega), iU_ne (by omega), show rPs (upd r 3 (nI (p + 1))) p j = rPs r p j from upd_ne' (by omega), show rPt (upd r 3 (nI (p + 1))) p j = rPt r p j from upd_ne' (by omega)]
    exact hc.2.2 j hj
  · exact h.ordS hr hs (by omega) (fun w _ => iU_ne (by omega)) (fun w _ => ee _ (by omega))
end CPRD
