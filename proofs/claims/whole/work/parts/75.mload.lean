/-! ===== the reference loads ===== -/
section MLD
variable {σ σ0 : iM} {T : Row} {n a b st : Nat} {r so R : Row}
theorem e_set1 (h : OKm σ0 σ T n b st r so) {lo hi : Int32} (hlo : 0 ≤ lo.toInt) (hhi : hi.toInt ≤ 30000) (w : Nat) (hw : w < 467) (h4 : w ≠ 4) :
    (∃ V d, nmb T n lo.toInt hi.toInt b = .inr (V, d) ∧ Ev mX7_number [M, .inl lo, .inl hi] σ (evi (nI V) (nxU σ d (nmA T n b))) ∧ OKm σ0 (nxU σ d (nmA T n b)) T n d st r so ∧ OKm σ0 (iU (nxU σ d (nmA T n b)) 8 59 w (nI V)) T n d st (upd r w (nI V)) so) ∨
    (∃ k q σ1, nmb T n lo.toInt hi.toInt b = .inl (k, q) ∧ Ev mX7_number [M, .inl lo, .inl hi] σ (evi lo σ1) ∧ ERm σ0 (iU σ1 8 59 w lo) T n st k q) := by
  rcases e_nm h hlo hhi with ⟨V, d, e, e1, e2, e3, e4⟩ | ⟨kd, q, σ1, e, e1, e2, e3⟩
  · refine Or.inl ⟨V, d, e, e3, e4, ?_⟩
    rw [iU_mR, e4.2.2.2.1]
    exact e4.R (by unfold OM; rw [upd_ne' (by omega)])
  · refine Or.inr ⟨kd, q, σ1, e, e1, ?_⟩
    rw [iU_mR]
    exact e2.R
theorem e_stmt (h : OKm σ0 σ T n a st r so) (hr : RI r) (hfr : frs r) : EvP mX7_statement [M] σ (fun z => ∃ σ1, z = evv σ1 ∧ OUm σ0 σ1 T n st (stF T n st a r so)) := by
  have hA : a ≤ wdA T n a ∧ wdA T n a ≤ n ∧ ¬ (wdA T n a < n ∧ isSp (T (wdA T n a)) = true) := sc_b h.1.2.2.2.1
  have hE : wdA T n a ≤ wdE T n a ∧ wdE T n a ≤ n ∧ ¬ (wdE T n a < n ∧ isLt (T (wdE T n a)) = true) := sc_b hA.2.1
  show AtP mX7_statement 0 [some M] [] σ _
  refine AtP.Cv rfl (e_reads h.1) ?_
  have g : OKm σ0 (nxU σ (wdE T n a) (wdA T n a)) T n (wdE T n a) st r so := h.nx hE.2.1
  have g9 : nxU σ (wdE T n a) (wdA T n a) 7 0 9 = nI (wdA T n a) := nx_9
  rw [show nxU σ (sc isLt T n (nmA T n a)) (nmA T n a) = nxU σ (wdE T n a) (wdA T n a) from rfl]
  generalize nxU σ (wdE T n a) (wdA T n a) = υ at g g9 ⊢
  unfold stF
  generalize wdE T n a = b at *
  refine AtP.Ci rfl (e_isWord g.1 g9 hE.1 (w := 3) (by omega)) ?_
  by_cases c3 : isW T (wdA T n a) b 3
  · rw [if_pos c3, if_pos c3]
    refine AtP.Bf rfl (by decide) ?_
    unfold num1
    rcases e_set1 g (lo := 1) (hi := 500) (by decide) (by decide) 5 (by omega) (by omega) with ⟨V, d, e, e1, e2, e3⟩ | ⟨kd, q, σ1, e, e1, e2⟩
    · rw [show nmb T n 1 500 b = .inr (V, d) from e]
      dsimp only
      refine AtP.Ci rfl (e1) ?_
      refine AtP.N rfl (v59 5 (by omega)) ?_
      rw [t5]
      rcases e_set1 e3 (lo := 1) (hi := 500) (by decide) (by decide) 6 (by omega) (by omega) with ⟨V2, d2, f, f1, f2, f3⟩ | ⟨kd, q, σ1, f, f1, f2⟩
      · rw [show nmb T n 1 500 d = .inr (V2, d2) from f]
        refine AtP.Ci rfl (f1) ?_
        refine AtP.N rfl (v59 6 (by omega)) ?_
        rw [t6]
        refine AtP.J rfl ?_
        exact AtP.R rfl (⟨_, rfl, f3⟩)
      · rw [show nmb T n 1 500 d = .inl (kd, q) from f]
        refine AtP.Ci rfl (f1) ?_
        refine AtP.N rfl (v59 6 (by omega)) ?_
        rw [t6]
        refine AtP.J rfl ?_
        exact AtP.R rfl (⟨_, rfl, f2⟩)
    · rw [show nmb T n 1 500 b = .inl (kd, q) from e]
      dsimp only
      refine AtP.Ci rfl (e1) ?_
      refine AtP.N rfl (v59 5 (by omega)) ?_
      rw [t5]
      refine AtP.Ci rfl (e_numE e2.ne _ _) ?_
      refine AtP.N rfl (v59 6 (by omega)) ?_
      rw [iU_mR]
      refine AtP.J rfl ?_
      exact AtP.R rfl (⟨_, rfl, e2.R⟩)
  rw [if_neg c3, if_neg c3]
  refine AtP.Bt rfl (rfl) ?_
  refine AtP.Ci rfl (e_isWord g.1 g9 hE.1 (w := 4) (by omega)) ?_
  by_cases c4 : isW T (wdA T n a) b 4
  · rw [if_pos c4, if_pos c4]
    refine AtP.Bf rfl (by decide) ?_
    unfold num1
    rcases e_set1 g (lo := 1) (hi := 5000) (by decide) (by decide) 7 (by omega) (by omega) with ⟨V, d, e, e1, e2, e3⟩ | ⟨kd, q, σ1, e, e1, e2⟩
    · rw [show nmb T n 1 5000 b = .inr (V, d) from e]
      refine AtP.Ci rfl (e1) ?_
      refine AtP.N rfl (v59 7 (by omega)) ?_
      rw [t7]
      refine AtP.J rfl ?_
      exact AtP.R rfl (⟨_, rfl, e3⟩)
    · rw [show nmb T n 1 5000 b = .inl (kd, q) from e]
      refine AtP.Ci rfl (e1) ?_
      refine AtP.N rfl (v59 7 (by omega)) ?_
      rw [t7]
      refine AtP.J rfl ?_
      exact AtP.R rfl (⟨_, rfl, e2⟩)
  rw [if_neg c4, if_neg c4]
  refine AtP.Bt rfl (rfl) ?_
  refine AtP.Ci rfl (e_isWord g.1 g9 hE.1 (w := 5) (by omega)) ?_
  by_cases c5 : isW T (wdA T n a) b 5
  · rw [if_pos c5, if_pos c5]
    refine AtP.Bf rfl (by decide) ?_
    unfold num1
    rcases e_set1 g (lo := 0) (hi := 3) (by decide) (by decide) 8 (by omega) (by omega) with ⟨V, d, e, e1, e2, e3⟩ | ⟨kd, q, σ1, e, e1, e2⟩
    · rw [show nmb T n 0 3 b = .inr (V, d) from e]
      refine AtP.Ci rfl (e1) ?_
      refine AtP.N rfl (v59 8 (by omega)) ?_
      rw [t8]
      refine AtP.J rfl ?_
      exact AtP.R rfl (⟨_, rfl, e3⟩)
    · rw [show nmb T n 0 3 b = .inl (kd, q) from e]
      refine AtP.Ci rfl (e1) ?_
      refine AtP.N rfl (v59 8 (by omega)) ?_
      rw [t8]
      refine AtP.J rfl ?_
      exact AtP.R rfl (⟨_, rfl, e2⟩)
  rw [if_neg c5, if_neg c5]
  refine AtP.Bt rfl (rfl) ?_
  refine AtP.Ci rfl (e_isWord g.1 g9 hE.1 (w := 6) (by omega)) ?_
  by_cases c6 : isW T (wdA T n a) b 6
  · rw [if_pos c6, if_pos c6]
    refine AtP.Bf rfl (by decide) ?_
    unfold num1
    rcases e_set1 g (lo := 0) (hi := 1) (by decide) (by decide) 9 (by omega) (by omega) with ⟨V, d, e, e1, e2, e3⟩ | ⟨kd, q, σ1, e, e1, e2⟩
    · rw [show nmb T n 0 1 b = .inr (V, d) from e]
      refine AtP.Ci rfl (e1) ?_
      refine AtP.N rfl (v59 9 (by omega)) ?_
      rw [t9]
      refine AtP.J rfl ?_
      exact AtP.R rfl (⟨_, rfl, e3⟩)
    · rw [show nmb T n 0 1 b = .inl (kd, q) from e]
      refine AtP.Ci rfl (e1) ?_
      refine AtP.N rfl (v59 9 (by omega)) ?_
      rw [t9]
      refine AtP.J rfl ?_
      exact AtP.R rfl (⟨_, rfl, e2⟩)
  rw [if_neg c6, if_neg c6]
  refine AtP.Bt rfl (rfl) ?_
  refine AtP.Ci rfl (e_isWord g.1 g9 hE.1 (w := 7) (by omega)) ?_
  by_cases c7 : isW T (wdA T n a) b 7
  · rw [if_pos c7, if_pos c7]
    refine AtP.Bf rfl (by decide) ?_
    refine AtP.CvP rfl (e_setupPart g hr) (fun σ9 h9 => ?_)
    refine AtP.J rfl ?_
    exact AtP.R rfl (⟨_, rfl, h9⟩)
  rw [if_neg c7, if_neg c7]
  refine AtP.Bt rfl (rfl) ?_
  refine AtP.Ci rfl (e_isWord g.1 g9 hE.1 (w := 1) (by omega)) ?_
  by_cases c1 : isW T (wdA T n a) b 1
  · rw [if_pos c1, if_pos c1]
    refine AtP.Bf rfl (by decide) ?_
    refine AtP.CvP rfl (e_productPart g hr hfr g9) (fun σ9 h9 => ?_)
    refine AtP.J rfl ?_
    exact AtP.R rfl (⟨_, rfl, h9⟩)
  rw [if_neg c1, if_neg c1]
  refine AtP.Bt rfl (rfl) ?_
  refine AtP.Ci rfl (e_isWord g.1 g9 hE.1 (w := 2) (by omega)) ?_
  by_cases c2 : isW T (wdA T n a) b 2
  · rw [if_pos c2, if_pos c2]
    refine AtP.Bf rfl (by decide) ?_
    refine AtP.CvP rfl (e_orderPart g hr g9) (fun σ9 h9 => ?_)
    refine AtP.J rfl ?_
    exact AtP.R rfl (⟨_, rfl, h9⟩)
  rw [if_neg c2, if_neg c2]
  refine AtP.Bt rfl (rfl) ?_
  refine AtP.Cv rfl (e_fails0 g.2.1 1 _ g9) ?_
  exact AtP.R rfl (⟨_, rfl, ERm.mk (T := T) (n := n) (by decide) g.2.2.1 g.2.2.2.2.2⟩)
/-- the statements behind the first -/
theorem e_loop {Q : iRes → Prop} {d1 : Option iV} : ∀ f st a r so (σ : iM), n - a ≤ f → a ≤ n → OKm σ0 σ T n a st r so → RI r → frs r → (∀ σ1, (match ldL T n f st a r so with | .inl ((k, q), s) => ERm σ0 σ1 T n s k q | .inr (r', so') => (∃ b s, OKm σ0 σ1 T n b s r' so') ∧ RI r') → AtP mX7_load 80 [some M, d1] [] σ1 Q) → AtP mX7_load 66 [some M, d1] [] σ Q := by
  have no : ∀ (υ : iM), ¬ υ 7 0 10 = 0 → Ev mX7_isMore [M] υ (evi 0 υ) := fun υ hne => by
    show At mX7_isMore 0 [some M] [] υ _
    exact At.Bf rfl hne (At.Z rfl (Or.inl rfl))
  intro f
  induction f with
  | zero =>
    intro st a r so σ hf ha h hr hfr k
    have e : a = n := by omega
    have eA : nmA T n a = a := sc_f (by omega)
    have hm : Ev mX7_isMore [M] σ (evi 0 (nxU σ (nmA T n a) (nmA T n a))) := by
      show At mX7_isMore 0 [some M] [] σ _
      refine At.Bt rfl (h.2.1) ?_
      refine At.Ci rfl (e_next h.1) ?_
      refine At.Bf rfl (by unfold hre; rw [if_neg (by omega)]; decide) ?_
      exact At.Z rfl (Or.inl rfl)
    refine AtP.Ci rfl (hm) ?_
    refine AtP.Bt rfl (rfl) ?_
    refine k _ ?_
    rw [ldL]
    exact ⟨⟨_, _, h.nx (by omega)⟩, hr⟩
  | succ f ih =>
    intro st a r so σ hf ha h hr hfr k
    have hA : a ≤ nmA T n a ∧ nmA T n a ≤ n ∧ ¬ (nmA T n a < n ∧ isSp (T (nmA T n a)) = true) := sc_b ha
    rw [ldL] at k
    have g := h.nx (b := nmA T n a) (c := nmA T n a) hA.2.1
    by_cases c : nmA T n a < n
    · rw [if_pos c] at k
      obtain ⟨x, x1, x2, x3⟩ := T_n h.1 c
      have eh : hre T n (nmA T n a) = T (nmA T n a) := if_pos c
      have ge : 0 ≤ hre T n (nmA T n a) := by rw [eh, x2, fa_le, nI_toInt (by omega)]; show (0 : Int) ≤ _; omega
      by_cases hs : T (nmA T n a) = 59
      · rw [if_pos hs] at k
        have hm : Ev mX7_isMore [M] σ (evi 1 (iU (iU (nxU σ (nmA T n a) (nmA T n a)) 7 0 8 (nI (nmA T n a + 1))) 7 0 12 (nI (st + 1)))) := by
          show At mX7_isMore 0 [some M] [] σ _
          refine At.Bt rfl (h.2.1) ?_
          refine At.Ci rfl (e_next h.1) ?_
          refine At.Bt rfl (ge) ?_
          refine At.Ci rfl (e_here g.1) ?_
          refine At.Bt rfl (by rw [eh]; exact hs) ?_
          have hz := At.Z (j := mX7_isMore) (pc := 36) (L := [some M]) (S := []) (σ := nxU σ (nmA T n a) (nmA T n a)) rfl (Or.inr rfl)
          rw [g.1.2.2.1, nI_1, iU_ne (by omega), g.2.2.1, nI_1] at hz
          exact hz
        refine AtP.Ci rfl (hm) ?_
        refine AtP.Bf rfl (by decide) ?_
        have g2 : OKm σ0 (iU (iU (nxU σ (nmA T n a) (nmA T n a)) 7 0 8 (nI (nmA T n a + 1))) 7 0 12 (nI (st + 1))) T n (nmA T n a + 1) (st + 1) r so := by
          obtain ⟨b1, b2, b3, b4, b5, b6⟩ := g
          exact ⟨(b1.at (by omega)).U (by decide), by rw [iU_ne (by omega), iU_ne (by omega)]; exact b2, iU_same, by rw [← b4]; funext j; rw [iU_ne (by omega), iU_ne (by omega)], fun i hi => by rw [iU_ne (by omega), iU_ne (by omega)]; exact b5 i hi, (b6.U7 (by omega)).U7 (by omega)⟩
        refine AtP.CvP rfl (e_stmt g2 hr hfr) (fun σ9 h9 => ?_)
        refine AtP.J rfl ?_
        cases ho : stF T n (st + 1) (nmA T n a + 1) r so with
        | inl e =>
          obtain ⟨kd, q⟩ := e
          rw [ho] at h9 k
          dsimp only at k
          have h9 : ERm σ0 σ9 T n (st + 1) kd q := h9
          refine AtP.Ci rfl (no σ9 h9.ne) ?_
          refine AtP.Bt rfl (rfl) ?_
          exact k σ9 h9
        | inr y =>
          obtain ⟨a', r', so'⟩ := y
          rw [ho] at h9 k
          dsimp only at k
          have h9 : OKm σ0 σ9 T n a' (st + 1) r' so' := h9
          obtain ⟨x1, x2, x3, x4, x5, x6⟩ := stF_ok (T := T) (by omega) hr hfr ho
          exact ih (st + 1) a' r' so' σ9 (by omega) x5 h9 x1 x2 k
      · rw [if_neg hs] at k
        have gE := ERm.mk (σ0 := σ0) (T := T) (n := n) (k := 1) (q := nmA T n a) (by decide) g.2.2.1 g.2.2.2.2.2
        have hm : Ev mX7_isMore [M] σ (evi 0 (fsU (nxU σ (nmA T n a) (nmA T n a)) 1 (nmA T n a))) := by
          show At mX7_isMore 0 [some M] [] σ _
          refine At.Bt rfl (h.2.1) ?_
          refine At.Ci rfl (e_next h.1) ?_
          refine At.Bt rfl (ge) ?_
          refine At.Ci rfl (e_here g.1) ?_
          refine At.Bf rfl (by rw [eh]; exact hs) ?_
          refine At.Cv rfl (e_fails0 g.2.1 1 _ g.1.2.2.1) ?_
          exact At.Z rfl (Or.inl rfl)
        refine AtP.Ci rfl (hm) ?_
        refine AtP.Bt rfl (rfl) ?_
        exact k _ gE
    · rw [if_neg c] at k
      have hm : Ev mX7_isMore [M] σ (evi 0 (nxU σ (nmA T n a) (nmA T n a))) := by
        show At mX7_isMore 0 [some M] [] σ _
        refine At.Bt rfl (h.2.1) ?_
        refine At.Ci rfl (e_next h.1) ?_
        refine At.Bf rfl (by unfold hre; rw [if_neg c]; decide) ?_
        exact At.Z rfl (Or.inl rfl)
      refine AtP.Ci rfl (hm) ?_
      refine AtP.Bt rfl (rfl) ?_
      exact k _ ⟨⟨_, _, g⟩, hr⟩
end MLD
