/-! ===== load ===== -/
def bgX (R : Row) (x y : Int32) : Row := fun j => if j < 467 then (if j = 1 then x else if j = 2 then y else if j = 5 ∨ j = 6 then 20 else if j = 7 then 100 else if 11 ≤ j ∧ j < 53 ∧ ((j - 11) % 7 = 0 ∨ (j - 11) % 7 = 1) then -1 else 0) else R j
theorem bgX_U {R : Row} {c d : Nat} : bgX R (nI c) (nI d) = bgU R c d := rfl
def sbR (r : Row) (m : Nat) : Row := fun j => if 11 ≤ j ∧ j < 11 + 7 * m ∧ ((j - 11) % 7 = 0 ∨ (j - 11) % 7 = 1) then -1 else r j
theorem sbR_s {r : Row} {m : Nat} : upd (upd (sbR r m) (11 + 7 * m + 0) (-1)) (11 + 7 * m + 1) (-1) = sbR r (m + 1) := by
  funext j
  unfold upd sbR
  by_cases c1 : j = 11 + 7 * m + 1
  · rw [if_pos c1, if_pos (by omega)]
  · rw [if_neg c1]
    by_cases c0 : j = 11 + 7 * m + 0
    · rw [if_pos c0, if_pos (by omega)]
    · rw [if_neg c0]
      by_cases d : 11 ≤ j ∧ j < 11 + 7 * m ∧ ((j - 11) % 7 = 0 ∨ (j - 11) % 7 = 1)
      · rw [if_pos d, if_pos (by omega)]
      · rw [if_neg d, if_neg (by omega)]
theorem bgX_e {R : Row} {x y : Int32} : sbR (upd (upd (upd (upd (upd (zr R 0 467) 1 x) 2 y) 5 20) 6 20) 7 100) 6 = bgX R x y := by
  funext j
  unfold bgX sbR
  by_cases c : 11 ≤ j ∧ j < 11 + 7 * 6 ∧ ((j - 11) % 7 = 0 ∨ (j - 11) % 7 = 1)
  · rw [if_pos c, if_pos (by omega), if_neg (by omega), if_neg (by omega), if_neg (by omega), if_neg (by omega), if_pos (by omega)]
  · rw [if_neg c]
    unfold upd zr
    by_cases c7 : j = 7
    · subst c7; rfl
    · rw [if_neg c7]
      by_cases c6 : j = 6
      · subst c6; rfl
      · rw [if_neg c6]
        by_cases c5 : j = 5
        · subst c5; rfl
        · rw [if_neg c5]
          by_cases c2 : j = 2
          · subst c2; rfl
          · rw [if_neg c2]
            by_cases c1 : j = 1
            · subst c1; rfl
            · rw [if_neg c1]
              by_cases cj : j < 467
              · rw [if_pos (by omega), if_pos cj, if_neg c1, if_neg c2, if_neg (by omega), if_neg c7, if_neg (by omega)]
              · rw [if_neg (by omega), if_neg cj]
section LOAD
variable {σ σ0 : iM} {T : Row} {n a b st : Nat} {r so R : Row}
theorem e_begins0 (x y : Int32) : Ev mX7_begins [.inr (8, 59), .inl x, .inl y] σ (evv (mR σ 59 (bgX (σ 8 59) x y))) := by
  show At mX7_begins 0 [some (.inr (8, 59)), some (.inl x), some (.inl y), none] [] σ _
  refine At.F 2 [some (.inr (8, 59)), some (.inl x), some (.inl y), some (.inl (nI 0))] [] σ rfl ?_
  have hz : σ = mR σ 59 (zr (σ 8 59) 0 0) := by rw [zr_0, mR_self]
  generalize hR : σ 8 59 = R at hz ⊢
  have L2 : ∀ m, m ≤ 6 → At mX7_begins 46 [some (.inr (8, 59)), some (.inl x), some (.inl y), some (.inl (nI m))] [] (mR σ 59 (sbR (upd (upd (upd (upd (upd (zr R 0 467) 1 x) 2 y) 5 20) 6 20) 7 100) m)) (evv (mR σ 59 (bgX R x y))) := by
    refine down_ind (N := 6) ?_ ?_
    · refine At.Bt rfl (by decide) ?_
      rw [bgX_e]
      exact At.R rfl
    · intro m hm ih
      have i0 : (11 + 7 * nI m + 0 : Int32) = nI (11 + 7 * m + 0) := ixS m 0
      have i1 : (11 + 7 * nI m + 1 : Int32) = nI (11 + 7 * m + 1) := ixS m 1
      refine At.Bf rfl (by rw [show (6 : Int32) = nI 6 from rfl]; exact ge_n (by omega) hm) ?_
      refine At.N rfl (by rw [i0]; exact v59 _ (by omega)) ?_
      refine At.N rfl (by rw [i1]; exact v59 _ (by omega)) ?_
      rw [i0, i1, nI_clamp (by omega), nI_clamp (by omega)]
      simp only [iU_mR, mR_at, mR_mR]
      rw [sbR_s]
      refine At.J rfl ?_
      rw [nI_1]
      exact ih
  have L1 : ∀ m, m ≤ 467 → At mX7_begins 2 [some (.inr (8, 59)), some (.inl x), some (.inl y), some (.inl (nI m))] [] (mR σ 59 (zr R 0 m)) (evv (mR σ 59 (bgX R x y))) := by
    refine down_ind (N := 467) ?_ ?_
    · refine At.Bt rfl (by decide) ?_
      refine At.N rfl (v59 1 (by omega)) ?_
      refine At.N rfl (v59 2 (by omega)) ?_
      refine At.N rfl (v59 5 (by omega)) ?_
      refine At.N rfl (v59 6 (by omega)) ?_
      refine At.N rfl (v59 7 (by omega)) ?_
      rw [t1, t2, t5, t6, t7]
      simp only [iU_mR, mR_at, mR_mR]
      have := L2 0 (by omega)
      rw [show sbR (upd (upd (upd (upd (upd (zr R 0 467) 1 x) 2 y) 5 20) 6 20) 7 100) 0 = upd (upd (upd (upd (upd (zr R 0 467) 1 x) 2 y) 5 20) 6 20) 7 100 from funext fun j => if_neg (by omega)] at this
      exact At.G this rfl
    · intro m hm ih
      refine At.Bf rfl (by rw [show (467 : Int32) = nI 467 from rfl]; exact fun q => absurd ((nI_leI (by omega) (by omega)).mp q) (by omega)) ?_
      refine At.N rfl (v59 m hm) ?_
      have hs := zr_s (r := R) (a := 0) (n := m)
      rw [Nat.zero_add] at hs
      rw [nI_clamp (by omega), iU_mR, mR_at, mR_mR, hs]
      refine At.J rfl ?_
      rw [nI_1]
      exact ih
  have h0 := L1 0 (by omega)
  rw [← hz] at h0
  exact h0
theorem e_check0 (h : ¬ σ 7 0 10 = 0) : Ev mX7_checksOrders [M] σ (evv σ) := by
  show At mX7_checksOrders 0 [some M, none, none] [] σ _
  refine At.Bf rfl (h) ?_
  exact At.R rfl
theorem e_check (h : OKm σ0 σ T n a st r so) (hr : RI r) : EvP mX7_checksOrders [M] σ (fun z => ∃ σ1, z = evv σ1 ∧ fm σ0 σ1 ∧ σ1 7 0 7 = nI n ∧ (match chO r (OM r) 0 with | some i => σ1 7 0 10 = 5 ∧ σ1 7 0 11 = nI n ∧ σ1 7 0 12 = so i | none => σ1 = σ)) := by
  have hom := hr.om
  show AtP mX7_checksOrders 0 [some M, none, none] [] σ _
  refine AtP.F 2 [some M, some (.inl (nI 0)), none] [] σ rfl ?_
  have L : ∀ m, m ≤ OM r → ∀ d2 : Option iV, AtP mX7_checksOrders 2 [some M, some (.inl (nI m)), d2] [] σ (fun z => ∃ σ1, z = evv σ1 ∧ fm σ0 σ1 ∧ σ1 7 0 7 = nI n ∧ (match chO r (OM r - m) m with | some i => σ1 7 0 10 = 5 ∧ σ1 7 0 11 = nI n ∧ σ1 7 0 12 = so i | none => σ1 = σ)) := by
    refine down_ind (N := OM r) ?_ ?_
    · intro d2
      refine AtP.Bt rfl (h.2.1) ?_
      refine AtP.N rfl (v59 4 (by omega)) ?_
      rw [t4, h.2.2.2.1]
      refine AtP.Bt rfl (by rw [hom.1]; exact ge_s) ?_
      exact AtP.R rfl (⟨_, rfl, h.2.2.2.2.2, h.1.1, by rw [Nat.sub_self, chO]⟩)
    · intro m hm ih d2
      obtain ⟨p1, p2, p3, p4, p5⟩ := hr.op hm
      have i0 : (131 + 14 * nI m + 0 : Int32) = nI (131 + 14 * m + 0) := ixO m 0
      have i1 : (131 + 14 * nI m + 1 : Int32) = nI (131 + 14 * m + 1) := ixO m 1
      refine AtP.Bt rfl (h.2.1) ?_
      refine AtP.N rfl (v59 4 (by omega)) ?_
      rw [t4, h.2.2.2.1]
      refine AtP.Bf rfl (by rw [hom.1]; exact ge_n hom.2 hm) ?_
      refine AtP.N rfl (by rw [i0]; exact v59 _ (by omega)) ?_
      refine AtP.N rfl (by rw [i1]; exact v59 _ (by omega)) ?_
      rw [i0, i1, nI_clamp (by omega), nI_clamp (by omega), h.2.2.2.1, show r (131 + 14 * m + 0) = nI (oP r m) from p2]
      have hd := e_drumTicks 59 (oP r m) (r (131 + 14 * m + 1)) rfl p3 σ (by rw [h.2.2.2.1]; exact p4.d.2.1) (by rw [h.2.2.2.1]; exact p4.d.2.2)
      rw [h.2.2.2.1] at hd
      refine AtP.Ci rfl (hd) ?_
      refine AtP.N rfl (v59 7 (by omega)) ?_
      rw [t7, h.2.2.2.1, show OM r - m = (OM r - (m + 1)) + 1 by omega, chO]
      have ew : rPt r (oP r m) (dS r (oP r m)) * r (131 + 14 * m + 1) = wk r m := rfl
      rw [ew]
      refine AtP.B rfl (fun hc => ?_) (fun hc => ?_)
      · rw [if_neg (le_nlt hc)]
        refine AtP.J rfl ?_
        rw [nI_1]
        exact ih _
      · rw [if_pos (fa_of_nle hc)]
        refine AtP.Cv rfl (e_fails0 h.2.1 5 n h.1.1) ?_
        refine AtP.N rfl (vin (N := iN 8 62) (show m < 24 by omega) (by show 24 < _; omega)) ?_
        rw [nI_clamp (by omega), fs_o (by omega), h.2.2.2.2.1 m hm]
        refine AtP.J rfl ?_
        have e10 : iU (fsU σ 5 n) 7 0 12 (so m) 7 0 10 = 5 := by unfold fsU; rw [iU_ne (by omega), iU_ne (by omega), iU_same]
        refine AtP.Bf rfl (by rw [e10]; decide) ?_
        refine AtP.R rfl ⟨_, rfl, h.2.2.2.2.2.fs.U7 (by omega), ?_, e10, ?_, iU_same⟩
        · rw [iU_ne (by omega), fs_o (by omega)]; exact h.1.1
        · rw [iU_ne (by omega)]; exact iU_same
  have := L 0 (Nat.zero_le _) none
  rw [Nat.sub_zero] at this
  exact this
/-- what the reference's load comes to -/
def LDm (σ σ2 : iM) (v : Int32) (T : Row) (n : Nat) : Prop := σ2 7 0 5 = 0 ∧ σ2 7 0 7 = 0 ∧ (∀ k i j, ¬ (k = 7 ∧ i = 0) → ¬ (k = 8 ∧ (i = 58 ∨ i = 59 ∨ i = 62)) → σ2 k i j = σ k i j) ∧
  (match LD T n (σ 8 59) (σ 8 62) with
  | .inl ((k, q), s) => v = -100 - nI q ∧ σ2 7 0 13 = k ∧ σ2 7 0 14 = s ∧ σ2 8 58 = σ 8 58
  | .inr r => v = r 4 ∧ σ2 7 0 13 = 0 ∧ σ2 7 0 14 = -1 ∧ (∀ j, j < 467 → σ2 8 58 j = r j))
theorem e_load (h : RM σ T n a) : EvP mX7_load [M] σ (fun z => ∃ v σ2, z = evi v σ2 ∧ LDm σ σ2 v T n) := by
  have hn := h.2.1
  have hA : 0 ≤ wdA T n 0 ∧ wdA T n 0 ≤ n ∧ ¬ (wdA T n 0 < n ∧ isSp (T (wdA T n 0)) = true) := sc_b (Nat.zero_le _)
  have hE : wdA T n 0 ≤ wdE T n 0 ∧ wdE T n 0 ≤ n ∧ ¬ (wdE T n 0 < n ∧ isLt (T (wdE T n 0)) = true) := sc_b hA.2.1
  show AtP mX7_load 0 [some M, none] [] σ _
  have hO : OKm (iU σ 7 0 5 0) (iU (iU (iU (iU σ 7 0 5 0) 7 0 8 0) 7 0 10 0) 7 0 12 0) T n 0 0 (σ 8 59) (σ 8 62) := by
    refine ⟨(((h.U (j := 5) (by decide)).at (b := 0) (Nat.zero_le _)).U (j := 10) (by decide)).U (j := 12) (by decide), ?_, iU_same, ?_, fun i _ => ?_, ((fm.rfl.U7 (by omega)).U7 (by omega)).U7 (by omega)⟩
    · rw [iU_ne (by omega), iU_same]
    · funext j; rw [iU_ne (by omega), iU_ne (by omega), iU_ne (by omega), iU_ne (by omega)]
    · rw [iU_ne (by omega), iU_ne (by omega), iU_ne (by omega), iU_ne (by omega)]
  refine AtP.Cv rfl (e_reads hO.1) ?_
  have g := hO.nx (b := wdE T n 0) (c := wdA T n 0) hE.2.1
  rw [show nxU (iU (iU (iU (iU σ 7 0 5 0) 7 0 8 0) 7 0 10 0) 7 0 12 0) (sc isLt T n (nmA T n 0)) (nmA T n 0) = nxU (iU (iU (iU (iU σ 7 0 5 0) 7 0 8 0) 7 0 10 0) 7 0 12 0) (wdE T n 0) (wdA T n 0) from rfl]
  have g9 : nxU (iU (iU (iU (iU σ 7 0 5 0) 7 0 8 0) 7 0 10 0) 7 0 12 0) (wdE T n 0) (wdA T n 0) 7 0 9 = nI (wdA T n 0) := nx_9
  generalize nxU (iU (iU (iU (iU σ 7 0 5 0) 7 0 8 0) 7 0 10 0) 7 0 12 0) (wdE T n 0) (wdA T n 0) = υ at g g9 ⊢
  -- the end
  have o0 : ∀ τ, fm (iU σ 7 0 5 0) τ → (∀ k i j, ¬ (k = 7 ∧ i = 0) → ¬ (k = 8 ∧ (i = 58 ∨ i = 59 ∨ i = 62)) → τ k i j = σ k i j) ∧ τ 7 0 5 = 0 ∧ τ 8 58 = σ 8 58 := fun τ hf => ⟨fun k i j x y => (hf k i j (by omega) (by omega)).trans (iU_ne (by omega)), (hf _ _ _ (by omega) (by omega)).trans iU_same, funext fun j => (hf _ _ _ (by omega) (by omega)).trans (iU_ne (by omega))⟩
  have endE : ∀ (τ : iM) (d1 : Option iV) (k : Int32) (q : Nat) (s : Int32), fm (iU σ 7 0 5 0) τ → τ 7 0 10 = k → ¬ k = 0 → τ 7 0 11 = nI q → τ 7 0 12 = s → LD T n (σ 8 59) (σ 8 62) = .inl ((k, q), s) → AtP mX7_load 84 [some M, d1] [] τ (fun z => ∃ v σ2, z = evi v σ2 ∧ LDm σ σ2 v T n) := by
    intro τ d1 k q s hf h10 hk h11 h12 hl
    obtain ⟨f1, f2, f3⟩ := o0 τ hf
    refine AtP.Bf rfl (by rw [iU_ne (by omega), iU_ne (by omega), h10]; exact hk) ?_
    refine AtP.Bf rfl (by rw [iU_ne (by omega), iU_ne (by omega), iU_ne (by omega), h10]; exact hk) ?_
    refine AtP.R rfl ⟨_, _, rfl, ?_, ?_, fun k i j x y => ?_, ?_⟩
    · rw [iU_ne (by omega), iU_ne (by omega), iU_ne (by omega)]; exact f2
    · rw [iU_ne (by omega), iU_ne (by omega), iU_same]
    · rw [iU_ne (by omega), iU_ne (by omega), iU_ne (by omega)]; exact f1 k i j x y
    · rw [hl]
      refine ⟨?_, ?_, ?_, ?_⟩
      · rw [iU_ne (by omega), iU_ne (by omega), iU_ne (by omega), h11]
      · rw [iU_ne (by omega), iU_same, iU_ne (by omega)]; exact h10
      · rw [iU_same, iU_ne (by omega), iU_ne (by omega)]; exact h12
      · rw [← f3]; funext j; rw [iU_ne (by omega), iU_ne (by omega), iU_ne (by omega)]
  have no : ∀ (τ : iM), ¬ τ 7 0 10 = 0 → Ev mX7_isMore [M] τ (evi 0 τ) := fun τ hne => by
    show At mX7_isMore 0 [some M] [] τ _
    exact At.Bf rfl hne (At.Z rfl (Or.inl rfl))
  have to66 : ∀ (τ : iM) (d1 : Option iV) (k : Int32) (q : Nat), ERm (iU σ 7 0 5 0) τ T n 0 k q → LD T n (σ 8 59) (σ 8 62) = .inl ((k, q), 0) → AtP mX7_load 66 [some M, d1] [] τ (fun z => ∃ v σ2, z = evi v σ2 ∧ LDm σ σ2 v T n) := by
    intro τ d1 k q he hl
    refine AtP.Ci rfl (no τ he.ne) ?_
    refine AtP.Bt rfl (rfl) ?_
    refine AtP.Cv rfl (e_check0 he.ne) ?_
    exact endE τ d1 k q 0 he.2.2.2.2 he.1 he.2.1 he.2.2.1 he.2.2.2.1 hl
  refine AtP.Ci rfl (e_isWord g.1 g9 hE.1 (w := 0) (by omega)) ?_
  have hLD : LD T n (σ 8 59) (σ 8 62) = LD T n (σ 8 59) (σ 8 62) := rfl
  by_cases c : isW T (wdA T n 0) (wdE T n 0) 0
  · rw [if_pos c]
    refine AtP.Bf rfl (by decide) ?_
    rcases e_nm g (lo := 1) (hi := 6) (by decide) (by decide) with ⟨V, d, e, e1, e2, e3, e4⟩ | ⟨kd, q, σ1, e, e1, e2, e3⟩
    · have e2 : V ≤ 6 := by have : (6 : Int32).toInt = 6 := rfl; omega
      have e1 : 1 ≤ V := by have : (1 : Int32).toInt = 1 := rfl; omega
      have e1m : nI V - 1 = nI (V - 1) := pk_sub (b := 1) (by omega)
      have e1t : (nI V - 1).toInt = (V : Int) - 1 := by rw [e1m, nI_toInt (by omega)]; omega
      have hz : (0 : Int32).toInt = 0 := rfl
      refine AtP.Ci rfl (e3) ?_
      rcases e_nm e4 (lo := 0) (hi := nI V - 1) (by decide) (by omega) with ⟨V2, d2, f, f1, f2, f3, f4⟩ | ⟨kd, q, σ1, f, f1, f2, f3⟩
      · rw [hz, e1t] at f
        refine AtP.Ci rfl (f3) ?_
        have hb := e_begins0 (σ := nxU (nxU υ d (nmA T n (wdE T n 0))) d2 (nmA T n d)) (nI V) (nI V2)
        rw [f4.2.2.2.1, bgX_U] at hb
        refine AtP.Cv rfl (hb) ?_
        have hfs : fsF T n (σ 8 59) (σ 8 62) = .inr (d2, bgU (σ 8 59) V V2, σ 8 62) := by
          unfold fsF num1
          rw [if_pos c, show nmb T n 1 6 (wdE T n 0) = .inr (V, d) from e]
          dsimp only
          rw [f]
        have g4 : OKm (iU σ 7 0 5 0) (mR (nxU (nxU υ d (nmA T n (wdE T n 0))) d2 (nmA T n d)) 59 (bgU (σ 8 59) V V2)) T n d2 0 (bgU (σ 8 59) V V2) (σ 8 62) := by
          obtain ⟨q1, q2, q3, q4, q5, q6⟩ := f4
          exact ⟨q1.R, by rw [mR_ne (by omega)]; exact q2, by rw [mR_ne (by omega)]; exact q3, mR_at, fun i hi => by rw [bg_om] at hi; exact absurd hi (Nat.not_lt_zero i), q6.R⟩
        refine e_loop n 0 d2 _ (σ 8 62) _ (by omega) f4.1.2.2.2.1 g4 (bg_RI e1 e2 (by omega)) bg_fr (fun σ1 hk => ?_)
        cases hl : ldL T n n 0 d2 (bgU (σ 8 59) V V2) (σ 8 62) with
        | inl e =>
          obtain ⟨⟨k, q⟩, s⟩ := e
          rw [hl] at hk
          dsimp only at hk
          refine AtP.Cv rfl (e_check0 hk.ne) ?_
          refine endE σ1 _ k q (nI s) hk.2.2.2.2 hk.1 hk.2.1 hk.2.2.1 hk.2.2.2.1 ?_
          unfold LD
          rw [hfs]
          dsimp only
          rw [hl]
        | inr y =>
          obtain ⟨r', so'⟩ := y
          rw [hl] at hk
          dsimp only at hk
          obtain ⟨⟨b, s, hk⟩, hr'⟩ := hk
          refine AtP.CvP rfl (e_check hk hr') (fun σ9 h9 => ?_)
          obtain ⟨w1, w2, w3⟩ := h9
          cases hc : chO r' (OM r') 0 with
          | some i =>
            rw [hc] at w3
            dsimp only at w3
            refine endE _ _ 5 n (so' i) w1 w3.1 (by decide) w3.2.1 w3.2.2 ?_
            unfold LD
            rw [hfs]
            dsimp only
            rw [hl]
            dsimp only
            rw [hc]
          | none =>
            rw [hc] at w3
            dsimp only at w3
            subst w3
            obtain ⟨f1', f2', f3'⟩ := o0 _ w1
            have hLD2 : LD T n (σ 8 59) (σ 8 62) = .inr r' := by
              unfold LD
              rw [hfs]
              dsimp only
              rw [hl]
              dsimp only
              rw [hc]
            refine AtP.Bt rfl (by rw [iU_ne (by omega), iU_ne (by omega)]; exact hk.2.1) ?_
            refine AtP.J rfl ?_
            refine AtP.Bt rfl (by rw [iU_ne (by omega), iU_ne (by omega), iU_ne (by omega)]; exact hk.2.1) ?_
            refine AtP.Cv rfl (e_copies (a := 59) (ia := 0) (b := 58) (ib := 0) (by decide) (by decide) (by decide) (by decide) (by decide)) ?_
            refine AtP.N rfl (v58 4 (by omega)) ?_
            have o : ∀ k i j, ¬ (k = 8 ∧ i = 58) → ¬ (k = 7 ∧ i = 0 ∧ (j = 7 ∨ j = 13 ∨ j = 14)) → cpy (iU (iU (iU σ9 7 0 7 0) 7 0 13 (iU σ9 7 0 7 0 7 0 10)) 7 0 14 (-1)) 59 0 58 0 467 k i j = σ9 k i j := fun k i j x y => by
              rw [cpy_out (by omega), iU_ne (by omega), iU_ne (by omega), iU_ne (by omega)]
            have o58 : ∀ j, j < 467 → cpy (iU (iU (iU σ9 7 0 7 0) 7 0 13 (iU σ9 7 0 7 0 7 0 10)) 7 0 14 (-1)) 59 0 58 0 467 8 58 j = r' j := fun j hj => by
              rw [cpy_in (by omega) (by omega), iU_ne (by omega), iU_ne (by omega), iU_ne (by omega), hk.2.2.2.1]
              congr 1; omega
            refine AtP.R rfl ⟨_, _, rfl, ?_, ?_, fun k i j x y => ?_, ?_⟩
            · rw [o _ _ _ (by omega) (by omega)]; exact f2'
            · rw [cpy_out (by omega), iU_ne (by omega), iU_ne (by omega), iU_same]
            · rw [o _ _ _ (by omega) (by omega)]; exact f1' k i j x y
            · rw [hLD2]
              refine ⟨by rw [t4, o58 4 (by omega)], ?_, ?_, o58⟩
              · rw [cpy_out (by omega), iU_ne (by omega), iU_same, iU_ne (by omega)]; exact hk.2.1
              · rw [cpy_out (by omega), iU_same]
      · rw [hz, e1t] at f
        refine AtP.Ci rfl (f1) ?_
        have hb := e_begins0 (σ := σ1) (nI V) 0
        refine AtP.Cv rfl (hb) ?_
        refine to66 _ _ kd q f2.R ?_
        unfold LD fsF num1
        rw [if_pos c, show nmb T n 1 6 (wdE T n 0) = .inr (V, d) from e]
        dsimp only
        rw [f]
    · refine AtP.Ci rfl (e1) ?_
      refine AtP.Ci rfl (e_numE e2.ne _ _) ?_
      have hb := e_begins0 (σ := σ1) 1 0
      refine AtP.Cv rfl (hb) ?_
      refine to66 _ _ kd q e2.R ?_
      unfold LD fsF num1
      rw [if_pos c, show nmb T n 1 6 (wdE T n 0) = .inl (kd, q) from e]
  · rw [if_neg c]
    refine AtP.Bt rfl (rfl) ?_
    refine AtP.Cv rfl (e_fails0 g.2.1 1 _ g9) ?_
    have ge := ERm.mk (σ0 := iU σ 7 0 5 0) (T := T) (n := n) (k := 1) (q := wdA T n 0) (by decide) g.2.2.1 g.2.2.2.2.2
    refine AtP.Ci rfl (e_numE ge.ne _ _) ?_
    refine AtP.Ci rfl (e_numE ge.ne _ _) ?_
    have hb := e_begins0 (σ := fsU υ 1 (wdA T n 0)) 1 0
    refine AtP.Cv rfl (hb) ?_
    refine to66 _ _ 1 _ ge.R ?_
    unfold LD fsF
    rw [if_neg c]
end LOAD
