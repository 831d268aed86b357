/-! ===== predictions: the calls ===== -/
def PR (σ τ : iM) : Prop := τ 8 58 = σ 8 58 ∧ (∀ j, j < 467 → τ 8 60 j = σ 8 58 j) ∧ τ 7 0 5 = 0 ∧ (∀ k i j, ¬ (k = 8 ∧ (i = 60 ∨ i = 63 ∨ i = 64 ∨ i = 65)) → ¬ (k = 7 ∧ i = 0 ∧ (j = 5 ∨ j = 19)) → τ k i j = σ k i j)
section PRS
variable {σ τ : iM}
theorem PR.scr (h : PR σ τ) : scr σ τ := fun k i j a => by
  by_cases c : k = 8 ∧ (i = 60 ∨ i = 63 ∨ i = 64 ∨ i = 65)
  · exact absurd (Or.inr (Or.inr (Or.inr (Or.inr ⟨c.1, by omega⟩)))) a
  · by_cases d : k = 7 ∧ i = 0 ∧ (j = 5 ∨ j = 19)
    · exact absurd (Or.inr (Or.inr (Or.inr (Or.inl ⟨d.1, by omega⟩)))) a
    · exact h.2.2.2 k i j c d
theorem PR.start : PR σ (cpy (iU σ 7 0 5 0) 58 0 60 0 467) := by
  refine ⟨?_, fun j hj => ?_, ?_, fun k i j c d => ?_⟩
  · funext j; rw [cpy_out (by omega)]; exact iU_ne (by omega)
  · rw [cpy_in (by omega) (by omega), iU_ne (by omega)]; congr 1; omega
  · rw [cpy_out (by omega)]; exact iU_same
  · rw [cpy_out (by omega)]; exact iU_ne (by omega)
theorem PR.late {r' : Row} {υ : iM} (h : PR σ τ) (e : υ 8 58 = σ 8 58) (hf : mfr (mR τ 58 r') υ) : PR σ υ := by
  have o : ∀ k i j, ¬ (k = 8 ∧ (i = 58 ∨ i = 63 ∨ i = 64 ∨ i = 65)) → ¬ (k = 7 ∧ i = 0 ∧ j = 19) → υ k i j = τ k i j := fun k i j c d => (hf k i j c d).trans (mR_ne (by omega))
  refine ⟨e, fun j hj => (o _ _ _ (by omega) (by omega)).trans (h.2.1 j hj), (o _ _ _ (by omega) (by omega)).trans h.2.2.1, fun k i j c d => ?_⟩
  by_cases x : k = 8 ∧ i = 58
  · rw [x.1, x.2, e]
  · exact (o _ _ _ (by omega) (by omega)).trans (h.2.2.2 k i j c d)
theorem e_late (h : INV σ) (hp : PR σ τ) {r' : Row} (hr : RI r') (h0 : r' 0 = σ 8 58 0) (ht : ∀ j, 467 ≤ j → r' j = σ 8 58 j) : EvP mX7_lateAhead [M] (mR τ 58 r') (fun z => ∃ w σ1, z = evi w σ1 ∧ w = tard (tkN r' 2000) ∧ PR σ σ1) := by
  have h30 := h.2.1
  have hl := e_lateAhead (τ := mR τ 58 r') (r := σ 8 58) (by rw [mR_at]; exact hr) (by rw [mR_at, h0]; omega) (fun j hj => by rw [mR_ne (by omega)]; exact hp.2.1 j hj) (fun j hj => by rw [mR_at]; exact ht j hj)
  refine hl.mono ?_
  rintro _ ⟨v, σ1, rfl, h1, h2, h3⟩
  rw [mR_at] at h1
  exact ⟨v, σ1, rfl, h1, hp.late h2 h3⟩
theorem e_lateBy (h : INV σ) (hp : PR σ τ) {v : Int32} (hv : inR v 0 3) : EvP mX7_lateBy [M, .inl v] τ (fun z => ∃ w σ1, z = evi w σ1 ∧ w = tard (tkN (upd (σ 8 58) 8 v) 2000) ∧ PR σ σ1) := by
  show AtP mX7_lateBy 0 [some M, some (.inl v)] [] τ _
  refine AtP.N rfl (v58 8 (by omega)) ?_
  rw [t8, iU_mR, hp.1]
  refine AtP.CiP rfl (e_late h hp (h.1.rule hv) (upd_ne' (by omega)) (fun j hj => upd_ne' (by omega))) (fun v9 σ9 h9 => ?_)
  obtain ⟨hw9, g⟩ := h9
  rw [hw9]
  clear hw9
  exact AtP.R rfl (⟨_, _, rfl, rfl, g⟩)
theorem e_lateByRope (h : INV σ) (hp : PR σ τ) {v : Int32} (hv : inR v 1 5000) : EvP mX7_lateByRope [M, .inl v] τ (fun z => ∃ w σ1, z = evi w σ1 ∧ w = tard (tkN (upd (σ 8 58) 7 v) 2000) ∧ PR σ σ1) := by
  show AtP mX7_lateByRope 0 [some M, some (.inl v)] [] τ _
  refine AtP.N rfl (v58 7 (by omega)) ?_
  rw [t7, iU_mR, hp.1]
  refine AtP.CiP rfl (e_late h hp (h.1.rope hv) (upd_ne' (by omega)) (fun j hj => upd_ne' (by omega))) (fun v9 σ9 h9 => ?_)
  obtain ⟨hw9, g⟩ := h9
  rw [hw9]
  clear hw9
  exact AtP.R rfl (⟨_, _, rfl, rfl, g⟩)
theorem p_tardinessAhead (h : INV σ) (v : Int32) : OKi mX6_tardinessAhead mX7_tardinessAhead [.inl v] 1 σ := by
  by_cases hv : 0 ≤ v ∧ v ≤ 3
  · have hb := hv
    rw [fa_le, fa_le] at hb
    refine OKi.rd (tard (tkN (upd (σ 8 58) 8 v) 2000)) h ?_ (fun τ hτ e => ?_)
    · show AtP mX6_tardinessAhead 0 [some X, some (.inl v)] [] σ _
      refine AtP.Cv rfl (c_range hv) ?_
      refine AtP.CiP rfl (c_byRule h hb) (fun v9 σ9 h9 => ?_)
      obtain ⟨hw9, g⟩ := h9
      rw [hw9]
      clear hw9
      exact AtP.R rfl (⟨_, rfl, g⟩)
    · show AtP mX7_tardinessAhead 0 [some M, some (.inl v)] [] τ _
      refine AtP.Ci rfl (e_in1 hv) ?_
      refine AtP.Ci rfl (e_thr1 _ _) ?_
      refine AtP.Bt rfl (rfl) ?_
      refine AtP.Cv rfl (e_leaves) ?_
      refine AtP.CiP rfl (e_lateBy hτ PR.start hb) (fun v9 σ9 h9 => ?_)
      obtain ⟨hw9, g⟩ := h9
      rw [hw9]
      clear hw9
      exact AtP.R rfl (⟨_, by rw [e], g.2.2.1, g.scr⟩)
  · refine OKi.t1 h (v := 0) ?_ (σ2 := iU σ 7 0 5 1) ?_ iU_same scr.T
    · show At mX6_tardinessAhead 0 [some X, some (.inl v)] [] σ _
      exact At.X rfl (c_range_no hv)
    · show At mX7_tardinessAhead 0 [some M, some (.inl v)] [] σ _
      refine At.Ci rfl (e_in0 hv) ?_
      refine At.Ci rfl (e_thr0 _ _) ?_
      refine At.Bf rfl (by decide) ?_
      exact At.R rfl
def bR (f : Nat → Int32) : Nat → Int32 × Int32
  | 0 => (0, f 0)
  | n + 1 => if f (n + 1) < (bR f n).2 then (nI (n + 1), f (n + 1)) else bR f n
theorem inR_n {n : Nat} {a b : Int} (h1 : a ≤ n) (h2 : (n : Int) ≤ b) (h3 : n < 2 ^ 31) : inR (nI n) a b := ⟨by rw [nI_toInt h3]; exact h1, by rw [nI_toInt h3]; exact h2⟩
theorem p_bestRule (h : INV σ) : OKi mX6_bestRule mX7_bestRule [] 3 σ := by
  refine OKi.rd (bR (fun n => tard (tkN (upd (σ 8 58) 8 (nI n)) 2000)) 3).1 h ?_ (fun τ hτ e => ?_)
  · show AtP mX6_bestRule 0 [some X, none, none, none, none] [] σ _
    generalize hf : (fun n => tard (tkN (upd (σ 8 58) 8 (nI n)) 2000)) = f
    have ef : ∀ n, f n = tard (tkN (upd (σ 8 58) 8 (nI n)) 2000) := fun n => by rw [← hf]
    refine AtP.CiP rfl (c_byRule h (v := 0) (inR_n (n := 0) (by omega) (by omega) (by omega))) (fun v9 σ9 h9 => ?_)
    obtain ⟨hw9, g⟩ := h9
    rw [hw9]
    clear hw9
    rename iM => υ
    rw [show tard (tkN (upd (σ 8 58) 8 0) 2000) = f 0 from (ef 0).symm]
    refine AtP.F 10 [some X, some (.inl (bR f 0).1), some (.inl (bR f 0).2), some (.inl (nI 1)), none] [] υ rfl ?_
    have L : ∀ n, n ≤ 3 → ∀ (υ : iM) (d4 : Option iV), scr σ υ → AtP mX6_bestRule 10 [some X, some (.inl (bR f n).1), some (.inl (bR f n).2), some (.inl (nI (n + 1))), d4] [] υ (fun z => ∃ σ1, z = evi (bR f 3).1 σ1 ∧ scr σ σ1) := by
      refine down_ind (N := 3) ?_ ?_
      · intro υ d4 hs
        refine AtP.Bt rfl (by decide) ?_
        exact AtP.R rfl (⟨_, rfl, hs⟩)
      · intro n hn ih υ d4 hs
        refine AtP.Bf rfl (by rw [show (3 : Int32) = nI 3 from rfl, nI_lt_iff (by omega) (by omega)]; omega) ?_
        refine AtP.CiP rfl (c_byRule (h.scr hs) (inR_n (n := n + 1) (by omega) (by omega) (by omega))) (fun v9 σ9 h9 => ?_)
        obtain ⟨hw9, g⟩ := h9
        rw [hw9]
        clear hw9
        rw [hs.r, ← ef (n + 1)]
        rw [bR] at ih
        refine AtP.B rfl (fun hc => ?_) (fun hc => ?_)
        · rw [if_neg (le_nlt hc)] at ih
          refine AtP.J rfl ?_
          rw [nI_1]
          exact ih _ _ (hs.trans g)
        · rw [if_pos (fa_of_nle hc)] at ih
          refine AtP.J rfl ?_
          rw [nI_1]
          exact ih _ _ (hs.trans g)
    exact L 0 (by omega) _ _ g
  · show AtP mX7_bestRule 0 [some M, none, none, none, none] [] τ _
    rw [← e]
    generalize hf : (fun n => tard (tkN (upd (τ 8 58) 8 (nI n)) 2000)) = f
    have ef : ∀ n, f n = tard (tkN (upd (τ 8 58) 8 (nI n)) 2000) := fun n => by rw [← hf]
    refine AtP.Cv rfl (e_leaves) ?_
    refine AtP.CiP rfl (e_lateBy hτ PR.start (v := 0) (inR_n (n := 0) (by omega) (by omega) (by omega))) (fun v9 σ9 h9 => ?_)
    obtain ⟨hw9, g⟩ := h9
    rw [hw9]
    clear hw9
    rename iM => υ
    rw [show tard (tkN (upd (τ 8 58) 8 0) 2000) = f 0 from (ef 0).symm]
    refine AtP.F 19 [some M, some (.inl (bR f 0).1), some (.inl (bR f 0).2), some (.inl (nI 1)), none] [] υ rfl ?_
    have L : ∀ n, n ≤ 3 → ∀ (υ : iM) (d4 : Option iV), PR τ υ → AtP mX7_bestRule 19 [some M, some (.inl (bR f n).1), some (.inl (bR f n).2), some (.inl (nI (n + 1))), d4] [] υ (fun z => ∃ σ2, z = evi (bR f 3).1 σ2 ∧ σ2 7 0 5 = 0 ∧ scr τ σ2) := by
      refine down_ind (N := 3) ?_ ?_
      · intro υ d4 hs
        refine AtP.Bt rfl (by decide) ?_
        exact AtP.R rfl (⟨_, rfl, hs.2.2.1, hs.scr⟩)
      · intro n hn ih υ d4 hs
        refine AtP.Bf rfl (by rw [show (4 : Int32) = nI 4 from rfl, nI_le_iff (by omega) (by omega)]; omega) ?_
        refine AtP.CiP rfl (e_lateBy hτ hs (inR_n (n := n + 1) (by omega) (by omega) (by omega))) (fun v9 σ9 h9 => ?_)
        obtain ⟨hw9, g⟩ := h9
        rw [hw9]
        clear hw9
        rw [← ef (n + 1)]
        rw [bR] at ih
        refine AtP.B rfl (fun hc => ?_) (fun hc => ?_)
        · rw [if_neg (le_nlt hc)] at ih
          refine AtP.J rfl ?_
          rw [nI_1]
          exact ih _ _ g
        · rw [if_pos (fa_of_nle hc)] at ih
          refine AtP.J rfl ?_
          rw [nI_1]
          exact ih _ _ g
    exact L 0 (by omega) _ _ g
def ndR (f : Nat → Int32) (g m : Int32) : Nat → Nat → Nat
  | 0, n => n
  | k + 1, n => if g ≤ nI (100 * n) ∧ f n ≤ m then n else ndR f g m k (n + 1)
theorem p_neededRope (h : INV σ) : OKi mX6_neededRope mX7_neededRope [] 3 σ := by
  refine OKi.rd (nI (100 * ndR (fun n => tard (tkN (upd (σ 8 58) 7 (nI (100 * n))) 2000)) (grW (σ 8 58) (OM (σ 8 58))) (tard (tkN (upd (σ 8 58) 7 (nI (100 * 10))) 2000)) 9 1)) h ?_ (fun τ hτ e => ?_)
  · show AtP mX6_neededRope 0 [some X, none, none, none] [] σ _
    generalize hf : (fun n => tard (tkN (upd (σ 8 58) 7 (nI (100 * n))) 2000)) = f
    have ef : ∀ n, f n = tard (tkN (upd (σ 8 58) 7 (nI (100 * n))) 2000) := fun n => by rw [← hf]
    refine AtP.CiP rfl (c_byRope h (v := 1000) (inR_n (n := 1000) (by omega) (by omega) (by omega))) (fun v9 σ9 h9 => ?_)
    obtain ⟨hw9, g⟩ := h9
    rw [hw9]
    clear hw9
    rename iM => υ
    rw [show tard (tkN (upd (σ 8 58) 7 (nI (100 * 10))) 2000) = f 10 from (ef 10).symm, show tard (tkN (upd (σ 8 58) 7 1000) 2000) = f 10 from (ef 10).symm]
    refine AtP.Ci rfl (c_greatest (h.scr g).2.2.1 (h.scr g).1) ?_
    rw [g.r]
    generalize grW (σ 8 58) (OM (σ 8 58)) = G
    refine AtP.F 19 [some X, some (.inl (f 10)), some (.inl G), some (.inl (nI (100 * 1)))] [] υ rfl ?_
    have L : ∀ k n : Nat, k + n = 10 → 1 ≤ n → ∀ (υ : iM), scr σ υ → AtP mX6_neededRope 19 [some X, some (.inl (f 10)), some (.inl G), some (.inl (nI (100 * n)))] [] υ (fun z => ∃ σ1, z = evi (nI (100 * ndR f G (f 10) k n)) σ1 ∧ scr σ σ1) := by
      intro k
      induction k with
      | zero =>
        intro n hn hn1 υ hs
        have : n = 10 := by omega
        subst this
        refine AtP.Bt rfl (by decide) ?_
        exact AtP.R rfl (⟨_, rfl, hs⟩)
      | succ k ih =>
        intro n hn hn1 υ hs
        rw [ndR]
        refine AtP.Bf rfl (by rw [show (1000 : Int32) = nI 1000 from rfl, nI_le_iff (by omega) (by omega)]; omega) ?_
        have nx : ¬ (G ≤ nI (100 * n) ∧ f n ≤ f 10) → ∀ υ, scr σ υ → AtP mX6_neededRope 42 [some X, some (.inl (f 10)), some (.inl G), some (.inl (nI (100 * n)))] [] υ (fun z => ∃ σ1, z = evi (nI (100 * if G ≤ nI (100 * n) ∧ f n ≤ f 10 then n else ndR f G (f 10) k (n + 1))) σ1 ∧ scr σ σ1) := by
          intro hno υ hs
          rw [if_neg hno]
          refine AtP.J rfl ?_
          rw [show (100 : Int32) = nI 100 from rfl, nI_add, show 100 * n + 100 = 100 * (n + 1) by omega]
          exact ih (n + 1) (by omega) (by omega) υ hs
        refine AtP.B rfl (fun hc => ?_) (fun hc => ?_)
        · exact nx (fun z => lt_nle hc z.1) υ hs
        · refine AtP.CiP rfl (c_byRope (h.scr hs) (inR_n (n := 100 * n) (by omega) (by omega) (by omega))) (fun v9 σ9 h9 => ?_)
          obtain ⟨hw9, g⟩ := h9
          rw [hw9]
          clear hw9
          rw [hs.r, ← ef n]
          refine AtP.B rfl (fun hd => ?_) (fun hd => ?_)
          · exact nx (fun z => lt_nle hd z.2) _ (hs.trans g)
          · rw [if_pos ⟨fa_of_nlt hc, fa_of_nlt hd⟩]
            exact AtP.R rfl (⟨_, rfl, hs.trans g⟩)
    exact L 9 1 (by omega) (by omega) _ g
  · show AtP mX7_neededRope 0 [some M, none, none] [] τ _
    rw [← e]
    generalize hf : (fun n => tard (tkN (upd (τ 8 58) 7 (nI (100 * n))) 2000)) = f
    have ef : ∀ n, f n = tard (tkN (upd (τ 8 58) 7 (nI (100 * n))) 2000) := fun n => by rw [← hf]
    refine AtP.Cv rfl (e_leaves) ?_
    refine AtP.CiP rfl (e_lateByRope hτ PR.start (v := 1000) (inR_n (n := 1000) (by omega) (by omega) (by omega))) (fun v9 σ9 h9 => ?_)
    obtain ⟨hw9, g⟩ := h9
    rw [hw9]
    clear hw9
    rename iM => υ
    rw [show tard (tkN (upd (τ 8 58) 7 (nI (100 * 10))) 2000) = f 10 from (ef 10).symm, show tard (tkN (upd (τ 8 58) 7 1000) 2000) = f 10 from (ef 10).symm]
    refine AtP.F 20 [some M, some (.inl (f 10)), some (.inl (nI (100 * 1)))] [] υ rfl ?_
    have L : ∀ k n : Nat, k + n = 10 → 1 ≤ n → ∀ (υ : iM), PR τ υ → AtP mX7_neededRope 20 [some M, some (.inl (f 10)), some (.inl (nI (100 * n)))] [] υ (fun z => ∃ σ2, z = evi (nI (100 * ndR f (grW (τ 8 58) (OM (τ 8 58))) (f 10) k n)) σ2 ∧ σ2 7 0 5 = 0 ∧ scr τ σ2) := by
      intro k
      induction k with
      | zero =>
        intro n hn hn1 υ hs
        have : n = 10 := by omega
        subst this
        refine AtP.Bt rfl (by decide) ?_
        exact AtP.R rfl (⟨_, rfl, hs.2.2.1, hs.scr⟩)
      | succ k ih =>
        intro n hn hn1 υ hs
        rw [ndR]
        refine AtP.Bf rfl (by rw [show (1000 : Int32) = nI 1000 from rfl, nI_le_iff (by omega) (by omega)]; omega) ?_
        have nx : ¬ (grW (τ 8 58) (OM (τ 8 58)) ≤ nI (100 * n) ∧ f n ≤ f 10) → ∀ υ, PR τ υ → AtP mX7_neededRope 44 [some M, some (.inl (f 10)), some (.inl (nI (100 * n)))] [] υ (fun z => ∃ σ2, z = evi (nI (100 * if grW (τ 8 58) (OM (τ 8 58)) ≤ nI (100 * n) ∧ f n ≤ f 10 then n else ndR f (grW (τ 8 58) (OM (τ 8 58))) (f 10) k (n + 1))) σ2 ∧ σ2 7 0 5 = 0 ∧ scr τ σ2) := by
          intro hno υ hs
          rw [if_neg hno]
          refine AtP.J rfl ?_
          rw [show (100 : Int32) = nI 100 from rfl, nI_add, show 100 * n + 100 = 100 * (n + 1) by omega]
          exact ih (n + 1) (by omega) (by omega) υ hs
        have hg := e_greatest (σ := υ) (by rw [hs.1]; exact hτ.1)
        rw [hs.1] at hg
        refine AtP.Ci rfl (hg) ?_
        refine AtP.B rfl (fun hc => ?_) (fun hc => ?_)
        · exact nx (fun z => lt_nle hc z.1) υ hs
        · refine AtP.CiP rfl (e_lateByRope hτ hs (inR_n (n := 100 * n) (by omega) (by omega) (by omega))) (fun v9 σ9 h9 => ?_)
          obtain ⟨hw9, g⟩ := h9
          rw [hw9]
          clear hw9
          rw [← ef n]
          refine AtP.B rfl (fun hd => ?_) (fun hd => ?_)
          · rw [if_pos ⟨fa_of_nlt hc, hd⟩]
            exact AtP.R rfl (⟨_, rfl, g.2.2.1, g.scr⟩)
          · exact nx (fun z => hd z.2) _ g
    exact L 9 1 (by omega) (by omega) _ g
def bE (r : Row) (f : Nat → Int32) (b : Int32) : Nat → Int32 × Int32
  | 0 => (-1, b)
  | n + 1 => if (opn r n ∧ ¬ rO r n 12 = 1) ∧ f n < (bE r f b n).2 then (nI n, f n) else bE r f b n
theorem p_bestExpedite (h : INV σ) : OKi mX6_bestExpedite mX7_bestExpedite [] 3 σ := by
  have hom := h.1.om
  refine OKi.rd (bE (σ 8 58) (fun n => tard (tkN (upd (σ 8 58) (131 + 14 * n + 12) 1) 2000)) (tard (tkN (σ 8 58) 2000)) (OM (σ 8 58))).1 h ?_ (fun τ hτ e => ?_)
  · show AtP mX6_bestExpedite 0 [some X, none, none, none, none, none] [] σ _
    generalize hf : (fun n => tard (tkN (upd (σ 8 58) (131 + 14 * n + 12) 1) 2000)) = f
    have ef : ∀ n, f n = tard (tkN (upd (σ 8 58) (131 + 14 * n + 12) 1) 2000) := fun n => by rw [← hf]
    generalize hb9 : tard (tkN (σ 8 58) 2000) = b
    have hb := c_byRule h (v := σ 8 58 8) h.1.2.2.2.2.2.2.2.2.1
    rw [← h.2.2.1.1.2.2.2.2.2.2.2.1] at hb
    refine AtP.CiP rfl (hb) (fun v9 σ9 h9 => ?_)
    obtain ⟨hw9, g⟩ := h9
    rw [hw9]
    clear hw9
    rename iM => υ
    rw [h.2.2.1.1.2.2.2.2.2.2.2.1, upd_self, hb9]
    refine AtP.F 16 [some X, some (.inl (-1)), some (.inl b), some (.inl (nI 0)), none, none] [] υ rfl ?_
    have L : ∀ n, n ≤ OM (σ 8 58) → ∀ (υ : iM) (d4 d5 : Option iV), scr σ υ → AtP mX6_bestExpedite 16 [some X, some (.inl (bE (σ 8 58) f b n).1), some (.inl (bE (σ 8 58) f b n).2), some (.inl (nI n)), d4, d5] [] υ (fun z => ∃ σ1, z = evi (bE (σ 8 58) f b (OM (σ 8 58))).1 σ1 ∧ scr σ σ1) := by
      refine down_ind (N := OM (σ 8 58)) ?_ ?_
      · intro υ d4 d5 hs
        have hS := hs.sh (by omega) (by omega) h.1 h.2.2.1
        refine AtP.Bt rfl (by rw [hS.om h.1]; exact ge_s) ?_
        exact AtP.R rfl (⟨_, rfl, hs⟩)
      · intro n hn ih υ d4 d5 hs
        have hS := hs.sh (by omega) (by omega) h.1 h.2.2.1
        have hO := hS.2.2.2 n hn
        have h12 := (h.1.ord hn).2.2.2.2.2.2.2.1
        rw [bE] at ih
        refine AtP.Bf rfl (by rw [hS.om h.1]; exact ge_n hom.2 hn) ?_
        refine AtP.N rfl (v12 0 n (by omega)) ?_
        rw [nI_clamp (by omega)]
        refine AtP.Ci rfl (c_isOpen _) ?_
        rw [hO.2.2.2.2.2.1]
        by_cases ho : opn (σ 8 58) n
        · rw [if_pos ho]
          refine AtP.Bf rfl (by decide) ?_
          refine AtP.B rfl (fun hm => ?_) (fun hm => ?_)
          · rw [hO.2.2.2.2.1] at hm
            have hm1 : ¬ rO (σ 8 58) n 12 = 1 := by rw [hm]; decide
            refine AtP.CiP rfl (c_byExp (h.scr hs) (i := n) (by rw [hs.r]; exact hn)) (fun v9 σ9 h9 => ?_)
            obtain ⟨hw9, g⟩ := h9
            rw [hw9]
            clear hw9
            rw [hs.r, ← ef n]
            refine AtP.B rfl (fun hc => ?_) (fun hc => ?_)
            · rw [if_neg (fun z => le_nlt hc z.2)] at ih
              refine AtP.J rfl ?_
              rw [nI_1]
              exact ih _ _ _ (hs.trans g)
            · rw [if_pos ⟨⟨ho, hm1⟩, fa_of_nle hc⟩] at ih
              refine AtP.J rfl ?_
              rw [nI_1]
              exact ih _ _ _ (hs.trans g)
          · rw [hO.2.2.2.2.1] at hm
            rw [if_neg (fun z => z.1.2 (h12.resolve_left hm))] at ih
            refine AtP.J rfl ?_
            rw [nI_1]
            exact ih _ _ _ hs
        · rw [if_neg ho]
          rw [if_neg (fun z => ho z.1.1)] at ih
          refine AtP.Bt rfl (rfl) ?_
          refine AtP.J rfl ?_
          rw [nI_1]
          exact ih _ _ _ hs
    have k0 := L 0 (Nat.zero_le _) υ none none g
    rw [bE] at k0
    exact k0
  · show AtP mX7_bestExpedite 0 [some M, none, none, none, none] [] τ _
    rw [← e]
    rw [← e] at hom
    generalize hf : (fun n => tard (tkN (upd (τ 8 58) (131 + 14 * n + 12) 1) 2000)) = f
    have ef : ∀ n, f n = tard (tkN (upd (τ 8 58) (131 + 14 * n + 12) 1) 2000) := fun n => by rw [← hf]
    generalize hb9 : tard (tkN (τ 8 58) 2000) = b
    refine AtP.Cv rfl (e_leaves) ?_
    have ps : PR τ (cpy (iU τ 7 0 5 0) 58 0 60 0 467) := PR.start
    generalize cpy (iU τ 7 0 5 0) 58 0 60 0 467 = υ at ps ⊢
    have hl := e_late hτ ps hτ.1 rfl (fun j _ => rfl)
    rw [← ps.1, mR_self] at hl
    refine AtP.CiP rfl (hl) (fun v9 σ9 h9 => ?_)
    obtain ⟨hw9, g⟩ := h9
    rw [hw9]
    clear hw9
    rw [ps.1, hb9]
    clear hl ps
    refine AtP.F 18 [some M, some (.inl (-1)), some (.inl b), some (.inl (nI 0)), none] [] σ9 rfl ?_
    have L : ∀ n, n ≤ OM (τ 8 58) → ∀ (υ : iM) (d4 : Option iV), PR τ υ → AtP mX7_bestExpedite 18 [some M, some (.inl (bE (τ 8 58) f b n).1), some (.inl (bE (τ 8 58) f b n).2), some (.inl (nI n)), d4] [] υ (fun z => ∃ σ2, z = evi (bE (τ 8 58) f b (OM (τ 8 58))).1 σ2 ∧ σ2 7 0 5 = 0 ∧ scr τ σ2) := by
      refine down_ind (N := OM (τ 8 58)) ?_ ?_
      · intro υ d4 hs
        refine AtP.N rfl (v58 4 (by omega)) ?_
        rw [t4, hs.1]
        refine AtP.Bt rfl (by rw [hom.1]; exact ge_s) ?_
        exact AtP.R rfl (⟨_, rfl, hs.2.2.1, hs.scr⟩)
      · intro n hn ih υ d4 hs
        rw [bE] at ih
        refine AtP.N rfl (v58 4 (by omega)) ?_
        rw [t4, hs.1]
        refine AtP.Bf rfl (by rw [hom.1]; exact ge_n hom.2 hn) ?_
        refine AtP.Ci rfl (e_isOpen (by omega)) ?_
        rw [hs.1]
        by_cases ho : opn (τ 8 58) n
        · rw [if_pos ho]
          refine AtP.Bf rfl (by decide) ?_
          refine AtP.Ci rfl (e_order n 12 (by omega) (by omega) _) ?_
          rw [hs.1]
          refine AtP.B rfl (fun hm => ?_) (fun hm => ?_)
          · rw [if_neg (fun z => z.1.2 hm)] at ih
            refine AtP.J rfl ?_
            refine AtP.J rfl ?_
            rw [nI_1]
            exact ih _ _ hs
          · refine AtP.Cv rfl (e_setsOrder n 12 _ (by omega) (by omega) _) ?_
            rw [hs.1]
            refine AtP.CiP rfl (e_late hτ hs (mrk hτ.1 hn (b := 1) (Or.inr rfl)) (upd_ne' (by omega)) (fun j hj => upd_ne' (by omega))) (fun v9 σ9 h9 => ?_)
            obtain ⟨hw9, g⟩ := h9
            rw [hw9, ← ef n]
            clear hw9
            refine AtP.B rfl (fun hc => ?_) (fun hc => ?_)
            · rw [if_neg (fun z => le_nlt hc z.2)] at ih
              refine AtP.J rfl ?_
              rw [nI_1]
              exact ih _ _ g
            · rw [if_pos ⟨⟨ho, hm⟩, fa_of_nle hc⟩] at ih
              refine AtP.J rfl ?_
              rw [nI_1]
              exact ih _ _ g
        · rw [if_neg ho]
          rw [if_neg (fun z => ho z.1.1)] at ih
          refine AtP.Bt rfl (rfl) ?_
          refine AtP.J rfl ?_
          rw [nI_1]
          exact ih _ _ hs
    have k0 := L 0 (Nat.zero_le _) σ9 none g
    rw [bE] at k0
    exact k0
theorem p_finishOf (h : INV σ) (o : Int32) : OKi mX6_finishOf mX7_finishOf [.inl o] 0 σ := by
  have hom := h.1.om
  have h30 := h.2.1
  rcases ix_cases (OM (σ 8 58)) hom.2 o with ⟨i, hi, rfl⟩ | ho
  · obtain ⟨a, b, c⟩ := tkN_ok h.1 2000 (by omega)
    obtain ⟨s1, s2, s3⟩ := tkN_st h.1 2000 (by omega)
    refine OKi.rd (if rO (σ 8 58) i 3 = 3 then -1 else rO (tkN (σ 8 58) 2000) i 11) h ?_ (fun τ hτ e => ?_)
    · show AtP mX6_finishOf 0 [some X, some (.inl (nI i)), none] [] σ _
      refine AtP.Cr rfl (c_order h hi) (show 24 * 0 + i < 96 by omega) ?_
      have hO := h.2.2.1.2.2.2 i hi
      refine AtP.Ci rfl (c_isOpen _) ?_
      rw [hO.2.2.2.2.2.1]
      by_cases hop : opn (σ 8 58) i
      · have h3 : ¬ rO (σ 8 58) i 3 = 3 := by rcases hop with q | q <;> rw [q] <;> decide
        rw [if_pos hop, if_neg h3]
        refine AtP.Bf rfl (by decide) ?_
        refine AtP.CvP rfl (c_copyFrom h.2.2.1 h.1 (a := 1) (b := 0) (by omega) (by omega) (by omega)) (fun σ9 h9 => ?_)
        obtain ⟨hS, hf⟩ := h9
        refine AtP.CvP rfl (c_pass hS h.1 (by omega) (n := 2000) (by omega)) (fun σ9 h9 => ?_)
        obtain ⟨hS2, hf2⟩ := h9
        refine AtP.N rfl (v12 1 i (by omega)) ?_
        rw [nI_clamp (by omega)]
        have hO2 := hS2.2.2.2 i (by rw [b.om]; exact hi)
        exact AtP.R rfl (⟨_, by rw [hO2.2.2.2.2.2.2.2.2.2.2.2.2.1], hf.scr.trans hf2.w.scr⟩)
      · rw [if_neg hop]
        refine AtP.Bt rfl (rfl) ?_
        refine AtP.R rfl ⟨_, ?_, scr.rfl⟩
        rw [hO.2.2.2.2.2.2.2.2.2.2.2.2.1]
        rcases (h.1.ord hi).2.2.2.2.2.2.2.2 with q | q | q | q
        · exact absurd (Or.inl q.1) hop
        · rw [if_pos q.1, q.2.2.2.2.2]
        · exact absurd (Or.inr q.1) hop
        · rw [if_neg (by rw [q.1]; decide), ((s1 i).2 (Or.inl q.1)).2]
    · show AtP mX7_finishOf 0 [some M, some (.inl (nI i)), none] [] τ _
      rw [← e] at hi hom h30 ⊢
      refine AtP.Ci rfl (e_ord1 rfl hτ.1 hi) ?_
      refine AtP.Ci rfl (e_thr1 _ _) ?_
      refine AtP.Bt rfl (rfl) ?_
      refine AtP.Ci rfl (e_order i 3 (by omega) (by omega) _) ?_
      rw [U7_r]
      refine AtP.B rfl (fun hc => ?_) (fun hc => ?_)
      · rw [if_pos hc]
        exact AtP.R rfl (⟨_, rfl, iU_same, scr.T⟩)
      · rw [if_neg hc]
        refine AtP.Cv rfl (e_leaves) ?_
        have ps : PR τ (cpy (iU τ 7 0 5 0) 58 0 60 0 467) := PR.start
        generalize cpy (iU τ 7 0 5 0) 58 0 60 0 467 = υ at ps ⊢
        refine AtP.CiP rfl (e_endOf (by rw [ps.1]; exact hτ.1) (by rw [ps.1]; omega) (i := i) (by rw [ps.1]; exact hi)) (fun v9 σ9 h9 => ?_)
        obtain ⟨hw9, g1, g2⟩ := h9
        rw [hw9]
        clear hw9
        rw [ps.1] at g1 ⊢
        refine AtP.Cv rfl (e_comesBack) ?_
        have g60 : ∀ j, j < 467 → _ := fun j hj => (g2 8 60 j (by omega) (by omega)).trans (ps.2.1 j hj)
        have g58 := cb_58 (r := τ 8 58) g60 g1
        refine AtP.R rfl ⟨_, rfl, ?_, ?_⟩
        · rw [cpy_out (by omega), g2 _ _ _ (by omega) (by omega)]; exact ps.2.2.1
        · intro k i' j' hk
          by_cases c58 : k = 8 ∧ i' = 58
          · rw [c58.1, c58.2, g58]
          · rw [cpy_out (by omega), g2 _ _ _ (fun z => hk (Or.inr (Or.inr (Or.inr (Or.inr ⟨z.1, by omega⟩))))) (fun z => hk (Or.inr (Or.inr (Or.inr (Or.inl ⟨z.1, by omega⟩)))))]
            exact ps.scr k i' j' hk
  · refine OKi.t0 h (v := 0) ?_ ?_
    · show At mX6_finishOf 0 [some X, some (.inl o), none] [] σ _
      exact At.X rfl (c_order_no h ho)
    · show At mX7_finishOf 0 [some M, some (.inl o), none] [] σ _
      refine At.Ci rfl (e_ord0 rfl h.1 ho) ?_
      refine At.Ci rfl (e_thr0 _ _) ?_
      refine At.Bf rfl (by decide) ?_
      exact At.R rfl
end PRS
