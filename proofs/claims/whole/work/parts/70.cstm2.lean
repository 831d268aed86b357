/-! ===== the class reads a statement ===== -/
section CST
variable {σ σ0 : iM} {T : Row} {n a b st P : Nat} {r so R : Row}
theorem c_rdProduct (h : OKc σ0 σ T n b st r so) (hr : RI r) (hfr : frs r) : EvP mX2_readProduct [Rc, Y1, .inl (nI a)] σ (fun z => ∃ σ1, z = evv σ1 ∧ OUc σ0 σ1 T n st (if PM r = 6 then .inl (4, a) else (match prL T n 7 (nmA T n b) r 0 with | .inl e => .inl e | .inr (a', r') => .inr (a', r', so)))) := by
  have hpm := hr.pm
  have hsc := hr.sc
  have hom := hr.om
  have e5 : σ 4 1 5 = nI (PM r) := h.2.2.2.1.1.2.1.trans hpm.1
  show AtP mX2_readProduct 0 [some Rc, some Y1, some (.inl (nI a)), none, none] [] σ _
  by_cases c : PM r = 6
  · rw [if_pos c]
    refine AtP.Bf rfl (by rw [e5, c]; decide) ?_
    refine AtP.Cv rfl (c_fail0 h.2.1 4 _) ?_
    exact AtP.R rfl (⟨_, rfl, ER.mk h.1 (by decide) h.2.2.1 h.2.2.2.2.2⟩)
  · rw [if_neg c]
    have hg : pgI r 0 := ⟨hfr _ (Nat.le_refl _) (by omega), fun j hj => absurd hj (Nat.not_lt_zero j), fun i j hi => absurd hi (Nat.not_lt_zero i)⟩
    obtain ⟨P, eP⟩ : ∃ P, P = PM r := ⟨_, rfl⟩
    rw [← eP] at e5
    have hP6 : P < 6 := by omega
    refine AtP.Bt rfl (by rw [e5]; exact (nI_lt_iff (by omega) (b := 6) (by omega)).mpr hP6) ?_
    refine AtP.N rfl (by rw [e5]; exact v13 1 P hP6) ?_
    rw [e5, nI_clamp (by omega)]
    have hcl : Ev mX1_clear [.inr (1, 6 * 1 + P)] σ (evv (iU (iU σ 1 (6 * 1 + P) 2 0) 1 (6 * 1 + P) 3 (-1))) := by
      show At mX1_clear 0 [some (.inr (1, 6 * 1 + P))] [] σ _
      exact At.R rfl
    refine AtP.Cv rfl (hcl) ?_
    have o : ∀ k i j, ¬ (k = 1 ∧ i = 6 * 1 + P) → iU (iU σ 1 (6 * 1 + P) 2 0) 1 (6 * 1 + P) 3 (-1) k i j = σ k i j := fun k i j x => by rw [iU_ne (by omega), iU_ne (by omega)]
    have oc : PGc (iU (iU σ 1 (6 * 1 + P) 2 0) 1 (6 * 1 + P) 3 (-1)) P r 0 := ⟨by rw [iU_ne (by omega)]; exact iU_same, iU_same, fun j hj => absurd hj (Nat.not_lt_zero j)⟩
    have hcf := (h.2.2.2.2.2.Uo (j := 2) (x := 0) (ow_p hP6)).Uo (j := 3) (x := -1) (ow_p hP6)
    generalize iU (iU σ 1 (6 * 1 + P) 2 0) 1 (6 * 1 + P) 3 (-1) = υ at o oc hcf ⊢
    have hS : Sh υ 1 r := h.2.2.2.1.of1 hr sam1.rfl (fun p hp => ⟨fun j => o _ _ _ (by omega), fun j => o _ _ _ (by omega), fun j => o _ _ _ (by omega)⟩) (h.2.2.2.1.1.same (fun j => o _ _ _ (by omega)) (fun n hn => rfl)) (fun q hq => (h.2.2.2.1.2.1 q hq).same (fun j _ => o _ _ _ (by omega)) (fun w hw => rfl) (by rw [o _ _ _ (by omega)]; exact (h.2.2.2.1.2.1 q hq).2.2.2.2.1)) (fun p hp hp2 => by omega) (fun i hi => h.2.2.2.1.ordS hr sam1.rfl hi (fun w _ => o _ _ _ (by omega)) (fun w _ => rfl))
    have g := h.Sh' hS rfl (fun j => o _ _ _ (by omega)) (fun j => o _ _ _ (by omega)) (fun j => o _ _ _ (by omega)) hcf
    have hB : b ≤ nmA T n b ∧ nmA T n b ≤ n ∧ ¬ (nmA T n b < n ∧ isSp (T (nmA T n b)) = true) := sc_b h.1.2.2.2.1
    refine AtP.F 33 [some Rc, some Y1, some (.inl (nI a)), some (.inr (1, 6 * 1 + P)), some (.inl (nI 0))] [] υ rfl ?_
    refine AtP.Bf rfl (by decide) ?_
    refine AtP.Cv rfl (c_skip g.1) ?_
    have g2 := g.at hr (b := nmA T n b) hB.2.1
    have oc2 : PGc (iU υ 2 0 5 (nI (nmA T n b))) P r 0 := oc.at
    rw [show sc isSp T n b = nmA T n b from rfl]
    refine AtP.Bt rfl (g2.2.1) ?_
    refine AtP.Bt rfl (by decide) ?_
    exact c_prL hP6 7 0 rfl (by omega) _ _ r g2 hr eP hg oc2 (sc_sc h.1.2.2.2.1)
theorem c_rdStations (h : OKc σ0 σ T n b st (bgU R 1 0) so) (hq : ∀ q, q < 6 → ∀ j, j < 8 → σ 5 (6 * 1 + q) j = if j = 2 ∨ j = 3 then -1 else 0) : EvP mX2_readStations [Rc, Y1] σ (fun z => ∃ σ1, z = evv σ1 ∧ OUc σ0 σ1 T n st (num1 T n 1 6 b (fun c a3 => num1 T n 0 ((c : Int) - 1) a3 (fun d a4 => .inr (a4, bgU R c d, so))))) := by
  have hr : RI (bgU R 1 0) := bg_RI (by omega) (by omega) (by omega)
  have hz : (0 : Int32).toInt = 0 := rfl
  have h1t : (1 : Int32).toInt = 1 := rfl
  show AtP mX2_readStations 0 [some Rc, some Y1, none, none] [] σ _
  unfold num1
  rcases c_num h hr (lo := 1) (hi := 6) (by decide) (by decide) with ⟨V, d, e, e1, e2, e3, e4⟩ | ⟨k, q, σ1, e, e1, e2⟩
  · rw [show nmb T n 1 6 b = .inr (V, d) from e]
    dsimp only
    refine AtP.Ci rfl (e3) ?_
    have e2 : V ≤ 6 := by have : (6 : Int32).toInt = 6 := rfl; omega
    have e1m : nI V - 1 = nI (V - 1) := pk_sub (b := 1) (by omega)
    have e1t : (nI V - 1).toInt = (V : Int) - 1 := by rw [e1m, nI_toInt (by omega)]; omega
    rcases c_num e4 hr (lo := 0) (hi := nI V - 1) (by decide) (by omega) with ⟨V2, d2, f, f1, f2, f3, f4⟩ | ⟨k, q, σ1, f, f1, f2⟩
    · rw [hz, e1t] at f
      rw [f]
      refine AtP.Ci rfl (f3) ?_
      refine AtP.Bt rfl (f4.2.1) ?_
      have hq2 : ∀ q, q < 6 → ∀ j, j < 8 → iU (iU σ 2 0 5 (nI d)) 2 0 5 (nI d2) 5 (6 * 1 + q) j = if j = 2 ∨ j = 3 then -1 else 0 := fun q hq6 j hj => by rw [iU_ne (by omega), iU_ne (by omega)]; exact hq q hq6 j hj
      generalize iU (iU σ 2 0 5 (nI d)) 2 0 5 (nI d2) = υ at f4 hq2 ⊢
      have o : ∀ k i j, ¬ (k = 4 ∧ i = 1 ∧ (j = 4 ∨ j = 7)) → iU (iU υ 4 1 4 (nI V)) 4 1 7 (nI V2) k i j = υ k i j := fun k i j x => by rw [iU_ne (by omega), iU_ne (by omega)]
      have hcf := (f4.2.2.2.2.2.U4 (j := 4) (x := nI V)).U4 (j := 7) (x := nI V2)
      have o4 : iU (iU υ 4 1 4 (nI V)) 4 1 7 (nI V2) 4 1 4 = nI V := by rw [iU_ne (by omega)]; exact iU_same
      have o7 : iU (iU υ 4 1 4 (nI V)) 4 1 7 (nI V2) 4 1 7 = nI V2 := iU_same
      refine AtP.R rfl ⟨_, rfl, ?_⟩
      generalize iU (iU υ 4 1 4 (nI V)) 4 1 7 (nI V2) = ψ at o o4 o7 hcf ⊢
      have hsc : SC (bgU R V V2) = V := by unfold SC; rw [bg_1, nn_nI (by omega)]
      refine f4.Sh' ⟨?_, fun q hq' => ?_, fun p hp => ?_, fun i hi => ?_⟩ (by rw [bg_om, bg_om]) (fun j => o _ _ _ (by omega)) (fun j => o _ _ _ (by omega)) (fun j => o _ _ _ (by omega)) hcf
      · have h1 := f4.2.2.2.1.1
        unfold ShS at h1 ⊢
        rw [o4, o7, o 4 1 5 (by omega), o 4 1 6 (by omega), o 4 1 8 (by omega), o 4 1 9 (by omega), o 4 1 10 (by omega), o 4 1 11 (by omega), o 4 1 12 (by omega), o 4 1 13 (by omega), o 4 1 14 (by omega)]
        rw [bg_1, bg_2, bg_7, bg_56 (Or.inl rfl), bg_56 (Or.inr rfl), bg_z (j := 3) (by omega), bg_z (j := 4) (by omega), bg_z (j := 8) (by omega), bg_z (j := 9) (by omega), bg_z (j := 0) (by omega), bg_z (j := 10) (by omega)] at h1 ⊢
        exact ⟨rfl, h1.2.1, h1.2.2.1, rfl, h1.2.2.2.2⟩
      · rw [hsc] at hq'
        have hz2 : wtC (bgU R V V2) q = 0 := by unfold wtC; rw [bg_om]; rfl
        have hv := hq2 q (by omega)
        unfold ShQ
        rw [o 5 _ 0 (by omega), o 5 _ 1 (by omega), o 5 _ 2 (by omega), o 5 _ 3 (by omega), o 5 _ 4 (by omega), o 5 _ 5 (by omega), o 5 _ 6 (by omega), o 5 _ 7 (by omega), hz2, hv 0 (by omega), hv 1 (by omega), hv 2 (by omega), hv 3 (by omega), hv 4 (by omega), hv 5 (by omega), hv 6 (by omega), hv 7 (by omega), bg_s (w := 5) (by omega) (by omega), bg_s (w := 2) (by omega) (by omega), bg_s (w := 0) (by omega) (by omega), bg_s (w := 1) (by omega) (by omega), bg_s (w := 3) (by omega) (by omega), bg_s (w := 4) (by omega) (by omega), bg_s (w := 6) (by omega) (by omega)]
        exact ⟨rfl, rfl, rfl, rfl, rfl, rfl, rfl, rfl⟩
      · rw [bg_pm] at hp; exact absurd hp (Nat.not_lt_zero p)
      · rw [bg_om] at hi; exact absurd hi (Nat.not_lt_zero i)
    · rw [hz, e1t] at f
      rw [f]
      refine AtP.Ci rfl (f1) ?_
      refine AtP.Bf rfl (f2.ne) ?_
      exact AtP.R rfl (⟨_, rfl, f2⟩)
  · rw [show nmb T n 1 6 b = .inl (k, q) from e]
    dsimp only
    refine AtP.Ci rfl (e1) ?_
    refine AtP.Ci rfl (c_rnE e2.ne _ _) ?_
    refine AtP.Bf rfl (e2.ne) ?_
    exact AtP.R rfl (⟨_, rfl, e2⟩)
/-- behind a statement: spaces -/
def OUs (σ σ1 : iM) (T : Row) (n st : Nat) : Out → Prop
  | .inl (k, q) => ER σ σ1 T n st k q
  | .inr (a, r, so) => OKc σ σ1 T n (nmA T n a) st r so
theorem c_129 {o : Out} {d1 d2 d3 : Option iV} (h : OUc σ0 σ T n st o) (hr : ∀ a r so, o = .inr (a, r, so) → RI r) : AtP mX2_readStatement 129 [some Rc, d1, d2, d3] [] σ (fun z => ∃ σ1, z = evv σ1 ∧ OUs σ0 σ1 T n st o) := by
  cases o with
  | inl e =>
    obtain ⟨k, q⟩ := e
    have h : ER σ0 σ T n st k q := h
    obtain ⟨y, hy⟩ := h.2.2.2.2.1
    refine AtP.Cv rfl (c_skip hy) ?_
    exact AtP.R rfl (⟨_, rfl, h.at (x := sc isSp T n y) (sc_b hy.2.2.2.1).2.1⟩)
  | inr y =>
    obtain ⟨a, r, so⟩ := y
    have h : OKc σ0 σ T n a st r so := h
    refine AtP.Cv rfl (c_skip h.1) ?_
    exact AtP.R rfl (⟨_, rfl, h.at (hr a r so rfl) (sc_b h.1.2.2.2.1).2.1⟩)
theorem c_word (h : OKc σ0 σ T n a st r so) (hr : RI r) {Q : iRes → Prop} (k : OKc σ0 (iU σ 2 0 5 (nI (wdE T n a))) T n (wdE T n a) st r so → AtP mX2_readStatement 40 [some Rc, some Y1, some (.inl (nI (wdA T n a))), none] [] (iU σ 2 0 5 (nI (wdE T n a))) Q) : AtP mX2_readStatement 0 [some Rc, some Y1, none, none] [] σ Q := by
  have hA : a ≤ wdA T n a ∧ wdA T n a ≤ n ∧ ¬ (wdA T n a < n ∧ isSp (T (wdA T n a)) = true) := sc_b h.1.2.2.2.1
  have hE : wdA T n a ≤ wdE T n a ∧ wdE T n a ≤ n ∧ ¬ (wdE T n a < n ∧ isLt (T (wdE T n a)) = true) := sc_b hA.2.1
  refine AtP.Cv rfl (c_skip h.1) ?_
  have e0 : iU σ 2 0 5 (nI (sc isSp T n a)) 2 0 5 = nI (wdA T n a) := iU_same
  refine AtP.F 9 [some Rc, some Y1, some (.inl (iU σ 2 0 5 (nI (sc isSp T n a)) 2 0 5)), none] [] (iU σ 2 0 5 (nI (sc isSp T n a))) (Eq.trans (b := evB _ _ _ _ _ _) rfl rfl) ?_
  rw [e0]
  have key : ∀ f b, n - b = f → b ≤ n → sc isLt T n b = wdE T n a → AtP mX2_readStatement 9 [some Rc, some Y1, some (.inl (nI (wdA T n a))), none] [] (iU σ 2 0 5 (nI b)) Q := by
    intro f
    induction f with
    | zero =>
      intro b hf hb he
      have g := h.at hr hb
      have g2 := g.1.2.1
      refine AtP.Bt rfl (by rw [g.1.1, g.1.2.2.1, nI_le_iff (by omega) (by omega)]; omega) ?_
      have : b = wdE T n a := by rw [← he]; exact (sc_f (by omega)).symm
      rw [this]
      exact k (h.at hr hE.2.1)
    | succ f ih =>
      intro b hf hb he
      have g := h.at hr hb
      have g2 := g.1.2.1
      refine AtP.Bf rfl (by rw [g.1.1, g.1.2.2.1, nI_le_iff (by omega) (by omega)]; omega) ?_
      refine AtP.Ci rfl (c_let g.1) ?_
      by_cases c : b < n ∧ isLt (T b) = true
      · rw [if_pos c]
        refine AtP.Bf rfl (by decide) ?_
        refine AtP.J rfl ?_
        rw [iU_same, nI_1, iU_iU]
        exact ih (b + 1) (by omega) (by omega) (by rw [← he]; exact (sc_t c.1 c.2).symm)
      · rw [if_neg c]
        refine AtP.Bt rfl (rfl) ?_
        have : b = wdE T n a := by rw [← he]; exact (sc_f c).symm
        rw [this]
        exact k (h.at hr hE.2.1)
  exact key _ _ rfl hA.2.1 rfl
theorem c_first (h : OKc σ0 σ T n 0 0 (bgU R 1 0) so) (hq : ∀ q, q < 6 → ∀ j, j < 8 → σ 5 (6 * 1 + q) j = if j = 2 ∨ j = 3 then -1 else 0) : EvP mX2_readStatement [Rc, Y1] σ (fun z => ∃ σ1, z = evv σ1 ∧ OUs σ0 σ1 T n 0 (fsF T n R so)) := by
  have hr : RI (bgU R 1 0) := bg_RI (by omega) (by omega) (by omega)
  have hA : 0 ≤ wdA T n 0 ∧ wdA T n 0 ≤ n ∧ ¬ (wdA T n 0 < n ∧ isSp (T (wdA T n 0)) = true) := sc_b (Nat.zero_le _)
  have hE : wdA T n 0 ≤ wdE T n 0 ∧ wdE T n 0 ≤ n ∧ ¬ (wdE T n 0 < n ∧ isLt (T (wdE T n 0)) = true) := sc_b hA.2.1
  have hok := @fsF_ok T n R so
  show AtP mX2_readStatement 0 [some Rc, some Y1, none, none] [] σ _
  refine c_word h hr (fun g => ?_)
  have hq2 : ∀ q, q < 6 → ∀ j, j < 8 → iU σ 2 0 5 (nI (wdE T n 0)) 5 (6 * 1 + q) j = if j = 2 ∨ j = 3 then -1 else 0 := fun q hq6 j hj => by rw [iU_ne (by omega)]; exact hq q hq6 j hj
  generalize iU σ 2 0 5 (nI (wdE T n 0)) = υ at g hq2 ⊢
  refine AtP.Bt rfl (g.2.2.1) ?_
  refine AtP.J rfl ?_
  refine AtP.Ci rfl (c_isWord g.1 hE.1 (w := 0) (by omega)) ?_
  unfold fsF at hok ⊢
  by_cases c : isW T (wdA T n 0) (wdE T n 0) 0
  · rw [if_pos c]
    rw [if_pos c] at hok ⊢
    refine AtP.Bt rfl (rfl) ?_
    refine AtP.Bf rfl (by decide) ?_
    refine AtP.CvP rfl (c_rdStations g hq2) (fun σ9 h9 => ?_)
    refine AtP.J rfl ?_
    exact c_129 h9 (fun a r so' e => by obtain ⟨c', d', e1, e2, e3, e4, -⟩ := hok e; rw [e1]; exact bg_RI e2 e3 e4)
  · rw [if_neg c]
    rw [if_neg c] at hok ⊢
    refine AtP.Bf rfl (by decide) ?_
    refine AtP.Cv rfl (c_fail0 g.2.1 1 _) ?_
    refine AtP.J rfl ?_
    exact c_129 (o := .inl (1, wdA T n 0)) (ER.mk g.1 (by decide) g.2.2.1 g.2.2.2.2.2) (fun a r so' e => by cases e)
theorem c_stmt (h : OKc σ0 σ T n a st r so) (hr : RI r) (hfr : frs r) (hst : 1 ≤ st) (hst2 : st < 2 ^ 31) : EvP mX2_readStatement [Rc, Y1] σ (fun z => ∃ σ1, z = evv σ1 ∧ OUs σ0 σ1 T n st (stF T n st a r so)) := by
  have hA : a ≤ wdA T n a ∧ wdA T n a ≤ n ∧ ¬ (wdA T n a < n ∧ isSp (T (wdA T n a)) = true) := sc_b h.1.2.2.2.1
  have hE : wdA T n a ≤ wdE T n a ∧ wdE T n a ≤ n ∧ ¬ (wdE T n a < n ∧ isLt (T (wdE T n a)) = true) := sc_b hA.2.1
  have hok : ∀ a' r' so', stF T n st a r so = .inr (a', r', so') → RI r' := fun a' r' so' e => (stF_ok h.1.2.2.2.1 hr hfr e).1
  show AtP mX2_readStatement 0 [some Rc, some Y1, none, none] [] σ _
  refine c_word h hr (fun g => ?_)
  generalize iU σ 2 0 5 (nI (wdE T n a)) = υ at g ⊢
  have z0 : ¬ nI st = 0 := by rw [fa_eq, nI_toInt hst2]; show ¬ (st : Int) = 0; omega
  refine AtP.Bf rfl (by rw [g.2.2.1]; exact z0) ?_
  refine AtP.Ci rfl (c_isWord g.1 hE.1 (w := 0) (by omega)) ?_
  by_cases c0 : isW T (wdA T n a) (wdE T n a) 0
  · have e : stF T n st a r so = .inl (1, wdA T n a) := by
      unfold stF
      rw [if_neg (isW_ne c0 (by omega) (by omega) (by omega)), if_neg (isW_ne c0 (by omega) (by omega) (by omega)), if_neg (isW_ne c0 (by omega) (by omega) (by omega)), if_neg (isW_ne c0 (by omega) (by omega) (by omega)), if_neg (isW_ne c0 (by omega) (by omega) (by omega)), if_neg (isW_ne c0 (by omega) (by omega) (by omega)), if_neg (isW_ne c0 (by omega) (by omega) (by omega))]
    rw [if_pos c0, e]
    refine AtP.Bf rfl (by decide) ?_
    refine AtP.Cv rfl (c_fail0 g.2.1 1 _) ?_
    refine AtP.J rfl ?_
    exact c_129 (o := .inl (1, wdA T n a)) (ER.mk g.1 (by decide) g.2.2.1 g.2.2.2.2.2) (fun a r so' e => by cases e)
  · rw [if_neg c0]
    refine AtP.Bt rfl (rfl) ?_
    refine AtP.Bt rfl (rfl) ?_
    refine AtP.Ci rfl (c_isWord g.1 hE.1 (w := 1) (by omega)) ?_
    by_cases c1 : isW T (wdA T n a) (wdE T n a) 1
    · have e : stF T n st a r so = (if PM r = 6 then .inl (4, wdA T n a) else (match prL T n 7 (nmA T n (wdE T n a)) r 0 with | .inl e => .inl e | .inr (a', r') => .inr (a', r', so))) := by
        unfold stF
        rw [if_neg (isW_ne c1 (by omega) (by omega) (by omega)), if_neg (isW_ne c1 (by omega) (by omega) (by omega)), if_neg (isW_ne c1 (by omega) (by omega) (by omega)), if_neg (isW_ne c1 (by omega) (by omega) (by omega)), if_neg (isW_ne c1 (by omega) (by omega) (by omega)), if_pos c1]
        rfl
      rw [e] at hok
      rw [if_pos c1, e]
      refine AtP.Bf rfl (by decide) ?_
      refine AtP.CvP rfl (c_rdProduct g hr hfr) (fun σ9 h9 => ?_)
      refine AtP.J rfl ?_
      exact c_129 h9 hok
    · rw [if_neg c1]
      refine AtP.Bt rfl (rfl) ?_
      refine AtP.Ci rfl (c_isWord g.1 hE.1 (w := 2) (by omega)) ?_
      by_cases c2 : isW T (wdA T n a) (wdE T n a) 2
      · have e : stF T n st a r so = (if OM r = 24 then .inl (4, wdA T n a) else num1 T n 0 ((PM r : Int) - 1) (wdE T n a) (fun p a3 => num1 T n 1 50 a3 (fun q a4 => num1 T n 0 30000 a4 (fun d a5 => .inr (a5, layR r p (nI q) (nI d), upd so (OM r) (nI st)))))) := by
          unfold stF
          rw [if_neg (isW_ne c2 (by omega) (by omega) (by omega)), if_neg (isW_ne c2 (by omega) (by omega) (by omega)), if_neg (isW_ne c2 (by omega) (by omega) (by omega)), if_neg (isW_ne c2 (by omega) (by omega) (by omega)), if_neg (isW_ne c2 (by omega) (by omega) (by omega)), if_neg c1, if_pos c2]
        rw [e] at hok
        rw [if_pos c2, e]
        refine AtP.Bf rfl (by decide) ?_
        refine AtP.CvP rfl (c_rdOrder g hr hst2) (fun σ9 h9 => ?_)
        refine AtP.J rfl ?_
        exact c_129 h9 hok
      · rw [if_neg c2]
        refine AtP.Bt rfl (rfl) ?_
        have hset := c_setting g hr hE.1 c1 c2
        have e : stF T n st a r so = (if isW T (wdA T n a) (wdE T n a) 3 then num1 T n 1 500 (wdE T n a) (fun b a3 => num1 T n 1 500 a3 (fun s a4 => .inr (a4, upd (upd r 5 (nI b)) 6 (nI s), so)))
          else if isW T (wdA T n a) (wdE T n a) 4 then num1 T n 1 5000 (wdE T n a) (fun b a3 => .inr (a3, upd r 7 (nI b), so))
          else if isW T (wdA T n a) (wdE T n a) 5 then num1 T n 0 3 (wdE T n a) (fun b a3 => .inr (a3, upd r 8 (nI b), so))
          else if isW T (wdA T n a) (wdE T n a) 6 then num1 T n 0 1 (wdE T n a) (fun b a3 => .inr (a3, upd r 9 (nI b), so))
          else if isW T (wdA T n a) (wdE T n a) 7 then num1 T n 0 ((SC r : Int) - 1) (wdE T n a) (fun q a3 => num1 T n 0 50 a3 (fun v a4 => .inr (a4, upd r (11 + 7 * q + 5) (nI v), so)))
          else .inl (1, wdA T n a)) := by
          unfold stF
          rw [if_neg c1, if_neg c2]
        rw [← e] at hset
        refine AtP.CvP rfl (hset) (fun σ9 h9 => ?_)
        exact c_129 h9 hok
end CST
