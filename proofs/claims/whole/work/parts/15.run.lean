/-! ===== soundness: a whole run ===== -/
def exN (x : Nat) : String := match x with | 0 => "java/lang/IndexOutOfBoundsException" | _ => "java/lang/IllegalArgumentException"
def iXC (dC : Nat → ClassId) (dI : Nat → Nat → Nat) (ad : Nat → Nat → Nat) (cy : Nat → ClassId) (x0 : Nat) (σ0 : iM) : String → State → State → Prop := fun E st t => E = exN x0 ∧ va_P (dC, dI) vwCl (wW ad cy σ0) t.heap ∧ va_F (wA ad) st t
abbrev iRx (j : Nat) : Room := { frames := iFr j, cells := 1, slots := 6, locals := iLo j }
/-- a call that throws -/
def iMetX (l : Launch) (dC : Nat → ClassId) (dI : Nat → Nat → Nat) (ad : Nat → Nat → Nat) (cy : Nat → ClassId) (EX : State → Prop) (k : Nat) (as : List iV) (σ : iM) (x0 : Nat) (σ0 : iM) : Prop := vx_Met l (iY k) (iWs k) (iRx k) (iPc dC dI ad cy EX as σ) (fun _ _ _ _ => False) (iXC dC dI ad cy x0 σ0) 1 6 (wA ad)
abbrev iQx (below : List Frame) (dC : Nat → ClassId) (dI : Nat → Nat → Nat) (ad : Nat → Nat → Nat) (cy : Nat → ClassId) (args : Array Value) (s : State) (x0 : Nat) (σ0 : iM) : State → Prop := vx_MQ below (fun _ _ _ _ => False) (iXC dC dI ad cy x0 σ0) args s 1 6 (wA ad)
section SND3
variable {p : Program} {l : Launch} {e : Env} {s : State} {m : MethodId} {args : Array Value} {below : List Frame} {meth : Method} {c : Code} {dC : Nat → ClassId} {dI : Nat → Nat → Nat} {ad : Nat → Nat → Nat} {cy : Nat → ClassId} {EX : State → Prop}
theorem iPc_blind (hEX : iEX l ad EX) (as : List iV) (σ : iM) : FrameBlind (iPc dC dI ad cy EX as σ) := fun a9 U g mk q9 => ⟨q9.1, q9.2.1, va_K.moved (u := U) (U := U.calling g mk a9) (Vm.Alike.refl U.vm) q9.2.2.1, hEX.2.1 U g mk a9 q9.2.2.2⟩
theorem goodV {j a idx : Nat} (ha : a < nMt) (hst : iStt a = false) (hw : Cond.methodLink (iOwn j) idx (iY a) ∈ tw) : GoodIn (iWs j) (wsV (iOwn j) idx (iOwn a) (iY a) (iWs a)) := by
  obtain ⟨k1, k2, k3, k4, -⟩ := ckM ha
  rw [hst] at k2 k3
  simp only [cond_false] at k2
  have k3 := k3.resolve_left (by decide)
  apply good_tw
  intro w hw9
  unfold wsV at hw9
  rcases List.mem_append.mp hw9 with hw9 | hw9
  · simp only [List.mem_cons, List.not_mem_nil, or_false] at hw9
    rcases hw9 with rfl | rfl | rfl | rfl
    · exact hw
    · exact k2
    · exact k3
    · exact k4
  · rcases List.mem_cons.mp hw9 with rfl | hw9
    · exact k1
    · exact hw9
theorem goodS {j a idx : Nat} (ha : a < nMt) (hst : iStt a = true) (hoo : iOwn a = iOwn j) (hw : Cond.methodLink (iOwn j) idx (iY a) ∈ tw) : GoodIn (iWs j) (wsS (iOwn j) idx (iY a) (iWs a)) := by
  obtain ⟨k1, k2, k3, k4, -⟩ := ckM ha
  rw [hst] at k2
  simp only [cond_true] at k2
  apply good_tw
  intro w hw9
  unfold wsS at hw9
  rcases List.mem_append.mp hw9 with hw9 | hw9
  · simp only [List.mem_cons, List.not_mem_nil, or_false] at hw9
    rcases hw9 with rfl | rfl | rfl
    · exact hw
    · exact k2
    · rw [← hoo]; exact k4
  · rcases List.mem_cons.mp hw9 with rfl | hw9
    · exact k1
    · exact hw9
set_option maxHeartbeats 4000000 in
/-- a call that answers -/
theorem call_norm {j : Nat} {R : Room} {Q : State → Prop} (hRf : R.frames = iFr j) (hRl : R.locals = iLo j) (C : iCF p l s m args meth c dC dI ad cy EX j) (a : Nat) (as : List iV) (pc : Nat) (L : iL) (S : iS) (σ : iM) (ha : a < nMt) (hAl : as.length = iNa a) (hS8 : S.length ≤ 8) (hfr : iFr a + 1 ≤ iFr j) (hlo : 8 + (iMl a + 11) + iLo a ≤ iLo j) (hcs : iCS j a as pc) {v : Option iV} {σ1 : iM} (hM : (∀ x ∈ as, vok x) → iMet l dC dI ad cy EX a as σ v σ1) (hvo : vokO v) (hE : WAt p l e s m args below meth c dC dI ad cy R Q j (pc + 3) L (v.toList ++ S) σ1) : WAt p l e s m args below meth c dC dI ad cy R Q j pc L (as.reverse ++ S) σ := by
  obtain ⟨hj, hx, hb, hr, hml, hts, hown, hlocks, hK, hex, hEX, hI, htab⟩ := C
  obtain ⟨k1, k2, k3, k4, k5, k6, k7, k8, k9, k10, k11, k12, -⟩ := ckM ha
  intro H locs ls hP hS hL hLl hSv hLv
  have hAs : ∀ x ∈ as, vok x := fun x hx9 => hSv x (List.mem_append_left _ (List.mem_reverse.mpr hx9))
  have hSv2 : ∀ v ∈ S, vok v := fun v hv => hSv v (List.mem_append_right _ hv)
  have hM := hM hAs
  have key : ∀ {Qa : State → Outcome → State → Prop} (hQa : ∀ st o t, Qa st o t → iQc dC dI ad cy v σ1 #[] st o t) (hrun : va_Run p l e R s m args below meth c H locs 0 0 0 0 (F0 m pc ls ((as.reverse ++ S).map (emb ad))) (S.map (emb ad)) Qa (wA ad)), W p l e R s m args below meth c H locs 0 0 Q (F0 m pc ls ((as.reverse ++ S).map (emb ad))) := by
    intro Qa hQa hrun
    refine call_go hrun (fun v9 st t H1 L1 h1 h2 h3 h4 => ?_)
    obtain ⟨hv9, hP1, hF1⟩ := hQa _ _ _ h3
    cases hv9
    subst h2
    have hgo := hE t.heap (locs ++ L1) ls hP1 (hS.call (free := wA ad) (by rw [← h1]; exact hF1.1) (fun q a1 a2 => by rw [← h1] at a1 ⊢; exact hF1.2 q a1 a2) h4) hL hLl (by
      cases v with
      | none => exact hSv2
      | some v => exact vok_cons hvo hSv2) hLv
    cases v with
    | none => exact hgo
    | some v => exact hgo
  rcases hcs with ⟨idx, i, As, rfl, hdg, hw, hst⟩ | ⟨idx, hdg, hw, hst, hoo⟩
  · have hi : i < iCnt (iKd a) := hAs (.inr (iKd a, i)) List.mem_cons_self
    obtain ⟨q0, hq0⟩ := wW_get (ad := ad) (cy := cy) (σ := σ) (show iKd a < 16 by omega) hi
    rw [wE_obj k6] at hq0
    rw [hst] at k10
    simp only [cond_false] at k10
    have hst9 : ((.inr (iKd a, i) :: As : List iV).reverse ++ S).map (emb ad) = (As.map (emb ad)).reverse ++ .ref (ad (iKd a) i) :: S.map (emb ad) := by
      simp [emb]
    refine key (Qa := iQc dC dI ad cy v σ1 (Value.ref (ad (iKd a) i) :: As.map (emb ad)).toArray) (fun st o t h => h) ?_
    exact va_runV (g := F0 m pc ls (((.inr (iKd a, i) :: As : List iV).reverse ++ S).map (emb ad))) (rest := S.map (emb ad)) (As := As.map (emb ad)) (b := ad (iKd a) i) (C := iOwn a) ⟨hx, hb, hml, hown, hts⟩ hM
      (cwV (As.length) hts (goodV ha hst hw) rfl rfl rfl ⟨k5, by rw [k5]; exact k9.1, by rw [k5]; exact k9.2, by rw [k10, ← hAl]; rfl⟩ ⟨by rw [hRf]; exact hfr, by rw [hRl]; exact hlo⟩)
      ⟨iPc_blind hEX _ _,
        by rw [← k7]; exact va_recv (D := (dC, dI)) (q := ((iCl (iKd a)).1, (iCl (iKd a)).2.1, (iCl (iKd a)).2.2)) hK hP (cl_get (iKd a) k6) hq0,
        fun U hU hW => ⟨rfl, by rw [hU]; exact hP, va_K.moved hW.alike hK, hEX.1 s U locs hex hW (by rw [hU]; exact hS)⟩⟩
      rfl (by rw [List.length_map]) (by rw [show (F0 m pc ls (((.inr (iKd a, i) :: As : List iV).reverse ++ S).map (emb ad))).locals = ls from rfl, hL.len, hLl]) hst9 (lv_room (by rw [cat_sum]; exact hS8)) hdg ⟨Nat.zero_le _, Nat.zero_le _⟩
  · rw [hst] at k10
    simp only [cond_true] at k10
    have hst9 : (as.reverse ++ S).map (emb ad) = (as.map (emb ad)).reverse ++ S.map (emb ad) := by
      simp
    refine key (Qa := iQc dC dI ad cy v σ1 (as.map (emb ad)).toArray) (fun st o t h => h) ?_
    exact va_runS (g := F0 m pc ls ((as.reverse ++ S).map (emb ad))) (rest := S.map (emb ad)) (As := as.map (emb ad)) ⟨hx, hb, hml, hown, hts⟩ hM
      (cwS (as.length) hts (goodS ha hst hoo hw) rfl rfl rfl ⟨k5.trans hoo, by rw [k5]; exact k9.1, by rw [k5]; exact k9.2, by rw [k10, ← hAl]⟩ ⟨by rw [hRf]; exact hfr, by rw [hRl]; exact hlo⟩)
      ⟨iPc_blind hEX _ _, fun U hU hW => ⟨rfl, by rw [hU]; exact hP, va_K.moved hW.alike hK, hEX.1 s U locs hex hW (by rw [hU]; exact hS)⟩⟩
      rfl (by rw [List.length_map]) (by rw [show (F0 m pc ls ((as.reverse ++ S).map (emb ad))).locals = ls from rfl, hL.len, hLl]) hst9 (lv_room (by rw [cat_sum]; exact hS8)) hdg ⟨Nat.zero_le _, Nat.zero_le _⟩
set_option maxHeartbeats 4000000 in
/-- a call that throws -/
theorem call_thr {j : Nat} {x0 : Nat} {σ0 : iM} (C : iCF p l s m args meth c dC dI ad cy EX j) (a : Nat) (as : List iV) (pc : Nat) (L : iL) (S : iS) (σ : iM) (ha : a < nMt) (hAl : as.length = iNa a) (hS8 : S.length ≤ 8) (hfr : iFr a + 1 ≤ iFr j) (hlo : 8 + (iMl a + 11) + iLo a ≤ iLo j) (hcs : iCS j a as pc) (hM : (∀ x ∈ as, vok x) → iMetX l dC dI ad cy EX a as σ x0 σ0) : WAt p l e s m args below meth c dC dI ad cy (iRx j) (iQx below dC dI ad cy args s x0 σ0) j pc L (as.reverse ++ S) σ := by
  obtain ⟨hj, hx, hb, hr, hml, hts, hown, hlocks, hK, hex, hEX, hI, htab⟩ := C
  obtain ⟨k1, k2, k3, k4, k5, k6, k7, k8, k9, k10, k11, k12, -⟩ := ckM ha
  intro H locs ls hP hS hL hLl hSv hLv
  have hAs : ∀ x ∈ as, vok x := fun x hx9 => hSv x (List.mem_append_left _ (List.mem_reverse.mpr hx9))
  have hM := hM hAs
  have key : ∀ {Qa : State → Outcome → State → Prop} (hQa : ∀ st o t, Qa st o t → False) (hrun : vx_Run p l e (iRx j) s m args below meth c H locs 0 0 1 6 (F0 m pc ls ((as.reverse ++ S).map (emb ad))) (S.map (emb ad)) Qa (iXC dC dI ad cy x0 σ0) (wA ad)), W p l e (iRx j) s m args below meth c H locs 0 0 (iQx below dC dI ad cy args s x0 σ0) (F0 m pc ls ((as.reverse ++ S).map (emb ad))) := by
    intro Qa hQa hrun T hT X
    rcases hrun T hT X with ⟨v, st₀, t, T', L1, h0, X', hL1, e1, e2, hq, st⟩ | ⟨q, st₀, t, T', L1, E, ce, h0, X', hL1, e1, e2, ⟨hE, hP1, hF1⟩, hce, hcv, hcl, st⟩
    · exact (hQa _ _ _ hq).elim
    · have hS1 : va_S (wA ad) s.heap T'.heap (locs ++ L1) := hS.call (free := wA ad) (by rw [← h0, e1]; exact hF1.1) (fun q a1 a2 => by rw [← h0] at a1 ⊢; rw [e1]; exact hF1.2 q a1 a2) hL1
      obtain ⟨t2, a1, b1⟩ := vx_out (p := p) (l := l) (e := e) (R := iRx j) (s := s) (m := m) (args := args) (below := below) (meth := meth) (c := c) (H := T'.heap) (locs := locs ++ L1) (cells := 0 + 1) (slots := 0 + 6) (Qc := fun _ _ _ _ => False) (XC := iXC dC dI ad cy x0 σ0) (free := wA ad) (pc := pc) (ls := ls) (rest := S.map (emb ad)) (E := E) (ce := ce) (q := q) (mc := 1) (ms := 6) (fun x hx9 => by rw [htab] at hx9; cases hx9) hlocks (by rw [e1]; exact hce) hcv hcl
        (fun t9 ht9 _ => ⟨hE, by rw [ht9, e1]; exact hP1, hS1.F ht9⟩) hS1.2.2 (Nat.le_refl _) (Nat.le_refl _) T' rfl X'
      exact ⟨t2, st.trans a1, b1⟩
  rcases hcs with ⟨idx, i, As, rfl, hdg, hw, hst⟩ | ⟨idx, hdg, hw, hst, hoo⟩
  · have hi : i < iCnt (iKd a) := hAs (.inr (iKd a, i)) List.mem_cons_self
    obtain ⟨q0, hq0⟩ := wW_get (ad := ad) (cy := cy) (σ := σ) (show iKd a < 16 by omega) hi
    rw [wE_obj k6] at hq0
    rw [hst] at k10
    simp only [cond_false] at k10
    have hst9 : ((.inr (iKd a, i) :: As : List iV).reverse ++ S).map (emb ad) = (As.map (emb ad)).reverse ++ .ref (ad (iKd a) i) :: S.map (emb ad) := by
      simp [emb]
    refine key (Qa := fun _ _ _ => False) (fun st o t h => h) ?_
    exact vx_runV (g := F0 m pc ls (((.inr (iKd a, i) :: As : List iV).reverse ++ S).map (emb ad))) (rest := S.map (emb ad)) (As := As.map (emb ad)) (b := ad (iKd a) i) (C := iOwn a) ⟨hx, hb, hml, hown, hts⟩ hM
      (cwV (As.length) hts (goodV ha hst hw) rfl rfl rfl ⟨k5, by rw [k5]; exact k9.1, by rw [k5]; exact k9.2, by rw [k10, ← hAl]; rfl⟩ ⟨hfr, hlo⟩)
      ⟨iPc_blind hEX _ _,
        by rw [← k7]; exact va_recv (D := (dC, dI)) (q := ((iCl (iKd a)).1, (iCl (iKd a)).2.1, (iCl (iKd a)).2.2)) hK hP (cl_get (iKd a) k6) hq0,
        fun U hU hW => ⟨rfl, by rw [hU]; exact hP, va_K.moved hW.alike hK, hEX.1 s U locs hex hW (by rw [hU]; exact hS)⟩⟩
      rfl (by rw [List.length_map]) (by rw [show (F0 m pc ls (((.inr (iKd a, i) :: As : List iV).reverse ++ S).map (emb ad))).locals = ls from rfl, hL.len, hLl]) hst9 (lv_room (by rw [cat_sum]; exact hS8)) hdg ⟨Nat.le_refl _, Nat.le_refl _⟩
  · rw [hst] at k10
    simp only [cond_true] at k10
    have hst9 : (as.reverse ++ S).map (emb ad) = (as.map (emb ad)).reverse ++ S.map (emb ad) := by
      simp
    refine key (Qa := fun _ _ _ => False) (fun st o t h => h) ?_
    exact vx_runS (g := F0 m pc ls ((as.reverse ++ S).map (emb ad))) (rest := S.map (emb ad)) (As := as.map (emb ad)) ⟨hx, hb, hml, hown, hts⟩ hM
      (cwS (as.length) hts (goodS ha hst hoo hw) rfl rfl rfl ⟨k5.trans hoo, by rw [k5]; exact k9.1, by rw [k5]; exact k9.2, by rw [k10, ← hAl]⟩ ⟨hfr, hlo⟩)
      ⟨iPc_blind hEX _ _, fun U hU hW => ⟨rfl, by rw [hU]; exact hP, va_K.moved hW.alike hK, hEX.1 s U locs hex hW (by rw [hU]; exact hS)⟩⟩
      rfl (by rw [List.length_map]) (by rw [show (F0 m pc ls ((as.reverse ++ S).map (emb ad))).locals = ls from rfl, hL.len, hLl]) hst9 (lv_room (by rw [cat_sum]; exact hS8)) hdg ⟨Nat.le_refl _, Nat.le_refl _⟩
/-- a return -/
theorem ret_norm {j : Nat} (C : iCF p l s m args meth c dC dI ad cy EX j) (v : Option iV) (σ : iM) (pc : Nat) (L : iL) (hrs : iRS j v pc) : WAt p l e s m args below meth c dC dI ad cy (iRm j) (MQ below (iQc dC dI ad cy v σ) args s 0 0 (wA ad)) j pc L v.toList σ := by
  obtain ⟨hj, hx, hb, hr, hml, hts, hown, hlocks, hK, hex, hEX, hI, htab⟩ := C
  intro H locs ls hP hS hL hLl hSv hLv
  rcases hrs with ⟨x, rfl, hdg, hrt⟩ | ⟨x, rfl, hdg, hrt, hx01⟩ | ⟨k, i, nm, rfl, hdg, hrt⟩ | ⟨rfl, hdg, hrt⟩
  · rw [hrt] at hr
    exact W.iret (v := x) hx hb hr (fun t ht hW => ⟨rfl, by rw [ht]; exact hP, hS.F ht⟩) hS.2.2 hdg hlocks
  · rw [hrt] at hr
    exact W.zret (v := x) hx hb hr (by rcases hx01 with rfl | rfl <;> rfl) (fun t ht hW => ⟨rfl, by rw [ht]; exact hP, hS.F ht⟩) hS.2.2 hdg hlocks
  · rw [hrt] at hr
    exact W.aret (v := .ref (ad k i)) hx hb hr (Or.inl ⟨nm, rfl⟩) (Or.inr ⟨_, rfl⟩) (fun t ht hW => ⟨rfl, by rw [ht]; exact hP, hS.F ht⟩) hS.2.2 hdg hlocks
  · rw [hrt] at hr
    exact W.vret hx hb hr (fun t ht hW => ⟨rfl, by rw [ht]; exact hP, hS.F ht⟩) hS.2.2 hdg hlocks
theorem snd_blk {j : Nat} {R : Room} {Q : State → Prop} {PR : Option iV → iM → Prop} {PT : Nat → iM → Prop} {WC : Nat → List iV → Nat → iL → iS → iM → Prop} (hRf : R.frames = iFr j) (hRl : R.locals = iLo j) (C : iCF p l s m args meth c dC dI ad cy EX j)
    (hcall : ∀ (a : Nat) (as : List iV) (pc : Nat) (L : iL) (S : iS) (σ : iM), a < nMt → as.length = iNa a → S.length ≤ 8 → iFr a + 1 ≤ iFr j → 8 + (iMl a + 11) + iLo a ≤ iLo j → iCS j a as pc → WC a as (pc + 3) L S σ → WAt p l e s m args below meth c dC dI ad cy R Q j pc L (as.reverse ++ S) σ)
    (hret : ∀ (v : Option iV) (σ : iM) (pc : Nat) (L : iL), iRS j v pc → PR v σ → WAt p l e s m args below meth c dC dI ad cy R Q j pc L v.toList σ)
    (hthr : ∀ (x : iE) (L : iL) (σ : iM), x ∈ iTb j → iNw x.2.1 = true → PT x.2.2.2.1 σ → WAt p l e s m args below meth c dC dI ad cy R Q j x.1 L [] σ) : ∀ (is : List iE), (∀ x ∈ is, x ∈ iTb j) → chn is = true → ∀ (pc : Nat), (∀ x t, is = x :: t → x.1 = pc) → ∀ (L : iL) (S : iS) (σ : iM) (ev : iEv), blk is L S σ = some ev → EvW (WAt p l e s m args below meth c dC dI ad cy R Q j) WC PR PT ev → WAt p l e s m args below meth c dC dI ad cy R Q j pc L S σ := by
  obtain ⟨k1, k2, k3, k4, k5, k6, k7, k8, k9, k10, k11, k12, k13, -⟩ := ckM C.1
  intro is
  induction is with
  | nil => intro _ _ pc _ L S σ ev h; exact no_ev h
  | cons x t ih =>
    intro hc hch pc hpc L S σ ev h hE
    have h1 := hpc x t rfl
    subst h1
    refine snd_stp hRf hRl C x (hc x List.mem_cons_self) (k13 x (hc x List.mem_cons_self)) (blk t) (fun hterm L' S' σ' ev' h' hE' => ?_) hcall hret hthr L S σ ev h hE
    cases t with
    | nil => exact no_ev h'
    | cons y t2 =>
      simp only [chn, Bool.and_eq_true, Bool.or_eq_true, Nat.beq_eq] at hch
      have hxy : x.2.2.1 = y.1 := by
        rcases hch.1 with q | q
        · exact q
        · rw [hterm] at q; cases q
      refine ih (fun z hz => hc z (List.mem_cons_of_mem _ hz)) hch.2 x.2.2.1 (fun z t3 hz => ?_) L' S' σ' ev' h' hE'
      cases hz
      exact hxy.symm
theorem sfx_spec : ∀ (is : List iE) (pc : Nat), (∀ x ∈ sfx is pc, x ∈ is) ∧ (chn is = true → chn (sfx is pc) = true) ∧ ∀ x t, sfx is pc = x :: t → x.1 = pc := by
  intro is pc
  induction is with
  | nil => exact ⟨fun x h => h, fun h => h, fun x t h => nomatch h⟩
  | cons y t ih =>
    have hs : sfx (y :: t) pc = (bif Nat.beq y.1 pc then y :: t else sfx t pc) := rfl
    rw [hs]
    cases hb : Nat.beq y.1 pc with
    | true =>
      refine ⟨fun x h => h, fun h => h, fun x t h => ?_⟩
      cases h
      exact Nat.eq_of_beq_eq_true hb
    | false =>
      refine ⟨fun x h => List.mem_cons_of_mem _ (ih.1 x h), fun h => ih.2.1 ?_, ih.2.2⟩
      cases t with
      | nil => rfl
      | cons z t => simp only [chn, Bool.and_eq_true] at h; exact h.2
/-- what a body owes: the entry's frame -/
theorem iCF_of {j : Nat} {as : List iV} {σ : iM} {rm : Room} {s₁ : State} (hj : j < nMt) (hEX : iEX l ad EX) (hI : wI ad) (B : BodyLoose p l (iY j) (headSpec (iWs j) rm) (iCd j) (iMl j) (iRt j) e s m args below meth c s₁) (hml : c.maxLocals = iMl j) (hv : iPc dC dI ad cy EX as σ args s) : iCF p l s m args meth c dC dI ad cy EX j ∧ va_P (dC, dI) vwCl (wW ad cy σ) s.heap ∧ args = (as.map (emb ad)).toArray := by
  obtain ⟨k1, k2, k3, k4, k5, k6, k7, k8, k9, k10, k11, k12, k13, k14, k15⟩ := ckM hj
  obtain ⟨rfl, hP, hK, hex⟩ := hv
  have hown : s.vm.findClass (iOwn j) = some m.cls := by rw [← k5]; exact findClass_of_methodNamed B.named
  have hts := atoms_spec (ws := iWs j) B.pre
  have htab : c.exceptionTable.toList = [] := by
    obtain ⟨meth', c', h1, h2, -, -, -, -, h7, -⟩ := Cond.code_spec B.named (hts _ List.mem_cons_self)
    cases Option.some.inj (h1.symm.trans B.method)
    cases Option.some.inj (h2.symm.trans (Stand.of_body B).code)
    simpa using h7
  exact ⟨⟨hj, B.exec, B.bytes, B.returns, hml, hts, hown, B.notSynchronized, hK, hex, hEX, hI, htab⟩, hP, rfl⟩
theorem W_entry {j : Nat} {as : List iV} {σ : iM} {R : Room} {Q : State → Prop} (hj : j < nMt) (has : ∀ x ∈ as, vok x) (hal : as.length = iNa j) (hP : va_P (dC, dI) vwCl (wW ad cy σ) s.heap) (hW : WAt p l e s m args below meth c dC dI ad cy R Q j 0 (iEn j as) [] σ) : W p l e R s m args below meth c s.heap [] 0 0 Q (entryFrame m (as.map (emb ad)).toArray (iMl j)) := by
  obtain ⟨k1, k2, k3, k4, k5, k6, k7, k8, k9, k10, k11, k12, k13, k14, k15⟩ := ckM hj
  rw [lg_entry_eq]
  refine hW s.heap [] _ hP va_S.rf (LR.entry ad as (iMl j) (by omega)) (by simp [iEn]; omega) (fun v h => nomatch h) (fun v h => ?_)
  rcases List.mem_append.mp h with h | h
  · obtain ⟨x, hx, hxv⟩ := List.mem_map.mp h
    cases hxv
    exact has _ hx
  · have := (List.mem_replicate.mp h).2
    cases this
theorem snd_met {j : Nat} {as : List iV} {σ σ0 : iM} {v0 : Option iV} (hj : j < nMt) (hEX : iEX l ad EX) (hI : wI ad) (has : ∀ x ∈ as, vok x) (hal : as.length = iNa j)
    (hB : ∀ (p : Program) (e : Env) (s : State) (m : MethodId) (args : Array Value) (below : List Frame) (meth : Method) (c : Code), iCF p l s m args meth c dC dI ad cy EX j → WAt p l e s m args below meth c dC dI ad cy (iRm j) (MQ below (iQc dC dI ad cy v0 σ0) args s 0 0 (wA ad)) j 0 (iEn j as) [] σ) : iMet l dC dI ad cy EX j as σ v0 σ0 := by
  obtain ⟨k1, k2, k3, k4, k5, k6, k7, k8, k9, k10, k11, k12, k13, k14, k15⟩ := ckM hj
  refine Met.ofW (cc := iCd j) (maxL := iMl j) (ret := iRt j) (by rw [k5]; exact k8) rfl ?_
  intro p e s m args below meth c s₁ B hml hv
  obtain ⟨C, hP, rfl⟩ := iCF_of hj hEX hI B hml hv
  exact W_entry hj has hal hP (hB p e s m _ below meth c C)
theorem snd_metX {j : Nat} {as : List iV} {σ σ0 : iM} {x0 : Nat} (hj : j < nMt) (hEX : iEX l ad EX) (hI : wI ad) (has : ∀ x ∈ as, vok x) (hal : as.length = iNa j)
    (hB : ∀ (p : Program) (e : Env) (s : State) (m : MethodId) (args : Array Value) (below : List Frame) (meth : Method) (c : Code), iCF p l s m args meth c dC dI ad cy EX j → WAt p l e s m args below meth c dC dI ad cy (iRx j) (iQx below dC dI ad cy args s x0 σ0) j 0 (iEn j as) [] σ) : iMetX l dC dI ad cy EX j as σ x0 σ0 := by
  obtain ⟨k1, k2, k3, k4, k5, k6, k7, k8, k9, k10, k11, k12, k13, k14, k15⟩ := ckM hj
  refine vx_ofW (cc := iCd j) (maxL := iMl j) (ret := iRt j) (by rw [k5]; exact k8) rfl ?_
  intro p e s m args below meth c s₁ B hml htab hv
  obtain ⟨C, hP, rfl⟩ := iCF_of hj hEX hI B hml hv
  exact W_entry hj has hal hP (hB p e s m _ below meth c C)
theorem snd_run : ∀ (n : Nat) (j : Nat) (p : Program) (e : Env) (s : State) (m : MethodId) (args : Array Value) (below : List Frame) (meth : Method) (c : Code), iCF p l s m args meth c dC dI ad cy EX j → ∀ (pc : Nat) (L : iL) (S : iS) (σ : iM) (v0 : Option iV) (σ0 : iM), run iTb iEn n j pc L S σ = some (.inl v0, σ0) → WAt p l e s m args below meth c dC dI ad cy (iRm j) (MQ below (iQc dC dI ad cy v0 σ0) args s 0 0 (wA ad)) j pc L S σ := by
  intro n
  induction n with
  | zero => intro j p e s m args below meth c C pc L S σ v0 σ0 h; cases h
  | succ n ih =>
    intro j p e s m args below meth c C pc L S σ v0 σ0 h
    obtain ⟨hj, hx, hb, hr, hml, hts, hown, hlocks, hK, hex, hEX, hI, htab⟩ := id C
    obtain ⟨k1, k2, k3, k4, k5, k6, k7, k8, k9, k10, k11, k12, k13, k14, k15⟩ := ckM hj
    obtain ⟨f1, f2, f3⟩ := sfx_spec (iTb j) pc
    rw [run_succ] at h
    unfold rst at h
    cases hbk : blk (sfx (iTb j) pc) L S σ with
    | none => rw [hbk] at h; cases h
    | some ev =>
      refine snd_blk (R := iRm j) (PR := fun v σ => v = v0 ∧ σ = σ0) (PT := fun _ _ => False) (WC := fun k as t L S σ => ∃ v σ1, (k < nMt → as.length = iNa k → (∀ x ∈ as, vok x) → iMet l dC dI ad cy EX k as σ v σ1) ∧ vokO v ∧ WAt p l e s m args below meth c dC dI ad cy (iRm j) (MQ below (iQc dC dI ad cy v0 σ0) args s 0 0 (wA ad)) j t L (v.toList ++ S) σ1) rfl rfl C
        (fun a as pc L S σ h1 h2 h3 h4 h5 h6 h7 => by
          obtain ⟨v, σ1, g1, g2, g3⟩ := h7
          exact call_norm rfl rfl C a as pc L S σ h1 h2 h3 h4 h5 h6 (g1 h1 h2) g2 g3)
        (fun v σ pc L h1 h2 => by obtain ⟨rfl, rfl⟩ := h2; exact ret_norm C v σ pc L h1)
        (fun _ _ _ _ _ h3 => h3.elim) (sfx (iTb j) pc) f1 (f2 k14) pc f3 L S σ ev hbk ?_
      rw [hbk] at h
      match ev, h with
      | .inl (t, L1, S1, σ1), h => exact ih j p e s m args below meth c C t L1 S1 σ1 v0 σ0 h
      | .inr (.inl (cc, t1, t2, L1, S1, σ1)), h =>
        refine ⟨fun hc => ?_, fun hc => ?_⟩
        · simp only [if_pos hc] at h
          exact ih j p e s m args below meth c C t1 L1 S1 σ1 v0 σ0 h
        · simp only [if_neg hc] at h
          exact ih j p e s m args below meth c C t2 L1 S1 σ1 v0 σ0 h
      | .inr (.inr (.inl (cc, t, L1, S1, σ1))), h =>
        by_cases hc : cc
        · simp only [if_pos hc] at h
          exact ⟨hc, ih j p e s m args below meth c C t L1 S1 σ1 v0 σ0 h⟩
        · simp only [if_neg hc] at h
          cases h
      | .inr (.inr (.inr (.inl (k, as, t, L1, S1, σ1)))), h =>
        cases hk : run iTb iEn n k 0 (iEn k as) [] σ1 with
        | none => simp only [hk] at h; cases h
        | some q =>
          obtain ⟨q1, σ2⟩ := q
          simp only [hk] at h
          cases q1 with
          | inr x => cases h
          | inl v =>
            by_cases hv : vokO v
            · simp only [if_pos hv] at h
              exact ⟨v, σ2, fun hkn hal has => snd_met hkn hEX hI has hal (fun p e s m args below meth c C' => ih k p e s m args below meth c C' 0 (iEn k as) [] σ1 v σ2 hk), hv, ih j p e s m args below meth c C t L1 _ σ2 v0 σ0 h⟩
            · simp only [if_neg hv] at h
              cases h
      | .inr (.inr (.inr (.inr (.inl (v, σ1))))), h => cases h; exact ⟨rfl, rfl⟩
      | .inr (.inr (.inr (.inr (.inr (.inl (v, σ1)))))), h =>
        by_cases hv : v = 0 ∨ v = 1
        · simp only [if_pos hv] at h
          cases h
          exact ⟨hv, rfl, rfl⟩
        · simp only [if_neg hv] at h
          cases h
      | .inr (.inr (.inr (.inr (.inr (.inr (.inl (x, ts, t, L1, S1, σ1))))))), h => exact ih j p e s m args below meth c C (swT x ts t) L1 S1 σ1 v0 σ0 h
      | .inr (.inr (.inr (.inr (.inr (.inr (.inr (k, σ1))))))), h => cases h
/-- A METHOD'S CONTRACT out of a run of the interpreter -/
theorem snd_ev {j : Nat} {as : List iV} {σ σ0 : iM} {v0 : Option iV} (hj : j < nMt) (hEX : iEX l ad EX) (hI : wI ad) (has : ∀ x ∈ as, vok x) (hal : as.length = iNa j) (h : Ev j as σ (.inl v0, σ0)) : iMet l dC dI ad cy EX j as σ v0 σ0 := by
  obtain ⟨n, hn⟩ := h
  exact snd_met hj hEX hI has hal (fun p e s m args below meth c C => snd_run n j p e s m args below meth c C 0 (iEn j as) [] σ v0 σ0 hn)
/-- what must be given of the places that throw -/
def iTH (l : Launch) (dC : Nat → ClassId) (dI : Nat → Nat → Nat) (ad : Nat → Nat → Nat) (cy : Nat → ClassId) (EX : State → Prop) : Prop :=
  ∀ (j : Nat) (p : Program) (e : Env) (s : State) (m : MethodId) (args : Array Value) (below : List Frame) (meth : Method) (c : Code), iCF p l s m args meth c dC dI ad cy EX j → ∀ (x : iE) (L : iL) (σ : iM), x ∈ iTb j → iNw x.2.1 = true → WAt p l e s m args below meth c dC dI ad cy (iRx j) (iQx below dC dI ad cy args s x.2.2.2.1 σ) j x.1 L [] σ
theorem snd_runX (hTH : iTH l dC dI ad cy EX) : ∀ (n : Nat) (j : Nat) (p : Program) (e : Env) (s : State) (m : MethodId) (args : Array Value) (below : List Frame) (meth : Method) (c : Code), iCF p l s m args meth c dC dI ad cy EX j → ∀ (pc : Nat) (L : iL) (S : iS) (σ : iM) (x0 : Nat) (σ0 : iM), run iTb iEn n j pc L S σ = some (.inr x0, σ0) → WAt p l e s m args below meth c dC dI ad cy (iRx j) (iQx below dC dI ad cy args s x0 σ0) j pc L S σ := by
  intro n
  induction n with
  | zero => intro j p e s m args below meth c C pc L S σ v0 σ0 h; cases h
  | succ n ih =>
    intro j p e s m args below meth c C pc L S σ x0 σ0 h
    obtain ⟨hj, hx, hb, hr, hml, hts, hown, hlocks, hK, hex, hEX, hI, htab⟩ := id C
    obtain ⟨k1, k2, k3, k4, k5, k6, k7, k8, k9, k10, k11, k12, k13, k14, k15⟩ := ckM hj
    obtain ⟨f1, f2, f3⟩ := sfx_spec (iTb j) pc
    rw [run_succ] at h
    unfold rst at h
    cases hbk : blk (sfx (iTb j) pc) L S σ with
    | none => rw [hbk] at h; cases h
    | some ev =>
      refine snd_blk (R := iRx j) (PR := fun _ _ => False) (PT := fun k σ => k = x0 ∧ σ = σ0) (WC := fun k as t L S σ => (∃ v σ1, (k < nMt → as.length = iNa k → (∀ x ∈ as, vok x) → iMet l dC dI ad cy EX k as σ v σ1) ∧ vokO v ∧ WAt p l e s m args below meth c dC dI ad cy (iRx j) (iQx below dC dI ad cy args s x0 σ0) j t L (v.toList ++ S) σ1) ∨ (k < nMt → as.length = iNa k → (∀ x ∈ as, vok x) → iMetX l dC dI ad cy EX k as σ x0 σ0)) rfl rfl C
        (fun a as pc L S σ h1 h2 h3 h4 h5 h6 h7 => by
          rcases h7 with ⟨v, σ1, g1, g2, g3⟩ | g1
          · exact call_norm rfl rfl C a as pc L S σ h1 h2 h3 h4 h5 h6 (g1 h1 h2) g2 g3
          · exact call_thr C a as pc L S σ h1 h2 h3 h4 h5 h6 (g1 h1 h2))
        (fun _ _ _ _ _ h2 => h2.elim)
        (fun x L σ h1 h2 h3 => by obtain ⟨e1, rfl⟩ := h3; rw [← e1]; exact hTH j p e s m args below meth c C x L σ h1 h2) (sfx (iTb j) pc) f1 (f2 k14) pc f3 L S σ ev hbk ?_
      rw [hbk] at h
      match ev, h with
      | .inl (t, L1, S1, σ1), h => exact ih j p e s m args below meth c C t L1 S1 σ1 x0 σ0 h
      | .inr (.inl (cc, t1, t2, L1, S1, σ1)), h =>
        refine ⟨fun hc => ?_, fun hc => ?_⟩
        · simp only [if_pos hc] at h
          exact ih j p e s m args below meth c C t1 L1 S1 σ1 x0 σ0 h
        · simp only [if_neg hc] at h
          exact ih j p e s m args below meth c C t2 L1 S1 σ1 x0 σ0 h
      | .inr (.inr (.inl (cc, t, L1, S1, σ1))), h =>
        by_cases hc : cc
        · simp only [if_pos hc] at h
          exact ⟨hc, ih j p e s m args below meth c C t L1 S1 σ1 x0 σ0 h⟩
        · simp only [if_neg hc] at h
          cases h
      | .inr (.inr (.inr (.inl (k, as, t, L1, S1, σ1)))), h =>
        cases hk : run iTb iEn n k 0 (iEn k as) [] σ1 with
        | none => simp only [hk] at h; cases h
        | some q =>
          obtain ⟨q1, σ2⟩ := q
          simp only [hk] at h
          cases q1 with
          | inr x =>
            cases h
            exact Or.inr (fun hkn hal has => snd_metX hkn hEX hI has hal (fun p e s m args below meth c C' => ih k p e s m args below meth c C' 0 (iEn k as) [] σ1 _ _ hk))
          | inl v =>
            by_cases hv : vokO v
            · simp only [if_pos hv] at h
              exact Or.inl ⟨v, σ2, fun hkn hal has => snd_ev hkn hEX hI has hal ⟨n, hk⟩, hv, ih j p e s m args below meth c C t L1 _ σ2 x0 σ0 h⟩
            · simp only [if_neg hv] at h
              cases h
      | .inr (.inr (.inr (.inr (.inl (v, σ1))))), h => cases h
      | .inr (.inr (.inr (.inr (.inr (.inl (v, σ1)))))), h =>
        by_cases hv : v = 0 ∨ v = 1
        · simp only [if_pos hv] at h
          cases h
        · simp only [if_neg hv] at h
          cases h
      | .inr (.inr (.inr (.inr (.inr (.inr (.inl (x, ts, t, L1, S1, σ1))))))), h => exact ih j p e s m args below meth c C (swT x ts t) L1 S1 σ1 x0 σ0 h
      | .inr (.inr (.inr (.inr (.inr (.inr (.inr (k, σ1))))))), h => cases h; exact ⟨rfl, rfl⟩
/-- A METHOD'S CONTRACT out of a run that throws -/
theorem snd_evX (hTH : iTH l dC dI ad cy EX) {j : Nat} {as : List iV} {σ σ0 : iM} {x0 : Nat} (hj : j < nMt) (hEX : iEX l ad EX) (hI : wI ad) (has : ∀ x ∈ as, vok x) (hal : as.length = iNa j) (h : Ev j as σ (.inr x0, σ0)) : iMetX l dC dI ad cy EX j as σ x0 σ0 := by
  obtain ⟨n, hn⟩ := h
  exact snd_metX hj hEX hI has hal (fun p e s m args below meth c C => snd_runX hTH n j p e s m args below meth c C 0 (iEn j as) [] σ x0 σ0 hn)
end SND3
