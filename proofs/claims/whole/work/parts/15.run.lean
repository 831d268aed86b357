/-! ===== soundness: a whole run that ends with an answer ===== -/
section SND3
variable {p : Program} {l : Launch} {e : Env} {s : State} {m : MethodId} {args : Array Value} {below : List Frame} {meth : Method} {c : Code} {dC : Nat → ClassId} {dI : Nat → Nat → Nat} {ad : Nat → Nat → Nat} {cy : Nat → ClassId} {EX : State → Prop}
theorem snd_blk {j : Nat} {v0 : Option iV} {σ0 : iM} (C : iCF p l s m args meth c dC dI ad cy EX j) : ∀ (is : List iE), (∀ x ∈ is, chk j x = true) → chn is = true → ∀ (pc : Nat), (∀ x t, is = x :: t → x.1 = pc) → ∀ (L : iL) (S : iS) (σ : iM) (ev : iEv), blk is L S σ = some ev → EvW (WAt p l e s m args below meth c dC dI ad cy j v0 σ0) (iMet l dC dI ad cy EX) v0 σ0 ev → WAt p l e s m args below meth c dC dI ad cy j v0 σ0 pc L S σ := by
  intro is
  induction is with
  | nil => intro _ _ pc _ L S σ ev h; exact no_ev h
  | cons x t ih =>
    intro hc hch pc hpc L S σ ev h hE
    have h1 := hpc x t rfl
    subst h1
    refine snd_stp C x (hc x List.mem_cons_self) (blk t) (fun hterm L' S' σ' ev' h' hE' => ?_) L S σ ev h hE
    cases t with
    | nil => exact no_ev h'
    | cons y t2 =>
      simp only [chn, Bool.and_eq_true, Bool.or_eq_true, Nat.beq_eq] at hch
      have hxy : x.2.2.1 = y.1 := by
        rcases hch.1 with q | q
        · exact q
        · rw [hterm] at q; cases q
      refine ih (fun z hz => hc z (List.mem_cons_of_mem _ hz)) hch.2 x.2.2.1 (fun z t3 hz => ?_) L' S' σ' ev' h' hE'
      cases hz
      exact hxy.symm
theorem sfx_spec : ∀ (is : List iE) (pc : Nat), (∀ x ∈ sfx is pc, x ∈ is) ∧ (chn is = true → chn (sfx is pc) = true) ∧ ∀ x t, sfx is pc = x :: t → x.1 = pc := by
  intro is pc
  induction is with
  | nil => exact ⟨fun x h => h, fun h => h, fun x t h => nomatch h⟩
  | cons y t ih =>
    have hs : sfx (y :: t) pc = (bif Nat.beq y.1 pc then y :: t else sfx t pc) := rfl
    rw [hs]
    cases hb : Nat.beq y.1 pc with
    | true =>
      refine ⟨fun x h => h, fun h => h, fun x t h => ?_⟩
      cases h
      exact Nat.eq_of_beq_eq_true hb
    | false =>
      refine ⟨fun x h => List.mem_cons_of_mem _ (ih.1 x h), fun h => ih.2.1 ?_, ih.2.2⟩
      cases t with
      | nil => rfl
      | cons z t => simp only [chn, Bool.and_eq_true] at h; exact h.2
theorem snd_met {j : Nat} {as : List iV} {σ σ0 : iM} {v0 : Option iV} (hj : j < nMt) (hEX : iEX l ad EX) (hI : wI ad) (has : ∀ x ∈ as, vok x) (hal : as.length = iNa j)
    (hB : ∀ (p : Program) (e : Env) (s : State) (m : MethodId) (args : Array Value) (below : List Frame) (meth : Method) (c : Code), iCF p l s m args meth c dC dI ad cy EX j → WAt p l e s m args below meth c dC dI ad cy j v0 σ0 0 (iEn j as) [] σ) : iMet l dC dI ad cy EX j as σ v0 σ0 := by
  obtain ⟨k1, k2, k3, k4, k5, k6, k7, k8, k9, k10, k11, k12, k13, k14, k15⟩ := ckM hj
  refine Met.ofW (cc := iCd j) (maxL := iMl j) (ret := iRt j) (by rw [k5]; exact k8) rfl ?_
  intro p e s m args below meth c s₁ B hml hv
  obtain ⟨rfl, hP, hK, hex⟩ := hv
  have hown : s.vm.findClass (iOwn j) = some m.cls := by rw [← k5]; exact findClass_of_methodNamed B.named
  have hts := atoms_spec (ws := iWs j) B.pre
  have hW := hB p e s m _ below meth c ⟨hj, B.exec, B.bytes, B.returns, hml, hts, hown, B.notSynchronized, hK, hex, hEX, hI⟩
  rw [lg_entry_eq]
  refine hW s.heap [] _ hP va_S.rf (LR.entry ad as (iMl j) (by omega)) (by simp [iEn]; omega) (fun v h => nomatch h) (fun v h => ?_)
  rcases List.mem_append.mp h with h | h
  · obtain ⟨x, hx, hxv⟩ := List.mem_map.mp h
    cases hxv
    exact has _ hx
  · have := (List.mem_replicate.mp h).2
    cases this
theorem snd_run : ∀ (n : Nat), (∀ (j : Nat) (p : Program) (e : Env) (s : State) (m : MethodId) (args : Array Value) (below : List Frame) (meth : Method) (c : Code), iCF p l s m args meth c dC dI ad cy EX j → ∀ (pc : Nat) (L : iL) (S : iS) (σ : iM) (v0 : Option iV) (σ0 : iM), run iTb iEn n j pc L S σ = some (.inl v0, σ0) → WAt p l e s m args below meth c dC dI ad cy j v0 σ0 pc L S σ) := by
  intro n
  induction n with
  | zero => intro j p e s m args below meth c C pc L S σ v0 σ0 h; cases h
  | succ n ih =>
    intro j p e s m args below meth c C pc L S σ v0 σ0 h
    obtain ⟨hj, hx, hb, hr, hml, hts, hown, hlocks, hK, hex, hEX, hI⟩ := id C
    obtain ⟨k1, k2, k3, k4, k5, k6, k7, k8, k9, k10, k11, k12, k13, k14, k15⟩ := ckM hj
    obtain ⟨f1, f2, f3⟩ := sfx_spec (iTb j) pc
    rw [run_succ] at h
    unfold rst at h
    cases hbk : blk (sfx (iTb j) pc) L S σ with
    | none => rw [hbk] at h; cases h
    | some ev =>
      refine snd_blk C (sfx (iTb j) pc) (fun x hx => k13 x (f1 x hx)) (f2 k14) pc f3 L S σ ev hbk ?_
      rw [hbk] at h
      match ev, h with
      | .inl (t, L1, S1, σ1), h => exact ih j p e s m args below meth c C t L1 S1 σ1 v0 σ0 h
      | .inr (.inl (cc, t1, t2, L1, S1, σ1)), h =>
        refine ⟨fun hc => ?_, fun hc => ?_⟩
        · simp only [if_pos hc] at h
          exact ih j p e s m args below meth c C t1 L1 S1 σ1 v0 σ0 h
        · simp only [if_neg hc] at h
          exact ih j p e s m args below meth c C t2 L1 S1 σ1 v0 σ0 h
      | .inr (.inr (.inl (cc, t, L1, S1, σ1))), h =>
        by_cases hc : cc
        · simp only [if_pos hc] at h
          exact ⟨hc, ih j p e s m args below meth c C t L1 S1 σ1 v0 σ0 h⟩
        · simp only [if_neg hc] at h
          cases h
      | .inr (.inr (.inr (.inl (k, as, t, L1, S1, σ1)))), h =>
        cases hk : run iTb iEn n k 0 (iEn k as) [] σ1 with
        | none => simp only [hk] at h; cases h
        | some q =>
          obtain ⟨q1, σ2⟩ := q
          simp only [hk] at h
          cases q1 with
          | inr x => cases h
          | inl v =>
            by_cases hv : vokO v
            · simp only [if_pos hv] at h
              exact ⟨v, σ2, fun hkn has hal => snd_met hkn hEX hI has hal (fun p e s m args below meth c C' => ih k p e s m args below meth c C' 0 (iEn k as) [] σ1 v σ2 hk), hv, ih j p e s m args below meth c C t L1 _ σ2 v0 σ0 h⟩
            · simp only [if_neg hv] at h
              cases h
      | .inr (.inr (.inr (.inr (.inl (v, σ1))))), h => cases h; exact ⟨rfl, rfl⟩
      | .inr (.inr (.inr (.inr (.inr (.inl (v, σ1)))))), h =>
        by_cases hv : v = 0 ∨ v = 1
        · simp only [if_pos hv] at h
          cases h
          exact ⟨hv, rfl, rfl⟩
        · simp only [if_neg hv] at h
          cases h
      | .inr (.inr (.inr (.inr (.inr (.inr (.inl (x, ts, t, L1, S1, σ1))))))), h => exact ih j p e s m args below meth c C (swT x ts t) L1 S1 σ1 v0 σ0 h
      | .inr (.inr (.inr (.inr (.inr (.inr (.inr (k, σ1))))))), h => cases h
/-- A METHOD'S CONTRACT out of a run of the interpreter -/
theorem snd_ev {j : Nat} {as : List iV} {σ σ0 : iM} {v0 : Option iV} (hj : j < nMt) (hEX : iEX l ad EX) (hI : wI ad) (has : ∀ x ∈ as, vok x) (hal : as.length = iNa j) (h : Ev j as σ (.inl v0, σ0)) : iMet l dC dI ad cy EX j as σ v0 σ0 := by
  obtain ⟨n, hn⟩ := h
  exact snd_met hj hEX hI has hal (fun p e s m args below meth c C => snd_run n j p e s m args below meth c C 0 (iEn j as) [] σ v0 σ0 hn)
end SND3
