/-! ===== soundness, one instruction: all of them (written by mk14.py) ===== -/
section SND2
variable {p : Program} {l : Launch} {e : Env} {s : State} {m : MethodId} {args : Array Value} {below : List Frame} {meth : Method} {c : Code} {dC : Nat → ClassId} {dI : Nat → Nat → Nat} {ad : Nat → Nat → Nat} {cy : Nat → ClassId} {EX : State → Prop}
set_option maxHeartbeats 4000000 in
theorem snd_stp {j : Nat} {R : Room} {Q : State → Prop} {PR : Option iV → iM → Prop} {PT : Nat → iM → Prop} {WC : Nat → List iV → Nat → iL → iS → iM → Prop} (hRf : R.frames = iFr j) (hRl : R.locals = iLo j) (C : iCF p l s m args meth c dC dI ad cy EX j) (e9 : iE) (hmem : e9 ∈ iTb j) (hc : chk j e9 = true) (f : iL → iS → iM → Option iEv)
    (hn : iTerm e9.2.1 = false → ∀ L S σ ev, f L S σ = some ev → EvW (WAt p l e s m args below meth c dC dI ad cy R Q j) WC PR PT ev → WAt p l e s m args below meth c dC dI ad cy R Q j e9.2.2.1 L S σ)
    (hcall : ∀ (a : Nat) (as : List iV) (pc : Nat) (L : iL) (S : iS) (σ : iM), a < nMt → as.length = iNa a → S.length ≤ 8 → iFr a + 1 ≤ iFr j → 8 + (iMl a + 11) + iLo a ≤ iLo j → iCS j a as pc → WC a as (pc + 3) L S σ → WAt p l e s m args below meth c dC dI ad cy R Q j pc L (as.reverse ++ S) σ)
    (hret : ∀ (v : Option iV) (σ : iM) (pc : Nat) (L : iL), iRS j v pc → PR v σ → WAt p l e s m args below meth c dC dI ad cy R Q j pc L v.toList σ)
    (hthr : ∀ (x : iE) (L : iL) (σ : iM), x ∈ iTb j → iNw x.2.1 = true → PT x.2.2.2.1 σ → WAt p l e s m args below meth c dC dI ad cy R Q j x.1 L [] σ)
    (L : iL) (S : iS) (σ : iM) (ev : iEv) (h : stp e9 f L S σ = some ev) (hE : EvW (WAt p l e s m args below meth c dC dI ad cy R Q j) WC PR PT ev) : WAt p l e s m args below meth c dC dI ad cy R Q j e9.1 L S σ := by
  obtain ⟨hj, hx, hb, hr, hml, hts, hown, hlocks, hK, hex, hEX, hI, htab⟩ := C
  obtain ⟨pc, ins, nx, a, b, c9, d, w, v, ts⟩ := e9
  simp only [chk, Bool.and_eq_true, decide_eq_true_eq, Nat.beq_eq] at hc
  obtain ⟨⟨hdg, hle⟩, hc⟩ := hc
  dsimp only at hn ⊢
  intro H locs ls hP hS hL hLl hSv hLv
  have hn1 : ∀ {x : Nat}, (pc + x) - pc = x := fun {x} => Nat.add_sub_cancel_left pc x
  cases ins with
  | iload_n k =>
    replace h : geI L a (fun x => f L (.inl x :: S) σ) = some ev := h
    obtain ⟨x, hx1, g⟩ := geI_spec h
    clear h
    have h := g
    clear g
    simp only [Nat.beq_eq, Bool.and_eq_true, decide_eq_true_eq] at hc
    obtain ⟨hk, rfl⟩ := hc
    subst hk
    rw [hn1] at hdg
    exact lv_iload_n hx hb hdg rfl (hL.at hx1) (hn rfl _ _ _ _ h hE H locs ls hP hS hL hLl (vok_cons (v := .inl _) trivial hSv) hLv)
  | iload k =>
    replace h : geI L a (fun x => f L (.inl x :: S) σ) = some ev := h
    obtain ⟨x, hx1, g⟩ := geI_spec h
    clear h
    have h := g
    clear g
    simp only [Nat.beq_eq, Bool.and_eq_true, decide_eq_true_eq] at hc
    obtain ⟨hk, rfl⟩ := hc
    subst hk
    rw [hn1] at hdg
    exact lv_iload hx hb hdg (hL.at hx1) (hn rfl _ _ _ _ h hE H locs ls hP hS hL hLl (vok_cons (v := .inl _) trivial hSv) hLv)
  | aload_n k =>
    replace h : geR L a (fun k i => f L (.inr (k, i) :: S) σ) = some ev := h
    obtain ⟨x, y, hx1, g⟩ := geR_spec h
    clear h
    have h := g
    clear g
    simp only [Nat.beq_eq, Bool.and_eq_true, decide_eq_true_eq] at hc
    obtain ⟨hk, rfl⟩ := hc
    subst hk
    rw [hn1] at hdg
    exact lv_aload_n hx hb hdg rfl (hL.at hx1) (hn rfl _ _ _ _ h hE H locs ls hP hS hL hLl (vok_cons (hLv _ (List.mem_of_getElem? hx1)) hSv) hLv)
  | aload k =>
    replace h : geR L a (fun k i => f L (.inr (k, i) :: S) σ) = some ev := h
    obtain ⟨x, y, hx1, g⟩ := geR_spec h
    clear h
    have h := g
    clear g
    simp only [Nat.beq_eq, Bool.and_eq_true, decide_eq_true_eq] at hc
    obtain ⟨hk, rfl⟩ := hc
    subst hk
    rw [hn1] at hdg
    exact lv_aload hx hb hdg (hL.at hx1) (hn rfl _ _ _ _ h hE H locs ls hP hS hL hLl (vok_cons (hLv _ (List.mem_of_getElem? hx1)) hSv) hLv)
  | istore_n k =>
    cases S with
    | nil => exact no_ev h
    | cons u S =>
      cases u with
      | inr q => exact no_ev h
      | inl x =>
        replace h : seL L a (.inl x) (fun L => f L S σ) = some ev := h
        obtain ⟨hl, g⟩ := seL_spec h
        clear h
        have h := g
        clear g
        simp only [Nat.beq_eq, Bool.and_eq_true, decide_eq_true_eq] at hc
        obtain ⟨hk, rfl⟩ := hc
        subst hk
        rw [hn1] at hdg
        refine lv_istore_n hx hb hdg rfl hL hl rfl (fun ls' hL' => ?_)
        exact hn rfl _ _ _ _ h hE H locs ls' hP hS (LR.set rfl hl hL') (by rw [List.length_set]; exact hLl) (fun v hv => hSv v (List.mem_cons_of_mem _ hv)) (vok_set (hSv _ List.mem_cons_self) hLv)
  | istore k =>
    cases S with
    | nil => exact no_ev h
    | cons u S =>
      cases u with
      | inr q => exact no_ev h
      | inl x =>
        replace h : seL L a (.inl x) (fun L => f L S σ) = some ev := h
        obtain ⟨hl, g⟩ := seL_spec h
        clear h
        have h := g
        clear g
        simp only [Nat.beq_eq, Bool.and_eq_true, decide_eq_true_eq] at hc
        obtain ⟨hk, rfl⟩ := hc
        subst hk
        rw [hn1] at hdg
        refine lv_istore hx hb hdg hL hl rfl (fun ls' hL' => ?_)
        exact hn rfl _ _ _ _ h hE H locs ls' hP hS (LR.set rfl hl hL') (by rw [List.length_set]; exact hLl) (fun v hv => hSv v (List.mem_cons_of_mem _ hv)) (vok_set (hSv _ List.mem_cons_self) hLv)
  | astore_n k =>
    cases S with
    | nil => exact no_ev h
    | cons u S =>
      cases u with
      | inl q => exact no_ev h
      | inr q =>
        obtain ⟨x, y⟩ := q
        replace h : seL L a (.inr (x, y)) (fun L => f L S σ) = some ev := h
        obtain ⟨hl, g⟩ := seL_spec h
        clear h
        have h := g
        clear g
        simp only [Nat.beq_eq, Bool.and_eq_true, decide_eq_true_eq] at hc
        obtain ⟨hk, rfl⟩ := hc
        subst hk
        rw [hn1] at hdg
        refine lv_astore_n hx hb hdg rfl hL hl rfl (fun ls' hL' => ?_)
        exact hn rfl _ _ _ _ h hE H locs ls' hP hS (LR.set rfl hl hL') (by rw [List.length_set]; exact hLl) (fun v hv => hSv v (List.mem_cons_of_mem _ hv)) (vok_set (hSv _ List.mem_cons_self) hLv)
  | astore k =>
    cases S with
    | nil => exact no_ev h
    | cons u S =>
      cases u with
      | inl q => exact no_ev h
      | inr q =>
        obtain ⟨x, y⟩ := q
        replace h : seL L a (.inr (x, y)) (fun L => f L S σ) = some ev := h
        obtain ⟨hl, g⟩ := seL_spec h
        clear h
        have h := g
        clear g
        simp only [Nat.beq_eq, Bool.and_eq_true, decide_eq_true_eq] at hc
        obtain ⟨hk, rfl⟩ := hc
        subst hk
        rw [hn1] at hdg
        refine lv_astore hx hb hdg hL hl rfl (fun ls' hL' => ?_)
        exact hn rfl _ _ _ _ h hE H locs ls' hP hS (LR.set rfl hl hL') (by rw [List.length_set]; exact hLl) (fun v hv => hSv v (List.mem_cons_of_mem _ hv)) (vok_set (hSv _ List.mem_cons_self) hLv)
  | iinc k n =>
    replace h : geI L a (fun x => seL L a (.inl (x + v)) (fun L => f L S σ)) = some ev := h
    obtain ⟨x, hx1, g⟩ := geI_spec h
    clear h
    have h := g
    clear g
    obtain ⟨hl, g⟩ := seL_spec h
    clear h
    have h := g
    clear g
    simp only [Nat.beq_eq, Bool.and_eq_true, decide_eq_true_eq] at hc
    obtain ⟨⟨hk, hv⟩, rfl⟩ := hc
    subst hk
    rw [hn1] at hdg
    obtain ⟨q, hq⟩ := List.getElem?_of_mem (prs_mem.mpr ⟨_, hx1, rfl⟩ : (k, emb ad (.inl x)) ∈ prs ad L)
    refine lv_iinc (v := x + v) hx hb hdg hL hq (by rw [hv]) hl rfl (fun ls' hL' => ?_)
    exact hn rfl _ _ _ _ h hE H locs ls' hP hS (LR.set (v := .inl (x + v)) rfl hl hL') (by rw [List.length_set]; exact hLl) hSv (vok_set (v := .inl (x + v)) trivial hLv)
  | iconst n =>
    replace h : f L (.inl v :: S) σ = some ev := h
    simp only [Nat.beq_eq, decide_eq_true_eq, Bool.and_eq_true] at hc
    obtain ⟨hv, rfl⟩ := hc
    rw [hn1] at hdg
    exact lv_iconst hx hb hdg hv (hn rfl _ _ _ _ h hE H locs ls hP hS hL hLl (vok_cons (v := .inl _) trivial hSv) hLv)
  | bipush n =>
    replace h : f L (.inl v :: S) σ = some ev := h
    simp only [Nat.beq_eq, decide_eq_true_eq, Bool.and_eq_true] at hc
    obtain ⟨hv, rfl⟩ := hc
    rw [hn1] at hdg
    exact lv_bipush hx hb hdg hv (hn rfl _ _ _ _ h hE H locs ls hP hS hL hLl (vok_cons (v := .inl _) trivial hSv) hLv)
  | sipush n =>
    replace h : f L (.inl v :: S) σ = some ev := h
    simp only [Nat.beq_eq, decide_eq_true_eq, Bool.and_eq_true] at hc
    obtain ⟨hv, rfl⟩ := hc
    rw [hn1] at hdg
    exact lv_sipush hx hb hdg hv (hn rfl _ _ _ _ h hE H locs ls hP hS hL hLl (vok_cons (v := .inl _) trivial hSv) hLv)
  | ldc i =>
    replace h : (bif Nat.beq c9 0 then f L (.inl v :: S) σ else f L (.inr (16, a) :: S) σ) = some ev := h
    simp only [Nat.beq_eq, Bool.and_eq_true, decide_eq_true_eq] at hc
    obtain ⟨rfl, hc⟩ := hc
    rw [hn1] at hdg
    cases h0 : Nat.beq c9 0 with
    | true =>
      rw [h0] at h hc
      simp only [cond_true, decide_eq_true_eq] at h hc
      exact lv_ldc hx hb hown (hts _ (ws_tw (in_r hc))) hdg (hn rfl _ _ _ _ h hE H locs ls hP hS hL hLl (vok_cons (v := .inl _) trivial hSv) hLv)
    | false =>
      rw [h0] at h hc
      simp only [cond_false, decide_eq_true_eq, Bool.and_eq_true, Nat.blt_eq] at h hc
      obtain ⟨tx, hZ⟩ := hEX.2.2.1 s hex _ hc.2
      exact va_ldcS hx hb hown hZ hdg (hn rfl _ _ _ _ h hE H locs ls hP hS hL hLl (vok_cons (v := .inr (16, a)) hc.1 hSv) hLv)
  | ldc_w i =>
    replace h : f L (.inl v :: S) σ = some ev := h
    simp only [Nat.beq_eq, decide_eq_true_eq, Bool.and_eq_true] at hc
    obtain ⟨⟨rfl, -⟩, hc⟩ := hc
    rw [hn1] at hdg
    exact lv_ldcw hx hb hown (hts _ (ws_tw (in_r hc))) hdg (hn rfl _ _ _ _ h hE H locs ls hP hS hL hLl (vok_cons (v := .inl _) trivial hSv) hLv)
  | iadd =>
    cases S with
    | nil => exact no_ev h
    | cons u S =>
      cases u with
      | inr q => exact no_ev h
      | inl y =>
        cases S with
        | nil => exact no_ev h
        | cons u S =>
          cases u with
          | inr q => exact no_ev h
          | inl x =>
            replace h : f L (.inl (x + y) :: S) σ = some ev := h
            simp only [Nat.beq_eq, Bool.and_eq_true, decide_eq_true_eq] at hc
            subst hc
            rw [hn1] at hdg
            have hSv2 : ∀ v ∈ S, vok v := fun v hv => hSv v (List.mem_cons_of_mem _ (List.mem_cons_of_mem _ hv))
            exact lv_iadd hx hb hdg (hn rfl _ _ _ _ h hE H locs ls hP hS hL hLl (vok_cons (v := .inl _) trivial hSv2) hLv)
  | isub =>
    cases S with
    | nil => exact no_ev h
    | cons u S =>
      cases u with
      | inr q => exact no_ev h
      | inl y =>
        cases S with
        | nil => exact no_ev h
        | cons u S =>
          cases u with
          | inr q => exact no_ev h
          | inl x =>
            replace h : f L (.inl (x - y) :: S) σ = some ev := h
            simp only [Nat.beq_eq, Bool.and_eq_true, decide_eq_true_eq] at hc
            subst hc
            rw [hn1] at hdg
            have hSv2 : ∀ v ∈ S, vok v := fun v hv => hSv v (List.mem_cons_of_mem _ (List.mem_cons_of_mem _ hv))
            exact lv_isub hx hb hdg (hn rfl _ _ _ _ h hE H locs ls hP hS hL hLl (vok_cons (v := .inl _) trivial hSv2) hLv)
  | imul =>
    cases S with
    | nil => exact no_ev h
    | cons u S =>
      cases u with
      | inr q => exact no_ev h
      | inl y =>
        cases S with
        | nil => exact no_ev h
        | cons u S =>
          cases u with
          | inr q => exact no_ev h
          | inl x =>
            replace h : f L (.inl (x * y) :: S) σ = some ev := h
            simp only [Nat.beq_eq, Bool.and_eq_true, decide_eq_true_eq] at hc
            subst hc
            rw [hn1] at hdg
            have hSv2 : ∀ v ∈ S, vok v := fun v hv => hSv v (List.mem_cons_of_mem _ (List.mem_cons_of_mem _ hv))
            exact lv_imul hx hb hdg (hn rfl _ _ _ _ h hE H locs ls hP hS hL hLl (vok_cons (v := .inl _) trivial hSv2) hLv)
  | iand =>
    cases S with
    | nil => exact no_ev h
    | cons u S =>
      cases u with
      | inr q => exact no_ev h
      | inl y =>
        cases S with
        | nil => exact no_ev h
        | cons u S =>
          cases u with
          | inr q => exact no_ev h
          | inl x =>
            replace h : f L (.inl (x &&& y) :: S) σ = some ev := h
            simp only [Nat.beq_eq, Bool.and_eq_true, decide_eq_true_eq] at hc
            subst hc
            rw [hn1] at hdg
            have hSv2 : ∀ v ∈ S, vok v := fun v hv => hSv v (List.mem_cons_of_mem _ (List.mem_cons_of_mem _ hv))
            exact lv_iand hx hb hdg (hn rfl _ _ _ _ h hE H locs ls hP hS hL hLl (vok_cons (v := .inl _) trivial hSv2) hLv)
  | idiv =>
    cases S with
    | nil => exact no_ev h
    | cons u S =>
      cases u with
      | inr q => exact no_ev h
      | inl y =>
        cases S with
        | nil => exact no_ev h
        | cons u S =>
          cases u with
          | inr q => exact no_ev h
          | inl x =>
            replace h : evN (¬ y = 0) nx L (.inl (x / y) :: S) σ = some ev := h
            simp only [Nat.beq_eq, Bool.and_eq_true, decide_eq_true_eq] at hc
            subst hc
            rw [hn1] at hdg
            cases h
            have hSv2 : ∀ v ∈ S, vok v := fun v hv => hSv v (List.mem_cons_of_mem _ (List.mem_cons_of_mem _ hv))
            exact lv_idiv hx hb hdg hE.1 (hE.2 H locs ls hP hS hL hLl (vok_cons (v := .inl _) trivial hSv2) hLv)
  | ineg =>
    cases S with
    | nil => exact no_ev h
    | cons u S =>
      cases u with
      | inr q => exact no_ev h
      | inl x =>
        replace h : f L (.inl (-x) :: S) σ = some ev := h
        simp only [Nat.beq_eq, Bool.and_eq_true, decide_eq_true_eq] at hc
        subst hc
        rw [hn1] at hdg
        have hSv2 : ∀ v ∈ S, vok v := fun v hv => hSv v (List.mem_cons_of_mem _ hv)
        exact lv_ineg hx hb hdg (hn rfl _ _ _ _ h hE H locs ls hP hS hL hLl (vok_cons (v := .inl _) trivial hSv2) hLv)
  | i2b =>
    cases S with
    | nil => exact no_ev h
    | cons u S =>
      cases u with
      | inr q => exact no_ev h
      | inl x =>
        replace h : f L (.inl (x.toInt8.toInt32) :: S) σ = some ev := h
        simp only [Nat.beq_eq, Bool.and_eq_true, decide_eq_true_eq] at hc
        subst hc
        rw [hn1] at hdg
        have hSv2 : ∀ v ∈ S, vok v := fun v hv => hSv v (List.mem_cons_of_mem _ hv)
        exact lv_i2b hx hb hdg rfl (hn rfl _ _ _ _ h hE H locs ls hP hS hL hLl (vok_cons (v := .inl _) trivial hSv2) hLv)
  | dup =>
    cases S with
    | nil => exact no_ev h
    | cons u S =>
      replace h : f L (u :: u :: S) σ = some ev := h
      simp only [Nat.beq_eq, Bool.and_eq_true, decide_eq_true_eq] at hc
      subst hc
      rw [hn1] at hdg
      exact lv_dup hx hb hdg (emb_cat ad u) (hn rfl _ _ _ _ h hE H locs ls hP hS hL hLl (vok_cons (hSv u List.mem_cons_self) hSv) hLv)
  | dup2 =>
    cases S with
    | nil => exact no_ev h
    | cons u S =>
      cases S with
      | nil => exact no_ev h
      | cons u2 S =>
        replace h : f L (u :: u2 :: u :: u2 :: S) σ = some ev := h
        simp only [Nat.beq_eq, Bool.and_eq_true, decide_eq_true_eq] at hc
        subst hc
        rw [hn1] at hdg
        exact lv_dup2_11 hx hb hdg (emb_cat ad u) (emb_cat ad u2) (hn rfl _ _ _ _ h hE H locs ls hP hS hL hLl (vok_cons (hSv u List.mem_cons_self) (vok_cons (hSv u2 (List.mem_cons_of_mem _ List.mem_cons_self)) hSv)) hLv)
  | pop =>
    cases S with
    | nil => exact no_ev h
    | cons u S =>
      replace h : f L S σ = some ev := h
      simp only [Nat.beq_eq, Bool.and_eq_true, decide_eq_true_eq] at hc
      subst hc
      rw [hn1] at hdg
      exact lv_pop hx hb hdg (emb_cat ad u) (hn rfl _ _ _ _ h hE H locs ls hP hS hL hLl (fun v hv => hSv v (List.mem_cons_of_mem _ hv)) hLv)
  | getfield idx =>
    cases S with
    | nil => exact no_ev h
    | cons u S =>
      cases u with
      | inl x => exact no_ev h
      | inr q =>
        obtain ⟨k, i⟩ := q
        replace h : (bif Nat.beq k a then (bif Nat.beq c9 0 then f L (.inl (σ a i b) :: S) σ else rfK a i b (fun r => f L (.inr (d, r) :: S) σ)) else none) = some ev := h
        have hSv2 : ∀ v ∈ S, vok v := fun v hv => hSv v (List.mem_cons_of_mem _ hv)
        have hi : i < iCnt k := hSv (.inr (k, i)) List.mem_cons_self
        cases hk : Nat.beq k a with
        | false => rw [hk] at h; exact no_ev h
        | true =>
          rw [hk] at h
          simp only [cond_true] at h
          have hk := Nat.eq_of_beq_eq_true hk
          subst hk
          simp only [Nat.beq_eq, Bool.and_eq_true, Nat.blt_eq, decide_eq_true_eq] at hc
          obtain ⟨⟨⟨⟨rfl, ha⟩, hbN⟩, hw⟩, hrk⟩ := hc
          rw [hn1] at hdg
          obtain ⟨q0, hq0⟩ := wW_get (ad := ad) (cy := cy) (σ := σ) (show k < 16 by omega) hi
          rw [wE_obj ha] at hq0
          have hlink := hts _ (ws_tw (in_r hw))
          cases h0 : Nat.beq c9 0 with
          | true =>
            rw [h0] at h hrk
            simp only [cond_true, Nat.beq_eq] at h hrk
            have hv : ((List.range (iCl k).2.2).map (wV ad σ k i))[b]? = some (.int (σ k i b)) := by rw [fld_at hbN]; simp [wV, hrk]
            exact va_get (D := (dC, dI)) hx hb hts (fun w hw => ws_tw (in_u k ha w hw)) hown hK hP q0 hq0 (cl_get k ha) b hbN hlink (fun _ h9 => h9) hv hdg (hn rfl _ _ _ _ h hE H locs ls hP hS hL hLl (vok_cons (v := .inl _) trivial hSv2) hLv)
          | false =>
            rw [h0] at h hrk
            simp only [cond_false, Nat.beq_eq] at h hrk
            rw [rfK_id] at h
            have hv : ((List.range (iCl k).2.2).map (wV ad σ k i))[b]? = some (.ref (ad d (rfK k i b id))) := by rw [fld_at hbN]; simp [wV, hrk]
            have hok := rf_ok k b i d ha hbN hi hrk
            exact va_get (D := (dC, dI)) hx hb hts (fun w hw => ws_tw (in_u k ha w hw)) hown hK hP q0 hq0 (cl_get k ha) b hbN hlink (fun _ h9 => h9) hv hdg (hn rfl _ _ _ _ h hE H locs ls hP hS hL hLl (vok_cons (v := .inr (d, rfK k i b id)) hok.1 hSv2) hLv)
  | putfield idx =>
    cases S with
    | nil => exact no_ev h
    | cons u S =>
      cases u with
      | inr q => exact no_ev h
      | inl x =>
        cases S with
        | nil => exact no_ev h
        | cons u S =>
          cases u with
          | inl q => exact no_ev h
          | inr q =>
            obtain ⟨k, i⟩ := q
            replace h : (bif Nat.beq k a then (bif Nat.beq c9 0 then f L S (iU σ a i b x) else evN (x = 0 ∨ x = 1) nx L S (iU σ a i b x)) else none) = some ev := h
            have hSv2 : ∀ v ∈ S, vok v := fun v hv => hSv v (List.mem_cons_of_mem _ (List.mem_cons_of_mem _ hv))
            have hi : i < iCnt k := hSv (.inr (k, i)) (List.mem_cons_of_mem _ List.mem_cons_self)
            cases hk : Nat.beq k a with
            | false => rw [hk] at h; exact no_ev h
            | true =>
              rw [hk] at h
              simp only [cond_true] at h
              have hk := Nat.eq_of_beq_eq_true hk
              subst hk
              simp only [Nat.beq_eq, Bool.and_eq_true, Nat.blt_eq, decide_eq_true_eq] at hc
              obtain ⟨⟨⟨⟨⟨⟨rfl, ha⟩, hbN⟩, hw⟩, hrk⟩, hfin⟩, hty⟩ := hc
              rw [hn1] at hdg
              obtain ⟨q0, hq0⟩ := wW_get (ad := ad) (cy := cy) (σ := σ) (show k < 16 by omega) hi
              have hq1 := hq0
              rw [wE_obj ha] at hq0
              have hlink := hts _ (ws_tw (in_r hw))
              obtain ⟨ty0, hty0⟩ := cl_ty k ha
              have hset : (wW ad cy σ).set q0 (ad k i, .inr (k, ((List.range (iCl k).2.2).map (wV ad σ k i)).set b (.int x))) = wW ad cy (iU σ k i b x) := by
                rw [wE_put (cy := cy) ha hrk]
                exact wW_set hI (by omega) hi hq1 wE_other
              have hD := wW_D hI cy σ
              cases h0 : Nat.beq c9 0 with
              | true =>
                rw [h0] at h hty
                simp only [cond_true] at h hty
                refine va_put (D := (dC, dI)) (v := .int x) (ty := .int) hx hb hts (fun w hw => ws_tw (in_u k ha w hw)) ty0 hty0 (cl_nm k ha) hown hK hP hD hS q0 hq0 (cl_get k ha) b hbN hlink (fun _ h9 => h9) hfin hty rfl rfl (by simpa using hbN) hdg (fun H1 locs1 hP1 hD1 hS1 => ?_)
                rw [hset] at hP1
                exact hn rfl _ _ _ _ h hE H1 locs1 ls hP1 hS1 hL hLl hSv2 hLv
              | false =>
                rw [h0] at h hty
                simp only [cond_false] at h hty
                cases h
                have hx01 := hE.1
                refine va_put (D := (dC, dI)) (v := .int x) (ty := .boolean) hx hb hts (fun w hw => ws_tw (in_u k ha w hw)) ty0 hty0 (cl_nm k ha) hown hK hP hD hS q0 hq0 (cl_get k ha) b hbN hlink (fun _ h9 => h9) hfin hty (by rcases hx01 with rfl | rfl <;> rfl) (by rcases hx01 with rfl | rfl <;> rfl) (by simpa using hbN) hdg (fun H1 locs1 hP1 hD1 hS1 => ?_)
                rw [hset] at hP1
                exact hE.2 H1 locs1 ls hP1 hS1 hL hLl hSv2 hLv
  | iaload =>
    cases S with
    | nil => exact no_ev h
    | cons u S =>
      cases u with
      | inr q => exact no_ev h
      | inl i =>
        cases S with
        | nil => exact no_ev h
        | cons u S =>
          cases u with
          | inl q => exact no_ev h
          | inr q =>
            obtain ⟨k, x⟩ := q
            have hSv2 : ∀ v ∈ S, vok v := fun v hv => hSv v (List.mem_cons_of_mem _ (List.mem_cons_of_mem _ hv))
            have hi : x < iCnt k := hSv (.inr (k, x)) (List.mem_cons_of_mem _ List.mem_cons_self)
            replace h : (bif Nat.beq k 8 then evN (vp_in i (iN 8 x)) nx L (.inl (σ 8 x i.toNatClampNeg) :: S) σ else none) = some ev := h
            cases hk : Nat.beq k 8 with
            | false => rw [hk] at h; exact no_ev h
            | true =>
              rw [hk] at h
              simp only [cond_true] at h
              have hk := Nat.eq_of_beq_eq_true hk
              subst hk
              simp only [Nat.beq_eq, Bool.and_eq_true, decide_eq_true_eq] at hc
              subst hc
              rw [hn1] at hdg
              cases h
              obtain ⟨q0, hq0⟩ := wW_get (ad := ad) (cy := cy) (σ := σ) (show 8 < 16 by omega) hi
              rw [wE_arr (by omega) (by omega)] at hq0
              exact va_iald hx hb hK hP q0 0 hq0 rfl hE.1 hdg (hE.2 H locs ls hP hS hL hLl (vok_cons (v := .inl _) trivial hSv2) hLv)
  | baload =>
    cases S with
    | nil => exact no_ev h
    | cons u S =>
      cases u with
      | inr q => exact no_ev h
      | inl i =>
        cases S with
        | nil => exact no_ev h
        | cons u S =>
          cases u with
          | inl q => exact no_ev h
          | inr q =>
            obtain ⟨k, x⟩ := q
            have hSv2 : ∀ v ∈ S, vok v := fun v hv => hSv v (List.mem_cons_of_mem _ (List.mem_cons_of_mem _ hv))
            have hi : x < iCnt k := hSv (.inr (k, x)) (List.mem_cons_of_mem _ List.mem_cons_self)
            replace h : (bif Nat.beq k a then evN (vp_in i (iN a x)) nx L (.inl (σ a x i.toNatClampNeg) :: S) σ else none) = some ev := h
            cases hk : Nat.beq k a with
            | false => rw [hk] at h; exact no_ev h
            | true =>
              rw [hk] at h
              simp only [cond_true] at h
              have hk := Nat.eq_of_beq_eq_true hk
              subst hk
              simp only [Nat.beq_eq, Bool.and_eq_true, Bool.or_eq_true, decide_eq_true_eq] at hc
              obtain ⟨rfl, hc⟩ := hc
              rw [hn1] at hdg
              cases h
              obtain ⟨q0, hq0⟩ := wW_get (ad := ad) (cy := cy) (σ := σ) (show k < 16 by omega) hi
              rw [wE_arr (by omega) (by omega)] at hq0
              rcases hc with rfl | rfl
              · exact va_bald hx hb hK hP q0 1 hq0 rfl hE.1 hdg (hE.2 H locs ls hP hS hL hLl (vok_cons (v := .inl _) trivial hSv2) hLv)
              · exact va_zald hx hb hK hP q0 2 hq0 rfl hE.1 hdg (hE.2 H locs ls hP hS hL hLl (vok_cons (v := .inl _) trivial hSv2) hLv)
  | aaload =>
    cases S with
    | nil => exact no_ev h
    | cons u S =>
      cases u with
      | inr q => exact no_ev h
      | inl i =>
        cases S with
        | nil => exact no_ev h
        | cons u S =>
          cases u with
          | inl q => exact no_ev h
          | inr q =>
            obtain ⟨k, x⟩ := q
            have hSv2 : ∀ v ∈ S, vok v := fun v hv => hSv v (List.mem_cons_of_mem _ (List.mem_cons_of_mem _ hv))
            have hi : x < iCnt k := hSv (.inr (k, x)) (List.mem_cons_of_mem _ List.mem_cons_self)
            replace h : (bif Nat.beq k a then raK a x i.toNatClampNeg (fun r => evN (vp_in i (iN a x)) nx L (.inr (d, r) :: S) σ) else none) = some ev := h
            cases hk : Nat.beq k a with
            | false => rw [hk] at h; exact no_ev h
            | true =>
              rw [hk] at h
              simp only [cond_true] at h
              have hk := Nat.eq_of_beq_eq_true hk
              subst hk
              simp only [Nat.beq_eq, Bool.and_eq_true, Nat.ble_eq, decide_eq_true_eq] at hc
              obtain ⟨⟨⟨rfl, h12⟩, h15⟩, rfl⟩ := hc
              rw [hn1] at hdg
              rw [raK_id] at h
              cases h
              obtain ⟨q0, hq0⟩ := wW_get (ad := ad) (cy := cy) (σ := σ) (show k < 16 by omega) hi
              rw [wE_refs h12] at hq0
              obtain ⟨t0, C0, ht0⟩ := wT_at (cy := cy) h12 h15
              have hlt : i.toNatClampNeg < iN k x := by
                have := hE.1
                unfold vp_in at this
                omega
              exact va_aldq hx hb hK hP q0 t0 hq0 ht0 hE.1 hdg (hE.2 H locs ls hP hS hL hLl (vok_cons (v := .inr (iEk k, raK k x i.toNatClampNeg id)) (ra_ok k x _ h12 h15 hi hlt) hSv2) hLv)
  | iastore =>
    cases S with
    | nil => exact no_ev h
    | cons u S =>
      cases u with
      | inr q => exact no_ev h
      | inl y =>
        cases S with
        | nil => exact no_ev h
        | cons u S =>
          cases u with
          | inr q => exact no_ev h
          | inl i =>
            cases S with
            | nil => exact no_ev h
            | cons u S =>
              cases u with
              | inl q => exact no_ev h
              | inr q =>
                obtain ⟨k, x⟩ := q
                have hSv2 : ∀ v ∈ S, vok v := fun v hv => hSv v (List.mem_cons_of_mem _ (List.mem_cons_of_mem _ (List.mem_cons_of_mem _ hv)))
                have hi : x < iCnt k := hSv (.inr (k, x)) (List.mem_cons_of_mem _ (List.mem_cons_of_mem _ List.mem_cons_self))
                have hD := wW_D hI cy σ
                replace h : (bif Nat.beq k 8 then evN (vp_in i (iN 8 x)) nx L S (iU σ 8 x i.toNatClampNeg y) else none) = some ev := h
                cases hk : Nat.beq k 8 with
                | false => rw [hk] at h; exact no_ev h
                | true =>
                  rw [hk] at h
                  simp only [cond_true] at h
                  have hk := Nat.eq_of_beq_eq_true hk
                  subst hk
                  simp only [Nat.beq_eq, Bool.and_eq_true, decide_eq_true_eq] at hc
                  subst hc
                  rw [hn1] at hdg
                  cases h
                  obtain ⟨q0, hq0⟩ := wW_get (ad := ad) (cy := cy) (σ := σ) (show 8 < 16 by omega) hi
                  have hq1 := hq0
                  rw [wE_arr (by omega) (by omega)] at hq0
                  refine va_iast hx hb hK hP hD hS q0 0 hq0 rfl hE.1 hdg (fun H1 locs1 hP1 hD1 hS1 => ?_)
                  rw [wE_ast (ad := ad) (by omega) (by omega), wW_set hI (by omega) hi hq1 wE_other] at hP1
                  exact hE.2 H1 locs1 ls hP1 hS1 hL hLl hSv2 hLv
  | bastore =>
    cases S with
    | nil => exact no_ev h
    | cons u S =>
      cases u with
      | inr q => exact no_ev h
      | inl y =>
        cases S with
        | nil => exact no_ev h
        | cons u S =>
          cases u with
          | inr q => exact no_ev h
          | inl i =>
            cases S with
            | nil => exact no_ev h
            | cons u S =>
              cases u with
              | inl q => exact no_ev h
              | inr q =>
                obtain ⟨k, x⟩ := q
                have hSv2 : ∀ v ∈ S, vok v := fun v hv => hSv v (List.mem_cons_of_mem _ (List.mem_cons_of_mem _ (List.mem_cons_of_mem _ hv)))
                have hi : x < iCnt k := hSv (.inr (k, x)) (List.mem_cons_of_mem _ (List.mem_cons_of_mem _ List.mem_cons_self))
                have hD := wW_D hI cy σ
                replace h : (bif Nat.beq k a then (bif Nat.beq a 9 then evN (vp_in i (iN a x)) nx L S (iU σ a x i.toNatClampNeg (vp_nar .byte y)) else evN (vp_in i (iN a x)) nx L S (iU σ a x i.toNatClampNeg (vp_nar .boolean y))) else none) = some ev := h
                cases hk : Nat.beq k a with
                | false => rw [hk] at h; exact no_ev h
                | true =>
                  rw [hk] at h
                  simp only [cond_true] at h
                  have hk := Nat.eq_of_beq_eq_true hk
                  subst hk
                  simp only [Nat.beq_eq, Bool.and_eq_true, Bool.or_eq_true, decide_eq_true_eq] at hc
                  obtain ⟨rfl, hc⟩ := hc
                  rw [hn1] at hdg
                  obtain ⟨q0, hq0⟩ := wW_get (ad := ad) (cy := cy) (σ := σ) (show k < 16 by omega) hi
                  have hq1 := hq0
                  rw [wE_arr (by omega) (by omega)] at hq0
                  rcases hc with rfl | rfl
                  · replace h : evN (vp_in i (iN 9 x)) (pc + 1) L S (iU σ 9 x i.toNatClampNeg (vp_nar .byte y)) = some ev := h
                    cases h
                    refine va_bast hx hb hK hP hD hS q0 1 hq0 rfl hE.1 hdg (fun H1 locs1 hP1 hD1 hS1 => ?_)
                    rw [wE_ast (ad := ad) (by omega) (by omega), wW_set hI (by omega) hi hq1 wE_other] at hP1
                    exact hE.2 H1 locs1 ls hP1 hS1 hL hLl hSv2 hLv
                  · replace h : evN (vp_in i (iN 10 x)) (pc + 1) L S (iU σ 10 x i.toNatClampNeg (vp_nar .boolean y)) = some ev := h
                    cases h
                    refine va_zast hx hb hK hP hD hS q0 2 hq0 rfl hE.1 hdg (fun H1 locs1 hP1 hD1 hS1 => ?_)
                    rw [wE_ast (ad := ad) (by omega) (by omega), wW_set hI (by omega) hi hq1 wE_other] at hP1
                    exact hE.2 H1 locs1 ls hP1 hS1 hL hLl hSv2 hLv
  | arraylength =>
    cases S with
    | nil => exact no_ev h
    | cons u S =>
      cases u with
      | inl q => exact no_ev h
      | inr q =>
        obtain ⟨k, x⟩ := q
        have hSv2 : ∀ v ∈ S, vok v := fun v hv => hSv v (List.mem_cons_of_mem _ hv)
        have hi : x < iCnt k := hSv (.inr (k, x)) List.mem_cons_self
        replace h : (bif Nat.beq k a then f L (.inl (Int32.ofNat (iN a x)) :: S) σ else none) = some ev := h
        cases hk : Nat.beq k a with
        | false => rw [hk] at h; exact no_ev h
        | true =>
          rw [hk] at h
          simp only [cond_true] at h
          have hk := Nat.eq_of_beq_eq_true hk
          subst hk
          simp only [Nat.beq_eq, Bool.and_eq_true, Nat.ble_eq, Bool.not_eq_true', decide_eq_true_eq] at hc
          obtain ⟨⟨⟨rfl, h8⟩, h15⟩, h11⟩ := hc
          rw [hn1] at hdg
          have h11 : k ≠ 11 := fun q => by subst q; cases h11
          obtain ⟨q0, hq0⟩ := wW_get (ad := ad) (cy := cy) (σ := σ) (show k < 16 by omega) hi
          obtain ⟨xa, hxa, hwe⟩ := wE_len (ad := ad) (cy := cy) (σ := σ) (i := x) h8
          rw [hwe] at hq0
          obtain ⟨t0, ty, ht0⟩ := wT_any (cy := cy) h8 h15 h11
          exact va_alen hx hb hK hP q0 t0 hq0 ht0 (by rw [hxa]) hdg (hn rfl _ _ _ _ h hE H locs ls hP hS hL hLl (vok_cons (v := .inl _) trivial hSv2) hLv)
  | goto o =>
    replace h : evJ a L S σ = some ev := h
    cases h
    simp only [Nat.beq_eq, decide_eq_true_eq, Bool.and_eq_true] at hc
    obtain ⟨rfl, ht⟩ := hc
    rw [hn1] at hdg
    exact lv_goto hx hb hdg ht (hE H locs ls hP hS hL hLl hSv hLv)
  | if_icmp cd o =>
    cases S with
    | nil => exact no_ev h
    | cons u S =>
      cases u with
      | inr q => exact no_ev h
      | inl y =>
        cases S with
        | nil => exact no_ev h
        | cons u S =>
          cases u with
          | inr q => exact no_ev h
          | inl x =>
            simp only [Nat.beq_eq, decide_eq_true_eq, Bool.and_eq_true] at hc
            obtain ⟨rfl, ht⟩ := hc
            rw [hn1] at hdg
            have hSv2 : ∀ v ∈ S, vok v := fun v hv => hSv v (List.mem_cons_of_mem _ (List.mem_cons_of_mem _ hv))
            cases cd with
            | eq =>
              replace h : evB (x = y) a (pc + 3) L S σ = some ev := h
              cases h
              exact lv_icmp_eq hx hb hdg ht (fun q => hE.1 q H locs ls hP hS hL hLl hSv2 hLv) (fun q => hE.2 q H locs ls hP hS hL hLl hSv2 hLv)
            | ne =>
              replace h : evB (x = y) (pc + 3) a L S σ = some ev := h
              cases h
              exact lv_icmp_ne hx hb hdg ht (fun q => hE.2 q H locs ls hP hS hL hLl hSv2 hLv) (fun q => hE.1 q H locs ls hP hS hL hLl hSv2 hLv)
            | lt =>
              replace h : evB (x < y) a (pc + 3) L S σ = some ev := h
              cases h
              exact lv_icmp_lt hx hb hdg ht (fun q => hE.1 q H locs ls hP hS hL hLl hSv2 hLv) (fun q => hE.2 q H locs ls hP hS hL hLl hSv2 hLv)
            | ge =>
              replace h : evB (y ≤ x) a (pc + 3) L S σ = some ev := h
              cases h
              exact lv_icmp_ge hx hb hdg ht (fun q => hE.1 q H locs ls hP hS hL hLl hSv2 hLv) (fun q => hE.2 q H locs ls hP hS hL hLl hSv2 hLv)
            | gt =>
              replace h : evB (y < x) a (pc + 3) L S σ = some ev := h
              cases h
              exact lv_icmp_gt hx hb hdg ht (fun q => hE.1 q H locs ls hP hS hL hLl hSv2 hLv) (fun q => hE.2 q H locs ls hP hS hL hLl hSv2 hLv)
            | le =>
              replace h : evB (x ≤ y) a (pc + 3) L S σ = some ev := h
              cases h
              exact lv_icmp_le hx hb hdg ht (fun q => hE.1 q H locs ls hP hS hL hLl hSv2 hLv) (fun q => hE.2 q H locs ls hP hS hL hLl hSv2 hLv)
  | ifCond cd o =>
    cases S with
    | nil => exact no_ev h
    | cons u S =>
      cases u with
      | inr q => exact no_ev h
      | inl x =>
        simp only [Nat.beq_eq, decide_eq_true_eq, Bool.and_eq_true] at hc
        obtain ⟨rfl, ht⟩ := hc
        rw [hn1] at hdg
        have hSv2 : ∀ v ∈ S, vok v := fun v hv => hSv v (List.mem_cons_of_mem _ hv)
        cases cd with
        | eq =>
          replace h : evB (x = 0) a (pc + 3) L S σ = some ev := h
          cases h
          exact lv_if_eq hx hb hdg ht (fun q => hE.1 q H locs ls hP hS hL hLl hSv2 hLv) (fun q => hE.2 q H locs ls hP hS hL hLl hSv2 hLv)
        | ne =>
          replace h : evB (x = 0) (pc + 3) a L S σ = some ev := h
          cases h
          exact lv_if_ne hx hb hdg ht (fun q => hE.2 q H locs ls hP hS hL hLl hSv2 hLv) (fun q => hE.1 q H locs ls hP hS hL hLl hSv2 hLv)
        | lt =>
          replace h : evB (x < 0) a (pc + 3) L S σ = some ev := h
          cases h
          exact lv_if_lt hx hb hdg ht (fun q => hE.1 q H locs ls hP hS hL hLl hSv2 hLv) (fun q => hE.2 q H locs ls hP hS hL hLl hSv2 hLv)
        | ge =>
          replace h : evB (0 ≤ x) a (pc + 3) L S σ = some ev := h
          cases h
          exact lv_if_ge hx hb hdg ht (fun q => hE.1 q H locs ls hP hS hL hLl hSv2 hLv) (fun q => hE.2 q H locs ls hP hS hL hLl hSv2 hLv)
        | gt =>
          replace h : evB (0 < x) a (pc + 3) L S σ = some ev := h
          cases h
          exact lv_if_gt hx hb hdg ht (fun q => hE.1 q H locs ls hP hS hL hLl hSv2 hLv) (fun q => hE.2 q H locs ls hP hS hL hLl hSv2 hLv)
        | le =>
          replace h : evB (x ≤ 0) a (pc + 3) L S σ = some ev := h
          cases h
          exact lv_if_le hx hb hdg ht (fun q => hE.1 q H locs ls hP hS hL hLl hSv2 hLv) (fun q => hE.2 q H locs ls hP hS hL hLl hSv2 hLv)
  | tableswitch df lo hi os =>
    cases S with
    | nil => exact no_ev h
    | cons u S =>
      cases u with
      | inr q => exact no_ev h
      | inl x =>
        replace h : evS x ts a L S σ = some ev := h
        cases h
        have hSv2 : ∀ v ∈ S, vok v := fun v hv => hSv v (List.mem_cons_of_mem _ hv)
        simp only [decide_eq_true_eq, Bool.and_eq_true, Nat.beq_eq] at hc
        obtain ⟨⟨hd, hsw⟩, hhi⟩ := hc
        by_cases hin : lo ≤ x.toInt ∧ x.toInt ≤ hi
        · obtain ⟨off, g1, g2⟩ := tabT pc x a os.toList ts lo hsw hin.1 (by omega)
          exact lv_tableIn hx hb hdg (by omega) (by omega) (by rw [← Array.getElem?_toList]; exact g1) g2 (hE H locs ls hP hS hL hLl hSv2 hLv)
        · have ht := tabF pc x a os.toList ts lo hsw (by omega)
          refine lv_tableOut hx hb hdg (by omega) hd ?_
          have hE : WAt p l e s m args below meth c dC dI ad cy R Q j (swT x ts a) L S σ := hE
          rw [ht] at hE
          exact hE H locs ls hP hS hL hLl hSv2 hLv
  | lookupswitch df os =>
    cases S with
    | nil => exact no_ev h
    | cons u S =>
      cases u with
      | inr q => exact no_ev h
      | inl x =>
        replace h : evS x ts a L S σ = some ev := h
        cases h
        have hSv2 : ∀ v ∈ S, vok v := fun v hv => hSv v (List.mem_cons_of_mem _ hv)
        simp only [decide_eq_true_eq, Bool.and_eq_true, Nat.beq_eq] at hc
        obtain ⟨⟨hd, hsw⟩, hp⟩ := hc
        exact lv_lookup hx hb hdg hp rfl (lkT pc x a df hd os.toList ts hsw) (hE H locs ls hP hS hL hLl hSv2 hLv)
  | invokevirtual idx =>
    simp only [Nat.beq_eq, Bool.and_eq_true, decide_eq_true_eq] at hc
    obtain ⟨rfl, hc⟩ := hc
    rw [hn1] at hdg
    cases d with
    | zero =>
      replace h : popN b S [] (fun as S => (match as with | .inr (k, _) :: _ => bif Nat.beq k c9 && Nat.ble S.length 8 then evC a as (pc + 3) L S σ else none | _ => none)) = some ev := h
      obtain ⟨T, S', hTS, hTl, g⟩ := popN_spec h
      clear h
      subst hTS
      rw [List.append_nil] at g
      simp only [Bool.and_eq_true, Nat.blt_eq, decide_eq_true_eq, Nat.beq_eq, Nat.ble_eq, Bool.not_eq_true'] at hc
      obtain ⟨⟨⟨⟨⟨⟨ha, hw⟩, hst⟩, hbn⟩, hck⟩, hfr⟩, hlo⟩ := hc
      obtain ⟨k1, k2, k3, k4, k5, k6, k7, k8, k9, k10, k11, k12, -⟩ := ckM ha
      generalize hTr : T.reverse = as at g
      have hT : T = as.reverse := by rw [← hTr, List.reverse_reverse]
      subst hT
      cases as with
      | nil => exact no_ev g
      | cons u As =>
        cases u with
        | inl q => exact no_ev g
        | inr q =>
          obtain ⟨k, i⟩ := q
          replace g : (bif Nat.beq k c9 && Nat.ble S'.length 8 then evC a (.inr (k, i) :: As) (pc + 3) L S' σ else none) = some ev := g
          cases hk : (Nat.beq k c9 && Nat.ble S'.length 8) with
          | false => rw [hk] at g; exact no_ev g
          | true =>
            rw [hk] at g
            simp only [Bool.and_eq_true, Nat.beq_eq, Nat.ble_eq] at hk
            obtain ⟨hkc, hS8⟩ := hk
            cases g
            rw [hck] at hkc
            subst hkc
            have hAl : (.inr (iKd a, i) :: As : List iV).length = iNa a := by rw [← hbn, ← hTl, List.length_reverse]
            exact hcall a (.inr (iKd a, i) :: As) pc L S' σ ha hAl hS8 hfr hlo (Or.inl ⟨idx, i, As, rfl, hdg, in_r hw, hst⟩) hE H locs ls hP hS hL hLl hSv hLv
    | succ d =>
      cases d with
      | zero =>
        cases S with
        | nil => exact no_ev h
        | cons u S =>
          cases u with
          | inl q => exact no_ev h
          | inr q =>
            obtain ⟨k, i⟩ := q
            have hSv2 : ∀ v ∈ S, vok v := fun v hv => hSv v (List.mem_cons_of_mem _ hv)
            have hi : i < iCnt k := hSv (.inr (k, i)) List.mem_cons_self
            replace h : (bif Nat.beq k 16 && Nat.ble S.length 8 then f L (.inl (Int32.ofNat (sLen i)) :: S) σ else none) = some ev := h
            cases hk : (Nat.beq k 16 && Nat.ble S.length 8) with
            | false => rw [hk] at h; exact no_ev h
            | true =>
              rw [hk] at h
              simp only [cond_true] at h
              simp only [Bool.and_eq_true, Nat.beq_eq, Nat.ble_eq] at hk
              obtain ⟨hk16, hS8⟩ := hk
              subst hk16
              have hi : i < 8 := hi
              simp only [Bool.and_eq_true, decide_eq_true_eq, Nat.ble_eq, Nat.beq_eq] at hc
              obtain ⟨⟨hw, hfr⟩, hlo⟩ := hc
              have hM := hEX.2.2.2.2.1 i hi
              have hG : GoodIn (iWs j) (wsV (iOwn j) idx RJ0 yJ0_length_8abf5 (.code yJ0_length_8abf5 cJ0_length_8abf5 1 (some .int) :: tw)) := by
                apply good_tw
                intro w hw9
                unfold wsV at hw9
                rcases List.mem_append.mp hw9 with hw9 | hw9
                · simp only [List.mem_cons, List.not_mem_nil, or_false] at hw9
                  rcases hw9 with rfl | rfl | rfl | rfl
                  · exact in_r hw
                  · exact in_j (i := 1) rfl
                  · exact in_j (i := 2) rfl
                  · exact in_j (i := 3) rfl
                · rcases List.mem_cons.mp hw9 with rfl | hw9
                  · exact in_j (i := 0) rfl
                  · exact hw9
              have hrun := va_runV (p := p) (l := l) (e := e) (R := R) (s := s) (m := m) (args := args) (below := below) (meth := meth) (c := c) (H := H) (locs := locs) (cells := 0) (slots := 0) (g := F0 m pc ls (.ref (ad 16 i) :: S.map (emb ad))) (rest := S.map (emb ad)) (As := []) (b := ad 16 i) (C := RJ0) ⟨hx, hb, hml, hown, hts⟩ hM
                (cwV 0 hts hG rfl rfl rfl (by decide +kernel) ⟨by rw [hRf]; exact hfr, by rw [hRl]; exact hlo⟩)
                ⟨fun a9 U g mk q9 => ⟨q9.1, hEX.2.1 U g mk a9 q9.2⟩, hEX.2.2.2.1 s hex H locs hS i hi, fun U hU hW => ⟨rfl, hEX.1 s U locs hex hW (by rw [hU]; exact hS)⟩⟩
                rfl rfl (by rw [show (F0 m pc ls (.ref (ad 16 i) :: S.map (emb ad))).locals = ls from rfl, hL.len, hLl]) rfl (lv_room (by rw [cat_sum]; exact hS8)) hdg ⟨Nat.zero_le _, Nat.zero_le _⟩
              refine call_go hrun (fun v9 st t H1 L1 h1 h2 h3 h4 => ?_)
              obtain ⟨hv9, hH⟩ := h3
              cases hv9
              subst h2
              rw [hH, h1]
              exact hn rfl _ _ _ _ h hE H (locs ++ L1) ls hP (hS.call (free := wA ad) (Nat.le_refl _) (fun q _ _ => rfl) (fun q hq => (h4 q hq).elim)) hL hLl (vok_cons (v := .inl _) trivial hSv2) hLv
      | succ d =>
        cases d with
        | zero =>
          cases S with
          | nil => exact no_ev h
          | cons u S =>
            cases u with
            | inr q => exact no_ev h
            | inl y =>
              cases S with
              | nil => exact no_ev h
              | cons u S =>
                cases u with
                | inl q => exact no_ev h
                | inr q =>
                  obtain ⟨k, i⟩ := q
                  have hSv2 : ∀ v ∈ S, vok v := fun v hv => hSv v (List.mem_cons_of_mem _ (List.mem_cons_of_mem _ hv))
                  have hi : i < iCnt k := hSv (.inr (k, i)) (List.mem_cons_of_mem _ List.mem_cons_self)
                  replace h : (bif Nat.beq k 16 && Nat.ble S.length 8 then evN (vp_in y (sLen i)) (pc + 3) L (.inl (sCh i y.toNatClampNeg) :: S) σ else none) = some ev := h
                  cases hk : (Nat.beq k 16 && Nat.ble S.length 8) with
                  | false => rw [hk] at h; exact no_ev h
                  | true =>
                    rw [hk] at h
                    simp only [cond_true] at h
                    simp only [Bool.and_eq_true, Nat.beq_eq, Nat.ble_eq] at hk
                    obtain ⟨hk16, hS8⟩ := hk
                    subst hk16
                    have hi : i < 8 := hi
                    cases h
                    simp only [Bool.and_eq_true, decide_eq_true_eq, Nat.ble_eq, Nat.beq_eq] at hc
                    obtain ⟨⟨hw, hfr⟩, hlo⟩ := hc
                    have hM := hEX.2.2.2.2.2 i hi y hE.1
                    have hG : GoodIn (iWs j) (wsV (iOwn j) idx RJ0 yJ0_charAt_5068e (.code yJ0_charAt_5068e cJ0_charAt_5068e 2 (some .char) :: tw)) := by
                      apply good_tw
                      intro w hw9
                      unfold wsV at hw9
                      rcases List.mem_append.mp hw9 with hw9 | hw9
                      · simp only [List.mem_cons, List.not_mem_nil, or_false] at hw9
                        rcases hw9 with rfl | rfl | rfl | rfl
                        · exact in_r hw
                        · exact in_j (i := 5) rfl
                        · exact in_j (i := 6) rfl
                        · exact in_j (i := 3) rfl
                      · rcases List.mem_cons.mp hw9 with rfl | hw9
                        · exact in_j (i := 4) rfl
                        · exact hw9
                    have hrun := va_runV (p := p) (l := l) (e := e) (R := R) (s := s) (m := m) (args := args) (below := below) (meth := meth) (c := c) (H := H) (locs := locs) (cells := 0) (slots := 0) (g := F0 m pc ls (.int y :: .ref (ad 16 i) :: S.map (emb ad))) (rest := S.map (emb ad)) (As := [.int y]) (b := ad 16 i) (C := RJ0) ⟨hx, hb, hml, hown, hts⟩ hM
                      (cwV 1 hts hG rfl rfl rfl (by decide +kernel) ⟨by rw [hRf]; exact hfr, by rw [hRl]; exact hlo⟩)
                      ⟨fun a9 U g mk q9 => ⟨q9.1, hEX.2.1 U g mk a9 q9.2⟩, hEX.2.2.2.1 s hex H locs hS i hi, fun U hU hW => ⟨rfl, hEX.1 s U locs hex hW (by rw [hU]; exact hS)⟩⟩
                      rfl rfl (by rw [show (F0 m pc ls (.int y :: .ref (ad 16 i) :: S.map (emb ad))).locals = ls from rfl, hL.len, hLl]) rfl (lv_room (by rw [cat_sum]; exact hS8)) hdg ⟨Nat.zero_le _, Nat.zero_le _⟩
                    refine call_go hrun (fun v9 st t H1 L1 h1 h2 h3 h4 => ?_)
                    obtain ⟨hv9, hH⟩ := h3
                    cases hv9
                    subst h2
                    rw [hH, h1]
                    exact hE.2 H (locs ++ L1) ls hP (hS.call (free := wA ad) (Nat.le_refl _) (fun q _ _ => rfl) (fun q hq => (h4 q hq).elim)) hL hLl (vok_cons (v := .inl _) trivial hSv2) hLv
        | succ d => cases hc
  | invokestatic idx =>
    simp only [Nat.beq_eq, Bool.and_eq_true, decide_eq_true_eq] at hc
    obtain ⟨rfl, hc⟩ := hc
    rw [hn1] at hdg
    cases d with
    | zero =>
      replace h : popN b S [] (fun as S => bif Nat.ble S.length 8 then evC a as (pc + 3) L S σ else none) = some ev := h
      obtain ⟨T, S', hTS, hTl, g⟩ := popN_spec h
      clear h
      subst hTS
      rw [List.append_nil] at g
      simp only [Bool.and_eq_true, Nat.blt_eq, decide_eq_true_eq, Nat.beq_eq, Nat.ble_eq] at hc
      obtain ⟨⟨⟨⟨⟨⟨ha, hw⟩, hst⟩, hoo⟩, hbn⟩, hfr⟩, hlo⟩ := hc
      obtain ⟨k1, k2, k3, k4, k5, k6, k7, k8, k9, k10, k11, k12, -⟩ := ckM ha
      generalize hTr : T.reverse = as at g
      have hT : T = as.reverse := by rw [← hTr, List.reverse_reverse]
      subst hT
      cases hk : (Nat.ble S'.length 8) with
      | false => rw [hk] at g; exact no_ev g
      | true =>
        rw [hk] at g
        simp only [cond_true] at g
        have hS8 := Nat.le_of_ble_eq_true hk
        cases g
        have hAl : as.length = iNa a := by rw [← hbn, ← hTl, List.length_reverse]
        exact hcall a as pc L S' σ ha hAl hS8 hfr hlo (Or.inr ⟨idx, hdg, in_r hw, hst, hoo⟩) hE H locs ls hP hS hL hLl hSv hLv
    | succ d =>
      cases d with
      | zero =>
        cases S with
        | nil => exact no_ev h
        | cons u S =>
          cases u with
          | inr q => exact no_ev h
          | inl y =>
            cases S with
            | nil => exact no_ev h
            | cons u S =>
              cases u with
              | inr q => exact no_ev h
              | inl x =>
                replace h : (bif Nat.ble S.length 8 then f L (.inl (iMax x y) :: S) σ else none) = some ev := h
                have hSv2 : ∀ v ∈ S, vok v := fun v hv => hSv v (List.mem_cons_of_mem _ (List.mem_cons_of_mem _ hv))
                cases hk : (Nat.ble S.length 8) with
                | false => rw [hk] at h; exact no_ev h
                | true =>
                  rw [hk] at h
                  simp only [cond_true] at h
                  have hS8 := Nat.le_of_ble_eq_true hk
                  simp only [Bool.and_eq_true, decide_eq_true_eq, Nat.ble_eq, Nat.beq_eq] at hc
                  obtain ⟨⟨hw, hfr⟩, hlo⟩ := hc
                  exact va_mmax hx hb (by rw [hml, hL.len, hLl]) hown (hts _ (ws_tw (in_r hw))) (hts _ (ws_tw (in_r (i := 1172) (by decide +kernel)))) (hts _ (ws_tw (in_r (i := 1175) (by decide +kernel)))) (hts _ (ws_tw (in_r (i := 1171) (by decide +kernel)))) (by rw [hRf]; exact hfr) (by rw [cat_sum, hRl]; omega) (Nat.zero_le _) (Nat.zero_le _) hdg (hn rfl _ _ _ _ h hE H locs ls hP hS hL hLl (vok_cons (v := .inl _) trivial hSv2) hLv)
      | succ d =>
        cases d with
        | zero =>
          cases S with
          | nil => exact no_ev h
          | cons u S =>
            cases u with
            | inr q => exact no_ev h
            | inl y =>
              cases S with
              | nil => exact no_ev h
              | cons u S =>
                cases u with
                | inr q => exact no_ev h
                | inl x =>
                  replace h : (bif Nat.ble S.length 8 then f L (.inl (iMin x y) :: S) σ else none) = some ev := h
                  have hSv2 : ∀ v ∈ S, vok v := fun v hv => hSv v (List.mem_cons_of_mem _ (List.mem_cons_of_mem _ hv))
                  cases hk : (Nat.ble S.length 8) with
                  | false => rw [hk] at h; exact no_ev h
                  | true =>
                    rw [hk] at h
                    simp only [cond_true] at h
                    have hS8 := Nat.le_of_ble_eq_true hk
                    simp only [Bool.and_eq_true, decide_eq_true_eq, Nat.ble_eq, Nat.beq_eq] at hc
                    obtain ⟨⟨hw, hfr⟩, hlo⟩ := hc
                    exact va_mmin hx hb (by rw [hml, hL.len, hLl]) hown (hts _ (ws_tw (in_r hw))) (hts _ (ws_tw (in_r (i := 1174) (by decide +kernel)))) (hts _ (ws_tw (in_r (i := 1175) (by decide +kernel)))) (hts _ (ws_tw (in_r (i := 1173) (by decide +kernel)))) (by rw [hRf]; exact hfr) (by rw [cat_sum, hRl]; omega) (Nat.zero_le _) (Nat.zero_le _) hdg (hn rfl _ _ _ _ h hE H locs ls hP hS hL hLl (vok_cons (v := .inl _) trivial hSv2) hLv)
        | succ d => cases hc
  | ireturn =>
    cases S with
    | nil => exact no_ev h
    | cons u S =>
      cases u with
      | inr q => exact no_ev h
      | inl x =>
        cases S with
        | cons q S => exact no_ev h
        | nil =>
          replace h : (bif Nat.beq c9 0 then evR (some (.inl x)) σ else evZ x σ) = some ev := h
          simp only [Nat.beq_eq, decide_eq_true_eq, Bool.and_eq_true] at hc
          obtain ⟨rfl, hrt⟩ := hc
          rw [hn1] at hdg
          cases h0 : Nat.beq c9 0 with
          | true =>
            rw [h0] at h hrt
            cases h
            exact hret (some (.inl x)) σ pc L (Or.inl ⟨x, rfl, hdg, hrt⟩) hE H locs ls hP hS hL hLl hSv hLv
          | false =>
            rw [h0] at h hrt
            cases h
            exact hret (some (.inl x)) σ pc L (Or.inr (Or.inl ⟨x, rfl, hdg, hrt, hE.1⟩)) hE.2 H locs ls hP hS hL hLl hSv hLv
  | areturn =>
    cases S with
    | nil => exact no_ev h
    | cons u S =>
      cases u with
      | inl q => exact no_ev h
      | inr q =>
        obtain ⟨k, i⟩ := q
        cases S with
        | cons q S => exact no_ev h
        | nil =>
          replace h : evR (some (.inr (k, i))) σ = some ev := h
          cases h
          simp only [Nat.beq_eq, Bool.and_eq_true, decide_eq_true_eq] at hc
          obtain ⟨rfl, hrt⟩ := hc
          rw [hn1] at hdg
          split at hrt
          · rename_i nm hnm
            exact hret (some (.inr (k, i))) σ pc L (Or.inr (Or.inr (Or.inl ⟨k, i, nm, rfl, hdg, hnm⟩))) hE H locs ls hP hS hL hLl hSv hLv
          · cases hrt
  | return_ =>
    cases S with
    | cons q S => exact no_ev h
    | nil =>
      replace h : evR none σ = some ev := h
      cases h
      simp only [Nat.beq_eq, decide_eq_true_eq, Bool.and_eq_true] at hc
      obtain ⟨rfl, hrt⟩ := hc
      rw [hn1] at hdg
      exact hret none σ pc L (Or.inr (Or.inr (Or.inr ⟨rfl, hdg, hrt⟩))) hE H locs ls hP hS hL hLl hSv hLv
  | new i =>
    cases S with
    | cons q S => exact no_ev h
    | nil =>
      replace h : evT a σ = some ev := h
      cases h
      exact hthr (pc, .new i, nx, a, b, c9, d, w, v, ts) L σ hmem rfl hE H locs ls hP hS hL hLl hSv hLv
  | _ => exact no_ev h
end SND2
