/-! ===== soundness, one instruction ===== -/
theorem no_ev {P : Prop} {ev : iEv} (h : (none : Option iEv) = some ev) : P := by cases h
theorem fld_at {ad : Nat → Nat → Nat} {σ : iM} {a i b N : Nat} (hb : b < N) : ((List.range N).map (wV ad σ a i))[b]? = some (wV ad σ a i b) := by
  rw [List.getElem?_map, List.getElem?_range hb]; rfl
theorem wT_at {cy : Nat → ClassId} {k : Nat} (h1 : 12 ≤ k) (h2 : k ≤ 15) : ∃ (t0 : Nat) (C : String), (wT cy)[t0]? = some (cy k, .object C) := by
  have : k = 12 ∨ k = 13 ∨ k = 14 ∨ k = 15 := by omega
  rcases this with rfl | rfl | rfl | rfl
  · exact ⟨3, _, rfl⟩
  · exact ⟨4, _, rfl⟩
  · exact ⟨5, _, rfl⟩
  · exact ⟨6, _, rfl⟩
theorem wT_any {cy : Nat → ClassId} {k : Nat} (h1 : 8 ≤ k) (h2 : k ≤ 15) (h3 : k ≠ 11) : ∃ (t0 : Nat) (ty : FieldType), (wT cy)[t0]? = some (cy k, ty) := by
  have : k = 8 ∨ k = 9 ∨ k = 10 ∨ k = 12 ∨ k = 13 ∨ k = 14 ∨ k = 15 := by omega
  rcases this with rfl | rfl | rfl | rfl | rfl | rfl | rfl
  · exact ⟨0, _, rfl⟩
  · exact ⟨1, _, rfl⟩
  · exact ⟨2, _, rfl⟩
  · exact ⟨3, _, rfl⟩
  · exact ⟨4, _, rfl⟩
  · exact ⟨5, _, rfl⟩
  · exact ⟨6, _, rfl⟩
theorem wE_len {ad : Nat → Nat → Nat} {cy : Nat → ClassId} {σ : iM} {k i : Nat} (h : 8 ≤ k) : ∃ x : vp_A, x.1 = iN k i ∧ wE ad cy σ k i = .inl (cy k, x) := by
  by_cases h2 : k < 12
  · exact ⟨_, rfl, wE_arr h h2⟩
  · exact ⟨_, rfl, wE_refs (by omega)⟩
theorem tabT (pc : Nat) (x : Int32) (d : Nat) : ∀ (os : List Int) (ts : List (Int32 × Nat)) (lo : Int), swOk pc lo os ts = true → lo ≤ x.toInt → x.toInt < lo + os.length → ∃ off, os[(x.toInt - lo).toNat]? = some off ∧ (pc : Int) + off = (swT x ts d : Nat)
  | [], _, lo, _, h1, h2 => by simp at h2; omega
  | _ :: _, [], _, h, _, _ => by cases h
  | o :: os, (v, t) :: ts, lo, h, h1, h2 => by
    simp only [swOk, Bool.and_eq_true, decide_eq_true_eq] at h
    obtain ⟨⟨e1, e2⟩, e3⟩ := h
    by_cases hx : x = v
    · subst hx
      refine ⟨o, ?_, ?_⟩
      · rw [e1, show (lo - lo).toNat = 0 by omega]; rfl
      · simp only [swT, if_true]; exact e2
    · have hne : x.toInt ≠ lo := fun q => hx (Int32.toInt_inj.mp (q.trans e1.symm))
      obtain ⟨off, g1, g2⟩ := tabT pc x d os ts (lo + 1) e3 (by omega) (by simp at h2; omega)
      refine ⟨off, ?_, ?_⟩
      · rw [show (x.toInt - lo).toNat = (x.toInt - (lo + 1)).toNat + 1 by omega, List.getElem?_cons_succ]; exact g1
      · simp only [swT, if_neg hx]; exact g2
theorem tabF (pc : Nat) (x : Int32) (d : Nat) : ∀ (os : List Int) (ts : List (Int32 × Nat)) (lo : Int), swOk pc lo os ts = true → (x.toInt < lo ∨ lo + os.length ≤ x.toInt) → swT x ts d = d
  | [], [], _, _, _ => rfl
  | [], _ :: _, _, h, _ => by cases h
  | _ :: _, [], _, h, _ => by cases h
  | o :: os, (v, t) :: ts, lo, h, h2 => by
    simp only [swOk, Bool.and_eq_true, decide_eq_true_eq] at h
    obtain ⟨⟨e1, e2⟩, e3⟩ := h
    have hx : ¬ x = v := fun q => by subst q; simp at h2; omega
    simp only [swT, if_neg hx]
    exact tabF pc x d os ts (lo + 1) e3 (by simp at h2; omega)
theorem lkT (pc : Nat) (x : Int32) (d : Nat) (df : Int) (hd : (pc : Int) + df = (d : Int)) : ∀ (os : List (Int × Int)) (ts : List (Int32 × Nat)), lkOk pc os ts = true → (pc : Int) + Op.lookupswitch.offset os df x.toInt = (swT x ts d : Nat)
  | [], [], _ => hd
  | [], _ :: _, h => by cases h
  | _ :: _, [], h => by cases h
  | (k, o) :: os, (v, t) :: ts, h => by
    simp only [lkOk, Bool.and_eq_true, decide_eq_true_eq] at h
    obtain ⟨⟨e1, e2⟩, e3⟩ := h
    have ih := lkT pc x d df hd os ts e3
    by_cases hx : x = v
    · subst hx
      simp only [swT, if_true]
      rw [← e2]
      simp [Op.lookupswitch.offset, e1]
    · have hne : ¬ x.toInt = k := fun q => hx (Int32.toInt_inj.mp (q.trans e1.symm))
      simp only [swT, if_neg hx]
      rw [← ih]
      simp [Op.lookupswitch.offset, hne, Ne.symm hne]
