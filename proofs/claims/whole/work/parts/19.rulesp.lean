/-! ===== the rules with a postcondition in place of one result ===== -/
def AtP (j pc : Nat) (L : iL) (S : iS) (σ : iM) (Q : iRes → Prop) : Prop := ∃ r, Q r ∧ At j pc L S σ r
abbrev EvP (j : Nat) (as : List iV) (σ : iM) (Q : iRes → Prop) : Prop := AtP j 0 (iEn j as) [] σ Q
section
variable {j pc t t1 t2 : Nat} {L L' : iL} {S S' : iS} {σ σ' σ1 : iM} {Q : iRes → Prop} {c : Prop}
theorem AtP.of {r : iRes} (h : At j pc L S σ r) (hq : Q r) : AtP j pc L S σ Q := ⟨r, hq, h⟩
theorem AtP.mono {Q' : iRes → Prop} (h : AtP j pc L S σ Q) (hq : ∀ r, Q r → Q' r) : AtP j pc L S σ Q' := by
  obtain ⟨r, h1, h2⟩ := h
  exact ⟨r, hq r h1, h2⟩
theorem AtP.J (h : blk (sfx (iTb j) pc) L S σ = evJ t L' S' σ') (k : AtP j t L' S' σ' Q) : AtP j pc L S σ Q := by
  obtain ⟨r, h1, h2⟩ := k
  exact ⟨r, h1, At.J h h2⟩
theorem AtP.F (t : Nat) (L' : iL) (S' : iS) (σ' : iM) (h : blk (sfx (iTb j) pc) L S σ = blk (sfx (iTb j) t) L' S' σ') (k : AtP j t L' S' σ' Q) : AtP j pc L S σ Q := by
  obtain ⟨r, h1, h2⟩ := k
  exact ⟨r, h1, At.F t L' S' σ' h h2⟩
theorem AtP.Bt (h : blk (sfx (iTb j) pc) L S σ = evB c t1 t2 L' S' σ') (hc : c) (k1 : AtP j t1 L' S' σ' Q) : AtP j pc L S σ Q := by
  obtain ⟨r, h1, h2⟩ := k1
  exact ⟨r, h1, At.Bt h hc h2⟩
theorem AtP.Bf (h : blk (sfx (iTb j) pc) L S σ = evB c t1 t2 L' S' σ') (hc : ¬ c) (k2 : AtP j t2 L' S' σ' Q) : AtP j pc L S σ Q := by
  obtain ⟨r, h1, h2⟩ := k2
  exact ⟨r, h1, At.Bf h hc h2⟩
theorem AtP.B (h : blk (sfx (iTb j) pc) L S σ = evB c t1 t2 L' S' σ') (k1 : c → AtP j t1 L' S' σ' Q) (k2 : ¬ c → AtP j t2 L' S' σ' Q) : AtP j pc L S σ Q := by
  by_cases hc : c
  · exact AtP.Bt h hc (k1 hc)
  · exact AtP.Bf h hc (k2 hc)
theorem AtP.N (h : blk (sfx (iTb j) pc) L S σ = evN c t L' S' σ') (hc : c) (k : AtP j t L' S' σ' Q) : AtP j pc L S σ Q := by
  obtain ⟨r, h1, h2⟩ := k
  exact ⟨r, h1, At.N h hc h2⟩
theorem AtP.Ci {m : Nat} {as : List iV} {v : Int32} (h : blk (sfx (iTb j) pc) L S σ = evC m as t L' S' σ') (hm : Ev m as σ' (.inl (some (.inl v)), σ1)) (k : AtP j t L' (.inl v :: S') σ1 Q) : AtP j pc L S σ Q := by
  obtain ⟨r, h1, h2⟩ := k
  exact ⟨r, h1, At.Ci h hm h2⟩
theorem AtP.Cv {m : Nat} {as : List iV} (h : blk (sfx (iTb j) pc) L S σ = evC m as t L' S' σ') (hm : Ev m as σ' (.inl none, σ1)) (k : AtP j t L' S' σ1 Q) : AtP j pc L S σ Q := by
  obtain ⟨r, h1, h2⟩ := k
  exact ⟨r, h1, At.Cv h hm h2⟩
theorem AtP.Cr {m : Nat} {as : List iV} {v w : Nat} (h : blk (sfx (iTb j) pc) L S σ = evC m as t L' S' σ') (hm : Ev m as σ' (.inl (some (.inr (v, w))), σ1)) (hv : w < iCnt v) (k : AtP j t L' (.inr (v, w) :: S') σ1 Q) : AtP j pc L S σ Q := by
  obtain ⟨r, h1, h2⟩ := k
  exact ⟨r, h1, At.Cr h hm hv h2⟩
/-- a call of which a postcondition is known -/
theorem AtP.CvP {m : Nat} {as : List iV} {P : iM → Prop} (h : blk (sfx (iTb j) pc) L S σ = evC m as t L' S' σ') (hm : EvP m as σ' (fun r => ∃ σ1, r = (.inl none, σ1) ∧ P σ1)) (k : ∀ σ1, P σ1 → AtP j t L' S' σ1 Q) : AtP j pc L S σ Q := by
  obtain ⟨r, ⟨σ1, rfl, hP⟩, h2⟩ := hm
  exact AtP.Cv h h2 (k σ1 hP)
theorem AtP.CiP {m : Nat} {as : List iV} {P : Int32 → iM → Prop} (h : blk (sfx (iTb j) pc) L S σ = evC m as t L' S' σ') (hm : EvP m as σ' (fun r => ∃ v σ1, r = (.inl (some (.inl v)), σ1) ∧ P v σ1)) (k : ∀ v σ1, P v σ1 → AtP j t L' (.inl v :: S') σ1 Q) : AtP j pc L S σ Q := by
  obtain ⟨r, ⟨v, σ1, rfl, hP⟩, h2⟩ := hm
  exact AtP.Ci h h2 (k v σ1 hP)
theorem AtP.R {v : Option iV} (h : blk (sfx (iTb j) pc) L S σ = evR v σ') (hq : Q (.inl v, σ')) : AtP j pc L S σ Q := ⟨_, hq, At.R h⟩
theorem AtP.Z {v : Int32} (h : blk (sfx (iTb j) pc) L S σ = evZ v σ') (hv : v = 0 ∨ v = 1) (hq : Q (.inl (some (.inl v)), σ')) : AtP j pc L S σ Q := ⟨_, hq, At.Z h hv⟩
theorem AtP.Sw {x : Int32} {ts : List (Int32 × Nat)} (h : blk (sfx (iTb j) pc) L S σ = evS x ts t L' S' σ') (k : AtP j (swT x ts t) L' S' σ' Q) : AtP j pc L S σ Q := by
  obtain ⟨r, h1, h2⟩ := k
  exact ⟨r, h1, At.Sw h h2⟩
theorem AtP.X {m x : Nat} {as : List iV} (h : blk (sfx (iTb j) pc) L S σ = evC m as t L' S' σ') (hm : Ev m as σ' (.inr x, σ1)) (hq : Q (.inr x, σ1)) : AtP j pc L S σ Q := ⟨_, hq, At.X h hm⟩
theorem AtP.T {k : Nat} (h : blk (sfx (iTb j) pc) L S σ = evT k σ') (hq : Q (.inr k, σ')) : AtP j pc L S σ Q := ⟨_, hq, At.T h⟩
end
