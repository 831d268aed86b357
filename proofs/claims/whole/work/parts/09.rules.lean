/-! ===== the rules: how a run of the interpreter is shown ===== -/
def At (j pc : Nat) (L : iL) (S : iS) (σ : iM) (r : iRes) : Prop := ∃ n, run iTb iEn n j pc L S σ = some r
/-- a whole method -/
abbrev Ev (j : Nat) (as : List iV) (σ : iM) (r : iRes) : Prop := At j 0 (iEn j as) [] σ r
section
variable {j pc t t1 t2 : Nat} {L L' : iL} {S S' : iS} {σ σ' σ1 : iM} {r : iRes} {c : Prop}
theorem At.J (h : blk (sfx (iTb j) pc) L S σ = evJ t L' S' σ') (k : At j t L' S' σ' r) : At j pc L S σ r := by
  obtain ⟨n, hn⟩ := k
  exact ⟨n + 1, by rw [run_succ]; unfold rst; rw [h]; exact hn⟩
/-- straight on: both places come to the same -/
theorem At.F (t : Nat) (L' : iL) (S' : iS) (σ' : iM) (h : blk (sfx (iTb j) pc) L S σ = blk (sfx (iTb j) t) L' S' σ') (k : At j t L' S' σ' r) : At j pc L S σ r := by
  obtain ⟨n, hn⟩ := k
  cases n with
  | zero => cases hn
  | succ n => exact ⟨n + 1, by rw [run_succ] at hn ⊢; unfold rst at hn ⊢; rw [h]; exact hn⟩
theorem At.B (h : blk (sfx (iTb j) pc) L S σ = evB c t1 t2 L' S' σ') (k1 : c → At j t1 L' S' σ' r) (k2 : ¬ c → At j t2 L' S' σ' r) : At j pc L S σ r := by
  by_cases hc : c
  · obtain ⟨n, hn⟩ := k1 hc
    exact ⟨n + 1, by rw [run_succ]; unfold rst; rw [h]; simp only [if_pos hc]; exact hn⟩
  · obtain ⟨n, hn⟩ := k2 hc
    exact ⟨n + 1, by rw [run_succ]; unfold rst; rw [h]; simp only [if_neg hc]; exact hn⟩
/-- a branch whose side is known -/
theorem At.Bt (h : blk (sfx (iTb j) pc) L S σ = evB c t1 t2 L' S' σ') (hc : c) (k1 : At j t1 L' S' σ' r) : At j pc L S σ r := At.B h (fun _ => k1) (fun h => absurd hc h)
theorem At.Bf (h : blk (sfx (iTb j) pc) L S σ = evB c t1 t2 L' S' σ') (hc : ¬ c) (k2 : At j t2 L' S' σ' r) : At j pc L S σ r := At.B h (fun h => absurd h hc) (fun _ => k2)
theorem At.N (h : blk (sfx (iTb j) pc) L S σ = evN c t L' S' σ') (hc : c) (k : At j t L' S' σ' r) : At j pc L S σ r := by
  obtain ⟨n, hn⟩ := k
  exact ⟨n + 1, by rw [run_succ]; unfold rst; rw [h]; simp only [if_pos hc]; exact hn⟩
theorem At.C {m : Nat} {as : List iV} {v : Option iV} (h : blk (sfx (iTb j) pc) L S σ = evC m as t L' S' σ') (hv : vokO v) (hm : Ev m as σ' (.inl v, σ1)) (k : At j t L' (v.toList ++ S') σ1 r) : At j pc L S σ r := by
  obtain ⟨n, hn⟩ := hm
  obtain ⟨n2, hn2⟩ := k
  refine ⟨(n + n2) + 1, ?_⟩
  rw [run_succ]
  unfold rst
  rw [h]
  simp only [run_le iTb iEn (show n ≤ n + n2 by omega) hn, if_pos hv]
  exact run_le iTb iEn (by omega) hn2
theorem At.Ci {m : Nat} {as : List iV} {v : Int32} (h : blk (sfx (iTb j) pc) L S σ = evC m as t L' S' σ') (hm : Ev m as σ' (.inl (some (.inl v)), σ1)) (k : At j t L' (.inl v :: S') σ1 r) : At j pc L S σ r := At.C (v := some (.inl v)) h trivial hm k
theorem At.Cr {m : Nat} {as : List iV} {v w : Nat} (h : blk (sfx (iTb j) pc) L S σ = evC m as t L' S' σ') (hm : Ev m as σ' (.inl (some (.inr (v, w))), σ1)) (hv : w < iCnt v) (k : At j t L' (.inr (v, w) :: S') σ1 r) : At j pc L S σ r := At.C (v := some (.inr (v, w))) h hv hm k
theorem At.Cv {m : Nat} {as : List iV} (h : blk (sfx (iTb j) pc) L S σ = evC m as t L' S' σ') (hm : Ev m as σ' (.inl none, σ1)) (k : At j t L' S' σ1 r) : At j pc L S σ r := At.C (v := none) h trivial hm k
theorem At.X {m x : Nat} {as : List iV} (h : blk (sfx (iTb j) pc) L S σ = evC m as t L' S' σ') (hm : Ev m as σ' (.inr x, σ1)) : At j pc L S σ (.inr x, σ1) := by
  obtain ⟨n, hn⟩ := hm
  refine ⟨n + 1, ?_⟩
  rw [run_succ]
  unfold rst
  rw [h]
  simp only [hn]
theorem At.R {v : Option iV} (h : blk (sfx (iTb j) pc) L S σ = evR v σ') : At j pc L S σ (.inl v, σ') := ⟨1, by rw [run_succ]; unfold rst; rw [h]⟩
theorem At.Z {v : Int32} (h : blk (sfx (iTb j) pc) L S σ = evZ v σ') (hv : v = 0 ∨ v = 1) : At j pc L S σ (.inl (some (.inl v)), σ') := ⟨1, by rw [run_succ]; unfold rst; rw [h]; simp only [if_pos hv]⟩
theorem At.Sw {x : Int32} {ts : List (Int32 × Nat)} (h : blk (sfx (iTb j) pc) L S σ = evS x ts t L' S' σ') (k : At j (swT x ts t) L' S' σ' r) : At j pc L S σ r := by
  obtain ⟨n, hn⟩ := k
  exact ⟨n + 1, by rw [run_succ]; unfold rst; rw [h]; exact hn⟩
theorem At.T {k : Nat} (h : blk (sfx (iTb j) pc) L S σ = evT k σ') : At j pc L S σ (.inr k, σ') := ⟨1, by rw [run_succ]; unfold rst; rw [h]⟩
end
