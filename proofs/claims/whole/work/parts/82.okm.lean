/-! ===== what was shown of a call, as contracts of the machine ===== -/
theorem OKi.met {l : Launch} {dC : Nat → ClassId} {dI ad : Nat → Nat → Nat} {cy : Nat → ClassId} {adV : Nat → Nat} {jc jm : Nat} {as : List iV} {c1 : Int32} {σ : iM} (h : OKi jc jm as c1 σ) (hI : wI ad) (hl : l.stackTraces = false) (hjc : jc < nMt) (hjm : jm < nMt) (hac : as.length + 1 = iNa jc) (ham : as.length + 1 = iNa jm) (hv : ∀ x ∈ as, vok x) :
    (∃ v σ1 σ2, iMet l dC dI ad cy (EXs ad adV) jc (X :: as) σ (some (.inl v)) σ1 ∧ iMet l dC dI ad cy (EXs ad adV) jm (M :: as) σ1 (some (.inl v)) σ2 ∧ σ2 7 0 5 = 0 ∧ INV σ2) ∨
    (∃ v x σ1 σ2, iMetX l dC dI ad cy (EXs ad adV) jc (X :: as) σ x σ1 ∧ iMet l dC dI ad cy (EXs ad adV) jm (M :: as) σ1 (some (.inl v)) σ2 ∧ INV σ2 ∧ (x = 0 ∧ σ2 7 0 5 = 1 ∧ (c1 = 0 ∨ c1 = 2) ∨ x = 1 ∧ σ2 7 0 5 = c1 ∧ (c1 = 1 ∨ c1 = 2))) := by
  have hX : ∀ x ∈ X :: as, vok x := fun x hx => (List.mem_cons.mp hx).elim (fun e9 => by rw [e9]; show 0 < iCnt 6; decide) (hv x)
  have hM : ∀ x ∈ M :: as, vok x := fun x hx => (List.mem_cons.mp hx).elim (fun e9 => by rw [e9]; show 0 < iCnt 7; decide) (hv x)
  rcases h with ⟨v, σ1, σ2, h1, h2, h3, h4⟩ | ⟨v, σ1, σ2, ⟨h1, h5, hk⟩ | ⟨h1, h5, hk⟩, h2, h4⟩
  · exact Or.inl ⟨v, σ1, σ2, snd_ev hjc EXs_ok hI hX hac h1, snd_ev hjm EXs_ok hI hM ham h2, h3, h4⟩
  · exact Or.inr ⟨v, 0, σ1, σ2, snd_evX (EXs_th hl) hjc EXs_ok hI hX hac h1, snd_ev hjm EXs_ok hI hM ham h2, h4, Or.inl ⟨rfl, h5, hk⟩⟩
  · exact Or.inr ⟨v, 1, σ1, σ2, snd_evX (EXs_th hl) hjc EXs_ok hI hX hac h1, snd_ev hjm EXs_ok hI hM ham h2, h4, Or.inr ⟨rfl, h5, hk⟩⟩
