/-! ===== load and appendByte: both sides ===== -/
section PLD
variable {σ : iM}
theorem p_load (h : INV σ) : OKi mX6_load mX7_load [] 3 σ := by
  obtain ⟨d1, d2, d3, d4, d5⟩ := id h.2.2.2.1
  have en := d1.toN (by omega) (by omega)
  obtain ⟨n, en2⟩ : ∃ n, n = nn (σ 2 0 1) := ⟨_, rfl⟩
  rw [← en2] at en d3
  have hn : n ≤ 700 := en.2.1
  obtain ⟨_, ⟨v, σ1, rfl, c1, c2, c3⟩, hc⟩ := c_load (σ := σ) (T := σ 8 56) (R := σ 8 59) (so := σ 8 62) en.1 hn rfl
  have e59 : σ1 8 59 = σ 8 59 := funext fun j => c2 _ _ _ (by unfold ow2 own; omega) (by unfold ow2 own; omega) (by omega) (by omega)
  have e62 : σ1 8 62 = σ 8 62 := funext fun j => c2 _ _ _ (by unfold ow2 own; omega) (by unfold ow2 own; omega) (by omega) (by omega)
  have e58 : σ1 8 58 = σ 8 58 := funext fun j => c2 _ _ _ (by unfold ow2 own; omega) (by unfold ow2 own; omega) (by omega) (by omega)
  have k7 : ∀ j, σ1 7 0 j = σ 7 0 j := fun j => c2 _ _ _ (by unfold ow2 own; omega) (by unfold ow2 own; omega) (by omega) (by omega)
  -- the reference stands where its last reading ended; at is set anew
  have hRM : ∀ (τ : iM), RM (iU σ1 7 0 8 0) (σ 8 56) n 0 := fun _ => ⟨by rw [iU_ne (by omega), k7, d2]; exact en.1, hn, iU_same, Nat.zero_le _, fun j hj => ⟨(d3 j hj).1, by rw [iU_ne (by omega), c2 9 0 j (by unfold ow2 own; omega) (by unfold ow2 own; omega) (by omega) (by omega)]; exact (d3 j hj).2⟩⟩
  obtain ⟨_, ⟨v2, σ2, rfl, m1, m2, m3, m4⟩, hm⟩ := e_load (hRM σ1)
  have hm' : Ev mX7_load [M] σ1 (evi v2 σ2) := by
    obtain ⟨k, hk⟩ := hm
    refine ⟨k, ?_⟩
    cases k with
    | zero => cases hk
    | succ k =>
      rw [run_succ] at hk ⊢
      have eb : blk (sfx (iTb mX7_load) 0) (iEn mX7_load [M]) [] σ1 = blk (sfx (iTb mX7_load) 0) (iEn mX7_load [M]) [] (iU σ1 7 0 8 0) := by
        have x1 : blk (sfx (iTb mX7_load) 0) [some M, none] [] (iU σ1 7 0 8 0) = evC mX7_reads [M] 24 [some M, none] [] (iU (iU (iU (iU (iU σ1 7 0 8 0) 7 0 5 0) 7 0 8 0) 7 0 10 0) 7 0 12 0) := rfl
        have x2 : blk (sfx (iTb mX7_load) 0) [some M, none] [] σ1 = evC mX7_reads [M] 24 [some M, none] [] (iU (iU (iU (iU σ1 7 0 5 0) 7 0 8 0) 7 0 10 0) 7 0 12 0) := rfl
        have x3 : iU (iU (iU σ1 7 0 8 0) 7 0 5 0) 7 0 8 0 = iU (iU σ1 7 0 5 0) 7 0 8 0 := by
          funext k' i' j'
          unfold iU
          by_cases c8 : k' = 7 ∧ i' = 0 ∧ j' = 8
          · rw [if_pos c8, if_pos c8]
          · rw [if_neg c8, if_neg c8, if_neg c8]
        show blk (sfx (iTb mX7_load) 0) [some M, none] [] σ1 = blk (sfx (iTb mX7_load) 0) [some M, none] [] (iU σ1 7 0 8 0)
        rw [x1, x2, x3]
      unfold rst at hk ⊢
      rw [eb]
      exact hk
  have f59 : iU σ1 7 0 8 0 8 59 = σ 8 59 := by rw [← e59]; funext j; exact iU_ne (by omega)
  have f62 : iU σ1 7 0 8 0 8 62 = σ 8 62 := by rw [← e62]; funext j; exact iU_ne (by omega)
  have m3' : ∀ k i j, ¬ (k = 7 ∧ i = 0) → ¬ (k = 8 ∧ (i = 58 ∨ i = 59 ∨ i = 62)) → σ2 k i j = σ1 k i j := fun k i j x y => (m3 k i j x y).trans (iU_ne (by omega))
  rw [f59, f62] at m4
  have rest : ∀ k i j, ¬ ow2 0 k i → ¬ ow2 1 k i → ¬ (k = 2 ∧ i = 0 ∧ 1 ≤ j ∧ j ≤ 6) → ¬ (k = 8 ∧ (i = 57 ∨ i = 58 ∨ i = 59 ∨ i = 62)) → ¬ (k = 7 ∧ i = 0) → σ2 k i j = σ k i j := fun k i j x1 x2 x3 x4 x5 => (m3' k i j x5 (by omega)).trans (c2 k i j x1 x2 x3 (by omega))
  have sv : ∀ c, c < 2 → Sv σ2 c := fun c hc => sv_same hc (h.sv hc) (rest _ _ _ (by unfold ow2 own; omega) (by unfold ow2 own; omega) (by omega) (by omega) (by omega)) (rest _ _ _ (by unfold ow2 own; omega) (by unfold ow2 own; omega) (by omega) (by omega) (by omega)) (fun j hj => rest _ _ _ (by unfold ow2 own; omega) (by unfold ow2 own; omega) (by omega) (by omega) (by omega)) (fun k i j x => rest _ _ _ (by unfold ow2 own at *; omega) (by unfold ow2 own at *; omega) (by unfold ow2 own at *; omega) (by unfold ow2 own at *; omega) (by unfold ow2 own at *; omega))
  have rd : σ2 7 0 13 = σ2 2 0 2 → σ2 7 0 14 = σ2 2 0 4 → Rd σ2 := fun x y => by
    have z1 : σ2 2 0 1 = 0 := (m3' _ _ _ (by omega) (by omega)).trans c1
    refine ⟨by rw [z1]; decide, by rw [z1, m2], fun i hi => ?_, x, y⟩
    rw [z1] at hi
    exact absurd hi (Nat.not_lt_zero i)
  cases hl : LD (σ 8 56) n (σ 8 59) (σ 8 62) with
  | inl e =>
    obtain ⟨⟨k, q⟩, s⟩ := e
    rw [hl] at c3 m4
    dsimp only at c3 m4
    obtain ⟨w1, w2, w3, w4, w5⟩ := c3
    obtain ⟨u1, u2, u3, u4⟩ := m4
    have ev : v2 = v := u1.trans w1.symm
    rw [ev] at hm'
    refine Or.inl ⟨v, σ1, σ2, hc, hm', m1, ?_⟩
    have e58' : σ2 8 58 = σ 8 58 := by rw [u4, ← e58]; funext j; exact iU_ne (by omega)
    unfold INV
    rw [e58']
    refine ⟨h.1, h.2.1, ?_, rd ?_ ?_, sv 0 (by omega), sv 1 (by omega)⟩
    · have o : ∀ k i j, ow2 0 k i → σ2 k i j = σ k i j := fun k i j x => (m3' _ _ _ (by unfold ow2 own at x; omega) (by unfold ow2 own at x; omega)).trans (w5 k i j x)
      exact h.2.2.1.cell h.1 (fun j => o _ _ _ (by unfold ow2 own; omega)) (fun q j hq => o _ _ _ (by unfold ow2 own; omega)) (fun q j hq => o _ _ _ (by unfold ow2 own; omega)) (fun q j hq => o _ _ _ (by unfold ow2 own; omega)) (fun q j hq => o _ _ _ (by unfold ow2 own; omega))
    · rw [u2, m3' _ _ _ (by omega) (by omega), w2]
    · rw [u3, m3' _ _ _ (by omega) (by omega), w4]
  | inr r =>
    rw [hl] at c3 m4
    dsimp only at c3 m4
    obtain ⟨w1, w2, w3, w4, w5, w6, w7⟩ := c3
    obtain ⟨u1, u2, u3, u4⟩ := m4
    have ev : v2 = v := u1.trans w1.symm
    rw [ev] at hm'
    refine Or.inl ⟨v, σ1, σ2, hc, hm', m1, w5.agr u4, by rw [u4 0 (by omega), w6]; decide, ?_, rd ?_ ?_, sv 0 (by omega), sv 1 (by omega)⟩
    · refine Sh.agr ?_ w5 u4
      exact w4.cell w5 (fun j => m3' _ _ _ (by omega) (by omega)) (fun q j hq => m3' _ _ _ (by omega) (by omega)) (fun q j hq => m3' _ _ _ (by omega) (by omega)) (fun q j hq => m3' _ _ _ (by omega) (by omega)) (fun q j hq => m3' _ _ _ (by omega) (by omega))
    · rw [u2, m3' _ _ _ (by omega) (by omega), w2]
    · rw [u3, m3' _ _ _ (by omega) (by omega), w3]
theorem nar_byte (x : Int32) : vp_nar .byte x = x.toInt8.toInt32 := rfl
theorem p_appendByte (h : INV σ) (v : Int32) : OKi mX6_appendByte mX7_appendByte [.inl v] 1 σ := by
  obtain ⟨d1, d2, d3, d4, d5⟩ := id h.2.2.2.1
  have en := d1.toN (by omega) (by omega)
  obtain ⟨n, en2⟩ : ∃ n, n = nn (σ 2 0 1) := ⟨_, rfl⟩
  rw [← en2] at en d3
  have hn : n ≤ 700 := en.2.1
  have e1 := en.1
  by_cases hv : 0 ≤ v ∧ v ≤ 255
  · have hb := hv
    rw [fa_le, fa_le] at hb
    by_cases hf : n = 700
    · refine OKi.ask (-2) h ?_ ?_
      · show At mX6_appendByte 0 [some X, some (.inl v)] [] σ _
        refine At.Cv rfl (c_range hv) ?_
        have ha : Ev mX2_append [Rc, .inl v] σ (evi (-2) σ) := by
          show At mX2_append 0 [some Rc, some (.inl v)] [] σ _
          refine At.Bf rfl (by rw [e1, hf]; decide) ?_
          exact At.R rfl
        refine At.Ci rfl (ha) ?_
        exact At.R rfl
      · show At mX7_appendByte 0 [some M, some (.inl v)] [] σ _
        refine At.Ci rfl (e_in1 hv) ?_
        refine At.Ci rfl (e_thr1 _ _) ?_
        refine At.Bt rfl (rfl) ?_
        refine At.Bt rfl (by rw [iU_ne (by omega), d2, e1, hf]; rfl) ?_
        exact At.R rfl
    · have hlt : n < 700 := by omega
      refine Or.inl ⟨nI (n + 1), iU (iU σ 8 56 n v) 2 0 1 (nI (n + 1)), iU (iU (iU (iU (iU σ 8 56 n v) 2 0 1 (nI (n + 1))) 7 0 5 0) 9 0 n v.toInt8.toInt32) 7 0 7 (nI (n + 1)), ?_, ?_, ?_, ?_⟩
      · show At mX6_appendByte 0 [some X, some (.inl v)] [] σ _
        refine At.Cv rfl (c_range hv) ?_
        have ha : Ev mX2_append [Rc, .inl v] σ (evi (nI (n + 1)) (iU (iU σ 8 56 n v) 2 0 1 (nI (n + 1)))) := by
          show At mX2_append 0 [some Rc, some (.inl v)] [] σ _
          refine At.Bt rfl (by rw [e1]; exact (nI_lt_iff (by omega) (b := 700) (by omega)).mpr hlt) ?_
          refine At.N rfl (by rw [e1]; exact v56 n hlt) ?_
          rw [e1, nI_clamp (by omega)]
          have hz := At.R (j := mX2_append) (pc := 25) (L := [some Rc, some (.inl v)]) (S := []) (σ := iU σ 8 56 n v) rfl
          rw [show iU σ 8 56 n v 2 0 1 = nI n from (iU_ne (by omega)).trans e1, nI_1, iU_same] at hz
          exact hz
        refine At.Ci rfl (ha) ?_
        exact At.R rfl
      · show At mX7_appendByte 0 [some M, some (.inl v)] [] _ _
        have e7 : ∀ x, iU (iU (iU σ 8 56 n v) 2 0 1 (nI (n + 1))) 7 0 5 x 7 0 7 = nI n := fun x => by rw [iU_ne (by omega), iU_ne (by omega), iU_ne (by omega), d2, e1]
        generalize iU (iU σ 8 56 n v) 2 0 1 (nI (n + 1)) = τ at e7 ⊢
        refine At.Ci rfl (e_in1 hv) ?_
        refine At.Ci rfl (e_thr1 _ _) ?_
        refine At.Bt rfl (rfl) ?_
        refine At.Bf rfl (by rw [e7, show (700 : Int32) = nI 700 from rfl, nI_inj (by omega) (by omega)]; exact hf) ?_
        refine At.N rfl (by rw [e7]; exact v9 n hlt) ?_
        rw [e7, nI_clamp (by omega), nar_byte, Int8.toInt8_toInt32]
        have hz := At.R (j := mX7_appendByte) (pc := 42) (L := [some M, some (.inl v)]) (S := []) (σ := iU (iU τ 7 0 5 0) 9 0 n v.toInt8.toInt32) rfl
        rw [show iU (iU τ 7 0 5 0) 9 0 n v.toInt8.toInt32 7 0 7 = nI n from (iU_ne (by omega)).trans (e7 0), nI_1, iU_same] at hz
        exact hz
      · rw [iU_ne (by omega), iU_ne (by omega), iU_same]
      · have o : ∀ k i j, ¬ (k = 8 ∧ i = 56) → ¬ (k = 2 ∧ i = 0 ∧ j = 1) → ¬ (k = 7 ∧ i = 0 ∧ (j = 5 ∨ j = 7)) → ¬ (k = 9) → iU (iU (iU (iU (iU σ 8 56 n v) 2 0 1 (nI (n + 1))) 7 0 5 0) 9 0 n v.toInt8.toInt32) 7 0 7 (nI (n + 1)) k i j = σ k i j := fun k i j x1 x2 x3 x4 => by
          rw [iU_ne (by omega), iU_ne (by omega), iU_ne (by omega), iU_ne (by omega), iU_ne (by omega)]
        have z1 : iU (iU (iU (iU (iU σ 8 56 n v) 2 0 1 (nI (n + 1))) 7 0 5 0) 9 0 n v.toInt8.toInt32) 7 0 7 (nI (n + 1)) 2 0 1 = nI (n + 1) := by rw [iU_ne (by omega), iU_ne (by omega), iU_ne (by omega), iU_same]
        have z7 : iU (iU (iU (iU (iU σ 8 56 n v) 2 0 1 (nI (n + 1))) 7 0 5 0) 9 0 n v.toInt8.toInt32) 7 0 7 (nI (n + 1)) 7 0 7 = nI (n + 1) := iU_same
        have zt : ∀ i, i < n + 1 → inR (iU (iU (iU (iU (iU σ 8 56 n v) 2 0 1 (nI (n + 1))) 7 0 5 0) 9 0 n v.toInt8.toInt32) 7 0 7 (nI (n + 1)) 8 56 i) 0 255 ∧ iU (iU (iU (iU (iU σ 8 56 n v) 2 0 1 (nI (n + 1))) 7 0 5 0) 9 0 n v.toInt8.toInt32) 7 0 7 (nI (n + 1)) 9 0 i = (iU (iU (iU (iU (iU σ 8 56 n v) 2 0 1 (nI (n + 1))) 7 0 5 0) 9 0 n v.toInt8.toInt32) 7 0 7 (nI (n + 1)) 8 56 i).toInt8.toInt32 := fun i hi => by
          by_cases ei : i = n
          · rw [ei, iU_ne (by omega), iU_ne (by omega), iU_ne (by omega), iU_ne (by omega), iU_same, iU_ne (by omega), iU_same]
            exact ⟨hb, rfl⟩
          · rw [iU_ne (by omega), iU_ne (by omega), iU_ne (by omega), iU_ne (by omega), iU_ne (by omega), iU_ne (by omega), iU_ne (by omega), iU_ne (by omega), iU_ne (by omega), iU_ne (by omega)]
            exact d3 i (by omega)
        generalize iU (iU (iU (iU (iU σ 8 56 n v) 2 0 1 (nI (n + 1))) 7 0 5 0) 9 0 n v.toInt8.toInt32) 7 0 7 (nI (n + 1)) = ω at o z1 z7 zt ⊢
        have e58 : ω 8 58 = σ 8 58 := funext fun j => o _ _ _ (by omega) (by omega) (by omega) (by omega)
        have sv : ∀ c, c < 2 → Sv ω c := fun c hc => sv_same hc (h.sv hc) (o _ _ _ (by omega) (by omega) (by omega) (by omega)) (o _ _ _ (by omega) (by omega) (by omega) (by omega)) (fun j hj => o _ _ _ (by omega) (by omega) (by omega) (by omega)) (fun k i j x => o _ _ _ (by unfold ow2 own at x; omega) (by unfold ow2 own at x; omega) (by unfold ow2 own at x; omega) (by unfold ow2 own at x; omega))
        unfold INV
        rw [e58]
        refine ⟨h.1, h.2.1, ?_, ?_, sv 0 (by omega), sv 1 (by omega)⟩
        · exact h.2.2.1.cell h.1 (fun j => o _ _ _ (by omega) (by omega) (by omega) (by omega)) (fun q j hq => o _ _ _ (by omega) (by omega) (by omega) (by omega)) (fun q j hq => o _ _ _ (by omega) (by omega) (by omega) (by omega)) (fun q j hq => o _ _ _ (by omega) (by omega) (by omega) (by omega)) (fun q j hq => o _ _ _ (by omega) (by omega) (by omega) (by omega))
        · unfold Rd
          rw [z1, z7, nn_nI (by omega), o 7 0 13 (by omega) (by omega) (by omega) (by omega), o 7 0 14 (by omega) (by omega) (by omega) (by omega), o 2 0 2 (by omega) (by omega) (by omega) (by omega), o 2 0 4 (by omega) (by omega) (by omega) (by omega)]
          exact ⟨inR_n (by omega) (by omega) (by omega), rfl, zt, d4, d5⟩
  · refine OKi.t1 h (v := 0) ?_ (σ2 := iU σ 7 0 5 1) ?_ iU_same scr.T
    · show At mX6_appendByte 0 [some X, some (.inl v)] [] σ _
      exact At.X rfl (c_range_no hv)
    · show At mX7_appendByte 0 [some M, some (.inl v)] [] σ _
      refine At.Ci rfl (e_in0 hv) ?_
      refine At.Ci rfl (e_thr0 _ _) ?_
      refine At.Bf rfl (by decide) ?_
      exact At.R rfl
end PLD
