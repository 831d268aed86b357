/-! ===== quiet ticks: all of them; the class's pass ===== -/
def tkN (r : Row) : Nat → Row
  | 0 => r
  | n + 1 => tick (tkN r n)
theorem tkN_add (r : Row) (a : Nat) : ∀ b, tkN r (a + b) = tkN (tkN r a) b := by
  intro b
  induction b with
  | zero => rfl
  | succ b ih => show tick (tkN r (a + b)) = _; rw [ih]; rfl
section QB
variable {r : Row}
theorem tkN_ok (hr : RI r) : ∀ n : Nat, (r 0).toInt + n ≤ 40000 → RI (tkN r n) ∧ samB r (tkN r n) ∧ (tkN r n 0).toInt = (r 0).toInt + n := by
  intro n
  induction n with
  | zero => intro _; exact ⟨hr, samB.rfl, by show (r 0).toInt = _; omega⟩
  | succ n ih =>
    intro h
    obtain ⟨a, b, c⟩ := ih (by omega)
    obtain ⟨a', b', c'⟩ := tick_ok a (by omega)
    have h1 : (1 : Int32).toInt = 1 := rfl
    have := hr.1
    refine ⟨a', b.trans b', ?_⟩
    show (tick (tkN r n) 0).toInt = _
    rw [c', fb_addI (by omega) (by omega), h1, c]
    omega
theorem fU_nn : ∀ (l : List (Nat × Int32)), fU r l = none → ∀ q ∈ l, ¬ rO r q.1 3 = 0 := by
  intro l
  induction l with
  | nil => intro _ q hq; cases hq
  | cons y t ih =>
    obtain ⟨x, z⟩ := y
    intro h q hq
    rw [fU] at h
    by_cases c : rO r x 3 = 0
    · rw [if_pos c] at h; cases h
    · rw [if_neg c] at h
      rcases List.mem_cons.mp hq with e | e
      · rw [e]; exact c
      · exact ih h q e
theorem qui_rel (hr : RI r) {v : Int} (hv : 1 ≤ v) (hQ : Qui r v) : rels r = r := by
  have h5 := hr.2.2.2.2.2.1
  have h0 := hr.1
  unfold rels
  cases hf : fU r (schF r) with
  | none => exact relF_none _ _ (fU_nn _ hf)
  | some xz =>
    obtain ⟨x, z⟩ := xz
    have hm := fU_mem _ hf
    have hb := schF_b hr hm.1
    have he := hr.earlB
    have hlen := schL_len r (OM r)
    have hom := hr.om
    have e1 : (z - r 5).toInt = z.toInt - (r 5).toInt := fb_subI (by omega) (by omega)
    refine fw_asc hr _ (earl r) 41050 (sch_mem1 hr) he.2 (by omega) (by rw [List.length_reverse, bk_len]; omega) (by omega) x z hf (ropeL r) (fun t ht => ?_)
    by_cases c : rO r x 3 = 0 ∧ z - r 5 ≤ r 0
    · rw [relF, if_pos c]
      rcases hQ.2 x z hf with a | a
      · have := c.2
        rw [fa_le, e1] at this
        omega
      · rw [if_pos a]
    · rw [relF, if_neg c]
      have c2 : ¬ z - r 5 ≤ r 0 := fun z => c ⟨hm.2, z⟩
      rw [fa_le, e1] at c2
      exact relF_late hr t _ (fun q hq => by have := ht q hq; omega)
theorem qui_beg (hr : RI r) {v : Int} (hQ : Qui r v) : ∀ n, n ≤ SC r → begN r n = r := by
  intro n
  induction n with
  | zero => intro _; rfl
  | succ n ih =>
    intro hn
    rw [begN, ih (by omega), beg, if_neg]
    rintro ⟨a, b, c⟩
    rcases hQ.1 n (by omega) with q | q | q
    · exact b q.1
    · exact q.2.1 a
    · exact c (cho_0 hr q.2.2)
theorem qui_tk1 (hr : RI r) {v : Int} (hv : 1 ≤ v) (hQ : Qui r v) : tk1 r = r := by
  unfold tk1
  rw [qui_rel hr hv hQ, qui_beg hr hQ _ (Nat.le_refl _)]
theorem finN_id (h : ∀ q, q < SC r → ¬ isFin r q) : ∀ n, n ≤ SC r → finN r n = r := by
  intro n
  induction n with
  | zero => intro _; rfl
  | succ n ih =>
    intro hn
    rw [finN, ih (by omega), fin, if_neg (h n (by omega))]
theorem qui_wkd (hr : RI r) {V : Int} (hQ : Qui r V) {v : Nat} (hv : (v : Int) ≤ V) (h0 : (r 0).toInt + v ≤ 40000) : RI (wkd r (nI v)) ∧ (∀ n, n ≤ SC r → finN (wkd r (nI v)) n = wkd r (nI v)) ∧ lik r (wkd r (nI v)) := by
  have hr0 := hr.1
  have hvi : (nI v).toInt = v := nI_toInt (by omega)
  have hl : lik r (wkd r (nI v)) := wkd_lik hr
  obtain ⟨a, b, c⟩ := wkd_ok (v := nI v) hr (by omega) (fun q hq x y => by
    rcases hQ.1 q hq with z | z | z
    · exact absurd z.1 y
    · rw [hvi]; have := z.2.2; omega
    · exact absurd z.2.1 x) (by omega)
  have hid : ∀ q, q < SC r → ¬ isFin (wkd r (nI v)) q := by
    intro q hq hF
    have hsc := hr.sc
    have e0 : rS (wkd r (nI v)) q 0 = rS r q 0 := hl.2.2 q 0 (by omega) (by omega) (by omega) (by omega)
    obtain ⟨f1, f2⟩ := hF
    rw [e0] at f1 f2
    obtain ⟨w1, w2, w3, w4, w5, w6⟩ := (hr.sta hq).w f1
    obtain ⟨l1, l2, l3⟩ := hr.wkd w2 w4 w5
    have l2 := l2 trivial
    have hz : (0 : Int32).toInt = 0 := rfl
    rw [fa_le, hz] at f2
    by_cases cw : wkdO r (SC r) (nn (rS r q 0))
    · rw [(wkd_7 hr).1 cw] at f2
      obtain ⟨q', g1, g2, g3, g4⟩ := cw
      rcases hQ.1 q' g1 with z | z | z
      · exact g3 z.1
      · have := z.2.2
        rw [g4] at this
        rw [fb_subI (by omega) (by omega), hvi] at f2
        omega
      · exact g2 z.2.1
    · rw [(wkd_7 hr).2 cw] at f2
      omega
  have hfin : ∀ n, n ≤ SC r → finN (wkd r (nI v)) n = wkd r (nI v) := fun n hn => finN_id (fun q hq => hid q (by rw [hl.2.1.sc] at hq; exact hq)) n (by rw [hl.2.1.sc]; exact hn)
  refine ⟨?_, hfin, hl⟩
  obtain ⟨a', b', c'⟩ := finN_ok a (SC r) (by rw [b.sc]; exact Nat.le_refl _)
  rw [hfin _ (Nat.le_refl _)] at a'
  exact a'.weak (fun q h _ => by rw [b.sc] at h; exact h)
theorem qui_base (hr : RI r) {V : Int} (hQ : Qui r V) (hV : 1 ≤ V) (h0 : (r 0).toInt + 1 ≤ 40000) : tick r = seeN (wkd r 1) (OM r) := by
  obtain ⟨a, b, c⟩ := qui_wkd (v := 1) hr hQ (by omega) (by omega)
  have b : finN (wkd r 1) (SC r) = wkd r 1 := b _ (Nat.le_refl _)
  unfold tick tk4
  rw [tk3_wkd hr, qui_tk1 hr hV hQ, b]
/-- behind v quiet ticks -/
theorem qui_next (hr : RI r) {V : Int} (hQ : Qui r V) {v : Nat} (hv : (v : Int) < V) (h0 : (r 0).toInt + V ≤ 40000) : RI (seeN (wkd r (nI v)) (OM r)) ∧ lik r (seeN (wkd r (nI v)) (OM r)) ∧ seeN (wkd r (nI v)) (OM r) 0 = r 0 + nI v ∧ (∀ q, q < SC r → (dnn (seeN (wkd r (nI v)) (OM r)) q ↔ dnn r q)) ∧ Qui (seeN (wkd r (nI v)) (OM r)) (V - v) := by
  have hr0 := hr.1
  have hsc := hr.sc
  have hvi : (nI v).toInt = v := nI_toInt (by omega)
  obtain ⟨x1, x2, x3⟩ := qui_wkd (v := v) hr hQ (by omega) (by omega)
  obtain ⟨s1, s2, s3⟩ := seeN_ok x1 (OM r) (by rw [x3.2.1.om]; exact Nat.le_refl _)
  have hpt := seeN_pt x1 (OM r) (by rw [x3.2.1.om]; exact Nat.le_refl _)
  have hll := seeN_lik x1
  rw [x3.2.1.om] at hll
  have hl : lik r (seeN (wkd r (nI v)) (OM r)) := x3.trans hll
  have e0 : seeN (wkd r (nI v)) (OM r) 0 = r 0 + nI v := s3.trans wkd_00
  have e7 : ∀ i, rO (seeN (wkd r (nI v)) (OM r)) i 7 = rO (wkd r (nI v)) i 7 := fun i => hpt.2.1 i 7 (by omega) (by omega)
  generalize seeN (wkd r (nI v)) (OM r) = A at s1 hl e0 e7 ⊢
  have ei : (A 0).toInt = (r 0).toInt + v := by rw [e0, fb_addI (by omega) (by omega), hvi]
  have hsi : ∀ q, q < SC r → rS A q 0 = rS r q 0 ∧ rS A q 2 = rS r q 2 := fun q hq => ⟨hl.2.2 q 0 (by omega) (by omega) (by omega) (by omega), hl.2.2 q 2 (by omega) (by omega) (by omega) (by omega)⟩
  have hdn : ∀ q, q < SC r → (dnn A q ↔ dnn r q) := by
    intro q hq
    show A 0 < rS A q 2 ↔ r 0 < rS r q 2
    rw [fa_lt, fa_lt, (hsi q hq).2, ei]
    rcases hQ.1 q hq with z | z | z
    · have := z.1
      have : r 0 < rS r q 2 := this
      rw [fa_lt] at this
      omega
    · have := z.1
      have : ¬ r 0 < rS r q 2 := this
      rw [fa_lt] at this
      omega
    · have := z.1
      have : ¬ r 0 < rS r q 2 := this
      rw [fa_lt] at this
      omega
  have hw7 : ∀ q, q < SC r → ¬ rS r q 0 = -1 → ¬ dnn r q → (rO A (nn (rS r q 0)) 7).toInt = (rO r (nn (rS r q 0)) 7).toInt - v := by
    intro q hq a b
    obtain ⟨w1, w2, w3, w4, w5, w6⟩ := (hr.sta hq).w a
    obtain ⟨l1, l2, l3⟩ := hr.wkd w2 w4 w5
    rw [e7, (wkd_7 hr).1 ⟨q, hq, a, b, rfl⟩, fb_subI (by omega) (by omega), hvi]
  refine ⟨s1, hl, e0, hdn, fun q hq => ?_, fun x z hz => ?_⟩
  · rw [hl.2.1.sc] at hq
    rcases hQ.1 q hq with z | z | z
    · exact Or.inl ⟨(hdn q hq).mpr z.1, by rw [(hsi q hq).2, ei]; have := z.2; omega⟩
    · refine Or.inr (Or.inl ⟨fun y => z.1 ((hdn q hq).mp y), by rw [(hsi q hq).1]; exact z.2.1, ?_⟩)
      rw [(hsi q hq).1, hw7 q hq z.2.1 z.1]
      have := z.2.2
      omega
    · exact Or.inr (Or.inr ⟨fun y => z.1 ((hdn q hq).mp y), by rw [(hsi q hq).1]; exact z.2.1, by rw [hl.wtL hr]; exact z.2.2⟩)
  · have hdr := hr.dr
    have he : (earl r).toInt ≤ (earl A).toInt := by
      unfold earl
      rw [hl.2.1.dr, (hsi _ hdr.2.1).1]
      by_cases c : rS r (DR r) 0 = -1
      · rw [if_pos c, if_pos c, Int32.add_zero, Int32.add_zero, ei]; omega
      · rw [if_neg c, if_neg c]
        obtain ⟨w1, w2, w3, w4, w5, w6⟩ := (hr.sta hdr.2.1).w c
        obtain ⟨l1, l2, l3⟩ := hr.wkd w2 w4 w5
        have hA : (rO r (nn (rS r (DR r) 0)) 7).toInt - v ≤ (rO A (nn (rS r (DR r) 0)) 7).toInt ∧ (rO A (nn (rS r (DR r) 0)) 7).toInt ≤ 1050 := by
          rw [e7]
          by_cases cw : wkdO r (SC r) (nn (rS r (DR r) 0))
          · rw [(wkd_7 hr).1 cw, fb_subI (by omega) (by omega), hvi]; omega
          · rw [(wkd_7 hr).2 cw]; omega
        rw [fb_addI (by omega) (by omega), fb_addI (by omega) (by omega), ei]
        omega
    cases hf : fU r (schF r) with
    | none => rw [hl.fUn hr s1 (Int.le_total _ _) hf] at hz; cases hz
    | some xz =>
      obtain ⟨x0, z0⟩ := xz
      obtain ⟨z1, g1, g2⟩ := hl.fU1 hr s1 he hf
      rw [g1] at hz
      have hz := Option.some.inj hz
      have ex : x0 = x := congrArg Prod.fst hz
      have ez : z1 = z := congrArg Prod.snd hz
      subst ex
      subst ez
      have hx := (schF_mem (fU_mem _ hf).1).1
      rw [hl.2.1.n (n := 5) (by omega) (by omega), hl.2.1.n (n := 7) (by omega) (by omega), hl.ropeL1 hr, hl.wkL hr hx, ei]
      rcases hQ.2 x0 z0 hf with a | a
      · left; omega
      · right; exact a
theorem sumN_add {f g h : Nat → Int32} : ∀ n, (∀ i, i < n → f i + g i = h i) → sumN f n + sumN g n = sumN h n := by
  intro n
  induction n with
  | zero => intro _; rfl
  | succ n ih =>
    intro hh
    show sumN f n + f n + (sumN g n + g n) = sumN h n + h n
    rw [← ih (fun i hi => hh i (by omega)), ← hh n (by omega), Int32.add_assoc, Int32.add_assoc (sumN f n) (sumN g n), ← Int32.add_assoc (f n), Int32.add_comm (f n) (sumN g n), Int32.add_assoc (sumN g n)]
set_option maxHeartbeats 2000000 in
theorem qui_step (hr : RI r) {V : Int} (hQ : Qui r V) {v : Nat} (hv : (v : Int) < V) (h0 : (r 0).toInt + V ≤ 40000) : seeN (wkd (seeN (wkd r (nI v)) (OM r)) 1) (OM r) = seeN (wkd r (nI (v + 1))) (OM r) := by
  have hr0 := hr.1
  have hsc := hr.sc
  have h1i : (1 : Int32).toInt = 1 := rfl
  have hvi : (nI v).toInt = v := nI_toInt (by omega)
  have hvi1 : (nI (v + 1)).toInt = (v : Int) + 1 := by rw [nI_toInt (by omega)]; omega
  obtain ⟨x1, x2, x3⟩ := qui_wkd (v := v) hr hQ (by omega) (by omega)
  obtain ⟨y1, y2, y3⟩ := qui_wkd (v := v + 1) hr hQ (by omega) (by omega)
  obtain ⟨a1, a2, a3, a4, a5⟩ := qui_next hr hQ hv h0
  have px := seeN_pt x1 (OM r) (by rw [x3.2.1.om]; exact Nat.le_refl _)
  have py := seeN_pt y1 (OM r) (by rw [y3.2.1.om]; exact Nat.le_refl _)
  have ei : (seeN (wkd r (nI v)) (OM r) 0).toInt = (r 0).toInt + v := by rw [a3, fb_addI (by omega) (by omega), hvi]
  generalize hA : seeN (wkd r (nI v)) (OM r) = A at a1 a2 a3 a4 a5 px ei ⊢
  obtain ⟨z1, z2, z3⟩ := qui_wkd (v := 1) a1 a5 (by omega) (by omega)
  have z1 : RI (wkd A 1) := z1
  have z3 : lik A (wkd A 1) := z3
  have hZr : lik r (wkd A 1) := a2.trans z3
  have pz := seeN_pt z1 (OM r) (by rw [hZr.2.1.om]; exact Nat.le_refl _)
  have hYZ : lik (wkd r (nI (v + 1))) (wkd A 1) := y3.symm.trans hZr
  have hXY : lik (wkd r (nI v)) (wkd r (nI (v + 1))) := x3.symm.trans y3
  have eZ0 : wkd A 1 0 = wkd r (nI (v + 1)) 0 := by rw [wkd_00, wkd_00, a3, Int32.add_assoc, nI_1]
  have eX0 : (wkd r (nI v) 0).toInt ≤ (wkd r (nI (v + 1)) 0).toInt := by
    rw [wkd_00, wkd_00, fb_addI (by omega) (by omega), fb_addI (by omega) (by omega), hvi, hvi1]; omega
  have oX : OM (wkd r (nI v)) = OM r := x3.2.1.om
  have oY : OM (wkd r (nI (v + 1))) = OM r := y3.2.1.om
  have zonZ : ∀ i, i < OM r → zon (wkd A 1) i = zon (wkd r (nI (v + 1))) i := fun i hi => hYZ.zonE y1 z1 (by rw [oY]; exact hi) eZ0
  have o13X : ∀ i, rO (wkd r (nI v)) i 13 = rO r i 13 := fun i => wkd_o hr (by omega) (by omega)
  have o13Y : ∀ i, rO (wkd r (nI (v + 1))) i 13 = rO r i 13 := fun i => wkd_o hr (by omega) (by omega)
  have o13Z : ∀ i, rO (wkd A 1) i 13 = rO A i 13 := fun i => wkd_o a1 (by omega) (by omega)
  have stX : ∀ i, i < OM r → rO r i 3 = 1 → stq (wkd r (nI v)) i = stq r i := fun i hi h => x3.stL hr hi h
  have stY : ∀ i, i < OM r → rO r i 3 = 1 → stq (wkd r (nI (v + 1))) i = stq r i := fun i hi h => y3.stL hr hi h
  have stZ : ∀ i, i < OM r → rO r i 3 = 1 → stq (wkd A 1) i = stq r i := fun i hi h => hZr.stL hr hi h
  have s1X : ∀ i, mkd (wkd r (nI v)) i → rO r i 3 = 1 := fun i h => (x3.1 i 3 (by omega) (by omega) (by omega)).symm.trans (zon_rel h.2)
  have s1Y : ∀ i, mkd (wkd r (nI (v + 1))) i → rO r i 3 = 1 := fun i h => (y3.1 i 3 (by omega) (by omega) (by omega)).symm.trans (zon_rel h.2)
  have hmX : ∀ i, i < OM r → mkd (wkd r (nI v)) i → mkd (wkd r (nI (v + 1))) i ∧ ¬ mkd (wkd A 1) i ∧ rO A i 13 = stq r i := by
    intro i hi hm
    have h3 := s1X i hm
    have e := (px.2.2.1 i hi hm).trans (stX i hi h3)
    refine ⟨⟨by rw [o13Y, ← o13X]; exact hm.1, hXY.zonM x1 y1 (by rw [oX]; exact hi) eX0 hm.2⟩, fun hz => ?_, e⟩
    have := hz.1
    rw [o13Z, e] at this
    obtain ⟨b1, b2, b3⟩ := hr.at hi h3
    have hs : stq r i = nI (nn (stq r i)) := b3
    rw [hs] at this
    exact nI_m1 (Nat.lt_of_lt_of_le b2 (by decide)) this
  have hmN : ∀ i, i < OM r → ¬ mkd (wkd r (nI v)) i → (mkd (wkd A 1) i ↔ mkd (wkd r (nI (v + 1))) i) ∧ rO A i 13 = rO r i 13 := by
    intro i hi hm
    have e := (px.2.2.2.1 i (fun z => hm z.2)).trans (o13X i)
    refine ⟨?_, e⟩
    show (_ ∧ _) ↔ (_ ∧ _)
    rw [o13Z, e, o13Y, zonZ i hi]
  have dA : ∀ q, q < SC r → (rS A q 0 = -1 ∨ dnn A q ↔ rS r q 0 = -1 ∨ dnn r q) := fun q hq => by
    rw [a4 q hq, a2.2.2 q 0 (by omega) (by omega) (by omega) (by omega)]
  refine row_ext (fun n hn => ?_) (fun q w hq hw => ?_) (fun n h1 h2 => ?_) (fun i w hw => ?_)
  · rw [pz.1 n (by omega) (fun q _ => by omega), py.1 n (by omega) (fun q _ => by omega)]
    by_cases e0 : n = 0
    · rw [e0]; exact eZ0
    · by_cases e10 : n = 10
      · rw [e10, wkd_10 a1, wkd_10 hr, px.1 10 (by omega) (fun q _ => by omega), wkd_10 hr]
        have hs : isStv A ↔ isStv r := by
          have hdr := hr.dr
          show (¬ dnn A (DR A) ∧ rS A (DR A) 0 = -1 ∧ stv A (OM A) = true) ↔ _
          rw [a2.2.1.dr, a4 _ hdr.2.1, a2.2.2 (DR r) 0 (by omega) (by omega) (by omega) (by omega), a2.2.1.om, a2.stvL hr _ (Nat.le_refl _)]
        by_cases c : isStv r
        · rw [if_pos c, if_pos c, if_pos (hs.mpr c), Int32.add_assoc, nI_1]
        · rw [if_neg c, if_neg c, if_neg (fun z => c (hs.mp z)), Int32.add_zero]
      · rw [wkd_n a1 (by omega) e0 e10 (fun q _ => by omega), wkd_n hr (by omega) e0 e10 (fun q _ => by omega), px.1 n (by omega) (fun q _ => by omega), wkd_n hr (by omega) e0 e10 (fun q _ => by omega)]
  · by_cases e6 : w = 6
    · subst e6
      rw [pz.2.2.2.2 q hq, py.2.2.2.2 q hq]
      have u1 : rS (wkd A 1) q 6 = rS A q 6 := wkd_n a1 (by omega) (by omega) (by omega) (fun q _ => by omega)
      have u2 : rS (wkd r (nI v)) q 6 = rS r q 6 := wkd_n hr (by omega) (by omega) (by omega) (fun q _ => by omega)
      have u3 : rS (wkd r (nI (v + 1))) q 6 = rS r q 6 := wkd_n hr (by omega) (by omega) (by omega) (fun q _ => by omega)
      rw [u1, px.2.2.2.2 q hq, u2, u3, Int32.add_assoc]
      congr 1
      refine sumN_add _ (fun i hi => ?_)
      by_cases c : mkd (wkd r (nI v)) i
      · obtain ⟨b1, b2, b3⟩ := hmX i hi c
        have h3 := s1X i c
        have qZ : (if mkd (wkd A 1) i ∧ stq (wkd A 1) i = nI q then (1 : Int32) else 0) = 0 := if_neg (fun z => b2 z.1)
        rw [qZ, Int32.add_zero]
        by_cases d : stq r i = nI q
        · exact (if_pos ⟨c, (stX i hi h3).trans d⟩).trans (if_pos ⟨b1, (stY i hi h3).trans d⟩).symm
        · exact (if_neg (fun z => d ((stX i hi h3).symm.trans z.2))).trans (if_neg (fun z => d ((stY i hi h3).symm.trans z.2))).symm
      · obtain ⟨b1, b2⟩ := hmN i hi c
        have qX : (if mkd (wkd r (nI v)) i ∧ stq (wkd r (nI v)) i = nI q then (1 : Int32) else 0) = 0 := if_neg (fun z => c z.1)
        rw [qX, Int32.zero_add]
        by_cases d : mkd (wkd r (nI (v + 1))) i
        · have h3 := s1Y i d
          have d' := b1.mpr d
          by_cases f : stq r i = nI q
          · exact (if_pos ⟨d', (stZ i hi h3).trans f⟩).trans (if_pos ⟨d, (stY i hi h3).trans f⟩).symm
          · exact (if_neg (fun z => f ((stZ i hi h3).symm.trans z.2))).trans (if_neg (fun z => f ((stY i hi h3).symm.trans z.2))).symm
        · exact (if_neg (fun z => d (b1.mp z.1))).trans (if_neg (fun z => d z.1)).symm
    · have pz1 : rS (seeN (wkd A 1) (OM r)) q w = rS (wkd A 1) q w := pz.1 _ (by omega) (fun q' _ => by omega)
      have py1 : rS (seeN (wkd r (nI (v + 1))) (OM r)) q w = rS (wkd r (nI (v + 1))) q w := py.1 _ (by omega) (fun q' _ => by omega)
      have px1 : rS A q w = rS (wkd r (nI v)) q w := px.1 _ (by omega) (fun q' _ => by omega)
      rw [pz1, py1]
      by_cases e3 : w = 3 ∧ q < SC r
      · obtain ⟨e3, hqs⟩ := e3
        subst e3
        rw [wkd_s3 a1 (by rw [a2.2.1.sc]; exact hqs), wkd_s3 hr hqs, px1, wkd_s3 hr hqs]
        by_cases c : rS r q 0 = -1 ∨ dnn r q
        · rw [if_pos c, if_pos ((dA q hqs).mpr c), if_pos c]
        · rw [if_neg c, if_neg (fun z => c ((dA q hqs).mp z)), if_neg c, Int32.add_assoc, nI_1]
      · have k1 : rS (wkd A 1) q w = rS A q w := wkd_n a1 (by omega) (by omega) (by omega) (fun q' h => by rw [a2.2.1.sc] at h; omega)
        have k2 : rS (wkd r (nI v)) q w = rS r q w := wkd_n hr (by omega) (by omega) (by omega) (fun q' h => by omega)
        have k3 : rS (wkd r (nI (v + 1))) q w = rS r q w := wkd_n hr (by omega) (by omega) (by omega) (fun q' h => by omega)
        rw [k1, px1, k2, k3]
  · rw [pz.1 n (by omega) (fun q _ => by omega), py.1 n (by omega) (fun q _ => by omega), wkd_n a1 (by omega) (by omega) (by omega) (fun q h => by rw [a2.2.1.sc] at h; omega), wkd_n hr (by omega) (by omega) (by omega) (fun q h => by omega), px.1 n (by omega) (fun q _ => by omega), wkd_n hr (by omega) (by omega) (by omega) (fun q h => by omega)]
  · by_cases e13 : w = 13
    · subst e13
      by_cases hi : i < OM r
      · by_cases c : mkd (wkd r (nI v)) i
        · obtain ⟨b1, b2, b3⟩ := hmX i hi c
          rw [pz.2.2.2.1 i (fun z => b2 z.2), py.2.2.1 i hi b1, o13Z, b3, stY i hi (s1X i c)]
        · obtain ⟨b1, b2⟩ := hmN i hi c
          by_cases d : mkd (wkd r (nI (v + 1))) i
          · rw [pz.2.2.1 i hi (b1.mpr d), py.2.2.1 i hi d, stY i hi (s1Y i d), stZ i hi (s1Y i d)]
          · rw [pz.2.2.2.1 i (fun z => d (b1.mp z.2)), py.2.2.2.1 i (fun z => d z.2), o13Z, b2, o13Y]
      · rw [pz.2.2.2.1 i (fun z => hi z.1), py.2.2.2.1 i (fun z => hi z.1), o13Z, px.2.2.2.1 i (fun z => hi z.1), o13X, o13Y]
    · rw [pz.2.1 i w hw e13, py.2.1 i w hw e13]
      by_cases e7 : w = 7
      · subst e7
        have hO : wkdO A (SC A) i ↔ wkdO r (SC r) i := by
          rw [a2.2.1.sc]
          constructor
          · rintro ⟨q, b1, b2, b3, b4⟩
            rw [a2.2.2 q 0 (by omega) (by omega) (by omega) (by omega)] at b2 b4
            rw [a4 q b1] at b3
            exact ⟨q, b1, b2, b3, b4⟩
          · rintro ⟨q, b1, b2, b3, b4⟩
            refine ⟨q, b1, ?_, ?_, ?_⟩
            · rw [a2.2.2 q 0 (by omega) (by omega) (by omega) (by omega)]; exact b2
            · rw [a4 q b1]; exact b3
            · rw [a2.2.2 q 0 (by omega) (by omega) (by omega) (by omega)]; exact b4
        have e7A : rO A i 7 = rO (wkd r (nI v)) i 7 := px.2.1 i 7 (by omega) (by omega)
        by_cases c : wkdO r (SC r) i
        · rw [(wkd_7 a1).1 (hO.mpr c), (wkd_7 hr).1 c, e7A, (wkd_7 hr).1 c, ← nI_1, Int32.sub_eq_add_neg, Int32.sub_eq_add_neg, Int32.sub_eq_add_neg, Int32.neg_add, Int32.sub_eq_add_neg, Int32.add_assoc]
        · rw [(wkd_7 a1).2 (fun z => c (hO.mp z)), (wkd_7 hr).2 c, e7A, (wkd_7 hr).2 c]
      · rw [wkd_o a1 hw e7, wkd_o hr hw e7, px.2.1 i w hw e13, wkd_o hr hw e7]
theorem qui_all (hr : RI r) {V : Int} (hQ : Qui r V) (h0 : (r 0).toInt + V ≤ 40000) : ∀ v : Nat, ((v : Int) + 1 ≤ V) → tkN r (v + 1) = seeN (wkd r (nI (v + 1))) (OM r) := by
  intro v
  induction v with
  | zero => intro hv; exact qui_base (r := r) hr hQ (by omega) (by omega)
  | succ v ih =>
    intro hv
    show tick (tkN r (v + 1)) = _
    rw [ih (by omega)]
    obtain ⟨a1, a2, a3, a4, a5⟩ := qui_next (v := v + 1) hr hQ (by omega) h0
    have hr0 := hr.1
    have hvi : (nI (v + 1)).toInt = ((v + 1 : Nat) : Int) := nI_toInt (by omega)
    have ei : (seeN (wkd r (nI (v + 1))) (OM r) 0).toInt = (r 0).toInt + ((v + 1 : Nat) : Int) := by rw [a3, fb_addI (by omega) (by omega), hvi]
    rw [qui_base a1 a5 (by omega) (by omega), a2.2.1.om]
    exact qui_step hr hQ (v := v + 1) (by omega) h0
end QB
