/-! ===== rows whose products stay: what else may change ===== -/
def sam1 (r r' : Row) : Prop := r' 1 = r 1 ∧ r' 2 = r 2 ∧ ∀ n, 53 ≤ n → n < 53 + 13 * PM r → r' n = r n
theorem inR.eq {x y : Int32} {a b : Int} (e : x = y) (h : inR y a b) : inR x a b := e ▸ h
section SAM1
variable {r r' : Row}
theorem sam1.rfl : sam1 r r := ⟨Eq.refl _, Eq.refl _, fun _ _ _ => Eq.refl _⟩
theorem samB.s1 (h : samB r r') (hp : PM r ≤ 6) : sam1 r r' := ⟨h.n (by omega) (by omega), h.n (by omega) (by omega), fun n a b => h n (Or.inr ⟨a, by omega⟩)⟩
theorem sam1.sc (hs : sam1 r r') : SC r' = SC r := by unfold SC; rw [hs.1]
theorem sam1.pn (hs : sam1 r r') {p : Nat} (hp : p < PM r) : rPn r' p = rPn r p := hs.2.2 _ (by omega) (by omega)
theorem sam1.ps (hs : sam1 r r') {p k : Nat} (hp : p < PM r) (hk : k < 6) : rPs r' p k = rPs r p k := hs.2.2 _ (by omega) (by omega)
theorem sam1.pt (hs : sam1 r r') {p k : Nat} (hp : p < PM r) (hk : k < 6) : rPt r' p k = rPt r p k := hs.2.2 _ (by omega) (by omega)
theorem sam1.sn (hs : sam1 r r') {p : Nat} (hp : p < PM r) : sN r' p = sN r p := by unfold sN; rw [hs.pn hp]
theorem sam1.ds (hs : sam1 r r') {p : Nat} (hp : p < PM r) : dS r' p = dS r p := by
  unfold dS
  have key : ∀ n k, n + k = 6 → dSf r' p n k = dSf r p n k := by
    intro n
    induction n with
    | zero => intro k _; exact Eq.refl _
    | succ n ih =>
      intro k hk
      rw [dSf, dSf, hs.ps hp (by omega), hs.2.1, ih (k + 1) (by omega)]
  exact key 6 0 (Eq.refl _)
theorem sam1.pi (hs : sam1 r r') {p : Nat} (hp : p < PM r) (h : PI r p) : PI r' p := by
  obtain ⟨n1, n2, n3⟩ := h.n
  unfold PI
  rw [hs.pn hp, hs.sn hp, hs.ds hp, hs.2.1, hs.sc, hs.ps hp h.d.2.1]
  refine ⟨h.1, fun k hk => ?_, h.2.2.1, h.2.2.2.1, fun k hk => ?_⟩
  · rw [hs.ps hp (by omega), hs.pt hp (by omega)]
    exact h.2.1 k hk
  · rw [hs.ps hp (by omega)]
    exact h.2.2.2.2 k hk
theorem RIg.of1 {m : Nat → Prop} (hr : RIg m r) (hs : sam1 r r') (h0 : inR (r' 0) 0 40000) (h3 : inR (r' 3) 0 6) (h4 : inR (r' 4) 0 24) (h5 : inR (r' 5) 1 500) (h6 : inR (r' 6) 1 500) (h7 : inR (r' 7) 1 5000) (h8 : inR (r' 8) 0 3) (h9 : inR (r' 9) 0 1)
    (hp : ∀ p, p < PM r' → PM r ≤ p → PI r' p) (ho : ∀ i, i < OM r' → OIg m r' i) (hq : ∀ q, q < SC r → SI r' q) : RIg m r' := by
  obtain ⟨a0, a1, a2, a3, a4, a5, a6, a7, a8, a9, b1, b2, b3⟩ := hr
  unfold RIg
  have hd : DR r' = DR r := by unfold DR; rw [hs.2.1]
  rw [hs.1, hs.2.1, hs.sc, hd]
  exact ⟨h0, a1, a2, h3, h4, h5, h6, h7, h8, h9, fun p hp' => if c : p < PM r then hs.pi c (b1 p c) else hp p hp' (by omega), ho, hq⟩
theorem RIg.oS {m : Nat → Prop} {i : Nat} (hr : RIg m r) (hi : i < OM r) (hs : sam1 r r') (hpm : PM r ≤ PM r') (hf : ∀ w, w < 14 → rO r' i w = rO r i w) (hl : ∀ q, q < 6 → rS r' q 0 = rS r q 0) : OIg m r' i := by
  obtain ⟨a0, a1, a2, a3, a5, a9, a10, a12, b⟩ := hr.ord hi
  have eP : oP r' i = oP r i := by unfold oP; rw [hf 0 (by omega)]
  have eK : oK r' i = oK r i := by unfold oK; rw [hf 4 (by omega)]
  unfold OIg OI0 OI1 OI2
  rw [eP, eK, hs.sn a1, hs.pn a1, hf 0 (by omega), hf 1 (by omega), hf 2 (by omega), hf 3 (by omega), hf 4 (by omega), hf 5 (by omega), hf 6 (by omega), hf 7 (by omega), hf 8 (by omega), hf 9 (by omega), hf 10 (by omega), hf 11 (by omega), hf 12 (by omega)]
  refine ⟨a0, by omega, a2, a3, a5, a9, a10, a12, ?_⟩
  rcases b with b | b | b | b
  · exact Or.inl b
  · exact Or.inr (Or.inl b)
  · refine Or.inr (Or.inr (Or.inl ⟨b.1, b.2.1, b.2.2.1, b.2.2.2.1, b.2.2.2.2.1, ?_⟩))
    rw [hs.ps a1 (hr.st hi b.1).2.2, hl _ (hr.at hi b.1).2.1]
    exact b.2.2.2.2.2
  · exact Or.inr (Or.inr (Or.inr b))
theorem SI.same1 {m : Nat → Prop} {q : Nat} (hr : RIg m r) (hs : sam1 r r') (hom : OM r ≤ OM r') (h : SI r q) (hf0 : rS r' q 0 = rS r q 0) (hf2 : inR (rS r' q 2) 0 40500) (hf5 : inR (rS r' q 5) 0 50)
    (hw : ¬ rS r q 0 = -1 → ∀ w, w = 0 ∨ w = 3 ∨ w = 4 ∨ w = 6 → rO r' (nn (rS r q 0)) w = rO r (nn (rS r q 0)) w) : SI r' q := by
  unfold SI
  rw [hf0]
  refine ⟨hf2, hf5, ?_⟩
  rcases h.2.2 with b | b
  · exact Or.inl b
  · by_cases hn : rS r q 0 = -1
    · exact Or.inl hn
    · have c1 := hw hn
      refine Or.inr ⟨b.1, by omega, ?_, ?_, ?_⟩
      · rw [c1 3 (by omega)]; exact b.2.2.1
      · rw [c1 6 (by omega)]; exact b.2.2.2.1
      · have eP : oP r' (nn (rS r q 0)) = oP r (nn (rS r q 0)) := by unfold oP; rw [c1 0 (by omega)]
        have eK : oK r' (nn (rS r q 0)) = oK r (nn (rS r q 0)) := by unfold oK; rw [c1 4 (by omega)]
        rw [eP, eK, hs.ps (hr.ord b.2.1).2.1 (hr.st b.2.1 b.2.2.1).2.2]
        exact b.2.2.2.2
theorem wk_eq1 (hs : sam1 r r') {i : Nat} (hp : oP r i < PM r) (hd : dS r (oP r i) < 6) (h0 : rO r' i 0 = rO r i 0) (h1 : rO r' i 1 = rO r i 1) : wk r' i = wk r i := by
  unfold wk
  rw [oP_eq h0, hs.ds hp, hs.pt hp hd, h1]
theorem bef_eq1 (hs : sam1 r r') {i : Nat} (hp : oP r i < PM r) (h0 : rO r' i 0 = rO r i 0) (h3 : rO r' i 3 = rO r i 3) (h4 : rO r' i 4 = rO r i 4) (h6 : rO r' i 6 = rO r i 6) : bef r' i ↔ bef r i := by
  unfold bef opn
  rw [oP_eq h0, hs.ds hp, h3, h4, h6]
theorem wts_eq1 (hs : sam1 r r') {i q : Nat} (hp : oP r i < PM r) (hk : rO r i 3 = 1 → oK r i < 6) (h0 : rO r' i 0 = rO r i 0) (h3 : rO r' i 3 = rO r i 3) (h4 : rO r' i 4 = rO r i 4) (h6 : rO r' i 6 = rO r i 6) : wts r' i q ↔ wts r i q := by
  unfold wts
  rw [h3, h6, oP_eq h0, oK_eq h4]
  constructor
  · rintro ⟨a, b, c⟩
    rw [hs.ps hp (hk a)] at c
    exact ⟨a, b, c⟩
  · rintro ⟨a, b, c⟩
    rw [← hs.ps hp (hk a)] at c
    exact ⟨a, b, c⟩
theorem ShO.same1 {σ σ1 : iM} {s : Nat} {i : Nat} (h : ShO σ s r i) (hs : sam1 r r') (hp : oP r i < PM r) (hd : dS r (oP r i) < 6) (hc : ∀ w, w < 14 → σ1 0 (24 * s + i) w = σ 0 (24 * s + i) w) (hf : ∀ w, w < 14 → rO r' i w = rO r i w) : ShO σ1 s r' i := by
  have hb := bef_eq1 hs hp (hf 0 (by omega)) (hf 3 (by omega)) (hf 4 (by omega)) (hf 6 (by omega))
  unfold ShO at h ⊢
  rw [hc 0 (by omega), hc 1 (by omega), hc 2 (by omega), hc 3 (by omega), hc 4 (by omega), hc 5 (by omega), hc 6 (by omega), hc 7 (by omega), hc 8 (by omega), hc 9 (by omega), hc 10 (by omega), hc 11 (by omega), hc 12 (by omega), hc 13 (by omega)]
  rw [hf 0 (by omega), hf 1 (by omega), hf 2 (by omega), hf 3 (by omega), hf 4 (by omega), hf 5 (by omega), hf 7 (by omega), hf 8 (by omega), hf 9 (by omega), hf 11 (by omega), hf 12 (by omega), hf 13 (by omega)]
  rw [wk_eq1 hs hp hd (hf 0 (by omega)) (hf 1 (by omega)), dbg_eq hb (hf 3 (by omega)) (hf 10 (by omega))]
  exact h
/-- which cells of a shop's products must stay -/
def pcl (s : Nat) (r : Row) (σ σ1 : iM) : Prop := ∀ p, p < PM r → (∀ j, σ1 1 (6 * s + p) j = σ 1 (6 * s + p) j) ∧ (∀ j, σ1 8 (2 * (6 * s + p)) j = σ 8 (2 * (6 * s + p)) j) ∧ (∀ j, σ1 8 (2 * (6 * s + p) + 1) j = σ 8 (2 * (6 * s + p) + 1) j)
theorem cfr.pcl {s : Nat} {σ σ1 : iM} (h : cfr s σ σ1) (hs4 : s < 4) (hp : PM r ≤ 6) : pcl s r σ σ1 := fun p hp' => ⟨fun j => h _ _ _ (by unfold own; omega), fun j => h _ _ _ (by unfold own; omega), fun j => h _ _ _ (by unfold own; omega)⟩
theorem ShP.same1 {σ σ1 : iM} {s p : Nat} (h : ShP σ s r p) (hI : PI r p) (hs : sam1 r r') (hp : p < PM r) (hc : pcl s r σ σ1) : ShP σ1 s r' p := by
  obtain ⟨h1, h2, h3⟩ := h
  obtain ⟨c1, c2, c3⟩ := hc p hp
  have hn := hI.n
  unfold ShP
  rw [hs.pn hp, hs.ds hp, hs.sn hp, c1, c1]
  refine ⟨h1, h2, fun k hk => ?_⟩
  rw [hs.ps hp (by omega), hs.pt hp (by omega), c2, c3]
  exact h3 k hk
theorem Sh.of1 {m : Nat → Prop} {σ σ1 : iM} {s : Nat} (h : Sh σ s r) (hr : RIg m r) (hs : sam1 r r') (hc : pcl s r σ σ1) (hS : ShS σ1 s r') (hQ : ∀ q, q < SC r → ShQ σ1 s r' q) (hP : ∀ p, p < PM r' → PM r ≤ p → ShP σ1 s r' p) (hO : ∀ i, i < OM r' → ShO σ1 s r' i) : Sh σ1 s r' :=
  ⟨hS, fun q hq => hQ q (by rw [← hs.sc]; exact hq), fun p hp => if c : p < PM r then (h.2.2.1 p c).same1 (hr.prd c) hs c hc else hP p hp (by omega), hO⟩
/-- an order's cells and the rest: all stay -/
theorem Sh.ordS {m : Nat → Prop} {σ σ1 : iM} {s : Nat} (h : Sh σ s r) (hr : RIg m r) (hs : sam1 r r') {i : Nat} (hi : i < OM r) (hc : ∀ w, w < 14 → σ1 0 (24 * s + i) w = σ 0 (24 * s + i) w) (hf : ∀ w, w < 14 → rO r' i w = rO r i w) : ShO σ1 s r' i :=
  (h.2.2.2 i hi).same1 hs (hr.ord hi).2.1 (by have := (hr.op hi).2.2.2.1.d; omega) hc hf
theorem wtC_same {m : Nat → Prop} (hr : RIg m r) (hs : sam1 r r') (hom : OM r' = OM r) (q : Nat) (hf : ∀ i w, i < OM r → w = 0 ∨ w = 3 ∨ w = 4 ∨ w = 6 → rO r' i w = rO r i w) : wtC r' q = wtC r q :=
  wtC_eq hom q (fun i hi => wts_eq1 hs (hr.ord hi).2.1 (fun h1 => (hr.st hi h1).2.2) (hf i 0 hi (by omega)) (hf i 3 hi (by omega)) (hf i 4 hi (by omega)) (hf i 6 hi (by omega)))
/-- a number of the head of the row changes (not the counts, not the drum) -/
theorem Sh.top {m : Nat → Prop} {σ σ1 : iM} {s : Nat} (h : Sh σ s r) (hr : RIg m r) (hs4 : s < 4) (hn : ∀ n, (1 ≤ n ∧ n ≤ 4) ∨ 11 ≤ n → r' n = r n) (hS : ShS σ1 s r') (hc : ∀ k i j, ¬ (k = 4 ∧ i = s) → σ1 k i j = σ k i j) : Sh σ1 s r' := by
  have hpm := hr.pm
  have hs : sam1 r r' := ⟨hn 1 (by omega), hn 2 (by omega), fun n a b => hn n (by omega)⟩
  have hom : OM r' = OM r := by unfold OM; rw [hn 4 (by omega)]
  have hpm' : PM r' = PM r := by unfold PM; rw [hn 3 (by omega)]
  refine h.of1 hr hs (fun p hp => ⟨fun j => hc _ _ _ (by omega), fun j => hc _ _ _ (by omega), fun j => hc _ _ _ (by omega)⟩) hS (fun q hq => ?_) (fun p hp hp2 => by omega) (fun i hi => ?_)
  · have h2 := h.2.1 q hq
    refine h2.same (fun j _ => hc _ _ _ (by omega)) (fun w hw => hn _ (by omega)) ?_
    rw [hc _ _ _ (by omega), h2.2.2.2.2.1, wtC_same hr hs hom q (fun i w _ _ => hn _ (by omega))]
  · exact h.ordS hr hs (by omega) (fun w _ => hc _ _ _ (by omega)) (fun w _ => hn _ (by omega))
theorem RIg.top {m : Nat → Prop} (hr : RIg m r) (hn : ∀ n, (1 ≤ n ∧ n ≤ 4) ∨ 11 ≤ n → r' n = r n) (h0 : inR (r' 0) 0 40000) (h5 : inR (r' 5) 1 500) (h6 : inR (r' 6) 1 500) (h7 : inR (r' 7) 1 5000) (h8 : inR (r' 8) 0 3) (h9 : inR (r' 9) 0 1) : RIg m r' := by
  have hpm := hr.pm
  have hs : sam1 r r' := ⟨hn 1 (by omega), hn 2 (by omega), fun n a b => hn n (by omega)⟩
  have hom : OM r' = OM r := by unfold OM; rw [hn 4 (by omega)]
  have hpm' : PM r' = PM r := by unfold PM; rw [hn 3 (by omega)]
  refine hr.of1 hs h0 (by rw [hn 3 (by omega)]; exact hr.2.2.2.1) (by rw [hn 4 (by omega)]; exact hr.2.2.2.2.1) h5 h6 h7 h8 h9 (fun p hp hp2 => by omega) (fun i hi => ?_) (fun q hq => ?_)
  · have hi : i < OM r := by omega
    exact hr.oS hi hs (by omega) (fun w _ => hn _ (by omega)) (fun q _ => hn _ (by omega))
  · have := hr.sta hq
    exact this.same1 hr hs (by omega) (hn _ (by omega)) (inR.eq (hn _ (by omega)) this.1) (inR.eq (hn _ (by omega)) this.2.1) (fun _ w _ => hn _ (by omega))
/-- one number of one order changes -/
theorem Sh.ord1 {m : Nat → Prop} {σ : iM} {s i w w' : Nat} {v : Int32} (h : Sh σ s r) (hr : RIg m r) (hs4 : s < 4) (hi : i < OM r) (hw : w < 14) (hw' : w' < 14) (hwt : ∀ q, wts (upd r (131 + 14 * i + w) v) i q ↔ wts r i q) (hO : ShO (iU σ 0 (24 * s + i) w' v) s (upd r (131 + 14 * i + w) v) i) : Sh (iU σ 0 (24 * s + i) w' v) s (upd r (131 + 14 * i + w) v) := by
  have hpm := hr.pm
  have hom := hr.om
  have hs : sam1 r (upd r (131 + 14 * i + w) v) := ⟨upd_ne' (by omega), upd_ne' (by omega), fun n a b => upd_ne' (by omega)⟩
  have eom : OM (upd r (131 + 14 * i + w) v) = OM r := by unfold OM; rw [upd_ne' (by omega)]
  have epm : PM (upd r (131 + 14 * i + w) v) = PM r := by unfold PM; rw [upd_ne' (by omega)]
  have hsc := hr.sc
  refine h.of1 hr hs (fun p hp => ⟨fun j => Ukk (by omega), fun j => Ukk (by omega), fun j => Ukk (by omega)⟩) (h.1.same (fun j => Ukk (by omega)) (fun n hn => upd_ne' (by omega))) (fun q hq => ?_) (fun p hp hp2 => by omega) (fun k hk => ?_)
  · have h2 := h.2.1 q hq
    refine h2.same (fun j _ => Ukk (by omega)) (fun w2 hw2 => upd_ne' (by omega)) ?_
    rw [Ukk (by omega), h2.2.2.2.2.1, wtC_eq eom q (fun k hk => ?_)]
    by_cases e : k = i
    · rw [e]; exact hwt q
    · exact wts_eq1 hs (hr.ord hk).2.1 (fun h1 => (hr.st hk h1).2.2) (upd_ne' (by omega)) (upd_ne' (by omega)) (upd_ne' (by omega)) (upd_ne' (by omega))
  · by_cases e : k = i
    · rw [e]; exact hO
    · exact h.ordS hr hs (by omega) (fun w2 _ => U00 (by omega)) (fun w2 _ => upd_ne' (by omega))
theorem RIg.ord1 {m : Nat → Prop} {i w : Nat} {v : Int32} (hr : RIg m r) (hi : i < OM r) (hw : w < 14) (hst : w = 0 ∨ w = 3 ∨ w = 4 ∨ w = 6 → ¬ rO r i 3 = 1) (hO : OIg m (upd r (131 + 14 * i + w) v) i) : RIg m (upd r (131 + 14 * i + w) v) := by
  have hpm := hr.pm
  have hom := hr.om
  have hsc := hr.sc
  have hs : sam1 r (upd r (131 + 14 * i + w) v) := ⟨upd_ne' (by omega), upd_ne' (by omega), fun n a b => upd_ne' (by omega)⟩
  have eom : OM (upd r (131 + 14 * i + w) v) = OM r := by unfold OM; rw [upd_ne' (by omega)]
  have epm : PM (upd r (131 + 14 * i + w) v) = PM r := by unfold PM; rw [upd_ne' (by omega)]
  obtain ⟨a0, a1, a2, a3, a4, a5, a6, a7, a8, a9, b1, b2, b3⟩ := id hr
  refine hr.of1 hs (by rw [upd_ne' (by omega)]; exact a0) (by rw [upd_ne' (by omega)]; exact a3) (by rw [upd_ne' (by omega)]; exact a4) (by rw [upd_ne' (by omega)]; exact a5) (by rw [upd_ne' (by omega)]; exact a6) (by rw [upd_ne' (by omega)]; exact a7) (by rw [upd_ne' (by omega)]; exact a8) (by rw [upd_ne' (by omega)]; exact a9) (fun p hp hp2 => by omega) (fun k hk => ?_) (fun q hq => ?_)
  · by_cases e : k = i
    · rw [e]; exact hO
    · have hk : k < OM r := by omega
      exact hr.oS hk hs (by omega) (fun w2 _ => upd_ne' (by omega)) (fun q _ => upd_ne' (by omega))
  · have h2 := hr.sta hq
    refine h2.same1 hr hs (by omega) (upd_ne' (by omega)) (inR.eq (upd_ne' (by omega)) h2.1) (inR.eq (upd_ne' (by omega)) h2.2.1) (fun hne w2 hw2 => ?_)
    refine upd_ne' (fun e => ?_)
    obtain ⟨w1, w2', w3, w4, w5, w6⟩ := h2.w hne
    have : nn (rS r q 0) = i ∧ w2 = w := by omega
    rw [this.1] at w4
    exact hst (by omega) w4
end SAM1
