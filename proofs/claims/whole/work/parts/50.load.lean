/-! ===== the work ahead of a station ===== -/
def sumA (f : Nat → Int32) (a : Nat) : Nat → Int32
  | 0 => 0
  | n + 1 => sumA f a n + f (a + n)
def ldk (r : Row) (i q k : Nat) : Int32 := if rPs r (oP r i) k = nI q then (if rO r i 6 = 1 ∧ k = oK r i then rO r i 7 else rPt r (oP r i) k * rO r i 1) else 0
def frm (r : Row) (i : Nat) : Nat := if rO r i 3 = 1 then oK r i else 0
def ldO (r : Row) (q i : Nat) : Int32 := if opn r i then sumA (ldk r i q) (frm r i) (sN r (oP r i) - frm r i) else 0
def ld (r : Row) (q : Nat) : Int32 := sumN (ldO r q) (OM r)
theorem At.G {j pc t : Nat} {L L' : iL} {S S' : iS} {σ σ' : iM} {r : iRes} (k : At j t L' S' σ' r) (h : blk (sfx (iTb j) pc) L S σ = blk (sfx (iTb j) t) L' S' σ') : At j pc L S σ r := At.F t L' S' σ' h k
section LD
variable {σ : iM} {s : Nat} {r : Row}
theorem bg1 {r : Row} (hr : RI r) {i : Nat} (hi : i < OM r) (h6 : rO r i 6 = 1) : rO r i 3 = 1 := by
  have z : ¬ (0 : Int32) = 1 := by decide
  rcases (hr.ord hi).2.2.2.2.2.2.2.2 with ⟨-, q⟩ | ⟨-, q⟩ | ⟨h1, q⟩ | ⟨-, q⟩
  · rw [q.2.1] at h6; exact absurd h6 z
  · rw [q.2.1] at h6; exact absurd h6 z
  · exact h1
  · rw [q.2.1] at h6; exact absurd h6 z
theorem bgn {r : Row} (hr : RI r) {i k : Nat} (hi : i < OM r) (hk : k < 6) : (nI k = rO r i 4 ∧ ¬ rO r i 7 ≤ 0) ↔ (rO r i 6 = 1 ∧ k = oK r i) := by
  have hw := wkd_iff hr hi
  constructor
  · rintro ⟨a, b⟩
    refine ⟨Decidable.not_not.mp (fun q => b (hw.mpr q)), ?_⟩
    show k = nn (rO r i 4)
    rw [← a, nn_nI (by omega)]
  · rintro ⟨a, b⟩
    refine ⟨?_, fun q => hw.mp q a⟩
    rw [(hr.st hi (bg1 hr hi a)).1, ← b]
theorem frm_b {r : Row} (hr : RI r) {i : Nat} (hi : i < OM r) (ho : opn r i) : frm r i < sN r (oP r i) ∧ iMax (rO r i 4) 0 = nI (frm r i) ∧ iMax 0 (rO r i 4) = nI (frm r i) := by
  have hp := (hr.op hi).2.2.2.1
  have hn := hp.n
  have h0 : (0 : Int32).toInt = 0 := rfl
  unfold frm
  by_cases h1 : rO r i 3 = 1
  · rw [if_pos h1]
    obtain ⟨a, b, c⟩ := hr.st hi h1
    refine ⟨b, ?_, ?_⟩
    · rw [a]
      unfold iMax
      rw [if_neg (by rw [fa_lt, nI_toInt (by omega), h0]; omega), ← a]
    · rw [a]
      unfold iMax
      by_cases c2 : (0 : Int32) < nI (oK r i)
      · rw [if_pos c2, ← a]
      · rw [if_neg c2]
        rw [fa_lt, nI_toInt (by omega), h0] at c2
        have e0 : oK r i = 0 := by omega
        rw [e0]; rfl
  · rw [if_neg h1]
    have o := hr.i0 hi (ho.resolve_right h1)
    rw [o.1]
    exact ⟨by omega, by decide, by decide⟩
theorem c_wa (h : Sh σ s r) (hr : RI r) (hs4 : s < 4) {i q : Nat} (hi : i < OM r) (ho : opn r i) : Ev mX4_workAheadOf_ [.inr (4, s), .inr (0, 24 * s + i), .inl (nI q)] σ (evi (sumA (ldk r i q) (frm r i) (sN r (oP r i) - frm r i)) σ) := by
  obtain ⟨p1, p2, p3, p4⟩ := h.prod hr hi
  have hO := h.2.2.2 i hi
  have hn := p4.n
  obtain ⟨f1, f2, f3⟩ := frm_b hr hi ho
  show At mX4_workAheadOf_ 0 [some (.inr (4, s)), some (.inr (0, 24 * s + i)), some (.inl (nI q)), none, none, none, none] [] σ _
  refine At.N rfl (by rw [p1]; exact v13 s _ p2) ?_
  rw [p1, nI_clamp (by omega)]
  refine At.F 23 [some (.inr (4, s)), some (.inr (0, 24 * s + i)), some (.inl (nI q)), some (.inr (1, 6 * s + oP r i)), some (.inl (sumA (ldk r i q) (frm r i) 0)), some (.inl (iMax (σ 0 (24 * s + i) 6) 0)), none] [] σ rfl ?_
  rw [hO.2.2.2.2.2.2.1, f2]
  refine down_ind (N := sN r (oP r i) - frm r i) (P := fun n => ∀ d, At mX4_workAheadOf_ 23 [some (.inr (4, s)), some (.inr (0, 24 * s + i)), some (.inl (nI q)), some (.inr (1, 6 * s + oP r i)), some (.inl (sumA (ldk r i q) (frm r i) n)), some (.inl (nI (frm r i + n))), d] [] σ _) ?_ ?_ 0 (Nat.zero_le _) none
  · intro d
    refine At.Bt rfl (by rw [p3.1, hn.1, show frm r i + (sN r (oP r i) - frm r i) = sN r (oP r i) by omega]; exact ge_s) ?_
    exact At.R rfl
  · intro n hk ih d
    have hkk : frm r i + n < sN r (oP r i) := by omega
    have hK := p3.2.2 _ hkk
    have hb := bgn hr (k := frm r i + n) hi (by omega)
    refine At.Bf rfl (by rw [p3.1, hn.1]; exact ge_n (by omega) hkk) ?_
    refine At.N rfl (by rw [(iN_p s _ hs4 p2).1]; exact vin (by omega) (by omega)) ?_
    rw [nI_clamp (by omega)]
    rw [sumA] at ih
    unfold ldk at ih
    refine At.B rfl (fun hc => ?_) (fun hc => ?_)
    · rw [hK.1] at hc
      rw [if_pos hc] at ih
      have no : ∀ d6, ¬ (rO r i 6 = 1 ∧ frm r i + n = oK r i) → At mX4_workAheadOf_ 63 [some (.inr (4, s)), some (.inr (0, 24 * s + i)), some (.inl (nI q)), some (.inr (1, 6 * s + oP r i)), some (.inl (sumA (ldk r i q) (frm r i) n)), some (.inl (nI (frm r i + n))), d6] [] σ (evi (sumA (ldk r i q) (frm r i) (sN r (oP r i) - frm r i)) σ) := by
        intro d6 hno
        rw [if_neg hno] at ih
        refine At.Bt rfl (rfl) ?_
        refine At.N rfl (by rw [(iN_p s _ hs4 p2).2]; exact vin (by omega) (by omega)) ?_
        rw [nI_clamp (by omega)]
        refine At.J rfl ?_
        rw [nI_1, hK.2, hO.2.1]
        exact ih _
      refine At.B rfl (fun h1 => ?_) (fun h1 => ?_)
      · rw [hO.2.2.2.2.2.2.1] at h1
        refine At.B rfl (fun h2 => ?_) (fun h2 => ?_)
        · rw [hO.2.2.2.2.2.2.2.1] at h2
          exact no _ (fun z => (hb.mpr z).2 h2)
        · rw [hO.2.2.2.2.2.2.2.1] at h2
          rw [if_pos (hb.mp ⟨h1, h2⟩)] at ih
          refine At.J rfl ?_
          refine At.Bf rfl (by decide) ?_
          refine At.J rfl ?_
          refine At.J rfl ?_
          rw [nI_1, hO.2.2.2.2.2.2.2.1]
          exact ih _
      · rw [hO.2.2.2.2.2.2.1] at h1
        exact no _ (fun z => h1 (hb.mpr z).1)
    · rw [hK.1] at hc
      rw [if_neg hc, Int32.add_zero] at ih
      refine At.J rfl ?_
      rw [nI_1]
      exact ih _
theorem c_workAheadOf (h : Sh σ s r) (hr : RI r) (hs4 : s < 4) (q : Nat) : Ev mX4_workAheadOf [.inr (4, s), .inl (nI q)] σ (evi (ld r q) σ) := by
  have hom := hr.om
  show At mX4_workAheadOf 0 [some (.inr (4, s)), some (.inl (nI q)), none, none] [] σ _
  refine At.F 4 [some (.inr (4, s)), some (.inl (nI q)), some (.inl (sumN (ldO r q) 0)), some (.inl (nI 0))] [] σ rfl ?_
  refine down_ind (N := OM r) (P := fun n => At mX4_workAheadOf 4 [some (.inr (4, s)), some (.inl (nI q)), some (.inl (sumN (ldO r q) n)), some (.inl (nI n))] [] σ _) ?_ ?_ 0 (Nat.zero_le _)
  · refine At.Bt rfl (by rw [h.om hr]; exact ge_s) ?_
    exact At.R rfl
  · intro n hn ih
    refine At.Bf rfl (by rw [h.om hr]; exact ge_n hom.2 hn) ?_
    refine At.N rfl (v12 s n (by omega)) ?_
    rw [nI_clamp (by omega)]
    have hO := h.2.2.2 n hn
    rw [sumN] at ih
    unfold ldO at ih
    refine At.Ci rfl (c_isOpen _) ?_
    rw [hO.2.2.2.2.2.1]
    by_cases ho : opn r n
    · rw [if_pos ho] at ih ⊢
      refine At.Bf rfl (by decide) ?_
      refine At.N rfl (v12 s n (by omega)) ?_
      rw [nI_clamp (by omega)]
      refine At.Ci rfl (c_wa h hr hs4 hn ho) ?_
      refine At.J rfl ?_
      rw [nI_1]
      exact ih
    · rw [if_neg ho] at ih ⊢
      rw [Int32.add_zero] at ih
      refine At.Bt rfl (rfl) ?_
      refine At.J rfl ?_
      rw [nI_1]
      exact ih
theorem e_ldrow (hr : RI (σ 8 58)) {n q : Nat} (hn : n < OM (σ 8 58)) {S : Int32} {res : iRes} (k : ∀ d4 d5 d6 d7, At mX7_loadAt 173 [some M, some (.inl (nI q)), some (.inl (S + ldO (σ 8 58) q n)), some (.inl (nI n)), d4, d5, d6, d7] [] σ res) : ∀ d4 d5 d6 d7, At mX7_loadAt 14 [some M, some (.inl (nI q)), some (.inl S), some (.inl (nI n)), d4, d5, d6, d7] [] σ res := by
  intro d4 d5 d6 d7
  obtain ⟨h1, h2, h3, h4, h5⟩ := hr.op hn
  refine At.Ci rfl (e_isOpen h1) ?_
  unfold ldO at k
  by_cases ho : opn (σ 8 58) n
  · rw [if_pos ho] at k ⊢
    obtain ⟨f1, f2, f3⟩ := frm_b hr hn ho
    have hpn := h4.n
    have L : ∀ (B : Int32) (m : Nat), m ≤ sN (σ 8 58) (oP (σ 8 58) n) - frm (σ 8 58) n → (rO (σ 8 58) n 6 = 1 → 1 ≤ m) → At mX7_loadAt 113 [some M, some (.inl (nI q)), some (.inl (S + sumA (ldk (σ 8 58) n q) (frm (σ 8 58) n) m)), some (.inl (nI n)), some (.inl (nI (oP (σ 8 58) n))), some (.inl B), some (.inl (nI (frm (σ 8 58) n))), some (.inl (nI (frm (σ 8 58) n + m)))] [] σ res := by
      intro B
      refine down_ind (N := sN (σ 8 58) (oP (σ 8 58) n) - frm (σ 8 58) n) ?_ ?_
      · intro hm
        refine At.Ci rfl (e_steps 58 _ rfl h3 _) ?_
        refine At.Bt rfl (by rw [hpn.1, show frm (σ 8 58) n + (sN (σ 8 58) (oP (σ 8 58) n) - frm (σ 8 58) n) = sN (σ 8 58) (oP (σ 8 58) n) by omega]; exact ge_s) ?_
        exact k _ _ _ _
      · intro m hm2 ih hm
        have hkk : frm (σ 8 58) n + m < sN (σ 8 58) (oP (σ 8 58) n) := by omega
        have ih := ih (fun _ => by omega)
        rw [sumA, ← Int32.add_assoc] at ih
        have hno : ¬ (rO (σ 8 58) n 6 = 1 ∧ frm (σ 8 58) n + m = oK (σ 8 58) n) := by
          rintro ⟨a, b⟩
          have := hm a
          have e : frm (σ 8 58) n = oK (σ 8 58) n := if_pos (bg1 hr hn a)
          omega
        unfold ldk at ih
        rw [if_neg hno] at ih
        refine At.Ci rfl (e_steps 58 _ rfl h3 _) ?_
        refine At.Bf rfl (by rw [hpn.1]; exact ge_n (by omega) hkk) ?_
        refine At.Ci rfl (e_stepStation 58 _ _ rfl h3 (by omega) _) ?_
        refine At.B rfl (fun hc => ?_) (fun hc => ?_)
        · rw [if_pos hc] at ih
          refine At.Ci rfl (e_stepTime 58 _ _ rfl h3 (by omega) _) ?_
          refine At.Ci rfl (e_order n 1 h1 (by omega) _) ?_
          refine At.J rfl ?_
          refine At.J rfl ?_
          rw [nI_1]
          exact ih
        · rw [if_neg hc] at ih
          refine At.J rfl ?_
          rw [nI_1]
          exact ih
    refine At.Bf rfl (by decide) ?_
    refine At.Ci rfl (e_order n 0 h1 (by omega) _) ?_
    rw [h2]
    refine At.Ci rfl (e_order n 6 h1 (by omega) _) ?_
    refine At.B rfl (fun hb => ?_) (fun hb => ?_)
    · refine At.J rfl ?_
      refine At.Ci rfl (e_order n 4 h1 (by omega) _) ?_
      refine At.Bf rfl (by decide) ?_
      rw [f3]
      have e : frm (σ 8 58) n = oK (σ 8 58) n := if_pos (bg1 hr hn hb)
      have hL := L 1 1 (by omega) (fun _ => by omega)
      rw [sumA, sumA, Int32.zero_add, Nat.add_zero] at hL
      unfold ldk at hL
      rw [if_pos (c := rO (σ 8 58) n 6 = 1 ∧ frm (σ 8 58) n = oK (σ 8 58) n) ⟨hb, e⟩] at hL
      refine At.Ci rfl (e_stepStation 58 _ _ rfl h3 (by omega) _) ?_
      refine At.B rfl (fun hc => ?_) (fun hc => ?_)
      · rw [if_pos hc] at hL
        refine At.Ci rfl (e_order n 7 h1 (by omega) _) ?_
        refine At.J rfl ?_
        refine At.Bf rfl (by decide) ?_
        refine At.J rfl ?_
        rw [nI_1]
        exact At.G hL rfl
      · rw [if_neg hc] at hL
        refine At.Bf rfl (by decide) ?_
        refine At.J rfl ?_
        rw [nI_1]
        exact At.G hL rfl
    · have hL := L 0 0 (by omega) (fun z => absurd z hb)
      rw [sumA, Nat.add_zero] at hL
      refine At.Ci rfl (e_order n 4 h1 (by omega) _) ?_
      refine At.Bt rfl (rfl) ?_
      rw [f3]
      refine At.Bt rfl (rfl) ?_
      exact At.G hL rfl
  · rw [if_neg ho] at k ⊢
    rw [Int32.add_zero] at k
    refine At.Bt rfl (rfl) ?_
    refine At.J rfl ?_
    exact k _ _ _ _
theorem e_loadAt (hr : RI (σ 8 58)) (q : Nat) : Ev mX7_loadAt [M, .inl (nI q)] σ (evi (ld (σ 8 58) q) σ) := by
  have hom := hr.om
  show At mX7_loadAt 0 [some M, some (.inl (nI q)), none, none, none, none, none, none] [] σ _
  refine At.F 4 [some M, some (.inl (nI q)), some (.inl (sumN (ldO (σ 8 58) q) 0)), some (.inl (nI 0)), none, none, none, none] [] σ rfl ?_
  refine down_ind (N := OM (σ 8 58)) (P := fun n => ∀ d4 d5 d6 d7, At mX7_loadAt 4 [some M, some (.inl (nI q)), some (.inl (sumN (ldO (σ 8 58) q) n)), some (.inl (nI n)), d4, d5, d6, d7] [] σ _) ?_ ?_ 0 (Nat.zero_le _) none none none none
  · intro d4 d5 d6 d7
    refine At.N rfl (v58 4 (by omega)) ?_
    rw [t4]
    refine At.Bt rfl (by rw [hom.1]; exact ge_s) ?_
    exact At.R rfl
  · intro n hn ih d4 d5 d6 d7
    refine At.N rfl (v58 4 (by omega)) ?_
    rw [t4]
    refine At.Bf rfl (by rw [hom.1]; exact ge_n hom.2 hn) ?_
    refine e_ldrow hr hn ?_ d4 d5 d6 d7
    intro a4 a5 a6 a7
    refine At.J rfl ?_
    rw [nI_1]
    exact ih _ _ _ _
/-- loads are not negative -/
theorem sumN_b {f : Nat → Int32} {B : Int} : ∀ n : Nat, (∀ k, k < n → 0 ≤ (f k).toInt ∧ (f k).toInt ≤ B) → 0 ≤ B → n * B < 2147483648 → 0 ≤ (sumN f n).toInt ∧ (sumN f n).toInt ≤ n * B := by
  intro n
  induction n with
  | zero => intro _ _ _; exact ⟨Int.le_refl _, by show (0 : Int) ≤ _; omega⟩
  | succ n ih =>
    intro h hB hn
    have e : ((n + 1 : Nat) : Int) * B = n * B + B := by rw [Int.natCast_add, Int.add_mul]; omega
    rw [e] at hn ⊢
    have a := ih (fun k hk => h k (by omega)) hB (by omega)
    have b := h n (by omega)
    rw [sumN, fb_addI (by omega) (by omega)]
    omega
theorem sumA_b {f : Nat → Int32} {B : Int} {a : Nat} : ∀ n : Nat, (∀ k, k < a + n → 0 ≤ (f k).toInt ∧ (f k).toInt ≤ B) → 0 ≤ B → n * B < 2147483648 → 0 ≤ (sumA f a n).toInt ∧ (sumA f a n).toInt ≤ n * B := by
  intro n
  induction n with
  | zero => intro _ _ _; exact ⟨Int.le_refl _, by show (0 : Int) ≤ _; omega⟩
  | succ n ih =>
    intro h hB hn
    have e : ((n + 1 : Nat) : Int) * B = n * B + B := by rw [Int.natCast_add, Int.add_mul]; omega
    rw [e] at hn ⊢
    have a1 := ih (fun k hk => h k (by omega)) hB (by omega)
    have b := h (a + n) (by omega)
    rw [sumA, fb_addI (by omega) (by omega)]
    omega
theorem ldk_b {r : Row} (hr : RI r) {i : Nat} (hi : i < OM r) (q : Nat) {k : Nat} (hk : k < sN r (oP r i)) : 0 ≤ (ldk r i q k).toInt ∧ (ldk r i q k).toInt ≤ 1050 := by
  have h0 : (0 : Int32).toInt = 0 := rfl
  unfold ldk
  by_cases c : rPs r (oP r i) k = nI q
  · rw [if_pos c]
    by_cases d : rO r i 6 = 1 ∧ k = oK r i
    · rw [if_pos d]
      have := (hr.wkd hi (bg1 hr hi d.1) d.1).1
      exact ⟨this.1, this.2⟩
    · rw [if_neg d]
      have a := ((hr.op hi).2.2.2.1.2.1 k hk).2.2
      have b := (hr.ord hi).2.2.1
      have := mul_b a.1 a.2 b.1 b.2 (by decide) (by decide)
      rw [this.1]
      omega
  · rw [if_neg c, h0]; omega
theorem ld_b {r : Row} (hr : RI r) (q : Nat) : 0 ≤ (ld r q).toInt := by
  have hom := hr.om
  have h0 : (0 : Int32).toInt = 0 := rfl
  refine (sumN_b (f := ldO r q) (B := 6300) (OM r) (fun i hi => ?_) (by omega) (by omega)).1
  unfold ldO
  by_cases ho : opn r i
  · rw [if_pos ho]
    have f1 := (frm_b hr hi ho).1
    have hn := (hr.op hi).2.2.2.1.n
    have := sumA_b (f := ldk r i q) (B := 1050) (a := frm r i) (sN r (oP r i) - frm r i) (fun k hk => ldk_b hr hi q (by omega)) (by omega) (by omega)
    omega
  · rw [if_neg ho, h0]; omega
def btl (r : Row) : Nat → Nat
  | 0 => 0
  | n + 1 => if n = 0 then 0 else if ld r (btl r n) < ld r n then n else btl r n
theorem btl_b (r : Row) : ∀ n, btl r n < n ∨ btl r n = 0 := by
  intro n
  induction n with
  | zero => right; rfl
  | succ n ih =>
    rw [btl]
    split
    · right; rfl
    · split
      · left; omega
      · rcases ih with a | a
        · left; omega
        · right; exact a
theorem p_loadOf (h : INV σ) (o : Int32) : OKi mX6_loadOf mX7_loadOf [.inl o] 0 σ := by
  have hom := h.1.sc
  rcases ix_cases (SC (σ 8 58)) (by omega) o with ⟨i, hi, rfl⟩ | ho
  · refine OKi.ask (ld (σ 8 58) i) h ?_ ?_
    · show At mX6_loadOf 0 [some X, some (.inl (nI i))] [] σ _
      refine At.Cr rfl (c_station h hi) (show 6 * 0 + i < 24 by omega) ?_
      have hQ := h.2.2.1.2.1 i hi
      refine At.Ci rfl (c_workAheadOf h.2.2.1 h.1 (by omega) i) ?_
      exact At.R rfl
    · show At mX7_loadOf 0 [some M, some (.inl (nI i))] [] σ _
      refine At.Ci rfl (e_sta1 rfl h.1 hi) ?_
      refine At.Ci rfl (e_thr1 _ _) ?_
      refine At.Bt rfl (rfl) ?_
      have e := U7_r (σ := σ) (j := 5) (x := 0)
      have hr := h.1
      generalize iU σ 7 0 5 0 = τ at e ⊢
      rw [← e] at hi hr hom ⊢
      refine At.Ci rfl (e_loadAt hr i) ?_
      exact At.R rfl
  · refine OKi.t0 h (v := 0) ?_ ?_
    · show At mX6_loadOf 0 [some X, some (.inl o)] [] σ _
      exact At.X rfl (c_station_no h ho)
    · show At mX7_loadOf 0 [some M, some (.inl o)] [] σ _
      refine At.Ci rfl (e_sta0 rfl h.1 ho) ?_
      refine At.Ci rfl (e_thr0 _ _) ?_
      refine At.Bf rfl (by decide) ?_
      refine At.J rfl ?_
      exact At.R rfl
theorem p_bottleneck (h : INV σ) : OKi mX6_bottleneck mX7_bottleneck [] 3 σ := by
  have hom := h.1.om
  have hsc := h.1.sc
  refine OKi.ask (nI (btl (σ 8 58) (SC (σ 8 58)))) h ?_ ?_
  · show At mX6_bottleneck 0 [some X, none, none, none, none] [] σ _
    have hb0 := ld_b h.1 0
    refine At.F 6 [some X, some (.inl (if (0 : Nat) = 0 then 0 else ld (σ 8 58) (btl (σ 8 58) 0))), some (.inl (nI (btl (σ 8 58) 0))), some (.inl (nI 0)), none] [] σ rfl ?_
    refine down_ind (N := SC (σ 8 58)) (P := fun n => ∀ d, At mX6_bottleneck 6 [some X, some (.inl (if n = 0 then 0 else ld (σ 8 58) (btl (σ 8 58) n))), some (.inl (nI (btl (σ 8 58) n))), some (.inl (nI n)), d] [] σ _) ?_ ?_ 0 (Nat.zero_le _) none
    · intro d
      refine At.Bt rfl (by rw [h.2.2.1.sc h.1]; exact ge_s) ?_
      exact At.R rfl
    · intro n hn ih d
      refine At.Bf rfl (by rw [h.2.2.1.sc h.1]; exact ge_n (by omega) hn) ?_
      refine At.Ci rfl (c_workAheadOf h.2.2.1 h.1 (by omega) n) ?_
      rw [if_neg (Nat.succ_ne_zero n), btl] at ih
      by_cases e0 : n = 0
      · subst e0
        rw [if_pos rfl] at ih
        refine At.B rfl (fun hc => ?_) (fun hc => ?_)
        · rw [if_pos rfl] at hc ⊢
          have e : ld (σ 8 58) 0 = 0 := by rw [fa_le] at hc; rw [fa_eq]; have : (0 : Int32).toInt = 0 := rfl; omega
          rw [e] at ih
          refine At.J rfl ?_
          rw [nI_1]
          exact ih _
        · refine At.J rfl ?_
          rw [nI_1]
          exact ih _
      · rw [if_neg e0] at ih
        refine At.B rfl (fun hc => ?_) (fun hc => ?_)
        · rw [if_neg e0] at hc ⊢
          rw [if_neg (le_nlt hc)] at ih
          refine At.J rfl ?_
          rw [nI_1]
          exact ih _
        · rw [if_neg e0] at hc
          rw [if_pos (fa_of_nle hc)] at ih
          refine At.J rfl ?_
          rw [nI_1]
          exact ih _
  · show At mX7_bottleneck 0 [some M, none, none] [] σ _
    refine At.F 5 [some M, none, none] [] (iU σ 7 0 5 0) rfl ?_
    have e := U7_r (σ := σ) (j := 5) (x := 0)
    have hr := h.1
    generalize iU σ 7 0 5 0 = τ at e ⊢
    rw [← e] at hr hom hsc ⊢
    refine At.F 9 [some M, some (.inl (nI (btl (τ 8 58) 1))), some (.inl (nI 1))] [] τ rfl ?_
    have hb := btl_b (τ 8 58)
    have key : ∀ n, n ≤ SC (τ 8 58) → 1 ≤ n → At mX7_bottleneck 9 [some M, some (.inl (nI (btl (τ 8 58) n))), some (.inl (nI n))] [] τ (evi (nI (btl (τ 8 58) (SC (τ 8 58)))) τ) := by
      refine down_ind (N := SC (τ 8 58)) ?_ ?_
      · intro _
        refine At.N rfl (v58 1 (by omega)) ?_
        rw [t1]
        refine At.Bt rfl (by rw [hsc.1]; exact ge_s) ?_
        exact At.R rfl
      · intro n hn ih h1
        have ih := ih (by omega)
        rw [btl, if_neg (by omega)] at ih
        refine At.N rfl (v58 1 (by omega)) ?_
        rw [t1]
        refine At.Bf rfl (by rw [hsc.1]; exact ge_n (by omega) hn) ?_
        refine At.Ci rfl (e_loadAt hr n) ?_
        refine At.Ci rfl (e_loadAt hr (btl (τ 8 58) n)) ?_
        refine At.B rfl (fun hc => ?_) (fun hc => ?_)
        · rw [if_neg (le_nlt hc)] at ih
          refine At.J rfl ?_
          rw [nI_1]
          exact ih
        · rw [if_pos (fa_of_nle hc)] at ih
          refine At.J rfl ?_
          refine At.J rfl ?_
          rw [nI_1]
          exact ih
    exact key 1 hsc.2.2 (Nat.le_refl _)
end LD
