/-! ===== the shop as a row of numbers (the reference's own row): words for it ===== -/
abbrev Row : Type := Nat → Int32
abbrev nn (x : Int32) : Nat := x.toNatClampNeg
abbrev rO (r : Row) (i w : Nat) : Int32 := r (131 + 14 * i + w)
abbrev rS (r : Row) (q w : Nat) : Int32 := r (11 + 7 * q + w)
abbrev rPn (r : Row) (p : Nat) : Int32 := r (53 + 13 * p)
abbrev rPs (r : Row) (p k : Nat) : Int32 := r (54 + 13 * p + 2 * k)
abbrev rPt (r : Row) (p k : Nat) : Int32 := r (55 + 13 * p + 2 * k)
abbrev SC (r : Row) : Nat := nn (r 1)
abbrev DR (r : Row) : Nat := nn (r 2)
abbrev PM (r : Row) : Nat := nn (r 3)
abbrev OM (r : Row) : Nat := nn (r 4)
abbrev oP (r : Row) (i : Nat) : Nat := nn (rO r i 0)
abbrev oK (r : Row) (i : Nat) : Nat := nn (rO r i 4)
abbrev sN (r : Row) (p : Nat) : Nat := nn (rPn r p)
def dSf (r : Row) (p : Nat) : Nat → Nat → Nat
  | 0, k => k
  | n + 1, k => if rPs r p k = r 2 then k else dSf r p n (k + 1)
def dS (r : Row) (p : Nat) : Nat := dSf r p 6 0
abbrev inR (x : Int32) (a b : Int) : Prop := a ≤ x.toInt ∧ x.toInt ≤ b
/-- numbers -/
theorem nn_of {x : Int32} {b : Nat} (h : inR x 0 b) (hb : b < 2 ^ 31) : x = nI (nn x) ∧ nn x ≤ b ∧ (x.toInt = (nn x : Int)) := by
  have h1 : nn x = x.toInt.toNat := rfl
  have h2 : (x.toInt = (nn x : Int)) := by rw [h1]; omega
  refine ⟨?_, by omega, h2⟩
  rw [fa_eq, nI_toInt (by omega)]
  exact h2
theorem nI_mul (a b : Nat) : nI a * nI b = nI (a * b) := by unfold nI; exact (Int32.ofNat_mul a b).symm
theorem nI_inj {a b : Nat} (ha : a < 2 ^ 31) (hb : b < 2 ^ 31) : nI a = nI b ↔ a = b := by
  constructor
  · intro h
    have := congrArg Int32.toInt h
    rw [nI_toInt ha, nI_toInt hb] at this
    omega
  · intro h; rw [h]
theorem nI_lt_iff {a b : Nat} (ha : a < 2 ^ 31) (hb : b < 2 ^ 31) : nI a < nI b ↔ a < b := by
  rw [fa_lt, nI_toInt ha, nI_toInt hb]; omega
theorem nI_le_iff {a b : Nat} (ha : a < 2 ^ 31) (hb : b < 2 ^ 31) : nI a ≤ nI b ↔ a ≤ b := by
  rw [fa_le, nI_toInt ha, nI_toInt hb]; omega
theorem down_ind {N : Nat} {P : Nat → Prop} (h0 : P N) (hs : ∀ i, i < N → P (i + 1) → P i) : ∀ i, i ≤ N → P i := by
  have key : ∀ d i, i + d = N → P i := by
    intro d
    induction d with
    | zero => intro i h; rw [Nat.add_zero] at h; rw [h]; exact h0
    | succ d ih => intro i h; exact hs i (by omega) (ih (i + 1) (by omega))
  intro i hi
  exact key (N - i) i (by omega)
theorem iU_same {σ : iM} {k i j : Nat} {x : Int32} : iU σ k i j x k i j = x := by simp [iU]
theorem iU_ne {σ : iM} {k i j k' i' j' : Nat} {x : Int32} (h : ¬ (k' = k ∧ i' = i ∧ j' = j)) : iU σ k i j x k' i' j' = σ k' i' j' := if_neg h
/-- an index of the row -/
theorem vin {n N : Nat} (h : n < N) (hN : N < 2 ^ 31) : vp_in (nI n) N := vp_in_nI h hN
theorem ixO (i w : Nat) : (131 + 14 * nI i + nI w : Int32) = nI (131 + 14 * i + w) := by rw [show (131 : Int32) = nI 131 from rfl, show (14 : Int32) = nI 14 from rfl, nI_mul, nI_add, nI_add]
theorem ixS (i w : Nat) : (11 + 7 * nI i + nI w : Int32) = nI (11 + 7 * i + w) := by rw [show (11 : Int32) = nI 11 from rfl, show (7 : Int32) = nI 7 from rfl, nI_mul, nI_add, nI_add]
theorem ixPn (i : Nat) : (53 + 13 * nI i + 0 : Int32) = nI (53 + 13 * i) := by rw [show (53 : Int32) = nI 53 from rfl, show (13 : Int32) = nI 13 from rfl, show (0 : Int32) = nI 0 from rfl, nI_mul, nI_add, nI_add]; rfl
theorem ixPs (i k : Nat) : (53 + 13 * nI i + 1 + 2 * nI k : Int32) = nI (54 + 13 * i + 2 * k) := by rw [show (53 : Int32) = nI 53 from rfl, show (13 : Int32) = nI 13 from rfl, show (1 : Int32) = nI 1 from rfl, show (2 : Int32) = nI 2 from rfl, nI_mul, nI_mul, nI_add, nI_add, nI_add]; congr 1; omega
theorem ixPt (i k : Nat) : (53 + 13 * nI i + 1 + 2 * nI k + 1 : Int32) = nI (55 + 13 * i + 2 * k) := by rw [ixPs, show (1 : Int32) = nI 1 from rfl, nI_add]; congr 1; omega
/-- what holds of a product, an order, a station -/
def PI (r : Row) (p : Nat) : Prop := inR (rPn r p) 1 6 ∧ (∀ k, k < sN r p → inR (rPs r p k) 0 5 ∧ nn (rPs r p k) < SC r ∧ inR (rPt r p k) 1 20) ∧ dS r p < sN r p ∧ rPs r p (dS r p) = r 2 ∧ (∀ k, k < sN r p → rPs r p k = r 2 → k = dS r p)
def OI0 (r : Row) (i : Nat) : Prop := rO r i 4 = -1 ∧ rO r i 6 = 0 ∧ rO r i 7 = 0 ∧ rO r i 8 = -1 ∧ rO r i 11 = -1
/-- in the stations m a step that is worked on has work left -/
def OI1 (m : Nat → Prop) (r : Row) (i : Nat) : Prop := inR (rO r i 4) 0 5 ∧ oK r i < sN r (oP r i) ∧ inR (rO r i 8) 0 40000 ∧ rO r i 11 = -1 ∧ ((rO r i 6 = 0 ∧ rO r i 7 = 0) ∨ (rO r i 6 = 1 ∧ inR (rO r i 7) 0 1050 ∧ (m (nn (rPs r (oP r i) (oK r i))) → 1 ≤ (rO r i 7).toInt) ∧ rS r (nn (rPs r (oP r i) (oK r i))) 0 = nI i))
def OI2 (r : Row) (i : Nat) : Prop := rO r i 4 = rPn r (oP r i) ∧ rO r i 6 = 0 ∧ rO r i 7 = 0 ∧ inR (rO r i 8) 0 40000 ∧ inR (rO r i 11) 0 40000
def OIg (m : Nat → Prop) (r : Row) (i : Nat) : Prop := inR (rO r i 0) 0 5 ∧ oP r i < PM r ∧ inR (rO r i 1) 1 50 ∧ inR (rO r i 2) 0 30000 ∧ inR (rO r i 5) 0 40000 ∧ inR (rO r i 9) (-500) 40000 ∧ inR (rO r i 10) 0 40000 ∧ (rO r i 12 = 0 ∨ rO r i 12 = 1) ∧
  ((rO r i 3 = 0 ∧ OI0 r i) ∨ (rO r i 3 = 3 ∧ OI0 r i) ∨ (rO r i 3 = 1 ∧ OI1 m r i) ∨ (rO r i 3 = 2 ∧ OI2 r i))
abbrev OI (r : Row) (i : Nat) : Prop := OIg (fun _ => True) r i
def SI (r : Row) (q : Nat) : Prop := inR (rS r q 2) 0 40500 ∧ inR (rS r q 5) 0 50 ∧ (rS r q 0 = -1 ∨ (inR (rS r q 0) 0 23 ∧ nn (rS r q 0) < OM r ∧ rO r (nn (rS r q 0)) 3 = 1 ∧ rO r (nn (rS r q 0)) 6 = 1 ∧ rPs r (oP r (nn (rS r q 0))) (oK r (nn (rS r q 0))) = nI q))
/-- what holds of a row -/
def RIg (m : Nat → Prop) (r : Row) : Prop := inR (r 0) 0 40000 ∧ inR (r 1) 1 6 ∧ (inR (r 2) 0 5 ∧ DR r < SC r) ∧ inR (r 3) 0 6 ∧ inR (r 4) 0 24 ∧ inR (r 5) 1 500 ∧ inR (r 6) 1 500 ∧ inR (r 7) 1 5000 ∧ inR (r 8) 0 3 ∧ inR (r 9) 0 1 ∧
  (∀ p, p < PM r → PI r p) ∧ (∀ i, i < OM r → OIg m r i) ∧ (∀ q, q < SC r → SI r q)
abbrev RI (r : Row) : Prop := RIg (fun _ => True) r
theorem inR.mono {x : Int32} {a b a' b' : Int} (h : inR x a b) (h1 : a' ≤ a) (h2 : b ≤ b') : inR x a' b' := ⟨by omega, by omega⟩
theorem inR.toN {x : Int32} {a b : Int} (h : inR x a b) (ha : 0 ≤ a) (hb : b < 2147483648) : x = nI (nn x) ∧ nn x ≤ b.toNat ∧ a.toNat ≤ nn x ∧ x.toInt = (nn x : Int) := by
  have h0 := nn_of (x := x) (b := b.toNat) ⟨by omega, by omega⟩ (by omega)
  exact ⟨h0.1, h0.2.1, by omega, h0.2.2⟩
/-- the words of the shop -/
abbrev opn (r : Row) (i : Nat) : Prop := rO r i 3 = 0 ∨ rO r i 3 = 1
abbrev bef (r : Row) (i : Nat) : Prop := opn r i ∧ (rO r i 4 < nI (dS r (oP r i)) ∨ (rO r i 4 = nI (dS r (oP r i)) ∧ rO r i 6 = 0))
abbrev past (r : Row) (i : Nat) : Prop := nI (dS r (oP r i)) < rO r i 4
abbrev dnn (r : Row) (q : Nat) : Prop := r 0 < rS r q 2
def wk (r : Row) (i : Nat) : Int32 := rPt r (oP r i) (dS r (oP r i)) * rO r i 1
def pen (r : Row) (i : Nat) : Int32 := if rO r i 3 = 1 then iMax 0 (1000 * (r 0 - (if bef r i then rO r i 9 else rO r i 2 - r 6)) / (if bef r i then r 5 else r 6)) else 0
def zon (r : Row) (i : Nat) : Int32 := if rO r i 3 = 1 then iMin 3 (3 * pen r i / 1000) else -1
abbrev wts (r : Row) (i q : Nat) : Prop := rO r i 3 = 1 ∧ rO r i 6 = 0 ∧ rPs r (oP r i) (oK r i) = nI q
def wH (r : Row) (i : Nat) : Int32 := rPt r (oP r i) (oK r i) * rO r i 1
abbrev urg (r : Row) (i : Nat) : Prop := rO r i 12 = 1 ∨ (r 9 = 1 ∧ 2 ≤ zon r i)
def wor (r : Row) (i : Nat) : Int32 := if r 8 = 0 then rO r i 5 else if r 8 = 1 then -(pen r i) else if r 8 = 2 then rO r i 2 else wH r i
abbrev btr (r : Row) (i j : Nat) : Prop := (urg r i ∧ ¬ urg r j) ∨ ((urg r i ↔ urg r j) ∧ wor r i < wor r j)
/-- which of the first n orders a station chooses -/
def cho (r : Row) (q : Nat) : Nat → Int32
  | 0 => -1
  | n + 1 => if wts r n q ∧ (cho r q n = -1 ∨ btr r n (nn (cho r q n))) then nI n else cho r q n
/-- sums over the first n orders -/
def sumN (f : Nat → Int32) : Nat → Int32
  | 0 => 0
  | n + 1 => sumN f n + f n
/-- rows in the memory -/
def mR (σ : iM) (a : Nat) (r : Row) : iM := fun k i j => if k = 8 ∧ i = a then r j else σ k i j
theorem mR_at {σ : iM} {a : Nat} {r : Row} : mR σ a r 8 a = r := by funext j; simp [mR]
theorem mR_ne {σ : iM} {a : Nat} {r : Row} {k i j : Nat} (h : ¬ (k = 8 ∧ i = a)) : mR σ a r k i j = σ k i j := if_neg h
theorem iU_mR {σ : iM} {a j : Nat} {x : Int32} : iU σ 8 a j x = mR σ a (upd (σ 8 a) j x) := by
  funext k i j'
  simp only [iU, mR, upd]
  by_cases h1 : k = 8 <;> by_cases h2 : i = a <;> by_cases h3 : j' = j <;> simp [h1, h2, h3]
theorem mR_mR {σ : iM} {a : Nat} {r r' : Row} : mR (mR σ a r) a r' = mR σ a r' := by
  funext k i j
  simp only [mR]
  by_cases h : k = 8 ∧ i = a <;> simp [h]
theorem mR_self {σ : iM} {a : Nat} : mR σ a (σ 8 a) = σ := by
  funext k i j
  simp only [mR]
  by_cases h : k = 8 ∧ i = a
  · obtain ⟨rfl, rfl⟩ := h; simp
  · simp [h]
theorem t0 : Int32.toNatClampNeg 0 = 0 := rfl
theorem t1 : Int32.toNatClampNeg 1 = 1 := rfl
theorem t2 : Int32.toNatClampNeg 2 = 2 := rfl
theorem t3 : Int32.toNatClampNeg 3 = 3 := rfl
theorem t4 : Int32.toNatClampNeg 4 = 4 := rfl
theorem t5 : Int32.toNatClampNeg 5 = 5 := rfl
theorem t6 : Int32.toNatClampNeg 6 = 6 := rfl
theorem t7 : Int32.toNatClampNeg 7 = 7 := rfl
theorem t8 : Int32.toNatClampNeg 8 = 8 := rfl
theorem t9 : Int32.toNatClampNeg 9 = 9 := rfl
theorem t10 : Int32.toNatClampNeg 10 = 10 := rfl
theorem RIg.ord {m : Nat → Prop} {r : Row} (h : RIg m r) {i : Nat} (hi : i < OM r) : OIg m r i := h.2.2.2.2.2.2.2.2.2.2.2.1 i hi
theorem RIg.prd {m : Nat → Prop} {r : Row} (h : RIg m r) {p : Nat} (hp : p < PM r) : PI r p := h.2.2.2.2.2.2.2.2.2.2.1 p hp
theorem RIg.sta {m : Nat → Prop} {r : Row} (h : RIg m r) {q : Nat} (hq : q < SC r) : SI r q := h.2.2.2.2.2.2.2.2.2.2.2.2 q hq
theorem RIg.om {m : Nat → Prop} {r : Row} (h : RIg m r) : r 4 = nI (OM r) ∧ OM r ≤ 24 := by have := h.2.2.2.2.1.toN (by omega) (by omega); exact ⟨this.1, this.2.1⟩
theorem RIg.pm {m : Nat → Prop} {r : Row} (h : RIg m r) : r 3 = nI (PM r) ∧ PM r ≤ 6 := by have := h.2.2.2.1.toN (by omega) (by omega); exact ⟨this.1, this.2.1⟩
theorem RIg.sc {m : Nat → Prop} {r : Row} (h : RIg m r) : r 1 = nI (SC r) ∧ SC r ≤ 6 ∧ 1 ≤ SC r := by have := h.2.1.toN (by omega) (by omega); exact ⟨this.1, this.2.1, this.2.2.1⟩
theorem RIg.dr {m : Nat → Prop} {r : Row} (h : RIg m r) : r 2 = nI (DR r) ∧ DR r < SC r ∧ DR r < 6 := by have := h.2.2.1.1.toN (by omega) (by omega); exact ⟨this.1, h.2.2.1.2, Nat.lt_of_lt_of_le h.2.2.1.2 h.sc.2.1⟩
theorem OIg.p {m : Nat → Prop} {r : Row} {i : Nat} (h : OIg m r i) : rO r i 0 = nI (oP r i) ∧ oP r i < PM r := by have := h.1.toN (by omega) (by omega); exact ⟨this.1, h.2.1⟩
/-- a released order's step -/
theorem OIg.k {m : Nat → Prop} {r : Row} {i : Nat} (h : OIg m r i) (h1 : rO r i 3 = 1) : OI1 m r i := by
  rcases h.2.2.2.2.2.2.2.2 with q | q | q | q
  · rw [h1] at q; exact absurd q.1 (by decide)
  · rw [h1] at q; exact absurd q.1 (by decide)
  · exact q.2
  · rw [h1] at q; exact absurd q.1 (by decide)
theorem OI1.k {m : Nat → Prop} {r : Row} {i : Nat} (h : OI1 m r i) : rO r i 4 = nI (oK r i) ∧ oK r i < sN r (oP r i) := by have := h.1.toN (by omega) (by omega); exact ⟨this.1, h.2.1⟩
theorem PI.n {r : Row} {p : Nat} (h : PI r p) : rPn r p = nI (sN r p) ∧ sN r p ≤ 6 ∧ 1 ≤ sN r p := by have := h.1.toN (by omega) (by omega); exact ⟨this.1, this.2.1, this.2.2.1⟩
theorem PI.d {r : Row} {p : Nat} (h : PI r p) : dS r p < sN r p ∧ dS r p < 6 ∧ rPs r p (dS r p) = r 2 := ⟨h.2.2.1, Nat.lt_of_lt_of_le h.2.2.1 h.n.2.1, h.2.2.2.1⟩
theorem RIg.op {m : Nat → Prop} {r : Row} (h : RIg m r) {i : Nat} (hi : i < OM r) : i < 24 ∧ rO r i 0 = nI (oP r i) ∧ oP r i < 6 ∧ PI r (oP r i) ∧ OIg m r i := by
  have h1 := h.ord hi
  have h2 := h1.p
  have h3 := h.om
  have h4 := h.pm
  exact ⟨by omega, h2.1, by omega, h.prd h2.2, h1⟩
theorem le_nlt {a b : Int32} (h : a ≤ b) : ¬ b < a := by rw [fa_le] at h; rw [fa_lt]; omega
theorem lt_nle {a b : Int32} (h : a < b) : ¬ b ≤ a := by rw [fa_lt] at h; rw [fa_le]; omega
theorem iN58 : iN 8 58 = 467 := rfl
theorem v58 (n : Nat) (h : n < 467) : vp_in (nI n) (iN 8 58) := vin h (by show 467 < _; omega)
theorem RIg.st {m : Nat → Prop} {r : Row} (h : RIg m r) {i : Nat} (hi : i < OM r) (h1 : rO r i 3 = 1) : rO r i 4 = nI (oK r i) ∧ oK r i < sN r (oP r i) ∧ oK r i < 6 := by
  obtain ⟨a1, a2, a3, a4, a5⟩ := h.op hi
  have b := (a5.k h1).k
  exact ⟨b.1, b.2, Nat.lt_of_lt_of_le b.2 a4.n.2.1⟩
