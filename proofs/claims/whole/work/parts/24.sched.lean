/-! ===== the schedule of the drum: as lists, and in arrays ===== -/
def insR (d : Nat → Int32) : List Nat → Nat → List Nat
  | [], i => [i]
  | x :: t, i => if d i < d x then x :: insR d t i else i :: x :: t
/-- the orders before the drum by their due times, the last first -/
def schL (r : Row) : Nat → List Nat
  | 0 => []
  | n + 1 => if bef r n then insR (fun i => rO r i 2) (schL r n) n else schL r n
def bk (r : Row) : Option Int32 → List Nat → List (Nat × Int32)
  | _, [] => []
  | o, x :: t => (fun s => (x, s) :: bk r (some s) t) ((match o with | none => rO r x 2 - r 6 | some s => iMin (rO r x 2 - r 6) s) - wk r x)
def fwF (r : Row) : Int32 → List (Nat × Int32) → List (Nat × Int32)
  | _, [] => []
  | e, (x, s) :: t => (fun s => (x, s) :: fwF r (s + wk r x) t) (if s < e then e else s)
/-- the schedule: orders and their starts, the first first -/
def schF (r : Row) : List (Nat × Int32) := fwF r (earl r) (bk r none (schL r (OM r))).reverse
theorem insR_len (d : Nat → Int32) (l : List Nat) (i : Nat) : (insR d l i).length = l.length + 1 := by
  induction l with
  | nil => rfl
  | cons x t ih => rw [insR]; by_cases h : d i < d x <;> simp [h, ih]
theorem insR_mem (d : Nat → Int32) (l : List Nat) (i x : Nat) : x ∈ insR d l i ↔ x = i ∨ x ∈ l := by
  induction l with
  | nil => simp [insR]
  | cons y t ih =>
    rw [insR]
    by_cases h : d i < d y
    · rw [if_pos h, List.mem_cons, ih, List.mem_cons]
      constructor
      · rintro (q | q | q) <;> simp [q]
      · rintro (q | q | q) <;> simp [q]
    · rw [if_neg h, List.mem_cons]
theorem schL_mem (r : Row) : ∀ (n x : Nat), x ∈ schL r n ↔ x < n ∧ bef r x := by
  intro n
  induction n with
  | zero => intro x; simp [schL]
  | succ n ih =>
    intro x
    rw [schL]
    by_cases h : bef r n
    · rw [if_pos h, insR_mem, ih]
      constructor
      · rintro (q | q)
        · subst q; exact ⟨by omega, h⟩
        · exact ⟨by omega, q.2⟩
      · rintro ⟨q1, q2⟩
        by_cases e : x = n
        · exact Or.inl e
        · exact Or.inr ⟨by omega, q2⟩
    · rw [if_neg h, ih]
      constructor
      · rintro ⟨q1, q2⟩; exact ⟨by omega, q2⟩
      · rintro ⟨q1, q2⟩
        refine ⟨?_, q2⟩
        by_cases e : x = n
        · subst e; exact absurd q2 h
        · omega
theorem schL_len (r : Row) : ∀ n, (schL r n).length ≤ n := by
  intro n
  induction n with
  | zero => simp [schL]
  | succ n ih =>
    rw [schL]
    by_cases h : bef r n
    · rw [if_pos h, insR_len]; omega
    · rw [if_neg h]; omega
theorem bk_len (r : Row) : ∀ (l : List Nat) (o : Option Int32), (bk r o l).length = l.length := by
  intro l
  induction l with
  | nil => intro o; rfl
  | cons x t ih => intro o; simp [bk, ih]
theorem fwF_len (r : Row) : ∀ (l : List (Nat × Int32)) (e : Int32), (fwF r e l).length = l.length := by
  intro l
  induction l with
  | nil => intro o; rfl
  | cons x t ih => intro o; simp [fwF, ih]
theorem bk_fst (r : Row) : ∀ (l : List Nat) (o : Option Int32), (bk r o l).map Prod.fst = l := by
  intro l
  induction l with
  | nil => intro o; rfl
  | cons x t ih => intro o; simp [bk, ih]
theorem fwF_fst (r : Row) : ∀ (l : List (Nat × Int32)) (e : Int32), (fwF r e l).map Prod.fst = l.map Prod.fst := by
  intro l
  induction l with
  | nil => intro o; rfl
  | cons x t ih => intro o; simp [fwF, ih]
theorem schF_fst (r : Row) : (schF r).map Prod.fst = (schL r (OM r)).reverse := by
  unfold schF
  rw [fwF_fst, List.map_reverse, bk_fst]
theorem schF_len (r : Row) : (schF r).length = (schL r (OM r)).length := by
  have := congrArg List.length (schF_fst r)
  simpa using this
theorem schF_mem {r : Row} {x : Nat} {s : Int32} (h : (x, s) ∈ schF r) : x < OM r ∧ bef r x := by
  have h1 : x ∈ (schF r).map Prod.fst := List.mem_map.mpr ⟨_, h, rfl⟩
  rw [schF_fst, List.mem_reverse, schL_mem] at h1
  exact h1
/-- a reversed list from place m on -/
def sh (a : Row) : List Nat → Nat → Prop
  | [], _ => True
  | x :: t, m => a (m + t.length) = nI x ∧ sh a t m
theorem sh_app (a : Row) : ∀ (u v : List Nat) (m : Nat), sh a (u ++ v) m ↔ sh a u (m + v.length) ∧ sh a v m := by
  intro u
  induction u with
  | nil => intro v m; simp [sh]
  | cons x t ih =>
    intro v m
    rw [List.cons_append, sh, sh, ih, List.length_append, and_assoc]
    rw [show m + (t.length + v.length) = m + v.length + t.length by omega]
theorem sh_upd (a : Row) (k : Nat) (y : Int32) : ∀ (u : List Nat) (m : Nat), (k < m ∨ m + u.length ≤ k) → (sh (upd a k y) u m ↔ sh a u m) := by
  intro u
  induction u with
  | nil => intro m _; simp [sh]
  | cons x t ih =>
    intro m h
    rw [List.length_cons] at h
    rw [sh, sh, ih m (by omega), upd_ne' (by omega)]
/-- starts, reversed, from place m on -/
def s2 (b : Row) : List (Nat × Int32) → Nat → Prop
  | [], _ => True
  | (_, s) :: t, m => b (m + t.length) = s ∧ s2 b t m
theorem s2_app (b : Row) : ∀ (u v : List (Nat × Int32)) (m : Nat), s2 b (u ++ v) m ↔ s2 b u (m + v.length) ∧ s2 b v m := by
  intro u
  induction u with
  | nil => intro v m; simp [s2]
  | cons x t ih =>
    intro v m
    obtain ⟨x, s⟩ := x
    rw [List.cons_append, s2, s2, ih, List.length_append, and_assoc]
    rw [show m + (t.length + v.length) = m + v.length + t.length by omega]
theorem s2_upd (b : Row) (k : Nat) (y : Int32) : ∀ (u : List (Nat × Int32)) (m : Nat), (k < m ∨ m + u.length ≤ k) → (s2 (upd b k y) u m ↔ s2 b u m) := by
  intro u
  induction u with
  | nil => intro m _; simp [s2]
  | cons x t ih =>
    intro m h
    obtain ⟨x, s⟩ := x
    rw [List.length_cons] at h
    rw [s2, s2, ih m (by omega), upd_ne' (by omega)]
/-- orders, starts in their order, from place m on -/
def rF (a b : Row) : List (Nat × Int32) → Nat → Prop
  | [], _ => True
  | (x, s) :: t, m => a m = nI x ∧ b m = s ∧ rF a b t (m + 1)
theorem rF_app (a b : Row) : ∀ (u v : List (Nat × Int32)) (m : Nat), rF a b (u ++ v) m ↔ rF a b u m ∧ rF a b v (m + u.length) := by
  intro u
  induction u with
  | nil => intro v m; simp [rF]
  | cons x t ih =>
    intro v m
    obtain ⟨x, s⟩ := x
    rw [List.cons_append, rF, rF, ih, List.length_cons, and_assoc, and_assoc]
    rw [show m + (t.length + 1) = m + 1 + t.length by omega]
theorem rF_rev (a b : Row) : ∀ (w : List (Nat × Int32)), sh a (w.map Prod.fst) 0 → s2 b w 0 → rF a b w.reverse 0 := by
  intro w
  induction w with
  | nil => intro _ _; trivial
  | cons x t ih =>
    obtain ⟨x, s⟩ := x
    intro h1 h2
    rw [List.map_cons, sh] at h1
    rw [s2] at h2
    rw [List.reverse_cons, rF_app]
    refine ⟨ih h1.2 h2.2, ?_⟩
    rw [List.length_reverse, rF]
    refine ⟨?_, ?_, trivial⟩
    · have := h1.1; rw [List.length_map] at this; exact this
    · exact h2.1
theorem rF_get (a b : Row) : ∀ (u : List (Nat × Int32)) (m k : Nat) (x : Nat) (s : Int32), rF a b u m → u[k]? = some (x, s) → a (m + k) = nI x ∧ b (m + k) = s := by
  intro u
  induction u with
  | nil => intro m k x s _ h; simp at h
  | cons y t ih =>
    obtain ⟨y, z⟩ := y
    intro m k x s h hk
    rw [rF] at h
    cases k with
    | zero => simp at hk; obtain ⟨rfl, rfl⟩ := hk; exact ⟨h.1, h.2.1⟩
    | succ k =>
      rw [List.getElem?_cons_succ] at hk
      have := ih (m + 1) k x s h.2.2 hk
      rw [show m + (k + 1) = m + 1 + k by omega]
      exact this
theorem rF_upd (a b : Row) (k : Nat) (y : Int32) : ∀ (u : List (Nat × Int32)) (m : Nat), (k < m ∨ m + u.length ≤ k) → (rF a (upd b k y) u m ↔ rF a b u m) := by
  intro u
  induction u with
  | nil => intro m _; simp [rF]
  | cons x t ih =>
    intro m h
    obtain ⟨x, s⟩ := x
    rw [List.length_cons] at h
    rw [rF, rF, ih (m + 1) (by omega), upd_ne' (by omega)]
/-- the reference's scratch rows -/
def mS (σ : iM) (a b c : Row) (n : Int32) : iM := fun k i j => if k = 8 ∧ i = 63 then a j else if k = 8 ∧ i = 64 then b j else if k = 8 ∧ i = 65 then c j else if k = 7 ∧ i = 0 ∧ j = 19 then n else σ k i j
section MS
variable {σ : iM} {a b c : Row} {n x : Int32}
theorem mS_58 : mS σ a b c n 8 58 = σ 8 58 := by funext j; simp [mS]
theorem mS_a : mS σ a b c n 8 63 = a := by funext j; simp [mS]
theorem mS_b : mS σ a b c n 8 64 = b := by funext j; simp [mS]
theorem mS_c : mS σ a b c n 8 65 = c := by funext j; simp [mS]
theorem mS_n : mS σ a b c n 7 0 19 = n := by simp [mS]
theorem mS_ua {k : Nat} : iU (mS σ a b c n) 8 63 k x = mS σ (upd a k x) b c n := by
  funext p q j; simp only [iU, mS, upd]
  by_cases h1 : p = 8 <;> by_cases h2 : q = 63 <;> by_cases h3 : j = k <;> simp [h1, h2, h3]
theorem mS_ub {k : Nat} : iU (mS σ a b c n) 8 64 k x = mS σ a (upd b k x) c n := by
  funext p q j; simp only [iU, mS, upd]
  by_cases h1 : p = 8 <;> by_cases h2 : q = 64 <;> by_cases h3 : j = k <;> simp [h1, h2, h3]
theorem mS_uc {k : Nat} : iU (mS σ a b c n) 8 65 k x = mS σ a b (upd c k x) n := by
  funext p q j; simp only [iU, mS, upd]
  by_cases h1 : p = 8 <;> by_cases h2 : q = 65 <;> by_cases h3 : j = k <;> simp [h1, h2, h3]
theorem mS_un : iU (mS σ a b c n) 7 0 19 x = mS σ a b c x := by
  funext p q j; simp only [iU, mS]
  by_cases h1 : p = 7 <;> by_cases h2 : q = 0 <;> by_cases h3 : j = 19 <;> simp [h1, h2, h3]
theorem mS_self : mS σ (σ 8 63) (σ 8 64) (σ 8 65) (σ 7 0 19) = σ := by
  funext p q j; simp only [mS]
  by_cases h1 : p = 8 ∧ q = 63
  · obtain ⟨rfl, rfl⟩ := h1; simp
  · rw [if_neg h1]
    by_cases h2 : p = 8 ∧ q = 64
    · obtain ⟨rfl, rfl⟩ := h2; simp
    · rw [if_neg h2]
      by_cases h3 : p = 8 ∧ q = 65
      · obtain ⟨rfl, rfl⟩ := h3; simp
      · rw [if_neg h3]
        by_cases h4 : p = 7 ∧ q = 0 ∧ j = 19
        · obtain ⟨rfl, rfl, rfl⟩ := h4; simp
        · rw [if_neg h4]
end MS
