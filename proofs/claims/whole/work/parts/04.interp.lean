/-! ===== THE INTERPRETER: the class's and the reference's bytecode run over ids (kind, number) and a memory of ints ===== -/
abbrev iV : Type := Int32 ⊕ (Nat × Nat)
abbrev iM : Type := Nat → Nat → Nat → Int32
abbrev iL : Type := List (Option iV)
abbrev iS : Type := List iV
/-- pc, instruction, next pc, a, b, c, d, w (the word's place), v, targets -/
abbrev iE : Type := Nat × Instr × Nat × Nat × Nat × Nat × Nat × Nat × Int32 × List (Int32 × Nat)
abbrev iEv : Type := (Nat × iL × iS × iM) ⊕ (Prop × Nat × Nat × iL × iS × iM) ⊕ (Prop × Nat × iL × iS × iM) ⊕ (Nat × List iV × Nat × iL × iS × iM) ⊕ (Option iV × iM) ⊕ (Int32 × iM) ⊕ (Int32 × List (Int32 × Nat) × Nat × iL × iS × iM) ⊕ (Nat × iM)
abbrev evJ (t : Nat) (L : iL) (S : iS) (σ : iM) : Option iEv := some (.inl (t, L, S, σ))
abbrev evB (c : Prop) (t1 t2 : Nat) (L : iL) (S : iS) (σ : iM) : Option iEv := some (.inr (.inl (c, t1, t2, L, S, σ)))
abbrev evN (c : Prop) (t : Nat) (L : iL) (S : iS) (σ : iM) : Option iEv := some (.inr (.inr (.inl (c, t, L, S, σ))))
abbrev evC (k : Nat) (as : List iV) (t : Nat) (L : iL) (S : iS) (σ : iM) : Option iEv := some (.inr (.inr (.inr (.inl (k, as, t, L, S, σ)))))
abbrev evR (v : Option iV) (σ : iM) : Option iEv := some (.inr (.inr (.inr (.inr (.inl (v, σ))))))
abbrev evZ (v : Int32) (σ : iM) : Option iEv := some (.inr (.inr (.inr (.inr (.inr (.inl (v, σ)))))))
abbrev evS (x : Int32) (ts : List (Int32 × Nat)) (t : Nat) (L : iL) (S : iS) (σ : iM) : Option iEv := some (.inr (.inr (.inr (.inr (.inr (.inr (.inl (x, ts, t, L, S, σ))))))))
abbrev evT (k : Nat) (σ : iM) : Option iEv := some (.inr (.inr (.inr (.inr (.inr (.inr (.inr (k, σ))))))))
/-- the memory with one place changed -/
def iU (σ : iM) (k i j : Nat) (x : Int32) : iM := fun k' i' j' => if k' = k ∧ i' = i ∧ j' = j then x else σ k' i' j'
/-- how many cells of a kind there are -/
def iCnt (k : Nat) : Nat := match k with
  | 0 => 96 | 1 => 24 | 2 => 1 | 3 => 4 | 4 => 4 | 5 => 24 | 6 => 1 | 7 => 1
  | 8 => 66 | 9 => 1 | 10 => 2 | 11 => 0 | 12 => 4 | 13 => 4 | 14 => 1 | 15 => 4 | 16 => 8 | _ => 0
/-- the length of an array -/
def iN (k i : Nat) : Nat := match k with
  | 8 => if i < 48 then 6 else if i < 56 then 24 else if i = 56 then 700 else if i = 57 then 24 else if i < 61 then 467 else if i = 61 then 934 else 24
  | 9 => 700 | 10 => 2 | 12 => 24 | 13 => 6 | 14 => 2 | _ => 6
/-- which cell a field refers to -/
def rfK {α : Sort _} (k i s : Nat) (f : Nat → α) : α := match k with
  | 1 => (match s with | 0 => f (2 * i) | _ => f (2 * i + 1))
  | 2 => (match s with | 0 => f 56 | _ => f 57)
  | 3 => (match s with | 0 => f (48 + 2 * i) | _ => f (49 + 2 * i))
  | 4 => f i
  | 6 => (match s with | 0 => f 0 | 1 => f 0 | 2 => f 1 | _ => f 0)
  | 7 => (match s with | 0 => f 58 | 1 => f 59 | 2 => f 60 | 3 => f 61 | 4 => f 1 | 6 => f 0 | 15 => f 62 | 16 => f 63 | 17 => f 64 | _ => f 65)
  | _ => f 0
/-- which cell a place of an array refers to -/
def raK {α : Sort _} (k i s : Nat) (f : Nat → α) : α := match k with
  | 12 => f (24 * i + s)
  | 13 => f (6 * i + s)
  | 14 => f (2 + s)
  | _ => f (6 * i + s)
/-- the kind that a field refers to, and one more; 0: a number -/
def iRk (k s : Nat) : Nat := match k with
  | 1 => (match s with | 0 => 9 | 1 => 9 | _ => 0)
  | 2 => (match s with | 0 => 9 | 7 => 9 | _ => 0)
  | 3 => (match s with | 0 => 9 | 1 => 9 | _ => 0)
  | 4 => (match s with | 0 => 16 | 1 => 14 | 2 => 13 | 3 => 4 | _ => 0)
  | 6 => (match s with | 0 => 3 | 1 => 5 | 2 => 5 | 3 => 15 | _ => 11)
  | 7 => (match s with | 0 => 9 | 1 => 9 | 2 => 9 | 3 => 9 | 4 => 11 | 6 => 10 | 15 => 9 | 16 => 9 | 17 => 9 | 18 => 9 | _ => 0)
  | _ => 0
/-- the kind of an array's elements -/
def iEk (k : Nat) : Nat := match k with | 12 => 0 | 13 => 1 | 14 => 4 | _ => 5
/-- the texts of the class and the reference -/
def sTx (i : Nat) : List Int32 := match i with
  | 0 => [115, 116, 97, 116, 105, 111, 110, 115]
  | 1 => [112, 114, 111, 100, 117, 99, 116]
  | 2 => [111, 114, 100, 101, 114]
  | 3 => [98, 117, 102, 102, 101, 114, 115]
  | 4 => [114, 111, 112, 101]
  | 5 => [114, 117, 108, 101]
  | 6 => [97, 117, 116, 111]
  | _ => [115, 101, 116, 117, 112]
def sLen (i : Nat) : Nat := (sTx i).length
def sCh (i k : Nat) : Int32 := (sTx i).getD k 0
/-- the locals -/
def geL : iL → Nat → (iV → Option iEv) → Option iEv
  | [], _, _ => none
  | o :: _, 0, k => (match o with | some v => k v | none => none)
  | _ :: t, i + 1, k => geL t i k
def seL : iL → Nat → iV → (iL → Option iEv) → Option iEv
  | [], _, _, _ => none
  | _ :: t, 0, v, k => k (some v :: t)
  | o :: t, i + 1, v, k => seL t i v (fun t' => k (o :: t'))
def popN : Nat → iS → List iV → (List iV → iS → Option iEv) → Option iEv
  | 0, S, acc, k => k acc S
  | _ + 1, [], _, _ => none
  | n + 1, v :: S, acc, k => popN n S (v :: acc) k
abbrev geI (L : iL) (i : Nat) (k : Int32 → Option iEv) : Option iEv := geL L i (fun v => match v with | .inl x => k x | .inr _ => none)
abbrev geR (L : iL) (i : Nat) (k : Nat → Nat → Option iEv) : Option iEv := geL L i (fun v => match v with | .inl _ => none | .inr (x, y) => k x y)
def iMax (x y : Int32) : Int32 := if x < y then y else x
def iMin (x y : Int32) : Int32 := if y < x then y else x
/-- one instruction; what comes behind it is ih -/
def stp (e : iE) (ih : iL → iS → iM → Option iEv) (L : iL) (S : iS) (σ : iM) : Option iEv :=
  match e with
  | (_, ins, nx, a, b, c, d, _, v, ts) =>
    match ins with
    | .iload_n _ => geI L a (fun x => ih L (.inl x :: S) σ)
    | .iload _ => geI L a (fun x => ih L (.inl x :: S) σ)
    | .aload_n _ => geR L a (fun k i => ih L (.inr (k, i) :: S) σ)
    | .aload _ => geR L a (fun k i => ih L (.inr (k, i) :: S) σ)
    | .istore_n _ => (match S with | .inl x :: S => seL L a (.inl x) (fun L => ih L S σ) | _ => none)
    | .istore _ => (match S with | .inl x :: S => seL L a (.inl x) (fun L => ih L S σ) | _ => none)
    | .astore_n _ => (match S with | .inr (k, i) :: S => seL L a (.inr (k, i)) (fun L => ih L S σ) | _ => none)
    | .astore _ => (match S with | .inr (k, i) :: S => seL L a (.inr (k, i)) (fun L => ih L S σ) | _ => none)
    | .iinc _ _ => geI L a (fun x => seL L a (.inl (x + v)) (fun L => ih L S σ))
    | .iconst _ => ih L (.inl v :: S) σ
    | .bipush _ => ih L (.inl v :: S) σ
    | .sipush _ => ih L (.inl v :: S) σ
    | .ldc _ => bif Nat.beq c 0 then ih L (.inl v :: S) σ else ih L (.inr (16, a) :: S) σ
    | .ldc_w _ => ih L (.inl v :: S) σ
    | .iadd => (match S with | .inl y :: .inl x :: S => ih L (.inl (x + y) :: S) σ | _ => none)
    | .isub => (match S with | .inl y :: .inl x :: S => ih L (.inl (x - y) :: S) σ | _ => none)
    | .imul => (match S with | .inl y :: .inl x :: S => ih L (.inl (x * y) :: S) σ | _ => none)
    | .iand => (match S with | .inl y :: .inl x :: S => ih L (.inl (x &&& y) :: S) σ | _ => none)
    | .idiv => (match S with | .inl y :: .inl x :: S => evN (¬ y = 0) nx L (.inl (x / y) :: S) σ | _ => none)
    | .ineg => (match S with | .inl x :: S => ih L (.inl (-x) :: S) σ | _ => none)
    | .i2b => (match S with | .inl x :: S => ih L (.inl x.toInt8.toInt32 :: S) σ | _ => none)
    | .dup => (match S with | x :: S => ih L (x :: x :: S) σ | _ => none)
    | .dup2 => (match S with | x :: y :: S => ih L (x :: y :: x :: y :: S) σ | _ => none)
    | .pop => (match S with | _ :: S => ih L S σ | _ => none)
    | .getfield _ => (match S with
      | .inr (k, i) :: S => bif Nat.beq k a then (bif Nat.beq c 0 then ih L (.inl (σ a i b) :: S) σ else rfK a i b (fun r => ih L (.inr (d, r) :: S) σ)) else none
      | _ => none)
    | .putfield _ => (match S with
      | .inl x :: .inr (k, i) :: S => bif Nat.beq k a then (bif Nat.beq c 0 then ih L S (iU σ a i b x) else evN (x = 0 ∨ x = 1) nx L S (iU σ a i b x)) else none
      | _ => none)
    | .iaload => (match S with | .inl i :: .inr (k, x) :: S => bif Nat.beq k 8 then evN (vp_in i (iN 8 x)) nx L (.inl (σ 8 x i.toNatClampNeg) :: S) σ else none | _ => none)
    | .baload => (match S with | .inl i :: .inr (k, x) :: S => bif Nat.beq k a then evN (vp_in i (iN a x)) nx L (.inl (σ a x i.toNatClampNeg) :: S) σ else none | _ => none)
    | .aaload => (match S with | .inl i :: .inr (k, x) :: S => bif Nat.beq k a then raK a x i.toNatClampNeg (fun r => evN (vp_in i (iN a x)) nx L (.inr (d, r) :: S) σ) else none | _ => none)
    | .iastore => (match S with | .inl y :: .inl i :: .inr (k, x) :: S => bif Nat.beq k 8 then evN (vp_in i (iN 8 x)) nx L S (iU σ 8 x i.toNatClampNeg y) else none | _ => none)
    | .bastore => (match S with
      | .inl y :: .inl i :: .inr (k, x) :: S => bif Nat.beq k a then (bif Nat.beq a 9 then evN (vp_in i (iN a x)) nx L S (iU σ a x i.toNatClampNeg (vp_nar .byte y)) else evN (vp_in i (iN a x)) nx L S (iU σ a x i.toNatClampNeg (vp_nar .boolean y))) else none
      | _ => none)
    | .arraylength => (match S with | .inr (k, x) :: S => bif Nat.beq k a then ih L (.inl (Int32.ofNat (iN a x)) :: S) σ else none | _ => none)
    | .goto _ => evJ a L S σ
    | .if_icmp cd _ => (match S with
      | .inl y :: .inl x :: S => (match cd with
        | .eq => evB (x = y) a nx L S σ
        | .ne => evB (x = y) nx a L S σ
        | .lt => evB (x < y) a nx L S σ
        | .ge => evB (y ≤ x) a nx L S σ
        | .gt => evB (y < x) a nx L S σ
        | .le => evB (x ≤ y) a nx L S σ)
      | _ => none)
    | .ifCond cd _ => (match S with
      | .inl x :: S => (match cd with
        | .eq => evB (x = 0) a nx L S σ
        | .ne => evB (x = 0) nx a L S σ
        | .lt => evB (x < 0) a nx L S σ
        | .ge => evB (0 ≤ x) a nx L S σ
        | .gt => evB (0 < x) a nx L S σ
        | .le => evB (x ≤ 0) a nx L S σ)
      | _ => none)
    | .tableswitch _ _ _ _ => (match S with | .inl x :: S => evS x ts a L S σ | _ => none)
    | .lookupswitch _ _ => (match S with | .inl x :: S => evS x ts a L S σ | _ => none)
    | .invokevirtual _ => (match d with
      | 0 => popN b S [] (fun as S => (match as with | .inr (k, _) :: _ => bif Nat.beq k c && Nat.ble S.length 8 then evC a as nx L S σ else none | _ => none))
      | 1 => (match S with | .inr (k, i) :: S => bif Nat.beq k 16 && Nat.ble S.length 8 then ih L (.inl (Int32.ofNat (sLen i)) :: S) σ else none | _ => none)
      | _ => (match S with | .inl y :: .inr (k, i) :: S => bif Nat.beq k 16 && Nat.ble S.length 8 then evN (vp_in y (sLen i)) nx L (.inl (sCh i y.toNatClampNeg) :: S) σ else none | _ => none))
    | .invokestatic _ => (match d with
      | 0 => popN b S [] (fun as S => bif Nat.ble S.length 8 then evC a as nx L S σ else none)
      | 1 => (match S with | .inl y :: .inl x :: S => bif Nat.ble S.length 8 then ih L (.inl (iMax x y) :: S) σ else none | _ => none)
      | _ => (match S with | .inl y :: .inl x :: S => bif Nat.ble S.length 8 then ih L (.inl (iMin x y) :: S) σ else none | _ => none))
    | .ireturn => (match S with | [.inl x] => bif Nat.beq c 0 then evR (some (.inl x)) σ else evZ x σ | _ => none)
    | .areturn => (match S with | [.inr (k, i)] => evR (some (.inr (k, i))) σ | _ => none)
    | .return_ => (match S with | [] => evR none σ | _ => none)
    | .new _ => (match S with | [] => evT a σ | _ => none)
    | _ => none
/-- the instructions from a place on, as far as something is to be decided -/
noncomputable def blk (is : List iE) : iL → iS → iM → Option iEv := List.rec (motive := fun _ => iL → iS → iM → Option iEv) (fun _ _ _ => none) (fun e _ ih => stp e ih) is
noncomputable def sfx (is : List iE) (pc : Nat) : List iE := List.rec (motive := fun _ => List iE) [] (fun e t ih => bif Nat.beq e.1 pc then e :: t else ih) is
def swT (x : Int32) : List (Int32 × Nat) → Nat → Nat
  | [], d => d
  | (v, t) :: ts, d => if x = v then t else swT x ts d
abbrev iRes : Type := (Option iV ⊕ Nat) × iM
/-- a value is a number, or a cell that there is -/
def vok : iV → Prop
  | .inl _ => True
  | .inr q => q.2 < iCnt q.1
def vokO : Option iV → Prop
  | none => True
  | some v => vok v
section
variable (tb : Nat → List iE) (en : Nat → List iV → iL)
noncomputable def rst (ih : Nat → Nat → iL → iS → iM → Option iRes) (j pc : Nat) (L : iL) (S : iS) (σ : iM) : Option iRes :=
  match blk (sfx (tb j) pc) L S σ with
  | none => none
  | some (.inl (t, L, S, σ)) => ih j t L S σ
  | some (.inr (.inl (c, t1, t2, L, S, σ))) => @ite _ c (Classical.propDecidable c) (ih j t1 L S σ) (ih j t2 L S σ)
  | some (.inr (.inr (.inl (c, t, L, S, σ)))) => @ite _ c (Classical.propDecidable c) (ih j t L S σ) none
  | some (.inr (.inr (.inr (.inl (k, as, t, L, S, σ))))) => (match ih k 0 (en k as) [] σ with
    | none => none
    | some (.inl v, σ) => @ite _ (vokO v) (Classical.propDecidable _) (ih j t L (v.toList ++ S) σ) none
    | some (.inr x, σ) => some (.inr x, σ))
  | some (.inr (.inr (.inr (.inr (.inl (v, σ)))))) => some (.inl v, σ)
  | some (.inr (.inr (.inr (.inr (.inr (.inl (v, σ))))))) => @ite _ (v = 0 ∨ v = 1) (Classical.propDecidable _) (some (.inl (some (.inl v)), σ)) none
  | some (.inr (.inr (.inr (.inr (.inr (.inr (.inl (x, ts, t, L, S, σ)))))))) => ih j (swT x ts t) L S σ
  | some (.inr (.inr (.inr (.inr (.inr (.inr (.inr (k, σ)))))))) => some (.inr k, σ)
noncomputable def run (n : Nat) : Nat → Nat → iL → iS → iM → Option iRes := Nat.rec (motive := fun _ => Nat → Nat → iL → iS → iM → Option iRes) (fun _ _ _ _ _ => none) (fun _ ih => rst tb en ih) n
theorem run_succ (n j pc : Nat) (L : iL) (S : iS) (σ : iM) : run tb en (n + 1) j pc L S σ = rst tb en (run tb en n) j pc L S σ := rfl
theorem rst_mono {f g : Nat → Nat → iL → iS → iM → Option iRes} (h : ∀ j pc L S σ r, f j pc L S σ = some r → g j pc L S σ = some r) (j pc : Nat) (L : iL) (S : iS) (σ : iM) (r : iRes) (hr : rst tb en f j pc L S σ = some r) : rst tb en g j pc L S σ = some r := by
  unfold rst at hr ⊢
  split at hr
  · cases hr
  · exact h _ _ _ _ _ _ hr
  · rename_i c t1 t2 L' S' σ' _
    by_cases hc : c
    · rw [if_pos hc] at hr ⊢; exact h _ _ _ _ _ _ hr
    · rw [if_neg hc] at hr ⊢; exact h _ _ _ _ _ _ hr
  · rename_i c t L' S' σ' _
    by_cases hc : c
    · rw [if_pos hc] at hr ⊢; exact h _ _ _ _ _ _ hr
    · rw [if_neg hc] at hr; cases hr
  · rename_i k as t L' S' σ' _
    cases hk : f k 0 (en k as) [] σ' with
    | none => rw [hk] at hr; cases hr
    | some q =>
      rw [hk] at hr
      rw [h _ _ _ _ _ _ hk]
      obtain ⟨q1, q2⟩ := q
      cases q1 with
      | inl v =>
        by_cases hv : vokO v
        · simp only [if_pos hv] at hr ⊢; exact h _ _ _ _ _ _ hr
        · simp only [if_neg hv] at hr; cases hr
      | inr x => exact hr
  · exact hr
  · exact hr
  · exact h _ _ _ _ _ _ hr
  · exact hr
theorem run_mono (n : Nat) : ∀ (j pc : Nat) (L : iL) (S : iS) (σ : iM) (r : iRes), run tb en n j pc L S σ = some r → run tb en (n + 1) j pc L S σ = some r := by
  induction n with
  | zero => intro j pc L S σ r h; cases h
  | succ n ih => intro j pc L S σ r h; exact rst_mono tb en ih j pc L S σ r h
theorem run_le {n m : Nat} (hnm : n ≤ m) {j pc : Nat} {L : iL} {S : iS} {σ : iM} {r : iRes} (h : run tb en n j pc L S σ = some r) : run tb en m j pc L S σ = some r := by
  induction m with
  | zero => have : n = 0 := by omega
            subst this; exact h
  | succ m ih =>
    by_cases hq : n = m + 1
    · subst hq; exact h
    · exact run_mono tb en m j pc L S σ r (ih (by omega))
end
