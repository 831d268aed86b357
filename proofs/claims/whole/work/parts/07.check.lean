/-! ===== the tables agree with the bytecode and the words: by program ===== -/
def iOwn (j : Nat) : String := (iIn j).1
def iY (j : Nat) : MethodName := (iIn j).2.1
def iCd (j : Nat) : ByteArray := (iIn j).2.2.1
def iMl (j : Nat) : Nat := (iIn j).2.2.2.1
def iRt (j : Nat) : Option FieldType := (iIn j).2.2.2.2.1
def iNa (j : Nat) : Nat := (iIn j).2.2.2.2.2.1
def iStt (j : Nat) : Bool := (iIn j).2.2.2.2.2.2.1
def iFr (j : Nat) : Nat := (iIn j).2.2.2.2.2.2.2.1
def iLo (j : Nat) : Nat := (iIn j).2.2.2.2.2.2.2.2.1
def iP0 (j : Nat) : Nat := (iIn j).2.2.2.2.2.2.2.2.2.1
def iP1 (j : Nat) : Nat := (iIn j).2.2.2.2.2.2.2.2.2.2.1
def iP2 (j : Nat) : Nat := (iIn j).2.2.2.2.2.2.2.2.2.2.2.1
def iP3 (j : Nat) : Nat := (iIn j).2.2.2.2.2.2.2.2.2.2.2.2.1
def iKd (j : Nat) : Nat := (iIn j).2.2.2.2.2.2.2.2.2.2.2.2.2
abbrev iEn (j : Nat) (as : List iV) : iL := as.map some ++ List.replicate (iMl j - as.length) none
def iCl (k : Nat) : vw_C := vwCl.getD k (RX0, TX0, 14)
def iTerm : Instr → Bool
  | .goto _ => true | .ireturn => true | .areturn => true | .return_ => true | .new _ => true
  | .tableswitch _ _ _ _ => true | .lookupswitch _ _ => true | _ => false
def swOk (pc : Nat) (lo : Int) : List Int → List (Int32 × Nat) → Bool
  | [], [] => true
  | o :: os, (v, t) :: ts => decide (v.toInt = lo) && decide ((pc : Int) + o = (t : Int)) && swOk pc (lo + 1) os ts
  | _, _ => false
def lkOk (pc : Nat) : List (Int × Int) → List (Int32 × Nat) → Bool
  | [], [] => true
  | (k, o) :: os, (v, t) :: ts => decide (v.toInt = k) && decide ((pc : Int) + o = (t : Int)) && lkOk pc os ts
  | _, _ => false
def chk (j : Nat) (e : iE) : Bool :=
  match e with
  | (pc, ins, nx, a, b, c, d, w, v, ts) =>
    decide (decode (iCd j) pc = .ok (ins, nx - pc)) && Nat.ble pc nx &&
    (match ins with
    | .iload_n k => Nat.beq k.val a && Nat.beq nx (pc + 1)
    | .iload k => Nat.beq k a && Nat.beq nx (pc + 2)
    | .aload_n k => Nat.beq k.val a && Nat.beq nx (pc + 1)
    | .aload k => Nat.beq k a && Nat.beq nx (pc + 2)
    | .istore_n k => Nat.beq k.val a && Nat.beq nx (pc + 1)
    | .istore k => Nat.beq k a && Nat.beq nx (pc + 2)
    | .astore_n k => Nat.beq k.val a && Nat.beq nx (pc + 1)
    | .astore k => Nat.beq k a && Nat.beq nx (pc + 2)
    | .iinc k n => Nat.beq k a && decide (Int32.ofInt n = v) && Nat.beq nx (pc + 3)
    | .iconst n => decide (Int32.ofInt n = v) && Nat.beq nx (pc + 1)
    | .bipush n => decide ((Int8.ofInt n).toInt32 = v) && Nat.beq nx (pc + 2)
    | .sipush n => decide ((Int16.ofInt n).toInt32 = v) && Nat.beq nx (pc + 3)
    | .ldc i => Nat.beq nx (pc + 2) && (bif Nat.beq c 0 then decide (twr[w]? = some (.constant (iOwn j) i v)) else (Nat.blt a 8 && decide ((iOwn j, i, a) ∈ strTab)))
    | .ldc_w i => Nat.beq nx (pc + 3) && Nat.beq c 0 && decide (twr[w]? = some (.constant (iOwn j) i v))
    | .iadd => Nat.beq nx (pc + 1)
    | .isub => Nat.beq nx (pc + 1)
    | .imul => Nat.beq nx (pc + 1)
    | .iand => Nat.beq nx (pc + 1)
    | .idiv => Nat.beq nx (pc + 1)
    | .ineg => Nat.beq nx (pc + 1)
    | .i2b => Nat.beq nx (pc + 1)
    | .dup => Nat.beq nx (pc + 1)
    | .dup2 => Nat.beq nx (pc + 1)
    | .pop => Nat.beq nx (pc + 1)
    | .getfield i => Nat.beq nx (pc + 3) && Nat.blt a 8 && Nat.blt b (iCl a).2.2 && decide (twr[w]? = some (.fieldLink (iOwn j) i ((iCl a).2.1 b).1 ((iCl a).2.1 b).2.1 ((iCl a).2.1 b).2.2.1)) && (bif Nat.beq c 0 then Nat.beq (iRk a b) 0 else Nat.beq (iRk a b) (d + 1))
    | .putfield i => Nat.beq nx (pc + 3) && Nat.blt a 8 && Nat.blt b (iCl a).2.2 && decide (twr[w]? = some (.fieldLink (iOwn j) i ((iCl a).2.1 b).1 ((iCl a).2.1 b).2.1 ((iCl a).2.1 b).2.2.1)) && Nat.beq (iRk a b) 0 && decide (((iCl a).2.1 b).2.2.2 = false) && decide (parseFieldDescriptor ((iCl a).2.1 b).2.2.1 = some (bif Nat.beq c 0 then .int else .boolean))
    | .iaload => Nat.beq nx (pc + 1)
    | .baload => Nat.beq nx (pc + 1) && (Nat.beq a 9 || Nat.beq a 10)
    | .aaload => Nat.beq nx (pc + 1) && Nat.ble 12 a && Nat.ble a 15 && Nat.beq d (iEk a)
    | .iastore => Nat.beq nx (pc + 1)
    | .bastore => Nat.beq nx (pc + 1) && (Nat.beq a 9 || Nat.beq a 10)
    | .arraylength => Nat.beq nx (pc + 1) && Nat.ble 8 a && Nat.ble a 15 && !(Nat.beq a 11)
    | .goto o => Nat.beq nx (pc + 3) && decide ((pc : Int) + o = (a : Int))
    | .if_icmp _ o => Nat.beq nx (pc + 3) && decide ((pc : Int) + o = (a : Int))
    | .ifCond _ o => Nat.beq nx (pc + 3) && decide ((pc : Int) + o = (a : Int))
    | .tableswitch df lo hi os => decide ((pc : Int) + df = (a : Int)) && swOk pc lo os.toList ts && decide (hi = lo + (os.toList.length : Int) - 1)
    | .lookupswitch df os => decide ((pc : Int) + df = (a : Int)) && lkOk pc os.toList ts && (os.toList.zip (os.toList.drop 1)).all (fun (a, next) => a.1 < next.1)
    | .invokevirtual i => Nat.beq nx (pc + 3) && (match d with
      | 0 => Nat.blt a nMt && decide (twr[w]? = some (.methodLink (iOwn j) i (iY a))) && !(iStt a) && Nat.beq b (iNa a) && Nat.beq c (iKd a) && Nat.ble (iFr a + 1) (iFr j) && Nat.ble (8 + (iMl a + 11) + iLo a) (iLo j)
      | 1 => decide (twr[w]? = some (.methodLink (iOwn j) i yJ_length)) && Nat.ble 5 (iFr j) && Nat.ble 120 (iLo j)
      | 2 => decide (twr[w]? = some (.methodLink (iOwn j) i yJ_charAt)) && Nat.ble 5 (iFr j) && Nat.ble 120 (iLo j)
      | _ => false)
    | .invokestatic i => Nat.beq nx (pc + 3) && (match d with
      | 0 => Nat.blt a nMt && decide (twr[w]? = some (.methodLink (iOwn j) i (iY a))) && iStt a && decide (iOwn a = iOwn j) && Nat.beq b (iNa a) && Nat.ble (iFr a + 1) (iFr j) && Nat.ble (8 + (iMl a + 11) + iLo a) (iLo j)
      | 1 => decide (twr[w]? = some (.methodLink (iOwn j) i Lib.Math.max.name)) && Nat.ble 1 (iFr j) && Nat.ble 21 (iLo j)
      | 2 => decide (twr[w]? = some (.methodLink (iOwn j) i Lib.Math.min.name)) && Nat.ble 1 (iFr j) && Nat.ble 21 (iLo j)
      | _ => false)
    | .ireturn => Nat.beq nx (pc + 1) && decide (iRt j = some (bif Nat.beq c 0 then .int else .boolean))
    | .areturn => Nat.beq nx (pc + 1) && (match iRt j with | some (.object _) => true | _ => false)
    | .return_ => Nat.beq nx (pc + 1) && decide (iRt j = none)
    | .new _ => true
    | _ => false)
def chn : List iE → Bool
  | [] => true
  | [_] => true
  | e :: e' :: t => (Nat.beq e.2.2.1 e'.1 || iTerm e.2.1) && chn (e' :: t)
def chkM (j : Nat) : Bool :=
  decide (twr[iP0 j]? = some (.code (iY j) (iCd j) (iMl j) (iRt j))) &&
  decide (twr[iP1 j]? = some (bif iStt j then .static (iY j) else .instanceMethod (iY j))) &&
  (iStt j || decide (twr[iP2 j]? = some (.selects (iOwn j) (iY j) (iY j)))) &&
  decide (twr[iP3 j]? = some (.initialized (iOwn j))) &&
  decide ((iY j).cls = iOwn j) && Nat.blt (iKd j) 8 && decide ((iCl (iKd j)).1 = iOwn j) && plainName (iOwn j) &&
  decide (iOwn j ≠ "java/lang/invoke/MethodHandle" ∧ iOwn j ≠ "java/lang/invoke/VarHandle") &&
  decide ((parseMethodDescriptor (iY j).desc).map (fun d => d.parameters.length) = some (bif iStt j then iNa j else iNa j - 1)) && Nat.ble (bif iStt j then 0 else 1) (iNa j) && Nat.ble (iNa j) (iMl j) &&
  (iTb j).all (chk j) && chn (iTb j) && (match iTb j with | e :: _ => Nat.beq e.1 0 | [] => false)
