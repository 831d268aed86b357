/-! ===== a constructor's call; the loop that fills an array with new objects ===== -/
section LOOP
variable {p : Program} {l : Launch} {e : Env} {R : Room} {s : State} {m : MethodId} {args : Array Value} {below : List Frame} {meth : Method} {c : Code} {H : Heap} {locs : List Loc} {cells slots : Nat} {Q : State → Prop}
variable {cc : ByteArray} {pc : Nat} {ls : Array Slot} {rest : List Value} {D : va_G} {cy : Nat → ClassId} {h n : Nat} {G : Nat → va_E} {H0 : Heap} {c0 : Cond} {own : String}
theorem b_call {mc ms w : Nat} {Cf : Nat → va_E} {st0 : List Value} {av : Array Value} (hr : va_Run p l e R s m args below meth c H locs cells slots mc ms (F0 m pc ls st0) rest (cQ D (h + n) w Cf av) (cF (h + n))) (hS : cS D (cF h) h (n + 1) (h + (n + 1)) G H0 H locs)
    (kk : ∀ (H1 : Heap) (locs1 : List Loc), cS D (cF h) h (n + w) (h + (n + w)) (fun k => if k < n then G k else Cf (k - n)) H0 H1 locs1 → W p l e R s m args below meth c H1 locs1 (cells + mc) (slots + ms) Q (F0 m (pc + 3) ls rest)) : W p l e R s m args below meth c H locs cells slots Q (F0 m pc ls st0) := by
  intro T hT X
  obtain ⟨v, st₀, t, T', L, h0, X', hL, e1, e2, ⟨hv, hz, hc, hk⟩, st⟩ := hr T hT X
  cases hv
  have hold : ∀ q, q < h + n → T'.heap[q]? = H[q]? := fun q hq => by rw [e1, hk q hq, h0]
  obtain ⟨t2, a1, b1⟩ := kk T'.heap (locs ++ L) ⟨by rw [e1, hz]; omega, fun k hk9 => by
    by_cases hkn : k < n
    · simp only [if_pos hkn]
      exact (hS.2.1 k (by omega)).kept (hold _ (by show h + k < h + n; omega))
    · simp only [if_neg hkn]
      have h1 := hc (k - n) (by omega)
      rw [show h + n + (k - n) = h + k by omega, ← e1] at h1
      exact h1, fun q hq => by
    have hq2 : q < h := Nat.lt_of_not_le hq
    rw [hold q (by omega)]
    exact hS.2.2.1 q hq, fun z hz9 => (List.mem_append.mp hz9).elim (hS.2.2.2 z) (fun h9 => Nat.le_trans (Nat.le_add_right h n) (hL z h9))⟩ T' rfl X'
  exact ⟨t2, st t2 a1, b1⟩
end LOOP
/-- the cells while the array at kA is filled: i of N objects of w cells each are made, from b on -/
def gL (h b w N kA : Nat) (cA : ClassId) (Cf : Nat → Nat → va_E) (G : Nat → va_E) (i : Nat) : Nat → va_E := fun k => if k = kA then .inl (cA, N, .inr (.inr (.inr (.inr (fun j => if j < i then some (h + (b + w * j)) else none))))) else if k < b then G k else Cf (h + (b + w * ((k - b) / w))) ((k - b) % w)
section LOOP
variable {p : Program} {l : Launch} {e : Env} {R : Room} {s : State} {m : MethodId} {args : Array Value} {below : List Frame} {meth : Method} {c : Code} {Q : State → Prop}
variable {cc : ByteArray} {pc : Nat} {D : va_G} {cy : Nat → ClassId} {h : Nat} {G : Nat → va_E} {H0 : Heap} {c0 : Cond} {own : String}
theorem b_loop (hx : p.tables.exec = Jvm.exec) (hb : c.code = cc) (hown : s.vm.findClass own = some m.cls) (hts : ∀ w ∈ c0 :: tw2, w.before args s = true) (hK : va_K D vwCl (wT cy) s) {b w N kA : Nat} {cA : ClassId} {Cf : Nat → Nat → va_E}
    {co ce : Nat} (hco : co < 8) (hce : ce < 8) {fs fs1 : List Value} (hG0 : G 0 = .inr (co, fs)) (hkA : kA < b) (hkA0 : 0 < kA) (hw : 0 < w) (hN : N < 100) (sl : Nat) (hsl : sl < (iCl co).2.2) (hv : fs[sl]? = some (.ref (h + kA))) {ref : String} {fi ki : Nat}
    (hlink : (Cond.fieldLink own fi ref ((iCl co).2.1 sl).2.1 ((iCl co).2.1 sl).2.2.1).before args s = true) (href : ((iCl co).2.1 sl).1 = ref) (t0 : Nat) (ht : (wT cy)[t0]? = some (cA, .object (iCl ce).1))
    (ty : Nat → FieldType) (hty : ∀ k, k < (iCl ce).2.2 → parseFieldDescriptor ((iCl ce).2.1 k).2.2.1 = some (ty k)) (hcl : (Cond.classLink own ki (iCl ce).1).before args s = true) (hinst : (Cond.instantiable (iCl ce).1 (iCl ce).2.2).before args s = true) (hini : (Cond.initialized (iCl ce).1).before args s = true) (hfs : ∀ j, j < (iCl ce).2.2 → defaultValue (ty j) = vp_V fs1 j)
    (hCe : ∀ a, ∃ vs, Cf a 0 = .inr (ce, vs)) {mc ms : Nat}
    (d0 : decode cc pc = .ok (.iload_n 1, 1)) (d1 : decode cc (pc + 1) = .ok (.aload_n 0, 1)) (d2 : decode cc (pc + 2) = .ok (.getfield fi, 3)) (d5 : decode cc (pc + 5) = .ok (.arraylength, 1)) (d6 : decode cc (pc + 6) = .ok (.if_icmp .ge 22, 3)) (d9 : decode cc (pc + 9) = .ok (.aload_n 0, 1)) (d10 : decode cc (pc + 10) = .ok (.getfield fi, 3)) (d13 : decode cc (pc + 13) = .ok (.iload_n 1, 1)) (d14 : decode cc (pc + 14) = .ok (.new ki, 3)) (d17 : decode cc (pc + 17) = .ok (.dup, 1)) (d21 : decode cc (pc + 21) = .ok (.aastore, 1)) (d22 : decode cc (pc + 22) = .ok (.iinc 1 1, 3)) (d25 : decode cc (pc + 25) = .ok (.goto (-25), 3))
    (hrun : ∀ (a : Nat) (i : Int32) (H : Heap) (locs : List Loc) (cells slots : Nat) (ls : Array Slot), ls.size = 2 → H.size = a + 1 → va_at D vwCl (a, .inr (ce, fs1)) H → cells + mc ≤ R.cells → slots + ms ≤ R.slots → va_Run p l e R s m args below meth c H locs cells slots mc ms (F0 m (pc + 18) ls [.ref a, .ref a, .int i, .ref (h + kA)]) [.ref a, .int i, .ref (h + kA)] (cQ D a w (Cf a) #[.ref a]) (cF a))
    {cells slots : Nat} (hRc : cells + N * (1 + mc) ≤ R.cells) (hRs : slots + N * ((iCl ce).2.2 + ms) ≤ R.slots)
    (kk : ∀ (H1 : Heap) (locs1 : List Loc) (ls1 : Array Slot), lv_has ls1 2 [(0, .ref h)] → cS D (cF h) h (b + w * N) (h + (b + w * N)) (gL h b w N kA cA Cf G N) H0 H1 locs1 → W p l e R s m args below meth c H1 locs1 (cells + N * (1 + mc)) (slots + N * ((iCl ce).2.2 + ms)) Q (F0 m (pc + 28) ls1 [])) :
    ∀ (r i : Nat) (H : Heap) (locs : List Loc) (ls : Array Slot), i + r = N → lv_has ls 2 [(1, .int (nI i)), (0, .ref h)] → cS D (cF h) h (b + w * i) (h + (b + w * i)) (gL h b w N kA cA Cf G i) H0 H locs → W p l e R s m args below meth c H locs (cells + i * (1 + mc)) (slots + i * ((iCl ce).2.2 + ms)) Q (F0 m pc ls []) := by
  have hp : ∀ i, 0 < b + w * i := fun i => by omega
  have g0 : ∀ i, gL h b w N kA cA Cf G i 0 = .inr (co, fs) := fun i => by
    unfold gL
    rw [if_neg (by omega), if_pos (by omega)]
    exact hG0
  have gA : ∀ i, gL h b w N kA cA Cf G i kA = .inl (cA, N, .inr (.inr (.inr (.inr (fun j => if j < i then some (h + (b + w * j)) else none))))) := fun i => by
    unfold gL
    rw [if_pos rfl]
  intro r
  induction r with
  | zero =>
    intro i H locs ls hi hl hS
    obtain rfl : i = N := by omega
    refine lv_iload_n hx hb d0 rfl (lv_at hl 0 rfl) ?_
    refine lv_aload_n hx hb d1 rfl (lv_at hl 1 rfl) ?_
    refine b_get hx hb hown hts hK co hco hS 0 (hp i) rfl (g0 i) sl hsl hlink href hv d2 ?_
    refine b_alen hx hb hK hS kA (by omega) rfl (gA i) t0 ht (v := nI i) rfl d5 ?_
    refine lv_icmp_ge (tgt := pc + 28) hx hb d6 (by omega) (fun _ => ?_) (fun h9 => absurd (nI_le (Nat.le_refl i) (by omega)) h9)
    exact kk H locs ls (lv_sub hl [1] rfl) hS
  | succ r ih =>
    intro i H locs ls hi hl hS
    have hiN : i < N := by omega
    have hmul : (i + 1) * (1 + mc) ≤ N * (1 + mc) := Nat.mul_le_mul_right _ hiN
    have hmul2 : (i + 1) * ((iCl ce).2.2 + ms) ≤ N * ((iCl ce).2.2 + ms) := Nat.mul_le_mul_right _ hiN
    have e1 : (i + 1) * (1 + mc) = i * (1 + mc) + 1 + mc := by rw [Nat.succ_mul]; omega
    have e2 : (i + 1) * ((iCl ce).2.2 + ms) = i * ((iCl ce).2.2 + ms) + (iCl ce).2.2 + ms := by rw [Nat.succ_mul]; omega
    refine lv_iload_n hx hb d0 rfl (lv_at hl 0 rfl) ?_
    refine lv_aload_n hx hb d1 rfl (lv_at hl 1 rfl) ?_
    refine b_get hx hb hown hts hK co hco hS 0 (hp i) rfl (g0 i) sl hsl hlink href hv d2 ?_
    refine b_alen hx hb hK hS kA (by omega) rfl (gA i) t0 ht (v := nI N) rfl d5 ?_
    refine lv_icmp_ge (tgt := pc + 28) hx hb d6 (by omega) (fun h9 => absurd h9 (lt_nle (nI_lt hiN (by omega)))) (fun _ => ?_)
    refine lv_aload_n hx hb d9 rfl (lv_at hl 1 rfl) ?_
    refine b_get hx hb hown hts hK co hco hS 0 (hp i) rfl (g0 i) sl hsl hlink href hv d10 ?_
    refine lv_iload_n hx hb d13 rfl (lv_at hl 0 rfl) ?_
    refine b_new hx hb hown hts hK ce hce ty hty hcl hinst hini hS (fun _ h9 => h9) hfs (by omega) (by omega) d14 (fun H hS => ?_)
    refine lv_dup hx hb d17 rfl ?_
    have hat := hS.2.1 (b + w * i) (Nat.lt_succ_self _)
    unfold va_up at hat
    rw [if_pos rfl] at hat
    refine b_call (hrun (h + (b + w * i)) (nI i) H locs _ _ ls hl.1 hS.1 hat (by omega) (by omega)) hS (fun H locs hS => ?_)
    have hgA : (fun k => if k < b + w * i then va_up (gL h b w N kA cA Cf G i) (b + w * i) (.inr (ce, fs1)) k else Cf (h + (b + w * i)) (k - (b + w * i))) kA = .inl (cA, N, .inr (.inr (.inr (.inr (fun j => if j < i then some (h + (b + w * j)) else none))))) := by
      show (if kA < b + w * i then _ else _) = _
      rw [if_pos (by omega)]
      unfold va_up
      rw [if_neg (by omega)]
      exact gA i
    obtain ⟨vs, hvs⟩ := hCe (h + (b + w * i))
    have hel := hS.2.1 (b + w * i) (by omega)
    have hel : va_at D vwCl (h + (b + w * i), .inr (ce, vs)) H := by
      simp only [if_neg (Nat.lt_irrefl (b + w * i)), Nat.sub_self, hvs] at hel
      exact hel
    refine b_aast hx hb hK hS kA (by omega) rfl (Nat.le_add_right h kA) hgA t0 ce hce ht hel (vin hiN (by omega)) d21 (fun H locs hS => ?_)
    refine lv_iinc (v := nI (i + 1)) (lv' := [(1, .int (nI (i + 1))), (0, .ref h)]) hx hb d22 hl (k := 0) rfl (nI_1 i) (by decide) rfl (fun ls hl => ?_)
    refine lv_goto (tgt := pc) hx hb d25 (by omega) ?_
    have hS2 : cS D (cF h) h (b + w * (i + 1)) (h + (b + w * (i + 1))) (gL h b w N kA cA Cf G (i + 1)) H0 H locs := by
      rw [show b + w * (i + 1) = b + w * i + w by rw [Nat.mul_succ]; omega]
      refine hS.to (fun k hk => ?_)
      unfold va_up gL
      by_cases hkA1 : k = kA
      · rw [if_pos hkA1, if_pos hkA1]
        congr 7
        funext j
        show (if j = (nI i).toNatClampNeg then _ else if j < i then _ else _) = _
        rw [nI_clamp (by omega)]
        by_cases hj : j = i
        · rw [if_pos hj, if_pos (by omega), hj]
        · rw [if_neg hj]
          by_cases hj2 : j < i
          · rw [if_pos hj2, if_pos (by omega)]
          · rw [if_neg hj2, if_neg (by omega)]
      · rw [if_neg hkA1, if_neg hkA1]
        dsimp only []
        by_cases hkb : k < b + w * i
        · rw [if_pos hkb, if_neg (by omega), if_neg hkA1]
        · rw [if_neg hkb, if_neg (by omega)]
          obtain ⟨j, rfl⟩ : ∃ j, k = b + w * i + j := ⟨k - (b + w * i), by omega⟩
          have hj : j < w := by omega
          rw [show b + w * i + j - (b + w * i) = j by omega, show b + w * i + j - b = j + w * i by omega, Nat.add_mul_div_left _ _ hw, Nat.add_mul_mod_self_left, Nat.mod_eq_of_lt hj, Nat.div_eq_of_lt hj, Nat.zero_add]
    refine W.widen (k := cells + (i + 1) * (1 + mc)) (n := slots + (i + 1) * ((iCl ce).2.2 + ms)) (by omega) (by omega) ?_
    exact ih (i + 1) H locs ls (by omega) hl hS2
end LOOP
