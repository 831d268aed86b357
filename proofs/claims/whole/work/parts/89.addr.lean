/-! ===== where the cells lie, and the world out of what the constructors have made ===== -/
def sbO (s : Nat) : Nat := match s with
  | 0 => 4
  | 1 => 59
  | 2 => 116
  | _ => 171
def offW (k i : Nat) : Nat := match k with
  | 0 => sbO (i / 24) + (31 + i % 24)
  | 1 => sbO (i / 6) + (13 + 3 * (i % 6))
  | 2 => 1
  | 3 => sbO i + 4
  | 4 => sbO i
  | 5 => sbO (i / 6) + (7 + i % 6)
  | 6 => 0
  | 7 => 226
  | 8 => if i < 48 then sbO (i / 12) + (13 + 3 * (i / 2 % 6)) + (1 + i % 2) else if i < 56 then sbO ((i - 48) / 2) + (5 + i % 2) else if i < 58 then i - 54 else if i < 62 then i + 169 else i + 171
  | 9 => 232
  | 10 => if i = 0 then 115 else 231
  | 12 => sbO i + 3
  | 13 => sbO i + 2
  | 14 => 114
  | 15 => sbO i + 1
  | _ => 0
def adW (h : Nat) (sa : Nat → Nat) (k i : Nat) : Nat := if k = 16 then sa i else h + offW k i
theorem offW_nd : (iAll.map (fun q => offW q.1 q.2)).Nodup := by decide +kernel
theorem offW_lt : ∀ q ∈ iAll, offW q.1 q.2 < 237 := by decide +kernel
theorem adW_lt {h : Nat} {sa : Nat → Nat} {k i : Nat} (hk : k < 16) : adW h sa k i = h + offW k i := by
  unfold adW
  rw [if_neg (by omega)]
theorem adW_I (h : Nat) (sa : Nat → Nat) : wI (adW h sa) := by
  intro k i k' i' hk hi hk' hi' he
  rw [adW_lt hk, adW_lt hk'] at he
  have he : offW k i = offW k' i' := by omega
  obtain ⟨n, hn⟩ := List.getElem?_of_mem (iAll_mem.mpr ⟨hk, hi⟩)
  obtain ⟨n', hn'⟩ := List.getElem?_of_mem (iAll_mem.mpr ⟨hk', hi'⟩)
  have e1 : (iAll.map (fun q => offW q.1 q.2))[n]? = some (offW k i) := by rw [List.getElem?_map, hn]; rfl
  have e2 : (iAll.map (fun q => offW q.1 q.2))[n']? = some (offW k' i') := by rw [List.getElem?_map, hn']; rfl
  have e3 : n = n' := (List.getElem?_inj (List.getElem?_eq_some_iff.mp e1).1 offW_nd).mp (e1.trans ((congrArg some he).trans e2.symm))
  subst e3
  have := Option.some.inj (hn.symm.trans hn')
  exact ⟨congrArg Prod.fst this, congrArg Prod.snd this⟩
theorem adW_A {h : Nat} {sa : Nat → Nat} {q : Nat} (hq : wA (adW h sa) q) : h ≤ q ∧ q < h + 237 := by
  obtain ⟨k, i, hk, hi, rfl⟩ := hq
  rw [adW_lt hk]
  have : offW k i < 237 := offW_lt (k, i) (iAll_mem.mpr ⟨hk, hi⟩)
  omega
/-- the reference's object, and all the cells -/
def moF (h : Nat) : List Value := [.ref (h + 227), .ref (h + 228), .ref (h + 229), .ref (h + 230), .ref (h + 231), .int 0, .ref (h + 232), .int 0, .int 0, .int 0, .int 0, .int 0, .int 0, .int 0, .int (-1), .ref (h + 233), .ref (h + 234), .ref (h + 235), .ref (h + 236), .int 0]
def gMo (cy : Nat → ClassId) (h k : Nat) : va_E := match k with
  | 0 => .inr (7, moF h)
  | 1 => .inl (cy 8, 467, .inl (fun _ => 0))
  | 2 => .inl (cy 8, 467, .inl (fun _ => 0))
  | 3 => .inl (cy 8, 467, .inl (fun _ => 0))
  | 4 => .inl (cy 8, 934, .inl (fun _ => 0))
  | 5 => .inl (cy 10, 2, .inl (fun _ => 0))
  | 6 => .inl (cy 9, 700, .inl (fun _ => 0))
  | _ => .inl (cy 8, 24, .inl (fun _ => 0))
def gW (cy : Nat → ClassId) (h k : Nat) : va_E := if k < 226 then gX cy h k else gMo cy h (k - 226)
theorem up_ne {f : Nat → va_E} {j k : Nat} {v : va_E} (h : j ≠ k) : va_up f k v j = f j := if_neg h
theorem gL_lo {h b w N kA : Nat} {cA : ClassId} {Cf : Nat → Nat → va_E} {G : Nat → va_E} {i k : Nat} (h1 : k ≠ kA) (h2 : k < b) : gL h b w N kA cA Cf G i k = G k := by unfold gL; rw [if_neg h1, if_pos h2]
theorem gL_hi {h b w N kA : Nat} {cA : ClassId} {Cf : Nat → Nat → va_E} {G : Nat → va_E} {i j r : Nat} (h1 : kA < b) (h2 : r < w) : gL h b w N kA cA Cf G i (b + w * j + r) = Cf (h + (b + w * j)) r := by
  unfold gL
  rw [if_neg (by omega), if_neg (by omega), show b + w * j + r - b = r + w * j by omega, Nat.add_mul_div_left _ _ (by omega), Nat.add_mul_mod_self_left, Nat.mod_eq_of_lt h2, Nat.div_eq_of_lt h2, Nat.zero_add]
theorem gJ_lo {G : Nat → va_E} {n k : Nat} {Cf : Nat → va_E} {o : va_E} (h1 : k ≠ 0) (h2 : k < n) : gJ G n Cf o k = G k := by unfold gJ; rw [if_neg h1, if_pos h2]
theorem gJ_hi {G : Nat → va_E} {n k : Nat} {Cf : Nat → va_E} {o : va_E} (h1 : n ≠ 0) : gJ G n Cf o (n + k) = Cf k := by unfold gJ; rw [if_neg (by omega), if_neg (by omega), Nat.add_sub_cancel_left]
theorem gX_sh (cy : Nat → ClassId) (h : Nat) : ∀ s, s < 4 → ∀ k, k < 55 → gW cy h (sbO s + k) = gSh cy (h + sbO s) k := by
  intro s hs k hk
  have hlt : sbO s ≤ 171 := by
    match s, hs with
    | 0, _ => decide
    | 1, _ => decide
    | 2, _ => decide
    | 3, _ => decide
  unfold gW
  rw [if_pos (by omega)]
  match s, hs with
  | 0, _ => exact calc gX cy h (4 + k) = gE cy h (4 + k) := gL_lo (by omega) (by omega)
      _ = gD cy h (4 + k) := (up_ne (by omega)).trans (up_ne (by omega))
      _ = gC cy h (4 + k) := (up_ne (by omega)).trans (up_ne (by omega))
      _ = gB cy h (4 + k) := gJ_lo (by omega) (by omega)
      _ = gSh cy (h + 4) k := gJ_hi (by decide)
  | 1, _ => exact calc gX cy h (59 + k) = gE cy h (59 + k) := gL_lo (by omega) (by omega)
      _ = gD cy h (59 + k) := (up_ne (by omega)).trans (up_ne (by omega))
      _ = gC cy h (59 + k) := (up_ne (by omega)).trans (up_ne (by omega))
      _ = gSh cy (h + 59) k := gJ_hi (by decide)
  | 2, _ => exact gL_hi (h := h) (b := 116) (w := 55) (N := 2) (kA := 114) (cA := cy 14) (Cf := gSh cy) (G := gE cy h) (i := 2) (j := 0) (r := k) (by decide) hk
  | 3, _ => exact gL_hi (h := h) (b := 116) (w := 55) (N := 2) (kA := 114) (cA := cy 14) (Cf := gSh cy) (G := gE cy h) (i := 2) (j := 1) (r := k) (by decide) hk
theorem gSh_o (cy : Nat → ClassId) (a : Nat) {j : Nat} (hj : j < 24) : gSh cy a (31 + j) = eO := by
  refine (up_ne (by omega)).trans ?_
  have := gL_hi (h := a) (b := 31) (w := 1) (N := 24) (kA := 3) (cA := cy 12) (Cf := fun _ _ => eO) (G := g31 cy a) (i := 24) (j := j) (r := 0) (by decide) (by decide)
  rw [Nat.one_mul] at this
  exact this
theorem gSh_p (cy : Nat → ClassId) (a : Nat) {j r : Nat} (hj : j < 6) (hr : r < 3) : gSh cy a (13 + 3 * j + r) = gP cy (a + (13 + 3 * j)) r := calc gSh cy a (13 + 3 * j + r) = g55 cy a (13 + 3 * j + r) := up_ne (by omega)
  _ = g31 cy a (13 + 3 * j + r) := gL_lo (by omega) (by omega)
  _ = gP cy (a + (13 + 3 * j)) r := gL_hi (by decide) hr
theorem gSh_s (cy : Nat → ClassId) (a : Nat) {j : Nat} (hj : j < 6) : gSh cy a (7 + j) = eSt := calc gSh cy a (7 + j) = g55 cy a (7 + j) := up_ne (by omega)
  _ = g31 cy a (7 + j) := gL_lo (by omega) (by omega)
  _ = g13 cy a (7 + j) := gL_lo (by omega) (by omega)
  _ = eSt := by
    have := gL_hi (h := a) (b := 7) (w := 1) (N := 6) (kA := 1) (cA := cy 15) (Cf := fun _ _ => eSt) (G := g7 cy a) (i := 6) (j := j) (r := 0) (by decide) (by decide)
    rw [Nat.one_mul] at this
    exact this
theorem at_refs {D : va_G} {cl : List vw_C} {a N : Nat} {cA : ClassId} {f g : Nat → Option Nat} {H : Heap} (h : va_at D cl (a, .inl (cA, N, .inr (.inr (.inr (.inr f))))) H) (hfg : ∀ j, j < N → f j = g j) : va_at D cl (a, .inl (cA, N, .inr (.inr (.inr (.inr g))))) H := by
  have h1 : H[a]? = some (vp_cell cA (N, .inr (.inr (.inr (.inr f))))) := h
  show H[a]? = some (vp_cell cA (N, .inr (.inr (.inr (.inr g)))))
  rw [h1, vp_cell_q, vp_cell_q]
  unfold arrV
  congr 4
  funext j
  show va_rf (f j.val) = va_rf (g j.val)
  rw [hfg j.val j.isLt]
/-- the world: both objects, and all that they are made of -/
theorem world_of {D : va_G} {cy : Nat → ClassId} {h : Nat} {sa : Nat → Nat} {H : Heap} (hat : ∀ k, k < 237 → va_at D vwCl (h + k, gW cy h k) H) : va_P D vwCl (wW (adW h sa) cy m0) H := by
  have hsh : ∀ s, s < 4 → ∀ k, k < 55 → sbO s + k < 237 → va_at D vwCl (h + (sbO s + k), gSh cy (h + sbO s) k) H := fun s hs k hk hlt => by
    have := hat (sbO s + k) hlt
    rw [gX_sh cy h s hs k hk] at this
    exact this
  have sb : ∀ s, s < 4 → sbO s ≤ 171 := fun s hs => by
    match s, hs with
    | 0, _ => decide
    | 1, _ => decide
    | 2, _ => decide
    | 3, _ => decide
  intro n q hq
  obtain ⟨k, i, -, hk, hi, rfl⟩ := wW_at hq
  rw [adW_lt hk]
  match k, hk, hi with
  | 0, _, hi =>
    have hi : i < 96 := hi
    have h1 := hsh (i / 24) (by omega) (31 + i % 24) (by omega) (by have := sb (i / 24) (by omega); omega)
    rw [gSh_o cy _ (by omega)] at h1
    exact h1
  | 1, _, hi =>
    have hi : i < 24 := hi
    have h1 := hsh (i / 6) (by omega) (13 + 3 * (i % 6) + 0) (by omega) (by have := sb (i / 6) (by omega); omega)
    rw [gSh_p cy _ (by omega) (by decide)] at h1
    have e1 : adW h sa 8 (2 * i) = h + sbO (i / 6) + (13 + 3 * (i % 6)) + 1 := by
      rw [adW_lt (by decide)]
      show h + (if 2 * i < 48 then _ else _) = _
      rw [if_pos (by omega), show 2 * i / 12 = i / 6 by omega, show 2 * i / 2 % 6 = i % 6 by omega]
      omega
    have e2 : adW h sa 8 (2 * i + 1) = h + sbO (i / 6) + (13 + 3 * (i % 6)) + 2 := by
      rw [adW_lt (by decide)]
      show h + (if 2 * i + 1 < 48 then _ else _) = _
      rw [if_pos (by omega), show (2 * i + 1) / 12 = i / 6 by omega, show (2 * i + 1) / 2 % 6 = i % 6 by omega]
      omega
    show va_at D vwCl (h + (sbO (i / 6) + (13 + 3 * (i % 6))), .inr (1, [.ref (adW h sa 8 (2 * i)), .ref (adW h sa 8 (2 * i + 1)), .int 0, .int (-1)])) H
    rw [e1, e2]
    exact h1
  | 2, _, hi =>
    obtain rfl : i = 0 := by have hi : i < 1 := hi; omega
    exact hat 1 (by decide)
  | 3, _, hi =>
    have hi : i < 4 := hi
    have h1 := hsh i hi 4 (by decide) (by have := sb i hi; omega)
    have e1 : adW h sa 8 (48 + 2 * i) = h + sbO i + 4 + 1 := by
      rw [adW_lt (by decide)]
      show h + (if 48 + 2 * i < 48 then _ else if 48 + 2 * i < 56 then _ else _) = _
      rw [if_neg (by omega), if_pos (by omega), show (48 + 2 * i - 48) / 2 = i by omega]
      omega
    have e2 : adW h sa 8 (49 + 2 * i) = h + sbO i + 4 + 2 := by
      rw [adW_lt (by decide)]
      show h + (if 49 + 2 * i < 48 then _ else if 49 + 2 * i < 56 then _ else _) = _
      rw [if_neg (by omega), if_pos (by omega), show (49 + 2 * i - 48) / 2 = i by omega]
      omega
    show va_at D vwCl (h + (sbO i + 4), .inr (3, [.ref (adW h sa 8 (48 + 2 * i)), .ref (adW h sa 8 (49 + 2 * i)), .int 0])) H
    rw [e1, e2]
    exact h1
  | 4, _, hi =>
    have hi : i < 4 := hi
    exact hsh i hi 0 (by decide) (by have := sb i hi; omega)
  | 5, _, hi =>
    have hi : i < 24 := hi
    have h1 := hsh (i / 6) (by omega) (7 + i % 6) (by omega) (by have := sb (i / 6) (by omega); omega)
    rw [gSh_s cy _ (by omega)] at h1
    exact h1
  | 6, _, hi =>
    obtain rfl : i = 0 := by have hi : i < 1 := hi; omega
    exact hat 0 (by decide)
  | 7, _, hi =>
    obtain rfl : i = 0 := by have hi : i < 1 := hi; omega
    exact hat 226 (by decide)
  | 8, _, hi =>
    have hi : i < 66 := hi
    show va_at D vwCl (h + (if i < 48 then _ else if i < 56 then _ else if i < 58 then _ else if i < 62 then _ else _), .inl (cy 8, (if i < 48 then 6 else if i < 56 then 24 else if i = 56 then 700 else if i = 57 then 24 else if i < 61 then 467 else if i = 61 then 934 else 24), .inl (fun _ => 0))) H
    by_cases c1 : i < 48
    · rw [if_pos c1, if_pos c1]
      have h1 := hsh (i / 12) (by omega) (13 + 3 * (i / 2 % 6) + (1 + i % 2)) (by omega) (by have := sb (i / 12) (by omega); omega)
      rw [gSh_p cy _ (by omega) (by omega), ← Nat.add_assoc (sbO (i / 12))] at h1
      rw [show 1 + i % 2 = i % 2 + 1 by omega] at h1 ⊢
      exact h1
    · rw [if_neg c1, if_neg c1]
      by_cases c2 : i < 56
      · rw [if_pos c2, if_pos c2]
        rcases (show i % 2 = 0 ∨ i % 2 = 1 by omega) with e | e
        · rw [e]
          exact hsh ((i - 48) / 2) (by omega) 5 (by decide) (by have := sb ((i - 48) / 2) (by omega); omega)
        · rw [e]
          exact hsh ((i - 48) / 2) (by omega) 6 (by decide) (by have := sb ((i - 48) / 2) (by omega); omega)
      · rw [if_neg c2, if_neg c2]
        have hc : i = 56 ∨ i = 57 ∨ i = 58 ∨ i = 59 ∨ i = 60 ∨ i = 61 ∨ i = 62 ∨ i = 63 ∨ i = 64 ∨ i = 65 := by omega
        rcases hc with rfl | rfl | rfl | rfl | rfl | rfl | rfl | rfl | rfl | rfl
        · exact hat 2 (by decide)
        · exact hat 3 (by decide)
        · exact hat 227 (by decide)
        · exact hat 228 (by decide)
        · exact hat 229 (by decide)
        · exact hat 230 (by decide)
        · exact hat 233 (by decide)
        · exact hat 234 (by decide)
        · exact hat 235 (by decide)
        · exact hat 236 (by decide)
  | 9, _, hi =>
    obtain rfl : i = 0 := by have hi : i < 1 := hi; omega
    exact hat 232 (by decide)
  | 10, _, hi =>
    have hi : i < 2 := hi
    rcases (show i = 0 ∨ i = 1 by omega) with rfl | rfl
    · exact hat 115 (by decide)
    · exact hat 231 (by decide)
  | 11, _, hi => exact absurd hi (by show ¬ i < 0; omega)
  | 12, _, hi =>
    have hi : i < 4 := hi
    have h1 : va_at D vwCl (h + (sbO i + 3), .inl (cy 12, 24, .inr (.inr (.inr (.inr (fun j => if j < 24 then some (h + sbO i + (31 + 1 * j)) else none)))))) H := hsh i hi 3 (by decide) (by have := sb i hi; omega)
    refine at_refs (g := fun n => some (adW h sa 0 (24 * i + n))) h1 (fun j hj => ?_)
    have hj : j < 24 := hj
    show (if j < 24 then _ else _) = _
    rw [if_pos hj]
    rw [adW_lt (by decide)]
    show some _ = some (h + (sbO ((24 * i + j) / 24) + (31 + (24 * i + j) % 24)))
    rw [show (24 * i + j) / 24 = i by omega, show (24 * i + j) % 24 = j by omega]
    congr 1
    omega
  | 13, _, hi =>
    have hi : i < 4 := hi
    have h1 : va_at D vwCl (h + (sbO i + 2), .inl (cy 13, 6, .inr (.inr (.inr (.inr (fun j => if j < 6 then some (h + sbO i + (13 + 3 * j)) else none)))))) H := hsh i hi 2 (by decide) (by have := sb i hi; omega)
    refine at_refs (g := fun n => some (adW h sa 1 (6 * i + n))) h1 (fun j hj => ?_)
    have hj : j < 6 := hj
    show (if j < 6 then _ else _) = _
    rw [if_pos hj]
    rw [adW_lt (by decide)]
    show some _ = some (h + (sbO ((6 * i + j) / 6) + (13 + 3 * ((6 * i + j) % 6))))
    rw [show (6 * i + j) / 6 = i by omega, show (6 * i + j) % 6 = j by omega]
    congr 1
    omega
  | 14, _, hi =>
    obtain rfl : i = 0 := by have hi : i < 1 := hi; omega
    have h1 : va_at D vwCl (h + 114, .inl (cy 14, 2, .inr (.inr (.inr (.inr (fun j => if j < 2 then some (h + (116 + 55 * j)) else none)))))) H := hat 114 (by decide)
    refine at_refs (g := fun n => some (adW h sa 4 (2 + n))) h1 (fun j hj => ?_)
    have hj : j < 2 := hj
    rcases (show j = 0 ∨ j = 1 by omega) with rfl | rfl
    · rfl
    · rfl
  | 15, _, hi =>
    have hi : i < 4 := hi
    have h1 : va_at D vwCl (h + (sbO i + 1), .inl (cy 15, 6, .inr (.inr (.inr (.inr (fun j => if j < 6 then some (h + sbO i + (7 + 1 * j)) else none)))))) H := hsh i hi 1 (by decide) (by have := sb i hi; omega)
    refine at_refs (g := fun n => some (adW h sa 5 (6 * i + n))) h1 (fun j hj => ?_)
    have hj : j < 6 := hj
    show (if j < 6 then _ else _) = _
    rw [if_pos hj]
    rw [adW_lt (by decide)]
    show some _ = some (h + (sbO ((6 * i + j) / 6) + (7 + (6 * i + j) % 6)))
    rw [show (6 * i + j) / 6 = i by omega, show (6 * i + j) % 6 = j by omega]
    congr 1
    omega
  | n + 16, hk, _ => exact absurd hk (by omega)
