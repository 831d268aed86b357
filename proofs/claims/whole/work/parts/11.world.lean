/-! ===== the world: where the cells lie, what they hold ===== -/
def emb (ad : Nat → Nat → Nat) (v : iV) : Value := match v with
  | .inl x => .int x
  | .inr q => .ref (ad q.1 q.2)
theorem emb_cat (ad : Nat → Nat → Nat) (v : iV) : (emb ad v).category = 1 := by cases v <;> rfl
theorem cat_sum (ad : Nat → Nat → Nat) (S : iS) : ((S.map (emb ad)).map fun v => v.category).sum = S.length := by
  induction S with
  | nil => rfl
  | cons v S ih => simp only [List.map_cons, List.sum_cons, List.length_cons, emb_cat, ih]; omega
def prs (ad : Nat → Nat → Nat) (L : iL) : List (Nat × Value) := (List.range L.length).filterMap (fun i => match L[i]? with | some (some v) => some (i, emb ad v) | _ => none)
theorem prs_mem {ad : Nat → Nat → Nat} {L : iL} {i : Nat} {w : Value} : (i, w) ∈ prs ad L ↔ ∃ v, L[i]? = some (some v) ∧ w = emb ad v := by
  unfold prs
  rw [List.mem_filterMap]
  constructor
  · rintro ⟨k, -, hk⟩
    split at hk
    · rename_i v hv
      cases hk
      exact ⟨v, hv, rfl⟩
    · cases hk
  · rintro ⟨v, hv, rfl⟩
    exact ⟨i, List.mem_range.mpr (List.getElem?_eq_some_iff.mp hv).1, by rw [hv]⟩
def LR (ad : Nat → Nat → Nat) (ls : Array Slot) (L : iL) : Prop := lv_has ls L.length (prs ad L)
theorem LR.at {ad : Nat → Nat → Nat} {ls : Array Slot} {L : iL} (h : LR ad ls L) {i : Nat} {v : iV} (hi : L[i]? = some (some v)) : ls[i]? = some (.val (emb ad v)) := h.2.2 (i, emb ad v) (prs_mem.mpr ⟨v, hi, rfl⟩)
theorem LR.set {ad : Nat → Nat → Nat} {ls' : Array Slot} {L : iL} {i : Nat} {v : iV} {x : Value} (hx : x = emb ad v) (hi : i < L.length) (h : lv_has ls' L.length ((i, x) :: (prs ad L).filter (fun q => !(q.1 == i) && !(q.1 + 1 == i && q.2.category == 2)))) : LR ad ls' (L.set i (some v)) := by
  subst hx
  refine ⟨by rw [h.1, List.length_set], h.2.1, fun q hq => ?_⟩
  obtain ⟨n, w⟩ := q
  obtain ⟨u, hu, rfl⟩ := prs_mem.mp hq
  by_cases hn : n = i
  · subst hn
    rw [List.getElem?_set_self hi] at hu
    cases hu
    exact h.2.2 _ List.mem_cons_self
  · rw [List.getElem?_set_ne (Ne.symm hn)] at hu
    refine h.2.2 (n, emb ad u) (List.mem_cons_of_mem _ (List.mem_filter.mpr ⟨prs_mem.mpr ⟨u, hu, rfl⟩, ?_⟩))
    simp [hn, emb_cat]
theorem LR.len {ad : Nat → Nat → Nat} {ls : Array Slot} {L : iL} (h : LR ad ls L) : ls.size = L.length := h.1
theorem lv_args_mem (ad : Nat → Nat → Nat) : ∀ (as : List iV) (b i : Nat) (v : iV), as[i]? = some v → (b + i, emb ad v) ∈ lv_args b (as.map (emb ad)) := by
  intro as
  induction as with
  | nil => intro b i v h; simp at h
  | cons a as ih =>
    intro b i v h
    rw [List.map_cons, lv_args]
    cases i with
    | zero => simp at h; subst h; exact List.mem_cons_self
    | succ i =>
      rw [List.getElem?_cons_succ] at h
      have h2 := ih (b + 1) i v h
      rw [emb_cat, if_neg (by decide)]
      rw [show b + (i + 1) = b + 1 + i by omega]
      exact List.mem_cons_of_mem _ h2
theorem sl_len (ad : Nat → Nat → Nat) (as : List iV) : (lg_sl (as.map (emb ad))).length = as.length := by
  unfold lg_sl
  induction as with
  | nil => rfl
  | cons a as ih =>
    rw [List.map_cons, List.flatMap_cons, List.length_append, ih, List.length_cons]
    cases a <;> (simp [emb, Value.category]; omega)
theorem LR.entry (ad : Nat → Nat → Nat) (as : List iV) (n : Nat) (h : as.length ≤ n) : LR ad ((lg_sl (as.map (emb ad)) ++ List.replicate (n - (lg_sl (as.map (emb ad))).length) Slot.unset).toArray) (as.map some ++ List.replicate (n - as.length) none) := by
  have h0 := lv_entry (as.map (emb ad)) (n := n) (by rw [sl_len]; exact h)
  refine ⟨by rw [h0.1]; simp; omega, h0.2.1, fun q hq => ?_⟩
  obtain ⟨i, w⟩ := q
  obtain ⟨v, hv, rfl⟩ := prs_mem.mp hq
  have hi : as[i]? = some v := by
    by_cases hl : i < as.length
    · rw [List.getElem?_append_left (by simpa using hl), List.getElem?_map] at hv
      cases ha : as[i]? with
      | none => rw [ha] at hv; cases hv
      | some a => rw [ha] at hv; simpa using hv
    · rw [List.getElem?_append_right (by simpa using hl)] at hv
      have := List.mem_replicate.mp (List.mem_of_getElem? hv)
      cases this.2
  have := lv_args_mem ad as 0 i v hi
  rw [Nat.zero_add] at this
  exact h0.2.2 _ this
/-- what a field holds -/
def wV (ad : Nat → Nat → Nat) (σ : iM) (k i s : Nat) : Value := if iRk k s = 0 then .int (σ k i s) else .ref (ad (iRk k s - 1) (rfK k i s id))
/-- a cell -/
def wE (ad : Nat → Nat → Nat) (cy : Nat → ClassId) (σ : iM) (k i : Nat) : va_E :=
  if k < 8 then .inr (k, (List.range (iCl k).2.2).map (wV ad σ k i)) else if k < 12 then .inl (cy k, iN k i, .inl (fun n => σ k i n))
  else .inl (cy k, iN k i, .inr (.inr (.inr (.inr (fun n => some (ad (iEk k) (raK k i n id)))))))
def iAll : List (Nat × Nat) := (List.range 16).flatMap (fun k => (List.range (iCnt k)).map (fun i => (k, i)))
theorem iAll_nd : iAll.Nodup := by decide +kernel
theorem iAll_mem {k i : Nat} : (k, i) ∈ iAll ↔ k < 16 ∧ i < iCnt k := by
  unfold iAll
  rw [List.mem_flatMap]
  constructor
  · rintro ⟨a, ha, h⟩
    obtain ⟨b, hb, h2⟩ := List.mem_map.mp h
    cases h2
    exact ⟨List.mem_range.mp ha, List.mem_range.mp hb⟩
  · rintro ⟨h1, h2⟩
    exact ⟨k, List.mem_range.mpr h1, List.mem_map.mpr ⟨i, List.mem_range.mpr h2, rfl⟩⟩
def wW (ad : Nat → Nat → Nat) (cy : Nat → ClassId) (σ : iM) : va_W := iAll.map (fun q => (ad q.1 q.2, wE ad cy σ q.1 q.2))
def wT (cy : Nat → ClassId) : List (ClassId × FieldType) := [(cy 8, .int), (cy 9, .byte), (cy 10, .boolean), (cy 12, .object RX0), (cy 13, .object RX1), (cy 14, .object RX4), (cy 15, .object RX5)]
def wA (ad : Nat → Nat → Nat) : Nat → Prop := fun q => ∃ k i, k < 16 ∧ i < iCnt k ∧ q = ad k i
/-- no two cells lie at one place -/
def wI (ad : Nat → Nat → Nat) : Prop := ∀ k i k' i', k < 16 → i < iCnt k → k' < 16 → i' < iCnt k' → ad k i = ad k' i' → k = k' ∧ i = i'
theorem wW_get {ad : Nat → Nat → Nat} {cy : Nat → ClassId} {σ : iM} {k i : Nat} (hk : k < 16) (hi : i < iCnt k) : ∃ q0 : Nat, (wW ad cy σ)[q0]? = some (ad k i, wE ad cy σ k i) := by
  obtain ⟨q, hq⟩ := List.getElem?_of_mem (iAll_mem.mpr ⟨hk, hi⟩)
  exact ⟨q, by unfold wW; rw [List.getElem?_map, hq]; rfl⟩
theorem wW_at {ad : Nat → Nat → Nat} {cy : Nat → ClassId} {σ : iM} {n : Nat} {q : Nat × va_E} (h : (wW ad cy σ)[n]? = some q) : ∃ k i, iAll[n]? = some (k, i) ∧ k < 16 ∧ i < iCnt k ∧ q = (ad k i, wE ad cy σ k i) := by
  unfold wW at h
  rw [List.getElem?_map] at h
  cases ha : iAll[n]? with
  | none => rw [ha] at h; cases h
  | some a =>
    rw [ha] at h
    obtain ⟨k, i⟩ := a
    have := iAll_mem.mp (List.mem_of_getElem? ha)
    exact ⟨k, i, rfl, this.1, this.2, (Option.some.inj h).symm⟩
theorem wW_D {ad : Nat → Nat → Nat} (hi : wI ad) (cy : Nat → ClassId) (σ : iM) : va_D (wA ad) (wW ad cy σ) := by
  refine ⟨fun a b x y h1 h2 hxy => ?_, fun n q h => ?_⟩
  · obtain ⟨k, i, e1, b1, b2, rfl⟩ := wW_at h1
    obtain ⟨k', i', e2, b3, b4, rfl⟩ := wW_at h2
    obtain ⟨rfl, rfl⟩ := hi k i k' i' b1 b2 b3 b4 hxy
    exact (List.getElem?_inj (List.getElem?_eq_some_iff.mp e1).1 iAll_nd).mp (e1.trans e2.symm)
  · obtain ⟨k, i, -, b1, b2, rfl⟩ := wW_at h
    exact ⟨k, i, b1, b2, rfl⟩
theorem wW_set {ad : Nat → Nat → Nat} (hI : wI ad) {cy : Nat → ClassId} {σ σ' : iM} {k i q0 : Nat} (hk : k < 16) (hi : i < iCnt k) (hq : (wW ad cy σ)[q0]? = some (ad k i, wE ad cy σ k i)) (hs : ∀ k' i', ¬ (k' = k ∧ i' = i) → wE ad cy σ' k' i' = wE ad cy σ k' i') : (wW ad cy σ).set q0 (ad k i, wE ad cy σ' k i) = wW ad cy σ' := by
  have hl := (List.getElem?_eq_some_iff.mp hq).1
  apply List.ext_getElem?
  intro n
  by_cases hn : n = q0
  · subst hn
    rw [List.getElem?_set_self hl]
    obtain ⟨k', i', e1, b1, b2, e2⟩ := wW_at hq
    obtain ⟨rfl, rfl⟩ := hI k i k' i' hk hi b1 b2 (congrArg Prod.fst e2)
    unfold wW
    rw [List.getElem?_map, e1]
    rfl
  · rw [List.getElem?_set_ne (Ne.symm hn)]
    unfold wW
    rw [List.getElem?_map, List.getElem?_map]
    cases ha : iAll[n]? with
    | none => rfl
    | some a =>
      obtain ⟨k', i'⟩ := a
      have hv := iAll_mem.mp (List.mem_of_getElem? ha)
      show some (ad k' i', wE ad cy σ k' i') = some (ad k' i', wE ad cy σ' k' i')
      rw [hs k' i']
      rintro ⟨rfl, rfl⟩
      obtain ⟨k2, i2, e1, b1, b2, e2⟩ := wW_at hq
      obtain ⟨rfl, rfl⟩ := hI k' i' k2 i2 hk hi b1 b2 (congrArg Prod.fst e2)
      exact hn ((List.getElem?_inj (List.getElem?_eq_some_iff.mp ha).1 iAll_nd).mp (ha.trans e1.symm))
theorem wE_other {ad : Nat → Nat → Nat} {cy : Nat → ClassId} {σ : iM} {k i s : Nat} {x : Int32} : ∀ k' i', ¬ (k' = k ∧ i' = i) → wE ad cy (iU σ k i s x) k' i' = wE ad cy σ k' i' := by
  intro k' i' h
  have h2 : ∀ n, iU σ k i s x k' i' n = σ k' i' n := fun n => by
    unfold iU
    rw [if_neg]
    rintro ⟨a, b, -⟩
    exact h ⟨a, b⟩
  unfold wE wV
  simp only [h2]
theorem wE_obj {ad : Nat → Nat → Nat} {cy : Nat → ClassId} {σ : iM} {k i : Nat} (h : k < 8) : wE ad cy σ k i = .inr (k, (List.range (iCl k).2.2).map (wV ad σ k i)) := if_pos h
theorem wE_arr {ad : Nat → Nat → Nat} {cy : Nat → ClassId} {σ : iM} {k i : Nat} (h : 8 ≤ k) (h2 : k < 12) : wE ad cy σ k i = .inl (cy k, iN k i, .inl (fun n => σ k i n)) := by
  unfold wE; rw [if_neg (by omega), if_pos h2]
theorem wE_refs {ad : Nat → Nat → Nat} {cy : Nat → ClassId} {σ : iM} {k i : Nat} (h : 12 ≤ k) : wE ad cy σ k i = .inl (cy k, iN k i, .inr (.inr (.inr (.inr (fun n => some (ad (iEk k) (raK k i n id))))))) := by
  unfold wE; rw [if_neg (by omega), if_neg (by omega)]
theorem wE_put {ad : Nat → Nat → Nat} {cy : Nat → ClassId} {σ : iM} {k i s : Nat} {x : Int32} (h : k < 8) (h0 : iRk k s = 0) : (.inr (k, ((List.range (iCl k).2.2).map (wV ad σ k i)).set s (.int x)) : va_E) = wE ad cy (iU σ k i s x) k i := by
  rw [wE_obj h]
  congr 2
  apply List.ext_getElem?
  intro n
  by_cases hn : n = s
  · subst hn
    by_cases hl : n < (iCl k).2.2
    · rw [List.getElem?_set_self (by simpa using hl), List.getElem?_map, List.getElem?_range hl]
      simp [wV, h0, iU]
    · rw [List.getElem?_eq_none (by simpa using hl), List.getElem?_eq_none (by simpa using hl)]
  · rw [List.getElem?_set_ne (Ne.symm hn), List.getElem?_map, List.getElem?_map]
    by_cases hl : n < (iCl k).2.2
    · rw [List.getElem?_range hl]
      simp [wV, iU, hn]
    · rw [List.getElem?_eq_none (by simpa using hl)]; rfl
theorem wE_ast {ad : Nat → Nat → Nat} {cy : Nat → ClassId} {σ : iM} {k i n : Nat} {x : Int32} (h : 8 ≤ k) (h2 : k < 12) : (.inl (cy k, iN k i, .inl (upd (fun n => σ k i n) n x)) : va_E) = wE ad cy (iU σ k i n x) k i := by
  rw [wE_arr h h2]
  have : upd (fun n => σ k i n) n x = fun m => iU σ k i n x k i m := by
    funext m
    simp [upd, iU]
  rw [this]
theorem rfK_id {α : Type} (k i s : Nat) (f : Nat → α) : rfK k i s f = f (rfK k i s id) := by
  unfold rfK
  repeat' (first | rfl | split)
theorem raK_id {α : Type} (k i s : Nat) (f : Nat → α) : raK k i s f = f (raK k i s id) := by
  unfold raK
  split <;> rfl
theorem lt8 {P : Nat → Prop} (h0 : P 0) (h1 : P 1) (h2 : P 2) (h3 : P 3) (h4 : P 4) (h5 : P 5) (h6 : P 6) (h7 : P 7) (k : Nat) (h : k < 8) : P k := by
  match k, h with
  | 0, _ => exact h0
  | 1, _ => exact h1
  | 2, _ => exact h2
  | 3, _ => exact h3
  | 4, _ => exact h4
  | 5, _ => exact h5
  | 6, _ => exact h6
  | 7, _ => exact h7
  | n + 8, h => omega
theorem cl_get (k : Nat) (h : k < 8) : vwCl[k]? = some ((iCl k).1, (iCl k).2.1, (iCl k).2.2) := lt8 (P := fun k => vwCl[k]? = some ((iCl k).1, (iCl k).2.1, (iCl k).2.2)) rfl rfl rfl rfl rfl rfl rfl rfl k h
theorem cl_ty (k : Nat) (h : k < 8) : ∃ ty0 : Nat → FieldType, ∀ s, s < (iCl k).2.2 → parseFieldDescriptor ((iCl k).2.1 s).2.2.1 = some (ty0 s) :=
  lt8 (P := fun k => ∃ ty0 : Nat → FieldType, ∀ s, s < (iCl k).2.2 → parseFieldDescriptor ((iCl k).2.1 s).2.2.1 = some (ty0 s)) ⟨_, tyX0_ok⟩ ⟨_, tyX1_ok⟩ ⟨_, tyX2_ok⟩ ⟨_, tyX3_ok⟩ ⟨_, tyX4_ok⟩ ⟨_, tyX5_ok⟩ ⟨_, tyX6_ok⟩ ⟨_, tyX7_ok⟩ k h
theorem cl_nm (k : Nat) (h : k < 8) : ∀ a, a < (iCl k).2.2 → ∀ b, b < (iCl k).2.2 → a ≠ b → ((iCl k).2.1 a).2.1 ≠ ((iCl k).2.1 b).2.1 :=
  lt8 (P := fun k => ∀ a, a < (iCl k).2.2 → ∀ b, b < (iCl k).2.2 → a ≠ b → ((iCl k).2.1 a).2.1 ≠ ((iCl k).2.1 b).2.1) nmX0 nmX1 nmX2 nmX3 nmX4 nmX5 nmX6 nmX7 k h
/-- what a field refers to is there -/
theorem rf_ok (k s i d : Nat) (hk : k < 8) (hs : s < (iCl k).2.2) (hi : i < iCnt k) (hd : iRk k s = d + 1) : rfK k i s id < iCnt d ∧ d < 16 := by
  revert hk hs hi hd
  refine fun hk => lt8 (P := fun k => s < (iCl k).2.2 → i < iCnt k → iRk k s = d + 1 → rfK k i s id < iCnt d ∧ d < 16) ?_ ?_ ?_ ?_ ?_ ?_ ?_ ?_ k hk
  all_goals (intro hs hi hd)
  · simp [iRk] at hd
  · simp only [iRk] at hd
    simp only [iCnt] at hi
    split at hd <;> first | (obtain rfl : d = 8 := by omega); simp only [rfK, iCnt, id]; omega | omega
  · simp only [iRk] at hd
    simp only [iCnt] at hi
    split at hd <;> first | (obtain rfl : d = 8 := by omega); simp only [rfK, iCnt, id]; omega | omega
  · simp only [iRk] at hd
    simp only [iCnt] at hi
    split at hd <;> first | (obtain rfl : d = 8 := by omega); simp only [rfK, iCnt, id]; omega | omega
  · simp only [iRk] at hd
    simp only [iCnt] at hi
    split at hd
    · obtain rfl : d = 15 := by omega
      simp only [rfK, iCnt, id]; omega
    · obtain rfl : d = 13 := by omega
      simp only [rfK, iCnt, id]; omega
    · obtain rfl : d = 12 := by omega
      simp only [rfK, iCnt, id]; omega
    · obtain rfl : d = 3 := by omega
      simp only [rfK, iCnt, id]; omega
    · omega
  · simp [iRk] at hd
  · have hs : s < 5 := hs
    simp only [iCnt] at hi
    have hss : s = 0 ∨ s = 1 ∨ s = 2 ∨ s = 3 ∨ s = 4 := by omega
    rcases hss with rfl | rfl | rfl | rfl | rfl <;> simp only [iRk] at hd <;> cases hd <;> exact ⟨by simp only [rfK, iCnt, id]; omega, by omega⟩
  · have hs : s < 20 := hs
    simp only [iCnt] at hi
    have hss : s = 0 ∨ s = 1 ∨ s = 2 ∨ s = 3 ∨ s = 4 ∨ s = 5 ∨ s = 6 ∨ s = 7 ∨ s = 8 ∨ s = 9 ∨ s = 10 ∨ s = 11 ∨ s = 12 ∨ s = 13 ∨ s = 14 ∨ s = 15 ∨ s = 16 ∨ s = 17 ∨ s = 18 ∨ s = 19 := by omega
    rcases hss with rfl | rfl | rfl | rfl | rfl | rfl | rfl | rfl | rfl | rfl | rfl | rfl | rfl | rfl | rfl | rfl | rfl | rfl | rfl | rfl <;> simp only [iRk] at hd <;> cases hd <;> exact ⟨by simp only [rfK, iCnt, id]; omega, by omega⟩
theorem ra_ok (k i n : Nat) (h1 : 12 ≤ k) (h2 : k ≤ 15) (hi : i < iCnt k) (hn : n < iN k i) : raK k i n id < iCnt (iEk k) := by
  have : k = 12 ∨ k = 13 ∨ k = 14 ∨ k = 15 := by omega
  rcases this with rfl | rfl | rfl | rfl <;> simp only [iCnt] at hi <;> simp only [iN] at hn <;> simp only [raK, iEk, iCnt, id] <;> omega
