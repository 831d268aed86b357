set_option maxRecDepth 100000 in
theorem ckc_0 : ((List.range' 0 25).all chkM) = true := by decide +kernel
set_option maxRecDepth 100000 in
theorem ckc_1 : ((List.range' 25 25).all chkM) = true := by decide +kernel
set_option maxRecDepth 100000 in
theorem ckc_2 : ((List.range' 50 25).all chkM) = true := by decide +kernel
set_option maxRecDepth 100000 in
theorem ckc_3 : ((List.range' 75 25).all chkM) = true := by decide +kernel
set_option maxRecDepth 100000 in
theorem ckc_4 : ((List.range' 100 25).all chkM) = true := by decide +kernel
set_option maxRecDepth 100000 in
theorem ckc_5 : ((List.range' 125 25).all chkM) = true := by decide +kernel
set_option maxRecDepth 100000 in
theorem ckc_6 : ((List.range' 150 25).all chkM) = true := by decide +kernel
set_option maxRecDepth 100000 in
theorem ckc_7 : ((List.range' 175 25).all chkM) = true := by decide +kernel
set_option maxRecDepth 100000 in
theorem ckc_8 : ((List.range' 200 25).all chkM) = true := by decide +kernel
set_option maxRecDepth 100000 in
theorem ckc_9 : ((List.range' 225 25).all chkM) = true := by decide +kernel
set_option maxRecDepth 100000 in
theorem ckc_10 : ((List.range' 250 25).all chkM) = true := by decide +kernel
theorem ck_in {a n j : Nat} (h : ((List.range' a n).all chkM) = true) (h1 : a ≤ j) (h2 : j < a + n) : chkM j = true := List.all_eq_true.mp h j (List.mem_range'_1.mpr ⟨h1, h2⟩)
theorem ck_all (j : Nat) (h : j < nMt) : chkM j = true := by
  have h : j < 275 := h
  by_cases h0 : j < 25
  · exact ck_in ckc_0 (by omega) (by omega)
  by_cases h1 : j < 50
  · exact ck_in ckc_1 (by omega) (by omega)
  by_cases h2 : j < 75
  · exact ck_in ckc_2 (by omega) (by omega)
  by_cases h3 : j < 100
  · exact ck_in ckc_3 (by omega) (by omega)
  by_cases h4 : j < 125
  · exact ck_in ckc_4 (by omega) (by omega)
  by_cases h5 : j < 150
  · exact ck_in ckc_5 (by omega) (by omega)
  by_cases h6 : j < 175
  · exact ck_in ckc_6 (by omega) (by omega)
  by_cases h7 : j < 200
  · exact ck_in ckc_7 (by omega) (by omega)
  by_cases h8 : j < 225
  · exact ck_in ckc_8 (by omega) (by omega)
  by_cases h9 : j < 250
  · exact ck_in ckc_9 (by omega) (by omega)
  exact ck_in ckc_10 (by omega) (by omega)
