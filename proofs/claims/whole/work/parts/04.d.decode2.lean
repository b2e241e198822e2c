/-! ===== the code is decoded as the tables say ===== -/
set_option maxRecDepth 100000 in
theorem okD_15 : (List.range' 180 12).all okD = true := by decide +kernel
set_option maxRecDepth 100000 in
theorem okD_16 : (List.range' 192 12).all okD = true := by decide +kernel
set_option maxRecDepth 100000 in
theorem okD_17 : (List.range' 204 12).all okD = true := by decide +kernel
set_option maxRecDepth 100000 in
theorem okD_18 : (List.range' 216 12).all okD = true := by decide +kernel
set_option maxRecDepth 100000 in
theorem okD_19 : (List.range' 228 12).all okD = true := by decide +kernel
set_option maxRecDepth 100000 in
theorem okD_20 : (List.range' 240 12).all okD = true := by decide +kernel
set_option maxRecDepth 100000 in
theorem okD_21 : (List.range' 252 12).all okD = true := by decide +kernel
set_option maxRecDepth 100000 in
theorem okD_22 : (List.range' 264 12).all okD = true := by decide +kernel
set_option maxRecDepth 100000 in
theorem okD_23 : (List.range' 276 12).all okD = true := by decide +kernel
set_option maxRecDepth 100000 in
theorem okD_24 : (List.range' 288 12).all okD = true := by decide +kernel
set_option maxRecDepth 100000 in
theorem okD_25 : (List.range' 300 12).all okD = true := by decide +kernel
set_option maxRecDepth 100000 in
theorem okD_26 : (List.range' 312 12).all okD = true := by decide +kernel
set_option maxRecDepth 100000 in
theorem okD_27 : (List.range' 324 12).all okD = true := by decide +kernel
set_option maxRecDepth 100000 in
theorem okD_28 : (List.range' 336 12).all okD = true := by decide +kernel
set_option maxRecDepth 100000 in
theorem okD_29 : (List.range' 348 5).all okD = true := by decide +kernel
theorem okD_all {b : Nat} (h : b < 353) : okD b = true := by
  rcases (by omega : 0 ≤ b ∧ b < 12 ∨ 12 ≤ b ∧ b < 24 ∨ 24 ≤ b ∧ b < 36 ∨ 36 ≤ b ∧ b < 48 ∨ 48 ≤ b ∧ b < 60 ∨ 60 ≤ b ∧ b < 72 ∨ 72 ≤ b ∧ b < 84 ∨ 84 ≤ b ∧ b < 96 ∨ 96 ≤ b ∧ b < 108 ∨ 108 ≤ b ∧ b < 120 ∨ 120 ≤ b ∧ b < 132 ∨ 132 ≤ b ∧ b < 144 ∨ 144 ≤ b ∧ b < 156 ∨ 156 ≤ b ∧ b < 168 ∨ 168 ≤ b ∧ b < 180 ∨ 180 ≤ b ∧ b < 192 ∨ 192 ≤ b ∧ b < 204 ∨ 204 ≤ b ∧ b < 216 ∨ 216 ≤ b ∧ b < 228 ∨ 228 ≤ b ∧ b < 240 ∨ 240 ≤ b ∧ b < 252 ∨ 252 ≤ b ∧ b < 264 ∨ 264 ≤ b ∧ b < 276 ∨ 276 ≤ b ∧ b < 288 ∨ 288 ≤ b ∧ b < 300 ∨ 300 ≤ b ∧ b < 312 ∨ 312 ≤ b ∧ b < 324 ∨ 324 ≤ b ∧ b < 336 ∨ 336 ≤ b ∧ b < 348 ∨ 348 ≤ b ∧ b < 353) with q | q | q | q | q | q | q | q | q | q | q | q | q | q | q | q | q | q | q | q | q | q | q | q | q | q | q | q | q | q
  · exact List.all_eq_true.mp okD_0 b (List.mem_range'_1.mpr ⟨q.1, by omega⟩)
  · exact List.all_eq_true.mp okD_1 b (List.mem_range'_1.mpr ⟨q.1, by omega⟩)
  · exact List.all_eq_true.mp okD_2 b (List.mem_range'_1.mpr ⟨q.1, by omega⟩)
  · exact List.all_eq_true.mp okD_3 b (List.mem_range'_1.mpr ⟨q.1, by omega⟩)
  · exact List.all_eq_true.mp okD_4 b (List.mem_range'_1.mpr ⟨q.1, by omega⟩)
  · exact List.all_eq_true.mp okD_5 b (List.mem_range'_1.mpr ⟨q.1, by omega⟩)
  · exact List.all_eq_true.mp okD_6 b (List.mem_range'_1.mpr ⟨q.1, by omega⟩)
  · exact List.all_eq_true.mp okD_7 b (List.mem_range'_1.mpr ⟨q.1, by omega⟩)
  · exact List.all_eq_true.mp okD_8 b (List.mem_range'_1.mpr ⟨q.1, by omega⟩)
  · exact List.all_eq_true.mp okD_9 b (List.mem_range'_1.mpr ⟨q.1, by omega⟩)
  · exact List.all_eq_true.mp okD_10 b (List.mem_range'_1.mpr ⟨q.1, by omega⟩)
  · exact List.all_eq_true.mp okD_11 b (List.mem_range'_1.mpr ⟨q.1, by omega⟩)
  · exact List.all_eq_true.mp okD_12 b (List.mem_range'_1.mpr ⟨q.1, by omega⟩)
  · exact List.all_eq_true.mp okD_13 b (List.mem_range'_1.mpr ⟨q.1, by omega⟩)
  · exact List.all_eq_true.mp okD_14 b (List.mem_range'_1.mpr ⟨q.1, by omega⟩)
  · exact List.all_eq_true.mp okD_15 b (List.mem_range'_1.mpr ⟨q.1, by omega⟩)
  · exact List.all_eq_true.mp okD_16 b (List.mem_range'_1.mpr ⟨q.1, by omega⟩)
  · exact List.all_eq_true.mp okD_17 b (List.mem_range'_1.mpr ⟨q.1, by omega⟩)
  · exact List.all_eq_true.mp okD_18 b (List.mem_range'_1.mpr ⟨q.1, by omega⟩)
  · exact List.all_eq_true.mp okD_19 b (List.mem_range'_1.mpr ⟨q.1, by omega⟩)
  · exact List.all_eq_true.mp okD_20 b (List.mem_range'_1.mpr ⟨q.1, by omega⟩)
  · exact List.all_eq_true.mp okD_21 b (List.mem_range'_1.mpr ⟨q.1, by omega⟩)
  · exact List.all_eq_true.mp okD_22 b (List.mem_range'_1.mpr ⟨q.1, by omega⟩)
  · exact List.all_eq_true.mp okD_23 b (List.mem_range'_1.mpr ⟨q.1, by omega⟩)
  · exact List.all_eq_true.mp okD_24 b (List.mem_range'_1.mpr ⟨q.1, by omega⟩)
  · exact List.all_eq_true.mp okD_25 b (List.mem_range'_1.mpr ⟨q.1, by omega⟩)
  · exact List.all_eq_true.mp okD_26 b (List.mem_range'_1.mpr ⟨q.1, by omega⟩)
  · exact List.all_eq_true.mp okD_27 b (List.mem_range'_1.mpr ⟨q.1, by omega⟩)
  · exact List.all_eq_true.mp okD_28 b (List.mem_range'_1.mpr ⟨q.1, by omega⟩)
  · exact List.all_eq_true.mp okD_29 b (List.mem_range'_1.mpr ⟨q.1, by omega⟩)
