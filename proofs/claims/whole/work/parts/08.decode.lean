/-! ===== the code is decoded as the tables say ===== -/
noncomputable def okD (b : Nat) : Bool := (cdL.getD b []).all (fun q => decide (decode (byt b) q.1 = .ok q.2))
set_option maxRecDepth 100000 in
theorem okD_0 : (List.range' 0 25).all okD = true := by decide +kernel
set_option maxRecDepth 100000 in
theorem okD_1 : (List.range' 25 25).all okD = true := by decide +kernel
set_option maxRecDepth 100000 in
theorem okD_2 : (List.range' 50 25).all okD = true := by decide +kernel
set_option maxRecDepth 100000 in
theorem okD_3 : (List.range' 75 25).all okD = true := by decide +kernel
set_option maxRecDepth 100000 in
theorem okD_4 : (List.range' 100 25).all okD = true := by decide +kernel
set_option maxRecDepth 100000 in
theorem okD_5 : (List.range' 125 25).all okD = true := by decide +kernel
set_option maxRecDepth 100000 in
theorem okD_6 : (List.range' 150 25).all okD = true := by decide +kernel
set_option maxRecDepth 100000 in
theorem okD_7 : (List.range' 175 25).all okD = true := by decide +kernel
set_option maxRecDepth 100000 in
theorem okD_8 : (List.range' 200 25).all okD = true := by decide +kernel
set_option maxRecDepth 100000 in
theorem okD_9 : (List.range' 225 25).all okD = true := by decide +kernel
set_option maxRecDepth 100000 in
theorem okD_10 : (List.range' 250 25).all okD = true := by decide +kernel
set_option maxRecDepth 100000 in
theorem okD_11 : (List.range' 275 25).all okD = true := by decide +kernel
set_option maxRecDepth 100000 in
theorem okD_12 : (List.range' 300 25).all okD = true := by decide +kernel
set_option maxRecDepth 100000 in
theorem okD_13 : (List.range' 325 25).all okD = true := by decide +kernel
set_option maxRecDepth 100000 in
theorem okD_14 : (List.range' 350 3).all okD = true := by decide +kernel
set_option maxRecDepth 100000 in
theorem okDl_0 : cd_353_0.all (fun q => decide (decode (byt 353) q.1 = .ok q.2)) = true := by decide +kernel
set_option maxRecDepth 100000 in
theorem okDl_1 : cd_353_1.all (fun q => decide (decode (byt 353) q.1 = .ok q.2)) = true := by decide +kernel
set_option maxRecDepth 100000 in
theorem okDl_2 : cd_353_2.all (fun q => decide (decode (byt 353) q.1 = .ok q.2)) = true := by decide +kernel
set_option maxRecDepth 100000 in
theorem okDl_3 : cd_353_3.all (fun q => decide (decode (byt 353) q.1 = .ok q.2)) = true := by decide +kernel
set_option maxRecDepth 100000 in
theorem okDl_4 : cd_353_4.all (fun q => decide (decode (byt 353) q.1 = .ok q.2)) = true := by decide +kernel
set_option maxRecDepth 100000 in
theorem okDl_5 : cd_353_5.all (fun q => decide (decode (byt 353) q.1 = .ok q.2)) = true := by decide +kernel
set_option maxRecDepth 100000 in
theorem okDl_6 : cd_353_6.all (fun q => decide (decode (byt 353) q.1 = .ok q.2)) = true := by decide +kernel
set_option maxRecDepth 100000 in
theorem okDl_7 : cd_353_7.all (fun q => decide (decode (byt 353) q.1 = .ok q.2)) = true := by decide +kernel
theorem okD_all {b : Nat} (h : b < 353) : okD b = true := by
  rcases (by omega : 0 ≤ b ∧ b < 25 ∨ 25 ≤ b ∧ b < 50 ∨ 50 ≤ b ∧ b < 75 ∨ 75 ≤ b ∧ b < 100 ∨ 100 ≤ b ∧ b < 125 ∨ 125 ≤ b ∧ b < 150 ∨ 150 ≤ b ∧ b < 175 ∨ 175 ≤ b ∧ b < 200 ∨ 200 ≤ b ∧ b < 225 ∨ 225 ≤ b ∧ b < 250 ∨ 250 ≤ b ∧ b < 275 ∨ 275 ≤ b ∧ b < 300 ∨ 300 ≤ b ∧ b < 325 ∨ 325 ≤ b ∧ b < 350 ∨ 350 ≤ b ∧ b < 353) with q | q | q | q | q | q | q | q | q | q | q | q | q | q | q
  · exact List.all_eq_true.mp okD_0 b (List.mem_range'_1.mpr ⟨q.1, by omega⟩)
  · exact List.all_eq_true.mp okD_1 b (List.mem_range'_1.mpr ⟨q.1, by omega⟩)
  · exact List.all_eq_true.mp okD_2 b (List.mem_range'_1.mpr ⟨q.1, by omega⟩)
  · exact List.all_eq_true.mp okD_3 b (List.mem_range'_1.mpr ⟨q.1, by omega⟩)
  · exact List.all_eq_true.mp okD_4 b (List.mem_range'_1.mpr ⟨q.1, by omega⟩)
  · exact List.all_eq_true.mp okD_5 b (List.mem_range'_1.mpr ⟨q.1, by omega⟩)
  · exact List.all_eq_true.mp okD_6 b (List.mem_range'_1.mpr ⟨q.1, by omega⟩)
  · exact List.all_eq_true.mp okD_7 b (List.mem_range'_1.mpr ⟨q.1, by omega⟩)
  · exact List.all_eq_true.mp okD_8 b (List.mem_range'_1.mpr ⟨q.1, by omega⟩)
  · exact List.all_eq_true.mp okD_9 b (List.mem_range'_1.mpr ⟨q.1, by omega⟩)
  · exact List.all_eq_true.mp okD_10 b (List.mem_range'_1.mpr ⟨q.1, by omega⟩)
  · exact List.all_eq_true.mp okD_11 b (List.mem_range'_1.mpr ⟨q.1, by omega⟩)
  · exact List.all_eq_true.mp okD_12 b (List.mem_range'_1.mpr ⟨q.1, by omega⟩)
  · exact List.all_eq_true.mp okD_13 b (List.mem_range'_1.mpr ⟨q.1, by omega⟩)
  · exact List.all_eq_true.mp okD_14 b (List.mem_range'_1.mpr ⟨q.1, by omega⟩)
theorem okD_law : okD 353 = true := by
  have h : cdL.getD 353 [] = cd_353 := rfl
  unfold okD
  rw [h, cd_353]
  simp only [List.all_append, okDl_0, okDl_1, okDl_2, okDl_3, okDl_4, okDl_5, okDl_6, okDl_7, Bool.and_self]
theorem cd_dec {b pc : Nat} (hb : b < 354) {i : Instr} {len : Nat} (h : cd b pc = some (i, len)) : decode (byt b) pc = .ok (i, len) := by
  have h0 : okD b = true := by
    rcases (by omega : b < 353 ∨ b = 353) with q | q
    · exact okD_all q
    · rw [q]; exact okD_law
  have h1 := List.all_eq_true.mp h0 _ (asc_mem h)
  simpa using h1
