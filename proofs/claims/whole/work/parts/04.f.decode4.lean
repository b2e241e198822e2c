/-! ===== the code is decoded as the tables say ===== -/
set_option maxRecDepth 100000 in
theorem okDl_5_0 : ((cd_353_5.drop 0).take 40).all (fun q => decide (decode (byt 353) q.1 = .ok q.2)) = true := by decide +kernel
set_option maxRecDepth 100000 in
theorem okDl_5_1 : ((cd_353_5.drop 40).take 40).all (fun q => decide (decode (byt 353) q.1 = .ok q.2)) = true := by decide +kernel
set_option maxRecDepth 100000 in
theorem okDl_5_2 : ((cd_353_5.drop 80).take 40).all (fun q => decide (decode (byt 353) q.1 = .ok q.2)) = true := by decide +kernel
set_option maxRecDepth 100000 in
theorem okDl_5_3 : ((cd_353_5.drop 120).take 40).all (fun q => decide (decode (byt 353) q.1 = .ok q.2)) = true := by decide +kernel
set_option maxRecDepth 100000 in
theorem okDl_5_4 : ((cd_353_5.drop 160).take 40).all (fun q => decide (decode (byt 353) q.1 = .ok q.2)) = true := by decide +kernel
theorem okDl_5 : cd_353_5.all (fun q => decide (decode (byt 353) q.1 = .ok q.2)) = true := by
  show (cd_353_5.drop 0).all _ = true
  exact okD_dr okDl_5_0 (okD_dr okDl_5_1 (okD_dr okDl_5_2 (okD_dr okDl_5_3 (okD_dr okDl_5_4 rfl))))
set_option maxRecDepth 100000 in
theorem okDl_6_0 : ((cd_353_6.drop 0).take 40).all (fun q => decide (decode (byt 353) q.1 = .ok q.2)) = true := by decide +kernel
set_option maxRecDepth 100000 in
theorem okDl_6_1 : ((cd_353_6.drop 40).take 40).all (fun q => decide (decode (byt 353) q.1 = .ok q.2)) = true := by decide +kernel
set_option maxRecDepth 100000 in
theorem okDl_6_2 : ((cd_353_6.drop 80).take 40).all (fun q => decide (decode (byt 353) q.1 = .ok q.2)) = true := by decide +kernel
set_option maxRecDepth 100000 in
theorem okDl_6_3 : ((cd_353_6.drop 120).take 40).all (fun q => decide (decode (byt 353) q.1 = .ok q.2)) = true := by decide +kernel
set_option maxRecDepth 100000 in
theorem okDl_6_4 : ((cd_353_6.drop 160).take 40).all (fun q => decide (decode (byt 353) q.1 = .ok q.2)) = true := by decide +kernel
theorem okDl_6 : cd_353_6.all (fun q => decide (decode (byt 353) q.1 = .ok q.2)) = true := by
  show (cd_353_6.drop 0).all _ = true
  exact okD_dr okDl_6_0 (okD_dr okDl_6_1 (okD_dr okDl_6_2 (okD_dr okDl_6_3 (okD_dr okDl_6_4 rfl))))
set_option maxRecDepth 100000 in
theorem okDl_7_0 : ((cd_353_7.drop 0).take 40).all (fun q => decide (decode (byt 353) q.1 = .ok q.2)) = true := by decide +kernel
set_option maxRecDepth 100000 in
theorem okDl_7_1 : ((cd_353_7.drop 40).take 40).all (fun q => decide (decode (byt 353) q.1 = .ok q.2)) = true := by decide +kernel
set_option maxRecDepth 100000 in
theorem okDl_7_2 : ((cd_353_7.drop 80).take 40).all (fun q => decide (decode (byt 353) q.1 = .ok q.2)) = true := by decide +kernel
set_option maxRecDepth 100000 in
theorem okDl_7_3 : ((cd_353_7.drop 120).take 40).all (fun q => decide (decode (byt 353) q.1 = .ok q.2)) = true := by decide +kernel
set_option maxRecDepth 100000 in
theorem okDl_7_4 : ((cd_353_7.drop 160).take 40).all (fun q => decide (decode (byt 353) q.1 = .ok q.2)) = true := by decide +kernel
theorem okDl_7 : cd_353_7.all (fun q => decide (decode (byt 353) q.1 = .ok q.2)) = true := by
  show (cd_353_7.drop 0).all _ = true
  exact okD_dr okDl_7_0 (okD_dr okDl_7_1 (okD_dr okDl_7_2 (okD_dr okDl_7_3 (okD_dr okDl_7_4 rfl))))
theorem okD_law : okD 353 = true := by
  have h : cdL.getD 353 [] = cd_353 := rfl
  unfold okD
  rw [h, cd_353]
  simp only [List.all_append, okDl_0, okDl_1, okDl_2, okDl_3, okDl_4, okDl_5, okDl_6, okDl_7, Bool.and_self]
theorem cd_dec {b pc : Nat} (hb : b < 354) {i : Instr} {len : Nat} (h : cd b pc = some (i, len)) : decode (byt b) pc = .ok (i, len) := by
  have h0 : okD b = true := by
    rcases (by omega : b < 353 ∨ b = 353) with q | q
    · exact okD_all q
    · rw [q]; exact okD_law
  have h1 := List.all_eq_true.mp h0 _ (asc_mem h)
  simpa using h1
