/-! ===== the code is decoded as the tables say ===== -/
set_option maxRecDepth 100000 in
theorem okDl_0_0 : ((cd_353_0.drop 0).take 40).all (fun q => decide (decode (byt 353) q.1 = .ok q.2)) = true := by decide +kernel
set_option maxRecDepth 100000 in
theorem okDl_0_1 : ((cd_353_0.drop 40).take 40).all (fun q => decide (decode (byt 353) q.1 = .ok q.2)) = true := by decide +kernel
set_option maxRecDepth 100000 in
theorem okDl_0_2 : ((cd_353_0.drop 80).take 40).all (fun q => decide (decode (byt 353) q.1 = .ok q.2)) = true := by decide +kernel
set_option maxRecDepth 100000 in
theorem okDl_0_3 : ((cd_353_0.drop 120).take 40).all (fun q => decide (decode (byt 353) q.1 = .ok q.2)) = true := by decide +kernel
set_option maxRecDepth 100000 in
theorem okDl_0_4 : ((cd_353_0.drop 160).take 40).all (fun q => decide (decode (byt 353) q.1 = .ok q.2)) = true := by decide +kernel
theorem okDl_0 : cd_353_0.all (fun q => decide (decode (byt 353) q.1 = .ok q.2)) = true := by
  have e : cd_353_0 = (cd_353_0.drop 0).take 40 ++ ((cd_353_0.drop 40).take 40 ++ ((cd_353_0.drop 80).take 40 ++ ((cd_353_0.drop 120).take 40 ++ (cd_353_0.drop 160).take 40))) := rfl
  rw [e]
  simp only [List.all_append, okDl_0_0, okDl_0_1, okDl_0_2, okDl_0_3, okDl_0_4, Bool.and_self]
set_option maxRecDepth 100000 in
theorem okDl_1_0 : ((cd_353_1.drop 0).take 40).all (fun q => decide (decode (byt 353) q.1 = .ok q.2)) = true := by decide +kernel
set_option maxRecDepth 100000 in
theorem okDl_1_1 : ((cd_353_1.drop 40).take 40).all (fun q => decide (decode (byt 353) q.1 = .ok q.2)) = true := by decide +kernel
set_option maxRecDepth 100000 in
theorem okDl_1_2 : ((cd_353_1.drop 80).take 40).all (fun q => decide (decode (byt 353) q.1 = .ok q.2)) = true := by decide +kernel
set_option maxRecDepth 100000 in
theorem okDl_1_3 : ((cd_353_1.drop 120).take 40).all (fun q => decide (decode (byt 353) q.1 = .ok q.2)) = true := by decide +kernel
set_option maxRecDepth 100000 in
theorem okDl_1_4 : ((cd_353_1.drop 160).take 40).all (fun q => decide (decode (byt 353) q.1 = .ok q.2)) = true := by decide +kernel
theorem okDl_1 : cd_353_1.all (fun q => decide (decode (byt 353) q.1 = .ok q.2)) = true := by
  have e : cd_353_1 = (cd_353_1.drop 0).take 40 ++ ((cd_353_1.drop 40).take 40 ++ ((cd_353_1.drop 80).take 40 ++ ((cd_353_1.drop 120).take 40 ++ (cd_353_1.drop 160).take 40))) := rfl
  rw [e]
  simp only [List.all_append, okDl_1_0, okDl_1_1, okDl_1_2, okDl_1_3, okDl_1_4, Bool.and_self]
set_option maxRecDepth 100000 in
theorem okDl_2_0 : ((cd_353_2.drop 0).take 40).all (fun q => decide (decode (byt 353) q.1 = .ok q.2)) = true := by decide +kernel
set_option maxRecDepth 100000 in
theorem okDl_2_1 : ((cd_353_2.drop 40).take 40).all (fun q => decide (decode (byt 353) q.1 = .ok q.2)) = true := by decide +kernel
set_option maxRecDepth 100000 in
theorem okDl_2_2 : ((cd_353_2.drop 80).take 40).all (fun q => decide (decode (byt 353) q.1 = .ok q.2)) = true := by decide +kernel
set_option maxRecDepth 100000 in
theorem okDl_2_3 : ((cd_353_2.drop 120).take 40).all (fun q => decide (decode (byt 353) q.1 = .ok q.2)) = true := by decide +kernel
set_option maxRecDepth 100000 in
theorem okDl_2_4 : ((cd_353_2.drop 160).take 40).all (fun q => decide (decode (byt 353) q.1 = .ok q.2)) = true := by decide +kernel
theorem okDl_2 : cd_353_2.all (fun q => decide (decode (byt 353) q.1 = .ok q.2)) = true := by
  have e : cd_353_2 = (cd_353_2.drop 0).take 40 ++ ((cd_353_2.drop 40).take 40 ++ ((cd_353_2.drop 80).take 40 ++ ((cd_353_2.drop 120).take 40 ++ (cd_353_2.drop 160).take 40))) := rfl
  rw [e]
  simp only [List.all_append, okDl_2_0, okDl_2_1, okDl_2_2, okDl_2_3, okDl_2_4, Bool.and_self]
set_option maxRecDepth 100000 in
theorem okDl_3_0 : ((cd_353_3.drop 0).take 40).all (fun q => decide (decode (byt 353) q.1 = .ok q.2)) = true := by decide +kernel
set_option maxRecDepth 100000 in
theorem okDl_3_1 : ((cd_353_3.drop 40).take 40).all (fun q => decide (decode (byt 353) q.1 = .ok q.2)) = true := by decide +kernel
set_option maxRecDepth 100000 in
theorem okDl_3_2 : ((cd_353_3.drop 80).take 40).all (fun q => decide (decode (byt 353) q.1 = .ok q.2)) = true := by decide +kernel
set_option maxRecDepth 100000 in
theorem okDl_3_3 : ((cd_353_3.drop 120).take 40).all (fun q => decide (decode (byt 353) q.1 = .ok q.2)) = true := by decide +kernel
set_option maxRecDepth 100000 in
theorem okDl_3_4 : ((cd_353_3.drop 160).take 40).all (fun q => decide (decode (byt 353) q.1 = .ok q.2)) = true := by decide +kernel
theorem okDl_3 : cd_353_3.all (fun q => decide (decode (byt 353) q.1 = .ok q.2)) = true := by
  have e : cd_353_3 = (cd_353_3.drop 0).take 40 ++ ((cd_353_3.drop 40).take 40 ++ ((cd_353_3.drop 80).take 40 ++ ((cd_353_3.drop 120).take 40 ++ (cd_353_3.drop 160).take 40))) := rfl
  rw [e]
  simp only [List.all_append, okDl_3_0, okDl_3_1, okDl_3_2, okDl_3_3, okDl_3_4, Bool.and_self]
set_option maxRecDepth 100000 in
theorem okDl_4_0 : ((cd_353_4.drop 0).take 40).all (fun q => decide (decode (byt 353) q.1 = .ok q.2)) = true := by decide +kernel
set_option maxRecDepth 100000 in
theorem okDl_4_1 : ((cd_353_4.drop 40).take 40).all (fun q => decide (decode (byt 353) q.1 = .ok q.2)) = true := by decide +kernel
set_option maxRecDepth 100000 in
theorem okDl_4_2 : ((cd_353_4.drop 80).take 40).all (fun q => decide (decode (byt 353) q.1 = .ok q.2)) = true := by decide +kernel
set_option maxRecDepth 100000 in
theorem okDl_4_3 : ((cd_353_4.drop 120).take 40).all (fun q => decide (decode (byt 353) q.1 = .ok q.2)) = true := by decide +kernel
set_option maxRecDepth 100000 in
theorem okDl_4_4 : ((cd_353_4.drop 160).take 40).all (fun q => decide (decode (byt 353) q.1 = .ok q.2)) = true := by decide +kernel
theorem okDl_4 : cd_353_4.all (fun q => decide (decode (byt 353) q.1 = .ok q.2)) = true := by
  have e : cd_353_4 = (cd_353_4.drop 0).take 40 ++ ((cd_353_4.drop 40).take 40 ++ ((cd_353_4.drop 80).take 40 ++ ((cd_353_4.drop 120).take 40 ++ (cd_353_4.drop 160).take 40))) := rfl
  rw [e]
  simp only [List.all_append, okDl_4_0, okDl_4_1, okDl_4_2, okDl_4_3, okDl_4_4, Bool.and_self]
