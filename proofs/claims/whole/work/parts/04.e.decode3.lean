/-! ===== the code is decoded as the tables say ===== -/
theorem okD_dr {α : Type} {l : List α} {p : α → Bool} {k : Nat} (h1 : ((l.drop k).take 40).all p = true) (h2 : (l.drop (k + 40)).all p = true) : (l.drop k).all p = true := by
  rw [← List.take_append_drop 40 (l.drop k), List.all_append, h1, List.drop_drop, h2]; rfl
set_option maxRecDepth 100000 in
theorem okDl_0_0 : ((cd_353_0.drop 0).take 40).all (fun q => decide (decode (byt 353) q.1 = .ok q.2)) = true := by decide +kernel
set_option maxRecDepth 100000 in
theorem okDl_0_1 : ((cd_353_0.drop 40).take 40).all (fun q => decide (decode (byt 353) q.1 = .ok q.2)) = true := by decide +kernel
set_option maxRecDepth 100000 in
theorem okDl_0_2 : ((cd_353_0.drop 80).take 40).all (fun q => decide (decode (byt 353) q.1 = .ok q.2)) = true := by decide +kernel
set_option maxRecDepth 100000 in
theorem okDl_0_3 : ((cd_353_0.drop 120).take 40).all (fun q => decide (decode (byt 353) q.1 = .ok q.2)) = true := by decide +kernel
set_option maxRecDepth 100000 in
theorem okDl_0_4 : ((cd_353_0.drop 160).take 40).all (fun q => decide (decode (byt 353) q.1 = .ok q.2)) = true := by decide +kernel
theorem okDl_0 : cd_353_0.all (fun q => decide (decode (byt 353) q.1 = .ok q.2)) = true := by
  show (cd_353_0.drop 0).all _ = true
  exact okD_dr okDl_0_0 (okD_dr okDl_0_1 (okD_dr okDl_0_2 (okD_dr okDl_0_3 (okD_dr okDl_0_4 rfl))))
set_option maxRecDepth 100000 in
theorem okDl_1_0 : ((cd_353_1.drop 0).take 40).all (fun q => decide (decode (byt 353) q.1 = .ok q.2)) = true := by decide +kernel
set_option maxRecDepth 100000 in
theorem okDl_1_1 : ((cd_353_1.drop 40).take 40).all (fun q => decide (decode (byt 353) q.1 = .ok q.2)) = true := by decide +kernel
set_option maxRecDepth 100000 in
theorem okDl_1_2 : ((cd_353_1.drop 80).take 40).all (fun q => decide (decode (byt 353) q.1 = .ok q.2)) = true := by decide +kernel
set_option maxRecDepth 100000 in
theorem okDl_1_3 : ((cd_353_1.drop 120).take 40).all (fun q => decide (decode (byt 353) q.1 = .ok q.2)) = true := by decide +kernel
set_option maxRecDepth 100000 in
theorem okDl_1_4 : ((cd_353_1.drop 160).take 40).all (fun q => decide (decode (byt 353) q.1 = .ok q.2)) = true := by decide +kernel
theorem okDl_1 : cd_353_1.all (fun q => decide (decode (byt 353) q.1 = .ok q.2)) = true := by
  show (cd_353_1.drop 0).all _ = true
  exact okD_dr okDl_1_0 (okD_dr okDl_1_1 (okD_dr okDl_1_2 (okD_dr okDl_1_3 (okD_dr okDl_1_4 rfl))))
set_option maxRecDepth 100000 in
theorem okDl_2_0 : ((cd_353_2.drop 0).take 40).all (fun q => decide (decode (byt 353) q.1 = .ok q.2)) = true := by decide +kernel
set_option maxRecDepth 100000 in
theorem okDl_2_1 : ((cd_353_2.drop 40).take 40).all (fun q => decide (decode (byt 353) q.1 = .ok q.2)) = true := by decide +kernel
set_option maxRecDepth 100000 in
theorem okDl_2_2 : ((cd_353_2.drop 80).take 40).all (fun q => decide (decode (byt 353) q.1 = .ok q.2)) = true := by decide +kernel
set_option maxRecDepth 100000 in
theorem okDl_2_3 : ((cd_353_2.drop 120).take 40).all (fun q => decide (decode (byt 353) q.1 = .ok q.2)) = true := by decide +kernel
set_option maxRecDepth 100000 in
theorem okDl_2_4 : ((cd_353_2.drop 160).take 40).all (fun q => decide (decode (byt 353) q.1 = .ok q.2)) = true := by decide +kernel
theorem okDl_2 : cd_353_2.all (fun q => decide (decode (byt 353) q.1 = .ok q.2)) = true := by
  show (cd_353_2.drop 0).all _ = true
  exact okD_dr okDl_2_0 (okD_dr okDl_2_1 (okD_dr okDl_2_2 (okD_dr okDl_2_3 (okD_dr okDl_2_4 rfl))))
set_option maxRecDepth 100000 in
theorem okDl_3_0 : ((cd_353_3.drop 0).take 40).all (fun q => decide (decode (byt 353) q.1 = .ok q.2)) = true := by decide +kernel
set_option maxRecDepth 100000 in
theorem okDl_3_1 : ((cd_353_3.drop 40).take 40).all (fun q => decide (decode (byt 353) q.1 = .ok q.2)) = true := by decide +kernel
set_option maxRecDepth 100000 in
theorem okDl_3_2 : ((cd_353_3.drop 80).take 40).all (fun q => decide (decode (byt 353) q.1 = .ok q.2)) = true := by decide +kernel
set_option maxRecDepth 100000 in
theorem okDl_3_3 : ((cd_353_3.drop 120).take 40).all (fun q => decide (decode (byt 353) q.1 = .ok q.2)) = true := by decide +kernel
set_option maxRecDepth 100000 in
theorem okDl_3_4 : ((cd_353_3.drop 160).take 40).all (fun q => decide (decode (byt 353) q.1 = .ok q.2)) = true := by decide +kernel
theorem okDl_3 : cd_353_3.all (fun q => decide (decode (byt 353) q.1 = .ok q.2)) = true := by
  show (cd_353_3.drop 0).all _ = true
  exact okD_dr okDl_3_0 (okD_dr okDl_3_1 (okD_dr okDl_3_2 (okD_dr okDl_3_3 (okD_dr okDl_3_4 rfl))))
set_option maxRecDepth 100000 in
theorem okDl_4_0 : ((cd_353_4.drop 0).take 40).all (fun q => decide (decode (byt 353) q.1 = .ok q.2)) = true := by decide +kernel
set_option maxRecDepth 100000 in
theorem okDl_4_1 : ((cd_353_4.drop 40).take 40).all (fun q => decide (decode (byt 353) q.1 = .ok q.2)) = true := by decide +kernel
set_option maxRecDepth 100000 in
theorem okDl_4_2 : ((cd_353_4.drop 80).take 40).all (fun q => decide (decode (byt 353) q.1 = .ok q.2)) = true := by decide +kernel
set_option maxRecDepth 100000 in
theorem okDl_4_3 : ((cd_353_4.drop 120).take 40).all (fun q => decide (decode (byt 353) q.1 = .ok q.2)) = true := by decide +kernel
set_option maxRecDepth 100000 in
theorem okDl_4_4 : ((cd_353_4.drop 160).take 40).all (fun q => decide (decode (byt 353) q.1 = .ok q.2)) = true := by decide +kernel
theorem okDl_4 : cd_353_4.all (fun q => decide (decode (byt 353) q.1 = .ok q.2)) = true := by
  show (cd_353_4.drop 0).all _ = true
  exact okD_dr okDl_4_0 (okD_dr okDl_4_1 (okD_dr okDl_4_2 (okD_dr okDl_4_3 (okD_dr okDl_4_4 rfl))))
