/-! ===== the code is decoded as the tables say ===== -/
noncomputable def okD (b : Nat) : Bool := (cdL.getD b []).all (fun q => decide (decode (byt b) q.1 = .ok q.2))
set_option maxRecDepth 100000 in
theorem okD_0 : (List.range' 0 12).all okD = true := by decide +kernel
set_option maxRecDepth 100000 in
theorem okD_1 : (List.range' 12 12).all okD = true := by decide +kernel
set_option maxRecDepth 100000 in
theorem okD_2 : (List.range' 24 12).all okD = true := by decide +kernel
set_option maxRecDepth 100000 in
theorem okD_3 : (List.range' 36 12).all okD = true := by decide +kernel
set_option maxRecDepth 100000 in
theorem okD_4 : (List.range' 48 12).all okD = true := by decide +kernel
set_option maxRecDepth 100000 in
theorem okD_5 : (List.range' 60 12).all okD = true := by decide +kernel
set_option maxRecDepth 100000 in
theorem okD_6 : (List.range' 72 12).all okD = true := by decide +kernel
set_option maxRecDepth 100000 in
theorem okD_7 : (List.range' 84 12).all okD = true := by decide +kernel
set_option maxRecDepth 100000 in
theorem okD_8 : (List.range' 96 12).all okD = true := by decide +kernel
set_option maxRecDepth 100000 in
theorem okD_9 : (List.range' 108 12).all okD = true := by decide +kernel
set_option maxRecDepth 100000 in
theorem okD_10 : (List.range' 120 12).all okD = true := by decide +kernel
set_option maxRecDepth 100000 in
theorem okD_11 : (List.range' 132 12).all okD = true := by decide +kernel
set_option maxRecDepth 100000 in
theorem okD_12 : (List.range' 144 12).all okD = true := by decide +kernel
set_option maxRecDepth 100000 in
theorem okD_13 : (List.range' 156 12).all okD = true := by decide +kernel
set_option maxRecDepth 100000 in
theorem okD_14 : (List.range' 168 12).all okD = true := by decide +kernel
