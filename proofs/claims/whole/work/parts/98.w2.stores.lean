/-! ===== the law's start: the stores (written by wip/gen/ctor.py) ===== -/
section CTOR
variable {p : Nat × (Nat → Int32)} {z : pS} {m a i : Nat}
theorem pnsN : pn (stP (sN z m) p) = pn (stP z p) + 1 := rfl
theorem pnsI {x : Int32} : pn (stP (sI z a i x) p) = pn (stP z p) := rfl
theorem pnsR {x : Option Nat} : pn (stP (sR z a i x) p) = pn (stP z p) := rfl
theorem stsN : sN (stP z p) m = stP (sN z m) p := rfl
theorem stsI {x : Int32} : sI (stP z p) a i x = stP (sI z a i x) p := rfl
theorem stsR {x : Option Nat} : sR (stP z p) a i x = stP (sR z a i x) p := rfl
theorem gR_st : gR (stP z p) a i = gR z a i := rfl
theorem gI_st : gI (stP z p) a i = gI z a i := rfl
noncomputable def Z0 : pS := σ00 0 (fun _ => 0)
theorem pn_0 (p : Nat × (Nat → Int32)) : pn (stP Z0 p) = 0 := rfl
noncomputable def Z1 : pS := sN (Z0) 14
theorem pn_1 (p : Nat × (Nat → Int32)) : pn (stP Z1 p) = 1 := by unfold Z1; rw [pnsN, pn_0]
theorem sz_1 (p : Nat × (Nat → Int32)) : sN (stP Z0 p) 14 = stP Z1 p := by unfold Z1; exact stsN
noncomputable def Z2 : pS := sN (Z1) 700
theorem pn_2 (p : Nat × (Nat → Int32)) : pn (stP Z2 p) = 2 := by unfold Z2; rw [pnsN, pn_1]
theorem sz_2 (p : Nat × (Nat → Int32)) : sN (stP Z1 p) 700 = stP Z2 p := by unfold Z2; exact stsN
noncomputable def Z3 : pS := sR (Z2) 0 0 (some 1)
theorem pn_3 (p : Nat × (Nat → Int32)) : pn (stP Z3 p) = 2 := by unfold Z3; rw [pnsR, pn_2]
theorem sz_3 (p : Nat × (Nat → Int32)) : sR (stP Z2 p) 0 0 (some 1) = stP Z3 p := by unfold Z3; exact stsR
noncomputable def Z4 : pS := sN (Z3) 10
theorem pn_4 (p : Nat × (Nat → Int32)) : pn (stP Z4 p) = 3 := by unfold Z4; rw [pnsN, pn_3]
theorem sz_4 (p : Nat × (Nat → Int32)) : sN (stP Z3 p) 10 = stP Z4 p := by unfold Z4; exact stsN
noncomputable def Z5 : pS := sN (Z4) 8
theorem pn_5 (p : Nat × (Nat → Int32)) : pn (stP Z5 p) = 4 := by unfold Z5; rw [pnsN, pn_4]
theorem sz_5 (p : Nat × (Nat → Int32)) : sN (stP Z4 p) 8 = stP Z5 p := by unfold Z5; exact stsN
noncomputable def Z6 : pS := sR (Z5) 2 4 (some 3)
theorem pn_6 (p : Nat × (Nat → Int32)) : pn (stP Z6 p) = 4 := by unfold Z6; rw [pnsR, pn_5]
theorem sz_6 (p : Nat × (Nat → Int32)) : sR (stP Z5 p) 2 4 (some 3) = stP Z6 p := by unfold Z6; exact stsR
noncomputable def Z7 : pS := sN (Z6) 8
theorem pn_7 (p : Nat × (Nat → Int32)) : pn (stP Z7 p) = 5 := by unfold Z7; rw [pnsN, pn_6]
theorem sz_7 (p : Nat × (Nat → Int32)) : sN (stP Z6 p) 8 = stP Z7 p := by unfold Z7; exact stsN
noncomputable def Z8 : pS := sR (Z7) 2 5 (some 4)
theorem pn_8 (p : Nat × (Nat → Int32)) : pn (stP Z8 p) = 5 := by unfold Z8; rw [pnsR, pn_7]
theorem sz_8 (p : Nat × (Nat → Int32)) : sR (stP Z7 p) 2 5 (some 4) = stP Z8 p := by unfold Z8; exact stsR
noncomputable def Z9 : pS := sN (Z8) 12
theorem pn_9 (p : Nat × (Nat → Int32)) : pn (stP Z9 p) = 6 := by unfold Z9; rw [pnsN, pn_8]
theorem sz_9 (p : Nat × (Nat → Int32)) : sN (stP Z8 p) 12 = stP Z9 p := by unfold Z9; exact stsN
noncomputable def Z10 : pS := sR (Z9) 2 6 (some 5)
theorem pn_10 (p : Nat × (Nat → Int32)) : pn (stP Z10 p) = 6 := by unfold Z10; rw [pnsR, pn_9]
theorem sz_10 (p : Nat × (Nat → Int32)) : sR (stP Z9 p) 2 6 (some 5) = stP Z10 p := by unfold Z10; exact stsR
noncomputable def Z11 : pS := sN (Z10) 96
theorem pn_11 (p : Nat × (Nat → Int32)) : pn (stP Z11 p) = 7 := by unfold Z11; rw [pnsN, pn_10]
theorem sz_11 (p : Nat × (Nat → Int32)) : sN (stP Z10 p) 96 = stP Z11 p := by unfold Z11; exact stsN
noncomputable def Z12 : pS := sR (Z11) 2 7 (some 6)
theorem pn_12 (p : Nat × (Nat → Int32)) : pn (stP Z12 p) = 7 := by unfold Z12; rw [pnsR, pn_11]
theorem sz_12 (p : Nat × (Nat → Int32)) : sR (stP Z11 p) 2 7 (some 6) = stP Z12 p := by unfold Z12; exact stsR
noncomputable def Z13 : pS := sN (Z12) 5
theorem pn_13 (p : Nat × (Nat → Int32)) : pn (stP Z13 p) = 8 := by unfold Z13; rw [pnsN, pn_12]
theorem sz_13 (p : Nat × (Nat → Int32)) : sN (stP Z12 p) 5 = stP Z13 p := by unfold Z13; exact stsN
noncomputable def Z14 : pS := sN (Z13) 700
theorem pn_14 (p : Nat × (Nat → Int32)) : pn (stP Z14 p) = 9 := by unfold Z14; rw [pnsN, pn_13]
theorem sz_14 (p : Nat × (Nat → Int32)) : sN (stP Z13 p) 700 = stP Z14 p := by unfold Z14; exact stsN
noncomputable def Z15 : pS := sR (Z14) 7 0 (some 8)
theorem pn_15 (p : Nat × (Nat → Int32)) : pn (stP Z15 p) = 9 := by unfold Z15; rw [pnsR, pn_14]
theorem sz_15 (p : Nat × (Nat → Int32)) : sR (stP Z14 p) 7 0 (some 8) = stP Z15 p := by unfold Z15; exact stsR
noncomputable def Z16 : pS := sN (Z15) 64
theorem pn_16 (p : Nat × (Nat → Int32)) : pn (stP Z16 p) = 10 := by unfold Z16; rw [pnsN, pn_15]
theorem sz_16 (p : Nat × (Nat → Int32)) : sN (stP Z15 p) 64 = stP Z16 p := by unfold Z16; exact stsN
noncomputable def Z17 : pS := sR (Z16) 7 4 (some 9)
theorem pn_17 (p : Nat × (Nat → Int32)) : pn (stP Z17 p) = 10 := by unfold Z17; rw [pnsR, pn_16]
theorem sz_17 (p : Nat × (Nat → Int32)) : sR (stP Z16 p) 7 4 (some 9) = stP Z17 p := by unfold Z17; exact stsR
noncomputable def Z18 : pS := sR (Z17) 2 8 (some 7)
theorem pn_18 (p : Nat × (Nat → Int32)) : pn (stP Z18 p) = 10 := by unfold Z18; rw [pnsR, pn_17]
theorem sz_18 (p : Nat × (Nat → Int32)) : sR (stP Z17 p) 2 8 (some 7) = stP Z18 p := by unfold Z18; exact stsR
noncomputable def Z19 : pS := sN (Z18) 5
theorem pn_19 (p : Nat × (Nat → Int32)) : pn (stP Z19 p) = 11 := by unfold Z19; rw [pnsN, pn_18]
theorem sz_19 (p : Nat × (Nat → Int32)) : sN (stP Z18 p) 5 = stP Z19 p := by unfold Z19; exact stsN
noncomputable def Z20 : pS := sN (Z19) 700
theorem pn_20 (p : Nat × (Nat → Int32)) : pn (stP Z20 p) = 12 := by unfold Z20; rw [pnsN, pn_19]
theorem sz_20 (p : Nat × (Nat → Int32)) : sN (stP Z19 p) 700 = stP Z20 p := by unfold Z20; exact stsN
noncomputable def Z21 : pS := sR (Z20) 10 0 (some 11)
theorem pn_21 (p : Nat × (Nat → Int32)) : pn (stP Z21 p) = 12 := by unfold Z21; rw [pnsR, pn_20]
theorem sz_21 (p : Nat × (Nat → Int32)) : sR (stP Z20 p) 10 0 (some 11) = stP Z21 p := by unfold Z21; exact stsR
noncomputable def Z22 : pS := sN (Z21) 64
theorem pn_22 (p : Nat × (Nat → Int32)) : pn (stP Z22 p) = 13 := by unfold Z22; rw [pnsN, pn_21]
theorem sz_22 (p : Nat × (Nat → Int32)) : sN (stP Z21 p) 64 = stP Z22 p := by unfold Z22; exact stsN
noncomputable def Z23 : pS := sR (Z22) 10 4 (some 12)
theorem pn_23 (p : Nat × (Nat → Int32)) : pn (stP Z23 p) = 13 := by unfold Z23; rw [pnsR, pn_22]
theorem sz_23 (p : Nat × (Nat → Int32)) : sR (stP Z22 p) 10 4 (some 12) = stP Z23 p := by unfold Z23; exact stsR
noncomputable def Z24 : pS := sR (Z23) 2 9 (some 10)
theorem pn_24 (p : Nat × (Nat → Int32)) : pn (stP Z24 p) = 13 := by unfold Z24; rw [pnsR, pn_23]
theorem sz_24 (p : Nat × (Nat → Int32)) : sR (stP Z23 p) 2 9 (some 10) = stP Z24 p := by unfold Z24; exact stsR
noncomputable def Z25 : pS := sR (Z24) 0 4 (some 2)
theorem pn_25 (p : Nat × (Nat → Int32)) : pn (stP Z25 p) = 13 := by unfold Z25; rw [pnsR, pn_24]
theorem sz_25 (p : Nat × (Nat → Int32)) : sR (stP Z24 p) 0 4 (some 2) = stP Z25 p := by unfold Z25; exact stsR
noncomputable def Z26 : pS := sN (Z25) 10
theorem pn_26 (p : Nat × (Nat → Int32)) : pn (stP Z26 p) = 14 := by unfold Z26; rw [pnsN, pn_25]
theorem sz_26 (p : Nat × (Nat → Int32)) : sN (stP Z25 p) 10 = stP Z26 p := by unfold Z26; exact stsN
noncomputable def Z27 : pS := sN (Z26) 8
theorem pn_27 (p : Nat × (Nat → Int32)) : pn (stP Z27 p) = 15 := by unfold Z27; rw [pnsN, pn_26]
theorem sz_27 (p : Nat × (Nat → Int32)) : sN (stP Z26 p) 8 = stP Z27 p := by unfold Z27; exact stsN
noncomputable def Z28 : pS := sR (Z27) 13 4 (some 14)
theorem pn_28 (p : Nat × (Nat → Int32)) : pn (stP Z28 p) = 15 := by unfold Z28; rw [pnsR, pn_27]
theorem sz_28 (p : Nat × (Nat → Int32)) : sR (stP Z27 p) 13 4 (some 14) = stP Z28 p := by unfold Z28; exact stsR
noncomputable def Z29 : pS := sN (Z28) 8
theorem pn_29 (p : Nat × (Nat → Int32)) : pn (stP Z29 p) = 16 := by unfold Z29; rw [pnsN, pn_28]
theorem sz_29 (p : Nat × (Nat → Int32)) : sN (stP Z28 p) 8 = stP Z29 p := by unfold Z29; exact stsN
noncomputable def Z30 : pS := sR (Z29) 13 5 (some 15)
theorem pn_30 (p : Nat × (Nat → Int32)) : pn (stP Z30 p) = 16 := by unfold Z30; rw [pnsR, pn_29]
theorem sz_30 (p : Nat × (Nat → Int32)) : sR (stP Z29 p) 13 5 (some 15) = stP Z30 p := by unfold Z30; exact stsR
noncomputable def Z31 : pS := sN (Z30) 12
theorem pn_31 (p : Nat × (Nat → Int32)) : pn (stP Z31 p) = 17 := by unfold Z31; rw [pnsN, pn_30]
theorem sz_31 (p : Nat × (Nat → Int32)) : sN (stP Z30 p) 12 = stP Z31 p := by unfold Z31; exact stsN
noncomputable def Z32 : pS := sR (Z31) 13 6 (some 16)
theorem pn_32 (p : Nat × (Nat → Int32)) : pn (stP Z32 p) = 17 := by unfold Z32; rw [pnsR, pn_31]
theorem sz_32 (p : Nat × (Nat → Int32)) : sR (stP Z31 p) 13 6 (some 16) = stP Z32 p := by unfold Z32; exact stsR
noncomputable def Z33 : pS := sN (Z32) 96
theorem pn_33 (p : Nat × (Nat → Int32)) : pn (stP Z33 p) = 18 := by unfold Z33; rw [pnsN, pn_32]
theorem sz_33 (p : Nat × (Nat → Int32)) : sN (stP Z32 p) 96 = stP Z33 p := by unfold Z33; exact stsN
noncomputable def Z34 : pS := sR (Z33) 13 7 (some 17)
theorem pn_34 (p : Nat × (Nat → Int32)) : pn (stP Z34 p) = 18 := by unfold Z34; rw [pnsR, pn_33]
theorem sz_34 (p : Nat × (Nat → Int32)) : sR (stP Z33 p) 13 7 (some 17) = stP Z34 p := by unfold Z34; exact stsR
noncomputable def Z35 : pS := sN (Z34) 5
theorem pn_35 (p : Nat × (Nat → Int32)) : pn (stP Z35 p) = 19 := by unfold Z35; rw [pnsN, pn_34]
theorem sz_35 (p : Nat × (Nat → Int32)) : sN (stP Z34 p) 5 = stP Z35 p := by unfold Z35; exact stsN
noncomputable def Z36 : pS := sN (Z35) 700
theorem pn_36 (p : Nat × (Nat → Int32)) : pn (stP Z36 p) = 20 := by unfold Z36; rw [pnsN, pn_35]
theorem sz_36 (p : Nat × (Nat → Int32)) : sN (stP Z35 p) 700 = stP Z36 p := by unfold Z36; exact stsN
noncomputable def Z37 : pS := sR (Z36) 18 0 (some 19)
theorem pn_37 (p : Nat × (Nat → Int32)) : pn (stP Z37 p) = 20 := by unfold Z37; rw [pnsR, pn_36]
theorem sz_37 (p : Nat × (Nat → Int32)) : sR (stP Z36 p) 18 0 (some 19) = stP Z37 p := by unfold Z37; exact stsR
noncomputable def Z38 : pS := sN (Z37) 64
theorem pn_38 (p : Nat × (Nat → Int32)) : pn (stP Z38 p) = 21 := by unfold Z38; rw [pnsN, pn_37]
theorem sz_38 (p : Nat × (Nat → Int32)) : sN (stP Z37 p) 64 = stP Z38 p := by unfold Z38; exact stsN
noncomputable def Z39 : pS := sR (Z38) 18 4 (some 20)
theorem pn_39 (p : Nat × (Nat → Int32)) : pn (stP Z39 p) = 21 := by unfold Z39; rw [pnsR, pn_38]
theorem sz_39 (p : Nat × (Nat → Int32)) : sR (stP Z38 p) 18 4 (some 20) = stP Z39 p := by unfold Z39; exact stsR
noncomputable def Z40 : pS := sR (Z39) 13 8 (some 18)
theorem pn_40 (p : Nat × (Nat → Int32)) : pn (stP Z40 p) = 21 := by unfold Z40; rw [pnsR, pn_39]
theorem sz_40 (p : Nat × (Nat → Int32)) : sR (stP Z39 p) 13 8 (some 18) = stP Z40 p := by unfold Z40; exact stsR
noncomputable def Z41 : pS := sN (Z40) 5
theorem pn_41 (p : Nat × (Nat → Int32)) : pn (stP Z41 p) = 22 := by unfold Z41; rw [pnsN, pn_40]
theorem sz_41 (p : Nat × (Nat → Int32)) : sN (stP Z40 p) 5 = stP Z41 p := by unfold Z41; exact stsN
noncomputable def Z42 : pS := sN (Z41) 700
theorem pn_42 (p : Nat × (Nat → Int32)) : pn (stP Z42 p) = 23 := by unfold Z42; rw [pnsN, pn_41]
theorem sz_42 (p : Nat × (Nat → Int32)) : sN (stP Z41 p) 700 = stP Z42 p := by unfold Z42; exact stsN
noncomputable def Z43 : pS := sR (Z42) 21 0 (some 22)
theorem pn_43 (p : Nat × (Nat → Int32)) : pn (stP Z43 p) = 23 := by unfold Z43; rw [pnsR, pn_42]
theorem sz_43 (p : Nat × (Nat → Int32)) : sR (stP Z42 p) 21 0 (some 22) = stP Z43 p := by unfold Z43; exact stsR
noncomputable def Z44 : pS := sN (Z43) 64
theorem pn_44 (p : Nat × (Nat → Int32)) : pn (stP Z44 p) = 24 := by unfold Z44; rw [pnsN, pn_43]
theorem sz_44 (p : Nat × (Nat → Int32)) : sN (stP Z43 p) 64 = stP Z44 p := by unfold Z44; exact stsN
noncomputable def Z45 : pS := sR (Z44) 21 4 (some 23)
theorem pn_45 (p : Nat × (Nat → Int32)) : pn (stP Z45 p) = 24 := by unfold Z45; rw [pnsR, pn_44]
theorem sz_45 (p : Nat × (Nat → Int32)) : sR (stP Z44 p) 21 4 (some 23) = stP Z45 p := by unfold Z45; exact stsR
noncomputable def Z46 : pS := sR (Z45) 13 9 (some 21)
theorem pn_46 (p : Nat × (Nat → Int32)) : pn (stP Z46 p) = 24 := by unfold Z46; rw [pnsR, pn_45]
theorem sz_46 (p : Nat × (Nat → Int32)) : sR (stP Z45 p) 13 9 (some 21) = stP Z46 p := by unfold Z46; exact stsR
noncomputable def Z47 : pS := sR (Z46) 0 5 (some 13)
theorem pn_47 (p : Nat × (Nat → Int32)) : pn (stP Z47 p) = 24 := by unfold Z47; rw [pnsR, pn_46]
theorem sz_47 (p : Nat × (Nat → Int32)) : sR (stP Z46 p) 0 5 (some 13) = stP Z47 p := by unfold Z47; exact stsR
noncomputable def Z48 : pS := sN (Z47) 11
theorem pn_48 (p : Nat × (Nat → Int32)) : pn (stP Z48 p) = 25 := by unfold Z48; rw [pnsN, pn_47]
theorem sz_48 (p : Nat × (Nat → Int32)) : sN (stP Z47 p) 11 = stP Z48 p := by unfold Z48; exact stsN
noncomputable def Z49 : pS := sR (Z48) 24 0 (some 1)
theorem pn_49 (p : Nat × (Nat → Int32)) : pn (stP Z49 p) = 25 := by unfold Z49; rw [pnsR, pn_48]
theorem sz_49 (p : Nat × (Nat → Int32)) : sR (stP Z48 p) 24 0 (some 1) = stP Z49 p := by unfold Z49; exact stsR
noncomputable def Z50 : pS := sI (Z49) 24 7 (ν 1)
theorem pn_50 (p : Nat × (Nat → Int32)) : pn (stP Z50 p) = 25 := by unfold Z50; rw [pnsI, pn_49]
theorem sz_50 (p : Nat × (Nat → Int32)) : sI (stP Z49 p) 24 7 (ν 1) = stP Z50 p := by unfold Z50; exact stsI
noncomputable def Z51 : pS := sR (Z50) 24 8 (some 13)
theorem pn_51 (p : Nat × (Nat → Int32)) : pn (stP Z51 p) = 25 := by unfold Z51; rw [pnsR, pn_50]
theorem sz_51 (p : Nat × (Nat → Int32)) : sR (stP Z50 p) 24 8 (some 13) = stP Z51 p := by unfold Z51; exact stsR
noncomputable def Z52 : pS := sR (Z51) 24 9 (some 18)
theorem pn_52 (p : Nat × (Nat → Int32)) : pn (stP Z52 p) = 25 := by unfold Z52; rw [pnsR, pn_51]
theorem sz_52 (p : Nat × (Nat → Int32)) : sR (stP Z51 p) 24 9 (some 18) = stP Z52 p := by unfold Z52; exact stsR
noncomputable def Z53 : pS := sR (Z52) 0 2 (some 24)
theorem pn_53 (p : Nat × (Nat → Int32)) : pn (stP Z53 p) = 25 := by unfold Z53; rw [pnsR, pn_52]
theorem sz_53 (p : Nat × (Nat → Int32)) : sR (stP Z52 p) 0 2 (some 24) = stP Z53 p := by unfold Z53; exact stsR
noncomputable def Z54 : pS := sI (Z53) 0 3 (ν 1)
theorem pn_54 (p : Nat × (Nat → Int32)) : pn (stP Z54 p) = 25 := by unfold Z54; rw [pnsI, pn_53]
theorem sz_54 (p : Nat × (Nat → Int32)) : sI (stP Z53 p) 0 3 (ν 1) = stP Z54 p := by unfold Z54; exact stsI
noncomputable def Z55 : pS := sN (Z54) 12
theorem pn_55 (p : Nat × (Nat → Int32)) : pn (stP Z55 p) = 26 := by unfold Z55; rw [pnsN, pn_54]
theorem sz_55 (p : Nat × (Nat → Int32)) : sN (stP Z54 p) 12 = stP Z55 p := by unfold Z55; exact stsN
noncomputable def Z56 : pS := sN (Z55) 12
theorem pn_56 (p : Nat × (Nat → Int32)) : pn (stP Z56 p) = 27 := by unfold Z56; rw [pnsN, pn_55]
theorem sz_56 (p : Nat × (Nat → Int32)) : sN (stP Z55 p) 12 = stP Z56 p := by unfold Z56; exact stsN
noncomputable def Z57 : pS := sR (Z56) 25 4 (some 26)
theorem pn_57 (p : Nat × (Nat → Int32)) : pn (stP Z57 p) = 27 := by unfold Z57; rw [pnsR, pn_56]
theorem sz_57 (p : Nat × (Nat → Int32)) : sR (stP Z56 p) 25 4 (some 26) = stP Z57 p := by unfold Z57; exact stsR
noncomputable def Z58 : pS := sN (Z57) 12
theorem pn_58 (p : Nat × (Nat → Int32)) : pn (stP Z58 p) = 28 := by unfold Z58; rw [pnsN, pn_57]
theorem sz_58 (p : Nat × (Nat → Int32)) : sN (stP Z57 p) 12 = stP Z58 p := by unfold Z58; exact stsN
noncomputable def Z59 : pS := sR (Z58) 25 5 (some 27)
theorem pn_59 (p : Nat × (Nat → Int32)) : pn (stP Z59 p) = 28 := by unfold Z59; rw [pnsR, pn_58]
theorem sz_59 (p : Nat × (Nat → Int32)) : sR (stP Z58 p) 25 5 (some 27) = stP Z59 p := by unfold Z59; exact stsR
noncomputable def Z60 : pS := sN (Z59) 8
theorem pn_60 (p : Nat × (Nat → Int32)) : pn (stP Z60 p) = 29 := by unfold Z60; rw [pnsN, pn_59]
theorem sz_60 (p : Nat × (Nat → Int32)) : sN (stP Z59 p) 8 = stP Z60 p := by unfold Z60; exact stsN
noncomputable def Z61 : pS := sR (Z60) 25 6 (some 28)
theorem pn_61 (p : Nat × (Nat → Int32)) : pn (stP Z61 p) = 29 := by unfold Z61; rw [pnsR, pn_60]
theorem sz_61 (p : Nat × (Nat → Int32)) : sR (stP Z60 p) 25 6 (some 28) = stP Z61 p := by unfold Z61; exact stsR
noncomputable def Z62 : pS := sN (Z61) 96
theorem pn_62 (p : Nat × (Nat → Int32)) : pn (stP Z62 p) = 30 := by unfold Z62; rw [pnsN, pn_61]
theorem sz_62 (p : Nat × (Nat → Int32)) : sN (stP Z61 p) 96 = stP Z62 p := by unfold Z62; exact stsN
noncomputable def Z63 : pS := sR (Z62) 25 7 (some 29)
theorem pn_63 (p : Nat × (Nat → Int32)) : pn (stP Z63 p) = 30 := by unfold Z63; rw [pnsR, pn_62]
theorem sz_63 (p : Nat × (Nat → Int32)) : sR (stP Z62 p) 25 7 (some 29) = stP Z63 p := by unfold Z63; exact stsR
noncomputable def Z64 : pS := sN (Z63) 12
theorem pn_64 (p : Nat × (Nat → Int32)) : pn (stP Z64 p) = 31 := by unfold Z64; rw [pnsN, pn_63]
theorem sz_64 (p : Nat × (Nat → Int32)) : sN (stP Z63 p) 12 = stP Z64 p := by unfold Z64; exact stsN
noncomputable def Z65 : pS := sR (Z64) 25 8 (some 30)
theorem pn_65 (p : Nat × (Nat → Int32)) : pn (stP Z65 p) = 31 := by unfold Z65; rw [pnsR, pn_64]
theorem sz_65 (p : Nat × (Nat → Int32)) : sR (stP Z64 p) 25 8 (some 30) = stP Z65 p := by unfold Z65; exact stsR
noncomputable def Z66 : pS := sN (Z65) 8
theorem pn_66 (p : Nat × (Nat → Int32)) : pn (stP Z66 p) = 32 := by unfold Z66; rw [pnsN, pn_65]
theorem sz_66 (p : Nat × (Nat → Int32)) : sN (stP Z65 p) 8 = stP Z66 p := by unfold Z66; exact stsN
noncomputable def Z67 : pS := sR (Z66) 25 9 (some 31)
theorem pn_67 (p : Nat × (Nat → Int32)) : pn (stP Z67 p) = 32 := by unfold Z67; rw [pnsR, pn_66]
theorem sz_67 (p : Nat × (Nat → Int32)) : sR (stP Z66 p) 25 9 (some 31) = stP Z67 p := by unfold Z67; exact stsR
noncomputable def Z68 : pS := sR (Z67) 25 0 (some 2)
theorem pn_68 (p : Nat × (Nat → Int32)) : pn (stP Z68 p) = 32 := by unfold Z68; rw [pnsR, pn_67]
theorem sz_68 (p : Nat × (Nat → Int32)) : sR (stP Z67 p) 25 0 (some 2) = stP Z68 p := by unfold Z68; exact stsR
noncomputable def Z69 : pS := sR (Z68) 0 6 (some 25)
theorem pn_69 (p : Nat × (Nat → Int32)) : pn (stP Z69 p) = 32 := by unfold Z69; rw [pnsR, pn_68]
theorem sz_69 (p : Nat × (Nat → Int32)) : sR (stP Z68 p) 0 6 (some 25) = stP Z69 p := by unfold Z69; exact stsR
noncomputable def Z70 : pS := sN (Z69) 5
theorem pn_70 (p : Nat × (Nat → Int32)) : pn (stP Z70 p) = 33 := by unfold Z70; rw [pnsN, pn_69]
theorem sz_70 (p : Nat × (Nat → Int32)) : sN (stP Z69 p) 5 = stP Z70 p := by unfold Z70; exact stsN
noncomputable def Z71 : pS := sN (Z70) 5160
theorem pn_71 (p : Nat × (Nat → Int32)) : pn (stP Z71 p) = 34 := by unfold Z71; rw [pnsN, pn_70]
theorem sz_71 (p : Nat × (Nat → Int32)) : sN (stP Z70 p) 5160 = stP Z71 p := by unfold Z71; exact stsN
noncomputable def Z72 : pS := sR (Z71) 32 0 (some 33)
theorem pn_72 (p : Nat × (Nat → Int32)) : pn (stP Z72 p) = 34 := by unfold Z72; rw [pnsR, pn_71]
theorem sz_72 (p : Nat × (Nat → Int32)) : sR (stP Z71 p) 32 0 (some 33) = stP Z72 p := by unfold Z72; exact stsR
noncomputable def Z73 : pS := sN (Z72) 24
theorem pn_73 (p : Nat × (Nat → Int32)) : pn (stP Z73 p) = 35 := by unfold Z73; rw [pnsN, pn_72]
theorem sz_73 (p : Nat × (Nat → Int32)) : sN (stP Z72 p) 24 = stP Z73 p := by unfold Z73; exact stsN
noncomputable def Z74 : pS := sR (Z73) 32 2 (some 34)
theorem pn_74 (p : Nat × (Nat → Int32)) : pn (stP Z74 p) = 35 := by unfold Z74; rw [pnsR, pn_73]
theorem sz_74 (p : Nat × (Nat → Int32)) : sR (stP Z73 p) 32 2 (some 34) = stP Z74 p := by unfold Z74; exact stsR
noncomputable def Z75 : pS := sN (Z74) 3
theorem pn_75 (p : Nat × (Nat → Int32)) : pn (stP Z75 p) = 36 := by unfold Z75; rw [pnsN, pn_74]
theorem sz_75 (p : Nat × (Nat → Int32)) : sN (stP Z74 p) 3 = stP Z75 p := by unfold Z75; exact stsN
noncomputable def Z76 : pS := sR (Z75) 32 4 (some 35)
theorem pn_76 (p : Nat × (Nat → Int32)) : pn (stP Z76 p) = 36 := by unfold Z76; rw [pnsR, pn_75]
theorem sz_76 (p : Nat × (Nat → Int32)) : sR (stP Z75 p) 32 4 (some 35) = stP Z76 p := by unfold Z76; exact stsR
noncomputable def Z77 : pS := sR (Z76) 0 7 (some 32)
theorem pn_77 (p : Nat × (Nat → Int32)) : pn (stP Z77 p) = 36 := by unfold Z77; rw [pnsR, pn_76]
theorem sz_77 (p : Nat × (Nat → Int32)) : sR (stP Z76 p) 0 7 (some 32) = stP Z77 p := by unfold Z77; exact stsR
noncomputable def Z78 : pS := sN (Z77) 12
theorem pn_78 (p : Nat × (Nat → Int32)) : pn (stP Z78 p) = 37 := by unfold Z78; rw [pnsN, pn_77]
theorem sz_78 (p : Nat × (Nat → Int32)) : sN (stP Z77 p) 12 = stP Z78 p := by unfold Z78; exact stsN
noncomputable def Z79 : pS := sN (Z78) 12
theorem pn_79 (p : Nat × (Nat → Int32)) : pn (stP Z79 p) = 38 := by unfold Z79; rw [pnsN, pn_78]
theorem sz_79 (p : Nat × (Nat → Int32)) : sN (stP Z78 p) 12 = stP Z79 p := by unfold Z79; exact stsN
noncomputable def Z80 : pS := sR (Z79) 36 4 (some 37)
theorem pn_80 (p : Nat × (Nat → Int32)) : pn (stP Z80 p) = 38 := by unfold Z80; rw [pnsR, pn_79]
theorem sz_80 (p : Nat × (Nat → Int32)) : sR (stP Z79 p) 36 4 (some 37) = stP Z80 p := by unfold Z80; exact stsR
noncomputable def Z81 : pS := sN (Z80) 12
theorem pn_81 (p : Nat × (Nat → Int32)) : pn (stP Z81 p) = 39 := by unfold Z81; rw [pnsN, pn_80]
theorem sz_81 (p : Nat × (Nat → Int32)) : sN (stP Z80 p) 12 = stP Z81 p := by unfold Z81; exact stsN
noncomputable def Z82 : pS := sR (Z81) 36 5 (some 38)
theorem pn_82 (p : Nat × (Nat → Int32)) : pn (stP Z82 p) = 39 := by unfold Z82; rw [pnsR, pn_81]
theorem sz_82 (p : Nat × (Nat → Int32)) : sR (stP Z81 p) 36 5 (some 38) = stP Z82 p := by unfold Z82; exact stsR
noncomputable def Z83 : pS := sN (Z82) 8
theorem pn_83 (p : Nat × (Nat → Int32)) : pn (stP Z83 p) = 40 := by unfold Z83; rw [pnsN, pn_82]
theorem sz_83 (p : Nat × (Nat → Int32)) : sN (stP Z82 p) 8 = stP Z83 p := by unfold Z83; exact stsN
noncomputable def Z84 : pS := sR (Z83) 36 6 (some 39)
theorem pn_84 (p : Nat × (Nat → Int32)) : pn (stP Z84 p) = 40 := by unfold Z84; rw [pnsR, pn_83]
theorem sz_84 (p : Nat × (Nat → Int32)) : sR (stP Z83 p) 36 6 (some 39) = stP Z84 p := by unfold Z84; exact stsR
noncomputable def Z85 : pS := sN (Z84) 96
theorem pn_85 (p : Nat × (Nat → Int32)) : pn (stP Z85 p) = 41 := by unfold Z85; rw [pnsN, pn_84]
theorem sz_85 (p : Nat × (Nat → Int32)) : sN (stP Z84 p) 96 = stP Z85 p := by unfold Z85; exact stsN
noncomputable def Z86 : pS := sR (Z85) 36 7 (some 40)
theorem pn_86 (p : Nat × (Nat → Int32)) : pn (stP Z86 p) = 41 := by unfold Z86; rw [pnsR, pn_85]
theorem sz_86 (p : Nat × (Nat → Int32)) : sR (stP Z85 p) 36 7 (some 40) = stP Z86 p := by unfold Z86; exact stsR
noncomputable def Z87 : pS := sN (Z86) 12
theorem pn_87 (p : Nat × (Nat → Int32)) : pn (stP Z87 p) = 42 := by unfold Z87; rw [pnsN, pn_86]
theorem sz_87 (p : Nat × (Nat → Int32)) : sN (stP Z86 p) 12 = stP Z87 p := by unfold Z87; exact stsN
noncomputable def Z88 : pS := sR (Z87) 36 8 (some 41)
theorem pn_88 (p : Nat × (Nat → Int32)) : pn (stP Z88 p) = 42 := by unfold Z88; rw [pnsR, pn_87]
theorem sz_88 (p : Nat × (Nat → Int32)) : sR (stP Z87 p) 36 8 (some 41) = stP Z88 p := by unfold Z88; exact stsR
noncomputable def Z89 : pS := sN (Z88) 8
theorem pn_89 (p : Nat × (Nat → Int32)) : pn (stP Z89 p) = 43 := by unfold Z89; rw [pnsN, pn_88]
theorem sz_89 (p : Nat × (Nat → Int32)) : sN (stP Z88 p) 8 = stP Z89 p := by unfold Z89; exact stsN
noncomputable def Z90 : pS := sR (Z89) 36 9 (some 42)
theorem pn_90 (p : Nat × (Nat → Int32)) : pn (stP Z90 p) = 43 := by unfold Z90; rw [pnsR, pn_89]
theorem sz_90 (p : Nat × (Nat → Int32)) : sR (stP Z89 p) 36 9 (some 42) = stP Z90 p := by unfold Z90; exact stsR
noncomputable def Z91 : pS := sR (Z90) 36 0 (some 2)
theorem pn_91 (p : Nat × (Nat → Int32)) : pn (stP Z91 p) = 43 := by unfold Z91; rw [pnsR, pn_90]
theorem sz_91 (p : Nat × (Nat → Int32)) : sR (stP Z90 p) 36 0 (some 2) = stP Z91 p := by unfold Z91; exact stsR
noncomputable def Z92 : pS := sR (Z91) 0 8 (some 36)
theorem pn_92 (p : Nat × (Nat → Int32)) : pn (stP Z92 p) = 43 := by unfold Z92; rw [pnsR, pn_91]
theorem sz_92 (p : Nat × (Nat → Int32)) : sR (stP Z91 p) 0 8 (some 36) = stP Z92 p := by unfold Z92; exact stsR
noncomputable def Z93 : pS := sN (Z92) 5
theorem pn_93 (p : Nat × (Nat → Int32)) : pn (stP Z93 p) = 44 := by unfold Z93; rw [pnsN, pn_92]
theorem sz_93 (p : Nat × (Nat → Int32)) : sN (stP Z92 p) 5 = stP Z93 p := by unfold Z93; exact stsN
noncomputable def Z94 : pS := sN (Z93) 5160
theorem pn_94 (p : Nat × (Nat → Int32)) : pn (stP Z94 p) = 45 := by unfold Z94; rw [pnsN, pn_93]
theorem sz_94 (p : Nat × (Nat → Int32)) : sN (stP Z93 p) 5160 = stP Z94 p := by unfold Z94; exact stsN
noncomputable def Z95 : pS := sR (Z94) 43 0 (some 44)
theorem pn_95 (p : Nat × (Nat → Int32)) : pn (stP Z95 p) = 45 := by unfold Z95; rw [pnsR, pn_94]
theorem sz_95 (p : Nat × (Nat → Int32)) : sR (stP Z94 p) 43 0 (some 44) = stP Z95 p := by unfold Z95; exact stsR
noncomputable def Z96 : pS := sN (Z95) 24
theorem pn_96 (p : Nat × (Nat → Int32)) : pn (stP Z96 p) = 46 := by unfold Z96; rw [pnsN, pn_95]
theorem sz_96 (p : Nat × (Nat → Int32)) : sN (stP Z95 p) 24 = stP Z96 p := by unfold Z96; exact stsN
noncomputable def Z97 : pS := sR (Z96) 43 2 (some 45)
theorem pn_97 (p : Nat × (Nat → Int32)) : pn (stP Z97 p) = 46 := by unfold Z97; rw [pnsR, pn_96]
theorem sz_97 (p : Nat × (Nat → Int32)) : sR (stP Z96 p) 43 2 (some 45) = stP Z97 p := by unfold Z97; exact stsR
noncomputable def Z98 : pS := sN (Z97) 3
theorem pn_98 (p : Nat × (Nat → Int32)) : pn (stP Z98 p) = 47 := by unfold Z98; rw [pnsN, pn_97]
theorem sz_98 (p : Nat × (Nat → Int32)) : sN (stP Z97 p) 3 = stP Z98 p := by unfold Z98; exact stsN
noncomputable def Z99 : pS := sR (Z98) 43 4 (some 46)
theorem pn_99 (p : Nat × (Nat → Int32)) : pn (stP Z99 p) = 47 := by unfold Z99; rw [pnsR, pn_98]
theorem sz_99 (p : Nat × (Nat → Int32)) : sR (stP Z98 p) 43 4 (some 46) = stP Z99 p := by unfold Z99; exact stsR
noncomputable def Z100 : pS := sR (Z99) 0 9 (some 43)
theorem pn_100 (p : Nat × (Nat → Int32)) : pn (stP Z100 p) = 47 := by unfold Z100; rw [pnsR, pn_99]
theorem sz_100 (p : Nat × (Nat → Int32)) : sR (stP Z99 p) 0 9 (some 43) = stP Z100 p := by unfold Z100; exact stsR
noncomputable def Z101 : pS := sN (Z100) 12
theorem pn_101 (p : Nat × (Nat → Int32)) : pn (stP Z101 p) = 48 := by unfold Z101; rw [pnsN, pn_100]
theorem sz_101 (p : Nat × (Nat → Int32)) : sN (stP Z100 p) 12 = stP Z101 p := by unfold Z101; exact stsN
noncomputable def Z102 : pS := sN (Z101) 12
theorem pn_102 (p : Nat × (Nat → Int32)) : pn (stP Z102 p) = 49 := by unfold Z102; rw [pnsN, pn_101]
theorem sz_102 (p : Nat × (Nat → Int32)) : sN (stP Z101 p) 12 = stP Z102 p := by unfold Z102; exact stsN
noncomputable def Z103 : pS := sR (Z102) 47 4 (some 48)
theorem pn_103 (p : Nat × (Nat → Int32)) : pn (stP Z103 p) = 49 := by unfold Z103; rw [pnsR, pn_102]
theorem sz_103 (p : Nat × (Nat → Int32)) : sR (stP Z102 p) 47 4 (some 48) = stP Z103 p := by unfold Z103; exact stsR
noncomputable def Z104 : pS := sN (Z103) 12
theorem pn_104 (p : Nat × (Nat → Int32)) : pn (stP Z104 p) = 50 := by unfold Z104; rw [pnsN, pn_103]
theorem sz_104 (p : Nat × (Nat → Int32)) : sN (stP Z103 p) 12 = stP Z104 p := by unfold Z104; exact stsN
noncomputable def Z105 : pS := sR (Z104) 47 5 (some 49)
theorem pn_105 (p : Nat × (Nat → Int32)) : pn (stP Z105 p) = 50 := by unfold Z105; rw [pnsR, pn_104]
theorem sz_105 (p : Nat × (Nat → Int32)) : sR (stP Z104 p) 47 5 (some 49) = stP Z105 p := by unfold Z105; exact stsR
noncomputable def Z106 : pS := sN (Z105) 8
theorem pn_106 (p : Nat × (Nat → Int32)) : pn (stP Z106 p) = 51 := by unfold Z106; rw [pnsN, pn_105]
theorem sz_106 (p : Nat × (Nat → Int32)) : sN (stP Z105 p) 8 = stP Z106 p := by unfold Z106; exact stsN
noncomputable def Z107 : pS := sR (Z106) 47 6 (some 50)
theorem pn_107 (p : Nat × (Nat → Int32)) : pn (stP Z107 p) = 51 := by unfold Z107; rw [pnsR, pn_106]
theorem sz_107 (p : Nat × (Nat → Int32)) : sR (stP Z106 p) 47 6 (some 50) = stP Z107 p := by unfold Z107; exact stsR
noncomputable def Z108 : pS := sN (Z107) 96
theorem pn_108 (p : Nat × (Nat → Int32)) : pn (stP Z108 p) = 52 := by unfold Z108; rw [pnsN, pn_107]
theorem sz_108 (p : Nat × (Nat → Int32)) : sN (stP Z107 p) 96 = stP Z108 p := by unfold Z108; exact stsN
noncomputable def Z109 : pS := sR (Z108) 47 7 (some 51)
theorem pn_109 (p : Nat × (Nat → Int32)) : pn (stP Z109 p) = 52 := by unfold Z109; rw [pnsR, pn_108]
theorem sz_109 (p : Nat × (Nat → Int32)) : sR (stP Z108 p) 47 7 (some 51) = stP Z109 p := by unfold Z109; exact stsR
noncomputable def Z110 : pS := sN (Z109) 12
theorem pn_110 (p : Nat × (Nat → Int32)) : pn (stP Z110 p) = 53 := by unfold Z110; rw [pnsN, pn_109]
theorem sz_110 (p : Nat × (Nat → Int32)) : sN (stP Z109 p) 12 = stP Z110 p := by unfold Z110; exact stsN
noncomputable def Z111 : pS := sR (Z110) 47 8 (some 52)
theorem pn_111 (p : Nat × (Nat → Int32)) : pn (stP Z111 p) = 53 := by unfold Z111; rw [pnsR, pn_110]
theorem sz_111 (p : Nat × (Nat → Int32)) : sR (stP Z110 p) 47 8 (some 52) = stP Z111 p := by unfold Z111; exact stsR
noncomputable def Z112 : pS := sN (Z111) 8
theorem pn_112 (p : Nat × (Nat → Int32)) : pn (stP Z112 p) = 54 := by unfold Z112; rw [pnsN, pn_111]
theorem sz_112 (p : Nat × (Nat → Int32)) : sN (stP Z111 p) 8 = stP Z112 p := by unfold Z112; exact stsN
noncomputable def Z113 : pS := sR (Z112) 47 9 (some 53)
theorem pn_113 (p : Nat × (Nat → Int32)) : pn (stP Z113 p) = 54 := by unfold Z113; rw [pnsR, pn_112]
theorem sz_113 (p : Nat × (Nat → Int32)) : sR (stP Z112 p) 47 9 (some 53) = stP Z113 p := by unfold Z113; exact stsR
noncomputable def Z114 : pS := sR (Z113) 47 0 (some 2)
theorem pn_114 (p : Nat × (Nat → Int32)) : pn (stP Z114 p) = 54 := by unfold Z114; rw [pnsR, pn_113]
theorem sz_114 (p : Nat × (Nat → Int32)) : sR (stP Z113 p) 47 0 (some 2) = stP Z114 p := by unfold Z114; exact stsR
noncomputable def Z115 : pS := sN (Z114) 5
theorem pn_115 (p : Nat × (Nat → Int32)) : pn (stP Z115 p) = 55 := by unfold Z115; rw [pnsN, pn_114]
theorem sz_115 (p : Nat × (Nat → Int32)) : sN (stP Z114 p) 5 = stP Z115 p := by unfold Z115; exact stsN
noncomputable def Z116 : pS := sN (Z115) 4
theorem pn_116 (p : Nat × (Nat → Int32)) : pn (stP Z116 p) = 56 := by unfold Z116; rw [pnsN, pn_115]
theorem sz_116 (p : Nat × (Nat → Int32)) : sN (stP Z115 p) 4 = stP Z116 p := by unfold Z116; exact stsN
noncomputable def Z117 : pS := sR (Z116) 54 3 (some 55)
theorem pn_117 (p : Nat × (Nat → Int32)) : pn (stP Z117 p) = 56 := by unfold Z117; rw [pnsR, pn_116]
theorem sz_117 (p : Nat × (Nat → Int32)) : sR (stP Z116 p) 54 3 (some 55) = stP Z117 p := by unfold Z117; exact stsR
noncomputable def Z118 : pS := sN (Z117) 4
theorem pn_118 (p : Nat × (Nat → Int32)) : pn (stP Z118 p) = 57 := by unfold Z118; rw [pnsN, pn_117]
theorem sz_118 (p : Nat × (Nat → Int32)) : sN (stP Z117 p) 4 = stP Z118 p := by unfold Z118; exact stsN
noncomputable def Z119 : pS := sR (Z118) 54 4 (some 56)
theorem pn_119 (p : Nat × (Nat → Int32)) : pn (stP Z119 p) = 57 := by unfold Z119; rw [pnsR, pn_118]
theorem sz_119 (p : Nat × (Nat → Int32)) : sR (stP Z118 p) 54 4 (some 56) = stP Z119 p := by unfold Z119; exact stsR
noncomputable def Z120 : pS := sR (Z119) 54 0 (some 25)
theorem pn_120 (p : Nat × (Nat → Int32)) : pn (stP Z120 p) = 57 := by unfold Z120; rw [pnsR, pn_119]
theorem sz_120 (p : Nat × (Nat → Int32)) : sR (stP Z119 p) 54 0 (some 25) = stP Z120 p := by unfold Z120; exact stsR
noncomputable def Z121 : pS := sR (Z120) 54 1 (some 47)
theorem pn_121 (p : Nat × (Nat → Int32)) : pn (stP Z121 p) = 57 := by unfold Z121; rw [pnsR, pn_120]
theorem sz_121 (p : Nat × (Nat → Int32)) : sR (stP Z120 p) 54 1 (some 47) = stP Z121 p := by unfold Z121; exact stsR
noncomputable def Z122 : pS := sR (Z121) 0 11 (some 54)
theorem pn_122 (p : Nat × (Nat → Int32)) : pn (stP Z122 p) = 57 := by unfold Z122; rw [pnsR, pn_121]
theorem sz_122 (p : Nat × (Nat → Int32)) : sR (stP Z121 p) 0 11 (some 54) = stP Z122 p := by unfold Z122; exact stsR
noncomputable def Z123 : pS := sN (Z122) 4
theorem pn_123 (p : Nat × (Nat → Int32)) : pn (stP Z123 p) = 58 := by unfold Z123; rw [pnsN, pn_122]
theorem sz_123 (p : Nat × (Nat → Int32)) : sN (stP Z122 p) 4 = stP Z123 p := by unfold Z123; exact stsN
noncomputable def Z124 : pS := sN (Z123) 12
theorem pn_124 (p : Nat × (Nat → Int32)) : pn (stP Z124 p) = 59 := by unfold Z124; rw [pnsN, pn_123]
theorem sz_124 (p : Nat × (Nat → Int32)) : sN (stP Z123 p) 12 = stP Z124 p := by unfold Z124; exact stsN
noncomputable def Z125 : pS := sR (Z124) 57 3 (some 58)
theorem pn_125 (p : Nat × (Nat → Int32)) : pn (stP Z125 p) = 59 := by unfold Z125; rw [pnsR, pn_124]
theorem sz_125 (p : Nat × (Nat → Int32)) : sR (stP Z124 p) 57 3 (some 58) = stP Z125 p := by unfold Z125; exact stsR
noncomputable def Z126 : pS := sR (Z125) 57 0 (some 25)
theorem pn_126 (p : Nat × (Nat → Int32)) : pn (stP Z126 p) = 59 := by unfold Z126; rw [pnsR, pn_125]
theorem sz_126 (p : Nat × (Nat → Int32)) : sR (stP Z125 p) 57 0 (some 25) = stP Z126 p := by unfold Z126; exact stsR
noncomputable def Z127 : pS := sR (Z126) 57 1 (some 32)
theorem pn_127 (p : Nat × (Nat → Int32)) : pn (stP Z127 p) = 59 := by unfold Z127; rw [pnsR, pn_126]
theorem sz_127 (p : Nat × (Nat → Int32)) : sR (stP Z126 p) 57 1 (some 32) = stP Z127 p := by unfold Z127; exact stsR
noncomputable def Z128 : pS := sR (Z127) 57 2 (some 47)
theorem pn_128 (p : Nat × (Nat → Int32)) : pn (stP Z128 p) = 59 := by unfold Z128; rw [pnsR, pn_127]
theorem sz_128 (p : Nat × (Nat → Int32)) : sR (stP Z127 p) 57 2 (some 47) = stP Z128 p := by unfold Z128; exact stsR
noncomputable def Z129 : pS := sR (Z128) 0 12 (some 57)
theorem pn_129 (p : Nat × (Nat → Int32)) : pn (stP Z129 p) = 59 := by unfold Z129; rw [pnsR, pn_128]
theorem sz_129 (p : Nat × (Nat → Int32)) : sR (stP Z128 p) 0 12 (some 57) = stP Z129 p := by unfold Z129; exact stsR
noncomputable def Z130 : pS := sN (Z129) 2
theorem pn_130 (p : Nat × (Nat → Int32)) : pn (stP Z130 p) = 60 := by unfold Z130; rw [pnsN, pn_129]
theorem sz_130 (p : Nat × (Nat → Int32)) : sN (stP Z129 p) 2 = stP Z130 p := by unfold Z130; exact stsN
noncomputable def Z131 : pS := sN (Z130) 256
theorem pn_131 (p : Nat × (Nat → Int32)) : pn (stP Z131 p) = 61 := by unfold Z131; rw [pnsN, pn_130]
theorem sz_131 (p : Nat × (Nat → Int32)) : sN (stP Z130 p) 256 = stP Z131 p := by unfold Z131; exact stsN
noncomputable def Z132 : pS := sR (Z131) 59 0 (some 60)
theorem pn_132 (p : Nat × (Nat → Int32)) : pn (stP Z132 p) = 61 := by unfold Z132; rw [pnsR, pn_131]
theorem sz_132 (p : Nat × (Nat → Int32)) : sR (stP Z131 p) 59 0 (some 60) = stP Z132 p := by unfold Z132; exact stsR
noncomputable def Z133 : pS := sR (Z132) 0 13 (some 59)
theorem pn_133 (p : Nat × (Nat → Int32)) : pn (stP Z133 p) = 61 := by unfold Z133; rw [pnsR, pn_132]
theorem sz_133 (p : Nat × (Nat → Int32)) : sR (stP Z132 p) 0 13 (some 59) = stP Z133 p := by unfold Z133; exact stsR
noncomputable def Z134 : pS := sN (Z133) 59
theorem pn_134 (p : Nat × (Nat → Int32)) : pn (stP Z134 p) = 62 := by unfold Z134; rw [pnsN, pn_133]
theorem sz_134 (p : Nat × (Nat → Int32)) : sN (stP Z133 p) 59 = stP Z134 p := by unfold Z134; exact stsN
noncomputable def Z135 : pS := sN (Z134) 2
theorem pn_135 (p : Nat × (Nat → Int32)) : pn (stP Z135 p) = 63 := by unfold Z135; rw [pnsN, pn_134]
theorem sz_135 (p : Nat × (Nat → Int32)) : sN (stP Z134 p) 2 = stP Z135 p := by unfold Z135; exact stsN
noncomputable def Z136 : pS := sR (Z135) 62 0 (some 1003)
theorem pn_136 (p : Nat × (Nat → Int32)) : pn (stP Z136 p) = 63 := by unfold Z136; rw [pnsR, pn_135]
theorem sz_136 (p : Nat × (Nat → Int32)) : sR (stP Z135 p) 62 0 (some 1003) = stP Z136 p := by unfold Z136; exact stsR
noncomputable def Z137 : pS := sR (Z136) 62 1 (some 1004)
theorem pn_137 (p : Nat × (Nat → Int32)) : pn (stP Z137 p) = 63 := by unfold Z137; rw [pnsR, pn_136]
theorem sz_137 (p : Nat × (Nat → Int32)) : sR (stP Z136 p) 62 1 (some 1004) = stP Z137 p := by unfold Z137; exact stsR
noncomputable def Z138 : pS := sR (Z137) 61 0 (some 62)
theorem pn_138 (p : Nat × (Nat → Int32)) : pn (stP Z138 p) = 63 := by unfold Z138; rw [pnsR, pn_137]
theorem sz_138 (p : Nat × (Nat → Int32)) : sR (stP Z137 p) 61 0 (some 62) = stP Z138 p := by unfold Z138; exact stsR
noncomputable def Z139 : pS := sN (Z138) 6
theorem pn_139 (p : Nat × (Nat → Int32)) : pn (stP Z139 p) = 64 := by unfold Z139; rw [pnsN, pn_138]
theorem sz_139 (p : Nat × (Nat → Int32)) : sN (stP Z138 p) 6 = stP Z139 p := by unfold Z139; exact stsN
noncomputable def Z140 : pS := sR (Z139) 63 0 (some 1008)
theorem pn_140 (p : Nat × (Nat → Int32)) : pn (stP Z140 p) = 64 := by unfold Z140; rw [pnsR, pn_139]
theorem sz_140 (p : Nat × (Nat → Int32)) : sR (stP Z139 p) 63 0 (some 1008) = stP Z140 p := by unfold Z140; exact stsR
noncomputable def Z141 : pS := sR (Z140) 63 1 (some 1009)
theorem pn_141 (p : Nat × (Nat → Int32)) : pn (stP Z141 p) = 64 := by unfold Z141; rw [pnsR, pn_140]
theorem sz_141 (p : Nat × (Nat → Int32)) : sR (stP Z140 p) 63 1 (some 1009) = stP Z141 p := by unfold Z141; exact stsR
noncomputable def Z142 : pS := sR (Z141) 63 2 (some 1010)
theorem pn_142 (p : Nat × (Nat → Int32)) : pn (stP Z142 p) = 64 := by unfold Z142; rw [pnsR, pn_141]
theorem sz_142 (p : Nat × (Nat → Int32)) : sR (stP Z141 p) 63 2 (some 1010) = stP Z142 p := by unfold Z142; exact stsR
noncomputable def Z143 : pS := sR (Z142) 63 3 (some 1011)
theorem pn_143 (p : Nat × (Nat → Int32)) : pn (stP Z143 p) = 64 := by unfold Z143; rw [pnsR, pn_142]
theorem sz_143 (p : Nat × (Nat → Int32)) : sR (stP Z142 p) 63 3 (some 1011) = stP Z143 p := by unfold Z143; exact stsR
noncomputable def Z144 : pS := sR (Z143) 63 4 (some 1012)
theorem pn_144 (p : Nat × (Nat → Int32)) : pn (stP Z144 p) = 64 := by unfold Z144; rw [pnsR, pn_143]
theorem sz_144 (p : Nat × (Nat → Int32)) : sR (stP Z143 p) 63 4 (some 1012) = stP Z144 p := by unfold Z144; exact stsR
noncomputable def Z145 : pS := sR (Z144) 63 5 (some 1013)
theorem pn_145 (p : Nat × (Nat → Int32)) : pn (stP Z145 p) = 64 := by unfold Z145; rw [pnsR, pn_144]
theorem sz_145 (p : Nat × (Nat → Int32)) : sR (stP Z144 p) 63 5 (some 1013) = stP Z145 p := by unfold Z145; exact stsR
noncomputable def Z146 : pS := sR (Z145) 61 1 (some 63)
theorem pn_146 (p : Nat × (Nat → Int32)) : pn (stP Z146 p) = 64 := by unfold Z146; rw [pnsR, pn_145]
theorem sz_146 (p : Nat × (Nat → Int32)) : sR (stP Z145 p) 61 1 (some 63) = stP Z146 p := by unfold Z146; exact stsR
noncomputable def Z147 : pS := sN (Z146) 4
theorem pn_147 (p : Nat × (Nat → Int32)) : pn (stP Z147 p) = 65 := by unfold Z147; rw [pnsN, pn_146]
theorem sz_147 (p : Nat × (Nat → Int32)) : sN (stP Z146 p) 4 = stP Z147 p := by unfold Z147; exact stsN
noncomputable def Z148 : pS := sR (Z147) 64 0 (some 1008)
theorem pn_148 (p : Nat × (Nat → Int32)) : pn (stP Z148 p) = 65 := by unfold Z148; rw [pnsR, pn_147]
theorem sz_148 (p : Nat × (Nat → Int32)) : sR (stP Z147 p) 64 0 (some 1008) = stP Z148 p := by unfold Z148; exact stsR
noncomputable def Z149 : pS := sR (Z148) 64 1 (some 1009)
theorem pn_149 (p : Nat × (Nat → Int32)) : pn (stP Z149 p) = 65 := by unfold Z149; rw [pnsR, pn_148]
theorem sz_149 (p : Nat × (Nat → Int32)) : sR (stP Z148 p) 64 1 (some 1009) = stP Z149 p := by unfold Z149; exact stsR
noncomputable def Z150 : pS := sR (Z149) 64 2 (some 1014)
theorem pn_150 (p : Nat × (Nat → Int32)) : pn (stP Z150 p) = 65 := by unfold Z150; rw [pnsR, pn_149]
theorem sz_150 (p : Nat × (Nat → Int32)) : sR (stP Z149 p) 64 2 (some 1014) = stP Z150 p := by unfold Z150; exact stsR
noncomputable def Z151 : pS := sR (Z150) 64 3 (some 1015)
theorem pn_151 (p : Nat × (Nat → Int32)) : pn (stP Z151 p) = 65 := by unfold Z151; rw [pnsR, pn_150]
theorem sz_151 (p : Nat × (Nat → Int32)) : sR (stP Z150 p) 64 3 (some 1015) = stP Z151 p := by unfold Z151; exact stsR
noncomputable def Z152 : pS := sR (Z151) 61 2 (some 64)
theorem pn_152 (p : Nat × (Nat → Int32)) : pn (stP Z152 p) = 65 := by unfold Z152; rw [pnsR, pn_151]
theorem sz_152 (p : Nat × (Nat → Int32)) : sR (stP Z151 p) 61 2 (some 64) = stP Z152 p := by unfold Z152; exact stsR
noncomputable def Z153 : pS := sR (Z152) 61 3 (some 63)
theorem pn_153 (p : Nat × (Nat → Int32)) : pn (stP Z153 p) = 65 := by unfold Z153; rw [pnsR, pn_152]
theorem sz_153 (p : Nat × (Nat → Int32)) : sR (stP Z152 p) 61 3 (some 63) = stP Z153 p := by unfold Z153; exact stsR
noncomputable def Z154 : pS := sN (Z153) 10
theorem pn_154 (p : Nat × (Nat → Int32)) : pn (stP Z154 p) = 66 := by unfold Z154; rw [pnsN, pn_153]
theorem sz_154 (p : Nat × (Nat → Int32)) : sN (stP Z153 p) 10 = stP Z154 p := by unfold Z154; exact stsN
noncomputable def Z155 : pS := sR (Z154) 61 5 (some 65)
theorem pn_155 (p : Nat × (Nat → Int32)) : pn (stP Z155 p) = 66 := by unfold Z155; rw [pnsR, pn_154]
theorem sz_155 (p : Nat × (Nat → Int32)) : sR (stP Z154 p) 61 5 (some 65) = stP Z155 p := by unfold Z155; exact stsR
noncomputable def Z156 : pS := sN (Z155) 16
theorem pn_156 (p : Nat × (Nat → Int32)) : pn (stP Z156 p) = 67 := by unfold Z156; rw [pnsN, pn_155]
theorem sz_156 (p : Nat × (Nat → Int32)) : sN (stP Z155 p) 16 = stP Z156 p := by unfold Z156; exact stsN
noncomputable def Z157 : pS := sR (Z156) 61 6 (some 66)
theorem pn_157 (p : Nat × (Nat → Int32)) : pn (stP Z157 p) = 67 := by unfold Z157; rw [pnsR, pn_156]
theorem sz_157 (p : Nat × (Nat → Int32)) : sR (stP Z156 p) 61 6 (some 66) = stP Z157 p := by unfold Z157; exact stsR
noncomputable def Z158 : pS := sN (Z157) 24
theorem pn_158 (p : Nat × (Nat → Int32)) : pn (stP Z158 p) = 68 := by unfold Z158; rw [pnsN, pn_157]
theorem sz_158 (p : Nat × (Nat → Int32)) : sN (stP Z157 p) 24 = stP Z158 p := by unfold Z158; exact stsN
noncomputable def Z159 : pS := sR (Z158) 61 7 (some 67)
theorem pn_159 (p : Nat × (Nat → Int32)) : pn (stP Z159 p) = 68 := by unfold Z159; rw [pnsR, pn_158]
theorem sz_159 (p : Nat × (Nat → Int32)) : sR (stP Z158 p) 61 7 (some 67) = stP Z159 p := by unfold Z159; exact stsR
noncomputable def Z160 : pS := sN (Z159) 24
theorem pn_160 (p : Nat × (Nat → Int32)) : pn (stP Z160 p) = 69 := by unfold Z160; rw [pnsN, pn_159]
theorem sz_160 (p : Nat × (Nat → Int32)) : sN (stP Z159 p) 24 = stP Z160 p := by unfold Z160; exact stsN
noncomputable def Z161 : pS := sR (Z160) 61 8 (some 68)
theorem pn_161 (p : Nat × (Nat → Int32)) : pn (stP Z161 p) = 69 := by unfold Z161; rw [pnsR, pn_160]
theorem sz_161 (p : Nat × (Nat → Int32)) : sR (stP Z160 p) 61 8 (some 68) = stP Z161 p := by unfold Z161; exact stsR
noncomputable def Z162 : pS := sN (Z161) 192
theorem pn_162 (p : Nat × (Nat → Int32)) : pn (stP Z162 p) = 70 := by unfold Z162; rw [pnsN, pn_161]
theorem sz_162 (p : Nat × (Nat → Int32)) : sN (stP Z161 p) 192 = stP Z162 p := by unfold Z162; exact stsN
noncomputable def Z163 : pS := sR (Z162) 61 9 (some 69)
theorem pn_163 (p : Nat × (Nat → Int32)) : pn (stP Z163 p) = 70 := by unfold Z163; rw [pnsR, pn_162]
theorem sz_163 (p : Nat × (Nat → Int32)) : sR (stP Z162 p) 61 9 (some 69) = stP Z163 p := by unfold Z163; exact stsR
noncomputable def Z164 : pS := sN (Z163) 16
theorem pn_164 (p : Nat × (Nat → Int32)) : pn (stP Z164 p) = 71 := by unfold Z164; rw [pnsN, pn_163]
theorem sz_164 (p : Nat × (Nat → Int32)) : sN (stP Z163 p) 16 = stP Z164 p := by unfold Z164; exact stsN
noncomputable def Z165 : pS := sR (Z164) 61 10 (some 70)
theorem pn_165 (p : Nat × (Nat → Int32)) : pn (stP Z165 p) = 71 := by unfold Z165; rw [pnsR, pn_164]
theorem sz_165 (p : Nat × (Nat → Int32)) : sR (stP Z164 p) 61 10 (some 70) = stP Z165 p := by unfold Z165; exact stsR
noncomputable def Z166 : pS := sN (Z165) 1400
theorem pn_166 (p : Nat × (Nat → Int32)) : pn (stP Z166 p) = 72 := by unfold Z166; rw [pnsN, pn_165]
theorem sz_166 (p : Nat × (Nat → Int32)) : sN (stP Z165 p) 1400 = stP Z166 p := by unfold Z166; exact stsN
noncomputable def Z167 : pS := sR (Z166) 61 11 (some 71)
theorem pn_167 (p : Nat × (Nat → Int32)) : pn (stP Z167 p) = 72 := by unfold Z167; rw [pnsR, pn_166]
theorem sz_167 (p : Nat × (Nat → Int32)) : sR (stP Z166 p) 61 11 (some 71) = stP Z167 p := by unfold Z167; exact stsR
noncomputable def Z168 : pS := sN (Z167) 1400
theorem pn_168 (p : Nat × (Nat → Int32)) : pn (stP Z168 p) = 73 := by unfold Z168; rw [pnsN, pn_167]
theorem sz_168 (p : Nat × (Nat → Int32)) : sN (stP Z167 p) 1400 = stP Z168 p := by unfold Z168; exact stsN
noncomputable def Z169 : pS := sR (Z168) 61 12 (some 72)
theorem pn_169 (p : Nat × (Nat → Int32)) : pn (stP Z169 p) = 73 := by unfold Z169; rw [pnsR, pn_168]
theorem sz_169 (p : Nat × (Nat → Int32)) : sR (stP Z168 p) 61 12 (some 72) = stP Z169 p := by unfold Z169; exact stsR
noncomputable def Z170 : pS := sN (Z169) 3
theorem pn_170 (p : Nat × (Nat → Int32)) : pn (stP Z170 p) = 74 := by unfold Z170; rw [pnsN, pn_169]
theorem sz_170 (p : Nat × (Nat → Int32)) : sN (stP Z169 p) 3 = stP Z170 p := by unfold Z170; exact stsN
noncomputable def Z171 : pS := sR (Z170) 61 13 (some 73)
theorem pn_171 (p : Nat × (Nat → Int32)) : pn (stP Z171 p) = 74 := by unfold Z171; rw [pnsR, pn_170]
theorem sz_171 (p : Nat × (Nat → Int32)) : sR (stP Z170 p) 61 13 (some 73) = stP Z171 p := by unfold Z171; exact stsR
noncomputable def Z172 : pS := sN (Z171) 700
theorem pn_172 (p : Nat × (Nat → Int32)) : pn (stP Z172 p) = 75 := by unfold Z172; rw [pnsN, pn_171]
theorem sz_172 (p : Nat × (Nat → Int32)) : sN (stP Z171 p) 700 = stP Z172 p := by unfold Z172; exact stsN
noncomputable def Z173 : pS := sR (Z172) 61 14 (some 74)
theorem pn_173 (p : Nat × (Nat → Int32)) : pn (stP Z173 p) = 75 := by unfold Z173; rw [pnsR, pn_172]
theorem sz_173 (p : Nat × (Nat → Int32)) : sR (stP Z172 p) 61 14 (some 74) = stP Z173 p := by unfold Z173; exact stsR
noncomputable def Z174 : pS := sI (Z173) 61 24 (ν 1)
theorem pn_174 (p : Nat × (Nat → Int32)) : pn (stP Z174 p) = 75 := by unfold Z174; rw [pnsI, pn_173]
theorem sz_174 (p : Nat × (Nat → Int32)) : sI (stP Z173 p) 61 24 (ν 1) = stP Z174 p := by unfold Z174; exact stsI
noncomputable def Z175 : pS := sN (Z174) 12
theorem pn_175 (p : Nat × (Nat → Int32)) : pn (stP Z175 p) = 76 := by unfold Z175; rw [pnsN, pn_174]
theorem sz_175 (p : Nat × (Nat → Int32)) : sN (stP Z174 p) 12 = stP Z175 p := by unfold Z175; exact stsN
noncomputable def Z176 : pS := sR (Z175) 61 26 (some 75)
theorem pn_176 (p : Nat × (Nat → Int32)) : pn (stP Z176 p) = 76 := by unfold Z176; rw [pnsR, pn_175]
theorem sz_176 (p : Nat × (Nat → Int32)) : sR (stP Z175 p) 61 26 (some 75) = stP Z176 p := by unfold Z176; exact stsR
noncomputable def Z177 : pS := sN (Z176) 12
theorem pn_177 (p : Nat × (Nat → Int32)) : pn (stP Z177 p) = 77 := by unfold Z177; rw [pnsN, pn_176]
theorem sz_177 (p : Nat × (Nat → Int32)) : sN (stP Z176 p) 12 = stP Z177 p := by unfold Z177; exact stsN
noncomputable def Z178 : pS := sR (Z177) 61 27 (some 76)
theorem pn_178 (p : Nat × (Nat → Int32)) : pn (stP Z178 p) = 77 := by unfold Z178; rw [pnsR, pn_177]
theorem sz_178 (p : Nat × (Nat → Int32)) : sR (stP Z177 p) 61 27 (some 76) = stP Z178 p := by unfold Z178; exact stsR
noncomputable def Z179 : pS := sN (Z178) 96
theorem pn_179 (p : Nat × (Nat → Int32)) : pn (stP Z179 p) = 78 := by unfold Z179; rw [pnsN, pn_178]
theorem sz_179 (p : Nat × (Nat → Int32)) : sN (stP Z178 p) 96 = stP Z179 p := by unfold Z179; exact stsN
noncomputable def Z180 : pS := sR (Z179) 61 28 (some 77)
theorem pn_180 (p : Nat × (Nat → Int32)) : pn (stP Z180 p) = 78 := by unfold Z180; rw [pnsR, pn_179]
theorem sz_180 (p : Nat × (Nat → Int32)) : sR (stP Z179 p) 61 28 (some 77) = stP Z180 p := by unfold Z180; exact stsR
noncomputable def Z181 : pS := sN (Z180) 8
theorem pn_181 (p : Nat × (Nat → Int32)) : pn (stP Z181 p) = 79 := by unfold Z181; rw [pnsN, pn_180]
theorem sz_181 (p : Nat × (Nat → Int32)) : sN (stP Z180 p) 8 = stP Z181 p := by unfold Z181; exact stsN
noncomputable def Z182 : pS := sR (Z181) 61 29 (some 78)
theorem pn_182 (p : Nat × (Nat → Int32)) : pn (stP Z182 p) = 79 := by unfold Z182; rw [pnsR, pn_181]
theorem sz_182 (p : Nat × (Nat → Int32)) : sR (stP Z181 p) 61 29 (some 78) = stP Z182 p := by unfold Z182; exact stsR
noncomputable def Z183 : pS := sN (Z182) 5160
theorem pn_183 (p : Nat × (Nat → Int32)) : pn (stP Z183 p) = 80 := by unfold Z183; rw [pnsN, pn_182]
theorem sz_183 (p : Nat × (Nat → Int32)) : sN (stP Z182 p) 5160 = stP Z183 p := by unfold Z183; exact stsN
noncomputable def Z184 : pS := sR (Z183) 61 30 (some 79)
theorem pn_184 (p : Nat × (Nat → Int32)) : pn (stP Z184 p) = 80 := by unfold Z184; rw [pnsR, pn_183]
theorem sz_184 (p : Nat × (Nat → Int32)) : sR (stP Z183 p) 61 30 (some 79) = stP Z184 p := by unfold Z184; exact stsR
noncomputable def Z185 : pS := sN (Z184) 6
theorem pn_185 (p : Nat × (Nat → Int32)) : pn (stP Z185 p) = 81 := by unfold Z185; rw [pnsN, pn_184]
theorem sz_185 (p : Nat × (Nat → Int32)) : sN (stP Z184 p) 6 = stP Z185 p := by unfold Z185; exact stsN
noncomputable def Z186 : pS := sR (Z185) 61 34 (some 80)
theorem pn_186 (p : Nat × (Nat → Int32)) : pn (stP Z186 p) = 81 := by unfold Z186; rw [pnsR, pn_185]
theorem sz_186 (p : Nat × (Nat → Int32)) : sR (stP Z185 p) 61 34 (some 80) = stP Z186 p := by unfold Z186; exact stsR
noncomputable def Z187 : pS := sN (Z186) 64
theorem pn_187 (p : Nat × (Nat → Int32)) : pn (stP Z187 p) = 82 := by unfold Z187; rw [pnsN, pn_186]
theorem sz_187 (p : Nat × (Nat → Int32)) : sN (stP Z186 p) 64 = stP Z187 p := by unfold Z187; exact stsN
noncomputable def Z188 : pS := sR (Z187) 61 35 (some 81)
theorem pn_188 (p : Nat × (Nat → Int32)) : pn (stP Z188 p) = 82 := by unfold Z188; rw [pnsR, pn_187]
theorem sz_188 (p : Nat × (Nat → Int32)) : sR (stP Z187 p) 61 35 (some 81) = stP Z188 p := by unfold Z188; exact stsR
noncomputable def Z189 : pS := sN (Z188) 12
theorem pn_189 (p : Nat × (Nat → Int32)) : pn (stP Z189 p) = 83 := by unfold Z189; rw [pnsN, pn_188]
theorem sz_189 (p : Nat × (Nat → Int32)) : sN (stP Z188 p) 12 = stP Z189 p := by unfold Z189; exact stsN
noncomputable def Z190 : pS := sR (Z189) 61 38 (some 82)
theorem pn_190 (p : Nat × (Nat → Int32)) : pn (stP Z190 p) = 83 := by unfold Z190; rw [pnsR, pn_189]
theorem sz_190 (p : Nat × (Nat → Int32)) : sR (stP Z189 p) 61 38 (some 82) = stP Z190 p := by unfold Z190; exact stsR
noncomputable def Z191 : pS := sN (Z190) 129
theorem pn_191 (p : Nat × (Nat → Int32)) : pn (stP Z191 p) = 84 := by unfold Z191; rw [pnsN, pn_190]
theorem sz_191 (p : Nat × (Nat → Int32)) : sN (stP Z190 p) 129 = stP Z191 p := by unfold Z191; exact stsN
noncomputable def Z192 : pS := sR (Z191) 61 39 (some 83)
theorem pn_192 (p : Nat × (Nat → Int32)) : pn (stP Z192 p) = 84 := by unfold Z192; rw [pnsR, pn_191]
theorem sz_192 (p : Nat × (Nat → Int32)) : sR (stP Z191 p) 61 39 (some 83) = stP Z192 p := by unfold Z192; exact stsR
noncomputable def Z193 : pS := sN (Z192) 36864
theorem pn_193 (p : Nat × (Nat → Int32)) : pn (stP Z193 p) = 85 := by unfold Z193; rw [pnsN, pn_192]
theorem sz_193 (p : Nat × (Nat → Int32)) : sN (stP Z192 p) 36864 = stP Z193 p := by unfold Z193; exact stsN
noncomputable def Z194 : pS := sR (Z193) 61 40 (some 84)
theorem pn_194 (p : Nat × (Nat → Int32)) : pn (stP Z194 p) = 85 := by unfold Z194; rw [pnsR, pn_193]
theorem sz_194 (p : Nat × (Nat → Int32)) : sR (stP Z193 p) 61 40 (some 84) = stP Z194 p := by unfold Z194; exact stsR
noncomputable def Z195 : pS := sN (Z194) 8
theorem pn_195 (p : Nat × (Nat → Int32)) : pn (stP Z195 p) = 86 := by unfold Z195; rw [pnsN, pn_194]
theorem sz_195 (p : Nat × (Nat → Int32)) : sN (stP Z194 p) 8 = stP Z195 p := by unfold Z195; exact stsN
noncomputable def Z196 : pS := sR (Z195) 61 41 (some 85)
theorem pn_196 (p : Nat × (Nat → Int32)) : pn (stP Z196 p) = 86 := by unfold Z196; rw [pnsR, pn_195]
theorem sz_196 (p : Nat × (Nat → Int32)) : sR (stP Z195 p) 61 41 (some 85) = stP Z196 p := by unfold Z196; exact stsR
noncomputable def Z197 : pS := sN (Z196) 8
theorem pn_197 (p : Nat × (Nat → Int32)) : pn (stP Z197 p) = 87 := by unfold Z197; rw [pnsN, pn_196]
theorem sz_197 (p : Nat × (Nat → Int32)) : sN (stP Z196 p) 8 = stP Z197 p := by unfold Z197; exact stsN
noncomputable def Z198 : pS := sR (Z197) 61 42 (some 86)
theorem pn_198 (p : Nat × (Nat → Int32)) : pn (stP Z198 p) = 87 := by unfold Z198; rw [pnsR, pn_197]
theorem sz_198 (p : Nat × (Nat → Int32)) : sR (stP Z197 p) 61 42 (some 86) = stP Z198 p := by unfold Z198; exact stsR
noncomputable def Z199 : pS := sN (Z198) 8
theorem pn_199 (p : Nat × (Nat → Int32)) : pn (stP Z199 p) = 88 := by unfold Z199; rw [pnsN, pn_198]
theorem sz_199 (p : Nat × (Nat → Int32)) : sN (stP Z198 p) 8 = stP Z199 p := by unfold Z199; exact stsN
noncomputable def Z200 : pS := sR (Z199) 61 43 (some 87)
theorem pn_200 (p : Nat × (Nat → Int32)) : pn (stP Z200 p) = 88 := by unfold Z200; rw [pnsR, pn_199]
theorem sz_200 (p : Nat × (Nat → Int32)) : sR (stP Z199 p) 61 43 (some 87) = stP Z200 p := by unfold Z200; exact stsR
noncomputable def Z201 : pS := sN (Z200) 129
theorem pn_201 (p : Nat × (Nat → Int32)) : pn (stP Z201 p) = 89 := by unfold Z201; rw [pnsN, pn_200]
theorem sz_201 (p : Nat × (Nat → Int32)) : sN (stP Z200 p) 129 = stP Z201 p := by unfold Z201; exact stsN
noncomputable def Z202 : pS := sR (Z201) 61 44 (some 88)
theorem pn_202 (p : Nat × (Nat → Int32)) : pn (stP Z202 p) = 89 := by unfold Z202; rw [pnsR, pn_201]
theorem sz_202 (p : Nat × (Nat → Int32)) : sR (stP Z201 p) 61 44 (some 88) = stP Z202 p := by unfold Z202; exact stsR
noncomputable def Z203 : pS := sN (Z202) 960
theorem pn_203 (p : Nat × (Nat → Int32)) : pn (stP Z203 p) = 90 := by unfold Z203; rw [pnsN, pn_202]
theorem sz_203 (p : Nat × (Nat → Int32)) : sN (stP Z202 p) 960 = stP Z203 p := by unfold Z203; exact stsN
noncomputable def Z204 : pS := sR (Z203) 61 45 (some 89)
theorem pn_204 (p : Nat × (Nat → Int32)) : pn (stP Z204 p) = 90 := by unfold Z204; rw [pnsR, pn_203]
theorem sz_204 (p : Nat × (Nat → Int32)) : sR (stP Z203 p) 61 45 (some 89) = stP Z204 p := by unfold Z204; exact stsR
noncomputable def Z205 : pS := sN (Z204) 12
theorem pn_205 (p : Nat × (Nat → Int32)) : pn (stP Z205 p) = 91 := by unfold Z205; rw [pnsN, pn_204]
theorem sz_205 (p : Nat × (Nat → Int32)) : sN (stP Z204 p) 12 = stP Z205 p := by unfold Z205; exact stsN
noncomputable def Z206 : pS := sR (Z205) 61 46 (some 90)
theorem pn_206 (p : Nat × (Nat → Int32)) : pn (stP Z206 p) = 91 := by unfold Z206; rw [pnsR, pn_205]
theorem sz_206 (p : Nat × (Nat → Int32)) : sR (stP Z205 p) 61 46 (some 90) = stP Z206 p := by unfold Z206; exact stsR
noncomputable def Z207 : pS := sN (Z206) 8
theorem pn_207 (p : Nat × (Nat → Int32)) : pn (stP Z207 p) = 92 := by unfold Z207; rw [pnsN, pn_206]
theorem sz_207 (p : Nat × (Nat → Int32)) : sN (stP Z206 p) 8 = stP Z207 p := by unfold Z207; exact stsN
noncomputable def Z208 : pS := sR (Z207) 61 48 (some 91)
theorem pn_208 (p : Nat × (Nat → Int32)) : pn (stP Z208 p) = 92 := by unfold Z208; rw [pnsR, pn_207]
theorem sz_208 (p : Nat × (Nat → Int32)) : sR (stP Z207 p) 61 48 (some 91) = stP Z208 p := by unfold Z208; exact stsR
noncomputable def Z209 : pS := sN (Z208) 129
theorem pn_209 (p : Nat × (Nat → Int32)) : pn (stP Z209 p) = 93 := by unfold Z209; rw [pnsN, pn_208]
theorem sz_209 (p : Nat × (Nat → Int32)) : sN (stP Z208 p) 129 = stP Z209 p := by unfold Z209; exact stsN
noncomputable def Z210 : pS := sR (Z209) 61 53 (some 92)
theorem pn_210 (p : Nat × (Nat → Int32)) : pn (stP Z210 p) = 93 := by unfold Z210; rw [pnsR, pn_209]
theorem sz_210 (p : Nat × (Nat → Int32)) : sR (stP Z209 p) 61 53 (some 92) = stP Z210 p := by unfold Z210; exact stsR
noncomputable def Z211 : pS := sN (Z210) 5160
theorem pn_211 (p : Nat × (Nat → Int32)) : pn (stP Z211 p) = 94 := by unfold Z211; rw [pnsN, pn_210]
theorem sz_211 (p : Nat × (Nat → Int32)) : sN (stP Z210 p) 5160 = stP Z211 p := by unfold Z211; exact stsN
noncomputable def Z212 : pS := sR (Z211) 61 54 (some 93)
theorem pn_212 (p : Nat × (Nat → Int32)) : pn (stP Z212 p) = 94 := by unfold Z212; rw [pnsR, pn_211]
theorem sz_212 (p : Nat × (Nat → Int32)) : sR (stP Z211 p) 61 54 (some 93) = stP Z212 p := by unfold Z212; exact stsR
noncomputable def Z213 : pS := sN (Z212) 8
theorem pn_213 (p : Nat × (Nat → Int32)) : pn (stP Z213 p) = 95 := by unfold Z213; rw [pnsN, pn_212]
theorem sz_213 (p : Nat × (Nat → Int32)) : sN (stP Z212 p) 8 = stP Z213 p := by unfold Z213; exact stsN
noncomputable def Z214 : pS := sR (Z213) 61 55 (some 94)
theorem pn_214 (p : Nat × (Nat → Int32)) : pn (stP Z214 p) = 95 := by unfold Z214; rw [pnsR, pn_213]
theorem sz_214 (p : Nat × (Nat → Int32)) : sR (stP Z213 p) 61 55 (some 94) = stP Z214 p := by unfold Z214; exact stsR
noncomputable def Z215 : pS := sN (Z214) 8
theorem pn_215 (p : Nat × (Nat → Int32)) : pn (stP Z215 p) = 96 := by unfold Z215; rw [pnsN, pn_214]
theorem sz_215 (p : Nat × (Nat → Int32)) : sN (stP Z214 p) 8 = stP Z215 p := by unfold Z215; exact stsN
noncomputable def Z216 : pS := sR (Z215) 61 56 (some 95)
theorem pn_216 (p : Nat × (Nat → Int32)) : pn (stP Z216 p) = 96 := by unfold Z216; rw [pnsR, pn_215]
theorem sz_216 (p : Nat × (Nat → Int32)) : sR (stP Z215 p) 61 56 (some 95) = stP Z216 p := by unfold Z216; exact stsR
noncomputable def Z217 : pS := sN (Z216) 8
theorem pn_217 (p : Nat × (Nat → Int32)) : pn (stP Z217 p) = 97 := by unfold Z217; rw [pnsN, pn_216]
theorem sz_217 (p : Nat × (Nat → Int32)) : sN (stP Z216 p) 8 = stP Z217 p := by unfold Z217; exact stsN
noncomputable def Z218 : pS := sR (Z217) 61 57 (some 96)
theorem pn_218 (p : Nat × (Nat → Int32)) : pn (stP Z218 p) = 97 := by unfold Z218; rw [pnsR, pn_217]
theorem sz_218 (p : Nat × (Nat → Int32)) : sR (stP Z217 p) 61 57 (some 96) = stP Z218 p := by unfold Z218; exact stsR
noncomputable def Z219 : pS := sN (Z218) 3
theorem pn_219 (p : Nat × (Nat → Int32)) : pn (stP Z219 p) = 98 := by unfold Z219; rw [pnsN, pn_218]
theorem sz_219 (p : Nat × (Nat → Int32)) : sN (stP Z218 p) 3 = stP Z219 p := by unfold Z219; exact stsN
noncomputable def Z220 : pS := sR (Z219) 61 58 (some 97)
theorem pn_220 (p : Nat × (Nat → Int32)) : pn (stP Z220 p) = 98 := by unfold Z220; rw [pnsR, pn_219]
theorem sz_220 (p : Nat × (Nat → Int32)) : sR (stP Z219 p) 61 58 (some 97) = stP Z220 p := by unfold Z220; exact stsR
noncomputable def Z221 : pS := sN (Z220) 1
theorem pn_221 (p : Nat × (Nat → Int32)) : pn (stP Z221 p) = 99 := by unfold Z221; rw [pnsN, pn_220]
theorem sz_221 (p : Nat × (Nat → Int32)) : sN (stP Z220 p) 1 = stP Z221 p := by unfold Z221; exact stsN
theorem gz_48_0_0 (p : Nat × (Nat → Int32)) : gR (stP Z48 p) 0 0 = some 1 := gR_st.trans (by decide +kernel)
theorem gz_48_0_5 (p : Nat × (Nat → Int32)) : gR (stP Z48 p) 0 5 = some 13 := gR_st.trans (by decide +kernel)
theorem gz_51_13_8 (p : Nat × (Nat → Int32)) : gR (stP Z51 p) 13 8 = some 18 := gR_st.trans (by decide +kernel)
theorem gz_55_0_4 (p : Nat × (Nat → Int32)) : gR (stP Z55 p) 0 4 = some 2 := gR_st.trans (by decide +kernel)
theorem gz_78_0_4 (p : Nat × (Nat → Int32)) : gR (stP Z78 p) 0 4 = some 2 := gR_st.trans (by decide +kernel)
theorem gz_101_0_4 (p : Nat × (Nat → Int32)) : gR (stP Z101 p) 0 4 = some 2 := gR_st.trans (by decide +kernel)
theorem gz_115_0_6 (p : Nat × (Nat → Int32)) : gR (stP Z115 p) 0 6 = some 25 := gR_st.trans (by decide +kernel)
theorem gz_123_0_6 (p : Nat × (Nat → Int32)) : gR (stP Z123 p) 0 6 = some 25 := gR_st.trans (by decide +kernel)
theorem gz_123_0_7 (p : Nat × (Nat → Int32)) : gR (stP Z123 p) 0 7 = some 32 := gR_st.trans (by decide +kernel)
theorem gz_152_61_1 (p : Nat × (Nat → Int32)) : gR (stP Z152 p) 61 1 = some 63 := gR_st.trans (by decide +kernel)
end CTOR
