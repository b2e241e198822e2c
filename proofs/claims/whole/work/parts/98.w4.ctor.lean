/-! ===== the law's start, step by step (written by wip/gen/ctor.py) ===== -/
section CTOR
set_option maxRecDepth 100000 in
theorem ct_0 (p : Nat × (Nat → Int32)) : pcall 15 [.ref 7] (stP Z13 p) = some (0, .null, stP Z17 p) := by
  refine Le.eq (t := some (0, .null, stP Z17 p)) ?_ rfl
  show Le _ (den 15 0 0 [.ref 7] [] (stP Z13 p))
  exact r_aload_n k_15_0 rfl rfl
    (r_obj k_15_1 rfl po_15 rfl rfl
    (r_aload_n k_15_4 rfl rfl
    (r_sipush (v := ι 700) k_15_5 rfl (by decide)
    (n_newaI (m := 8) (n := 700) (σ' := stP Z14 p) k_15_8 rfl (by decide) (pn_13 p) rfl (by decide) (sz_14 p)
    (n_putR (σ' := stP Z15 p) k_15_10 rfl po_15 rfl rfl (Or.inr ⟨isin_15, rfl⟩) rfl (sz_15 p)
    (r_aload_n k_15_13 rfl rfl
    (r_bipush (v := ι 64) k_15_14 rfl (by decide)
    (n_newaI (m := 9) (n := 64) (σ' := stP Z16 p) k_15_16 rfl (by decide) (pn_15 p) rfl (by decide) (sz_16 p)
    (n_putR (σ' := stP Z17 p) k_15_18 rfl po_15 rfl rfl (Or.inr ⟨isin_15, rfl⟩) rfl (sz_17 p)
    (r_retV k_15_21 rfl))))))))))
set_option maxRecDepth 100000 in
theorem ct_1 (p : Nat × (Nat → Int32)) : pcall 15 [.ref 10] (stP Z19 p) = some (0, .null, stP Z23 p) := by
  refine Le.eq (t := some (0, .null, stP Z23 p)) ?_ rfl
  show Le _ (den 15 0 0 [.ref 10] [] (stP Z19 p))
  exact r_aload_n k_15_0 rfl rfl
    (r_obj k_15_1 rfl po_15 rfl rfl
    (r_aload_n k_15_4 rfl rfl
    (r_sipush (v := ι 700) k_15_5 rfl (by decide)
    (n_newaI (m := 11) (n := 700) (σ' := stP Z20 p) k_15_8 rfl (by decide) (pn_19 p) rfl (by decide) (sz_20 p)
    (n_putR (σ' := stP Z21 p) k_15_10 rfl po_15 rfl rfl (Or.inr ⟨isin_15, rfl⟩) rfl (sz_21 p)
    (r_aload_n k_15_13 rfl rfl
    (r_bipush (v := ι 64) k_15_14 rfl (by decide)
    (n_newaI (m := 12) (n := 64) (σ' := stP Z22 p) k_15_16 rfl (by decide) (pn_21 p) rfl (by decide) (sz_22 p)
    (n_putR (σ' := stP Z23 p) k_15_18 rfl po_15 rfl rfl (Or.inr ⟨isin_15, rfl⟩) rfl (sz_23 p)
    (r_retV k_15_21 rfl))))))))))
set_option maxRecDepth 100000 in
theorem ct_2 (p : Nat × (Nat → Int32)) : pcall 24 [.ref 2] (stP Z4 p) = some (0, .null, stP Z24 p) := by
  refine Le.eq (t := some (0, .null, stP Z24 p)) ?_ rfl
  show Le _ (den 24 0 0 [.ref 2] [] (stP Z4 p))
  exact r_aload_n k_24_0 rfl rfl
    (r_obj k_24_1 rfl po_24 rfl rfl
    (r_aload_n k_24_4 rfl rfl
    (r_bipush (v := ι 8) k_24_5 rfl (by decide)
    (n_newaI (m := 3) (n := 8) (σ' := stP Z5 p) k_24_7 rfl (by decide) (pn_4 p) rfl (by decide) (sz_5 p)
    (n_putR (σ' := stP Z6 p) k_24_9 rfl po_24 rfl rfl (Or.inr ⟨isin_24, rfl⟩) rfl (sz_6 p)
    (r_aload_n k_24_12 rfl rfl
    (r_bipush (v := ι 8) k_24_13 rfl (by decide)
    (n_newaI (m := 4) (n := 8) (σ' := stP Z7 p) k_24_15 rfl (by decide) (pn_6 p) rfl (by decide) (sz_7 p)
    (n_putR (σ' := stP Z8 p) k_24_17 rfl po_24 rfl rfl (Or.inr ⟨isin_24, rfl⟩) rfl (sz_8 p)
    (r_aload_n k_24_20 rfl rfl
    (r_bipush (v := ι 12) k_24_21 rfl (by decide)
    (n_newaI (m := 5) (n := 12) (σ' := stP Z9 p) k_24_23 rfl (by decide) (pn_8 p) rfl (by decide) (sz_9 p)
    (n_putR (σ' := stP Z10 p) k_24_25 rfl po_24 rfl rfl (Or.inr ⟨isin_24, rfl⟩) rfl (sz_10 p)
    (r_aload_n k_24_28 rfl rfl
    (r_bipush (v := ι 96) k_24_29 rfl (by decide)
    (n_newaI (m := 6) (n := 96) (σ' := stP Z11 p) k_24_31 rfl (by decide) (pn_10 p) rfl (by decide) (sz_11 p)
    (n_putR (σ' := stP Z12 p) k_24_33 rfl po_24 rfl rfl (Or.inr ⟨isin_24, rfl⟩) rfl (sz_12 p)
    (r_aload_n k_24_36 rfl rfl
    (n_new (m := 7) (σ' := stP Z13 p) k_24_37 rfl po_24 rfl (pn_12 p) rfl (by decide) (by decide) (sz_13 p)
    (r_dup k_24_40 rfl rfl
    (n_call (τ := stP Z17 p) (q_spec (rest := [.ref 7, .ref 2]) (as := []) k_24_41 po_24 rfl (by decide) rfl rfl (rcvO rfl rfl rfl) rfl rfl) (lvq (j := 0) rfl (by decide +kernel)) rfl rfl (ct_0 p)
    (n_putR (σ' := stP Z18 p) k_24_44 rfl po_24 rfl rfl (Or.inr ⟨isin_24, rfl⟩) rfl (sz_18 p)
    (r_aload_n k_24_47 rfl rfl
    (n_new (m := 10) (σ' := stP Z19 p) k_24_48 rfl po_24 rfl (pn_18 p) rfl (by decide) (by decide) (sz_19 p)
    (r_dup k_24_51 rfl rfl
    (n_call (τ := stP Z23 p) (q_spec (rest := [.ref 10, .ref 2]) (as := []) k_24_52 po_24 rfl (by decide) rfl rfl (rcvO rfl rfl rfl) rfl rfl) (lvq (j := 0) rfl (by decide +kernel)) rfl rfl (ct_1 p)
    (n_putR (σ' := stP Z24 p) k_24_55 rfl po_24 rfl rfl (Or.inr ⟨isin_24, rfl⟩) rfl (sz_24 p)
    (r_retV k_24_58 rfl))))))))))))))))))))))))))))
set_option maxRecDepth 100000 in
theorem ct_3 (p : Nat × (Nat → Int32)) : pcall 15 [.ref 18] (stP Z35 p) = some (0, .null, stP Z39 p) := by
  refine Le.eq (t := some (0, .null, stP Z39 p)) ?_ rfl
  show Le _ (den 15 0 0 [.ref 18] [] (stP Z35 p))
  exact r_aload_n k_15_0 rfl rfl
    (r_obj k_15_1 rfl po_15 rfl rfl
    (r_aload_n k_15_4 rfl rfl
    (r_sipush (v := ι 700) k_15_5 rfl (by decide)
    (n_newaI (m := 19) (n := 700) (σ' := stP Z36 p) k_15_8 rfl (by decide) (pn_35 p) rfl (by decide) (sz_36 p)
    (n_putR (σ' := stP Z37 p) k_15_10 rfl po_15 rfl rfl (Or.inr ⟨isin_15, rfl⟩) rfl (sz_37 p)
    (r_aload_n k_15_13 rfl rfl
    (r_bipush (v := ι 64) k_15_14 rfl (by decide)
    (n_newaI (m := 20) (n := 64) (σ' := stP Z38 p) k_15_16 rfl (by decide) (pn_37 p) rfl (by decide) (sz_38 p)
    (n_putR (σ' := stP Z39 p) k_15_18 rfl po_15 rfl rfl (Or.inr ⟨isin_15, rfl⟩) rfl (sz_39 p)
    (r_retV k_15_21 rfl))))))))))
set_option maxRecDepth 100000 in
theorem ct_4 (p : Nat × (Nat → Int32)) : pcall 15 [.ref 21] (stP Z41 p) = some (0, .null, stP Z45 p) := by
  refine Le.eq (t := some (0, .null, stP Z45 p)) ?_ rfl
  show Le _ (den 15 0 0 [.ref 21] [] (stP Z41 p))
  exact r_aload_n k_15_0 rfl rfl
    (r_obj k_15_1 rfl po_15 rfl rfl
    (r_aload_n k_15_4 rfl rfl
    (r_sipush (v := ι 700) k_15_5 rfl (by decide)
    (n_newaI (m := 22) (n := 700) (σ' := stP Z42 p) k_15_8 rfl (by decide) (pn_41 p) rfl (by decide) (sz_42 p)
    (n_putR (σ' := stP Z43 p) k_15_10 rfl po_15 rfl rfl (Or.inr ⟨isin_15, rfl⟩) rfl (sz_43 p)
    (r_aload_n k_15_13 rfl rfl
    (r_bipush (v := ι 64) k_15_14 rfl (by decide)
    (n_newaI (m := 23) (n := 64) (σ' := stP Z44 p) k_15_16 rfl (by decide) (pn_43 p) rfl (by decide) (sz_44 p)
    (n_putR (σ' := stP Z45 p) k_15_18 rfl po_15 rfl rfl (Or.inr ⟨isin_15, rfl⟩) rfl (sz_45 p)
    (r_retV k_15_21 rfl))))))))))
set_option maxRecDepth 100000 in
theorem ct_5 (p : Nat × (Nat → Int32)) : pcall 24 [.ref 13] (stP Z26 p) = some (0, .null, stP Z46 p) := by
  refine Le.eq (t := some (0, .null, stP Z46 p)) ?_ rfl
  show Le _ (den 24 0 0 [.ref 13] [] (stP Z26 p))
  exact r_aload_n k_24_0 rfl rfl
    (r_obj k_24_1 rfl po_24 rfl rfl
    (r_aload_n k_24_4 rfl rfl
    (r_bipush (v := ι 8) k_24_5 rfl (by decide)
    (n_newaI (m := 14) (n := 8) (σ' := stP Z27 p) k_24_7 rfl (by decide) (pn_26 p) rfl (by decide) (sz_27 p)
    (n_putR (σ' := stP Z28 p) k_24_9 rfl po_24 rfl rfl (Or.inr ⟨isin_24, rfl⟩) rfl (sz_28 p)
    (r_aload_n k_24_12 rfl rfl
    (r_bipush (v := ι 8) k_24_13 rfl (by decide)
    (n_newaI (m := 15) (n := 8) (σ' := stP Z29 p) k_24_15 rfl (by decide) (pn_28 p) rfl (by decide) (sz_29 p)
    (n_putR (σ' := stP Z30 p) k_24_17 rfl po_24 rfl rfl (Or.inr ⟨isin_24, rfl⟩) rfl (sz_30 p)
    (r_aload_n k_24_20 rfl rfl
    (r_bipush (v := ι 12) k_24_21 rfl (by decide)
    (n_newaI (m := 16) (n := 12) (σ' := stP Z31 p) k_24_23 rfl (by decide) (pn_30 p) rfl (by decide) (sz_31 p)
    (n_putR (σ' := stP Z32 p) k_24_25 rfl po_24 rfl rfl (Or.inr ⟨isin_24, rfl⟩) rfl (sz_32 p)
    (r_aload_n k_24_28 rfl rfl
    (r_bipush (v := ι 96) k_24_29 rfl (by decide)
    (n_newaI (m := 17) (n := 96) (σ' := stP Z33 p) k_24_31 rfl (by decide) (pn_32 p) rfl (by decide) (sz_33 p)
    (n_putR (σ' := stP Z34 p) k_24_33 rfl po_24 rfl rfl (Or.inr ⟨isin_24, rfl⟩) rfl (sz_34 p)
    (r_aload_n k_24_36 rfl rfl
    (n_new (m := 18) (σ' := stP Z35 p) k_24_37 rfl po_24 rfl (pn_34 p) rfl (by decide) (by decide) (sz_35 p)
    (r_dup k_24_40 rfl rfl
    (n_call (τ := stP Z39 p) (q_spec (rest := [.ref 18, .ref 13]) (as := []) k_24_41 po_24 rfl (by decide) rfl rfl (rcvO rfl rfl rfl) rfl rfl) (lvq (j := 0) rfl (by decide +kernel)) rfl rfl (ct_3 p)
    (n_putR (σ' := stP Z40 p) k_24_44 rfl po_24 rfl rfl (Or.inr ⟨isin_24, rfl⟩) rfl (sz_40 p)
    (r_aload_n k_24_47 rfl rfl
    (n_new (m := 21) (σ' := stP Z41 p) k_24_48 rfl po_24 rfl (pn_40 p) rfl (by decide) (by decide) (sz_41 p)
    (r_dup k_24_51 rfl rfl
    (n_call (τ := stP Z45 p) (q_spec (rest := [.ref 21, .ref 13]) (as := []) k_24_52 po_24 rfl (by decide) rfl rfl (rcvO rfl rfl rfl) rfl rfl) (lvq (j := 0) rfl (by decide +kernel)) rfl rfl (ct_4 p)
    (n_putR (σ' := stP Z46 p) k_24_55 rfl po_24 rfl rfl (Or.inr ⟨isin_24, rfl⟩) rfl (sz_46 p)
    (r_retV k_24_58 rfl))))))))))))))))))))))))))))
set_option maxRecDepth 100000 in
theorem ct_6 (p : Nat × (Nat → Int32)) : pcall 25 [.ref 13] (stP Z51 p) = some (1, .ref 18, stP Z51 p) := by
  refine Le.eq (t := some (1, .ref 18, stP Z51 p)) ?_ rfl
  show Le _ (den 25 0 0 [.ref 13] [] (stP Z51 p))
  exact r_aload_n k_25_0 rfl rfl
    (r_getR (q := 18) k_25_1 rfl po_25 rfl rfl rfl rfl (gz_51_13_8 p)
    (r_retA k_25_4 rfl))
set_option maxRecDepth 100000 in
theorem ct_7 (p : Nat × (Nat → Int32)) : pcall 41 [.ref 24, .ref 1, .ref 13] (stP Z48 p) = some (0, .null, stP Z52 p) := by
  refine Le.eq (t := some (0, .null, stP Z52 p)) ?_ rfl
  show Le _ (den 41 0 0 [.ref 24, .ref 1, .ref 13] [] (stP Z48 p))
  exact r_aload_n k_41_0 rfl rfl
    (r_obj k_41_1 rfl po_41 rfl rfl
    (r_aload_n k_41_4 rfl rfl
    (r_aload_n k_41_5 rfl rfl
    (n_putR (σ' := stP Z49 p) k_41_6 rfl po_41 rfl rfl (Or.inr ⟨isin_41, rfl⟩) rfl (sz_49 p)
    (r_aload_n k_41_9 rfl rfl
    (r_iconst (v := ν 1) k_41_10 rfl (by decide)
    (n_putI (σ' := stP Z50 p) k_41_11 rfl po_41 rfl rfl rfl (sz_50 p)
    (r_aload_n k_41_14 rfl rfl
    (r_aload_n k_41_15 rfl rfl
    (n_putR (σ' := stP Z51 p) k_41_16 rfl po_41 rfl rfl (Or.inl rfl) rfl (sz_51 p)
    (r_aload_n k_41_19 rfl rfl
    (r_aload_n k_41_20 rfl rfl
    (n_callA (τ := stP Z51 p) (q_virt (rest := [.ref 24]) (as := []) k_41_21 po_41 rfl rfl rfl (rcvO rfl rfl rfl) rfl rfl) (lvq (j := 0) rfl (by decide +kernel)) rfl rfl (ct_6 p)
    (n_putR (σ' := stP Z52 p) k_41_24 rfl po_41 rfl rfl (Or.inl rfl) rfl (sz_52 p)
    (r_retV k_41_27 rfl)))))))))))))))
set_option maxRecDepth 100000 in
theorem ct_8 (p : Nat × (Nat → Int32)) : pcall 68 [.ref 25, .ref 2] (stP Z55 p) = some (0, .null, stP Z68 p) := by
  refine Le.eq (t := some (0, .null, stP Z68 p)) ?_ rfl
  show Le _ (den 68 0 0 [.ref 25, .ref 2] [] (stP Z55 p))
  exact r_aload_n k_68_0 rfl rfl
    (r_obj k_68_1 rfl po_68 rfl rfl
    (r_aload_n k_68_4 rfl rfl
    (r_bipush (v := ι 12) k_68_5 rfl (by decide)
    (n_newaI (m := 26) (n := 12) (σ' := stP Z56 p) k_68_7 rfl (by decide) (pn_55 p) rfl (by decide) (sz_56 p)
    (n_putR (σ' := stP Z57 p) k_68_9 rfl po_68 rfl rfl (Or.inr ⟨isin_68, rfl⟩) rfl (sz_57 p)
    (r_aload_n k_68_12 rfl rfl
    (r_bipush (v := ι 12) k_68_13 rfl (by decide)
    (n_newaI (m := 27) (n := 12) (σ' := stP Z58 p) k_68_15 rfl (by decide) (pn_57 p) rfl (by decide) (sz_58 p)
    (n_putR (σ' := stP Z59 p) k_68_17 rfl po_68 rfl rfl (Or.inr ⟨isin_68, rfl⟩) rfl (sz_59 p)
    (r_aload_n k_68_20 rfl rfl
    (r_bipush (v := ι 8) k_68_21 rfl (by decide)
    (n_newaI (m := 28) (n := 8) (σ' := stP Z60 p) k_68_23 rfl (by decide) (pn_59 p) rfl (by decide) (sz_60 p)
    (n_putR (σ' := stP Z61 p) k_68_25 rfl po_68 rfl rfl (Or.inr ⟨isin_68, rfl⟩) rfl (sz_61 p)
    (r_aload_n k_68_28 rfl rfl
    (r_bipush (v := ι 96) k_68_29 rfl (by decide)
    (n_newaI (m := 29) (n := 96) (σ' := stP Z62 p) k_68_31 rfl (by decide) (pn_61 p) rfl (by decide) (sz_62 p)
    (n_putR (σ' := stP Z63 p) k_68_33 rfl po_68 rfl rfl (Or.inr ⟨isin_68, rfl⟩) rfl (sz_63 p)
    (r_aload_n k_68_36 rfl rfl
    (r_bipush (v := ι 12) k_68_37 rfl (by decide)
    (n_newaI (m := 30) (n := 12) (σ' := stP Z64 p) k_68_39 rfl (by decide) (pn_63 p) rfl (by decide) (sz_64 p)
    (n_putR (σ' := stP Z65 p) k_68_41 rfl po_68 rfl rfl (Or.inr ⟨isin_68, rfl⟩) rfl (sz_65 p)
    (r_aload_n k_68_44 rfl rfl
    (r_bipush (v := ι 8) k_68_45 rfl (by decide)
    (n_newaI (m := 31) (n := 8) (σ' := stP Z66 p) k_68_47 rfl (by decide) (pn_65 p) rfl (by decide) (sz_66 p)
    (n_putR (σ' := stP Z67 p) k_68_49 rfl po_68 rfl rfl (Or.inr ⟨isin_68, rfl⟩) rfl (sz_67 p)
    (r_aload_n k_68_52 rfl rfl
    (r_aload_n k_68_53 rfl rfl
    (n_putR (σ' := stP Z68 p) k_68_54 rfl po_68 rfl rfl (Or.inl rfl) rfl (sz_68 p)
    (r_retV k_68_57 rfl)))))))))))))))))))))))))))))
set_option maxRecDepth 100000 in
theorem ct_9 (p : Nat × (Nat → Int32)) : pcall 103 [.ref 32] (stP Z70 p) = some (0, .null, stP Z76 p) := by
  refine Le.eq (t := some (0, .null, stP Z76 p)) ?_ rfl
  show Le _ (den 103 0 0 [.ref 32] [] (stP Z70 p))
  exact r_aload_n k_103_0 rfl rfl
    (r_obj k_103_1 rfl po_103 rfl rfl
    (r_aload_n k_103_4 rfl rfl
    (r_sipush (v := ι 5160) k_103_5 rfl (by decide)
    (n_newaI (m := 33) (n := 5160) (σ' := stP Z71 p) k_103_8 rfl (by decide) (pn_70 p) rfl (by decide) (sz_71 p)
    (n_putR (σ' := stP Z72 p) k_103_10 rfl po_103 rfl rfl (Or.inr ⟨isin_103, rfl⟩) rfl (sz_72 p)
    (r_aload_n k_103_13 rfl rfl
    (r_bipush (v := ι 24) k_103_14 rfl (by decide)
    (n_newaI (m := 34) (n := 24) (σ' := stP Z73 p) k_103_16 rfl (by decide) (pn_72 p) rfl (by decide) (sz_73 p)
    (n_putR (σ' := stP Z74 p) k_103_18 rfl po_103 rfl rfl (Or.inr ⟨isin_103, rfl⟩) rfl (sz_74 p)
    (r_aload_n k_103_21 rfl rfl
    (r_iconst (v := ι 3) k_103_22 rfl (by decide)
    (n_newaI (m := 35) (n := 3) (σ' := stP Z75 p) k_103_23 rfl (by decide) (pn_74 p) rfl (by decide) (sz_75 p)
    (n_putR (σ' := stP Z76 p) k_103_25 rfl po_103 rfl rfl (Or.inr ⟨isin_103, rfl⟩) rfl (sz_76 p)
    (r_retV k_103_28 rfl))))))))))))))
set_option maxRecDepth 100000 in
theorem ct_10 (p : Nat × (Nat → Int32)) : pcall 68 [.ref 36, .ref 2] (stP Z78 p) = some (0, .null, stP Z91 p) := by
  refine Le.eq (t := some (0, .null, stP Z91 p)) ?_ rfl
  show Le _ (den 68 0 0 [.ref 36, .ref 2] [] (stP Z78 p))
  exact r_aload_n k_68_0 rfl rfl
    (r_obj k_68_1 rfl po_68 rfl rfl
    (r_aload_n k_68_4 rfl rfl
    (r_bipush (v := ι 12) k_68_5 rfl (by decide)
    (n_newaI (m := 37) (n := 12) (σ' := stP Z79 p) k_68_7 rfl (by decide) (pn_78 p) rfl (by decide) (sz_79 p)
    (n_putR (σ' := stP Z80 p) k_68_9 rfl po_68 rfl rfl (Or.inr ⟨isin_68, rfl⟩) rfl (sz_80 p)
    (r_aload_n k_68_12 rfl rfl
    (r_bipush (v := ι 12) k_68_13 rfl (by decide)
    (n_newaI (m := 38) (n := 12) (σ' := stP Z81 p) k_68_15 rfl (by decide) (pn_80 p) rfl (by decide) (sz_81 p)
    (n_putR (σ' := stP Z82 p) k_68_17 rfl po_68 rfl rfl (Or.inr ⟨isin_68, rfl⟩) rfl (sz_82 p)
    (r_aload_n k_68_20 rfl rfl
    (r_bipush (v := ι 8) k_68_21 rfl (by decide)
    (n_newaI (m := 39) (n := 8) (σ' := stP Z83 p) k_68_23 rfl (by decide) (pn_82 p) rfl (by decide) (sz_83 p)
    (n_putR (σ' := stP Z84 p) k_68_25 rfl po_68 rfl rfl (Or.inr ⟨isin_68, rfl⟩) rfl (sz_84 p)
    (r_aload_n k_68_28 rfl rfl
    (r_bipush (v := ι 96) k_68_29 rfl (by decide)
    (n_newaI (m := 40) (n := 96) (σ' := stP Z85 p) k_68_31 rfl (by decide) (pn_84 p) rfl (by decide) (sz_85 p)
    (n_putR (σ' := stP Z86 p) k_68_33 rfl po_68 rfl rfl (Or.inr ⟨isin_68, rfl⟩) rfl (sz_86 p)
    (r_aload_n k_68_36 rfl rfl
    (r_bipush (v := ι 12) k_68_37 rfl (by decide)
    (n_newaI (m := 41) (n := 12) (σ' := stP Z87 p) k_68_39 rfl (by decide) (pn_86 p) rfl (by decide) (sz_87 p)
    (n_putR (σ' := stP Z88 p) k_68_41 rfl po_68 rfl rfl (Or.inr ⟨isin_68, rfl⟩) rfl (sz_88 p)
    (r_aload_n k_68_44 rfl rfl
    (r_bipush (v := ι 8) k_68_45 rfl (by decide)
    (n_newaI (m := 42) (n := 8) (σ' := stP Z89 p) k_68_47 rfl (by decide) (pn_88 p) rfl (by decide) (sz_89 p)
    (n_putR (σ' := stP Z90 p) k_68_49 rfl po_68 rfl rfl (Or.inr ⟨isin_68, rfl⟩) rfl (sz_90 p)
    (r_aload_n k_68_52 rfl rfl
    (r_aload_n k_68_53 rfl rfl
    (n_putR (σ' := stP Z91 p) k_68_54 rfl po_68 rfl rfl (Or.inl rfl) rfl (sz_91 p)
    (r_retV k_68_57 rfl)))))))))))))))))))))))))))))
set_option maxRecDepth 100000 in
theorem ct_11 (p : Nat × (Nat → Int32)) : pcall 103 [.ref 43] (stP Z93 p) = some (0, .null, stP Z99 p) := by
  refine Le.eq (t := some (0, .null, stP Z99 p)) ?_ rfl
  show Le _ (den 103 0 0 [.ref 43] [] (stP Z93 p))
  exact r_aload_n k_103_0 rfl rfl
    (r_obj k_103_1 rfl po_103 rfl rfl
    (r_aload_n k_103_4 rfl rfl
    (r_sipush (v := ι 5160) k_103_5 rfl (by decide)
    (n_newaI (m := 44) (n := 5160) (σ' := stP Z94 p) k_103_8 rfl (by decide) (pn_93 p) rfl (by decide) (sz_94 p)
    (n_putR (σ' := stP Z95 p) k_103_10 rfl po_103 rfl rfl (Or.inr ⟨isin_103, rfl⟩) rfl (sz_95 p)
    (r_aload_n k_103_13 rfl rfl
    (r_bipush (v := ι 24) k_103_14 rfl (by decide)
    (n_newaI (m := 45) (n := 24) (σ' := stP Z96 p) k_103_16 rfl (by decide) (pn_95 p) rfl (by decide) (sz_96 p)
    (n_putR (σ' := stP Z97 p) k_103_18 rfl po_103 rfl rfl (Or.inr ⟨isin_103, rfl⟩) rfl (sz_97 p)
    (r_aload_n k_103_21 rfl rfl
    (r_iconst (v := ι 3) k_103_22 rfl (by decide)
    (n_newaI (m := 46) (n := 3) (σ' := stP Z98 p) k_103_23 rfl (by decide) (pn_97 p) rfl (by decide) (sz_98 p)
    (n_putR (σ' := stP Z99 p) k_103_25 rfl po_103 rfl rfl (Or.inr ⟨isin_103, rfl⟩) rfl (sz_99 p)
    (r_retV k_103_28 rfl))))))))))))))
set_option maxRecDepth 100000 in
theorem ct_12 (p : Nat × (Nat → Int32)) : pcall 68 [.ref 47, .ref 2] (stP Z101 p) = some (0, .null, stP Z114 p) := by
  refine Le.eq (t := some (0, .null, stP Z114 p)) ?_ rfl
  show Le _ (den 68 0 0 [.ref 47, .ref 2] [] (stP Z101 p))
  exact r_aload_n k_68_0 rfl rfl
    (r_obj k_68_1 rfl po_68 rfl rfl
    (r_aload_n k_68_4 rfl rfl
    (r_bipush (v := ι 12) k_68_5 rfl (by decide)
    (n_newaI (m := 48) (n := 12) (σ' := stP Z102 p) k_68_7 rfl (by decide) (pn_101 p) rfl (by decide) (sz_102 p)
    (n_putR (σ' := stP Z103 p) k_68_9 rfl po_68 rfl rfl (Or.inr ⟨isin_68, rfl⟩) rfl (sz_103 p)
    (r_aload_n k_68_12 rfl rfl
    (r_bipush (v := ι 12) k_68_13 rfl (by decide)
    (n_newaI (m := 49) (n := 12) (σ' := stP Z104 p) k_68_15 rfl (by decide) (pn_103 p) rfl (by decide) (sz_104 p)
    (n_putR (σ' := stP Z105 p) k_68_17 rfl po_68 rfl rfl (Or.inr ⟨isin_68, rfl⟩) rfl (sz_105 p)
    (r_aload_n k_68_20 rfl rfl
    (r_bipush (v := ι 8) k_68_21 rfl (by decide)
    (n_newaI (m := 50) (n := 8) (σ' := stP Z106 p) k_68_23 rfl (by decide) (pn_105 p) rfl (by decide) (sz_106 p)
    (n_putR (σ' := stP Z107 p) k_68_25 rfl po_68 rfl rfl (Or.inr ⟨isin_68, rfl⟩) rfl (sz_107 p)
    (r_aload_n k_68_28 rfl rfl
    (r_bipush (v := ι 96) k_68_29 rfl (by decide)
    (n_newaI (m := 51) (n := 96) (σ' := stP Z108 p) k_68_31 rfl (by decide) (pn_107 p) rfl (by decide) (sz_108 p)
    (n_putR (σ' := stP Z109 p) k_68_33 rfl po_68 rfl rfl (Or.inr ⟨isin_68, rfl⟩) rfl (sz_109 p)
    (r_aload_n k_68_36 rfl rfl
    (r_bipush (v := ι 12) k_68_37 rfl (by decide)
    (n_newaI (m := 52) (n := 12) (σ' := stP Z110 p) k_68_39 rfl (by decide) (pn_109 p) rfl (by decide) (sz_110 p)
    (n_putR (σ' := stP Z111 p) k_68_41 rfl po_68 rfl rfl (Or.inr ⟨isin_68, rfl⟩) rfl (sz_111 p)
    (r_aload_n k_68_44 rfl rfl
    (r_bipush (v := ι 8) k_68_45 rfl (by decide)
    (n_newaI (m := 53) (n := 8) (σ' := stP Z112 p) k_68_47 rfl (by decide) (pn_111 p) rfl (by decide) (sz_112 p)
    (n_putR (σ' := stP Z113 p) k_68_49 rfl po_68 rfl rfl (Or.inr ⟨isin_68, rfl⟩) rfl (sz_113 p)
    (r_aload_n k_68_52 rfl rfl
    (r_aload_n k_68_53 rfl rfl
    (n_putR (σ' := stP Z114 p) k_68_54 rfl po_68 rfl rfl (Or.inl rfl) rfl (sz_114 p)
    (r_retV k_68_57 rfl)))))))))))))))))))))))))))))
set_option maxRecDepth 100000 in
theorem ct_13 (p : Nat × (Nat → Int32)) : pcall 133 [.ref 54, .ref 25, .ref 47] (stP Z115 p) = some (0, .null, stP Z121 p) := by
  refine Le.eq (t := some (0, .null, stP Z121 p)) ?_ rfl
  show Le _ (den 133 0 0 [.ref 54, .ref 25, .ref 47] [] (stP Z115 p))
  exact r_aload_n k_133_0 rfl rfl
    (r_obj k_133_1 rfl po_133 rfl rfl
    (r_aload_n k_133_4 rfl rfl
    (r_iconst (v := ι 4) k_133_5 rfl (by decide)
    (n_newaI (m := 55) (n := 4) (σ' := stP Z116 p) k_133_6 rfl (by decide) (pn_115 p) rfl (by decide) (sz_116 p)
    (n_putR (σ' := stP Z117 p) k_133_8 rfl po_133 rfl rfl (Or.inr ⟨isin_133, rfl⟩) rfl (sz_117 p)
    (r_aload_n k_133_11 rfl rfl
    (r_iconst (v := ι 4) k_133_12 rfl (by decide)
    (n_newaI (m := 56) (n := 4) (σ' := stP Z118 p) k_133_13 rfl (by decide) (pn_117 p) rfl (by decide) (sz_118 p)
    (n_putR (σ' := stP Z119 p) k_133_15 rfl po_133 rfl rfl (Or.inr ⟨isin_133, rfl⟩) rfl (sz_119 p)
    (r_aload_n k_133_18 rfl rfl
    (r_aload_n k_133_19 rfl rfl
    (n_putR (σ' := stP Z120 p) k_133_20 rfl po_133 rfl rfl (Or.inr ⟨isin_133, rfl⟩) rfl (sz_120 p)
    (r_aload_n k_133_23 rfl rfl
    (r_aload_n k_133_24 rfl rfl
    (n_putR (σ' := stP Z121 p) k_133_25 rfl po_133 rfl rfl (Or.inr ⟨isin_133, rfl⟩) rfl (sz_121 p)
    (r_retV k_133_28 rfl))))))))))))))))
set_option maxRecDepth 100000 in
theorem ct_14 (p : Nat × (Nat → Int32)) : pcall 153 [.ref 57, .ref 25, .ref 32, .ref 47] (stP Z123 p) = some (0, .null, stP Z128 p) := by
  refine Le.eq (t := some (0, .null, stP Z128 p)) ?_ rfl
  show Le _ (den 153 0 0 [.ref 57, .ref 25, .ref 32, .ref 47] [] (stP Z123 p))
  exact r_aload_n k_153_0 rfl rfl
    (r_obj k_153_1 rfl po_153 rfl rfl
    (r_aload_n k_153_4 rfl rfl
    (r_bipush (v := ι 12) k_153_5 rfl (by decide)
    (n_newaI (m := 58) (n := 12) (σ' := stP Z124 p) k_153_7 rfl (by decide) (pn_123 p) rfl (by decide) (sz_124 p)
    (n_putR (σ' := stP Z125 p) k_153_9 rfl po_153 rfl rfl (Or.inr ⟨isin_153, rfl⟩) rfl (sz_125 p)
    (r_aload_n k_153_12 rfl rfl
    (r_aload_n k_153_13 rfl rfl
    (n_putR (σ' := stP Z126 p) k_153_14 rfl po_153 rfl rfl (Or.inr ⟨isin_153, rfl⟩) rfl (sz_126 p)
    (r_aload_n k_153_17 rfl rfl
    (r_aload_n k_153_18 rfl rfl
    (n_putR (σ' := stP Z127 p) k_153_19 rfl po_153 rfl rfl (Or.inr ⟨isin_153, rfl⟩) rfl (sz_127 p)
    (r_aload_n k_153_22 rfl rfl
    (r_aload_n k_153_23 rfl rfl
    (n_putR (σ' := stP Z128 p) k_153_24 rfl po_153 rfl rfl (Or.inr ⟨isin_153, rfl⟩) rfl (sz_128 p)
    (r_retV k_153_27 rfl)))))))))))))))
set_option maxRecDepth 100000 in
theorem ct_15 (p : Nat × (Nat → Int32)) : pcall 128 [.ref 59] (stP Z130 p) = some (0, .null, stP Z132 p) := by
  refine Le.eq (t := some (0, .null, stP Z132 p)) ?_ rfl
  show Le _ (den 128 0 0 [.ref 59] [] (stP Z130 p))
  exact r_aload_n k_128_0 rfl rfl
    (r_obj k_128_1 rfl po_128 rfl rfl
    (r_aload_n k_128_4 rfl rfl
    (r_sipush (v := ι 256) k_128_5 rfl (by decide)
    (n_newaJ (m := 60) (n := 256) (σ' := stP Z131 p) k_128_8 rfl (by decide) (pn_130 p) rfl (by decide) (sz_131 p)
    (n_putR (σ' := stP Z132 p) k_128_10 rfl po_128 rfl rfl (Or.inr ⟨isin_128, rfl⟩) rfl (sz_132 p)
    (r_retV k_128_13 rfl))))))
set_option maxRecDepth 100000 in
theorem ct_16 (p : Nat × (Nat → Int32)) : pcall 163 [.ref 0] (stP Z1 p) = some (0, .null, stP Z133 p) := by
  refine Le.eq (t := some (0, .null, stP Z133 p)) ?_ rfl
  show Le _ (den 163 0 0 [.ref 0, .retAddr 0] [] (stP Z1 p))
  exact r_aload_n k_163_0 rfl rfl
    (r_obj k_163_1 rfl po_163 rfl rfl
    (r_aload_n k_163_4 rfl rfl
    (r_sipush (v := ι 700) k_163_5 rfl (by decide)
    (n_newaI (m := 1) (n := 700) (σ' := stP Z2 p) k_163_8 rfl (by decide) (pn_1 p) rfl (by decide) (sz_2 p)
    (n_putR (σ' := stP Z3 p) k_163_10 rfl po_163 rfl rfl (Or.inr ⟨isin_163, rfl⟩) rfl (sz_3 p)
    (r_aload_n k_163_13 rfl rfl
    (n_new (m := 2) (σ' := stP Z4 p) k_163_14 rfl po_163 rfl (pn_3 p) rfl (by decide) (by decide) (sz_4 p)
    (r_dup k_163_17 rfl rfl
    (n_call (τ := stP Z24 p) (q_spec (rest := [.ref 2, .ref 0]) (as := []) k_163_18 po_163 rfl (by decide) rfl rfl (rcvO rfl rfl rfl) rfl rfl) (lvq (j := 0) rfl (by decide +kernel)) rfl rfl (ct_2 p)
    (n_putR (σ' := stP Z25 p) k_163_21 rfl po_163 rfl rfl (Or.inl rfl) rfl (sz_25 p)
    (r_aload_n k_163_24 rfl rfl
    (n_new (m := 13) (σ' := stP Z26 p) k_163_25 rfl po_163 rfl (pn_25 p) rfl (by decide) (by decide) (sz_26 p)
    (r_dup k_163_28 rfl rfl
    (n_call (τ := stP Z46 p) (q_spec (rest := [.ref 13, .ref 0]) (as := []) k_163_29 po_163 rfl (by decide) rfl rfl (rcvO rfl rfl rfl) rfl rfl) (lvq (j := 0) rfl (by decide +kernel)) rfl rfl (ct_5 p)
    (n_putR (σ' := stP Z47 p) k_163_32 rfl po_163 rfl rfl (Or.inl rfl) rfl (sz_47 p)
    (r_aload_n k_163_35 rfl rfl
    (n_new (m := 24) (σ' := stP Z48 p) k_163_36 rfl po_163 rfl (pn_47 p) rfl (by decide) (by decide) (sz_48 p)
    (r_dup k_163_39 rfl rfl
    (r_aload_n k_163_40 rfl rfl
    (r_getR (q := 1) k_163_41 rfl po_163 rfl rfl rfl rfl (gz_48_0_0 p)
    (r_aload_n k_163_44 rfl rfl
    (r_getR (q := 13) k_163_45 rfl po_163 rfl rfl rfl rfl (gz_48_0_5 p)
    (n_call (τ := stP Z52 p) (q_spec (rest := [.ref 24, .ref 0]) (as := [.ref 1, .ref 13]) k_163_48 po_163 rfl (by decide) rfl rfl (rcvO rfl rfl rfl) rfl rfl) (lvq (j := 0) rfl (by decide +kernel)) rfl rfl (ct_7 p)
    (n_putR (σ' := stP Z53 p) k_163_51 rfl po_163 rfl rfl (Or.inr ⟨isin_163, rfl⟩) rfl (sz_53 p)
    (r_aload_n k_163_54 rfl rfl
    (r_iconst (v := ν 1) k_163_55 rfl (by decide)
    (n_putI (σ' := stP Z54 p) k_163_56 rfl po_163 rfl rfl rfl (sz_54 p)
    (r_aload_n k_163_59 rfl rfl
    (n_new (m := 25) (σ' := stP Z55 p) k_163_60 rfl po_163 rfl (pn_54 p) rfl (by decide) (by decide) (sz_55 p)
    (r_dup k_163_63 rfl rfl
    (r_aload_n k_163_64 rfl rfl
    (r_getR (q := 2) k_163_65 rfl po_163 rfl rfl rfl rfl (gz_55_0_4 p)
    (n_call (τ := stP Z68 p) (q_spec (rest := [.ref 25, .ref 0]) (as := [.ref 2]) k_163_68 po_163 rfl (by decide) rfl rfl (rcvO rfl rfl rfl) rfl rfl) (lvq (j := 0) rfl (by decide +kernel)) rfl rfl (ct_8 p)
    (n_putR (σ' := stP Z69 p) k_163_71 rfl po_163 rfl rfl (Or.inr ⟨isin_163, rfl⟩) rfl (sz_69 p)
    (r_aload_n k_163_74 rfl rfl
    (n_new (m := 32) (σ' := stP Z70 p) k_163_75 rfl po_163 rfl (pn_69 p) rfl (by decide) (by decide) (sz_70 p)
    (r_dup k_163_78 rfl rfl
    (n_call (τ := stP Z76 p) (q_spec (rest := [.ref 32, .ref 0]) (as := []) k_163_79 po_163 rfl (by decide) rfl rfl (rcvO rfl rfl rfl) rfl rfl) (lvq (j := 0) rfl (by decide +kernel)) rfl rfl (ct_9 p)
    (n_putR (σ' := stP Z77 p) k_163_82 rfl po_163 rfl rfl (Or.inr ⟨isin_163, rfl⟩) rfl (sz_77 p)
    (r_aload_n k_163_85 rfl rfl
    (n_new (m := 36) (σ' := stP Z78 p) k_163_86 rfl po_163 rfl (pn_77 p) rfl (by decide) (by decide) (sz_78 p)
    (r_dup k_163_89 rfl rfl
    (r_aload_n k_163_90 rfl rfl
    (r_getR (q := 2) k_163_91 rfl po_163 rfl rfl rfl rfl (gz_78_0_4 p)
    (n_call (τ := stP Z91 p) (q_spec (rest := [.ref 36, .ref 0]) (as := [.ref 2]) k_163_94 po_163 rfl (by decide) rfl rfl (rcvO rfl rfl rfl) rfl rfl) (lvq (j := 0) rfl (by decide +kernel)) rfl rfl (ct_10 p)
    (n_putR (σ' := stP Z92 p) k_163_97 rfl po_163 rfl rfl (Or.inr ⟨isin_163, rfl⟩) rfl (sz_92 p)
    (r_aload_n k_163_100 rfl rfl
    (n_new (m := 43) (σ' := stP Z93 p) k_163_101 rfl po_163 rfl (pn_92 p) rfl (by decide) (by decide) (sz_93 p)
    (r_dup k_163_104 rfl rfl
    (n_call (τ := stP Z99 p) (q_spec (rest := [.ref 43, .ref 0]) (as := []) k_163_105 po_163 rfl (by decide) rfl rfl (rcvO rfl rfl rfl) rfl rfl) (lvq (j := 0) rfl (by decide +kernel)) rfl rfl (ct_11 p)
    (n_putR (σ' := stP Z100 p) k_163_108 rfl po_163 rfl rfl (Or.inr ⟨isin_163, rfl⟩) rfl (sz_100 p)
    (n_new (m := 47) (σ' := stP Z101 p) k_163_111 rfl po_163 rfl (pn_100 p) rfl (by decide) (by decide) (sz_101 p)
    (r_dup k_163_114 rfl rfl
    (r_aload_n k_163_115 rfl rfl
    (r_getR (q := 2) k_163_116 rfl po_163 rfl rfl rfl rfl (gz_101_0_4 p)
    (n_call (τ := stP Z114 p) (q_spec (rest := [.ref 47]) (as := [.ref 2]) k_163_119 po_163 rfl (by decide) rfl rfl (rcvO rfl rfl rfl) rfl rfl) (lvq (j := 0) rfl (by decide +kernel)) rfl rfl (ct_12 p)
    (r_astore_n k_163_122 rfl rfl rfl
    (r_aload_n k_163_123 rfl rfl
    (n_new (m := 54) (σ' := stP Z115 p) k_163_124 rfl po_163 rfl (pn_114 p) rfl (by decide) (by decide) (sz_115 p)
    (r_dup k_163_127 rfl rfl
    (r_aload_n k_163_128 rfl rfl
    (r_getR (q := 25) k_163_129 rfl po_163 rfl rfl rfl rfl (gz_115_0_6 p)
    (r_aload_n k_163_132 rfl rfl
    (n_call (τ := stP Z121 p) (q_spec (rest := [.ref 54, .ref 0]) (as := [.ref 25, .ref 47]) k_163_133 po_163 rfl (by decide) rfl rfl (rcvO rfl rfl rfl) rfl rfl) (lvq (j := 0) rfl (by decide +kernel)) rfl rfl (ct_13 p)
    (n_putR (σ' := stP Z122 p) k_163_136 rfl po_163 rfl rfl (Or.inr ⟨isin_163, rfl⟩) rfl (sz_122 p)
    (r_aload_n k_163_139 rfl rfl
    (n_new (m := 57) (σ' := stP Z123 p) k_163_140 rfl po_163 rfl (pn_122 p) rfl (by decide) (by decide) (sz_123 p)
    (r_dup k_163_143 rfl rfl
    (r_aload_n k_163_144 rfl rfl
    (r_getR (q := 25) k_163_145 rfl po_163 rfl rfl rfl rfl (gz_123_0_6 p)
    (r_aload_n k_163_148 rfl rfl
    (r_getR (q := 32) k_163_149 rfl po_163 rfl rfl rfl rfl (gz_123_0_7 p)
    (r_aload_n k_163_152 rfl rfl
    (n_call (τ := stP Z128 p) (q_spec (rest := [.ref 57, .ref 0]) (as := [.ref 25, .ref 32, .ref 47]) k_163_153 po_163 rfl (by decide) rfl rfl (rcvO rfl rfl rfl) rfl rfl) (lvq (j := 0) rfl (by decide +kernel)) rfl rfl (ct_14 p)
    (n_putR (σ' := stP Z129 p) k_163_156 rfl po_163 rfl rfl (Or.inr ⟨isin_163, rfl⟩) rfl (sz_129 p)
    (r_aload_n k_163_159 rfl rfl
    (n_new (m := 59) (σ' := stP Z130 p) k_163_160 rfl po_163 rfl (pn_129 p) rfl (by decide) (by decide) (sz_130 p)
    (r_dup k_163_163 rfl rfl
    (n_call (τ := stP Z132 p) (q_spec (rest := [.ref 59, .ref 0]) (as := []) k_163_164 po_163 rfl (by decide) rfl rfl (rcvO rfl rfl rfl) rfl rfl) (lvq (j := 0) rfl (by decide +kernel)) rfl rfl (ct_15 p)
    (n_putR (σ' := stP Z133 p) k_163_167 rfl po_163 rfl rfl (Or.inr ⟨isin_163, rfl⟩) rfl (sz_133 p)
    (r_retV k_163_170 rfl)))))))))))))))))))))))))))))))))))))))))))))))))))))))))))))))))))))))))))))))))
set_option maxRecDepth 100000 in
theorem ct_17 (p : Nat × (Nat → Int32)) : pcall 207 [.ref 61] (stP Z134 p) = some (0, .null, stP Z220 p) := by
  refine Le.eq (t := some (0, .null, stP Z220 p)) ?_ rfl
  show Le _ (den 207 0 0 [.ref 61] [] (stP Z134 p))
  exact r_aload_n k_207_0 rfl rfl
    (r_obj k_207_1 rfl po_207 rfl rfl
    (r_aload_n k_207_4 rfl rfl
    (r_iconst (v := ι 2) k_207_5 rfl (by decide)
    (n_newaR (m := 62) (n := 2) (σ' := stP Z135 p) k_207_6 rfl po_207 rfl (by decide) (pn_134 p) rfl (by decide) (sz_135 p)
    (r_dup k_207_9 rfl rfl
    (r_iconst (v := ι 0) k_207_10 rfl (by decide)
    (r_ldcS k_207_11 rfl po_207 rfl rfl
    (n_aast (j := 0) (σ' := stP Z136 p) k_207_13 rfl rfl (by decide) (by decide) (by decide) (sz_136 p)
    (r_dup k_207_14 rfl rfl
    (r_iconst (v := ι 1) k_207_15 rfl (by decide)
    (r_ldcS k_207_16 rfl po_207 rfl rfl
    (n_aast (j := 1) (σ' := stP Z137 p) k_207_18 rfl rfl (by decide) (by decide) (by decide) (sz_137 p)
    (n_putR (σ' := stP Z138 p) k_207_19 rfl po_207 rfl rfl (Or.inr ⟨isin_207, rfl⟩) rfl (sz_138 p)
    (r_aload_n k_207_22 rfl rfl
    (r_bipush (v := ι 6) k_207_23 rfl (by decide)
    (n_newaR (m := 63) (n := 6) (σ' := stP Z139 p) k_207_25 rfl po_207 rfl (by decide) (pn_138 p) rfl (by decide) (sz_139 p)
    (r_dup k_207_28 rfl rfl
    (r_iconst (v := ι 0) k_207_29 rfl (by decide)
    (r_ldcS k_207_30 rfl po_207 rfl rfl
    (n_aast (j := 0) (σ' := stP Z140 p) k_207_32 rfl rfl (by decide) (by decide) (by decide) (sz_140 p)
    (r_dup k_207_33 rfl rfl
    (r_iconst (v := ι 1) k_207_34 rfl (by decide)
    (r_ldcS k_207_35 rfl po_207 rfl rfl
    (n_aast (j := 1) (σ' := stP Z141 p) k_207_37 rfl rfl (by decide) (by decide) (by decide) (sz_141 p)
    (r_dup k_207_38 rfl rfl
    (r_iconst (v := ι 2) k_207_39 rfl (by decide)
    (r_ldcS k_207_40 rfl po_207 rfl rfl
    (n_aast (j := 2) (σ' := stP Z142 p) k_207_42 rfl rfl (by decide) (by decide) (by decide) (sz_142 p)
    (r_dup k_207_43 rfl rfl
    (r_iconst (v := ι 3) k_207_44 rfl (by decide)
    (r_ldcS k_207_45 rfl po_207 rfl rfl
    (n_aast (j := 3) (σ' := stP Z143 p) k_207_47 rfl rfl (by decide) (by decide) (by decide) (sz_143 p)
    (r_dup k_207_48 rfl rfl
    (r_iconst (v := ι 4) k_207_49 rfl (by decide)
    (r_ldcS k_207_50 rfl po_207 rfl rfl
    (n_aast (j := 4) (σ' := stP Z144 p) k_207_52 rfl rfl (by decide) (by decide) (by decide) (sz_144 p)
    (r_dup k_207_53 rfl rfl
    (r_iconst (v := ι 5) k_207_54 rfl (by decide)
    (r_ldcS k_207_55 rfl po_207 rfl rfl
    (n_aast (j := 5) (σ' := stP Z145 p) k_207_57 rfl rfl (by decide) (by decide) (by decide) (sz_145 p)
    (n_putR (σ' := stP Z146 p) k_207_58 rfl po_207 rfl rfl (Or.inr ⟨isin_207, rfl⟩) rfl (sz_146 p)
    (r_aload_n k_207_61 rfl rfl
    (r_iconst (v := ι 4) k_207_62 rfl (by decide)
    (n_newaR (m := 64) (n := 4) (σ' := stP Z147 p) k_207_63 rfl po_207 rfl (by decide) (pn_146 p) rfl (by decide) (sz_147 p)
    (r_dup k_207_66 rfl rfl
    (r_iconst (v := ι 0) k_207_67 rfl (by decide)
    (r_ldcS k_207_68 rfl po_207 rfl rfl
    (n_aast (j := 0) (σ' := stP Z148 p) k_207_70 rfl rfl (by decide) (by decide) (by decide) (sz_148 p)
    (r_dup k_207_71 rfl rfl
    (r_iconst (v := ι 1) k_207_72 rfl (by decide)
    (r_ldcS k_207_73 rfl po_207 rfl rfl
    (n_aast (j := 1) (σ' := stP Z149 p) k_207_75 rfl rfl (by decide) (by decide) (by decide) (sz_149 p)
    (r_dup k_207_76 rfl rfl
    (r_iconst (v := ι 2) k_207_77 rfl (by decide)
    (r_ldcS k_207_78 rfl po_207 rfl rfl
    (n_aast (j := 2) (σ' := stP Z150 p) k_207_80 rfl rfl (by decide) (by decide) (by decide) (sz_150 p)
    (r_dup k_207_81 rfl rfl
    (r_iconst (v := ι 3) k_207_82 rfl (by decide)
    (r_ldcS k_207_83 rfl po_207 rfl rfl
    (n_aast (j := 3) (σ' := stP Z151 p) k_207_85 rfl rfl (by decide) (by decide) (by decide) (sz_151 p)
    (n_putR (σ' := stP Z152 p) k_207_86 rfl po_207 rfl rfl (Or.inr ⟨isin_207, rfl⟩) rfl (sz_152 p)
    (r_aload_n k_207_89 rfl rfl
    (r_aload_n k_207_90 rfl rfl
    (r_getR (q := 63) k_207_91 rfl po_207 rfl rfl rfl rfl (gz_152_61_1 p)
    (n_putR (σ' := stP Z153 p) k_207_94 rfl po_207 rfl rfl (Or.inl rfl) rfl (sz_153 p)
    (r_aload_n k_207_97 rfl rfl
    (r_bipush (v := ι 10) k_207_98 rfl (by decide)
    (n_newaI (m := 65) (n := 10) (σ' := stP Z154 p) k_207_100 rfl (by decide) (pn_153 p) rfl (by decide) (sz_154 p)
    (n_putR (σ' := stP Z155 p) k_207_102 rfl po_207 rfl rfl (Or.inr ⟨isin_207, rfl⟩) rfl (sz_155 p)
    (r_aload_n k_207_105 rfl rfl
    (r_bipush (v := ι 16) k_207_106 rfl (by decide)
    (n_newaI (m := 66) (n := 16) (σ' := stP Z156 p) k_207_108 rfl (by decide) (pn_155 p) rfl (by decide) (sz_156 p)
    (n_putR (σ' := stP Z157 p) k_207_110 rfl po_207 rfl rfl (Or.inr ⟨isin_207, rfl⟩) rfl (sz_157 p)
    (r_aload_n k_207_113 rfl rfl
    (r_bipush (v := ι 24) k_207_114 rfl (by decide)
    (n_newaI (m := 67) (n := 24) (σ' := stP Z158 p) k_207_116 rfl (by decide) (pn_157 p) rfl (by decide) (sz_158 p)
    (n_putR (σ' := stP Z159 p) k_207_118 rfl po_207 rfl rfl (Or.inr ⟨isin_207, rfl⟩) rfl (sz_159 p)
    (r_aload_n k_207_121 rfl rfl
    (r_bipush (v := ι 24) k_207_122 rfl (by decide)
    (n_newaI (m := 68) (n := 24) (σ' := stP Z160 p) k_207_124 rfl (by decide) (pn_159 p) rfl (by decide) (sz_160 p)
    (n_putR (σ' := stP Z161 p) k_207_126 rfl po_207 rfl rfl (Or.inr ⟨isin_207, rfl⟩) rfl (sz_161 p)
    (r_aload_n k_207_129 rfl rfl
    (r_sipush (v := ι 192) k_207_130 rfl (by decide)
    (n_newaI (m := 69) (n := 192) (σ' := stP Z162 p) k_207_133 rfl (by decide) (pn_161 p) rfl (by decide) (sz_162 p)
    (n_putR (σ' := stP Z163 p) k_207_135 rfl po_207 rfl rfl (Or.inr ⟨isin_207, rfl⟩) rfl (sz_163 p)
    (r_aload_n k_207_138 rfl rfl
    (r_bipush (v := ι 16) k_207_139 rfl (by decide)
    (n_newaI (m := 70) (n := 16) (σ' := stP Z164 p) k_207_141 rfl (by decide) (pn_163 p) rfl (by decide) (sz_164 p)
    (n_putR (σ' := stP Z165 p) k_207_143 rfl po_207 rfl rfl (Or.inr ⟨isin_207, rfl⟩) rfl (sz_165 p)
    (r_aload_n k_207_146 rfl rfl
    (r_sipush (v := ι 1400) k_207_147 rfl (by decide)
    (n_newaI (m := 71) (n := 1400) (σ' := stP Z166 p) k_207_150 rfl (by decide) (pn_165 p) rfl (by decide) (sz_166 p)
    (n_putR (σ' := stP Z167 p) k_207_152 rfl po_207 rfl rfl (Or.inr ⟨isin_207, rfl⟩) rfl (sz_167 p)
    (r_aload_n k_207_155 rfl rfl
    (r_sipush (v := ι 1400) k_207_156 rfl (by decide)
    (n_newaI (m := 72) (n := 1400) (σ' := stP Z168 p) k_207_159 rfl (by decide) (pn_167 p) rfl (by decide) (sz_168 p)
    (n_putR (σ' := stP Z169 p) k_207_161 rfl po_207 rfl rfl (Or.inr ⟨isin_207, rfl⟩) rfl (sz_169 p)
    (r_aload_n k_207_164 rfl rfl
    (r_iconst (v := ι 3) k_207_165 rfl (by decide)
    (n_newaI (m := 73) (n := 3) (σ' := stP Z170 p) k_207_166 rfl (by decide) (pn_169 p) rfl (by decide) (sz_170 p)
    (n_putR (σ' := stP Z171 p) k_207_168 rfl po_207 rfl rfl (Or.inr ⟨isin_207, rfl⟩) rfl (sz_171 p)
    (r_aload_n k_207_171 rfl rfl
    (r_sipush (v := ι 700) k_207_172 rfl (by decide)
    (n_newaI (m := 74) (n := 700) (σ' := stP Z172 p) k_207_175 rfl (by decide) (pn_171 p) rfl (by decide) (sz_172 p)
    (n_putR (σ' := stP Z173 p) k_207_177 rfl po_207 rfl rfl (Or.inr ⟨isin_207, rfl⟩) rfl (sz_173 p)
    (r_aload_n k_207_180 rfl rfl
    (r_iconst (v := ν 1) k_207_181 rfl (by decide)
    (n_putI (σ' := stP Z174 p) k_207_182 rfl po_207 rfl rfl rfl (sz_174 p)
    (r_aload_n k_207_185 rfl rfl
    (r_bipush (v := ι 12) k_207_186 rfl (by decide)
    (n_newaI (m := 75) (n := 12) (σ' := stP Z175 p) k_207_188 rfl (by decide) (pn_174 p) rfl (by decide) (sz_175 p)
    (n_putR (σ' := stP Z176 p) k_207_190 rfl po_207 rfl rfl (Or.inr ⟨isin_207, rfl⟩) rfl (sz_176 p)
    (r_aload_n k_207_193 rfl rfl
    (r_bipush (v := ι 12) k_207_194 rfl (by decide)
    (n_newaI (m := 76) (n := 12) (σ' := stP Z177 p) k_207_196 rfl (by decide) (pn_176 p) rfl (by decide) (sz_177 p)
    (n_putR (σ' := stP Z178 p) k_207_198 rfl po_207 rfl rfl (Or.inr ⟨isin_207, rfl⟩) rfl (sz_178 p)
    (r_aload_n k_207_201 rfl rfl
    (r_bipush (v := ι 96) k_207_202 rfl (by decide)
    (n_newaI (m := 77) (n := 96) (σ' := stP Z179 p) k_207_204 rfl (by decide) (pn_178 p) rfl (by decide) (sz_179 p)
    (n_putR (σ' := stP Z180 p) k_207_206 rfl po_207 rfl rfl (Or.inr ⟨isin_207, rfl⟩) rfl (sz_180 p)
    (r_aload_n k_207_209 rfl rfl
    (r_bipush (v := ι 8) k_207_210 rfl (by decide)
    (n_newaI (m := 78) (n := 8) (σ' := stP Z181 p) k_207_212 rfl (by decide) (pn_180 p) rfl (by decide) (sz_181 p)
    (n_putR (σ' := stP Z182 p) k_207_214 rfl po_207 rfl rfl (Or.inr ⟨isin_207, rfl⟩) rfl (sz_182 p)
    (r_aload_n k_207_217 rfl rfl
    (r_sipush (v := ι 5160) k_207_218 rfl (by decide)
    (n_newaI (m := 79) (n := 5160) (σ' := stP Z183 p) k_207_221 rfl (by decide) (pn_182 p) rfl (by decide) (sz_183 p)
    (n_putR (σ' := stP Z184 p) k_207_223 rfl po_207 rfl rfl (Or.inr ⟨isin_207, rfl⟩) rfl (sz_184 p)
    (r_aload_n k_207_226 rfl rfl
    (r_bipush (v := ι 6) k_207_227 rfl (by decide)
    (n_newaI (m := 80) (n := 6) (σ' := stP Z185 p) k_207_229 rfl (by decide) (pn_184 p) rfl (by decide) (sz_185 p)
    (n_putR (σ' := stP Z186 p) k_207_231 rfl po_207 rfl rfl (Or.inr ⟨isin_207, rfl⟩) rfl (sz_186 p)
    (r_aload_n k_207_234 rfl rfl
    (r_bipush (v := ι 64) k_207_235 rfl (by decide)
    (n_newaI (m := 81) (n := 64) (σ' := stP Z187 p) k_207_237 rfl (by decide) (pn_186 p) rfl (by decide) (sz_187 p)
    (n_putR (σ' := stP Z188 p) k_207_239 rfl po_207 rfl rfl (Or.inr ⟨isin_207, rfl⟩) rfl (sz_188 p)
    (r_aload_n k_207_242 rfl rfl
    (r_bipush (v := ι 12) k_207_243 rfl (by decide)
    (n_newaI (m := 82) (n := 12) (σ' := stP Z189 p) k_207_245 rfl (by decide) (pn_188 p) rfl (by decide) (sz_189 p)
    (n_putR (σ' := stP Z190 p) k_207_247 rfl po_207 rfl rfl (Or.inr ⟨isin_207, rfl⟩) rfl (sz_190 p)
    (r_aload_n k_207_250 rfl rfl
    (r_sipush (v := ι 129) k_207_251 rfl (by decide)
    (n_newaI (m := 83) (n := 129) (σ' := stP Z191 p) k_207_254 rfl (by decide) (pn_190 p) rfl (by decide) (sz_191 p)
    (n_putR (σ' := stP Z192 p) k_207_256 rfl po_207 rfl rfl (Or.inr ⟨isin_207, rfl⟩) rfl (sz_192 p)
    (r_aload_n k_207_259 rfl rfl
    (r_ldcI (v := ι 36864) k_207_260 rfl po_207 rfl (by decide)
    (n_newaI (m := 84) (n := 36864) (σ' := stP Z193 p) k_207_262 rfl (by decide) (pn_192 p) rfl (by decide) (sz_193 p)
    (n_putR (σ' := stP Z194 p) k_207_264 rfl po_207 rfl rfl (Or.inr ⟨isin_207, rfl⟩) rfl (sz_194 p)
    (r_aload_n k_207_267 rfl rfl
    (r_bipush (v := ι 8) k_207_268 rfl (by decide)
    (n_newaI (m := 85) (n := 8) (σ' := stP Z195 p) k_207_270 rfl (by decide) (pn_194 p) rfl (by decide) (sz_195 p)
    (n_putR (σ' := stP Z196 p) k_207_272 rfl po_207 rfl rfl (Or.inr ⟨isin_207, rfl⟩) rfl (sz_196 p)
    (r_aload_n k_207_275 rfl rfl
    (r_bipush (v := ι 8) k_207_276 rfl (by decide)
    (n_newaI (m := 86) (n := 8) (σ' := stP Z197 p) k_207_278 rfl (by decide) (pn_196 p) rfl (by decide) (sz_197 p)
    (n_putR (σ' := stP Z198 p) k_207_280 rfl po_207 rfl rfl (Or.inr ⟨isin_207, rfl⟩) rfl (sz_198 p)
    (r_aload_n k_207_283 rfl rfl
    (r_bipush (v := ι 8) k_207_284 rfl (by decide)
    (n_newaI (m := 87) (n := 8) (σ' := stP Z199 p) k_207_286 rfl (by decide) (pn_198 p) rfl (by decide) (sz_199 p)
    (n_putR (σ' := stP Z200 p) k_207_288 rfl po_207 rfl rfl (Or.inr ⟨isin_207, rfl⟩) rfl (sz_200 p)
    (r_aload_n k_207_291 rfl rfl
    (r_sipush (v := ι 129) k_207_292 rfl (by decide)
    (n_newaI (m := 88) (n := 129) (σ' := stP Z201 p) k_207_295 rfl (by decide) (pn_200 p) rfl (by decide) (sz_201 p)
    (n_putR (σ' := stP Z202 p) k_207_297 rfl po_207 rfl rfl (Or.inr ⟨isin_207, rfl⟩) rfl (sz_202 p)
    (r_aload_n k_207_300 rfl rfl
    (r_sipush (v := ι 960) k_207_301 rfl (by decide)
    (n_newaI (m := 89) (n := 960) (σ' := stP Z203 p) k_207_304 rfl (by decide) (pn_202 p) rfl (by decide) (sz_203 p)
    (n_putR (σ' := stP Z204 p) k_207_306 rfl po_207 rfl rfl (Or.inr ⟨isin_207, rfl⟩) rfl (sz_204 p)
    (r_aload_n k_207_309 rfl rfl
    (r_bipush (v := ι 12) k_207_310 rfl (by decide)
    (n_newaI (m := 90) (n := 12) (σ' := stP Z205 p) k_207_312 rfl (by decide) (pn_204 p) rfl (by decide) (sz_205 p)
    (n_putR (σ' := stP Z206 p) k_207_314 rfl po_207 rfl rfl (Or.inr ⟨isin_207, rfl⟩) rfl (sz_206 p)
    (r_aload_n k_207_317 rfl rfl
    (r_bipush (v := ι 8) k_207_318 rfl (by decide)
    (n_newaI (m := 91) (n := 8) (σ' := stP Z207 p) k_207_320 rfl (by decide) (pn_206 p) rfl (by decide) (sz_207 p)
    (n_putR (σ' := stP Z208 p) k_207_322 rfl po_207 rfl rfl (Or.inr ⟨isin_207, rfl⟩) rfl (sz_208 p)
    (r_aload_n k_207_325 rfl rfl
    (r_sipush (v := ι 129) k_207_326 rfl (by decide)
    (n_newaI (m := 92) (n := 129) (σ' := stP Z209 p) k_207_329 rfl (by decide) (pn_208 p) rfl (by decide) (sz_209 p)
    (n_putR (σ' := stP Z210 p) k_207_331 rfl po_207 rfl rfl (Or.inr ⟨isin_207, rfl⟩) rfl (sz_210 p)
    (r_aload_n k_207_334 rfl rfl
    (r_sipush (v := ι 5160) k_207_335 rfl (by decide)
    (n_newaI (m := 93) (n := 5160) (σ' := stP Z211 p) k_207_338 rfl (by decide) (pn_210 p) rfl (by decide) (sz_211 p)
    (n_putR (σ' := stP Z212 p) k_207_340 rfl po_207 rfl rfl (Or.inr ⟨isin_207, rfl⟩) rfl (sz_212 p)
    (r_aload_n k_207_343 rfl rfl
    (r_bipush (v := ι 8) k_207_344 rfl (by decide)
    (n_newaI (m := 94) (n := 8) (σ' := stP Z213 p) k_207_346 rfl (by decide) (pn_212 p) rfl (by decide) (sz_213 p)
    (n_putR (σ' := stP Z214 p) k_207_348 rfl po_207 rfl rfl (Or.inr ⟨isin_207, rfl⟩) rfl (sz_214 p)
    (r_aload_n k_207_351 rfl rfl
    (r_bipush (v := ι 8) k_207_352 rfl (by decide)
    (n_newaI (m := 95) (n := 8) (σ' := stP Z215 p) k_207_354 rfl (by decide) (pn_214 p) rfl (by decide) (sz_215 p)
    (n_putR (σ' := stP Z216 p) k_207_356 rfl po_207 rfl rfl (Or.inr ⟨isin_207, rfl⟩) rfl (sz_216 p)
    (r_aload_n k_207_359 rfl rfl
    (r_bipush (v := ι 8) k_207_360 rfl (by decide)
    (n_newaI (m := 96) (n := 8) (σ' := stP Z217 p) k_207_362 rfl (by decide) (pn_216 p) rfl (by decide) (sz_217 p)
    (n_putR (σ' := stP Z218 p) k_207_364 rfl po_207 rfl rfl (Or.inr ⟨isin_207, rfl⟩) rfl (sz_218 p)
    (r_aload_n k_207_367 rfl rfl
    (r_iconst (v := ι 3) k_207_368 rfl (by decide)
    (n_newaI (m := 97) (n := 3) (σ' := stP Z219 p) k_207_369 rfl (by decide) (pn_218 p) rfl (by decide) (sz_219 p)
    (n_putR (σ' := stP Z220 p) k_207_371 rfl po_207 rfl rfl (Or.inr ⟨isin_207, rfl⟩) rfl (sz_220 p)
    (r_retV k_207_374 rfl)))))))))))))))))))))))))))))))))))))))))))))))))))))))))))))))))))))))))))))))))))))))))))))))))))))))))))))))))))))))))))))))))))))))))))))))))))))))))))))))))))))))))))))))))))))))))))))))))))))))))
theorem start_run (p : Nat × (Nat → Int32)) : Le (den 353 0 23 [.ref 3000, .ref 0, .ref 61, .ref 98, .int (ι 0), .retAddr 0, .retAddr 0] [] (stP Z221 p)) (den 353 0 0 [.ref 3000, .retAddr 0, .retAddr 0, .retAddr 0, .retAddr 0, .retAddr 0, .retAddr 0] [] (stP Z0 p)) :=
  n_new (m := 0) (σ' := stP Z1 p) k_353_0 rfl po_353 rfl (pn_0 p) rfl (by decide) (by decide) (sz_1 p)
    (r_dup k_353_3 rfl rfl
    (n_call (τ := stP Z133 p) (q_spec (rest := [.ref 0]) (as := []) k_353_4 po_353 rfl (by decide) rfl rfl (rcvO rfl rfl rfl) rfl rfl) (lvq (j := 0) rfl (by decide +kernel)) rfl rfl (ct_16 p)
    (r_astore_n k_353_7 rfl rfl rfl
    (n_new (m := 61) (σ' := stP Z134 p) k_353_8 rfl po_353 rfl (pn_133 p) rfl (by decide) (by decide) (sz_134 p)
    (r_dup k_353_11 rfl rfl
    (n_call (τ := stP Z220 p) (q_spec (rest := [.ref 61]) (as := []) k_353_12 po_353 rfl (by decide) rfl rfl (rcvO rfl rfl rfl) rfl rfl) (lvq (j := 0) rfl (by decide +kernel)) rfl rfl (ct_17 p)
    (r_astore_n k_353_15 rfl rfl rfl
    (r_iconst (v := ι 1) k_353_16 rfl (by decide)
    (n_newaJ (m := 98) (n := 1) (σ' := stP Z221 p) k_353_17 rfl (by decide) (pn_220 p) rfl (by decide) (sz_221 p)
    (r_astore_n k_353_19 rfl rfl rfl
    (r_iconst (v := ι 0) k_353_20 rfl (by decide)
    (r_istore k_353_21 rfl rfl rfl
    (Le.rfl')))))))))))))
end CTOR
