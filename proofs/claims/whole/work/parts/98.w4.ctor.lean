/-! ===== the law's start, step by step (written by wip/gen/ctor.py) ===== -/
section CTOR
theorem ct_0 (p : Nat × (Nat → Int32)) : pcall 15 [.ref 7] (stP Z13 p) = some (0, .null, stP Z17 p) := by
  refine Le.eq (t := some (0, .null, stP Z17 p)) ?_ rfl
  show Le _ (den 15 0 0 [.ref 7] [] (stP Z13 p))
  exact r_aload_n k_15_0 rfl rfl
    (r_obj k_15_1 rfl po_15 rfl rfl
    (r_aload_n k_15_4 rfl rfl
    (r_sipush (v := ι 700) k_15_5 rfl (by decide)
    (n_newaI (m := 8) (n := 700) (σ' := stP Z14 p) k_15_8 rfl (by decide) (pn_13 p) rfl (by decide) (sz_14 p)
    (n_putR (σ' := stP Z15 p) k_15_10 rfl po_15 rfl rfl (Or.inr ⟨isin_15, rfl⟩) rfl (sz_15 p)
    (r_aload_n k_15_13 rfl rfl
    (r_bipush (v := ι 64) k_15_14 rfl (by decide)
    (n_newaI (m := 9) (n := 64) (σ' := stP Z16 p) k_15_16 rfl (by decide) (pn_15 p) rfl (by decide) (sz_16 p)
    (n_putR (σ' := stP Z17 p) k_15_18 rfl po_15 rfl rfl (Or.inr ⟨isin_15, rfl⟩) rfl (sz_17 p)
    (r_retV k_15_21 rfl))))))))))
theorem ct_1 (p : Nat × (Nat → Int32)) : pcall 15 [.ref 10] (stP Z19 p) = some (0, .null, stP Z23 p) := by
  refine Le.eq (t := some (0, .null, stP Z23 p)) ?_ rfl
  show Le _ (den 15 0 0 [.ref 10] [] (stP Z19 p))
  exact r_aload_n k_15_0 rfl rfl
    (r_obj k_15_1 rfl po_15 rfl rfl
    (r_aload_n k_15_4 rfl rfl
    (r_sipush (v := ι 700) k_15_5 rfl (by decide)
    (n_newaI (m := 11) (n := 700) (σ' := stP Z20 p) k_15_8 rfl (by decide) (pn_19 p) rfl (by decide) (sz_20 p)
    (n_putR (σ' := stP Z21 p) k_15_10 rfl po_15 rfl rfl (Or.inr ⟨isin_15, rfl⟩) rfl (sz_21 p)
    (r_aload_n k_15_13 rfl rfl
    (r_bipush (v := ι 64) k_15_14 rfl (by decide)
    (n_newaI (m := 12) (n := 64) (σ' := stP Z22 p) k_15_16 rfl (by decide) (pn_21 p) rfl (by decide) (sz_22 p)
    (n_putR (σ' := stP Z23 p) k_15_18 rfl po_15 rfl rfl (Or.inr ⟨isin_15, rfl⟩) rfl (sz_23 p)
    (r_retV k_15_21 rfl))))))))))
end CTOR
