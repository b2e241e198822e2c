section TREES
/-! ===== 134 HedgeWants.Ahead.toSpoil ===== -/
theorem k_134_0 : cd 134 0 = some (.aload_n 0, 1) := by decide +kernel
theorem k_134_1 : cd 134 1 = some (.getfield 22, 3) := by decide +kernel
theorem k_134_4 : cd 134 4 = some (.aload_n 0, 1) := by decide +kernel
theorem k_134_5 : cd 134 5 = some (.getfield 18, 3) := by decide +kernel
theorem k_134_8 : cd 134 8 = some (.invokevirtual 25, 3) := by decide +kernel
theorem k_134_11 : cd 134 11 = some (.aload_n 0, 1) := by decide +kernel
theorem k_134_12 : cd 134 12 = some (.getfield 18, 3) := by decide +kernel
theorem k_134_15 : cd 134 15 = some (.iload_n 1, 1) := by decide +kernel
theorem k_134_16 : cd 134 16 = some (.invokevirtual 39, 3) := by decide +kernel
theorem k_134_19 : cd 134 19 = some (.istore_n 2, 1) := by decide +kernel
theorem k_134_20 : cd 134 20 = some (.iconst 0, 1) := by decide +kernel
theorem k_134_21 : cd 134 21 = some (.istore_n 3, 1) := by decide +kernel
theorem k_134_22 : cd 134 22 = some (.iload_n 2, 1) := by decide +kernel
theorem k_134_23 : cd 134 23 = some (.iload_n 3, 1) := by decide +kernel
theorem k_134_24 : cd 134 24 = some (.iadd, 1) := by decide +kernel
theorem k_134_25 : cd 134 25 = some (.bipush 9, 2) := by decide +kernel
theorem k_134_27 : cd 134 27 = some (.if_icmp .gt 33, 3) := by decide +kernel
theorem k_134_30 : cd 134 30 = some (.aload_n 0, 1) := by decide +kernel
theorem k_134_31 : cd 134 31 = some (.getfield 22, 3) := by decide +kernel
theorem k_134_34 : cd 134 34 = some (.iload_n 1, 1) := by decide +kernel
theorem k_134_35 : cd 134 35 = some (.iload_n 2, 1) := by decide +kernel
theorem k_134_36 : cd 134 36 = some (.iload_n 3, 1) := by decide +kernel
theorem k_134_37 : cd 134 37 = some (.iadd, 1) := by decide +kernel
theorem k_134_38 : cd 134 38 = some (.invokevirtual 42, 3) := by decide +kernel
theorem k_134_41 : cd 134 41 = some (.aload_n 0, 1) := by decide +kernel
theorem k_134_42 : cd 134 42 = some (.getfield 22, 3) := by decide +kernel
theorem k_134_45 : cd 134 45 = some (.iload_n 1, 1) := by decide +kernel
theorem k_134_46 : cd 134 46 = some (.invokevirtual 46, 3) := by decide +kernel
theorem k_134_49 : cd 134 49 = some (.ifCond .ne 5, 3) := by decide +kernel
theorem k_134_52 : cd 134 52 = some (.iload_n 3, 1) := by decide +kernel
theorem k_134_53 : cd 134 53 = some (.ireturn, 1) := by decide +kernel
theorem k_134_54 : cd 134 54 = some (.iinc 3 1, 3) := by decide +kernel
theorem k_134_57 : cd 134 57 = some (.goto (-35), 3) := by decide +kernel
theorem k_134_60 : cd 134 60 = some (.iconst (-1), 1) := by decide +kernel
theorem k_134_61 : cd 134 61 = some (.ireturn, 1) := by decide +kernel
theorem po_134 : po 134 = 1 := rfl
noncomputable def C_134_22  (x1 : Int32) (x2 : Int32) (x3 : Int32) (σ : pS) : Option pZ := den 134 0 22 [.ref 54, .int x1, .int x2, .int x3] [] σ
theorem T_134_22  {x1 : Int32} {x2 : Int32} {x3 : Int32}  {σ : pS} {ρ : Nat → Nat → Option Nat} (e : gR σ = ρ) (hL : LayR ρ) : Le
  (if (ι 9) < (x2 + x3) then some (1, .int (ν 1), σ) else bV (pcall 81 [.ref 47, .int x1, .int (x2 + x3)] σ) fun σ1 => bI (pcall 89 [.ref 47, .int x1] σ1) fun r2 σ2 => if ¬ r2 = (ι 0) then C_134_22 x1 x2 (x3 + (ι 1)) σ2 else some (1, .int x3, σ2))
  (C_134_22  x1 x2 x3 σ) := by
  unfold C_134_22
  exact r_iload_n k_134_22 rfl rfl
    (r_iload_n k_134_23 rfl rfl
    (r_iadd k_134_24 rfl
    (r_bipush k_134_25 rfl rfl
    (r_icmp (tgt := 60) k_134_27 rfl rfl cop_gt
    (r_iconst k_134_60 rfl rfl
    (r_ret k_134_61 rfl rfl))
    (r_aload_n k_134_30 rfl rfl
    (r_getR k_134_31 rfl po_134 rfl rfl rfl rfl (gRat e (LayR.at hL (i := 55) rfl))
    (r_iload_n k_134_34 rfl rfl
    (r_iload_n k_134_35 rfl rfl
    (r_iload_n k_134_36 rfl rfl
    (r_iadd k_134_37 rfl
    (r_callV (q_virt (rest := []) (as := [.int x1, .int (x2 + x3)]) k_134_38 po_134 rfl rfl rfl (rcvO rfl rfl rfl) rfl rfl) (lvq (j := 0) rfl (by decide +kernel)) rfl rfl (fun _ σ1 h1 => r_aload_n k_134_41 rfl rfl
    (r_getR k_134_42 rfl po_134 rfl rfl rfl rfl (gRat (eC rfl h1 e) (LayR.at hL (i := 55) rfl))
    (r_iload_n k_134_45 rfl rfl
    (r_callI (q_virt (rest := []) (as := [.int x1]) k_134_46 po_134 rfl rfl rfl (rcvO rfl rfl rfl) rfl rfl) (lvq (j := 0) rfl (by decide +kernel)) rfl rfl (fun r2 σ2 h2 => r_if (tgt := 54) k_134_49 rfl rfl cop_ne
    (r_iinc k_134_54 rfl rfl rfl rfl
    (r_goto (tgt := 22) k_134_57 rfl (Le.rfl')))
    (r_iload_n k_134_52 rfl rfl
    (r_ret k_134_53 rfl rfl))))))))))))))))))
theorem M_134  {x0 : Int32} {σ : pS} {ρ : Nat → Nat → Option Nat} (e : gR σ = ρ) (hL : LayR ρ) : Le
  (bV (pcall 84 [.ref 47, .ref 25] σ) fun σ1 => gd (LayR (gR σ1)) (bI (pcall 76 [.ref 25, .int x0] σ1) fun r2 σ2 => C_134_22 x0 r2 (ι 0) σ2))
  (pcall 134 [.ref 54, .int x0] σ) := by
  show Le _ (den 134 0 0 [.ref 54, .int x0, .retAddr 0, .retAddr 0] [] σ)
  exact r_aload_n k_134_0 rfl rfl
    (r_getR k_134_1 rfl po_134 rfl rfl rfl rfl (gRat e (LayR.at hL (i := 55) rfl))
    (r_aload_n k_134_4 rfl rfl
    (r_getR k_134_5 rfl po_134 rfl rfl rfl rfl (gRat e (LayR.at hL (i := 54) rfl))
    (r_callV (q_virt (rest := []) (as := [.ref 25]) k_134_8 po_134 rfl rfl rfl (rcvO rfl rfl rfl) rfl rfl) (lvq (j := 0) rfl (by decide +kernel)) rfl rfl (fun _ σ1 h1 => r_gd fun L1 => r_aload_n k_134_11 rfl rfl
    (r_getR k_134_12 rfl po_134 rfl rfl rfl rfl (gRat rfl (LayR.at L1 (i := 54) rfl))
    (r_iload_n k_134_15 rfl rfl
    (r_callI (q_virt (rest := []) (as := [.int x0]) k_134_16 po_134 rfl rfl rfl (rcvO rfl rfl rfl) rfl rfl) (lvq (j := 0) rfl (by decide +kernel)) rfl rfl (fun r2 σ2 h2 => r_istore_n k_134_19 rfl rfl rfl
    (r_iconst k_134_20 rfl rfl
    (r_istore_n k_134_21 rfl rfl rfl
    (Le.rfl'))))))))))))
/-! ===== 135 HedgeWants.Ahead.behind ===== -/
theorem k_135_0 : cd 135 0 = some (.aload_n 0, 1) := by decide +kernel
theorem k_135_1 : cd 135 1 = some (.getfield 22, 3) := by decide +kernel
theorem k_135_4 : cd 135 4 = some (.aload_n 0, 1) := by decide +kernel
theorem k_135_5 : cd 135 5 = some (.getfield 18, 3) := by decide +kernel
theorem k_135_8 : cd 135 8 = some (.invokevirtual 25, 3) := by decide +kernel
theorem k_135_11 : cd 135 11 = some (.aload_n 0, 1) := by decide +kernel
theorem k_135_12 : cd 135 12 = some (.iload_n 1, 1) := by decide +kernel
theorem k_135_13 : cd 135 13 = some (.invokevirtual 31, 3) := by decide +kernel
theorem k_135_16 : cd 135 16 = some (.aload_n 0, 1) := by decide +kernel
theorem k_135_17 : cd 135 17 = some (.getfield 22, 3) := by decide +kernel
theorem k_135_20 : cd 135 20 = some (.areturn, 1) := by decide +kernel
theorem po_135 : po 135 = 1 := rfl
theorem M_135  {x0 : Int32} {σ : pS} {ρ : Nat → Nat → Option Nat} (e : gR σ = ρ) (hL : LayR ρ) : Le
  (bV (pcall 84 [.ref 47, .ref 25] σ) fun σ1 => gd (LayR (gR σ1)) (bV (pcall 136 [.ref 54, .int x0] σ1) fun σ2 => some (1, .ref 47, σ2)))
  (pcall 135 [.ref 54, .int x0] σ) := by
  show Le _ (den 135 0 0 [.ref 54, .int x0] [] σ)
  exact r_aload_n k_135_0 rfl rfl
    (r_getR k_135_1 rfl po_135 rfl rfl rfl rfl (gRat e (LayR.at hL (i := 55) rfl))
    (r_aload_n k_135_4 rfl rfl
    (r_getR k_135_5 rfl po_135 rfl rfl rfl rfl (gRat e (LayR.at hL (i := 54) rfl))
    (r_callV (q_virt (rest := []) (as := [.ref 25]) k_135_8 po_135 rfl rfl rfl (rcvO rfl rfl rfl) rfl rfl) (lvq (j := 0) rfl (by decide +kernel)) rfl rfl (fun _ σ1 h1 => r_gd fun L1 => r_aload_n k_135_11 rfl rfl
    (r_iload_n k_135_12 rfl rfl
    (r_callV (q_virt (rest := []) (as := [.int x0]) k_135_13 po_135 rfl rfl rfl (rcvO rfl rfl rfl) rfl rfl) (lvq (j := 0) rfl (by decide +kernel)) rfl rfl (fun _ σ2 h2 => r_aload_n k_135_16 rfl rfl
    (r_getR k_135_17 rfl po_135 rfl rfl rfl rfl (gRat (eC rfl h2 rfl) (LayR.at L1 (i := 55) rfl))
    (r_retA k_135_20 rfl))))))))))
/-! ===== 136 HedgeWants.Ahead.passDays ===== -/
theorem k_136_0 : cd 136 0 = some (.iconst 0, 1) := by decide +kernel
theorem k_136_1 : cd 136 1 = some (.istore_n 2, 1) := by decide +kernel
theorem k_136_2 : cd 136 2 = some (.iload_n 2, 1) := by decide +kernel
theorem k_136_3 : cd 136 3 = some (.iload_n 1, 1) := by decide +kernel
theorem k_136_4 : cd 136 4 = some (.if_icmp .ge 18, 3) := by decide +kernel
theorem k_136_7 : cd 136 7 = some (.aload_n 0, 1) := by decide +kernel
theorem k_136_8 : cd 136 8 = some (.getfield 22, 3) := by decide +kernel
theorem k_136_11 : cd 136 11 = some (.iconst 0, 1) := by decide +kernel
theorem k_136_12 : cd 136 12 = some (.invokevirtual 35, 3) := by decide +kernel
theorem k_136_15 : cd 136 15 = some (.pop, 1) := by decide +kernel
theorem k_136_16 : cd 136 16 = some (.iinc 2 1, 3) := by decide +kernel
theorem k_136_19 : cd 136 19 = some (.goto (-17), 3) := by decide +kernel
theorem k_136_22 : cd 136 22 = some (.return_, 1) := by decide +kernel
theorem po_136 : po 136 = 1 := rfl
noncomputable def C_136_2  (x1 : Int32) (x2 : Int32) (σ : pS) : Option pZ := den 136 0 2 [.ref 54, .int x1, .int x2] [] σ
theorem T_136_2  {x1 : Int32} {x2 : Int32}  {σ : pS} {ρ : Nat → Nat → Option Nat} (e : gR σ = ρ) (hL : LayR ρ) : Le
  (if x1 ≤ x2 then some (0, .null, σ) else bI (pcall 71 [.ref 47, .int (ι 0)] σ) fun r1 σ1 => C_136_2 x1 (x2 + (ι 1)) σ1)
  (C_136_2  x1 x2 σ) := by
  unfold C_136_2
  exact r_iload_n k_136_2 rfl rfl
    (r_iload_n k_136_3 rfl rfl
    (r_icmp (tgt := 22) k_136_4 rfl rfl cop_ge
    (r_retV k_136_22 rfl)
    (r_aload_n k_136_7 rfl rfl
    (r_getR k_136_8 rfl po_136 rfl rfl rfl rfl (gRat e (LayR.at hL (i := 55) rfl))
    (r_iconst k_136_11 rfl rfl
    (r_callI (q_virt (rest := []) (as := [.int (ι 0)]) k_136_12 po_136 rfl rfl rfl (rcvO rfl rfl rfl) rfl rfl) (lvq (j := 0) rfl (by decide +kernel)) rfl rfl (fun r1 σ1 h1 => r_pop k_136_15 rfl rfl
    (r_iinc k_136_16 rfl rfl rfl rfl
    (r_goto (tgt := 2) k_136_19 rfl (Le.rfl'))))))))))
theorem M_136  {x0 : Int32} {σ : pS} {ρ : Nat → Nat → Option Nat} (e : gR σ = ρ) (hL : LayR ρ) : Le
  (C_136_2 x0 (ι 0) σ)
  (pcall 136 [.ref 54, .int x0] σ) := by
  show Le _ (den 136 0 0 [.ref 54, .int x0, .retAddr 0] [] σ)
  exact r_iconst k_136_0 rfl rfl
    (r_istore_n k_136_1 rfl rfl rfl
    (Le.rfl'))
/-! ===== 137 HedgeWants.Ahead.keptFor ===== -/
theorem k_137_0 : cd 137 0 = some (.aload_n 0, 1) := by decide +kernel
theorem k_137_1 : cd 137 1 = some (.getfield 22, 3) := by decide +kernel
theorem k_137_4 : cd 137 4 = some (.aload_n 0, 1) := by decide +kernel
theorem k_137_5 : cd 137 5 = some (.getfield 18, 3) := by decide +kernel
theorem k_137_8 : cd 137 8 = some (.invokevirtual 25, 3) := by decide +kernel
theorem k_137_11 : cd 137 11 = some (.aload_n 0, 1) := by decide +kernel
theorem k_137_12 : cd 137 12 = some (.iload_n 1, 1) := by decide +kernel
theorem k_137_13 : cd 137 13 = some (.invokevirtual 49, 3) := by decide +kernel
theorem k_137_16 : cd 137 16 = some (.istore_n 2, 1) := by decide +kernel
theorem k_137_17 : cd 137 17 = some (.iload_n 2, 1) := by decide +kernel
theorem k_137_18 : cd 137 18 = some (.bipush 61, 2) := by decide +kernel
theorem k_137_20 : cd 137 20 = some (.if_icmp .ne 7, 3) := by decide +kernel
theorem k_137_23 : cd 137 23 = some (.iconst (-1), 1) := by decide +kernel
theorem k_137_24 : cd 137 24 = some (.goto 4, 3) := by decide +kernel
theorem k_137_27 : cd 137 27 = some (.iload_n 2, 1) := by decide +kernel
theorem k_137_28 : cd 137 28 = some (.ireturn, 1) := by decide +kernel
theorem po_137 : po 137 = 1 := rfl
theorem M_137  {x0 : Int32} {σ : pS} {ρ : Nat → Nat → Option Nat} (e : gR σ = ρ) (hL : LayR ρ) : Le
  (bV (pcall 84 [.ref 47, .ref 25] σ) fun σ1 => gd (LayR (gR σ1)) (bI (pcall 138 [.ref 54, .int x0] σ1) fun r2 σ2 => if ¬ r2 = (ι 61) then some (1, .int r2, σ2) else some (1, .int (ν 1), σ2)))
  (pcall 137 [.ref 54, .int x0] σ) := by
  show Le _ (den 137 0 0 [.ref 54, .int x0, .retAddr 0] [] σ)
  exact r_aload_n k_137_0 rfl rfl
    (r_getR k_137_1 rfl po_137 rfl rfl rfl rfl (gRat e (LayR.at hL (i := 55) rfl))
    (r_aload_n k_137_4 rfl rfl
    (r_getR k_137_5 rfl po_137 rfl rfl rfl rfl (gRat e (LayR.at hL (i := 54) rfl))
    (r_callV (q_virt (rest := []) (as := [.ref 25]) k_137_8 po_137 rfl rfl rfl (rcvO rfl rfl rfl) rfl rfl) (lvq (j := 0) rfl (by decide +kernel)) rfl rfl (fun _ σ1 h1 => r_gd fun L1 => r_aload_n k_137_11 rfl rfl
    (r_iload_n k_137_12 rfl rfl
    (r_callI (q_virt (rest := []) (as := [.int x0]) k_137_13 po_137 rfl rfl rfl (rcvO rfl rfl rfl) rfl rfl) (lvq (j := 0) rfl (by decide +kernel)) rfl rfl (fun r2 σ2 h2 => r_istore_n k_137_16 rfl rfl rfl
    (r_iload_n k_137_17 rfl rfl
    (r_bipush k_137_18 rfl rfl
    (r_icmp (tgt := 27) k_137_20 rfl rfl cop_ne
    (r_iload_n k_137_27 rfl rfl
    (r_ret k_137_28 rfl rfl))
    (r_iconst k_137_23 rfl rfl
    (r_goto (tgt := 28) k_137_24 rfl (r_ret k_137_28 rfl rfl))))))))))))))
/-! ===== 138 HedgeWants.Ahead.daysTillTaken ===== -/
theorem k_138_0 : cd 138 0 = some (.iconst 1, 1) := by decide +kernel
theorem k_138_1 : cd 138 1 = some (.istore_n 2, 1) := by decide +kernel
theorem k_138_2 : cd 138 2 = some (.iload_n 2, 1) := by decide +kernel
theorem k_138_3 : cd 138 3 = some (.bipush 60, 2) := by decide +kernel
theorem k_138_5 : cd 138 5 = some (.if_icmp .gt 31, 3) := by decide +kernel
theorem k_138_8 : cd 138 8 = some (.aload_n 0, 1) := by decide +kernel
theorem k_138_9 : cd 138 9 = some (.getfield 22, 3) := by decide +kernel
theorem k_138_12 : cd 138 12 = some (.iconst 0, 1) := by decide +kernel
theorem k_138_13 : cd 138 13 = some (.invokevirtual 35, 3) := by decide +kernel
theorem k_138_16 : cd 138 16 = some (.pop, 1) := by decide +kernel
theorem k_138_17 : cd 138 17 = some (.aload_n 0, 1) := by decide +kernel
theorem k_138_18 : cd 138 18 = some (.getfield 22, 3) := by decide +kernel
theorem k_138_21 : cd 138 21 = some (.iload_n 1, 1) := by decide +kernel
theorem k_138_22 : cd 138 22 = some (.invokevirtual 52, 3) := by decide +kernel
theorem k_138_25 : cd 138 25 = some (.ifCond .le 5, 3) := by decide +kernel
theorem k_138_28 : cd 138 28 = some (.iload_n 2, 1) := by decide +kernel
theorem k_138_29 : cd 138 29 = some (.ireturn, 1) := by decide +kernel
theorem k_138_30 : cd 138 30 = some (.iinc 2 1, 3) := by decide +kernel
theorem k_138_33 : cd 138 33 = some (.goto (-31), 3) := by decide +kernel
theorem k_138_36 : cd 138 36 = some (.bipush 61, 2) := by decide +kernel
theorem k_138_38 : cd 138 38 = some (.ireturn, 1) := by decide +kernel
theorem po_138 : po 138 = 1 := rfl
noncomputable def C_138_2  (x1 : Int32) (x2 : Int32) (σ : pS) : Option pZ := den 138 0 2 [.ref 54, .int x1, .int x2] [] σ
theorem T_138_2  {x1 : Int32} {x2 : Int32}  {σ : pS} {ρ : Nat → Nat → Option Nat} (e : gR σ = ρ) (hL : LayR ρ) : Le
  (if (ι 60) < x2 then some (1, .int (ι 61), σ) else bI (pcall 71 [.ref 47, .int (ι 0)] σ) fun r1 σ1 => bI (pcall 97 [.ref 47, .int x1] σ1) fun r2 σ2 => if r2 ≤ (ι 0) then C_138_2 x1 (x2 + (ι 1)) σ2 else some (1, .int x2, σ2))
  (C_138_2  x1 x2 σ) := by
  unfold C_138_2
  exact r_iload_n k_138_2 rfl rfl
    (r_bipush k_138_3 rfl rfl
    (r_icmp (tgt := 36) k_138_5 rfl rfl cop_gt
    (r_bipush k_138_36 rfl rfl
    (r_ret k_138_38 rfl rfl))
    (r_aload_n k_138_8 rfl rfl
    (r_getR k_138_9 rfl po_138 rfl rfl rfl rfl (gRat e (LayR.at hL (i := 55) rfl))
    (r_iconst k_138_12 rfl rfl
    (r_callI (q_virt (rest := []) (as := [.int (ι 0)]) k_138_13 po_138 rfl rfl rfl (rcvO rfl rfl rfl) rfl rfl) (lvq (j := 0) rfl (by decide +kernel)) rfl rfl (fun r1 σ1 h1 => r_pop k_138_16 rfl rfl
    (r_aload_n k_138_17 rfl rfl
    (r_getR k_138_18 rfl po_138 rfl rfl rfl rfl (gRat (eC rfl h1 e) (LayR.at hL (i := 55) rfl))
    (r_iload_n k_138_21 rfl rfl
    (r_callI (q_virt (rest := []) (as := [.int x1]) k_138_22 po_138 rfl rfl rfl (rcvO rfl rfl rfl) rfl rfl) (lvq (j := 0) rfl (by decide +kernel)) rfl rfl (fun r2 σ2 h2 => r_if (tgt := 30) k_138_25 rfl rfl cop_le
    (r_iinc k_138_30 rfl rfl rfl rfl
    (r_goto (tgt := 2) k_138_33 rfl (Le.rfl')))
    (r_iload_n k_138_28 rfl rfl
    (r_ret k_138_29 rfl rfl))))))))))))))
theorem M_138  {x0 : Int32} {σ : pS} {ρ : Nat → Nat → Option Nat} (e : gR σ = ρ) (hL : LayR ρ) : Le
  (C_138_2 x0 (ι 1) σ)
  (pcall 138 [.ref 54, .int x0] σ) := by
  show Le _ (den 138 0 0 [.ref 54, .int x0, .retAddr 0] [] σ)
  exact r_iconst k_138_0 rfl rfl
    (r_istore_n k_138_1 rfl rfl rfl
    (Le.rfl'))
/-! ===== 139 HedgeWants.Ahead.daysHeld ===== -/
theorem k_139_0 : cd 139 0 = some (.aload_n 0, 1) := by decide +kernel
theorem k_139_1 : cd 139 1 = some (.getfield 22, 3) := by decide +kernel
theorem k_139_4 : cd 139 4 = some (.aload_n 0, 1) := by decide +kernel
theorem k_139_5 : cd 139 5 = some (.getfield 18, 3) := by decide +kernel
theorem k_139_8 : cd 139 8 = some (.invokevirtual 25, 3) := by decide +kernel
theorem k_139_11 : cd 139 11 = some (.iconst 0, 1) := by decide +kernel
theorem k_139_12 : cd 139 12 = some (.istore 4, 2) := by decide +kernel
theorem k_139_14 : cd 139 14 = some (.iconst 0, 1) := by decide +kernel
theorem k_139_15 : cd 139 15 = some (.istore 5, 2) := by decide +kernel
theorem k_139_17 : cd 139 17 = some (.iload 5, 2) := by decide +kernel
theorem k_139_19 : cd 139 19 = some (.iload_n 3, 1) := by decide +kernel
theorem k_139_20 : cd 139 20 = some (.if_icmp .ge 40, 3) := by decide +kernel
theorem k_139_23 : cd 139 23 = some (.aload_n 0, 1) := by decide +kernel
theorem k_139_24 : cd 139 24 = some (.getfield 22, 3) := by decide +kernel
theorem k_139_27 : cd 139 27 = some (.iconst 0, 1) := by decide +kernel
theorem k_139_28 : cd 139 28 = some (.invokevirtual 35, 3) := by decide +kernel
theorem k_139_31 : cd 139 31 = some (.pop, 1) := by decide +kernel
theorem k_139_32 : cd 139 32 = some (.iload 4, 2) := by decide +kernel
theorem k_139_34 : cd 139 34 = some (.aload_n 0, 1) := by decide +kernel
theorem k_139_35 : cd 139 35 = some (.getfield 22, 3) := by decide +kernel
theorem k_139_38 : cd 139 38 = some (.iload_n 2, 1) := by decide +kernel
theorem k_139_39 : cd 139 39 = some (.invokevirtual 55, 3) := by decide +kernel
theorem k_139_42 : cd 139 42 = some (.iload_n 1, 1) := by decide +kernel
theorem k_139_43 : cd 139 43 = some (.if_icmp .ne 7, 3) := by decide +kernel
theorem k_139_46 : cd 139 46 = some (.iconst 1, 1) := by decide +kernel
theorem k_139_47 : cd 139 47 = some (.goto 4, 3) := by decide +kernel
theorem k_139_50 : cd 139 50 = some (.iconst 0, 1) := by decide +kernel
theorem k_139_51 : cd 139 51 = some (.iadd, 1) := by decide +kernel
theorem k_139_52 : cd 139 52 = some (.istore 4, 2) := by decide +kernel
theorem k_139_54 : cd 139 54 = some (.iinc 5 1, 3) := by decide +kernel
theorem k_139_57 : cd 139 57 = some (.goto (-40), 3) := by decide +kernel
theorem k_139_60 : cd 139 60 = some (.iload 4, 2) := by decide +kernel
theorem k_139_62 : cd 139 62 = some (.ireturn, 1) := by decide +kernel
theorem po_139 : po 139 = 1 := rfl
noncomputable def C_139_17  (x1 : Int32) (x2 : Int32) (x3 : Int32) (x4 : Int32) (x5 : Int32) (σ : pS) : Option pZ := den 139 0 17 [.ref 54, .int x1, .int x2, .int x3, .int x4, .int x5] [] σ
theorem T_139_17  {x1 : Int32} {x2 : Int32} {x3 : Int32} {x4 : Int32} {x5 : Int32}  {σ : pS} {ρ : Nat → Nat → Option Nat} (e : gR σ = ρ) (hL : LayR ρ) : Le
  (if x3 ≤ x5 then some (1, .int x4, σ) else bI (pcall 71 [.ref 47, .int (ι 0)] σ) fun r1 σ1 => bI (pcall 75 [.ref 47, .int x2] σ1) fun r2 σ2 => if ¬ r2 = x1 then C_139_17 x1 x2 x3 (x4 + (ι 0)) (x5 + (ι 1)) σ2 else C_139_17 x1 x2 x3 (x4 + (ι 1)) (x5 + (ι 1)) σ2)
  (C_139_17  x1 x2 x3 x4 x5 σ) := by
  unfold C_139_17
  exact r_iload k_139_17 rfl rfl
    (r_iload_n k_139_19 rfl rfl
    (r_icmp (tgt := 60) k_139_20 rfl rfl cop_ge
    (r_iload k_139_60 rfl rfl
    (r_ret k_139_62 rfl rfl))
    (r_aload_n k_139_23 rfl rfl
    (r_getR k_139_24 rfl po_139 rfl rfl rfl rfl (gRat e (LayR.at hL (i := 55) rfl))
    (r_iconst k_139_27 rfl rfl
    (r_callI (q_virt (rest := []) (as := [.int (ι 0)]) k_139_28 po_139 rfl rfl rfl (rcvO rfl rfl rfl) rfl rfl) (lvq (j := 0) rfl (by decide +kernel)) rfl rfl (fun r1 σ1 h1 => r_pop k_139_31 rfl rfl
    (r_iload k_139_32 rfl rfl
    (r_aload_n k_139_34 rfl rfl
    (r_getR k_139_35 rfl po_139 rfl rfl rfl rfl (gRat (eC rfl h1 e) (LayR.at hL (i := 55) rfl))
    (r_iload_n k_139_38 rfl rfl
    (r_callI (q_virt (rest := [.int x4]) (as := [.int x2]) k_139_39 po_139 rfl rfl rfl (rcvO rfl rfl rfl) rfl rfl) (lvq (j := 0) rfl (by decide +kernel)) rfl rfl (fun r2 σ2 h2 => r_iload_n k_139_42 rfl rfl
    (r_icmp (tgt := 50) k_139_43 rfl rfl cop_ne
    (r_iconst k_139_50 rfl rfl
    (r_iadd k_139_51 rfl
    (r_istore k_139_52 rfl rfl rfl
    (r_iinc k_139_54 rfl rfl rfl rfl
    (r_goto (tgt := 17) k_139_57 rfl (Le.rfl'))))))
    (r_iconst k_139_46 rfl rfl
    (r_goto (tgt := 51) k_139_47 rfl (r_iadd k_139_51 rfl
    (r_istore k_139_52 rfl rfl rfl
    (r_iinc k_139_54 rfl rfl rfl rfl
    (r_goto (tgt := 17) k_139_57 rfl (Le.rfl')))))))))))))))))))))
theorem M_139  {x0 : Int32} {x1 : Int32} {x2 : Int32} {σ : pS} {ρ : Nat → Nat → Option Nat} (e : gR σ = ρ) (hL : LayR ρ) : Le
  (bV (pcall 84 [.ref 47, .ref 25] σ) fun σ1 => gd (LayR (gR σ1)) (C_139_17 x0 x1 x2 (ι 0) (ι 0) σ1))
  (pcall 139 [.ref 54, .int x0, .int x1, .int x2] σ) := by
  show Le _ (den 139 0 0 [.ref 54, .int x0, .int x1, .int x2, .retAddr 0, .retAddr 0] [] σ)
  exact r_aload_n k_139_0 rfl rfl
    (r_getR k_139_1 rfl po_139 rfl rfl rfl rfl (gRat e (LayR.at hL (i := 55) rfl))
    (r_aload_n k_139_4 rfl rfl
    (r_getR k_139_5 rfl po_139 rfl rfl rfl rfl (gRat e (LayR.at hL (i := 54) rfl))
    (r_callV (q_virt (rest := []) (as := [.ref 25]) k_139_8 po_139 rfl rfl rfl (rcvO rfl rfl rfl) rfl rfl) (lvq (j := 0) rfl (by decide +kernel)) rfl rfl (fun _ σ1 h1 => r_gd fun L1 => r_iconst k_139_11 rfl rfl
    (r_istore k_139_12 rfl rfl rfl
    (r_iconst k_139_14 rfl rfl
    (r_istore k_139_15 rfl rfl rfl
    (Le.rfl')))))))))
/-! ===== 140 HedgeWants.Ahead.calm ===== -/
theorem k_140_0 : cd 140 0 = some (.aload_n 0, 1) := by decide +kernel
theorem k_140_1 : cd 140 1 = some (.getfield 22, 3) := by decide +kernel
theorem k_140_4 : cd 140 4 = some (.aload_n 0, 1) := by decide +kernel
theorem k_140_5 : cd 140 5 = some (.getfield 18, 3) := by decide +kernel
theorem k_140_8 : cd 140 8 = some (.invokevirtual 25, 3) := by decide +kernel
theorem k_140_11 : cd 140 11 = some (.iconst 0, 1) := by decide +kernel
theorem k_140_12 : cd 140 12 = some (.istore_n 1, 1) := by decide +kernel
theorem k_140_13 : cd 140 13 = some (.iconst 1, 1) := by decide +kernel
theorem k_140_14 : cd 140 14 = some (.istore_n 2, 1) := by decide +kernel
theorem k_140_15 : cd 140 15 = some (.iload_n 2, 1) := by decide +kernel
theorem k_140_16 : cd 140 16 = some (.bipush 60, 2) := by decide +kernel
theorem k_140_18 : cd 140 18 = some (.if_icmp .gt 26, 3) := by decide +kernel
theorem k_140_21 : cd 140 21 = some (.aload_n 0, 1) := by decide +kernel
theorem k_140_22 : cd 140 22 = some (.getfield 22, 3) := by decide +kernel
theorem k_140_25 : cd 140 25 = some (.iconst 0, 1) := by decide +kernel
theorem k_140_26 : cd 140 26 = some (.invokevirtual 35, 3) := by decide +kernel
theorem k_140_29 : cd 140 29 = some (.ifCond .le 7, 3) := by decide +kernel
theorem k_140_32 : cd 140 32 = some (.iload_n 2, 1) := by decide +kernel
theorem k_140_33 : cd 140 33 = some (.goto 4, 3) := by decide +kernel
theorem k_140_36 : cd 140 36 = some (.iload_n 1, 1) := by decide +kernel
theorem k_140_37 : cd 140 37 = some (.istore_n 1, 1) := by decide +kernel
theorem k_140_38 : cd 140 38 = some (.iinc 2 1, 3) := by decide +kernel
theorem k_140_41 : cd 140 41 = some (.goto (-26), 3) := by decide +kernel
theorem k_140_44 : cd 140 44 = some (.iload_n 1, 1) := by decide +kernel
theorem k_140_45 : cd 140 45 = some (.bipush 60, 2) := by decide +kernel
theorem k_140_47 : cd 140 47 = some (.if_icmp .ne 7, 3) := by decide +kernel
theorem k_140_50 : cd 140 50 = some (.iconst (-1), 1) := by decide +kernel
theorem k_140_51 : cd 140 51 = some (.goto 4, 3) := by decide +kernel
theorem k_140_54 : cd 140 54 = some (.iload_n 1, 1) := by decide +kernel
theorem k_140_55 : cd 140 55 = some (.ireturn, 1) := by decide +kernel
theorem po_140 : po 140 = 1 := rfl
noncomputable def C_140_15  (x1 : Int32) (x2 : Int32) (σ : pS) : Option pZ := den 140 0 15 [.ref 54, .int x1, .int x2] [] σ
theorem T_140_15  {x1 : Int32} {x2 : Int32}  {σ : pS} {ρ : Nat → Nat → Option Nat} (e : gR σ = ρ) (hL : LayR ρ) : Le
  (if (ι 60) < x2 then if ¬ x1 = (ι 60) then some (1, .int x1, σ) else some (1, .int (ν 1), σ) else bI (pcall 71 [.ref 47, .int (ι 0)] σ) fun r1 σ1 => if r1 ≤ (ι 0) then C_140_15 x1 (x2 + (ι 1)) σ1 else C_140_15 x2 (x2 + (ι 1)) σ1)
  (C_140_15  x1 x2 σ) := by
  unfold C_140_15
  exact r_iload_n k_140_15 rfl rfl
    (r_bipush k_140_16 rfl rfl
    (r_icmp (tgt := 44) k_140_18 rfl rfl cop_gt
    (r_iload_n k_140_44 rfl rfl
    (r_bipush k_140_45 rfl rfl
    (r_icmp (tgt := 54) k_140_47 rfl rfl cop_ne
    (r_iload_n k_140_54 rfl rfl
    (r_ret k_140_55 rfl rfl))
    (r_iconst k_140_50 rfl rfl
    (r_goto (tgt := 55) k_140_51 rfl (r_ret k_140_55 rfl rfl))))))
    (r_aload_n k_140_21 rfl rfl
    (r_getR k_140_22 rfl po_140 rfl rfl rfl rfl (gRat e (LayR.at hL (i := 55) rfl))
    (r_iconst k_140_25 rfl rfl
    (r_callI (q_virt (rest := []) (as := [.int (ι 0)]) k_140_26 po_140 rfl rfl rfl (rcvO rfl rfl rfl) rfl rfl) (lvq (j := 0) rfl (by decide +kernel)) rfl rfl (fun r1 σ1 h1 => r_if (tgt := 36) k_140_29 rfl rfl cop_le
    (r_iload_n k_140_36 rfl rfl
    (r_istore_n k_140_37 rfl rfl rfl
    (r_iinc k_140_38 rfl rfl rfl rfl
    (r_goto (tgt := 15) k_140_41 rfl (Le.rfl')))))
    (r_iload_n k_140_32 rfl rfl
    (r_goto (tgt := 37) k_140_33 rfl (r_istore_n k_140_37 rfl rfl rfl
    (r_iinc k_140_38 rfl rfl rfl rfl
    (r_goto (tgt := 15) k_140_41 rfl (Le.rfl')))))))))))))
theorem M_140   {σ : pS} {ρ : Nat → Nat → Option Nat} (e : gR σ = ρ) (hL : LayR ρ) : Le
  (bV (pcall 84 [.ref 47, .ref 25] σ) fun σ1 => gd (LayR (gR σ1)) (C_140_15 (ι 0) (ι 1) σ1))
  (pcall 140 [.ref 54] σ) := by
  show Le _ (den 140 0 0 [.ref 54, .retAddr 0, .retAddr 0] [] σ)
  exact r_aload_n k_140_0 rfl rfl
    (r_getR k_140_1 rfl po_140 rfl rfl rfl rfl (gRat e (LayR.at hL (i := 55) rfl))
    (r_aload_n k_140_4 rfl rfl
    (r_getR k_140_5 rfl po_140 rfl rfl rfl rfl (gRat e (LayR.at hL (i := 54) rfl))
    (r_callV (q_virt (rest := []) (as := [.ref 25]) k_140_8 po_140 rfl rfl rfl (rcvO rfl rfl rfl) rfl rfl) (lvq (j := 0) rfl (by decide +kernel)) rfl rfl (fun _ σ1 h1 => r_gd fun L1 => r_iconst k_140_11 rfl rfl
    (r_istore_n k_140_12 rfl rfl rfl
    (r_iconst k_140_13 rfl rfl
    (r_istore_n k_140_14 rfl rfl rfl
    (Le.rfl')))))))))
/-! ===== 141 HedgeWants.Ahead.round ===== -/
theorem k_141_0 : cd 141 0 = some (.aload_n 0, 1) := by decide +kernel
theorem k_141_1 : cd 141 1 = some (.getfield 22, 3) := by decide +kernel
theorem k_141_4 : cd 141 4 = some (.aload_n 0, 1) := by decide +kernel
theorem k_141_5 : cd 141 5 = some (.getfield 18, 3) := by decide +kernel
theorem k_141_8 : cd 141 8 = some (.invokevirtual 25, 3) := by decide +kernel
theorem k_141_11 : cd 141 11 = some (.iconst 0, 1) := by decide +kernel
theorem k_141_12 : cd 141 12 = some (.istore_n 1, 1) := by decide +kernel
theorem k_141_13 : cd 141 13 = some (.iconst 1, 1) := by decide +kernel
theorem k_141_14 : cd 141 14 = some (.istore_n 2, 1) := by decide +kernel
theorem k_141_15 : cd 141 15 = some (.iload_n 2, 1) := by decide +kernel
theorem k_141_16 : cd 141 16 = some (.bipush 60, 2) := by decide +kernel
theorem k_141_18 : cd 141 18 = some (.if_icmp .gt 54, 3) := by decide +kernel
theorem k_141_21 : cd 141 21 = some (.aload_n 0, 1) := by decide +kernel
theorem k_141_22 : cd 141 22 = some (.getfield 22, 3) := by decide +kernel
theorem k_141_25 : cd 141 25 = some (.iconst 0, 1) := by decide +kernel
theorem k_141_26 : cd 141 26 = some (.invokevirtual 35, 3) := by decide +kernel
theorem k_141_29 : cd 141 29 = some (.pop, 1) := by decide +kernel
theorem k_141_30 : cd 141 30 = some (.aload_n 0, 1) := by decide +kernel
theorem k_141_31 : cd 141 31 = some (.getfield 22, 3) := by decide +kernel
theorem k_141_34 : cd 141 34 = some (.aload_n 0, 1) := by decide +kernel
theorem k_141_35 : cd 141 35 = some (.getfield 18, 3) := by decide +kernel
theorem k_141_38 : cd 141 38 = some (.invokevirtual 58, 3) := by decide +kernel
theorem k_141_41 : cd 141 41 = some (.istore_n 3, 1) := by decide +kernel
theorem k_141_42 : cd 141 42 = some (.iload_n 3, 1) := by decide +kernel
theorem k_141_43 : cd 141 43 = some (.ifCond .eq 9, 3) := by decide +kernel
theorem k_141_46 : cd 141 46 = some (.iload_n 1, 1) := by decide +kernel
theorem k_141_47 : cd 141 47 = some (.ifCond .eq 5, 3) := by decide +kernel
theorem k_141_50 : cd 141 50 = some (.iload_n 2, 1) := by decide +kernel
theorem k_141_51 : cd 141 51 = some (.ireturn, 1) := by decide +kernel
theorem k_141_52 : cd 141 52 = some (.iload_n 1, 1) := by decide +kernel
theorem k_141_53 : cd 141 53 = some (.ifCond .ne 7, 3) := by decide +kernel
theorem k_141_56 : cd 141 56 = some (.iload_n 3, 1) := by decide +kernel
theorem k_141_57 : cd 141 57 = some (.ifCond .ne 7, 3) := by decide +kernel
theorem k_141_60 : cd 141 60 = some (.iconst 1, 1) := by decide +kernel
theorem k_141_61 : cd 141 61 = some (.goto 4, 3) := by decide +kernel
theorem k_141_64 : cd 141 64 = some (.iconst 0, 1) := by decide +kernel
theorem k_141_65 : cd 141 65 = some (.istore_n 1, 1) := by decide +kernel
theorem k_141_66 : cd 141 66 = some (.iinc 2 1, 3) := by decide +kernel
theorem k_141_69 : cd 141 69 = some (.goto (-54), 3) := by decide +kernel
theorem k_141_72 : cd 141 72 = some (.iconst (-1), 1) := by decide +kernel
theorem k_141_73 : cd 141 73 = some (.ireturn, 1) := by decide +kernel
theorem po_141 : po 141 = 1 := rfl
noncomputable def C_141_15  (x1 : Int32) (x2 : Int32) (v3 : Value) (σ : pS) : Option pZ := den 141 0 15 [.ref 54, .int x1, .int x2, v3] [] σ
theorem T_141_15  {x1 : Int32} {x2 : Int32} {v3 : Value}  {σ : pS} {ρ : Nat → Nat → Option Nat} (e : gR σ = ρ) (hL : LayR ρ) : Le
  (if (ι 60) < x2 then some (1, .int (ν 1), σ) else bI (pcall 71 [.ref 47, .int (ι 0)] σ) fun r1 σ1 => bI (pcall 102 [.ref 47, .ref 25] σ1) fun r2 σ2 => if r2 = (ι 0) then if ¬ x1 = (ι 0) then C_141_15 (ι 1) (x2 + (ι 1)) (.int r2) σ2 else if ¬ r2 = (ι 0) then C_141_15 (ι 0) (x2 + (ι 1)) (.int r2) σ2 else C_141_15 (ι 1) (x2 + (ι 1)) (.int r2) σ2 else if x1 = (ι 0) then if ¬ x1 = (ι 0) then C_141_15 (ι 1) (x2 + (ι 1)) (.int r2) σ2 else if ¬ r2 = (ι 0) then C_141_15 (ι 0) (x2 + (ι 1)) (.int r2) σ2 else C_141_15 (ι 1) (x2 + (ι 1)) (.int r2) σ2 else some (1, .int x2, σ2))
  (C_141_15  x1 x2 v3 σ) := by
  unfold C_141_15
  exact r_iload_n k_141_15 rfl rfl
    (r_bipush k_141_16 rfl rfl
    (r_icmp (tgt := 72) k_141_18 rfl rfl cop_gt
    (r_iconst k_141_72 rfl rfl
    (r_ret k_141_73 rfl rfl))
    (r_aload_n k_141_21 rfl rfl
    (r_getR k_141_22 rfl po_141 rfl rfl rfl rfl (gRat e (LayR.at hL (i := 55) rfl))
    (r_iconst k_141_25 rfl rfl
    (r_callI (q_virt (rest := []) (as := [.int (ι 0)]) k_141_26 po_141 rfl rfl rfl (rcvO rfl rfl rfl) rfl rfl) (lvq (j := 0) rfl (by decide +kernel)) rfl rfl (fun r1 σ1 h1 => r_pop k_141_29 rfl rfl
    (r_aload_n k_141_30 rfl rfl
    (r_getR k_141_31 rfl po_141 rfl rfl rfl rfl (gRat (eC rfl h1 e) (LayR.at hL (i := 55) rfl))
    (r_aload_n k_141_34 rfl rfl
    (r_getR k_141_35 rfl po_141 rfl rfl rfl rfl (gRat (eC rfl h1 e) (LayR.at hL (i := 54) rfl))
    (r_callI (q_virt (rest := []) (as := [.ref 25]) k_141_38 po_141 rfl rfl rfl (rcvO rfl rfl rfl) rfl rfl) (lvq (j := 0) rfl (by decide +kernel)) rfl rfl (fun r2 σ2 h2 => r_istore_n k_141_41 rfl rfl rfl
    (r_iload_n k_141_42 rfl rfl
    (r_if (tgt := 52) k_141_43 rfl rfl cop_eq
    (r_iload_n k_141_52 rfl rfl
    (r_if (tgt := 60) k_141_53 rfl rfl cop_ne
    (r_iconst k_141_60 rfl rfl
    (r_goto (tgt := 65) k_141_61 rfl (r_istore_n k_141_65 rfl rfl rfl
    (r_iinc k_141_66 rfl rfl rfl rfl
    (r_goto (tgt := 15) k_141_69 rfl (Le.rfl'))))))
    (r_iload_n k_141_56 rfl rfl
    (r_if (tgt := 64) k_141_57 rfl rfl cop_ne
    (r_iconst k_141_64 rfl rfl
    (r_istore_n k_141_65 rfl rfl rfl
    (r_iinc k_141_66 rfl rfl rfl rfl
    (r_goto (tgt := 15) k_141_69 rfl (Le.rfl')))))
    (r_iconst k_141_60 rfl rfl
    (r_goto (tgt := 65) k_141_61 rfl (r_istore_n k_141_65 rfl rfl rfl
    (r_iinc k_141_66 rfl rfl rfl rfl
    (r_goto (tgt := 15) k_141_69 rfl (Le.rfl'))))))))))
    (r_iload_n k_141_46 rfl rfl
    (r_if (tgt := 52) k_141_47 rfl rfl cop_eq
    (r_iload_n k_141_52 rfl rfl
    (r_if (tgt := 60) k_141_53 rfl rfl cop_ne
    (r_iconst k_141_60 rfl rfl
    (r_goto (tgt := 65) k_141_61 rfl (r_istore_n k_141_65 rfl rfl rfl
    (r_iinc k_141_66 rfl rfl rfl rfl
    (r_goto (tgt := 15) k_141_69 rfl (Le.rfl'))))))
    (r_iload_n k_141_56 rfl rfl
    (r_if (tgt := 64) k_141_57 rfl rfl cop_ne
    (r_iconst k_141_64 rfl rfl
    (r_istore_n k_141_65 rfl rfl rfl
    (r_iinc k_141_66 rfl rfl rfl rfl
    (r_goto (tgt := 15) k_141_69 rfl (Le.rfl')))))
    (r_iconst k_141_60 rfl rfl
    (r_goto (tgt := 65) k_141_61 rfl (r_istore_n k_141_65 rfl rfl rfl
    (r_iinc k_141_66 rfl rfl rfl rfl
    (r_goto (tgt := 15) k_141_69 rfl (Le.rfl'))))))))))
    (r_iload_n k_141_50 rfl rfl
    (r_ret k_141_51 rfl rfl)))))))))))))))))))
theorem M_141   {σ : pS} {ρ : Nat → Nat → Option Nat} (e : gR σ = ρ) (hL : LayR ρ) : Le
  (bV (pcall 84 [.ref 47, .ref 25] σ) fun σ1 => gd (LayR (gR σ1)) (C_141_15 (ι 0) (ι 1) (.retAddr 0) σ1))
  (pcall 141 [.ref 54] σ) := by
  show Le _ (den 141 0 0 [.ref 54, .retAddr 0, .retAddr 0, .retAddr 0] [] σ)
  exact r_aload_n k_141_0 rfl rfl
    (r_getR k_141_1 rfl po_141 rfl rfl rfl rfl (gRat e (LayR.at hL (i := 55) rfl))
    (r_aload_n k_141_4 rfl rfl
    (r_getR k_141_5 rfl po_141 rfl rfl rfl rfl (gRat e (LayR.at hL (i := 54) rfl))
    (r_callV (q_virt (rest := []) (as := [.ref 25]) k_141_8 po_141 rfl rfl rfl (rcvO rfl rfl rfl) rfl rfl) (lvq (j := 0) rfl (by decide +kernel)) rfl rfl (fun _ σ1 h1 => r_gd fun L1 => r_iconst k_141_11 rfl rfl
    (r_istore_n k_141_12 rfl rfl rfl
    (r_iconst k_141_13 rfl rfl
    (r_istore_n k_141_14 rfl rfl rfl
    (Le.rfl')))))))))
/-! ===== 142 HedgeWants.Ahead.bestToAsk ===== -/
theorem k_142_0 : cd 142 0 = some (.iconst (-1), 1) := by decide +kernel
theorem k_142_1 : cd 142 1 = some (.istore_n 3, 1) := by decide +kernel
theorem k_142_2 : cd 142 2 = some (.aload_n 0, 1) := by decide +kernel
theorem k_142_3 : cd 142 3 = some (.getfield 22, 3) := by decide +kernel
theorem k_142_6 : cd 142 6 = some (.aload_n 0, 1) := by decide +kernel
theorem k_142_7 : cd 142 7 = some (.getfield 18, 3) := by decide +kernel
theorem k_142_10 : cd 142 10 = some (.invokevirtual 25, 3) := by decide +kernel
theorem k_142_13 : cd 142 13 = some (.aload_n 0, 1) := by decide +kernel
theorem k_142_14 : cd 142 14 = some (.iload_n 2, 1) := by decide +kernel
theorem k_142_15 : cd 142 15 = some (.invokevirtual 31, 3) := by decide +kernel
theorem k_142_18 : cd 142 18 = some (.aload_n 0, 1) := by decide +kernel
theorem k_142_19 : cd 142 19 = some (.getfield 22, 3) := by decide +kernel
theorem k_142_22 : cd 142 22 = some (.iload_n 1, 1) := by decide +kernel
theorem k_142_23 : cd 142 23 = some (.invokevirtual 62, 3) := by decide +kernel
theorem k_142_26 : cd 142 26 = some (.istore 4, 2) := by decide +kernel
theorem k_142_28 : cd 142 28 = some (.iconst 0, 1) := by decide +kernel
theorem k_142_29 : cd 142 29 = some (.istore 5, 2) := by decide +kernel
theorem k_142_31 : cd 142 31 = some (.iload 5, 2) := by decide +kernel
theorem k_142_33 : cd 142 33 = some (.aload_n 0, 1) := by decide +kernel
theorem k_142_34 : cd 142 34 = some (.getfield 18, 3) := by decide +kernel
theorem k_142_37 : cd 142 37 = some (.invokevirtual 65, 3) := by decide +kernel
theorem k_142_40 : cd 142 40 = some (.if_icmp .ge 91, 3) := by decide +kernel
theorem k_142_43 : cd 142 43 = some (.aload_n 0, 1) := by decide +kernel
theorem k_142_44 : cd 142 44 = some (.getfield 18, 3) := by decide +kernel
theorem k_142_47 : cd 142 47 = some (.iload 5, 2) := by decide +kernel
theorem k_142_49 : cd 142 49 = some (.iload_n 1, 1) := by decide +kernel
theorem k_142_50 : cd 142 50 = some (.invokevirtual 69, 3) := by decide +kernel
theorem k_142_53 : cd 142 53 = some (.ifCond .eq 72, 3) := by decide +kernel
theorem k_142_56 : cd 142 56 = some (.aload_n 0, 1) := by decide +kernel
theorem k_142_57 : cd 142 57 = some (.getfield 22, 3) := by decide +kernel
theorem k_142_60 : cd 142 60 = some (.aload_n 0, 1) := by decide +kernel
theorem k_142_61 : cd 142 61 = some (.getfield 18, 3) := by decide +kernel
theorem k_142_64 : cd 142 64 = some (.invokevirtual 25, 3) := by decide +kernel
theorem k_142_67 : cd 142 67 = some (.aload_n 0, 1) := by decide +kernel
theorem k_142_68 : cd 142 68 = some (.getfield 22, 3) := by decide +kernel
theorem k_142_71 : cd 142 71 = some (.iload 5, 2) := by decide +kernel
theorem k_142_73 : cd 142 73 = some (.iload_n 1, 1) := by decide +kernel
theorem k_142_74 : cd 142 74 = some (.invokevirtual 73, 3) := by decide +kernel
theorem k_142_77 : cd 142 77 = some (.aload_n 0, 1) := by decide +kernel
theorem k_142_78 : cd 142 78 = some (.getfield 22, 3) := by decide +kernel
theorem k_142_81 : cd 142 81 = some (.iload 5, 2) := by decide +kernel
theorem k_142_83 : cd 142 83 = some (.iconst 0, 1) := by decide +kernel
theorem k_142_84 : cd 142 84 = some (.invokevirtual 42, 3) := by decide +kernel
theorem k_142_87 : cd 142 87 = some (.aload_n 0, 1) := by decide +kernel
theorem k_142_88 : cd 142 88 = some (.iload_n 2, 1) := by decide +kernel
theorem k_142_89 : cd 142 89 = some (.invokevirtual 31, 3) := by decide +kernel
theorem k_142_92 : cd 142 92 = some (.aload_n 0, 1) := by decide +kernel
theorem k_142_93 : cd 142 93 = some (.getfield 22, 3) := by decide +kernel
theorem k_142_96 : cd 142 96 = some (.iload_n 1, 1) := by decide +kernel
theorem k_142_97 : cd 142 97 = some (.invokevirtual 62, 3) := by decide +kernel
theorem k_142_100 : cd 142 100 = some (.istore 6, 2) := by decide +kernel
theorem k_142_102 : cd 142 102 = some (.iload 6, 2) := by decide +kernel
theorem k_142_104 : cd 142 104 = some (.iload 4, 2) := by decide +kernel
theorem k_142_106 : cd 142 106 = some (.if_icmp .le 8, 3) := by decide +kernel
theorem k_142_109 : cd 142 109 = some (.iload 5, 2) := by decide +kernel
theorem k_142_111 : cd 142 111 = some (.goto 4, 3) := by decide +kernel
theorem k_142_114 : cd 142 114 = some (.iload_n 3, 1) := by decide +kernel
theorem k_142_115 : cd 142 115 = some (.istore_n 3, 1) := by decide +kernel
theorem k_142_116 : cd 142 116 = some (.iload 4, 2) := by decide +kernel
theorem k_142_118 : cd 142 118 = some (.iload 6, 2) := by decide +kernel
theorem k_142_120 : cd 142 120 = some (.invokestatic 76, 3) := by decide +kernel
theorem k_142_123 : cd 142 123 = some (.istore 4, 2) := by decide +kernel
theorem k_142_125 : cd 142 125 = some (.iinc 5 1, 3) := by decide +kernel
theorem k_142_128 : cd 142 128 = some (.goto (-97), 3) := by decide +kernel
theorem k_142_131 : cd 142 131 = some (.iload_n 3, 1) := by decide +kernel
theorem k_142_132 : cd 142 132 = some (.ireturn, 1) := by decide +kernel
theorem po_142 : po 142 = 1 := rfl
noncomputable def C_142_31  (x1 : Int32) (x2 : Int32) (x3 : Int32) (x4 : Int32) (x5 : Int32) (v6 : Value) (σ : pS) : Option pZ := den 142 0 31 [.ref 54, .int x1, .int x2, .int x3, .int x4, .int x5, v6] [] σ
theorem T_142_31  {x1 : Int32} {x2 : Int32} {x3 : Int32} {x4 : Int32} {x5 : Int32} {v6 : Value}  {σ : pS} {ρ : Nat → Nat → Option Nat} (e : gR σ = ρ) (hL : LayR ρ) : Le
  (bI (pcall 87 [.ref 25] σ) fun r1 σ1 => if r1 ≤ x5 then some (1, .int x3, σ1) else bI (pcall 77 [.ref 25, .int x5, .int x1] σ1) fun r2 σ2 => if r2 = (ι 0) then C_142_31 x1 x2 x3 x4 (x5 + (ι 1)) v6 σ2 else bV (pcall 84 [.ref 47, .ref 25] σ2) fun σ3 => gd (LayR (gR σ3)) (bV (pcall 80 [.ref 47, .int x5, .int x1] σ3) fun σ4 => bV (pcall 81 [.ref 47, .int x5, .int (ι 0)] σ4) fun σ5 => bV (pcall 136 [.ref 54, .int x2] σ5) fun σ6 => bI (pcall 90 [.ref 47, .int x1] σ6) fun r7 σ7 => if r7 ≤ x4 then C_142_31 x1 x2 x3 (imax x4 r7) (x5 + (ι 1)) (.int r7) σ7 else C_142_31 x1 x2 x5 (imax x4 r7) (x5 + (ι 1)) (.int r7) σ7))
  (C_142_31  x1 x2 x3 x4 x5 v6 σ) := by
  unfold C_142_31
  exact r_iload k_142_31 rfl rfl
    (r_aload_n k_142_33 rfl rfl
    (r_getR k_142_34 rfl po_142 rfl rfl rfl rfl (gRat e (LayR.at hL (i := 54) rfl))
    (r_callI (q_virt (rest := [.int x5]) (as := []) k_142_37 po_142 rfl rfl rfl (rcvO rfl rfl rfl) rfl rfl) (lvq (j := 0) rfl (by decide +kernel)) rfl rfl (fun r1 σ1 h1 => r_icmp (tgt := 131) k_142_40 rfl rfl cop_ge
    (r_iload_n k_142_131 rfl rfl
    (r_ret k_142_132 rfl rfl))
    (r_aload_n k_142_43 rfl rfl
    (r_getR k_142_44 rfl po_142 rfl rfl rfl rfl (gRat (eC rfl h1 e) (LayR.at hL (i := 54) rfl))
    (r_iload k_142_47 rfl rfl
    (r_iload_n k_142_49 rfl rfl
    (r_callI (q_virt (rest := []) (as := [.int x5, .int x1]) k_142_50 po_142 rfl rfl rfl (rcvO rfl rfl rfl) rfl rfl) (lvq (j := 0) rfl (by decide +kernel)) rfl rfl (fun r2 σ2 h2 => r_if (tgt := 125) k_142_53 rfl rfl cop_eq
    (r_iinc k_142_125 rfl rfl rfl rfl
    (r_goto (tgt := 31) k_142_128 rfl (Le.rfl')))
    (r_aload_n k_142_56 rfl rfl
    (r_getR k_142_57 rfl po_142 rfl rfl rfl rfl (gRat (eC rfl h2 (eC rfl h1 e)) (LayR.at hL (i := 55) rfl))
    (r_aload_n k_142_60 rfl rfl
    (r_getR k_142_61 rfl po_142 rfl rfl rfl rfl (gRat (eC rfl h2 (eC rfl h1 e)) (LayR.at hL (i := 54) rfl))
    (r_callV (q_virt (rest := []) (as := [.ref 25]) k_142_64 po_142 rfl rfl rfl (rcvO rfl rfl rfl) rfl rfl) (lvq (j := 0) rfl (by decide +kernel)) rfl rfl (fun _ σ3 h3 => r_gd fun L3 => r_aload_n k_142_67 rfl rfl
    (r_getR k_142_68 rfl po_142 rfl rfl rfl rfl (gRat rfl (LayR.at L3 (i := 55) rfl))
    (r_iload k_142_71 rfl rfl
    (r_iload_n k_142_73 rfl rfl
    (r_callV (q_virt (rest := []) (as := [.int x5, .int x1]) k_142_74 po_142 rfl rfl rfl (rcvO rfl rfl rfl) rfl rfl) (lvq (j := 0) rfl (by decide +kernel)) rfl rfl (fun _ σ4 h4 => r_aload_n k_142_77 rfl rfl
    (r_getR k_142_78 rfl po_142 rfl rfl rfl rfl (gRat (eC rfl h4 rfl) (LayR.at L3 (i := 55) rfl))
    (r_iload k_142_81 rfl rfl
    (r_iconst k_142_83 rfl rfl
    (r_callV (q_virt (rest := []) (as := [.int x5, .int (ι 0)]) k_142_84 po_142 rfl rfl rfl (rcvO rfl rfl rfl) rfl rfl) (lvq (j := 0) rfl (by decide +kernel)) rfl rfl (fun _ σ5 h5 => r_aload_n k_142_87 rfl rfl
    (r_iload_n k_142_88 rfl rfl
    (r_callV (q_virt (rest := []) (as := [.int x2]) k_142_89 po_142 rfl rfl rfl (rcvO rfl rfl rfl) rfl rfl) (lvq (j := 0) rfl (by decide +kernel)) rfl rfl (fun _ σ6 h6 => r_aload_n k_142_92 rfl rfl
    (r_getR k_142_93 rfl po_142 rfl rfl rfl rfl (gRat (eC rfl h6 (eC rfl h5 (eC rfl h4 rfl))) (LayR.at L3 (i := 55) rfl))
    (r_iload_n k_142_96 rfl rfl
    (r_callI (q_virt (rest := []) (as := [.int x1]) k_142_97 po_142 rfl rfl rfl (rcvO rfl rfl rfl) rfl rfl) (lvq (j := 0) rfl (by decide +kernel)) rfl rfl (fun r7 σ7 h7 => r_istore k_142_100 rfl rfl rfl
    (r_iload k_142_102 rfl rfl
    (r_iload k_142_104 rfl rfl
    (r_icmp (tgt := 114) k_142_106 rfl rfl cop_le
    (r_iload_n k_142_114 rfl rfl
    (r_istore_n k_142_115 rfl rfl rfl
    (r_iload k_142_116 rfl rfl
    (r_iload k_142_118 rfl rfl
    (r_imax k_142_120 rfl po_142 rfl rfl
    (r_istore k_142_123 rfl rfl rfl
    (r_iinc k_142_125 rfl rfl rfl rfl
    (r_goto (tgt := 31) k_142_128 rfl (Le.rfl')))))))))
    (r_iload k_142_109 rfl rfl
    (r_goto (tgt := 115) k_142_111 rfl (r_istore_n k_142_115 rfl rfl rfl
    (r_iload k_142_116 rfl rfl
    (r_iload k_142_118 rfl rfl
    (r_imax k_142_120 rfl po_142 rfl rfl
    (r_istore k_142_123 rfl rfl rfl
    (r_iinc k_142_125 rfl rfl rfl rfl
    (r_goto (tgt := 31) k_142_128 rfl (Le.rfl'))))))))))))))))))))))))))))))))))))))))))))))
theorem M_142  {x0 : Int32} {x1 : Int32} {σ : pS} {ρ : Nat → Nat → Option Nat} (e : gR σ = ρ) (hL : LayR ρ) : Le
  (bV (pcall 84 [.ref 47, .ref 25] σ) fun σ1 => gd (LayR (gR σ1)) (bV (pcall 136 [.ref 54, .int x1] σ1) fun σ2 => bI (pcall 90 [.ref 47, .int x0] σ2) fun r3 σ3 => C_142_31 x0 x1 (ν 1) r3 (ι 0) (.retAddr 0) σ3))
  (pcall 142 [.ref 54, .int x0, .int x1] σ) := by
  show Le _ (den 142 0 0 [.ref 54, .int x0, .int x1, .retAddr 0, .retAddr 0, .retAddr 0, .retAddr 0] [] σ)
  exact r_iconst k_142_0 rfl rfl
    (r_istore_n k_142_1 rfl rfl rfl
    (r_aload_n k_142_2 rfl rfl
    (r_getR k_142_3 rfl po_142 rfl rfl rfl rfl (gRat e (LayR.at hL (i := 55) rfl))
    (r_aload_n k_142_6 rfl rfl
    (r_getR k_142_7 rfl po_142 rfl rfl rfl rfl (gRat e (LayR.at hL (i := 54) rfl))
    (r_callV (q_virt (rest := []) (as := [.ref 25]) k_142_10 po_142 rfl rfl rfl (rcvO rfl rfl rfl) rfl rfl) (lvq (j := 0) rfl (by decide +kernel)) rfl rfl (fun _ σ1 h1 => r_gd fun L1 => r_aload_n k_142_13 rfl rfl
    (r_iload_n k_142_14 rfl rfl
    (r_callV (q_virt (rest := []) (as := [.int x1]) k_142_15 po_142 rfl rfl rfl (rcvO rfl rfl rfl) rfl rfl) (lvq (j := 0) rfl (by decide +kernel)) rfl rfl (fun _ σ2 h2 => r_aload_n k_142_18 rfl rfl
    (r_getR k_142_19 rfl po_142 rfl rfl rfl rfl (gRat (eC rfl h2 rfl) (LayR.at L1 (i := 55) rfl))
    (r_iload_n k_142_22 rfl rfl
    (r_callI (q_virt (rest := []) (as := [.int x0]) k_142_23 po_142 rfl rfl rfl (rcvO rfl rfl rfl) rfl rfl) (lvq (j := 0) rfl (by decide +kernel)) rfl rfl (fun r3 σ3 h3 => r_istore k_142_26 rfl rfl rfl
    (r_iconst k_142_28 rfl rfl
    (r_istore k_142_29 rfl rfl rfl
    (Le.rfl')))))))))))))))))
/-! ===== 143 HedgeWants.Ahead.bestToGive ===== -/
theorem k_143_0 : cd 143 0 = some (.iconst (-1), 1) := by decide +kernel
theorem k_143_1 : cd 143 1 = some (.istore_n 2, 1) := by decide +kernel
theorem k_143_2 : cd 143 2 = some (.aload_n 0, 1) := by decide +kernel
theorem k_143_3 : cd 143 3 = some (.getfield 22, 3) := by decide +kernel
theorem k_143_6 : cd 143 6 = some (.aload_n 0, 1) := by decide +kernel
theorem k_143_7 : cd 143 7 = some (.getfield 18, 3) := by decide +kernel
theorem k_143_10 : cd 143 10 = some (.invokevirtual 25, 3) := by decide +kernel
theorem k_143_13 : cd 143 13 = some (.aload_n 0, 1) := by decide +kernel
theorem k_143_14 : cd 143 14 = some (.iload_n 1, 1) := by decide +kernel
theorem k_143_15 : cd 143 15 = some (.invokevirtual 49, 3) := by decide +kernel
theorem k_143_18 : cd 143 18 = some (.istore_n 3, 1) := by decide +kernel
theorem k_143_19 : cd 143 19 = some (.iconst 0, 1) := by decide +kernel
theorem k_143_20 : cd 143 20 = some (.istore 4, 2) := by decide +kernel
theorem k_143_22 : cd 143 22 = some (.iload 4, 2) := by decide +kernel
theorem k_143_24 : cd 143 24 = some (.aload_n 0, 1) := by decide +kernel
theorem k_143_25 : cd 143 25 = some (.getfield 18, 3) := by decide +kernel
theorem k_143_28 : cd 143 28 = some (.invokevirtual 82, 3) := by decide +kernel
theorem k_143_31 : cd 143 31 = some (.if_icmp .ge 70, 3) := by decide +kernel
theorem k_143_34 : cd 143 34 = some (.iload 4, 2) := by decide +kernel
theorem k_143_36 : cd 143 36 = some (.aload_n 0, 1) := by decide +kernel
theorem k_143_37 : cd 143 37 = some (.getfield 18, 3) := by decide +kernel
theorem k_143_40 : cd 143 40 = some (.iload_n 1, 1) := by decide +kernel
theorem k_143_41 : cd 143 41 = some (.invokevirtual 55, 3) := by decide +kernel
theorem k_143_44 : cd 143 44 = some (.if_icmp .eq 51, 3) := by decide +kernel
theorem k_143_47 : cd 143 47 = some (.aload_n 0, 1) := by decide +kernel
theorem k_143_48 : cd 143 48 = some (.getfield 22, 3) := by decide +kernel
theorem k_143_51 : cd 143 51 = some (.aload_n 0, 1) := by decide +kernel
theorem k_143_52 : cd 143 52 = some (.getfield 18, 3) := by decide +kernel
theorem k_143_55 : cd 143 55 = some (.invokevirtual 25, 3) := by decide +kernel
theorem k_143_58 : cd 143 58 = some (.aload_n 0, 1) := by decide +kernel
theorem k_143_59 : cd 143 59 = some (.getfield 22, 3) := by decide +kernel
theorem k_143_62 : cd 143 62 = some (.iload_n 1, 1) := by decide +kernel
theorem k_143_63 : cd 143 63 = some (.iload 4, 2) := by decide +kernel
theorem k_143_65 : cd 143 65 = some (.invokevirtual 73, 3) := by decide +kernel
theorem k_143_68 : cd 143 68 = some (.aload_n 0, 1) := by decide +kernel
theorem k_143_69 : cd 143 69 = some (.iload_n 1, 1) := by decide +kernel
theorem k_143_70 : cd 143 70 = some (.invokevirtual 49, 3) := by decide +kernel
theorem k_143_73 : cd 143 73 = some (.istore 5, 2) := by decide +kernel
theorem k_143_75 : cd 143 75 = some (.iload 5, 2) := by decide +kernel
theorem k_143_77 : cd 143 77 = some (.iload_n 3, 1) := by decide +kernel
theorem k_143_78 : cd 143 78 = some (.if_icmp .ge 8, 3) := by decide +kernel
theorem k_143_81 : cd 143 81 = some (.iload 4, 2) := by decide +kernel
theorem k_143_83 : cd 143 83 = some (.goto 4, 3) := by decide +kernel
theorem k_143_86 : cd 143 86 = some (.iload_n 2, 1) := by decide +kernel
theorem k_143_87 : cd 143 87 = some (.istore_n 2, 1) := by decide +kernel
theorem k_143_88 : cd 143 88 = some (.iload_n 3, 1) := by decide +kernel
theorem k_143_89 : cd 143 89 = some (.iload 5, 2) := by decide +kernel
theorem k_143_91 : cd 143 91 = some (.invokestatic 85, 3) := by decide +kernel
theorem k_143_94 : cd 143 94 = some (.istore_n 3, 1) := by decide +kernel
theorem k_143_95 : cd 143 95 = some (.iinc 4 1, 3) := by decide +kernel
theorem k_143_98 : cd 143 98 = some (.goto (-76), 3) := by decide +kernel
theorem k_143_101 : cd 143 101 = some (.iload_n 2, 1) := by decide +kernel
theorem k_143_102 : cd 143 102 = some (.ireturn, 1) := by decide +kernel
theorem po_143 : po 143 = 1 := rfl
noncomputable def C_143_22  (x1 : Int32) (x2 : Int32) (x3 : Int32) (x4 : Int32) (v5 : Value) (σ : pS) : Option pZ := den 143 0 22 [.ref 54, .int x1, .int x2, .int x3, .int x4, v5] [] σ
theorem T_143_22  {x1 : Int32} {x2 : Int32} {x3 : Int32} {x4 : Int32} {v5 : Value}  {σ : pS} {ρ : Nat → Nat → Option Nat} (e : gR σ = ρ) (hL : LayR ρ) : Le
  (bI (pcall 86 [.ref 25] σ) fun r1 σ1 => if r1 ≤ x4 then some (1, .int x2, σ1) else bI (pcall 75 [.ref 25, .int x1] σ1) fun r2 σ2 => if x4 = r2 then C_143_22 x1 x2 x3 (x4 + (ι 1)) v5 σ2 else bV (pcall 84 [.ref 47, .ref 25] σ2) fun σ3 => gd (LayR (gR σ3)) (bV (pcall 80 [.ref 47, .int x1, .int x4] σ3) fun σ4 => bI (pcall 138 [.ref 54, .int x1] σ4) fun r5 σ5 => if x3 ≤ r5 then C_143_22 x1 x2 (imin x3 r5) (x4 + (ι 1)) (.int r5) σ5 else C_143_22 x1 x4 (imin x3 r5) (x4 + (ι 1)) (.int r5) σ5))
  (C_143_22  x1 x2 x3 x4 v5 σ) := by
  unfold C_143_22
  exact r_iload k_143_22 rfl rfl
    (r_aload_n k_143_24 rfl rfl
    (r_getR k_143_25 rfl po_143 rfl rfl rfl rfl (gRat e (LayR.at hL (i := 54) rfl))
    (r_callI (q_virt (rest := [.int x4]) (as := []) k_143_28 po_143 rfl rfl rfl (rcvO rfl rfl rfl) rfl rfl) (lvq (j := 0) rfl (by decide +kernel)) rfl rfl (fun r1 σ1 h1 => r_icmp (tgt := 101) k_143_31 rfl rfl cop_ge
    (r_iload_n k_143_101 rfl rfl
    (r_ret k_143_102 rfl rfl))
    (r_iload k_143_34 rfl rfl
    (r_aload_n k_143_36 rfl rfl
    (r_getR k_143_37 rfl po_143 rfl rfl rfl rfl (gRat (eC rfl h1 e) (LayR.at hL (i := 54) rfl))
    (r_iload_n k_143_40 rfl rfl
    (r_callI (q_virt (rest := [.int x4]) (as := [.int x1]) k_143_41 po_143 rfl rfl rfl (rcvO rfl rfl rfl) rfl rfl) (lvq (j := 0) rfl (by decide +kernel)) rfl rfl (fun r2 σ2 h2 => r_icmp (tgt := 95) k_143_44 rfl rfl cop_eq
    (r_iinc k_143_95 rfl rfl rfl rfl
    (r_goto (tgt := 22) k_143_98 rfl (Le.rfl')))
    (r_aload_n k_143_47 rfl rfl
    (r_getR k_143_48 rfl po_143 rfl rfl rfl rfl (gRat (eC rfl h2 (eC rfl h1 e)) (LayR.at hL (i := 55) rfl))
    (r_aload_n k_143_51 rfl rfl
    (r_getR k_143_52 rfl po_143 rfl rfl rfl rfl (gRat (eC rfl h2 (eC rfl h1 e)) (LayR.at hL (i := 54) rfl))
    (r_callV (q_virt (rest := []) (as := [.ref 25]) k_143_55 po_143 rfl rfl rfl (rcvO rfl rfl rfl) rfl rfl) (lvq (j := 0) rfl (by decide +kernel)) rfl rfl (fun _ σ3 h3 => r_gd fun L3 => r_aload_n k_143_58 rfl rfl
    (r_getR k_143_59 rfl po_143 rfl rfl rfl rfl (gRat rfl (LayR.at L3 (i := 55) rfl))
    (r_iload_n k_143_62 rfl rfl
    (r_iload k_143_63 rfl rfl
    (r_callV (q_virt (rest := []) (as := [.int x1, .int x4]) k_143_65 po_143 rfl rfl rfl (rcvO rfl rfl rfl) rfl rfl) (lvq (j := 0) rfl (by decide +kernel)) rfl rfl (fun _ σ4 h4 => r_aload_n k_143_68 rfl rfl
    (r_iload_n k_143_69 rfl rfl
    (r_callI (q_virt (rest := []) (as := [.int x1]) k_143_70 po_143 rfl rfl rfl (rcvO rfl rfl rfl) rfl rfl) (lvq (j := 0) rfl (by decide +kernel)) rfl rfl (fun r5 σ5 h5 => r_istore k_143_73 rfl rfl rfl
    (r_iload k_143_75 rfl rfl
    (r_iload_n k_143_77 rfl rfl
    (r_icmp (tgt := 86) k_143_78 rfl rfl cop_ge
    (r_iload_n k_143_86 rfl rfl
    (r_istore_n k_143_87 rfl rfl rfl
    (r_iload_n k_143_88 rfl rfl
    (r_iload k_143_89 rfl rfl
    (r_imin k_143_91 rfl po_143 rfl rfl
    (r_istore_n k_143_94 rfl rfl rfl
    (r_iinc k_143_95 rfl rfl rfl rfl
    (r_goto (tgt := 22) k_143_98 rfl (Le.rfl')))))))))
    (r_iload k_143_81 rfl rfl
    (r_goto (tgt := 87) k_143_83 rfl (r_istore_n k_143_87 rfl rfl rfl
    (r_iload_n k_143_88 rfl rfl
    (r_iload k_143_89 rfl rfl
    (r_imin k_143_91 rfl po_143 rfl rfl
    (r_istore_n k_143_94 rfl rfl rfl
    (r_iinc k_143_95 rfl rfl rfl rfl
    (r_goto (tgt := 22) k_143_98 rfl (Le.rfl')))))))))))))))))))))))))))))))))))))
theorem M_143  {x0 : Int32} {σ : pS} {ρ : Nat → Nat → Option Nat} (e : gR σ = ρ) (hL : LayR ρ) : Le
  (bV (pcall 84 [.ref 47, .ref 25] σ) fun σ1 => gd (LayR (gR σ1)) (bI (pcall 138 [.ref 54, .int x0] σ1) fun r2 σ2 => C_143_22 x0 (ν 1) r2 (ι 0) (.retAddr 0) σ2))
  (pcall 143 [.ref 54, .int x0] σ) := by
  show Le _ (den 143 0 0 [.ref 54, .int x0, .retAddr 0, .retAddr 0, .retAddr 0, .retAddr 0] [] σ)
  exact r_iconst k_143_0 rfl rfl
    (r_istore_n k_143_1 rfl rfl rfl
    (r_aload_n k_143_2 rfl rfl
    (r_getR k_143_3 rfl po_143 rfl rfl rfl rfl (gRat e (LayR.at hL (i := 55) rfl))
    (r_aload_n k_143_6 rfl rfl
    (r_getR k_143_7 rfl po_143 rfl rfl rfl rfl (gRat e (LayR.at hL (i := 54) rfl))
    (r_callV (q_virt (rest := []) (as := [.ref 25]) k_143_10 po_143 rfl rfl rfl (rcvO rfl rfl rfl) rfl rfl) (lvq (j := 0) rfl (by decide +kernel)) rfl rfl (fun _ σ1 h1 => r_gd fun L1 => r_aload_n k_143_13 rfl rfl
    (r_iload_n k_143_14 rfl rfl
    (r_callI (q_virt (rest := []) (as := [.int x0]) k_143_15 po_143 rfl rfl rfl (rcvO rfl rfl rfl) rfl rfl) (lvq (j := 0) rfl (by decide +kernel)) rfl rfl (fun r2 σ2 h2 => r_istore_n k_143_18 rfl rfl rfl
    (r_iconst k_143_19 rfl rfl
    (r_istore k_143_20 rfl rfl rfl
    (Le.rfl')))))))))))))
/-! ===== 144 HedgeWants.Ahead.stillOwned ===== -/
theorem k_144_0 : cd 144 0 = some (.iconst 0, 1) := by decide +kernel
theorem k_144_1 : cd 144 1 = some (.istore 4, 2) := by decide +kernel
theorem k_144_3 : cd 144 3 = some (.iconst 0, 1) := by decide +kernel
theorem k_144_4 : cd 144 4 = some (.istore 5, 2) := by decide +kernel
theorem k_144_6 : cd 144 6 = some (.iload 5, 2) := by decide +kernel
theorem k_144_8 : cd 144 8 = some (.iconst 1, 1) := by decide +kernel
theorem k_144_9 : cd 144 9 = some (.iload_n 2, 1) := by decide +kernel
theorem k_144_10 : cd 144 10 = some (.ishl, 1) := by decide +kernel
theorem k_144_11 : cd 144 11 = some (.if_icmp .ge 92, 3) := by decide +kernel
theorem k_144_14 : cd 144 14 = some (.iconst 1, 1) := by decide +kernel
theorem k_144_15 : cd 144 15 = some (.istore 6, 2) := by decide +kernel
theorem k_144_17 : cd 144 17 = some (.iconst 0, 1) := by decide +kernel
theorem k_144_18 : cd 144 18 = some (.istore 7, 2) := by decide +kernel
theorem k_144_20 : cd 144 20 = some (.iload 7, 2) := by decide +kernel
theorem k_144_22 : cd 144 22 = some (.iload_n 2, 1) := by decide +kernel
theorem k_144_23 : cd 144 23 = some (.if_icmp .ge 32, 3) := by decide +kernel
theorem k_144_26 : cd 144 26 = some (.iload 6, 2) := by decide +kernel
theorem k_144_28 : cd 144 28 = some (.iload 5, 2) := by decide +kernel
theorem k_144_30 : cd 144 30 = some (.iload 7, 2) := by decide +kernel
theorem k_144_32 : cd 144 32 = some (.invokestatic 88, 3) := by decide +kernel
theorem k_144_35 : cd 144 35 = some (.ifCond .eq 7, 3) := by decide +kernel
theorem k_144_38 : cd 144 38 = some (.iload_n 3, 1) := by decide +kernel
theorem k_144_39 : cd 144 39 = some (.goto 7, 3) := by decide +kernel
theorem k_144_42 : cd 144 42 = some (.bipush 10, 2) := by decide +kernel
theorem k_144_44 : cd 144 44 = some (.iload_n 3, 1) := by decide +kernel
theorem k_144_45 : cd 144 45 = some (.isub, 1) := by decide +kernel
theorem k_144_46 : cd 144 46 = some (.imul, 1) := by decide +kernel
theorem k_144_47 : cd 144 47 = some (.istore 6, 2) := by decide +kernel
theorem k_144_49 : cd 144 49 = some (.iinc 7 1, 3) := by decide +kernel
theorem k_144_52 : cd 144 52 = some (.goto (-32), 3) := by decide +kernel
theorem k_144_55 : cd 144 55 = some (.iload 6, 2) := by decide +kernel
theorem k_144_57 : cd 144 57 = some (.ifCond .le 40, 3) := by decide +kernel
theorem k_144_60 : cd 144 60 = some (.aload_n 0, 1) := by decide +kernel
theorem k_144_61 : cd 144 61 = some (.iload 5, 2) := by decide +kernel
theorem k_144_63 : cd 144 63 = some (.iload_n 2, 1) := by decide +kernel
theorem k_144_64 : cd 144 64 = some (.invokevirtual 91, 3) := by decide +kernel
theorem k_144_67 : cd 144 67 = some (.iload 4, 2) := by decide +kernel
theorem k_144_69 : cd 144 69 = some (.aload_n 0, 1) := by decide +kernel
theorem k_144_70 : cd 144 70 = some (.getfield 22, 3) := by decide +kernel
theorem k_144_73 : cd 144 73 = some (.iload_n 1, 1) := by decide +kernel
theorem k_144_74 : cd 144 74 = some (.invokevirtual 55, 3) := by decide +kernel
theorem k_144_77 : cd 144 77 = some (.aload_n 0, 1) := by decide +kernel
theorem k_144_78 : cd 144 78 = some (.getfield 18, 3) := by decide +kernel
theorem k_144_81 : cd 144 81 = some (.iload_n 1, 1) := by decide +kernel
theorem k_144_82 : cd 144 82 = some (.invokevirtual 55, 3) := by decide +kernel
theorem k_144_85 : cd 144 85 = some (.if_icmp .ne 8, 3) := by decide +kernel
theorem k_144_88 : cd 144 88 = some (.iload 6, 2) := by decide +kernel
theorem k_144_90 : cd 144 90 = some (.goto 4, 3) := by decide +kernel
theorem k_144_93 : cd 144 93 = some (.iconst 0, 1) := by decide +kernel
theorem k_144_94 : cd 144 94 = some (.iadd, 1) := by decide +kernel
theorem k_144_95 : cd 144 95 = some (.istore 4, 2) := by decide +kernel
theorem k_144_97 : cd 144 97 = some (.iinc 5 1, 3) := by decide +kernel
theorem k_144_100 : cd 144 100 = some (.goto (-94), 3) := by decide +kernel
theorem k_144_103 : cd 144 103 = some (.iload 4, 2) := by decide +kernel
theorem k_144_105 : cd 144 105 = some (.ireturn, 1) := by decide +kernel
theorem po_144 : po 144 = 1 := rfl
noncomputable def C_144_6  (x1 : Int32) (x2 : Int32) (x3 : Int32) (x4 : Int32) (x5 : Int32) (v6 : Value) (v7 : Value) (σ : pS) : Option pZ := den 144 0 6 [.ref 54, .int x1, .int x2, .int x3, .int x4, .int x5, v6, v7] [] σ
noncomputable def C_144_20  (x1 : Int32) (x2 : Int32) (x3 : Int32) (x4 : Int32) (x5 : Int32) (x6 : Int32) (x7 : Int32) (σ : pS) : Option pZ := den 144 0 20 [.ref 54, .int x1, .int x2, .int x3, .int x4, .int x5, .int x6, .int x7] [] σ
theorem T_144_6  {x1 : Int32} {x2 : Int32} {x3 : Int32} {x4 : Int32} {x5 : Int32} {v6 : Value} {v7 : Value}  {σ : pS} {ρ : Nat → Nat → Option Nat} (e : gR σ = ρ) (hL : LayR ρ) : Le
  (if (shl' (ι 1) x2) ≤ x5 then some (1, .int x4, σ) else C_144_20 x1 x2 x3 x4 x5 (ι 1) (ι 0) σ)
  (C_144_6  x1 x2 x3 x4 x5 v6 v7 σ) := by
  unfold C_144_6
  exact r_iload k_144_6 rfl rfl
    (r_iconst k_144_8 rfl rfl
    (r_iload_n k_144_9 rfl rfl
    (r_ishl k_144_10 rfl
    (r_icmp (tgt := 103) k_144_11 rfl rfl cop_ge
    (r_iload k_144_103 rfl rfl
    (r_ret k_144_105 rfl rfl))
    (r_iconst k_144_14 rfl rfl
    (r_istore k_144_15 rfl rfl rfl
    (r_iconst k_144_17 rfl rfl
    (r_istore k_144_18 rfl rfl rfl
    (Le.rfl')))))))))
theorem T_144_20  {x1 : Int32} {x2 : Int32} {x3 : Int32} {x4 : Int32} {x5 : Int32} {x6 : Int32} {x7 : Int32}  {σ : pS} {ρ : Nat → Nat → Option Nat} (e : gR σ = ρ) (hL : LayR ρ) : Le
  (if x2 ≤ x7 then if x6 ≤ (ι 0) then C_144_6 x1 x2 x3 x4 (x5 + (ι 1)) (.int x6) (.int x7) σ else bV (pcall 145 [.ref 54, .int x5, .int x2] σ) fun σ1 => gd (LayR (gR σ1)) (bI (pcall 75 [.ref 47, .int x1] σ1) fun r2 σ2 => bI (pcall 75 [.ref 25, .int x1] σ2) fun r3 σ3 => if ¬ r2 = r3 then C_144_6 x1 x2 x3 (x4 + (ι 0)) (x5 + (ι 1)) (.int x6) (.int x7) σ3 else C_144_6 x1 x2 x3 (x4 + x6) (x5 + (ι 1)) (.int x6) (.int x7) σ3) else bI (pcall 168 [.int x5, .int x7] σ) fun r4 σ4 => if r4 = (ι 0) then C_144_20 x1 x2 x3 x4 x5 (x6 * ((ι 10) - x3)) (x7 + (ι 1)) σ4 else C_144_20 x1 x2 x3 x4 x5 (x6 * x3) (x7 + (ι 1)) σ4)
  (C_144_20  x1 x2 x3 x4 x5 x6 x7 σ) := by
  unfold C_144_20
  exact r_iload k_144_20 rfl rfl
    (r_iload_n k_144_22 rfl rfl
    (r_icmp (tgt := 55) k_144_23 rfl rfl cop_ge
    (r_iload k_144_55 rfl rfl
    (r_if (tgt := 97) k_144_57 rfl rfl cop_le
    (r_iinc k_144_97 rfl rfl rfl rfl
    (r_goto (tgt := 6) k_144_100 rfl (Le.rfl')))
    (r_aload_n k_144_60 rfl rfl
    (r_iload k_144_61 rfl rfl
    (r_iload_n k_144_63 rfl rfl
    (r_callV (q_virt (rest := []) (as := [.int x5, .int x2]) k_144_64 po_144 rfl rfl rfl (rcvO rfl rfl rfl) rfl rfl) (lvq (j := 0) rfl (by decide +kernel)) rfl rfl (fun _ σ1 h1 => r_gd fun L1 => r_iload k_144_67 rfl rfl
    (r_aload_n k_144_69 rfl rfl
    (r_getR k_144_70 rfl po_144 rfl rfl rfl rfl (gRat rfl (LayR.at L1 (i := 55) rfl))
    (r_iload_n k_144_73 rfl rfl
    (r_callI (q_virt (rest := [.int x4]) (as := [.int x1]) k_144_74 po_144 rfl rfl rfl (rcvO rfl rfl rfl) rfl rfl) (lvq (j := 0) rfl (by decide +kernel)) rfl rfl (fun r2 σ2 h2 => r_aload_n k_144_77 rfl rfl
    (r_getR k_144_78 rfl po_144 rfl rfl rfl rfl (gRat (eC rfl h2 rfl) (LayR.at L1 (i := 54) rfl))
    (r_iload_n k_144_81 rfl rfl
    (r_callI (q_virt (rest := [.int r2, .int x4]) (as := [.int x1]) k_144_82 po_144 rfl rfl rfl (rcvO rfl rfl rfl) rfl rfl) (lvq (j := 0) rfl (by decide +kernel)) rfl rfl (fun r3 σ3 h3 => r_icmp (tgt := 93) k_144_85 rfl rfl cop_ne
    (r_iconst k_144_93 rfl rfl
    (r_iadd k_144_94 rfl
    (r_istore k_144_95 rfl rfl rfl
    (r_iinc k_144_97 rfl rfl rfl rfl
    (r_goto (tgt := 6) k_144_100 rfl (Le.rfl'))))))
    (r_iload k_144_88 rfl rfl
    (r_goto (tgt := 94) k_144_90 rfl (r_iadd k_144_94 rfl
    (r_istore k_144_95 rfl rfl rfl
    (r_iinc k_144_97 rfl rfl rfl rfl
    (r_goto (tgt := 6) k_144_100 rfl (Le.rfl')))))))))))))))))))))))
    (r_iload k_144_26 rfl rfl
    (r_iload k_144_28 rfl rfl
    (r_iload k_144_30 rfl rfl
    (r_callI (q_stat (rest := [.int x6]) (av := [.int x5, .int x7]) k_144_32 po_144 rfl (by decide) rfl rfl rfl rfl) (lvq (j := 0) rfl (by decide +kernel)) rfl rfl (fun r4 σ4 h4 => r_if (tgt := 42) k_144_35 rfl rfl cop_eq
    (r_bipush k_144_42 rfl rfl
    (r_iload_n k_144_44 rfl rfl
    (r_isub k_144_45 rfl
    (r_imul k_144_46 rfl
    (r_istore k_144_47 rfl rfl rfl
    (r_iinc k_144_49 rfl rfl rfl rfl
    (r_goto (tgt := 20) k_144_52 rfl (Le.rfl'))))))))
    (r_iload_n k_144_38 rfl rfl
    (r_goto (tgt := 46) k_144_39 rfl (r_imul k_144_46 rfl
    (r_istore k_144_47 rfl rfl rfl
    (r_iinc k_144_49 rfl rfl rfl rfl
    (r_goto (tgt := 20) k_144_52 rfl (Le.rfl'))))))))))))))
theorem M_144  {x0 : Int32} {x1 : Int32} {x2 : Int32} {σ : pS} {ρ : Nat → Nat → Option Nat} (e : gR σ = ρ) (hL : LayR ρ) : Le
  (C_144_6 x0 x1 x2 (ι 0) (ι 0) (.retAddr 0) (.retAddr 0) σ)
  (pcall 144 [.ref 54, .int x0, .int x1, .int x2] σ) := by
  show Le _ (den 144 0 0 [.ref 54, .int x0, .int x1, .int x2, .retAddr 0, .retAddr 0, .retAddr 0, .retAddr 0] [] σ)
  exact r_iconst k_144_0 rfl rfl
    (r_istore k_144_1 rfl rfl rfl
    (r_iconst k_144_3 rfl rfl
    (r_istore k_144_4 rfl rfl rfl
    (Le.rfl'))))
/-! ===== 145 HedgeWants.Ahead.passShyDays ===== -/
theorem k_145_0 : cd 145 0 = some (.aload_n 0, 1) := by decide +kernel
theorem k_145_1 : cd 145 1 = some (.getfield 22, 3) := by decide +kernel
theorem k_145_4 : cd 145 4 = some (.aload_n 0, 1) := by decide +kernel
theorem k_145_5 : cd 145 5 = some (.getfield 18, 3) := by decide +kernel
theorem k_145_8 : cd 145 8 = some (.invokevirtual 25, 3) := by decide +kernel
theorem k_145_11 : cd 145 11 = some (.iconst 0, 1) := by decide +kernel
theorem k_145_12 : cd 145 12 = some (.istore_n 3, 1) := by decide +kernel
theorem k_145_13 : cd 145 13 = some (.iload_n 3, 1) := by decide +kernel
theorem k_145_14 : cd 145 14 = some (.iload_n 2, 1) := by decide +kernel
theorem k_145_15 : cd 145 15 = some (.if_icmp .ge 32, 3) := by decide +kernel
theorem k_145_18 : cd 145 18 = some (.aload_n 0, 1) := by decide +kernel
theorem k_145_19 : cd 145 19 = some (.getfield 22, 3) := by decide +kernel
theorem k_145_22 : cd 145 22 = some (.iload_n 1, 1) := by decide +kernel
theorem k_145_23 : cd 145 23 = some (.iload_n 3, 1) := by decide +kernel
theorem k_145_24 : cd 145 24 = some (.invokestatic 88, 3) := by decide +kernel
theorem k_145_27 : cd 145 27 = some (.ifCond .eq 9, 3) := by decide +kernel
theorem k_145_30 : cd 145 30 = some (.sipush 255, 3) := by decide +kernel
theorem k_145_33 : cd 145 33 = some (.goto 4, 3) := by decide +kernel
theorem k_145_36 : cd 145 36 = some (.iconst 0, 1) := by decide +kernel
theorem k_145_37 : cd 145 37 = some (.invokevirtual 35, 3) := by decide +kernel
theorem k_145_40 : cd 145 40 = some (.pop, 1) := by decide +kernel
theorem k_145_41 : cd 145 41 = some (.iinc 3 1, 3) := by decide +kernel
theorem k_145_44 : cd 145 44 = some (.goto (-31), 3) := by decide +kernel
theorem k_145_47 : cd 145 47 = some (.return_, 1) := by decide +kernel
theorem po_145 : po 145 = 1 := rfl
noncomputable def C_145_13  (x1 : Int32) (x2 : Int32) (x3 : Int32) (σ : pS) : Option pZ := den 145 0 13 [.ref 54, .int x1, .int x2, .int x3] [] σ
theorem T_145_13  {x1 : Int32} {x2 : Int32} {x3 : Int32}  {σ : pS} {ρ : Nat → Nat → Option Nat} (e : gR σ = ρ) (hL : LayR ρ) : Le
  (if x2 ≤ x3 then some (0, .null, σ) else bI (pcall 168 [.int x1, .int x3] σ) fun r1 σ1 => if r1 = (ι 0) then bI (pcall 71 [.ref 47, .int (ι 0)] σ1) fun r2 σ2 => C_145_13 x1 x2 (x3 + (ι 1)) σ2 else bI (pcall 71 [.ref 47, .int (ι 255)] σ1) fun r3 σ3 => C_145_13 x1 x2 (x3 + (ι 1)) σ3)
  (C_145_13  x1 x2 x3 σ) := by
  unfold C_145_13
  exact r_iload_n k_145_13 rfl rfl
    (r_iload_n k_145_14 rfl rfl
    (r_icmp (tgt := 47) k_145_15 rfl rfl cop_ge
    (r_retV k_145_47 rfl)
    (r_aload_n k_145_18 rfl rfl
    (r_getR k_145_19 rfl po_145 rfl rfl rfl rfl (gRat e (LayR.at hL (i := 55) rfl))
    (r_iload_n k_145_22 rfl rfl
    (r_iload_n k_145_23 rfl rfl
    (r_callI (q_stat (rest := [.ref 47]) (av := [.int x1, .int x3]) k_145_24 po_145 rfl (by decide) rfl rfl rfl rfl) (lvq (j := 0) rfl (by decide +kernel)) rfl rfl (fun r1 σ1 h1 => r_if (tgt := 36) k_145_27 rfl rfl cop_eq
    (r_iconst k_145_36 rfl rfl
    (r_callI (q_virt (rest := []) (as := [.int (ι 0)]) k_145_37 po_145 rfl rfl rfl (rcvO rfl rfl rfl) rfl rfl) (lvq (j := 0) rfl (by decide +kernel)) rfl rfl (fun r2 σ2 h2 => r_pop k_145_40 rfl rfl
    (r_iinc k_145_41 rfl rfl rfl rfl
    (r_goto (tgt := 13) k_145_44 rfl (Le.rfl'))))))
    (r_sipush k_145_30 rfl rfl
    (r_goto (tgt := 37) k_145_33 rfl (r_callI (q_virt (rest := []) (as := [.int (ι 255)]) k_145_37 po_145 rfl rfl rfl (rcvO rfl rfl rfl) rfl rfl) (lvq (j := 0) rfl (by decide +kernel)) rfl rfl (fun r3 σ3 h3 => r_pop k_145_40 rfl rfl
    (r_iinc k_145_41 rfl rfl rfl rfl
    (r_goto (tgt := 13) k_145_44 rfl (Le.rfl')))))))))))))))
theorem M_145  {x0 : Int32} {x1 : Int32} {σ : pS} {ρ : Nat → Nat → Option Nat} (e : gR σ = ρ) (hL : LayR ρ) : Le
  (bV (pcall 84 [.ref 47, .ref 25] σ) fun σ1 => gd (LayR (gR σ1)) (C_145_13 x0 x1 (ι 0) σ1))
  (pcall 145 [.ref 54, .int x0, .int x1] σ) := by
  show Le _ (den 145 0 0 [.ref 54, .int x0, .int x1, .retAddr 0] [] σ)
  exact r_aload_n k_145_0 rfl rfl
    (r_getR k_145_1 rfl po_145 rfl rfl rfl rfl (gRat e (LayR.at hL (i := 55) rfl))
    (r_aload_n k_145_4 rfl rfl
    (r_getR k_145_5 rfl po_145 rfl rfl rfl rfl (gRat e (LayR.at hL (i := 54) rfl))
    (r_callV (q_virt (rest := []) (as := [.ref 25]) k_145_8 po_145 rfl rfl rfl (rcvO rfl rfl rfl) rfl rfl) (lvq (j := 0) rfl (by decide +kernel)) rfl rfl (fun _ σ1 h1 => r_gd fun L1 => r_iconst k_145_11 rfl rfl
    (r_istore_n k_145_12 rfl rfl rfl
    (Le.rfl')))))))
/-! ===== 146 HedgeWants.Ahead.play ===== -/
theorem k_146_0 : cd 146 0 = some (.iconst 0, 1) := by decide +kernel
theorem k_146_1 : cd 146 1 = some (.istore_n 3, 1) := by decide +kernel
theorem k_146_2 : cd 146 2 = some (.iload_n 3, 1) := by decide +kernel
theorem k_146_3 : cd 146 3 = some (.aload_n 0, 1) := by decide +kernel
theorem k_146_4 : cd 146 4 = some (.getfield 9, 3) := by decide +kernel
theorem k_146_7 : cd 146 7 = some (.arraylength, 1) := by decide +kernel
theorem k_146_8 : cd 146 8 = some (.if_icmp .ge 143, 3) := by decide +kernel
theorem k_146_11 : cd 146 11 = some (.iload_n 3, 1) := by decide +kernel
theorem k_146_12 : cd 146 12 = some (.aload_n 0, 1) := by decide +kernel
theorem k_146_13 : cd 146 13 = some (.getfield 15, 3) := by decide +kernel
theorem k_146_16 : cd 146 16 = some (.arraylength, 1) := by decide +kernel
theorem k_146_17 : cd 146 17 = some (.if_icmp .ge 134, 3) := by decide +kernel
theorem k_146_20 : cd 146 20 = some (.iload_n 3, 1) := by decide +kernel
theorem k_146_21 : cd 146 21 = some (.iconst 2, 1) := by decide +kernel
theorem k_146_22 : cd 146 22 = some (.if_icmp .lt 7, 3) := by decide +kernel
theorem k_146_25 : cd 146 25 = some (.iconst 1, 1) := by decide +kernel
theorem k_146_26 : cd 146 26 = some (.goto 4, 3) := by decide +kernel
theorem k_146_29 : cd 146 29 = some (.iconst 0, 1) := by decide +kernel
theorem k_146_30 : cd 146 30 = some (.istore 4, 2) := by decide +kernel
theorem k_146_32 : cd 146 32 = some (.iload_n 3, 1) := by decide +kernel
theorem k_146_33 : cd 146 33 = some (.iconst 2, 1) := by decide +kernel
theorem k_146_34 : cd 146 34 = some (.irem, 1) := by decide +kernel
theorem k_146_35 : cd 146 35 = some (.iconst 1, 1) := by decide +kernel
theorem k_146_36 : cd 146 36 = some (.if_icmp .ne 7, 3) := by decide +kernel
theorem k_146_39 : cd 146 39 = some (.iconst 1, 1) := by decide +kernel
theorem k_146_40 : cd 146 40 = some (.goto 4, 3) := by decide +kernel
theorem k_146_43 : cd 146 43 = some (.iconst 0, 1) := by decide +kernel
theorem k_146_44 : cd 146 44 = some (.istore 5, 2) := by decide +kernel
theorem k_146_46 : cd 146 46 = some (.aload_n 0, 1) := by decide +kernel
theorem k_146_47 : cd 146 47 = some (.getfield 22, 3) := by decide +kernel
theorem k_146_50 : cd 146 50 = some (.aload_n 0, 1) := by decide +kernel
theorem k_146_51 : cd 146 51 = some (.getfield 18, 3) := by decide +kernel
theorem k_146_54 : cd 146 54 = some (.invokevirtual 25, 3) := by decide +kernel
theorem k_146_57 : cd 146 57 = some (.aload_n 0, 1) := by decide +kernel
theorem k_146_58 : cd 146 58 = some (.getfield 22, 3) := by decide +kernel
theorem k_146_61 : cd 146 61 = some (.iload 4, 2) := by decide +kernel
theorem k_146_63 : cd 146 63 = some (.ifCond .eq 9, 3) := by decide +kernel
theorem k_146_66 : cd 146 66 = some (.iconst 1, 1) := by decide +kernel
theorem k_146_67 : cd 146 67 = some (.iload_n 1, 1) := by decide +kernel
theorem k_146_68 : cd 146 68 = some (.ishl, 1) := by decide +kernel
theorem k_146_69 : cd 146 69 = some (.goto 4, 3) := by decide +kernel
theorem k_146_72 : cd 146 72 = some (.iconst 0, 1) := by decide +kernel
theorem k_146_73 : cd 146 73 = some (.iload 5, 2) := by decide +kernel
theorem k_146_75 : cd 146 75 = some (.ifCond .eq 9, 3) := by decide +kernel
theorem k_146_78 : cd 146 78 = some (.iconst 1, 1) := by decide +kernel
theorem k_146_79 : cd 146 79 = some (.iload_n 2, 1) := by decide +kernel
theorem k_146_80 : cd 146 80 = some (.ishl, 1) := by decide +kernel
theorem k_146_81 : cd 146 81 = some (.goto 4, 3) := by decide +kernel
theorem k_146_84 : cd 146 84 = some (.iconst 0, 1) := by decide +kernel
theorem k_146_85 : cd 146 85 = some (.ior, 1) := by decide +kernel
theorem k_146_86 : cd 146 86 = some (.invokevirtual 35, 3) := by decide +kernel
theorem k_146_89 : cd 146 89 = some (.pop, 1) := by decide +kernel
theorem k_146_90 : cd 146 90 = some (.aload_n 0, 1) := by decide +kernel
theorem k_146_91 : cd 146 91 = some (.iconst 3, 1) := by decide +kernel
theorem k_146_92 : cd 146 92 = some (.invokevirtual 31, 3) := by decide +kernel
theorem k_146_95 : cd 146 95 = some (.aload_n 0, 1) := by decide +kernel
theorem k_146_96 : cd 146 96 = some (.getfield 9, 3) := by decide +kernel
theorem k_146_99 : cd 146 99 = some (.iload_n 3, 1) := by decide +kernel
theorem k_146_100 : cd 146 100 = some (.aload_n 0, 1) := by decide +kernel
theorem k_146_101 : cd 146 101 = some (.getfield 22, 3) := by decide +kernel
theorem k_146_104 : cd 146 104 = some (.iload_n 1, 1) := by decide +kernel
theorem k_146_105 : cd 146 105 = some (.invokevirtual 62, 3) := by decide +kernel
theorem k_146_108 : cd 146 108 = some (.iload 4, 2) := by decide +kernel
theorem k_146_110 : cd 146 110 = some (.ifCond .eq 7, 3) := by decide +kernel
theorem k_146_113 : cd 146 113 = some (.iconst 2, 1) := by decide +kernel
theorem k_146_114 : cd 146 114 = some (.goto 4, 3) := by decide +kernel
theorem k_146_117 : cd 146 117 = some (.iconst 0, 1) := by decide +kernel
theorem k_146_118 : cd 146 118 = some (.iadd, 1) := by decide +kernel
theorem k_146_119 : cd 146 119 = some (.iastore, 1) := by decide +kernel
theorem k_146_120 : cd 146 120 = some (.aload_n 0, 1) := by decide +kernel
theorem k_146_121 : cd 146 121 = some (.getfield 15, 3) := by decide +kernel
theorem k_146_124 : cd 146 124 = some (.iload_n 3, 1) := by decide +kernel
theorem k_146_125 : cd 146 125 = some (.aload_n 0, 1) := by decide +kernel
theorem k_146_126 : cd 146 126 = some (.getfield 22, 3) := by decide +kernel
theorem k_146_129 : cd 146 129 = some (.iload_n 2, 1) := by decide +kernel
theorem k_146_130 : cd 146 130 = some (.invokevirtual 62, 3) := by decide +kernel
theorem k_146_133 : cd 146 133 = some (.iload 5, 2) := by decide +kernel
theorem k_146_135 : cd 146 135 = some (.ifCond .eq 7, 3) := by decide +kernel
theorem k_146_138 : cd 146 138 = some (.iconst 2, 1) := by decide +kernel
theorem k_146_139 : cd 146 139 = some (.goto 4, 3) := by decide +kernel
theorem k_146_142 : cd 146 142 = some (.iconst 0, 1) := by decide +kernel
theorem k_146_143 : cd 146 143 = some (.iadd, 1) := by decide +kernel
theorem k_146_144 : cd 146 144 = some (.iastore, 1) := by decide +kernel
theorem k_146_145 : cd 146 145 = some (.iinc 3 1, 3) := by decide +kernel
theorem k_146_148 : cd 146 148 = some (.goto (-146), 3) := by decide +kernel
theorem k_146_151 : cd 146 151 = some (.return_, 1) := by decide +kernel
theorem po_146 : po 146 = 1 := rfl
noncomputable def C_146_2  (x1 : Int32) (x2 : Int32) (x3 : Int32) (v4 : Value) (v5 : Value) (σ : pS) : Option pZ := den 146 0 2 [.ref 54, .int x1, .int x2, .int x3, v4, v5] [] σ
noncomputable def C_146_44  (x1 : Int32) (x2 : Int32) (x3 : Int32) (x4 : Int32) (v5 : Value) (s0 : Int32) (σ : pS) : Option pZ := den 146 0 44 [.ref 54, .int x1, .int x2, .int x3, .int x4, v5] [.int s0] σ
noncomputable def C_146_85  (x1 : Int32) (x2 : Int32) (x3 : Int32) (x4 : Int32) (x5 : Int32) (s1 : Int32) (s2 : Int32) (σ : pS) : Option pZ := den 146 0 85 [.ref 54, .int x1, .int x2, .int x3, .int x4, .int x5] [.int s2, .int s1, .ref 47] σ
noncomputable def C_146_118  (x1 : Int32) (x2 : Int32) (x3 : Int32) (v4 : Value) (x5 : Int32) (s1 : Int32) (s2 : Int32) (s3 : Int32) (σ : pS) : Option pZ := den 146 0 118 [.ref 54, .int x1, .int x2, .int x3, v4, .int x5] [.int s3, .int s2, .int s1, .ref 55] σ
theorem T_146_2  {x1 : Int32} {x2 : Int32} {x3 : Int32} {v4 : Value} {v5 : Value}  {σ : pS} {ρ : Nat → Nat → Option Nat} (e : gR σ = ρ) (hL : LayR ρ) : Le
  (if (ι 4) ≤ x3 then some (0, .null, σ) else if (ι 4) ≤ x3 then some (0, .null, σ) else if x3 < (ι 2) then if ¬ (irem' x3 (ι 2)) = (ι 1) then C_146_44 x1 x2 x3 (ι 0) v5 (ι 0) σ else C_146_44 x1 x2 x3 (ι 0) v5 (ι 1) σ else if ¬ (irem' x3 (ι 2)) = (ι 1) then C_146_44 x1 x2 x3 (ι 1) v5 (ι 0) σ else C_146_44 x1 x2 x3 (ι 1) v5 (ι 1) σ)
  (C_146_2  x1 x2 x3 v4 v5 σ) := by
  unfold C_146_2
  exact r_iload_n k_146_2 rfl rfl
    (r_aload_n k_146_3 rfl rfl
    (r_getR k_146_4 rfl po_146 rfl rfl rfl rfl (gRat e (LayR.at hL (i := 56) rfl))
    (r_alenI k_146_7 rfl rfl rfl
    (r_icmp (tgt := 151) k_146_8 rfl rfl cop_ge
    (r_retV k_146_151 rfl)
    (r_iload_n k_146_11 rfl rfl
    (r_aload_n k_146_12 rfl rfl
    (r_getR k_146_13 rfl po_146 rfl rfl rfl rfl (gRat e (LayR.at hL (i := 57) rfl))
    (r_alenI k_146_16 rfl rfl rfl
    (r_icmp (tgt := 151) k_146_17 rfl rfl cop_ge
    (r_retV k_146_151 rfl)
    (r_iload_n k_146_20 rfl rfl
    (r_iconst k_146_21 rfl rfl
    (r_icmp (tgt := 29) k_146_22 rfl rfl cop_lt
    (r_iconst k_146_29 rfl rfl
    (r_istore k_146_30 rfl rfl rfl
    (r_iload_n k_146_32 rfl rfl
    (r_iconst k_146_33 rfl rfl
    (r_irem k_146_34 rfl (by decide)
    (r_iconst k_146_35 rfl rfl
    (r_icmp (tgt := 43) k_146_36 rfl rfl cop_ne
    (r_iconst k_146_43 rfl rfl
    (Le.rfl'))
    (r_iconst k_146_39 rfl rfl
    (r_goto (tgt := 44) k_146_40 rfl (Le.rfl'))))))))))
    (r_iconst k_146_25 rfl rfl
    (r_goto (tgt := 30) k_146_26 rfl (r_istore k_146_30 rfl rfl rfl
    (r_iload_n k_146_32 rfl rfl
    (r_iconst k_146_33 rfl rfl
    (r_irem k_146_34 rfl (by decide)
    (r_iconst k_146_35 rfl rfl
    (r_icmp (tgt := 43) k_146_36 rfl rfl cop_ne
    (r_iconst k_146_43 rfl rfl
    (Le.rfl'))
    (r_iconst k_146_39 rfl rfl
    (r_goto (tgt := 44) k_146_40 rfl (Le.rfl')))))))))))))))))))))))
theorem T_146_44  {x1 : Int32} {x2 : Int32} {x3 : Int32} {x4 : Int32} {v5 : Value} {s0 : Int32}  {σ : pS} {ρ : Nat → Nat → Option Nat} (e : gR σ = ρ) (hL : LayR ρ) : Le
  (bV (pcall 84 [.ref 47, .ref 25] σ) fun σ1 => gd (LayR (gR σ1)) (if x4 = (ι 0) then if s0 = (ι 0) then C_146_85 x1 x2 x3 x4 s0 (ι 0) (ι 0) σ1 else C_146_85 x1 x2 x3 x4 s0 (ι 0) (shl' (ι 1) x2) σ1 else if s0 = (ι 0) then C_146_85 x1 x2 x3 x4 s0 (shl' (ι 1) x1) (ι 0) σ1 else C_146_85 x1 x2 x3 x4 s0 (shl' (ι 1) x1) (shl' (ι 1) x2) σ1))
  (C_146_44  x1 x2 x3 x4 v5 s0 σ) := by
  unfold C_146_44
  exact r_istore k_146_44 rfl rfl rfl
    (r_aload_n k_146_46 rfl rfl
    (r_getR k_146_47 rfl po_146 rfl rfl rfl rfl (gRat e (LayR.at hL (i := 55) rfl))
    (r_aload_n k_146_50 rfl rfl
    (r_getR k_146_51 rfl po_146 rfl rfl rfl rfl (gRat e (LayR.at hL (i := 54) rfl))
    (r_callV (q_virt (rest := []) (as := [.ref 25]) k_146_54 po_146 rfl rfl rfl (rcvO rfl rfl rfl) rfl rfl) (lvq (j := 0) rfl (by decide +kernel)) rfl rfl (fun _ σ1 h1 => r_gd fun L1 => r_aload_n k_146_57 rfl rfl
    (r_getR k_146_58 rfl po_146 rfl rfl rfl rfl (gRat rfl (LayR.at L1 (i := 55) rfl))
    (r_iload k_146_61 rfl rfl
    (r_if (tgt := 72) k_146_63 rfl rfl cop_eq
    (r_iconst k_146_72 rfl rfl
    (r_iload k_146_73 rfl rfl
    (r_if (tgt := 84) k_146_75 rfl rfl cop_eq
    (r_iconst k_146_84 rfl rfl
    (Le.rfl'))
    (r_iconst k_146_78 rfl rfl
    (r_iload_n k_146_79 rfl rfl
    (r_ishl k_146_80 rfl
    (r_goto (tgt := 85) k_146_81 rfl (Le.rfl'))))))))
    (r_iconst k_146_66 rfl rfl
    (r_iload_n k_146_67 rfl rfl
    (r_ishl k_146_68 rfl
    (r_goto (tgt := 73) k_146_69 rfl (r_iload k_146_73 rfl rfl
    (r_if (tgt := 84) k_146_75 rfl rfl cop_eq
    (r_iconst k_146_84 rfl rfl
    (Le.rfl'))
    (r_iconst k_146_78 rfl rfl
    (r_iload_n k_146_79 rfl rfl
    (r_ishl k_146_80 rfl
    (r_goto (tgt := 85) k_146_81 rfl (Le.rfl'))))))))))))))))))))
theorem T_146_85  {x1 : Int32} {x2 : Int32} {x3 : Int32} {x4 : Int32} {x5 : Int32} {s1 : Int32} {s2 : Int32}  {σ : pS} {ρ : Nat → Nat → Option Nat} (e : gR σ = ρ) (hL : LayR ρ) : Le
  (bI (pcall 71 [.ref 47, .int (s1 ||| s2)] σ) fun r1 σ1 => bV (pcall 136 [.ref 54, .int (ι 3)] σ1) fun σ2 => bI (pcall 90 [.ref 47, .int x1] σ2) fun r3 σ3 => if x4 = (ι 0) then C_146_118 x1 x2 x3 (.int x4) x5 x3 r3 (ι 0) σ3 else C_146_118 x1 x2 x3 (.int x4) x5 x3 r3 (ι 2) σ3)
  (C_146_85  x1 x2 x3 x4 x5 s1 s2 σ) := by
  unfold C_146_85
  exact r_ior k_146_85 rfl
    (r_callI (q_virt (rest := []) (as := [.int (s1 ||| s2)]) k_146_86 po_146 rfl rfl rfl (rcvO rfl rfl rfl) rfl rfl) (lvq (j := 0) rfl (by decide +kernel)) rfl rfl (fun r1 σ1 h1 => r_pop k_146_89 rfl rfl
    (r_aload_n k_146_90 rfl rfl
    (r_iconst k_146_91 rfl rfl
    (r_callV (q_virt (rest := []) (as := [.int (ι 3)]) k_146_92 po_146 rfl rfl rfl (rcvO rfl rfl rfl) rfl rfl) (lvq (j := 0) rfl (by decide +kernel)) rfl rfl (fun _ σ2 h2 => r_aload_n k_146_95 rfl rfl
    (r_getR k_146_96 rfl po_146 rfl rfl rfl rfl (gRat (eC rfl h2 (eC rfl h1 e)) (LayR.at hL (i := 56) rfl))
    (r_iload_n k_146_99 rfl rfl
    (r_aload_n k_146_100 rfl rfl
    (r_getR k_146_101 rfl po_146 rfl rfl rfl rfl (gRat (eC rfl h2 (eC rfl h1 e)) (LayR.at hL (i := 55) rfl))
    (r_iload_n k_146_104 rfl rfl
    (r_callI (q_virt (rest := [.int x3, .ref 55]) (as := [.int x1]) k_146_105 po_146 rfl rfl rfl (rcvO rfl rfl rfl) rfl rfl) (lvq (j := 0) rfl (by decide +kernel)) rfl rfl (fun r3 σ3 h3 => r_iload k_146_108 rfl rfl
    (r_if (tgt := 117) k_146_110 rfl rfl cop_eq
    (r_iconst k_146_117 rfl rfl
    (Le.rfl'))
    (r_iconst k_146_113 rfl rfl
    (r_goto (tgt := 118) k_146_114 rfl (Le.rfl')))))))))))))))))
theorem T_146_118  {x1 : Int32} {x2 : Int32} {x3 : Int32} {v4 : Value} {x5 : Int32} {s1 : Int32} {s2 : Int32} {s3 : Int32}  {σ : pS} {ρ : Nat → Nat → Option Nat} (e : gR σ = ρ) (hL : LayR ρ) : Le
  (gd (inb s1 4) (bI (pcall 90 [.ref 47, .int x2] (sI σ 55 (ix s1) (s2 + s3))) fun r1 σ1 => if x5 = (ι 0) then gd (inb x3 4) (C_146_2 x1 x2 (x3 + (ι 1)) v4 (.int x5) (sI σ1 56 (ix x3) (r1 + (ι 0)))) else gd (inb x3 4) (C_146_2 x1 x2 (x3 + (ι 1)) v4 (.int x5) (sI σ1 56 (ix x3) (r1 + (ι 2))))))
  (C_146_118  x1 x2 x3 v4 x5 s1 s2 s3 σ) := by
  unfold C_146_118
  exact r_iadd k_146_118 rfl
    (r_gd fun g => r_iast k_146_119 rfl rfl g
    (r_aload_n k_146_120 rfl rfl
    (r_getR k_146_121 rfl po_146 rfl rfl rfl rfl (gRat (eI e) (LayR.at hL (i := 57) rfl))
    (r_iload_n k_146_124 rfl rfl
    (r_aload_n k_146_125 rfl rfl
    (r_getR k_146_126 rfl po_146 rfl rfl rfl rfl (gRat (eI e) (LayR.at hL (i := 55) rfl))
    (r_iload_n k_146_129 rfl rfl
    (r_callI (q_virt (rest := [.int x3, .ref 56]) (as := [.int x2]) k_146_130 po_146 rfl rfl rfl (rcvO rfl rfl rfl) rfl rfl) (lvq (j := 0) rfl (by decide +kernel)) rfl rfl (fun r1 σ1 h1 => r_iload k_146_133 rfl rfl
    (r_if (tgt := 142) k_146_135 rfl rfl cop_eq
    (r_iconst k_146_142 rfl rfl
    (r_iadd k_146_143 rfl
    (r_gd fun g => r_iast k_146_144 rfl rfl g
    (r_iinc k_146_145 rfl rfl rfl rfl
    (r_goto (tgt := 2) k_146_148 rfl (Le.rfl'))))))
    (r_iconst k_146_138 rfl rfl
    (r_goto (tgt := 143) k_146_139 rfl (r_iadd k_146_143 rfl
    (r_gd fun g => r_iast k_146_144 rfl rfl g
    (r_iinc k_146_145 rfl rfl rfl rfl
    (r_goto (tgt := 2) k_146_148 rfl (Le.rfl')))))))))))))))))
theorem M_146  {x0 : Int32} {x1 : Int32} {σ : pS} {ρ : Nat → Nat → Option Nat} (e : gR σ = ρ) (hL : LayR ρ) : Le
  (C_146_2 x0 x1 (ι 0) (.retAddr 0) (.retAddr 0) σ)
  (pcall 146 [.ref 54, .int x0, .int x1] σ) := by
  show Le _ (den 146 0 0 [.ref 54, .int x0, .int x1, .retAddr 0, .retAddr 0, .retAddr 0] [] σ)
  exact r_iconst k_146_0 rfl rfl
    (r_istore_n k_146_1 rfl rfl rfl
    (Le.rfl'))
/-! ===== 147 HedgeWants.Ahead.restingCouples ===== -/
theorem k_147_0 : cd 147 0 = some (.iconst 0, 1) := by decide +kernel
theorem k_147_1 : cd 147 1 = some (.istore_n 1, 1) := by decide +kernel
theorem k_147_2 : cd 147 2 = some (.iconst 0, 1) := by decide +kernel
theorem k_147_3 : cd 147 3 = some (.istore_n 2, 1) := by decide +kernel
theorem k_147_4 : cd 147 4 = some (.iload_n 2, 1) := by decide +kernel
theorem k_147_5 : cd 147 5 = some (.iconst 4, 1) := by decide +kernel
theorem k_147_6 : cd 147 6 = some (.if_icmp .ge 25, 3) := by decide +kernel
theorem k_147_9 : cd 147 9 = some (.iload_n 1, 1) := by decide +kernel
theorem k_147_10 : cd 147 10 = some (.aload_n 0, 1) := by decide +kernel
theorem k_147_11 : cd 147 11 = some (.iload_n 2, 1) := by decide +kernel
theorem k_147_12 : cd 147 12 = some (.invokevirtual 94, 3) := by decide +kernel
theorem k_147_15 : cd 147 15 = some (.ifCond .eq 7, 3) := by decide +kernel
theorem k_147_18 : cd 147 18 = some (.iconst 1, 1) := by decide +kernel
theorem k_147_19 : cd 147 19 = some (.goto 4, 3) := by decide +kernel
theorem k_147_22 : cd 147 22 = some (.iconst 0, 1) := by decide +kernel
theorem k_147_23 : cd 147 23 = some (.iadd, 1) := by decide +kernel
theorem k_147_24 : cd 147 24 = some (.istore_n 1, 1) := by decide +kernel
theorem k_147_25 : cd 147 25 = some (.iinc 2 1, 3) := by decide +kernel
theorem k_147_28 : cd 147 28 = some (.goto (-24), 3) := by decide +kernel
theorem k_147_31 : cd 147 31 = some (.iload_n 1, 1) := by decide +kernel
theorem k_147_32 : cd 147 32 = some (.ireturn, 1) := by decide +kernel
theorem po_147 : po 147 = 1 := rfl
noncomputable def C_147_4  (x1 : Int32) (x2 : Int32) (σ : pS) : Option pZ := den 147 0 4 [.ref 54, .int x1, .int x2] [] σ
theorem T_147_4  {x1 : Int32} {x2 : Int32}  {σ : pS} {ρ : Nat → Nat → Option Nat} (e : gR σ = ρ) (hL : LayR ρ) : Le
  (if (ι 4) ≤ x2 then some (1, .int x1, σ) else bI (pcall 148 [.ref 54, .int x2] σ) fun r1 σ1 => if r1 = (ι 0) then C_147_4 (x1 + (ι 0)) (x2 + (ι 1)) σ1 else C_147_4 (x1 + (ι 1)) (x2 + (ι 1)) σ1)
  (C_147_4  x1 x2 σ) := by
  unfold C_147_4
  exact r_iload_n k_147_4 rfl rfl
    (r_iconst k_147_5 rfl rfl
    (r_icmp (tgt := 31) k_147_6 rfl rfl cop_ge
    (r_iload_n k_147_31 rfl rfl
    (r_ret k_147_32 rfl rfl))
    (r_iload_n k_147_9 rfl rfl
    (r_aload_n k_147_10 rfl rfl
    (r_iload_n k_147_11 rfl rfl
    (r_callI (q_virt (rest := [.int x1]) (as := [.int x2]) k_147_12 po_147 rfl rfl rfl (rcvO rfl rfl rfl) rfl rfl) (lvq (j := 0) rfl (by decide +kernel)) rfl rfl (fun r1 σ1 h1 => r_if (tgt := 22) k_147_15 rfl rfl cop_eq
    (r_iconst k_147_22 rfl rfl
    (r_iadd k_147_23 rfl
    (r_istore_n k_147_24 rfl rfl rfl
    (r_iinc k_147_25 rfl rfl rfl rfl
    (r_goto (tgt := 4) k_147_28 rfl (Le.rfl'))))))
    (r_iconst k_147_18 rfl rfl
    (r_goto (tgt := 23) k_147_19 rfl (r_iadd k_147_23 rfl
    (r_istore_n k_147_24 rfl rfl rfl
    (r_iinc k_147_25 rfl rfl rfl rfl
    (r_goto (tgt := 4) k_147_28 rfl (Le.rfl'))))))))))))))
theorem M_147   {σ : pS} {ρ : Nat → Nat → Option Nat} (e : gR σ = ρ) (hL : LayR ρ) : Le
  (C_147_4 (ι 0) (ι 0) σ)
  (pcall 147 [.ref 54] σ) := by
  show Le _ (den 147 0 0 [.ref 54, .retAddr 0, .retAddr 0] [] σ)
  exact r_iconst k_147_0 rfl rfl
    (r_istore_n k_147_1 rfl rfl rfl
    (r_iconst k_147_2 rfl rfl
    (r_istore_n k_147_3 rfl rfl rfl
    (Le.rfl'))))
/-! ===== 148 HedgeWants.Ahead.rested ===== -/
theorem k_148_0 : cd 148 0 = some (.iload_n 1, 1) := by decide +kernel
theorem k_148_1 : cd 148 1 = some (.ifCond .lt 46, 3) := by decide +kernel
theorem k_148_4 : cd 148 4 = some (.iload_n 1, 1) := by decide +kernel
theorem k_148_5 : cd 148 5 = some (.iconst 4, 1) := by decide +kernel
theorem k_148_6 : cd 148 6 = some (.if_icmp .ge 41, 3) := by decide +kernel
theorem k_148_9 : cd 148 9 = some (.aload_n 0, 1) := by decide +kernel
theorem k_148_10 : cd 148 10 = some (.getfield 9, 3) := by decide +kernel
theorem k_148_13 : cd 148 13 = some (.iload_n 1, 1) := by decide +kernel
theorem k_148_14 : cd 148 14 = some (.iaload, 1) := by decide +kernel
theorem k_148_15 : cd 148 15 = some (.aload_n 0, 1) := by decide +kernel
theorem k_148_16 : cd 148 16 = some (.getfield 9, 3) := by decide +kernel
theorem k_148_19 : cd 148 19 = some (.iload_n 1, 1) := by decide +kernel
theorem k_148_20 : cd 148 20 = some (.iconst 2, 1) := by decide +kernel
theorem k_148_21 : cd 148 21 = some (.ixor, 1) := by decide +kernel
theorem k_148_22 : cd 148 22 = some (.iaload, 1) := by decide +kernel
theorem k_148_23 : cd 148 23 = some (.if_icmp .lt 24, 3) := by decide +kernel
theorem k_148_26 : cd 148 26 = some (.aload_n 0, 1) := by decide +kernel
theorem k_148_27 : cd 148 27 = some (.getfield 15, 3) := by decide +kernel
theorem k_148_30 : cd 148 30 = some (.iload_n 1, 1) := by decide +kernel
theorem k_148_31 : cd 148 31 = some (.iaload, 1) := by decide +kernel
theorem k_148_32 : cd 148 32 = some (.aload_n 0, 1) := by decide +kernel
theorem k_148_33 : cd 148 33 = some (.getfield 15, 3) := by decide +kernel
theorem k_148_36 : cd 148 36 = some (.iload_n 1, 1) := by decide +kernel
theorem k_148_37 : cd 148 37 = some (.iconst 1, 1) := by decide +kernel
theorem k_148_38 : cd 148 38 = some (.ixor, 1) := by decide +kernel
theorem k_148_39 : cd 148 39 = some (.iaload, 1) := by decide +kernel
theorem k_148_40 : cd 148 40 = some (.if_icmp .lt 7, 3) := by decide +kernel
theorem k_148_43 : cd 148 43 = some (.iconst 1, 1) := by decide +kernel
theorem k_148_44 : cd 148 44 = some (.goto 4, 3) := by decide +kernel
theorem k_148_47 : cd 148 47 = some (.iconst 0, 1) := by decide +kernel
theorem k_148_48 : cd 148 48 = some (.ireturn, 1) := by decide +kernel
theorem po_148 : po 148 = 1 := rfl
theorem M_148  {x0 : Int32} {σ : pS} {ρ : Nat → Nat → Option Nat} (e : gR σ = ρ) (hL : LayR ρ) : Le
  (if x0 < (ι 0) then some (1, .int (ι 0), σ) else if (ι 4) ≤ x0 then some (1, .int (ι 0), σ) else gd (inb x0 4) (gd (inb (x0 ^^^ (ι 2)) 4) (if (gI σ 55 (ix x0)) < (gI σ 55 (ix (x0 ^^^ (ι 2)))) then some (1, .int (ι 0), σ) else gd (inb x0 4) (gd (inb (x0 ^^^ (ι 1)) 4) (if (gI σ 56 (ix x0)) < (gI σ 56 (ix (x0 ^^^ (ι 1)))) then some (1, .int (ι 0), σ) else some (1, .int (ι 1), σ))))))
  (pcall 148 [.ref 54, .int x0] σ) := by
  show Le _ (den 148 0 0 [.ref 54, .int x0] [] σ)
  exact r_iload_n k_148_0 rfl rfl
    (r_if (tgt := 47) k_148_1 rfl rfl cop_lt
    (r_iconst k_148_47 rfl rfl
    (r_ret k_148_48 rfl rfl))
    (r_iload_n k_148_4 rfl rfl
    (r_iconst k_148_5 rfl rfl
    (r_icmp (tgt := 47) k_148_6 rfl rfl cop_ge
    (r_iconst k_148_47 rfl rfl
    (r_ret k_148_48 rfl rfl))
    (r_aload_n k_148_9 rfl rfl
    (r_getR k_148_10 rfl po_148 rfl rfl rfl rfl (gRat e (LayR.at hL (i := 56) rfl))
    (r_iload_n k_148_13 rfl rfl
    (r_gd fun g => r_iald k_148_14 rfl rfl g
    (r_aload_n k_148_15 rfl rfl
    (r_getR k_148_16 rfl po_148 rfl rfl rfl rfl (gRat e (LayR.at hL (i := 56) rfl))
    (r_iload_n k_148_19 rfl rfl
    (r_iconst k_148_20 rfl rfl
    (r_ixor k_148_21 rfl
    (r_gd fun g => r_iald k_148_22 rfl rfl g
    (r_icmp (tgt := 47) k_148_23 rfl rfl cop_lt
    (r_iconst k_148_47 rfl rfl
    (r_ret k_148_48 rfl rfl))
    (r_aload_n k_148_26 rfl rfl
    (r_getR k_148_27 rfl po_148 rfl rfl rfl rfl (gRat e (LayR.at hL (i := 57) rfl))
    (r_iload_n k_148_30 rfl rfl
    (r_gd fun g => r_iald k_148_31 rfl rfl g
    (r_aload_n k_148_32 rfl rfl
    (r_getR k_148_33 rfl po_148 rfl rfl rfl rfl (gRat e (LayR.at hL (i := 57) rfl))
    (r_iload_n k_148_36 rfl rfl
    (r_iconst k_148_37 rfl rfl
    (r_ixor k_148_38 rfl
    (r_gd fun g => r_iald k_148_39 rfl rfl g
    (r_icmp (tgt := 47) k_148_40 rfl rfl cop_lt
    (r_iconst k_148_47 rfl rfl
    (r_ret k_148_48 rfl rfl))
    (r_iconst k_148_43 rfl rfl
    (r_goto (tgt := 48) k_148_44 rfl (r_ret k_148_48 rfl rfl)))))))))))))))))))))))))))))
/-! ===== 149 HedgeWants.Ahead.firstRestingCouple ===== -/
theorem k_149_0 : cd 149 0 = some (.iconst 0, 1) := by decide +kernel
theorem k_149_1 : cd 149 1 = some (.istore_n 1, 1) := by decide +kernel
theorem k_149_2 : cd 149 2 = some (.iload_n 1, 1) := by decide +kernel
theorem k_149_3 : cd 149 3 = some (.iconst 4, 1) := by decide +kernel
theorem k_149_4 : cd 149 4 = some (.if_icmp .ge 28, 3) := by decide +kernel
theorem k_149_7 : cd 149 7 = some (.aload_n 0, 1) := by decide +kernel
theorem k_149_8 : cd 149 8 = some (.iload_n 1, 1) := by decide +kernel
theorem k_149_9 : cd 149 9 = some (.invokevirtual 94, 3) := by decide +kernel
theorem k_149_12 : cd 149 12 = some (.ifCond .eq 14, 3) := by decide +kernel
theorem k_149_15 : cd 149 15 = some (.bipush 10, 2) := by decide +kernel
theorem k_149_17 : cd 149 17 = some (.iload_n 1, 1) := by decide +kernel
theorem k_149_18 : cd 149 18 = some (.iconst 2, 1) := by decide +kernel
theorem k_149_19 : cd 149 19 = some (.idiv, 1) := by decide +kernel
theorem k_149_20 : cd 149 20 = some (.imul, 1) := by decide +kernel
theorem k_149_21 : cd 149 21 = some (.iload_n 1, 1) := by decide +kernel
theorem k_149_22 : cd 149 22 = some (.iconst 2, 1) := by decide +kernel
theorem k_149_23 : cd 149 23 = some (.irem, 1) := by decide +kernel
theorem k_149_24 : cd 149 24 = some (.iadd, 1) := by decide +kernel
theorem k_149_25 : cd 149 25 = some (.ireturn, 1) := by decide +kernel
theorem k_149_26 : cd 149 26 = some (.iinc 1 1, 3) := by decide +kernel
theorem k_149_29 : cd 149 29 = some (.goto (-27), 3) := by decide +kernel
theorem k_149_32 : cd 149 32 = some (.iconst (-1), 1) := by decide +kernel
theorem k_149_33 : cd 149 33 = some (.ireturn, 1) := by decide +kernel
theorem po_149 : po 149 = 1 := rfl
noncomputable def C_149_2  (x1 : Int32) (σ : pS) : Option pZ := den 149 0 2 [.ref 54, .int x1] [] σ
theorem T_149_2  {x1 : Int32}  {σ : pS} {ρ : Nat → Nat → Option Nat} (e : gR σ = ρ) (hL : LayR ρ) : Le
  (if (ι 4) ≤ x1 then some (1, .int (ν 1), σ) else bI (pcall 148 [.ref 54, .int x1] σ) fun r1 σ1 => if r1 = (ι 0) then C_149_2 (x1 + (ι 1)) σ1 else some (1, .int (((ι 10) * (x1 / (ι 2))) + (irem' x1 (ι 2))), σ1))
  (C_149_2  x1 σ) := by
  unfold C_149_2
  exact r_iload_n k_149_2 rfl rfl
    (r_iconst k_149_3 rfl rfl
    (r_icmp (tgt := 32) k_149_4 rfl rfl cop_ge
    (r_iconst k_149_32 rfl rfl
    (r_ret k_149_33 rfl rfl))
    (r_aload_n k_149_7 rfl rfl
    (r_iload_n k_149_8 rfl rfl
    (r_callI (q_virt (rest := []) (as := [.int x1]) k_149_9 po_149 rfl rfl rfl (rcvO rfl rfl rfl) rfl rfl) (lvq (j := 0) rfl (by decide +kernel)) rfl rfl (fun r1 σ1 h1 => r_if (tgt := 26) k_149_12 rfl rfl cop_eq
    (r_iinc k_149_26 rfl rfl rfl rfl
    (r_goto (tgt := 2) k_149_29 rfl (Le.rfl')))
    (r_bipush k_149_15 rfl rfl
    (r_iload_n k_149_17 rfl rfl
    (r_iconst k_149_18 rfl rfl
    (r_idiv k_149_19 rfl (by decide)
    (r_imul k_149_20 rfl
    (r_iload_n k_149_21 rfl rfl
    (r_iconst k_149_22 rfl rfl
    (r_irem k_149_23 rfl (by decide)
    (r_iadd k_149_24 rfl
    (r_ret k_149_25 rfl rfl))))))))))))))))
theorem M_149   {σ : pS} {ρ : Nat → Nat → Option Nat} (e : gR σ = ρ) (hL : LayR ρ) : Le
  (C_149_2 (ι 0) σ)
  (pcall 149 [.ref 54] σ) := by
  show Le _ (den 149 0 0 [.ref 54, .retAddr 0] [] σ)
  exact r_iconst k_149_0 rfl rfl
    (r_istore_n k_149_1 rfl rfl rfl
    (Le.rfl'))
/-! ===== 150 HedgeWants.Ahead.behindDrawnDays ===== -/
theorem k_150_0 : cd 150 0 = some (.aload_n 0, 1) := by decide +kernel
theorem k_150_1 : cd 150 1 = some (.iload_n 1, 1) := by decide +kernel
theorem k_150_2 : cd 150 2 = some (.putfield 98, 3) := by decide +kernel
theorem k_150_5 : cd 150 5 = some (.aload_n 0, 1) := by decide +kernel
theorem k_150_6 : cd 150 6 = some (.getfield 22, 3) := by decide +kernel
theorem k_150_9 : cd 150 9 = some (.aload_n 0, 1) := by decide +kernel
theorem k_150_10 : cd 150 10 = some (.getfield 18, 3) := by decide +kernel
theorem k_150_13 : cd 150 13 = some (.invokevirtual 25, 3) := by decide +kernel
theorem k_150_16 : cd 150 16 = some (.iconst 0, 1) := by decide +kernel
theorem k_150_17 : cd 150 17 = some (.istore_n 3, 1) := by decide +kernel
theorem k_150_18 : cd 150 18 = some (.iload_n 3, 1) := by decide +kernel
theorem k_150_19 : cd 150 19 = some (.iload_n 2, 1) := by decide +kernel
theorem k_150_20 : cd 150 20 = some (.if_icmp .ge 42, 3) := by decide +kernel
theorem k_150_23 : cd 150 23 = some (.aload_n 0, 1) := by decide +kernel
theorem k_150_24 : cd 150 24 = some (.bipush 6, 2) := by decide +kernel
theorem k_150_26 : cd 150 26 = some (.invokevirtual 102, 3) := by decide +kernel
theorem k_150_29 : cd 150 29 = some (.istore 4, 2) := by decide +kernel
theorem k_150_31 : cd 150 31 = some (.aload_n 0, 1) := by decide +kernel
theorem k_150_32 : cd 150 32 = some (.getfield 18, 3) := by decide +kernel
theorem k_150_35 : cd 150 35 = some (.invokevirtual 65, 3) := by decide +kernel
theorem k_150_38 : cd 150 38 = some (.ifCond .le 9, 3) := by decide +kernel
theorem k_150_41 : cd 150 41 = some (.aload_n 0, 1) := by decide +kernel
theorem k_150_42 : cd 150 42 = some (.iload 4, 2) := by decide +kernel
theorem k_150_44 : cd 150 44 = some (.invokevirtual 105, 3) := by decide +kernel
theorem k_150_47 : cd 150 47 = some (.aload_n 0, 1) := by decide +kernel
theorem k_150_48 : cd 150 48 = some (.getfield 22, 3) := by decide +kernel
theorem k_150_51 : cd 150 51 = some (.iconst 0, 1) := by decide +kernel
theorem k_150_52 : cd 150 52 = some (.invokevirtual 35, 3) := by decide +kernel
theorem k_150_55 : cd 150 55 = some (.pop, 1) := by decide +kernel
theorem k_150_56 : cd 150 56 = some (.iinc 3 1, 3) := by decide +kernel
theorem k_150_59 : cd 150 59 = some (.goto (-41), 3) := by decide +kernel
theorem k_150_62 : cd 150 62 = some (.aload_n 0, 1) := by decide +kernel
theorem k_150_63 : cd 150 63 = some (.getfield 22, 3) := by decide +kernel
theorem k_150_66 : cd 150 66 = some (.areturn, 1) := by decide +kernel
theorem po_150 : po 150 = 1 := rfl
noncomputable def C_150_18  (v1 : Value) (x2 : Int32) (x3 : Int32) (v4 : Value) (σ : pS) : Option pZ := den 150 0 18 [.ref 54, v1, .int x2, .int x3, v4] [] σ
theorem T_150_18  {v1 : Value} {x2 : Int32} {x3 : Int32} {v4 : Value}  {σ : pS} {ρ : Nat → Nat → Option Nat} (e : gR σ = ρ) (hL : LayR ρ) : Le
  (if x2 ≤ x3 then some (1, .ref 47, σ) else bI (pcall 151 [.ref 54, .int (ι 6)] σ) fun r1 σ1 => bI (pcall 87 [.ref 25] σ1) fun r2 σ2 => if r2 ≤ (ι 0) then bI (pcall 71 [.ref 47, .int (ι 0)] σ2) fun r3 σ3 => C_150_18 v1 x2 (x3 + (ι 1)) (.int r1) σ3 else bV (pcall 152 [.ref 54, .int r1] σ2) fun σ4 => bI (pcall 71 [.ref 47, .int (ι 0)] σ4) fun r5 σ5 => C_150_18 v1 x2 (x3 + (ι 1)) (.int r1) σ5)
  (C_150_18  v1 x2 x3 v4 σ) := by
  unfold C_150_18
  exact r_iload_n k_150_18 rfl rfl
    (r_iload_n k_150_19 rfl rfl
    (r_icmp (tgt := 62) k_150_20 rfl rfl cop_ge
    (r_aload_n k_150_62 rfl rfl
    (r_getR k_150_63 rfl po_150 rfl rfl rfl rfl (gRat e (LayR.at hL (i := 55) rfl))
    (r_retA k_150_66 rfl)))
    (r_aload_n k_150_23 rfl rfl
    (r_bipush k_150_24 rfl rfl
    (r_callI (q_virt (rest := []) (as := [.int (ι 6)]) k_150_26 po_150 rfl rfl rfl (rcvO rfl rfl rfl) rfl rfl) (lvq (j := 0) rfl (by decide +kernel)) rfl rfl (fun r1 σ1 h1 => r_istore k_150_29 rfl rfl rfl
    (r_aload_n k_150_31 rfl rfl
    (r_getR k_150_32 rfl po_150 rfl rfl rfl rfl (gRat (eC rfl h1 e) (LayR.at hL (i := 54) rfl))
    (r_callI (q_virt (rest := []) (as := []) k_150_35 po_150 rfl rfl rfl (rcvO rfl rfl rfl) rfl rfl) (lvq (j := 0) rfl (by decide +kernel)) rfl rfl (fun r2 σ2 h2 => r_if (tgt := 47) k_150_38 rfl rfl cop_le
    (r_aload_n k_150_47 rfl rfl
    (r_getR k_150_48 rfl po_150 rfl rfl rfl rfl (gRat (eC rfl h2 (eC rfl h1 e)) (LayR.at hL (i := 55) rfl))
    (r_iconst k_150_51 rfl rfl
    (r_callI (q_virt (rest := []) (as := [.int (ι 0)]) k_150_52 po_150 rfl rfl rfl (rcvO rfl rfl rfl) rfl rfl) (lvq (j := 0) rfl (by decide +kernel)) rfl rfl (fun r3 σ3 h3 => r_pop k_150_55 rfl rfl
    (r_iinc k_150_56 rfl rfl rfl rfl
    (r_goto (tgt := 18) k_150_59 rfl (Le.rfl'))))))))
    (r_aload_n k_150_41 rfl rfl
    (r_iload k_150_42 rfl rfl
    (r_callV (q_virt (rest := []) (as := [.int r1]) k_150_44 po_150 rfl rfl rfl (rcvO rfl rfl rfl) rfl rfl) (lvq (j := 0) rfl (by decide +kernel)) rfl rfl (fun _ σ4 h4 => r_aload_n k_150_47 rfl rfl
    (r_getR k_150_48 rfl po_150 rfl rfl rfl rfl (gRat (eC rfl h4 (eC rfl h2 (eC rfl h1 e))) (LayR.at hL (i := 55) rfl))
    (r_iconst k_150_51 rfl rfl
    (r_callI (q_virt (rest := []) (as := [.int (ι 0)]) k_150_52 po_150 rfl rfl rfl (rcvO rfl rfl rfl) rfl rfl) (lvq (j := 0) rfl (by decide +kernel)) rfl rfl (fun r5 σ5 h5 => r_pop k_150_55 rfl rfl
    (r_iinc k_150_56 rfl rfl rfl rfl
    (r_goto (tgt := 18) k_150_59 rfl (Le.rfl')))))))))))))))))))))
theorem M_150  {x0 : Int32} {x1 : Int32} {σ : pS} {ρ : Nat → Nat → Option Nat} (e : gR σ = ρ) (hL : LayR ρ) : Le
  (bV (pcall 84 [.ref 47, .ref 25] (sI σ 54 2 x0)) fun σ1 => gd (LayR (gR σ1)) (C_150_18 (.int x0) x1 (ι 0) (.retAddr 0) σ1))
  (pcall 150 [.ref 54, .int x0, .int x1] σ) := by
  show Le _ (den 150 0 0 [.ref 54, .int x0, .int x1, .retAddr 0, .retAddr 0] [] σ)
  exact r_aload_n k_150_0 rfl rfl
    (r_iload_n k_150_1 rfl rfl
    (r_putI k_150_2 rfl po_150 rfl rfl rfl
    (r_aload_n k_150_5 rfl rfl
    (r_getR k_150_6 rfl po_150 rfl rfl rfl rfl (gRat (eI e) (LayR.at hL (i := 55) rfl))
    (r_aload_n k_150_9 rfl rfl
    (r_getR k_150_10 rfl po_150 rfl rfl rfl rfl (gRat (eI e) (LayR.at hL (i := 54) rfl))
    (r_callV (q_virt (rest := []) (as := [.ref 25]) k_150_13 po_150 rfl rfl rfl (rcvO rfl rfl rfl) rfl rfl) (lvq (j := 0) rfl (by decide +kernel)) rfl rfl (fun _ σ1 h1 => r_gd fun L1 => r_iconst k_150_16 rfl rfl
    (r_istore_n k_150_17 rfl rfl rfl
    (Le.rfl'))))))))))
/-! ===== 151 HedgeWants.Ahead.draw ===== -/
theorem k_151_0 : cd 151 0 = some (.aload_n 0, 1) := by decide +kernel
theorem k_151_1 : cd 151 1 = some (.aload_n 0, 1) := by decide +kernel
theorem k_151_2 : cd 151 2 = some (.getfield 98, 3) := by decide +kernel
theorem k_151_5 : cd 151 5 = some (.ldc 112, 2) := by decide +kernel
theorem k_151_7 : cd 151 7 = some (.imul, 1) := by decide +kernel
theorem k_151_8 : cd 151 8 = some (.sipush 12345, 3) := by decide +kernel
theorem k_151_11 : cd 151 11 = some (.iadd, 1) := by decide +kernel
theorem k_151_12 : cd 151 12 = some (.putfield 98, 3) := by decide +kernel
theorem k_151_15 : cd 151 15 = some (.iload_n 1, 1) := by decide +kernel
theorem k_151_16 : cd 151 16 = some (.ifCond .le 19, 3) := by decide +kernel
theorem k_151_19 : cd 151 19 = some (.aload_n 0, 1) := by decide +kernel
theorem k_151_20 : cd 151 20 = some (.getfield 98, 3) := by decide +kernel
theorem k_151_23 : cd 151 23 = some (.bipush 16, 2) := by decide +kernel
theorem k_151_25 : cd 151 25 = some (.iushr, 1) := by decide +kernel
theorem k_151_26 : cd 151 26 = some (.sipush 32767, 3) := by decide +kernel
theorem k_151_29 : cd 151 29 = some (.iand, 1) := by decide +kernel
theorem k_151_30 : cd 151 30 = some (.iload_n 1, 1) := by decide +kernel
theorem k_151_31 : cd 151 31 = some (.irem, 1) := by decide +kernel
theorem k_151_32 : cd 151 32 = some (.goto 4, 3) := by decide +kernel
theorem k_151_35 : cd 151 35 = some (.iconst 0, 1) := by decide +kernel
theorem k_151_36 : cd 151 36 = some (.ireturn, 1) := by decide +kernel
theorem po_151 : po 151 = 1 := rfl
theorem M_151  {x0 : Int32} {σ : pS} {ρ : Nat → Nat → Option Nat} (e : gR σ = ρ) (hL : LayR ρ) : Le
  (if x0 ≤ (ι 0) then some (1, .int (ι 0), (sI σ 54 2 (((gI σ 54 2) * (ι 1103515245)) + (ι 12345)))) else gd (¬ x0 = ι 0) (some (1, .int (irem' ((ushr (gI (sI σ 54 2 (((gI σ 54 2) * (ι 1103515245)) + (ι 12345))) 54 2) (ι 16)) &&& (ι 32767)) x0), (sI σ 54 2 (((gI σ 54 2) * (ι 1103515245)) + (ι 12345))))))
  (pcall 151 [.ref 54, .int x0] σ) := by
  show Le _ (den 151 0 0 [.ref 54, .int x0] [] σ)
  exact r_aload_n k_151_0 rfl rfl
    (r_aload_n k_151_1 rfl rfl
    (r_getI k_151_2 rfl po_151 rfl rfl rfl rfl
    (r_ldcI k_151_5 rfl po_151 rfl rfl
    (r_imul k_151_7 rfl
    (r_sipush k_151_8 rfl rfl
    (r_iadd k_151_11 rfl
    (r_putI k_151_12 rfl po_151 rfl rfl rfl
    (r_iload_n k_151_15 rfl rfl
    (r_if (tgt := 35) k_151_16 rfl rfl cop_le
    (r_iconst k_151_35 rfl rfl
    (r_ret k_151_36 rfl rfl))
    (r_aload_n k_151_19 rfl rfl
    (r_getI k_151_20 rfl po_151 rfl rfl rfl rfl
    (r_bipush k_151_23 rfl rfl
    (r_iushr k_151_25 rfl
    (r_sipush k_151_26 rfl rfl
    (r_iand k_151_29 rfl
    (r_iload_n k_151_30 rfl rfl
    (r_gd fun g => r_irem k_151_31 rfl g
    (r_goto (tgt := 36) k_151_32 rfl (r_ret k_151_36 rfl rfl)))))))))))))))))))
/-! ===== 152 HedgeWants.Ahead.doDrawn ===== -/
theorem k_152_0 : cd 152 0 = some (.iload_n 1, 1) := by decide +kernel
theorem k_152_1 : cd 152 1 = some (.iconst 2, 1) := by decide +kernel
theorem k_152_2 : cd 152 2 = some (.if_icmp .le 4, 3) := by decide +kernel
theorem k_152_5 : cd 152 5 = some (.return_, 1) := by decide +kernel
theorem k_152_6 : cd 152 6 = some (.aload_n 0, 1) := by decide +kernel
theorem k_152_7 : cd 152 7 = some (.aload_n 0, 1) := by decide +kernel
theorem k_152_8 : cd 152 8 = some (.getfield 18, 3) := by decide +kernel
theorem k_152_11 : cd 152 11 = some (.invokevirtual 65, 3) := by decide +kernel
theorem k_152_14 : cd 152 14 = some (.invokevirtual 102, 3) := by decide +kernel
theorem k_152_17 : cd 152 17 = some (.istore_n 2, 1) := by decide +kernel
theorem k_152_18 : cd 152 18 = some (.iload_n 1, 1) := by decide +kernel
theorem k_152_19 : cd 152 19 = some (.ifCond .ne 33, 3) := by decide +kernel
theorem k_152_22 : cd 152 22 = some (.aload_n 0, 1) := by decide +kernel
theorem k_152_23 : cd 152 23 = some (.aload_n 0, 1) := by decide +kernel
theorem k_152_24 : cd 152 24 = some (.getfield 18, 3) := by decide +kernel
theorem k_152_27 : cd 152 27 = some (.invokevirtual 82, 3) := by decide +kernel
theorem k_152_30 : cd 152 30 = some (.invokevirtual 102, 3) := by decide +kernel
theorem k_152_33 : cd 152 33 = some (.istore_n 3, 1) := by decide +kernel
theorem k_152_34 : cd 152 34 = some (.aload_n 0, 1) := by decide +kernel
theorem k_152_35 : cd 152 35 = some (.getfield 22, 3) := by decide +kernel
theorem k_152_38 : cd 152 38 = some (.iload_n 3, 1) := by decide +kernel
theorem k_152_39 : cd 152 39 = some (.iload_n 2, 1) := by decide +kernel
theorem k_152_40 : cd 152 40 = some (.aload_n 0, 1) := by decide +kernel
theorem k_152_41 : cd 152 41 = some (.bipush 10, 2) := by decide +kernel
theorem k_152_43 : cd 152 43 = some (.invokevirtual 102, 3) := by decide +kernel
theorem k_152_46 : cd 152 46 = some (.invokevirtual 108, 3) := by decide +kernel
theorem k_152_49 : cd 152 49 = some (.goto 39, 3) := by decide +kernel
theorem k_152_52 : cd 152 52 = some (.iload_n 1, 1) := by decide +kernel
theorem k_152_53 : cd 152 53 = some (.iconst 1, 1) := by decide +kernel
theorem k_152_54 : cd 152 54 = some (.if_icmp .ne 15, 3) := by decide +kernel
theorem k_152_57 : cd 152 57 = some (.aload_n 0, 1) := by decide +kernel
theorem k_152_58 : cd 152 58 = some (.getfield 22, 3) := by decide +kernel
theorem k_152_61 : cd 152 61 = some (.iload_n 2, 1) := by decide +kernel
theorem k_152_62 : cd 152 62 = some (.iconst 0, 1) := by decide +kernel
theorem k_152_63 : cd 152 63 = some (.invokevirtual 42, 3) := by decide +kernel
theorem k_152_66 : cd 152 66 = some (.goto 22, 3) := by decide +kernel
theorem k_152_69 : cd 152 69 = some (.aload_n 0, 1) := by decide +kernel
theorem k_152_70 : cd 152 70 = some (.getfield 22, 3) := by decide +kernel
theorem k_152_73 : cd 152 73 = some (.iload_n 2, 1) := by decide +kernel
theorem k_152_74 : cd 152 74 = some (.aload_n 0, 1) := by decide +kernel
theorem k_152_75 : cd 152 75 = some (.aload_n 0, 1) := by decide +kernel
theorem k_152_76 : cd 152 76 = some (.getfield 18, 3) := by decide +kernel
theorem k_152_79 : cd 152 79 = some (.invokevirtual 82, 3) := by decide +kernel
theorem k_152_82 : cd 152 82 = some (.invokevirtual 102, 3) := by decide +kernel
theorem k_152_85 : cd 152 85 = some (.invokevirtual 73, 3) := by decide +kernel
theorem k_152_88 : cd 152 88 = some (.return_, 1) := by decide +kernel
theorem po_152 : po 152 = 1 := rfl
theorem M_152  {x0 : Int32} {σ : pS} {ρ : Nat → Nat → Option Nat} (e : gR σ = ρ) (hL : LayR ρ) : Le
  (if x0 ≤ (ι 2) then bI (pcall 87 [.ref 25] σ) fun r1 σ1 => bI (pcall 151 [.ref 54, .int r1] σ1) fun r2 σ2 => if ¬ x0 = (ι 0) then if ¬ x0 = (ι 1) then bI (pcall 86 [.ref 25] σ2) fun r3 σ3 => bI (pcall 151 [.ref 54, .int r3] σ3) fun r4 σ4 => bV (pcall 80 [.ref 47, .int r2, .int r4] σ4) fun σ5 => some (0, .null, σ5) else bV (pcall 81 [.ref 47, .int r2, .int (ι 0)] σ2) fun σ6 => some (0, .null, σ6) else bI (pcall 86 [.ref 25] σ2) fun r7 σ7 => bI (pcall 151 [.ref 54, .int r7] σ7) fun r8 σ8 => bI (pcall 151 [.ref 54, .int (ι 10)] σ8) fun r9 σ9 => bV (pcall 95 [.ref 47, .int r8, .int r2, .int r9] σ9) fun σ10 => some (0, .null, σ10) else some (0, .null, σ))
  (pcall 152 [.ref 54, .int x0] σ) := by
  show Le _ (den 152 0 0 [.ref 54, .int x0, .retAddr 0, .retAddr 0] [] σ)
  exact r_iload_n k_152_0 rfl rfl
    (r_iconst k_152_1 rfl rfl
    (r_icmp (tgt := 6) k_152_2 rfl rfl cop_le
    (r_aload_n k_152_6 rfl rfl
    (r_aload_n k_152_7 rfl rfl
    (r_getR k_152_8 rfl po_152 rfl rfl rfl rfl (gRat e (LayR.at hL (i := 54) rfl))
    (r_callI (q_virt (rest := [.ref 54]) (as := []) k_152_11 po_152 rfl rfl rfl (rcvO rfl rfl rfl) rfl rfl) (lvq (j := 0) rfl (by decide +kernel)) rfl rfl (fun r1 σ1 h1 => r_callI (q_virt (rest := []) (as := [.int r1]) k_152_14 po_152 rfl rfl rfl (rcvO rfl rfl rfl) rfl rfl) (lvq (j := 0) rfl (by decide +kernel)) rfl rfl (fun r2 σ2 h2 => r_istore_n k_152_17 rfl rfl rfl
    (r_iload_n k_152_18 rfl rfl
    (r_if (tgt := 52) k_152_19 rfl rfl cop_ne
    (r_iload_n k_152_52 rfl rfl
    (r_iconst k_152_53 rfl rfl
    (r_icmp (tgt := 69) k_152_54 rfl rfl cop_ne
    (r_aload_n k_152_69 rfl rfl
    (r_getR k_152_70 rfl po_152 rfl rfl rfl rfl (gRat (eC rfl h2 (eC rfl h1 e)) (LayR.at hL (i := 55) rfl))
    (r_iload_n k_152_73 rfl rfl
    (r_aload_n k_152_74 rfl rfl
    (r_aload_n k_152_75 rfl rfl
    (r_getR k_152_76 rfl po_152 rfl rfl rfl rfl (gRat (eC rfl h2 (eC rfl h1 e)) (LayR.at hL (i := 54) rfl))
    (r_callI (q_virt (rest := [.ref 54, .int r2, .ref 47]) (as := []) k_152_79 po_152 rfl rfl rfl (rcvO rfl rfl rfl) rfl rfl) (lvq (j := 0) rfl (by decide +kernel)) rfl rfl (fun r3 σ3 h3 => r_callI (q_virt (rest := [.int r2, .ref 47]) (as := [.int r3]) k_152_82 po_152 rfl rfl rfl (rcvO rfl rfl rfl) rfl rfl) (lvq (j := 0) rfl (by decide +kernel)) rfl rfl (fun r4 σ4 h4 => r_callV (q_virt (rest := []) (as := [.int r2, .int r4]) k_152_85 po_152 rfl rfl rfl (rcvO rfl rfl rfl) rfl rfl) (lvq (j := 0) rfl (by decide +kernel)) rfl rfl (fun _ σ5 h5 => r_retV k_152_88 rfl))))))))))
    (r_aload_n k_152_57 rfl rfl
    (r_getR k_152_58 rfl po_152 rfl rfl rfl rfl (gRat (eC rfl h2 (eC rfl h1 e)) (LayR.at hL (i := 55) rfl))
    (r_iload_n k_152_61 rfl rfl
    (r_iconst k_152_62 rfl rfl
    (r_callV (q_virt (rest := []) (as := [.int r2, .int (ι 0)]) k_152_63 po_152 rfl rfl rfl (rcvO rfl rfl rfl) rfl rfl) (lvq (j := 0) rfl (by decide +kernel)) rfl rfl (fun _ σ6 h6 => r_goto (tgt := 88) k_152_66 rfl (r_retV k_152_88 rfl))))))))))
    (r_aload_n k_152_22 rfl rfl
    (r_aload_n k_152_23 rfl rfl
    (r_getR k_152_24 rfl po_152 rfl rfl rfl rfl (gRat (eC rfl h2 (eC rfl h1 e)) (LayR.at hL (i := 54) rfl))
    (r_callI (q_virt (rest := [.ref 54]) (as := []) k_152_27 po_152 rfl rfl rfl (rcvO rfl rfl rfl) rfl rfl) (lvq (j := 0) rfl (by decide +kernel)) rfl rfl (fun r7 σ7 h7 => r_callI (q_virt (rest := []) (as := [.int r7]) k_152_30 po_152 rfl rfl rfl (rcvO rfl rfl rfl) rfl rfl) (lvq (j := 0) rfl (by decide +kernel)) rfl rfl (fun r8 σ8 h8 => r_istore_n k_152_33 rfl rfl rfl
    (r_aload_n k_152_34 rfl rfl
    (r_getR k_152_35 rfl po_152 rfl rfl rfl rfl (gRat (eC rfl h8 (eC rfl h7 (eC rfl h2 (eC rfl h1 e)))) (LayR.at hL (i := 55) rfl))
    (r_iload_n k_152_38 rfl rfl
    (r_iload_n k_152_39 rfl rfl
    (r_aload_n k_152_40 rfl rfl
    (r_bipush k_152_41 rfl rfl
    (r_callI (q_virt (rest := [.int r2, .int r8, .ref 47]) (as := [.int (ι 10)]) k_152_43 po_152 rfl rfl rfl (rcvO rfl rfl rfl) rfl rfl) (lvq (j := 0) rfl (by decide +kernel)) rfl rfl (fun r9 σ9 h9 => r_callV (q_virt (rest := []) (as := [.int r8, .int r2, .int r9]) k_152_46 po_152 rfl rfl rfl (rcvO rfl rfl rfl) rfl rfl) (lvq (j := 0) rfl (by decide +kernel)) rfl rfl (fun _ σ10 h10 => r_goto (tgt := 88) k_152_49 rfl (r_retV k_152_88 rfl))))))))))))))))))))))))
    (r_retV k_152_5 rfl)))
/-! ===== 154 HedgeWants.Guess.howMany ===== -/
theorem k_154_0 : cd 154 0 = some (.iconst 0, 1) := by decide +kernel
theorem k_154_1 : cd 154 1 = some (.istore_n 1, 1) := by decide +kernel
theorem k_154_2 : cd 154 2 = some (.iconst 0, 1) := by decide +kernel
theorem k_154_3 : cd 154 3 = some (.istore_n 2, 1) := by decide +kernel
theorem k_154_4 : cd 154 4 = some (.iload_n 2, 1) := by decide +kernel
theorem k_154_5 : cd 154 5 = some (.aload_n 0, 1) := by decide +kernel
theorem k_154_6 : cd 154 6 = some (.invokevirtual 60, 3) := by decide +kernel
theorem k_154_9 : cd 154 9 = some (.if_icmp .ge 32, 3) := by decide +kernel
theorem k_154_12 : cd 154 12 = some (.iload_n 1, 1) := by decide +kernel
theorem k_154_13 : cd 154 13 = some (.aload_n 0, 1) := by decide +kernel
theorem k_154_14 : cd 154 14 = some (.iload_n 2, 1) := by decide +kernel
theorem k_154_15 : cd 154 15 = some (.invokevirtual 63, 3) := by decide +kernel
theorem k_154_18 : cd 154 18 = some (.ifCond .eq 14, 3) := by decide +kernel
theorem k_154_21 : cd 154 21 = some (.aload_n 0, 1) := by decide +kernel
theorem k_154_22 : cd 154 22 = some (.invokevirtual 67, 3) := by decide +kernel
theorem k_154_25 : cd 154 25 = some (.ifCond .eq 7, 3) := by decide +kernel
theorem k_154_28 : cd 154 28 = some (.iconst 1, 1) := by decide +kernel
theorem k_154_29 : cd 154 29 = some (.goto 4, 3) := by decide +kernel
theorem k_154_32 : cd 154 32 = some (.iconst 0, 1) := by decide +kernel
theorem k_154_33 : cd 154 33 = some (.iadd, 1) := by decide +kernel
theorem k_154_34 : cd 154 34 = some (.istore_n 1, 1) := by decide +kernel
theorem k_154_35 : cd 154 35 = some (.iinc 2 1, 3) := by decide +kernel
theorem k_154_38 : cd 154 38 = some (.goto (-34), 3) := by decide +kernel
theorem k_154_41 : cd 154 41 = some (.iload_n 1, 1) := by decide +kernel
theorem k_154_42 : cd 154 42 = some (.ireturn, 1) := by decide +kernel
theorem po_154 : po 154 = 3 := rfl
noncomputable def C_154_4  (x1 : Int32) (x2 : Int32) (σ : pS) : Option pZ := den 154 0 4 [.ref 57, .int x1, .int x2] [] σ
theorem T_154_4  {x1 : Int32} {x2 : Int32}  {σ : pS} {ρ : Nat → Nat → Option Nat} (e : gR σ = ρ) (hL : LayR ρ) : Le
  (bI (pcall 155 [.ref 57] σ) fun r1 σ1 => if r1 ≤ x2 then some (1, .int x1, σ1) else bI (pcall 156 [.ref 57, .int x2] σ1) fun r2 σ2 => gd (LayR (gR σ2)) (if r2 = (ι 0) then C_154_4 (x1 + (ι 0)) (x2 + (ι 1)) σ2 else bI (pcall 157 [.ref 57] σ2) fun r3 σ3 => if r3 = (ι 0) then C_154_4 (x1 + (ι 0)) (x2 + (ι 1)) σ3 else C_154_4 (x1 + (ι 1)) (x2 + (ι 1)) σ3))
  (C_154_4  x1 x2 σ) := by
  unfold C_154_4
  exact r_iload_n k_154_4 rfl rfl
    (r_aload_n k_154_5 rfl rfl
    (r_callI (q_virt (rest := [.int x2]) (as := []) k_154_6 po_154 rfl rfl rfl (rcvO rfl rfl rfl) rfl rfl) (lvq (j := 0) rfl (by decide +kernel)) rfl rfl (fun r1 σ1 h1 => r_icmp (tgt := 41) k_154_9 rfl rfl cop_ge
    (r_iload_n k_154_41 rfl rfl
    (r_ret k_154_42 rfl rfl))
    (r_iload_n k_154_12 rfl rfl
    (r_aload_n k_154_13 rfl rfl
    (r_iload_n k_154_14 rfl rfl
    (r_callI (q_virt (rest := [.int x1]) (as := [.int x2]) k_154_15 po_154 rfl rfl rfl (rcvO rfl rfl rfl) rfl rfl) (lvq (j := 0) rfl (by decide +kernel)) rfl rfl (fun r2 σ2 h2 => r_gd fun L2 => r_if (tgt := 32) k_154_18 rfl rfl cop_eq
    (r_iconst k_154_32 rfl rfl
    (r_iadd k_154_33 rfl
    (r_istore_n k_154_34 rfl rfl rfl
    (r_iinc k_154_35 rfl rfl rfl rfl
    (r_goto (tgt := 4) k_154_38 rfl (Le.rfl'))))))
    (r_aload_n k_154_21 rfl rfl
    (r_callI (q_virt (rest := [.int x1]) (as := []) k_154_22 po_154 rfl rfl rfl (rcvO rfl rfl rfl) rfl rfl) (lvq (j := 0) rfl (by decide +kernel)) rfl rfl (fun r3 σ3 h3 => r_if (tgt := 32) k_154_25 rfl rfl cop_eq
    (r_iconst k_154_32 rfl rfl
    (r_iadd k_154_33 rfl
    (r_istore_n k_154_34 rfl rfl rfl
    (r_iinc k_154_35 rfl rfl rfl rfl
    (r_goto (tgt := 4) k_154_38 rfl (Le.rfl'))))))
    (r_iconst k_154_28 rfl rfl
    (r_goto (tgt := 33) k_154_29 rfl (r_iadd k_154_33 rfl
    (r_istore_n k_154_34 rfl rfl rfl
    (r_iinc k_154_35 rfl rfl rfl rfl
    (r_goto (tgt := 4) k_154_38 rfl (Le.rfl'))))))))))))))))))
theorem M_154   {σ : pS} {ρ : Nat → Nat → Option Nat} (e : gR σ = ρ) (hL : LayR ρ) : Le
  (C_154_4 (ι 0) (ι 0) σ)
  (pcall 154 [.ref 57] σ) := by
  show Le _ (den 154 0 0 [.ref 57, .retAddr 0, .retAddr 0] [] σ)
  exact r_iconst k_154_0 rfl rfl
    (r_istore_n k_154_1 rfl rfl rfl
    (r_iconst k_154_2 rfl rfl
    (r_istore_n k_154_3 rfl rfl rfl
    (Le.rfl'))))
/-! ===== 155 HedgeWants.Guess.allTastes ===== -/
theorem k_155_0 : cd 155 0 = some (.aload_n 0, 1) := by decide +kernel
theorem k_155_1 : cd 155 1 = some (.getfield 15, 3) := by decide +kernel
theorem k_155_4 : cd 155 4 = some (.invokevirtual 26, 3) := by decide +kernel
theorem k_155_7 : cd 155 7 = some (.aload_n 0, 1) := by decide +kernel
theorem k_155_8 : cd 155 8 = some (.getfield 15, 3) := by decide +kernel
theorem k_155_11 : cd 155 11 = some (.invokevirtual 32, 3) := by decide +kernel
theorem k_155_14 : cd 155 14 = some (.imul, 1) := by decide +kernel
theorem k_155_15 : cd 155 15 = some (.bipush 10, 2) := by decide +kernel
theorem k_155_17 : cd 155 17 = some (.imul, 1) := by decide +kernel
theorem k_155_18 : cd 155 18 = some (.ireturn, 1) := by decide +kernel
theorem po_155 : po 155 = 3 := rfl
theorem M_155   {σ : pS} {ρ : Nat → Nat → Option Nat} (e : gR σ = ρ) (hL : LayR ρ) : Le
  (bI (pcall 86 [.ref 25] σ) fun r1 σ1 => bI (pcall 87 [.ref 25] σ1) fun r2 σ2 => some (1, .int ((r1 * r2) * (ι 10)), σ2))
  (pcall 155 [.ref 57] σ) := by
  show Le _ (den 155 0 0 [.ref 57] [] σ)
  exact r_aload_n k_155_0 rfl rfl
    (r_getR k_155_1 rfl po_155 rfl rfl rfl rfl (gRat e (LayR.at hL (i := 58) rfl))
    (r_callI (q_virt (rest := []) (as := []) k_155_4 po_155 rfl rfl rfl (rcvO rfl rfl rfl) rfl rfl) (lvq (j := 0) rfl (by decide +kernel)) rfl rfl (fun r1 σ1 h1 => r_aload_n k_155_7 rfl rfl
    (r_getR k_155_8 rfl po_155 rfl rfl rfl rfl (gRat (eC rfl h1 e) (LayR.at hL (i := 58) rfl))
    (r_callI (q_virt (rest := [.int r1]) (as := []) k_155_11 po_155 rfl rfl rfl (rcvO rfl rfl rfl) rfl rfl) (lvq (j := 0) rfl (by decide +kernel)) rfl rfl (fun r2 σ2 h2 => r_imul k_155_14 rfl
    (r_bipush k_155_15 rfl rfl
    (r_imul k_155_17 rfl
    (r_ret k_155_18 rfl rfl)))))))))
/-! ===== 156 HedgeWants.Guess.tries ===== -/
theorem k_156_0 : cd 156 0 = some (.aload_n 0, 1) := by decide +kernel
theorem k_156_1 : cd 156 1 = some (.getfield 15, 3) := by decide +kernel
theorem k_156_4 : cd 156 4 = some (.invokevirtual 32, 3) := by decide +kernel
theorem k_156_7 : cd 156 7 = some (.istore_n 2, 1) := by decide +kernel
theorem k_156_8 : cd 156 8 = some (.iload_n 2, 1) := by decide +kernel
theorem k_156_9 : cd 156 9 = some (.ifCond .gt 5, 3) := by decide +kernel
theorem k_156_12 : cd 156 12 = some (.iconst 0, 1) := by decide +kernel
theorem k_156_13 : cd 156 13 = some (.ireturn, 1) := by decide +kernel
theorem k_156_14 : cd 156 14 = some (.iload_n 1, 1) := by decide +kernel
theorem k_156_15 : cd 156 15 = some (.bipush 10, 2) := by decide +kernel
theorem k_156_17 : cd 156 17 = some (.irem, 1) := by decide +kernel
theorem k_156_18 : cd 156 18 = some (.istore_n 3, 1) := by decide +kernel
theorem k_156_19 : cd 156 19 = some (.iload_n 1, 1) := by decide +kernel
theorem k_156_20 : cd 156 20 = some (.bipush 10, 2) := by decide +kernel
theorem k_156_22 : cd 156 22 = some (.idiv, 1) := by decide +kernel
theorem k_156_23 : cd 156 23 = some (.iload_n 2, 1) := by decide +kernel
theorem k_156_24 : cd 156 24 = some (.irem, 1) := by decide +kernel
theorem k_156_25 : cd 156 25 = some (.istore 4, 2) := by decide +kernel
theorem k_156_27 : cd 156 27 = some (.iload_n 1, 1) := by decide +kernel
theorem k_156_28 : cd 156 28 = some (.bipush 10, 2) := by decide +kernel
theorem k_156_30 : cd 156 30 = some (.idiv, 1) := by decide +kernel
theorem k_156_31 : cd 156 31 = some (.iload_n 2, 1) := by decide +kernel
theorem k_156_32 : cd 156 32 = some (.idiv, 1) := by decide +kernel
theorem k_156_33 : cd 156 33 = some (.istore 5, 2) := by decide +kernel
theorem k_156_35 : cd 156 35 = some (.aload_n 0, 1) := by decide +kernel
theorem k_156_36 : cd 156 36 = some (.getfield 23, 3) := by decide +kernel
theorem k_156_39 : cd 156 39 = some (.aload_n 0, 1) := by decide +kernel
theorem k_156_40 : cd 156 40 = some (.getfield 15, 3) := by decide +kernel
theorem k_156_43 : cd 156 43 = some (.invokevirtual 35, 3) := by decide +kernel
theorem k_156_46 : cd 156 46 = some (.aload_n 0, 1) := by decide +kernel
theorem k_156_47 : cd 156 47 = some (.getfield 23, 3) := by decide +kernel
theorem k_156_50 : cd 156 50 = some (.iload 5, 2) := by decide +kernel
theorem k_156_52 : cd 156 52 = some (.iload 4, 2) := by decide +kernel
theorem k_156_54 : cd 156 54 = some (.iload_n 3, 1) := by decide +kernel
theorem k_156_55 : cd 156 55 = some (.invokevirtual 39, 3) := by decide +kernel
theorem k_156_58 : cd 156 58 = some (.aload_n 0, 1) := by decide +kernel
theorem k_156_59 : cd 156 59 = some (.getfield 15, 3) := by decide +kernel
theorem k_156_62 : cd 156 62 = some (.iload 5, 2) := by decide +kernel
theorem k_156_64 : cd 156 64 = some (.iload 4, 2) := by decide +kernel
theorem k_156_66 : cd 156 66 = some (.invokevirtual 43, 3) := by decide +kernel
theorem k_156_69 : cd 156 69 = some (.iload_n 3, 1) := by decide +kernel
theorem k_156_70 : cd 156 70 = some (.if_icmp .eq 7, 3) := by decide +kernel
theorem k_156_73 : cd 156 73 = some (.iconst 1, 1) := by decide +kernel
theorem k_156_74 : cd 156 74 = some (.goto 4, 3) := by decide +kernel
theorem k_156_77 : cd 156 77 = some (.iconst 0, 1) := by decide +kernel
theorem k_156_78 : cd 156 78 = some (.ireturn, 1) := by decide +kernel
theorem po_156 : po 156 = 3 := rfl
theorem M_156  {x0 : Int32} {σ : pS} {ρ : Nat → Nat → Option Nat} (e : gR σ = ρ) (hL : LayR ρ) : Le
  (bI (pcall 87 [.ref 25] σ) fun r1 σ1 => if (ι 0) < r1 then gd (¬ r1 = ι 0) (gd (¬ r1 = ι 0) (bV (pcall 84 [.ref 47, .ref 25] σ1) fun σ2 => gd (LayR (gR σ2)) (bV (pcall 95 [.ref 47, .int ((x0 / (ι 10)) / r1), .int (irem' (x0 / (ι 10)) r1), .int (irem' x0 (ι 10))] σ2) fun σ3 => bI (pcall 74 [.ref 25, .int ((x0 / (ι 10)) / r1), .int (irem' (x0 / (ι 10)) r1)] σ3) fun r4 σ4 => if r4 = (irem' x0 (ι 10)) then some (1, .int (ι 0), σ4) else some (1, .int (ι 1), σ4)))) else some (1, .int (ι 0), σ1))
  (pcall 156 [.ref 57, .int x0] σ) := by
  show Le _ (den 156 0 0 [.ref 57, .int x0, .retAddr 0, .retAddr 0, .retAddr 0, .retAddr 0] [] σ)
  exact r_aload_n k_156_0 rfl rfl
    (r_getR k_156_1 rfl po_156 rfl rfl rfl rfl (gRat e (LayR.at hL (i := 58) rfl))
    (r_callI (q_virt (rest := []) (as := []) k_156_4 po_156 rfl rfl rfl (rcvO rfl rfl rfl) rfl rfl) (lvq (j := 0) rfl (by decide +kernel)) rfl rfl (fun r1 σ1 h1 => r_istore_n k_156_7 rfl rfl rfl
    (r_iload_n k_156_8 rfl rfl
    (r_if (tgt := 14) k_156_9 rfl rfl cop_gt
    (r_iload_n k_156_14 rfl rfl
    (r_bipush k_156_15 rfl rfl
    (r_irem k_156_17 rfl (by decide)
    (r_istore_n k_156_18 rfl rfl rfl
    (r_iload_n k_156_19 rfl rfl
    (r_bipush k_156_20 rfl rfl
    (r_idiv k_156_22 rfl (by decide)
    (r_iload_n k_156_23 rfl rfl
    (r_gd fun g => r_irem k_156_24 rfl g
    (r_istore k_156_25 rfl rfl rfl
    (r_iload_n k_156_27 rfl rfl
    (r_bipush k_156_28 rfl rfl
    (r_idiv k_156_30 rfl (by decide)
    (r_iload_n k_156_31 rfl rfl
    (r_gd fun g => r_idiv k_156_32 rfl g
    (r_istore k_156_33 rfl rfl rfl
    (r_aload_n k_156_35 rfl rfl
    (r_getR k_156_36 rfl po_156 rfl rfl rfl rfl (gRat (eC rfl h1 e) (LayR.at hL (i := 60) rfl))
    (r_aload_n k_156_39 rfl rfl
    (r_getR k_156_40 rfl po_156 rfl rfl rfl rfl (gRat (eC rfl h1 e) (LayR.at hL (i := 58) rfl))
    (r_callV (q_virt (rest := []) (as := [.ref 25]) k_156_43 po_156 rfl rfl rfl (rcvO rfl rfl rfl) rfl rfl) (lvq (j := 0) rfl (by decide +kernel)) rfl rfl (fun _ σ2 h2 => r_gd fun L2 => r_aload_n k_156_46 rfl rfl
    (r_getR k_156_47 rfl po_156 rfl rfl rfl rfl (gRat rfl (LayR.at L2 (i := 60) rfl))
    (r_iload k_156_50 rfl rfl
    (r_iload k_156_52 rfl rfl
    (r_iload_n k_156_54 rfl rfl
    (r_callV (q_virt (rest := []) (as := [.int ((x0 / (ι 10)) / r1), .int (irem' (x0 / (ι 10)) r1), .int (irem' x0 (ι 10))]) k_156_55 po_156 rfl rfl rfl (rcvO rfl rfl rfl) rfl rfl) (lvq (j := 0) rfl (by decide +kernel)) rfl rfl (fun _ σ3 h3 => r_aload_n k_156_58 rfl rfl
    (r_getR k_156_59 rfl po_156 rfl rfl rfl rfl (gRat (eC rfl h3 rfl) (LayR.at L2 (i := 58) rfl))
    (r_iload k_156_62 rfl rfl
    (r_iload k_156_64 rfl rfl
    (r_callI (q_virt (rest := []) (as := [.int ((x0 / (ι 10)) / r1), .int (irem' (x0 / (ι 10)) r1)]) k_156_66 po_156 rfl rfl rfl (rcvO rfl rfl rfl) rfl rfl) (lvq (j := 0) rfl (by decide +kernel)) rfl rfl (fun r4 σ4 h4 => r_iload_n k_156_69 rfl rfl
    (r_icmp (tgt := 77) k_156_70 rfl rfl cop_eq
    (r_iconst k_156_77 rfl rfl
    (r_ret k_156_78 rfl rfl))
    (r_iconst k_156_73 rfl rfl
    (r_goto (tgt := 78) k_156_74 rfl (r_ret k_156_78 rfl rfl)))))))))))))))))))))))))))))))))))))
    (r_iconst k_156_12 rfl rfl
    (r_ret k_156_13 rfl rfl)))))))
/-! ===== 157 HedgeWants.Guess.comesTrue ===== -/
theorem k_157_0 : cd 157 0 = some (.aload_n 0, 1) := by decide +kernel
theorem k_157_1 : cd 157 1 = some (.getfield 19, 3) := by decide +kernel
theorem k_157_4 : cd 157 4 = some (.invokevirtual 47, 3) := by decide +kernel
theorem k_157_7 : cd 157 7 = some (.istore_n 1, 1) := by decide +kernel
theorem k_157_8 : cd 157 8 = some (.aload_n 0, 1) := by decide +kernel
theorem k_157_9 : cd 157 9 = some (.getfield 19, 3) := by decide +kernel
theorem k_157_12 : cd 157 12 = some (.aload_n 0, 1) := by decide +kernel
theorem k_157_13 : cd 157 13 = some (.getfield 23, 3) := by decide +kernel
theorem k_157_16 : cd 157 16 = some (.iconst 0, 1) := by decide +kernel
theorem k_157_17 : cd 157 17 = some (.invokevirtual 52, 3) := by decide +kernel
theorem k_157_20 : cd 157 20 = some (.istore_n 2, 1) := by decide +kernel
theorem k_157_21 : cd 157 21 = some (.iconst 1, 1) := by decide +kernel
theorem k_157_22 : cd 157 22 = some (.istore_n 3, 1) := by decide +kernel
theorem k_157_23 : cd 157 23 = some (.iload_n 3, 1) := by decide +kernel
theorem k_157_24 : cd 157 24 = some (.iload_n 1, 1) := by decide +kernel
theorem k_157_25 : cd 157 25 = some (.if_icmp .gt 35, 3) := by decide +kernel
theorem k_157_28 : cd 157 28 = some (.iload_n 2, 1) := by decide +kernel
theorem k_157_29 : cd 157 29 = some (.ifCond .eq 31, 3) := by decide +kernel
theorem k_157_32 : cd 157 32 = some (.aload_n 0, 1) := by decide +kernel
theorem k_157_33 : cd 157 33 = some (.getfield 23, 3) := by decide +kernel
theorem k_157_36 : cd 157 36 = some (.iconst 0, 1) := by decide +kernel
theorem k_157_37 : cd 157 37 = some (.invokevirtual 56, 3) := by decide +kernel
theorem k_157_40 : cd 157 40 = some (.pop, 1) := by decide +kernel
theorem k_157_41 : cd 157 41 = some (.aload_n 0, 1) := by decide +kernel
theorem k_157_42 : cd 157 42 = some (.getfield 19, 3) := by decide +kernel
theorem k_157_45 : cd 157 45 = some (.aload_n 0, 1) := by decide +kernel
theorem k_157_46 : cd 157 46 = some (.getfield 23, 3) := by decide +kernel
theorem k_157_49 : cd 157 49 = some (.iload_n 3, 1) := by decide +kernel
theorem k_157_50 : cd 157 50 = some (.invokevirtual 52, 3) := by decide +kernel
theorem k_157_53 : cd 157 53 = some (.istore_n 2, 1) := by decide +kernel
theorem k_157_54 : cd 157 54 = some (.iinc 3 1, 3) := by decide +kernel
theorem k_157_57 : cd 157 57 = some (.goto (-34), 3) := by decide +kernel
theorem k_157_60 : cd 157 60 = some (.iload_n 2, 1) := by decide +kernel
theorem k_157_61 : cd 157 61 = some (.ireturn, 1) := by decide +kernel
theorem po_157 : po 157 = 3 := rfl
noncomputable def C_157_23  (x1 : Int32) (x2 : Int32) (x3 : Int32) (σ : pS) : Option pZ := den 157 0 23 [.ref 57, .int x1, .int x2, .int x3] [] σ
theorem T_157_23  {x1 : Int32} {x2 : Int32} {x3 : Int32}  {σ : pS} {ρ : Nat → Nat → Option Nat} (e : gR σ = ρ) (hL : LayR ρ) : Le
  (if x1 < x3 then gd (narrow .boolean (.int x2) = .int x2) (some (1, .int x2, σ)) else if x2 = (ι 0) then gd (narrow .boolean (.int x2) = .int x2) (some (1, .int x2, σ)) else bI (pcall 71 [.ref 47, .int (ι 0)] σ) fun r1 σ1 => bI (pcall 115 [.ref 32, .ref 47, .int x3] σ1) fun r2 σ2 => C_157_23 x1 r2 (x3 + (ι 1)) σ2)
  (C_157_23  x1 x2 x3 σ) := by
  unfold C_157_23
  exact r_iload_n k_157_23 rfl rfl
    (r_iload_n k_157_24 rfl rfl
    (r_icmp (tgt := 60) k_157_25 rfl rfl cop_gt
    (r_iload_n k_157_60 rfl rfl
    (r_gd fun g => r_ret k_157_61 rfl g))
    (r_iload_n k_157_28 rfl rfl
    (r_if (tgt := 60) k_157_29 rfl rfl cop_eq
    (r_iload_n k_157_60 rfl rfl
    (r_gd fun g => r_ret k_157_61 rfl g))
    (r_aload_n k_157_32 rfl rfl
    (r_getR k_157_33 rfl po_157 rfl rfl rfl rfl (gRat e (LayR.at hL (i := 60) rfl))
    (r_iconst k_157_36 rfl rfl
    (r_callI (q_virt (rest := []) (as := [.int (ι 0)]) k_157_37 po_157 rfl rfl rfl (rcvO rfl rfl rfl) rfl rfl) (lvq (j := 0) rfl (by decide +kernel)) rfl rfl (fun r1 σ1 h1 => r_pop k_157_40 rfl rfl
    (r_aload_n k_157_41 rfl rfl
    (r_getR k_157_42 rfl po_157 rfl rfl rfl rfl (gRat (eC rfl h1 e) (LayR.at hL (i := 59) rfl))
    (r_aload_n k_157_45 rfl rfl
    (r_getR k_157_46 rfl po_157 rfl rfl rfl rfl (gRat (eC rfl h1 e) (LayR.at hL (i := 60) rfl))
    (r_iload_n k_157_49 rfl rfl
    (r_callI (q_virt (rest := []) (as := [.ref 47, .int x3]) k_157_50 po_157 rfl rfl rfl (rcvO rfl rfl rfl) rfl rfl) (lvq (j := 0) rfl (by decide +kernel)) rfl rfl (fun r2 σ2 h2 => r_istore_n k_157_53 rfl rfl rfl
    (r_iinc k_157_54 rfl rfl rfl rfl
    (r_goto (tgt := 23) k_157_57 rfl (Le.rfl')))))))))))))))))))
theorem M_157   {σ : pS} {ρ : Nat → Nat → Option Nat} (e : gR σ = ρ) (hL : LayR ρ) : Le
  (bI (pcall 114 [.ref 32] σ) fun r1 σ1 => bI (pcall 115 [.ref 32, .ref 47, .int (ι 0)] σ1) fun r2 σ2 => C_157_23 r1 r2 (ι 1) σ2)
  (pcall 157 [.ref 57] σ) := by
  show Le _ (den 157 0 0 [.ref 57, .retAddr 0, .retAddr 0, .retAddr 0] [] σ)
  exact r_aload_n k_157_0 rfl rfl
    (r_getR k_157_1 rfl po_157 rfl rfl rfl rfl (gRat e (LayR.at hL (i := 59) rfl))
    (r_callI (q_virt (rest := []) (as := []) k_157_4 po_157 rfl rfl rfl (rcvO rfl rfl rfl) rfl rfl) (lvq (j := 0) rfl (by decide +kernel)) rfl rfl (fun r1 σ1 h1 => r_istore_n k_157_7 rfl rfl rfl
    (r_aload_n k_157_8 rfl rfl
    (r_getR k_157_9 rfl po_157 rfl rfl rfl rfl (gRat (eC rfl h1 e) (LayR.at hL (i := 59) rfl))
    (r_aload_n k_157_12 rfl rfl
    (r_getR k_157_13 rfl po_157 rfl rfl rfl rfl (gRat (eC rfl h1 e) (LayR.at hL (i := 60) rfl))
    (r_iconst k_157_16 rfl rfl
    (r_callI (q_virt (rest := []) (as := [.ref 47, .int (ι 0)]) k_157_17 po_157 rfl rfl rfl (rcvO rfl rfl rfl) rfl rfl) (lvq (j := 0) rfl (by decide +kernel)) rfl rfl (fun r2 σ2 h2 => r_istore_n k_157_20 rfl rfl rfl
    (r_iconst k_157_21 rfl rfl
    (r_istore_n k_157_22 rfl rfl rfl
    (Le.rfl')))))))))))))
/-! ===== 158 HedgeWants.Guess.first ===== -/
theorem k_158_0 : cd 158 0 = some (.iconst 0, 1) := by decide +kernel
theorem k_158_1 : cd 158 1 = some (.istore_n 1, 1) := by decide +kernel
theorem k_158_2 : cd 158 2 = some (.iload_n 1, 1) := by decide +kernel
theorem k_158_3 : cd 158 3 = some (.aload_n 0, 1) := by decide +kernel
theorem k_158_4 : cd 158 4 = some (.invokevirtual 60, 3) := by decide +kernel
theorem k_158_7 : cd 158 7 = some (.if_icmp .ge 61, 3) := by decide +kernel
theorem k_158_10 : cd 158 10 = some (.aload_n 0, 1) := by decide +kernel
theorem k_158_11 : cd 158 11 = some (.iload_n 1, 1) := by decide +kernel
theorem k_158_12 : cd 158 12 = some (.invokevirtual 63, 3) := by decide +kernel
theorem k_158_15 : cd 158 15 = some (.ifCond .eq 47, 3) := by decide +kernel
theorem k_158_18 : cd 158 18 = some (.aload_n 0, 1) := by decide +kernel
theorem k_158_19 : cd 158 19 = some (.invokevirtual 67, 3) := by decide +kernel
theorem k_158_22 : cd 158 22 = some (.ifCond .eq 40, 3) := by decide +kernel
theorem k_158_25 : cd 158 25 = some (.iconst 1, 1) := by decide +kernel
theorem k_158_26 : cd 158 26 = some (.aload_n 0, 1) := by decide +kernel
theorem k_158_27 : cd 158 27 = some (.getfield 15, 3) := by decide +kernel
theorem k_158_30 : cd 158 30 = some (.invokevirtual 32, 3) := by decide +kernel
theorem k_158_33 : cd 158 33 = some (.invokestatic 71, 3) := by decide +kernel
theorem k_158_36 : cd 158 36 = some (.istore_n 2, 1) := by decide +kernel
theorem k_158_37 : cd 158 37 = some (.iload_n 1, 1) := by decide +kernel
theorem k_158_38 : cd 158 38 = some (.bipush 10, 2) := by decide +kernel
theorem k_158_40 : cd 158 40 = some (.idiv, 1) := by decide +kernel
theorem k_158_41 : cd 158 41 = some (.istore_n 3, 1) := by decide +kernel
theorem k_158_42 : cd 158 42 = some (.sipush 1000, 3) := by decide +kernel
theorem k_158_45 : cd 158 45 = some (.iload_n 3, 1) := by decide +kernel
theorem k_158_46 : cd 158 46 = some (.iload_n 2, 1) := by decide +kernel
theorem k_158_47 : cd 158 47 = some (.idiv, 1) := by decide +kernel
theorem k_158_48 : cd 158 48 = some (.imul, 1) := by decide +kernel
theorem k_158_49 : cd 158 49 = some (.bipush 10, 2) := by decide +kernel
theorem k_158_51 : cd 158 51 = some (.iload_n 3, 1) := by decide +kernel
theorem k_158_52 : cd 158 52 = some (.iload_n 2, 1) := by decide +kernel
theorem k_158_53 : cd 158 53 = some (.irem, 1) := by decide +kernel
theorem k_158_54 : cd 158 54 = some (.imul, 1) := by decide +kernel
theorem k_158_55 : cd 158 55 = some (.iadd, 1) := by decide +kernel
theorem k_158_56 : cd 158 56 = some (.iload_n 1, 1) := by decide +kernel
theorem k_158_57 : cd 158 57 = some (.bipush 10, 2) := by decide +kernel
theorem k_158_59 : cd 158 59 = some (.irem, 1) := by decide +kernel
theorem k_158_60 : cd 158 60 = some (.iadd, 1) := by decide +kernel
theorem k_158_61 : cd 158 61 = some (.ireturn, 1) := by decide +kernel
theorem k_158_62 : cd 158 62 = some (.iinc 1 1, 3) := by decide +kernel
theorem k_158_65 : cd 158 65 = some (.goto (-63), 3) := by decide +kernel
theorem k_158_68 : cd 158 68 = some (.iconst (-1), 1) := by decide +kernel
theorem k_158_69 : cd 158 69 = some (.ireturn, 1) := by decide +kernel
theorem po_158 : po 158 = 3 := rfl
noncomputable def C_158_2  (x1 : Int32) (v2 : Value) (v3 : Value) (σ : pS) : Option pZ := den 158 0 2 [.ref 57, .int x1, v2, v3] [] σ
theorem T_158_2  {x1 : Int32} {v2 : Value} {v3 : Value}  {σ : pS} {ρ : Nat → Nat → Option Nat} (e : gR σ = ρ) (hL : LayR ρ) : Le
  (bI (pcall 155 [.ref 57] σ) fun r1 σ1 => if r1 ≤ x1 then some (1, .int (ν 1), σ1) else bI (pcall 156 [.ref 57, .int x1] σ1) fun r2 σ2 => gd (LayR (gR σ2)) (if r2 = (ι 0) then C_158_2 (x1 + (ι 1)) v2 v3 σ2 else bI (pcall 157 [.ref 57] σ2) fun r3 σ3 => if r3 = (ι 0) then C_158_2 (x1 + (ι 1)) v2 v3 σ3 else bI (pcall 87 [.ref 25] σ3) fun r4 σ4 => gd (¬ (imax (ι 1) r4) = ι 0) (gd (¬ (imax (ι 1) r4) = ι 0) (some (1, .int ((((ι 1000) * ((x1 / (ι 10)) / (imax (ι 1) r4))) + ((ι 10) * (irem' (x1 / (ι 10)) (imax (ι 1) r4)))) + (irem' x1 (ι 10))), σ4)))))
  (C_158_2  x1 v2 v3 σ) := by
  unfold C_158_2
  exact r_iload_n k_158_2 rfl rfl
    (r_aload_n k_158_3 rfl rfl
    (r_callI (q_virt (rest := [.int x1]) (as := []) k_158_4 po_158 rfl rfl rfl (rcvO rfl rfl rfl) rfl rfl) (lvq (j := 0) rfl (by decide +kernel)) rfl rfl (fun r1 σ1 h1 => r_icmp (tgt := 68) k_158_7 rfl rfl cop_ge
    (r_iconst k_158_68 rfl rfl
    (r_ret k_158_69 rfl rfl))
    (r_aload_n k_158_10 rfl rfl
    (r_iload_n k_158_11 rfl rfl
    (r_callI (q_virt (rest := []) (as := [.int x1]) k_158_12 po_158 rfl rfl rfl (rcvO rfl rfl rfl) rfl rfl) (lvq (j := 0) rfl (by decide +kernel)) rfl rfl (fun r2 σ2 h2 => r_gd fun L2 => r_if (tgt := 62) k_158_15 rfl rfl cop_eq
    (r_iinc k_158_62 rfl rfl rfl rfl
    (r_goto (tgt := 2) k_158_65 rfl (Le.rfl')))
    (r_aload_n k_158_18 rfl rfl
    (r_callI (q_virt (rest := []) (as := []) k_158_19 po_158 rfl rfl rfl (rcvO rfl rfl rfl) rfl rfl) (lvq (j := 0) rfl (by decide +kernel)) rfl rfl (fun r3 σ3 h3 => r_if (tgt := 62) k_158_22 rfl rfl cop_eq
    (r_iinc k_158_62 rfl rfl rfl rfl
    (r_goto (tgt := 2) k_158_65 rfl (Le.rfl')))
    (r_iconst k_158_25 rfl rfl
    (r_aload_n k_158_26 rfl rfl
    (r_getR k_158_27 rfl po_158 rfl rfl rfl rfl (gRat (eC rfl h3 rfl) (LayR.at L2 (i := 58) rfl))
    (r_callI (q_virt (rest := [.int (ι 1)]) (as := []) k_158_30 po_158 rfl rfl rfl (rcvO rfl rfl rfl) rfl rfl) (lvq (j := 0) rfl (by decide +kernel)) rfl rfl (fun r4 σ4 h4 => r_imax k_158_33 rfl po_158 rfl rfl
    (r_istore_n k_158_36 rfl rfl rfl
    (r_iload_n k_158_37 rfl rfl
    (r_bipush k_158_38 rfl rfl
    (r_idiv k_158_40 rfl (by decide)
    (r_istore_n k_158_41 rfl rfl rfl
    (r_sipush k_158_42 rfl rfl
    (r_iload_n k_158_45 rfl rfl
    (r_iload_n k_158_46 rfl rfl
    (r_gd fun g => r_idiv k_158_47 rfl g
    (r_imul k_158_48 rfl
    (r_bipush k_158_49 rfl rfl
    (r_iload_n k_158_51 rfl rfl
    (r_iload_n k_158_52 rfl rfl
    (r_gd fun g => r_irem k_158_53 rfl g
    (r_imul k_158_54 rfl
    (r_iadd k_158_55 rfl
    (r_iload_n k_158_56 rfl rfl
    (r_bipush k_158_57 rfl rfl
    (r_irem k_158_59 rfl (by decide)
    (r_iadd k_158_60 rfl
    (r_ret k_158_61 rfl rfl))))))))))))))))))))))))))))))))))))
theorem M_158   {σ : pS} {ρ : Nat → Nat → Option Nat} (e : gR σ = ρ) (hL : LayR ρ) : Le
  (C_158_2 (ι 0) (.retAddr 0) (.retAddr 0) σ)
  (pcall 158 [.ref 57] σ) := by
  show Le _ (den 158 0 0 [.ref 57, .retAddr 0, .retAddr 0, .retAddr 0] [] σ)
  exact r_iconst k_158_0 rfl rfl
    (r_istore_n k_158_1 rfl rfl rfl
    (Le.rfl'))
/-! ===== 159 HedgeWants.Guess.fitsWithout ===== -/
theorem k_159_0 : cd 159 0 = some (.aload_n 0, 1) := by decide +kernel
theorem k_159_1 : cd 159 1 = some (.getfield 23, 3) := by decide +kernel
theorem k_159_4 : cd 159 4 = some (.aload_n 0, 1) := by decide +kernel
theorem k_159_5 : cd 159 5 = some (.getfield 15, 3) := by decide +kernel
theorem k_159_8 : cd 159 8 = some (.invokevirtual 35, 3) := by decide +kernel
theorem k_159_11 : cd 159 11 = some (.aload_n 0, 1) := by decide +kernel
theorem k_159_12 : cd 159 12 = some (.invokevirtual 67, 3) := by decide +kernel
theorem k_159_15 : cd 159 15 = some (.ifCond .eq 7, 3) := by decide +kernel
theorem k_159_18 : cd 159 18 = some (.iconst 1, 1) := by decide +kernel
theorem k_159_19 : cd 159 19 = some (.goto 4, 3) := by decide +kernel
theorem k_159_22 : cd 159 22 = some (.iconst 0, 1) := by decide +kernel
theorem k_159_23 : cd 159 23 = some (.ireturn, 1) := by decide +kernel
theorem po_159 : po 159 = 3 := rfl
theorem M_159   {σ : pS} {ρ : Nat → Nat → Option Nat} (e : gR σ = ρ) (hL : LayR ρ) : Le
  (bV (pcall 84 [.ref 47, .ref 25] σ) fun σ1 => gd (LayR (gR σ1)) (bI (pcall 157 [.ref 57] σ1) fun r2 σ2 => if r2 = (ι 0) then some (1, .int (ι 0), σ2) else some (1, .int (ι 1), σ2)))
  (pcall 159 [.ref 57] σ) := by
  show Le _ (den 159 0 0 [.ref 57] [] σ)
  exact r_aload_n k_159_0 rfl rfl
    (r_getR k_159_1 rfl po_159 rfl rfl rfl rfl (gRat e (LayR.at hL (i := 60) rfl))
    (r_aload_n k_159_4 rfl rfl
    (r_getR k_159_5 rfl po_159 rfl rfl rfl rfl (gRat e (LayR.at hL (i := 58) rfl))
    (r_callV (q_virt (rest := []) (as := [.ref 25]) k_159_8 po_159 rfl rfl rfl (rcvO rfl rfl rfl) rfl rfl) (lvq (j := 0) rfl (by decide +kernel)) rfl rfl (fun _ σ1 h1 => r_gd fun L1 => r_aload_n k_159_11 rfl rfl
    (r_callI (q_virt (rest := []) (as := []) k_159_12 po_159 rfl rfl rfl (rcvO rfl rfl rfl) rfl rfl) (lvq (j := 0) rfl (by decide +kernel)) rfl rfl (fun r2 σ2 h2 => r_if (tgt := 22) k_159_15 rfl rfl cop_eq
    (r_iconst k_159_22 rfl rfl
    (r_ret k_159_23 rfl rfl))
    (r_iconst k_159_18 rfl rfl
    (r_goto (tgt := 23) k_159_19 rfl (r_ret k_159_23 rfl rfl))))))))))
/-! ===== 160 HedgeWants.Guess.gatherOwners ===== -/
theorem k_160_0 : cd 160 0 = some (.aload_n 0, 1) := by decide +kernel
theorem k_160_1 : cd 160 1 = some (.getfield 9, 3) := by decide +kernel
theorem k_160_4 : cd 160 4 = some (.iconst 0, 1) := by decide +kernel
theorem k_160_5 : cd 160 5 = some (.invokestatic 76, 3) := by decide +kernel
theorem k_160_8 : cd 160 8 = some (.iconst 0, 1) := by decide +kernel
theorem k_160_9 : cd 160 9 = some (.istore_n 1, 1) := by decide +kernel
theorem k_160_10 : cd 160 10 = some (.iload_n 1, 1) := by decide +kernel
theorem k_160_11 : cd 160 11 = some (.aload_n 0, 1) := by decide +kernel
theorem k_160_12 : cd 160 12 = some (.invokevirtual 60, 3) := by decide +kernel
theorem k_160_15 : cd 160 15 = some (.if_icmp .ge 99, 3) := by decide +kernel
theorem k_160_18 : cd 160 18 = some (.aload_n 0, 1) := by decide +kernel
theorem k_160_19 : cd 160 19 = some (.iload_n 1, 1) := by decide +kernel
theorem k_160_20 : cd 160 20 = some (.invokevirtual 63, 3) := by decide +kernel
theorem k_160_23 : cd 160 23 = some (.ifCond .eq 85, 3) := by decide +kernel
theorem k_160_26 : cd 160 26 = some (.aload_n 0, 1) := by decide +kernel
theorem k_160_27 : cd 160 27 = some (.invokevirtual 67, 3) := by decide +kernel
theorem k_160_30 : cd 160 30 = some (.ifCond .eq 78, 3) := by decide +kernel
theorem k_160_33 : cd 160 33 = some (.aload_n 0, 1) := by decide +kernel
theorem k_160_34 : cd 160 34 = some (.iload_n 1, 1) := by decide +kernel
theorem k_160_35 : cd 160 35 = some (.invokevirtual 63, 3) := by decide +kernel
theorem k_160_38 : cd 160 38 = some (.pop, 1) := by decide +kernel
theorem k_160_39 : cd 160 39 = some (.iconst 0, 1) := by decide +kernel
theorem k_160_40 : cd 160 40 = some (.istore_n 2, 1) := by decide +kernel
theorem k_160_41 : cd 160 41 = some (.iload_n 2, 1) := by decide +kernel
theorem k_160_42 : cd 160 42 = some (.iconst 5, 1) := by decide +kernel
theorem k_160_43 : cd 160 43 = some (.if_icmp .ge 18, 3) := by decide +kernel
theorem k_160_46 : cd 160 46 = some (.aload_n 0, 1) := by decide +kernel
theorem k_160_47 : cd 160 47 = some (.getfield 23, 3) := by decide +kernel
theorem k_160_50 : cd 160 50 = some (.iconst 0, 1) := by decide +kernel
theorem k_160_51 : cd 160 51 = some (.invokevirtual 56, 3) := by decide +kernel
theorem k_160_54 : cd 160 54 = some (.pop, 1) := by decide +kernel
theorem k_160_55 : cd 160 55 = some (.iinc 2 1, 3) := by decide +kernel
theorem k_160_58 : cd 160 58 = some (.goto (-17), 3) := by decide +kernel
theorem k_160_61 : cd 160 61 = some (.iconst 0, 1) := by decide +kernel
theorem k_160_62 : cd 160 62 = some (.istore_n 2, 1) := by decide +kernel
theorem k_160_63 : cd 160 63 = some (.iload_n 2, 1) := by decide +kernel
theorem k_160_64 : cd 160 64 = some (.aload_n 0, 1) := by decide +kernel
theorem k_160_65 : cd 160 65 = some (.getfield 15, 3) := by decide +kernel
theorem k_160_68 : cd 160 68 = some (.invokevirtual 32, 3) := by decide +kernel
theorem k_160_71 : cd 160 71 = some (.if_icmp .ge 37, 3) := by decide +kernel
theorem k_160_74 : cd 160 74 = some (.iload_n 2, 1) := by decide +kernel
theorem k_160_75 : cd 160 75 = some (.aload_n 0, 1) := by decide +kernel
theorem k_160_76 : cd 160 76 = some (.getfield 9, 3) := by decide +kernel
theorem k_160_79 : cd 160 79 = some (.arraylength, 1) := by decide +kernel
theorem k_160_80 : cd 160 80 = some (.if_icmp .ge 28, 3) := by decide +kernel
theorem k_160_83 : cd 160 83 = some (.aload_n 0, 1) := by decide +kernel
theorem k_160_84 : cd 160 84 = some (.getfield 9, 3) := by decide +kernel
theorem k_160_87 : cd 160 87 = some (.iload_n 2, 1) := by decide +kernel
theorem k_160_88 : cd 160 88 = some (.dup2, 1) := by decide +kernel
theorem k_160_89 : cd 160 89 = some (.iaload, 1) := by decide +kernel
theorem k_160_90 : cd 160 90 = some (.iconst 1, 1) := by decide +kernel
theorem k_160_91 : cd 160 91 = some (.aload_n 0, 1) := by decide +kernel
theorem k_160_92 : cd 160 92 = some (.getfield 23, 3) := by decide +kernel
theorem k_160_95 : cd 160 95 = some (.iload_n 2, 1) := by decide +kernel
theorem k_160_96 : cd 160 96 = some (.invokevirtual 82, 3) := by decide +kernel
theorem k_160_99 : cd 160 99 = some (.ishl, 1) := by decide +kernel
theorem k_160_100 : cd 160 100 = some (.ior, 1) := by decide +kernel
theorem k_160_101 : cd 160 101 = some (.iastore, 1) := by decide +kernel
theorem k_160_102 : cd 160 102 = some (.iinc 2 1, 3) := by decide +kernel
theorem k_160_105 : cd 160 105 = some (.goto (-42), 3) := by decide +kernel
theorem k_160_108 : cd 160 108 = some (.iinc 1 1, 3) := by decide +kernel
theorem k_160_111 : cd 160 111 = some (.goto (-101), 3) := by decide +kernel
theorem k_160_114 : cd 160 114 = some (.return_, 1) := by decide +kernel
theorem po_160 : po 160 = 3 := rfl
noncomputable def C_160_10  (x1 : Int32) (v2 : Value) (σ : pS) : Option pZ := den 160 0 10 [.ref 57, .int x1, v2] [] σ
noncomputable def C_160_41  (x1 : Int32) (x2 : Int32) (σ : pS) : Option pZ := den 160 0 41 [.ref 57, .int x1, .int x2] [] σ
noncomputable def C_160_63  (x1 : Int32) (x2 : Int32) (σ : pS) : Option pZ := den 160 0 63 [.ref 57, .int x1, .int x2] [] σ
theorem T_160_10  {x1 : Int32} {v2 : Value}  {σ : pS} {ρ : Nat → Nat → Option Nat} (e : gR σ = ρ) (hL : LayR ρ) : Le
  (bI (pcall 155 [.ref 57] σ) fun r1 σ1 => if r1 ≤ x1 then some (0, .null, σ1) else bI (pcall 156 [.ref 57, .int x1] σ1) fun r2 σ2 => gd (LayR (gR σ2)) (if r2 = (ι 0) then C_160_10 (x1 + (ι 1)) v2 σ2 else bI (pcall 157 [.ref 57] σ2) fun r3 σ3 => if r3 = (ι 0) then C_160_10 (x1 + (ι 1)) v2 σ3 else bI (pcall 156 [.ref 57, .int x1] σ3) fun r4 σ4 => gd (LayR (gR σ4)) (C_160_41 x1 (ι 0) σ4)))
  (C_160_10  x1 v2 σ) := by
  unfold C_160_10
  exact r_iload_n k_160_10 rfl rfl
    (r_aload_n k_160_11 rfl rfl
    (r_callI (q_virt (rest := [.int x1]) (as := []) k_160_12 po_160 rfl rfl rfl (rcvO rfl rfl rfl) rfl rfl) (lvq (j := 0) rfl (by decide +kernel)) rfl rfl (fun r1 σ1 h1 => r_icmp (tgt := 114) k_160_15 rfl rfl cop_ge
    (r_retV k_160_114 rfl)
    (r_aload_n k_160_18 rfl rfl
    (r_iload_n k_160_19 rfl rfl
    (r_callI (q_virt (rest := []) (as := [.int x1]) k_160_20 po_160 rfl rfl rfl (rcvO rfl rfl rfl) rfl rfl) (lvq (j := 0) rfl (by decide +kernel)) rfl rfl (fun r2 σ2 h2 => r_gd fun L2 => r_if (tgt := 108) k_160_23 rfl rfl cop_eq
    (r_iinc k_160_108 rfl rfl rfl rfl
    (r_goto (tgt := 10) k_160_111 rfl (Le.rfl')))
    (r_aload_n k_160_26 rfl rfl
    (r_callI (q_virt (rest := []) (as := []) k_160_27 po_160 rfl rfl rfl (rcvO rfl rfl rfl) rfl rfl) (lvq (j := 0) rfl (by decide +kernel)) rfl rfl (fun r3 σ3 h3 => r_if (tgt := 108) k_160_30 rfl rfl cop_eq
    (r_iinc k_160_108 rfl rfl rfl rfl
    (r_goto (tgt := 10) k_160_111 rfl (Le.rfl')))
    (r_aload_n k_160_33 rfl rfl
    (r_iload_n k_160_34 rfl rfl
    (r_callI (q_virt (rest := []) (as := [.int x1]) k_160_35 po_160 rfl rfl rfl (rcvO rfl rfl rfl) rfl rfl) (lvq (j := 0) rfl (by decide +kernel)) rfl rfl (fun r4 σ4 h4 => r_gd fun L4 => r_pop k_160_38 rfl rfl
    (r_iconst k_160_39 rfl rfl
    (r_istore_n k_160_40 rfl rfl rfl
    (Le.rfl')))))))))))))))))
theorem T_160_41  {x1 : Int32} {x2 : Int32}  {σ : pS} {ρ : Nat → Nat → Option Nat} (e : gR σ = ρ) (hL : LayR ρ) : Le
  (if (ι 5) ≤ x2 then C_160_63 x1 (ι 0) σ else bI (pcall 71 [.ref 47, .int (ι 0)] σ) fun r1 σ1 => C_160_41 x1 (x2 + (ι 1)) σ1)
  (C_160_41  x1 x2 σ) := by
  unfold C_160_41
  exact r_iload_n k_160_41 rfl rfl
    (r_iconst k_160_42 rfl rfl
    (r_icmp (tgt := 61) k_160_43 rfl rfl cop_ge
    (r_iconst k_160_61 rfl rfl
    (r_istore_n k_160_62 rfl rfl rfl
    (Le.rfl')))
    (r_aload_n k_160_46 rfl rfl
    (r_getR k_160_47 rfl po_160 rfl rfl rfl rfl (gRat e (LayR.at hL (i := 60) rfl))
    (r_iconst k_160_50 rfl rfl
    (r_callI (q_virt (rest := []) (as := [.int (ι 0)]) k_160_51 po_160 rfl rfl rfl (rcvO rfl rfl rfl) rfl rfl) (lvq (j := 0) rfl (by decide +kernel)) rfl rfl (fun r1 σ1 h1 => r_pop k_160_54 rfl rfl
    (r_iinc k_160_55 rfl rfl rfl rfl
    (r_goto (tgt := 41) k_160_58 rfl (Le.rfl'))))))))))
theorem T_160_63  {x1 : Int32} {x2 : Int32}  {σ : pS} {ρ : Nat → Nat → Option Nat} (e : gR σ = ρ) (hL : LayR ρ) : Le
  (bI (pcall 87 [.ref 25] σ) fun r1 σ1 => if r1 ≤ x2 then C_160_10 (x1 + (ι 1)) (.int x2) σ1 else if (ι 12) ≤ x2 then C_160_10 (x1 + (ι 1)) (.int x2) σ1 else gd (inb x2 12) (bI (pcall 75 [.ref 47, .int x2] σ1) fun r2 σ2 => gd (inb x2 12) (C_160_63 x1 (x2 + (ι 1)) (sI σ2 58 (ix x2) ((gI σ1 58 (ix x2)) ||| (shl' (ι 1) r2))))))
  (C_160_63  x1 x2 σ) := by
  unfold C_160_63
  exact r_iload_n k_160_63 rfl rfl
    (r_aload_n k_160_64 rfl rfl
    (r_getR k_160_65 rfl po_160 rfl rfl rfl rfl (gRat e (LayR.at hL (i := 58) rfl))
    (r_callI (q_virt (rest := [.int x2]) (as := []) k_160_68 po_160 rfl rfl rfl (rcvO rfl rfl rfl) rfl rfl) (lvq (j := 0) rfl (by decide +kernel)) rfl rfl (fun r1 σ1 h1 => r_icmp (tgt := 108) k_160_71 rfl rfl cop_ge
    (r_iinc k_160_108 rfl rfl rfl rfl
    (r_goto (tgt := 10) k_160_111 rfl (Le.rfl')))
    (r_iload_n k_160_74 rfl rfl
    (r_aload_n k_160_75 rfl rfl
    (r_getR k_160_76 rfl po_160 rfl rfl rfl rfl (gRat (eC rfl h1 e) (LayR.at hL (i := 61) rfl))
    (r_alenI k_160_79 rfl rfl rfl
    (r_icmp (tgt := 108) k_160_80 rfl rfl cop_ge
    (r_iinc k_160_108 rfl rfl rfl rfl
    (r_goto (tgt := 10) k_160_111 rfl (Le.rfl')))
    (r_aload_n k_160_83 rfl rfl
    (r_getR k_160_84 rfl po_160 rfl rfl rfl rfl (gRat (eC rfl h1 e) (LayR.at hL (i := 61) rfl))
    (r_iload_n k_160_87 rfl rfl
    (r_dup2 k_160_88 rfl rfl rfl
    (r_gd fun g => r_iald k_160_89 rfl rfl g
    (r_iconst k_160_90 rfl rfl
    (r_aload_n k_160_91 rfl rfl
    (r_getR k_160_92 rfl po_160 rfl rfl rfl rfl (gRat (eC rfl h1 e) (LayR.at hL (i := 60) rfl))
    (r_iload_n k_160_95 rfl rfl
    (r_callI (q_virt (rest := [.int (ι 1), .int (gI σ1 58 (ix x2)), .int x2, .ref 58]) (as := [.int x2]) k_160_96 po_160 rfl rfl rfl (rcvO rfl rfl rfl) rfl rfl) (lvq (j := 0) rfl (by decide +kernel)) rfl rfl (fun r2 σ2 h2 => r_ishl k_160_99 rfl
    (r_ior k_160_100 rfl
    (r_gd fun g => r_iast k_160_101 rfl rfl g
    (r_iinc k_160_102 rfl rfl rfl rfl
    (r_goto (tgt := 63) k_160_105 rfl (Le.rfl')))))))))))))))))))))))))
theorem M_160   {σ : pS} {ρ : Nat → Nat → Option Nat} (e : gR σ = ρ) (hL : LayR ρ) : Le
  (bV (pcall 1 [.ref 58, .int (ι 0)] σ) fun σ1 => C_160_10 (ι 0) (.retAddr 0) σ1)
  (pcall 160 [.ref 57] σ) := by
  show Le _ (den 160 0 0 [.ref 57, .retAddr 0, .retAddr 0] [] σ)
  exact r_aload_n k_160_0 rfl rfl
    (r_getR k_160_1 rfl po_160 rfl rfl rfl rfl (gRat e (LayR.at hL (i := 61) rfl))
    (r_iconst k_160_4 rfl rfl
    (r_callV (q_stat (rest := []) (av := [.ref 58, .int (ι 0)]) k_160_5 po_160 rfl (by decide) rfl rfl rfl rfl) (lvq (j := 0) rfl (by decide +kernel)) rfl rfl (fun _ σ1 h1 => r_iconst k_160_8 rfl rfl
    (r_istore_n k_160_9 rfl rfl rfl
    (Le.rfl'))))))
/-! ===== 161 HedgeWants.Guess.thingToLookAt ===== -/
theorem k_161_0 : cd 161 0 = some (.aload_n 0, 1) := by decide +kernel
theorem k_161_1 : cd 161 1 = some (.invokevirtual 90, 3) := by decide +kernel
theorem k_161_4 : cd 161 4 = some (.istore_n 1, 1) := by decide +kernel
theorem k_161_5 : cd 161 5 = some (.iconst 0, 1) := by decide +kernel
theorem k_161_6 : cd 161 6 = some (.istore_n 2, 1) := by decide +kernel
theorem k_161_7 : cd 161 7 = some (.iload_n 2, 1) := by decide +kernel
theorem k_161_8 : cd 161 8 = some (.aload_n 0, 1) := by decide +kernel
theorem k_161_9 : cd 161 9 = some (.getfield 9, 3) := by decide +kernel
theorem k_161_12 : cd 161 12 = some (.arraylength, 1) := by decide +kernel
theorem k_161_13 : cd 161 13 = some (.if_icmp .ge 28, 3) := by decide +kernel
theorem k_161_16 : cd 161 16 = some (.iload_n 1, 1) := by decide +kernel
theorem k_161_17 : cd 161 17 = some (.ifCond .le 18, 3) := by decide +kernel
theorem k_161_20 : cd 161 20 = some (.aload_n 0, 1) := by decide +kernel
theorem k_161_21 : cd 161 21 = some (.getfield 9, 3) := by decide +kernel
theorem k_161_24 : cd 161 24 = some (.iload_n 2, 1) := by decide +kernel
theorem k_161_25 : cd 161 25 = some (.iaload, 1) := by decide +kernel
theorem k_161_26 : cd 161 26 = some (.invokestatic 85, 3) := by decide +kernel
theorem k_161_29 : cd 161 29 = some (.iload_n 1, 1) := by decide +kernel
theorem k_161_30 : cd 161 30 = some (.if_icmp .ne 5, 3) := by decide +kernel
theorem k_161_33 : cd 161 33 = some (.iload_n 2, 1) := by decide +kernel
theorem k_161_34 : cd 161 34 = some (.ireturn, 1) := by decide +kernel
theorem k_161_35 : cd 161 35 = some (.iinc 2 1, 3) := by decide +kernel
theorem k_161_38 : cd 161 38 = some (.goto (-31), 3) := by decide +kernel
theorem k_161_41 : cd 161 41 = some (.iconst (-1), 1) := by decide +kernel
theorem k_161_42 : cd 161 42 = some (.ireturn, 1) := by decide +kernel
theorem po_161 : po 161 = 3 := rfl
noncomputable def C_161_7  (x1 : Int32) (x2 : Int32) (σ : pS) : Option pZ := den 161 0 7 [.ref 57, .int x1, .int x2] [] σ
theorem T_161_7  {x1 : Int32} {x2 : Int32}  {σ : pS} {ρ : Nat → Nat → Option Nat} (e : gR σ = ρ) (hL : LayR ρ) : Le
  (if (ι 12) ≤ x2 then some (1, .int (ν 1), σ) else if x1 ≤ (ι 0) then C_161_7 x1 (x2 + (ι 1)) σ else gd (inb x2 12) (bI (pcall 0 [.int (gI σ 58 (ix x2))] σ) fun r1 σ1 => if ¬ r1 = x1 then C_161_7 x1 (x2 + (ι 1)) σ1 else some (1, .int x2, σ1)))
  (C_161_7  x1 x2 σ) := by
  unfold C_161_7
  exact r_iload_n k_161_7 rfl rfl
    (r_aload_n k_161_8 rfl rfl
    (r_getR k_161_9 rfl po_161 rfl rfl rfl rfl (gRat e (LayR.at hL (i := 61) rfl))
    (r_alenI k_161_12 rfl rfl rfl
    (r_icmp (tgt := 41) k_161_13 rfl rfl cop_ge
    (r_iconst k_161_41 rfl rfl
    (r_ret k_161_42 rfl rfl))
    (r_iload_n k_161_16 rfl rfl
    (r_if (tgt := 35) k_161_17 rfl rfl cop_le
    (r_iinc k_161_35 rfl rfl rfl rfl
    (r_goto (tgt := 7) k_161_38 rfl (Le.rfl')))
    (r_aload_n k_161_20 rfl rfl
    (r_getR k_161_21 rfl po_161 rfl rfl rfl rfl (gRat e (LayR.at hL (i := 61) rfl))
    (r_iload_n k_161_24 rfl rfl
    (r_gd fun g => r_iald k_161_25 rfl rfl g
    (r_callI (q_stat (rest := []) (av := [.int (gI σ 58 (ix x2))]) k_161_26 po_161 rfl (by decide) rfl rfl rfl rfl) (lvq (j := 0) rfl (by decide +kernel)) rfl rfl (fun r1 σ1 h1 => r_iload_n k_161_29 rfl rfl
    (r_icmp (tgt := 35) k_161_30 rfl rfl cop_ne
    (r_iinc k_161_35 rfl rfl rfl rfl
    (r_goto (tgt := 7) k_161_38 rfl (Le.rfl')))
    (r_iload_n k_161_33 rfl rfl
    (r_ret k_161_34 rfl rfl)))))))))))))))
theorem M_161   {σ : pS} {ρ : Nat → Nat → Option Nat} (e : gR σ = ρ) (hL : LayR ρ) : Le
  (bI (pcall 162 [.ref 57] σ) fun r1 σ1 => C_161_7 r1 (ι 0) σ1)
  (pcall 161 [.ref 57] σ) := by
  show Le _ (den 161 0 0 [.ref 57, .retAddr 0, .retAddr 0] [] σ)
  exact r_aload_n k_161_0 rfl rfl
    (r_callI (q_virt (rest := []) (as := []) k_161_1 po_161 rfl rfl rfl (rcvO rfl rfl rfl) rfl rfl) (lvq (j := 0) rfl (by decide +kernel)) rfl rfl (fun r1 σ1 h1 => r_istore_n k_161_4 rfl rfl rfl
    (r_iconst k_161_5 rfl rfl
    (r_istore_n k_161_6 rfl rfl rfl
    (Le.rfl')))))
/-! ===== 162 HedgeWants.Guess.mostOwners ===== -/
theorem k_162_0 : cd 162 0 = some (.iconst 0, 1) := by decide +kernel
theorem k_162_1 : cd 162 1 = some (.istore_n 1, 1) := by decide +kernel
theorem k_162_2 : cd 162 2 = some (.iconst 0, 1) := by decide +kernel
theorem k_162_3 : cd 162 3 = some (.istore_n 2, 1) := by decide +kernel
theorem k_162_4 : cd 162 4 = some (.iload_n 2, 1) := by decide +kernel
theorem k_162_5 : cd 162 5 = some (.aload_n 0, 1) := by decide +kernel
theorem k_162_6 : cd 162 6 = some (.getfield 9, 3) := by decide +kernel
theorem k_162_9 : cd 162 9 = some (.arraylength, 1) := by decide +kernel
theorem k_162_10 : cd 162 10 = some (.if_icmp .ge 23, 3) := by decide +kernel
theorem k_162_13 : cd 162 13 = some (.iload_n 1, 1) := by decide +kernel
theorem k_162_14 : cd 162 14 = some (.aload_n 0, 1) := by decide +kernel
theorem k_162_15 : cd 162 15 = some (.getfield 9, 3) := by decide +kernel
theorem k_162_18 : cd 162 18 = some (.iload_n 2, 1) := by decide +kernel
theorem k_162_19 : cd 162 19 = some (.iaload, 1) := by decide +kernel
theorem k_162_20 : cd 162 20 = some (.invokestatic 85, 3) := by decide +kernel
theorem k_162_23 : cd 162 23 = some (.invokestatic 71, 3) := by decide +kernel
theorem k_162_26 : cd 162 26 = some (.istore_n 1, 1) := by decide +kernel
theorem k_162_27 : cd 162 27 = some (.iinc 2 1, 3) := by decide +kernel
theorem k_162_30 : cd 162 30 = some (.goto (-26), 3) := by decide +kernel
theorem k_162_33 : cd 162 33 = some (.iload_n 1, 1) := by decide +kernel
theorem k_162_34 : cd 162 34 = some (.ireturn, 1) := by decide +kernel
theorem po_162 : po 162 = 3 := rfl
noncomputable def C_162_4  (x1 : Int32) (x2 : Int32) (σ : pS) : Option pZ := den 162 0 4 [.ref 57, .int x1, .int x2] [] σ
theorem T_162_4  {x1 : Int32} {x2 : Int32}  {σ : pS} {ρ : Nat → Nat → Option Nat} (e : gR σ = ρ) (hL : LayR ρ) : Le
  (if (ι 12) ≤ x2 then some (1, .int x1, σ) else gd (inb x2 12) (bI (pcall 0 [.int (gI σ 58 (ix x2))] σ) fun r1 σ1 => C_162_4 (imax x1 r1) (x2 + (ι 1)) σ1))
  (C_162_4  x1 x2 σ) := by
  unfold C_162_4
  exact r_iload_n k_162_4 rfl rfl
    (r_aload_n k_162_5 rfl rfl
    (r_getR k_162_6 rfl po_162 rfl rfl rfl rfl (gRat e (LayR.at hL (i := 61) rfl))
    (r_alenI k_162_9 rfl rfl rfl
    (r_icmp (tgt := 33) k_162_10 rfl rfl cop_ge
    (r_iload_n k_162_33 rfl rfl
    (r_ret k_162_34 rfl rfl))
    (r_iload_n k_162_13 rfl rfl
    (r_aload_n k_162_14 rfl rfl
    (r_getR k_162_15 rfl po_162 rfl rfl rfl rfl (gRat e (LayR.at hL (i := 61) rfl))
    (r_iload_n k_162_18 rfl rfl
    (r_gd fun g => r_iald k_162_19 rfl rfl g
    (r_callI (q_stat (rest := [.int x1]) (av := [.int (gI σ 58 (ix x2))]) k_162_20 po_162 rfl (by decide) rfl rfl rfl rfl) (lvq (j := 0) rfl (by decide +kernel)) rfl rfl (fun r1 σ1 h1 => r_imax k_162_23 rfl po_162 rfl rfl
    (r_istore_n k_162_26 rfl rfl rfl
    (r_iinc k_162_27 rfl rfl rfl rfl
    (r_goto (tgt := 4) k_162_30 rfl (Le.rfl')))))))))))))))
theorem M_162   {σ : pS} {ρ : Nat → Nat → Option Nat} (e : gR σ = ρ) (hL : LayR ρ) : Le
  (C_162_4 (ι 0) (ι 0) σ)
  (pcall 162 [.ref 57] σ) := by
  show Le _ (den 162 0 0 [.ref 57, .retAddr 0, .retAddr 0] [] σ)
  exact r_iconst k_162_0 rfl rfl
    (r_istore_n k_162_1 rfl rfl rfl
    (r_iconst k_162_2 rfl rfl
    (r_istore_n k_162_3 rfl rfl rfl
    (Le.rfl'))))
/-! ===== 164 HedgeWants.feed ===== -/
theorem k_164_0 : cd 164 0 = some (.aload_n 0, 1) := by decide +kernel
theorem k_164_1 : cd 164 1 = some (.getfield 83, 3) := by decide +kernel
theorem k_164_4 : cd 164 4 = some (.bipush 20, 2) := by decide +kernel
theorem k_164_6 : cd 164 6 = some (.iadd, 1) := by decide +kernel
theorem k_164_7 : cd 164 7 = some (.sipush 700, 3) := by decide +kernel
theorem k_164_10 : cd 164 10 = some (.if_icmp .le 5, 3) := by decide +kernel
theorem k_164_13 : cd 164 13 = some (.iconst (-1), 1) := by decide +kernel
theorem k_164_14 : cd 164 14 = some (.ireturn, 1) := by decide +kernel
theorem k_164_15 : cd 164 15 = some (.aload_n 0, 1) := by decide +kernel
theorem k_164_16 : cd 164 16 = some (.iload_n 1, 1) := by decide +kernel
theorem k_164_17 : cd 164 17 = some (.invokevirtual 86, 3) := by decide +kernel
theorem k_164_20 : cd 164 20 = some (.aload_n 0, 1) := by decide +kernel
theorem k_164_21 : cd 164 21 = some (.iload_n 2, 1) := by decide +kernel
theorem k_164_22 : cd 164 22 = some (.invokevirtual 86, 3) := by decide +kernel
theorem k_164_25 : cd 164 25 = some (.aload_n 0, 1) := by decide +kernel
theorem k_164_26 : cd 164 26 = some (.iload_n 3, 1) := by decide +kernel
theorem k_164_27 : cd 164 27 = some (.invokevirtual 86, 3) := by decide +kernel
theorem k_164_30 : cd 164 30 = some (.aload_n 0, 1) := by decide +kernel
theorem k_164_31 : cd 164 31 = some (.iload 4, 2) := by decide +kernel
theorem k_164_33 : cd 164 33 = some (.invokevirtual 86, 3) := by decide +kernel
theorem k_164_36 : cd 164 36 = some (.aload_n 0, 1) := by decide +kernel
theorem k_164_37 : cd 164 37 = some (.iload 5, 2) := by decide +kernel
theorem k_164_39 : cd 164 39 = some (.invokevirtual 86, 3) := by decide +kernel
theorem k_164_42 : cd 164 42 = some (.aload_n 0, 1) := by decide +kernel
theorem k_164_43 : cd 164 43 = some (.getfield 83, 3) := by decide +kernel
theorem k_164_46 : cd 164 46 = some (.ireturn, 1) := by decide +kernel
theorem po_164 : po 164 = 0 := rfl
theorem M_164  {x0 : Int32} {x1 : Int32} {x2 : Int32} {x3 : Int32} {x4 : Int32} {σ : pS} {ρ : Nat → Nat → Option Nat} (e : gR σ = ρ) (hL : LayR ρ) : Le
  (if ((gI σ 0 1) + (ι 20)) ≤ (ι 700) then bV (pcall 165 [.ref 0, .int x0] σ) fun σ1 => bV (pcall 165 [.ref 0, .int x1] σ1) fun σ2 => bV (pcall 165 [.ref 0, .int x2] σ2) fun σ3 => bV (pcall 165 [.ref 0, .int x3] σ3) fun σ4 => bV (pcall 165 [.ref 0, .int x4] σ4) fun σ5 => some (1, .int (gI σ5 0 1), σ5) else some (1, .int (ν 1), σ))
  (pcall 164 [.ref 0, .int x0, .int x1, .int x2, .int x3, .int x4] σ) := by
  show Le _ (den 164 0 0 [.ref 0, .int x0, .int x1, .int x2, .int x3, .int x4] [] σ)
  exact r_aload_n k_164_0 rfl rfl
    (r_getI k_164_1 rfl po_164 rfl rfl rfl rfl
    (r_bipush k_164_4 rfl rfl
    (r_iadd k_164_6 rfl
    (r_sipush k_164_7 rfl rfl
    (r_icmp (tgt := 15) k_164_10 rfl rfl cop_le
    (r_aload_n k_164_15 rfl rfl
    (r_iload_n k_164_16 rfl rfl
    (r_callV (q_virt (rest := []) (as := [.int x0]) k_164_17 po_164 rfl rfl rfl (rcvO rfl rfl rfl) rfl rfl) (lvq (j := 0) rfl (by decide +kernel)) rfl rfl (fun _ σ1 h1 => r_aload_n k_164_20 rfl rfl
    (r_iload_n k_164_21 rfl rfl
    (r_callV (q_virt (rest := []) (as := [.int x1]) k_164_22 po_164 rfl rfl rfl (rcvO rfl rfl rfl) rfl rfl) (lvq (j := 0) rfl (by decide +kernel)) rfl rfl (fun _ σ2 h2 => r_aload_n k_164_25 rfl rfl
    (r_iload_n k_164_26 rfl rfl
    (r_callV (q_virt (rest := []) (as := [.int x2]) k_164_27 po_164 rfl rfl rfl (rcvO rfl rfl rfl) rfl rfl) (lvq (j := 0) rfl (by decide +kernel)) rfl rfl (fun _ σ3 h3 => r_aload_n k_164_30 rfl rfl
    (r_iload k_164_31 rfl rfl
    (r_callV (q_virt (rest := []) (as := [.int x3]) k_164_33 po_164 rfl rfl rfl (rcvO rfl rfl rfl) rfl rfl) (lvq (j := 0) rfl (by decide +kernel)) rfl rfl (fun _ σ4 h4 => r_aload_n k_164_36 rfl rfl
    (r_iload k_164_37 rfl rfl
    (r_callV (q_virt (rest := []) (as := [.int x4]) k_164_39 po_164 rfl rfl rfl (rcvO rfl rfl rfl) rfl rfl) (lvq (j := 0) rfl (by decide +kernel)) rfl rfl (fun _ σ5 h5 => r_aload_n k_164_42 rfl rfl
    (r_getI k_164_43 rfl po_164 rfl rfl rfl rfl
    (r_ret k_164_46 rfl rfl))))))))))))))))))
    (r_iconst k_164_13 rfl rfl
    (r_ret k_164_14 rfl rfl)))))))
/-! ===== 165 HedgeWants.tapeNumber ===== -/
theorem k_165_0 : cd 165 0 = some (.bipush 24, 2) := by decide +kernel
theorem k_165_2 : cd 165 2 = some (.istore_n 2, 1) := by decide +kernel
theorem k_165_3 : cd 165 3 = some (.iload_n 2, 1) := by decide +kernel
theorem k_165_4 : cd 165 4 = some (.ifCond .lt 54, 3) := by decide +kernel
theorem k_165_7 : cd 165 7 = some (.aload_n 0, 1) := by decide +kernel
theorem k_165_8 : cd 165 8 = some (.getfield 83, 3) := by decide +kernel
theorem k_165_11 : cd 165 11 = some (.ifCond .lt 41, 3) := by decide +kernel
theorem k_165_14 : cd 165 14 = some (.aload_n 0, 1) := by decide +kernel
theorem k_165_15 : cd 165 15 = some (.getfield 83, 3) := by decide +kernel
theorem k_165_18 : cd 165 18 = some (.aload_n 0, 1) := by decide +kernel
theorem k_165_19 : cd 165 19 = some (.getfield 9, 3) := by decide +kernel
theorem k_165_22 : cd 165 22 = some (.arraylength, 1) := by decide +kernel
theorem k_165_23 : cd 165 23 = some (.if_icmp .ge 29, 3) := by decide +kernel
theorem k_165_26 : cd 165 26 = some (.aload_n 0, 1) := by decide +kernel
theorem k_165_27 : cd 165 27 = some (.getfield 9, 3) := by decide +kernel
theorem k_165_30 : cd 165 30 = some (.aload_n 0, 1) := by decide +kernel
theorem k_165_31 : cd 165 31 = some (.getfield 83, 3) := by decide +kernel
theorem k_165_34 : cd 165 34 = some (.iload_n 1, 1) := by decide +kernel
theorem k_165_35 : cd 165 35 = some (.iload_n 2, 1) := by decide +kernel
theorem k_165_36 : cd 165 36 = some (.iushr, 1) := by decide +kernel
theorem k_165_37 : cd 165 37 = some (.sipush 255, 3) := by decide +kernel
theorem k_165_40 : cd 165 40 = some (.iand, 1) := by decide +kernel
theorem k_165_41 : cd 165 41 = some (.iastore, 1) := by decide +kernel
theorem k_165_42 : cd 165 42 = some (.aload_n 0, 1) := by decide +kernel
theorem k_165_43 : cd 165 43 = some (.dup, 1) := by decide +kernel
theorem k_165_44 : cd 165 44 = some (.getfield 83, 3) := by decide +kernel
theorem k_165_47 : cd 165 47 = some (.iconst 1, 1) := by decide +kernel
theorem k_165_48 : cd 165 48 = some (.iadd, 1) := by decide +kernel
theorem k_165_49 : cd 165 49 = some (.putfield 83, 3) := by decide +kernel
theorem k_165_52 : cd 165 52 = some (.iinc 2 (-8), 3) := by decide +kernel
theorem k_165_55 : cd 165 55 = some (.goto (-52), 3) := by decide +kernel
theorem k_165_58 : cd 165 58 = some (.return_, 1) := by decide +kernel
theorem po_165 : po 165 = 0 := rfl
noncomputable def C_165_3  (x1 : Int32) (x2 : Int32) (σ : pS) : Option pZ := den 165 0 3 [.ref 0, .int x1, .int x2] [] σ
theorem T_165_3  {x1 : Int32} {x2 : Int32}  {σ : pS} {ρ : Nat → Nat → Option Nat} (e : gR σ = ρ) (hL : LayR ρ) : Le
  (if x2 < (ι 0) then some (0, .null, σ) else if (gI σ 0 1) < (ι 0) then C_165_3 x1 (x2 + (ν 8)) σ else if (ι 700) ≤ (gI σ 0 1) then C_165_3 x1 (x2 + (ν 8)) σ else gd (inb (gI σ 0 1) 700) (C_165_3 x1 (x2 + (ν 8)) (sI (sI σ 1 (ix (gI σ 0 1)) ((ushr x1 x2) &&& (ι 255))) 0 1 ((gI (sI σ 1 (ix (gI σ 0 1)) ((ushr x1 x2) &&& (ι 255))) 0 1) + (ι 1)))))
  (C_165_3  x1 x2 σ) := by
  unfold C_165_3
  exact r_iload_n k_165_3 rfl rfl
    (r_if (tgt := 58) k_165_4 rfl rfl cop_lt
    (r_retV k_165_58 rfl)
    (r_aload_n k_165_7 rfl rfl
    (r_getI k_165_8 rfl po_165 rfl rfl rfl rfl
    (r_if (tgt := 52) k_165_11 rfl rfl cop_lt
    (r_iinc k_165_52 rfl rfl rfl rfl
    (r_goto (tgt := 3) k_165_55 rfl (Le.rfl')))
    (r_aload_n k_165_14 rfl rfl
    (r_getI k_165_15 rfl po_165 rfl rfl rfl rfl
    (r_aload_n k_165_18 rfl rfl
    (r_getR k_165_19 rfl po_165 rfl rfl rfl rfl (gRat e (LayR.at hL (i := 0) rfl))
    (r_alenI k_165_22 rfl rfl rfl
    (r_icmp (tgt := 52) k_165_23 rfl rfl cop_ge
    (r_iinc k_165_52 rfl rfl rfl rfl
    (r_goto (tgt := 3) k_165_55 rfl (Le.rfl')))
    (r_aload_n k_165_26 rfl rfl
    (r_getR k_165_27 rfl po_165 rfl rfl rfl rfl (gRat e (LayR.at hL (i := 0) rfl))
    (r_aload_n k_165_30 rfl rfl
    (r_getI k_165_31 rfl po_165 rfl rfl rfl rfl
    (r_iload_n k_165_34 rfl rfl
    (r_iload_n k_165_35 rfl rfl
    (r_iushr k_165_36 rfl
    (r_sipush k_165_37 rfl rfl
    (r_iand k_165_40 rfl
    (r_gd fun g => r_iast k_165_41 rfl rfl g
    (r_aload_n k_165_42 rfl rfl
    (r_dup k_165_43 rfl rfl
    (r_getI k_165_44 rfl po_165 rfl rfl rfl rfl
    (r_iconst k_165_47 rfl rfl
    (r_iadd k_165_48 rfl
    (r_putI k_165_49 rfl po_165 rfl rfl rfl
    (r_iinc k_165_52 rfl rfl rfl rfl
    (r_goto (tgt := 3) k_165_55 rfl (Le.rfl')))))))))))))))))))))))))))))
theorem M_165  {x0 : Int32} {σ : pS} {ρ : Nat → Nat → Option Nat} (e : gR σ = ρ) (hL : LayR ρ) : Le
  (C_165_3 x0 (ι 24) σ)
  (pcall 165 [.ref 0, .int x0] σ) := by
  show Le _ (den 165 0 0 [.ref 0, .int x0, .retAddr 0] [] σ)
  exact r_bipush k_165_0 rfl rfl
    (r_istore_n k_165_2 rfl rfl rfl
    (Le.rfl'))
/-! ===== 166 HedgeWants.fault ===== -/
theorem k_166_0 : cd 166 0 = some (.aload_n 0, 1) := by decide +kernel
theorem k_166_1 : cd 166 1 = some (.getfield 32, 3) := by decide +kernel
theorem k_166_4 : cd 166 4 = some (.ireturn, 1) := by decide +kernel
theorem po_166 : po 166 = 0 := rfl
theorem M_166   {σ : pS} {ρ : Nat → Nat → Option Nat} (e : gR σ = ρ) (hL : LayR ρ) : Le
  (some (1, .int (gI σ 0 3), σ))
  (pcall 166 [.ref 0] σ) := by
  show Le _ (den 166 0 0 [.ref 0] [] σ)
  exact r_aload_n k_166_0 rfl rfl
    (r_getI k_166_1 rfl po_166 rfl rfl rfl rfl
    (r_ret k_166_4 rfl rfl))
/-! ===== 167 HedgeWants.days ===== -/
theorem k_167_0 : cd 167 0 = some (.iload_n 1, 1) := by decide +kernel
theorem k_167_1 : cd 167 1 = some (.iconst 1, 1) := by decide +kernel
theorem k_167_2 : cd 167 2 = some (.if_icmp .lt 24, 3) := by decide +kernel
theorem k_167_5 : cd 167 5 = some (.iload_n 1, 1) := by decide +kernel
theorem k_167_6 : cd 167 6 = some (.bipush 20, 2) := by decide +kernel
theorem k_167_8 : cd 167 8 = some (.if_icmp .gt 18, 3) := by decide +kernel
theorem k_167_11 : cd 167 11 = some (.aload_n 0, 1) := by decide +kernel
theorem k_167_12 : cd 167 12 = some (.getfield 41, 3) := by decide +kernel
theorem k_167_15 : cd 167 15 = some (.invokevirtual 124, 3) := by decide +kernel
theorem k_167_18 : cd 167 18 = some (.iload_n 1, 1) := by decide +kernel
theorem k_167_19 : cd 167 19 = some (.iadd, 1) := by decide +kernel
theorem k_167_20 : cd 167 20 = some (.sipush 999, 3) := by decide +kernel
theorem k_167_23 : cd 167 23 = some (.if_icmp .le 12, 3) := by decide +kernel
theorem k_167_26 : cd 167 26 = some (.aload_n 0, 1) := by decide +kernel
theorem k_167_27 : cd 167 27 = some (.getfield 48, 3) := by decide +kernel
theorem k_167_30 : cd 167 30 = some (.iconst 1, 1) := by decide +kernel
theorem k_167_31 : cd 167 31 = some (.invokevirtual 104, 3) := by decide +kernel
theorem k_167_34 : cd 167 34 = some (.ireturn, 1) := by decide +kernel
theorem k_167_35 : cd 167 35 = some (.aload_n 0, 1) := by decide +kernel
theorem k_167_36 : cd 167 36 = some (.getfield 48, 3) := by decide +kernel
theorem k_167_39 : cd 167 39 = some (.aload_n 0, 1) := by decide +kernel
theorem k_167_40 : cd 167 40 = some (.getfield 41, 3) := by decide +kernel
theorem k_167_43 : cd 167 43 = some (.invokevirtual 226, 3) := by decide +kernel
theorem k_167_46 : cd 167 46 = some (.iconst 0, 1) := by decide +kernel
theorem k_167_47 : cd 167 47 = some (.istore_n 2, 1) := by decide +kernel
theorem k_167_48 : cd 167 48 = some (.iload_n 2, 1) := by decide +kernel
theorem k_167_49 : cd 167 49 = some (.iload_n 1, 1) := by decide +kernel
theorem k_167_50 : cd 167 50 = some (.if_icmp .ge 18, 3) := by decide +kernel
theorem k_167_53 : cd 167 53 = some (.aload_n 0, 1) := by decide +kernel
theorem k_167_54 : cd 167 54 = some (.getfield 41, 3) := by decide +kernel
theorem k_167_57 : cd 167 57 = some (.iconst 0, 1) := by decide +kernel
theorem k_167_58 : cd 167 58 = some (.invokevirtual 230, 3) := by decide +kernel
theorem k_167_61 : cd 167 61 = some (.pop, 1) := by decide +kernel
theorem k_167_62 : cd 167 62 = some (.iinc 2 1, 3) := by decide +kernel
theorem k_167_65 : cd 167 65 = some (.goto (-17), 3) := by decide +kernel
theorem k_167_68 : cd 167 68 = some (.aload_n 0, 1) := by decide +kernel
theorem k_167_69 : cd 167 69 = some (.getfield 41, 3) := by decide +kernel
theorem k_167_72 : cd 167 72 = some (.invokevirtual 124, 3) := by decide +kernel
theorem k_167_75 : cd 167 75 = some (.ireturn, 1) := by decide +kernel
theorem po_167 : po 167 = 0 := rfl
noncomputable def C_167_48  (x1 : Int32) (x2 : Int32) (σ : pS) : Option pZ := den 167 0 48 [.ref 0, .int x1, .int x2] [] σ
theorem T_167_48  {x1 : Int32} {x2 : Int32}  {σ : pS} {ρ : Nat → Nat → Option Nat} (e : gR σ = ρ) (hL : LayR ρ) : Le
  (if x1 ≤ x2 then bI (pcall 69 [.ref 25] σ) fun r1 σ1 => some (1, .int r1, σ1) else bI (pcall 71 [.ref 25, .int (ι 0)] σ) fun r2 σ2 => C_167_48 x1 (x2 + (ι 1)) σ2)
  (C_167_48  x1 x2 σ) := by
  unfold C_167_48
  exact r_iload_n k_167_48 rfl rfl
    (r_iload_n k_167_49 rfl rfl
    (r_icmp (tgt := 68) k_167_50 rfl rfl cop_ge
    (r_aload_n k_167_68 rfl rfl
    (r_getR k_167_69 rfl po_167 rfl rfl rfl rfl (gRat e (LayR.at hL (i := 2) rfl))
    (r_callI (q_virt (rest := []) (as := []) k_167_72 po_167 rfl rfl rfl (rcvO rfl rfl rfl) rfl rfl) (lvq (j := 0) rfl (by decide +kernel)) rfl rfl (fun r1 σ1 h1 => r_ret k_167_75 rfl rfl))))
    (r_aload_n k_167_53 rfl rfl
    (r_getR k_167_54 rfl po_167 rfl rfl rfl rfl (gRat e (LayR.at hL (i := 2) rfl))
    (r_iconst k_167_57 rfl rfl
    (r_callI (q_virt (rest := []) (as := [.int (ι 0)]) k_167_58 po_167 rfl rfl rfl (rcvO rfl rfl rfl) rfl rfl) (lvq (j := 0) rfl (by decide +kernel)) rfl rfl (fun r2 σ2 h2 => r_pop k_167_61 rfl rfl
    (r_iinc k_167_62 rfl rfl rfl rfl
    (r_goto (tgt := 48) k_167_65 rfl (Le.rfl'))))))))))
theorem M_167  {x0 : Int32} {σ : pS} {ρ : Nat → Nat → Option Nat} (e : gR σ = ρ) (hL : LayR ρ) : Le
  (if x0 < (ι 1) then bI (pcall 104 [.ref 32, .int (ι 1)] σ) fun r1 σ1 => some (1, .int r1, σ1) else if (ι 20) < x0 then bI (pcall 104 [.ref 32, .int (ι 1)] σ) fun r2 σ2 => some (1, .int r2, σ2) else bI (pcall 69 [.ref 25] σ) fun r3 σ3 => if (r3 + x0) ≤ (ι 999) then bV (pcall 105 [.ref 32, .ref 25] σ3) fun σ4 => C_167_48 x0 (ι 0) σ4 else bI (pcall 104 [.ref 32, .int (ι 1)] σ3) fun r5 σ5 => some (1, .int r5, σ5))
  (pcall 167 [.ref 0, .int x0] σ) := by
  show Le _ (den 167 0 0 [.ref 0, .int x0, .retAddr 0] [] σ)
  exact r_iload_n k_167_0 rfl rfl
    (r_iconst k_167_1 rfl rfl
    (r_icmp (tgt := 26) k_167_2 rfl rfl cop_lt
    (r_aload_n k_167_26 rfl rfl
    (r_getR k_167_27 rfl po_167 rfl rfl rfl rfl (gRat e (LayR.at hL (i := 3) rfl))
    (r_iconst k_167_30 rfl rfl
    (r_callI (q_virt (rest := []) (as := [.int (ι 1)]) k_167_31 po_167 rfl rfl rfl (rcvO rfl rfl rfl) rfl rfl) (lvq (j := 0) rfl (by decide +kernel)) rfl rfl (fun r1 σ1 h1 => r_ret k_167_34 rfl rfl)))))
    (r_iload_n k_167_5 rfl rfl
    (r_bipush k_167_6 rfl rfl
    (r_icmp (tgt := 26) k_167_8 rfl rfl cop_gt
    (r_aload_n k_167_26 rfl rfl
    (r_getR k_167_27 rfl po_167 rfl rfl rfl rfl (gRat e (LayR.at hL (i := 3) rfl))
    (r_iconst k_167_30 rfl rfl
    (r_callI (q_virt (rest := []) (as := [.int (ι 1)]) k_167_31 po_167 rfl rfl rfl (rcvO rfl rfl rfl) rfl rfl) (lvq (j := 0) rfl (by decide +kernel)) rfl rfl (fun r2 σ2 h2 => r_ret k_167_34 rfl rfl)))))
    (r_aload_n k_167_11 rfl rfl
    (r_getR k_167_12 rfl po_167 rfl rfl rfl rfl (gRat e (LayR.at hL (i := 2) rfl))
    (r_callI (q_virt (rest := []) (as := []) k_167_15 po_167 rfl rfl rfl (rcvO rfl rfl rfl) rfl rfl) (lvq (j := 0) rfl (by decide +kernel)) rfl rfl (fun r3 σ3 h3 => r_iload_n k_167_18 rfl rfl
    (r_iadd k_167_19 rfl
    (r_sipush k_167_20 rfl rfl
    (r_icmp (tgt := 35) k_167_23 rfl rfl cop_le
    (r_aload_n k_167_35 rfl rfl
    (r_getR k_167_36 rfl po_167 rfl rfl rfl rfl (gRat (eC rfl h3 e) (LayR.at hL (i := 3) rfl))
    (r_aload_n k_167_39 rfl rfl
    (r_getR k_167_40 rfl po_167 rfl rfl rfl rfl (gRat (eC rfl h3 e) (LayR.at hL (i := 2) rfl))
    (r_callV (q_virt (rest := []) (as := [.ref 25]) k_167_43 po_167 rfl rfl rfl (rcvO rfl rfl rfl) rfl rfl) (lvq (j := 0) rfl (by decide +kernel)) rfl rfl (fun _ σ4 h4 => r_iconst k_167_46 rfl rfl
    (r_istore_n k_167_47 rfl rfl rfl
    (Le.rfl'))))))))
    (r_aload_n k_167_26 rfl rfl
    (r_getR k_167_27 rfl po_167 rfl rfl rfl rfl (gRat (eC rfl h3 e) (LayR.at hL (i := 3) rfl))
    (r_iconst k_167_30 rfl rfl
    (r_callI (q_virt (rest := []) (as := [.int (ι 1)]) k_167_31 po_167 rfl rfl rfl (rcvO rfl rfl rfl) rfl rfl) (lvq (j := 0) rfl (by decide +kernel)) rfl rfl (fun r5 σ5 h5 => r_ret k_167_34 rfl rfl)))))))))))))))))
/-! ===== 168 HedgeWants.hasBit ===== -/
theorem k_168_0 : cd 168 0 = some (.iload_n 1, 1) := by decide +kernel
theorem k_168_1 : cd 168 1 = some (.ifCond .lt 22, 3) := by decide +kernel
theorem k_168_4 : cd 168 4 = some (.iload_n 1, 1) := by decide +kernel
theorem k_168_5 : cd 168 5 = some (.bipush 32, 2) := by decide +kernel
theorem k_168_7 : cd 168 7 = some (.if_icmp .ge 16, 3) := by decide +kernel
theorem k_168_10 : cd 168 10 = some (.iload_n 0, 1) := by decide +kernel
theorem k_168_11 : cd 168 11 = some (.iload_n 1, 1) := by decide +kernel
theorem k_168_12 : cd 168 12 = some (.iushr, 1) := by decide +kernel
theorem k_168_13 : cd 168 13 = some (.iconst 1, 1) := by decide +kernel
theorem k_168_14 : cd 168 14 = some (.iand, 1) := by decide +kernel
theorem k_168_15 : cd 168 15 = some (.iconst 1, 1) := by decide +kernel
theorem k_168_16 : cd 168 16 = some (.if_icmp .ne 7, 3) := by decide +kernel
theorem k_168_19 : cd 168 19 = some (.iconst 1, 1) := by decide +kernel
theorem k_168_20 : cd 168 20 = some (.goto 4, 3) := by decide +kernel
theorem k_168_23 : cd 168 23 = some (.iconst 0, 1) := by decide +kernel
theorem k_168_24 : cd 168 24 = some (.ireturn, 1) := by decide +kernel
theorem po_168 : po 168 = 0 := rfl
theorem M_168  {x0 : Int32} {x1 : Int32} {σ : pS} {ρ : Nat → Nat → Option Nat} (e : gR σ = ρ) (hL : LayR ρ) : Le
  (if x1 < (ι 0) then some (1, .int (ι 0), σ) else if (ι 32) ≤ x1 then some (1, .int (ι 0), σ) else if ¬ ((ushr x0 x1) &&& (ι 1)) = (ι 1) then some (1, .int (ι 0), σ) else some (1, .int (ι 1), σ))
  (pcall 168 [.int x0, .int x1] σ) := by
  show Le _ (den 168 0 0 [.int x0, .int x1] [] σ)
  exact r_iload_n k_168_0 rfl rfl
    (r_if (tgt := 23) k_168_1 rfl rfl cop_lt
    (r_iconst k_168_23 rfl rfl
    (r_ret k_168_24 rfl rfl))
    (r_iload_n k_168_4 rfl rfl
    (r_bipush k_168_5 rfl rfl
    (r_icmp (tgt := 23) k_168_7 rfl rfl cop_ge
    (r_iconst k_168_23 rfl rfl
    (r_ret k_168_24 rfl rfl))
    (r_iload_n k_168_10 rfl rfl
    (r_iload_n k_168_11 rfl rfl
    (r_iushr k_168_12 rfl
    (r_iconst k_168_13 rfl rfl
    (r_iand k_168_14 rfl
    (r_iconst k_168_15 rfl rfl
    (r_icmp (tgt := 23) k_168_16 rfl rfl cop_ne
    (r_iconst k_168_23 rfl rfl
    (r_ret k_168_24 rfl rfl))
    (r_iconst k_168_19 rfl rfl
    (r_goto (tgt := 24) k_168_20 rfl (r_ret k_168_24 rfl rfl))))))))))))))
/-! ===== 169 HedgeWants.undo ===== -/
theorem k_169_0 : cd 169 0 = some (.aload_n 0, 1) := by decide +kernel
theorem k_169_1 : cd 169 1 = some (.getfield 48, 3) := by decide +kernel
theorem k_169_4 : cd 169 4 = some (.aload_n 0, 1) := by decide +kernel
theorem k_169_5 : cd 169 5 = some (.getfield 41, 3) := by decide +kernel
theorem k_169_8 : cd 169 8 = some (.invokevirtual 254, 3) := by decide +kernel
theorem k_169_11 : cd 169 11 = some (.ifCond .eq 13, 3) := by decide +kernel
theorem k_169_14 : cd 169 14 = some (.aload_n 0, 1) := by decide +kernel
theorem k_169_15 : cd 169 15 = some (.getfield 48, 3) := by decide +kernel
theorem k_169_18 : cd 169 18 = some (.invokevirtual 157, 3) := by decide +kernel
theorem k_169_21 : cd 169 21 = some (.goto 4, 3) := by decide +kernel
theorem k_169_24 : cd 169 24 = some (.iconst (-1), 1) := by decide +kernel
theorem k_169_25 : cd 169 25 = some (.ireturn, 1) := by decide +kernel
theorem po_169 : po 169 = 0 := rfl
theorem M_169   {σ : pS} {ρ : Nat → Nat → Option Nat} (e : gR σ = ρ) (hL : LayR ρ) : Le
  (bI (pcall 106 [.ref 32, .ref 25] σ) fun r1 σ1 => if r1 = (ι 0) then some (1, .int (ν 1), σ1) else bI (pcall 107 [.ref 32] σ1) fun r2 σ2 => some (1, .int r2, σ2))
  (pcall 169 [.ref 0] σ) := by
  show Le _ (den 169 0 0 [.ref 0] [] σ)
  exact r_aload_n k_169_0 rfl rfl
    (r_getR k_169_1 rfl po_169 rfl rfl rfl rfl (gRat e (LayR.at hL (i := 3) rfl))
    (r_aload_n k_169_4 rfl rfl
    (r_getR k_169_5 rfl po_169 rfl rfl rfl rfl (gRat e (LayR.at hL (i := 2) rfl))
    (r_callI (q_virt (rest := []) (as := [.ref 25]) k_169_8 po_169 rfl rfl rfl (rcvO rfl rfl rfl) rfl rfl) (lvq (j := 0) rfl (by decide +kernel)) rfl rfl (fun r1 σ1 h1 => r_if (tgt := 24) k_169_11 rfl rfl cop_eq
    (r_iconst k_169_24 rfl rfl
    (r_ret k_169_25 rfl rfl))
    (r_aload_n k_169_14 rfl rfl
    (r_getR k_169_15 rfl po_169 rfl rfl rfl rfl (gRat (eC rfl h1 e) (LayR.at hL (i := 3) rfl))
    (r_callI (q_virt (rest := []) (as := []) k_169_18 po_169 rfl rfl rfl (rcvO rfl rfl rfl) rfl rfl) (lvq (j := 0) rfl (by decide +kernel)) rfl rfl (fun r2 σ2 h2 => r_goto (tgt := 25) k_169_21 rfl (r_ret k_169_25 rfl rfl))))))))))
/-! ===== 170 HedgeWants.forget ===== -/
theorem k_170_0 : cd 170 0 = some (.aload_n 0, 1) := by decide +kernel
theorem k_170_1 : cd 170 1 = some (.getfield 48, 3) := by decide +kernel
theorem k_170_4 : cd 170 4 = some (.invokevirtual 343, 3) := by decide +kernel
theorem k_170_7 : cd 170 7 = some (.return_, 1) := by decide +kernel
theorem po_170 : po 170 = 0 := rfl
theorem M_170   {σ : pS} {ρ : Nat → Nat → Option Nat} (e : gR σ = ρ) (hL : LayR ρ) : Le
  (bV (pcall 108 [.ref 32] σ) fun σ1 => some (0, .null, σ1))
  (pcall 170 [.ref 0] σ) := by
  show Le _ (den 170 0 0 [.ref 0] [] σ)
  exact r_aload_n k_170_0 rfl rfl
    (r_getR k_170_1 rfl po_170 rfl rfl rfl rfl (gRat e (LayR.at hL (i := 3) rfl))
    (r_callV (q_virt (rest := []) (as := []) k_170_4 po_170 rfl rfl rfl (rcvO rfl rfl rfl) rfl rfl) (lvq (j := 0) rfl (by decide +kernel)) rfl rfl (fun _ σ1 h1 => r_retV k_170_7 rfl)))
/-! ===== 171 HedgeWants.image ===== -/
theorem k_171_0 : cd 171 0 = some (.aload_n 0, 1) := by decide +kernel
theorem k_171_1 : cd 171 1 = some (.getfield 52, 3) := by decide +kernel
theorem k_171_4 : cd 171 4 = some (.aload_n 0, 1) := by decide +kernel
theorem k_171_5 : cd 171 5 = some (.getfield 41, 3) := by decide +kernel
theorem k_171_8 : cd 171 8 = some (.invokevirtual 364, 3) := by decide +kernel
theorem k_171_11 : cd 171 11 = some (.aload_n 0, 1) := by decide +kernel
theorem k_171_12 : cd 171 12 = some (.getfield 55, 3) := by decide +kernel
theorem k_171_15 : cd 171 15 = some (.aload_n 0, 1) := by decide +kernel
theorem k_171_16 : cd 171 16 = some (.getfield 48, 3) := by decide +kernel
theorem k_171_19 : cd 171 19 = some (.invokevirtual 367, 3) := by decide +kernel
theorem k_171_22 : cd 171 22 = some (.aload_n 0, 1) := by decide +kernel
theorem k_171_23 : cd 171 23 = some (.iconst 1, 1) := by decide +kernel
theorem k_171_24 : cd 171 24 = some (.putfield 114, 3) := by decide +kernel
theorem k_171_27 : cd 171 27 = some (.return_, 1) := by decide +kernel
theorem po_171 : po 171 = 0 := rfl
theorem M_171   {σ : pS} {ρ : Nat → Nat → Option Nat} (e : gR σ = ρ) (hL : LayR ρ) : Le
  (bV (pcall 84 [.ref 36, .ref 25] σ) fun σ1 => gd (LayR (gR σ1)) (bV (pcall 109 [.ref 43, .ref 32] σ1) fun σ2 => some (0, .null, (sI σ2 0 10 (ι 1)))))
  (pcall 171 [.ref 0] σ) := by
  show Le _ (den 171 0 0 [.ref 0] [] σ)
  exact r_aload_n k_171_0 rfl rfl
    (r_getR k_171_1 rfl po_171 rfl rfl rfl rfl (gRat e (LayR.at hL (i := 4) rfl))
    (r_aload_n k_171_4 rfl rfl
    (r_getR k_171_5 rfl po_171 rfl rfl rfl rfl (gRat e (LayR.at hL (i := 2) rfl))
    (r_callV (q_virt (rest := []) (as := [.ref 25]) k_171_8 po_171 rfl rfl rfl (rcvO rfl rfl rfl) rfl rfl) (lvq (j := 0) rfl (by decide +kernel)) rfl rfl (fun _ σ1 h1 => r_gd fun L1 => r_aload_n k_171_11 rfl rfl
    (r_getR k_171_12 rfl po_171 rfl rfl rfl rfl (gRat rfl (LayR.at L1 (i := 5) rfl))
    (r_aload_n k_171_15 rfl rfl
    (r_getR k_171_16 rfl po_171 rfl rfl rfl rfl (gRat rfl (LayR.at L1 (i := 3) rfl))
    (r_callV (q_virt (rest := []) (as := [.ref 32]) k_171_19 po_171 rfl rfl rfl (rcvO rfl rfl rfl) rfl rfl) (lvq (j := 0) rfl (by decide +kernel)) rfl rfl (fun _ σ2 h2 => r_aload_n k_171_22 rfl rfl
    (r_iconst k_171_23 rfl rfl
    (r_putZ k_171_24 rfl po_171 rfl rfl rfl (by decide)
    (r_retV k_171_27 rfl)))))))))))))
/-! ===== 172 HedgeWants.restore ===== -/
theorem k_172_0 : cd 172 0 = some (.aload_n 0, 1) := by decide +kernel
theorem k_172_1 : cd 172 1 = some (.getfield 114, 3) := by decide +kernel
theorem k_172_4 : cd 172 4 = some (.ifCond .ne 5, 3) := by decide +kernel
theorem k_172_7 : cd 172 7 = some (.iconst 0, 1) := by decide +kernel
theorem k_172_8 : cd 172 8 = some (.ireturn, 1) := by decide +kernel
theorem k_172_9 : cd 172 9 = some (.aload_n 0, 1) := by decide +kernel
theorem k_172_10 : cd 172 10 = some (.getfield 41, 3) := by decide +kernel
theorem k_172_13 : cd 172 13 = some (.aload_n 0, 1) := by decide +kernel
theorem k_172_14 : cd 172 14 = some (.getfield 52, 3) := by decide +kernel
theorem k_172_17 : cd 172 17 = some (.invokevirtual 364, 3) := by decide +kernel
theorem k_172_20 : cd 172 20 = some (.aload_n 0, 1) := by decide +kernel
theorem k_172_21 : cd 172 21 = some (.getfield 48, 3) := by decide +kernel
theorem k_172_24 : cd 172 24 = some (.aload_n 0, 1) := by decide +kernel
theorem k_172_25 : cd 172 25 = some (.getfield 55, 3) := by decide +kernel
theorem k_172_28 : cd 172 28 = some (.invokevirtual 367, 3) := by decide +kernel
theorem k_172_31 : cd 172 31 = some (.iconst 1, 1) := by decide +kernel
theorem k_172_32 : cd 172 32 = some (.ireturn, 1) := by decide +kernel
theorem po_172 : po 172 = 0 := rfl
theorem M_172   {σ : pS} {ρ : Nat → Nat → Option Nat} (e : gR σ = ρ) (hL : LayR ρ) : Le
  (if ¬ (gI σ 0 10) = (ι 0) then bV (pcall 84 [.ref 25, .ref 36] σ) fun σ1 => gd (LayR (gR σ1)) (bV (pcall 109 [.ref 32, .ref 43] σ1) fun σ2 => some (1, .int (ι 1), σ2)) else some (1, .int (ι 0), σ))
  (pcall 172 [.ref 0] σ) := by
  show Le _ (den 172 0 0 [.ref 0] [] σ)
  exact r_aload_n k_172_0 rfl rfl
    (r_getI k_172_1 rfl po_172 rfl rfl rfl rfl
    (r_if (tgt := 9) k_172_4 rfl rfl cop_ne
    (r_aload_n k_172_9 rfl rfl
    (r_getR k_172_10 rfl po_172 rfl rfl rfl rfl (gRat e (LayR.at hL (i := 2) rfl))
    (r_aload_n k_172_13 rfl rfl
    (r_getR k_172_14 rfl po_172 rfl rfl rfl rfl (gRat e (LayR.at hL (i := 4) rfl))
    (r_callV (q_virt (rest := []) (as := [.ref 36]) k_172_17 po_172 rfl rfl rfl (rcvO rfl rfl rfl) rfl rfl) (lvq (j := 0) rfl (by decide +kernel)) rfl rfl (fun _ σ1 h1 => r_gd fun L1 => r_aload_n k_172_20 rfl rfl
    (r_getR k_172_21 rfl po_172 rfl rfl rfl rfl (gRat rfl (LayR.at L1 (i := 3) rfl))
    (r_aload_n k_172_24 rfl rfl
    (r_getR k_172_25 rfl po_172 rfl rfl rfl rfl (gRat rfl (LayR.at L1 (i := 5) rfl))
    (r_callV (q_virt (rest := []) (as := [.ref 43]) k_172_28 po_172 rfl rfl rfl (rcvO rfl rfl rfl) rfl rfl) (lvq (j := 0) rfl (by decide +kernel)) rfl rfl (fun _ σ2 h2 => r_iconst k_172_31 rfl rfl
    (r_ret k_172_32 rfl rfl))))))))))))
    (r_iconst k_172_7 rfl rfl
    (r_ret k_172_8 rfl rfl))))
/-! ===== 173 HedgeWants.province ===== -/
theorem k_173_0 : cd 173 0 = some (.iload_n 1, 1) := by decide +kernel
theorem k_173_1 : cd 173 1 = some (.ifCond .lt 11, 3) := by decide +kernel
theorem k_173_4 : cd 173 4 = some (.iload_n 1, 1) := by decide +kernel
theorem k_173_5 : cd 173 5 = some (.aload_n 0, 1) := by decide +kernel
theorem k_173_6 : cd 173 6 = some (.getfield 83, 3) := by decide +kernel
theorem k_173_9 : cd 173 9 = some (.if_icmp .le 13, 3) := by decide +kernel
theorem k_173_12 : cd 173 12 = some (.new 90, 3) := by decide +kernel
theorem k_173_15 : cd 173 15 = some (.dup, 1) := by decide +kernel
theorem k_173_16 : cd 173 16 = some (.ldc 92, 2) := by decide +kernel
theorem k_173_18 : cd 173 18 = some (.invokespecial 94, 3) := by decide +kernel
theorem k_173_21 : cd 173 21 = some (.athrow, 1) := by decide +kernel
theorem k_173_22 : cd 173 22 = some (.aload_n 0, 1) := by decide +kernel
theorem k_173_23 : cd 173 23 = some (.iconst 0, 1) := by decide +kernel
theorem k_173_24 : cd 173 24 = some (.putfield 83, 3) := by decide +kernel
theorem k_173_27 : cd 173 27 = some (.aload_n 0, 1) := by decide +kernel
theorem k_173_28 : cd 173 28 = some (.getfield 28, 3) := by decide +kernel
theorem k_173_31 : cd 173 31 = some (.iload_n 1, 1) := by decide +kernel
theorem k_173_32 : cd 173 32 = some (.aload_n 0, 1) := by decide +kernel
theorem k_173_33 : cd 173 33 = some (.getfield 20, 3) := by decide +kernel
theorem k_173_36 : cd 173 36 = some (.invokevirtual 97, 3) := by decide +kernel
theorem k_173_39 : cd 173 39 = some (.istore_n 2, 1) := by decide +kernel
theorem k_173_40 : cd 173 40 = some (.aload_n 0, 1) := by decide +kernel
theorem k_173_41 : cd 173 41 = some (.aload_n 0, 1) := by decide +kernel
theorem k_173_42 : cd 173 42 = some (.getfield 28, 3) := by decide +kernel
theorem k_173_45 : cd 173 45 = some (.invokevirtual 101, 3) := by decide +kernel
theorem k_173_48 : cd 173 48 = some (.putfield 32, 3) := by decide +kernel
theorem k_173_51 : cd 173 51 = some (.iload_n 2, 1) := by decide +kernel
theorem k_173_52 : cd 173 52 = some (.ifCond .eq 14, 3) := by decide +kernel
theorem k_173_55 : cd 173 55 = some (.aload_n 0, 1) := by decide +kernel
theorem k_173_56 : cd 173 56 = some (.getfield 48, 3) := by decide +kernel
theorem k_173_59 : cd 173 59 = some (.iconst 0, 1) := by decide +kernel
theorem k_173_60 : cd 173 60 = some (.invokevirtual 104, 3) := by decide +kernel
theorem k_173_63 : cd 173 63 = some (.pop, 1) := by decide +kernel
theorem k_173_64 : cd 173 64 = some (.iload_n 2, 1) := by decide +kernel
theorem k_173_65 : cd 173 65 = some (.ireturn, 1) := by decide +kernel
theorem k_173_66 : cd 173 66 = some (.aload_n 0, 1) := by decide +kernel
theorem k_173_67 : cd 173 67 = some (.getfield 16, 3) := by decide +kernel
theorem k_173_70 : cd 173 70 = some (.astore_n 3, 1) := by decide +kernel
theorem k_173_71 : cd 173 71 = some (.aload_n 0, 1) := by decide +kernel
theorem k_173_72 : cd 173 72 = some (.aload_n 0, 1) := by decide +kernel
theorem k_173_73 : cd 173 73 = some (.getfield 20, 3) := by decide +kernel
theorem k_173_76 : cd 173 76 = some (.putfield 16, 3) := by decide +kernel
theorem k_173_79 : cd 173 79 = some (.aload_n 0, 1) := by decide +kernel
theorem k_173_80 : cd 173 80 = some (.aload_n 3, 1) := by decide +kernel
theorem k_173_81 : cd 173 81 = some (.putfield 20, 3) := by decide +kernel
theorem k_173_84 : cd 173 84 = some (.aload_n 0, 1) := by decide +kernel
theorem k_173_85 : cd 173 85 = some (.getfield 41, 3) := by decide +kernel
theorem k_173_88 : cd 173 88 = some (.aload_n 0, 1) := by decide +kernel
theorem k_173_89 : cd 173 89 = some (.getfield 16, 3) := by decide +kernel
theorem k_173_92 : cd 173 92 = some (.invokevirtual 108, 3) := by decide +kernel
theorem k_173_95 : cd 173 95 = some (.aload_n 0, 1) := by decide +kernel
theorem k_173_96 : cd 173 96 = some (.getfield 48, 3) := by decide +kernel
theorem k_173_99 : cd 173 99 = some (.invokevirtual 111, 3) := by decide +kernel
theorem k_173_102 : cd 173 102 = some (.aload_n 0, 1) := by decide +kernel
theorem k_173_103 : cd 173 103 = some (.iconst 0, 1) := by decide +kernel
theorem k_173_104 : cd 173 104 = some (.putfield 114, 3) := by decide +kernel
theorem k_173_107 : cd 173 107 = some (.iconst 0, 1) := by decide +kernel
theorem k_173_108 : cd 173 108 = some (.ireturn, 1) := by decide +kernel
theorem po_173 : po 173 = 0 := rfl
theorem M_173  {x0 : Int32} {σ : pS} {ρ : Nat → Nat → Option Nat} (e : gR σ = ρ) (hL : LayR ρ) : Le
  (if x0 < (ι 0) then some (2, .null, sX σ) else if x0 ≤ (gI σ 0 1) then bG isP (gR (sI σ 0 1 (ι 0)) 0 5) fun q1 => bI (pcall 42 [.ref 24, .int x0, .ref q1] (sI σ 0 1 (ι 0))) fun r2 σ2 => gd (LayR (gR σ2)) (bI (pcall 67 [.ref 24] σ2) fun r3 σ3 => if r2 = (ι 0) then bG isP (gR (sI σ3 0 3 r3) 0 4) fun q4 => bG isP (gR (sI σ3 0 3 r3) 0 5) fun q5 => gd (LayR (gR (sR (sI σ3 0 3 r3) 0 4 (some q5)))) (gd (LayR (gR (sR (sR (sI σ3 0 3 r3) 0 4 (some q5)) 0 5 (some q4)))) (bG isP (gR (sR (sR (sI σ3 0 3 r3) 0 4 (some q5)) 0 5 (some q4)) 0 4) fun q8 => bV (pcall 85 [.ref 25, .ref q8] (sR (sR (sI σ3 0 3 r3) 0 4 (some q5)) 0 5 (some q4))) fun σ9 => gd (LayR (gR σ9)) (bV (pcall 110 [.ref 32] σ9) fun σ10 => some (1, .int (ι 0), (sI σ10 0 10 (ι 0)))))) else bI (pcall 104 [.ref 32, .int (ι 0)] (sI σ3 0 3 r3)) fun r11 σ11 => some (1, .int r2, σ11)) else some (2, .null, sX σ))
  (pcall 173 [.ref 0, .int x0] σ) := by
  show Le _ (den 173 0 0 [.ref 0, .int x0, .retAddr 0, .retAddr 0] [] σ)
  exact r_iload_n k_173_0 rfl rfl
    (r_if (tgt := 12) k_173_1 rfl rfl cop_lt
    (r_thr (x := 0) k_173_12 po_173 rfl k_173_15 k_173_16 rfl k_173_18 k_173_21 rfl rfl rfl)
    (r_iload_n k_173_4 rfl rfl
    (r_aload_n k_173_5 rfl rfl
    (r_getI k_173_6 rfl po_173 rfl rfl rfl rfl
    (r_icmp (tgt := 22) k_173_9 rfl rfl cop_le
    (r_aload_n k_173_22 rfl rfl
    (r_iconst k_173_23 rfl rfl
    (r_putI k_173_24 rfl po_173 rfl rfl rfl
    (r_aload_n k_173_27 rfl rfl
    (r_getR k_173_28 rfl po_173 rfl rfl rfl rfl (gRat (eI e) (LayR.at hL (i := 1) rfl))
    (r_iload_n k_173_31 rfl rfl
    (r_aload_n k_173_32 rfl rfl
    (r_getG k_173_33 rfl po_173 rfl rfl rfl rfl fun q1 hq1 => r_callI (q_virt (rest := []) (as := [.int x0, .ref q1]) k_173_36 po_173 rfl rfl rfl (rcvO rfl rfl rfl) rfl rfl) (lvq (j := 0) rfl (by decide +kernel)) rfl rfl (fun r2 σ2 h2 => r_gd fun L2 => r_istore_n k_173_39 rfl rfl rfl
    (r_aload_n k_173_40 rfl rfl
    (r_aload_n k_173_41 rfl rfl
    (r_getR k_173_42 rfl po_173 rfl rfl rfl rfl (gRat rfl (LayR.at L2 (i := 1) rfl))
    (r_callI (q_virt (rest := [.ref 0]) (as := []) k_173_45 po_173 rfl rfl rfl (rcvO rfl rfl rfl) rfl rfl) (lvq (j := 0) rfl (by decide +kernel)) rfl rfl (fun r3 σ3 h3 => r_putI k_173_48 rfl po_173 rfl rfl rfl
    (r_iload_n k_173_51 rfl rfl
    (r_if (tgt := 66) k_173_52 rfl rfl cop_eq
    (r_aload_n k_173_66 rfl rfl
    (r_getG k_173_67 rfl po_173 rfl rfl rfl rfl fun q4 hq4 => r_astore_n k_173_70 rfl rfl rfl
    (r_aload_n k_173_71 rfl rfl
    (r_aload_n k_173_72 rfl rfl
    (r_getG k_173_73 rfl po_173 rfl rfl rfl rfl fun q5 hq5 => r_gd fun L6 => r_putR k_173_76 rfl po_173 rfl rfl (Or.inl rfl) rfl
    (r_aload_n k_173_79 rfl rfl
    (r_aload_n k_173_80 rfl rfl
    (r_gd fun L7 => r_putR k_173_81 rfl po_173 rfl rfl (Or.inl rfl) rfl
    (r_aload_n k_173_84 rfl rfl
    (r_getR k_173_85 rfl po_173 rfl rfl rfl rfl (gRat rfl (LayR.at L7 (i := 2) rfl))
    (r_aload_n k_173_88 rfl rfl
    (r_getG k_173_89 rfl po_173 rfl rfl rfl rfl fun q8 hq8 => r_callV (q_virt (rest := []) (as := [.ref q8]) k_173_92 po_173 rfl rfl rfl (rcvO rfl rfl rfl) rfl rfl) (lvq (j := 0) rfl (by decide +kernel)) rfl rfl (fun _ σ9 h9 => r_gd fun L9 => r_aload_n k_173_95 rfl rfl
    (r_getR k_173_96 rfl po_173 rfl rfl rfl rfl (gRat rfl (LayR.at L9 (i := 3) rfl))
    (r_callV (q_virt (rest := []) (as := []) k_173_99 po_173 rfl rfl rfl (rcvO rfl rfl rfl) rfl rfl) (lvq (j := 0) rfl (by decide +kernel)) rfl rfl (fun _ σ10 h10 => r_aload_n k_173_102 rfl rfl
    (r_iconst k_173_103 rfl rfl
    (r_putZ k_173_104 rfl po_173 rfl rfl rfl (by decide)
    (r_iconst k_173_107 rfl rfl
    (r_ret k_173_108 rfl rfl))))))))))))))))))))
    (r_aload_n k_173_55 rfl rfl
    (r_getR k_173_56 rfl po_173 rfl rfl rfl rfl (gRat (eI (eC rfl h3 rfl)) (LayR.at L2 (i := 3) rfl))
    (r_iconst k_173_59 rfl rfl
    (r_callI (q_virt (rest := []) (as := [.int (ι 0)]) k_173_60 po_173 rfl rfl rfl (rcvO rfl rfl rfl) rfl rfl) (lvq (j := 0) rfl (by decide +kernel)) rfl rfl (fun r11 σ11 h11 => r_pop k_173_63 rfl rfl
    (r_iload_n k_173_64 rfl rfl
    (r_ret k_173_65 rfl rfl)))))))))))))))))))))))
    (r_thr (x := 0) k_173_12 po_173 rfl k_173_15 k_173_16 rfl k_173_18 k_173_21 rfl rfl rfl))))))
/-! ===== 174 HedgeWants.count ===== -/
theorem k_174_0 : cd 174 0 = some (.iload_n 1, 1) := by decide +kernel
theorem k_174_1 : cd 174 1 = some (.tableswitch 227 0 16 #[83, 91, 99, 107, 115, 123, 131, 139, 155, 163, 171, 179, 187, 195, 200, 209, 218], 83) := by decide +kernel
theorem k_174_84 : cd 174 84 = some (.aload_n 0, 1) := by decide +kernel
theorem k_174_85 : cd 174 85 = some (.getfield 41, 3) := by decide +kernel
theorem k_174_88 : cd 174 88 = some (.invokevirtual 118, 3) := by decide +kernel
theorem k_174_91 : cd 174 91 = some (.ireturn, 1) := by decide +kernel
theorem k_174_92 : cd 174 92 = some (.aload_n 0, 1) := by decide +kernel
theorem k_174_93 : cd 174 93 = some (.getfield 41, 3) := by decide +kernel
theorem k_174_96 : cd 174 96 = some (.invokevirtual 121, 3) := by decide +kernel
theorem k_174_99 : cd 174 99 = some (.ireturn, 1) := by decide +kernel
theorem k_174_100 : cd 174 100 = some (.aload_n 0, 1) := by decide +kernel
theorem k_174_101 : cd 174 101 = some (.getfield 41, 3) := by decide +kernel
theorem k_174_104 : cd 174 104 = some (.invokevirtual 124, 3) := by decide +kernel
theorem k_174_107 : cd 174 107 = some (.ireturn, 1) := by decide +kernel
theorem k_174_108 : cd 174 108 = some (.aload_n 0, 1) := by decide +kernel
theorem k_174_109 : cd 174 109 = some (.getfield 41, 3) := by decide +kernel
theorem k_174_112 : cd 174 112 = some (.invokevirtual 127, 3) := by decide +kernel
theorem k_174_115 : cd 174 115 = some (.ireturn, 1) := by decide +kernel
theorem k_174_116 : cd 174 116 = some (.aload_n 0, 1) := by decide +kernel
theorem k_174_117 : cd 174 117 = some (.getfield 41, 3) := by decide +kernel
theorem k_174_120 : cd 174 120 = some (.invokestatic 130, 3) := by decide +kernel
theorem k_174_123 : cd 174 123 = some (.ireturn, 1) := by decide +kernel
theorem k_174_124 : cd 174 124 = some (.aload_n 0, 1) := by decide +kernel
theorem k_174_125 : cd 174 125 = some (.getfield 41, 3) := by decide +kernel
theorem k_174_128 : cd 174 128 = some (.invokestatic 136, 3) := by decide +kernel
theorem k_174_131 : cd 174 131 = some (.ireturn, 1) := by decide +kernel
theorem k_174_132 : cd 174 132 = some (.aload_n 0, 1) := by decide +kernel
theorem k_174_133 : cd 174 133 = some (.getfield 41, 3) := by decide +kernel
theorem k_174_136 : cd 174 136 = some (.invokestatic 139, 3) := by decide +kernel
theorem k_174_139 : cd 174 139 = some (.ireturn, 1) := by decide +kernel
theorem k_174_140 : cd 174 140 = some (.aload_n 0, 1) := by decide +kernel
theorem k_174_141 : cd 174 141 = some (.getfield 41, 3) := by decide +kernel
theorem k_174_144 : cd 174 144 = some (.invokestatic 142, 3) := by decide +kernel
theorem k_174_147 : cd 174 147 = some (.ifCond .eq 7, 3) := by decide +kernel
theorem k_174_150 : cd 174 150 = some (.iconst 1, 1) := by decide +kernel
theorem k_174_151 : cd 174 151 = some (.goto 4, 3) := by decide +kernel
theorem k_174_154 : cd 174 154 = some (.iconst 0, 1) := by decide +kernel
theorem k_174_155 : cd 174 155 = some (.ireturn, 1) := by decide +kernel
theorem k_174_156 : cd 174 156 = some (.aload_n 0, 1) := by decide +kernel
theorem k_174_157 : cd 174 157 = some (.getfield 41, 3) := by decide +kernel
theorem k_174_160 : cd 174 160 = some (.invokestatic 146, 3) := by decide +kernel
theorem k_174_163 : cd 174 163 = some (.ireturn, 1) := by decide +kernel
theorem k_174_164 : cd 174 164 = some (.aload_n 0, 1) := by decide +kernel
theorem k_174_165 : cd 174 165 = some (.getfield 41, 3) := by decide +kernel
theorem k_174_168 : cd 174 168 = some (.invokestatic 151, 3) := by decide +kernel
theorem k_174_171 : cd 174 171 = some (.ireturn, 1) := by decide +kernel
theorem k_174_172 : cd 174 172 = some (.aload_n 0, 1) := by decide +kernel
theorem k_174_173 : cd 174 173 = some (.getfield 41, 3) := by decide +kernel
theorem k_174_176 : cd 174 176 = some (.invokevirtual 154, 3) := by decide +kernel
theorem k_174_179 : cd 174 179 = some (.ireturn, 1) := by decide +kernel
theorem k_174_180 : cd 174 180 = some (.aload_n 0, 1) := by decide +kernel
theorem k_174_181 : cd 174 181 = some (.getfield 48, 3) := by decide +kernel
theorem k_174_184 : cd 174 184 = some (.invokevirtual 157, 3) := by decide +kernel
theorem k_174_187 : cd 174 187 = some (.ireturn, 1) := by decide +kernel
theorem k_174_188 : cd 174 188 = some (.aload_n 0, 1) := by decide +kernel
theorem k_174_189 : cd 174 189 = some (.getfield 48, 3) := by decide +kernel
theorem k_174_192 : cd 174 192 = some (.invokevirtual 160, 3) := by decide +kernel
theorem k_174_195 : cd 174 195 = some (.ireturn, 1) := by decide +kernel
theorem k_174_196 : cd 174 196 = some (.aload_n 0, 1) := by decide +kernel
theorem k_174_197 : cd 174 197 = some (.getfield 83, 3) := by decide +kernel
theorem k_174_200 : cd 174 200 = some (.ireturn, 1) := by decide +kernel
theorem k_174_201 : cd 174 201 = some (.aload_n 0, 1) := by decide +kernel
theorem k_174_202 : cd 174 202 = some (.getfield 48, 3) := by decide +kernel
theorem k_174_205 : cd 174 205 = some (.iconst 0, 1) := by decide +kernel
theorem k_174_206 : cd 174 206 = some (.invokevirtual 163, 3) := by decide +kernel
theorem k_174_209 : cd 174 209 = some (.ireturn, 1) := by decide +kernel
theorem k_174_210 : cd 174 210 = some (.aload_n 0, 1) := by decide +kernel
theorem k_174_211 : cd 174 211 = some (.getfield 48, 3) := by decide +kernel
theorem k_174_214 : cd 174 214 = some (.iconst 1, 1) := by decide +kernel
theorem k_174_215 : cd 174 215 = some (.invokevirtual 163, 3) := by decide +kernel
theorem k_174_218 : cd 174 218 = some (.ireturn, 1) := by decide +kernel
theorem k_174_219 : cd 174 219 = some (.aload_n 0, 1) := by decide +kernel
theorem k_174_220 : cd 174 220 = some (.getfield 48, 3) := by decide +kernel
theorem k_174_223 : cd 174 223 = some (.iconst 2, 1) := by decide +kernel
theorem k_174_224 : cd 174 224 = some (.invokevirtual 163, 3) := by decide +kernel
theorem k_174_227 : cd 174 227 = some (.ireturn, 1) := by decide +kernel
theorem k_174_228 : cd 174 228 = some (.new 166, 3) := by decide +kernel
theorem k_174_231 : cd 174 231 = some (.dup, 1) := by decide +kernel
theorem k_174_232 : cd 174 232 = some (.ldc 168, 2) := by decide +kernel
theorem k_174_234 : cd 174 234 = some (.invokespecial 170, 3) := by decide +kernel
theorem k_174_237 : cd 174 237 = some (.athrow, 1) := by decide +kernel
theorem po_174 : po 174 = 0 := rfl
theorem M_174  {x0 : Int32} {σ : pS} {ρ : Nat → Nat → Option Nat} (e : gR σ = ρ) (hL : LayR ρ) : Le
  (if x0 = (ι 0) then bI (pcall 86 [.ref 25] σ) fun r32 σ32 => some (1, .int r32, σ32) else if x0 = (ι 1) then bI (pcall 87 [.ref 25] σ) fun r30 σ30 => some (1, .int r30, σ30) else if x0 = (ι 2) then bI (pcall 69 [.ref 25] σ) fun r28 σ28 => some (1, .int r28, σ28) else if x0 = (ι 3) then bI (pcall 88 [.ref 25] σ) fun r26 σ26 => some (1, .int r26, σ26) else if x0 = (ι 4) then bI (pcall 116 [.ref 25] σ) fun r24 σ24 => some (1, .int r24, σ24) else if x0 = (ι 5) then bI (pcall 118 [.ref 25] σ) fun r22 σ22 => some (1, .int r22, σ22) else if x0 = (ι 6) then bI (pcall 120 [.ref 25] σ) fun r20 σ20 => some (1, .int r20, σ20) else if x0 = (ι 7) then bI (pcall 121 [.ref 25] σ) fun r18 σ18 => if r18 = (ι 0) then some (1, .int (ι 0), σ18) else some (1, .int (ι 1), σ18) else if x0 = (ι 8) then bI (pcall 122 [.ref 25] σ) fun r16 σ16 => some (1, .int r16, σ16) else if x0 = (ι 9) then bI (pcall 125 [.ref 25] σ) fun r14 σ14 => some (1, .int r14, σ14) else if x0 = (ι 10) then bI (pcall 92 [.ref 25] σ) fun r12 σ12 => some (1, .int r12, σ12) else if x0 = (ι 11) then bI (pcall 107 [.ref 32] σ) fun r10 σ10 => some (1, .int r10, σ10) else if x0 = (ι 12) then bI (pcall 111 [.ref 32] σ) fun r8 σ8 => some (1, .int r8, σ8) else if x0 = (ι 13) then some (1, .int (gI σ 0 1), σ) else if x0 = (ι 14) then bI (pcall 112 [.ref 32, .int (ι 0)] σ) fun r5 σ5 => some (1, .int r5, σ5) else if x0 = (ι 15) then bI (pcall 112 [.ref 32, .int (ι 1)] σ) fun r3 σ3 => some (1, .int r3, σ3) else if x0 = (ι 16) then bI (pcall 112 [.ref 32, .int (ι 2)] σ) fun r1 σ1 => some (1, .int r1, σ1) else gd (x0.toInt < 0 ∨ 16 < x0.toInt) (some (3, .null, sX σ)))
  (pcall 174 [.ref 0, .int x0] σ) := by
  show Le _ (den 174 0 0 [.ref 0, .int x0] [] σ)
  exact r_iload_n k_174_0 rfl rfl
    (r_case (fun c33 => r_tabGo (off := 83) (tgt := 84) c33 k_174_1 (by decide) (by decide) rfl (r_aload_n k_174_84 rfl rfl
    (r_getR k_174_85 rfl po_174 rfl rfl rfl rfl (gRat e (LayR.at hL (i := 2) rfl))
    (r_callI (q_virt (rest := []) (as := []) k_174_88 po_174 rfl rfl rfl (rcvO rfl rfl rfl) rfl rfl) (lvq (j := 0) rfl (by decide +kernel)) rfl rfl (fun r32 σ32 h32 => r_ret k_174_91 rfl rfl))))) (fun _ => r_case (fun c31 => r_tabGo (off := 91) (tgt := 92) c31 k_174_1 (by decide) (by decide) rfl (r_aload_n k_174_92 rfl rfl
    (r_getR k_174_93 rfl po_174 rfl rfl rfl rfl (gRat e (LayR.at hL (i := 2) rfl))
    (r_callI (q_virt (rest := []) (as := []) k_174_96 po_174 rfl rfl rfl (rcvO rfl rfl rfl) rfl rfl) (lvq (j := 0) rfl (by decide +kernel)) rfl rfl (fun r30 σ30 h30 => r_ret k_174_99 rfl rfl))))) (fun _ => r_case (fun c29 => r_tabGo (off := 99) (tgt := 100) c29 k_174_1 (by decide) (by decide) rfl (r_aload_n k_174_100 rfl rfl
    (r_getR k_174_101 rfl po_174 rfl rfl rfl rfl (gRat e (LayR.at hL (i := 2) rfl))
    (r_callI (q_virt (rest := []) (as := []) k_174_104 po_174 rfl rfl rfl (rcvO rfl rfl rfl) rfl rfl) (lvq (j := 0) rfl (by decide +kernel)) rfl rfl (fun r28 σ28 h28 => r_ret k_174_107 rfl rfl))))) (fun _ => r_case (fun c27 => r_tabGo (off := 107) (tgt := 108) c27 k_174_1 (by decide) (by decide) rfl (r_aload_n k_174_108 rfl rfl
    (r_getR k_174_109 rfl po_174 rfl rfl rfl rfl (gRat e (LayR.at hL (i := 2) rfl))
    (r_callI (q_virt (rest := []) (as := []) k_174_112 po_174 rfl rfl rfl (rcvO rfl rfl rfl) rfl rfl) (lvq (j := 0) rfl (by decide +kernel)) rfl rfl (fun r26 σ26 h26 => r_ret k_174_115 rfl rfl))))) (fun _ => r_case (fun c25 => r_tabGo (off := 115) (tgt := 116) c25 k_174_1 (by decide) (by decide) rfl (r_aload_n k_174_116 rfl rfl
    (r_getR k_174_117 rfl po_174 rfl rfl rfl rfl (gRat e (LayR.at hL (i := 2) rfl))
    (r_callI (q_stat (rest := []) (av := [.ref 25]) k_174_120 po_174 rfl (by decide) rfl rfl rfl rfl) (lvq (j := 0) rfl (by decide +kernel)) rfl rfl (fun r24 σ24 h24 => r_ret k_174_123 rfl rfl))))) (fun _ => r_case (fun c23 => r_tabGo (off := 123) (tgt := 124) c23 k_174_1 (by decide) (by decide) rfl (r_aload_n k_174_124 rfl rfl
    (r_getR k_174_125 rfl po_174 rfl rfl rfl rfl (gRat e (LayR.at hL (i := 2) rfl))
    (r_callI (q_stat (rest := []) (av := [.ref 25]) k_174_128 po_174 rfl (by decide) rfl rfl rfl rfl) (lvq (j := 0) rfl (by decide +kernel)) rfl rfl (fun r22 σ22 h22 => r_ret k_174_131 rfl rfl))))) (fun _ => r_case (fun c21 => r_tabGo (off := 131) (tgt := 132) c21 k_174_1 (by decide) (by decide) rfl (r_aload_n k_174_132 rfl rfl
    (r_getR k_174_133 rfl po_174 rfl rfl rfl rfl (gRat e (LayR.at hL (i := 2) rfl))
    (r_callI (q_stat (rest := []) (av := [.ref 25]) k_174_136 po_174 rfl (by decide) rfl rfl rfl rfl) (lvq (j := 0) rfl (by decide +kernel)) rfl rfl (fun r20 σ20 h20 => r_ret k_174_139 rfl rfl))))) (fun _ => r_case (fun c19 => r_tabGo (off := 139) (tgt := 140) c19 k_174_1 (by decide) (by decide) rfl (r_aload_n k_174_140 rfl rfl
    (r_getR k_174_141 rfl po_174 rfl rfl rfl rfl (gRat e (LayR.at hL (i := 2) rfl))
    (r_callI (q_stat (rest := []) (av := [.ref 25]) k_174_144 po_174 rfl (by decide) rfl rfl rfl rfl) (lvq (j := 0) rfl (by decide +kernel)) rfl rfl (fun r18 σ18 h18 => r_if (tgt := 154) k_174_147 rfl rfl cop_eq
    (r_iconst k_174_154 rfl rfl
    (r_ret k_174_155 rfl rfl))
    (r_iconst k_174_150 rfl rfl
    (r_goto (tgt := 155) k_174_151 rfl (r_ret k_174_155 rfl rfl)))))))) (fun _ => r_case (fun c17 => r_tabGo (off := 155) (tgt := 156) c17 k_174_1 (by decide) (by decide) rfl (r_aload_n k_174_156 rfl rfl
    (r_getR k_174_157 rfl po_174 rfl rfl rfl rfl (gRat e (LayR.at hL (i := 2) rfl))
    (r_callI (q_stat (rest := []) (av := [.ref 25]) k_174_160 po_174 rfl (by decide) rfl rfl rfl rfl) (lvq (j := 0) rfl (by decide +kernel)) rfl rfl (fun r16 σ16 h16 => r_ret k_174_163 rfl rfl))))) (fun _ => r_case (fun c15 => r_tabGo (off := 163) (tgt := 164) c15 k_174_1 (by decide) (by decide) rfl (r_aload_n k_174_164 rfl rfl
    (r_getR k_174_165 rfl po_174 rfl rfl rfl rfl (gRat e (LayR.at hL (i := 2) rfl))
    (r_callI (q_stat (rest := []) (av := [.ref 25]) k_174_168 po_174 rfl (by decide) rfl rfl rfl rfl) (lvq (j := 0) rfl (by decide +kernel)) rfl rfl (fun r14 σ14 h14 => r_ret k_174_171 rfl rfl))))) (fun _ => r_case (fun c13 => r_tabGo (off := 171) (tgt := 172) c13 k_174_1 (by decide) (by decide) rfl (r_aload_n k_174_172 rfl rfl
    (r_getR k_174_173 rfl po_174 rfl rfl rfl rfl (gRat e (LayR.at hL (i := 2) rfl))
    (r_callI (q_virt (rest := []) (as := []) k_174_176 po_174 rfl rfl rfl (rcvO rfl rfl rfl) rfl rfl) (lvq (j := 0) rfl (by decide +kernel)) rfl rfl (fun r12 σ12 h12 => r_ret k_174_179 rfl rfl))))) (fun _ => r_case (fun c11 => r_tabGo (off := 179) (tgt := 180) c11 k_174_1 (by decide) (by decide) rfl (r_aload_n k_174_180 rfl rfl
    (r_getR k_174_181 rfl po_174 rfl rfl rfl rfl (gRat e (LayR.at hL (i := 3) rfl))
    (r_callI (q_virt (rest := []) (as := []) k_174_184 po_174 rfl rfl rfl (rcvO rfl rfl rfl) rfl rfl) (lvq (j := 0) rfl (by decide +kernel)) rfl rfl (fun r10 σ10 h10 => r_ret k_174_187 rfl rfl))))) (fun _ => r_case (fun c9 => r_tabGo (off := 187) (tgt := 188) c9 k_174_1 (by decide) (by decide) rfl (r_aload_n k_174_188 rfl rfl
    (r_getR k_174_189 rfl po_174 rfl rfl rfl rfl (gRat e (LayR.at hL (i := 3) rfl))
    (r_callI (q_virt (rest := []) (as := []) k_174_192 po_174 rfl rfl rfl (rcvO rfl rfl rfl) rfl rfl) (lvq (j := 0) rfl (by decide +kernel)) rfl rfl (fun r8 σ8 h8 => r_ret k_174_195 rfl rfl))))) (fun _ => r_case (fun c7 => r_tabGo (off := 195) (tgt := 196) c7 k_174_1 (by decide) (by decide) rfl (r_aload_n k_174_196 rfl rfl
    (r_getI k_174_197 rfl po_174 rfl rfl rfl rfl
    (r_ret k_174_200 rfl rfl)))) (fun _ => r_case (fun c6 => r_tabGo (off := 200) (tgt := 201) c6 k_174_1 (by decide) (by decide) rfl (r_aload_n k_174_201 rfl rfl
    (r_getR k_174_202 rfl po_174 rfl rfl rfl rfl (gRat e (LayR.at hL (i := 3) rfl))
    (r_iconst k_174_205 rfl rfl
    (r_callI (q_virt (rest := []) (as := [.int (ι 0)]) k_174_206 po_174 rfl rfl rfl (rcvO rfl rfl rfl) rfl rfl) (lvq (j := 0) rfl (by decide +kernel)) rfl rfl (fun r5 σ5 h5 => r_ret k_174_209 rfl rfl)))))) (fun _ => r_case (fun c4 => r_tabGo (off := 209) (tgt := 210) c4 k_174_1 (by decide) (by decide) rfl (r_aload_n k_174_210 rfl rfl
    (r_getR k_174_211 rfl po_174 rfl rfl rfl rfl (gRat e (LayR.at hL (i := 3) rfl))
    (r_iconst k_174_214 rfl rfl
    (r_callI (q_virt (rest := []) (as := [.int (ι 1)]) k_174_215 po_174 rfl rfl rfl (rcvO rfl rfl rfl) rfl rfl) (lvq (j := 0) rfl (by decide +kernel)) rfl rfl (fun r3 σ3 h3 => r_ret k_174_218 rfl rfl)))))) (fun _ => r_case (fun c2 => r_tabGo (off := 218) (tgt := 219) c2 k_174_1 (by decide) (by decide) rfl (r_aload_n k_174_219 rfl rfl
    (r_getR k_174_220 rfl po_174 rfl rfl rfl rfl (gRat e (LayR.at hL (i := 3) rfl))
    (r_iconst k_174_223 rfl rfl
    (r_callI (q_virt (rest := []) (as := [.int (ι 2)]) k_174_224 po_174 rfl rfl rfl (rcvO rfl rfl rfl) rfl rfl) (lvq (j := 0) rfl (by decide +kernel)) rfl rfl (fun r1 σ1 h1 => r_ret k_174_227 rfl rfl)))))) (fun _ => r_gd fun g => r_tabOut (tgt := 228) k_174_1 g rfl (r_thr (x := 1) k_174_228 po_174 rfl k_174_231 k_174_232 rfl k_174_234 k_174_237 rfl rfl rfl)))))))))))))))))))
/-! ===== 175 HedgeWants.person ===== -/
theorem k_175_0 : cd 175 0 = some (.aload_n 0, 1) := by decide +kernel
theorem k_175_1 : cd 175 1 = some (.iload_n 1, 1) := by decide +kernel
theorem k_175_2 : cd 175 2 = some (.invokevirtual 171, 3) := by decide +kernel
theorem k_175_5 : cd 175 5 = some (.iload_n 2, 1) := by decide +kernel
theorem k_175_6 : cd 175 6 = some (.tableswitch 79 0 4 #[34, 43, 52, 61, 70], 34) := by decide +kernel
theorem k_175_40 : cd 175 40 = some (.aload_n 0, 1) := by decide +kernel
theorem k_175_41 : cd 175 41 = some (.getfield 16, 3) := by decide +kernel
theorem k_175_44 : cd 175 44 = some (.iload_n 1, 1) := by decide +kernel
theorem k_175_45 : cd 175 45 = some (.invokevirtual 174, 3) := by decide +kernel
theorem k_175_48 : cd 175 48 = some (.ireturn, 1) := by decide +kernel
theorem k_175_49 : cd 175 49 = some (.aload_n 0, 1) := by decide +kernel
theorem k_175_50 : cd 175 50 = some (.getfield 41, 3) := by decide +kernel
theorem k_175_53 : cd 175 53 = some (.iload_n 1, 1) := by decide +kernel
theorem k_175_54 : cd 175 54 = some (.invokevirtual 177, 3) := by decide +kernel
theorem k_175_57 : cd 175 57 = some (.ireturn, 1) := by decide +kernel
theorem k_175_58 : cd 175 58 = some (.aload_n 0, 1) := by decide +kernel
theorem k_175_59 : cd 175 59 = some (.getfield 41, 3) := by decide +kernel
theorem k_175_62 : cd 175 62 = some (.iload_n 1, 1) := by decide +kernel
theorem k_175_63 : cd 175 63 = some (.invokevirtual 180, 3) := by decide +kernel
theorem k_175_66 : cd 175 66 = some (.ireturn, 1) := by decide +kernel
theorem k_175_67 : cd 175 67 = some (.aload_n 0, 1) := by decide +kernel
theorem k_175_68 : cd 175 68 = some (.getfield 41, 3) := by decide +kernel
theorem k_175_71 : cd 175 71 = some (.iload_n 1, 1) := by decide +kernel
theorem k_175_72 : cd 175 72 = some (.invokevirtual 183, 3) := by decide +kernel
theorem k_175_75 : cd 175 75 = some (.ireturn, 1) := by decide +kernel
theorem k_175_76 : cd 175 76 = some (.aload_n 0, 1) := by decide +kernel
theorem k_175_77 : cd 175 77 = some (.getfield 41, 3) := by decide +kernel
theorem k_175_80 : cd 175 80 = some (.iload_n 1, 1) := by decide +kernel
theorem k_175_81 : cd 175 81 = some (.invokevirtual 186, 3) := by decide +kernel
theorem k_175_84 : cd 175 84 = some (.ireturn, 1) := by decide +kernel
theorem k_175_85 : cd 175 85 = some (.new 166, 3) := by decide +kernel
theorem k_175_88 : cd 175 88 = some (.dup, 1) := by decide +kernel
theorem k_175_89 : cd 175 89 = some (.ldc 189, 2) := by decide +kernel
theorem k_175_91 : cd 175 91 = some (.invokespecial 170, 3) := by decide +kernel
theorem k_175_94 : cd 175 94 = some (.athrow, 1) := by decide +kernel
theorem po_175 : po 175 = 0 := rfl
theorem M_175  {x0 : Int32} {x1 : Int32} {σ : pS} {ρ : Nat → Nat → Option Nat} (e : gR σ = ρ) (hL : LayR ρ) : Le
  (bV (pcall 176 [.ref 0, .int x0] σ) fun σ1 => if x1 = (ι 0) then bG isP (gR σ1 0 4) fun q10 => bI (pcall 27 [.ref q10, .int x0] σ1) fun r11 σ11 => some (1, .int r11, σ11) else if x1 = (ι 1) then bI (pcall 93 [.ref 25, .int x0] σ1) fun r8 σ8 => some (1, .int r8, σ8) else if x1 = (ι 2) then bI (pcall 90 [.ref 25, .int x0] σ1) fun r6 σ6 => some (1, .int r6, σ6) else if x1 = (ι 3) then bI (pcall 78 [.ref 25, .int x0] σ1) fun r4 σ4 => some (1, .int r4, σ4) else if x1 = (ι 4) then bI (pcall 94 [.ref 25, .int x0] σ1) fun r2 σ2 => some (1, .int r2, σ2) else gd (x1.toInt < 0 ∨ 4 < x1.toInt) (some (3, .null, sX σ1)))
  (pcall 175 [.ref 0, .int x0, .int x1] σ) := by
  show Le _ (den 175 0 0 [.ref 0, .int x0, .int x1] [] σ)
  exact r_aload_n k_175_0 rfl rfl
    (r_iload_n k_175_1 rfl rfl
    (r_callV (q_virt (rest := []) (as := [.int x0]) k_175_2 po_175 rfl rfl rfl (rcvO rfl rfl rfl) rfl rfl) (lvq (j := 0) rfl (by decide +kernel)) rfl rfl (fun _ σ1 h1 => r_iload_n k_175_5 rfl rfl
    (r_case (fun c12 => r_tabGo (off := 34) (tgt := 40) c12 k_175_6 (by decide) (by decide) rfl (r_aload_n k_175_40 rfl rfl
    (r_getG k_175_41 rfl po_175 rfl rfl rfl rfl fun q10 hq10 => r_iload_n k_175_44 rfl rfl
    (r_callI (q_virt (rest := []) (as := [.int x0]) k_175_45 po_175 rfl rfl rfl (rcvO rfl rfl (kdP hq10)) rfl rfl) (lvq (j := 0) rfl (by decide +kernel)) rfl rfl (fun r11 σ11 h11 => r_ret k_175_48 rfl rfl))))) (fun _ => r_case (fun c9 => r_tabGo (off := 43) (tgt := 49) c9 k_175_6 (by decide) (by decide) rfl (r_aload_n k_175_49 rfl rfl
    (r_getR k_175_50 rfl po_175 rfl rfl rfl rfl (gRat (eC rfl h1 e) (LayR.at hL (i := 2) rfl))
    (r_iload_n k_175_53 rfl rfl
    (r_callI (q_virt (rest := []) (as := [.int x0]) k_175_54 po_175 rfl rfl rfl (rcvO rfl rfl rfl) rfl rfl) (lvq (j := 0) rfl (by decide +kernel)) rfl rfl (fun r8 σ8 h8 => r_ret k_175_57 rfl rfl)))))) (fun _ => r_case (fun c7 => r_tabGo (off := 52) (tgt := 58) c7 k_175_6 (by decide) (by decide) rfl (r_aload_n k_175_58 rfl rfl
    (r_getR k_175_59 rfl po_175 rfl rfl rfl rfl (gRat (eC rfl h1 e) (LayR.at hL (i := 2) rfl))
    (r_iload_n k_175_62 rfl rfl
    (r_callI (q_virt (rest := []) (as := [.int x0]) k_175_63 po_175 rfl rfl rfl (rcvO rfl rfl rfl) rfl rfl) (lvq (j := 0) rfl (by decide +kernel)) rfl rfl (fun r6 σ6 h6 => r_ret k_175_66 rfl rfl)))))) (fun _ => r_case (fun c5 => r_tabGo (off := 61) (tgt := 67) c5 k_175_6 (by decide) (by decide) rfl (r_aload_n k_175_67 rfl rfl
    (r_getR k_175_68 rfl po_175 rfl rfl rfl rfl (gRat (eC rfl h1 e) (LayR.at hL (i := 2) rfl))
    (r_iload_n k_175_71 rfl rfl
    (r_callI (q_virt (rest := []) (as := [.int x0]) k_175_72 po_175 rfl rfl rfl (rcvO rfl rfl rfl) rfl rfl) (lvq (j := 0) rfl (by decide +kernel)) rfl rfl (fun r4 σ4 h4 => r_ret k_175_75 rfl rfl)))))) (fun _ => r_case (fun c3 => r_tabGo (off := 70) (tgt := 76) c3 k_175_6 (by decide) (by decide) rfl (r_aload_n k_175_76 rfl rfl
    (r_getR k_175_77 rfl po_175 rfl rfl rfl rfl (gRat (eC rfl h1 e) (LayR.at hL (i := 2) rfl))
    (r_iload_n k_175_80 rfl rfl
    (r_callI (q_virt (rest := []) (as := [.int x0]) k_175_81 po_175 rfl rfl rfl (rcvO rfl rfl rfl) rfl rfl) (lvq (j := 0) rfl (by decide +kernel)) rfl rfl (fun r2 σ2 h2 => r_ret k_175_84 rfl rfl)))))) (fun _ => r_gd fun g => r_tabOut (tgt := 85) k_175_6 g rfl (r_thr (x := 1) k_175_85 po_175 rfl k_175_88 k_175_89 rfl k_175_91 k_175_94 rfl rfl rfl))))))))))
/-! ===== 176 HedgeWants.checkPerson ===== -/
theorem k_176_0 : cd 176 0 = some (.iload_n 1, 1) := by decide +kernel
theorem k_176_1 : cd 176 1 = some (.ifCond .lt 14, 3) := by decide +kernel
theorem k_176_4 : cd 176 4 = some (.iload_n 1, 1) := by decide +kernel
theorem k_176_5 : cd 176 5 = some (.aload_n 0, 1) := by decide +kernel
theorem k_176_6 : cd 176 6 = some (.getfield 41, 3) := by decide +kernel
theorem k_176_9 : cd 176 9 = some (.invokevirtual 118, 3) := by decide +kernel
theorem k_176_12 : cd 176 12 = some (.if_icmp .lt 14, 3) := by decide +kernel
theorem k_176_15 : cd 176 15 = some (.new 166, 3) := by decide +kernel
theorem k_176_18 : cd 176 18 = some (.dup, 1) := by decide +kernel
theorem k_176_19 : cd 176 19 = some (.ldc_w 370, 3) := by decide +kernel
theorem k_176_22 : cd 176 22 = some (.invokespecial 170, 3) := by decide +kernel
theorem k_176_25 : cd 176 25 = some (.athrow, 1) := by decide +kernel
theorem k_176_26 : cd 176 26 = some (.return_, 1) := by decide +kernel
theorem po_176 : po 176 = 0 := rfl
theorem M_176  {x0 : Int32} {σ : pS} {ρ : Nat → Nat → Option Nat} (e : gR σ = ρ) (hL : LayR ρ) : Le
  (if x0 < (ι 0) then some (3, .null, sX σ) else bI (pcall 86 [.ref 25] σ) fun r1 σ1 => if x0 < r1 then some (0, .null, σ1) else some (3, .null, sX σ1))
  (pcall 176 [.ref 0, .int x0] σ) := by
  show Le _ (den 176 0 0 [.ref 0, .int x0] [] σ)
  exact r_iload_n k_176_0 rfl rfl
    (r_if (tgt := 15) k_176_1 rfl rfl cop_lt
    (r_thrw (x := 1) k_176_15 po_176 rfl k_176_18 k_176_19 rfl k_176_22 k_176_25 rfl rfl rfl)
    (r_iload_n k_176_4 rfl rfl
    (r_aload_n k_176_5 rfl rfl
    (r_getR k_176_6 rfl po_176 rfl rfl rfl rfl (gRat e (LayR.at hL (i := 2) rfl))
    (r_callI (q_virt (rest := [.int x0]) (as := []) k_176_9 po_176 rfl rfl rfl (rcvO rfl rfl rfl) rfl rfl) (lvq (j := 0) rfl (by decide +kernel)) rfl rfl (fun r1 σ1 h1 => r_icmp (tgt := 26) k_176_12 rfl rfl cop_lt
    (r_retV k_176_26 rfl)
    (r_thrw (x := 1) k_176_15 po_176 rfl k_176_18 k_176_19 rfl k_176_22 k_176_25 rfl rfl rfl)))))))
/-! ===== 177 HedgeWants.thing ===== -/
theorem k_177_0 : cd 177 0 = some (.aload_n 0, 1) := by decide +kernel
theorem k_177_1 : cd 177 1 = some (.iload_n 1, 1) := by decide +kernel
theorem k_177_2 : cd 177 2 = some (.invokevirtual 191, 3) := by decide +kernel
theorem k_177_5 : cd 177 5 = some (.iload_n 2, 1) := by decide +kernel
theorem k_177_6 : cd 177 6 = some (.tableswitch 100 0 5 #[38, 47, 56, 65, 74, 91], 38) := by decide +kernel
theorem k_177_44 : cd 177 44 = some (.aload_n 0, 1) := by decide +kernel
theorem k_177_45 : cd 177 45 = some (.getfield 41, 3) := by decide +kernel
theorem k_177_48 : cd 177 48 = some (.iload_n 1, 1) := by decide +kernel
theorem k_177_49 : cd 177 49 = some (.invokevirtual 194, 3) := by decide +kernel
theorem k_177_52 : cd 177 52 = some (.ireturn, 1) := by decide +kernel
theorem k_177_53 : cd 177 53 = some (.aload_n 0, 1) := by decide +kernel
theorem k_177_54 : cd 177 54 = some (.getfield 41, 3) := by decide +kernel
theorem k_177_57 : cd 177 57 = some (.iload_n 1, 1) := by decide +kernel
theorem k_177_58 : cd 177 58 = some (.invokevirtual 197, 3) := by decide +kernel
theorem k_177_61 : cd 177 61 = some (.ireturn, 1) := by decide +kernel
theorem k_177_62 : cd 177 62 = some (.aload_n 0, 1) := by decide +kernel
theorem k_177_63 : cd 177 63 = some (.getfield 41, 3) := by decide +kernel
theorem k_177_66 : cd 177 66 = some (.iload_n 1, 1) := by decide +kernel
theorem k_177_67 : cd 177 67 = some (.invokevirtual 200, 3) := by decide +kernel
theorem k_177_70 : cd 177 70 = some (.ireturn, 1) := by decide +kernel
theorem k_177_71 : cd 177 71 = some (.aload_n 0, 1) := by decide +kernel
theorem k_177_72 : cd 177 72 = some (.getfield 41, 3) := by decide +kernel
theorem k_177_75 : cd 177 75 = some (.iload_n 1, 1) := by decide +kernel
theorem k_177_76 : cd 177 76 = some (.invokevirtual 203, 3) := by decide +kernel
theorem k_177_79 : cd 177 79 = some (.ireturn, 1) := by decide +kernel
theorem k_177_80 : cd 177 80 = some (.aload_n 0, 1) := by decide +kernel
theorem k_177_81 : cd 177 81 = some (.getfield 16, 3) := by decide +kernel
theorem k_177_84 : cd 177 84 = some (.iload_n 1, 1) := by decide +kernel
theorem k_177_85 : cd 177 85 = some (.invokevirtual 206, 3) := by decide +kernel
theorem k_177_88 : cd 177 88 = some (.ifCond .eq 7, 3) := by decide +kernel
theorem k_177_91 : cd 177 91 = some (.iconst 1, 1) := by decide +kernel
theorem k_177_92 : cd 177 92 = some (.goto 4, 3) := by decide +kernel
theorem k_177_95 : cd 177 95 = some (.iconst 0, 1) := by decide +kernel
theorem k_177_96 : cd 177 96 = some (.ireturn, 1) := by decide +kernel
theorem k_177_97 : cd 177 97 = some (.aload_n 0, 1) := by decide +kernel
theorem k_177_98 : cd 177 98 = some (.getfield 63, 3) := by decide +kernel
theorem k_177_101 : cd 177 101 = some (.iload_n 1, 1) := by decide +kernel
theorem k_177_102 : cd 177 102 = some (.invokevirtual 210, 3) := by decide +kernel
theorem k_177_105 : cd 177 105 = some (.ireturn, 1) := by decide +kernel
theorem k_177_106 : cd 177 106 = some (.new 166, 3) := by decide +kernel
theorem k_177_109 : cd 177 109 = some (.dup, 1) := by decide +kernel
theorem k_177_110 : cd 177 110 = some (.ldc 213, 2) := by decide +kernel
theorem k_177_112 : cd 177 112 = some (.invokespecial 170, 3) := by decide +kernel
theorem k_177_115 : cd 177 115 = some (.athrow, 1) := by decide +kernel
theorem po_177 : po 177 = 0 := rfl
theorem M_177  {x0 : Int32} {x1 : Int32} {σ : pS} {ρ : Nat → Nat → Option Nat} (e : gR σ = ρ) (hL : LayR ρ) : Le
  (bV (pcall 178 [.ref 0, .int x0] σ) fun σ1 => if x1 = (ι 0) then bI (pcall 75 [.ref 25, .int x0] σ1) fun r13 σ13 => some (1, .int r13, σ13) else if x1 = (ι 1) then bI (pcall 76 [.ref 25, .int x0] σ1) fun r11 σ11 => some (1, .int r11, σ11) else if x1 = (ι 2) then bI (pcall 89 [.ref 25, .int x0] σ1) fun r9 σ9 => some (1, .int r9, σ9) else if x1 = (ι 3) then bI (pcall 72 [.ref 25, .int x0] σ1) fun r7 σ7 => some (1, .int r7, σ7) else if x1 = (ι 4) then bG isP (gR σ1 0 4) fun q4 => bI (pcall 29 [.ref q4, .int x0] σ1) fun r5 σ5 => if r5 = (ι 0) then some (1, .int (ι 0), σ5) else some (1, .int (ι 1), σ5) else if x1 = (ι 5) then bI (pcall 134 [.ref 54, .int x0] σ1) fun r2 σ2 => gd (LayR (gR σ2)) (some (1, .int r2, σ2)) else gd (x1.toInt < 0 ∨ 5 < x1.toInt) (some (3, .null, sX σ1)))
  (pcall 177 [.ref 0, .int x0, .int x1] σ) := by
  show Le _ (den 177 0 0 [.ref 0, .int x0, .int x1] [] σ)
  exact r_aload_n k_177_0 rfl rfl
    (r_iload_n k_177_1 rfl rfl
    (r_callV (q_virt (rest := []) (as := [.int x0]) k_177_2 po_177 rfl rfl rfl (rcvO rfl rfl rfl) rfl rfl) (lvq (j := 0) rfl (by decide +kernel)) rfl rfl (fun _ σ1 h1 => r_iload_n k_177_5 rfl rfl
    (r_case (fun c14 => r_tabGo (off := 38) (tgt := 44) c14 k_177_6 (by decide) (by decide) rfl (r_aload_n k_177_44 rfl rfl
    (r_getR k_177_45 rfl po_177 rfl rfl rfl rfl (gRat (eC rfl h1 e) (LayR.at hL (i := 2) rfl))
    (r_iload_n k_177_48 rfl rfl
    (r_callI (q_virt (rest := []) (as := [.int x0]) k_177_49 po_177 rfl rfl rfl (rcvO rfl rfl rfl) rfl rfl) (lvq (j := 0) rfl (by decide +kernel)) rfl rfl (fun r13 σ13 h13 => r_ret k_177_52 rfl rfl)))))) (fun _ => r_case (fun c12 => r_tabGo (off := 47) (tgt := 53) c12 k_177_6 (by decide) (by decide) rfl (r_aload_n k_177_53 rfl rfl
    (r_getR k_177_54 rfl po_177 rfl rfl rfl rfl (gRat (eC rfl h1 e) (LayR.at hL (i := 2) rfl))
    (r_iload_n k_177_57 rfl rfl
    (r_callI (q_virt (rest := []) (as := [.int x0]) k_177_58 po_177 rfl rfl rfl (rcvO rfl rfl rfl) rfl rfl) (lvq (j := 0) rfl (by decide +kernel)) rfl rfl (fun r11 σ11 h11 => r_ret k_177_61 rfl rfl)))))) (fun _ => r_case (fun c10 => r_tabGo (off := 56) (tgt := 62) c10 k_177_6 (by decide) (by decide) rfl (r_aload_n k_177_62 rfl rfl
    (r_getR k_177_63 rfl po_177 rfl rfl rfl rfl (gRat (eC rfl h1 e) (LayR.at hL (i := 2) rfl))
    (r_iload_n k_177_66 rfl rfl
    (r_callI (q_virt (rest := []) (as := [.int x0]) k_177_67 po_177 rfl rfl rfl (rcvO rfl rfl rfl) rfl rfl) (lvq (j := 0) rfl (by decide +kernel)) rfl rfl (fun r9 σ9 h9 => r_ret k_177_70 rfl rfl)))))) (fun _ => r_case (fun c8 => r_tabGo (off := 65) (tgt := 71) c8 k_177_6 (by decide) (by decide) rfl (r_aload_n k_177_71 rfl rfl
    (r_getR k_177_72 rfl po_177 rfl rfl rfl rfl (gRat (eC rfl h1 e) (LayR.at hL (i := 2) rfl))
    (r_iload_n k_177_75 rfl rfl
    (r_callI (q_virt (rest := []) (as := [.int x0]) k_177_76 po_177 rfl rfl rfl (rcvO rfl rfl rfl) rfl rfl) (lvq (j := 0) rfl (by decide +kernel)) rfl rfl (fun r7 σ7 h7 => r_ret k_177_79 rfl rfl)))))) (fun _ => r_case (fun c6 => r_tabGo (off := 74) (tgt := 80) c6 k_177_6 (by decide) (by decide) rfl (r_aload_n k_177_80 rfl rfl
    (r_getG k_177_81 rfl po_177 rfl rfl rfl rfl fun q4 hq4 => r_iload_n k_177_84 rfl rfl
    (r_callI (q_virt (rest := []) (as := [.int x0]) k_177_85 po_177 rfl rfl rfl (rcvO rfl rfl (kdP hq4)) rfl rfl) (lvq (j := 0) rfl (by decide +kernel)) rfl rfl (fun r5 σ5 h5 => r_if (tgt := 95) k_177_88 rfl rfl cop_eq
    (r_iconst k_177_95 rfl rfl
    (r_ret k_177_96 rfl rfl))
    (r_iconst k_177_91 rfl rfl
    (r_goto (tgt := 96) k_177_92 rfl (r_ret k_177_96 rfl rfl)))))))) (fun _ => r_case (fun c3 => r_tabGo (off := 91) (tgt := 97) c3 k_177_6 (by decide) (by decide) rfl (r_aload_n k_177_97 rfl rfl
    (r_getR k_177_98 rfl po_177 rfl rfl rfl rfl (gRat (eC rfl h1 e) (LayR.at hL (i := 6) rfl))
    (r_iload_n k_177_101 rfl rfl
    (r_callI (q_virt (rest := []) (as := [.int x0]) k_177_102 po_177 rfl rfl rfl (rcvO rfl rfl rfl) rfl rfl) (lvq (j := 0) rfl (by decide +kernel)) rfl rfl (fun r2 σ2 h2 => r_gd fun L2 => r_ret k_177_105 rfl rfl)))))) (fun _ => r_gd fun g => r_tabOut (tgt := 106) k_177_6 g rfl (r_thr (x := 1) k_177_106 po_177 rfl k_177_109 k_177_110 rfl k_177_112 k_177_115 rfl rfl rfl)))))))))))
/-! ===== 178 HedgeWants.checkThing ===== -/
theorem k_178_0 : cd 178 0 = some (.iload_n 1, 1) := by decide +kernel
theorem k_178_1 : cd 178 1 = some (.ifCond .lt 14, 3) := by decide +kernel
theorem k_178_4 : cd 178 4 = some (.iload_n 1, 1) := by decide +kernel
theorem k_178_5 : cd 178 5 = some (.aload_n 0, 1) := by decide +kernel
theorem k_178_6 : cd 178 6 = some (.getfield 41, 3) := by decide +kernel
theorem k_178_9 : cd 178 9 = some (.invokevirtual 121, 3) := by decide +kernel
theorem k_178_12 : cd 178 12 = some (.if_icmp .lt 14, 3) := by decide +kernel
theorem k_178_15 : cd 178 15 = some (.new 166, 3) := by decide +kernel
theorem k_178_18 : cd 178 18 = some (.dup, 1) := by decide +kernel
theorem k_178_19 : cd 178 19 = some (.ldc_w 372, 3) := by decide +kernel
theorem k_178_22 : cd 178 22 = some (.invokespecial 170, 3) := by decide +kernel
theorem k_178_25 : cd 178 25 = some (.athrow, 1) := by decide +kernel
theorem k_178_26 : cd 178 26 = some (.return_, 1) := by decide +kernel
theorem po_178 : po 178 = 0 := rfl
theorem M_178  {x0 : Int32} {σ : pS} {ρ : Nat → Nat → Option Nat} (e : gR σ = ρ) (hL : LayR ρ) : Le
  (if x0 < (ι 0) then some (3, .null, sX σ) else bI (pcall 87 [.ref 25] σ) fun r1 σ1 => if x0 < r1 then some (0, .null, σ1) else some (3, .null, sX σ1))
  (pcall 178 [.ref 0, .int x0] σ) := by
  show Le _ (den 178 0 0 [.ref 0, .int x0] [] σ)
  exact r_iload_n k_178_0 rfl rfl
    (r_if (tgt := 15) k_178_1 rfl rfl cop_lt
    (r_thrw (x := 1) k_178_15 po_178 rfl k_178_18 k_178_19 rfl k_178_22 k_178_25 rfl rfl rfl)
    (r_iload_n k_178_4 rfl rfl
    (r_aload_n k_178_5 rfl rfl
    (r_getR k_178_6 rfl po_178 rfl rfl rfl rfl (gRat e (LayR.at hL (i := 2) rfl))
    (r_callI (q_virt (rest := [.int x0]) (as := []) k_178_9 po_178 rfl rfl rfl (rcvO rfl rfl rfl) rfl rfl) (lvq (j := 0) rfl (by decide +kernel)) rfl rfl (fun r1 σ1 h1 => r_icmp (tgt := 26) k_178_12 rfl rfl cop_lt
    (r_retV k_178_26 rfl)
    (r_thrw (x := 1) k_178_15 po_178 rfl k_178_18 k_178_19 rfl k_178_22 k_178_25 rfl rfl rfl)))))))
/-! ===== 179 HedgeWants.look ===== -/
theorem k_179_0 : cd 179 0 = some (.aload_n 0, 1) := by decide +kernel
theorem k_179_1 : cd 179 1 = some (.iload_n 1, 1) := by decide +kernel
theorem k_179_2 : cd 179 2 = some (.invokevirtual 171, 3) := by decide +kernel
theorem k_179_5 : cd 179 5 = some (.aload_n 0, 1) := by decide +kernel
theorem k_179_6 : cd 179 6 = some (.iload_n 2, 1) := by decide +kernel
theorem k_179_7 : cd 179 7 = some (.invokevirtual 191, 3) := by decide +kernel
theorem k_179_10 : cd 179 10 = some (.iload_n 3, 1) := by decide +kernel
theorem k_179_11 : cd 179 11 = some (.iconst 1, 1) := by decide +kernel
theorem k_179_12 : cd 179 12 = some (.invokestatic 215, 3) := by decide +kernel
theorem k_179_15 : cd 179 15 = some (.iload_n 3, 1) := by decide +kernel
theorem k_179_16 : cd 179 16 = some (.ifCond .ne 15, 3) := by decide +kernel
theorem k_179_19 : cd 179 19 = some (.aload_n 0, 1) := by decide +kernel
theorem k_179_20 : cd 179 20 = some (.getfield 41, 3) := by decide +kernel
theorem k_179_23 : cd 179 23 = some (.iload_n 1, 1) := by decide +kernel
theorem k_179_24 : cd 179 24 = some (.iload_n 2, 1) := by decide +kernel
theorem k_179_25 : cd 179 25 = some (.invokevirtual 219, 3) := by decide +kernel
theorem k_179_28 : cd 179 28 = some (.goto 12, 3) := by decide +kernel
theorem k_179_31 : cd 179 31 = some (.aload_n 0, 1) := by decide +kernel
theorem k_179_32 : cd 179 32 = some (.getfield 41, 3) := by decide +kernel
theorem k_179_35 : cd 179 35 = some (.iload_n 1, 1) := by decide +kernel
theorem k_179_36 : cd 179 36 = some (.iload_n 2, 1) := by decide +kernel
theorem k_179_37 : cd 179 37 = some (.invokevirtual 223, 3) := by decide +kernel
theorem k_179_40 : cd 179 40 = some (.ireturn, 1) := by decide +kernel
theorem po_179 : po 179 = 0 := rfl
theorem M_179  {x0 : Int32} {x1 : Int32} {x2 : Int32} {σ : pS} {ρ : Nat → Nat → Option Nat} (e : gR σ = ρ) (hL : LayR ρ) : Le
  (bV (pcall 176 [.ref 0, .int x0] σ) fun σ1 => bV (pcall 178 [.ref 0, .int x1] σ1) fun σ2 => bV (pcall 180 [.int x2, .int (ι 1)] σ2) fun σ3 => if ¬ x2 = (ι 0) then bI (pcall 73 [.ref 25, .int x0, .int x1] σ3) fun r4 σ4 => some (1, .int r4, σ4) else bI (pcall 74 [.ref 25, .int x0, .int x1] σ3) fun r5 σ5 => some (1, .int r5, σ5))
  (pcall 179 [.ref 0, .int x0, .int x1, .int x2] σ) := by
  show Le _ (den 179 0 0 [.ref 0, .int x0, .int x1, .int x2] [] σ)
  exact r_aload_n k_179_0 rfl rfl
    (r_iload_n k_179_1 rfl rfl
    (r_callV (q_virt (rest := []) (as := [.int x0]) k_179_2 po_179 rfl rfl rfl (rcvO rfl rfl rfl) rfl rfl) (lvq (j := 0) rfl (by decide +kernel)) rfl rfl (fun _ σ1 h1 => r_aload_n k_179_5 rfl rfl
    (r_iload_n k_179_6 rfl rfl
    (r_callV (q_virt (rest := []) (as := [.int x1]) k_179_7 po_179 rfl rfl rfl (rcvO rfl rfl rfl) rfl rfl) (lvq (j := 0) rfl (by decide +kernel)) rfl rfl (fun _ σ2 h2 => r_iload_n k_179_10 rfl rfl
    (r_iconst k_179_11 rfl rfl
    (r_callV (q_stat (rest := []) (av := [.int x2, .int (ι 1)]) k_179_12 po_179 rfl (by decide) rfl rfl rfl rfl) (lvq (j := 0) rfl (by decide +kernel)) rfl rfl (fun _ σ3 h3 => r_iload_n k_179_15 rfl rfl
    (r_if (tgt := 31) k_179_16 rfl rfl cop_ne
    (r_aload_n k_179_31 rfl rfl
    (r_getR k_179_32 rfl po_179 rfl rfl rfl rfl (gRat (eC rfl h3 (eC rfl h2 (eC rfl h1 e))) (LayR.at hL (i := 2) rfl))
    (r_iload_n k_179_35 rfl rfl
    (r_iload_n k_179_36 rfl rfl
    (r_callI (q_virt (rest := []) (as := [.int x0, .int x1]) k_179_37 po_179 rfl rfl rfl (rcvO rfl rfl rfl) rfl rfl) (lvq (j := 0) rfl (by decide +kernel)) rfl rfl (fun r4 σ4 h4 => r_ret k_179_40 rfl rfl))))))
    (r_aload_n k_179_19 rfl rfl
    (r_getR k_179_20 rfl po_179 rfl rfl rfl rfl (gRat (eC rfl h3 (eC rfl h2 (eC rfl h1 e))) (LayR.at hL (i := 2) rfl))
    (r_iload_n k_179_23 rfl rfl
    (r_iload_n k_179_24 rfl rfl
    (r_callI (q_virt (rest := []) (as := [.int x0, .int x1]) k_179_25 po_179 rfl rfl rfl (rcvO rfl rfl rfl) rfl rfl) (lvq (j := 0) rfl (by decide +kernel)) rfl rfl (fun r5 σ5 h5 => r_goto (tgt := 40) k_179_28 rfl (r_ret k_179_40 rfl rfl)))))))))))))))))
/-! ===== 180 HedgeWants.checkWhat ===== -/
theorem k_180_0 : cd 180 0 = some (.iload_n 0, 1) := by decide +kernel
theorem k_180_1 : cd 180 1 = some (.ifCond .lt 8, 3) := by decide +kernel
theorem k_180_4 : cd 180 4 = some (.iload_n 0, 1) := by decide +kernel
theorem k_180_5 : cd 180 5 = some (.iload_n 1, 1) := by decide +kernel
theorem k_180_6 : cd 180 6 = some (.if_icmp .le 14, 3) := by decide +kernel
theorem k_180_9 : cd 180 9 = some (.new 166, 3) := by decide +kernel
theorem k_180_12 : cd 180 12 = some (.dup, 1) := by decide +kernel
theorem k_180_13 : cd 180 13 = some (.ldc_w 374, 3) := by decide +kernel
theorem k_180_16 : cd 180 16 = some (.invokespecial 170, 3) := by decide +kernel
theorem k_180_19 : cd 180 19 = some (.athrow, 1) := by decide +kernel
theorem k_180_20 : cd 180 20 = some (.return_, 1) := by decide +kernel
theorem po_180 : po 180 = 0 := rfl
theorem M_180  {x0 : Int32} {x1 : Int32} {σ : pS} {ρ : Nat → Nat → Option Nat} (e : gR σ = ρ) (hL : LayR ρ) : Le
  (if x0 < (ι 0) then some (3, .null, sX σ) else if x0 ≤ x1 then some (0, .null, σ) else some (3, .null, sX σ))
  (pcall 180 [.int x0, .int x1] σ) := by
  show Le _ (den 180 0 0 [.int x0, .int x1] [] σ)
  exact r_iload_n k_180_0 rfl rfl
    (r_if (tgt := 9) k_180_1 rfl rfl cop_lt
    (r_thrw (x := 1) k_180_9 po_180 rfl k_180_12 k_180_13 rfl k_180_16 k_180_19 rfl rfl rfl)
    (r_iload_n k_180_4 rfl rfl
    (r_iload_n k_180_5 rfl rfl
    (r_icmp (tgt := 20) k_180_6 rfl rfl cop_le
    (r_retV k_180_20 rfl)
    (r_thrw (x := 1) k_180_9 po_180 rfl k_180_12 k_180_13 rfl k_180_16 k_180_19 rfl rfl rfl)))))
/-! ===== 181 HedgeWants.ask ===== -/
theorem k_181_0 : cd 181 0 = some (.aload_n 0, 1) := by decide +kernel
theorem k_181_1 : cd 181 1 = some (.iload_n 1, 1) := by decide +kernel
theorem k_181_2 : cd 181 2 = some (.invokevirtual 171, 3) := by decide +kernel
theorem k_181_5 : cd 181 5 = some (.aload_n 0, 1) := by decide +kernel
theorem k_181_6 : cd 181 6 = some (.iload_n 2, 1) := by decide +kernel
theorem k_181_7 : cd 181 7 = some (.invokevirtual 191, 3) := by decide +kernel
theorem k_181_10 : cd 181 10 = some (.aload_n 0, 1) := by decide +kernel
theorem k_181_11 : cd 181 11 = some (.getfield 41, 3) := by decide +kernel
theorem k_181_14 : cd 181 14 = some (.iload_n 2, 1) := by decide +kernel
theorem k_181_15 : cd 181 15 = some (.iload_n 1, 1) := by decide +kernel
theorem k_181_16 : cd 181 16 = some (.invokevirtual 233, 3) := by decide +kernel
theorem k_181_19 : cd 181 19 = some (.ifCond .ne 12, 3) := by decide +kernel
theorem k_181_22 : cd 181 22 = some (.aload_n 0, 1) := by decide +kernel
theorem k_181_23 : cd 181 23 = some (.getfield 48, 3) := by decide +kernel
theorem k_181_26 : cd 181 26 = some (.iconst 1, 1) := by decide +kernel
theorem k_181_27 : cd 181 27 = some (.invokevirtual 104, 3) := by decide +kernel
theorem k_181_30 : cd 181 30 = some (.ireturn, 1) := by decide +kernel
theorem k_181_31 : cd 181 31 = some (.aload_n 0, 1) := by decide +kernel
theorem k_181_32 : cd 181 32 = some (.getfield 48, 3) := by decide +kernel
theorem k_181_35 : cd 181 35 = some (.aload_n 0, 1) := by decide +kernel
theorem k_181_36 : cd 181 36 = some (.getfield 41, 3) := by decide +kernel
theorem k_181_39 : cd 181 39 = some (.invokevirtual 226, 3) := by decide +kernel
theorem k_181_42 : cd 181 42 = some (.aload_n 0, 1) := by decide +kernel
theorem k_181_43 : cd 181 43 = some (.getfield 41, 3) := by decide +kernel
theorem k_181_46 : cd 181 46 = some (.iload_n 2, 1) := by decide +kernel
theorem k_181_47 : cd 181 47 = some (.invokevirtual 194, 3) := by decide +kernel
theorem k_181_50 : cd 181 50 = some (.istore_n 3, 1) := by decide +kernel
theorem k_181_51 : cd 181 51 = some (.aload_n 0, 1) := by decide +kernel
theorem k_181_52 : cd 181 52 = some (.getfield 41, 3) := by decide +kernel
theorem k_181_55 : cd 181 55 = some (.iload_n 2, 1) := by decide +kernel
theorem k_181_56 : cd 181 56 = some (.iload_n 1, 1) := by decide +kernel
theorem k_181_57 : cd 181 57 = some (.invokevirtual 237, 3) := by decide +kernel
theorem k_181_60 : cd 181 60 = some (.aload_n 0, 1) := by decide +kernel
theorem k_181_61 : cd 181 61 = some (.getfield 41, 3) := by decide +kernel
theorem k_181_64 : cd 181 64 = some (.iload_n 2, 1) := by decide +kernel
theorem k_181_65 : cd 181 65 = some (.iconst 0, 1) := by decide +kernel
theorem k_181_66 : cd 181 66 = some (.invokevirtual 240, 3) := by decide +kernel
theorem k_181_69 : cd 181 69 = some (.iload_n 3, 1) := by decide +kernel
theorem k_181_70 : cd 181 70 = some (.ireturn, 1) := by decide +kernel
theorem po_181 : po 181 = 0 := rfl
theorem M_181  {x0 : Int32} {x1 : Int32} {σ : pS} {ρ : Nat → Nat → Option Nat} (e : gR σ = ρ) (hL : LayR ρ) : Le
  (bV (pcall 176 [.ref 0, .int x0] σ) fun σ1 => bV (pcall 178 [.ref 0, .int x1] σ1) fun σ2 => bI (pcall 77 [.ref 25, .int x1, .int x0] σ2) fun r3 σ3 => if ¬ r3 = (ι 0) then bV (pcall 105 [.ref 32, .ref 25] σ3) fun σ4 => bI (pcall 75 [.ref 25, .int x1] σ4) fun r5 σ5 => bV (pcall 80 [.ref 25, .int x1, .int x0] σ5) fun σ6 => bV (pcall 81 [.ref 25, .int x1, .int (ι 0)] σ6) fun σ7 => some (1, .int r5, σ7) else bI (pcall 104 [.ref 32, .int (ι 1)] σ3) fun r8 σ8 => some (1, .int r8, σ8))
  (pcall 181 [.ref 0, .int x0, .int x1] σ) := by
  show Le _ (den 181 0 0 [.ref 0, .int x0, .int x1, .retAddr 0] [] σ)
  exact r_aload_n k_181_0 rfl rfl
    (r_iload_n k_181_1 rfl rfl
    (r_callV (q_virt (rest := []) (as := [.int x0]) k_181_2 po_181 rfl rfl rfl (rcvO rfl rfl rfl) rfl rfl) (lvq (j := 0) rfl (by decide +kernel)) rfl rfl (fun _ σ1 h1 => r_aload_n k_181_5 rfl rfl
    (r_iload_n k_181_6 rfl rfl
    (r_callV (q_virt (rest := []) (as := [.int x1]) k_181_7 po_181 rfl rfl rfl (rcvO rfl rfl rfl) rfl rfl) (lvq (j := 0) rfl (by decide +kernel)) rfl rfl (fun _ σ2 h2 => r_aload_n k_181_10 rfl rfl
    (r_getR k_181_11 rfl po_181 rfl rfl rfl rfl (gRat (eC rfl h2 (eC rfl h1 e)) (LayR.at hL (i := 2) rfl))
    (r_iload_n k_181_14 rfl rfl
    (r_iload_n k_181_15 rfl rfl
    (r_callI (q_virt (rest := []) (as := [.int x1, .int x0]) k_181_16 po_181 rfl rfl rfl (rcvO rfl rfl rfl) rfl rfl) (lvq (j := 0) rfl (by decide +kernel)) rfl rfl (fun r3 σ3 h3 => r_if (tgt := 31) k_181_19 rfl rfl cop_ne
    (r_aload_n k_181_31 rfl rfl
    (r_getR k_181_32 rfl po_181 rfl rfl rfl rfl (gRat (eC rfl h3 (eC rfl h2 (eC rfl h1 e))) (LayR.at hL (i := 3) rfl))
    (r_aload_n k_181_35 rfl rfl
    (r_getR k_181_36 rfl po_181 rfl rfl rfl rfl (gRat (eC rfl h3 (eC rfl h2 (eC rfl h1 e))) (LayR.at hL (i := 2) rfl))
    (r_callV (q_virt (rest := []) (as := [.ref 25]) k_181_39 po_181 rfl rfl rfl (rcvO rfl rfl rfl) rfl rfl) (lvq (j := 0) rfl (by decide +kernel)) rfl rfl (fun _ σ4 h4 => r_aload_n k_181_42 rfl rfl
    (r_getR k_181_43 rfl po_181 rfl rfl rfl rfl (gRat (eC rfl h4 (eC rfl h3 (eC rfl h2 (eC rfl h1 e)))) (LayR.at hL (i := 2) rfl))
    (r_iload_n k_181_46 rfl rfl
    (r_callI (q_virt (rest := []) (as := [.int x1]) k_181_47 po_181 rfl rfl rfl (rcvO rfl rfl rfl) rfl rfl) (lvq (j := 0) rfl (by decide +kernel)) rfl rfl (fun r5 σ5 h5 => r_istore_n k_181_50 rfl rfl rfl
    (r_aload_n k_181_51 rfl rfl
    (r_getR k_181_52 rfl po_181 rfl rfl rfl rfl (gRat (eC rfl h5 (eC rfl h4 (eC rfl h3 (eC rfl h2 (eC rfl h1 e))))) (LayR.at hL (i := 2) rfl))
    (r_iload_n k_181_55 rfl rfl
    (r_iload_n k_181_56 rfl rfl
    (r_callV (q_virt (rest := []) (as := [.int x1, .int x0]) k_181_57 po_181 rfl rfl rfl (rcvO rfl rfl rfl) rfl rfl) (lvq (j := 0) rfl (by decide +kernel)) rfl rfl (fun _ σ6 h6 => r_aload_n k_181_60 rfl rfl
    (r_getR k_181_61 rfl po_181 rfl rfl rfl rfl (gRat (eC rfl h6 (eC rfl h5 (eC rfl h4 (eC rfl h3 (eC rfl h2 (eC rfl h1 e)))))) (LayR.at hL (i := 2) rfl))
    (r_iload_n k_181_64 rfl rfl
    (r_iconst k_181_65 rfl rfl
    (r_callV (q_virt (rest := []) (as := [.int x1, .int (ι 0)]) k_181_66 po_181 rfl rfl rfl (rcvO rfl rfl rfl) rfl rfl) (lvq (j := 0) rfl (by decide +kernel)) rfl rfl (fun _ σ7 h7 => r_iload_n k_181_69 rfl rfl
    (r_ret k_181_70 rfl rfl))))))))))))))))))))))
    (r_aload_n k_181_22 rfl rfl
    (r_getR k_181_23 rfl po_181 rfl rfl rfl rfl (gRat (eC rfl h3 (eC rfl h2 (eC rfl h1 e))) (LayR.at hL (i := 3) rfl))
    (r_iconst k_181_26 rfl rfl
    (r_callI (q_virt (rest := []) (as := [.int (ι 1)]) k_181_27 po_181 rfl rfl rfl (rcvO rfl rfl rfl) rfl rfl) (lvq (j := 0) rfl (by decide +kernel)) rfl rfl (fun r8 σ8 h8 => r_ret k_181_30 rfl rfl))))))))))))))))
/-! ===== 182 HedgeWants.spoil ===== -/
theorem k_182_0 : cd 182 0 = some (.aload_n 0, 1) := by decide +kernel
theorem k_182_1 : cd 182 1 = some (.iload_n 1, 1) := by decide +kernel
theorem k_182_2 : cd 182 2 = some (.invokevirtual 191, 3) := by decide +kernel
theorem k_182_5 : cd 182 5 = some (.aload_n 0, 1) := by decide +kernel
theorem k_182_6 : cd 182 6 = some (.getfield 41, 3) := by decide +kernel
theorem k_182_9 : cd 182 9 = some (.iload_n 1, 1) := by decide +kernel
theorem k_182_10 : cd 182 10 = some (.invokevirtual 197, 3) := by decide +kernel
theorem k_182_13 : cd 182 13 = some (.istore_n 2, 1) := by decide +kernel
theorem k_182_14 : cd 182 14 = some (.iload_n 2, 1) := by decide +kernel
theorem k_182_15 : cd 182 15 = some (.bipush 9, 2) := by decide +kernel
theorem k_182_17 : cd 182 17 = some (.if_icmp .lt 12, 3) := by decide +kernel
theorem k_182_20 : cd 182 20 = some (.aload_n 0, 1) := by decide +kernel
theorem k_182_21 : cd 182 21 = some (.getfield 48, 3) := by decide +kernel
theorem k_182_24 : cd 182 24 = some (.iconst 1, 1) := by decide +kernel
theorem k_182_25 : cd 182 25 = some (.invokevirtual 104, 3) := by decide +kernel
theorem k_182_28 : cd 182 28 = some (.ireturn, 1) := by decide +kernel
theorem k_182_29 : cd 182 29 = some (.aload_n 0, 1) := by decide +kernel
theorem k_182_30 : cd 182 30 = some (.getfield 48, 3) := by decide +kernel
theorem k_182_33 : cd 182 33 = some (.aload_n 0, 1) := by decide +kernel
theorem k_182_34 : cd 182 34 = some (.getfield 41, 3) := by decide +kernel
theorem k_182_37 : cd 182 37 = some (.invokevirtual 226, 3) := by decide +kernel
theorem k_182_40 : cd 182 40 = some (.aload_n 0, 1) := by decide +kernel
theorem k_182_41 : cd 182 41 = some (.getfield 41, 3) := by decide +kernel
theorem k_182_44 : cd 182 44 = some (.iload_n 1, 1) := by decide +kernel
theorem k_182_45 : cd 182 45 = some (.iload_n 2, 1) := by decide +kernel
theorem k_182_46 : cd 182 46 = some (.iconst 1, 1) := by decide +kernel
theorem k_182_47 : cd 182 47 = some (.iadd, 1) := by decide +kernel
theorem k_182_48 : cd 182 48 = some (.invokevirtual 240, 3) := by decide +kernel
theorem k_182_51 : cd 182 51 = some (.iload_n 2, 1) := by decide +kernel
theorem k_182_52 : cd 182 52 = some (.iconst 1, 1) := by decide +kernel
theorem k_182_53 : cd 182 53 = some (.iadd, 1) := by decide +kernel
theorem k_182_54 : cd 182 54 = some (.ireturn, 1) := by decide +kernel
theorem po_182 : po 182 = 0 := rfl
theorem M_182  {x0 : Int32} {σ : pS} {ρ : Nat → Nat → Option Nat} (e : gR σ = ρ) (hL : LayR ρ) : Le
  (bV (pcall 178 [.ref 0, .int x0] σ) fun σ1 => bI (pcall 76 [.ref 25, .int x0] σ1) fun r2 σ2 => if r2 < (ι 9) then bV (pcall 105 [.ref 32, .ref 25] σ2) fun σ3 => bV (pcall 81 [.ref 25, .int x0, .int (r2 + (ι 1))] σ3) fun σ4 => some (1, .int (r2 + (ι 1)), σ4) else bI (pcall 104 [.ref 32, .int (ι 1)] σ2) fun r5 σ5 => some (1, .int r5, σ5))
  (pcall 182 [.ref 0, .int x0] σ) := by
  show Le _ (den 182 0 0 [.ref 0, .int x0, .retAddr 0] [] σ)
  exact r_aload_n k_182_0 rfl rfl
    (r_iload_n k_182_1 rfl rfl
    (r_callV (q_virt (rest := []) (as := [.int x0]) k_182_2 po_182 rfl rfl rfl (rcvO rfl rfl rfl) rfl rfl) (lvq (j := 0) rfl (by decide +kernel)) rfl rfl (fun _ σ1 h1 => r_aload_n k_182_5 rfl rfl
    (r_getR k_182_6 rfl po_182 rfl rfl rfl rfl (gRat (eC rfl h1 e) (LayR.at hL (i := 2) rfl))
    (r_iload_n k_182_9 rfl rfl
    (r_callI (q_virt (rest := []) (as := [.int x0]) k_182_10 po_182 rfl rfl rfl (rcvO rfl rfl rfl) rfl rfl) (lvq (j := 0) rfl (by decide +kernel)) rfl rfl (fun r2 σ2 h2 => r_istore_n k_182_13 rfl rfl rfl
    (r_iload_n k_182_14 rfl rfl
    (r_bipush k_182_15 rfl rfl
    (r_icmp (tgt := 29) k_182_17 rfl rfl cop_lt
    (r_aload_n k_182_29 rfl rfl
    (r_getR k_182_30 rfl po_182 rfl rfl rfl rfl (gRat (eC rfl h2 (eC rfl h1 e)) (LayR.at hL (i := 3) rfl))
    (r_aload_n k_182_33 rfl rfl
    (r_getR k_182_34 rfl po_182 rfl rfl rfl rfl (gRat (eC rfl h2 (eC rfl h1 e)) (LayR.at hL (i := 2) rfl))
    (r_callV (q_virt (rest := []) (as := [.ref 25]) k_182_37 po_182 rfl rfl rfl (rcvO rfl rfl rfl) rfl rfl) (lvq (j := 0) rfl (by decide +kernel)) rfl rfl (fun _ σ3 h3 => r_aload_n k_182_40 rfl rfl
    (r_getR k_182_41 rfl po_182 rfl rfl rfl rfl (gRat (eC rfl h3 (eC rfl h2 (eC rfl h1 e))) (LayR.at hL (i := 2) rfl))
    (r_iload_n k_182_44 rfl rfl
    (r_iload_n k_182_45 rfl rfl
    (r_iconst k_182_46 rfl rfl
    (r_iadd k_182_47 rfl
    (r_callV (q_virt (rest := []) (as := [.int x0, .int (r2 + (ι 1))]) k_182_48 po_182 rfl rfl rfl (rcvO rfl rfl rfl) rfl rfl) (lvq (j := 0) rfl (by decide +kernel)) rfl rfl (fun _ σ4 h4 => r_iload_n k_182_51 rfl rfl
    (r_iconst k_182_52 rfl rfl
    (r_iadd k_182_53 rfl
    (r_ret k_182_54 rfl rfl))))))))))))))))
    (r_aload_n k_182_20 rfl rfl
    (r_getR k_182_21 rfl po_182 rfl rfl rfl rfl (gRat (eC rfl h2 (eC rfl h1 e)) (LayR.at hL (i := 3) rfl))
    (r_iconst k_182_24 rfl rfl
    (r_callI (q_virt (rest := []) (as := [.int (ι 1)]) k_182_25 po_182 rfl rfl rfl (rcvO rfl rfl rfl) rfl rfl) (lvq (j := 0) rfl (by decide +kernel)) rfl rfl (fun r5 σ5 h5 => r_ret k_182_28 rfl rfl)))))))))))))))
/-! ===== 183 HedgeWants.mend ===== -/
theorem k_183_0 : cd 183 0 = some (.aload_n 0, 1) := by decide +kernel
theorem k_183_1 : cd 183 1 = some (.iload_n 1, 1) := by decide +kernel
theorem k_183_2 : cd 183 2 = some (.invokevirtual 191, 3) := by decide +kernel
theorem k_183_5 : cd 183 5 = some (.aload_n 0, 1) := by decide +kernel
theorem k_183_6 : cd 183 6 = some (.getfield 41, 3) := by decide +kernel
theorem k_183_9 : cd 183 9 = some (.iload_n 1, 1) := by decide +kernel
theorem k_183_10 : cd 183 10 = some (.invokevirtual 197, 3) := by decide +kernel
theorem k_183_13 : cd 183 13 = some (.istore_n 2, 1) := by decide +kernel
theorem k_183_14 : cd 183 14 = some (.iload_n 2, 1) := by decide +kernel
theorem k_183_15 : cd 183 15 = some (.ifCond .ne 12, 3) := by decide +kernel
theorem k_183_18 : cd 183 18 = some (.aload_n 0, 1) := by decide +kernel
theorem k_183_19 : cd 183 19 = some (.getfield 48, 3) := by decide +kernel
theorem k_183_22 : cd 183 22 = some (.iconst 1, 1) := by decide +kernel
theorem k_183_23 : cd 183 23 = some (.invokevirtual 104, 3) := by decide +kernel
theorem k_183_26 : cd 183 26 = some (.ireturn, 1) := by decide +kernel
theorem k_183_27 : cd 183 27 = some (.aload_n 0, 1) := by decide +kernel
theorem k_183_28 : cd 183 28 = some (.getfield 48, 3) := by decide +kernel
theorem k_183_31 : cd 183 31 = some (.aload_n 0, 1) := by decide +kernel
theorem k_183_32 : cd 183 32 = some (.getfield 41, 3) := by decide +kernel
theorem k_183_35 : cd 183 35 = some (.invokevirtual 226, 3) := by decide +kernel
theorem k_183_38 : cd 183 38 = some (.aload_n 0, 1) := by decide +kernel
theorem k_183_39 : cd 183 39 = some (.getfield 41, 3) := by decide +kernel
theorem k_183_42 : cd 183 42 = some (.iload_n 1, 1) := by decide +kernel
theorem k_183_43 : cd 183 43 = some (.iconst 0, 1) := by decide +kernel
theorem k_183_44 : cd 183 44 = some (.invokevirtual 240, 3) := by decide +kernel
theorem k_183_47 : cd 183 47 = some (.iload_n 2, 1) := by decide +kernel
theorem k_183_48 : cd 183 48 = some (.ireturn, 1) := by decide +kernel
theorem po_183 : po 183 = 0 := rfl
theorem M_183  {x0 : Int32} {σ : pS} {ρ : Nat → Nat → Option Nat} (e : gR σ = ρ) (hL : LayR ρ) : Le
  (bV (pcall 178 [.ref 0, .int x0] σ) fun σ1 => bI (pcall 76 [.ref 25, .int x0] σ1) fun r2 σ2 => if ¬ r2 = (ι 0) then bV (pcall 105 [.ref 32, .ref 25] σ2) fun σ3 => bV (pcall 81 [.ref 25, .int x0, .int (ι 0)] σ3) fun σ4 => some (1, .int r2, σ4) else bI (pcall 104 [.ref 32, .int (ι 1)] σ2) fun r5 σ5 => some (1, .int r5, σ5))
  (pcall 183 [.ref 0, .int x0] σ) := by
  show Le _ (den 183 0 0 [.ref 0, .int x0, .retAddr 0] [] σ)
  exact r_aload_n k_183_0 rfl rfl
    (r_iload_n k_183_1 rfl rfl
    (r_callV (q_virt (rest := []) (as := [.int x0]) k_183_2 po_183 rfl rfl rfl (rcvO rfl rfl rfl) rfl rfl) (lvq (j := 0) rfl (by decide +kernel)) rfl rfl (fun _ σ1 h1 => r_aload_n k_183_5 rfl rfl
    (r_getR k_183_6 rfl po_183 rfl rfl rfl rfl (gRat (eC rfl h1 e) (LayR.at hL (i := 2) rfl))
    (r_iload_n k_183_9 rfl rfl
    (r_callI (q_virt (rest := []) (as := [.int x0]) k_183_10 po_183 rfl rfl rfl (rcvO rfl rfl rfl) rfl rfl) (lvq (j := 0) rfl (by decide +kernel)) rfl rfl (fun r2 σ2 h2 => r_istore_n k_183_13 rfl rfl rfl
    (r_iload_n k_183_14 rfl rfl
    (r_if (tgt := 27) k_183_15 rfl rfl cop_ne
    (r_aload_n k_183_27 rfl rfl
    (r_getR k_183_28 rfl po_183 rfl rfl rfl rfl (gRat (eC rfl h2 (eC rfl h1 e)) (LayR.at hL (i := 3) rfl))
    (r_aload_n k_183_31 rfl rfl
    (r_getR k_183_32 rfl po_183 rfl rfl rfl rfl (gRat (eC rfl h2 (eC rfl h1 e)) (LayR.at hL (i := 2) rfl))
    (r_callV (q_virt (rest := []) (as := [.ref 25]) k_183_35 po_183 rfl rfl rfl (rcvO rfl rfl rfl) rfl rfl) (lvq (j := 0) rfl (by decide +kernel)) rfl rfl (fun _ σ3 h3 => r_aload_n k_183_38 rfl rfl
    (r_getR k_183_39 rfl po_183 rfl rfl rfl rfl (gRat (eC rfl h3 (eC rfl h2 (eC rfl h1 e))) (LayR.at hL (i := 2) rfl))
    (r_iload_n k_183_42 rfl rfl
    (r_iconst k_183_43 rfl rfl
    (r_callV (q_virt (rest := []) (as := [.int x0, .int (ι 0)]) k_183_44 po_183 rfl rfl rfl (rcvO rfl rfl rfl) rfl rfl) (lvq (j := 0) rfl (by decide +kernel)) rfl rfl (fun _ σ4 h4 => r_iload_n k_183_47 rfl rfl
    (r_ret k_183_48 rfl rfl))))))))))))
    (r_aload_n k_183_18 rfl rfl
    (r_getR k_183_19 rfl po_183 rfl rfl rfl rfl (gRat (eC rfl h2 (eC rfl h1 e)) (LayR.at hL (i := 3) rfl))
    (r_iconst k_183_22 rfl rfl
    (r_callI (q_virt (rest := []) (as := [.int (ι 1)]) k_183_23 po_183 rfl rfl rfl (rcvO rfl rfl rfl) rfl rfl) (lvq (j := 0) rfl (by decide +kernel)) rfl rfl (fun r5 σ5 h5 => r_ret k_183_26 rfl rfl))))))))))))))
/-! ===== 184 HedgeWants.give ===== -/
theorem k_184_0 : cd 184 0 = some (.aload_n 0, 1) := by decide +kernel
theorem k_184_1 : cd 184 1 = some (.iload_n 1, 1) := by decide +kernel
theorem k_184_2 : cd 184 2 = some (.invokevirtual 191, 3) := by decide +kernel
theorem k_184_5 : cd 184 5 = some (.aload_n 0, 1) := by decide +kernel
theorem k_184_6 : cd 184 6 = some (.iload_n 2, 1) := by decide +kernel
theorem k_184_7 : cd 184 7 = some (.invokevirtual 171, 3) := by decide +kernel
theorem k_184_10 : cd 184 10 = some (.aload_n 0, 1) := by decide +kernel
theorem k_184_11 : cd 184 11 = some (.getfield 41, 3) := by decide +kernel
theorem k_184_14 : cd 184 14 = some (.iload_n 1, 1) := by decide +kernel
theorem k_184_15 : cd 184 15 = some (.invokevirtual 194, 3) := by decide +kernel
theorem k_184_18 : cd 184 18 = some (.istore_n 3, 1) := by decide +kernel
theorem k_184_19 : cd 184 19 = some (.iload_n 3, 1) := by decide +kernel
theorem k_184_20 : cd 184 20 = some (.iload_n 2, 1) := by decide +kernel
theorem k_184_21 : cd 184 21 = some (.if_icmp .ne 12, 3) := by decide +kernel
theorem k_184_24 : cd 184 24 = some (.aload_n 0, 1) := by decide +kernel
theorem k_184_25 : cd 184 25 = some (.getfield 48, 3) := by decide +kernel
theorem k_184_28 : cd 184 28 = some (.iconst 1, 1) := by decide +kernel
theorem k_184_29 : cd 184 29 = some (.invokevirtual 104, 3) := by decide +kernel
theorem k_184_32 : cd 184 32 = some (.ireturn, 1) := by decide +kernel
theorem k_184_33 : cd 184 33 = some (.aload_n 0, 1) := by decide +kernel
theorem k_184_34 : cd 184 34 = some (.getfield 48, 3) := by decide +kernel
theorem k_184_37 : cd 184 37 = some (.aload_n 0, 1) := by decide +kernel
theorem k_184_38 : cd 184 38 = some (.getfield 41, 3) := by decide +kernel
theorem k_184_41 : cd 184 41 = some (.invokevirtual 226, 3) := by decide +kernel
theorem k_184_44 : cd 184 44 = some (.aload_n 0, 1) := by decide +kernel
theorem k_184_45 : cd 184 45 = some (.getfield 41, 3) := by decide +kernel
theorem k_184_48 : cd 184 48 = some (.iload_n 1, 1) := by decide +kernel
theorem k_184_49 : cd 184 49 = some (.iload_n 2, 1) := by decide +kernel
theorem k_184_50 : cd 184 50 = some (.invokevirtual 237, 3) := by decide +kernel
theorem k_184_53 : cd 184 53 = some (.iload_n 3, 1) := by decide +kernel
theorem k_184_54 : cd 184 54 = some (.ireturn, 1) := by decide +kernel
theorem po_184 : po 184 = 0 := rfl
theorem M_184  {x0 : Int32} {x1 : Int32} {σ : pS} {ρ : Nat → Nat → Option Nat} (e : gR σ = ρ) (hL : LayR ρ) : Le
  (bV (pcall 178 [.ref 0, .int x0] σ) fun σ1 => bV (pcall 176 [.ref 0, .int x1] σ1) fun σ2 => bI (pcall 75 [.ref 25, .int x0] σ2) fun r3 σ3 => if ¬ r3 = x1 then bV (pcall 105 [.ref 32, .ref 25] σ3) fun σ4 => bV (pcall 80 [.ref 25, .int x0, .int x1] σ4) fun σ5 => some (1, .int r3, σ5) else bI (pcall 104 [.ref 32, .int (ι 1)] σ3) fun r6 σ6 => some (1, .int r6, σ6))
  (pcall 184 [.ref 0, .int x0, .int x1] σ) := by
  show Le _ (den 184 0 0 [.ref 0, .int x0, .int x1, .retAddr 0] [] σ)
  exact r_aload_n k_184_0 rfl rfl
    (r_iload_n k_184_1 rfl rfl
    (r_callV (q_virt (rest := []) (as := [.int x0]) k_184_2 po_184 rfl rfl rfl (rcvO rfl rfl rfl) rfl rfl) (lvq (j := 0) rfl (by decide +kernel)) rfl rfl (fun _ σ1 h1 => r_aload_n k_184_5 rfl rfl
    (r_iload_n k_184_6 rfl rfl
    (r_callV (q_virt (rest := []) (as := [.int x1]) k_184_7 po_184 rfl rfl rfl (rcvO rfl rfl rfl) rfl rfl) (lvq (j := 0) rfl (by decide +kernel)) rfl rfl (fun _ σ2 h2 => r_aload_n k_184_10 rfl rfl
    (r_getR k_184_11 rfl po_184 rfl rfl rfl rfl (gRat (eC rfl h2 (eC rfl h1 e)) (LayR.at hL (i := 2) rfl))
    (r_iload_n k_184_14 rfl rfl
    (r_callI (q_virt (rest := []) (as := [.int x0]) k_184_15 po_184 rfl rfl rfl (rcvO rfl rfl rfl) rfl rfl) (lvq (j := 0) rfl (by decide +kernel)) rfl rfl (fun r3 σ3 h3 => r_istore_n k_184_18 rfl rfl rfl
    (r_iload_n k_184_19 rfl rfl
    (r_iload_n k_184_20 rfl rfl
    (r_icmp (tgt := 33) k_184_21 rfl rfl cop_ne
    (r_aload_n k_184_33 rfl rfl
    (r_getR k_184_34 rfl po_184 rfl rfl rfl rfl (gRat (eC rfl h3 (eC rfl h2 (eC rfl h1 e))) (LayR.at hL (i := 3) rfl))
    (r_aload_n k_184_37 rfl rfl
    (r_getR k_184_38 rfl po_184 rfl rfl rfl rfl (gRat (eC rfl h3 (eC rfl h2 (eC rfl h1 e))) (LayR.at hL (i := 2) rfl))
    (r_callV (q_virt (rest := []) (as := [.ref 25]) k_184_41 po_184 rfl rfl rfl (rcvO rfl rfl rfl) rfl rfl) (lvq (j := 0) rfl (by decide +kernel)) rfl rfl (fun _ σ4 h4 => r_aload_n k_184_44 rfl rfl
    (r_getR k_184_45 rfl po_184 rfl rfl rfl rfl (gRat (eC rfl h4 (eC rfl h3 (eC rfl h2 (eC rfl h1 e)))) (LayR.at hL (i := 2) rfl))
    (r_iload_n k_184_48 rfl rfl
    (r_iload_n k_184_49 rfl rfl
    (r_callV (q_virt (rest := []) (as := [.int x0, .int x1]) k_184_50 po_184 rfl rfl rfl (rcvO rfl rfl rfl) rfl rfl) (lvq (j := 0) rfl (by decide +kernel)) rfl rfl (fun _ σ5 h5 => r_iload_n k_184_53 rfl rfl
    (r_ret k_184_54 rfl rfl))))))))))))
    (r_aload_n k_184_24 rfl rfl
    (r_getR k_184_25 rfl po_184 rfl rfl rfl rfl (gRat (eC rfl h3 (eC rfl h2 (eC rfl h1 e))) (LayR.at hL (i := 3) rfl))
    (r_iconst k_184_28 rfl rfl
    (r_callI (q_virt (rest := []) (as := [.int (ι 1)]) k_184_29 po_184 rfl rfl rfl (rcvO rfl rfl rfl) rfl rfl) (lvq (j := 0) rfl (by decide +kernel)) rfl rfl (fun r6 σ6 h6 => r_ret k_184_32 rfl rfl))))))))))))))))))
/-! ===== 185 HedgeWants.taste ===== -/
theorem k_185_0 : cd 185 0 = some (.aload_n 0, 1) := by decide +kernel
theorem k_185_1 : cd 185 1 = some (.iload_n 1, 1) := by decide +kernel
theorem k_185_2 : cd 185 2 = some (.invokevirtual 171, 3) := by decide +kernel
theorem k_185_5 : cd 185 5 = some (.aload_n 0, 1) := by decide +kernel
theorem k_185_6 : cd 185 6 = some (.iload_n 2, 1) := by decide +kernel
theorem k_185_7 : cd 185 7 = some (.invokevirtual 191, 3) := by decide +kernel
theorem k_185_10 : cd 185 10 = some (.aload_n 0, 1) := by decide +kernel
theorem k_185_11 : cd 185 11 = some (.getfield 41, 3) := by decide +kernel
theorem k_185_14 : cd 185 14 = some (.iload_n 1, 1) := by decide +kernel
theorem k_185_15 : cd 185 15 = some (.iload_n 2, 1) := by decide +kernel
theorem k_185_16 : cd 185 16 = some (.invokevirtual 219, 3) := by decide +kernel
theorem k_185_19 : cd 185 19 = some (.istore 4, 2) := by decide +kernel
theorem k_185_21 : cd 185 21 = some (.iload_n 3, 1) := by decide +kernel
theorem k_185_22 : cd 185 22 = some (.ifCond .lt 15, 3) := by decide +kernel
theorem k_185_25 : cd 185 25 = some (.iload_n 3, 1) := by decide +kernel
theorem k_185_26 : cd 185 26 = some (.bipush 9, 2) := by decide +kernel
theorem k_185_28 : cd 185 28 = some (.if_icmp .gt 9, 3) := by decide +kernel
theorem k_185_31 : cd 185 31 = some (.iload_n 3, 1) := by decide +kernel
theorem k_185_32 : cd 185 32 = some (.iload 4, 2) := by decide +kernel
theorem k_185_34 : cd 185 34 = some (.if_icmp .ne 12, 3) := by decide +kernel
theorem k_185_37 : cd 185 37 = some (.aload_n 0, 1) := by decide +kernel
theorem k_185_38 : cd 185 38 = some (.getfield 48, 3) := by decide +kernel
theorem k_185_41 : cd 185 41 = some (.iconst 1, 1) := by decide +kernel
theorem k_185_42 : cd 185 42 = some (.invokevirtual 104, 3) := by decide +kernel
theorem k_185_45 : cd 185 45 = some (.ireturn, 1) := by decide +kernel
theorem k_185_46 : cd 185 46 = some (.aload_n 0, 1) := by decide +kernel
theorem k_185_47 : cd 185 47 = some (.getfield 48, 3) := by decide +kernel
theorem k_185_50 : cd 185 50 = some (.aload_n 0, 1) := by decide +kernel
theorem k_185_51 : cd 185 51 = some (.getfield 41, 3) := by decide +kernel
theorem k_185_54 : cd 185 54 = some (.invokevirtual 226, 3) := by decide +kernel
theorem k_185_57 : cd 185 57 = some (.aload_n 0, 1) := by decide +kernel
theorem k_185_58 : cd 185 58 = some (.getfield 41, 3) := by decide +kernel
theorem k_185_61 : cd 185 61 = some (.iload_n 1, 1) := by decide +kernel
theorem k_185_62 : cd 185 62 = some (.iload_n 2, 1) := by decide +kernel
theorem k_185_63 : cd 185 63 = some (.iload_n 3, 1) := by decide +kernel
theorem k_185_64 : cd 185 64 = some (.invokevirtual 243, 3) := by decide +kernel
theorem k_185_67 : cd 185 67 = some (.iload 4, 2) := by decide +kernel
theorem k_185_69 : cd 185 69 = some (.ireturn, 1) := by decide +kernel
theorem po_185 : po 185 = 0 := rfl
theorem M_185  {x0 : Int32} {x1 : Int32} {x2 : Int32} {σ : pS} {ρ : Nat → Nat → Option Nat} (e : gR σ = ρ) (hL : LayR ρ) : Le
  (bV (pcall 176 [.ref 0, .int x0] σ) fun σ1 => bV (pcall 178 [.ref 0, .int x1] σ1) fun σ2 => bI (pcall 74 [.ref 25, .int x0, .int x1] σ2) fun r3 σ3 => if x2 < (ι 0) then bI (pcall 104 [.ref 32, .int (ι 1)] σ3) fun r4 σ4 => some (1, .int r4, σ4) else if (ι 9) < x2 then bI (pcall 104 [.ref 32, .int (ι 1)] σ3) fun r5 σ5 => some (1, .int r5, σ5) else if ¬ x2 = r3 then bV (pcall 105 [.ref 32, .ref 25] σ3) fun σ6 => bV (pcall 95 [.ref 25, .int x0, .int x1, .int x2] σ6) fun σ7 => some (1, .int r3, σ7) else bI (pcall 104 [.ref 32, .int (ι 1)] σ3) fun r8 σ8 => some (1, .int r8, σ8))
  (pcall 185 [.ref 0, .int x0, .int x1, .int x2] σ) := by
  show Le _ (den 185 0 0 [.ref 0, .int x0, .int x1, .int x2, .retAddr 0] [] σ)
  exact r_aload_n k_185_0 rfl rfl
    (r_iload_n k_185_1 rfl rfl
    (r_callV (q_virt (rest := []) (as := [.int x0]) k_185_2 po_185 rfl rfl rfl (rcvO rfl rfl rfl) rfl rfl) (lvq (j := 0) rfl (by decide +kernel)) rfl rfl (fun _ σ1 h1 => r_aload_n k_185_5 rfl rfl
    (r_iload_n k_185_6 rfl rfl
    (r_callV (q_virt (rest := []) (as := [.int x1]) k_185_7 po_185 rfl rfl rfl (rcvO rfl rfl rfl) rfl rfl) (lvq (j := 0) rfl (by decide +kernel)) rfl rfl (fun _ σ2 h2 => r_aload_n k_185_10 rfl rfl
    (r_getR k_185_11 rfl po_185 rfl rfl rfl rfl (gRat (eC rfl h2 (eC rfl h1 e)) (LayR.at hL (i := 2) rfl))
    (r_iload_n k_185_14 rfl rfl
    (r_iload_n k_185_15 rfl rfl
    (r_callI (q_virt (rest := []) (as := [.int x0, .int x1]) k_185_16 po_185 rfl rfl rfl (rcvO rfl rfl rfl) rfl rfl) (lvq (j := 0) rfl (by decide +kernel)) rfl rfl (fun r3 σ3 h3 => r_istore k_185_19 rfl rfl rfl
    (r_iload_n k_185_21 rfl rfl
    (r_if (tgt := 37) k_185_22 rfl rfl cop_lt
    (r_aload_n k_185_37 rfl rfl
    (r_getR k_185_38 rfl po_185 rfl rfl rfl rfl (gRat (eC rfl h3 (eC rfl h2 (eC rfl h1 e))) (LayR.at hL (i := 3) rfl))
    (r_iconst k_185_41 rfl rfl
    (r_callI (q_virt (rest := []) (as := [.int (ι 1)]) k_185_42 po_185 rfl rfl rfl (rcvO rfl rfl rfl) rfl rfl) (lvq (j := 0) rfl (by decide +kernel)) rfl rfl (fun r4 σ4 h4 => r_ret k_185_45 rfl rfl)))))
    (r_iload_n k_185_25 rfl rfl
    (r_bipush k_185_26 rfl rfl
    (r_icmp (tgt := 37) k_185_28 rfl rfl cop_gt
    (r_aload_n k_185_37 rfl rfl
    (r_getR k_185_38 rfl po_185 rfl rfl rfl rfl (gRat (eC rfl h3 (eC rfl h2 (eC rfl h1 e))) (LayR.at hL (i := 3) rfl))
    (r_iconst k_185_41 rfl rfl
    (r_callI (q_virt (rest := []) (as := [.int (ι 1)]) k_185_42 po_185 rfl rfl rfl (rcvO rfl rfl rfl) rfl rfl) (lvq (j := 0) rfl (by decide +kernel)) rfl rfl (fun r5 σ5 h5 => r_ret k_185_45 rfl rfl)))))
    (r_iload_n k_185_31 rfl rfl
    (r_iload k_185_32 rfl rfl
    (r_icmp (tgt := 46) k_185_34 rfl rfl cop_ne
    (r_aload_n k_185_46 rfl rfl
    (r_getR k_185_47 rfl po_185 rfl rfl rfl rfl (gRat (eC rfl h3 (eC rfl h2 (eC rfl h1 e))) (LayR.at hL (i := 3) rfl))
    (r_aload_n k_185_50 rfl rfl
    (r_getR k_185_51 rfl po_185 rfl rfl rfl rfl (gRat (eC rfl h3 (eC rfl h2 (eC rfl h1 e))) (LayR.at hL (i := 2) rfl))
    (r_callV (q_virt (rest := []) (as := [.ref 25]) k_185_54 po_185 rfl rfl rfl (rcvO rfl rfl rfl) rfl rfl) (lvq (j := 0) rfl (by decide +kernel)) rfl rfl (fun _ σ6 h6 => r_aload_n k_185_57 rfl rfl
    (r_getR k_185_58 rfl po_185 rfl rfl rfl rfl (gRat (eC rfl h6 (eC rfl h3 (eC rfl h2 (eC rfl h1 e)))) (LayR.at hL (i := 2) rfl))
    (r_iload_n k_185_61 rfl rfl
    (r_iload_n k_185_62 rfl rfl
    (r_iload_n k_185_63 rfl rfl
    (r_callV (q_virt (rest := []) (as := [.int x0, .int x1, .int x2]) k_185_64 po_185 rfl rfl rfl (rcvO rfl rfl rfl) rfl rfl) (lvq (j := 0) rfl (by decide +kernel)) rfl rfl (fun _ σ7 h7 => r_iload k_185_67 rfl rfl
    (r_ret k_185_69 rfl rfl)))))))))))))
    (r_aload_n k_185_37 rfl rfl
    (r_getR k_185_38 rfl po_185 rfl rfl rfl rfl (gRat (eC rfl h3 (eC rfl h2 (eC rfl h1 e))) (LayR.at hL (i := 3) rfl))
    (r_iconst k_185_41 rfl rfl
    (r_callI (q_virt (rest := []) (as := [.int (ι 1)]) k_185_42 po_185 rfl rfl rfl (rcvO rfl rfl rfl) rfl rfl) (lvq (j := 0) rfl (by decide +kernel)) rfl rfl (fun r8 σ8 h8 => r_ret k_185_45 rfl rfl))))))))))))))))))))))))
/-! ===== 186 HedgeWants.hedge ===== -/
theorem k_186_0 : cd 186 0 = some (.aload_n 0, 1) := by decide +kernel
theorem k_186_1 : cd 186 1 = some (.iload_n 1, 1) := by decide +kernel
theorem k_186_2 : cd 186 2 = some (.invokevirtual 171, 3) := by decide +kernel
theorem k_186_5 : cd 186 5 = some (.aload_n 0, 1) := by decide +kernel
theorem k_186_6 : cd 186 6 = some (.iload_n 2, 1) := by decide +kernel
theorem k_186_7 : cd 186 7 = some (.invokevirtual 171, 3) := by decide +kernel
theorem k_186_10 : cd 186 10 = some (.iload_n 1, 1) := by decide +kernel
theorem k_186_11 : cd 186 11 = some (.iload_n 2, 1) := by decide +kernel
theorem k_186_12 : cd 186 12 = some (.if_icmp .eq 16, 3) := by decide +kernel
theorem k_186_15 : cd 186 15 = some (.aload_n 0, 1) := by decide +kernel
theorem k_186_16 : cd 186 16 = some (.getfield 41, 3) := by decide +kernel
theorem k_186_19 : cd 186 19 = some (.iload_n 1, 1) := by decide +kernel
theorem k_186_20 : cd 186 20 = some (.iload_n 2, 1) := by decide +kernel
theorem k_186_21 : cd 186 21 = some (.invokevirtual 247, 3) := by decide +kernel
theorem k_186_24 : cd 186 24 = some (.iload_n 3, 1) := by decide +kernel
theorem k_186_25 : cd 186 25 = some (.if_icmp .ne 14, 3) := by decide +kernel
theorem k_186_28 : cd 186 28 = some (.aload_n 0, 1) := by decide +kernel
theorem k_186_29 : cd 186 29 = some (.getfield 48, 3) := by decide +kernel
theorem k_186_32 : cd 186 32 = some (.iconst 1, 1) := by decide +kernel
theorem k_186_33 : cd 186 33 = some (.invokevirtual 104, 3) := by decide +kernel
theorem k_186_36 : cd 186 36 = some (.pop, 1) := by decide +kernel
theorem k_186_37 : cd 186 37 = some (.iconst 0, 1) := by decide +kernel
theorem k_186_38 : cd 186 38 = some (.ireturn, 1) := by decide +kernel
theorem k_186_39 : cd 186 39 = some (.aload_n 0, 1) := by decide +kernel
theorem k_186_40 : cd 186 40 = some (.getfield 48, 3) := by decide +kernel
theorem k_186_43 : cd 186 43 = some (.aload_n 0, 1) := by decide +kernel
theorem k_186_44 : cd 186 44 = some (.getfield 41, 3) := by decide +kernel
theorem k_186_47 : cd 186 47 = some (.invokevirtual 226, 3) := by decide +kernel
theorem k_186_50 : cd 186 50 = some (.aload_n 0, 1) := by decide +kernel
theorem k_186_51 : cd 186 51 = some (.getfield 41, 3) := by decide +kernel
theorem k_186_54 : cd 186 54 = some (.iload_n 1, 1) := by decide +kernel
theorem k_186_55 : cd 186 55 = some (.iload_n 2, 1) := by decide +kernel
theorem k_186_56 : cd 186 56 = some (.iload_n 3, 1) := by decide +kernel
theorem k_186_57 : cd 186 57 = some (.invokevirtual 250, 3) := by decide +kernel
theorem k_186_60 : cd 186 60 = some (.iconst 1, 1) := by decide +kernel
theorem k_186_61 : cd 186 61 = some (.ireturn, 1) := by decide +kernel
theorem po_186 : po 186 = 0 := rfl
theorem M_186  {x0 : Int32} {x1 : Int32} {x2 : Int32} {σ : pS} {ρ : Nat → Nat → Option Nat} (e : gR σ = ρ) (hL : LayR ρ) : Le
  (bV (pcall 176 [.ref 0, .int x0] σ) fun σ1 => bV (pcall 176 [.ref 0, .int x1] σ1) fun σ2 => if x0 = x1 then bI (pcall 104 [.ref 32, .int (ι 1)] σ2) fun r3 σ3 => some (1, .int (ι 0), σ3) else bI (pcall 91 [.ref 25, .int x0, .int x1] σ2) fun r4 σ4 => if ¬ r4 = x2 then bV (pcall 105 [.ref 32, .ref 25] σ4) fun σ5 => bV (pcall 96 [.ref 25, .int x0, .int x1, .int x2] σ5) fun σ6 => some (1, .int (ι 1), σ6) else bI (pcall 104 [.ref 32, .int (ι 1)] σ4) fun r7 σ7 => some (1, .int (ι 0), σ7))
  (pcall 186 [.ref 0, .int x0, .int x1, .int x2] σ) := by
  show Le _ (den 186 0 0 [.ref 0, .int x0, .int x1, .int x2] [] σ)
  exact r_aload_n k_186_0 rfl rfl
    (r_iload_n k_186_1 rfl rfl
    (r_callV (q_virt (rest := []) (as := [.int x0]) k_186_2 po_186 rfl rfl rfl (rcvO rfl rfl rfl) rfl rfl) (lvq (j := 0) rfl (by decide +kernel)) rfl rfl (fun _ σ1 h1 => r_aload_n k_186_5 rfl rfl
    (r_iload_n k_186_6 rfl rfl
    (r_callV (q_virt (rest := []) (as := [.int x1]) k_186_7 po_186 rfl rfl rfl (rcvO rfl rfl rfl) rfl rfl) (lvq (j := 0) rfl (by decide +kernel)) rfl rfl (fun _ σ2 h2 => r_iload_n k_186_10 rfl rfl
    (r_iload_n k_186_11 rfl rfl
    (r_icmp (tgt := 28) k_186_12 rfl rfl cop_eq
    (r_aload_n k_186_28 rfl rfl
    (r_getR k_186_29 rfl po_186 rfl rfl rfl rfl (gRat (eC rfl h2 (eC rfl h1 e)) (LayR.at hL (i := 3) rfl))
    (r_iconst k_186_32 rfl rfl
    (r_callI (q_virt (rest := []) (as := [.int (ι 1)]) k_186_33 po_186 rfl rfl rfl (rcvO rfl rfl rfl) rfl rfl) (lvq (j := 0) rfl (by decide +kernel)) rfl rfl (fun r3 σ3 h3 => r_pop k_186_36 rfl rfl
    (r_iconst k_186_37 rfl rfl
    (r_ret k_186_38 rfl rfl)))))))
    (r_aload_n k_186_15 rfl rfl
    (r_getR k_186_16 rfl po_186 rfl rfl rfl rfl (gRat (eC rfl h2 (eC rfl h1 e)) (LayR.at hL (i := 2) rfl))
    (r_iload_n k_186_19 rfl rfl
    (r_iload_n k_186_20 rfl rfl
    (r_callI (q_virt (rest := []) (as := [.int x0, .int x1]) k_186_21 po_186 rfl rfl rfl (rcvO rfl rfl rfl) rfl rfl) (lvq (j := 0) rfl (by decide +kernel)) rfl rfl (fun r4 σ4 h4 => r_iload_n k_186_24 rfl rfl
    (r_icmp (tgt := 39) k_186_25 rfl rfl cop_ne
    (r_aload_n k_186_39 rfl rfl
    (r_getR k_186_40 rfl po_186 rfl rfl rfl rfl (gRat (eC rfl h4 (eC rfl h2 (eC rfl h1 e))) (LayR.at hL (i := 3) rfl))
    (r_aload_n k_186_43 rfl rfl
    (r_getR k_186_44 rfl po_186 rfl rfl rfl rfl (gRat (eC rfl h4 (eC rfl h2 (eC rfl h1 e))) (LayR.at hL (i := 2) rfl))
    (r_callV (q_virt (rest := []) (as := [.ref 25]) k_186_47 po_186 rfl rfl rfl (rcvO rfl rfl rfl) rfl rfl) (lvq (j := 0) rfl (by decide +kernel)) rfl rfl (fun _ σ5 h5 => r_aload_n k_186_50 rfl rfl
    (r_getR k_186_51 rfl po_186 rfl rfl rfl rfl (gRat (eC rfl h5 (eC rfl h4 (eC rfl h2 (eC rfl h1 e)))) (LayR.at hL (i := 2) rfl))
    (r_iload_n k_186_54 rfl rfl
    (r_iload_n k_186_55 rfl rfl
    (r_iload_n k_186_56 rfl rfl
    (r_callV (q_virt (rest := []) (as := [.int x0, .int x1, .int x2]) k_186_57 po_186 rfl rfl rfl (rcvO rfl rfl rfl) rfl rfl) (lvq (j := 0) rfl (by decide +kernel)) rfl rfl (fun _ σ6 h6 => r_iconst k_186_60 rfl rfl
    (r_ret k_186_61 rfl rfl)))))))))))))
    (r_aload_n k_186_28 rfl rfl
    (r_getR k_186_29 rfl po_186 rfl rfl rfl rfl (gRat (eC rfl h4 (eC rfl h2 (eC rfl h1 e))) (LayR.at hL (i := 3) rfl))
    (r_iconst k_186_32 rfl rfl
    (r_callI (q_virt (rest := []) (as := [.int (ι 1)]) k_186_33 po_186 rfl rfl rfl (rcvO rfl rfl rfl) rfl rfl) (lvq (j := 0) rfl (by decide +kernel)) rfl rfl (fun r7 σ7 h7 => r_pop k_186_36 rfl rfl
    (r_iconst k_186_37 rfl rfl
    (r_ret k_186_38 rfl rfl))))))))))))))))))))))
/-! ===== 187 HedgeWants.then ===== -/
theorem k_187_0 : cd 187 0 = some (.aload_n 0, 1) := by decide +kernel
theorem k_187_1 : cd 187 1 = some (.iload_n 1, 1) := by decide +kernel
theorem k_187_2 : cd 187 2 = some (.invokevirtual 191, 3) := by decide +kernel
theorem k_187_5 : cd 187 5 = some (.iload_n 3, 1) := by decide +kernel
theorem k_187_6 : cd 187 6 = some (.iconst 2, 1) := by decide +kernel
theorem k_187_7 : cd 187 7 = some (.invokestatic 215, 3) := by decide +kernel
theorem k_187_10 : cd 187 10 = some (.iload_n 2, 1) := by decide +kernel
theorem k_187_11 : cd 187 11 = some (.iconst 0, 1) := by decide +kernel
theorem k_187_12 : cd 187 12 = some (.bipush 60, 2) := by decide +kernel
theorem k_187_14 : cd 187 14 = some (.invokestatic 257, 3) := by decide +kernel
theorem k_187_17 : cd 187 17 = some (.aload_n 0, 1) := by decide +kernel
theorem k_187_18 : cd 187 18 = some (.getfield 63, 3) := by decide +kernel
theorem k_187_21 : cd 187 21 = some (.iload_n 2, 1) := by decide +kernel
theorem k_187_22 : cd 187 22 = some (.invokevirtual 260, 3) := by decide +kernel
theorem k_187_25 : cd 187 25 = some (.astore 4, 2) := by decide +kernel
theorem k_187_27 : cd 187 27 = some (.iload_n 3, 1) := by decide +kernel
theorem k_187_28 : cd 187 28 = some (.ifCond .ne 10, 3) := by decide +kernel
theorem k_187_31 : cd 187 31 = some (.aload 4, 2) := by decide +kernel
theorem k_187_33 : cd 187 33 = some (.iload_n 1, 1) := by decide +kernel
theorem k_187_34 : cd 187 34 = some (.invokevirtual 194, 3) := by decide +kernel
theorem k_187_37 : cd 187 37 = some (.ireturn, 1) := by decide +kernel
theorem k_187_38 : cd 187 38 = some (.iload_n 3, 1) := by decide +kernel
theorem k_187_39 : cd 187 39 = some (.iconst 1, 1) := by decide +kernel
theorem k_187_40 : cd 187 40 = some (.if_icmp .ne 12, 3) := by decide +kernel
theorem k_187_43 : cd 187 43 = some (.aload 4, 2) := by decide +kernel
theorem k_187_45 : cd 187 45 = some (.iload_n 1, 1) := by decide +kernel
theorem k_187_46 : cd 187 46 = some (.invokevirtual 197, 3) := by decide +kernel
theorem k_187_49 : cd 187 49 = some (.goto 12, 3) := by decide +kernel
theorem k_187_52 : cd 187 52 = some (.aload 4, 2) := by decide +kernel
theorem k_187_54 : cd 187 54 = some (.iload_n 1, 1) := by decide +kernel
theorem k_187_55 : cd 187 55 = some (.invokevirtual 200, 3) := by decide +kernel
theorem k_187_58 : cd 187 58 = some (.invokestatic 264, 3) := by decide +kernel
theorem k_187_61 : cd 187 61 = some (.ireturn, 1) := by decide +kernel
theorem po_187 : po 187 = 0 := rfl
theorem M_187  {x0 : Int32} {x1 : Int32} {x2 : Int32} {σ : pS} {ρ : Nat → Nat → Option Nat} (e : gR σ = ρ) (hL : LayR ρ) : Le
  (bV (pcall 178 [.ref 0, .int x0] σ) fun σ1 => bV (pcall 180 [.int x2, .int (ι 2)] σ1) fun σ2 => bV (pcall 188 [.int x1, .int (ι 0), .int (ι 60)] σ2) fun σ3 => bA (pcall 135 [.ref 54, .int x1] σ3) fun r4 σ4 => gd (isW r4) (gd (LayR (gR σ4)) (if ¬ x2 = (ι 0) then if ¬ x2 = (ι 1) then bI (pcall 89 [.ref r4, .int x0] σ4) fun r5 σ5 => bI (pcall 0 [.int r5] σ5) fun r6 σ6 => some (1, .int r6, σ6) else bI (pcall 76 [.ref r4, .int x0] σ4) fun r7 σ7 => some (1, .int r7, σ7) else bI (pcall 75 [.ref r4, .int x0] σ4) fun r8 σ8 => some (1, .int r8, σ8))))
  (pcall 187 [.ref 0, .int x0, .int x1, .int x2] σ) := by
  show Le _ (den 187 0 0 [.ref 0, .int x0, .int x1, .int x2, .retAddr 0] [] σ)
  exact r_aload_n k_187_0 rfl rfl
    (r_iload_n k_187_1 rfl rfl
    (r_callV (q_virt (rest := []) (as := [.int x0]) k_187_2 po_187 rfl rfl rfl (rcvO rfl rfl rfl) rfl rfl) (lvq (j := 0) rfl (by decide +kernel)) rfl rfl (fun _ σ1 h1 => r_iload_n k_187_5 rfl rfl
    (r_iconst k_187_6 rfl rfl
    (r_callV (q_stat (rest := []) (av := [.int x2, .int (ι 2)]) k_187_7 po_187 rfl (by decide) rfl rfl rfl rfl) (lvq (j := 0) rfl (by decide +kernel)) rfl rfl (fun _ σ2 h2 => r_iload_n k_187_10 rfl rfl
    (r_iconst k_187_11 rfl rfl
    (r_bipush k_187_12 rfl rfl
    (r_callV (q_stat (rest := []) (av := [.int x1, .int (ι 0), .int (ι 60)]) k_187_14 po_187 rfl (by decide) rfl rfl rfl rfl) (lvq (j := 0) rfl (by decide +kernel)) rfl rfl (fun _ σ3 h3 => r_aload_n k_187_17 rfl rfl
    (r_getR k_187_18 rfl po_187 rfl rfl rfl rfl (gRat (eC rfl h3 (eC rfl h2 (eC rfl h1 e))) (LayR.at hL (i := 6) rfl))
    (r_iload_n k_187_21 rfl rfl
    (r_callA (q_virt (rest := []) (as := [.int x1]) k_187_22 po_187 rfl rfl rfl (rcvO rfl rfl rfl) rfl rfl) (lvq (j := 0) rfl (by decide +kernel)) rfl rfl (fun r4 σ4 h4 => r_gd fun hr4 => r_gd fun L4 => r_astore k_187_25 rfl rfl rfl
    (r_iload_n k_187_27 rfl rfl
    (r_if (tgt := 38) k_187_28 rfl rfl cop_ne
    (r_iload_n k_187_38 rfl rfl
    (r_iconst k_187_39 rfl rfl
    (r_icmp (tgt := 52) k_187_40 rfl rfl cop_ne
    (r_aload k_187_52 rfl rfl
    (r_iload_n k_187_54 rfl rfl
    (r_callI (q_virt (rest := []) (as := [.int x0]) k_187_55 po_187 rfl rfl rfl (rcvO rfl rfl (kdW hr4)) rfl rfl) (lvq (j := 0) rfl (by decide +kernel)) rfl rfl (fun r5 σ5 h5 => r_callI (q_stat (rest := []) (av := [.int r5]) k_187_58 po_187 rfl (by decide) rfl rfl rfl rfl) (lvq (j := 0) rfl (by decide +kernel)) rfl rfl (fun r6 σ6 h6 => r_ret k_187_61 rfl rfl)))))
    (r_aload k_187_43 rfl rfl
    (r_iload_n k_187_45 rfl rfl
    (r_callI (q_virt (rest := []) (as := [.int x0]) k_187_46 po_187 rfl rfl rfl (rcvO rfl rfl (kdW hr4)) rfl rfl) (lvq (j := 0) rfl (by decide +kernel)) rfl rfl (fun r7 σ7 h7 => r_goto (tgt := 61) k_187_49 rfl (r_ret k_187_61 rfl rfl))))))))
    (r_aload k_187_31 rfl rfl
    (r_iload_n k_187_33 rfl rfl
    (r_callI (q_virt (rest := []) (as := [.int x0]) k_187_34 po_187 rfl rfl rfl (rcvO rfl rfl (kdW hr4)) rfl rfl) (lvq (j := 0) rfl (by decide +kernel)) rfl rfl (fun r8 σ8 h8 => r_ret k_187_37 rfl rfl))))))))))))))))))))
/-! ===== 188 HedgeWants.checkRange ===== -/
theorem k_188_0 : cd 188 0 = some (.iload_n 0, 1) := by decide +kernel
theorem k_188_1 : cd 188 1 = some (.iload_n 1, 1) := by decide +kernel
theorem k_188_2 : cd 188 2 = some (.if_icmp .lt 8, 3) := by decide +kernel
theorem k_188_5 : cd 188 5 = some (.iload_n 0, 1) := by decide +kernel
theorem k_188_6 : cd 188 6 = some (.iload_n 2, 1) := by decide +kernel
theorem k_188_7 : cd 188 7 = some (.if_icmp .le 14, 3) := by decide +kernel
theorem k_188_10 : cd 188 10 = some (.new 90, 3) := by decide +kernel
theorem k_188_13 : cd 188 13 = some (.dup, 1) := by decide +kernel
theorem k_188_14 : cd 188 14 = some (.ldc_w 376, 3) := by decide +kernel
theorem k_188_17 : cd 188 17 = some (.invokespecial 94, 3) := by decide +kernel
theorem k_188_20 : cd 188 20 = some (.athrow, 1) := by decide +kernel
theorem k_188_21 : cd 188 21 = some (.return_, 1) := by decide +kernel
theorem po_188 : po 188 = 0 := rfl
theorem M_188  {x0 : Int32} {x1 : Int32} {x2 : Int32} {σ : pS} {ρ : Nat → Nat → Option Nat} (e : gR σ = ρ) (hL : LayR ρ) : Le
  (if x0 < x1 then some (2, .null, sX σ) else if x0 ≤ x2 then some (0, .null, σ) else some (2, .null, sX σ))
  (pcall 188 [.int x0, .int x1, .int x2] σ) := by
  show Le _ (den 188 0 0 [.int x0, .int x1, .int x2] [] σ)
  exact r_iload_n k_188_0 rfl rfl
    (r_iload_n k_188_1 rfl rfl
    (r_icmp (tgt := 10) k_188_2 rfl rfl cop_lt
    (r_thrw (x := 0) k_188_10 po_188 rfl k_188_13 k_188_14 rfl k_188_17 k_188_20 rfl rfl rfl)
    (r_iload_n k_188_5 rfl rfl
    (r_iload_n k_188_6 rfl rfl
    (r_icmp (tgt := 21) k_188_7 rfl rfl cop_le
    (r_retV k_188_21 rfl)
    (r_thrw (x := 0) k_188_10 po_188 rfl k_188_13 k_188_14 rfl k_188_17 k_188_20 rfl rfl rfl))))))
/-! ===== 189 HedgeWants.has ===== -/
theorem k_189_0 : cd 189 0 = some (.aload_n 0, 1) := by decide +kernel
theorem k_189_1 : cd 189 1 = some (.iload_n 1, 1) := by decide +kernel
theorem k_189_2 : cd 189 2 = some (.invokevirtual 171, 3) := by decide +kernel
theorem k_189_5 : cd 189 5 = some (.iload_n 3, 1) := by decide +kernel
theorem k_189_6 : cd 189 6 = some (.iconst 1, 1) := by decide +kernel
theorem k_189_7 : cd 189 7 = some (.invokestatic 215, 3) := by decide +kernel
theorem k_189_10 : cd 189 10 = some (.iload_n 2, 1) := by decide +kernel
theorem k_189_11 : cd 189 11 = some (.iconst 0, 1) := by decide +kernel
theorem k_189_12 : cd 189 12 = some (.bipush 60, 2) := by decide +kernel
theorem k_189_14 : cd 189 14 = some (.invokestatic 257, 3) := by decide +kernel
theorem k_189_17 : cd 189 17 = some (.aload_n 0, 1) := by decide +kernel
theorem k_189_18 : cd 189 18 = some (.getfield 63, 3) := by decide +kernel
theorem k_189_21 : cd 189 21 = some (.iload_n 2, 1) := by decide +kernel
theorem k_189_22 : cd 189 22 = some (.invokevirtual 260, 3) := by decide +kernel
theorem k_189_25 : cd 189 25 = some (.astore 4, 2) := by decide +kernel
theorem k_189_27 : cd 189 27 = some (.iload_n 3, 1) := by decide +kernel
theorem k_189_28 : cd 189 28 = some (.ifCond .ne 15, 3) := by decide +kernel
theorem k_189_31 : cd 189 31 = some (.aload 4, 2) := by decide +kernel
theorem k_189_33 : cd 189 33 = some (.iload_n 1, 1) := by decide +kernel
theorem k_189_34 : cd 189 34 = some (.invokevirtual 177, 3) := by decide +kernel
theorem k_189_37 : cd 189 37 = some (.invokestatic 264, 3) := by decide +kernel
theorem k_189_40 : cd 189 40 = some (.goto 9, 3) := by decide +kernel
theorem k_189_43 : cd 189 43 = some (.aload 4, 2) := by decide +kernel
theorem k_189_45 : cd 189 45 = some (.iload_n 1, 1) := by decide +kernel
theorem k_189_46 : cd 189 46 = some (.invokevirtual 180, 3) := by decide +kernel
theorem k_189_49 : cd 189 49 = some (.ireturn, 1) := by decide +kernel
theorem po_189 : po 189 = 0 := rfl
theorem M_189  {x0 : Int32} {x1 : Int32} {x2 : Int32} {σ : pS} {ρ : Nat → Nat → Option Nat} (e : gR σ = ρ) (hL : LayR ρ) : Le
  (bV (pcall 176 [.ref 0, .int x0] σ) fun σ1 => bV (pcall 180 [.int x2, .int (ι 1)] σ1) fun σ2 => bV (pcall 188 [.int x1, .int (ι 0), .int (ι 60)] σ2) fun σ3 => bA (pcall 135 [.ref 54, .int x1] σ3) fun r4 σ4 => gd (isW r4) (gd (LayR (gR σ4)) (if ¬ x2 = (ι 0) then bI (pcall 90 [.ref r4, .int x0] σ4) fun r5 σ5 => some (1, .int r5, σ5) else bI (pcall 93 [.ref r4, .int x0] σ4) fun r6 σ6 => bI (pcall 0 [.int r6] σ6) fun r7 σ7 => some (1, .int r7, σ7))))
  (pcall 189 [.ref 0, .int x0, .int x1, .int x2] σ) := by
  show Le _ (den 189 0 0 [.ref 0, .int x0, .int x1, .int x2, .retAddr 0] [] σ)
  exact r_aload_n k_189_0 rfl rfl
    (r_iload_n k_189_1 rfl rfl
    (r_callV (q_virt (rest := []) (as := [.int x0]) k_189_2 po_189 rfl rfl rfl (rcvO rfl rfl rfl) rfl rfl) (lvq (j := 0) rfl (by decide +kernel)) rfl rfl (fun _ σ1 h1 => r_iload_n k_189_5 rfl rfl
    (r_iconst k_189_6 rfl rfl
    (r_callV (q_stat (rest := []) (av := [.int x2, .int (ι 1)]) k_189_7 po_189 rfl (by decide) rfl rfl rfl rfl) (lvq (j := 0) rfl (by decide +kernel)) rfl rfl (fun _ σ2 h2 => r_iload_n k_189_10 rfl rfl
    (r_iconst k_189_11 rfl rfl
    (r_bipush k_189_12 rfl rfl
    (r_callV (q_stat (rest := []) (av := [.int x1, .int (ι 0), .int (ι 60)]) k_189_14 po_189 rfl (by decide) rfl rfl rfl rfl) (lvq (j := 0) rfl (by decide +kernel)) rfl rfl (fun _ σ3 h3 => r_aload_n k_189_17 rfl rfl
    (r_getR k_189_18 rfl po_189 rfl rfl rfl rfl (gRat (eC rfl h3 (eC rfl h2 (eC rfl h1 e))) (LayR.at hL (i := 6) rfl))
    (r_iload_n k_189_21 rfl rfl
    (r_callA (q_virt (rest := []) (as := [.int x1]) k_189_22 po_189 rfl rfl rfl (rcvO rfl rfl rfl) rfl rfl) (lvq (j := 0) rfl (by decide +kernel)) rfl rfl (fun r4 σ4 h4 => r_gd fun hr4 => r_gd fun L4 => r_astore k_189_25 rfl rfl rfl
    (r_iload_n k_189_27 rfl rfl
    (r_if (tgt := 43) k_189_28 rfl rfl cop_ne
    (r_aload k_189_43 rfl rfl
    (r_iload_n k_189_45 rfl rfl
    (r_callI (q_virt (rest := []) (as := [.int x0]) k_189_46 po_189 rfl rfl rfl (rcvO rfl rfl (kdW hr4)) rfl rfl) (lvq (j := 0) rfl (by decide +kernel)) rfl rfl (fun r5 σ5 h5 => r_ret k_189_49 rfl rfl))))
    (r_aload k_189_31 rfl rfl
    (r_iload_n k_189_33 rfl rfl
    (r_callI (q_virt (rest := []) (as := [.int x0]) k_189_34 po_189 rfl rfl rfl (rcvO rfl rfl (kdW hr4)) rfl rfl) (lvq (j := 0) rfl (by decide +kernel)) rfl rfl (fun r6 σ6 h6 => r_callI (q_stat (rest := []) (av := [.int r6]) k_189_37 po_189 rfl (by decide) rfl rfl rfl rfl) (lvq (j := 0) rfl (by decide +kernel)) rfl rfl (fun r7 σ7 h7 => r_goto (tgt := 49) k_189_40 rfl (r_ret k_189_49 rfl rfl))))))))))))))))))))))
/-! ===== 190 HedgeWants.kept ===== -/
theorem k_190_0 : cd 190 0 = some (.aload_n 0, 1) := by decide +kernel
theorem k_190_1 : cd 190 1 = some (.iload_n 1, 1) := by decide +kernel
theorem k_190_2 : cd 190 2 = some (.invokevirtual 191, 3) := by decide +kernel
theorem k_190_5 : cd 190 5 = some (.aload_n 0, 1) := by decide +kernel
theorem k_190_6 : cd 190 6 = some (.getfield 63, 3) := by decide +kernel
theorem k_190_9 : cd 190 9 = some (.iload_n 1, 1) := by decide +kernel
theorem k_190_10 : cd 190 10 = some (.invokevirtual 269, 3) := by decide +kernel
theorem k_190_13 : cd 190 13 = some (.ireturn, 1) := by decide +kernel
theorem po_190 : po 190 = 0 := rfl
theorem M_190  {x0 : Int32} {σ : pS} {ρ : Nat → Nat → Option Nat} (e : gR σ = ρ) (hL : LayR ρ) : Le
  (bV (pcall 178 [.ref 0, .int x0] σ) fun σ1 => bI (pcall 137 [.ref 54, .int x0] σ1) fun r2 σ2 => gd (LayR (gR σ2)) (some (1, .int r2, σ2)))
  (pcall 190 [.ref 0, .int x0] σ) := by
  show Le _ (den 190 0 0 [.ref 0, .int x0] [] σ)
  exact r_aload_n k_190_0 rfl rfl
    (r_iload_n k_190_1 rfl rfl
    (r_callV (q_virt (rest := []) (as := [.int x0]) k_190_2 po_190 rfl rfl rfl (rcvO rfl rfl rfl) rfl rfl) (lvq (j := 0) rfl (by decide +kernel)) rfl rfl (fun _ σ1 h1 => r_aload_n k_190_5 rfl rfl
    (r_getR k_190_6 rfl po_190 rfl rfl rfl rfl (gRat (eC rfl h1 e) (LayR.at hL (i := 6) rfl))
    (r_iload_n k_190_9 rfl rfl
    (r_callI (q_virt (rest := []) (as := [.int x0]) k_190_10 po_190 rfl rfl rfl (rcvO rfl rfl rfl) rfl rfl) (lvq (j := 0) rfl (by decide +kernel)) rfl rfl (fun r2 σ2 h2 => r_gd fun L2 => r_ret k_190_13 rfl rfl)))))))
/-! ===== 191 HedgeWants.held ===== -/
theorem k_191_0 : cd 191 0 = some (.aload_n 0, 1) := by decide +kernel
theorem k_191_1 : cd 191 1 = some (.iload_n 1, 1) := by decide +kernel
theorem k_191_2 : cd 191 2 = some (.invokevirtual 171, 3) := by decide +kernel
theorem k_191_5 : cd 191 5 = some (.aload_n 0, 1) := by decide +kernel
theorem k_191_6 : cd 191 6 = some (.iload_n 2, 1) := by decide +kernel
theorem k_191_7 : cd 191 7 = some (.invokevirtual 191, 3) := by decide +kernel
theorem k_191_10 : cd 191 10 = some (.iload_n 3, 1) := by decide +kernel
theorem k_191_11 : cd 191 11 = some (.iconst 1, 1) := by decide +kernel
theorem k_191_12 : cd 191 12 = some (.bipush 60, 2) := by decide +kernel
theorem k_191_14 : cd 191 14 = some (.invokestatic 257, 3) := by decide +kernel
theorem k_191_17 : cd 191 17 = some (.aload_n 0, 1) := by decide +kernel
theorem k_191_18 : cd 191 18 = some (.getfield 63, 3) := by decide +kernel
theorem k_191_21 : cd 191 21 = some (.iload_n 1, 1) := by decide +kernel
theorem k_191_22 : cd 191 22 = some (.iload_n 2, 1) := by decide +kernel
theorem k_191_23 : cd 191 23 = some (.iload_n 3, 1) := by decide +kernel
theorem k_191_24 : cd 191 24 = some (.invokevirtual 272, 3) := by decide +kernel
theorem k_191_27 : cd 191 27 = some (.ireturn, 1) := by decide +kernel
theorem po_191 : po 191 = 0 := rfl
theorem M_191  {x0 : Int32} {x1 : Int32} {x2 : Int32} {σ : pS} {ρ : Nat → Nat → Option Nat} (e : gR σ = ρ) (hL : LayR ρ) : Le
  (bV (pcall 176 [.ref 0, .int x0] σ) fun σ1 => bV (pcall 178 [.ref 0, .int x1] σ1) fun σ2 => bV (pcall 188 [.int x2, .int (ι 1), .int (ι 60)] σ2) fun σ3 => bI (pcall 139 [.ref 54, .int x0, .int x1, .int x2] σ3) fun r4 σ4 => gd (LayR (gR σ4)) (some (1, .int r4, σ4)))
  (pcall 191 [.ref 0, .int x0, .int x1, .int x2] σ) := by
  show Le _ (den 191 0 0 [.ref 0, .int x0, .int x1, .int x2] [] σ)
  exact r_aload_n k_191_0 rfl rfl
    (r_iload_n k_191_1 rfl rfl
    (r_callV (q_virt (rest := []) (as := [.int x0]) k_191_2 po_191 rfl rfl rfl (rcvO rfl rfl rfl) rfl rfl) (lvq (j := 0) rfl (by decide +kernel)) rfl rfl (fun _ σ1 h1 => r_aload_n k_191_5 rfl rfl
    (r_iload_n k_191_6 rfl rfl
    (r_callV (q_virt (rest := []) (as := [.int x1]) k_191_7 po_191 rfl rfl rfl (rcvO rfl rfl rfl) rfl rfl) (lvq (j := 0) rfl (by decide +kernel)) rfl rfl (fun _ σ2 h2 => r_iload_n k_191_10 rfl rfl
    (r_iconst k_191_11 rfl rfl
    (r_bipush k_191_12 rfl rfl
    (r_callV (q_stat (rest := []) (av := [.int x2, .int (ι 1), .int (ι 60)]) k_191_14 po_191 rfl (by decide) rfl rfl rfl rfl) (lvq (j := 0) rfl (by decide +kernel)) rfl rfl (fun _ σ3 h3 => r_aload_n k_191_17 rfl rfl
    (r_getR k_191_18 rfl po_191 rfl rfl rfl rfl (gRat (eC rfl h3 (eC rfl h2 (eC rfl h1 e))) (LayR.at hL (i := 6) rfl))
    (r_iload_n k_191_21 rfl rfl
    (r_iload_n k_191_22 rfl rfl
    (r_iload_n k_191_23 rfl rfl
    (r_callI (q_virt (rest := []) (as := [.int x0, .int x1, .int x2]) k_191_24 po_191 rfl rfl rfl (rcvO rfl rfl rfl) rfl rfl) (lvq (j := 0) rfl (by decide +kernel)) rfl rfl (fun r4 σ4 h4 => r_gd fun L4 => r_ret k_191_27 rfl rfl))))))))))))))))
/-! ===== 192 HedgeWants.taken ===== -/
theorem k_192_0 : cd 192 0 = some (.aload_n 0, 1) := by decide +kernel
theorem k_192_1 : cd 192 1 = some (.iload_n 1, 1) := by decide +kernel
theorem k_192_2 : cd 192 2 = some (.invokevirtual 191, 3) := by decide +kernel
theorem k_192_5 : cd 192 5 = some (.iload_n 2, 1) := by decide +kernel
theorem k_192_6 : cd 192 6 = some (.iconst 0, 1) := by decide +kernel
theorem k_192_7 : cd 192 7 = some (.bipush 60, 2) := by decide +kernel
theorem k_192_9 : cd 192 9 = some (.invokestatic 257, 3) := by decide +kernel
theorem k_192_12 : cd 192 12 = some (.aload_n 0, 1) := by decide +kernel
theorem k_192_13 : cd 192 13 = some (.getfield 63, 3) := by decide +kernel
theorem k_192_16 : cd 192 16 = some (.iload_n 2, 1) := by decide +kernel
theorem k_192_17 : cd 192 17 = some (.invokevirtual 260, 3) := by decide +kernel
theorem k_192_20 : cd 192 20 = some (.iload_n 1, 1) := by decide +kernel
theorem k_192_21 : cd 192 21 = some (.invokevirtual 276, 3) := by decide +kernel
theorem k_192_24 : cd 192 24 = some (.ireturn, 1) := by decide +kernel
theorem po_192 : po 192 = 0 := rfl
theorem M_192  {x0 : Int32} {x1 : Int32} {σ : pS} {ρ : Nat → Nat → Option Nat} (e : gR σ = ρ) (hL : LayR ρ) : Le
  (bV (pcall 178 [.ref 0, .int x0] σ) fun σ1 => bV (pcall 188 [.int x1, .int (ι 0), .int (ι 60)] σ1) fun σ2 => bA (pcall 135 [.ref 54, .int x1] σ2) fun r3 σ3 => gd (isW r3) (gd (LayR (gR σ3)) (bI (pcall 97 [.ref r3, .int x0] σ3) fun r4 σ4 => some (1, .int r4, σ4))))
  (pcall 192 [.ref 0, .int x0, .int x1] σ) := by
  show Le _ (den 192 0 0 [.ref 0, .int x0, .int x1] [] σ)
  exact r_aload_n k_192_0 rfl rfl
    (r_iload_n k_192_1 rfl rfl
    (r_callV (q_virt (rest := []) (as := [.int x0]) k_192_2 po_192 rfl rfl rfl (rcvO rfl rfl rfl) rfl rfl) (lvq (j := 0) rfl (by decide +kernel)) rfl rfl (fun _ σ1 h1 => r_iload_n k_192_5 rfl rfl
    (r_iconst k_192_6 rfl rfl
    (r_bipush k_192_7 rfl rfl
    (r_callV (q_stat (rest := []) (av := [.int x1, .int (ι 0), .int (ι 60)]) k_192_9 po_192 rfl (by decide) rfl rfl rfl rfl) (lvq (j := 0) rfl (by decide +kernel)) rfl rfl (fun _ σ2 h2 => r_aload_n k_192_12 rfl rfl
    (r_getR k_192_13 rfl po_192 rfl rfl rfl rfl (gRat (eC rfl h2 (eC rfl h1 e)) (LayR.at hL (i := 6) rfl))
    (r_iload_n k_192_16 rfl rfl
    (r_callA (q_virt (rest := []) (as := [.int x1]) k_192_17 po_192 rfl rfl rfl (rcvO rfl rfl rfl) rfl rfl) (lvq (j := 0) rfl (by decide +kernel)) rfl rfl (fun r3 σ3 h3 => r_gd fun hr3 => r_gd fun L3 => r_iload_n k_192_20 rfl rfl
    (r_callI (q_virt (rest := []) (as := [.int x0]) k_192_21 po_192 rfl rfl rfl (rcvO rfl rfl (kdW hr3)) rfl rfl) (lvq (j := 0) rfl (by decide +kernel)) rfl rfl (fun r4 σ4 h4 => r_ret k_192_24 rfl rfl)))))))))))))
/-! ===== 193 HedgeWants.later ===== -/
theorem k_193_0 : cd 193 0 = some (.iload_n 2, 1) := by decide +kernel
theorem k_193_1 : cd 193 1 = some (.iconst 3, 1) := by decide +kernel
theorem k_193_2 : cd 193 2 = some (.invokestatic 215, 3) := by decide +kernel
theorem k_193_5 : cd 193 5 = some (.iload_n 1, 1) := by decide +kernel
theorem k_193_6 : cd 193 6 = some (.iconst 0, 1) := by decide +kernel
theorem k_193_7 : cd 193 7 = some (.bipush 60, 2) := by decide +kernel
theorem k_193_9 : cd 193 9 = some (.invokestatic 257, 3) := by decide +kernel
theorem k_193_12 : cd 193 12 = some (.aload_n 0, 1) := by decide +kernel
theorem k_193_13 : cd 193 13 = some (.getfield 63, 3) := by decide +kernel
theorem k_193_16 : cd 193 16 = some (.iload_n 1, 1) := by decide +kernel
theorem k_193_17 : cd 193 17 = some (.invokevirtual 260, 3) := by decide +kernel
theorem k_193_20 : cd 193 20 = some (.astore_n 3, 1) := by decide +kernel
theorem k_193_21 : cd 193 21 = some (.iload_n 2, 1) := by decide +kernel
theorem k_193_22 : cd 193 22 = some (.tableswitch 41 0 2 #[26, 31, 36], 26) := by decide +kernel
theorem k_193_48 : cd 193 48 = some (.aload_n 3, 1) := by decide +kernel
theorem k_193_49 : cd 193 49 = some (.invokevirtual 279, 3) := by decide +kernel
theorem k_193_52 : cd 193 52 = some (.ireturn, 1) := by decide +kernel
theorem k_193_53 : cd 193 53 = some (.aload_n 3, 1) := by decide +kernel
theorem k_193_54 : cd 193 54 = some (.invokevirtual 282, 3) := by decide +kernel
theorem k_193_57 : cd 193 57 = some (.ireturn, 1) := by decide +kernel
theorem k_193_58 : cd 193 58 = some (.aload_n 3, 1) := by decide +kernel
theorem k_193_59 : cd 193 59 = some (.invokevirtual 285, 3) := by decide +kernel
theorem k_193_62 : cd 193 62 = some (.ireturn, 1) := by decide +kernel
theorem k_193_63 : cd 193 63 = some (.aload_n 3, 1) := by decide +kernel
theorem k_193_64 : cd 193 64 = some (.invokevirtual 288, 3) := by decide +kernel
theorem k_193_67 : cd 193 67 = some (.ireturn, 1) := by decide +kernel
theorem po_193 : po 193 = 0 := rfl
theorem M_193  {x0 : Int32} {x1 : Int32} {σ : pS} {ρ : Nat → Nat → Option Nat} (e : gR σ = ρ) (hL : LayR ρ) : Le
  (bV (pcall 180 [.int x1, .int (ι 3)] σ) fun σ1 => bV (pcall 188 [.int x0, .int (ι 0), .int (ι 60)] σ1) fun σ2 => bA (pcall 135 [.ref 54, .int x0] σ2) fun r3 σ3 => gd (isW r3) (gd (LayR (gR σ3)) (if x1 = (ι 0) then bI (pcall 98 [.ref r3] σ3) fun r9 σ9 => some (1, .int r9, σ9) else if x1 = (ι 1) then bI (pcall 99 [.ref r3] σ3) fun r7 σ7 => some (1, .int r7, σ7) else if x1 = (ι 2) then bI (pcall 100 [.ref r3] σ3) fun r5 σ5 => some (1, .int r5, σ5) else gd (x1.toInt < 0 ∨ 2 < x1.toInt) (bI (pcall 101 [.ref r3] σ3) fun r4 σ4 => some (1, .int r4, σ4)))))
  (pcall 193 [.ref 0, .int x0, .int x1] σ) := by
  show Le _ (den 193 0 0 [.ref 0, .int x0, .int x1, .retAddr 0] [] σ)
  exact r_iload_n k_193_0 rfl rfl
    (r_iconst k_193_1 rfl rfl
    (r_callV (q_stat (rest := []) (av := [.int x1, .int (ι 3)]) k_193_2 po_193 rfl (by decide) rfl rfl rfl rfl) (lvq (j := 0) rfl (by decide +kernel)) rfl rfl (fun _ σ1 h1 => r_iload_n k_193_5 rfl rfl
    (r_iconst k_193_6 rfl rfl
    (r_bipush k_193_7 rfl rfl
    (r_callV (q_stat (rest := []) (av := [.int x0, .int (ι 0), .int (ι 60)]) k_193_9 po_193 rfl (by decide) rfl rfl rfl rfl) (lvq (j := 0) rfl (by decide +kernel)) rfl rfl (fun _ σ2 h2 => r_aload_n k_193_12 rfl rfl
    (r_getR k_193_13 rfl po_193 rfl rfl rfl rfl (gRat (eC rfl h2 (eC rfl h1 e)) (LayR.at hL (i := 6) rfl))
    (r_iload_n k_193_16 rfl rfl
    (r_callA (q_virt (rest := []) (as := [.int x0]) k_193_17 po_193 rfl rfl rfl (rcvO rfl rfl rfl) rfl rfl) (lvq (j := 0) rfl (by decide +kernel)) rfl rfl (fun r3 σ3 h3 => r_gd fun hr3 => r_gd fun L3 => r_astore_n k_193_20 rfl rfl rfl
    (r_iload_n k_193_21 rfl rfl
    (r_case (fun c10 => r_tabGo (off := 26) (tgt := 48) c10 k_193_22 (by decide) (by decide) rfl (r_aload_n k_193_48 rfl rfl
    (r_callI (q_virt (rest := []) (as := []) k_193_49 po_193 rfl rfl rfl (rcvO rfl rfl (kdW hr3)) rfl rfl) (lvq (j := 0) rfl (by decide +kernel)) rfl rfl (fun r9 σ9 h9 => r_ret k_193_52 rfl rfl)))) (fun _ => r_case (fun c8 => r_tabGo (off := 31) (tgt := 53) c8 k_193_22 (by decide) (by decide) rfl (r_aload_n k_193_53 rfl rfl
    (r_callI (q_virt (rest := []) (as := []) k_193_54 po_193 rfl rfl rfl (rcvO rfl rfl (kdW hr3)) rfl rfl) (lvq (j := 0) rfl (by decide +kernel)) rfl rfl (fun r7 σ7 h7 => r_ret k_193_57 rfl rfl)))) (fun _ => r_case (fun c6 => r_tabGo (off := 36) (tgt := 58) c6 k_193_22 (by decide) (by decide) rfl (r_aload_n k_193_58 rfl rfl
    (r_callI (q_virt (rest := []) (as := []) k_193_59 po_193 rfl rfl rfl (rcvO rfl rfl (kdW hr3)) rfl rfl) (lvq (j := 0) rfl (by decide +kernel)) rfl rfl (fun r5 σ5 h5 => r_ret k_193_62 rfl rfl)))) (fun _ => r_gd fun g => r_tabOut (tgt := 63) k_193_22 g rfl (r_aload_n k_193_63 rfl rfl
    (r_callI (q_virt (rest := []) (as := []) k_193_64 po_193 rfl rfl rfl (rcvO rfl rfl (kdW hr3)) rfl rfl) (lvq (j := 0) rfl (by decide +kernel)) rfl rfl (fun r4 σ4 h4 => r_ret k_193_67 rfl rfl)))))))))))))))))))
/-! ===== 194 HedgeWants.rests ===== -/
theorem k_194_0 : cd 194 0 = some (.iload_n 1, 1) := by decide +kernel
theorem k_194_1 : cd 194 1 = some (.iconst 1, 1) := by decide +kernel
theorem k_194_2 : cd 194 2 = some (.invokestatic 215, 3) := by decide +kernel
theorem k_194_5 : cd 194 5 = some (.iload_n 1, 1) := by decide +kernel
theorem k_194_6 : cd 194 6 = some (.ifCond .ne 13, 3) := by decide +kernel
theorem k_194_9 : cd 194 9 = some (.aload_n 0, 1) := by decide +kernel
theorem k_194_10 : cd 194 10 = some (.getfield 63, 3) := by decide +kernel
theorem k_194_13 : cd 194 13 = some (.invokevirtual 291, 3) := by decide +kernel
theorem k_194_16 : cd 194 16 = some (.goto 10, 3) := by decide +kernel
theorem k_194_19 : cd 194 19 = some (.aload_n 0, 1) := by decide +kernel
theorem k_194_20 : cd 194 20 = some (.getfield 63, 3) := by decide +kernel
theorem k_194_23 : cd 194 23 = some (.invokevirtual 294, 3) := by decide +kernel
theorem k_194_26 : cd 194 26 = some (.ireturn, 1) := by decide +kernel
theorem po_194 : po 194 = 0 := rfl
theorem M_194  {x0 : Int32} {σ : pS} {ρ : Nat → Nat → Option Nat} (e : gR σ = ρ) (hL : LayR ρ) : Le
  (bV (pcall 180 [.int x0, .int (ι 1)] σ) fun σ1 => if ¬ x0 = (ι 0) then bI (pcall 141 [.ref 54] σ1) fun r2 σ2 => gd (LayR (gR σ2)) (some (1, .int r2, σ2)) else bI (pcall 140 [.ref 54] σ1) fun r3 σ3 => gd (LayR (gR σ3)) (some (1, .int r3, σ3)))
  (pcall 194 [.ref 0, .int x0] σ) := by
  show Le _ (den 194 0 0 [.ref 0, .int x0] [] σ)
  exact r_iload_n k_194_0 rfl rfl
    (r_iconst k_194_1 rfl rfl
    (r_callV (q_stat (rest := []) (av := [.int x0, .int (ι 1)]) k_194_2 po_194 rfl (by decide) rfl rfl rfl rfl) (lvq (j := 0) rfl (by decide +kernel)) rfl rfl (fun _ σ1 h1 => r_iload_n k_194_5 rfl rfl
    (r_if (tgt := 19) k_194_6 rfl rfl cop_ne
    (r_aload_n k_194_19 rfl rfl
    (r_getR k_194_20 rfl po_194 rfl rfl rfl rfl (gRat (eC rfl h1 e) (LayR.at hL (i := 6) rfl))
    (r_callI (q_virt (rest := []) (as := []) k_194_23 po_194 rfl rfl rfl (rcvO rfl rfl rfl) rfl rfl) (lvq (j := 0) rfl (by decide +kernel)) rfl rfl (fun r2 σ2 h2 => r_gd fun L2 => r_ret k_194_26 rfl rfl))))
    (r_aload_n k_194_9 rfl rfl
    (r_getR k_194_10 rfl po_194 rfl rfl rfl rfl (gRat (eC rfl h1 e) (LayR.at hL (i := 6) rfl))
    (r_callI (q_virt (rest := []) (as := []) k_194_13 po_194 rfl rfl rfl (rcvO rfl rfl rfl) rfl rfl) (lvq (j := 0) rfl (by decide +kernel)) rfl rfl (fun r3 σ3 h3 => r_gd fun L3 => r_goto (tgt := 26) k_194_16 rfl (r_ret k_194_26 rfl rfl)))))))))
/-! ===== 195 HedgeWants.envies ===== -/
theorem k_195_0 : cd 195 0 = some (.aload_n 0, 1) := by decide +kernel
theorem k_195_1 : cd 195 1 = some (.iload_n 1, 1) := by decide +kernel
theorem k_195_2 : cd 195 2 = some (.invokevirtual 171, 3) := by decide +kernel
theorem k_195_5 : cd 195 5 = some (.aload_n 0, 1) := by decide +kernel
theorem k_195_6 : cd 195 6 = some (.iload_n 2, 1) := by decide +kernel
theorem k_195_7 : cd 195 7 = some (.invokevirtual 171, 3) := by decide +kernel
theorem k_195_10 : cd 195 10 = some (.aload_n 0, 1) := by decide +kernel
theorem k_195_11 : cd 195 11 = some (.getfield 41, 3) := by decide +kernel
theorem k_195_14 : cd 195 14 = some (.iload_n 1, 1) := by decide +kernel
theorem k_195_15 : cd 195 15 = some (.iload_n 2, 1) := by decide +kernel
theorem k_195_16 : cd 195 16 = some (.invokestatic 297, 3) := by decide +kernel
theorem k_195_19 : cd 195 19 = some (.ireturn, 1) := by decide +kernel
theorem po_195 : po 195 = 0 := rfl
theorem M_195  {x0 : Int32} {x1 : Int32} {σ : pS} {ρ : Nat → Nat → Option Nat} (e : gR σ = ρ) (hL : LayR ρ) : Le
  (bV (pcall 176 [.ref 0, .int x0] σ) fun σ1 => bV (pcall 176 [.ref 0, .int x1] σ1) fun σ2 => bI (pcall 117 [.ref 25, .int x0, .int x1] σ2) fun r3 σ3 => gd (narrow .boolean (.int r3) = .int r3) (some (1, .int r3, σ3)))
  (pcall 195 [.ref 0, .int x0, .int x1] σ) := by
  show Le _ (den 195 0 0 [.ref 0, .int x0, .int x1] [] σ)
  exact r_aload_n k_195_0 rfl rfl
    (r_iload_n k_195_1 rfl rfl
    (r_callV (q_virt (rest := []) (as := [.int x0]) k_195_2 po_195 rfl rfl rfl (rcvO rfl rfl rfl) rfl rfl) (lvq (j := 0) rfl (by decide +kernel)) rfl rfl (fun _ σ1 h1 => r_aload_n k_195_5 rfl rfl
    (r_iload_n k_195_6 rfl rfl
    (r_callV (q_virt (rest := []) (as := [.int x1]) k_195_7 po_195 rfl rfl rfl (rcvO rfl rfl rfl) rfl rfl) (lvq (j := 0) rfl (by decide +kernel)) rfl rfl (fun _ σ2 h2 => r_aload_n k_195_10 rfl rfl
    (r_getR k_195_11 rfl po_195 rfl rfl rfl rfl (gRat (eC rfl h2 (eC rfl h1 e)) (LayR.at hL (i := 2) rfl))
    (r_iload_n k_195_14 rfl rfl
    (r_iload_n k_195_15 rfl rfl
    (r_callI (q_stat (rest := []) (av := [.ref 25, .int x0, .int x1]) k_195_16 po_195 rfl (by decide) rfl rfl rfl rfl) (lvq (j := 0) rfl (by decide +kernel)) rfl rfl (fun r3 σ3 h3 => r_gd fun g => r_ret k_195_19 rfl g)))))))))))
/-! ===== 196 HedgeWants.each ===== -/
theorem k_196_0 : cd 196 0 = some (.iload_n 1, 1) := by decide +kernel
theorem k_196_1 : cd 196 1 = some (.iconst (-1), 1) := by decide +kernel
theorem k_196_2 : cd 196 2 = some (.if_icmp .eq 8, 3) := by decide +kernel
theorem k_196_5 : cd 196 5 = some (.aload_n 0, 1) := by decide +kernel
theorem k_196_6 : cd 196 6 = some (.iload_n 1, 1) := by decide +kernel
theorem k_196_7 : cd 196 7 = some (.invokevirtual 171, 3) := by decide +kernel
theorem k_196_10 : cd 196 10 = some (.aload_n 0, 1) := by decide +kernel
theorem k_196_11 : cd 196 11 = some (.getfield 79, 3) := by decide +kernel
theorem k_196_14 : cd 196 14 = some (.aload_n 0, 1) := by decide +kernel
theorem k_196_15 : cd 196 15 = some (.getfield 41, 3) := by decide +kernel
theorem k_196_18 : cd 196 18 = some (.invokevirtual 301, 3) := by decide +kernel
theorem k_196_21 : cd 196 21 = some (.iload_n 1, 1) := by decide +kernel
theorem k_196_22 : cd 196 22 = some (.iconst (-1), 1) := by decide +kernel
theorem k_196_23 : cd 196 23 = some (.if_icmp .ne 13, 3) := by decide +kernel
theorem k_196_26 : cd 196 26 = some (.aload_n 0, 1) := by decide +kernel
theorem k_196_27 : cd 196 27 = some (.getfield 79, 3) := by decide +kernel
theorem k_196_30 : cd 196 30 = some (.invokevirtual 304, 3) := by decide +kernel
theorem k_196_33 : cd 196 33 = some (.goto 11, 3) := by decide +kernel
theorem k_196_36 : cd 196 36 = some (.aload_n 0, 1) := by decide +kernel
theorem k_196_37 : cd 196 37 = some (.getfield 79, 3) := by decide +kernel
theorem k_196_40 : cd 196 40 = some (.iload_n 1, 1) := by decide +kernel
theorem k_196_41 : cd 196 41 = some (.invokevirtual 307, 3) := by decide +kernel
theorem k_196_44 : cd 196 44 = some (.ireturn, 1) := by decide +kernel
theorem po_196 : po 196 = 0 := rfl
noncomputable def C_196_10  (x1 : Int32) (σ : pS) : Option pZ := den 196 0 10 [.ref 0, .int x1] [] σ
theorem T_196_10  {x1 : Int32}  {σ : pS} {ρ : Nat → Nat → Option Nat} (e : gR σ = ρ) (hL : LayR ρ) : Le
  (bV (pcall 129 [.ref 59, .ref 25] σ) fun σ1 => if ¬ x1 = (ν 1) then bI (pcall 132 [.ref 59, .int x1] σ1) fun r2 σ2 => some (1, .int r2, σ2) else bI (pcall 131 [.ref 59] σ1) fun r3 σ3 => some (1, .int r3, σ3))
  (C_196_10  x1 σ) := by
  unfold C_196_10
  exact r_aload_n k_196_10 rfl rfl
    (r_getR k_196_11 rfl po_196 rfl rfl rfl rfl (gRat e (LayR.at hL (i := 8) rfl))
    (r_aload_n k_196_14 rfl rfl
    (r_getR k_196_15 rfl po_196 rfl rfl rfl rfl (gRat e (LayR.at hL (i := 2) rfl))
    (r_callV (q_virt (rest := []) (as := [.ref 25]) k_196_18 po_196 rfl rfl rfl (rcvO rfl rfl rfl) rfl rfl) (lvq (j := 0) rfl (by decide +kernel)) rfl rfl (fun _ σ1 h1 => r_iload_n k_196_21 rfl rfl
    (r_iconst k_196_22 rfl rfl
    (r_icmp (tgt := 36) k_196_23 rfl rfl cop_ne
    (r_aload_n k_196_36 rfl rfl
    (r_getR k_196_37 rfl po_196 rfl rfl rfl rfl (gRat (eC rfl h1 e) (LayR.at hL (i := 8) rfl))
    (r_iload_n k_196_40 rfl rfl
    (r_callI (q_virt (rest := []) (as := [.int x1]) k_196_41 po_196 rfl rfl rfl (rcvO rfl rfl rfl) rfl rfl) (lvq (j := 0) rfl (by decide +kernel)) rfl rfl (fun r2 σ2 h2 => r_ret k_196_44 rfl rfl)))))
    (r_aload_n k_196_26 rfl rfl
    (r_getR k_196_27 rfl po_196 rfl rfl rfl rfl (gRat (eC rfl h1 e) (LayR.at hL (i := 8) rfl))
    (r_callI (q_virt (rest := []) (as := []) k_196_30 po_196 rfl rfl rfl (rcvO rfl rfl rfl) rfl rfl) (lvq (j := 0) rfl (by decide +kernel)) rfl rfl (fun r3 σ3 h3 => r_goto (tgt := 44) k_196_33 rfl (r_ret k_196_44 rfl rfl))))))))))))
theorem M_196  {x0 : Int32} {σ : pS} {ρ : Nat → Nat → Option Nat} (e : gR σ = ρ) (hL : LayR ρ) : Le
  (if x0 = (ν 1) then C_196_10 x0 σ else bV (pcall 176 [.ref 0, .int x0] σ) fun σ1 => C_196_10 x0 σ1)
  (pcall 196 [.ref 0, .int x0] σ) := by
  show Le _ (den 196 0 0 [.ref 0, .int x0] [] σ)
  exact r_iload_n k_196_0 rfl rfl
    (r_iconst k_196_1 rfl rfl
    (r_icmp (tgt := 10) k_196_2 rfl rfl cop_eq
    (Le.rfl')
    (r_aload_n k_196_5 rfl rfl
    (r_iload_n k_196_6 rfl rfl
    (r_callV (q_virt (rest := []) (as := [.int x0]) k_196_7 po_196 rfl rfl rfl (rcvO rfl rfl rfl) rfl rfl) (lvq (j := 0) rfl (by decide +kernel)) rfl rfl (fun _ σ1 h1 => Le.rfl'))))))
/-! ===== 197 HedgeWants.far ===== -/
theorem k_197_0 : cd 197 0 = some (.aload_n 0, 1) := by decide +kernel
theorem k_197_1 : cd 197 1 = some (.iload_n 1, 1) := by decide +kernel
theorem k_197_2 : cd 197 2 = some (.invokevirtual 171, 3) := by decide +kernel
theorem k_197_5 : cd 197 5 = some (.aload_n 0, 1) := by decide +kernel
theorem k_197_6 : cd 197 6 = some (.iload_n 2, 1) := by decide +kernel
theorem k_197_7 : cd 197 7 = some (.invokevirtual 171, 3) := by decide +kernel
theorem k_197_10 : cd 197 10 = some (.aload_n 0, 1) := by decide +kernel
theorem k_197_11 : cd 197 11 = some (.getfield 41, 3) := by decide +kernel
theorem k_197_14 : cd 197 14 = some (.iload_n 1, 1) := by decide +kernel
theorem k_197_15 : cd 197 15 = some (.iload_n 2, 1) := by decide +kernel
theorem k_197_16 : cd 197 16 = some (.invokestatic 310, 3) := by decide +kernel
theorem k_197_19 : cd 197 19 = some (.ireturn, 1) := by decide +kernel
theorem po_197 : po 197 = 0 := rfl
theorem M_197  {x0 : Int32} {x1 : Int32} {σ : pS} {ρ : Nat → Nat → Option Nat} (e : gR σ = ρ) (hL : LayR ρ) : Le
  (bV (pcall 176 [.ref 0, .int x0] σ) fun σ1 => bV (pcall 176 [.ref 0, .int x1] σ1) fun σ2 => bI (pcall 126 [.ref 25, .int x0, .int x1] σ2) fun r3 σ3 => some (1, .int r3, σ3))
  (pcall 197 [.ref 0, .int x0, .int x1] σ) := by
  show Le _ (den 197 0 0 [.ref 0, .int x0, .int x1] [] σ)
  exact r_aload_n k_197_0 rfl rfl
    (r_iload_n k_197_1 rfl rfl
    (r_callV (q_virt (rest := []) (as := [.int x0]) k_197_2 po_197 rfl rfl rfl (rcvO rfl rfl rfl) rfl rfl) (lvq (j := 0) rfl (by decide +kernel)) rfl rfl (fun _ σ1 h1 => r_aload_n k_197_5 rfl rfl
    (r_iload_n k_197_6 rfl rfl
    (r_callV (q_virt (rest := []) (as := [.int x1]) k_197_7 po_197 rfl rfl rfl (rcvO rfl rfl rfl) rfl rfl) (lvq (j := 0) rfl (by decide +kernel)) rfl rfl (fun _ σ2 h2 => r_aload_n k_197_10 rfl rfl
    (r_getR k_197_11 rfl po_197 rfl rfl rfl rfl (gRat (eC rfl h2 (eC rfl h1 e)) (LayR.at hL (i := 2) rfl))
    (r_iload_n k_197_14 rfl rfl
    (r_iload_n k_197_15 rfl rfl
    (r_callI (q_stat (rest := []) (av := [.ref 25, .int x0, .int x1]) k_197_16 po_197 rfl (by decide) rfl rfl rfl rfl) (lvq (j := 0) rfl (by decide +kernel)) rfl rfl (fun r3 σ3 h3 => r_ret k_197_19 rfl rfl)))))))))))
/-! ===== 198 HedgeWants.away ===== -/
theorem k_198_0 : cd 198 0 = some (.aload_n 0, 1) := by decide +kernel
theorem k_198_1 : cd 198 1 = some (.iload_n 1, 1) := by decide +kernel
theorem k_198_2 : cd 198 2 = some (.invokevirtual 171, 3) := by decide +kernel
theorem k_198_5 : cd 198 5 = some (.aload_n 0, 1) := by decide +kernel
theorem k_198_6 : cd 198 6 = some (.iload_n 2, 1) := by decide +kernel
theorem k_198_7 : cd 198 7 = some (.invokevirtual 171, 3) := by decide +kernel
theorem k_198_10 : cd 198 10 = some (.aload_n 0, 1) := by decide +kernel
theorem k_198_11 : cd 198 11 = some (.getfield 41, 3) := by decide +kernel
theorem k_198_14 : cd 198 14 = some (.iload_n 1, 1) := by decide +kernel
theorem k_198_15 : cd 198 15 = some (.iload_n 2, 1) := by decide +kernel
theorem k_198_16 : cd 198 16 = some (.invokestatic 314, 3) := by decide +kernel
theorem k_198_19 : cd 198 19 = some (.ireturn, 1) := by decide +kernel
theorem po_198 : po 198 = 0 := rfl
theorem M_198  {x0 : Int32} {x1 : Int32} {σ : pS} {ρ : Nat → Nat → Option Nat} (e : gR σ = ρ) (hL : LayR ρ) : Le
  (bV (pcall 176 [.ref 0, .int x0] σ) fun σ1 => bV (pcall 176 [.ref 0, .int x1] σ1) fun σ2 => bI (pcall 127 [.ref 25, .int x0, .int x1] σ2) fun r3 σ3 => some (1, .int r3, σ3))
  (pcall 198 [.ref 0, .int x0, .int x1] σ) := by
  show Le _ (den 198 0 0 [.ref 0, .int x0, .int x1] [] σ)
  exact r_aload_n k_198_0 rfl rfl
    (r_iload_n k_198_1 rfl rfl
    (r_callV (q_virt (rest := []) (as := [.int x0]) k_198_2 po_198 rfl rfl rfl (rcvO rfl rfl rfl) rfl rfl) (lvq (j := 0) rfl (by decide +kernel)) rfl rfl (fun _ σ1 h1 => r_aload_n k_198_5 rfl rfl
    (r_iload_n k_198_6 rfl rfl
    (r_callV (q_virt (rest := []) (as := [.int x1]) k_198_7 po_198 rfl rfl rfl (rcvO rfl rfl rfl) rfl rfl) (lvq (j := 0) rfl (by decide +kernel)) rfl rfl (fun _ σ2 h2 => r_aload_n k_198_10 rfl rfl
    (r_getR k_198_11 rfl po_198 rfl rfl rfl rfl (gRat (eC rfl h2 (eC rfl h1 e)) (LayR.at hL (i := 2) rfl))
    (r_iload_n k_198_14 rfl rfl
    (r_iload_n k_198_15 rfl rfl
    (r_callI (q_stat (rest := []) (av := [.ref 25, .int x0, .int x1]) k_198_16 po_198 rfl (by decide) rfl rfl rfl rfl) (lvq (j := 0) rfl (by decide +kernel)) rfl rfl (fun r3 σ3 h3 => r_ret k_198_19 rfl rfl)))))))))))
/-! ===== 199 HedgeWants.toAsk ===== -/
theorem k_199_0 : cd 199 0 = some (.aload_n 0, 1) := by decide +kernel
theorem k_199_1 : cd 199 1 = some (.iload_n 1, 1) := by decide +kernel
theorem k_199_2 : cd 199 2 = some (.invokevirtual 171, 3) := by decide +kernel
theorem k_199_5 : cd 199 5 = some (.iload_n 2, 1) := by decide +kernel
theorem k_199_6 : cd 199 6 = some (.iconst 1, 1) := by decide +kernel
theorem k_199_7 : cd 199 7 = some (.bipush 60, 2) := by decide +kernel
theorem k_199_9 : cd 199 9 = some (.invokestatic 257, 3) := by decide +kernel
theorem k_199_12 : cd 199 12 = some (.aload_n 0, 1) := by decide +kernel
theorem k_199_13 : cd 199 13 = some (.getfield 63, 3) := by decide +kernel
theorem k_199_16 : cd 199 16 = some (.iload_n 1, 1) := by decide +kernel
theorem k_199_17 : cd 199 17 = some (.iload_n 2, 1) := by decide +kernel
theorem k_199_18 : cd 199 18 = some (.invokevirtual 317, 3) := by decide +kernel
theorem k_199_21 : cd 199 21 = some (.ireturn, 1) := by decide +kernel
theorem po_199 : po 199 = 0 := rfl
theorem M_199  {x0 : Int32} {x1 : Int32} {σ : pS} {ρ : Nat → Nat → Option Nat} (e : gR σ = ρ) (hL : LayR ρ) : Le
  (bV (pcall 176 [.ref 0, .int x0] σ) fun σ1 => bV (pcall 188 [.int x1, .int (ι 1), .int (ι 60)] σ1) fun σ2 => bI (pcall 142 [.ref 54, .int x0, .int x1] σ2) fun r3 σ3 => gd (LayR (gR σ3)) (some (1, .int r3, σ3)))
  (pcall 199 [.ref 0, .int x0, .int x1] σ) := by
  show Le _ (den 199 0 0 [.ref 0, .int x0, .int x1] [] σ)
  exact r_aload_n k_199_0 rfl rfl
    (r_iload_n k_199_1 rfl rfl
    (r_callV (q_virt (rest := []) (as := [.int x0]) k_199_2 po_199 rfl rfl rfl (rcvO rfl rfl rfl) rfl rfl) (lvq (j := 0) rfl (by decide +kernel)) rfl rfl (fun _ σ1 h1 => r_iload_n k_199_5 rfl rfl
    (r_iconst k_199_6 rfl rfl
    (r_bipush k_199_7 rfl rfl
    (r_callV (q_stat (rest := []) (av := [.int x1, .int (ι 1), .int (ι 60)]) k_199_9 po_199 rfl (by decide) rfl rfl rfl rfl) (lvq (j := 0) rfl (by decide +kernel)) rfl rfl (fun _ σ2 h2 => r_aload_n k_199_12 rfl rfl
    (r_getR k_199_13 rfl po_199 rfl rfl rfl rfl (gRat (eC rfl h2 (eC rfl h1 e)) (LayR.at hL (i := 6) rfl))
    (r_iload_n k_199_16 rfl rfl
    (r_iload_n k_199_17 rfl rfl
    (r_callI (q_virt (rest := []) (as := [.int x0, .int x1]) k_199_18 po_199 rfl rfl rfl (rcvO rfl rfl rfl) rfl rfl) (lvq (j := 0) rfl (by decide +kernel)) rfl rfl (fun r3 σ3 h3 => r_gd fun L3 => r_ret k_199_21 rfl rfl))))))))))))
/-! ===== 200 HedgeWants.toGive ===== -/
theorem k_200_0 : cd 200 0 = some (.aload_n 0, 1) := by decide +kernel
theorem k_200_1 : cd 200 1 = some (.iload_n 1, 1) := by decide +kernel
theorem k_200_2 : cd 200 2 = some (.invokevirtual 191, 3) := by decide +kernel
theorem k_200_5 : cd 200 5 = some (.aload_n 0, 1) := by decide +kernel
theorem k_200_6 : cd 200 6 = some (.getfield 63, 3) := by decide +kernel
theorem k_200_9 : cd 200 9 = some (.iload_n 1, 1) := by decide +kernel
theorem k_200_10 : cd 200 10 = some (.invokevirtual 320, 3) := by decide +kernel
theorem k_200_13 : cd 200 13 = some (.ireturn, 1) := by decide +kernel
theorem po_200 : po 200 = 0 := rfl
theorem M_200  {x0 : Int32} {σ : pS} {ρ : Nat → Nat → Option Nat} (e : gR σ = ρ) (hL : LayR ρ) : Le
  (bV (pcall 178 [.ref 0, .int x0] σ) fun σ1 => bI (pcall 143 [.ref 54, .int x0] σ1) fun r2 σ2 => gd (LayR (gR σ2)) (some (1, .int r2, σ2)))
  (pcall 200 [.ref 0, .int x0] σ) := by
  show Le _ (den 200 0 0 [.ref 0, .int x0] [] σ)
  exact r_aload_n k_200_0 rfl rfl
    (r_iload_n k_200_1 rfl rfl
    (r_callV (q_virt (rest := []) (as := [.int x0]) k_200_2 po_200 rfl rfl rfl (rcvO rfl rfl rfl) rfl rfl) (lvq (j := 0) rfl (by decide +kernel)) rfl rfl (fun _ σ1 h1 => r_aload_n k_200_5 rfl rfl
    (r_getR k_200_6 rfl po_200 rfl rfl rfl rfl (gRat (eC rfl h1 e) (LayR.at hL (i := 6) rfl))
    (r_iload_n k_200_9 rfl rfl
    (r_callI (q_virt (rest := []) (as := [.int x0]) k_200_10 po_200 rfl rfl rfl (rcvO rfl rfl rfl) rfl rfl) (lvq (j := 0) rfl (by decide +kernel)) rfl rfl (fun r2 σ2 h2 => r_gd fun L2 => r_ret k_200_13 rfl rfl)))))))
/-! ===== 201 HedgeWants.see ===== -/
theorem k_201_0 : cd 201 0 = some (.aload_n 0, 1) := by decide +kernel
theorem k_201_1 : cd 201 1 = some (.iload_n 1, 1) := by decide +kernel
theorem k_201_2 : cd 201 2 = some (.invokevirtual 191, 3) := by decide +kernel
theorem k_201_5 : cd 201 5 = some (.aload_n 0, 1) := by decide +kernel
theorem k_201_6 : cd 201 6 = some (.iload_n 3, 1) := by decide +kernel
theorem k_201_7 : cd 201 7 = some (.invokevirtual 171, 3) := by decide +kernel
theorem k_201_10 : cd 201 10 = some (.aload_n 0, 1) := by decide +kernel
theorem k_201_11 : cd 201 11 = some (.getfield 48, 3) := by decide +kernel
theorem k_201_14 : cd 201 14 = some (.invokevirtual 160, 3) := by decide +kernel
theorem k_201_17 : cd 201 17 = some (.bipush 8, 2) := by decide +kernel
theorem k_201_19 : cd 201 19 = some (.if_icmp .ge 13, 3) := by decide +kernel
theorem k_201_22 : cd 201 22 = some (.iload_n 2, 1) := by decide +kernel
theorem k_201_23 : cd 201 23 = some (.ifCond .lt 9, 3) := by decide +kernel
theorem k_201_26 : cd 201 26 = some (.iload_n 2, 1) := by decide +kernel
theorem k_201_27 : cd 201 27 = some (.bipush 20, 2) := by decide +kernel
theorem k_201_29 : cd 201 29 = some (.if_icmp .le 12, 3) := by decide +kernel
theorem k_201_32 : cd 201 32 = some (.aload_n 0, 1) := by decide +kernel
theorem k_201_33 : cd 201 33 = some (.getfield 48, 3) := by decide +kernel
theorem k_201_36 : cd 201 36 = some (.iconst 2, 1) := by decide +kernel
theorem k_201_37 : cd 201 37 = some (.invokevirtual 104, 3) := by decide +kernel
theorem k_201_40 : cd 201 40 = some (.ireturn, 1) := by decide +kernel
theorem k_201_41 : cd 201 41 = some (.aload_n 0, 1) := by decide +kernel
theorem k_201_42 : cd 201 42 = some (.getfield 48, 3) := by decide +kernel
theorem k_201_45 : cd 201 45 = some (.iload_n 1, 1) := by decide +kernel
theorem k_201_46 : cd 201 46 = some (.iload_n 2, 1) := by decide +kernel
theorem k_201_47 : cd 201 47 = some (.iload_n 3, 1) := by decide +kernel
theorem k_201_48 : cd 201 48 = some (.invokevirtual 323, 3) := by decide +kernel
theorem k_201_51 : cd 201 51 = some (.aload_n 0, 1) := by decide +kernel
theorem k_201_52 : cd 201 52 = some (.getfield 48, 3) := by decide +kernel
theorem k_201_55 : cd 201 55 = some (.invokevirtual 160, 3) := by decide +kernel
theorem k_201_58 : cd 201 58 = some (.ireturn, 1) := by decide +kernel
theorem po_201 : po 201 = 0 := rfl
theorem M_201  {x0 : Int32} {x1 : Int32} {x2 : Int32} {σ : pS} {ρ : Nat → Nat → Option Nat} (e : gR σ = ρ) (hL : LayR ρ) : Le
  (bV (pcall 178 [.ref 0, .int x0] σ) fun σ1 => bV (pcall 176 [.ref 0, .int x2] σ1) fun σ2 => bI (pcall 111 [.ref 32] σ2) fun r3 σ3 => if (ι 8) ≤ r3 then bI (pcall 104 [.ref 32, .int (ι 2)] σ3) fun r4 σ4 => some (1, .int r4, σ4) else if x1 < (ι 0) then bI (pcall 104 [.ref 32, .int (ι 2)] σ3) fun r5 σ5 => some (1, .int r5, σ5) else if x1 ≤ (ι 20) then bV (pcall 113 [.ref 32, .int x0, .int x1, .int x2] σ3) fun σ6 => bI (pcall 111 [.ref 32] σ6) fun r7 σ7 => some (1, .int r7, σ7) else bI (pcall 104 [.ref 32, .int (ι 2)] σ3) fun r8 σ8 => some (1, .int r8, σ8))
  (pcall 201 [.ref 0, .int x0, .int x1, .int x2] σ) := by
  show Le _ (den 201 0 0 [.ref 0, .int x0, .int x1, .int x2] [] σ)
  exact r_aload_n k_201_0 rfl rfl
    (r_iload_n k_201_1 rfl rfl
    (r_callV (q_virt (rest := []) (as := [.int x0]) k_201_2 po_201 rfl rfl rfl (rcvO rfl rfl rfl) rfl rfl) (lvq (j := 0) rfl (by decide +kernel)) rfl rfl (fun _ σ1 h1 => r_aload_n k_201_5 rfl rfl
    (r_iload_n k_201_6 rfl rfl
    (r_callV (q_virt (rest := []) (as := [.int x2]) k_201_7 po_201 rfl rfl rfl (rcvO rfl rfl rfl) rfl rfl) (lvq (j := 0) rfl (by decide +kernel)) rfl rfl (fun _ σ2 h2 => r_aload_n k_201_10 rfl rfl
    (r_getR k_201_11 rfl po_201 rfl rfl rfl rfl (gRat (eC rfl h2 (eC rfl h1 e)) (LayR.at hL (i := 3) rfl))
    (r_callI (q_virt (rest := []) (as := []) k_201_14 po_201 rfl rfl rfl (rcvO rfl rfl rfl) rfl rfl) (lvq (j := 0) rfl (by decide +kernel)) rfl rfl (fun r3 σ3 h3 => r_bipush k_201_17 rfl rfl
    (r_icmp (tgt := 32) k_201_19 rfl rfl cop_ge
    (r_aload_n k_201_32 rfl rfl
    (r_getR k_201_33 rfl po_201 rfl rfl rfl rfl (gRat (eC rfl h3 (eC rfl h2 (eC rfl h1 e))) (LayR.at hL (i := 3) rfl))
    (r_iconst k_201_36 rfl rfl
    (r_callI (q_virt (rest := []) (as := [.int (ι 2)]) k_201_37 po_201 rfl rfl rfl (rcvO rfl rfl rfl) rfl rfl) (lvq (j := 0) rfl (by decide +kernel)) rfl rfl (fun r4 σ4 h4 => r_ret k_201_40 rfl rfl)))))
    (r_iload_n k_201_22 rfl rfl
    (r_if (tgt := 32) k_201_23 rfl rfl cop_lt
    (r_aload_n k_201_32 rfl rfl
    (r_getR k_201_33 rfl po_201 rfl rfl rfl rfl (gRat (eC rfl h3 (eC rfl h2 (eC rfl h1 e))) (LayR.at hL (i := 3) rfl))
    (r_iconst k_201_36 rfl rfl
    (r_callI (q_virt (rest := []) (as := [.int (ι 2)]) k_201_37 po_201 rfl rfl rfl (rcvO rfl rfl rfl) rfl rfl) (lvq (j := 0) rfl (by decide +kernel)) rfl rfl (fun r5 σ5 h5 => r_ret k_201_40 rfl rfl)))))
    (r_iload_n k_201_26 rfl rfl
    (r_bipush k_201_27 rfl rfl
    (r_icmp (tgt := 41) k_201_29 rfl rfl cop_le
    (r_aload_n k_201_41 rfl rfl
    (r_getR k_201_42 rfl po_201 rfl rfl rfl rfl (gRat (eC rfl h3 (eC rfl h2 (eC rfl h1 e))) (LayR.at hL (i := 3) rfl))
    (r_iload_n k_201_45 rfl rfl
    (r_iload_n k_201_46 rfl rfl
    (r_iload_n k_201_47 rfl rfl
    (r_callV (q_virt (rest := []) (as := [.int x0, .int x1, .int x2]) k_201_48 po_201 rfl rfl rfl (rcvO rfl rfl rfl) rfl rfl) (lvq (j := 0) rfl (by decide +kernel)) rfl rfl (fun _ σ6 h6 => r_aload_n k_201_51 rfl rfl
    (r_getR k_201_52 rfl po_201 rfl rfl rfl rfl (gRat (eC rfl h6 (eC rfl h3 (eC rfl h2 (eC rfl h1 e)))) (LayR.at hL (i := 3) rfl))
    (r_callI (q_virt (rest := []) (as := []) k_201_55 po_201 rfl rfl rfl (rcvO rfl rfl rfl) rfl rfl) (lvq (j := 0) rfl (by decide +kernel)) rfl rfl (fun r7 σ7 h7 => r_ret k_201_58 rfl rfl))))))))))
    (r_aload_n k_201_32 rfl rfl
    (r_getR k_201_33 rfl po_201 rfl rfl rfl rfl (gRat (eC rfl h3 (eC rfl h2 (eC rfl h1 e))) (LayR.at hL (i := 3) rfl))
    (r_iconst k_201_36 rfl rfl
    (r_callI (q_virt (rest := []) (as := [.int (ι 2)]) k_201_37 po_201 rfl rfl rfl (rcvO rfl rfl rfl) rfl rfl) (lvq (j := 0) rfl (by decide +kernel)) rfl rfl (fun r8 σ8 h8 => r_ret k_201_40 rfl rfl))))))))))))))))))))
/-! ===== 202 HedgeWants.tastes ===== -/
theorem k_202_0 : cd 202 0 = some (.iload_n 1, 1) := by decide +kernel
theorem k_202_1 : cd 202 1 = some (.iconst 2, 1) := by decide +kernel
theorem k_202_2 : cd 202 2 = some (.invokestatic 215, 3) := by decide +kernel
theorem k_202_5 : cd 202 5 = some (.iload_n 1, 1) := by decide +kernel
theorem k_202_6 : cd 202 6 = some (.ifCond .ne 11, 3) := by decide +kernel
theorem k_202_9 : cd 202 9 = some (.aload_n 0, 1) := by decide +kernel
theorem k_202_10 : cd 202 10 = some (.getfield 72, 3) := by decide +kernel
theorem k_202_13 : cd 202 13 = some (.invokevirtual 326, 3) := by decide +kernel
theorem k_202_16 : cd 202 16 = some (.ireturn, 1) := by decide +kernel
theorem k_202_17 : cd 202 17 = some (.iload_n 1, 1) := by decide +kernel
theorem k_202_18 : cd 202 18 = some (.iconst 1, 1) := by decide +kernel
theorem k_202_19 : cd 202 19 = some (.if_icmp .ne 13, 3) := by decide +kernel
theorem k_202_22 : cd 202 22 = some (.aload_n 0, 1) := by decide +kernel
theorem k_202_23 : cd 202 23 = some (.getfield 72, 3) := by decide +kernel
theorem k_202_26 : cd 202 26 = some (.invokevirtual 328, 3) := by decide +kernel
theorem k_202_29 : cd 202 29 = some (.goto 10, 3) := by decide +kernel
theorem k_202_32 : cd 202 32 = some (.aload_n 0, 1) := by decide +kernel
theorem k_202_33 : cd 202 33 = some (.getfield 72, 3) := by decide +kernel
theorem k_202_36 : cd 202 36 = some (.invokevirtual 331, 3) := by decide +kernel
theorem k_202_39 : cd 202 39 = some (.ireturn, 1) := by decide +kernel
theorem po_202 : po 202 = 0 := rfl
theorem M_202  {x0 : Int32} {σ : pS} {ρ : Nat → Nat → Option Nat} (e : gR σ = ρ) (hL : LayR ρ) : Le
  (bV (pcall 180 [.int x0, .int (ι 2)] σ) fun σ1 => if ¬ x0 = (ι 0) then if ¬ x0 = (ι 1) then bI (pcall 159 [.ref 57] σ1) fun r2 σ2 => gd (LayR (gR σ2)) (some (1, .int r2, σ2)) else bI (pcall 158 [.ref 57] σ1) fun r3 σ3 => gd (LayR (gR σ3)) (some (1, .int r3, σ3)) else bI (pcall 154 [.ref 57] σ1) fun r4 σ4 => gd (LayR (gR σ4)) (some (1, .int r4, σ4)))
  (pcall 202 [.ref 0, .int x0] σ) := by
  show Le _ (den 202 0 0 [.ref 0, .int x0] [] σ)
  exact r_iload_n k_202_0 rfl rfl
    (r_iconst k_202_1 rfl rfl
    (r_callV (q_stat (rest := []) (av := [.int x0, .int (ι 2)]) k_202_2 po_202 rfl (by decide) rfl rfl rfl rfl) (lvq (j := 0) rfl (by decide +kernel)) rfl rfl (fun _ σ1 h1 => r_iload_n k_202_5 rfl rfl
    (r_if (tgt := 17) k_202_6 rfl rfl cop_ne
    (r_iload_n k_202_17 rfl rfl
    (r_iconst k_202_18 rfl rfl
    (r_icmp (tgt := 32) k_202_19 rfl rfl cop_ne
    (r_aload_n k_202_32 rfl rfl
    (r_getR k_202_33 rfl po_202 rfl rfl rfl rfl (gRat (eC rfl h1 e) (LayR.at hL (i := 7) rfl))
    (r_callI (q_virt (rest := []) (as := []) k_202_36 po_202 rfl rfl rfl (rcvO rfl rfl rfl) rfl rfl) (lvq (j := 0) rfl (by decide +kernel)) rfl rfl (fun r2 σ2 h2 => r_gd fun L2 => r_ret k_202_39 rfl rfl))))
    (r_aload_n k_202_22 rfl rfl
    (r_getR k_202_23 rfl po_202 rfl rfl rfl rfl (gRat (eC rfl h1 e) (LayR.at hL (i := 7) rfl))
    (r_callI (q_virt (rest := []) (as := []) k_202_26 po_202 rfl rfl rfl (rcvO rfl rfl rfl) rfl rfl) (lvq (j := 0) rfl (by decide +kernel)) rfl rfl (fun r3 σ3 h3 => r_gd fun L3 => r_goto (tgt := 39) k_202_29 rfl (r_ret k_202_39 rfl rfl))))))))
    (r_aload_n k_202_9 rfl rfl
    (r_getR k_202_10 rfl po_202 rfl rfl rfl rfl (gRat (eC rfl h1 e) (LayR.at hL (i := 7) rfl))
    (r_callI (q_virt (rest := []) (as := []) k_202_13 po_202 rfl rfl rfl (rcvO rfl rfl rfl) rfl rfl) (lvq (j := 0) rfl (by decide +kernel)) rfl rfl (fun r4 σ4 h4 => r_gd fun L4 => r_ret k_202_16 rfl rfl))))))))
/-! ===== 203 HedgeWants.next ===== -/
theorem k_203_0 : cd 203 0 = some (.iload_n 1, 1) := by decide +kernel
theorem k_203_1 : cd 203 1 = some (.iconst 1, 1) := by decide +kernel
theorem k_203_2 : cd 203 2 = some (.invokestatic 215, 3) := by decide +kernel
theorem k_203_5 : cd 203 5 = some (.aload_n 0, 1) := by decide +kernel
theorem k_203_6 : cd 203 6 = some (.getfield 72, 3) := by decide +kernel
theorem k_203_9 : cd 203 9 = some (.invokevirtual 334, 3) := by decide +kernel
theorem k_203_12 : cd 203 12 = some (.iload_n 1, 1) := by decide +kernel
theorem k_203_13 : cd 203 13 = some (.ifCond .ne 13, 3) := by decide +kernel
theorem k_203_16 : cd 203 16 = some (.aload_n 0, 1) := by decide +kernel
theorem k_203_17 : cd 203 17 = some (.getfield 72, 3) := by decide +kernel
theorem k_203_20 : cd 203 20 = some (.invokevirtual 337, 3) := by decide +kernel
theorem k_203_23 : cd 203 23 = some (.goto 10, 3) := by decide +kernel
theorem k_203_26 : cd 203 26 = some (.aload_n 0, 1) := by decide +kernel
theorem k_203_27 : cd 203 27 = some (.getfield 72, 3) := by decide +kernel
theorem k_203_30 : cd 203 30 = some (.invokevirtual 340, 3) := by decide +kernel
theorem k_203_33 : cd 203 33 = some (.ireturn, 1) := by decide +kernel
theorem po_203 : po 203 = 0 := rfl
theorem M_203  {x0 : Int32} {σ : pS} {ρ : Nat → Nat → Option Nat} (e : gR σ = ρ) (hL : LayR ρ) : Le
  (bV (pcall 180 [.int x0, .int (ι 1)] σ) fun σ1 => bV (pcall 160 [.ref 57] σ1) fun σ2 => gd (LayR (gR σ2)) (if ¬ x0 = (ι 0) then bI (pcall 162 [.ref 57] σ2) fun r3 σ3 => some (1, .int r3, σ3) else bI (pcall 161 [.ref 57] σ2) fun r4 σ4 => some (1, .int r4, σ4)))
  (pcall 203 [.ref 0, .int x0] σ) := by
  show Le _ (den 203 0 0 [.ref 0, .int x0] [] σ)
  exact r_iload_n k_203_0 rfl rfl
    (r_iconst k_203_1 rfl rfl
    (r_callV (q_stat (rest := []) (av := [.int x0, .int (ι 1)]) k_203_2 po_203 rfl (by decide) rfl rfl rfl rfl) (lvq (j := 0) rfl (by decide +kernel)) rfl rfl (fun _ σ1 h1 => r_aload_n k_203_5 rfl rfl
    (r_getR k_203_6 rfl po_203 rfl rfl rfl rfl (gRat (eC rfl h1 e) (LayR.at hL (i := 7) rfl))
    (r_callV (q_virt (rest := []) (as := []) k_203_9 po_203 rfl rfl rfl (rcvO rfl rfl rfl) rfl rfl) (lvq (j := 0) rfl (by decide +kernel)) rfl rfl (fun _ σ2 h2 => r_gd fun L2 => r_iload_n k_203_12 rfl rfl
    (r_if (tgt := 26) k_203_13 rfl rfl cop_ne
    (r_aload_n k_203_26 rfl rfl
    (r_getR k_203_27 rfl po_203 rfl rfl rfl rfl (gRat rfl (LayR.at L2 (i := 7) rfl))
    (r_callI (q_virt (rest := []) (as := []) k_203_30 po_203 rfl rfl rfl (rcvO rfl rfl rfl) rfl rfl) (lvq (j := 0) rfl (by decide +kernel)) rfl rfl (fun r3 σ3 h3 => r_ret k_203_33 rfl rfl))))
    (r_aload_n k_203_16 rfl rfl
    (r_getR k_203_17 rfl po_203 rfl rfl rfl rfl (gRat rfl (LayR.at L2 (i := 7) rfl))
    (r_callI (q_virt (rest := []) (as := []) k_203_20 po_203 rfl rfl rfl (rcvO rfl rfl rfl) rfl rfl) (lvq (j := 0) rfl (by decide +kernel)) rfl rfl (fun r4 σ4 h4 => r_goto (tgt := 33) k_203_23 rfl (r_ret k_203_33 rfl rfl))))))))))))
/-! ===== 204 HedgeWants.shy ===== -/
theorem k_204_0 : cd 204 0 = some (.aload_n 0, 1) := by decide +kernel
theorem k_204_1 : cd 204 1 = some (.iload_n 1, 1) := by decide +kernel
theorem k_204_2 : cd 204 2 = some (.invokevirtual 191, 3) := by decide +kernel
theorem k_204_5 : cd 204 5 = some (.iload_n 2, 1) := by decide +kernel
theorem k_204_6 : cd 204 6 = some (.iconst 1, 1) := by decide +kernel
theorem k_204_7 : cd 204 7 = some (.iconst 5, 1) := by decide +kernel
theorem k_204_8 : cd 204 8 = some (.invokestatic 257, 3) := by decide +kernel
theorem k_204_11 : cd 204 11 = some (.iload_n 3, 1) := by decide +kernel
theorem k_204_12 : cd 204 12 = some (.iconst 0, 1) := by decide +kernel
theorem k_204_13 : cd 204 13 = some (.bipush 10, 2) := by decide +kernel
theorem k_204_15 : cd 204 15 = some (.invokestatic 257, 3) := by decide +kernel
theorem k_204_18 : cd 204 18 = some (.aload_n 0, 1) := by decide +kernel
theorem k_204_19 : cd 204 19 = some (.getfield 63, 3) := by decide +kernel
theorem k_204_22 : cd 204 22 = some (.iload_n 1, 1) := by decide +kernel
theorem k_204_23 : cd 204 23 = some (.iload_n 2, 1) := by decide +kernel
theorem k_204_24 : cd 204 24 = some (.iload_n 3, 1) := by decide +kernel
theorem k_204_25 : cd 204 25 = some (.invokevirtual 346, 3) := by decide +kernel
theorem k_204_28 : cd 204 28 = some (.ireturn, 1) := by decide +kernel
theorem po_204 : po 204 = 0 := rfl
theorem M_204  {x0 : Int32} {x1 : Int32} {x2 : Int32} {σ : pS} {ρ : Nat → Nat → Option Nat} (e : gR σ = ρ) (hL : LayR ρ) : Le
  (bV (pcall 178 [.ref 0, .int x0] σ) fun σ1 => bV (pcall 188 [.int x1, .int (ι 1), .int (ι 5)] σ1) fun σ2 => bV (pcall 188 [.int x2, .int (ι 0), .int (ι 10)] σ2) fun σ3 => bI (pcall 144 [.ref 54, .int x0, .int x1, .int x2] σ3) fun r4 σ4 => gd (LayR (gR σ4)) (some (1, .int r4, σ4)))
  (pcall 204 [.ref 0, .int x0, .int x1, .int x2] σ) := by
  show Le _ (den 204 0 0 [.ref 0, .int x0, .int x1, .int x2] [] σ)
  exact r_aload_n k_204_0 rfl rfl
    (r_iload_n k_204_1 rfl rfl
    (r_callV (q_virt (rest := []) (as := [.int x0]) k_204_2 po_204 rfl rfl rfl (rcvO rfl rfl rfl) rfl rfl) (lvq (j := 0) rfl (by decide +kernel)) rfl rfl (fun _ σ1 h1 => r_iload_n k_204_5 rfl rfl
    (r_iconst k_204_6 rfl rfl
    (r_iconst k_204_7 rfl rfl
    (r_callV (q_stat (rest := []) (av := [.int x1, .int (ι 1), .int (ι 5)]) k_204_8 po_204 rfl (by decide) rfl rfl rfl rfl) (lvq (j := 0) rfl (by decide +kernel)) rfl rfl (fun _ σ2 h2 => r_iload_n k_204_11 rfl rfl
    (r_iconst k_204_12 rfl rfl
    (r_bipush k_204_13 rfl rfl
    (r_callV (q_stat (rest := []) (av := [.int x2, .int (ι 0), .int (ι 10)]) k_204_15 po_204 rfl (by decide) rfl rfl rfl rfl) (lvq (j := 0) rfl (by decide +kernel)) rfl rfl (fun _ σ3 h3 => r_aload_n k_204_18 rfl rfl
    (r_getR k_204_19 rfl po_204 rfl rfl rfl rfl (gRat (eC rfl h3 (eC rfl h2 (eC rfl h1 e))) (LayR.at hL (i := 6) rfl))
    (r_iload_n k_204_22 rfl rfl
    (r_iload_n k_204_23 rfl rfl
    (r_iload_n k_204_24 rfl rfl
    (r_callI (q_virt (rest := []) (as := [.int x0, .int x1, .int x2]) k_204_25 po_204 rfl rfl rfl (rcvO rfl rfl rfl) rfl rfl) (lvq (j := 0) rfl (by decide +kernel)) rfl rfl (fun r4 σ4 h4 => r_gd fun L4 => r_ret k_204_28 rfl rfl)))))))))))))))))
/-! ===== 205 HedgeWants.game ===== -/
theorem k_205_0 : cd 205 0 = some (.aload_n 0, 1) := by decide +kernel
theorem k_205_1 : cd 205 1 = some (.iload_n 1, 1) := by decide +kernel
theorem k_205_2 : cd 205 2 = some (.invokevirtual 171, 3) := by decide +kernel
theorem k_205_5 : cd 205 5 = some (.aload_n 0, 1) := by decide +kernel
theorem k_205_6 : cd 205 6 = some (.iload_n 2, 1) := by decide +kernel
theorem k_205_7 : cd 205 7 = some (.invokevirtual 171, 3) := by decide +kernel
theorem k_205_10 : cd 205 10 = some (.iload_n 3, 1) := by decide +kernel
theorem k_205_11 : cd 205 11 = some (.iconst 1, 1) := by decide +kernel
theorem k_205_12 : cd 205 12 = some (.invokestatic 215, 3) := by decide +kernel
theorem k_205_15 : cd 205 15 = some (.iload_n 1, 1) := by decide +kernel
theorem k_205_16 : cd 205 16 = some (.iload_n 2, 1) := by decide +kernel
theorem k_205_17 : cd 205 17 = some (.if_icmp .ne 14, 3) := by decide +kernel
theorem k_205_20 : cd 205 20 = some (.new 90, 3) := by decide +kernel
theorem k_205_23 : cd 205 23 = some (.dup, 1) := by decide +kernel
theorem k_205_24 : cd 205 24 = some (.ldc_w 349, 3) := by decide +kernel
theorem k_205_27 : cd 205 27 = some (.invokespecial 94, 3) := by decide +kernel
theorem k_205_30 : cd 205 30 = some (.athrow, 1) := by decide +kernel
theorem k_205_31 : cd 205 31 = some (.aload_n 0, 1) := by decide +kernel
theorem k_205_32 : cd 205 32 = some (.getfield 63, 3) := by decide +kernel
theorem k_205_35 : cd 205 35 = some (.iload_n 1, 1) := by decide +kernel
theorem k_205_36 : cd 205 36 = some (.iload_n 2, 1) := by decide +kernel
theorem k_205_37 : cd 205 37 = some (.invokevirtual 351, 3) := by decide +kernel
theorem k_205_40 : cd 205 40 = some (.iload_n 3, 1) := by decide +kernel
theorem k_205_41 : cd 205 41 = some (.ifCond .ne 13, 3) := by decide +kernel
theorem k_205_44 : cd 205 44 = some (.aload_n 0, 1) := by decide +kernel
theorem k_205_45 : cd 205 45 = some (.getfield 63, 3) := by decide +kernel
theorem k_205_48 : cd 205 48 = some (.invokevirtual 354, 3) := by decide +kernel
theorem k_205_51 : cd 205 51 = some (.goto 10, 3) := by decide +kernel
theorem k_205_54 : cd 205 54 = some (.aload_n 0, 1) := by decide +kernel
theorem k_205_55 : cd 205 55 = some (.getfield 63, 3) := by decide +kernel
theorem k_205_58 : cd 205 58 = some (.invokevirtual 357, 3) := by decide +kernel
theorem k_205_61 : cd 205 61 = some (.ireturn, 1) := by decide +kernel
theorem po_205 : po 205 = 0 := rfl
theorem M_205  {x0 : Int32} {x1 : Int32} {x2 : Int32} {σ : pS} {ρ : Nat → Nat → Option Nat} (e : gR σ = ρ) (hL : LayR ρ) : Le
  (bV (pcall 176 [.ref 0, .int x0] σ) fun σ1 => bV (pcall 176 [.ref 0, .int x1] σ1) fun σ2 => bV (pcall 180 [.int x2, .int (ι 1)] σ2) fun σ3 => if ¬ x0 = x1 then bV (pcall 146 [.ref 54, .int x0, .int x1] σ3) fun σ4 => gd (LayR (gR σ4)) (if ¬ x2 = (ι 0) then bI (pcall 149 [.ref 54] σ4) fun r5 σ5 => some (1, .int r5, σ5) else bI (pcall 147 [.ref 54] σ4) fun r6 σ6 => some (1, .int r6, σ6)) else some (2, .null, sX σ3))
  (pcall 205 [.ref 0, .int x0, .int x1, .int x2] σ) := by
  show Le _ (den 205 0 0 [.ref 0, .int x0, .int x1, .int x2] [] σ)
  exact r_aload_n k_205_0 rfl rfl
    (r_iload_n k_205_1 rfl rfl
    (r_callV (q_virt (rest := []) (as := [.int x0]) k_205_2 po_205 rfl rfl rfl (rcvO rfl rfl rfl) rfl rfl) (lvq (j := 0) rfl (by decide +kernel)) rfl rfl (fun _ σ1 h1 => r_aload_n k_205_5 rfl rfl
    (r_iload_n k_205_6 rfl rfl
    (r_callV (q_virt (rest := []) (as := [.int x1]) k_205_7 po_205 rfl rfl rfl (rcvO rfl rfl rfl) rfl rfl) (lvq (j := 0) rfl (by decide +kernel)) rfl rfl (fun _ σ2 h2 => r_iload_n k_205_10 rfl rfl
    (r_iconst k_205_11 rfl rfl
    (r_callV (q_stat (rest := []) (av := [.int x2, .int (ι 1)]) k_205_12 po_205 rfl (by decide) rfl rfl rfl rfl) (lvq (j := 0) rfl (by decide +kernel)) rfl rfl (fun _ σ3 h3 => r_iload_n k_205_15 rfl rfl
    (r_iload_n k_205_16 rfl rfl
    (r_icmp (tgt := 31) k_205_17 rfl rfl cop_ne
    (r_aload_n k_205_31 rfl rfl
    (r_getR k_205_32 rfl po_205 rfl rfl rfl rfl (gRat (eC rfl h3 (eC rfl h2 (eC rfl h1 e))) (LayR.at hL (i := 6) rfl))
    (r_iload_n k_205_35 rfl rfl
    (r_iload_n k_205_36 rfl rfl
    (r_callV (q_virt (rest := []) (as := [.int x0, .int x1]) k_205_37 po_205 rfl rfl rfl (rcvO rfl rfl rfl) rfl rfl) (lvq (j := 0) rfl (by decide +kernel)) rfl rfl (fun _ σ4 h4 => r_gd fun L4 => r_iload_n k_205_40 rfl rfl
    (r_if (tgt := 54) k_205_41 rfl rfl cop_ne
    (r_aload_n k_205_54 rfl rfl
    (r_getR k_205_55 rfl po_205 rfl rfl rfl rfl (gRat rfl (LayR.at L4 (i := 6) rfl))
    (r_callI (q_virt (rest := []) (as := []) k_205_58 po_205 rfl rfl rfl (rcvO rfl rfl rfl) rfl rfl) (lvq (j := 0) rfl (by decide +kernel)) rfl rfl (fun r5 σ5 h5 => r_ret k_205_61 rfl rfl))))
    (r_aload_n k_205_44 rfl rfl
    (r_getR k_205_45 rfl po_205 rfl rfl rfl rfl (gRat rfl (LayR.at L4 (i := 6) rfl))
    (r_callI (q_virt (rest := []) (as := []) k_205_48 po_205 rfl rfl rfl (rcvO rfl rfl rfl) rfl rfl) (lvq (j := 0) rfl (by decide +kernel)) rfl rfl (fun r6 σ6 h6 => r_goto (tgt := 61) k_205_51 rfl (r_ret k_205_61 rfl rfl))))))))))))
    (r_thrw (x := 0) k_205_20 po_205 rfl k_205_23 k_205_24 rfl k_205_27 k_205_30 rfl rfl rfl))))))))))))
/-! ===== 206 HedgeWants.years ===== -/
theorem k_206_0 : cd 206 0 = some (.iload_n 3, 1) := by decide +kernel
theorem k_206_1 : cd 206 1 = some (.iconst 2, 1) := by decide +kernel
theorem k_206_2 : cd 206 2 = some (.invokestatic 215, 3) := by decide +kernel
theorem k_206_5 : cd 206 5 = some (.iload_n 2, 1) := by decide +kernel
theorem k_206_6 : cd 206 6 = some (.iconst 0, 1) := by decide +kernel
theorem k_206_7 : cd 206 7 = some (.bipush 60, 2) := by decide +kernel
theorem k_206_9 : cd 206 9 = some (.invokestatic 257, 3) := by decide +kernel
theorem k_206_12 : cd 206 12 = some (.aload_n 0, 1) := by decide +kernel
theorem k_206_13 : cd 206 13 = some (.getfield 63, 3) := by decide +kernel
theorem k_206_16 : cd 206 16 = some (.iload_n 1, 1) := by decide +kernel
theorem k_206_17 : cd 206 17 = some (.iload_n 2, 1) := by decide +kernel
theorem k_206_18 : cd 206 18 = some (.invokevirtual 360, 3) := by decide +kernel
theorem k_206_21 : cd 206 21 = some (.astore 4, 2) := by decide +kernel
theorem k_206_23 : cd 206 23 = some (.iload_n 3, 1) := by decide +kernel
theorem k_206_24 : cd 206 24 = some (.ifCond .ne 9, 3) := by decide +kernel
theorem k_206_27 : cd 206 27 = some (.aload 4, 2) := by decide +kernel
theorem k_206_29 : cd 206 29 = some (.invokevirtual 279, 3) := by decide +kernel
theorem k_206_32 : cd 206 32 = some (.ireturn, 1) := by decide +kernel
theorem k_206_33 : cd 206 33 = some (.iload_n 3, 1) := by decide +kernel
theorem k_206_34 : cd 206 34 = some (.iconst 1, 1) := by decide +kernel
theorem k_206_35 : cd 206 35 = some (.if_icmp .ne 14, 3) := by decide +kernel
theorem k_206_38 : cd 206 38 = some (.aload 4, 2) := by decide +kernel
theorem k_206_40 : cd 206 40 = some (.invokevirtual 288, 3) := by decide +kernel
theorem k_206_43 : cd 206 43 = some (.invokestatic 264, 3) := by decide +kernel
theorem k_206_46 : cd 206 46 = some (.goto 8, 3) := by decide +kernel
theorem k_206_49 : cd 206 49 = some (.aload 4, 2) := by decide +kernel
theorem k_206_51 : cd 206 51 = some (.invokevirtual 154, 3) := by decide +kernel
theorem k_206_54 : cd 206 54 = some (.ireturn, 1) := by decide +kernel
theorem po_206 : po 206 = 0 := rfl
theorem M_206  {x0 : Int32} {x1 : Int32} {x2 : Int32} {σ : pS} {ρ : Nat → Nat → Option Nat} (e : gR σ = ρ) (hL : LayR ρ) : Le
  (bV (pcall 180 [.int x2, .int (ι 2)] σ) fun σ1 => bV (pcall 188 [.int x1, .int (ι 0), .int (ι 60)] σ1) fun σ2 => bA (pcall 150 [.ref 54, .int x0, .int x1] σ2) fun r3 σ3 => gd (isW r3) (gd (LayR (gR σ3)) (if ¬ x2 = (ι 0) then if ¬ x2 = (ι 1) then bI (pcall 92 [.ref r3] σ3) fun r4 σ4 => some (1, .int r4, σ4) else bI (pcall 101 [.ref r3] σ3) fun r5 σ5 => bI (pcall 0 [.int r5] σ5) fun r6 σ6 => some (1, .int r6, σ6) else bI (pcall 98 [.ref r3] σ3) fun r7 σ7 => some (1, .int r7, σ7))))
  (pcall 206 [.ref 0, .int x0, .int x1, .int x2] σ) := by
  show Le _ (den 206 0 0 [.ref 0, .int x0, .int x1, .int x2, .retAddr 0] [] σ)
  exact r_iload_n k_206_0 rfl rfl
    (r_iconst k_206_1 rfl rfl
    (r_callV (q_stat (rest := []) (av := [.int x2, .int (ι 2)]) k_206_2 po_206 rfl (by decide) rfl rfl rfl rfl) (lvq (j := 0) rfl (by decide +kernel)) rfl rfl (fun _ σ1 h1 => r_iload_n k_206_5 rfl rfl
    (r_iconst k_206_6 rfl rfl
    (r_bipush k_206_7 rfl rfl
    (r_callV (q_stat (rest := []) (av := [.int x1, .int (ι 0), .int (ι 60)]) k_206_9 po_206 rfl (by decide) rfl rfl rfl rfl) (lvq (j := 0) rfl (by decide +kernel)) rfl rfl (fun _ σ2 h2 => r_aload_n k_206_12 rfl rfl
    (r_getR k_206_13 rfl po_206 rfl rfl rfl rfl (gRat (eC rfl h2 (eC rfl h1 e)) (LayR.at hL (i := 6) rfl))
    (r_iload_n k_206_16 rfl rfl
    (r_iload_n k_206_17 rfl rfl
    (r_callA (q_virt (rest := []) (as := [.int x0, .int x1]) k_206_18 po_206 rfl rfl rfl (rcvO rfl rfl rfl) rfl rfl) (lvq (j := 0) rfl (by decide +kernel)) rfl rfl (fun r3 σ3 h3 => r_gd fun hr3 => r_gd fun L3 => r_astore k_206_21 rfl rfl rfl
    (r_iload_n k_206_23 rfl rfl
    (r_if (tgt := 33) k_206_24 rfl rfl cop_ne
    (r_iload_n k_206_33 rfl rfl
    (r_iconst k_206_34 rfl rfl
    (r_icmp (tgt := 49) k_206_35 rfl rfl cop_ne
    (r_aload k_206_49 rfl rfl
    (r_callI (q_virt (rest := []) (as := []) k_206_51 po_206 rfl rfl rfl (rcvO rfl rfl (kdW hr3)) rfl rfl) (lvq (j := 0) rfl (by decide +kernel)) rfl rfl (fun r4 σ4 h4 => r_ret k_206_54 rfl rfl)))
    (r_aload k_206_38 rfl rfl
    (r_callI (q_virt (rest := []) (as := []) k_206_40 po_206 rfl rfl rfl (rcvO rfl rfl (kdW hr3)) rfl rfl) (lvq (j := 0) rfl (by decide +kernel)) rfl rfl (fun r5 σ5 h5 => r_callI (q_stat (rest := []) (av := [.int r5]) k_206_43 po_206 rfl (by decide) rfl rfl rfl rfl) (lvq (j := 0) rfl (by decide +kernel)) rfl rfl (fun r6 σ6 h6 => r_goto (tgt := 54) k_206_46 rfl (r_ret k_206_54 rfl rfl))))))))
    (r_aload k_206_27 rfl rfl
    (r_callI (q_virt (rest := []) (as := []) k_206_29 po_206 rfl rfl rfl (rcvO rfl rfl (kdW hr3)) rfl rfl) (lvq (j := 0) rfl (by decide +kernel)) rfl rfl (fun r7 σ7 h7 => r_ret k_206_32 rfl rfl)))))))))))))))))
end TREES
