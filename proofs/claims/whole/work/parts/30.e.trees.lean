section TREES
/-! ===== 271 HedgeWantsModel.pack ===== -/
theorem k_271_0 : cd 271 0 = some (.aload_n 1, 1) := by decide +kernel
theorem k_271_1 : cd 271 1 = some (.iload_n 2, 1) := by decide +kernel
theorem k_271_2 : cd 271 2 = some (.aload_n 0, 1) := by decide +kernel
theorem k_271_3 : cd 271 3 = some (.getfield 303, 3) := by decide +kernel
theorem k_271_6 : cd 271 6 = some (.iastore, 1) := by decide +kernel
theorem k_271_7 : cd 271 7 = some (.iconst 0, 1) := by decide +kernel
theorem k_271_8 : cd 271 8 = some (.istore_n 3, 1) := by decide +kernel
theorem k_271_9 : cd 271 9 = some (.iload_n 3, 1) := by decide +kernel
theorem k_271_10 : cd 271 10 = some (.bipush 12, 2) := by decide +kernel
theorem k_271_12 : cd 271 12 = some (.if_icmp .ge 38, 3) := by decide +kernel
theorem k_271_15 : cd 271 15 = some (.aload_n 1, 1) := by decide +kernel
theorem k_271_16 : cd 271 16 = some (.iload_n 2, 1) := by decide +kernel
theorem k_271_17 : cd 271 17 = some (.iconst 1, 1) := by decide +kernel
theorem k_271_18 : cd 271 18 = some (.iadd, 1) := by decide +kernel
theorem k_271_19 : cd 271 19 = some (.iload_n 3, 1) := by decide +kernel
theorem k_271_20 : cd 271 20 = some (.iadd, 1) := by decide +kernel
theorem k_271_21 : cd 271 21 = some (.aload_n 0, 1) := by decide +kernel
theorem k_271_22 : cd 271 22 = some (.getfield 77, 3) := by decide +kernel
theorem k_271_25 : cd 271 25 = some (.iload_n 3, 1) := by decide +kernel
theorem k_271_26 : cd 271 26 = some (.iaload, 1) := by decide +kernel
theorem k_271_27 : cd 271 27 = some (.iastore, 1) := by decide +kernel
theorem k_271_28 : cd 271 28 = some (.aload_n 1, 1) := by decide +kernel
theorem k_271_29 : cd 271 29 = some (.iload_n 2, 1) := by decide +kernel
theorem k_271_30 : cd 271 30 = some (.iconst 1, 1) := by decide +kernel
theorem k_271_31 : cd 271 31 = some (.iadd, 1) := by decide +kernel
theorem k_271_32 : cd 271 32 = some (.bipush 12, 2) := by decide +kernel
theorem k_271_34 : cd 271 34 = some (.iadd, 1) := by decide +kernel
theorem k_271_35 : cd 271 35 = some (.iload_n 3, 1) := by decide +kernel
theorem k_271_36 : cd 271 36 = some (.iadd, 1) := by decide +kernel
theorem k_271_37 : cd 271 37 = some (.aload_n 0, 1) := by decide +kernel
theorem k_271_38 : cd 271 38 = some (.getfield 80, 3) := by decide +kernel
theorem k_271_41 : cd 271 41 = some (.iload_n 3, 1) := by decide +kernel
theorem k_271_42 : cd 271 42 = some (.iaload, 1) := by decide +kernel
theorem k_271_43 : cd 271 43 = some (.iastore, 1) := by decide +kernel
theorem k_271_44 : cd 271 44 = some (.iinc 3 1, 3) := by decide +kernel
theorem k_271_47 : cd 271 47 = some (.goto (-38), 3) := by decide +kernel
theorem k_271_50 : cd 271 50 = some (.iconst 0, 1) := by decide +kernel
theorem k_271_51 : cd 271 51 = some (.istore_n 3, 1) := by decide +kernel
theorem k_271_52 : cd 271 52 = some (.iload_n 3, 1) := by decide +kernel
theorem k_271_53 : cd 271 53 = some (.bipush 96, 2) := by decide +kernel
theorem k_271_55 : cd 271 55 = some (.if_icmp .ge 25, 3) := by decide +kernel
theorem k_271_58 : cd 271 58 = some (.aload_n 1, 1) := by decide +kernel
theorem k_271_59 : cd 271 59 = some (.iload_n 2, 1) := by decide +kernel
theorem k_271_60 : cd 271 60 = some (.iconst 1, 1) := by decide +kernel
theorem k_271_61 : cd 271 61 = some (.iadd, 1) := by decide +kernel
theorem k_271_62 : cd 271 62 = some (.bipush 24, 2) := by decide +kernel
theorem k_271_64 : cd 271 64 = some (.iadd, 1) := by decide +kernel
theorem k_271_65 : cd 271 65 = some (.iload_n 3, 1) := by decide +kernel
theorem k_271_66 : cd 271 66 = some (.iadd, 1) := by decide +kernel
theorem k_271_67 : cd 271 67 = some (.aload_n 0, 1) := by decide +kernel
theorem k_271_68 : cd 271 68 = some (.getfield 82, 3) := by decide +kernel
theorem k_271_71 : cd 271 71 = some (.iload_n 3, 1) := by decide +kernel
theorem k_271_72 : cd 271 72 = some (.iaload, 1) := by decide +kernel
theorem k_271_73 : cd 271 73 = some (.iastore, 1) := by decide +kernel
theorem k_271_74 : cd 271 74 = some (.iinc 3 1, 3) := by decide +kernel
theorem k_271_77 : cd 271 77 = some (.goto (-25), 3) := by decide +kernel
theorem k_271_80 : cd 271 80 = some (.iconst 0, 1) := by decide +kernel
theorem k_271_81 : cd 271 81 = some (.istore_n 3, 1) := by decide +kernel
theorem k_271_82 : cd 271 82 = some (.iload_n 3, 1) := by decide +kernel
theorem k_271_83 : cd 271 83 = some (.bipush 8, 2) := by decide +kernel
theorem k_271_85 : cd 271 85 = some (.if_icmp .ge 28, 3) := by decide +kernel
theorem k_271_88 : cd 271 88 = some (.aload_n 1, 1) := by decide +kernel
theorem k_271_89 : cd 271 89 = some (.iload_n 2, 1) := by decide +kernel
theorem k_271_90 : cd 271 90 = some (.iconst 1, 1) := by decide +kernel
theorem k_271_91 : cd 271 91 = some (.iadd, 1) := by decide +kernel
theorem k_271_92 : cd 271 92 = some (.bipush 24, 2) := by decide +kernel
theorem k_271_94 : cd 271 94 = some (.iadd, 1) := by decide +kernel
theorem k_271_95 : cd 271 95 = some (.bipush 96, 2) := by decide +kernel
theorem k_271_97 : cd 271 97 = some (.iadd, 1) := by decide +kernel
theorem k_271_98 : cd 271 98 = some (.iload_n 3, 1) := by decide +kernel
theorem k_271_99 : cd 271 99 = some (.iadd, 1) := by decide +kernel
theorem k_271_100 : cd 271 100 = some (.aload_n 0, 1) := by decide +kernel
theorem k_271_101 : cd 271 101 = some (.getfield 84, 3) := by decide +kernel
theorem k_271_104 : cd 271 104 = some (.iload_n 3, 1) := by decide +kernel
theorem k_271_105 : cd 271 105 = some (.iaload, 1) := by decide +kernel
theorem k_271_106 : cd 271 106 = some (.iastore, 1) := by decide +kernel
theorem k_271_107 : cd 271 107 = some (.iinc 3 1, 3) := by decide +kernel
theorem k_271_110 : cd 271 110 = some (.goto (-28), 3) := by decide +kernel
theorem k_271_113 : cd 271 113 = some (.return_, 1) := by decide +kernel
theorem po_271 : po 271 = 9 := rfl
noncomputable def C_271_9 (a0 n0 : Nat) (x2 : Int32) (x3 : Int32) (σ : pS) : Option pZ := den 271 0 9 [.ref 61, .ref a0, .int x2, .int x3] [] σ
noncomputable def C_271_52 (a0 n0 : Nat) (x2 : Int32) (x3 : Int32) (σ : pS) : Option pZ := den 271 0 52 [.ref 61, .ref a0, .int x2, .int x3] [] σ
noncomputable def C_271_82 (a0 n0 : Nat) (x2 : Int32) (x3 : Int32) (σ : pS) : Option pZ := den 271 0 82 [.ref 61, .ref a0, .int x2, .int x3] [] σ
theorem T_271_9 {a0 n0 : Nat} (ha0 : kd a0 = (100, n0)) {x2 : Int32} {x3 : Int32}  {σ : pS} {ρ : Nat → Nat → Option Nat} (e : gR σ = ρ) (hL : LayR ρ) : Le
  (if (ι 12) ≤ x3 then C_271_52 a0 n0 x2 (ι 0) σ else gd (inb x3 12) (gd (inb ((x2 + (ι 1)) + x3) n0) (gd (inb x3 12) (gd (inb (((x2 + (ι 1)) + (ι 12)) + x3) n0) (C_271_9 a0 n0 x2 (x3 + (ι 1)) (sI (sI σ a0 (ix ((x2 + (ι 1)) + x3)) (gI σ 75 (ix x3))) a0 (ix (((x2 + (ι 1)) + (ι 12)) + x3)) (gI (sI σ a0 (ix ((x2 + (ι 1)) + x3)) (gI σ 75 (ix x3))) 76 (ix x3))))))))
  (C_271_9 a0 n0 x2 x3 σ) := by
  unfold C_271_9
  exact r_iload_n k_271_9 rfl rfl
    (r_bipush k_271_10 rfl rfl
    (r_icmp (tgt := 50) k_271_12 rfl rfl cop_ge
    (r_iconst k_271_50 rfl rfl
    (r_istore_n k_271_51 rfl rfl rfl
    (Le.rfl')))
    (r_aload_n k_271_15 rfl rfl
    (r_iload_n k_271_16 rfl rfl
    (r_iconst k_271_17 rfl rfl
    (r_iadd k_271_18 rfl
    (r_iload_n k_271_19 rfl rfl
    (r_iadd k_271_20 rfl
    (r_aload_n k_271_21 rfl rfl
    (r_getR k_271_22 rfl po_271 rfl rfl rfl rfl (gRat e (LayR.at hL (i := 76) rfl))
    (r_iload_n k_271_25 rfl rfl
    (r_gd fun g => r_iald k_271_26 rfl rfl g
    (r_gd fun g => r_iast k_271_27 rfl ha0 g
    (r_aload_n k_271_28 rfl rfl
    (r_iload_n k_271_29 rfl rfl
    (r_iconst k_271_30 rfl rfl
    (r_iadd k_271_31 rfl
    (r_bipush k_271_32 rfl rfl
    (r_iadd k_271_34 rfl
    (r_iload_n k_271_35 rfl rfl
    (r_iadd k_271_36 rfl
    (r_aload_n k_271_37 rfl rfl
    (r_getR k_271_38 rfl po_271 rfl rfl rfl rfl (gRat (eI e) (LayR.at hL (i := 77) rfl))
    (r_iload_n k_271_41 rfl rfl
    (r_gd fun g => r_iald k_271_42 rfl rfl g
    (r_gd fun g => r_iast k_271_43 rfl ha0 g
    (r_iinc k_271_44 rfl rfl rfl rfl
    (r_goto (tgt := 9) k_271_47 rfl (Le.rfl')))))))))))))))))))))))))))))
theorem T_271_52 {a0 n0 : Nat} (ha0 : kd a0 = (100, n0)) {x2 : Int32} {x3 : Int32}  {σ : pS} {ρ : Nat → Nat → Option Nat} (e : gR σ = ρ) (hL : LayR ρ) : Le
  (if (ι 96) ≤ x3 then C_271_82 a0 n0 x2 (ι 0) σ else gd (inb x3 96) (gd (inb (((x2 + (ι 1)) + (ι 24)) + x3) n0) (C_271_52 a0 n0 x2 (x3 + (ι 1)) (sI σ a0 (ix (((x2 + (ι 1)) + (ι 24)) + x3)) (gI σ 77 (ix x3))))))
  (C_271_52 a0 n0 x2 x3 σ) := by
  unfold C_271_52
  exact r_iload_n k_271_52 rfl rfl
    (r_bipush k_271_53 rfl rfl
    (r_icmp (tgt := 80) k_271_55 rfl rfl cop_ge
    (r_iconst k_271_80 rfl rfl
    (r_istore_n k_271_81 rfl rfl rfl
    (Le.rfl')))
    (r_aload_n k_271_58 rfl rfl
    (r_iload_n k_271_59 rfl rfl
    (r_iconst k_271_60 rfl rfl
    (r_iadd k_271_61 rfl
    (r_bipush k_271_62 rfl rfl
    (r_iadd k_271_64 rfl
    (r_iload_n k_271_65 rfl rfl
    (r_iadd k_271_66 rfl
    (r_aload_n k_271_67 rfl rfl
    (r_getR k_271_68 rfl po_271 rfl rfl rfl rfl (gRat e (LayR.at hL (i := 78) rfl))
    (r_iload_n k_271_71 rfl rfl
    (r_gd fun g => r_iald k_271_72 rfl rfl g
    (r_gd fun g => r_iast k_271_73 rfl ha0 g
    (r_iinc k_271_74 rfl rfl rfl rfl
    (r_goto (tgt := 52) k_271_77 rfl (Le.rfl'))))))))))))))))))
theorem T_271_82 {a0 n0 : Nat} (ha0 : kd a0 = (100, n0)) {x2 : Int32} {x3 : Int32}  {σ : pS} {ρ : Nat → Nat → Option Nat} (e : gR σ = ρ) (hL : LayR ρ) : Le
  (if (ι 8) ≤ x3 then some (0, .null, σ) else gd (inb x3 8) (gd (inb ((((x2 + (ι 1)) + (ι 24)) + (ι 96)) + x3) n0) (C_271_82 a0 n0 x2 (x3 + (ι 1)) (sI σ a0 (ix ((((x2 + (ι 1)) + (ι 24)) + (ι 96)) + x3)) (gI σ 78 (ix x3))))))
  (C_271_82 a0 n0 x2 x3 σ) := by
  unfold C_271_82
  exact r_iload_n k_271_82 rfl rfl
    (r_bipush k_271_83 rfl rfl
    (r_icmp (tgt := 113) k_271_85 rfl rfl cop_ge
    (r_retV k_271_113 rfl)
    (r_aload_n k_271_88 rfl rfl
    (r_iload_n k_271_89 rfl rfl
    (r_iconst k_271_90 rfl rfl
    (r_iadd k_271_91 rfl
    (r_bipush k_271_92 rfl rfl
    (r_iadd k_271_94 rfl
    (r_bipush k_271_95 rfl rfl
    (r_iadd k_271_97 rfl
    (r_iload_n k_271_98 rfl rfl
    (r_iadd k_271_99 rfl
    (r_aload_n k_271_100 rfl rfl
    (r_getR k_271_101 rfl po_271 rfl rfl rfl rfl (gRat e (LayR.at hL (i := 79) rfl))
    (r_iload_n k_271_104 rfl rfl
    (r_gd fun g => r_iald k_271_105 rfl rfl g
    (r_gd fun g => r_iast k_271_106 rfl ha0 g
    (r_iinc k_271_107 rfl rfl rfl rfl
    (r_goto (tgt := 82) k_271_110 rfl (Le.rfl'))))))))))))))))))))
theorem M_271 {a0 n0 : Nat} (ha0 : kd a0 = (100, n0)) {x1 : Int32} {σ : pS} {ρ : Nat → Nat → Option Nat} (e : gR σ = ρ) (hL : LayR ρ) : Le
  (gd (inb x1 n0) (C_271_9 a0 n0 x1 (ι 0) (sI σ a0 (ix x1) (gI σ 61 31))))
  (pcall 271 [.ref 61, .ref a0, .int x1] σ) := by
  show Le _ (den 271 0 0 [.ref 61, .ref a0, .int x1, .retAddr 0] [] σ)
  exact r_aload_n k_271_0 rfl rfl
    (r_iload_n k_271_1 rfl rfl
    (r_aload_n k_271_2 rfl rfl
    (r_getI k_271_3 rfl po_271 rfl rfl rfl rfl
    (r_gd fun g => r_iast k_271_6 rfl ha0 g
    (r_iconst k_271_7 rfl rfl
    (r_istore_n k_271_8 rfl rfl rfl
    (Le.rfl')))))))
/-! ===== 272 HedgeWantsModel.goOn ===== -/
theorem k_272_0 : cd 272 0 = some (.iconst 0, 1) := by decide +kernel
theorem k_272_1 : cd 272 1 = some (.istore_n 2, 1) := by decide +kernel
theorem k_272_2 : cd 272 2 = some (.iload_n 2, 1) := by decide +kernel
theorem k_272_3 : cd 272 3 = some (.iload_n 1, 1) := by decide +kernel
theorem k_272_4 : cd 272 4 = some (.if_icmp .ge 13, 3) := by decide +kernel
theorem k_272_7 : cd 272 7 = some (.aload_n 0, 1) := by decide +kernel
theorem k_272_8 : cd 272 8 = some (.invokevirtual 356, 3) := by decide +kernel
theorem k_272_11 : cd 272 11 = some (.iinc 2 1, 3) := by decide +kernel
theorem k_272_14 : cd 272 14 = some (.goto (-12), 3) := by decide +kernel
theorem k_272_17 : cd 272 17 = some (.return_, 1) := by decide +kernel
theorem po_272 : po 272 = 9 := rfl
noncomputable def C_272_2  (x1 : Int32) (x2 : Int32) (σ : pS) : Option pZ := den 272 0 2 [.ref 61, .int x1, .int x2] [] σ
theorem T_272_2  {x1 : Int32} {x2 : Int32}  {σ : pS} {ρ : Nat → Nat → Option Nat} (e : gR σ = ρ) (hL : LayR ρ) : Le
  (if x1 ≤ x2 then some (0, .null, σ) else bV (pcall 273 [.ref 61] σ) fun σ1 => C_272_2 x1 (x2 + (ι 1)) σ1)
  (C_272_2  x1 x2 σ) := by
  unfold C_272_2
  exact r_iload_n k_272_2 rfl rfl
    (r_iload_n k_272_3 rfl rfl
    (r_icmp (tgt := 17) k_272_4 rfl rfl cop_ge
    (r_retV k_272_17 rfl)
    (r_aload_n k_272_7 rfl rfl
    (r_callV (q_virt (rest := []) (as := []) k_272_8 po_272 rfl rfl rfl (rcvO rfl rfl rfl) rfl rfl) (lvq (j := 0) rfl (by decide +kernel)) rfl rfl (fun _ σ1 h1 => r_iinc k_272_11 rfl rfl rfl rfl
    (r_goto (tgt := 2) k_272_14 rfl (Le.rfl')))))))
theorem M_272  {x0 : Int32} {σ : pS} {ρ : Nat → Nat → Option Nat} (e : gR σ = ρ) (hL : LayR ρ) : Le
  (C_272_2 x0 (ι 0) σ)
  (pcall 272 [.ref 61, .int x0] σ) := by
  show Le _ (den 272 0 0 [.ref 61, .int x0, .retAddr 0] [] σ)
  exact r_iconst k_272_0 rfl rfl
    (r_istore_n k_272_1 rfl rfl rfl
    (Le.rfl'))
/-! ===== 273 HedgeWantsModel.aDay ===== -/
theorem k_273_0 : cd 273 0 = some (.aload_n 0, 1) := by decide +kernel
theorem k_273_1 : cd 273 1 = some (.iconst 0, 1) := by decide +kernel
theorem k_273_2 : cd 273 2 = some (.putfield 347, 3) := by decide +kernel
theorem k_273_5 : cd 273 5 = some (.iconst 0, 1) := by decide +kernel
theorem k_273_6 : cd 273 6 = some (.istore_n 1, 1) := by decide +kernel
theorem k_273_7 : cd 273 7 = some (.iload_n 1, 1) := by decide +kernel
theorem k_273_8 : cd 273 8 = some (.aload_n 0, 1) := by decide +kernel
theorem k_273_9 : cd 273 9 = some (.getfield 44, 3) := by decide +kernel
theorem k_273_12 : cd 273 12 = some (.iconst 1, 1) := by decide +kernel
theorem k_273_13 : cd 273 13 = some (.iaload, 1) := by decide +kernel
theorem k_273_14 : cd 273 14 = some (.if_icmp .ge 59, 3) := by decide +kernel
theorem k_273_17 : cd 273 17 = some (.aload_n 0, 1) := by decide +kernel
theorem k_273_18 : cd 273 18 = some (.iload_n 1, 1) := by decide +kernel
theorem k_273_19 : cd 273 19 = some (.invokevirtual 350, 3) := by decide +kernel
theorem k_273_22 : cd 273 22 = some (.istore_n 2, 1) := by decide +kernel
theorem k_273_23 : cd 273 23 = some (.iload_n 2, 1) := by decide +kernel
theorem k_273_24 : cd 273 24 = some (.iconst (-1), 1) := by decide +kernel
theorem k_273_25 : cd 273 25 = some (.if_icmp .ne 6, 3) := by decide +kernel
theorem k_273_28 : cd 273 28 = some (.goto 39, 3) := by decide +kernel
theorem k_273_31 : cd 273 31 = some (.aload_n 0, 1) := by decide +kernel
theorem k_273_32 : cd 273 32 = some (.getfield 77, 3) := by decide +kernel
theorem k_273_35 : cd 273 35 = some (.iload_n 1, 1) := by decide +kernel
theorem k_273_36 : cd 273 36 = some (.iload_n 2, 1) := by decide +kernel
theorem k_273_37 : cd 273 37 = some (.iastore, 1) := by decide +kernel
theorem k_273_38 : cd 273 38 = some (.aload_n 0, 1) := by decide +kernel
theorem k_273_39 : cd 273 39 = some (.getfield 80, 3) := by decide +kernel
theorem k_273_42 : cd 273 42 = some (.iload_n 1, 1) := by decide +kernel
theorem k_273_43 : cd 273 43 = some (.iconst 0, 1) := by decide +kernel
theorem k_273_44 : cd 273 44 = some (.iastore, 1) := by decide +kernel
theorem k_273_45 : cd 273 45 = some (.aload_n 0, 1) := by decide +kernel
theorem k_273_46 : cd 273 46 = some (.dup, 1) := by decide +kernel
theorem k_273_47 : cd 273 47 = some (.getfield 347, 3) := by decide +kernel
theorem k_273_50 : cd 273 50 = some (.iconst 1, 1) := by decide +kernel
theorem k_273_51 : cd 273 51 = some (.iload_n 1, 1) := by decide +kernel
theorem k_273_52 : cd 273 52 = some (.ishl, 1) := by decide +kernel
theorem k_273_53 : cd 273 53 = some (.ior, 1) := by decide +kernel
theorem k_273_54 : cd 273 54 = some (.putfield 347, 3) := by decide +kernel
theorem k_273_57 : cd 273 57 = some (.aload_n 0, 1) := by decide +kernel
theorem k_273_58 : cd 273 58 = some (.getfield 96, 3) := by decide +kernel
theorem k_273_61 : cd 273 61 = some (.iload_n 1, 1) := by decide +kernel
theorem k_273_62 : cd 273 62 = some (.dup2, 1) := by decide +kernel
theorem k_273_63 : cd 273 63 = some (.iaload, 1) := by decide +kernel
theorem k_273_64 : cd 273 64 = some (.iconst 1, 1) := by decide +kernel
theorem k_273_65 : cd 273 65 = some (.iadd, 1) := by decide +kernel
theorem k_273_66 : cd 273 66 = some (.iastore, 1) := by decide +kernel
theorem k_273_67 : cd 273 67 = some (.iinc 1 1, 3) := by decide +kernel
theorem k_273_70 : cd 273 70 = some (.goto (-63), 3) := by decide +kernel
theorem k_273_73 : cd 273 73 = some (.iconst 0, 1) := by decide +kernel
theorem k_273_74 : cd 273 74 = some (.istore_n 1, 1) := by decide +kernel
theorem k_273_75 : cd 273 75 = some (.iload_n 1, 1) := by decide +kernel
theorem k_273_76 : cd 273 76 = some (.aload_n 0, 1) := by decide +kernel
theorem k_273_77 : cd 273 77 = some (.getfield 44, 3) := by decide +kernel
theorem k_273_80 : cd 273 80 = some (.iconst 1, 1) := by decide +kernel
theorem k_273_81 : cd 273 81 = some (.iaload, 1) := by decide +kernel
theorem k_273_82 : cd 273 82 = some (.if_icmp .ge 32, 3) := by decide +kernel
theorem k_273_85 : cd 273 85 = some (.aload_n 0, 1) := by decide +kernel
theorem k_273_86 : cd 273 86 = some (.getfield 80, 3) := by decide +kernel
theorem k_273_89 : cd 273 89 = some (.iload_n 1, 1) := by decide +kernel
theorem k_273_90 : cd 273 90 = some (.bipush 9, 2) := by decide +kernel
theorem k_273_92 : cd 273 92 = some (.aload_n 0, 1) := by decide +kernel
theorem k_273_93 : cd 273 93 = some (.getfield 80, 3) := by decide +kernel
theorem k_273_96 : cd 273 96 = some (.iload_n 1, 1) := by decide +kernel
theorem k_273_97 : cd 273 97 = some (.iaload, 1) := by decide +kernel
theorem k_273_98 : cd 273 98 = some (.aload_n 0, 1) := by decide +kernel
theorem k_273_99 : cd 273 99 = some (.iload_n 1, 1) := by decide +kernel
theorem k_273_100 : cd 273 100 = some (.invokevirtual 353, 3) := by decide +kernel
theorem k_273_103 : cd 273 103 = some (.iadd, 1) := by decide +kernel
theorem k_273_104 : cd 273 104 = some (.invokestatic 182, 3) := by decide +kernel
theorem k_273_107 : cd 273 107 = some (.iastore, 1) := by decide +kernel
theorem k_273_108 : cd 273 108 = some (.iinc 1 1, 3) := by decide +kernel
theorem k_273_111 : cd 273 111 = some (.goto (-36), 3) := by decide +kernel
theorem k_273_114 : cd 273 114 = some (.aload_n 0, 1) := by decide +kernel
theorem k_273_115 : cd 273 115 = some (.iconst 0, 1) := by decide +kernel
theorem k_273_116 : cd 273 116 = some (.putfield 325, 3) := by decide +kernel
theorem k_273_119 : cd 273 119 = some (.aload_n 0, 1) := by decide +kernel
theorem k_273_120 : cd 273 120 = some (.dup, 1) := by decide +kernel
theorem k_273_121 : cd 273 121 = some (.getfield 303, 3) := by decide +kernel
theorem k_273_124 : cd 273 124 = some (.iconst 1, 1) := by decide +kernel
theorem k_273_125 : cd 273 125 = some (.iadd, 1) := by decide +kernel
theorem k_273_126 : cd 273 126 = some (.putfield 303, 3) := by decide +kernel
theorem k_273_129 : cd 273 129 = some (.return_, 1) := by decide +kernel
theorem po_273 : po 273 = 9 := rfl
noncomputable def C_273_7  (x1 : Int32) (v2 : Value) (σ : pS) : Option pZ := den 273 0 7 [.ref 61, .int x1, v2] [] σ
noncomputable def C_273_75  (x1 : Int32) (v2 : Value) (σ : pS) : Option pZ := den 273 0 75 [.ref 61, .int x1, v2] [] σ
theorem T_273_7  {x1 : Int32} {v2 : Value}  {σ : pS} {ρ : Nat → Nat → Option Nat} (e : gR σ = ρ) (hL : LayR ρ) : Le
  (if (gI σ 65 1) ≤ x1 then C_273_75 (ι 0) v2 σ else bI (pcall 265 [.ref 61, .int x1] σ) fun r1 σ1 => if ¬ r1 = (ν 1) then gd (inb x1 12) (gd (inb x1 12) (gd (inb x1 12) (gd (inb x1 12) (C_273_7 (x1 + (ι 1)) (.int r1) (sI (sI (sI (sI σ1 75 (ix x1) r1) 76 (ix x1) (ι 0)) 61 37 ((gI (sI (sI σ1 75 (ix x1) r1) 76 (ix x1) (ι 0)) 61 37) ||| (shl' (ι 1) x1))) 82 (ix x1) ((gI (sI (sI (sI σ1 75 (ix x1) r1) 76 (ix x1) (ι 0)) 61 37 ((gI (sI (sI σ1 75 (ix x1) r1) 76 (ix x1) (ι 0)) 61 37) ||| (shl' (ι 1) x1))) 82 (ix x1)) + (ι 1))))))) else C_273_7 (x1 + (ι 1)) (.int r1) σ1)
  (C_273_7  x1 v2 σ) := by
  unfold C_273_7
  exact r_iload_n k_273_7 rfl rfl
    (r_aload_n k_273_8 rfl rfl
    (r_getR k_273_9 rfl po_273 rfl rfl rfl rfl (gRat e (LayR.at hL (i := 66) rfl))
    (r_iconst k_273_12 rfl rfl
    (r_iald k_273_13 rfl rfl (by decide)
    (r_icmp (tgt := 73) k_273_14 rfl rfl cop_ge
    (r_iconst k_273_73 rfl rfl
    (r_istore_n k_273_74 rfl rfl rfl
    (Le.rfl')))
    (r_aload_n k_273_17 rfl rfl
    (r_iload_n k_273_18 rfl rfl
    (r_callI (q_virt (rest := []) (as := [.int x1]) k_273_19 po_273 rfl rfl rfl (rcvO rfl rfl rfl) rfl rfl) (lvq (j := 0) rfl (by decide +kernel)) rfl rfl (fun r1 σ1 h1 => r_istore_n k_273_22 rfl rfl rfl
    (r_iload_n k_273_23 rfl rfl
    (r_iconst k_273_24 rfl rfl
    (r_icmp (tgt := 31) k_273_25 rfl rfl cop_ne
    (r_aload_n k_273_31 rfl rfl
    (r_getR k_273_32 rfl po_273 rfl rfl rfl rfl (gRat (eC rfl h1 e) (LayR.at hL (i := 76) rfl))
    (r_iload_n k_273_35 rfl rfl
    (r_iload_n k_273_36 rfl rfl
    (r_gd fun g => r_iast k_273_37 rfl rfl g
    (r_aload_n k_273_38 rfl rfl
    (r_getR k_273_39 rfl po_273 rfl rfl rfl rfl (gRat (eI (eC rfl h1 e)) (LayR.at hL (i := 77) rfl))
    (r_iload_n k_273_42 rfl rfl
    (r_iconst k_273_43 rfl rfl
    (r_gd fun g => r_iast k_273_44 rfl rfl g
    (r_aload_n k_273_45 rfl rfl
    (r_dup k_273_46 rfl rfl
    (r_getI k_273_47 rfl po_273 rfl rfl rfl rfl
    (r_iconst k_273_50 rfl rfl
    (r_iload_n k_273_51 rfl rfl
    (r_ishl k_273_52 rfl
    (r_ior k_273_53 rfl
    (r_putI k_273_54 rfl po_273 rfl rfl rfl
    (r_aload_n k_273_57 rfl rfl
    (r_getR k_273_58 rfl po_273 rfl rfl rfl rfl (gRat (eI (eI (eI (eC rfl h1 e)))) (LayR.at hL (i := 83) rfl))
    (r_iload_n k_273_61 rfl rfl
    (r_dup2 k_273_62 rfl rfl rfl
    (r_gd fun g => r_iald k_273_63 rfl rfl g
    (r_iconst k_273_64 rfl rfl
    (r_iadd k_273_65 rfl
    (r_gd fun g => r_iast k_273_66 rfl rfl g
    (r_iinc k_273_67 rfl rfl rfl rfl
    (r_goto (tgt := 7) k_273_70 rfl (Le.rfl')))))))))))))))))))))))))))))
    (r_goto (tgt := 67) k_273_28 rfl (r_iinc k_273_67 rfl rfl rfl rfl
    (r_goto (tgt := 7) k_273_70 rfl (Le.rfl'))))))))))))))))
theorem T_273_75  {x1 : Int32} {v2 : Value}  {σ : pS} {ρ : Nat → Nat → Option Nat} (e : gR σ = ρ) (hL : LayR ρ) : Le
  (if (gI σ 65 1) ≤ x1 then some (0, .null, (sI (sI σ 61 36 (ι 0)) 61 31 ((gI (sI σ 61 36 (ι 0)) 61 31) + (ι 1)))) else gd (inb x1 12) (bI (pcall 274 [.ref 61, .int x1] σ) fun r1 σ1 => gd (inb x1 12) (C_273_75 (x1 + (ι 1)) v2 (sI σ1 76 (ix x1) (imin (ι 9) ((gI σ 76 (ix x1)) + r1))))))
  (C_273_75  x1 v2 σ) := by
  unfold C_273_75
  exact r_iload_n k_273_75 rfl rfl
    (r_aload_n k_273_76 rfl rfl
    (r_getR k_273_77 rfl po_273 rfl rfl rfl rfl (gRat e (LayR.at hL (i := 66) rfl))
    (r_iconst k_273_80 rfl rfl
    (r_iald k_273_81 rfl rfl (by decide)
    (r_icmp (tgt := 114) k_273_82 rfl rfl cop_ge
    (r_aload_n k_273_114 rfl rfl
    (r_iconst k_273_115 rfl rfl
    (r_putI k_273_116 rfl po_273 rfl rfl rfl
    (r_aload_n k_273_119 rfl rfl
    (r_dup k_273_120 rfl rfl
    (r_getI k_273_121 rfl po_273 rfl rfl rfl rfl
    (r_iconst k_273_124 rfl rfl
    (r_iadd k_273_125 rfl
    (r_putI k_273_126 rfl po_273 rfl rfl rfl
    (r_retV k_273_129 rfl))))))))))
    (r_aload_n k_273_85 rfl rfl
    (r_getR k_273_86 rfl po_273 rfl rfl rfl rfl (gRat e (LayR.at hL (i := 77) rfl))
    (r_iload_n k_273_89 rfl rfl
    (r_bipush k_273_90 rfl rfl
    (r_aload_n k_273_92 rfl rfl
    (r_getR k_273_93 rfl po_273 rfl rfl rfl rfl (gRat e (LayR.at hL (i := 77) rfl))
    (r_iload_n k_273_96 rfl rfl
    (r_gd fun g => r_iald k_273_97 rfl rfl g
    (r_aload_n k_273_98 rfl rfl
    (r_iload_n k_273_99 rfl rfl
    (r_callI (q_virt (rest := [.int (gI σ 76 (ix x1)), .int (ι 9), .int x1, .ref 76]) (as := [.int x1]) k_273_100 po_273 rfl rfl rfl (rcvO rfl rfl rfl) rfl rfl) (lvq (j := 0) rfl (by decide +kernel)) rfl rfl (fun r1 σ1 h1 => r_iadd k_273_103 rfl
    (r_imin k_273_104 rfl po_273 rfl rfl
    (r_gd fun g => r_iast k_273_107 rfl rfl g
    (r_iinc k_273_108 rfl rfl rfl rfl
    (r_goto (tgt := 75) k_273_111 rfl (Le.rfl'))))))))))))))))))))))
theorem M_273   {σ : pS} {ρ : Nat → Nat → Option Nat} (e : gR σ = ρ) (hL : LayR ρ) : Le
  (C_273_7 (ι 0) (.retAddr 0) (sI σ 61 37 (ι 0)))
  (pcall 273 [.ref 61] σ) := by
  show Le _ (den 273 0 0 [.ref 61, .retAddr 0, .retAddr 0] [] σ)
  exact r_aload_n k_273_0 rfl rfl
    (r_iconst k_273_1 rfl rfl
    (r_putI k_273_2 rfl po_273 rfl rfl rfl
    (r_iconst k_273_5 rfl rfl
    (r_istore_n k_273_6 rfl rfl rfl
    (Le.rfl')))))
/-! ===== 274 HedgeWantsModel.runsBy ===== -/
theorem k_274_0 : cd 274 0 = some (.aload_n 0, 1) := by decide +kernel
theorem k_274_1 : cd 274 1 = some (.iload_n 1, 1) := by decide +kernel
theorem k_274_2 : cd 274 2 = some (.invokevirtual 344, 3) := by decide +kernel
theorem k_274_5 : cd 274 5 = some (.invokestatic 334, 3) := by decide +kernel
theorem k_274_8 : cd 274 8 = some (.istore_n 2, 1) := by decide +kernel
theorem k_274_9 : cd 274 9 = some (.iload_n 2, 1) := by decide +kernel
theorem k_274_10 : cd 274 10 = some (.ifCond .le 7, 3) := by decide +kernel
theorem k_274_13 : cd 274 13 = some (.iconst 1, 1) := by decide +kernel
theorem k_274_14 : cd 274 14 = some (.goto 4, 3) := by decide +kernel
theorem k_274_17 : cd 274 17 = some (.iconst 0, 1) := by decide +kernel
theorem k_274_18 : cd 274 18 = some (.istore_n 3, 1) := by decide +kernel
theorem k_274_19 : cd 274 19 = some (.aload_n 0, 1) := by decide +kernel
theorem k_274_20 : cd 274 20 = some (.getfield 44, 3) := by decide +kernel
theorem k_274_23 : cd 274 23 = some (.iconst 4, 1) := by decide +kernel
theorem k_274_24 : cd 274 24 = some (.iaload, 1) := by decide +kernel
theorem k_274_25 : cd 274 25 = some (.ifCond .le 64, 3) := by decide +kernel
theorem k_274_28 : cd 274 28 = some (.aload_n 0, 1) := by decide +kernel
theorem k_274_29 : cd 274 29 = some (.getfield 90, 3) := by decide +kernel
theorem k_274_32 : cd 274 32 = some (.iconst 0, 1) := by decide +kernel
theorem k_274_33 : cd 274 33 = some (.aload_n 0, 1) := by decide +kernel
theorem k_274_34 : cd 274 34 = some (.getfield 80, 3) := by decide +kernel
theorem k_274_37 : cd 274 37 = some (.iload_n 1, 1) := by decide +kernel
theorem k_274_38 : cd 274 38 = some (.iaload, 1) := by decide +kernel
theorem k_274_39 : cd 274 39 = some (.iastore, 1) := by decide +kernel
theorem k_274_40 : cd 274 40 = some (.aload_n 0, 1) := by decide +kernel
theorem k_274_41 : cd 274 41 = some (.getfield 90, 3) := by decide +kernel
theorem k_274_44 : cd 274 44 = some (.iconst 1, 1) := by decide +kernel
theorem k_274_45 : cd 274 45 = some (.aload_n 0, 1) := by decide +kernel
theorem k_274_46 : cd 274 46 = some (.getfield 303, 3) := by decide +kernel
theorem k_274_49 : cd 274 49 = some (.iastore, 1) := by decide +kernel
theorem k_274_50 : cd 274 50 = some (.aload_n 0, 1) := by decide +kernel
theorem k_274_51 : cd 274 51 = some (.getfield 90, 3) := by decide +kernel
theorem k_274_54 : cd 274 54 = some (.iconst 2, 1) := by decide +kernel
theorem k_274_55 : cd 274 55 = some (.aload_n 0, 1) := by decide +kernel
theorem k_274_56 : cd 274 56 = some (.aload_n 0, 1) := by decide +kernel
theorem k_274_57 : cd 274 57 = some (.getfield 77, 3) := by decide +kernel
theorem k_274_60 : cd 274 60 = some (.iload_n 1, 1) := by decide +kernel
theorem k_274_61 : cd 274 61 = some (.iaload, 1) := by decide +kernel
theorem k_274_62 : cd 274 62 = some (.iload_n 1, 1) := by decide +kernel
theorem k_274_63 : cd 274 63 = some (.invokevirtual 319, 3) := by decide +kernel
theorem k_274_66 : cd 274 66 = some (.iastore, 1) := by decide +kernel
theorem k_274_67 : cd 274 67 = some (.aload_n 0, 1) := by decide +kernel
theorem k_274_68 : cd 274 68 = some (.getfield 90, 3) := by decide +kernel
theorem k_274_71 : cd 274 71 = some (.iconst 3, 1) := by decide +kernel
theorem k_274_72 : cd 274 72 = some (.iload_n 2, 1) := by decide +kernel
theorem k_274_73 : cd 274 73 = some (.iastore, 1) := by decide +kernel
theorem k_274_74 : cd 274 74 = some (.aload_n 0, 1) := by decide +kernel
theorem k_274_75 : cd 274 75 = some (.aload_n 0, 1) := by decide +kernel
theorem k_274_76 : cd 274 76 = some (.getfield 64, 3) := by decide +kernel
theorem k_274_79 : cd 274 79 = some (.aload_n 0, 1) := by decide +kernel
theorem k_274_80 : cd 274 80 = some (.getfield 44, 3) := by decide +kernel
theorem k_274_83 : cd 274 83 = some (.iconst 4, 1) := by decide +kernel
theorem k_274_84 : cd 274 84 = some (.iaload, 1) := by decide +kernel
theorem k_274_85 : cd 274 85 = some (.invokevirtual 337, 3) := by decide +kernel
theorem k_274_88 : cd 274 88 = some (.istore_n 3, 1) := by decide +kernel
theorem k_274_89 : cd 274 89 = some (.iconst 0, 1) := by decide +kernel
theorem k_274_90 : cd 274 90 = some (.iconst 3, 1) := by decide +kernel
theorem k_274_91 : cd 274 91 = some (.iload_n 3, 1) := by decide +kernel
theorem k_274_92 : cd 274 92 = some (.invokestatic 182, 3) := by decide +kernel
theorem k_274_95 : cd 274 95 = some (.invokestatic 322, 3) := by decide +kernel
theorem k_274_98 : cd 274 98 = some (.istore_n 3, 1) := by decide +kernel
theorem k_274_99 : cd 274 99 = some (.aload_n 0, 1) := by decide +kernel
theorem k_274_100 : cd 274 100 = some (.getfield 50, 3) := by decide +kernel
theorem k_274_103 : cd 274 103 = some (.iload_n 1, 1) := by decide +kernel
theorem k_274_104 : cd 274 104 = some (.iaload, 1) := by decide +kernel
theorem k_274_105 : cd 274 105 = some (.iconst 1, 1) := by decide +kernel
theorem k_274_106 : cd 274 106 = some (.if_icmp .ne 9, 3) := by decide +kernel
theorem k_274_109 : cd 274 109 = some (.iload_n 3, 1) := by decide +kernel
theorem k_274_110 : cd 274 110 = some (.iconst 2, 1) := by decide +kernel
theorem k_274_111 : cd 274 111 = some (.idiv, 1) := by decide +kernel
theorem k_274_112 : cd 274 112 = some (.goto 4, 3) := by decide +kernel
theorem k_274_115 : cd 274 115 = some (.iload_n 3, 1) := by decide +kernel
theorem k_274_116 : cd 274 116 = some (.ireturn, 1) := by decide +kernel
theorem po_274 : po 274 = 9 := rfl
noncomputable def C_274_18  (x1 : Int32) (x2 : Int32) (v3 : Value) (s0 : Int32) (σ : pS) : Option pZ := den 274 0 18 [.ref 61, .int x1, .int x2, v3] [.int s0] σ
noncomputable def C_274_89  (x1 : Int32) (v2 : Value) (x3 : Int32) (σ : pS) : Option pZ := den 274 0 89 [.ref 61, .int x1, v2, .int x3] [] σ
theorem T_274_18  {x1 : Int32} {x2 : Int32} {v3 : Value} {s0 : Int32}  {σ : pS} {ρ : Nat → Nat → Option Nat} (e : gR σ = ρ) (hL : LayR ρ) : Le
  (if (gI σ 65 4) ≤ (ι 0) then C_274_89 x1 (.int x2) s0 σ else gd (inb x1 12) (gd (inb x1 12) (bI (pcall 245 [.ref 61, .int (gI (sI (sI σ 80 0 (gI σ 76 (ix x1))) 80 1 (gI (sI σ 80 0 (gI σ 76 (ix x1))) 61 31)) 75 (ix x1)), .int x1] (sI (sI σ 80 0 (gI σ 76 (ix x1))) 80 1 (gI (sI σ 80 0 (gI σ 76 (ix x1))) 61 31))) fun r1 σ1 => bI (pcall 248 [.ref 61, .ref 72, .int (gI (sI (sI σ1 80 2 r1) 80 3 x2) 65 4)] (sI (sI σ1 80 2 r1) 80 3 x2)) fun r2 σ2 => C_274_89 x1 (.int x2) r2 σ2)))
  (C_274_18  x1 x2 v3 s0 σ) := by
  unfold C_274_18
  exact r_istore_n k_274_18 rfl rfl rfl
    (r_aload_n k_274_19 rfl rfl
    (r_getR k_274_20 rfl po_274 rfl rfl rfl rfl (gRat e (LayR.at hL (i := 66) rfl))
    (r_iconst k_274_23 rfl rfl
    (r_iald k_274_24 rfl rfl (by decide)
    (r_if (tgt := 89) k_274_25 rfl rfl cop_le
    (Le.rfl')
    (r_aload_n k_274_28 rfl rfl
    (r_getR k_274_29 rfl po_274 rfl rfl rfl rfl (gRat e (LayR.at hL (i := 81) rfl))
    (r_iconst k_274_32 rfl rfl
    (r_aload_n k_274_33 rfl rfl
    (r_getR k_274_34 rfl po_274 rfl rfl rfl rfl (gRat e (LayR.at hL (i := 77) rfl))
    (r_iload_n k_274_37 rfl rfl
    (r_gd fun g => r_iald k_274_38 rfl rfl g
    (r_iast k_274_39 rfl rfl (by decide)
    (r_aload_n k_274_40 rfl rfl
    (r_getR k_274_41 rfl po_274 rfl rfl rfl rfl (gRat (eI e) (LayR.at hL (i := 81) rfl))
    (r_iconst k_274_44 rfl rfl
    (r_aload_n k_274_45 rfl rfl
    (r_getI k_274_46 rfl po_274 rfl rfl rfl rfl
    (r_iast k_274_49 rfl rfl (by decide)
    (r_aload_n k_274_50 rfl rfl
    (r_getR k_274_51 rfl po_274 rfl rfl rfl rfl (gRat (eI (eI e)) (LayR.at hL (i := 81) rfl))
    (r_iconst k_274_54 rfl rfl
    (r_aload_n k_274_55 rfl rfl
    (r_aload_n k_274_56 rfl rfl
    (r_getR k_274_57 rfl po_274 rfl rfl rfl rfl (gRat (eI (eI e)) (LayR.at hL (i := 76) rfl))
    (r_iload_n k_274_60 rfl rfl
    (r_gd fun g => r_iald k_274_61 rfl rfl g
    (r_iload_n k_274_62 rfl rfl
    (r_callI (q_virt (rest := [.int (ι 2), .ref 80]) (as := [.int (gI (sI (sI σ 80 0 (gI σ 76 (ix x1))) 80 1 (gI (sI σ 80 0 (gI σ 76 (ix x1))) 61 31)) 75 (ix x1)), .int x1]) k_274_63 po_274 rfl rfl rfl (rcvO rfl rfl rfl) rfl rfl) (lvq (j := 0) rfl (by decide +kernel)) rfl rfl (fun r1 σ1 h1 => r_iast k_274_66 rfl rfl (by decide)
    (r_aload_n k_274_67 rfl rfl
    (r_getR k_274_68 rfl po_274 rfl rfl rfl rfl (gRat (eI (eC rfl h1 (eI (eI e)))) (LayR.at hL (i := 81) rfl))
    (r_iconst k_274_71 rfl rfl
    (r_iload_n k_274_72 rfl rfl
    (r_iast k_274_73 rfl rfl (by decide)
    (r_aload_n k_274_74 rfl rfl
    (r_aload_n k_274_75 rfl rfl
    (r_getR k_274_76 rfl po_274 rfl rfl rfl rfl (gRat (eI (eI (eC rfl h1 (eI (eI e))))) (LayR.at hL (i := 73) rfl))
    (r_aload_n k_274_79 rfl rfl
    (r_getR k_274_80 rfl po_274 rfl rfl rfl rfl (gRat (eI (eI (eC rfl h1 (eI (eI e))))) (LayR.at hL (i := 66) rfl))
    (r_iconst k_274_83 rfl rfl
    (r_iald k_274_84 rfl rfl (by decide)
    (r_callI (q_virt (rest := []) (as := [.ref 72, .int (gI (sI (sI σ1 80 2 r1) 80 3 x2) 65 4)]) k_274_85 po_274 rfl rfl rfl (rcvO rfl rfl rfl) rfl rfl) (lvq (j := 0) rfl (by decide +kernel)) rfl rfl (fun r2 σ2 h2 => r_istore_n k_274_88 rfl rfl rfl
    (Le.rfl')))))))))))))))))))))))))))))))))))))))))))))
theorem T_274_89  {x1 : Int32} {v2 : Value} {x3 : Int32}  {σ : pS} {ρ : Nat → Nat → Option Nat} (e : gR σ = ρ) (hL : LayR ρ) : Le
  (gd (inb x1 24) (if ¬ (gI σ 67 (ix x1)) = (ι 1) then some (1, .int (imax (ι 0) (imin (ι 3) x3)), σ) else some (1, .int ((imax (ι 0) (imin (ι 3) x3)) / (ι 2)), σ)))
  (C_274_89  x1 v2 x3 σ) := by
  unfold C_274_89
  exact r_iconst k_274_89 rfl rfl
    (r_iconst k_274_90 rfl rfl
    (r_iload_n k_274_91 rfl rfl
    (r_imin k_274_92 rfl po_274 rfl rfl
    (r_imax k_274_95 rfl po_274 rfl rfl
    (r_istore_n k_274_98 rfl rfl rfl
    (r_aload_n k_274_99 rfl rfl
    (r_getR k_274_100 rfl po_274 rfl rfl rfl rfl (gRat e (LayR.at hL (i := 68) rfl))
    (r_iload_n k_274_103 rfl rfl
    (r_gd fun g => r_iald k_274_104 rfl rfl g
    (r_iconst k_274_105 rfl rfl
    (r_icmp (tgt := 115) k_274_106 rfl rfl cop_ne
    (r_iload_n k_274_115 rfl rfl
    (r_ret k_274_116 rfl rfl))
    (r_iload_n k_274_109 rfl rfl
    (r_iconst k_274_110 rfl rfl
    (r_idiv k_274_111 rfl (by decide)
    (r_goto (tgt := 116) k_274_112 rfl (r_ret k_274_116 rfl rfl))))))))))))))))
theorem M_274  {x0 : Int32} {σ : pS} {ρ : Nat → Nat → Option Nat} (e : gR σ = ρ) (hL : LayR ρ) : Le
  (bI (pcall 242 [.ref 61, .int x0] σ) fun r1 σ1 => bI (pcall 247 [.int r1] σ1) fun r2 σ2 => if r2 ≤ (ι 0) then C_274_18 x0 r2 (.retAddr 0) (ι 0) σ2 else C_274_18 x0 r2 (.retAddr 0) (ι 1) σ2)
  (pcall 274 [.ref 61, .int x0] σ) := by
  show Le _ (den 274 0 0 [.ref 61, .int x0, .retAddr 0, .retAddr 0] [] σ)
  exact r_aload_n k_274_0 rfl rfl
    (r_iload_n k_274_1 rfl rfl
    (r_callI (q_virt (rest := []) (as := [.int x0]) k_274_2 po_274 rfl rfl rfl (rcvO rfl rfl rfl) rfl rfl) (lvq (j := 0) rfl (by decide +kernel)) rfl rfl (fun r1 σ1 h1 => r_callI (q_stat (rest := []) (av := [.int r1]) k_274_5 po_274 rfl (by decide) rfl rfl rfl rfl) (lvq (j := 0) rfl (by decide +kernel)) rfl rfl (fun r2 σ2 h2 => r_istore_n k_274_8 rfl rfl rfl
    (r_iload_n k_274_9 rfl rfl
    (r_if (tgt := 17) k_274_10 rfl rfl cop_le
    (r_iconst k_274_17 rfl rfl
    (Le.rfl'))
    (r_iconst k_274_13 rfl rfl
    (r_goto (tgt := 18) k_274_14 rfl (Le.rfl')))))))))
/-! ===== 275 HedgeWantsModel.ask ===== -/
theorem k_275_0 : cd 275 0 = some (.aload_n 0, 1) := by decide +kernel
theorem k_275_1 : cd 275 1 = some (.iconst 0, 1) := by decide +kernel
theorem k_275_2 : cd 275 2 = some (.putfield 145, 3) := by decide +kernel
theorem k_275_5 : cd 275 5 = some (.aload_n 0, 1) := by decide +kernel
theorem k_275_6 : cd 275 6 = some (.iload_n 1, 1) := by decide +kernel
theorem k_275_7 : cd 275 7 = some (.invokevirtual 390, 3) := by decide +kernel
theorem k_275_10 : cd 275 10 = some (.ifCond .eq 11, 3) := by decide +kernel
theorem k_275_13 : cd 275 13 = some (.aload_n 0, 1) := by decide +kernel
theorem k_275_14 : cd 275 14 = some (.iload_n 2, 1) := by decide +kernel
theorem k_275_15 : cd 275 15 = some (.invokevirtual 396, 3) := by decide +kernel
theorem k_275_18 : cd 275 18 = some (.ifCond .ne 9, 3) := by decide +kernel
theorem k_275_21 : cd 275 21 = some (.aload_n 0, 1) := by decide +kernel
theorem k_275_22 : cd 275 22 = some (.iconst 1, 1) := by decide +kernel
theorem k_275_23 : cd 275 23 = some (.invokevirtual 290, 3) := by decide +kernel
theorem k_275_26 : cd 275 26 = some (.ireturn, 1) := by decide +kernel
theorem k_275_27 : cd 275 27 = some (.aload_n 0, 1) := by decide +kernel
theorem k_275_28 : cd 275 28 = some (.iload_n 1, 1) := by decide +kernel
theorem k_275_29 : cd 275 29 = some (.iload_n 2, 1) := by decide +kernel
theorem k_275_30 : cd 275 30 = some (.invokevirtual 341, 3) := by decide +kernel
theorem k_275_33 : cd 275 33 = some (.ifCond .ne 9, 3) := by decide +kernel
theorem k_275_36 : cd 275 36 = some (.aload_n 0, 1) := by decide +kernel
theorem k_275_37 : cd 275 37 = some (.iconst 1, 1) := by decide +kernel
theorem k_275_38 : cd 275 38 = some (.invokevirtual 408, 3) := by decide +kernel
theorem k_275_41 : cd 275 41 = some (.ireturn, 1) := by decide +kernel
theorem k_275_42 : cd 275 42 = some (.aload_n 0, 1) := by decide +kernel
theorem k_275_43 : cd 275 43 = some (.invokevirtual 411, 3) := by decide +kernel
theorem k_275_46 : cd 275 46 = some (.aload_n 0, 1) := by decide +kernel
theorem k_275_47 : cd 275 47 = some (.getfield 77, 3) := by decide +kernel
theorem k_275_50 : cd 275 50 = some (.iload_n 2, 1) := by decide +kernel
theorem k_275_51 : cd 275 51 = some (.iaload, 1) := by decide +kernel
theorem k_275_52 : cd 275 52 = some (.istore_n 3, 1) := by decide +kernel
theorem k_275_53 : cd 275 53 = some (.aload_n 0, 1) := by decide +kernel
theorem k_275_54 : cd 275 54 = some (.iload_n 1, 1) := by decide +kernel
theorem k_275_55 : cd 275 55 = some (.iload_n 2, 1) := by decide +kernel
theorem k_275_56 : cd 275 56 = some (.invokevirtual 417, 3) := by decide +kernel
theorem k_275_59 : cd 275 59 = some (.iload_n 3, 1) := by decide +kernel
theorem k_275_60 : cd 275 60 = some (.ireturn, 1) := by decide +kernel
theorem po_275 : po 275 = 9 := rfl
theorem M_275  {x0 : Int32} {x1 : Int32} {σ : pS} {ρ : Nat → Nat → Option Nat} (e : gR σ = ρ) (hL : LayR ρ) : Le
  (bI (pcall 260 [.ref 61, .int x0] (sI σ 61 4 (ι 0))) fun r1 σ1 => if r1 = (ι 0) then bI (pcall 211 [.ref 61, .int (ι 1)] σ1) fun r2 σ2 => some (1, .int r2, σ2) else bI (pcall 264 [.ref 61, .int x1] σ1) fun r3 σ3 => if ¬ r3 = (ι 0) then bI (pcall 243 [.ref 61, .int x0, .int x1] σ3) fun r4 σ4 => if ¬ r4 = (ι 0) then bV (pcall 270 [.ref 61] σ4) fun σ5 => gd (inb x1 12) (bV (pcall 276 [.ref 61, .int x0, .int x1] σ5) fun σ6 => some (1, .int (gI σ5 75 (ix x1)), σ6)) else bI (pcall 269 [.ref 61, .int (ι 1)] σ4) fun r7 σ7 => some (1, .int r7, σ7) else bI (pcall 211 [.ref 61, .int (ι 1)] σ3) fun r8 σ8 => some (1, .int r8, σ8))
  (pcall 275 [.ref 61, .int x0, .int x1] σ) := by
  show Le _ (den 275 0 0 [.ref 61, .int x0, .int x1, .retAddr 0] [] σ)
  exact r_aload_n k_275_0 rfl rfl
    (r_iconst k_275_1 rfl rfl
    (r_putI k_275_2 rfl po_275 rfl rfl rfl
    (r_aload_n k_275_5 rfl rfl
    (r_iload_n k_275_6 rfl rfl
    (r_callI (q_virt (rest := []) (as := [.int x0]) k_275_7 po_275 rfl rfl rfl (rcvO rfl rfl rfl) rfl rfl) (lvq (j := 0) rfl (by decide +kernel)) rfl rfl (fun r1 σ1 h1 => r_if (tgt := 21) k_275_10 rfl rfl cop_eq
    (r_aload_n k_275_21 rfl rfl
    (r_iconst k_275_22 rfl rfl
    (r_callI (q_virt (rest := []) (as := [.int (ι 1)]) k_275_23 po_275 rfl rfl rfl (rcvO rfl rfl rfl) rfl rfl) (lvq (j := 0) rfl (by decide +kernel)) rfl rfl (fun r2 σ2 h2 => r_ret k_275_26 rfl rfl))))
    (r_aload_n k_275_13 rfl rfl
    (r_iload_n k_275_14 rfl rfl
    (r_callI (q_virt (rest := []) (as := [.int x1]) k_275_15 po_275 rfl rfl rfl (rcvO rfl rfl rfl) rfl rfl) (lvq (j := 0) rfl (by decide +kernel)) rfl rfl (fun r3 σ3 h3 => r_if (tgt := 27) k_275_18 rfl rfl cop_ne
    (r_aload_n k_275_27 rfl rfl
    (r_iload_n k_275_28 rfl rfl
    (r_iload_n k_275_29 rfl rfl
    (r_callI (q_virt (rest := []) (as := [.int x0, .int x1]) k_275_30 po_275 rfl rfl rfl (rcvO rfl rfl rfl) rfl rfl) (lvq (j := 0) rfl (by decide +kernel)) rfl rfl (fun r4 σ4 h4 => r_if (tgt := 42) k_275_33 rfl rfl cop_ne
    (r_aload_n k_275_42 rfl rfl
    (r_callV (q_virt (rest := []) (as := []) k_275_43 po_275 rfl rfl rfl (rcvO rfl rfl rfl) rfl rfl) (lvq (j := 0) rfl (by decide +kernel)) rfl rfl (fun _ σ5 h5 => r_aload_n k_275_46 rfl rfl
    (r_getR k_275_47 rfl po_275 rfl rfl rfl rfl (gRat (eC rfl h5 (eC rfl h4 (eC rfl h3 (eC rfl h1 (eI e))))) (LayR.at hL (i := 76) rfl))
    (r_iload_n k_275_50 rfl rfl
    (r_gd fun g => r_iald k_275_51 rfl rfl g
    (r_istore_n k_275_52 rfl rfl rfl
    (r_aload_n k_275_53 rfl rfl
    (r_iload_n k_275_54 rfl rfl
    (r_iload_n k_275_55 rfl rfl
    (r_callV (q_virt (rest := []) (as := [.int x0, .int x1]) k_275_56 po_275 rfl rfl rfl (rcvO rfl rfl rfl) rfl rfl) (lvq (j := 0) rfl (by decide +kernel)) rfl rfl (fun _ σ6 h6 => r_iload_n k_275_59 rfl rfl
    (r_ret k_275_60 rfl rfl)))))))))))))
    (r_aload_n k_275_36 rfl rfl
    (r_iconst k_275_37 rfl rfl
    (r_callI (q_virt (rest := []) (as := [.int (ι 1)]) k_275_38 po_275 rfl rfl rfl (rcvO rfl rfl rfl) rfl rfl) (lvq (j := 0) rfl (by decide +kernel)) rfl rfl (fun r7 σ7 h7 => r_ret k_275_41 rfl rfl)))))))))
    (r_aload_n k_275_21 rfl rfl
    (r_iconst k_275_22 rfl rfl
    (r_callI (q_virt (rest := []) (as := [.int (ι 1)]) k_275_23 po_275 rfl rfl rfl (rcvO rfl rfl rfl) rfl rfl) (lvq (j := 0) rfl (by decide +kernel)) rfl rfl (fun r8 σ8 h8 => r_ret k_275_26 rfl rfl))))))))))))))
/-! ===== 276 HedgeWantsModel.have ===== -/
theorem k_276_0 : cd 276 0 = some (.aload_n 0, 1) := by decide +kernel
theorem k_276_1 : cd 276 1 = some (.getfield 77, 3) := by decide +kernel
theorem k_276_4 : cd 276 4 = some (.iload_n 2, 1) := by decide +kernel
theorem k_276_5 : cd 276 5 = some (.iload_n 1, 1) := by decide +kernel
theorem k_276_6 : cd 276 6 = some (.iastore, 1) := by decide +kernel
theorem k_276_7 : cd 276 7 = some (.aload_n 0, 1) := by decide +kernel
theorem k_276_8 : cd 276 8 = some (.getfield 80, 3) := by decide +kernel
theorem k_276_11 : cd 276 11 = some (.iload_n 2, 1) := by decide +kernel
theorem k_276_12 : cd 276 12 = some (.iconst 0, 1) := by decide +kernel
theorem k_276_13 : cd 276 13 = some (.iastore, 1) := by decide +kernel
theorem k_276_14 : cd 276 14 = some (.return_, 1) := by decide +kernel
theorem po_276 : po 276 = 9 := rfl
theorem M_276  {x0 : Int32} {x1 : Int32} {σ : pS} {ρ : Nat → Nat → Option Nat} (e : gR σ = ρ) (hL : LayR ρ) : Le
  (gd (inb x1 12) (gd (inb x1 12) (some (0, .null, (sI (sI σ 75 (ix x1) x0) 76 (ix x1) (ι 0))))))
  (pcall 276 [.ref 61, .int x0, .int x1] σ) := by
  show Le _ (den 276 0 0 [.ref 61, .int x0, .int x1] [] σ)
  exact r_aload_n k_276_0 rfl rfl
    (r_getR k_276_1 rfl po_276 rfl rfl rfl rfl (gRat e (LayR.at hL (i := 76) rfl))
    (r_iload_n k_276_4 rfl rfl
    (r_iload_n k_276_5 rfl rfl
    (r_gd fun g => r_iast k_276_6 rfl rfl g
    (r_aload_n k_276_7 rfl rfl
    (r_getR k_276_8 rfl po_276 rfl rfl rfl rfl (gRat (eI e) (LayR.at hL (i := 77) rfl))
    (r_iload_n k_276_11 rfl rfl
    (r_iconst k_276_12 rfl rfl
    (r_gd fun g => r_iast k_276_13 rfl rfl g
    (r_retV k_276_14 rfl))))))))))
/-! ===== 277 HedgeWantsModel.spoil ===== -/
theorem k_277_0 : cd 277 0 = some (.aload_n 0, 1) := by decide +kernel
theorem k_277_1 : cd 277 1 = some (.iconst 0, 1) := by decide +kernel
theorem k_277_2 : cd 277 2 = some (.putfield 145, 3) := by decide +kernel
theorem k_277_5 : cd 277 5 = some (.aload_n 0, 1) := by decide +kernel
theorem k_277_6 : cd 277 6 = some (.iload_n 1, 1) := by decide +kernel
theorem k_277_7 : cd 277 7 = some (.invokevirtual 396, 3) := by decide +kernel
theorem k_277_10 : cd 277 10 = some (.ifCond .ne 9, 3) := by decide +kernel
theorem k_277_13 : cd 277 13 = some (.aload_n 0, 1) := by decide +kernel
theorem k_277_14 : cd 277 14 = some (.iconst 1, 1) := by decide +kernel
theorem k_277_15 : cd 277 15 = some (.invokevirtual 290, 3) := by decide +kernel
theorem k_277_18 : cd 277 18 = some (.ireturn, 1) := by decide +kernel
theorem k_277_19 : cd 277 19 = some (.aload_n 0, 1) := by decide +kernel
theorem k_277_20 : cd 277 20 = some (.getfield 80, 3) := by decide +kernel
theorem k_277_23 : cd 277 23 = some (.iload_n 1, 1) := by decide +kernel
theorem k_277_24 : cd 277 24 = some (.iaload, 1) := by decide +kernel
theorem k_277_25 : cd 277 25 = some (.bipush 9, 2) := by decide +kernel
theorem k_277_27 : cd 277 27 = some (.if_icmp .ne 9, 3) := by decide +kernel
theorem k_277_30 : cd 277 30 = some (.aload_n 0, 1) := by decide +kernel
theorem k_277_31 : cd 277 31 = some (.iconst 1, 1) := by decide +kernel
theorem k_277_32 : cd 277 32 = some (.invokevirtual 408, 3) := by decide +kernel
theorem k_277_35 : cd 277 35 = some (.ireturn, 1) := by decide +kernel
theorem k_277_36 : cd 277 36 = some (.aload_n 0, 1) := by decide +kernel
theorem k_277_37 : cd 277 37 = some (.invokevirtual 411, 3) := by decide +kernel
theorem k_277_40 : cd 277 40 = some (.aload_n 0, 1) := by decide +kernel
theorem k_277_41 : cd 277 41 = some (.getfield 80, 3) := by decide +kernel
theorem k_277_44 : cd 277 44 = some (.iload_n 1, 1) := by decide +kernel
theorem k_277_45 : cd 277 45 = some (.dup2, 1) := by decide +kernel
theorem k_277_46 : cd 277 46 = some (.iaload, 1) := by decide +kernel
theorem k_277_47 : cd 277 47 = some (.iconst 1, 1) := by decide +kernel
theorem k_277_48 : cd 277 48 = some (.iadd, 1) := by decide +kernel
theorem k_277_49 : cd 277 49 = some (.iastore, 1) := by decide +kernel
theorem k_277_50 : cd 277 50 = some (.aload_n 0, 1) := by decide +kernel
theorem k_277_51 : cd 277 51 = some (.getfield 80, 3) := by decide +kernel
theorem k_277_54 : cd 277 54 = some (.iload_n 1, 1) := by decide +kernel
theorem k_277_55 : cd 277 55 = some (.iaload, 1) := by decide +kernel
theorem k_277_56 : cd 277 56 = some (.ireturn, 1) := by decide +kernel
theorem po_277 : po 277 = 9 := rfl
theorem M_277  {x0 : Int32} {σ : pS} {ρ : Nat → Nat → Option Nat} (e : gR σ = ρ) (hL : LayR ρ) : Le
  (bI (pcall 264 [.ref 61, .int x0] (sI σ 61 4 (ι 0))) fun r1 σ1 => if ¬ r1 = (ι 0) then gd (inb x0 12) (if ¬ (gI σ1 76 (ix x0)) = (ι 9) then bV (pcall 270 [.ref 61] σ1) fun σ2 => gd (inb x0 12) (gd (inb x0 12) (gd (inb x0 12) (some (1, .int (gI (sI σ2 76 (ix x0) ((gI σ2 76 (ix x0)) + (ι 1))) 76 (ix x0)), (sI σ2 76 (ix x0) ((gI σ2 76 (ix x0)) + (ι 1))))))) else bI (pcall 269 [.ref 61, .int (ι 1)] σ1) fun r3 σ3 => some (1, .int r3, σ3)) else bI (pcall 211 [.ref 61, .int (ι 1)] σ1) fun r4 σ4 => some (1, .int r4, σ4))
  (pcall 277 [.ref 61, .int x0] σ) := by
  show Le _ (den 277 0 0 [.ref 61, .int x0] [] σ)
  exact r_aload_n k_277_0 rfl rfl
    (r_iconst k_277_1 rfl rfl
    (r_putI k_277_2 rfl po_277 rfl rfl rfl
    (r_aload_n k_277_5 rfl rfl
    (r_iload_n k_277_6 rfl rfl
    (r_callI (q_virt (rest := []) (as := [.int x0]) k_277_7 po_277 rfl rfl rfl (rcvO rfl rfl rfl) rfl rfl) (lvq (j := 0) rfl (by decide +kernel)) rfl rfl (fun r1 σ1 h1 => r_if (tgt := 19) k_277_10 rfl rfl cop_ne
    (r_aload_n k_277_19 rfl rfl
    (r_getR k_277_20 rfl po_277 rfl rfl rfl rfl (gRat (eC rfl h1 (eI e)) (LayR.at hL (i := 77) rfl))
    (r_iload_n k_277_23 rfl rfl
    (r_gd fun g => r_iald k_277_24 rfl rfl g
    (r_bipush k_277_25 rfl rfl
    (r_icmp (tgt := 36) k_277_27 rfl rfl cop_ne
    (r_aload_n k_277_36 rfl rfl
    (r_callV (q_virt (rest := []) (as := []) k_277_37 po_277 rfl rfl rfl (rcvO rfl rfl rfl) rfl rfl) (lvq (j := 0) rfl (by decide +kernel)) rfl rfl (fun _ σ2 h2 => r_aload_n k_277_40 rfl rfl
    (r_getR k_277_41 rfl po_277 rfl rfl rfl rfl (gRat (eC rfl h2 (eC rfl h1 (eI e))) (LayR.at hL (i := 77) rfl))
    (r_iload_n k_277_44 rfl rfl
    (r_dup2 k_277_45 rfl rfl rfl
    (r_gd fun g => r_iald k_277_46 rfl rfl g
    (r_iconst k_277_47 rfl rfl
    (r_iadd k_277_48 rfl
    (r_gd fun g => r_iast k_277_49 rfl rfl g
    (r_aload_n k_277_50 rfl rfl
    (r_getR k_277_51 rfl po_277 rfl rfl rfl rfl (gRat (eI (eC rfl h2 (eC rfl h1 (eI e)))) (LayR.at hL (i := 77) rfl))
    (r_iload_n k_277_54 rfl rfl
    (r_gd fun g => r_iald k_277_55 rfl rfl g
    (r_ret k_277_56 rfl rfl)))))))))))))))
    (r_aload_n k_277_30 rfl rfl
    (r_iconst k_277_31 rfl rfl
    (r_callI (q_virt (rest := []) (as := [.int (ι 1)]) k_277_32 po_277 rfl rfl rfl (rcvO rfl rfl rfl) rfl rfl) (lvq (j := 0) rfl (by decide +kernel)) rfl rfl (fun r3 σ3 h3 => r_ret k_277_35 rfl rfl))))))))))
    (r_aload_n k_277_13 rfl rfl
    (r_iconst k_277_14 rfl rfl
    (r_callI (q_virt (rest := []) (as := [.int (ι 1)]) k_277_15 po_277 rfl rfl rfl (rcvO rfl rfl rfl) rfl rfl) (lvq (j := 0) rfl (by decide +kernel)) rfl rfl (fun r4 σ4 h4 => r_ret k_277_18 rfl rfl))))))))))
/-! ===== 278 HedgeWantsModel.mend ===== -/
theorem k_278_0 : cd 278 0 = some (.aload_n 0, 1) := by decide +kernel
theorem k_278_1 : cd 278 1 = some (.iconst 0, 1) := by decide +kernel
theorem k_278_2 : cd 278 2 = some (.putfield 145, 3) := by decide +kernel
theorem k_278_5 : cd 278 5 = some (.aload_n 0, 1) := by decide +kernel
theorem k_278_6 : cd 278 6 = some (.iload_n 1, 1) := by decide +kernel
theorem k_278_7 : cd 278 7 = some (.invokevirtual 396, 3) := by decide +kernel
theorem k_278_10 : cd 278 10 = some (.ifCond .ne 9, 3) := by decide +kernel
theorem k_278_13 : cd 278 13 = some (.aload_n 0, 1) := by decide +kernel
theorem k_278_14 : cd 278 14 = some (.iconst 1, 1) := by decide +kernel
theorem k_278_15 : cd 278 15 = some (.invokevirtual 290, 3) := by decide +kernel
theorem k_278_18 : cd 278 18 = some (.ireturn, 1) := by decide +kernel
theorem k_278_19 : cd 278 19 = some (.aload_n 0, 1) := by decide +kernel
theorem k_278_20 : cd 278 20 = some (.getfield 80, 3) := by decide +kernel
theorem k_278_23 : cd 278 23 = some (.iload_n 1, 1) := by decide +kernel
theorem k_278_24 : cd 278 24 = some (.iaload, 1) := by decide +kernel
theorem k_278_25 : cd 278 25 = some (.istore_n 2, 1) := by decide +kernel
theorem k_278_26 : cd 278 26 = some (.iload_n 2, 1) := by decide +kernel
theorem k_278_27 : cd 278 27 = some (.ifCond .ne 9, 3) := by decide +kernel
theorem k_278_30 : cd 278 30 = some (.aload_n 0, 1) := by decide +kernel
theorem k_278_31 : cd 278 31 = some (.iconst 1, 1) := by decide +kernel
theorem k_278_32 : cd 278 32 = some (.invokevirtual 408, 3) := by decide +kernel
theorem k_278_35 : cd 278 35 = some (.ireturn, 1) := by decide +kernel
theorem k_278_36 : cd 278 36 = some (.aload_n 0, 1) := by decide +kernel
theorem k_278_37 : cd 278 37 = some (.invokevirtual 411, 3) := by decide +kernel
theorem k_278_40 : cd 278 40 = some (.aload_n 0, 1) := by decide +kernel
theorem k_278_41 : cd 278 41 = some (.getfield 80, 3) := by decide +kernel
theorem k_278_44 : cd 278 44 = some (.iload_n 1, 1) := by decide +kernel
theorem k_278_45 : cd 278 45 = some (.iconst 0, 1) := by decide +kernel
theorem k_278_46 : cd 278 46 = some (.iastore, 1) := by decide +kernel
theorem k_278_47 : cd 278 47 = some (.iload_n 2, 1) := by decide +kernel
theorem k_278_48 : cd 278 48 = some (.ireturn, 1) := by decide +kernel
theorem po_278 : po 278 = 9 := rfl
theorem M_278  {x0 : Int32} {σ : pS} {ρ : Nat → Nat → Option Nat} (e : gR σ = ρ) (hL : LayR ρ) : Le
  (bI (pcall 264 [.ref 61, .int x0] (sI σ 61 4 (ι 0))) fun r1 σ1 => if ¬ r1 = (ι 0) then gd (inb x0 12) (if ¬ (gI σ1 76 (ix x0)) = (ι 0) then bV (pcall 270 [.ref 61] σ1) fun σ2 => gd (inb x0 12) (some (1, .int (gI σ1 76 (ix x0)), (sI σ2 76 (ix x0) (ι 0)))) else bI (pcall 269 [.ref 61, .int (ι 1)] σ1) fun r3 σ3 => some (1, .int r3, σ3)) else bI (pcall 211 [.ref 61, .int (ι 1)] σ1) fun r4 σ4 => some (1, .int r4, σ4))
  (pcall 278 [.ref 61, .int x0] σ) := by
  show Le _ (den 278 0 0 [.ref 61, .int x0, .retAddr 0] [] σ)
  exact r_aload_n k_278_0 rfl rfl
    (r_iconst k_278_1 rfl rfl
    (r_putI k_278_2 rfl po_278 rfl rfl rfl
    (r_aload_n k_278_5 rfl rfl
    (r_iload_n k_278_6 rfl rfl
    (r_callI (q_virt (rest := []) (as := [.int x0]) k_278_7 po_278 rfl rfl rfl (rcvO rfl rfl rfl) rfl rfl) (lvq (j := 0) rfl (by decide +kernel)) rfl rfl (fun r1 σ1 h1 => r_if (tgt := 19) k_278_10 rfl rfl cop_ne
    (r_aload_n k_278_19 rfl rfl
    (r_getR k_278_20 rfl po_278 rfl rfl rfl rfl (gRat (eC rfl h1 (eI e)) (LayR.at hL (i := 77) rfl))
    (r_iload_n k_278_23 rfl rfl
    (r_gd fun g => r_iald k_278_24 rfl rfl g
    (r_istore_n k_278_25 rfl rfl rfl
    (r_iload_n k_278_26 rfl rfl
    (r_if (tgt := 36) k_278_27 rfl rfl cop_ne
    (r_aload_n k_278_36 rfl rfl
    (r_callV (q_virt (rest := []) (as := []) k_278_37 po_278 rfl rfl rfl (rcvO rfl rfl rfl) rfl rfl) (lvq (j := 0) rfl (by decide +kernel)) rfl rfl (fun _ σ2 h2 => r_aload_n k_278_40 rfl rfl
    (r_getR k_278_41 rfl po_278 rfl rfl rfl rfl (gRat (eC rfl h2 (eC rfl h1 (eI e))) (LayR.at hL (i := 77) rfl))
    (r_iload_n k_278_44 rfl rfl
    (r_iconst k_278_45 rfl rfl
    (r_gd fun g => r_iast k_278_46 rfl rfl g
    (r_iload_n k_278_47 rfl rfl
    (r_ret k_278_48 rfl rfl)))))))))
    (r_aload_n k_278_30 rfl rfl
    (r_iconst k_278_31 rfl rfl
    (r_callI (q_virt (rest := []) (as := [.int (ι 1)]) k_278_32 po_278 rfl rfl rfl (rcvO rfl rfl rfl) rfl rfl) (lvq (j := 0) rfl (by decide +kernel)) rfl rfl (fun r3 σ3 h3 => r_ret k_278_35 rfl rfl)))))))))))
    (r_aload_n k_278_13 rfl rfl
    (r_iconst k_278_14 rfl rfl
    (r_callI (q_virt (rest := []) (as := [.int (ι 1)]) k_278_15 po_278 rfl rfl rfl (rcvO rfl rfl rfl) rfl rfl) (lvq (j := 0) rfl (by decide +kernel)) rfl rfl (fun r4 σ4 h4 => r_ret k_278_18 rfl rfl))))))))))
/-! ===== 279 HedgeWantsModel.give ===== -/
theorem k_279_0 : cd 279 0 = some (.aload_n 0, 1) := by decide +kernel
theorem k_279_1 : cd 279 1 = some (.iconst 0, 1) := by decide +kernel
theorem k_279_2 : cd 279 2 = some (.putfield 145, 3) := by decide +kernel
theorem k_279_5 : cd 279 5 = some (.aload_n 0, 1) := by decide +kernel
theorem k_279_6 : cd 279 6 = some (.iload_n 1, 1) := by decide +kernel
theorem k_279_7 : cd 279 7 = some (.invokevirtual 396, 3) := by decide +kernel
theorem k_279_10 : cd 279 10 = some (.ifCond .eq 11, 3) := by decide +kernel
theorem k_279_13 : cd 279 13 = some (.aload_n 0, 1) := by decide +kernel
theorem k_279_14 : cd 279 14 = some (.iload_n 2, 1) := by decide +kernel
theorem k_279_15 : cd 279 15 = some (.invokevirtual 390, 3) := by decide +kernel
theorem k_279_18 : cd 279 18 = some (.ifCond .ne 9, 3) := by decide +kernel
theorem k_279_21 : cd 279 21 = some (.aload_n 0, 1) := by decide +kernel
theorem k_279_22 : cd 279 22 = some (.iconst 1, 1) := by decide +kernel
theorem k_279_23 : cd 279 23 = some (.invokevirtual 290, 3) := by decide +kernel
theorem k_279_26 : cd 279 26 = some (.ireturn, 1) := by decide +kernel
theorem k_279_27 : cd 279 27 = some (.aload_n 0, 1) := by decide +kernel
theorem k_279_28 : cd 279 28 = some (.getfield 77, 3) := by decide +kernel
theorem k_279_31 : cd 279 31 = some (.iload_n 1, 1) := by decide +kernel
theorem k_279_32 : cd 279 32 = some (.iaload, 1) := by decide +kernel
theorem k_279_33 : cd 279 33 = some (.istore_n 3, 1) := by decide +kernel
theorem k_279_34 : cd 279 34 = some (.iload_n 3, 1) := by decide +kernel
theorem k_279_35 : cd 279 35 = some (.iload_n 2, 1) := by decide +kernel
theorem k_279_36 : cd 279 36 = some (.if_icmp .ne 9, 3) := by decide +kernel
theorem k_279_39 : cd 279 39 = some (.aload_n 0, 1) := by decide +kernel
theorem k_279_40 : cd 279 40 = some (.iconst 1, 1) := by decide +kernel
theorem k_279_41 : cd 279 41 = some (.invokevirtual 408, 3) := by decide +kernel
theorem k_279_44 : cd 279 44 = some (.ireturn, 1) := by decide +kernel
theorem k_279_45 : cd 279 45 = some (.aload_n 0, 1) := by decide +kernel
theorem k_279_46 : cd 279 46 = some (.invokevirtual 411, 3) := by decide +kernel
theorem k_279_49 : cd 279 49 = some (.aload_n 0, 1) := by decide +kernel
theorem k_279_50 : cd 279 50 = some (.getfield 77, 3) := by decide +kernel
theorem k_279_53 : cd 279 53 = some (.iload_n 1, 1) := by decide +kernel
theorem k_279_54 : cd 279 54 = some (.iload_n 2, 1) := by decide +kernel
theorem k_279_55 : cd 279 55 = some (.iastore, 1) := by decide +kernel
theorem k_279_56 : cd 279 56 = some (.iload_n 3, 1) := by decide +kernel
theorem k_279_57 : cd 279 57 = some (.ireturn, 1) := by decide +kernel
theorem po_279 : po 279 = 9 := rfl
theorem M_279  {x0 : Int32} {x1 : Int32} {σ : pS} {ρ : Nat → Nat → Option Nat} (e : gR σ = ρ) (hL : LayR ρ) : Le
  (bI (pcall 264 [.ref 61, .int x0] (sI σ 61 4 (ι 0))) fun r1 σ1 => if r1 = (ι 0) then bI (pcall 211 [.ref 61, .int (ι 1)] σ1) fun r2 σ2 => some (1, .int r2, σ2) else bI (pcall 260 [.ref 61, .int x1] σ1) fun r3 σ3 => if ¬ r3 = (ι 0) then gd (inb x0 12) (if ¬ (gI σ3 75 (ix x0)) = x1 then bV (pcall 270 [.ref 61] σ3) fun σ4 => gd (inb x0 12) (some (1, .int (gI σ3 75 (ix x0)), (sI σ4 75 (ix x0) x1))) else bI (pcall 269 [.ref 61, .int (ι 1)] σ3) fun r5 σ5 => some (1, .int r5, σ5)) else bI (pcall 211 [.ref 61, .int (ι 1)] σ3) fun r6 σ6 => some (1, .int r6, σ6))
  (pcall 279 [.ref 61, .int x0, .int x1] σ) := by
  show Le _ (den 279 0 0 [.ref 61, .int x0, .int x1, .retAddr 0] [] σ)
  exact r_aload_n k_279_0 rfl rfl
    (r_iconst k_279_1 rfl rfl
    (r_putI k_279_2 rfl po_279 rfl rfl rfl
    (r_aload_n k_279_5 rfl rfl
    (r_iload_n k_279_6 rfl rfl
    (r_callI (q_virt (rest := []) (as := [.int x0]) k_279_7 po_279 rfl rfl rfl (rcvO rfl rfl rfl) rfl rfl) (lvq (j := 0) rfl (by decide +kernel)) rfl rfl (fun r1 σ1 h1 => r_if (tgt := 21) k_279_10 rfl rfl cop_eq
    (r_aload_n k_279_21 rfl rfl
    (r_iconst k_279_22 rfl rfl
    (r_callI (q_virt (rest := []) (as := [.int (ι 1)]) k_279_23 po_279 rfl rfl rfl (rcvO rfl rfl rfl) rfl rfl) (lvq (j := 0) rfl (by decide +kernel)) rfl rfl (fun r2 σ2 h2 => r_ret k_279_26 rfl rfl))))
    (r_aload_n k_279_13 rfl rfl
    (r_iload_n k_279_14 rfl rfl
    (r_callI (q_virt (rest := []) (as := [.int x1]) k_279_15 po_279 rfl rfl rfl (rcvO rfl rfl rfl) rfl rfl) (lvq (j := 0) rfl (by decide +kernel)) rfl rfl (fun r3 σ3 h3 => r_if (tgt := 27) k_279_18 rfl rfl cop_ne
    (r_aload_n k_279_27 rfl rfl
    (r_getR k_279_28 rfl po_279 rfl rfl rfl rfl (gRat (eC rfl h3 (eC rfl h1 (eI e))) (LayR.at hL (i := 76) rfl))
    (r_iload_n k_279_31 rfl rfl
    (r_gd fun g => r_iald k_279_32 rfl rfl g
    (r_istore_n k_279_33 rfl rfl rfl
    (r_iload_n k_279_34 rfl rfl
    (r_iload_n k_279_35 rfl rfl
    (r_icmp (tgt := 45) k_279_36 rfl rfl cop_ne
    (r_aload_n k_279_45 rfl rfl
    (r_callV (q_virt (rest := []) (as := []) k_279_46 po_279 rfl rfl rfl (rcvO rfl rfl rfl) rfl rfl) (lvq (j := 0) rfl (by decide +kernel)) rfl rfl (fun _ σ4 h4 => r_aload_n k_279_49 rfl rfl
    (r_getR k_279_50 rfl po_279 rfl rfl rfl rfl (gRat (eC rfl h4 (eC rfl h3 (eC rfl h1 (eI e)))) (LayR.at hL (i := 76) rfl))
    (r_iload_n k_279_53 rfl rfl
    (r_iload_n k_279_54 rfl rfl
    (r_gd fun g => r_iast k_279_55 rfl rfl g
    (r_iload_n k_279_56 rfl rfl
    (r_ret k_279_57 rfl rfl)))))))))
    (r_aload_n k_279_39 rfl rfl
    (r_iconst k_279_40 rfl rfl
    (r_callI (q_virt (rest := []) (as := [.int (ι 1)]) k_279_41 po_279 rfl rfl rfl (rcvO rfl rfl rfl) rfl rfl) (lvq (j := 0) rfl (by decide +kernel)) rfl rfl (fun r5 σ5 h5 => r_ret k_279_44 rfl rfl))))))))))))
    (r_aload_n k_279_21 rfl rfl
    (r_iconst k_279_22 rfl rfl
    (r_callI (q_virt (rest := []) (as := [.int (ι 1)]) k_279_23 po_279 rfl rfl rfl (rcvO rfl rfl rfl) rfl rfl) (lvq (j := 0) rfl (by decide +kernel)) rfl rfl (fun r6 σ6 h6 => r_ret k_279_26 rfl rfl))))))))))))))
/-! ===== 280 HedgeWantsModel.taste ===== -/
theorem k_280_0 : cd 280 0 = some (.aload_n 0, 1) := by decide +kernel
theorem k_280_1 : cd 280 1 = some (.iconst 0, 1) := by decide +kernel
theorem k_280_2 : cd 280 2 = some (.putfield 145, 3) := by decide +kernel
theorem k_280_5 : cd 280 5 = some (.aload_n 0, 1) := by decide +kernel
theorem k_280_6 : cd 280 6 = some (.iload_n 1, 1) := by decide +kernel
theorem k_280_7 : cd 280 7 = some (.invokevirtual 390, 3) := by decide +kernel
theorem k_280_10 : cd 280 10 = some (.ifCond .eq 11, 3) := by decide +kernel
theorem k_280_13 : cd 280 13 = some (.aload_n 0, 1) := by decide +kernel
theorem k_280_14 : cd 280 14 = some (.iload_n 2, 1) := by decide +kernel
theorem k_280_15 : cd 280 15 = some (.invokevirtual 396, 3) := by decide +kernel
theorem k_280_18 : cd 280 18 = some (.ifCond .ne 9, 3) := by decide +kernel
theorem k_280_21 : cd 280 21 = some (.aload_n 0, 1) := by decide +kernel
theorem k_280_22 : cd 280 22 = some (.iconst 1, 1) := by decide +kernel
theorem k_280_23 : cd 280 23 = some (.invokevirtual 290, 3) := by decide +kernel
theorem k_280_26 : cd 280 26 = some (.ireturn, 1) := by decide +kernel
theorem k_280_27 : cd 280 27 = some (.aload_n 0, 1) := by decide +kernel
theorem k_280_28 : cd 280 28 = some (.iload_n 1, 1) := by decide +kernel
theorem k_280_29 : cd 280 29 = some (.iload_n 2, 1) := by decide +kernel
theorem k_280_30 : cd 280 30 = some (.invokevirtual 319, 3) := by decide +kernel
theorem k_280_33 : cd 280 33 = some (.istore 4, 2) := by decide +kernel
theorem k_280_35 : cd 280 35 = some (.iload_n 3, 1) := by decide +kernel
theorem k_280_36 : cd 280 36 = some (.i2l, 1) := by decide +kernel
theorem k_280_37 : cd 280 37 = some (.lconst 0, 1) := by decide +kernel
theorem k_280_38 : cd 280 38 = some (.ldc2_w 421, 3) := by decide +kernel
theorem k_280_41 : cd 280 41 = some (.invokestatic 148, 3) := by decide +kernel
theorem k_280_44 : cd 280 44 = some (.ifCond .eq 9, 3) := by decide +kernel
theorem k_280_47 : cd 280 47 = some (.iload_n 3, 1) := by decide +kernel
theorem k_280_48 : cd 280 48 = some (.iload 4, 2) := by decide +kernel
theorem k_280_50 : cd 280 50 = some (.if_icmp .ne 9, 3) := by decide +kernel
theorem k_280_53 : cd 280 53 = some (.aload_n 0, 1) := by decide +kernel
theorem k_280_54 : cd 280 54 = some (.iconst 1, 1) := by decide +kernel
theorem k_280_55 : cd 280 55 = some (.invokevirtual 408, 3) := by decide +kernel
theorem k_280_58 : cd 280 58 = some (.ireturn, 1) := by decide +kernel
theorem k_280_59 : cd 280 59 = some (.aload_n 0, 1) := by decide +kernel
theorem k_280_60 : cd 280 60 = some (.invokevirtual 411, 3) := by decide +kernel
theorem k_280_63 : cd 280 63 = some (.aload_n 0, 1) := by decide +kernel
theorem k_280_64 : cd 280 64 = some (.getfield 82, 3) := by decide +kernel
theorem k_280_67 : cd 280 67 = some (.bipush 12, 2) := by decide +kernel
theorem k_280_69 : cd 280 69 = some (.iload_n 1, 1) := by decide +kernel
theorem k_280_70 : cd 280 70 = some (.imul, 1) := by decide +kernel
theorem k_280_71 : cd 280 71 = some (.iload_n 2, 1) := by decide +kernel
theorem k_280_72 : cd 280 72 = some (.iadd, 1) := by decide +kernel
theorem k_280_73 : cd 280 73 = some (.iload_n 3, 1) := by decide +kernel
theorem k_280_74 : cd 280 74 = some (.iastore, 1) := by decide +kernel
theorem k_280_75 : cd 280 75 = some (.iload 4, 2) := by decide +kernel
theorem k_280_77 : cd 280 77 = some (.ireturn, 1) := by decide +kernel
theorem po_280 : po 280 = 9 := rfl
theorem M_280  {x0 : Int32} {x1 : Int32} {x2 : Int32} {σ : pS} {ρ : Nat → Nat → Option Nat} (e : gR σ = ρ) (hL : LayR ρ) : Le
  (bI (pcall 260 [.ref 61, .int x0] (sI σ 61 4 (ι 0))) fun r1 σ1 => if r1 = (ι 0) then bI (pcall 211 [.ref 61, .int (ι 1)] σ1) fun r2 σ2 => some (1, .int r2, σ2) else bI (pcall 264 [.ref 61, .int x1] σ1) fun r3 σ3 => if ¬ r3 = (ι 0) then bI (pcall 245 [.ref 61, .int x0, .int x1] σ3) fun r4 σ4 => bI (pcall 261 [.long x2.toInt64, .long (0 : Int64), .long (9 : Int64)] σ4) fun r5 σ5 => if r5 = (ι 0) then bI (pcall 269 [.ref 61, .int (ι 1)] σ5) fun r6 σ6 => some (1, .int r6, σ6) else if ¬ x2 = r4 then bV (pcall 270 [.ref 61] σ5) fun σ7 => gd (inb (((ι 12) * x0) + x1) 96) (some (1, .int r4, (sI σ7 77 (ix (((ι 12) * x0) + x1)) x2))) else bI (pcall 269 [.ref 61, .int (ι 1)] σ5) fun r8 σ8 => some (1, .int r8, σ8) else bI (pcall 211 [.ref 61, .int (ι 1)] σ3) fun r9 σ9 => some (1, .int r9, σ9))
  (pcall 280 [.ref 61, .int x0, .int x1, .int x2] σ) := by
  show Le _ (den 280 0 0 [.ref 61, .int x0, .int x1, .int x2, .retAddr 0] [] σ)
  exact r_aload_n k_280_0 rfl rfl
    (r_iconst k_280_1 rfl rfl
    (r_putI k_280_2 rfl po_280 rfl rfl rfl
    (r_aload_n k_280_5 rfl rfl
    (r_iload_n k_280_6 rfl rfl
    (r_callI (q_virt (rest := []) (as := [.int x0]) k_280_7 po_280 rfl rfl rfl (rcvO rfl rfl rfl) rfl rfl) (lvq (j := 0) rfl (by decide +kernel)) rfl rfl (fun r1 σ1 h1 => r_if (tgt := 21) k_280_10 rfl rfl cop_eq
    (r_aload_n k_280_21 rfl rfl
    (r_iconst k_280_22 rfl rfl
    (r_callI (q_virt (rest := []) (as := [.int (ι 1)]) k_280_23 po_280 rfl rfl rfl (rcvO rfl rfl rfl) rfl rfl) (lvq (j := 0) rfl (by decide +kernel)) rfl rfl (fun r2 σ2 h2 => r_ret k_280_26 rfl rfl))))
    (r_aload_n k_280_13 rfl rfl
    (r_iload_n k_280_14 rfl rfl
    (r_callI (q_virt (rest := []) (as := [.int x1]) k_280_15 po_280 rfl rfl rfl (rcvO rfl rfl rfl) rfl rfl) (lvq (j := 0) rfl (by decide +kernel)) rfl rfl (fun r3 σ3 h3 => r_if (tgt := 27) k_280_18 rfl rfl cop_ne
    (r_aload_n k_280_27 rfl rfl
    (r_iload_n k_280_28 rfl rfl
    (r_iload_n k_280_29 rfl rfl
    (r_callI (q_virt (rest := []) (as := [.int x0, .int x1]) k_280_30 po_280 rfl rfl rfl (rcvO rfl rfl rfl) rfl rfl) (lvq (j := 0) rfl (by decide +kernel)) rfl rfl (fun r4 σ4 h4 => r_istore k_280_33 rfl rfl rfl
    (r_iload_n k_280_35 rfl rfl
    (r_i2l k_280_36 rfl
    (r_lconst k_280_37 rfl rfl
    (r_ldc2 k_280_38 rfl po_280 rfl rfl
    (r_callI (q_stat (rest := []) (av := [.long x2.toInt64, .long (0 : Int64), .long (9 : Int64)]) k_280_41 po_280 rfl (by decide) rfl rfl rfl rfl) (lvq (j := 0) rfl (by decide +kernel)) rfl rfl (fun r5 σ5 h5 => r_if (tgt := 53) k_280_44 rfl rfl cop_eq
    (r_aload_n k_280_53 rfl rfl
    (r_iconst k_280_54 rfl rfl
    (r_callI (q_virt (rest := []) (as := [.int (ι 1)]) k_280_55 po_280 rfl rfl rfl (rcvO rfl rfl rfl) rfl rfl) (lvq (j := 0) rfl (by decide +kernel)) rfl rfl (fun r6 σ6 h6 => r_ret k_280_58 rfl rfl))))
    (r_iload_n k_280_47 rfl rfl
    (r_iload k_280_48 rfl rfl
    (r_icmp (tgt := 59) k_280_50 rfl rfl cop_ne
    (r_aload_n k_280_59 rfl rfl
    (r_callV (q_virt (rest := []) (as := []) k_280_60 po_280 rfl rfl rfl (rcvO rfl rfl rfl) rfl rfl) (lvq (j := 0) rfl (by decide +kernel)) rfl rfl (fun _ σ7 h7 => r_aload_n k_280_63 rfl rfl
    (r_getR k_280_64 rfl po_280 rfl rfl rfl rfl (gRat (eC rfl h7 (eC rfl h5 (eC rfl h4 (eC rfl h3 (eC rfl h1 (eI e)))))) (LayR.at hL (i := 78) rfl))
    (r_bipush k_280_67 rfl rfl
    (r_iload_n k_280_69 rfl rfl
    (r_imul k_280_70 rfl
    (r_iload_n k_280_71 rfl rfl
    (r_iadd k_280_72 rfl
    (r_iload_n k_280_73 rfl rfl
    (r_gd fun g => r_iast k_280_74 rfl rfl g
    (r_iload k_280_75 rfl rfl
    (r_ret k_280_77 rfl rfl)))))))))))))
    (r_aload_n k_280_53 rfl rfl
    (r_iconst k_280_54 rfl rfl
    (r_callI (q_virt (rest := []) (as := [.int (ι 1)]) k_280_55 po_280 rfl rfl rfl (rcvO rfl rfl rfl) rfl rfl) (lvq (j := 0) rfl (by decide +kernel)) rfl rfl (fun r8 σ8 h8 => r_ret k_280_58 rfl rfl))))))))))))))))))
    (r_aload_n k_280_21 rfl rfl
    (r_iconst k_280_22 rfl rfl
    (r_callI (q_virt (rest := []) (as := [.int (ι 1)]) k_280_23 po_280 rfl rfl rfl (rcvO rfl rfl rfl) rfl rfl) (lvq (j := 0) rfl (by decide +kernel)) rfl rfl (fun r9 σ9 h9 => r_ret k_280_26 rfl rfl))))))))))))))
/-! ===== 281 HedgeWantsModel.hedge ===== -/
theorem k_281_0 : cd 281 0 = some (.aload_n 0, 1) := by decide +kernel
theorem k_281_1 : cd 281 1 = some (.iconst 0, 1) := by decide +kernel
theorem k_281_2 : cd 281 2 = some (.putfield 145, 3) := by decide +kernel
theorem k_281_5 : cd 281 5 = some (.aload_n 0, 1) := by decide +kernel
theorem k_281_6 : cd 281 6 = some (.iload_n 1, 1) := by decide +kernel
theorem k_281_7 : cd 281 7 = some (.invokevirtual 390, 3) := by decide +kernel
theorem k_281_10 : cd 281 10 = some (.ifCond .eq 11, 3) := by decide +kernel
theorem k_281_13 : cd 281 13 = some (.aload_n 0, 1) := by decide +kernel
theorem k_281_14 : cd 281 14 = some (.iload_n 2, 1) := by decide +kernel
theorem k_281_15 : cd 281 15 = some (.invokevirtual 390, 3) := by decide +kernel
theorem k_281_18 : cd 281 18 = some (.ifCond .ne 9, 3) := by decide +kernel
theorem k_281_21 : cd 281 21 = some (.aload_n 0, 1) := by decide +kernel
theorem k_281_22 : cd 281 22 = some (.iconst 1, 1) := by decide +kernel
theorem k_281_23 : cd 281 23 = some (.invokevirtual 423, 3) := by decide +kernel
theorem k_281_26 : cd 281 26 = some (.ireturn, 1) := by decide +kernel
theorem k_281_27 : cd 281 27 = some (.iload_n 1, 1) := by decide +kernel
theorem k_281_28 : cd 281 28 = some (.iload_n 2, 1) := by decide +kernel
theorem k_281_29 : cd 281 29 = some (.if_icmp .eq 17, 3) := by decide +kernel
theorem k_281_32 : cd 281 32 = some (.aload_n 0, 1) := by decide +kernel
theorem k_281_33 : cd 281 33 = some (.getfield 84, 3) := by decide +kernel
theorem k_281_36 : cd 281 36 = some (.iload_n 1, 1) := by decide +kernel
theorem k_281_37 : cd 281 37 = some (.iaload, 1) := by decide +kernel
theorem k_281_38 : cd 281 38 = some (.iload_n 2, 1) := by decide +kernel
theorem k_281_39 : cd 281 39 = some (.invokestatic 269, 3) := by decide +kernel
theorem k_281_42 : cd 281 42 = some (.iload_n 3, 1) := by decide +kernel
theorem k_281_43 : cd 281 43 = some (.if_icmp .ne 15, 3) := by decide +kernel
theorem k_281_46 : cd 281 46 = some (.aload_n 0, 1) := by decide +kernel
theorem k_281_47 : cd 281 47 = some (.getfield 67, 3) := by decide +kernel
theorem k_281_50 : cd 281 50 = some (.iconst 1, 1) := by decide +kernel
theorem k_281_51 : cd 281 51 = some (.dup2, 1) := by decide +kernel
theorem k_281_52 : cd 281 52 = some (.iaload, 1) := by decide +kernel
theorem k_281_53 : cd 281 53 = some (.iconst 1, 1) := by decide +kernel
theorem k_281_54 : cd 281 54 = some (.iadd, 1) := by decide +kernel
theorem k_281_55 : cd 281 55 = some (.iastore, 1) := by decide +kernel
theorem k_281_56 : cd 281 56 = some (.iconst 0, 1) := by decide +kernel
theorem k_281_57 : cd 281 57 = some (.ireturn, 1) := by decide +kernel
theorem k_281_58 : cd 281 58 = some (.aload_n 0, 1) := by decide +kernel
theorem k_281_59 : cd 281 59 = some (.invokevirtual 411, 3) := by decide +kernel
theorem k_281_62 : cd 281 62 = some (.aload_n 0, 1) := by decide +kernel
theorem k_281_63 : cd 281 63 = some (.getfield 84, 3) := by decide +kernel
theorem k_281_66 : cd 281 66 = some (.iload_n 1, 1) := by decide +kernel
theorem k_281_67 : cd 281 67 = some (.dup2, 1) := by decide +kernel
theorem k_281_68 : cd 281 68 = some (.iaload, 1) := by decide +kernel
theorem k_281_69 : cd 281 69 = some (.iconst 1, 1) := by decide +kernel
theorem k_281_70 : cd 281 70 = some (.iload_n 2, 1) := by decide +kernel
theorem k_281_71 : cd 281 71 = some (.ishl, 1) := by decide +kernel
theorem k_281_72 : cd 281 72 = some (.ixor, 1) := by decide +kernel
theorem k_281_73 : cd 281 73 = some (.iastore, 1) := by decide +kernel
theorem k_281_74 : cd 281 74 = some (.aload_n 0, 1) := by decide +kernel
theorem k_281_75 : cd 281 75 = some (.getfield 84, 3) := by decide +kernel
theorem k_281_78 : cd 281 78 = some (.iload_n 2, 1) := by decide +kernel
theorem k_281_79 : cd 281 79 = some (.dup2, 1) := by decide +kernel
theorem k_281_80 : cd 281 80 = some (.iaload, 1) := by decide +kernel
theorem k_281_81 : cd 281 81 = some (.iconst 1, 1) := by decide +kernel
theorem k_281_82 : cd 281 82 = some (.iload_n 1, 1) := by decide +kernel
theorem k_281_83 : cd 281 83 = some (.ishl, 1) := by decide +kernel
theorem k_281_84 : cd 281 84 = some (.ixor, 1) := by decide +kernel
theorem k_281_85 : cd 281 85 = some (.iastore, 1) := by decide +kernel
theorem k_281_86 : cd 281 86 = some (.iconst 1, 1) := by decide +kernel
theorem k_281_87 : cd 281 87 = some (.ireturn, 1) := by decide +kernel
theorem po_281 : po 281 = 9 := rfl
theorem M_281  {x0 : Int32} {x1 : Int32} {x2 : Int32} {σ : pS} {ρ : Nat → Nat → Option Nat} (e : gR σ = ρ) (hL : LayR ρ) : Le
  (bI (pcall 260 [.ref 61, .int x0] (sI σ 61 4 (ι 0))) fun r1 σ1 => if r1 = (ι 0) then bI (pcall 282 [.ref 61, .int (ι 1)] σ1) fun r2 σ2 => gd (narrow .boolean (.int r2) = .int r2) (some (1, .int r2, σ2)) else bI (pcall 260 [.ref 61, .int x1] σ1) fun r3 σ3 => if ¬ r3 = (ι 0) then if x0 = x1 then some (1, .int (ι 0), (sI σ3 73 1 ((gI σ3 73 1) + (ι 1)))) else gd (inb x0 8) (bI (pcall 236 [.int (gI σ3 78 (ix x0)), .int x1] σ3) fun r4 σ4 => if ¬ r4 = x2 then bV (pcall 270 [.ref 61] σ4) fun σ5 => gd (inb x0 8) (gd (inb x0 8) (gd (inb x1 8) (gd (inb x1 8) (some (1, .int (ι 1), (sI (sI σ5 78 (ix x0) ((gI σ5 78 (ix x0)) ^^^ (shl' (ι 1) x1))) 78 (ix x1) ((gI (sI σ5 78 (ix x0) ((gI σ5 78 (ix x0)) ^^^ (shl' (ι 1) x1))) 78 (ix x1)) ^^^ (shl' (ι 1) x0)))))))) else some (1, .int (ι 0), (sI σ4 73 1 ((gI σ4 73 1) + (ι 1))))) else bI (pcall 282 [.ref 61, .int (ι 1)] σ3) fun r6 σ6 => gd (narrow .boolean (.int r6) = .int r6) (some (1, .int r6, σ6)))
  (pcall 281 [.ref 61, .int x0, .int x1, .int x2] σ) := by
  show Le _ (den 281 0 0 [.ref 61, .int x0, .int x1, .int x2] [] σ)
  exact r_aload_n k_281_0 rfl rfl
    (r_iconst k_281_1 rfl rfl
    (r_putI k_281_2 rfl po_281 rfl rfl rfl
    (r_aload_n k_281_5 rfl rfl
    (r_iload_n k_281_6 rfl rfl
    (r_callI (q_virt (rest := []) (as := [.int x0]) k_281_7 po_281 rfl rfl rfl (rcvO rfl rfl rfl) rfl rfl) (lvq (j := 0) rfl (by decide +kernel)) rfl rfl (fun r1 σ1 h1 => r_if (tgt := 21) k_281_10 rfl rfl cop_eq
    (r_aload_n k_281_21 rfl rfl
    (r_iconst k_281_22 rfl rfl
    (r_callI (q_virt (rest := []) (as := [.int (ι 1)]) k_281_23 po_281 rfl rfl rfl (rcvO rfl rfl rfl) rfl rfl) (lvq (j := 0) rfl (by decide +kernel)) rfl rfl (fun r2 σ2 h2 => r_gd fun g => r_ret k_281_26 rfl g))))
    (r_aload_n k_281_13 rfl rfl
    (r_iload_n k_281_14 rfl rfl
    (r_callI (q_virt (rest := []) (as := [.int x1]) k_281_15 po_281 rfl rfl rfl (rcvO rfl rfl rfl) rfl rfl) (lvq (j := 0) rfl (by decide +kernel)) rfl rfl (fun r3 σ3 h3 => r_if (tgt := 27) k_281_18 rfl rfl cop_ne
    (r_iload_n k_281_27 rfl rfl
    (r_iload_n k_281_28 rfl rfl
    (r_icmp (tgt := 46) k_281_29 rfl rfl cop_eq
    (r_aload_n k_281_46 rfl rfl
    (r_getR k_281_47 rfl po_281 rfl rfl rfl rfl (gRat (eC rfl h3 (eC rfl h1 (eI e))) (LayR.at hL (i := 74) rfl))
    (r_iconst k_281_50 rfl rfl
    (r_dup2 k_281_51 rfl rfl rfl
    (r_iald k_281_52 rfl rfl (by decide)
    (r_iconst k_281_53 rfl rfl
    (r_iadd k_281_54 rfl
    (r_iast k_281_55 rfl rfl (by decide)
    (r_iconst k_281_56 rfl rfl
    (r_ret k_281_57 rfl rfl))))))))))
    (r_aload_n k_281_32 rfl rfl
    (r_getR k_281_33 rfl po_281 rfl rfl rfl rfl (gRat (eC rfl h3 (eC rfl h1 (eI e))) (LayR.at hL (i := 79) rfl))
    (r_iload_n k_281_36 rfl rfl
    (r_gd fun g => r_iald k_281_37 rfl rfl g
    (r_iload_n k_281_38 rfl rfl
    (r_callI (q_stat (rest := []) (av := [.int (gI σ3 78 (ix x0)), .int x1]) k_281_39 po_281 rfl (by decide) rfl rfl rfl rfl) (lvq (j := 0) rfl (by decide +kernel)) rfl rfl (fun r4 σ4 h4 => r_iload_n k_281_42 rfl rfl
    (r_icmp (tgt := 58) k_281_43 rfl rfl cop_ne
    (r_aload_n k_281_58 rfl rfl
    (r_callV (q_virt (rest := []) (as := []) k_281_59 po_281 rfl rfl rfl (rcvO rfl rfl rfl) rfl rfl) (lvq (j := 0) rfl (by decide +kernel)) rfl rfl (fun _ σ5 h5 => r_aload_n k_281_62 rfl rfl
    (r_getR k_281_63 rfl po_281 rfl rfl rfl rfl (gRat (eC rfl h5 (eC rfl h4 (eC rfl h3 (eC rfl h1 (eI e))))) (LayR.at hL (i := 79) rfl))
    (r_iload_n k_281_66 rfl rfl
    (r_dup2 k_281_67 rfl rfl rfl
    (r_gd fun g => r_iald k_281_68 rfl rfl g
    (r_iconst k_281_69 rfl rfl
    (r_iload_n k_281_70 rfl rfl
    (r_ishl k_281_71 rfl
    (r_ixor k_281_72 rfl
    (r_gd fun g => r_iast k_281_73 rfl rfl g
    (r_aload_n k_281_74 rfl rfl
    (r_getR k_281_75 rfl po_281 rfl rfl rfl rfl (gRat (eI (eC rfl h5 (eC rfl h4 (eC rfl h3 (eC rfl h1 (eI e)))))) (LayR.at hL (i := 79) rfl))
    (r_iload_n k_281_78 rfl rfl
    (r_dup2 k_281_79 rfl rfl rfl
    (r_gd fun g => r_iald k_281_80 rfl rfl g
    (r_iconst k_281_81 rfl rfl
    (r_iload_n k_281_82 rfl rfl
    (r_ishl k_281_83 rfl
    (r_ixor k_281_84 rfl
    (r_gd fun g => r_iast k_281_85 rfl rfl g
    (r_iconst k_281_86 rfl rfl
    (r_ret k_281_87 rfl rfl))))))))))))))))))))))))
    (r_aload_n k_281_46 rfl rfl
    (r_getR k_281_47 rfl po_281 rfl rfl rfl rfl (gRat (eC rfl h4 (eC rfl h3 (eC rfl h1 (eI e)))) (LayR.at hL (i := 74) rfl))
    (r_iconst k_281_50 rfl rfl
    (r_dup2 k_281_51 rfl rfl rfl
    (r_iald k_281_52 rfl rfl (by decide)
    (r_iconst k_281_53 rfl rfl
    (r_iadd k_281_54 rfl
    (r_iast k_281_55 rfl rfl (by decide)
    (r_iconst k_281_56 rfl rfl
    (r_ret k_281_57 rfl rfl)))))))))))))))))))))
    (r_aload_n k_281_21 rfl rfl
    (r_iconst k_281_22 rfl rfl
    (r_callI (q_virt (rest := []) (as := [.int (ι 1)]) k_281_23 po_281 rfl rfl rfl (rcvO rfl rfl rfl) rfl rfl) (lvq (j := 0) rfl (by decide +kernel)) rfl rfl (fun r6 σ6 h6 => r_gd fun g => r_ret k_281_26 rfl g))))))))))))))
/-! ===== 282 HedgeWantsModel.failing ===== -/
theorem k_282_0 : cd 282 0 = some (.aload_n 0, 1) := by decide +kernel
theorem k_282_1 : cd 282 1 = some (.iload_n 1, 1) := by decide +kernel
theorem k_282_2 : cd 282 2 = some (.putfield 145, 3) := by decide +kernel
theorem k_282_5 : cd 282 5 = some (.iconst 0, 1) := by decide +kernel
theorem k_282_6 : cd 282 6 = some (.ireturn, 1) := by decide +kernel
theorem po_282 : po 282 = 9 := rfl
theorem M_282  {x0 : Int32} {σ : pS} {ρ : Nat → Nat → Option Nat} (e : gR σ = ρ) (hL : LayR ρ) : Le
  (some (1, .int (ι 0), (sI σ 61 4 x0)))
  (pcall 282 [.ref 61, .int x0] σ) := by
  show Le _ (den 282 0 0 [.ref 61, .int x0] [] σ)
  exact r_aload_n k_282_0 rfl rfl
    (r_iload_n k_282_1 rfl rfl
    (r_putI k_282_2 rfl po_282 rfl rfl rfl
    (r_iconst k_282_5 rfl rfl
    (r_ret k_282_6 rfl rfl))))
/-! ===== 283 HedgeWantsModel.undo ===== -/
theorem k_283_0 : cd 283 0 = some (.aload_n 0, 1) := by decide +kernel
theorem k_283_1 : cd 283 1 = some (.iconst 0, 1) := by decide +kernel
theorem k_283_2 : cd 283 2 = some (.putfield 145, 3) := by decide +kernel
theorem k_283_5 : cd 283 5 = some (.aload_n 0, 1) := by decide +kernel
theorem k_283_6 : cd 283 6 = some (.getfield 306, 3) := by decide +kernel
theorem k_283_9 : cd 283 9 = some (.ifCond .ne 5, 3) := by decide +kernel
theorem k_283_12 : cd 283 12 = some (.iconst (-1), 1) := by decide +kernel
theorem k_283_13 : cd 283 13 = some (.ireturn, 1) := by decide +kernel
theorem k_283_14 : cd 283 14 = some (.aload_n 0, 1) := by decide +kernel
theorem k_283_15 : cd 283 15 = some (.dup, 1) := by decide +kernel
theorem k_283_16 : cd 283 16 = some (.getfield 306, 3) := by decide +kernel
theorem k_283_19 : cd 283 19 = some (.iconst 1, 1) := by decide +kernel
theorem k_283_20 : cd 283 20 = some (.isub, 1) := by decide +kernel
theorem k_283_21 : cd 283 21 = some (.putfield 306, 3) := by decide +kernel
theorem k_283_24 : cd 283 24 = some (.aload_n 0, 1) := by decide +kernel
theorem k_283_25 : cd 283 25 = some (.aload_n 0, 1) := by decide +kernel
theorem k_283_26 : cd 283 26 = some (.getfield 87, 3) := by decide +kernel
theorem k_283_29 : cd 283 29 = some (.sipush 129, 3) := by decide +kernel
theorem k_283_32 : cd 283 32 = some (.aload_n 0, 1) := by decide +kernel
theorem k_283_33 : cd 283 33 = some (.getfield 306, 3) := by decide +kernel
theorem k_283_36 : cd 283 36 = some (.imul, 1) := by decide +kernel
theorem k_283_37 : cd 283 37 = some (.invokevirtual 426, 3) := by decide +kernel
theorem k_283_40 : cd 283 40 = some (.aload_n 0, 1) := by decide +kernel
theorem k_283_41 : cd 283 41 = some (.getfield 306, 3) := by decide +kernel
theorem k_283_44 : cd 283 44 = some (.ireturn, 1) := by decide +kernel
theorem po_283 : po 283 = 9 := rfl
theorem M_283   {σ : pS} {ρ : Nat → Nat → Option Nat} (e : gR σ = ρ) (hL : LayR ρ) : Le
  (if ¬ (gI (sI σ 61 4 (ι 0)) 61 32) = (ι 0) then bV (pcall 284 [.ref 61, .ref 79, .int ((ι 129) * (gI (sI (sI σ 61 4 (ι 0)) 61 32 ((gI (sI σ 61 4 (ι 0)) 61 32) - (ι 1))) 61 32))] (sI (sI σ 61 4 (ι 0)) 61 32 ((gI (sI σ 61 4 (ι 0)) 61 32) - (ι 1)))) fun σ1 => some (1, .int (gI σ1 61 32), σ1) else some (1, .int (ν 1), (sI σ 61 4 (ι 0))))
  (pcall 283 [.ref 61] σ) := by
  show Le _ (den 283 0 0 [.ref 61] [] σ)
  exact r_aload_n k_283_0 rfl rfl
    (r_iconst k_283_1 rfl rfl
    (r_putI k_283_2 rfl po_283 rfl rfl rfl
    (r_aload_n k_283_5 rfl rfl
    (r_getI k_283_6 rfl po_283 rfl rfl rfl rfl
    (r_if (tgt := 14) k_283_9 rfl rfl cop_ne
    (r_aload_n k_283_14 rfl rfl
    (r_dup k_283_15 rfl rfl
    (r_getI k_283_16 rfl po_283 rfl rfl rfl rfl
    (r_iconst k_283_19 rfl rfl
    (r_isub k_283_20 rfl
    (r_putI k_283_21 rfl po_283 rfl rfl rfl
    (r_aload_n k_283_24 rfl rfl
    (r_aload_n k_283_25 rfl rfl
    (r_getR k_283_26 rfl po_283 rfl rfl rfl rfl (gRat (eI (eI e)) (LayR.at hL (i := 80) rfl))
    (r_sipush k_283_29 rfl rfl
    (r_aload_n k_283_32 rfl rfl
    (r_getI k_283_33 rfl po_283 rfl rfl rfl rfl
    (r_imul k_283_36 rfl
    (r_callV (q_virt (rest := []) (as := [.ref 79, .int ((ι 129) * (gI (sI (sI σ 61 4 (ι 0)) 61 32 ((gI (sI σ 61 4 (ι 0)) 61 32) - (ι 1))) 61 32))]) k_283_37 po_283 rfl rfl rfl (rcvO rfl rfl rfl) rfl rfl) (lvq (j := 0) rfl (by decide +kernel)) rfl rfl (fun _ σ1 h1 => r_aload_n k_283_40 rfl rfl
    (r_getI k_283_41 rfl po_283 rfl rfl rfl rfl
    (r_ret k_283_44 rfl rfl)))))))))))))))))
    (r_iconst k_283_12 rfl rfl
    (r_ret k_283_13 rfl rfl)))))))
/-! ===== 284 HedgeWantsModel.unpack ===== -/
theorem k_284_0 : cd 284 0 = some (.aload_n 0, 1) := by decide +kernel
theorem k_284_1 : cd 284 1 = some (.aload_n 1, 1) := by decide +kernel
theorem k_284_2 : cd 284 2 = some (.iload_n 2, 1) := by decide +kernel
theorem k_284_3 : cd 284 3 = some (.iaload, 1) := by decide +kernel
theorem k_284_4 : cd 284 4 = some (.putfield 303, 3) := by decide +kernel
theorem k_284_7 : cd 284 7 = some (.iconst 0, 1) := by decide +kernel
theorem k_284_8 : cd 284 8 = some (.istore_n 3, 1) := by decide +kernel
theorem k_284_9 : cd 284 9 = some (.iload_n 3, 1) := by decide +kernel
theorem k_284_10 : cd 284 10 = some (.bipush 12, 2) := by decide +kernel
theorem k_284_12 : cd 284 12 = some (.if_icmp .ge 38, 3) := by decide +kernel
theorem k_284_15 : cd 284 15 = some (.aload_n 0, 1) := by decide +kernel
theorem k_284_16 : cd 284 16 = some (.getfield 77, 3) := by decide +kernel
theorem k_284_19 : cd 284 19 = some (.iload_n 3, 1) := by decide +kernel
theorem k_284_20 : cd 284 20 = some (.aload_n 1, 1) := by decide +kernel
theorem k_284_21 : cd 284 21 = some (.iload_n 2, 1) := by decide +kernel
theorem k_284_22 : cd 284 22 = some (.iconst 1, 1) := by decide +kernel
theorem k_284_23 : cd 284 23 = some (.iadd, 1) := by decide +kernel
theorem k_284_24 : cd 284 24 = some (.iload_n 3, 1) := by decide +kernel
theorem k_284_25 : cd 284 25 = some (.iadd, 1) := by decide +kernel
theorem k_284_26 : cd 284 26 = some (.iaload, 1) := by decide +kernel
theorem k_284_27 : cd 284 27 = some (.iastore, 1) := by decide +kernel
theorem k_284_28 : cd 284 28 = some (.aload_n 0, 1) := by decide +kernel
theorem k_284_29 : cd 284 29 = some (.getfield 80, 3) := by decide +kernel
theorem k_284_32 : cd 284 32 = some (.iload_n 3, 1) := by decide +kernel
theorem k_284_33 : cd 284 33 = some (.aload_n 1, 1) := by decide +kernel
theorem k_284_34 : cd 284 34 = some (.iload_n 2, 1) := by decide +kernel
theorem k_284_35 : cd 284 35 = some (.iconst 1, 1) := by decide +kernel
theorem k_284_36 : cd 284 36 = some (.iadd, 1) := by decide +kernel
theorem k_284_37 : cd 284 37 = some (.bipush 12, 2) := by decide +kernel
theorem k_284_39 : cd 284 39 = some (.iadd, 1) := by decide +kernel
theorem k_284_40 : cd 284 40 = some (.iload_n 3, 1) := by decide +kernel
theorem k_284_41 : cd 284 41 = some (.iadd, 1) := by decide +kernel
theorem k_284_42 : cd 284 42 = some (.iaload, 1) := by decide +kernel
theorem k_284_43 : cd 284 43 = some (.iastore, 1) := by decide +kernel
theorem k_284_44 : cd 284 44 = some (.iinc 3 1, 3) := by decide +kernel
theorem k_284_47 : cd 284 47 = some (.goto (-38), 3) := by decide +kernel
theorem k_284_50 : cd 284 50 = some (.iconst 0, 1) := by decide +kernel
theorem k_284_51 : cd 284 51 = some (.istore_n 3, 1) := by decide +kernel
theorem k_284_52 : cd 284 52 = some (.iload_n 3, 1) := by decide +kernel
theorem k_284_53 : cd 284 53 = some (.bipush 96, 2) := by decide +kernel
theorem k_284_55 : cd 284 55 = some (.if_icmp .ge 25, 3) := by decide +kernel
theorem k_284_58 : cd 284 58 = some (.aload_n 0, 1) := by decide +kernel
theorem k_284_59 : cd 284 59 = some (.getfield 82, 3) := by decide +kernel
theorem k_284_62 : cd 284 62 = some (.iload_n 3, 1) := by decide +kernel
theorem k_284_63 : cd 284 63 = some (.aload_n 1, 1) := by decide +kernel
theorem k_284_64 : cd 284 64 = some (.iload_n 2, 1) := by decide +kernel
theorem k_284_65 : cd 284 65 = some (.iconst 1, 1) := by decide +kernel
theorem k_284_66 : cd 284 66 = some (.iadd, 1) := by decide +kernel
theorem k_284_67 : cd 284 67 = some (.bipush 24, 2) := by decide +kernel
theorem k_284_69 : cd 284 69 = some (.iadd, 1) := by decide +kernel
theorem k_284_70 : cd 284 70 = some (.iload_n 3, 1) := by decide +kernel
theorem k_284_71 : cd 284 71 = some (.iadd, 1) := by decide +kernel
theorem k_284_72 : cd 284 72 = some (.iaload, 1) := by decide +kernel
theorem k_284_73 : cd 284 73 = some (.iastore, 1) := by decide +kernel
theorem k_284_74 : cd 284 74 = some (.iinc 3 1, 3) := by decide +kernel
theorem k_284_77 : cd 284 77 = some (.goto (-25), 3) := by decide +kernel
theorem k_284_80 : cd 284 80 = some (.iconst 0, 1) := by decide +kernel
theorem k_284_81 : cd 284 81 = some (.istore_n 3, 1) := by decide +kernel
theorem k_284_82 : cd 284 82 = some (.iload_n 3, 1) := by decide +kernel
theorem k_284_83 : cd 284 83 = some (.bipush 8, 2) := by decide +kernel
theorem k_284_85 : cd 284 85 = some (.if_icmp .ge 28, 3) := by decide +kernel
theorem k_284_88 : cd 284 88 = some (.aload_n 0, 1) := by decide +kernel
theorem k_284_89 : cd 284 89 = some (.getfield 84, 3) := by decide +kernel
theorem k_284_92 : cd 284 92 = some (.iload_n 3, 1) := by decide +kernel
theorem k_284_93 : cd 284 93 = some (.aload_n 1, 1) := by decide +kernel
theorem k_284_94 : cd 284 94 = some (.iload_n 2, 1) := by decide +kernel
theorem k_284_95 : cd 284 95 = some (.iconst 1, 1) := by decide +kernel
theorem k_284_96 : cd 284 96 = some (.iadd, 1) := by decide +kernel
theorem k_284_97 : cd 284 97 = some (.bipush 24, 2) := by decide +kernel
theorem k_284_99 : cd 284 99 = some (.iadd, 1) := by decide +kernel
theorem k_284_100 : cd 284 100 = some (.bipush 96, 2) := by decide +kernel
theorem k_284_102 : cd 284 102 = some (.iadd, 1) := by decide +kernel
theorem k_284_103 : cd 284 103 = some (.iload_n 3, 1) := by decide +kernel
theorem k_284_104 : cd 284 104 = some (.iadd, 1) := by decide +kernel
theorem k_284_105 : cd 284 105 = some (.iaload, 1) := by decide +kernel
theorem k_284_106 : cd 284 106 = some (.iastore, 1) := by decide +kernel
theorem k_284_107 : cd 284 107 = some (.iinc 3 1, 3) := by decide +kernel
theorem k_284_110 : cd 284 110 = some (.goto (-28), 3) := by decide +kernel
theorem k_284_113 : cd 284 113 = some (.return_, 1) := by decide +kernel
theorem po_284 : po 284 = 9 := rfl
noncomputable def C_284_9 (a0 n0 : Nat) (x2 : Int32) (x3 : Int32) (σ : pS) : Option pZ := den 284 0 9 [.ref 61, .ref a0, .int x2, .int x3] [] σ
noncomputable def C_284_52 (a0 n0 : Nat) (x2 : Int32) (x3 : Int32) (σ : pS) : Option pZ := den 284 0 52 [.ref 61, .ref a0, .int x2, .int x3] [] σ
noncomputable def C_284_82 (a0 n0 : Nat) (x2 : Int32) (x3 : Int32) (σ : pS) : Option pZ := den 284 0 82 [.ref 61, .ref a0, .int x2, .int x3] [] σ
theorem T_284_9 {a0 n0 : Nat} (ha0 : kd a0 = (100, n0)) {x2 : Int32} {x3 : Int32}  {σ : pS} {ρ : Nat → Nat → Option Nat} (e : gR σ = ρ) (hL : LayR ρ) : Le
  (if (ι 12) ≤ x3 then C_284_52 a0 n0 x2 (ι 0) σ else gd (inb ((x2 + (ι 1)) + x3) n0) (gd (inb x3 12) (gd (inb (((x2 + (ι 1)) + (ι 12)) + x3) n0) (gd (inb x3 12) (C_284_9 a0 n0 x2 (x3 + (ι 1)) (sI (sI σ 75 (ix x3) (gI σ a0 (ix ((x2 + (ι 1)) + x3)))) 76 (ix x3) (gI (sI σ 75 (ix x3) (gI σ a0 (ix ((x2 + (ι 1)) + x3)))) a0 (ix (((x2 + (ι 1)) + (ι 12)) + x3)))))))))
  (C_284_9 a0 n0 x2 x3 σ) := by
  unfold C_284_9
  exact r_iload_n k_284_9 rfl rfl
    (r_bipush k_284_10 rfl rfl
    (r_icmp (tgt := 50) k_284_12 rfl rfl cop_ge
    (r_iconst k_284_50 rfl rfl
    (r_istore_n k_284_51 rfl rfl rfl
    (Le.rfl')))
    (r_aload_n k_284_15 rfl rfl
    (r_getR k_284_16 rfl po_284 rfl rfl rfl rfl (gRat e (LayR.at hL (i := 76) rfl))
    (r_iload_n k_284_19 rfl rfl
    (r_aload_n k_284_20 rfl rfl
    (r_iload_n k_284_21 rfl rfl
    (r_iconst k_284_22 rfl rfl
    (r_iadd k_284_23 rfl
    (r_iload_n k_284_24 rfl rfl
    (r_iadd k_284_25 rfl
    (r_gd fun g => r_iald k_284_26 rfl ha0 g
    (r_gd fun g => r_iast k_284_27 rfl rfl g
    (r_aload_n k_284_28 rfl rfl
    (r_getR k_284_29 rfl po_284 rfl rfl rfl rfl (gRat (eI e) (LayR.at hL (i := 77) rfl))
    (r_iload_n k_284_32 rfl rfl
    (r_aload_n k_284_33 rfl rfl
    (r_iload_n k_284_34 rfl rfl
    (r_iconst k_284_35 rfl rfl
    (r_iadd k_284_36 rfl
    (r_bipush k_284_37 rfl rfl
    (r_iadd k_284_39 rfl
    (r_iload_n k_284_40 rfl rfl
    (r_iadd k_284_41 rfl
    (r_gd fun g => r_iald k_284_42 rfl ha0 g
    (r_gd fun g => r_iast k_284_43 rfl rfl g
    (r_iinc k_284_44 rfl rfl rfl rfl
    (r_goto (tgt := 9) k_284_47 rfl (Le.rfl')))))))))))))))))))))))))))))
theorem T_284_52 {a0 n0 : Nat} (ha0 : kd a0 = (100, n0)) {x2 : Int32} {x3 : Int32}  {σ : pS} {ρ : Nat → Nat → Option Nat} (e : gR σ = ρ) (hL : LayR ρ) : Le
  (if (ι 96) ≤ x3 then C_284_82 a0 n0 x2 (ι 0) σ else gd (inb (((x2 + (ι 1)) + (ι 24)) + x3) n0) (gd (inb x3 96) (C_284_52 a0 n0 x2 (x3 + (ι 1)) (sI σ 77 (ix x3) (gI σ a0 (ix (((x2 + (ι 1)) + (ι 24)) + x3)))))))
  (C_284_52 a0 n0 x2 x3 σ) := by
  unfold C_284_52
  exact r_iload_n k_284_52 rfl rfl
    (r_bipush k_284_53 rfl rfl
    (r_icmp (tgt := 80) k_284_55 rfl rfl cop_ge
    (r_iconst k_284_80 rfl rfl
    (r_istore_n k_284_81 rfl rfl rfl
    (Le.rfl')))
    (r_aload_n k_284_58 rfl rfl
    (r_getR k_284_59 rfl po_284 rfl rfl rfl rfl (gRat e (LayR.at hL (i := 78) rfl))
    (r_iload_n k_284_62 rfl rfl
    (r_aload_n k_284_63 rfl rfl
    (r_iload_n k_284_64 rfl rfl
    (r_iconst k_284_65 rfl rfl
    (r_iadd k_284_66 rfl
    (r_bipush k_284_67 rfl rfl
    (r_iadd k_284_69 rfl
    (r_iload_n k_284_70 rfl rfl
    (r_iadd k_284_71 rfl
    (r_gd fun g => r_iald k_284_72 rfl ha0 g
    (r_gd fun g => r_iast k_284_73 rfl rfl g
    (r_iinc k_284_74 rfl rfl rfl rfl
    (r_goto (tgt := 52) k_284_77 rfl (Le.rfl'))))))))))))))))))
theorem T_284_82 {a0 n0 : Nat} (ha0 : kd a0 = (100, n0)) {x2 : Int32} {x3 : Int32}  {σ : pS} {ρ : Nat → Nat → Option Nat} (e : gR σ = ρ) (hL : LayR ρ) : Le
  (if (ι 8) ≤ x3 then some (0, .null, σ) else gd (inb ((((x2 + (ι 1)) + (ι 24)) + (ι 96)) + x3) n0) (gd (inb x3 8) (C_284_82 a0 n0 x2 (x3 + (ι 1)) (sI σ 78 (ix x3) (gI σ a0 (ix ((((x2 + (ι 1)) + (ι 24)) + (ι 96)) + x3)))))))
  (C_284_82 a0 n0 x2 x3 σ) := by
  unfold C_284_82
  exact r_iload_n k_284_82 rfl rfl
    (r_bipush k_284_83 rfl rfl
    (r_icmp (tgt := 113) k_284_85 rfl rfl cop_ge
    (r_retV k_284_113 rfl)
    (r_aload_n k_284_88 rfl rfl
    (r_getR k_284_89 rfl po_284 rfl rfl rfl rfl (gRat e (LayR.at hL (i := 79) rfl))
    (r_iload_n k_284_92 rfl rfl
    (r_aload_n k_284_93 rfl rfl
    (r_iload_n k_284_94 rfl rfl
    (r_iconst k_284_95 rfl rfl
    (r_iadd k_284_96 rfl
    (r_bipush k_284_97 rfl rfl
    (r_iadd k_284_99 rfl
    (r_bipush k_284_100 rfl rfl
    (r_iadd k_284_102 rfl
    (r_iload_n k_284_103 rfl rfl
    (r_iadd k_284_104 rfl
    (r_gd fun g => r_iald k_284_105 rfl ha0 g
    (r_gd fun g => r_iast k_284_106 rfl rfl g
    (r_iinc k_284_107 rfl rfl rfl rfl
    (r_goto (tgt := 82) k_284_110 rfl (Le.rfl'))))))))))))))))))))
theorem M_284 {a0 n0 : Nat} (ha0 : kd a0 = (100, n0)) {x1 : Int32} {σ : pS} {ρ : Nat → Nat → Option Nat} (e : gR σ = ρ) (hL : LayR ρ) : Le
  (gd (inb x1 n0) (C_284_9 a0 n0 x1 (ι 0) (sI σ 61 31 (gI σ a0 (ix x1)))))
  (pcall 284 [.ref 61, .ref a0, .int x1] σ) := by
  show Le _ (den 284 0 0 [.ref 61, .ref a0, .int x1, .retAddr 0] [] σ)
  exact r_aload_n k_284_0 rfl rfl
    (r_aload_n k_284_1 rfl rfl
    (r_iload_n k_284_2 rfl rfl
    (r_gd fun g => r_iald k_284_3 rfl ha0 g
    (r_putI k_284_4 rfl po_284 rfl rfl rfl
    (r_iconst k_284_7 rfl rfl
    (r_istore_n k_284_8 rfl rfl rfl
    (Le.rfl')))))))
/-! ===== 285 HedgeWantsModel.then ===== -/
theorem k_285_0 : cd 285 0 = some (.aload_n 0, 1) := by decide +kernel
theorem k_285_1 : cd 285 1 = some (.iconst 0, 1) := by decide +kernel
theorem k_285_2 : cd 285 2 = some (.putfield 145, 3) := by decide +kernel
theorem k_285_5 : cd 285 5 = some (.aload_n 0, 1) := by decide +kernel
theorem k_285_6 : cd 285 6 = some (.iload_n 1, 1) := by decide +kernel
theorem k_285_7 : cd 285 7 = some (.invokevirtual 396, 3) := by decide +kernel
theorem k_285_10 : cd 285 10 = some (.ifCond .eq 15, 3) := by decide +kernel
theorem k_285_13 : cd 285 13 = some (.iload_n 3, 1) := by decide +kernel
theorem k_285_14 : cd 285 14 = some (.i2l, 1) := by decide +kernel
theorem k_285_15 : cd 285 15 = some (.lconst 0, 1) := by decide +kernel
theorem k_285_16 : cd 285 16 = some (.ldc2_w 429, 3) := by decide +kernel
theorem k_285_19 : cd 285 19 = some (.invokestatic 148, 3) := by decide +kernel
theorem k_285_22 : cd 285 22 = some (.ifCond .ne 9, 3) := by decide +kernel
theorem k_285_25 : cd 285 25 = some (.aload_n 0, 1) := by decide +kernel
theorem k_285_26 : cd 285 26 = some (.iconst 1, 1) := by decide +kernel
theorem k_285_27 : cd 285 27 = some (.invokevirtual 290, 3) := by decide +kernel
theorem k_285_30 : cd 285 30 = some (.ireturn, 1) := by decide +kernel
theorem k_285_31 : cd 285 31 = some (.iload_n 2, 1) := by decide +kernel
theorem k_285_32 : cd 285 32 = some (.i2l, 1) := by decide +kernel
theorem k_285_33 : cd 285 33 = some (.lconst 0, 1) := by decide +kernel
theorem k_285_34 : cd 285 34 = some (.ldc2_w 431, 3) := by decide +kernel
theorem k_285_37 : cd 285 37 = some (.invokestatic 148, 3) := by decide +kernel
theorem k_285_40 : cd 285 40 = some (.ifCond .ne 9, 3) := by decide +kernel
theorem k_285_43 : cd 285 43 = some (.aload_n 0, 1) := by decide +kernel
theorem k_285_44 : cd 285 44 = some (.iconst 2, 1) := by decide +kernel
theorem k_285_45 : cd 285 45 = some (.invokevirtual 290, 3) := by decide +kernel
theorem k_285_48 : cd 285 48 = some (.ireturn, 1) := by decide +kernel
theorem k_285_49 : cd 285 49 = some (.aload_n 0, 1) := by decide +kernel
theorem k_285_50 : cd 285 50 = some (.aload_n 0, 1) := by decide +kernel
theorem k_285_51 : cd 285 51 = some (.getfield 99, 3) := by decide +kernel
theorem k_285_54 : cd 285 54 = some (.iconst 0, 1) := by decide +kernel
theorem k_285_55 : cd 285 55 = some (.invokevirtual 402, 3) := by decide +kernel
theorem k_285_58 : cd 285 58 = some (.aload_n 0, 1) := by decide +kernel
theorem k_285_59 : cd 285 59 = some (.iload_n 2, 1) := by decide +kernel
theorem k_285_60 : cd 285 60 = some (.invokevirtual 414, 3) := by decide +kernel
theorem k_285_63 : cd 285 63 = some (.iload_n 3, 1) := by decide +kernel
theorem k_285_64 : cd 285 64 = some (.ifCond .ne 12, 3) := by decide +kernel
theorem k_285_67 : cd 285 67 = some (.aload_n 0, 1) := by decide +kernel
theorem k_285_68 : cd 285 68 = some (.getfield 77, 3) := by decide +kernel
theorem k_285_71 : cd 285 71 = some (.iload_n 1, 1) := by decide +kernel
theorem k_285_72 : cd 285 72 = some (.iaload, 1) := by decide +kernel
theorem k_285_73 : cd 285 73 = some (.goto 25, 3) := by decide +kernel
theorem k_285_76 : cd 285 76 = some (.iload_n 3, 1) := by decide +kernel
theorem k_285_77 : cd 285 77 = some (.iconst 1, 1) := by decide +kernel
theorem k_285_78 : cd 285 78 = some (.if_icmp .ne 12, 3) := by decide +kernel
theorem k_285_81 : cd 285 81 = some (.aload_n 0, 1) := by decide +kernel
theorem k_285_82 : cd 285 82 = some (.getfield 80, 3) := by decide +kernel
theorem k_285_85 : cd 285 85 = some (.iload_n 1, 1) := by decide +kernel
theorem k_285_86 : cd 285 86 = some (.iaload, 1) := by decide +kernel
theorem k_285_87 : cd 285 87 = some (.goto 11, 3) := by decide +kernel
theorem k_285_90 : cd 285 90 = some (.aload_n 0, 1) := by decide +kernel
theorem k_285_91 : cd 285 91 = some (.iload_n 1, 1) := by decide +kernel
theorem k_285_92 : cd 285 92 = some (.invokevirtual 344, 3) := by decide +kernel
theorem k_285_95 : cd 285 95 = some (.invokestatic 334, 3) := by decide +kernel
theorem k_285_98 : cd 285 98 = some (.istore 4, 2) := by decide +kernel
theorem k_285_100 : cd 285 100 = some (.aload_n 0, 1) := by decide +kernel
theorem k_285_101 : cd 285 101 = some (.aload_n 0, 1) := by decide +kernel
theorem k_285_102 : cd 285 102 = some (.getfield 99, 3) := by decide +kernel
theorem k_285_105 : cd 285 105 = some (.iconst 0, 1) := by decide +kernel
theorem k_285_106 : cd 285 106 = some (.invokevirtual 426, 3) := by decide +kernel
theorem k_285_109 : cd 285 109 = some (.iload 4, 2) := by decide +kernel
theorem k_285_111 : cd 285 111 = some (.ireturn, 1) := by decide +kernel
theorem po_285 : po 285 = 9 := rfl
theorem M_285  {x0 : Int32} {x1 : Int32} {x2 : Int32} {σ : pS} {ρ : Nat → Nat → Option Nat} (e : gR σ = ρ) (hL : LayR ρ) : Le
  (bI (pcall 264 [.ref 61, .int x0] (sI σ 61 4 (ι 0))) fun r1 σ1 => if r1 = (ι 0) then bI (pcall 211 [.ref 61, .int (ι 1)] σ1) fun r2 σ2 => some (1, .int r2, σ2) else bI (pcall 261 [.long x2.toInt64, .long (0 : Int64), .long (2 : Int64)] σ1) fun r3 σ3 => if ¬ r3 = (ι 0) then bI (pcall 261 [.long x1.toInt64, .long (0 : Int64), .long (60 : Int64)] σ3) fun r4 σ4 => if ¬ r4 = (ι 0) then bV (pcall 271 [.ref 61, .ref 83, .int (ι 0)] σ4) fun σ5 => bV (pcall 272 [.ref 61, .int x1] σ5) fun σ6 => if ¬ x2 = (ι 0) then if ¬ x2 = (ι 1) then bI (pcall 242 [.ref 61, .int x0] σ6) fun r7 σ7 => bI (pcall 247 [.int r7] σ7) fun r8 σ8 => bV (pcall 284 [.ref 61, .ref 83, .int (ι 0)] σ8) fun σ9 => some (1, .int r8, σ9) else gd (inb x0 12) (bV (pcall 284 [.ref 61, .ref 83, .int (ι 0)] σ6) fun σ10 => some (1, .int (gI σ6 76 (ix x0)), σ10)) else gd (inb x0 12) (bV (pcall 284 [.ref 61, .ref 83, .int (ι 0)] σ6) fun σ11 => some (1, .int (gI σ6 75 (ix x0)), σ11)) else bI (pcall 211 [.ref 61, .int (ι 2)] σ4) fun r12 σ12 => some (1, .int r12, σ12) else bI (pcall 211 [.ref 61, .int (ι 1)] σ3) fun r13 σ13 => some (1, .int r13, σ13))
  (pcall 285 [.ref 61, .int x0, .int x1, .int x2] σ) := by
  show Le _ (den 285 0 0 [.ref 61, .int x0, .int x1, .int x2, .retAddr 0] [] σ)
  exact r_aload_n k_285_0 rfl rfl
    (r_iconst k_285_1 rfl rfl
    (r_putI k_285_2 rfl po_285 rfl rfl rfl
    (r_aload_n k_285_5 rfl rfl
    (r_iload_n k_285_6 rfl rfl
    (r_callI (q_virt (rest := []) (as := [.int x0]) k_285_7 po_285 rfl rfl rfl (rcvO rfl rfl rfl) rfl rfl) (lvq (j := 0) rfl (by decide +kernel)) rfl rfl (fun r1 σ1 h1 => r_if (tgt := 25) k_285_10 rfl rfl cop_eq
    (r_aload_n k_285_25 rfl rfl
    (r_iconst k_285_26 rfl rfl
    (r_callI (q_virt (rest := []) (as := [.int (ι 1)]) k_285_27 po_285 rfl rfl rfl (rcvO rfl rfl rfl) rfl rfl) (lvq (j := 0) rfl (by decide +kernel)) rfl rfl (fun r2 σ2 h2 => r_ret k_285_30 rfl rfl))))
    (r_iload_n k_285_13 rfl rfl
    (r_i2l k_285_14 rfl
    (r_lconst k_285_15 rfl rfl
    (r_ldc2 k_285_16 rfl po_285 rfl rfl
    (r_callI (q_stat (rest := []) (av := [.long x2.toInt64, .long (0 : Int64), .long (2 : Int64)]) k_285_19 po_285 rfl (by decide) rfl rfl rfl rfl) (lvq (j := 0) rfl (by decide +kernel)) rfl rfl (fun r3 σ3 h3 => r_if (tgt := 31) k_285_22 rfl rfl cop_ne
    (r_iload_n k_285_31 rfl rfl
    (r_i2l k_285_32 rfl
    (r_lconst k_285_33 rfl rfl
    (r_ldc2 k_285_34 rfl po_285 rfl rfl
    (r_callI (q_stat (rest := []) (av := [.long x1.toInt64, .long (0 : Int64), .long (60 : Int64)]) k_285_37 po_285 rfl (by decide) rfl rfl rfl rfl) (lvq (j := 0) rfl (by decide +kernel)) rfl rfl (fun r4 σ4 h4 => r_if (tgt := 49) k_285_40 rfl rfl cop_ne
    (r_aload_n k_285_49 rfl rfl
    (r_aload_n k_285_50 rfl rfl
    (r_getR k_285_51 rfl po_285 rfl rfl rfl rfl (gRat (eC rfl h4 (eC rfl h3 (eC rfl h1 (eI e)))) (LayR.at hL (i := 84) rfl))
    (r_iconst k_285_54 rfl rfl
    (r_callV (q_virt (rest := []) (as := [.ref 83, .int (ι 0)]) k_285_55 po_285 rfl rfl rfl (rcvO rfl rfl rfl) rfl rfl) (lvq (j := 0) rfl (by decide +kernel)) rfl rfl (fun _ σ5 h5 => r_aload_n k_285_58 rfl rfl
    (r_iload_n k_285_59 rfl rfl
    (r_callV (q_virt (rest := []) (as := [.int x1]) k_285_60 po_285 rfl rfl rfl (rcvO rfl rfl rfl) rfl rfl) (lvq (j := 0) rfl (by decide +kernel)) rfl rfl (fun _ σ6 h6 => r_iload_n k_285_63 rfl rfl
    (r_if (tgt := 76) k_285_64 rfl rfl cop_ne
    (r_iload_n k_285_76 rfl rfl
    (r_iconst k_285_77 rfl rfl
    (r_icmp (tgt := 90) k_285_78 rfl rfl cop_ne
    (r_aload_n k_285_90 rfl rfl
    (r_iload_n k_285_91 rfl rfl
    (r_callI (q_virt (rest := []) (as := [.int x0]) k_285_92 po_285 rfl rfl rfl (rcvO rfl rfl rfl) rfl rfl) (lvq (j := 0) rfl (by decide +kernel)) rfl rfl (fun r7 σ7 h7 => r_callI (q_stat (rest := []) (av := [.int r7]) k_285_95 po_285 rfl (by decide) rfl rfl rfl rfl) (lvq (j := 0) rfl (by decide +kernel)) rfl rfl (fun r8 σ8 h8 => r_istore k_285_98 rfl rfl rfl
    (r_aload_n k_285_100 rfl rfl
    (r_aload_n k_285_101 rfl rfl
    (r_getR k_285_102 rfl po_285 rfl rfl rfl rfl (gRat (eC rfl h8 (eC rfl h7 (eC rfl h6 (eC rfl h5 (eC rfl h4 (eC rfl h3 (eC rfl h1 (eI e)))))))) (LayR.at hL (i := 84) rfl))
    (r_iconst k_285_105 rfl rfl
    (r_callV (q_virt (rest := []) (as := [.ref 83, .int (ι 0)]) k_285_106 po_285 rfl rfl rfl (rcvO rfl rfl rfl) rfl rfl) (lvq (j := 0) rfl (by decide +kernel)) rfl rfl (fun _ σ9 h9 => r_iload k_285_109 rfl rfl
    (r_ret k_285_111 rfl rfl))))))))))))
    (r_aload_n k_285_81 rfl rfl
    (r_getR k_285_82 rfl po_285 rfl rfl rfl rfl (gRat (eC rfl h6 (eC rfl h5 (eC rfl h4 (eC rfl h3 (eC rfl h1 (eI e)))))) (LayR.at hL (i := 77) rfl))
    (r_iload_n k_285_85 rfl rfl
    (r_gd fun g => r_iald k_285_86 rfl rfl g
    (r_goto (tgt := 98) k_285_87 rfl (r_istore k_285_98 rfl rfl rfl
    (r_aload_n k_285_100 rfl rfl
    (r_aload_n k_285_101 rfl rfl
    (r_getR k_285_102 rfl po_285 rfl rfl rfl rfl (gRat (eC rfl h6 (eC rfl h5 (eC rfl h4 (eC rfl h3 (eC rfl h1 (eI e)))))) (LayR.at hL (i := 84) rfl))
    (r_iconst k_285_105 rfl rfl
    (r_callV (q_virt (rest := []) (as := [.ref 83, .int (ι 0)]) k_285_106 po_285 rfl rfl rfl (rcvO rfl rfl rfl) rfl rfl) (lvq (j := 0) rfl (by decide +kernel)) rfl rfl (fun _ σ10 h10 => r_iload k_285_109 rfl rfl
    (r_ret k_285_111 rfl rfl))))))))))))))))
    (r_aload_n k_285_67 rfl rfl
    (r_getR k_285_68 rfl po_285 rfl rfl rfl rfl (gRat (eC rfl h6 (eC rfl h5 (eC rfl h4 (eC rfl h3 (eC rfl h1 (eI e)))))) (LayR.at hL (i := 76) rfl))
    (r_iload_n k_285_71 rfl rfl
    (r_gd fun g => r_iald k_285_72 rfl rfl g
    (r_goto (tgt := 98) k_285_73 rfl (r_istore k_285_98 rfl rfl rfl
    (r_aload_n k_285_100 rfl rfl
    (r_aload_n k_285_101 rfl rfl
    (r_getR k_285_102 rfl po_285 rfl rfl rfl rfl (gRat (eC rfl h6 (eC rfl h5 (eC rfl h4 (eC rfl h3 (eC rfl h1 (eI e)))))) (LayR.at hL (i := 84) rfl))
    (r_iconst k_285_105 rfl rfl
    (r_callV (q_virt (rest := []) (as := [.ref 83, .int (ι 0)]) k_285_106 po_285 rfl rfl rfl (rcvO rfl rfl rfl) rfl rfl) (lvq (j := 0) rfl (by decide +kernel)) rfl rfl (fun _ σ11 h11 => r_iload k_285_109 rfl rfl
    (r_ret k_285_111 rfl rfl)))))))))))))))))))))))
    (r_aload_n k_285_43 rfl rfl
    (r_iconst k_285_44 rfl rfl
    (r_callI (q_virt (rest := []) (as := [.int (ι 2)]) k_285_45 po_285 rfl rfl rfl (rcvO rfl rfl rfl) rfl rfl) (lvq (j := 0) rfl (by decide +kernel)) rfl rfl (fun r12 σ12 h12 => r_ret k_285_48 rfl rfl))))))))))
    (r_aload_n k_285_25 rfl rfl
    (r_iconst k_285_26 rfl rfl
    (r_callI (q_virt (rest := []) (as := [.int (ι 1)]) k_285_27 po_285 rfl rfl rfl (rcvO rfl rfl rfl) rfl rfl) (lvq (j := 0) rfl (by decide +kernel)) rfl rfl (fun r13 σ13 h13 => r_ret k_285_30 rfl rfl))))))))))))))))
/-! ===== 286 HedgeWantsModel.has ===== -/
theorem k_286_0 : cd 286 0 = some (.aload_n 0, 1) := by decide +kernel
theorem k_286_1 : cd 286 1 = some (.iconst 0, 1) := by decide +kernel
theorem k_286_2 : cd 286 2 = some (.putfield 145, 3) := by decide +kernel
theorem k_286_5 : cd 286 5 = some (.aload_n 0, 1) := by decide +kernel
theorem k_286_6 : cd 286 6 = some (.iload_n 1, 1) := by decide +kernel
theorem k_286_7 : cd 286 7 = some (.invokevirtual 390, 3) := by decide +kernel
theorem k_286_10 : cd 286 10 = some (.ifCond .eq 13, 3) := by decide +kernel
theorem k_286_13 : cd 286 13 = some (.iload_n 3, 1) := by decide +kernel
theorem k_286_14 : cd 286 14 = some (.i2l, 1) := by decide +kernel
theorem k_286_15 : cd 286 15 = some (.lconst 0, 1) := by decide +kernel
theorem k_286_16 : cd 286 16 = some (.lconst 1, 1) := by decide +kernel
theorem k_286_17 : cd 286 17 = some (.invokestatic 148, 3) := by decide +kernel
theorem k_286_20 : cd 286 20 = some (.ifCond .ne 9, 3) := by decide +kernel
theorem k_286_23 : cd 286 23 = some (.aload_n 0, 1) := by decide +kernel
theorem k_286_24 : cd 286 24 = some (.iconst 1, 1) := by decide +kernel
theorem k_286_25 : cd 286 25 = some (.invokevirtual 290, 3) := by decide +kernel
theorem k_286_28 : cd 286 28 = some (.ireturn, 1) := by decide +kernel
theorem k_286_29 : cd 286 29 = some (.iload_n 2, 1) := by decide +kernel
theorem k_286_30 : cd 286 30 = some (.i2l, 1) := by decide +kernel
theorem k_286_31 : cd 286 31 = some (.lconst 0, 1) := by decide +kernel
theorem k_286_32 : cd 286 32 = some (.ldc2_w 431, 3) := by decide +kernel
theorem k_286_35 : cd 286 35 = some (.invokestatic 148, 3) := by decide +kernel
theorem k_286_38 : cd 286 38 = some (.ifCond .ne 9, 3) := by decide +kernel
theorem k_286_41 : cd 286 41 = some (.aload_n 0, 1) := by decide +kernel
theorem k_286_42 : cd 286 42 = some (.iconst 2, 1) := by decide +kernel
theorem k_286_43 : cd 286 43 = some (.invokevirtual 290, 3) := by decide +kernel
theorem k_286_46 : cd 286 46 = some (.ireturn, 1) := by decide +kernel
theorem k_286_47 : cd 286 47 = some (.aload_n 0, 1) := by decide +kernel
theorem k_286_48 : cd 286 48 = some (.aload_n 0, 1) := by decide +kernel
theorem k_286_49 : cd 286 49 = some (.getfield 99, 3) := by decide +kernel
theorem k_286_52 : cd 286 52 = some (.iconst 0, 1) := by decide +kernel
theorem k_286_53 : cd 286 53 = some (.invokevirtual 402, 3) := by decide +kernel
theorem k_286_56 : cd 286 56 = some (.aload_n 0, 1) := by decide +kernel
theorem k_286_57 : cd 286 57 = some (.iload_n 2, 1) := by decide +kernel
theorem k_286_58 : cd 286 58 = some (.invokevirtual 414, 3) := by decide +kernel
theorem k_286_61 : cd 286 61 = some (.iload_n 3, 1) := by decide +kernel
theorem k_286_62 : cd 286 62 = some (.ifCond .ne 14, 3) := by decide +kernel
theorem k_286_65 : cd 286 65 = some (.aload_n 0, 1) := by decide +kernel
theorem k_286_66 : cd 286 66 = some (.iload_n 1, 1) := by decide +kernel
theorem k_286_67 : cd 286 67 = some (.invokevirtual 331, 3) := by decide +kernel
theorem k_286_70 : cd 286 70 = some (.invokestatic 334, 3) := by decide +kernel
theorem k_286_73 : cd 286 73 = some (.goto 8, 3) := by decide +kernel
theorem k_286_76 : cd 286 76 = some (.aload_n 0, 1) := by decide +kernel
theorem k_286_77 : cd 286 77 = some (.iload_n 1, 1) := by decide +kernel
theorem k_286_78 : cd 286 78 = some (.invokevirtual 359, 3) := by decide +kernel
theorem k_286_81 : cd 286 81 = some (.istore 4, 2) := by decide +kernel
theorem k_286_83 : cd 286 83 = some (.aload_n 0, 1) := by decide +kernel
theorem k_286_84 : cd 286 84 = some (.aload_n 0, 1) := by decide +kernel
theorem k_286_85 : cd 286 85 = some (.getfield 99, 3) := by decide +kernel
theorem k_286_88 : cd 286 88 = some (.iconst 0, 1) := by decide +kernel
theorem k_286_89 : cd 286 89 = some (.invokevirtual 426, 3) := by decide +kernel
theorem k_286_92 : cd 286 92 = some (.iload 4, 2) := by decide +kernel
theorem k_286_94 : cd 286 94 = some (.ireturn, 1) := by decide +kernel
theorem po_286 : po 286 = 9 := rfl
theorem M_286  {x0 : Int32} {x1 : Int32} {x2 : Int32} {σ : pS} {ρ : Nat → Nat → Option Nat} (e : gR σ = ρ) (hL : LayR ρ) : Le
  (bI (pcall 260 [.ref 61, .int x0] (sI σ 61 4 (ι 0))) fun r1 σ1 => if r1 = (ι 0) then bI (pcall 211 [.ref 61, .int (ι 1)] σ1) fun r2 σ2 => some (1, .int r2, σ2) else bI (pcall 261 [.long x2.toInt64, .long (0 : Int64), .long (1 : Int64)] σ1) fun r3 σ3 => if ¬ r3 = (ι 0) then bI (pcall 261 [.long x1.toInt64, .long (0 : Int64), .long (60 : Int64)] σ3) fun r4 σ4 => if ¬ r4 = (ι 0) then bV (pcall 271 [.ref 61, .ref 83, .int (ι 0)] σ4) fun σ5 => bV (pcall 272 [.ref 61, .int x1] σ5) fun σ6 => if ¬ x2 = (ι 0) then bI (pcall 252 [.ref 61, .int x0] σ6) fun r7 σ7 => bV (pcall 284 [.ref 61, .ref 83, .int (ι 0)] σ7) fun σ8 => some (1, .int r7, σ8) else bI (pcall 246 [.ref 61, .int x0] σ6) fun r9 σ9 => bI (pcall 247 [.int r9] σ9) fun r10 σ10 => bV (pcall 284 [.ref 61, .ref 83, .int (ι 0)] σ10) fun σ11 => some (1, .int r10, σ11) else bI (pcall 211 [.ref 61, .int (ι 2)] σ4) fun r12 σ12 => some (1, .int r12, σ12) else bI (pcall 211 [.ref 61, .int (ι 1)] σ3) fun r13 σ13 => some (1, .int r13, σ13))
  (pcall 286 [.ref 61, .int x0, .int x1, .int x2] σ) := by
  show Le _ (den 286 0 0 [.ref 61, .int x0, .int x1, .int x2, .retAddr 0] [] σ)
  exact r_aload_n k_286_0 rfl rfl
    (r_iconst k_286_1 rfl rfl
    (r_putI k_286_2 rfl po_286 rfl rfl rfl
    (r_aload_n k_286_5 rfl rfl
    (r_iload_n k_286_6 rfl rfl
    (r_callI (q_virt (rest := []) (as := [.int x0]) k_286_7 po_286 rfl rfl rfl (rcvO rfl rfl rfl) rfl rfl) (lvq (j := 0) rfl (by decide +kernel)) rfl rfl (fun r1 σ1 h1 => r_if (tgt := 23) k_286_10 rfl rfl cop_eq
    (r_aload_n k_286_23 rfl rfl
    (r_iconst k_286_24 rfl rfl
    (r_callI (q_virt (rest := []) (as := [.int (ι 1)]) k_286_25 po_286 rfl rfl rfl (rcvO rfl rfl rfl) rfl rfl) (lvq (j := 0) rfl (by decide +kernel)) rfl rfl (fun r2 σ2 h2 => r_ret k_286_28 rfl rfl))))
    (r_iload_n k_286_13 rfl rfl
    (r_i2l k_286_14 rfl
    (r_lconst k_286_15 rfl rfl
    (r_lconst k_286_16 rfl rfl
    (r_callI (q_stat (rest := []) (av := [.long x2.toInt64, .long (0 : Int64), .long (1 : Int64)]) k_286_17 po_286 rfl (by decide) rfl rfl rfl rfl) (lvq (j := 0) rfl (by decide +kernel)) rfl rfl (fun r3 σ3 h3 => r_if (tgt := 29) k_286_20 rfl rfl cop_ne
    (r_iload_n k_286_29 rfl rfl
    (r_i2l k_286_30 rfl
    (r_lconst k_286_31 rfl rfl
    (r_ldc2 k_286_32 rfl po_286 rfl rfl
    (r_callI (q_stat (rest := []) (av := [.long x1.toInt64, .long (0 : Int64), .long (60 : Int64)]) k_286_35 po_286 rfl (by decide) rfl rfl rfl rfl) (lvq (j := 0) rfl (by decide +kernel)) rfl rfl (fun r4 σ4 h4 => r_if (tgt := 47) k_286_38 rfl rfl cop_ne
    (r_aload_n k_286_47 rfl rfl
    (r_aload_n k_286_48 rfl rfl
    (r_getR k_286_49 rfl po_286 rfl rfl rfl rfl (gRat (eC rfl h4 (eC rfl h3 (eC rfl h1 (eI e)))) (LayR.at hL (i := 84) rfl))
    (r_iconst k_286_52 rfl rfl
    (r_callV (q_virt (rest := []) (as := [.ref 83, .int (ι 0)]) k_286_53 po_286 rfl rfl rfl (rcvO rfl rfl rfl) rfl rfl) (lvq (j := 0) rfl (by decide +kernel)) rfl rfl (fun _ σ5 h5 => r_aload_n k_286_56 rfl rfl
    (r_iload_n k_286_57 rfl rfl
    (r_callV (q_virt (rest := []) (as := [.int x1]) k_286_58 po_286 rfl rfl rfl (rcvO rfl rfl rfl) rfl rfl) (lvq (j := 0) rfl (by decide +kernel)) rfl rfl (fun _ σ6 h6 => r_iload_n k_286_61 rfl rfl
    (r_if (tgt := 76) k_286_62 rfl rfl cop_ne
    (r_aload_n k_286_76 rfl rfl
    (r_iload_n k_286_77 rfl rfl
    (r_callI (q_virt (rest := []) (as := [.int x0]) k_286_78 po_286 rfl rfl rfl (rcvO rfl rfl rfl) rfl rfl) (lvq (j := 0) rfl (by decide +kernel)) rfl rfl (fun r7 σ7 h7 => r_istore k_286_81 rfl rfl rfl
    (r_aload_n k_286_83 rfl rfl
    (r_aload_n k_286_84 rfl rfl
    (r_getR k_286_85 rfl po_286 rfl rfl rfl rfl (gRat (eC rfl h7 (eC rfl h6 (eC rfl h5 (eC rfl h4 (eC rfl h3 (eC rfl h1 (eI e))))))) (LayR.at hL (i := 84) rfl))
    (r_iconst k_286_88 rfl rfl
    (r_callV (q_virt (rest := []) (as := [.ref 83, .int (ι 0)]) k_286_89 po_286 rfl rfl rfl (rcvO rfl rfl rfl) rfl rfl) (lvq (j := 0) rfl (by decide +kernel)) rfl rfl (fun _ σ8 h8 => r_iload k_286_92 rfl rfl
    (r_ret k_286_94 rfl rfl)))))))))))
    (r_aload_n k_286_65 rfl rfl
    (r_iload_n k_286_66 rfl rfl
    (r_callI (q_virt (rest := []) (as := [.int x0]) k_286_67 po_286 rfl rfl rfl (rcvO rfl rfl rfl) rfl rfl) (lvq (j := 0) rfl (by decide +kernel)) rfl rfl (fun r9 σ9 h9 => r_callI (q_stat (rest := []) (av := [.int r9]) k_286_70 po_286 rfl (by decide) rfl rfl rfl rfl) (lvq (j := 0) rfl (by decide +kernel)) rfl rfl (fun r10 σ10 h10 => r_goto (tgt := 81) k_286_73 rfl (r_istore k_286_81 rfl rfl rfl
    (r_aload_n k_286_83 rfl rfl
    (r_aload_n k_286_84 rfl rfl
    (r_getR k_286_85 rfl po_286 rfl rfl rfl rfl (gRat (eC rfl h10 (eC rfl h9 (eC rfl h6 (eC rfl h5 (eC rfl h4 (eC rfl h3 (eC rfl h1 (eI e)))))))) (LayR.at hL (i := 84) rfl))
    (r_iconst k_286_88 rfl rfl
    (r_callV (q_virt (rest := []) (as := [.ref 83, .int (ι 0)]) k_286_89 po_286 rfl rfl rfl (rcvO rfl rfl rfl) rfl rfl) (lvq (j := 0) rfl (by decide +kernel)) rfl rfl (fun _ σ11 h11 => r_iload k_286_92 rfl rfl
    (r_ret k_286_94 rfl rfl)))))))))))))))))))))))
    (r_aload_n k_286_41 rfl rfl
    (r_iconst k_286_42 rfl rfl
    (r_callI (q_virt (rest := []) (as := [.int (ι 2)]) k_286_43 po_286 rfl rfl rfl (rcvO rfl rfl rfl) rfl rfl) (lvq (j := 0) rfl (by decide +kernel)) rfl rfl (fun r12 σ12 h12 => r_ret k_286_46 rfl rfl))))))))))
    (r_aload_n k_286_23 rfl rfl
    (r_iconst k_286_24 rfl rfl
    (r_callI (q_virt (rest := []) (as := [.int (ι 1)]) k_286_25 po_286 rfl rfl rfl (rcvO rfl rfl rfl) rfl rfl) (lvq (j := 0) rfl (by decide +kernel)) rfl rfl (fun r13 σ13 h13 => r_ret k_286_28 rfl rfl))))))))))))))))
/-! ===== 287 HedgeWantsModel.kept ===== -/
theorem k_287_0 : cd 287 0 = some (.aload_n 0, 1) := by decide +kernel
theorem k_287_1 : cd 287 1 = some (.iconst 0, 1) := by decide +kernel
theorem k_287_2 : cd 287 2 = some (.putfield 145, 3) := by decide +kernel
theorem k_287_5 : cd 287 5 = some (.aload_n 0, 1) := by decide +kernel
theorem k_287_6 : cd 287 6 = some (.iload_n 1, 1) := by decide +kernel
theorem k_287_7 : cd 287 7 = some (.invokevirtual 396, 3) := by decide +kernel
theorem k_287_10 : cd 287 10 = some (.ifCond .ne 9, 3) := by decide +kernel
theorem k_287_13 : cd 287 13 = some (.aload_n 0, 1) := by decide +kernel
theorem k_287_14 : cd 287 14 = some (.iconst 1, 1) := by decide +kernel
theorem k_287_15 : cd 287 15 = some (.invokevirtual 290, 3) := by decide +kernel
theorem k_287_18 : cd 287 18 = some (.ireturn, 1) := by decide +kernel
theorem k_287_19 : cd 287 19 = some (.aload_n 0, 1) := by decide +kernel
theorem k_287_20 : cd 287 20 = some (.aload_n 0, 1) := by decide +kernel
theorem k_287_21 : cd 287 21 = some (.getfield 99, 3) := by decide +kernel
theorem k_287_24 : cd 287 24 = some (.iconst 0, 1) := by decide +kernel
theorem k_287_25 : cd 287 25 = some (.invokevirtual 402, 3) := by decide +kernel
theorem k_287_28 : cd 287 28 = some (.aload_n 0, 1) := by decide +kernel
theorem k_287_29 : cd 287 29 = some (.iload_n 1, 1) := by decide +kernel
theorem k_287_30 : cd 287 30 = some (.invokevirtual 433, 3) := by decide +kernel
theorem k_287_33 : cd 287 33 = some (.ireturn, 1) := by decide +kernel
theorem po_287 : po 287 = 9 := rfl
theorem M_287  {x0 : Int32} {σ : pS} {ρ : Nat → Nat → Option Nat} (e : gR σ = ρ) (hL : LayR ρ) : Le
  (bI (pcall 264 [.ref 61, .int x0] (sI σ 61 4 (ι 0))) fun r1 σ1 => if ¬ r1 = (ι 0) then bV (pcall 271 [.ref 61, .ref 83, .int (ι 0)] σ1) fun σ2 => bI (pcall 288 [.ref 61, .int x0] σ2) fun r3 σ3 => some (1, .int r3, σ3) else bI (pcall 211 [.ref 61, .int (ι 1)] σ1) fun r4 σ4 => some (1, .int r4, σ4))
  (pcall 287 [.ref 61, .int x0] σ) := by
  show Le _ (den 287 0 0 [.ref 61, .int x0] [] σ)
  exact r_aload_n k_287_0 rfl rfl
    (r_iconst k_287_1 rfl rfl
    (r_putI k_287_2 rfl po_287 rfl rfl rfl
    (r_aload_n k_287_5 rfl rfl
    (r_iload_n k_287_6 rfl rfl
    (r_callI (q_virt (rest := []) (as := [.int x0]) k_287_7 po_287 rfl rfl rfl (rcvO rfl rfl rfl) rfl rfl) (lvq (j := 0) rfl (by decide +kernel)) rfl rfl (fun r1 σ1 h1 => r_if (tgt := 19) k_287_10 rfl rfl cop_ne
    (r_aload_n k_287_19 rfl rfl
    (r_aload_n k_287_20 rfl rfl
    (r_getR k_287_21 rfl po_287 rfl rfl rfl rfl (gRat (eC rfl h1 (eI e)) (LayR.at hL (i := 84) rfl))
    (r_iconst k_287_24 rfl rfl
    (r_callV (q_virt (rest := []) (as := [.ref 83, .int (ι 0)]) k_287_25 po_287 rfl rfl rfl (rcvO rfl rfl rfl) rfl rfl) (lvq (j := 0) rfl (by decide +kernel)) rfl rfl (fun _ σ2 h2 => r_aload_n k_287_28 rfl rfl
    (r_iload_n k_287_29 rfl rfl
    (r_callI (q_virt (rest := []) (as := [.int x0]) k_287_30 po_287 rfl rfl rfl (rcvO rfl rfl rfl) rfl rfl) (lvq (j := 0) rfl (by decide +kernel)) rfl rfl (fun r3 σ3 h3 => r_ret k_287_33 rfl rfl)))))))))
    (r_aload_n k_287_13 rfl rfl
    (r_iconst k_287_14 rfl rfl
    (r_callI (q_virt (rest := []) (as := [.int (ι 1)]) k_287_15 po_287 rfl rfl rfl (rcvO rfl rfl rfl) rfl rfl) (lvq (j := 0) rfl (by decide +kernel)) rfl rfl (fun r4 σ4 h4 => r_ret k_287_18 rfl rfl))))))))))
/-! ===== 288 HedgeWantsModel.takenIn ===== -/
theorem k_288_0 : cd 288 0 = some (.iconst (-1), 1) := by decide +kernel
theorem k_288_1 : cd 288 1 = some (.istore_n 2, 1) := by decide +kernel
theorem k_288_2 : cd 288 2 = some (.iconst 1, 1) := by decide +kernel
theorem k_288_3 : cd 288 3 = some (.istore_n 3, 1) := by decide +kernel
theorem k_288_4 : cd 288 4 = some (.iload_n 3, 1) := by decide +kernel
theorem k_288_5 : cd 288 5 = some (.bipush 60, 2) := by decide +kernel
theorem k_288_7 : cd 288 7 = some (.if_icmp .gt 31, 3) := by decide +kernel
theorem k_288_10 : cd 288 10 = some (.iload_n 2, 1) := by decide +kernel
theorem k_288_11 : cd 288 11 = some (.iconst (-1), 1) := by decide +kernel
theorem k_288_12 : cd 288 12 = some (.if_icmp .ne 26, 3) := by decide +kernel
theorem k_288_15 : cd 288 15 = some (.aload_n 0, 1) := by decide +kernel
theorem k_288_16 : cd 288 16 = some (.invokevirtual 356, 3) := by decide +kernel
theorem k_288_19 : cd 288 19 = some (.aload_n 0, 1) := by decide +kernel
theorem k_288_20 : cd 288 20 = some (.getfield 347, 3) := by decide +kernel
theorem k_288_23 : cd 288 23 = some (.iload_n 1, 1) := by decide +kernel
theorem k_288_24 : cd 288 24 = some (.invokestatic 269, 3) := by decide +kernel
theorem k_288_27 : cd 288 27 = some (.ifCond .eq 5, 3) := by decide +kernel
theorem k_288_30 : cd 288 30 = some (.iload_n 3, 1) := by decide +kernel
theorem k_288_31 : cd 288 31 = some (.istore_n 2, 1) := by decide +kernel
theorem k_288_32 : cd 288 32 = some (.iinc 3 1, 3) := by decide +kernel
theorem k_288_35 : cd 288 35 = some (.goto (-31), 3) := by decide +kernel
theorem k_288_38 : cd 288 38 = some (.aload_n 0, 1) := by decide +kernel
theorem k_288_39 : cd 288 39 = some (.aload_n 0, 1) := by decide +kernel
theorem k_288_40 : cd 288 40 = some (.getfield 99, 3) := by decide +kernel
theorem k_288_43 : cd 288 43 = some (.iconst 0, 1) := by decide +kernel
theorem k_288_44 : cd 288 44 = some (.invokevirtual 426, 3) := by decide +kernel
theorem k_288_47 : cd 288 47 = some (.iload_n 2, 1) := by decide +kernel
theorem k_288_48 : cd 288 48 = some (.ireturn, 1) := by decide +kernel
theorem po_288 : po 288 = 9 := rfl
noncomputable def C_288_4  (x1 : Int32) (x2 : Int32) (x3 : Int32) (σ : pS) : Option pZ := den 288 0 4 [.ref 61, .int x1, .int x2, .int x3] [] σ
theorem T_288_4  {x1 : Int32} {x2 : Int32} {x3 : Int32}  {σ : pS} {ρ : Nat → Nat → Option Nat} (e : gR σ = ρ) (hL : LayR ρ) : Le
  (if (ι 60) < x3 then bV (pcall 284 [.ref 61, .ref 83, .int (ι 0)] σ) fun σ1 => some (1, .int x2, σ1) else if ¬ x2 = (ν 1) then bV (pcall 284 [.ref 61, .ref 83, .int (ι 0)] σ) fun σ2 => some (1, .int x2, σ2) else bV (pcall 273 [.ref 61] σ) fun σ3 => bI (pcall 236 [.int (gI σ3 61 37), .int x1] σ3) fun r4 σ4 => if r4 = (ι 0) then C_288_4 x1 x2 (x3 + (ι 1)) σ4 else C_288_4 x1 x3 (x3 + (ι 1)) σ4)
  (C_288_4  x1 x2 x3 σ) := by
  unfold C_288_4
  exact r_iload_n k_288_4 rfl rfl
    (r_bipush k_288_5 rfl rfl
    (r_icmp (tgt := 38) k_288_7 rfl rfl cop_gt
    (r_aload_n k_288_38 rfl rfl
    (r_aload_n k_288_39 rfl rfl
    (r_getR k_288_40 rfl po_288 rfl rfl rfl rfl (gRat e (LayR.at hL (i := 84) rfl))
    (r_iconst k_288_43 rfl rfl
    (r_callV (q_virt (rest := []) (as := [.ref 83, .int (ι 0)]) k_288_44 po_288 rfl rfl rfl (rcvO rfl rfl rfl) rfl rfl) (lvq (j := 0) rfl (by decide +kernel)) rfl rfl (fun _ σ1 h1 => r_iload_n k_288_47 rfl rfl
    (r_ret k_288_48 rfl rfl)))))))
    (r_iload_n k_288_10 rfl rfl
    (r_iconst k_288_11 rfl rfl
    (r_icmp (tgt := 38) k_288_12 rfl rfl cop_ne
    (r_aload_n k_288_38 rfl rfl
    (r_aload_n k_288_39 rfl rfl
    (r_getR k_288_40 rfl po_288 rfl rfl rfl rfl (gRat e (LayR.at hL (i := 84) rfl))
    (r_iconst k_288_43 rfl rfl
    (r_callV (q_virt (rest := []) (as := [.ref 83, .int (ι 0)]) k_288_44 po_288 rfl rfl rfl (rcvO rfl rfl rfl) rfl rfl) (lvq (j := 0) rfl (by decide +kernel)) rfl rfl (fun _ σ2 h2 => r_iload_n k_288_47 rfl rfl
    (r_ret k_288_48 rfl rfl)))))))
    (r_aload_n k_288_15 rfl rfl
    (r_callV (q_virt (rest := []) (as := []) k_288_16 po_288 rfl rfl rfl (rcvO rfl rfl rfl) rfl rfl) (lvq (j := 0) rfl (by decide +kernel)) rfl rfl (fun _ σ3 h3 => r_aload_n k_288_19 rfl rfl
    (r_getI k_288_20 rfl po_288 rfl rfl rfl rfl
    (r_iload_n k_288_23 rfl rfl
    (r_callI (q_stat (rest := []) (av := [.int (gI σ3 61 37), .int x1]) k_288_24 po_288 rfl (by decide) rfl rfl rfl rfl) (lvq (j := 0) rfl (by decide +kernel)) rfl rfl (fun r4 σ4 h4 => r_if (tgt := 32) k_288_27 rfl rfl cop_eq
    (r_iinc k_288_32 rfl rfl rfl rfl
    (r_goto (tgt := 4) k_288_35 rfl (Le.rfl')))
    (r_iload_n k_288_30 rfl rfl
    (r_istore_n k_288_31 rfl rfl rfl
    (r_iinc k_288_32 rfl rfl rfl rfl
    (r_goto (tgt := 4) k_288_35 rfl (Le.rfl')))))))))))))))))
theorem M_288  {x0 : Int32} {σ : pS} {ρ : Nat → Nat → Option Nat} (e : gR σ = ρ) (hL : LayR ρ) : Le
  (C_288_4 x0 (ν 1) (ι 1) σ)
  (pcall 288 [.ref 61, .int x0] σ) := by
  show Le _ (den 288 0 0 [.ref 61, .int x0, .retAddr 0, .retAddr 0] [] σ)
  exact r_iconst k_288_0 rfl rfl
    (r_istore_n k_288_1 rfl rfl rfl
    (r_iconst k_288_2 rfl rfl
    (r_istore_n k_288_3 rfl rfl rfl
    (Le.rfl'))))
/-! ===== 289 HedgeWantsModel.held ===== -/
theorem k_289_0 : cd 289 0 = some (.aload_n 0, 1) := by decide +kernel
theorem k_289_1 : cd 289 1 = some (.iconst 0, 1) := by decide +kernel
theorem k_289_2 : cd 289 2 = some (.putfield 145, 3) := by decide +kernel
theorem k_289_5 : cd 289 5 = some (.aload_n 0, 1) := by decide +kernel
theorem k_289_6 : cd 289 6 = some (.iload_n 1, 1) := by decide +kernel
theorem k_289_7 : cd 289 7 = some (.invokevirtual 390, 3) := by decide +kernel
theorem k_289_10 : cd 289 10 = some (.ifCond .eq 11, 3) := by decide +kernel
theorem k_289_13 : cd 289 13 = some (.aload_n 0, 1) := by decide +kernel
theorem k_289_14 : cd 289 14 = some (.iload_n 2, 1) := by decide +kernel
theorem k_289_15 : cd 289 15 = some (.invokevirtual 396, 3) := by decide +kernel
theorem k_289_18 : cd 289 18 = some (.ifCond .ne 9, 3) := by decide +kernel
theorem k_289_21 : cd 289 21 = some (.aload_n 0, 1) := by decide +kernel
theorem k_289_22 : cd 289 22 = some (.iconst 1, 1) := by decide +kernel
theorem k_289_23 : cd 289 23 = some (.invokevirtual 290, 3) := by decide +kernel
theorem k_289_26 : cd 289 26 = some (.ireturn, 1) := by decide +kernel
theorem k_289_27 : cd 289 27 = some (.iload_n 3, 1) := by decide +kernel
theorem k_289_28 : cd 289 28 = some (.i2l, 1) := by decide +kernel
theorem k_289_29 : cd 289 29 = some (.lconst 1, 1) := by decide +kernel
theorem k_289_30 : cd 289 30 = some (.ldc2_w 431, 3) := by decide +kernel
theorem k_289_33 : cd 289 33 = some (.invokestatic 148, 3) := by decide +kernel
theorem k_289_36 : cd 289 36 = some (.ifCond .ne 9, 3) := by decide +kernel
theorem k_289_39 : cd 289 39 = some (.aload_n 0, 1) := by decide +kernel
theorem k_289_40 : cd 289 40 = some (.iconst 2, 1) := by decide +kernel
theorem k_289_41 : cd 289 41 = some (.invokevirtual 290, 3) := by decide +kernel
theorem k_289_44 : cd 289 44 = some (.ireturn, 1) := by decide +kernel
theorem k_289_45 : cd 289 45 = some (.aload_n 0, 1) := by decide +kernel
theorem k_289_46 : cd 289 46 = some (.aload_n 0, 1) := by decide +kernel
theorem k_289_47 : cd 289 47 = some (.getfield 99, 3) := by decide +kernel
theorem k_289_50 : cd 289 50 = some (.iconst 0, 1) := by decide +kernel
theorem k_289_51 : cd 289 51 = some (.invokevirtual 402, 3) := by decide +kernel
theorem k_289_54 : cd 289 54 = some (.iconst 0, 1) := by decide +kernel
theorem k_289_55 : cd 289 55 = some (.istore 4, 2) := by decide +kernel
theorem k_289_57 : cd 289 57 = some (.iconst 0, 1) := by decide +kernel
theorem k_289_58 : cd 289 58 = some (.istore 5, 2) := by decide +kernel
theorem k_289_60 : cd 289 60 = some (.iload 5, 2) := by decide +kernel
theorem k_289_62 : cd 289 62 = some (.iload_n 3, 1) := by decide +kernel
theorem k_289_63 : cd 289 63 = some (.if_icmp .ge 33, 3) := by decide +kernel
theorem k_289_66 : cd 289 66 = some (.aload_n 0, 1) := by decide +kernel
theorem k_289_67 : cd 289 67 = some (.invokevirtual 356, 3) := by decide +kernel
theorem k_289_70 : cd 289 70 = some (.iload 4, 2) := by decide +kernel
theorem k_289_72 : cd 289 72 = some (.aload_n 0, 1) := by decide +kernel
theorem k_289_73 : cd 289 73 = some (.getfield 77, 3) := by decide +kernel
theorem k_289_76 : cd 289 76 = some (.iload_n 2, 1) := by decide +kernel
theorem k_289_77 : cd 289 77 = some (.iaload, 1) := by decide +kernel
theorem k_289_78 : cd 289 78 = some (.iload_n 1, 1) := by decide +kernel
theorem k_289_79 : cd 289 79 = some (.if_icmp .ne 7, 3) := by decide +kernel
theorem k_289_82 : cd 289 82 = some (.iconst 1, 1) := by decide +kernel
theorem k_289_83 : cd 289 83 = some (.goto 4, 3) := by decide +kernel
theorem k_289_86 : cd 289 86 = some (.iconst 0, 1) := by decide +kernel
theorem k_289_87 : cd 289 87 = some (.iadd, 1) := by decide +kernel
theorem k_289_88 : cd 289 88 = some (.istore 4, 2) := by decide +kernel
theorem k_289_90 : cd 289 90 = some (.iinc 5 1, 3) := by decide +kernel
theorem k_289_93 : cd 289 93 = some (.goto (-33), 3) := by decide +kernel
theorem k_289_96 : cd 289 96 = some (.aload_n 0, 1) := by decide +kernel
theorem k_289_97 : cd 289 97 = some (.aload_n 0, 1) := by decide +kernel
theorem k_289_98 : cd 289 98 = some (.getfield 99, 3) := by decide +kernel
theorem k_289_101 : cd 289 101 = some (.iconst 0, 1) := by decide +kernel
theorem k_289_102 : cd 289 102 = some (.invokevirtual 426, 3) := by decide +kernel
theorem k_289_105 : cd 289 105 = some (.iload 4, 2) := by decide +kernel
theorem k_289_107 : cd 289 107 = some (.ireturn, 1) := by decide +kernel
theorem po_289 : po 289 = 9 := rfl
noncomputable def C_289_60  (x1 : Int32) (x2 : Int32) (x3 : Int32) (x4 : Int32) (x5 : Int32) (σ : pS) : Option pZ := den 289 0 60 [.ref 61, .int x1, .int x2, .int x3, .int x4, .int x5] [] σ
theorem T_289_60  {x1 : Int32} {x2 : Int32} {x3 : Int32} {x4 : Int32} {x5 : Int32}  {σ : pS} {ρ : Nat → Nat → Option Nat} (e : gR σ = ρ) (hL : LayR ρ) : Le
  (if x3 ≤ x5 then bV (pcall 284 [.ref 61, .ref 83, .int (ι 0)] σ) fun σ1 => some (1, .int x4, σ1) else bV (pcall 273 [.ref 61] σ) fun σ2 => gd (inb x2 12) (if ¬ (gI σ2 75 (ix x2)) = x1 then C_289_60 x1 x2 x3 (x4 + (ι 0)) (x5 + (ι 1)) σ2 else C_289_60 x1 x2 x3 (x4 + (ι 1)) (x5 + (ι 1)) σ2))
  (C_289_60  x1 x2 x3 x4 x5 σ) := by
  unfold C_289_60
  exact r_iload k_289_60 rfl rfl
    (r_iload_n k_289_62 rfl rfl
    (r_icmp (tgt := 96) k_289_63 rfl rfl cop_ge
    (r_aload_n k_289_96 rfl rfl
    (r_aload_n k_289_97 rfl rfl
    (r_getR k_289_98 rfl po_289 rfl rfl rfl rfl (gRat e (LayR.at hL (i := 84) rfl))
    (r_iconst k_289_101 rfl rfl
    (r_callV (q_virt (rest := []) (as := [.ref 83, .int (ι 0)]) k_289_102 po_289 rfl rfl rfl (rcvO rfl rfl rfl) rfl rfl) (lvq (j := 0) rfl (by decide +kernel)) rfl rfl (fun _ σ1 h1 => r_iload k_289_105 rfl rfl
    (r_ret k_289_107 rfl rfl)))))))
    (r_aload_n k_289_66 rfl rfl
    (r_callV (q_virt (rest := []) (as := []) k_289_67 po_289 rfl rfl rfl (rcvO rfl rfl rfl) rfl rfl) (lvq (j := 0) rfl (by decide +kernel)) rfl rfl (fun _ σ2 h2 => r_iload k_289_70 rfl rfl
    (r_aload_n k_289_72 rfl rfl
    (r_getR k_289_73 rfl po_289 rfl rfl rfl rfl (gRat (eC rfl h2 e) (LayR.at hL (i := 76) rfl))
    (r_iload_n k_289_76 rfl rfl
    (r_gd fun g => r_iald k_289_77 rfl rfl g
    (r_iload_n k_289_78 rfl rfl
    (r_icmp (tgt := 86) k_289_79 rfl rfl cop_ne
    (r_iconst k_289_86 rfl rfl
    (r_iadd k_289_87 rfl
    (r_istore k_289_88 rfl rfl rfl
    (r_iinc k_289_90 rfl rfl rfl rfl
    (r_goto (tgt := 60) k_289_93 rfl (Le.rfl'))))))
    (r_iconst k_289_82 rfl rfl
    (r_goto (tgt := 87) k_289_83 rfl (r_iadd k_289_87 rfl
    (r_istore k_289_88 rfl rfl rfl
    (r_iinc k_289_90 rfl rfl rfl rfl
    (r_goto (tgt := 60) k_289_93 rfl (Le.rfl'))))))))))))))))))
theorem M_289  {x0 : Int32} {x1 : Int32} {x2 : Int32} {σ : pS} {ρ : Nat → Nat → Option Nat} (e : gR σ = ρ) (hL : LayR ρ) : Le
  (bI (pcall 260 [.ref 61, .int x0] (sI σ 61 4 (ι 0))) fun r1 σ1 => if r1 = (ι 0) then bI (pcall 211 [.ref 61, .int (ι 1)] σ1) fun r2 σ2 => some (1, .int r2, σ2) else bI (pcall 264 [.ref 61, .int x1] σ1) fun r3 σ3 => if ¬ r3 = (ι 0) then bI (pcall 261 [.long x2.toInt64, .long (1 : Int64), .long (60 : Int64)] σ3) fun r4 σ4 => if ¬ r4 = (ι 0) then bV (pcall 271 [.ref 61, .ref 83, .int (ι 0)] σ4) fun σ5 => C_289_60 x0 x1 x2 (ι 0) (ι 0) σ5 else bI (pcall 211 [.ref 61, .int (ι 2)] σ4) fun r6 σ6 => some (1, .int r6, σ6) else bI (pcall 211 [.ref 61, .int (ι 1)] σ3) fun r7 σ7 => some (1, .int r7, σ7))
  (pcall 289 [.ref 61, .int x0, .int x1, .int x2] σ) := by
  show Le _ (den 289 0 0 [.ref 61, .int x0, .int x1, .int x2, .retAddr 0, .retAddr 0] [] σ)
  exact r_aload_n k_289_0 rfl rfl
    (r_iconst k_289_1 rfl rfl
    (r_putI k_289_2 rfl po_289 rfl rfl rfl
    (r_aload_n k_289_5 rfl rfl
    (r_iload_n k_289_6 rfl rfl
    (r_callI (q_virt (rest := []) (as := [.int x0]) k_289_7 po_289 rfl rfl rfl (rcvO rfl rfl rfl) rfl rfl) (lvq (j := 0) rfl (by decide +kernel)) rfl rfl (fun r1 σ1 h1 => r_if (tgt := 21) k_289_10 rfl rfl cop_eq
    (r_aload_n k_289_21 rfl rfl
    (r_iconst k_289_22 rfl rfl
    (r_callI (q_virt (rest := []) (as := [.int (ι 1)]) k_289_23 po_289 rfl rfl rfl (rcvO rfl rfl rfl) rfl rfl) (lvq (j := 0) rfl (by decide +kernel)) rfl rfl (fun r2 σ2 h2 => r_ret k_289_26 rfl rfl))))
    (r_aload_n k_289_13 rfl rfl
    (r_iload_n k_289_14 rfl rfl
    (r_callI (q_virt (rest := []) (as := [.int x1]) k_289_15 po_289 rfl rfl rfl (rcvO rfl rfl rfl) rfl rfl) (lvq (j := 0) rfl (by decide +kernel)) rfl rfl (fun r3 σ3 h3 => r_if (tgt := 27) k_289_18 rfl rfl cop_ne
    (r_iload_n k_289_27 rfl rfl
    (r_i2l k_289_28 rfl
    (r_lconst k_289_29 rfl rfl
    (r_ldc2 k_289_30 rfl po_289 rfl rfl
    (r_callI (q_stat (rest := []) (av := [.long x2.toInt64, .long (1 : Int64), .long (60 : Int64)]) k_289_33 po_289 rfl (by decide) rfl rfl rfl rfl) (lvq (j := 0) rfl (by decide +kernel)) rfl rfl (fun r4 σ4 h4 => r_if (tgt := 45) k_289_36 rfl rfl cop_ne
    (r_aload_n k_289_45 rfl rfl
    (r_aload_n k_289_46 rfl rfl
    (r_getR k_289_47 rfl po_289 rfl rfl rfl rfl (gRat (eC rfl h4 (eC rfl h3 (eC rfl h1 (eI e)))) (LayR.at hL (i := 84) rfl))
    (r_iconst k_289_50 rfl rfl
    (r_callV (q_virt (rest := []) (as := [.ref 83, .int (ι 0)]) k_289_51 po_289 rfl rfl rfl (rcvO rfl rfl rfl) rfl rfl) (lvq (j := 0) rfl (by decide +kernel)) rfl rfl (fun _ σ5 h5 => r_iconst k_289_54 rfl rfl
    (r_istore k_289_55 rfl rfl rfl
    (r_iconst k_289_57 rfl rfl
    (r_istore k_289_58 rfl rfl rfl
    (Le.rfl'))))))))))
    (r_aload_n k_289_39 rfl rfl
    (r_iconst k_289_40 rfl rfl
    (r_callI (q_virt (rest := []) (as := [.int (ι 2)]) k_289_41 po_289 rfl rfl rfl (rcvO rfl rfl rfl) rfl rfl) (lvq (j := 0) rfl (by decide +kernel)) rfl rfl (fun r6 σ6 h6 => r_ret k_289_44 rfl rfl))))))))))
    (r_aload_n k_289_21 rfl rfl
    (r_iconst k_289_22 rfl rfl
    (r_callI (q_virt (rest := []) (as := [.int (ι 1)]) k_289_23 po_289 rfl rfl rfl (rcvO rfl rfl rfl) rfl rfl) (lvq (j := 0) rfl (by decide +kernel)) rfl rfl (fun r7 σ7 h7 => r_ret k_289_26 rfl rfl))))))))))))))
/-! ===== 290 HedgeWantsModel.taken ===== -/
theorem k_290_0 : cd 290 0 = some (.aload_n 0, 1) := by decide +kernel
theorem k_290_1 : cd 290 1 = some (.iconst 0, 1) := by decide +kernel
theorem k_290_2 : cd 290 2 = some (.putfield 145, 3) := by decide +kernel
theorem k_290_5 : cd 290 5 = some (.aload_n 0, 1) := by decide +kernel
theorem k_290_6 : cd 290 6 = some (.iload_n 1, 1) := by decide +kernel
theorem k_290_7 : cd 290 7 = some (.invokevirtual 396, 3) := by decide +kernel
theorem k_290_10 : cd 290 10 = some (.ifCond .ne 9, 3) := by decide +kernel
theorem k_290_13 : cd 290 13 = some (.aload_n 0, 1) := by decide +kernel
theorem k_290_14 : cd 290 14 = some (.iconst 1, 1) := by decide +kernel
theorem k_290_15 : cd 290 15 = some (.invokevirtual 290, 3) := by decide +kernel
theorem k_290_18 : cd 290 18 = some (.ireturn, 1) := by decide +kernel
theorem k_290_19 : cd 290 19 = some (.iload_n 2, 1) := by decide +kernel
theorem k_290_20 : cd 290 20 = some (.i2l, 1) := by decide +kernel
theorem k_290_21 : cd 290 21 = some (.lconst 0, 1) := by decide +kernel
theorem k_290_22 : cd 290 22 = some (.ldc2_w 431, 3) := by decide +kernel
theorem k_290_25 : cd 290 25 = some (.invokestatic 148, 3) := by decide +kernel
theorem k_290_28 : cd 290 28 = some (.ifCond .ne 9, 3) := by decide +kernel
theorem k_290_31 : cd 290 31 = some (.aload_n 0, 1) := by decide +kernel
theorem k_290_32 : cd 290 32 = some (.iconst 2, 1) := by decide +kernel
theorem k_290_33 : cd 290 33 = some (.invokevirtual 290, 3) := by decide +kernel
theorem k_290_36 : cd 290 36 = some (.ireturn, 1) := by decide +kernel
theorem k_290_37 : cd 290 37 = some (.aload_n 0, 1) := by decide +kernel
theorem k_290_38 : cd 290 38 = some (.aload_n 0, 1) := by decide +kernel
theorem k_290_39 : cd 290 39 = some (.getfield 99, 3) := by decide +kernel
theorem k_290_42 : cd 290 42 = some (.iconst 0, 1) := by decide +kernel
theorem k_290_43 : cd 290 43 = some (.invokevirtual 402, 3) := by decide +kernel
theorem k_290_46 : cd 290 46 = some (.aload_n 0, 1) := by decide +kernel
theorem k_290_47 : cd 290 47 = some (.invokevirtual 436, 3) := by decide +kernel
theorem k_290_50 : cd 290 50 = some (.aload_n 0, 1) := by decide +kernel
theorem k_290_51 : cd 290 51 = some (.iload_n 2, 1) := by decide +kernel
theorem k_290_52 : cd 290 52 = some (.invokevirtual 414, 3) := by decide +kernel
theorem k_290_55 : cd 290 55 = some (.aload_n 0, 1) := by decide +kernel
theorem k_290_56 : cd 290 56 = some (.aload_n 0, 1) := by decide +kernel
theorem k_290_57 : cd 290 57 = some (.getfield 99, 3) := by decide +kernel
theorem k_290_60 : cd 290 60 = some (.iconst 0, 1) := by decide +kernel
theorem k_290_61 : cd 290 61 = some (.invokevirtual 426, 3) := by decide +kernel
theorem k_290_64 : cd 290 64 = some (.aload_n 0, 1) := by decide +kernel
theorem k_290_65 : cd 290 65 = some (.getfield 96, 3) := by decide +kernel
theorem k_290_68 : cd 290 68 = some (.iload_n 1, 1) := by decide +kernel
theorem k_290_69 : cd 290 69 = some (.iaload, 1) := by decide +kernel
theorem k_290_70 : cd 290 70 = some (.ireturn, 1) := by decide +kernel
theorem po_290 : po 290 = 9 := rfl
theorem M_290  {x0 : Int32} {x1 : Int32} {σ : pS} {ρ : Nat → Nat → Option Nat} (e : gR σ = ρ) (hL : LayR ρ) : Le
  (bI (pcall 264 [.ref 61, .int x0] (sI σ 61 4 (ι 0))) fun r1 σ1 => if ¬ r1 = (ι 0) then bI (pcall 261 [.long x1.toInt64, .long (0 : Int64), .long (60 : Int64)] σ1) fun r2 σ2 => if ¬ r2 = (ι 0) then bV (pcall 271 [.ref 61, .ref 83, .int (ι 0)] σ2) fun σ3 => bV (pcall 291 [.ref 61] σ3) fun σ4 => bV (pcall 272 [.ref 61, .int x1] σ4) fun σ5 => bV (pcall 284 [.ref 61, .ref 83, .int (ι 0)] σ5) fun σ6 => gd (inb x0 12) (some (1, .int (gI σ6 82 (ix x0)), σ6)) else bI (pcall 211 [.ref 61, .int (ι 2)] σ2) fun r7 σ7 => some (1, .int r7, σ7) else bI (pcall 211 [.ref 61, .int (ι 1)] σ1) fun r8 σ8 => some (1, .int r8, σ8))
  (pcall 290 [.ref 61, .int x0, .int x1] σ) := by
  show Le _ (den 290 0 0 [.ref 61, .int x0, .int x1] [] σ)
  exact r_aload_n k_290_0 rfl rfl
    (r_iconst k_290_1 rfl rfl
    (r_putI k_290_2 rfl po_290 rfl rfl rfl
    (r_aload_n k_290_5 rfl rfl
    (r_iload_n k_290_6 rfl rfl
    (r_callI (q_virt (rest := []) (as := [.int x0]) k_290_7 po_290 rfl rfl rfl (rcvO rfl rfl rfl) rfl rfl) (lvq (j := 0) rfl (by decide +kernel)) rfl rfl (fun r1 σ1 h1 => r_if (tgt := 19) k_290_10 rfl rfl cop_ne
    (r_iload_n k_290_19 rfl rfl
    (r_i2l k_290_20 rfl
    (r_lconst k_290_21 rfl rfl
    (r_ldc2 k_290_22 rfl po_290 rfl rfl
    (r_callI (q_stat (rest := []) (av := [.long x1.toInt64, .long (0 : Int64), .long (60 : Int64)]) k_290_25 po_290 rfl (by decide) rfl rfl rfl rfl) (lvq (j := 0) rfl (by decide +kernel)) rfl rfl (fun r2 σ2 h2 => r_if (tgt := 37) k_290_28 rfl rfl cop_ne
    (r_aload_n k_290_37 rfl rfl
    (r_aload_n k_290_38 rfl rfl
    (r_getR k_290_39 rfl po_290 rfl rfl rfl rfl (gRat (eC rfl h2 (eC rfl h1 (eI e))) (LayR.at hL (i := 84) rfl))
    (r_iconst k_290_42 rfl rfl
    (r_callV (q_virt (rest := []) (as := [.ref 83, .int (ι 0)]) k_290_43 po_290 rfl rfl rfl (rcvO rfl rfl rfl) rfl rfl) (lvq (j := 0) rfl (by decide +kernel)) rfl rfl (fun _ σ3 h3 => r_aload_n k_290_46 rfl rfl
    (r_callV (q_virt (rest := []) (as := []) k_290_47 po_290 rfl rfl rfl (rcvO rfl rfl rfl) rfl rfl) (lvq (j := 0) rfl (by decide +kernel)) rfl rfl (fun _ σ4 h4 => r_aload_n k_290_50 rfl rfl
    (r_iload_n k_290_51 rfl rfl
    (r_callV (q_virt (rest := []) (as := [.int x1]) k_290_52 po_290 rfl rfl rfl (rcvO rfl rfl rfl) rfl rfl) (lvq (j := 0) rfl (by decide +kernel)) rfl rfl (fun _ σ5 h5 => r_aload_n k_290_55 rfl rfl
    (r_aload_n k_290_56 rfl rfl
    (r_getR k_290_57 rfl po_290 rfl rfl rfl rfl (gRat (eC rfl h5 (eC rfl h4 (eC rfl h3 (eC rfl h2 (eC rfl h1 (eI e)))))) (LayR.at hL (i := 84) rfl))
    (r_iconst k_290_60 rfl rfl
    (r_callV (q_virt (rest := []) (as := [.ref 83, .int (ι 0)]) k_290_61 po_290 rfl rfl rfl (rcvO rfl rfl rfl) rfl rfl) (lvq (j := 0) rfl (by decide +kernel)) rfl rfl (fun _ σ6 h6 => r_aload_n k_290_64 rfl rfl
    (r_getR k_290_65 rfl po_290 rfl rfl rfl rfl (gRat (eC rfl h6 (eC rfl h5 (eC rfl h4 (eC rfl h3 (eC rfl h2 (eC rfl h1 (eI e))))))) (LayR.at hL (i := 83) rfl))
    (r_iload_n k_290_68 rfl rfl
    (r_gd fun g => r_iald k_290_69 rfl rfl g
    (r_ret k_290_70 rfl rfl))))))))))))))))))))
    (r_aload_n k_290_31 rfl rfl
    (r_iconst k_290_32 rfl rfl
    (r_callI (q_virt (rest := []) (as := [.int (ι 2)]) k_290_33 po_290 rfl rfl rfl (rcvO rfl rfl rfl) rfl rfl) (lvq (j := 0) rfl (by decide +kernel)) rfl rfl (fun r7 σ7 h7 => r_ret k_290_36 rfl rfl))))))))))
    (r_aload_n k_290_13 rfl rfl
    (r_iconst k_290_14 rfl rfl
    (r_callI (q_virt (rest := []) (as := [.int (ι 1)]) k_290_15 po_290 rfl rfl rfl (rcvO rfl rfl rfl) rfl rfl) (lvq (j := 0) rfl (by decide +kernel)) rfl rfl (fun r8 σ8 h8 => r_ret k_290_18 rfl rfl))))))))))
/-! ===== 291 HedgeWantsModel.beginAnew ===== -/
theorem k_291_0 : cd 291 0 = some (.iconst 0, 1) := by decide +kernel
theorem k_291_1 : cd 291 1 = some (.istore_n 1, 1) := by decide +kernel
theorem k_291_2 : cd 291 2 = some (.iload_n 1, 1) := by decide +kernel
theorem k_291_3 : cd 291 3 = some (.bipush 12, 2) := by decide +kernel
theorem k_291_5 : cd 291 5 = some (.if_icmp .ge 16, 3) := by decide +kernel
theorem k_291_8 : cd 291 8 = some (.aload_n 0, 1) := by decide +kernel
theorem k_291_9 : cd 291 9 = some (.getfield 96, 3) := by decide +kernel
theorem k_291_12 : cd 291 12 = some (.iload_n 1, 1) := by decide +kernel
theorem k_291_13 : cd 291 13 = some (.iconst 0, 1) := by decide +kernel
theorem k_291_14 : cd 291 14 = some (.iastore, 1) := by decide +kernel
theorem k_291_15 : cd 291 15 = some (.iinc 1 1, 3) := by decide +kernel
theorem k_291_18 : cd 291 18 = some (.goto (-16), 3) := by decide +kernel
theorem k_291_21 : cd 291 21 = some (.return_, 1) := by decide +kernel
theorem po_291 : po 291 = 9 := rfl
noncomputable def C_291_2  (x1 : Int32) (σ : pS) : Option pZ := den 291 0 2 [.ref 61, .int x1] [] σ
theorem T_291_2  {x1 : Int32}  {σ : pS} {ρ : Nat → Nat → Option Nat} (e : gR σ = ρ) (hL : LayR ρ) : Le
  (if (ι 12) ≤ x1 then some (0, .null, σ) else gd (inb x1 12) (C_291_2 (x1 + (ι 1)) (sI σ 82 (ix x1) (ι 0))))
  (C_291_2  x1 σ) := by
  unfold C_291_2
  exact r_iload_n k_291_2 rfl rfl
    (r_bipush k_291_3 rfl rfl
    (r_icmp (tgt := 21) k_291_5 rfl rfl cop_ge
    (r_retV k_291_21 rfl)
    (r_aload_n k_291_8 rfl rfl
    (r_getR k_291_9 rfl po_291 rfl rfl rfl rfl (gRat e (LayR.at hL (i := 83) rfl))
    (r_iload_n k_291_12 rfl rfl
    (r_iconst k_291_13 rfl rfl
    (r_gd fun g => r_iast k_291_14 rfl rfl g
    (r_iinc k_291_15 rfl rfl rfl rfl
    (r_goto (tgt := 2) k_291_18 rfl (Le.rfl'))))))))))
theorem M_291   {σ : pS} {ρ : Nat → Nat → Option Nat} (e : gR σ = ρ) (hL : LayR ρ) : Le
  (C_291_2 (ι 0) σ)
  (pcall 291 [.ref 61] σ) := by
  show Le _ (den 291 0 0 [.ref 61, .retAddr 0] [] σ)
  exact r_iconst k_291_0 rfl rfl
    (r_istore_n k_291_1 rfl rfl rfl
    (Le.rfl'))
/-! ===== 292 HedgeWantsModel.later ===== -/
theorem k_292_0 : cd 292 0 = some (.aload_n 0, 1) := by decide +kernel
theorem k_292_1 : cd 292 1 = some (.iconst 0, 1) := by decide +kernel
theorem k_292_2 : cd 292 2 = some (.putfield 145, 3) := by decide +kernel
theorem k_292_5 : cd 292 5 = some (.iload_n 2, 1) := by decide +kernel
theorem k_292_6 : cd 292 6 = some (.i2l, 1) := by decide +kernel
theorem k_292_7 : cd 292 7 = some (.lconst 0, 1) := by decide +kernel
theorem k_292_8 : cd 292 8 = some (.ldc2_w 439, 3) := by decide +kernel
theorem k_292_11 : cd 292 11 = some (.invokestatic 148, 3) := by decide +kernel
theorem k_292_14 : cd 292 14 = some (.ifCond .ne 9, 3) := by decide +kernel
theorem k_292_17 : cd 292 17 = some (.aload_n 0, 1) := by decide +kernel
theorem k_292_18 : cd 292 18 = some (.iconst 1, 1) := by decide +kernel
theorem k_292_19 : cd 292 19 = some (.invokevirtual 290, 3) := by decide +kernel
theorem k_292_22 : cd 292 22 = some (.ireturn, 1) := by decide +kernel
theorem k_292_23 : cd 292 23 = some (.iload_n 1, 1) := by decide +kernel
theorem k_292_24 : cd 292 24 = some (.i2l, 1) := by decide +kernel
theorem k_292_25 : cd 292 25 = some (.lconst 0, 1) := by decide +kernel
theorem k_292_26 : cd 292 26 = some (.ldc2_w 431, 3) := by decide +kernel
theorem k_292_29 : cd 292 29 = some (.invokestatic 148, 3) := by decide +kernel
theorem k_292_32 : cd 292 32 = some (.ifCond .ne 9, 3) := by decide +kernel
theorem k_292_35 : cd 292 35 = some (.aload_n 0, 1) := by decide +kernel
theorem k_292_36 : cd 292 36 = some (.iconst 2, 1) := by decide +kernel
theorem k_292_37 : cd 292 37 = some (.invokevirtual 290, 3) := by decide +kernel
theorem k_292_40 : cd 292 40 = some (.ireturn, 1) := by decide +kernel
theorem k_292_41 : cd 292 41 = some (.aload_n 0, 1) := by decide +kernel
theorem k_292_42 : cd 292 42 = some (.aload_n 0, 1) := by decide +kernel
theorem k_292_43 : cd 292 43 = some (.getfield 99, 3) := by decide +kernel
theorem k_292_46 : cd 292 46 = some (.iconst 0, 1) := by decide +kernel
theorem k_292_47 : cd 292 47 = some (.invokevirtual 402, 3) := by decide +kernel
theorem k_292_50 : cd 292 50 = some (.aload_n 0, 1) := by decide +kernel
theorem k_292_51 : cd 292 51 = some (.invokevirtual 436, 3) := by decide +kernel
theorem k_292_54 : cd 292 54 = some (.aload_n 0, 1) := by decide +kernel
theorem k_292_55 : cd 292 55 = some (.iload_n 1, 1) := by decide +kernel
theorem k_292_56 : cd 292 56 = some (.invokevirtual 414, 3) := by decide +kernel
theorem k_292_59 : cd 292 59 = some (.iload_n 2, 1) := by decide +kernel
theorem k_292_60 : cd 292 60 = some (.ifCond .ne 10, 3) := by decide +kernel
theorem k_292_63 : cd 292 63 = some (.aload_n 0, 1) := by decide +kernel
theorem k_292_64 : cd 292 64 = some (.invokevirtual 441, 3) := by decide +kernel
theorem k_292_67 : cd 292 67 = some (.goto 31, 3) := by decide +kernel
theorem k_292_70 : cd 292 70 = some (.iload_n 2, 1) := by decide +kernel
theorem k_292_71 : cd 292 71 = some (.iconst 1, 1) := by decide +kernel
theorem k_292_72 : cd 292 72 = some (.if_icmp .ne 10, 3) := by decide +kernel
theorem k_292_75 : cd 292 75 = some (.aload_n 0, 1) := by decide +kernel
theorem k_292_76 : cd 292 76 = some (.invokevirtual 444, 3) := by decide +kernel
theorem k_292_79 : cd 292 79 = some (.goto 19, 3) := by decide +kernel
theorem k_292_82 : cd 292 82 = some (.iload_n 2, 1) := by decide +kernel
theorem k_292_83 : cd 292 83 = some (.iconst 2, 1) := by decide +kernel
theorem k_292_84 : cd 292 84 = some (.if_icmp .ne 10, 3) := by decide +kernel
theorem k_292_87 : cd 292 87 = some (.aload_n 0, 1) := by decide +kernel
theorem k_292_88 : cd 292 88 = some (.invokevirtual 447, 3) := by decide +kernel
theorem k_292_91 : cd 292 91 = some (.goto 7, 3) := by decide +kernel
theorem k_292_94 : cd 292 94 = some (.aload_n 0, 1) := by decide +kernel
theorem k_292_95 : cd 292 95 = some (.invokevirtual 450, 3) := by decide +kernel
theorem k_292_98 : cd 292 98 = some (.istore_n 3, 1) := by decide +kernel
theorem k_292_99 : cd 292 99 = some (.aload_n 0, 1) := by decide +kernel
theorem k_292_100 : cd 292 100 = some (.aload_n 0, 1) := by decide +kernel
theorem k_292_101 : cd 292 101 = some (.getfield 99, 3) := by decide +kernel
theorem k_292_104 : cd 292 104 = some (.iconst 0, 1) := by decide +kernel
theorem k_292_105 : cd 292 105 = some (.invokevirtual 426, 3) := by decide +kernel
theorem k_292_108 : cd 292 108 = some (.iload_n 3, 1) := by decide +kernel
theorem k_292_109 : cd 292 109 = some (.ireturn, 1) := by decide +kernel
theorem po_292 : po 292 = 9 := rfl
theorem M_292  {x0 : Int32} {x1 : Int32} {σ : pS} {ρ : Nat → Nat → Option Nat} (e : gR σ = ρ) (hL : LayR ρ) : Le
  (bI (pcall 261 [.long x1.toInt64, .long (0 : Int64), .long (3 : Int64)] (sI σ 61 4 (ι 0))) fun r1 σ1 => if ¬ r1 = (ι 0) then bI (pcall 261 [.long x0.toInt64, .long (0 : Int64), .long (60 : Int64)] σ1) fun r2 σ2 => if ¬ r2 = (ι 0) then bV (pcall 271 [.ref 61, .ref 83, .int (ι 0)] σ2) fun σ3 => bV (pcall 291 [.ref 61] σ3) fun σ4 => bV (pcall 272 [.ref 61, .int x0] σ4) fun σ5 => if ¬ x1 = (ι 0) then if ¬ x1 = (ι 1) then if ¬ x1 = (ι 2) then bI (pcall 296 [.ref 61] σ5) fun r6 σ6 => bV (pcall 284 [.ref 61, .ref 83, .int (ι 0)] σ6) fun σ7 => some (1, .int r6, σ7) else bI (pcall 295 [.ref 61] σ5) fun r8 σ8 => bV (pcall 284 [.ref 61, .ref 83, .int (ι 0)] σ8) fun σ9 => some (1, .int r8, σ9) else bI (pcall 294 [.ref 61] σ5) fun r10 σ10 => bV (pcall 284 [.ref 61, .ref 83, .int (ι 0)] σ10) fun σ11 => some (1, .int r10, σ11) else bI (pcall 293 [.ref 61] σ5) fun r12 σ12 => bV (pcall 284 [.ref 61, .ref 83, .int (ι 0)] σ12) fun σ13 => some (1, .int r12, σ13) else bI (pcall 211 [.ref 61, .int (ι 2)] σ2) fun r14 σ14 => some (1, .int r14, σ14) else bI (pcall 211 [.ref 61, .int (ι 1)] σ1) fun r15 σ15 => some (1, .int r15, σ15))
  (pcall 292 [.ref 61, .int x0, .int x1] σ) := by
  show Le _ (den 292 0 0 [.ref 61, .int x0, .int x1, .retAddr 0] [] σ)
  exact r_aload_n k_292_0 rfl rfl
    (r_iconst k_292_1 rfl rfl
    (r_putI k_292_2 rfl po_292 rfl rfl rfl
    (r_iload_n k_292_5 rfl rfl
    (r_i2l k_292_6 rfl
    (r_lconst k_292_7 rfl rfl
    (r_ldc2 k_292_8 rfl po_292 rfl rfl
    (r_callI (q_stat (rest := []) (av := [.long x1.toInt64, .long (0 : Int64), .long (3 : Int64)]) k_292_11 po_292 rfl (by decide) rfl rfl rfl rfl) (lvq (j := 0) rfl (by decide +kernel)) rfl rfl (fun r1 σ1 h1 => r_if (tgt := 23) k_292_14 rfl rfl cop_ne
    (r_iload_n k_292_23 rfl rfl
    (r_i2l k_292_24 rfl
    (r_lconst k_292_25 rfl rfl
    (r_ldc2 k_292_26 rfl po_292 rfl rfl
    (r_callI (q_stat (rest := []) (av := [.long x0.toInt64, .long (0 : Int64), .long (60 : Int64)]) k_292_29 po_292 rfl (by decide) rfl rfl rfl rfl) (lvq (j := 0) rfl (by decide +kernel)) rfl rfl (fun r2 σ2 h2 => r_if (tgt := 41) k_292_32 rfl rfl cop_ne
    (r_aload_n k_292_41 rfl rfl
    (r_aload_n k_292_42 rfl rfl
    (r_getR k_292_43 rfl po_292 rfl rfl rfl rfl (gRat (eC rfl h2 (eC rfl h1 (eI e))) (LayR.at hL (i := 84) rfl))
    (r_iconst k_292_46 rfl rfl
    (r_callV (q_virt (rest := []) (as := [.ref 83, .int (ι 0)]) k_292_47 po_292 rfl rfl rfl (rcvO rfl rfl rfl) rfl rfl) (lvq (j := 0) rfl (by decide +kernel)) rfl rfl (fun _ σ3 h3 => r_aload_n k_292_50 rfl rfl
    (r_callV (q_virt (rest := []) (as := []) k_292_51 po_292 rfl rfl rfl (rcvO rfl rfl rfl) rfl rfl) (lvq (j := 0) rfl (by decide +kernel)) rfl rfl (fun _ σ4 h4 => r_aload_n k_292_54 rfl rfl
    (r_iload_n k_292_55 rfl rfl
    (r_callV (q_virt (rest := []) (as := [.int x0]) k_292_56 po_292 rfl rfl rfl (rcvO rfl rfl rfl) rfl rfl) (lvq (j := 0) rfl (by decide +kernel)) rfl rfl (fun _ σ5 h5 => r_iload_n k_292_59 rfl rfl
    (r_if (tgt := 70) k_292_60 rfl rfl cop_ne
    (r_iload_n k_292_70 rfl rfl
    (r_iconst k_292_71 rfl rfl
    (r_icmp (tgt := 82) k_292_72 rfl rfl cop_ne
    (r_iload_n k_292_82 rfl rfl
    (r_iconst k_292_83 rfl rfl
    (r_icmp (tgt := 94) k_292_84 rfl rfl cop_ne
    (r_aload_n k_292_94 rfl rfl
    (r_callI (q_virt (rest := []) (as := []) k_292_95 po_292 rfl rfl rfl (rcvO rfl rfl rfl) rfl rfl) (lvq (j := 0) rfl (by decide +kernel)) rfl rfl (fun r6 σ6 h6 => r_istore_n k_292_98 rfl rfl rfl
    (r_aload_n k_292_99 rfl rfl
    (r_aload_n k_292_100 rfl rfl
    (r_getR k_292_101 rfl po_292 rfl rfl rfl rfl (gRat (eC rfl h6 (eC rfl h5 (eC rfl h4 (eC rfl h3 (eC rfl h2 (eC rfl h1 (eI e))))))) (LayR.at hL (i := 84) rfl))
    (r_iconst k_292_104 rfl rfl
    (r_callV (q_virt (rest := []) (as := [.ref 83, .int (ι 0)]) k_292_105 po_292 rfl rfl rfl (rcvO rfl rfl rfl) rfl rfl) (lvq (j := 0) rfl (by decide +kernel)) rfl rfl (fun _ σ7 h7 => r_iload_n k_292_108 rfl rfl
    (r_ret k_292_109 rfl rfl))))))))))
    (r_aload_n k_292_87 rfl rfl
    (r_callI (q_virt (rest := []) (as := []) k_292_88 po_292 rfl rfl rfl (rcvO rfl rfl rfl) rfl rfl) (lvq (j := 0) rfl (by decide +kernel)) rfl rfl (fun r8 σ8 h8 => r_goto (tgt := 98) k_292_91 rfl (r_istore_n k_292_98 rfl rfl rfl
    (r_aload_n k_292_99 rfl rfl
    (r_aload_n k_292_100 rfl rfl
    (r_getR k_292_101 rfl po_292 rfl rfl rfl rfl (gRat (eC rfl h8 (eC rfl h5 (eC rfl h4 (eC rfl h3 (eC rfl h2 (eC rfl h1 (eI e))))))) (LayR.at hL (i := 84) rfl))
    (r_iconst k_292_104 rfl rfl
    (r_callV (q_virt (rest := []) (as := [.ref 83, .int (ι 0)]) k_292_105 po_292 rfl rfl rfl (rcvO rfl rfl rfl) rfl rfl) (lvq (j := 0) rfl (by decide +kernel)) rfl rfl (fun _ σ9 h9 => r_iload_n k_292_108 rfl rfl
    (r_ret k_292_109 rfl rfl))))))))))))))
    (r_aload_n k_292_75 rfl rfl
    (r_callI (q_virt (rest := []) (as := []) k_292_76 po_292 rfl rfl rfl (rcvO rfl rfl rfl) rfl rfl) (lvq (j := 0) rfl (by decide +kernel)) rfl rfl (fun r10 σ10 h10 => r_goto (tgt := 98) k_292_79 rfl (r_istore_n k_292_98 rfl rfl rfl
    (r_aload_n k_292_99 rfl rfl
    (r_aload_n k_292_100 rfl rfl
    (r_getR k_292_101 rfl po_292 rfl rfl rfl rfl (gRat (eC rfl h10 (eC rfl h5 (eC rfl h4 (eC rfl h3 (eC rfl h2 (eC rfl h1 (eI e))))))) (LayR.at hL (i := 84) rfl))
    (r_iconst k_292_104 rfl rfl
    (r_callV (q_virt (rest := []) (as := [.ref 83, .int (ι 0)]) k_292_105 po_292 rfl rfl rfl (rcvO rfl rfl rfl) rfl rfl) (lvq (j := 0) rfl (by decide +kernel)) rfl rfl (fun _ σ11 h11 => r_iload_n k_292_108 rfl rfl
    (r_ret k_292_109 rfl rfl))))))))))))))
    (r_aload_n k_292_63 rfl rfl
    (r_callI (q_virt (rest := []) (as := []) k_292_64 po_292 rfl rfl rfl (rcvO rfl rfl rfl) rfl rfl) (lvq (j := 0) rfl (by decide +kernel)) rfl rfl (fun r12 σ12 h12 => r_goto (tgt := 98) k_292_67 rfl (r_istore_n k_292_98 rfl rfl rfl
    (r_aload_n k_292_99 rfl rfl
    (r_aload_n k_292_100 rfl rfl
    (r_getR k_292_101 rfl po_292 rfl rfl rfl rfl (gRat (eC rfl h12 (eC rfl h5 (eC rfl h4 (eC rfl h3 (eC rfl h2 (eC rfl h1 (eI e))))))) (LayR.at hL (i := 84) rfl))
    (r_iconst k_292_104 rfl rfl
    (r_callV (q_virt (rest := []) (as := [.ref 83, .int (ι 0)]) k_292_105 po_292 rfl rfl rfl (rcvO rfl rfl rfl) rfl rfl) (lvq (j := 0) rfl (by decide +kernel)) rfl rfl (fun _ σ13 h13 => r_iload_n k_292_108 rfl rfl
    (r_ret k_292_109 rfl rfl)))))))))))))))))))))))
    (r_aload_n k_292_35 rfl rfl
    (r_iconst k_292_36 rfl rfl
    (r_callI (q_virt (rest := []) (as := [.int (ι 2)]) k_292_37 po_292 rfl rfl rfl (rcvO rfl rfl rfl) rfl rfl) (lvq (j := 0) rfl (by decide +kernel)) rfl rfl (fun r14 σ14 h14 => r_ret k_292_40 rfl rfl))))))))))
    (r_aload_n k_292_17 rfl rfl
    (r_iconst k_292_18 rfl rfl
    (r_callI (q_virt (rest := []) (as := [.int (ι 1)]) k_292_19 po_292 rfl rfl rfl (rcvO rfl rfl rfl) rfl rfl) (lvq (j := 0) rfl (by decide +kernel)) rfl rfl (fun r15 σ15 h15 => r_ret k_292_22 rfl rfl))))))))))))
/-! ===== 293 HedgeWantsModel.takenSum ===== -/
theorem k_293_0 : cd 293 0 = some (.iconst 0, 1) := by decide +kernel
theorem k_293_1 : cd 293 1 = some (.istore_n 1, 1) := by decide +kernel
theorem k_293_2 : cd 293 2 = some (.iconst 0, 1) := by decide +kernel
theorem k_293_3 : cd 293 3 = some (.istore_n 2, 1) := by decide +kernel
theorem k_293_4 : cd 293 4 = some (.iload_n 2, 1) := by decide +kernel
theorem k_293_5 : cd 293 5 = some (.aload_n 0, 1) := by decide +kernel
theorem k_293_6 : cd 293 6 = some (.getfield 44, 3) := by decide +kernel
theorem k_293_9 : cd 293 9 = some (.iconst 1, 1) := by decide +kernel
theorem k_293_10 : cd 293 10 = some (.iaload, 1) := by decide +kernel
theorem k_293_11 : cd 293 11 = some (.if_icmp .ge 18, 3) := by decide +kernel
theorem k_293_14 : cd 293 14 = some (.iload_n 1, 1) := by decide +kernel
theorem k_293_15 : cd 293 15 = some (.aload_n 0, 1) := by decide +kernel
theorem k_293_16 : cd 293 16 = some (.getfield 96, 3) := by decide +kernel
theorem k_293_19 : cd 293 19 = some (.iload_n 2, 1) := by decide +kernel
theorem k_293_20 : cd 293 20 = some (.iaload, 1) := by decide +kernel
theorem k_293_21 : cd 293 21 = some (.iadd, 1) := by decide +kernel
theorem k_293_22 : cd 293 22 = some (.istore_n 1, 1) := by decide +kernel
theorem k_293_23 : cd 293 23 = some (.iinc 2 1, 3) := by decide +kernel
theorem k_293_26 : cd 293 26 = some (.goto (-22), 3) := by decide +kernel
theorem k_293_29 : cd 293 29 = some (.iload_n 1, 1) := by decide +kernel
theorem k_293_30 : cd 293 30 = some (.ireturn, 1) := by decide +kernel
theorem po_293 : po 293 = 9 := rfl
noncomputable def C_293_4  (x1 : Int32) (x2 : Int32) (σ : pS) : Option pZ := den 293 0 4 [.ref 61, .int x1, .int x2] [] σ
theorem T_293_4  {x1 : Int32} {x2 : Int32}  {σ : pS} {ρ : Nat → Nat → Option Nat} (e : gR σ = ρ) (hL : LayR ρ) : Le
  (if (gI σ 65 1) ≤ x2 then some (1, .int x1, σ) else gd (inb x2 12) (C_293_4 (x1 + (gI σ 82 (ix x2))) (x2 + (ι 1)) σ))
  (C_293_4  x1 x2 σ) := by
  unfold C_293_4
  exact r_iload_n k_293_4 rfl rfl
    (r_aload_n k_293_5 rfl rfl
    (r_getR k_293_6 rfl po_293 rfl rfl rfl rfl (gRat e (LayR.at hL (i := 66) rfl))
    (r_iconst k_293_9 rfl rfl
    (r_iald k_293_10 rfl rfl (by decide)
    (r_icmp (tgt := 29) k_293_11 rfl rfl cop_ge
    (r_iload_n k_293_29 rfl rfl
    (r_ret k_293_30 rfl rfl))
    (r_iload_n k_293_14 rfl rfl
    (r_aload_n k_293_15 rfl rfl
    (r_getR k_293_16 rfl po_293 rfl rfl rfl rfl (gRat e (LayR.at hL (i := 83) rfl))
    (r_iload_n k_293_19 rfl rfl
    (r_gd fun g => r_iald k_293_20 rfl rfl g
    (r_iadd k_293_21 rfl
    (r_istore_n k_293_22 rfl rfl rfl
    (r_iinc k_293_23 rfl rfl rfl rfl
    (r_goto (tgt := 4) k_293_26 rfl (Le.rfl')))))))))))))))
theorem M_293   {σ : pS} {ρ : Nat → Nat → Option Nat} (e : gR σ = ρ) (hL : LayR ρ) : Le
  (C_293_4 (ι 0) (ι 0) σ)
  (pcall 293 [.ref 61] σ) := by
  show Le _ (den 293 0 0 [.ref 61, .retAddr 0, .retAddr 0] [] σ)
  exact r_iconst k_293_0 rfl rfl
    (r_istore_n k_293_1 rfl rfl rfl
    (r_iconst k_293_2 rfl rfl
    (r_istore_n k_293_3 rfl rfl rfl
    (Le.rfl'))))
/-! ===== 294 HedgeWantsModel.mostTaken ===== -/
theorem k_294_0 : cd 294 0 = some (.iconst (-1), 1) := by decide +kernel
theorem k_294_1 : cd 294 1 = some (.istore_n 1, 1) := by decide +kernel
theorem k_294_2 : cd 294 2 = some (.iconst 0, 1) := by decide +kernel
theorem k_294_3 : cd 294 3 = some (.istore_n 2, 1) := by decide +kernel
theorem k_294_4 : cd 294 4 = some (.iload_n 2, 1) := by decide +kernel
theorem k_294_5 : cd 294 5 = some (.aload_n 0, 1) := by decide +kernel
theorem k_294_6 : cd 294 6 = some (.getfield 44, 3) := by decide +kernel
theorem k_294_9 : cd 294 9 = some (.iconst 1, 1) := by decide +kernel
theorem k_294_10 : cd 294 10 = some (.iaload, 1) := by decide +kernel
theorem k_294_11 : cd 294 11 = some (.if_icmp .ge 35, 3) := by decide +kernel
theorem k_294_14 : cd 294 14 = some (.aload_n 0, 1) := by decide +kernel
theorem k_294_15 : cd 294 15 = some (.getfield 96, 3) := by decide +kernel
theorem k_294_18 : cd 294 18 = some (.iload_n 2, 1) := by decide +kernel
theorem k_294_19 : cd 294 19 = some (.iaload, 1) := by decide +kernel
theorem k_294_20 : cd 294 20 = some (.iload_n 1, 1) := by decide +kernel
theorem k_294_21 : cd 294 21 = some (.iconst (-1), 1) := by decide +kernel
theorem k_294_22 : cd 294 22 = some (.if_icmp .ne 7, 3) := by decide +kernel
theorem k_294_25 : cd 294 25 = some (.iconst 0, 1) := by decide +kernel
theorem k_294_26 : cd 294 26 = some (.goto 9, 3) := by decide +kernel
theorem k_294_29 : cd 294 29 = some (.aload_n 0, 1) := by decide +kernel
theorem k_294_30 : cd 294 30 = some (.getfield 96, 3) := by decide +kernel
theorem k_294_33 : cd 294 33 = some (.iload_n 1, 1) := by decide +kernel
theorem k_294_34 : cd 294 34 = some (.iaload, 1) := by decide +kernel
theorem k_294_35 : cd 294 35 = some (.if_icmp .le 5, 3) := by decide +kernel
theorem k_294_38 : cd 294 38 = some (.iload_n 2, 1) := by decide +kernel
theorem k_294_39 : cd 294 39 = some (.istore_n 1, 1) := by decide +kernel
theorem k_294_40 : cd 294 40 = some (.iinc 2 1, 3) := by decide +kernel
theorem k_294_43 : cd 294 43 = some (.goto (-39), 3) := by decide +kernel
theorem k_294_46 : cd 294 46 = some (.iload_n 1, 1) := by decide +kernel
theorem k_294_47 : cd 294 47 = some (.ireturn, 1) := by decide +kernel
theorem po_294 : po 294 = 9 := rfl
noncomputable def C_294_4  (x1 : Int32) (x2 : Int32) (σ : pS) : Option pZ := den 294 0 4 [.ref 61, .int x1, .int x2] [] σ
theorem T_294_4  {x1 : Int32} {x2 : Int32}  {σ : pS} {ρ : Nat → Nat → Option Nat} (e : gR σ = ρ) (hL : LayR ρ) : Le
  (if (gI σ 65 1) ≤ x2 then some (1, .int x1, σ) else gd (inb x2 12) (if ¬ x1 = (ν 1) then gd (inb x1 12) (if (gI σ 82 (ix x2)) ≤ (gI σ 82 (ix x1)) then C_294_4 x1 (x2 + (ι 1)) σ else C_294_4 x2 (x2 + (ι 1)) σ) else if (gI σ 82 (ix x2)) ≤ (ι 0) then C_294_4 x1 (x2 + (ι 1)) σ else C_294_4 x2 (x2 + (ι 1)) σ))
  (C_294_4  x1 x2 σ) := by
  unfold C_294_4
  exact r_iload_n k_294_4 rfl rfl
    (r_aload_n k_294_5 rfl rfl
    (r_getR k_294_6 rfl po_294 rfl rfl rfl rfl (gRat e (LayR.at hL (i := 66) rfl))
    (r_iconst k_294_9 rfl rfl
    (r_iald k_294_10 rfl rfl (by decide)
    (r_icmp (tgt := 46) k_294_11 rfl rfl cop_ge
    (r_iload_n k_294_46 rfl rfl
    (r_ret k_294_47 rfl rfl))
    (r_aload_n k_294_14 rfl rfl
    (r_getR k_294_15 rfl po_294 rfl rfl rfl rfl (gRat e (LayR.at hL (i := 83) rfl))
    (r_iload_n k_294_18 rfl rfl
    (r_gd fun g => r_iald k_294_19 rfl rfl g
    (r_iload_n k_294_20 rfl rfl
    (r_iconst k_294_21 rfl rfl
    (r_icmp (tgt := 29) k_294_22 rfl rfl cop_ne
    (r_aload_n k_294_29 rfl rfl
    (r_getR k_294_30 rfl po_294 rfl rfl rfl rfl (gRat e (LayR.at hL (i := 83) rfl))
    (r_iload_n k_294_33 rfl rfl
    (r_gd fun g => r_iald k_294_34 rfl rfl g
    (r_icmp (tgt := 40) k_294_35 rfl rfl cop_le
    (r_iinc k_294_40 rfl rfl rfl rfl
    (r_goto (tgt := 4) k_294_43 rfl (Le.rfl')))
    (r_iload_n k_294_38 rfl rfl
    (r_istore_n k_294_39 rfl rfl rfl
    (r_iinc k_294_40 rfl rfl rfl rfl
    (r_goto (tgt := 4) k_294_43 rfl (Le.rfl'))))))))))
    (r_iconst k_294_25 rfl rfl
    (r_goto (tgt := 35) k_294_26 rfl (r_icmp (tgt := 40) k_294_35 rfl rfl cop_le
    (r_iinc k_294_40 rfl rfl rfl rfl
    (r_goto (tgt := 4) k_294_43 rfl (Le.rfl')))
    (r_iload_n k_294_38 rfl rfl
    (r_istore_n k_294_39 rfl rfl rfl
    (r_iinc k_294_40 rfl rfl rfl rfl
    (r_goto (tgt := 4) k_294_43 rfl (Le.rfl'))))))))))))))))))))
theorem M_294   {σ : pS} {ρ : Nat → Nat → Option Nat} (e : gR σ = ρ) (hL : LayR ρ) : Le
  (C_294_4 (ν 1) (ι 0) σ)
  (pcall 294 [.ref 61] σ) := by
  show Le _ (den 294 0 0 [.ref 61, .retAddr 0, .retAddr 0] [] σ)
  exact r_iconst k_294_0 rfl rfl
    (r_istore_n k_294_1 rfl rfl rfl
    (r_iconst k_294_2 rfl rfl
    (r_istore_n k_294_3 rfl rfl rfl
    (Le.rfl'))))
/-! ===== 295 HedgeWantsModel.richest ===== -/
theorem k_295_0 : cd 295 0 = some (.iconst (-1), 1) := by decide +kernel
theorem k_295_1 : cd 295 1 = some (.istore_n 1, 1) := by decide +kernel
theorem k_295_2 : cd 295 2 = some (.iconst 0, 1) := by decide +kernel
theorem k_295_3 : cd 295 3 = some (.istore_n 2, 1) := by decide +kernel
theorem k_295_4 : cd 295 4 = some (.iload_n 2, 1) := by decide +kernel
theorem k_295_5 : cd 295 5 = some (.aload_n 0, 1) := by decide +kernel
theorem k_295_6 : cd 295 6 = some (.getfield 44, 3) := by decide +kernel
theorem k_295_9 : cd 295 9 = some (.iconst 0, 1) := by decide +kernel
theorem k_295_10 : cd 295 10 = some (.iaload, 1) := by decide +kernel
theorem k_295_11 : cd 295 11 = some (.if_icmp .ge 29, 3) := by decide +kernel
theorem k_295_14 : cd 295 14 = some (.iload_n 1, 1) := by decide +kernel
theorem k_295_15 : cd 295 15 = some (.iconst (-1), 1) := by decide +kernel
theorem k_295_16 : cd 295 16 = some (.if_icmp .eq 16, 3) := by decide +kernel
theorem k_295_19 : cd 295 19 = some (.aload_n 0, 1) := by decide +kernel
theorem k_295_20 : cd 295 20 = some (.iload_n 2, 1) := by decide +kernel
theorem k_295_21 : cd 295 21 = some (.invokevirtual 359, 3) := by decide +kernel
theorem k_295_24 : cd 295 24 = some (.aload_n 0, 1) := by decide +kernel
theorem k_295_25 : cd 295 25 = some (.iload_n 1, 1) := by decide +kernel
theorem k_295_26 : cd 295 26 = some (.invokevirtual 359, 3) := by decide +kernel
theorem k_295_29 : cd 295 29 = some (.if_icmp .le 5, 3) := by decide +kernel
theorem k_295_32 : cd 295 32 = some (.iload_n 2, 1) := by decide +kernel
theorem k_295_33 : cd 295 33 = some (.istore_n 1, 1) := by decide +kernel
theorem k_295_34 : cd 295 34 = some (.iinc 2 1, 3) := by decide +kernel
theorem k_295_37 : cd 295 37 = some (.goto (-33), 3) := by decide +kernel
theorem k_295_40 : cd 295 40 = some (.iload_n 1, 1) := by decide +kernel
theorem k_295_41 : cd 295 41 = some (.ireturn, 1) := by decide +kernel
theorem po_295 : po 295 = 9 := rfl
noncomputable def C_295_4  (x1 : Int32) (x2 : Int32) (σ : pS) : Option pZ := den 295 0 4 [.ref 61, .int x1, .int x2] [] σ
theorem T_295_4  {x1 : Int32} {x2 : Int32}  {σ : pS} {ρ : Nat → Nat → Option Nat} (e : gR σ = ρ) (hL : LayR ρ) : Le
  (if (gI σ 65 0) ≤ x2 then some (1, .int x1, σ) else if x1 = (ν 1) then C_295_4 x2 (x2 + (ι 1)) σ else bI (pcall 252 [.ref 61, .int x2] σ) fun r1 σ1 => bI (pcall 252 [.ref 61, .int x1] σ1) fun r2 σ2 => if r1 ≤ r2 then C_295_4 x1 (x2 + (ι 1)) σ2 else C_295_4 x2 (x2 + (ι 1)) σ2)
  (C_295_4  x1 x2 σ) := by
  unfold C_295_4
  exact r_iload_n k_295_4 rfl rfl
    (r_aload_n k_295_5 rfl rfl
    (r_getR k_295_6 rfl po_295 rfl rfl rfl rfl (gRat e (LayR.at hL (i := 66) rfl))
    (r_iconst k_295_9 rfl rfl
    (r_iald k_295_10 rfl rfl (by decide)
    (r_icmp (tgt := 40) k_295_11 rfl rfl cop_ge
    (r_iload_n k_295_40 rfl rfl
    (r_ret k_295_41 rfl rfl))
    (r_iload_n k_295_14 rfl rfl
    (r_iconst k_295_15 rfl rfl
    (r_icmp (tgt := 32) k_295_16 rfl rfl cop_eq
    (r_iload_n k_295_32 rfl rfl
    (r_istore_n k_295_33 rfl rfl rfl
    (r_iinc k_295_34 rfl rfl rfl rfl
    (r_goto (tgt := 4) k_295_37 rfl (Le.rfl')))))
    (r_aload_n k_295_19 rfl rfl
    (r_iload_n k_295_20 rfl rfl
    (r_callI (q_virt (rest := []) (as := [.int x2]) k_295_21 po_295 rfl rfl rfl (rcvO rfl rfl rfl) rfl rfl) (lvq (j := 0) rfl (by decide +kernel)) rfl rfl (fun r1 σ1 h1 => r_aload_n k_295_24 rfl rfl
    (r_iload_n k_295_25 rfl rfl
    (r_callI (q_virt (rest := [.int r1]) (as := [.int x1]) k_295_26 po_295 rfl rfl rfl (rcvO rfl rfl rfl) rfl rfl) (lvq (j := 0) rfl (by decide +kernel)) rfl rfl (fun r2 σ2 h2 => r_icmp (tgt := 34) k_295_29 rfl rfl cop_le
    (r_iinc k_295_34 rfl rfl rfl rfl
    (r_goto (tgt := 4) k_295_37 rfl (Le.rfl')))
    (r_iload_n k_295_32 rfl rfl
    (r_istore_n k_295_33 rfl rfl rfl
    (r_iinc k_295_34 rfl rfl rfl rfl
    (r_goto (tgt := 4) k_295_37 rfl (Le.rfl'))))))))))))))))))))
theorem M_295   {σ : pS} {ρ : Nat → Nat → Option Nat} (e : gR σ = ρ) (hL : LayR ρ) : Le
  (C_295_4 (ν 1) (ι 0) σ)
  (pcall 295 [.ref 61] σ) := by
  show Le _ (den 295 0 0 [.ref 61, .retAddr 0, .retAddr 0] [] σ)
  exact r_iconst k_295_0 rfl rfl
    (r_istore_n k_295_1 rfl rfl rfl
    (r_iconst k_295_2 rfl rfl
    (r_istore_n k_295_3 rfl rfl rfl
    (Le.rfl'))))
/-! ===== 296 HedgeWantsModel.haveNothing ===== -/
theorem k_296_0 : cd 296 0 = some (.iconst 0, 1) := by decide +kernel
theorem k_296_1 : cd 296 1 = some (.istore_n 1, 1) := by decide +kernel
theorem k_296_2 : cd 296 2 = some (.iconst 0, 1) := by decide +kernel
theorem k_296_3 : cd 296 3 = some (.istore_n 2, 1) := by decide +kernel
theorem k_296_4 : cd 296 4 = some (.iload_n 2, 1) := by decide +kernel
theorem k_296_5 : cd 296 5 = some (.aload_n 0, 1) := by decide +kernel
theorem k_296_6 : cd 296 6 = some (.getfield 44, 3) := by decide +kernel
theorem k_296_9 : cd 296 9 = some (.iconst 0, 1) := by decide +kernel
theorem k_296_10 : cd 296 10 = some (.iaload, 1) := by decide +kernel
theorem k_296_11 : cd 296 11 = some (.if_icmp .ge 27, 3) := by decide +kernel
theorem k_296_14 : cd 296 14 = some (.iload_n 1, 1) := by decide +kernel
theorem k_296_15 : cd 296 15 = some (.aload_n 0, 1) := by decide +kernel
theorem k_296_16 : cd 296 16 = some (.iload_n 2, 1) := by decide +kernel
theorem k_296_17 : cd 296 17 = some (.invokevirtual 331, 3) := by decide +kernel
theorem k_296_20 : cd 296 20 = some (.ifCond .ne 9, 3) := by decide +kernel
theorem k_296_23 : cd 296 23 = some (.iconst 1, 1) := by decide +kernel
theorem k_296_24 : cd 296 24 = some (.iload_n 2, 1) := by decide +kernel
theorem k_296_25 : cd 296 25 = some (.ishl, 1) := by decide +kernel
theorem k_296_26 : cd 296 26 = some (.goto 4, 3) := by decide +kernel
theorem k_296_29 : cd 296 29 = some (.iconst 0, 1) := by decide +kernel
theorem k_296_30 : cd 296 30 = some (.ior, 1) := by decide +kernel
theorem k_296_31 : cd 296 31 = some (.istore_n 1, 1) := by decide +kernel
theorem k_296_32 : cd 296 32 = some (.iinc 2 1, 3) := by decide +kernel
theorem k_296_35 : cd 296 35 = some (.goto (-31), 3) := by decide +kernel
theorem k_296_38 : cd 296 38 = some (.iload_n 1, 1) := by decide +kernel
theorem k_296_39 : cd 296 39 = some (.ireturn, 1) := by decide +kernel
theorem po_296 : po 296 = 9 := rfl
noncomputable def C_296_4  (x1 : Int32) (x2 : Int32) (σ : pS) : Option pZ := den 296 0 4 [.ref 61, .int x1, .int x2] [] σ
theorem T_296_4  {x1 : Int32} {x2 : Int32}  {σ : pS} {ρ : Nat → Nat → Option Nat} (e : gR σ = ρ) (hL : LayR ρ) : Le
  (if (gI σ 65 0) ≤ x2 then some (1, .int x1, σ) else bI (pcall 246 [.ref 61, .int x2] σ) fun r1 σ1 => if ¬ r1 = (ι 0) then C_296_4 (x1 ||| (ι 0)) (x2 + (ι 1)) σ1 else C_296_4 (x1 ||| (shl' (ι 1) x2)) (x2 + (ι 1)) σ1)
  (C_296_4  x1 x2 σ) := by
  unfold C_296_4
  exact r_iload_n k_296_4 rfl rfl
    (r_aload_n k_296_5 rfl rfl
    (r_getR k_296_6 rfl po_296 rfl rfl rfl rfl (gRat e (LayR.at hL (i := 66) rfl))
    (r_iconst k_296_9 rfl rfl
    (r_iald k_296_10 rfl rfl (by decide)
    (r_icmp (tgt := 38) k_296_11 rfl rfl cop_ge
    (r_iload_n k_296_38 rfl rfl
    (r_ret k_296_39 rfl rfl))
    (r_iload_n k_296_14 rfl rfl
    (r_aload_n k_296_15 rfl rfl
    (r_iload_n k_296_16 rfl rfl
    (r_callI (q_virt (rest := [.int x1]) (as := [.int x2]) k_296_17 po_296 rfl rfl rfl (rcvO rfl rfl rfl) rfl rfl) (lvq (j := 0) rfl (by decide +kernel)) rfl rfl (fun r1 σ1 h1 => r_if (tgt := 29) k_296_20 rfl rfl cop_ne
    (r_iconst k_296_29 rfl rfl
    (r_ior k_296_30 rfl
    (r_istore_n k_296_31 rfl rfl rfl
    (r_iinc k_296_32 rfl rfl rfl rfl
    (r_goto (tgt := 4) k_296_35 rfl (Le.rfl'))))))
    (r_iconst k_296_23 rfl rfl
    (r_iload_n k_296_24 rfl rfl
    (r_ishl k_296_25 rfl
    (r_goto (tgt := 30) k_296_26 rfl (r_ior k_296_30 rfl
    (r_istore_n k_296_31 rfl rfl rfl
    (r_iinc k_296_32 rfl rfl rfl rfl
    (r_goto (tgt := 4) k_296_35 rfl (Le.rfl')))))))))))))))))))
theorem M_296   {σ : pS} {ρ : Nat → Nat → Option Nat} (e : gR σ = ρ) (hL : LayR ρ) : Le
  (C_296_4 (ι 0) (ι 0) σ)
  (pcall 296 [.ref 61] σ) := by
  show Le _ (den 296 0 0 [.ref 61, .retAddr 0, .retAddr 0] [] σ)
  exact r_iconst k_296_0 rfl rfl
    (r_istore_n k_296_1 rfl rfl rfl
    (r_iconst k_296_2 rfl rfl
    (r_istore_n k_296_3 rfl rfl rfl
    (Le.rfl'))))
/-! ===== 297 HedgeWantsModel.rests ===== -/
theorem k_297_0 : cd 297 0 = some (.aload_n 0, 1) := by decide +kernel
theorem k_297_1 : cd 297 1 = some (.iconst 0, 1) := by decide +kernel
theorem k_297_2 : cd 297 2 = some (.putfield 145, 3) := by decide +kernel
theorem k_297_5 : cd 297 5 = some (.iload_n 1, 1) := by decide +kernel
theorem k_297_6 : cd 297 6 = some (.i2l, 1) := by decide +kernel
theorem k_297_7 : cd 297 7 = some (.lconst 0, 1) := by decide +kernel
theorem k_297_8 : cd 297 8 = some (.lconst 1, 1) := by decide +kernel
theorem k_297_9 : cd 297 9 = some (.invokestatic 148, 3) := by decide +kernel
theorem k_297_12 : cd 297 12 = some (.ifCond .ne 9, 3) := by decide +kernel
theorem k_297_15 : cd 297 15 = some (.aload_n 0, 1) := by decide +kernel
theorem k_297_16 : cd 297 16 = some (.iconst 1, 1) := by decide +kernel
theorem k_297_17 : cd 297 17 = some (.invokevirtual 290, 3) := by decide +kernel
theorem k_297_20 : cd 297 20 = some (.ireturn, 1) := by decide +kernel
theorem k_297_21 : cd 297 21 = some (.aload_n 0, 1) := by decide +kernel
theorem k_297_22 : cd 297 22 = some (.aload_n 0, 1) := by decide +kernel
theorem k_297_23 : cd 297 23 = some (.getfield 99, 3) := by decide +kernel
theorem k_297_26 : cd 297 26 = some (.iconst 0, 1) := by decide +kernel
theorem k_297_27 : cd 297 27 = some (.invokevirtual 402, 3) := by decide +kernel
theorem k_297_30 : cd 297 30 = some (.iload_n 1, 1) := by decide +kernel
theorem k_297_31 : cd 297 31 = some (.ifCond .ne 10, 3) := by decide +kernel
theorem k_297_34 : cd 297 34 = some (.aload_n 0, 1) := by decide +kernel
theorem k_297_35 : cd 297 35 = some (.invokevirtual 453, 3) := by decide +kernel
theorem k_297_38 : cd 297 38 = some (.goto 7, 3) := by decide +kernel
theorem k_297_41 : cd 297 41 = some (.aload_n 0, 1) := by decide +kernel
theorem k_297_42 : cd 297 42 = some (.invokevirtual 456, 3) := by decide +kernel
theorem k_297_45 : cd 297 45 = some (.istore_n 2, 1) := by decide +kernel
theorem k_297_46 : cd 297 46 = some (.aload_n 0, 1) := by decide +kernel
theorem k_297_47 : cd 297 47 = some (.aload_n 0, 1) := by decide +kernel
theorem k_297_48 : cd 297 48 = some (.getfield 99, 3) := by decide +kernel
theorem k_297_51 : cd 297 51 = some (.iconst 0, 1) := by decide +kernel
theorem k_297_52 : cd 297 52 = some (.invokevirtual 426, 3) := by decide +kernel
theorem k_297_55 : cd 297 55 = some (.iload_n 2, 1) := by decide +kernel
theorem k_297_56 : cd 297 56 = some (.ireturn, 1) := by decide +kernel
theorem po_297 : po 297 = 9 := rfl
theorem M_297  {x0 : Int32} {σ : pS} {ρ : Nat → Nat → Option Nat} (e : gR σ = ρ) (hL : LayR ρ) : Le
  (bI (pcall 261 [.long x0.toInt64, .long (0 : Int64), .long (1 : Int64)] (sI σ 61 4 (ι 0))) fun r1 σ1 => if ¬ r1 = (ι 0) then bV (pcall 271 [.ref 61, .ref 83, .int (ι 0)] σ1) fun σ2 => if ¬ x0 = (ι 0) then bI (pcall 299 [.ref 61] σ2) fun r3 σ3 => bV (pcall 284 [.ref 61, .ref 83, .int (ι 0)] σ3) fun σ4 => some (1, .int r3, σ4) else bI (pcall 298 [.ref 61] σ2) fun r5 σ5 => bV (pcall 284 [.ref 61, .ref 83, .int (ι 0)] σ5) fun σ6 => some (1, .int r5, σ6) else bI (pcall 211 [.ref 61, .int (ι 1)] σ1) fun r7 σ7 => some (1, .int r7, σ7))
  (pcall 297 [.ref 61, .int x0] σ) := by
  show Le _ (den 297 0 0 [.ref 61, .int x0, .retAddr 0] [] σ)
  exact r_aload_n k_297_0 rfl rfl
    (r_iconst k_297_1 rfl rfl
    (r_putI k_297_2 rfl po_297 rfl rfl rfl
    (r_iload_n k_297_5 rfl rfl
    (r_i2l k_297_6 rfl
    (r_lconst k_297_7 rfl rfl
    (r_lconst k_297_8 rfl rfl
    (r_callI (q_stat (rest := []) (av := [.long x0.toInt64, .long (0 : Int64), .long (1 : Int64)]) k_297_9 po_297 rfl (by decide) rfl rfl rfl rfl) (lvq (j := 0) rfl (by decide +kernel)) rfl rfl (fun r1 σ1 h1 => r_if (tgt := 21) k_297_12 rfl rfl cop_ne
    (r_aload_n k_297_21 rfl rfl
    (r_aload_n k_297_22 rfl rfl
    (r_getR k_297_23 rfl po_297 rfl rfl rfl rfl (gRat (eC rfl h1 (eI e)) (LayR.at hL (i := 84) rfl))
    (r_iconst k_297_26 rfl rfl
    (r_callV (q_virt (rest := []) (as := [.ref 83, .int (ι 0)]) k_297_27 po_297 rfl rfl rfl (rcvO rfl rfl rfl) rfl rfl) (lvq (j := 0) rfl (by decide +kernel)) rfl rfl (fun _ σ2 h2 => r_iload_n k_297_30 rfl rfl
    (r_if (tgt := 41) k_297_31 rfl rfl cop_ne
    (r_aload_n k_297_41 rfl rfl
    (r_callI (q_virt (rest := []) (as := []) k_297_42 po_297 rfl rfl rfl (rcvO rfl rfl rfl) rfl rfl) (lvq (j := 0) rfl (by decide +kernel)) rfl rfl (fun r3 σ3 h3 => r_istore_n k_297_45 rfl rfl rfl
    (r_aload_n k_297_46 rfl rfl
    (r_aload_n k_297_47 rfl rfl
    (r_getR k_297_48 rfl po_297 rfl rfl rfl rfl (gRat (eC rfl h3 (eC rfl h2 (eC rfl h1 (eI e)))) (LayR.at hL (i := 84) rfl))
    (r_iconst k_297_51 rfl rfl
    (r_callV (q_virt (rest := []) (as := [.ref 83, .int (ι 0)]) k_297_52 po_297 rfl rfl rfl (rcvO rfl rfl rfl) rfl rfl) (lvq (j := 0) rfl (by decide +kernel)) rfl rfl (fun _ σ4 h4 => r_iload_n k_297_55 rfl rfl
    (r_ret k_297_56 rfl rfl))))))))))
    (r_aload_n k_297_34 rfl rfl
    (r_callI (q_virt (rest := []) (as := []) k_297_35 po_297 rfl rfl rfl (rcvO rfl rfl rfl) rfl rfl) (lvq (j := 0) rfl (by decide +kernel)) rfl rfl (fun r5 σ5 h5 => r_goto (tgt := 45) k_297_38 rfl (r_istore_n k_297_45 rfl rfl rfl
    (r_aload_n k_297_46 rfl rfl
    (r_aload_n k_297_47 rfl rfl
    (r_getR k_297_48 rfl po_297 rfl rfl rfl rfl (gRat (eC rfl h5 (eC rfl h2 (eC rfl h1 (eI e)))) (LayR.at hL (i := 84) rfl))
    (r_iconst k_297_51 rfl rfl
    (r_callV (q_virt (rest := []) (as := [.ref 83, .int (ι 0)]) k_297_52 po_297 rfl rfl rfl (rcvO rfl rfl rfl) rfl rfl) (lvq (j := 0) rfl (by decide +kernel)) rfl rfl (fun _ σ6 h6 => r_iload_n k_297_55 rfl rfl
    (r_ret k_297_56 rfl rfl))))))))))))))))))
    (r_aload_n k_297_15 rfl rfl
    (r_iconst k_297_16 rfl rfl
    (r_callI (q_virt (rest := []) (as := [.int (ι 1)]) k_297_17 po_297 rfl rfl rfl (rcvO rfl rfl rfl) rfl rfl) (lvq (j := 0) rfl (by decide +kernel)) rfl rfl (fun r7 σ7 h7 => r_ret k_297_20 rfl rfl))))))))))))
/-! ===== 298 HedgeWantsModel.calmBehind ===== -/
theorem k_298_0 : cd 298 0 = some (.iconst 0, 1) := by decide +kernel
theorem k_298_1 : cd 298 1 = some (.istore_n 1, 1) := by decide +kernel
theorem k_298_2 : cd 298 2 = some (.iconst 1, 1) := by decide +kernel
theorem k_298_3 : cd 298 3 = some (.istore_n 2, 1) := by decide +kernel
theorem k_298_4 : cd 298 4 = some (.iload_n 2, 1) := by decide +kernel
theorem k_298_5 : cd 298 5 = some (.bipush 60, 2) := by decide +kernel
theorem k_298_7 : cd 298 7 = some (.if_icmp .gt 22, 3) := by decide +kernel
theorem k_298_10 : cd 298 10 = some (.aload_n 0, 1) := by decide +kernel
theorem k_298_11 : cd 298 11 = some (.invokevirtual 356, 3) := by decide +kernel
theorem k_298_14 : cd 298 14 = some (.aload_n 0, 1) := by decide +kernel
theorem k_298_15 : cd 298 15 = some (.getfield 347, 3) := by decide +kernel
theorem k_298_18 : cd 298 18 = some (.ifCond .eq 5, 3) := by decide +kernel
theorem k_298_21 : cd 298 21 = some (.iload_n 2, 1) := by decide +kernel
theorem k_298_22 : cd 298 22 = some (.istore_n 1, 1) := by decide +kernel
theorem k_298_23 : cd 298 23 = some (.iinc 2 1, 3) := by decide +kernel
theorem k_298_26 : cd 298 26 = some (.goto (-22), 3) := by decide +kernel
theorem k_298_29 : cd 298 29 = some (.iload_n 1, 1) := by decide +kernel
theorem k_298_30 : cd 298 30 = some (.bipush 60, 2) := by decide +kernel
theorem k_298_32 : cd 298 32 = some (.if_icmp .ne 7, 3) := by decide +kernel
theorem k_298_35 : cd 298 35 = some (.iconst (-1), 1) := by decide +kernel
theorem k_298_36 : cd 298 36 = some (.goto 4, 3) := by decide +kernel
theorem k_298_39 : cd 298 39 = some (.iload_n 1, 1) := by decide +kernel
theorem k_298_40 : cd 298 40 = some (.ireturn, 1) := by decide +kernel
theorem po_298 : po 298 = 9 := rfl
noncomputable def C_298_4  (x1 : Int32) (x2 : Int32) (σ : pS) : Option pZ := den 298 0 4 [.ref 61, .int x1, .int x2] [] σ
theorem T_298_4  {x1 : Int32} {x2 : Int32}  {σ : pS} {ρ : Nat → Nat → Option Nat} (e : gR σ = ρ) (hL : LayR ρ) : Le
  (if (ι 60) < x2 then if ¬ x1 = (ι 60) then some (1, .int x1, σ) else some (1, .int (ν 1), σ) else bV (pcall 273 [.ref 61] σ) fun σ1 => if (gI σ1 61 37) = (ι 0) then C_298_4 x1 (x2 + (ι 1)) σ1 else C_298_4 x2 (x2 + (ι 1)) σ1)
  (C_298_4  x1 x2 σ) := by
  unfold C_298_4
  exact r_iload_n k_298_4 rfl rfl
    (r_bipush k_298_5 rfl rfl
    (r_icmp (tgt := 29) k_298_7 rfl rfl cop_gt
    (r_iload_n k_298_29 rfl rfl
    (r_bipush k_298_30 rfl rfl
    (r_icmp (tgt := 39) k_298_32 rfl rfl cop_ne
    (r_iload_n k_298_39 rfl rfl
    (r_ret k_298_40 rfl rfl))
    (r_iconst k_298_35 rfl rfl
    (r_goto (tgt := 40) k_298_36 rfl (r_ret k_298_40 rfl rfl))))))
    (r_aload_n k_298_10 rfl rfl
    (r_callV (q_virt (rest := []) (as := []) k_298_11 po_298 rfl rfl rfl (rcvO rfl rfl rfl) rfl rfl) (lvq (j := 0) rfl (by decide +kernel)) rfl rfl (fun _ σ1 h1 => r_aload_n k_298_14 rfl rfl
    (r_getI k_298_15 rfl po_298 rfl rfl rfl rfl
    (r_if (tgt := 23) k_298_18 rfl rfl cop_eq
    (r_iinc k_298_23 rfl rfl rfl rfl
    (r_goto (tgt := 4) k_298_26 rfl (Le.rfl')))
    (r_iload_n k_298_21 rfl rfl
    (r_istore_n k_298_22 rfl rfl rfl
    (r_iinc k_298_23 rfl rfl rfl rfl
    (r_goto (tgt := 4) k_298_26 rfl (Le.rfl'))))))))))))
theorem M_298   {σ : pS} {ρ : Nat → Nat → Option Nat} (e : gR σ = ρ) (hL : LayR ρ) : Le
  (C_298_4 (ι 0) (ι 1) σ)
  (pcall 298 [.ref 61] σ) := by
  show Le _ (den 298 0 0 [.ref 61, .retAddr 0, .retAddr 0] [] σ)
  exact r_iconst k_298_0 rfl rfl
    (r_istore_n k_298_1 rfl rfl rfl
    (r_iconst k_298_2 rfl rfl
    (r_istore_n k_298_3 rfl rfl rfl
    (Le.rfl'))))
/-! ===== 299 HedgeWantsModel.roundBehind ===== -/
theorem k_299_0 : cd 299 0 = some (.iconst 0, 1) := by decide +kernel
theorem k_299_1 : cd 299 1 = some (.istore_n 1, 1) := by decide +kernel
theorem k_299_2 : cd 299 2 = some (.iconst 1, 1) := by decide +kernel
theorem k_299_3 : cd 299 3 = some (.istore_n 2, 1) := by decide +kernel
theorem k_299_4 : cd 299 4 = some (.iload_n 2, 1) := by decide +kernel
theorem k_299_5 : cd 299 5 = some (.bipush 60, 2) := by decide +kernel
theorem k_299_7 : cd 299 7 = some (.if_icmp .gt 88, 3) := by decide +kernel
theorem k_299_10 : cd 299 10 = some (.aload_n 0, 1) := by decide +kernel
theorem k_299_11 : cd 299 11 = some (.invokevirtual 356, 3) := by decide +kernel
theorem k_299_14 : cd 299 14 = some (.iconst 1, 1) := by decide +kernel
theorem k_299_15 : cd 299 15 = some (.istore_n 3, 1) := by decide +kernel
theorem k_299_16 : cd 299 16 = some (.iconst 0, 1) := by decide +kernel
theorem k_299_17 : cd 299 17 = some (.istore 4, 2) := by decide +kernel
theorem k_299_19 : cd 299 19 = some (.iload 4, 2) := by decide +kernel
theorem k_299_21 : cd 299 21 = some (.aload_n 0, 1) := by decide +kernel
theorem k_299_22 : cd 299 22 = some (.getfield 44, 3) := by decide +kernel
theorem k_299_25 : cd 299 25 = some (.iconst 1, 1) := by decide +kernel
theorem k_299_26 : cd 299 26 = some (.iaload, 1) := by decide +kernel
theorem k_299_27 : cd 299 27 = some (.if_icmp .ge 38, 3) := by decide +kernel
theorem k_299_30 : cd 299 30 = some (.iload_n 3, 1) := by decide +kernel
theorem k_299_31 : cd 299 31 = some (.ifCond .eq 26, 3) := by decide +kernel
theorem k_299_34 : cd 299 34 = some (.aload_n 0, 1) := by decide +kernel
theorem k_299_35 : cd 299 35 = some (.getfield 77, 3) := by decide +kernel
theorem k_299_38 : cd 299 38 = some (.iload 4, 2) := by decide +kernel
theorem k_299_40 : cd 299 40 = some (.iaload, 1) := by decide +kernel
theorem k_299_41 : cd 299 41 = some (.aload_n 0, 1) := by decide +kernel
theorem k_299_42 : cd 299 42 = some (.getfield 99, 3) := by decide +kernel
theorem k_299_45 : cd 299 45 = some (.iconst 1, 1) := by decide +kernel
theorem k_299_46 : cd 299 46 = some (.iload 4, 2) := by decide +kernel
theorem k_299_48 : cd 299 48 = some (.iadd, 1) := by decide +kernel
theorem k_299_49 : cd 299 49 = some (.iaload, 1) := by decide +kernel
theorem k_299_50 : cd 299 50 = some (.if_icmp .ne 7, 3) := by decide +kernel
theorem k_299_53 : cd 299 53 = some (.iconst 1, 1) := by decide +kernel
theorem k_299_54 : cd 299 54 = some (.goto 4, 3) := by decide +kernel
theorem k_299_57 : cd 299 57 = some (.iconst 0, 1) := by decide +kernel
theorem k_299_58 : cd 299 58 = some (.istore_n 3, 1) := by decide +kernel
theorem k_299_59 : cd 299 59 = some (.iinc 4 1, 3) := by decide +kernel
theorem k_299_62 : cd 299 62 = some (.goto (-43), 3) := by decide +kernel
theorem k_299_65 : cd 299 65 = some (.iload_n 3, 1) := by decide +kernel
theorem k_299_66 : cd 299 66 = some (.ifCond .eq 9, 3) := by decide +kernel
theorem k_299_69 : cd 299 69 = some (.iload_n 1, 1) := by decide +kernel
theorem k_299_70 : cd 299 70 = some (.ifCond .eq 5, 3) := by decide +kernel
theorem k_299_73 : cd 299 73 = some (.iload_n 2, 1) := by decide +kernel
theorem k_299_74 : cd 299 74 = some (.ireturn, 1) := by decide +kernel
theorem k_299_75 : cd 299 75 = some (.iload_n 1, 1) := by decide +kernel
theorem k_299_76 : cd 299 76 = some (.ifCond .ne 7, 3) := by decide +kernel
theorem k_299_79 : cd 299 79 = some (.iload_n 3, 1) := by decide +kernel
theorem k_299_80 : cd 299 80 = some (.ifCond .ne 7, 3) := by decide +kernel
theorem k_299_83 : cd 299 83 = some (.iconst 1, 1) := by decide +kernel
theorem k_299_84 : cd 299 84 = some (.goto 4, 3) := by decide +kernel
theorem k_299_87 : cd 299 87 = some (.iconst 0, 1) := by decide +kernel
theorem k_299_88 : cd 299 88 = some (.istore_n 1, 1) := by decide +kernel
theorem k_299_89 : cd 299 89 = some (.iinc 2 1, 3) := by decide +kernel
theorem k_299_92 : cd 299 92 = some (.goto (-88), 3) := by decide +kernel
theorem k_299_95 : cd 299 95 = some (.iconst (-1), 1) := by decide +kernel
theorem k_299_96 : cd 299 96 = some (.ireturn, 1) := by decide +kernel
theorem po_299 : po 299 = 9 := rfl
noncomputable def C_299_4  (x1 : Int32) (x2 : Int32) (v3 : Value) (v4 : Value) (σ : pS) : Option pZ := den 299 0 4 [.ref 61, .int x1, .int x2, v3, v4] [] σ
noncomputable def C_299_19  (x1 : Int32) (x2 : Int32) (x3 : Int32) (x4 : Int32) (σ : pS) : Option pZ := den 299 0 19 [.ref 61, .int x1, .int x2, .int x3, .int x4] [] σ
theorem T_299_4  {x1 : Int32} {x2 : Int32} {v3 : Value} {v4 : Value}  {σ : pS} {ρ : Nat → Nat → Option Nat} (e : gR σ = ρ) (hL : LayR ρ) : Le
  (if (ι 60) < x2 then some (1, .int (ν 1), σ) else bV (pcall 273 [.ref 61] σ) fun σ1 => C_299_19 x1 x2 (ι 1) (ι 0) σ1)
  (C_299_4  x1 x2 v3 v4 σ) := by
  unfold C_299_4
  exact r_iload_n k_299_4 rfl rfl
    (r_bipush k_299_5 rfl rfl
    (r_icmp (tgt := 95) k_299_7 rfl rfl cop_gt
    (r_iconst k_299_95 rfl rfl
    (r_ret k_299_96 rfl rfl))
    (r_aload_n k_299_10 rfl rfl
    (r_callV (q_virt (rest := []) (as := []) k_299_11 po_299 rfl rfl rfl (rcvO rfl rfl rfl) rfl rfl) (lvq (j := 0) rfl (by decide +kernel)) rfl rfl (fun _ σ1 h1 => r_iconst k_299_14 rfl rfl
    (r_istore_n k_299_15 rfl rfl rfl
    (r_iconst k_299_16 rfl rfl
    (r_istore k_299_17 rfl rfl rfl
    (Le.rfl')))))))))
theorem T_299_19  {x1 : Int32} {x2 : Int32} {x3 : Int32} {x4 : Int32}  {σ : pS} {ρ : Nat → Nat → Option Nat} (e : gR σ = ρ) (hL : LayR ρ) : Le
  (if (gI σ 65 1) ≤ x4 then if x3 = (ι 0) then if ¬ x1 = (ι 0) then C_299_4 (ι 1) (x2 + (ι 1)) (.int x3) (.int x4) σ else if ¬ x3 = (ι 0) then C_299_4 (ι 0) (x2 + (ι 1)) (.int x3) (.int x4) σ else C_299_4 (ι 1) (x2 + (ι 1)) (.int x3) (.int x4) σ else if x1 = (ι 0) then if ¬ x1 = (ι 0) then C_299_4 (ι 1) (x2 + (ι 1)) (.int x3) (.int x4) σ else if ¬ x3 = (ι 0) then C_299_4 (ι 0) (x2 + (ι 1)) (.int x3) (.int x4) σ else C_299_4 (ι 1) (x2 + (ι 1)) (.int x3) (.int x4) σ else some (1, .int x2, σ) else if x3 = (ι 0) then C_299_19 x1 x2 (ι 0) (x4 + (ι 1)) σ else gd (inb x4 12) (gd (inb ((ι 1) + x4) 129) (if ¬ (gI σ 75 (ix x4)) = (gI σ 83 (ix ((ι 1) + x4))) then C_299_19 x1 x2 (ι 0) (x4 + (ι 1)) σ else C_299_19 x1 x2 (ι 1) (x4 + (ι 1)) σ)))
  (C_299_19  x1 x2 x3 x4 σ) := by
  unfold C_299_19
  exact r_iload k_299_19 rfl rfl
    (r_aload_n k_299_21 rfl rfl
    (r_getR k_299_22 rfl po_299 rfl rfl rfl rfl (gRat e (LayR.at hL (i := 66) rfl))
    (r_iconst k_299_25 rfl rfl
    (r_iald k_299_26 rfl rfl (by decide)
    (r_icmp (tgt := 65) k_299_27 rfl rfl cop_ge
    (r_iload_n k_299_65 rfl rfl
    (r_if (tgt := 75) k_299_66 rfl rfl cop_eq
    (r_iload_n k_299_75 rfl rfl
    (r_if (tgt := 83) k_299_76 rfl rfl cop_ne
    (r_iconst k_299_83 rfl rfl
    (r_goto (tgt := 88) k_299_84 rfl (r_istore_n k_299_88 rfl rfl rfl
    (r_iinc k_299_89 rfl rfl rfl rfl
    (r_goto (tgt := 4) k_299_92 rfl (Le.rfl'))))))
    (r_iload_n k_299_79 rfl rfl
    (r_if (tgt := 87) k_299_80 rfl rfl cop_ne
    (r_iconst k_299_87 rfl rfl
    (r_istore_n k_299_88 rfl rfl rfl
    (r_iinc k_299_89 rfl rfl rfl rfl
    (r_goto (tgt := 4) k_299_92 rfl (Le.rfl')))))
    (r_iconst k_299_83 rfl rfl
    (r_goto (tgt := 88) k_299_84 rfl (r_istore_n k_299_88 rfl rfl rfl
    (r_iinc k_299_89 rfl rfl rfl rfl
    (r_goto (tgt := 4) k_299_92 rfl (Le.rfl'))))))))))
    (r_iload_n k_299_69 rfl rfl
    (r_if (tgt := 75) k_299_70 rfl rfl cop_eq
    (r_iload_n k_299_75 rfl rfl
    (r_if (tgt := 83) k_299_76 rfl rfl cop_ne
    (r_iconst k_299_83 rfl rfl
    (r_goto (tgt := 88) k_299_84 rfl (r_istore_n k_299_88 rfl rfl rfl
    (r_iinc k_299_89 rfl rfl rfl rfl
    (r_goto (tgt := 4) k_299_92 rfl (Le.rfl'))))))
    (r_iload_n k_299_79 rfl rfl
    (r_if (tgt := 87) k_299_80 rfl rfl cop_ne
    (r_iconst k_299_87 rfl rfl
    (r_istore_n k_299_88 rfl rfl rfl
    (r_iinc k_299_89 rfl rfl rfl rfl
    (r_goto (tgt := 4) k_299_92 rfl (Le.rfl')))))
    (r_iconst k_299_83 rfl rfl
    (r_goto (tgt := 88) k_299_84 rfl (r_istore_n k_299_88 rfl rfl rfl
    (r_iinc k_299_89 rfl rfl rfl rfl
    (r_goto (tgt := 4) k_299_92 rfl (Le.rfl'))))))))))
    (r_iload_n k_299_73 rfl rfl
    (r_ret k_299_74 rfl rfl))))))
    (r_iload_n k_299_30 rfl rfl
    (r_if (tgt := 57) k_299_31 rfl rfl cop_eq
    (r_iconst k_299_57 rfl rfl
    (r_istore_n k_299_58 rfl rfl rfl
    (r_iinc k_299_59 rfl rfl rfl rfl
    (r_goto (tgt := 19) k_299_62 rfl (Le.rfl')))))
    (r_aload_n k_299_34 rfl rfl
    (r_getR k_299_35 rfl po_299 rfl rfl rfl rfl (gRat e (LayR.at hL (i := 76) rfl))
    (r_iload k_299_38 rfl rfl
    (r_gd fun g => r_iald k_299_40 rfl rfl g
    (r_aload_n k_299_41 rfl rfl
    (r_getR k_299_42 rfl po_299 rfl rfl rfl rfl (gRat e (LayR.at hL (i := 84) rfl))
    (r_iconst k_299_45 rfl rfl
    (r_iload k_299_46 rfl rfl
    (r_iadd k_299_48 rfl
    (r_gd fun g => r_iald k_299_49 rfl rfl g
    (r_icmp (tgt := 57) k_299_50 rfl rfl cop_ne
    (r_iconst k_299_57 rfl rfl
    (r_istore_n k_299_58 rfl rfl rfl
    (r_iinc k_299_59 rfl rfl rfl rfl
    (r_goto (tgt := 19) k_299_62 rfl (Le.rfl')))))
    (r_iconst k_299_53 rfl rfl
    (r_goto (tgt := 58) k_299_54 rfl (r_istore_n k_299_58 rfl rfl rfl
    (r_iinc k_299_59 rfl rfl rfl rfl
    (r_goto (tgt := 19) k_299_62 rfl (Le.rfl'))))))))))))))))))))))))
theorem M_299   {σ : pS} {ρ : Nat → Nat → Option Nat} (e : gR σ = ρ) (hL : LayR ρ) : Le
  (C_299_4 (ι 0) (ι 1) (.retAddr 0) (.retAddr 0) σ)
  (pcall 299 [.ref 61] σ) := by
  show Le _ (den 299 0 0 [.ref 61, .retAddr 0, .retAddr 0, .retAddr 0, .retAddr 0] [] σ)
  exact r_iconst k_299_0 rfl rfl
    (r_istore_n k_299_1 rfl rfl rfl
    (r_iconst k_299_2 rfl rfl
    (r_istore_n k_299_3 rfl rfl rfl
    (Le.rfl'))))
/-! ===== 300 HedgeWantsModel.envies ===== -/
theorem k_300_0 : cd 300 0 = some (.aload_n 0, 1) := by decide +kernel
theorem k_300_1 : cd 300 1 = some (.iconst 0, 1) := by decide +kernel
theorem k_300_2 : cd 300 2 = some (.putfield 145, 3) := by decide +kernel
theorem k_300_5 : cd 300 5 = some (.aload_n 0, 1) := by decide +kernel
theorem k_300_6 : cd 300 6 = some (.iload_n 1, 1) := by decide +kernel
theorem k_300_7 : cd 300 7 = some (.invokevirtual 390, 3) := by decide +kernel
theorem k_300_10 : cd 300 10 = some (.ifCond .eq 20, 3) := by decide +kernel
theorem k_300_13 : cd 300 13 = some (.aload_n 0, 1) := by decide +kernel
theorem k_300_14 : cd 300 14 = some (.iload_n 2, 1) := by decide +kernel
theorem k_300_15 : cd 300 15 = some (.invokevirtual 390, 3) := by decide +kernel
theorem k_300_18 : cd 300 18 = some (.ifCond .eq 12, 3) := by decide +kernel
theorem k_300_21 : cd 300 21 = some (.aload_n 0, 1) := by decide +kernel
theorem k_300_22 : cd 300 22 = some (.iload_n 1, 1) := by decide +kernel
theorem k_300_23 : cd 300 23 = some (.iload_n 2, 1) := by decide +kernel
theorem k_300_24 : cd 300 24 = some (.invokevirtual 362, 3) := by decide +kernel
theorem k_300_27 : cd 300 27 = some (.goto 8, 3) := by decide +kernel
theorem k_300_30 : cd 300 30 = some (.aload_n 0, 1) := by decide +kernel
theorem k_300_31 : cd 300 31 = some (.iconst 1, 1) := by decide +kernel
theorem k_300_32 : cd 300 32 = some (.invokevirtual 423, 3) := by decide +kernel
theorem k_300_35 : cd 300 35 = some (.ireturn, 1) := by decide +kernel
theorem po_300 : po 300 = 9 := rfl
theorem M_300  {x0 : Int32} {x1 : Int32} {σ : pS} {ρ : Nat → Nat → Option Nat} (e : gR σ = ρ) (hL : LayR ρ) : Le
  (bI (pcall 260 [.ref 61, .int x0] (sI σ 61 4 (ι 0))) fun r1 σ1 => if r1 = (ι 0) then bI (pcall 282 [.ref 61, .int (ι 1)] σ1) fun r2 σ2 => gd (narrow .boolean (.int r2) = .int r2) (some (1, .int r2, σ2)) else bI (pcall 260 [.ref 61, .int x1] σ1) fun r3 σ3 => if r3 = (ι 0) then bI (pcall 282 [.ref 61, .int (ι 1)] σ3) fun r4 σ4 => gd (narrow .boolean (.int r4) = .int r4) (some (1, .int r4, σ4)) else bI (pcall 251 [.ref 61, .int x0, .int x1] σ3) fun r5 σ5 => gd (narrow .boolean (.int r5) = .int r5) (some (1, .int r5, σ5)))
  (pcall 300 [.ref 61, .int x0, .int x1] σ) := by
  show Le _ (den 300 0 0 [.ref 61, .int x0, .int x1] [] σ)
  exact r_aload_n k_300_0 rfl rfl
    (r_iconst k_300_1 rfl rfl
    (r_putI k_300_2 rfl po_300 rfl rfl rfl
    (r_aload_n k_300_5 rfl rfl
    (r_iload_n k_300_6 rfl rfl
    (r_callI (q_virt (rest := []) (as := [.int x0]) k_300_7 po_300 rfl rfl rfl (rcvO rfl rfl rfl) rfl rfl) (lvq (j := 0) rfl (by decide +kernel)) rfl rfl (fun r1 σ1 h1 => r_if (tgt := 30) k_300_10 rfl rfl cop_eq
    (r_aload_n k_300_30 rfl rfl
    (r_iconst k_300_31 rfl rfl
    (r_callI (q_virt (rest := []) (as := [.int (ι 1)]) k_300_32 po_300 rfl rfl rfl (rcvO rfl rfl rfl) rfl rfl) (lvq (j := 0) rfl (by decide +kernel)) rfl rfl (fun r2 σ2 h2 => r_gd fun g => r_ret k_300_35 rfl g))))
    (r_aload_n k_300_13 rfl rfl
    (r_iload_n k_300_14 rfl rfl
    (r_callI (q_virt (rest := []) (as := [.int x1]) k_300_15 po_300 rfl rfl rfl (rcvO rfl rfl rfl) rfl rfl) (lvq (j := 0) rfl (by decide +kernel)) rfl rfl (fun r3 σ3 h3 => r_if (tgt := 30) k_300_18 rfl rfl cop_eq
    (r_aload_n k_300_30 rfl rfl
    (r_iconst k_300_31 rfl rfl
    (r_callI (q_virt (rest := []) (as := [.int (ι 1)]) k_300_32 po_300 rfl rfl rfl (rcvO rfl rfl rfl) rfl rfl) (lvq (j := 0) rfl (by decide +kernel)) rfl rfl (fun r4 σ4 h4 => r_gd fun g => r_ret k_300_35 rfl g))))
    (r_aload_n k_300_21 rfl rfl
    (r_iload_n k_300_22 rfl rfl
    (r_iload_n k_300_23 rfl rfl
    (r_callI (q_virt (rest := []) (as := [.int x0, .int x1]) k_300_24 po_300 rfl rfl rfl (rcvO rfl rfl rfl) rfl rfl) (lvq (j := 0) rfl (by decide +kernel)) rfl rfl (fun r5 σ5 h5 => r_goto (tgt := 35) k_300_27 rfl (r_gd fun g => r_ret k_300_35 rfl g))))))))))))))))
/-! ===== 301 HedgeWantsModel.each ===== -/
theorem k_301_0 : cd 301 0 = some (.aload_n 0, 1) := by decide +kernel
theorem k_301_1 : cd 301 1 = some (.iconst 0, 1) := by decide +kernel
theorem k_301_2 : cd 301 2 = some (.putfield 145, 3) := by decide +kernel
theorem k_301_5 : cd 301 5 = some (.iload_n 1, 1) := by decide +kernel
theorem k_301_6 : cd 301 6 = some (.i2l, 1) := by decide +kernel
theorem k_301_7 : cd 301 7 = some (.ldc2_w 462, 3) := by decide +kernel
theorem k_301_10 : cd 301 10 = some (.aload_n 0, 1) := by decide +kernel
theorem k_301_11 : cd 301 11 = some (.getfield 44, 3) := by decide +kernel
theorem k_301_14 : cd 301 14 = some (.iconst 0, 1) := by decide +kernel
theorem k_301_15 : cd 301 15 = some (.iaload, 1) := by decide +kernel
theorem k_301_16 : cd 301 16 = some (.iconst 1, 1) := by decide +kernel
theorem k_301_17 : cd 301 17 = some (.isub, 1) := by decide +kernel
theorem k_301_18 : cd 301 18 = some (.i2l, 1) := by decide +kernel
theorem k_301_19 : cd 301 19 = some (.invokestatic 148, 3) := by decide +kernel
theorem k_301_22 : cd 301 22 = some (.ifCond .ne 9, 3) := by decide +kernel
theorem k_301_25 : cd 301 25 = some (.aload_n 0, 1) := by decide +kernel
theorem k_301_26 : cd 301 26 = some (.iconst 1, 1) := by decide +kernel
theorem k_301_27 : cd 301 27 = some (.invokevirtual 290, 3) := by decide +kernel
theorem k_301_30 : cd 301 30 = some (.ireturn, 1) := by decide +kernel
theorem k_301_31 : cd 301 31 = some (.aload_n 0, 1) := by decide +kernel
theorem k_301_32 : cd 301 32 = some (.invokevirtual 464, 3) := by decide +kernel
theorem k_301_35 : cd 301 35 = some (.iload_n 1, 1) := by decide +kernel
theorem k_301_36 : cd 301 36 = some (.iconst (-1), 1) := by decide +kernel
theorem k_301_37 : cd 301 37 = some (.if_icmp .ne 14, 3) := by decide +kernel
theorem k_301_40 : cd 301 40 = some (.aload_n 0, 1) := by decide +kernel
theorem k_301_41 : cd 301 41 = some (.getfield 103, 3) := by decide +kernel
theorem k_301_44 : cd 301 44 = some (.iconst 0, 1) := by decide +kernel
theorem k_301_45 : cd 301 45 = some (.iaload, 1) := by decide +kernel
theorem k_301_46 : cd 301 46 = some (.sipush 1000, 3) := by decide +kernel
theorem k_301_49 : cd 301 49 = some (.irem, 1) := by decide +kernel
theorem k_301_50 : cd 301 50 = some (.ireturn, 1) := by decide +kernel
theorem k_301_51 : cd 301 51 = some (.iconst 0, 1) := by decide +kernel
theorem k_301_52 : cd 301 52 = some (.istore_n 2, 1) := by decide +kernel
theorem k_301_53 : cd 301 53 = some (.iconst (-1), 1) := by decide +kernel
theorem k_301_54 : cd 301 54 = some (.istore_n 3, 1) := by decide +kernel
theorem k_301_55 : cd 301 55 = some (.iconst 0, 1) := by decide +kernel
theorem k_301_56 : cd 301 56 = some (.istore 4, 2) := by decide +kernel
theorem k_301_58 : cd 301 58 = some (.iload 4, 2) := by decide +kernel
theorem k_301_60 : cd 301 60 = some (.iload_n 1, 1) := by decide +kernel
theorem k_301_61 : cd 301 61 = some (.if_icmp .gt 74, 3) := by decide +kernel
theorem k_301_64 : cd 301 64 = some (.iconst (-1), 1) := by decide +kernel
theorem k_301_65 : cd 301 65 = some (.istore_n 3, 1) := by decide +kernel
theorem k_301_66 : cd 301 66 = some (.aload_n 0, 1) := by decide +kernel
theorem k_301_67 : cd 301 67 = some (.getfield 44, 3) := by decide +kernel
theorem k_301_70 : cd 301 70 = some (.iconst 1, 1) := by decide +kernel
theorem k_301_71 : cd 301 71 = some (.iaload, 1) := by decide +kernel
theorem k_301_72 : cd 301 72 = some (.iconst 1, 1) := by decide +kernel
theorem k_301_73 : cd 301 73 = some (.isub, 1) := by decide +kernel
theorem k_301_74 : cd 301 74 = some (.istore 5, 2) := by decide +kernel
theorem k_301_76 : cd 301 76 = some (.iload 5, 2) := by decide +kernel
theorem k_301_78 : cd 301 78 = some (.ifCond .lt 36, 3) := by decide +kernel
theorem k_301_81 : cd 301 81 = some (.aload_n 0, 1) := by decide +kernel
theorem k_301_82 : cd 301 82 = some (.iload 4, 2) := by decide +kernel
theorem k_301_84 : cd 301 84 = some (.iload 5, 2) := by decide +kernel
theorem k_301_86 : cd 301 86 = some (.iload_n 2, 1) := by decide +kernel
theorem k_301_87 : cd 301 87 = some (.invokevirtual 459, 3) := by decide +kernel
theorem k_301_90 : cd 301 90 = some (.aload_n 0, 1) := by decide +kernel
theorem k_301_91 : cd 301 91 = some (.getfield 103, 3) := by decide +kernel
theorem k_301_94 : cd 301 94 = some (.iload 4, 2) := by decide +kernel
theorem k_301_96 : cd 301 96 = some (.bipush 12, 2) := by decide +kernel
theorem k_301_98 : cd 301 98 = some (.ishl, 1) := by decide +kernel
theorem k_301_99 : cd 301 99 = some (.iload_n 2, 1) := by decide +kernel
theorem k_301_100 : cd 301 100 = some (.iadd, 1) := by decide +kernel
theorem k_301_101 : cd 301 101 = some (.iaload, 1) := by decide +kernel
theorem k_301_102 : cd 301 102 = some (.if_icmp .ne 6, 3) := by decide +kernel
theorem k_301_105 : cd 301 105 = some (.iload 5, 2) := by decide +kernel
theorem k_301_107 : cd 301 107 = some (.istore_n 3, 1) := by decide +kernel
theorem k_301_108 : cd 301 108 = some (.iinc 5 (-1), 3) := by decide +kernel
theorem k_301_111 : cd 301 111 = some (.goto (-35), 3) := by decide +kernel
theorem k_301_114 : cd 301 114 = some (.iload_n 2, 1) := by decide +kernel
theorem k_301_115 : cd 301 115 = some (.iload_n 3, 1) := by decide +kernel
theorem k_301_116 : cd 301 116 = some (.iconst (-1), 1) := by decide +kernel
theorem k_301_117 : cd 301 117 = some (.if_icmp .ne 7, 3) := by decide +kernel
theorem k_301_120 : cd 301 120 = some (.iconst 0, 1) := by decide +kernel
theorem k_301_121 : cd 301 121 = some (.goto 6, 3) := by decide +kernel
theorem k_301_124 : cd 301 124 = some (.iconst 1, 1) := by decide +kernel
theorem k_301_125 : cd 301 125 = some (.iload_n 3, 1) := by decide +kernel
theorem k_301_126 : cd 301 126 = some (.ishl, 1) := by decide +kernel
theorem k_301_127 : cd 301 127 = some (.ior, 1) := by decide +kernel
theorem k_301_128 : cd 301 128 = some (.istore_n 2, 1) := by decide +kernel
theorem k_301_129 : cd 301 129 = some (.iinc 4 1, 3) := by decide +kernel
theorem k_301_132 : cd 301 132 = some (.goto (-74), 3) := by decide +kernel
theorem k_301_135 : cd 301 135 = some (.iload_n 3, 1) := by decide +kernel
theorem k_301_136 : cd 301 136 = some (.ireturn, 1) := by decide +kernel
theorem po_301 : po 301 = 9 := rfl
noncomputable def C_301_58  (x1 : Int32) (x2 : Int32) (x3 : Int32) (x4 : Int32) (v5 : Value) (σ : pS) : Option pZ := den 301 0 58 [.ref 61, .int x1, .int x2, .int x3, .int x4, v5] [] σ
noncomputable def C_301_76  (x1 : Int32) (x2 : Int32) (x3 : Int32) (x4 : Int32) (x5 : Int32) (σ : pS) : Option pZ := den 301 0 76 [.ref 61, .int x1, .int x2, .int x3, .int x4, .int x5] [] σ
theorem T_301_58  {x1 : Int32} {x2 : Int32} {x3 : Int32} {x4 : Int32} {v5 : Value}  {σ : pS} {ρ : Nat → Nat → Option Nat} (e : gR σ = ρ) (hL : LayR ρ) : Le
  (if x1 < x4 then some (1, .int x3, σ) else C_301_76 x1 x2 (ν 1) x4 ((gI σ 65 1) - (ι 1)) σ)
  (C_301_58  x1 x2 x3 x4 v5 σ) := by
  unfold C_301_58
  exact r_iload k_301_58 rfl rfl
    (r_iload_n k_301_60 rfl rfl
    (r_icmp (tgt := 135) k_301_61 rfl rfl cop_gt
    (r_iload_n k_301_135 rfl rfl
    (r_ret k_301_136 rfl rfl))
    (r_iconst k_301_64 rfl rfl
    (r_istore_n k_301_65 rfl rfl rfl
    (r_aload_n k_301_66 rfl rfl
    (r_getR k_301_67 rfl po_301 rfl rfl rfl rfl (gRat e (LayR.at hL (i := 66) rfl))
    (r_iconst k_301_70 rfl rfl
    (r_iald k_301_71 rfl rfl (by decide)
    (r_iconst k_301_72 rfl rfl
    (r_isub k_301_73 rfl
    (r_istore k_301_74 rfl rfl rfl
    (Le.rfl'))))))))))))
theorem T_301_76  {x1 : Int32} {x2 : Int32} {x3 : Int32} {x4 : Int32} {x5 : Int32}  {σ : pS} {ρ : Nat → Nat → Option Nat} (e : gR σ = ρ) (hL : LayR ρ) : Le
  (if x5 < (ι 0) then if ¬ x3 = (ν 1) then C_301_58 x1 (x2 ||| (shl' (ι 1) x3)) x3 (x4 + (ι 1)) (.int x5) σ else C_301_58 x1 (x2 ||| (ι 0)) x3 (x4 + (ι 1)) (.int x5) σ else bI (pcall 303 [.ref 61, .int x4, .int x5, .int x2] σ) fun r1 σ1 => gd (inb ((shl' x4 (ι 12)) + x2) 36864) (if ¬ r1 = (gI σ1 84 (ix ((shl' x4 (ι 12)) + x2))) then C_301_76 x1 x2 x3 x4 (x5 + (ν 1)) σ1 else C_301_76 x1 x2 x5 x4 (x5 + (ν 1)) σ1))
  (C_301_76  x1 x2 x3 x4 x5 σ) := by
  unfold C_301_76
  exact r_iload k_301_76 rfl rfl
    (r_if (tgt := 114) k_301_78 rfl rfl cop_lt
    (r_iload_n k_301_114 rfl rfl
    (r_iload_n k_301_115 rfl rfl
    (r_iconst k_301_116 rfl rfl
    (r_icmp (tgt := 124) k_301_117 rfl rfl cop_ne
    (r_iconst k_301_124 rfl rfl
    (r_iload_n k_301_125 rfl rfl
    (r_ishl k_301_126 rfl
    (r_ior k_301_127 rfl
    (r_istore_n k_301_128 rfl rfl rfl
    (r_iinc k_301_129 rfl rfl rfl rfl
    (r_goto (tgt := 58) k_301_132 rfl (Le.rfl'))))))))
    (r_iconst k_301_120 rfl rfl
    (r_goto (tgt := 127) k_301_121 rfl (r_ior k_301_127 rfl
    (r_istore_n k_301_128 rfl rfl rfl
    (r_iinc k_301_129 rfl rfl rfl rfl
    (r_goto (tgt := 58) k_301_132 rfl (Le.rfl')))))))))))
    (r_aload_n k_301_81 rfl rfl
    (r_iload k_301_82 rfl rfl
    (r_iload k_301_84 rfl rfl
    (r_iload_n k_301_86 rfl rfl
    (r_callI (q_virt (rest := []) (as := [.int x4, .int x5, .int x2]) k_301_87 po_301 rfl rfl rfl (rcvO rfl rfl rfl) rfl rfl) (lvq (j := 0) rfl (by decide +kernel)) rfl rfl (fun r1 σ1 h1 => r_aload_n k_301_90 rfl rfl
    (r_getR k_301_91 rfl po_301 rfl rfl rfl rfl (gRat (eC rfl h1 e) (LayR.at hL (i := 85) rfl))
    (r_iload k_301_94 rfl rfl
    (r_bipush k_301_96 rfl rfl
    (r_ishl k_301_98 rfl
    (r_iload_n k_301_99 rfl rfl
    (r_iadd k_301_100 rfl
    (r_gd fun g => r_iald k_301_101 rfl rfl g
    (r_icmp (tgt := 108) k_301_102 rfl rfl cop_ne
    (r_iinc k_301_108 rfl rfl rfl rfl
    (r_goto (tgt := 76) k_301_111 rfl (Le.rfl')))
    (r_iload k_301_105 rfl rfl
    (r_istore_n k_301_107 rfl rfl rfl
    (r_iinc k_301_108 rfl rfl rfl rfl
    (r_goto (tgt := 76) k_301_111 rfl (Le.rfl'))))))))))))))))))))
theorem M_301  {x0 : Int32} {σ : pS} {ρ : Nat → Nat → Option Nat} (e : gR σ = ρ) (hL : LayR ρ) : Le
  (bI (pcall 261 [.long x0.toInt64, .long (-1 : Int64), .long (((gI (sI σ 61 4 (ι 0)) 65 0) - (ι 1)).toInt64)] (sI σ 61 4 (ι 0))) fun r1 σ1 => if ¬ r1 = (ι 0) then bV (pcall 302 [.ref 61] σ1) fun σ2 => if ¬ x0 = (ν 1) then C_301_58 x0 (ι 0) (ν 1) (ι 0) (.retAddr 0) σ2 else some (1, .int (irem' (gI σ2 84 0) (ι 1000)), σ2) else bI (pcall 211 [.ref 61, .int (ι 1)] σ1) fun r3 σ3 => some (1, .int r3, σ3))
  (pcall 301 [.ref 61, .int x0] σ) := by
  show Le _ (den 301 0 0 [.ref 61, .int x0, .retAddr 0, .retAddr 0, .retAddr 0, .retAddr 0] [] σ)
  exact r_aload_n k_301_0 rfl rfl
    (r_iconst k_301_1 rfl rfl
    (r_putI k_301_2 rfl po_301 rfl rfl rfl
    (r_iload_n k_301_5 rfl rfl
    (r_i2l k_301_6 rfl
    (r_ldc2 k_301_7 rfl po_301 rfl rfl
    (r_aload_n k_301_10 rfl rfl
    (r_getR k_301_11 rfl po_301 rfl rfl rfl rfl (gRat (eI e) (LayR.at hL (i := 66) rfl))
    (r_iconst k_301_14 rfl rfl
    (r_iald k_301_15 rfl rfl (by decide)
    (r_iconst k_301_16 rfl rfl
    (r_isub k_301_17 rfl
    (r_i2l k_301_18 rfl
    (r_callI (q_stat (rest := []) (av := [.long x0.toInt64, .long (-1 : Int64), .long (((gI (sI σ 61 4 (ι 0)) 65 0) - (ι 1)).toInt64)]) k_301_19 po_301 rfl (by decide) rfl rfl rfl rfl) (lvq (j := 0) rfl (by decide +kernel)) rfl rfl (fun r1 σ1 h1 => r_if (tgt := 31) k_301_22 rfl rfl cop_ne
    (r_aload_n k_301_31 rfl rfl
    (r_callV (q_virt (rest := []) (as := []) k_301_32 po_301 rfl rfl rfl (rcvO rfl rfl rfl) rfl rfl) (lvq (j := 0) rfl (by decide +kernel)) rfl rfl (fun _ σ2 h2 => r_iload_n k_301_35 rfl rfl
    (r_iconst k_301_36 rfl rfl
    (r_icmp (tgt := 51) k_301_37 rfl rfl cop_ne
    (r_iconst k_301_51 rfl rfl
    (r_istore_n k_301_52 rfl rfl rfl
    (r_iconst k_301_53 rfl rfl
    (r_istore_n k_301_54 rfl rfl rfl
    (r_iconst k_301_55 rfl rfl
    (r_istore k_301_56 rfl rfl rfl
    (Le.rfl')))))))
    (r_aload_n k_301_40 rfl rfl
    (r_getR k_301_41 rfl po_301 rfl rfl rfl rfl (gRat (eC rfl h2 (eC rfl h1 (eI e))) (LayR.at hL (i := 85) rfl))
    (r_iconst k_301_44 rfl rfl
    (r_iald k_301_45 rfl rfl (by decide)
    (r_sipush k_301_46 rfl rfl
    (r_irem k_301_49 rfl (by decide)
    (r_ret k_301_50 rfl rfl))))))))))))
    (r_aload_n k_301_25 rfl rfl
    (r_iconst k_301_26 rfl rfl
    (r_callI (q_virt (rest := []) (as := [.int (ι 1)]) k_301_27 po_301 rfl rfl rfl (rcvO rfl rfl rfl) rfl rfl) (lvq (j := 0) rfl (by decide +kernel)) rfl rfl (fun r3 σ3 h3 => r_ret k_301_30 rfl rfl))))))))))))))))))
/-! ===== 302 HedgeWantsModel.tellEach ===== -/
theorem k_302_0 : cd 302 0 = some (.iconst 0, 1) := by decide +kernel
theorem k_302_1 : cd 302 1 = some (.istore_n 1, 1) := by decide +kernel
theorem k_302_2 : cd 302 2 = some (.iload_n 1, 1) := by decide +kernel
theorem k_302_3 : cd 302 3 = some (.iconst 1, 1) := by decide +kernel
theorem k_302_4 : cd 302 4 = some (.aload_n 0, 1) := by decide +kernel
theorem k_302_5 : cd 302 5 = some (.getfield 44, 3) := by decide +kernel
theorem k_302_8 : cd 302 8 = some (.iconst 1, 1) := by decide +kernel
theorem k_302_9 : cd 302 9 = some (.iaload, 1) := by decide +kernel
theorem k_302_10 : cd 302 10 = some (.ishl, 1) := by decide +kernel
theorem k_302_11 : cd 302 11 = some (.if_icmp .ge 26, 3) := by decide +kernel
theorem k_302_14 : cd 302 14 = some (.aload_n 0, 1) := by decide +kernel
theorem k_302_15 : cd 302 15 = some (.getfield 103, 3) := by decide +kernel
theorem k_302_18 : cd 302 18 = some (.aload_n 0, 1) := by decide +kernel
theorem k_302_19 : cd 302 19 = some (.getfield 44, 3) := by decide +kernel
theorem k_302_22 : cd 302 22 = some (.iconst 0, 1) := by decide +kernel
theorem k_302_23 : cd 302 23 = some (.iaload, 1) := by decide +kernel
theorem k_302_24 : cd 302 24 = some (.bipush 12, 2) := by decide +kernel
theorem k_302_26 : cd 302 26 = some (.ishl, 1) := by decide +kernel
theorem k_302_27 : cd 302 27 = some (.iload_n 1, 1) := by decide +kernel
theorem k_302_28 : cd 302 28 = some (.iadd, 1) := by decide +kernel
theorem k_302_29 : cd 302 29 = some (.iconst 0, 1) := by decide +kernel
theorem k_302_30 : cd 302 30 = some (.iastore, 1) := by decide +kernel
theorem k_302_31 : cd 302 31 = some (.iinc 1 1, 3) := by decide +kernel
theorem k_302_34 : cd 302 34 = some (.goto (-32), 3) := by decide +kernel
theorem k_302_37 : cd 302 37 = some (.aload_n 0, 1) := by decide +kernel
theorem k_302_38 : cd 302 38 = some (.getfield 44, 3) := by decide +kernel
theorem k_302_41 : cd 302 41 = some (.iconst 0, 1) := by decide +kernel
theorem k_302_42 : cd 302 42 = some (.iaload, 1) := by decide +kernel
theorem k_302_43 : cd 302 43 = some (.iconst 1, 1) := by decide +kernel
theorem k_302_44 : cd 302 44 = some (.isub, 1) := by decide +kernel
theorem k_302_45 : cd 302 45 = some (.istore_n 1, 1) := by decide +kernel
theorem k_302_46 : cd 302 46 = some (.iload_n 1, 1) := by decide +kernel
theorem k_302_47 : cd 302 47 = some (.ifCond .lt 88, 3) := by decide +kernel
theorem k_302_50 : cd 302 50 = some (.iconst 0, 1) := by decide +kernel
theorem k_302_51 : cd 302 51 = some (.istore_n 2, 1) := by decide +kernel
theorem k_302_52 : cd 302 52 = some (.iload_n 2, 1) := by decide +kernel
theorem k_302_53 : cd 302 53 = some (.iconst 1, 1) := by decide +kernel
theorem k_302_54 : cd 302 54 = some (.aload_n 0, 1) := by decide +kernel
theorem k_302_55 : cd 302 55 = some (.getfield 44, 3) := by decide +kernel
theorem k_302_58 : cd 302 58 = some (.iconst 1, 1) := by decide +kernel
theorem k_302_59 : cd 302 59 = some (.iaload, 1) := by decide +kernel
theorem k_302_60 : cd 302 60 = some (.ishl, 1) := by decide +kernel
theorem k_302_61 : cd 302 61 = some (.if_icmp .ge 68, 3) := by decide +kernel
theorem k_302_64 : cd 302 64 = some (.aload_n 0, 1) := by decide +kernel
theorem k_302_65 : cd 302 65 = some (.getfield 103, 3) := by decide +kernel
theorem k_302_68 : cd 302 68 = some (.iload_n 1, 1) := by decide +kernel
theorem k_302_69 : cd 302 69 = some (.iconst 1, 1) := by decide +kernel
theorem k_302_70 : cd 302 70 = some (.iadd, 1) := by decide +kernel
theorem k_302_71 : cd 302 71 = some (.bipush 12, 2) := by decide +kernel
theorem k_302_73 : cd 302 73 = some (.ishl, 1) := by decide +kernel
theorem k_302_74 : cd 302 74 = some (.iload_n 2, 1) := by decide +kernel
theorem k_302_75 : cd 302 75 = some (.iadd, 1) := by decide +kernel
theorem k_302_76 : cd 302 76 = some (.iaload, 1) := by decide +kernel
theorem k_302_77 : cd 302 77 = some (.istore_n 3, 1) := by decide +kernel
theorem k_302_78 : cd 302 78 = some (.iconst 0, 1) := by decide +kernel
theorem k_302_79 : cd 302 79 = some (.istore 4, 2) := by decide +kernel
theorem k_302_81 : cd 302 81 = some (.iload 4, 2) := by decide +kernel
theorem k_302_83 : cd 302 83 = some (.aload_n 0, 1) := by decide +kernel
theorem k_302_84 : cd 302 84 = some (.getfield 44, 3) := by decide +kernel
theorem k_302_87 : cd 302 87 = some (.iconst 1, 1) := by decide +kernel
theorem k_302_88 : cd 302 88 = some (.iaload, 1) := by decide +kernel
theorem k_302_89 : cd 302 89 = some (.if_icmp .ge 22, 3) := by decide +kernel
theorem k_302_92 : cd 302 92 = some (.iload_n 3, 1) := by decide +kernel
theorem k_302_93 : cd 302 93 = some (.aload_n 0, 1) := by decide +kernel
theorem k_302_94 : cd 302 94 = some (.iload_n 1, 1) := by decide +kernel
theorem k_302_95 : cd 302 95 = some (.iload 4, 2) := by decide +kernel
theorem k_302_97 : cd 302 97 = some (.iload_n 2, 1) := by decide +kernel
theorem k_302_98 : cd 302 98 = some (.invokevirtual 459, 3) := by decide +kernel
theorem k_302_101 : cd 302 101 = some (.invokestatic 322, 3) := by decide +kernel
theorem k_302_104 : cd 302 104 = some (.istore_n 3, 1) := by decide +kernel
theorem k_302_105 : cd 302 105 = some (.iinc 4 1, 3) := by decide +kernel
theorem k_302_108 : cd 302 108 = some (.goto (-27), 3) := by decide +kernel
theorem k_302_111 : cd 302 111 = some (.aload_n 0, 1) := by decide +kernel
theorem k_302_112 : cd 302 112 = some (.getfield 103, 3) := by decide +kernel
theorem k_302_115 : cd 302 115 = some (.iload_n 1, 1) := by decide +kernel
theorem k_302_116 : cd 302 116 = some (.bipush 12, 2) := by decide +kernel
theorem k_302_118 : cd 302 118 = some (.ishl, 1) := by decide +kernel
theorem k_302_119 : cd 302 119 = some (.iload_n 2, 1) := by decide +kernel
theorem k_302_120 : cd 302 120 = some (.iadd, 1) := by decide +kernel
theorem k_302_121 : cd 302 121 = some (.iload_n 3, 1) := by decide +kernel
theorem k_302_122 : cd 302 122 = some (.iastore, 1) := by decide +kernel
theorem k_302_123 : cd 302 123 = some (.iinc 2 1, 3) := by decide +kernel
theorem k_302_126 : cd 302 126 = some (.goto (-74), 3) := by decide +kernel
theorem k_302_129 : cd 302 129 = some (.iinc 1 (-1), 3) := by decide +kernel
theorem k_302_132 : cd 302 132 = some (.goto (-86), 3) := by decide +kernel
theorem k_302_135 : cd 302 135 = some (.return_, 1) := by decide +kernel
theorem po_302 : po 302 = 9 := rfl
noncomputable def C_302_2  (x1 : Int32) (v2 : Value) (v3 : Value) (v4 : Value) (σ : pS) : Option pZ := den 302 0 2 [.ref 61, .int x1, v2, v3, v4] [] σ
noncomputable def C_302_46  (x1 : Int32) (v2 : Value) (v3 : Value) (v4 : Value) (σ : pS) : Option pZ := den 302 0 46 [.ref 61, .int x1, v2, v3, v4] [] σ
noncomputable def C_302_52  (x1 : Int32) (x2 : Int32) (v3 : Value) (v4 : Value) (σ : pS) : Option pZ := den 302 0 52 [.ref 61, .int x1, .int x2, v3, v4] [] σ
noncomputable def C_302_81  (x1 : Int32) (x2 : Int32) (x3 : Int32) (x4 : Int32) (σ : pS) : Option pZ := den 302 0 81 [.ref 61, .int x1, .int x2, .int x3, .int x4] [] σ
theorem T_302_2  {x1 : Int32} {v2 : Value} {v3 : Value} {v4 : Value}  {σ : pS} {ρ : Nat → Nat → Option Nat} (e : gR σ = ρ) (hL : LayR ρ) : Le
  (if (shl' (ι 1) (gI σ 65 1)) ≤ x1 then C_302_46 ((gI σ 65 0) - (ι 1)) v2 v3 v4 σ else gd (inb ((shl' (gI σ 65 0) (ι 12)) + x1) 36864) (C_302_2 (x1 + (ι 1)) v2 v3 v4 (sI σ 84 (ix ((shl' (gI σ 65 0) (ι 12)) + x1)) (ι 0))))
  (C_302_2  x1 v2 v3 v4 σ) := by
  unfold C_302_2
  exact r_iload_n k_302_2 rfl rfl
    (r_iconst k_302_3 rfl rfl
    (r_aload_n k_302_4 rfl rfl
    (r_getR k_302_5 rfl po_302 rfl rfl rfl rfl (gRat e (LayR.at hL (i := 66) rfl))
    (r_iconst k_302_8 rfl rfl
    (r_iald k_302_9 rfl rfl (by decide)
    (r_ishl k_302_10 rfl
    (r_icmp (tgt := 37) k_302_11 rfl rfl cop_ge
    (r_aload_n k_302_37 rfl rfl
    (r_getR k_302_38 rfl po_302 rfl rfl rfl rfl (gRat e (LayR.at hL (i := 66) rfl))
    (r_iconst k_302_41 rfl rfl
    (r_iald k_302_42 rfl rfl (by decide)
    (r_iconst k_302_43 rfl rfl
    (r_isub k_302_44 rfl
    (r_istore_n k_302_45 rfl rfl rfl
    (Le.rfl'))))))))
    (r_aload_n k_302_14 rfl rfl
    (r_getR k_302_15 rfl po_302 rfl rfl rfl rfl (gRat e (LayR.at hL (i := 85) rfl))
    (r_aload_n k_302_18 rfl rfl
    (r_getR k_302_19 rfl po_302 rfl rfl rfl rfl (gRat e (LayR.at hL (i := 66) rfl))
    (r_iconst k_302_22 rfl rfl
    (r_iald k_302_23 rfl rfl (by decide)
    (r_bipush k_302_24 rfl rfl
    (r_ishl k_302_26 rfl
    (r_iload_n k_302_27 rfl rfl
    (r_iadd k_302_28 rfl
    (r_iconst k_302_29 rfl rfl
    (r_gd fun g => r_iast k_302_30 rfl rfl g
    (r_iinc k_302_31 rfl rfl rfl rfl
    (r_goto (tgt := 2) k_302_34 rfl (Le.rfl'))))))))))))))))))))))
theorem T_302_46  {x1 : Int32} {v2 : Value} {v3 : Value} {v4 : Value}  {σ : pS} {ρ : Nat → Nat → Option Nat} (e : gR σ = ρ) (hL : LayR ρ) : Le
  (if x1 < (ι 0) then some (0, .null, σ) else C_302_52 x1 (ι 0) v3 v4 σ)
  (C_302_46  x1 v2 v3 v4 σ) := by
  unfold C_302_46
  exact r_iload_n k_302_46 rfl rfl
    (r_if (tgt := 135) k_302_47 rfl rfl cop_lt
    (r_retV k_302_135 rfl)
    (r_iconst k_302_50 rfl rfl
    (r_istore_n k_302_51 rfl rfl rfl
    (Le.rfl'))))
theorem T_302_52  {x1 : Int32} {x2 : Int32} {v3 : Value} {v4 : Value}  {σ : pS} {ρ : Nat → Nat → Option Nat} (e : gR σ = ρ) (hL : LayR ρ) : Le
  (if (shl' (ι 1) (gI σ 65 1)) ≤ x2 then C_302_46 (x1 + (ν 1)) (.int x2) v3 v4 σ else gd (inb ((shl' (x1 + (ι 1)) (ι 12)) + x2) 36864) (C_302_81 x1 x2 (gI σ 84 (ix ((shl' (x1 + (ι 1)) (ι 12)) + x2))) (ι 0) σ))
  (C_302_52  x1 x2 v3 v4 σ) := by
  unfold C_302_52
  exact r_iload_n k_302_52 rfl rfl
    (r_iconst k_302_53 rfl rfl
    (r_aload_n k_302_54 rfl rfl
    (r_getR k_302_55 rfl po_302 rfl rfl rfl rfl (gRat e (LayR.at hL (i := 66) rfl))
    (r_iconst k_302_58 rfl rfl
    (r_iald k_302_59 rfl rfl (by decide)
    (r_ishl k_302_60 rfl
    (r_icmp (tgt := 129) k_302_61 rfl rfl cop_ge
    (r_iinc k_302_129 rfl rfl rfl rfl
    (r_goto (tgt := 46) k_302_132 rfl (Le.rfl')))
    (r_aload_n k_302_64 rfl rfl
    (r_getR k_302_65 rfl po_302 rfl rfl rfl rfl (gRat e (LayR.at hL (i := 85) rfl))
    (r_iload_n k_302_68 rfl rfl
    (r_iconst k_302_69 rfl rfl
    (r_iadd k_302_70 rfl
    (r_bipush k_302_71 rfl rfl
    (r_ishl k_302_73 rfl
    (r_iload_n k_302_74 rfl rfl
    (r_iadd k_302_75 rfl
    (r_gd fun g => r_iald k_302_76 rfl rfl g
    (r_istore_n k_302_77 rfl rfl rfl
    (r_iconst k_302_78 rfl rfl
    (r_istore k_302_79 rfl rfl rfl
    (Le.rfl')))))))))))))))))))))
theorem T_302_81  {x1 : Int32} {x2 : Int32} {x3 : Int32} {x4 : Int32}  {σ : pS} {ρ : Nat → Nat → Option Nat} (e : gR σ = ρ) (hL : LayR ρ) : Le
  (if (gI σ 65 1) ≤ x4 then gd (inb ((shl' x1 (ι 12)) + x2) 36864) (C_302_52 x1 (x2 + (ι 1)) (.int x3) (.int x4) (sI σ 84 (ix ((shl' x1 (ι 12)) + x2)) x3)) else bI (pcall 303 [.ref 61, .int x1, .int x4, .int x2] σ) fun r1 σ1 => C_302_81 x1 x2 (imax x3 r1) (x4 + (ι 1)) σ1)
  (C_302_81  x1 x2 x3 x4 σ) := by
  unfold C_302_81
  exact r_iload k_302_81 rfl rfl
    (r_aload_n k_302_83 rfl rfl
    (r_getR k_302_84 rfl po_302 rfl rfl rfl rfl (gRat e (LayR.at hL (i := 66) rfl))
    (r_iconst k_302_87 rfl rfl
    (r_iald k_302_88 rfl rfl (by decide)
    (r_icmp (tgt := 111) k_302_89 rfl rfl cop_ge
    (r_aload_n k_302_111 rfl rfl
    (r_getR k_302_112 rfl po_302 rfl rfl rfl rfl (gRat e (LayR.at hL (i := 85) rfl))
    (r_iload_n k_302_115 rfl rfl
    (r_bipush k_302_116 rfl rfl
    (r_ishl k_302_118 rfl
    (r_iload_n k_302_119 rfl rfl
    (r_iadd k_302_120 rfl
    (r_iload_n k_302_121 rfl rfl
    (r_gd fun g => r_iast k_302_122 rfl rfl g
    (r_iinc k_302_123 rfl rfl rfl rfl
    (r_goto (tgt := 52) k_302_126 rfl (Le.rfl'))))))))))))
    (r_iload_n k_302_92 rfl rfl
    (r_aload_n k_302_93 rfl rfl
    (r_iload_n k_302_94 rfl rfl
    (r_iload k_302_95 rfl rfl
    (r_iload_n k_302_97 rfl rfl
    (r_callI (q_virt (rest := [.int x3]) (as := [.int x1, .int x4, .int x2]) k_302_98 po_302 rfl rfl rfl (rcvO rfl rfl rfl) rfl rfl) (lvq (j := 0) rfl (by decide +kernel)) rfl rfl (fun r1 σ1 h1 => r_imax k_302_101 rfl po_302 rfl rfl
    (r_istore_n k_302_104 rfl rfl rfl
    (r_iinc k_302_105 rfl rfl rfl rfl
    (r_goto (tgt := 81) k_302_108 rfl (Le.rfl'))))))))))))))))
theorem M_302   {σ : pS} {ρ : Nat → Nat → Option Nat} (e : gR σ = ρ) (hL : LayR ρ) : Le
  (C_302_2 (ι 0) (.retAddr 0) (.retAddr 0) (.retAddr 0) σ)
  (pcall 302 [.ref 61] σ) := by
  show Le _ (den 302 0 0 [.ref 61, .retAddr 0, .retAddr 0, .retAddr 0, .retAddr 0] [] σ)
  exact r_iconst k_302_0 rfl rfl
    (r_istore_n k_302_1 rfl rfl rfl
    (Le.rfl'))
/-! ===== 303 HedgeWantsModel.givenBy ===== -/
theorem k_303_0 : cd 303 0 = some (.iload_n 3, 1) := by decide +kernel
theorem k_303_1 : cd 303 1 = some (.iload_n 2, 1) := by decide +kernel
theorem k_303_2 : cd 303 2 = some (.invokestatic 269, 3) := by decide +kernel
theorem k_303_5 : cd 303 5 = some (.ifCond .eq 7, 3) := by decide +kernel
theorem k_303_8 : cd 303 8 = some (.iconst (-1), 1) := by decide +kernel
theorem k_303_9 : cd 303 9 = some (.goto 31, 3) := by decide +kernel
theorem k_303_12 : cd 303 12 = some (.sipush 1000, 3) := by decide +kernel
theorem k_303_15 : cd 303 15 = some (.aload_n 0, 1) := by decide +kernel
theorem k_303_16 : cd 303 16 = some (.iload_n 1, 1) := by decide +kernel
theorem k_303_17 : cd 303 17 = some (.iload_n 2, 1) := by decide +kernel
theorem k_303_18 : cd 303 18 = some (.invokevirtual 319, 3) := by decide +kernel
theorem k_303_21 : cd 303 21 = some (.iadd, 1) := by decide +kernel
theorem k_303_22 : cd 303 22 = some (.aload_n 0, 1) := by decide +kernel
theorem k_303_23 : cd 303 23 = some (.getfield 103, 3) := by decide +kernel
theorem k_303_26 : cd 303 26 = some (.iload_n 1, 1) := by decide +kernel
theorem k_303_27 : cd 303 27 = some (.iconst 1, 1) := by decide +kernel
theorem k_303_28 : cd 303 28 = some (.iadd, 1) := by decide +kernel
theorem k_303_29 : cd 303 29 = some (.bipush 12, 2) := by decide +kernel
theorem k_303_31 : cd 303 31 = some (.ishl, 1) := by decide +kernel
theorem k_303_32 : cd 303 32 = some (.iload_n 3, 1) := by decide +kernel
theorem k_303_33 : cd 303 33 = some (.iconst 1, 1) := by decide +kernel
theorem k_303_34 : cd 303 34 = some (.iload_n 2, 1) := by decide +kernel
theorem k_303_35 : cd 303 35 = some (.ishl, 1) := by decide +kernel
theorem k_303_36 : cd 303 36 = some (.ior, 1) := by decide +kernel
theorem k_303_37 : cd 303 37 = some (.iadd, 1) := by decide +kernel
theorem k_303_38 : cd 303 38 = some (.iaload, 1) := by decide +kernel
theorem k_303_39 : cd 303 39 = some (.iadd, 1) := by decide +kernel
theorem k_303_40 : cd 303 40 = some (.ireturn, 1) := by decide +kernel
theorem po_303 : po 303 = 9 := rfl
theorem M_303  {x0 : Int32} {x1 : Int32} {x2 : Int32} {σ : pS} {ρ : Nat → Nat → Option Nat} (e : gR σ = ρ) (hL : LayR ρ) : Le
  (bI (pcall 236 [.int x2, .int x1] σ) fun r1 σ1 => if r1 = (ι 0) then bI (pcall 245 [.ref 61, .int x0, .int x1] σ1) fun r2 σ2 => gd (inb ((shl' (x0 + (ι 1)) (ι 12)) + (x2 ||| (shl' (ι 1) x1))) 36864) (some (1, .int (((ι 1000) + r2) + (gI σ2 84 (ix ((shl' (x0 + (ι 1)) (ι 12)) + (x2 ||| (shl' (ι 1) x1)))))), σ2)) else some (1, .int (ν 1), σ1))
  (pcall 303 [.ref 61, .int x0, .int x1, .int x2] σ) := by
  show Le _ (den 303 0 0 [.ref 61, .int x0, .int x1, .int x2] [] σ)
  exact r_iload_n k_303_0 rfl rfl
    (r_iload_n k_303_1 rfl rfl
    (r_callI (q_stat (rest := []) (av := [.int x2, .int x1]) k_303_2 po_303 rfl (by decide) rfl rfl rfl rfl) (lvq (j := 0) rfl (by decide +kernel)) rfl rfl (fun r1 σ1 h1 => r_if (tgt := 12) k_303_5 rfl rfl cop_eq
    (r_sipush k_303_12 rfl rfl
    (r_aload_n k_303_15 rfl rfl
    (r_iload_n k_303_16 rfl rfl
    (r_iload_n k_303_17 rfl rfl
    (r_callI (q_virt (rest := [.int (ι 1000)]) (as := [.int x0, .int x1]) k_303_18 po_303 rfl rfl rfl (rcvO rfl rfl rfl) rfl rfl) (lvq (j := 0) rfl (by decide +kernel)) rfl rfl (fun r2 σ2 h2 => r_iadd k_303_21 rfl
    (r_aload_n k_303_22 rfl rfl
    (r_getR k_303_23 rfl po_303 rfl rfl rfl rfl (gRat (eC rfl h2 (eC rfl h1 e)) (LayR.at hL (i := 85) rfl))
    (r_iload_n k_303_26 rfl rfl
    (r_iconst k_303_27 rfl rfl
    (r_iadd k_303_28 rfl
    (r_bipush k_303_29 rfl rfl
    (r_ishl k_303_31 rfl
    (r_iload_n k_303_32 rfl rfl
    (r_iconst k_303_33 rfl rfl
    (r_iload_n k_303_34 rfl rfl
    (r_ishl k_303_35 rfl
    (r_ior k_303_36 rfl
    (r_iadd k_303_37 rfl
    (r_gd fun g => r_iald k_303_38 rfl rfl g
    (r_iadd k_303_39 rfl
    (r_ret k_303_40 rfl rfl))))))))))))))))))))))
    (r_iconst k_303_8 rfl rfl
    (r_goto (tgt := 40) k_303_9 rfl (r_ret k_303_40 rfl rfl))))))
/-! ===== 304 HedgeWantsModel.far ===== -/
theorem k_304_0 : cd 304 0 = some (.aload_n 0, 1) := by decide +kernel
theorem k_304_1 : cd 304 1 = some (.iconst 0, 1) := by decide +kernel
theorem k_304_2 : cd 304 2 = some (.putfield 145, 3) := by decide +kernel
theorem k_304_5 : cd 304 5 = some (.aload_n 0, 1) := by decide +kernel
theorem k_304_6 : cd 304 6 = some (.iload_n 1, 1) := by decide +kernel
theorem k_304_7 : cd 304 7 = some (.invokevirtual 390, 3) := by decide +kernel
theorem k_304_10 : cd 304 10 = some (.ifCond .eq 11, 3) := by decide +kernel
theorem k_304_13 : cd 304 13 = some (.aload_n 0, 1) := by decide +kernel
theorem k_304_14 : cd 304 14 = some (.iload_n 2, 1) := by decide +kernel
theorem k_304_15 : cd 304 15 = some (.invokevirtual 390, 3) := by decide +kernel
theorem k_304_18 : cd 304 18 = some (.ifCond .ne 9, 3) := by decide +kernel
theorem k_304_21 : cd 304 21 = some (.aload_n 0, 1) := by decide +kernel
theorem k_304_22 : cd 304 22 = some (.iconst 1, 1) := by decide +kernel
theorem k_304_23 : cd 304 23 = some (.invokevirtual 290, 3) := by decide +kernel
theorem k_304_26 : cd 304 26 = some (.ireturn, 1) := by decide +kernel
theorem k_304_27 : cd 304 27 = some (.iconst 1, 1) := by decide +kernel
theorem k_304_28 : cd 304 28 = some (.iload_n 1, 1) := by decide +kernel
theorem k_304_29 : cd 304 29 = some (.ishl, 1) := by decide +kernel
theorem k_304_30 : cd 304 30 = some (.istore_n 3, 1) := by decide +kernel
theorem k_304_31 : cd 304 31 = some (.iconst 0, 1) := by decide +kernel
theorem k_304_32 : cd 304 32 = some (.istore 4, 2) := by decide +kernel
theorem k_304_34 : cd 304 34 = some (.iconst 0, 1) := by decide +kernel
theorem k_304_35 : cd 304 35 = some (.istore 5, 2) := by decide +kernel
theorem k_304_37 : cd 304 37 = some (.iload_n 3, 1) := by decide +kernel
theorem k_304_38 : cd 304 38 = some (.iload 4, 2) := by decide +kernel
theorem k_304_40 : cd 304 40 = some (.if_icmp .eq 63, 3) := by decide +kernel
theorem k_304_43 : cd 304 43 = some (.iload_n 3, 1) := by decide +kernel
theorem k_304_44 : cd 304 44 = some (.iload_n 2, 1) := by decide +kernel
theorem k_304_45 : cd 304 45 = some (.invokestatic 269, 3) := by decide +kernel
theorem k_304_48 : cd 304 48 = some (.ifCond .eq 6, 3) := by decide +kernel
theorem k_304_51 : cd 304 51 = some (.iload 5, 2) := by decide +kernel
theorem k_304_53 : cd 304 53 = some (.ireturn, 1) := by decide +kernel
theorem k_304_54 : cd 304 54 = some (.iload_n 3, 1) := by decide +kernel
theorem k_304_55 : cd 304 55 = some (.istore 4, 2) := by decide +kernel
theorem k_304_57 : cd 304 57 = some (.iconst 0, 1) := by decide +kernel
theorem k_304_58 : cd 304 58 = some (.istore 6, 2) := by decide +kernel
theorem k_304_60 : cd 304 60 = some (.iload 6, 2) := by decide +kernel
theorem k_304_62 : cd 304 62 = some (.aload_n 0, 1) := by decide +kernel
theorem k_304_63 : cd 304 63 = some (.getfield 44, 3) := by decide +kernel
theorem k_304_66 : cd 304 66 = some (.iconst 0, 1) := by decide +kernel
theorem k_304_67 : cd 304 67 = some (.iaload, 1) := by decide +kernel
theorem k_304_68 : cd 304 68 = some (.if_icmp .ge 29, 3) := by decide +kernel
theorem k_304_71 : cd 304 71 = some (.iload 4, 2) := by decide +kernel
theorem k_304_73 : cd 304 73 = some (.iload 6, 2) := by decide +kernel
theorem k_304_75 : cd 304 75 = some (.invokestatic 269, 3) := by decide +kernel
theorem k_304_78 : cd 304 78 = some (.ifCond .eq 13, 3) := by decide +kernel
theorem k_304_81 : cd 304 81 = some (.iload_n 3, 1) := by decide +kernel
theorem k_304_82 : cd 304 82 = some (.aload_n 0, 1) := by decide +kernel
theorem k_304_83 : cd 304 83 = some (.getfield 84, 3) := by decide +kernel
theorem k_304_86 : cd 304 86 = some (.iload 6, 2) := by decide +kernel
theorem k_304_88 : cd 304 88 = some (.iaload, 1) := by decide +kernel
theorem k_304_89 : cd 304 89 = some (.ior, 1) := by decide +kernel
theorem k_304_90 : cd 304 90 = some (.istore_n 3, 1) := by decide +kernel
theorem k_304_91 : cd 304 91 = some (.iinc 6 1, 3) := by decide +kernel
theorem k_304_94 : cd 304 94 = some (.goto (-34), 3) := by decide +kernel
theorem k_304_97 : cd 304 97 = some (.iinc 5 1, 3) := by decide +kernel
theorem k_304_100 : cd 304 100 = some (.goto (-63), 3) := by decide +kernel
theorem k_304_103 : cd 304 103 = some (.iconst (-1), 1) := by decide +kernel
theorem k_304_104 : cd 304 104 = some (.ireturn, 1) := by decide +kernel
theorem po_304 : po 304 = 9 := rfl
noncomputable def C_304_37  (v1 : Value) (x2 : Int32) (x3 : Int32) (x4 : Int32) (x5 : Int32) (v6 : Value) (σ : pS) : Option pZ := den 304 0 37 [.ref 61, v1, .int x2, .int x3, .int x4, .int x5, v6] [] σ
noncomputable def C_304_60  (v1 : Value) (x2 : Int32) (x3 : Int32) (x4 : Int32) (x5 : Int32) (x6 : Int32) (σ : pS) : Option pZ := den 304 0 60 [.ref 61, v1, .int x2, .int x3, .int x4, .int x5, .int x6] [] σ
theorem T_304_37  {v1 : Value} {x2 : Int32} {x3 : Int32} {x4 : Int32} {x5 : Int32} {v6 : Value}  {σ : pS} {ρ : Nat → Nat → Option Nat} (e : gR σ = ρ) (hL : LayR ρ) : Le
  (if x3 = x4 then some (1, .int (ν 1), σ) else bI (pcall 236 [.int x3, .int x2] σ) fun r1 σ1 => if r1 = (ι 0) then C_304_60 v1 x2 x3 x3 x5 (ι 0) σ1 else some (1, .int x5, σ1))
  (C_304_37  v1 x2 x3 x4 x5 v6 σ) := by
  unfold C_304_37
  exact r_iload_n k_304_37 rfl rfl
    (r_iload k_304_38 rfl rfl
    (r_icmp (tgt := 103) k_304_40 rfl rfl cop_eq
    (r_iconst k_304_103 rfl rfl
    (r_ret k_304_104 rfl rfl))
    (r_iload_n k_304_43 rfl rfl
    (r_iload_n k_304_44 rfl rfl
    (r_callI (q_stat (rest := []) (av := [.int x3, .int x2]) k_304_45 po_304 rfl (by decide) rfl rfl rfl rfl) (lvq (j := 0) rfl (by decide +kernel)) rfl rfl (fun r1 σ1 h1 => r_if (tgt := 54) k_304_48 rfl rfl cop_eq
    (r_iload_n k_304_54 rfl rfl
    (r_istore k_304_55 rfl rfl rfl
    (r_iconst k_304_57 rfl rfl
    (r_istore k_304_58 rfl rfl rfl
    (Le.rfl')))))
    (r_iload k_304_51 rfl rfl
    (r_ret k_304_53 rfl rfl))))))))
theorem T_304_60  {v1 : Value} {x2 : Int32} {x3 : Int32} {x4 : Int32} {x5 : Int32} {x6 : Int32}  {σ : pS} {ρ : Nat → Nat → Option Nat} (e : gR σ = ρ) (hL : LayR ρ) : Le
  (if (gI σ 65 0) ≤ x6 then C_304_37 v1 x2 x3 x4 (x5 + (ι 1)) (.int x6) σ else bI (pcall 236 [.int x4, .int x6] σ) fun r1 σ1 => if r1 = (ι 0) then C_304_60 v1 x2 x3 x4 x5 (x6 + (ι 1)) σ1 else gd (inb x6 8) (C_304_60 v1 x2 (x3 ||| (gI σ1 78 (ix x6))) x4 x5 (x6 + (ι 1)) σ1))
  (C_304_60  v1 x2 x3 x4 x5 x6 σ) := by
  unfold C_304_60
  exact r_iload k_304_60 rfl rfl
    (r_aload_n k_304_62 rfl rfl
    (r_getR k_304_63 rfl po_304 rfl rfl rfl rfl (gRat e (LayR.at hL (i := 66) rfl))
    (r_iconst k_304_66 rfl rfl
    (r_iald k_304_67 rfl rfl (by decide)
    (r_icmp (tgt := 97) k_304_68 rfl rfl cop_ge
    (r_iinc k_304_97 rfl rfl rfl rfl
    (r_goto (tgt := 37) k_304_100 rfl (Le.rfl')))
    (r_iload k_304_71 rfl rfl
    (r_iload k_304_73 rfl rfl
    (r_callI (q_stat (rest := []) (av := [.int x4, .int x6]) k_304_75 po_304 rfl (by decide) rfl rfl rfl rfl) (lvq (j := 0) rfl (by decide +kernel)) rfl rfl (fun r1 σ1 h1 => r_if (tgt := 91) k_304_78 rfl rfl cop_eq
    (r_iinc k_304_91 rfl rfl rfl rfl
    (r_goto (tgt := 60) k_304_94 rfl (Le.rfl')))
    (r_iload_n k_304_81 rfl rfl
    (r_aload_n k_304_82 rfl rfl
    (r_getR k_304_83 rfl po_304 rfl rfl rfl rfl (gRat (eC rfl h1 e) (LayR.at hL (i := 79) rfl))
    (r_iload k_304_86 rfl rfl
    (r_gd fun g => r_iald k_304_88 rfl rfl g
    (r_ior k_304_89 rfl
    (r_istore_n k_304_90 rfl rfl rfl
    (r_iinc k_304_91 rfl rfl rfl rfl
    (r_goto (tgt := 60) k_304_94 rfl (Le.rfl')))))))))))))))))))
theorem M_304  {x0 : Int32} {x1 : Int32} {σ : pS} {ρ : Nat → Nat → Option Nat} (e : gR σ = ρ) (hL : LayR ρ) : Le
  (bI (pcall 260 [.ref 61, .int x0] (sI σ 61 4 (ι 0))) fun r1 σ1 => if r1 = (ι 0) then bI (pcall 211 [.ref 61, .int (ι 1)] σ1) fun r2 σ2 => some (1, .int r2, σ2) else bI (pcall 260 [.ref 61, .int x1] σ1) fun r3 σ3 => if ¬ r3 = (ι 0) then C_304_37 (.int x0) x1 (shl' (ι 1) x0) (ι 0) (ι 0) (.retAddr 0) σ3 else bI (pcall 211 [.ref 61, .int (ι 1)] σ3) fun r4 σ4 => some (1, .int r4, σ4))
  (pcall 304 [.ref 61, .int x0, .int x1] σ) := by
  show Le _ (den 304 0 0 [.ref 61, .int x0, .int x1, .retAddr 0, .retAddr 0, .retAddr 0, .retAddr 0] [] σ)
  exact r_aload_n k_304_0 rfl rfl
    (r_iconst k_304_1 rfl rfl
    (r_putI k_304_2 rfl po_304 rfl rfl rfl
    (r_aload_n k_304_5 rfl rfl
    (r_iload_n k_304_6 rfl rfl
    (r_callI (q_virt (rest := []) (as := [.int x0]) k_304_7 po_304 rfl rfl rfl (rcvO rfl rfl rfl) rfl rfl) (lvq (j := 0) rfl (by decide +kernel)) rfl rfl (fun r1 σ1 h1 => r_if (tgt := 21) k_304_10 rfl rfl cop_eq
    (r_aload_n k_304_21 rfl rfl
    (r_iconst k_304_22 rfl rfl
    (r_callI (q_virt (rest := []) (as := [.int (ι 1)]) k_304_23 po_304 rfl rfl rfl (rcvO rfl rfl rfl) rfl rfl) (lvq (j := 0) rfl (by decide +kernel)) rfl rfl (fun r2 σ2 h2 => r_ret k_304_26 rfl rfl))))
    (r_aload_n k_304_13 rfl rfl
    (r_iload_n k_304_14 rfl rfl
    (r_callI (q_virt (rest := []) (as := [.int x1]) k_304_15 po_304 rfl rfl rfl (rcvO rfl rfl rfl) rfl rfl) (lvq (j := 0) rfl (by decide +kernel)) rfl rfl (fun r3 σ3 h3 => r_if (tgt := 27) k_304_18 rfl rfl cop_ne
    (r_iconst k_304_27 rfl rfl
    (r_iload_n k_304_28 rfl rfl
    (r_ishl k_304_29 rfl
    (r_istore_n k_304_30 rfl rfl rfl
    (r_iconst k_304_31 rfl rfl
    (r_istore k_304_32 rfl rfl rfl
    (r_iconst k_304_34 rfl rfl
    (r_istore k_304_35 rfl rfl rfl
    (Le.rfl')))))))))
    (r_aload_n k_304_21 rfl rfl
    (r_iconst k_304_22 rfl rfl
    (r_callI (q_virt (rest := []) (as := [.int (ι 1)]) k_304_23 po_304 rfl rfl rfl (rcvO rfl rfl rfl) rfl rfl) (lvq (j := 0) rfl (by decide +kernel)) rfl rfl (fun r4 σ4 h4 => r_ret k_304_26 rfl rfl))))))))))))))
/-! ===== 305 HedgeWantsModel.away ===== -/
theorem k_305_0 : cd 305 0 = some (.aload_n 0, 1) := by decide +kernel
theorem k_305_1 : cd 305 1 = some (.iconst 0, 1) := by decide +kernel
theorem k_305_2 : cd 305 2 = some (.putfield 145, 3) := by decide +kernel
theorem k_305_5 : cd 305 5 = some (.aload_n 0, 1) := by decide +kernel
theorem k_305_6 : cd 305 6 = some (.iload_n 1, 1) := by decide +kernel
theorem k_305_7 : cd 305 7 = some (.invokevirtual 390, 3) := by decide +kernel
theorem k_305_10 : cd 305 10 = some (.ifCond .eq 11, 3) := by decide +kernel
theorem k_305_13 : cd 305 13 = some (.aload_n 0, 1) := by decide +kernel
theorem k_305_14 : cd 305 14 = some (.iload_n 2, 1) := by decide +kernel
theorem k_305_15 : cd 305 15 = some (.invokevirtual 390, 3) := by decide +kernel
theorem k_305_18 : cd 305 18 = some (.ifCond .ne 9, 3) := by decide +kernel
theorem k_305_21 : cd 305 21 = some (.aload_n 0, 1) := by decide +kernel
theorem k_305_22 : cd 305 22 = some (.iconst 1, 1) := by decide +kernel
theorem k_305_23 : cd 305 23 = some (.invokevirtual 290, 3) := by decide +kernel
theorem k_305_26 : cd 305 26 = some (.ireturn, 1) := by decide +kernel
theorem k_305_27 : cd 305 27 = some (.iload_n 1, 1) := by decide +kernel
theorem k_305_28 : cd 305 28 = some (.iload_n 2, 1) := by decide +kernel
theorem k_305_29 : cd 305 29 = some (.if_icmp .eq 16, 3) := by decide +kernel
theorem k_305_32 : cd 305 32 = some (.aload_n 0, 1) := by decide +kernel
theorem k_305_33 : cd 305 33 = some (.getfield 84, 3) := by decide +kernel
theorem k_305_36 : cd 305 36 = some (.iload_n 1, 1) := by decide +kernel
theorem k_305_37 : cd 305 37 = some (.iaload, 1) := by decide +kernel
theorem k_305_38 : cd 305 38 = some (.iload_n 2, 1) := by decide +kernel
theorem k_305_39 : cd 305 39 = some (.invokestatic 269, 3) := by decide +kernel
theorem k_305_42 : cd 305 42 = some (.ifCond .eq 5, 3) := by decide +kernel
theorem k_305_45 : cd 305 45 = some (.iconst (-1), 1) := by decide +kernel
theorem k_305_46 : cd 305 46 = some (.ireturn, 1) := by decide +kernel
theorem k_305_47 : cd 305 47 = some (.iconst (-1), 1) := by decide +kernel
theorem k_305_48 : cd 305 48 = some (.istore_n 3, 1) := by decide +kernel
theorem k_305_49 : cd 305 49 = some (.iconst 0, 1) := by decide +kernel
theorem k_305_50 : cd 305 50 = some (.istore 4, 2) := by decide +kernel
theorem k_305_52 : cd 305 52 = some (.iload 4, 2) := by decide +kernel
theorem k_305_54 : cd 305 54 = some (.iconst 1, 1) := by decide +kernel
theorem k_305_55 : cd 305 55 = some (.aload_n 0, 1) := by decide +kernel
theorem k_305_56 : cd 305 56 = some (.getfield 44, 3) := by decide +kernel
theorem k_305_59 : cd 305 59 = some (.iconst 0, 1) := by decide +kernel
theorem k_305_60 : cd 305 60 = some (.iaload, 1) := by decide +kernel
theorem k_305_61 : cd 305 61 = some (.ishl, 1) := by decide +kernel
theorem k_305_62 : cd 305 62 = some (.if_icmp .ge 64, 3) := by decide +kernel
theorem k_305_65 : cd 305 65 = some (.iload 4, 2) := by decide +kernel
theorem k_305_67 : cd 305 67 = some (.iload_n 1, 1) := by decide +kernel
theorem k_305_68 : cd 305 68 = some (.invokestatic 269, 3) := by decide +kernel
theorem k_305_71 : cd 305 71 = some (.ifCond .ne 49, 3) := by decide +kernel
theorem k_305_74 : cd 305 74 = some (.iload 4, 2) := by decide +kernel
theorem k_305_76 : cd 305 76 = some (.iload_n 2, 1) := by decide +kernel
theorem k_305_77 : cd 305 77 = some (.invokestatic 269, 3) := by decide +kernel
theorem k_305_80 : cd 305 80 = some (.ifCond .ne 40, 3) := by decide +kernel
theorem k_305_83 : cd 305 83 = some (.iload_n 3, 1) := by decide +kernel
theorem k_305_84 : cd 305 84 = some (.iconst (-1), 1) := by decide +kernel
theorem k_305_85 : cd 305 85 = some (.if_icmp .eq 18, 3) := by decide +kernel
theorem k_305_88 : cd 305 88 = some (.iload 4, 2) := by decide +kernel
theorem k_305_90 : cd 305 90 = some (.invokestatic 334, 3) := by decide +kernel
theorem k_305_93 : cd 305 93 = some (.iload_n 3, 1) := by decide +kernel
theorem k_305_94 : cd 305 94 = some (.invokestatic 334, 3) := by decide +kernel
theorem k_305_97 : cd 305 97 = some (.if_icmp .lt 6, 3) := by decide +kernel
theorem k_305_100 : cd 305 100 = some (.goto 20, 3) := by decide +kernel
theorem k_305_103 : cd 305 103 = some (.aload_n 0, 1) := by decide +kernel
theorem k_305_104 : cd 305 104 = some (.iload_n 1, 1) := by decide +kernel
theorem k_305_105 : cd 305 105 = some (.iload 4, 2) := by decide +kernel
theorem k_305_107 : cd 305 107 = some (.invokevirtual 368, 3) := by decide +kernel
theorem k_305_110 : cd 305 110 = some (.iload_n 2, 1) := by decide +kernel
theorem k_305_111 : cd 305 111 = some (.invokestatic 269, 3) := by decide +kernel
theorem k_305_114 : cd 305 114 = some (.ifCond .ne 6, 3) := by decide +kernel
theorem k_305_117 : cd 305 117 = some (.iload 4, 2) := by decide +kernel
theorem k_305_119 : cd 305 119 = some (.istore_n 3, 1) := by decide +kernel
theorem k_305_120 : cd 305 120 = some (.iinc 4 1, 3) := by decide +kernel
theorem k_305_123 : cd 305 123 = some (.goto (-71), 3) := by decide +kernel
theorem k_305_126 : cd 305 126 = some (.iload_n 3, 1) := by decide +kernel
theorem k_305_127 : cd 305 127 = some (.ireturn, 1) := by decide +kernel
theorem po_305 : po 305 = 9 := rfl
noncomputable def C_305_52  (x1 : Int32) (x2 : Int32) (x3 : Int32) (x4 : Int32) (σ : pS) : Option pZ := den 305 0 52 [.ref 61, .int x1, .int x2, .int x3, .int x4] [] σ
theorem T_305_52  {x1 : Int32} {x2 : Int32} {x3 : Int32} {x4 : Int32}  {σ : pS} {ρ : Nat → Nat → Option Nat} (e : gR σ = ρ) (hL : LayR ρ) : Le
  (if (shl' (ι 1) (gI σ 65 0)) ≤ x4 then some (1, .int x3, σ) else bI (pcall 236 [.int x4, .int x1] σ) fun r1 σ1 => if ¬ r1 = (ι 0) then C_305_52 x1 x2 x3 (x4 + (ι 1)) σ1 else bI (pcall 236 [.int x4, .int x2] σ1) fun r2 σ2 => if ¬ r2 = (ι 0) then C_305_52 x1 x2 x3 (x4 + (ι 1)) σ2 else if x3 = (ν 1) then bI (pcall 256 [.ref 61, .int x1, .int x4] σ2) fun r3 σ3 => bI (pcall 236 [.int r3, .int x2] σ3) fun r4 σ4 => if ¬ r4 = (ι 0) then C_305_52 x1 x2 x3 (x4 + (ι 1)) σ4 else C_305_52 x1 x2 x4 (x4 + (ι 1)) σ4 else bI (pcall 247 [.int x4] σ2) fun r5 σ5 => bI (pcall 247 [.int x3] σ5) fun r6 σ6 => if r5 < r6 then bI (pcall 256 [.ref 61, .int x1, .int x4] σ6) fun r7 σ7 => bI (pcall 236 [.int r7, .int x2] σ7) fun r8 σ8 => if ¬ r8 = (ι 0) then C_305_52 x1 x2 x3 (x4 + (ι 1)) σ8 else C_305_52 x1 x2 x4 (x4 + (ι 1)) σ8 else C_305_52 x1 x2 x3 (x4 + (ι 1)) σ6)
  (C_305_52  x1 x2 x3 x4 σ) := by
  unfold C_305_52
  exact r_iload k_305_52 rfl rfl
    (r_iconst k_305_54 rfl rfl
    (r_aload_n k_305_55 rfl rfl
    (r_getR k_305_56 rfl po_305 rfl rfl rfl rfl (gRat e (LayR.at hL (i := 66) rfl))
    (r_iconst k_305_59 rfl rfl
    (r_iald k_305_60 rfl rfl (by decide)
    (r_ishl k_305_61 rfl
    (r_icmp (tgt := 126) k_305_62 rfl rfl cop_ge
    (r_iload_n k_305_126 rfl rfl
    (r_ret k_305_127 rfl rfl))
    (r_iload k_305_65 rfl rfl
    (r_iload_n k_305_67 rfl rfl
    (r_callI (q_stat (rest := []) (av := [.int x4, .int x1]) k_305_68 po_305 rfl (by decide) rfl rfl rfl rfl) (lvq (j := 0) rfl (by decide +kernel)) rfl rfl (fun r1 σ1 h1 => r_if (tgt := 120) k_305_71 rfl rfl cop_ne
    (r_iinc k_305_120 rfl rfl rfl rfl
    (r_goto (tgt := 52) k_305_123 rfl (Le.rfl')))
    (r_iload k_305_74 rfl rfl
    (r_iload_n k_305_76 rfl rfl
    (r_callI (q_stat (rest := []) (av := [.int x4, .int x2]) k_305_77 po_305 rfl (by decide) rfl rfl rfl rfl) (lvq (j := 0) rfl (by decide +kernel)) rfl rfl (fun r2 σ2 h2 => r_if (tgt := 120) k_305_80 rfl rfl cop_ne
    (r_iinc k_305_120 rfl rfl rfl rfl
    (r_goto (tgt := 52) k_305_123 rfl (Le.rfl')))
    (r_iload_n k_305_83 rfl rfl
    (r_iconst k_305_84 rfl rfl
    (r_icmp (tgt := 103) k_305_85 rfl rfl cop_eq
    (r_aload_n k_305_103 rfl rfl
    (r_iload_n k_305_104 rfl rfl
    (r_iload k_305_105 rfl rfl
    (r_callI (q_virt (rest := []) (as := [.int x1, .int x4]) k_305_107 po_305 rfl rfl rfl (rcvO rfl rfl rfl) rfl rfl) (lvq (j := 0) rfl (by decide +kernel)) rfl rfl (fun r3 σ3 h3 => r_iload_n k_305_110 rfl rfl
    (r_callI (q_stat (rest := []) (av := [.int r3, .int x2]) k_305_111 po_305 rfl (by decide) rfl rfl rfl rfl) (lvq (j := 0) rfl (by decide +kernel)) rfl rfl (fun r4 σ4 h4 => r_if (tgt := 120) k_305_114 rfl rfl cop_ne
    (r_iinc k_305_120 rfl rfl rfl rfl
    (r_goto (tgt := 52) k_305_123 rfl (Le.rfl')))
    (r_iload k_305_117 rfl rfl
    (r_istore_n k_305_119 rfl rfl rfl
    (r_iinc k_305_120 rfl rfl rfl rfl
    (r_goto (tgt := 52) k_305_123 rfl (Le.rfl'))))))))))))
    (r_iload k_305_88 rfl rfl
    (r_callI (q_stat (rest := []) (av := [.int x4]) k_305_90 po_305 rfl (by decide) rfl rfl rfl rfl) (lvq (j := 0) rfl (by decide +kernel)) rfl rfl (fun r5 σ5 h5 => r_iload_n k_305_93 rfl rfl
    (r_callI (q_stat (rest := [.int r5]) (av := [.int x3]) k_305_94 po_305 rfl (by decide) rfl rfl rfl rfl) (lvq (j := 0) rfl (by decide +kernel)) rfl rfl (fun r6 σ6 h6 => r_icmp (tgt := 103) k_305_97 rfl rfl cop_lt
    (r_aload_n k_305_103 rfl rfl
    (r_iload_n k_305_104 rfl rfl
    (r_iload k_305_105 rfl rfl
    (r_callI (q_virt (rest := []) (as := [.int x1, .int x4]) k_305_107 po_305 rfl rfl rfl (rcvO rfl rfl rfl) rfl rfl) (lvq (j := 0) rfl (by decide +kernel)) rfl rfl (fun r7 σ7 h7 => r_iload_n k_305_110 rfl rfl
    (r_callI (q_stat (rest := []) (av := [.int r7, .int x2]) k_305_111 po_305 rfl (by decide) rfl rfl rfl rfl) (lvq (j := 0) rfl (by decide +kernel)) rfl rfl (fun r8 σ8 h8 => r_if (tgt := 120) k_305_114 rfl rfl cop_ne
    (r_iinc k_305_120 rfl rfl rfl rfl
    (r_goto (tgt := 52) k_305_123 rfl (Le.rfl')))
    (r_iload k_305_117 rfl rfl
    (r_istore_n k_305_119 rfl rfl rfl
    (r_iinc k_305_120 rfl rfl rfl rfl
    (r_goto (tgt := 52) k_305_123 rfl (Le.rfl'))))))))))))
    (r_goto (tgt := 120) k_305_100 rfl (r_iinc k_305_120 rfl rfl rfl rfl
    (r_goto (tgt := 52) k_305_123 rfl (Le.rfl')))))))))))))))))))))))))))
theorem M_305  {x0 : Int32} {x1 : Int32} {σ : pS} {ρ : Nat → Nat → Option Nat} (e : gR σ = ρ) (hL : LayR ρ) : Le
  (bI (pcall 260 [.ref 61, .int x0] (sI σ 61 4 (ι 0))) fun r1 σ1 => if r1 = (ι 0) then bI (pcall 211 [.ref 61, .int (ι 1)] σ1) fun r2 σ2 => some (1, .int r2, σ2) else bI (pcall 260 [.ref 61, .int x1] σ1) fun r3 σ3 => if ¬ r3 = (ι 0) then if x0 = x1 then some (1, .int (ν 1), σ3) else gd (inb x0 8) (bI (pcall 236 [.int (gI σ3 78 (ix x0)), .int x1] σ3) fun r4 σ4 => if r4 = (ι 0) then C_305_52 x0 x1 (ν 1) (ι 0) σ4 else some (1, .int (ν 1), σ4)) else bI (pcall 211 [.ref 61, .int (ι 1)] σ3) fun r5 σ5 => some (1, .int r5, σ5))
  (pcall 305 [.ref 61, .int x0, .int x1] σ) := by
  show Le _ (den 305 0 0 [.ref 61, .int x0, .int x1, .retAddr 0, .retAddr 0] [] σ)
  exact r_aload_n k_305_0 rfl rfl
    (r_iconst k_305_1 rfl rfl
    (r_putI k_305_2 rfl po_305 rfl rfl rfl
    (r_aload_n k_305_5 rfl rfl
    (r_iload_n k_305_6 rfl rfl
    (r_callI (q_virt (rest := []) (as := [.int x0]) k_305_7 po_305 rfl rfl rfl (rcvO rfl rfl rfl) rfl rfl) (lvq (j := 0) rfl (by decide +kernel)) rfl rfl (fun r1 σ1 h1 => r_if (tgt := 21) k_305_10 rfl rfl cop_eq
    (r_aload_n k_305_21 rfl rfl
    (r_iconst k_305_22 rfl rfl
    (r_callI (q_virt (rest := []) (as := [.int (ι 1)]) k_305_23 po_305 rfl rfl rfl (rcvO rfl rfl rfl) rfl rfl) (lvq (j := 0) rfl (by decide +kernel)) rfl rfl (fun r2 σ2 h2 => r_ret k_305_26 rfl rfl))))
    (r_aload_n k_305_13 rfl rfl
    (r_iload_n k_305_14 rfl rfl
    (r_callI (q_virt (rest := []) (as := [.int x1]) k_305_15 po_305 rfl rfl rfl (rcvO rfl rfl rfl) rfl rfl) (lvq (j := 0) rfl (by decide +kernel)) rfl rfl (fun r3 σ3 h3 => r_if (tgt := 27) k_305_18 rfl rfl cop_ne
    (r_iload_n k_305_27 rfl rfl
    (r_iload_n k_305_28 rfl rfl
    (r_icmp (tgt := 45) k_305_29 rfl rfl cop_eq
    (r_iconst k_305_45 rfl rfl
    (r_ret k_305_46 rfl rfl))
    (r_aload_n k_305_32 rfl rfl
    (r_getR k_305_33 rfl po_305 rfl rfl rfl rfl (gRat (eC rfl h3 (eC rfl h1 (eI e))) (LayR.at hL (i := 79) rfl))
    (r_iload_n k_305_36 rfl rfl
    (r_gd fun g => r_iald k_305_37 rfl rfl g
    (r_iload_n k_305_38 rfl rfl
    (r_callI (q_stat (rest := []) (av := [.int (gI σ3 78 (ix x0)), .int x1]) k_305_39 po_305 rfl (by decide) rfl rfl rfl rfl) (lvq (j := 0) rfl (by decide +kernel)) rfl rfl (fun r4 σ4 h4 => r_if (tgt := 47) k_305_42 rfl rfl cop_eq
    (r_iconst k_305_47 rfl rfl
    (r_istore_n k_305_48 rfl rfl rfl
    (r_iconst k_305_49 rfl rfl
    (r_istore k_305_50 rfl rfl rfl
    (Le.rfl')))))
    (r_iconst k_305_45 rfl rfl
    (r_ret k_305_46 rfl rfl))))))))))))
    (r_aload_n k_305_21 rfl rfl
    (r_iconst k_305_22 rfl rfl
    (r_callI (q_virt (rest := []) (as := [.int (ι 1)]) k_305_23 po_305 rfl rfl rfl (rcvO rfl rfl rfl) rfl rfl) (lvq (j := 0) rfl (by decide +kernel)) rfl rfl (fun r5 σ5 h5 => r_ret k_305_26 rfl rfl))))))))))))))
/-! ===== 306 HedgeWantsModel.toAsk ===== -/
theorem k_306_0 : cd 306 0 = some (.aload_n 0, 1) := by decide +kernel
theorem k_306_1 : cd 306 1 = some (.iconst 0, 1) := by decide +kernel
theorem k_306_2 : cd 306 2 = some (.putfield 145, 3) := by decide +kernel
theorem k_306_5 : cd 306 5 = some (.aload_n 0, 1) := by decide +kernel
theorem k_306_6 : cd 306 6 = some (.iload_n 1, 1) := by decide +kernel
theorem k_306_7 : cd 306 7 = some (.invokevirtual 390, 3) := by decide +kernel
theorem k_306_10 : cd 306 10 = some (.ifCond .ne 9, 3) := by decide +kernel
theorem k_306_13 : cd 306 13 = some (.aload_n 0, 1) := by decide +kernel
theorem k_306_14 : cd 306 14 = some (.iconst 1, 1) := by decide +kernel
theorem k_306_15 : cd 306 15 = some (.invokevirtual 290, 3) := by decide +kernel
theorem k_306_18 : cd 306 18 = some (.ireturn, 1) := by decide +kernel
theorem k_306_19 : cd 306 19 = some (.iload_n 2, 1) := by decide +kernel
theorem k_306_20 : cd 306 20 = some (.i2l, 1) := by decide +kernel
theorem k_306_21 : cd 306 21 = some (.lconst 1, 1) := by decide +kernel
theorem k_306_22 : cd 306 22 = some (.ldc2_w 431, 3) := by decide +kernel
theorem k_306_25 : cd 306 25 = some (.invokestatic 148, 3) := by decide +kernel
theorem k_306_28 : cd 306 28 = some (.ifCond .ne 9, 3) := by decide +kernel
theorem k_306_31 : cd 306 31 = some (.aload_n 0, 1) := by decide +kernel
theorem k_306_32 : cd 306 32 = some (.iconst 2, 1) := by decide +kernel
theorem k_306_33 : cd 306 33 = some (.invokevirtual 290, 3) := by decide +kernel
theorem k_306_36 : cd 306 36 = some (.ireturn, 1) := by decide +kernel
theorem k_306_37 : cd 306 37 = some (.aload_n 0, 1) := by decide +kernel
theorem k_306_38 : cd 306 38 = some (.aload_n 0, 1) := by decide +kernel
theorem k_306_39 : cd 306 39 = some (.getfield 99, 3) := by decide +kernel
theorem k_306_42 : cd 306 42 = some (.iconst 0, 1) := by decide +kernel
theorem k_306_43 : cd 306 43 = some (.invokevirtual 402, 3) := by decide +kernel
theorem k_306_46 : cd 306 46 = some (.aload_n 0, 1) := by decide +kernel
theorem k_306_47 : cd 306 47 = some (.iload_n 2, 1) := by decide +kernel
theorem k_306_48 : cd 306 48 = some (.invokevirtual 414, 3) := by decide +kernel
theorem k_306_51 : cd 306 51 = some (.aload_n 0, 1) := by decide +kernel
theorem k_306_52 : cd 306 52 = some (.iload_n 1, 1) := by decide +kernel
theorem k_306_53 : cd 306 53 = some (.invokevirtual 359, 3) := by decide +kernel
theorem k_306_56 : cd 306 56 = some (.istore_n 3, 1) := by decide +kernel
theorem k_306_57 : cd 306 57 = some (.iconst (-1), 1) := by decide +kernel
theorem k_306_58 : cd 306 58 = some (.istore 4, 2) := by decide +kernel
theorem k_306_60 : cd 306 60 = some (.aload_n 0, 1) := by decide +kernel
theorem k_306_61 : cd 306 61 = some (.aload_n 0, 1) := by decide +kernel
theorem k_306_62 : cd 306 62 = some (.getfield 99, 3) := by decide +kernel
theorem k_306_65 : cd 306 65 = some (.iconst 0, 1) := by decide +kernel
theorem k_306_66 : cd 306 66 = some (.invokevirtual 426, 3) := by decide +kernel
theorem k_306_69 : cd 306 69 = some (.aload_n 0, 1) := by decide +kernel
theorem k_306_70 : cd 306 70 = some (.iload_n 1, 1) := by decide +kernel
theorem k_306_71 : cd 306 71 = some (.invokevirtual 393, 3) := by decide +kernel
theorem k_306_74 : cd 306 74 = some (.istore 5, 2) := by decide +kernel
theorem k_306_76 : cd 306 76 = some (.iconst 0, 1) := by decide +kernel
theorem k_306_77 : cd 306 77 = some (.istore 6, 2) := by decide +kernel
theorem k_306_79 : cd 306 79 = some (.iload 6, 2) := by decide +kernel
theorem k_306_81 : cd 306 81 = some (.aload_n 0, 1) := by decide +kernel
theorem k_306_82 : cd 306 82 = some (.getfield 44, 3) := by decide +kernel
theorem k_306_85 : cd 306 85 = some (.iconst 1, 1) := by decide +kernel
theorem k_306_86 : cd 306 86 = some (.iaload, 1) := by decide +kernel
theorem k_306_87 : cd 306 87 = some (.if_icmp .ge 66, 3) := by decide +kernel
theorem k_306_90 : cd 306 90 = some (.iload 5, 2) := by decide +kernel
theorem k_306_92 : cd 306 92 = some (.iload 6, 2) := by decide +kernel
theorem k_306_94 : cd 306 94 = some (.invokestatic 269, 3) := by decide +kernel
theorem k_306_97 : cd 306 97 = some (.ifCond .ne 6, 3) := by decide +kernel
theorem k_306_100 : cd 306 100 = some (.goto 47, 3) := by decide +kernel
theorem k_306_103 : cd 306 103 = some (.aload_n 0, 1) := by decide +kernel
theorem k_306_104 : cd 306 104 = some (.iload_n 1, 1) := by decide +kernel
theorem k_306_105 : cd 306 105 = some (.iload 6, 2) := by decide +kernel
theorem k_306_107 : cd 306 107 = some (.invokevirtual 417, 3) := by decide +kernel
theorem k_306_110 : cd 306 110 = some (.aload_n 0, 1) := by decide +kernel
theorem k_306_111 : cd 306 111 = some (.iload_n 2, 1) := by decide +kernel
theorem k_306_112 : cd 306 112 = some (.invokevirtual 414, 3) := by decide +kernel
theorem k_306_115 : cd 306 115 = some (.aload_n 0, 1) := by decide +kernel
theorem k_306_116 : cd 306 116 = some (.iload_n 1, 1) := by decide +kernel
theorem k_306_117 : cd 306 117 = some (.invokevirtual 359, 3) := by decide +kernel
theorem k_306_120 : cd 306 120 = some (.istore 7, 2) := by decide +kernel
theorem k_306_122 : cd 306 122 = some (.aload_n 0, 1) := by decide +kernel
theorem k_306_123 : cd 306 123 = some (.aload_n 0, 1) := by decide +kernel
theorem k_306_124 : cd 306 124 = some (.getfield 99, 3) := by decide +kernel
theorem k_306_127 : cd 306 127 = some (.iconst 0, 1) := by decide +kernel
theorem k_306_128 : cd 306 128 = some (.invokevirtual 426, 3) := by decide +kernel
theorem k_306_131 : cd 306 131 = some (.iload 7, 2) := by decide +kernel
theorem k_306_133 : cd 306 133 = some (.iload_n 3, 1) := by decide +kernel
theorem k_306_134 : cd 306 134 = some (.if_icmp .gt 6, 3) := by decide +kernel
theorem k_306_137 : cd 306 137 = some (.goto 10, 3) := by decide +kernel
theorem k_306_140 : cd 306 140 = some (.iload 6, 2) := by decide +kernel
theorem k_306_142 : cd 306 142 = some (.istore 4, 2) := by decide +kernel
theorem k_306_144 : cd 306 144 = some (.iload 7, 2) := by decide +kernel
theorem k_306_146 : cd 306 146 = some (.istore_n 3, 1) := by decide +kernel
theorem k_306_147 : cd 306 147 = some (.iinc 6 1, 3) := by decide +kernel
theorem k_306_150 : cd 306 150 = some (.goto (-71), 3) := by decide +kernel
theorem k_306_153 : cd 306 153 = some (.iload 4, 2) := by decide +kernel
theorem k_306_155 : cd 306 155 = some (.ireturn, 1) := by decide +kernel
theorem po_306 : po 306 = 9 := rfl
noncomputable def C_306_79  (x1 : Int32) (x2 : Int32) (x3 : Int32) (x4 : Int32) (x5 : Int32) (x6 : Int32) (v7 : Value) (σ : pS) : Option pZ := den 306 0 79 [.ref 61, .int x1, .int x2, .int x3, .int x4, .int x5, .int x6, v7] [] σ
theorem T_306_79  {x1 : Int32} {x2 : Int32} {x3 : Int32} {x4 : Int32} {x5 : Int32} {x6 : Int32} {v7 : Value}  {σ : pS} {ρ : Nat → Nat → Option Nat} (e : gR σ = ρ) (hL : LayR ρ) : Le
  (if (gI σ 65 1) ≤ x6 then some (1, .int x4, σ) else bI (pcall 236 [.int x5, .int x6] σ) fun r1 σ1 => if ¬ r1 = (ι 0) then bV (pcall 276 [.ref 61, .int x1, .int x6] σ1) fun σ2 => bV (pcall 272 [.ref 61, .int x2] σ2) fun σ3 => bI (pcall 252 [.ref 61, .int x1] σ3) fun r4 σ4 => bV (pcall 284 [.ref 61, .ref 83, .int (ι 0)] σ4) fun σ5 => if x3 < r4 then C_306_79 x1 x2 r4 x6 x5 (x6 + (ι 1)) (.int r4) σ5 else C_306_79 x1 x2 x3 x4 x5 (x6 + (ι 1)) (.int r4) σ5 else C_306_79 x1 x2 x3 x4 x5 (x6 + (ι 1)) v7 σ1)
  (C_306_79  x1 x2 x3 x4 x5 x6 v7 σ) := by
  unfold C_306_79
  exact r_iload k_306_79 rfl rfl
    (r_aload_n k_306_81 rfl rfl
    (r_getR k_306_82 rfl po_306 rfl rfl rfl rfl (gRat e (LayR.at hL (i := 66) rfl))
    (r_iconst k_306_85 rfl rfl
    (r_iald k_306_86 rfl rfl (by decide)
    (r_icmp (tgt := 153) k_306_87 rfl rfl cop_ge
    (r_iload k_306_153 rfl rfl
    (r_ret k_306_155 rfl rfl))
    (r_iload k_306_90 rfl rfl
    (r_iload k_306_92 rfl rfl
    (r_callI (q_stat (rest := []) (av := [.int x5, .int x6]) k_306_94 po_306 rfl (by decide) rfl rfl rfl rfl) (lvq (j := 0) rfl (by decide +kernel)) rfl rfl (fun r1 σ1 h1 => r_if (tgt := 103) k_306_97 rfl rfl cop_ne
    (r_aload_n k_306_103 rfl rfl
    (r_iload_n k_306_104 rfl rfl
    (r_iload k_306_105 rfl rfl
    (r_callV (q_virt (rest := []) (as := [.int x1, .int x6]) k_306_107 po_306 rfl rfl rfl (rcvO rfl rfl rfl) rfl rfl) (lvq (j := 0) rfl (by decide +kernel)) rfl rfl (fun _ σ2 h2 => r_aload_n k_306_110 rfl rfl
    (r_iload_n k_306_111 rfl rfl
    (r_callV (q_virt (rest := []) (as := [.int x2]) k_306_112 po_306 rfl rfl rfl (rcvO rfl rfl rfl) rfl rfl) (lvq (j := 0) rfl (by decide +kernel)) rfl rfl (fun _ σ3 h3 => r_aload_n k_306_115 rfl rfl
    (r_iload_n k_306_116 rfl rfl
    (r_callI (q_virt (rest := []) (as := [.int x1]) k_306_117 po_306 rfl rfl rfl (rcvO rfl rfl rfl) rfl rfl) (lvq (j := 0) rfl (by decide +kernel)) rfl rfl (fun r4 σ4 h4 => r_istore k_306_120 rfl rfl rfl
    (r_aload_n k_306_122 rfl rfl
    (r_aload_n k_306_123 rfl rfl
    (r_getR k_306_124 rfl po_306 rfl rfl rfl rfl (gRat (eC rfl h4 (eC rfl h3 (eC rfl h2 (eC rfl h1 e)))) (LayR.at hL (i := 84) rfl))
    (r_iconst k_306_127 rfl rfl
    (r_callV (q_virt (rest := []) (as := [.ref 83, .int (ι 0)]) k_306_128 po_306 rfl rfl rfl (rcvO rfl rfl rfl) rfl rfl) (lvq (j := 0) rfl (by decide +kernel)) rfl rfl (fun _ σ5 h5 => r_iload k_306_131 rfl rfl
    (r_iload_n k_306_133 rfl rfl
    (r_icmp (tgt := 140) k_306_134 rfl rfl cop_gt
    (r_iload k_306_140 rfl rfl
    (r_istore k_306_142 rfl rfl rfl
    (r_iload k_306_144 rfl rfl
    (r_istore_n k_306_146 rfl rfl rfl
    (r_iinc k_306_147 rfl rfl rfl rfl
    (r_goto (tgt := 79) k_306_150 rfl (Le.rfl')))))))
    (r_goto (tgt := 147) k_306_137 rfl (r_iinc k_306_147 rfl rfl rfl rfl
    (r_goto (tgt := 79) k_306_150 rfl (Le.rfl')))))))))))))))))))))))
    (r_goto (tgt := 147) k_306_100 rfl (r_iinc k_306_147 rfl rfl rfl rfl
    (r_goto (tgt := 79) k_306_150 rfl (Le.rfl')))))))))))))
theorem M_306  {x0 : Int32} {x1 : Int32} {σ : pS} {ρ : Nat → Nat → Option Nat} (e : gR σ = ρ) (hL : LayR ρ) : Le
  (bI (pcall 260 [.ref 61, .int x0] (sI σ 61 4 (ι 0))) fun r1 σ1 => if ¬ r1 = (ι 0) then bI (pcall 261 [.long x1.toInt64, .long (1 : Int64), .long (60 : Int64)] σ1) fun r2 σ2 => if ¬ r2 = (ι 0) then bV (pcall 271 [.ref 61, .ref 83, .int (ι 0)] σ2) fun σ3 => bV (pcall 272 [.ref 61, .int x1] σ3) fun σ4 => bI (pcall 252 [.ref 61, .int x0] σ4) fun r5 σ5 => bV (pcall 284 [.ref 61, .ref 83, .int (ι 0)] σ5) fun σ6 => bI (pcall 262 [.ref 61, .int x0] σ6) fun r7 σ7 => C_306_79 x0 x1 r5 (ν 1) r7 (ι 0) (.retAddr 0) σ7 else bI (pcall 211 [.ref 61, .int (ι 2)] σ2) fun r8 σ8 => some (1, .int r8, σ8) else bI (pcall 211 [.ref 61, .int (ι 1)] σ1) fun r9 σ9 => some (1, .int r9, σ9))
  (pcall 306 [.ref 61, .int x0, .int x1] σ) := by
  show Le _ (den 306 0 0 [.ref 61, .int x0, .int x1, .retAddr 0, .retAddr 0, .retAddr 0, .retAddr 0, .retAddr 0] [] σ)
  exact r_aload_n k_306_0 rfl rfl
    (r_iconst k_306_1 rfl rfl
    (r_putI k_306_2 rfl po_306 rfl rfl rfl
    (r_aload_n k_306_5 rfl rfl
    (r_iload_n k_306_6 rfl rfl
    (r_callI (q_virt (rest := []) (as := [.int x0]) k_306_7 po_306 rfl rfl rfl (rcvO rfl rfl rfl) rfl rfl) (lvq (j := 0) rfl (by decide +kernel)) rfl rfl (fun r1 σ1 h1 => r_if (tgt := 19) k_306_10 rfl rfl cop_ne
    (r_iload_n k_306_19 rfl rfl
    (r_i2l k_306_20 rfl
    (r_lconst k_306_21 rfl rfl
    (r_ldc2 k_306_22 rfl po_306 rfl rfl
    (r_callI (q_stat (rest := []) (av := [.long x1.toInt64, .long (1 : Int64), .long (60 : Int64)]) k_306_25 po_306 rfl (by decide) rfl rfl rfl rfl) (lvq (j := 0) rfl (by decide +kernel)) rfl rfl (fun r2 σ2 h2 => r_if (tgt := 37) k_306_28 rfl rfl cop_ne
    (r_aload_n k_306_37 rfl rfl
    (r_aload_n k_306_38 rfl rfl
    (r_getR k_306_39 rfl po_306 rfl rfl rfl rfl (gRat (eC rfl h2 (eC rfl h1 (eI e))) (LayR.at hL (i := 84) rfl))
    (r_iconst k_306_42 rfl rfl
    (r_callV (q_virt (rest := []) (as := [.ref 83, .int (ι 0)]) k_306_43 po_306 rfl rfl rfl (rcvO rfl rfl rfl) rfl rfl) (lvq (j := 0) rfl (by decide +kernel)) rfl rfl (fun _ σ3 h3 => r_aload_n k_306_46 rfl rfl
    (r_iload_n k_306_47 rfl rfl
    (r_callV (q_virt (rest := []) (as := [.int x1]) k_306_48 po_306 rfl rfl rfl (rcvO rfl rfl rfl) rfl rfl) (lvq (j := 0) rfl (by decide +kernel)) rfl rfl (fun _ σ4 h4 => r_aload_n k_306_51 rfl rfl
    (r_iload_n k_306_52 rfl rfl
    (r_callI (q_virt (rest := []) (as := [.int x0]) k_306_53 po_306 rfl rfl rfl (rcvO rfl rfl rfl) rfl rfl) (lvq (j := 0) rfl (by decide +kernel)) rfl rfl (fun r5 σ5 h5 => r_istore_n k_306_56 rfl rfl rfl
    (r_iconst k_306_57 rfl rfl
    (r_istore k_306_58 rfl rfl rfl
    (r_aload_n k_306_60 rfl rfl
    (r_aload_n k_306_61 rfl rfl
    (r_getR k_306_62 rfl po_306 rfl rfl rfl rfl (gRat (eC rfl h5 (eC rfl h4 (eC rfl h3 (eC rfl h2 (eC rfl h1 (eI e)))))) (LayR.at hL (i := 84) rfl))
    (r_iconst k_306_65 rfl rfl
    (r_callV (q_virt (rest := []) (as := [.ref 83, .int (ι 0)]) k_306_66 po_306 rfl rfl rfl (rcvO rfl rfl rfl) rfl rfl) (lvq (j := 0) rfl (by decide +kernel)) rfl rfl (fun _ σ6 h6 => r_aload_n k_306_69 rfl rfl
    (r_iload_n k_306_70 rfl rfl
    (r_callI (q_virt (rest := []) (as := [.int x0]) k_306_71 po_306 rfl rfl rfl (rcvO rfl rfl rfl) rfl rfl) (lvq (j := 0) rfl (by decide +kernel)) rfl rfl (fun r7 σ7 h7 => r_istore k_306_74 rfl rfl rfl
    (r_iconst k_306_76 rfl rfl
    (r_istore k_306_77 rfl rfl rfl
    (Le.rfl'))))))))))))))))))))))))))
    (r_aload_n k_306_31 rfl rfl
    (r_iconst k_306_32 rfl rfl
    (r_callI (q_virt (rest := []) (as := [.int (ι 2)]) k_306_33 po_306 rfl rfl rfl (rcvO rfl rfl rfl) rfl rfl) (lvq (j := 0) rfl (by decide +kernel)) rfl rfl (fun r8 σ8 h8 => r_ret k_306_36 rfl rfl))))))))))
    (r_aload_n k_306_13 rfl rfl
    (r_iconst k_306_14 rfl rfl
    (r_callI (q_virt (rest := []) (as := [.int (ι 1)]) k_306_15 po_306 rfl rfl rfl (rcvO rfl rfl rfl) rfl rfl) (lvq (j := 0) rfl (by decide +kernel)) rfl rfl (fun r9 σ9 h9 => r_ret k_306_18 rfl rfl))))))))))
/-! ===== 307 HedgeWantsModel.toGive ===== -/
theorem k_307_0 : cd 307 0 = some (.aload_n 0, 1) := by decide +kernel
theorem k_307_1 : cd 307 1 = some (.iconst 0, 1) := by decide +kernel
theorem k_307_2 : cd 307 2 = some (.putfield 145, 3) := by decide +kernel
theorem k_307_5 : cd 307 5 = some (.aload_n 0, 1) := by decide +kernel
theorem k_307_6 : cd 307 6 = some (.iload_n 1, 1) := by decide +kernel
theorem k_307_7 : cd 307 7 = some (.invokevirtual 396, 3) := by decide +kernel
theorem k_307_10 : cd 307 10 = some (.ifCond .ne 9, 3) := by decide +kernel
theorem k_307_13 : cd 307 13 = some (.aload_n 0, 1) := by decide +kernel
theorem k_307_14 : cd 307 14 = some (.iconst 1, 1) := by decide +kernel
theorem k_307_15 : cd 307 15 = some (.invokevirtual 290, 3) := by decide +kernel
theorem k_307_18 : cd 307 18 = some (.ireturn, 1) := by decide +kernel
theorem k_307_19 : cd 307 19 = some (.aload_n 0, 1) := by decide +kernel
theorem k_307_20 : cd 307 20 = some (.aload_n 0, 1) := by decide +kernel
theorem k_307_21 : cd 307 21 = some (.getfield 99, 3) := by decide +kernel
theorem k_307_24 : cd 307 24 = some (.iconst 0, 1) := by decide +kernel
theorem k_307_25 : cd 307 25 = some (.invokevirtual 402, 3) := by decide +kernel
theorem k_307_28 : cd 307 28 = some (.aload_n 0, 1) := by decide +kernel
theorem k_307_29 : cd 307 29 = some (.getfield 77, 3) := by decide +kernel
theorem k_307_32 : cd 307 32 = some (.iload_n 1, 1) := by decide +kernel
theorem k_307_33 : cd 307 33 = some (.iaload, 1) := by decide +kernel
theorem k_307_34 : cd 307 34 = some (.istore_n 2, 1) := by decide +kernel
theorem k_307_35 : cd 307 35 = some (.aload_n 0, 1) := by decide +kernel
theorem k_307_36 : cd 307 36 = some (.iload_n 1, 1) := by decide +kernel
theorem k_307_37 : cd 307 37 = some (.invokevirtual 433, 3) := by decide +kernel
theorem k_307_40 : cd 307 40 = some (.istore_n 3, 1) := by decide +kernel
theorem k_307_41 : cd 307 41 = some (.iconst (-1), 1) := by decide +kernel
theorem k_307_42 : cd 307 42 = some (.istore 4, 2) := by decide +kernel
theorem k_307_44 : cd 307 44 = some (.iconst 0, 1) := by decide +kernel
theorem k_307_45 : cd 307 45 = some (.istore 5, 2) := by decide +kernel
theorem k_307_47 : cd 307 47 = some (.iload 5, 2) := by decide +kernel
theorem k_307_49 : cd 307 49 = some (.aload_n 0, 1) := by decide +kernel
theorem k_307_50 : cd 307 50 = some (.getfield 44, 3) := by decide +kernel
theorem k_307_53 : cd 307 53 = some (.iconst 0, 1) := by decide +kernel
theorem k_307_54 : cd 307 54 = some (.iaload, 1) := by decide +kernel
theorem k_307_55 : cd 307 55 = some (.if_icmp .ge 60, 3) := by decide +kernel
theorem k_307_58 : cd 307 58 = some (.iload 5, 2) := by decide +kernel
theorem k_307_60 : cd 307 60 = some (.iload_n 2, 1) := by decide +kernel
theorem k_307_61 : cd 307 61 = some (.if_icmp .ne 6, 3) := by decide +kernel
theorem k_307_64 : cd 307 64 = some (.goto 45, 3) := by decide +kernel
theorem k_307_67 : cd 307 67 = some (.aload_n 0, 1) := by decide +kernel
theorem k_307_68 : cd 307 68 = some (.getfield 77, 3) := by decide +kernel
theorem k_307_71 : cd 307 71 = some (.iload_n 1, 1) := by decide +kernel
theorem k_307_72 : cd 307 72 = some (.iload 5, 2) := by decide +kernel
theorem k_307_74 : cd 307 74 = some (.iastore, 1) := by decide +kernel
theorem k_307_75 : cd 307 75 = some (.aload_n 0, 1) := by decide +kernel
theorem k_307_76 : cd 307 76 = some (.iload_n 1, 1) := by decide +kernel
theorem k_307_77 : cd 307 77 = some (.invokevirtual 433, 3) := by decide +kernel
theorem k_307_80 : cd 307 80 = some (.istore 6, 2) := by decide +kernel
theorem k_307_82 : cd 307 82 = some (.iload 6, 2) := by decide +kernel
theorem k_307_84 : cd 307 84 = some (.iconst (-1), 1) := by decide +kernel
theorem k_307_85 : cd 307 85 = some (.if_icmp .eq 24, 3) := by decide +kernel
theorem k_307_88 : cd 307 88 = some (.iload_n 3, 1) := by decide +kernel
theorem k_307_89 : cd 307 89 = some (.iconst (-1), 1) := by decide +kernel
theorem k_307_90 : cd 307 90 = some (.if_icmp .eq 12, 3) := by decide +kernel
theorem k_307_93 : cd 307 93 = some (.iload 6, 2) := by decide +kernel
theorem k_307_95 : cd 307 95 = some (.iload_n 3, 1) := by decide +kernel
theorem k_307_96 : cd 307 96 = some (.if_icmp .lt 6, 3) := by decide +kernel
theorem k_307_99 : cd 307 99 = some (.goto 10, 3) := by decide +kernel
theorem k_307_102 : cd 307 102 = some (.iload 5, 2) := by decide +kernel
theorem k_307_104 : cd 307 104 = some (.istore 4, 2) := by decide +kernel
theorem k_307_106 : cd 307 106 = some (.iload 6, 2) := by decide +kernel
theorem k_307_108 : cd 307 108 = some (.istore_n 3, 1) := by decide +kernel
theorem k_307_109 : cd 307 109 = some (.iinc 5 1, 3) := by decide +kernel
theorem k_307_112 : cd 307 112 = some (.goto (-65), 3) := by decide +kernel
theorem k_307_115 : cd 307 115 = some (.iload 4, 2) := by decide +kernel
theorem k_307_117 : cd 307 117 = some (.ireturn, 1) := by decide +kernel
theorem po_307 : po 307 = 9 := rfl
noncomputable def C_307_47  (x1 : Int32) (x2 : Int32) (x3 : Int32) (x4 : Int32) (x5 : Int32) (v6 : Value) (σ : pS) : Option pZ := den 307 0 47 [.ref 61, .int x1, .int x2, .int x3, .int x4, .int x5, v6] [] σ
theorem T_307_47  {x1 : Int32} {x2 : Int32} {x3 : Int32} {x4 : Int32} {x5 : Int32} {v6 : Value}  {σ : pS} {ρ : Nat → Nat → Option Nat} (e : gR σ = ρ) (hL : LayR ρ) : Le
  (if (gI σ 65 0) ≤ x5 then some (1, .int x4, σ) else if ¬ x5 = x2 then gd (inb x1 12) (bI (pcall 288 [.ref 61, .int x1] (sI σ 75 (ix x1) x5)) fun r1 σ1 => if r1 = (ν 1) then C_307_47 x1 x2 x3 x4 (x5 + (ι 1)) (.int r1) σ1 else if x3 = (ν 1) then C_307_47 x1 x2 r1 x5 (x5 + (ι 1)) (.int r1) σ1 else if r1 < x3 then C_307_47 x1 x2 r1 x5 (x5 + (ι 1)) (.int r1) σ1 else C_307_47 x1 x2 x3 x4 (x5 + (ι 1)) (.int r1) σ1) else C_307_47 x1 x2 x3 x4 (x5 + (ι 1)) v6 σ)
  (C_307_47  x1 x2 x3 x4 x5 v6 σ) := by
  unfold C_307_47
  exact r_iload k_307_47 rfl rfl
    (r_aload_n k_307_49 rfl rfl
    (r_getR k_307_50 rfl po_307 rfl rfl rfl rfl (gRat e (LayR.at hL (i := 66) rfl))
    (r_iconst k_307_53 rfl rfl
    (r_iald k_307_54 rfl rfl (by decide)
    (r_icmp (tgt := 115) k_307_55 rfl rfl cop_ge
    (r_iload k_307_115 rfl rfl
    (r_ret k_307_117 rfl rfl))
    (r_iload k_307_58 rfl rfl
    (r_iload_n k_307_60 rfl rfl
    (r_icmp (tgt := 67) k_307_61 rfl rfl cop_ne
    (r_aload_n k_307_67 rfl rfl
    (r_getR k_307_68 rfl po_307 rfl rfl rfl rfl (gRat e (LayR.at hL (i := 76) rfl))
    (r_iload_n k_307_71 rfl rfl
    (r_iload k_307_72 rfl rfl
    (r_gd fun g => r_iast k_307_74 rfl rfl g
    (r_aload_n k_307_75 rfl rfl
    (r_iload_n k_307_76 rfl rfl
    (r_callI (q_virt (rest := []) (as := [.int x1]) k_307_77 po_307 rfl rfl rfl (rcvO rfl rfl rfl) rfl rfl) (lvq (j := 0) rfl (by decide +kernel)) rfl rfl (fun r1 σ1 h1 => r_istore k_307_80 rfl rfl rfl
    (r_iload k_307_82 rfl rfl
    (r_iconst k_307_84 rfl rfl
    (r_icmp (tgt := 109) k_307_85 rfl rfl cop_eq
    (r_iinc k_307_109 rfl rfl rfl rfl
    (r_goto (tgt := 47) k_307_112 rfl (Le.rfl')))
    (r_iload_n k_307_88 rfl rfl
    (r_iconst k_307_89 rfl rfl
    (r_icmp (tgt := 102) k_307_90 rfl rfl cop_eq
    (r_iload k_307_102 rfl rfl
    (r_istore k_307_104 rfl rfl rfl
    (r_iload k_307_106 rfl rfl
    (r_istore_n k_307_108 rfl rfl rfl
    (r_iinc k_307_109 rfl rfl rfl rfl
    (r_goto (tgt := 47) k_307_112 rfl (Le.rfl')))))))
    (r_iload k_307_93 rfl rfl
    (r_iload_n k_307_95 rfl rfl
    (r_icmp (tgt := 102) k_307_96 rfl rfl cop_lt
    (r_iload k_307_102 rfl rfl
    (r_istore k_307_104 rfl rfl rfl
    (r_iload k_307_106 rfl rfl
    (r_istore_n k_307_108 rfl rfl rfl
    (r_iinc k_307_109 rfl rfl rfl rfl
    (r_goto (tgt := 47) k_307_112 rfl (Le.rfl')))))))
    (r_goto (tgt := 109) k_307_99 rfl (r_iinc k_307_109 rfl rfl rfl rfl
    (r_goto (tgt := 47) k_307_112 rfl (Le.rfl'))))))))))))))))))))))
    (r_goto (tgt := 109) k_307_64 rfl (r_iinc k_307_109 rfl rfl rfl rfl
    (r_goto (tgt := 47) k_307_112 rfl (Le.rfl'))))))))))))
theorem M_307  {x0 : Int32} {σ : pS} {ρ : Nat → Nat → Option Nat} (e : gR σ = ρ) (hL : LayR ρ) : Le
  (bI (pcall 264 [.ref 61, .int x0] (sI σ 61 4 (ι 0))) fun r1 σ1 => if ¬ r1 = (ι 0) then bV (pcall 271 [.ref 61, .ref 83, .int (ι 0)] σ1) fun σ2 => gd (inb x0 12) (bI (pcall 288 [.ref 61, .int x0] σ2) fun r3 σ3 => C_307_47 x0 (gI σ2 75 (ix x0)) r3 (ν 1) (ι 0) (.retAddr 0) σ3) else bI (pcall 211 [.ref 61, .int (ι 1)] σ1) fun r4 σ4 => some (1, .int r4, σ4))
  (pcall 307 [.ref 61, .int x0] σ) := by
  show Le _ (den 307 0 0 [.ref 61, .int x0, .retAddr 0, .retAddr 0, .retAddr 0, .retAddr 0, .retAddr 0] [] σ)
  exact r_aload_n k_307_0 rfl rfl
    (r_iconst k_307_1 rfl rfl
    (r_putI k_307_2 rfl po_307 rfl rfl rfl
    (r_aload_n k_307_5 rfl rfl
    (r_iload_n k_307_6 rfl rfl
    (r_callI (q_virt (rest := []) (as := [.int x0]) k_307_7 po_307 rfl rfl rfl (rcvO rfl rfl rfl) rfl rfl) (lvq (j := 0) rfl (by decide +kernel)) rfl rfl (fun r1 σ1 h1 => r_if (tgt := 19) k_307_10 rfl rfl cop_ne
    (r_aload_n k_307_19 rfl rfl
    (r_aload_n k_307_20 rfl rfl
    (r_getR k_307_21 rfl po_307 rfl rfl rfl rfl (gRat (eC rfl h1 (eI e)) (LayR.at hL (i := 84) rfl))
    (r_iconst k_307_24 rfl rfl
    (r_callV (q_virt (rest := []) (as := [.ref 83, .int (ι 0)]) k_307_25 po_307 rfl rfl rfl (rcvO rfl rfl rfl) rfl rfl) (lvq (j := 0) rfl (by decide +kernel)) rfl rfl (fun _ σ2 h2 => r_aload_n k_307_28 rfl rfl
    (r_getR k_307_29 rfl po_307 rfl rfl rfl rfl (gRat (eC rfl h2 (eC rfl h1 (eI e))) (LayR.at hL (i := 76) rfl))
    (r_iload_n k_307_32 rfl rfl
    (r_gd fun g => r_iald k_307_33 rfl rfl g
    (r_istore_n k_307_34 rfl rfl rfl
    (r_aload_n k_307_35 rfl rfl
    (r_iload_n k_307_36 rfl rfl
    (r_callI (q_virt (rest := []) (as := [.int x0]) k_307_37 po_307 rfl rfl rfl (rcvO rfl rfl rfl) rfl rfl) (lvq (j := 0) rfl (by decide +kernel)) rfl rfl (fun r3 σ3 h3 => r_istore_n k_307_40 rfl rfl rfl
    (r_iconst k_307_41 rfl rfl
    (r_istore k_307_42 rfl rfl rfl
    (r_iconst k_307_44 rfl rfl
    (r_istore k_307_45 rfl rfl rfl
    (Le.rfl')))))))))))))))))))
    (r_aload_n k_307_13 rfl rfl
    (r_iconst k_307_14 rfl rfl
    (r_callI (q_virt (rest := []) (as := [.int (ι 1)]) k_307_15 po_307 rfl rfl rfl (rcvO rfl rfl rfl) rfl rfl) (lvq (j := 0) rfl (by decide +kernel)) rfl rfl (fun r4 σ4 h4 => r_ret k_307_18 rfl rfl))))))))))
/-! ===== 308 HedgeWantsModel.see ===== -/
theorem k_308_0 : cd 308 0 = some (.aload_n 0, 1) := by decide +kernel
theorem k_308_1 : cd 308 1 = some (.iconst 0, 1) := by decide +kernel
theorem k_308_2 : cd 308 2 = some (.putfield 145, 3) := by decide +kernel
theorem k_308_5 : cd 308 5 = some (.aload_n 0, 1) := by decide +kernel
theorem k_308_6 : cd 308 6 = some (.iload_n 1, 1) := by decide +kernel
theorem k_308_7 : cd 308 7 = some (.invokevirtual 396, 3) := by decide +kernel
theorem k_308_10 : cd 308 10 = some (.ifCond .eq 11, 3) := by decide +kernel
theorem k_308_13 : cd 308 13 = some (.aload_n 0, 1) := by decide +kernel
theorem k_308_14 : cd 308 14 = some (.iload_n 3, 1) := by decide +kernel
theorem k_308_15 : cd 308 15 = some (.invokevirtual 390, 3) := by decide +kernel
theorem k_308_18 : cd 308 18 = some (.ifCond .ne 9, 3) := by decide +kernel
theorem k_308_21 : cd 308 21 = some (.aload_n 0, 1) := by decide +kernel
theorem k_308_22 : cd 308 22 = some (.iconst 1, 1) := by decide +kernel
theorem k_308_23 : cd 308 23 = some (.invokevirtual 290, 3) := by decide +kernel
theorem k_308_26 : cd 308 26 = some (.ireturn, 1) := by decide +kernel
theorem k_308_27 : cd 308 27 = some (.aload_n 0, 1) := by decide +kernel
theorem k_308_28 : cd 308 28 = some (.getfield 309, 3) := by decide +kernel
theorem k_308_31 : cd 308 31 = some (.bipush 8, 2) := by decide +kernel
theorem k_308_33 : cd 308 33 = some (.if_icmp .eq 15, 3) := by decide +kernel
theorem k_308_36 : cd 308 36 = some (.iload_n 2, 1) := by decide +kernel
theorem k_308_37 : cd 308 37 = some (.i2l, 1) := by decide +kernel
theorem k_308_38 : cd 308 38 = some (.lconst 0, 1) := by decide +kernel
theorem k_308_39 : cd 308 39 = some (.ldc2_w 406, 3) := by decide +kernel
theorem k_308_42 : cd 308 42 = some (.invokestatic 148, 3) := by decide +kernel
theorem k_308_45 : cd 308 45 = some (.ifCond .ne 9, 3) := by decide +kernel
theorem k_308_48 : cd 308 48 = some (.aload_n 0, 1) := by decide +kernel
theorem k_308_49 : cd 308 49 = some (.iconst 2, 1) := by decide +kernel
theorem k_308_50 : cd 308 50 = some (.invokevirtual 408, 3) := by decide +kernel
theorem k_308_53 : cd 308 53 = some (.ireturn, 1) := by decide +kernel
theorem k_308_54 : cd 308 54 = some (.aload_n 0, 1) := by decide +kernel
theorem k_308_55 : cd 308 55 = some (.getfield 106, 3) := by decide +kernel
theorem k_308_58 : cd 308 58 = some (.aload_n 0, 1) := by decide +kernel
theorem k_308_59 : cd 308 59 = some (.getfield 309, 3) := by decide +kernel
theorem k_308_62 : cd 308 62 = some (.iload_n 1, 1) := by decide +kernel
theorem k_308_63 : cd 308 63 = some (.iastore, 1) := by decide +kernel
theorem k_308_64 : cd 308 64 = some (.aload_n 0, 1) := by decide +kernel
theorem k_308_65 : cd 308 65 = some (.getfield 109, 3) := by decide +kernel
theorem k_308_68 : cd 308 68 = some (.aload_n 0, 1) := by decide +kernel
theorem k_308_69 : cd 308 69 = some (.getfield 309, 3) := by decide +kernel
theorem k_308_72 : cd 308 72 = some (.iload_n 2, 1) := by decide +kernel
theorem k_308_73 : cd 308 73 = some (.iastore, 1) := by decide +kernel
theorem k_308_74 : cd 308 74 = some (.aload_n 0, 1) := by decide +kernel
theorem k_308_75 : cd 308 75 = some (.getfield 112, 3) := by decide +kernel
theorem k_308_78 : cd 308 78 = some (.aload_n 0, 1) := by decide +kernel
theorem k_308_79 : cd 308 79 = some (.getfield 309, 3) := by decide +kernel
theorem k_308_82 : cd 308 82 = some (.iload_n 3, 1) := by decide +kernel
theorem k_308_83 : cd 308 83 = some (.iastore, 1) := by decide +kernel
theorem k_308_84 : cd 308 84 = some (.aload_n 0, 1) := by decide +kernel
theorem k_308_85 : cd 308 85 = some (.dup, 1) := by decide +kernel
theorem k_308_86 : cd 308 86 = some (.getfield 309, 3) := by decide +kernel
theorem k_308_89 : cd 308 89 = some (.iconst 1, 1) := by decide +kernel
theorem k_308_90 : cd 308 90 = some (.iadd, 1) := by decide +kernel
theorem k_308_91 : cd 308 91 = some (.putfield 309, 3) := by decide +kernel
theorem k_308_94 : cd 308 94 = some (.aload_n 0, 1) := by decide +kernel
theorem k_308_95 : cd 308 95 = some (.getfield 309, 3) := by decide +kernel
theorem k_308_98 : cd 308 98 = some (.ireturn, 1) := by decide +kernel
theorem po_308 : po 308 = 9 := rfl
theorem M_308  {x0 : Int32} {x1 : Int32} {x2 : Int32} {σ : pS} {ρ : Nat → Nat → Option Nat} (e : gR σ = ρ) (hL : LayR ρ) : Le
  (bI (pcall 264 [.ref 61, .int x0] (sI σ 61 4 (ι 0))) fun r1 σ1 => if r1 = (ι 0) then bI (pcall 211 [.ref 61, .int (ι 1)] σ1) fun r2 σ2 => some (1, .int r2, σ2) else bI (pcall 260 [.ref 61, .int x2] σ1) fun r3 σ3 => if ¬ r3 = (ι 0) then if (gI σ3 61 33) = (ι 8) then bI (pcall 269 [.ref 61, .int (ι 2)] σ3) fun r4 σ4 => some (1, .int r4, σ4) else bI (pcall 261 [.long x1.toInt64, .long (0 : Int64), .long (20 : Int64)] σ3) fun r5 σ5 => if ¬ r5 = (ι 0) then gd (inb (gI σ5 61 33) 8) (gd (inb (gI (sI σ5 85 (ix (gI σ5 61 33)) x0) 61 33) 8) (gd (inb (gI (sI (sI σ5 85 (ix (gI σ5 61 33)) x0) 86 (ix (gI (sI σ5 85 (ix (gI σ5 61 33)) x0) 61 33)) x1) 61 33) 8) (some (1, .int (gI (sI (sI (sI (sI σ5 85 (ix (gI σ5 61 33)) x0) 86 (ix (gI (sI σ5 85 (ix (gI σ5 61 33)) x0) 61 33)) x1) 87 (ix (gI (sI (sI σ5 85 (ix (gI σ5 61 33)) x0) 86 (ix (gI (sI σ5 85 (ix (gI σ5 61 33)) x0) 61 33)) x1) 61 33)) x2) 61 33 ((gI (sI (sI (sI σ5 85 (ix (gI σ5 61 33)) x0) 86 (ix (gI (sI σ5 85 (ix (gI σ5 61 33)) x0) 61 33)) x1) 87 (ix (gI (sI (sI σ5 85 (ix (gI σ5 61 33)) x0) 86 (ix (gI (sI σ5 85 (ix (gI σ5 61 33)) x0) 61 33)) x1) 61 33)) x2) 61 33) + (ι 1))) 61 33), (sI (sI (sI (sI σ5 85 (ix (gI σ5 61 33)) x0) 86 (ix (gI (sI σ5 85 (ix (gI σ5 61 33)) x0) 61 33)) x1) 87 (ix (gI (sI (sI σ5 85 (ix (gI σ5 61 33)) x0) 86 (ix (gI (sI σ5 85 (ix (gI σ5 61 33)) x0) 61 33)) x1) 61 33)) x2) 61 33 ((gI (sI (sI (sI σ5 85 (ix (gI σ5 61 33)) x0) 86 (ix (gI (sI σ5 85 (ix (gI σ5 61 33)) x0) 61 33)) x1) 87 (ix (gI (sI (sI σ5 85 (ix (gI σ5 61 33)) x0) 86 (ix (gI (sI σ5 85 (ix (gI σ5 61 33)) x0) 61 33)) x1) 61 33)) x2) 61 33) + (ι 1))))))) else bI (pcall 269 [.ref 61, .int (ι 2)] σ5) fun r6 σ6 => some (1, .int r6, σ6) else bI (pcall 211 [.ref 61, .int (ι 1)] σ3) fun r7 σ7 => some (1, .int r7, σ7))
  (pcall 308 [.ref 61, .int x0, .int x1, .int x2] σ) := by
  show Le _ (den 308 0 0 [.ref 61, .int x0, .int x1, .int x2] [] σ)
  exact r_aload_n k_308_0 rfl rfl
    (r_iconst k_308_1 rfl rfl
    (r_putI k_308_2 rfl po_308 rfl rfl rfl
    (r_aload_n k_308_5 rfl rfl
    (r_iload_n k_308_6 rfl rfl
    (r_callI (q_virt (rest := []) (as := [.int x0]) k_308_7 po_308 rfl rfl rfl (rcvO rfl rfl rfl) rfl rfl) (lvq (j := 0) rfl (by decide +kernel)) rfl rfl (fun r1 σ1 h1 => r_if (tgt := 21) k_308_10 rfl rfl cop_eq
    (r_aload_n k_308_21 rfl rfl
    (r_iconst k_308_22 rfl rfl
    (r_callI (q_virt (rest := []) (as := [.int (ι 1)]) k_308_23 po_308 rfl rfl rfl (rcvO rfl rfl rfl) rfl rfl) (lvq (j := 0) rfl (by decide +kernel)) rfl rfl (fun r2 σ2 h2 => r_ret k_308_26 rfl rfl))))
    (r_aload_n k_308_13 rfl rfl
    (r_iload_n k_308_14 rfl rfl
    (r_callI (q_virt (rest := []) (as := [.int x2]) k_308_15 po_308 rfl rfl rfl (rcvO rfl rfl rfl) rfl rfl) (lvq (j := 0) rfl (by decide +kernel)) rfl rfl (fun r3 σ3 h3 => r_if (tgt := 27) k_308_18 rfl rfl cop_ne
    (r_aload_n k_308_27 rfl rfl
    (r_getI k_308_28 rfl po_308 rfl rfl rfl rfl
    (r_bipush k_308_31 rfl rfl
    (r_icmp (tgt := 48) k_308_33 rfl rfl cop_eq
    (r_aload_n k_308_48 rfl rfl
    (r_iconst k_308_49 rfl rfl
    (r_callI (q_virt (rest := []) (as := [.int (ι 2)]) k_308_50 po_308 rfl rfl rfl (rcvO rfl rfl rfl) rfl rfl) (lvq (j := 0) rfl (by decide +kernel)) rfl rfl (fun r4 σ4 h4 => r_ret k_308_53 rfl rfl))))
    (r_iload_n k_308_36 rfl rfl
    (r_i2l k_308_37 rfl
    (r_lconst k_308_38 rfl rfl
    (r_ldc2 k_308_39 rfl po_308 rfl rfl
    (r_callI (q_stat (rest := []) (av := [.long x1.toInt64, .long (0 : Int64), .long (20 : Int64)]) k_308_42 po_308 rfl (by decide) rfl rfl rfl rfl) (lvq (j := 0) rfl (by decide +kernel)) rfl rfl (fun r5 σ5 h5 => r_if (tgt := 54) k_308_45 rfl rfl cop_ne
    (r_aload_n k_308_54 rfl rfl
    (r_getR k_308_55 rfl po_308 rfl rfl rfl rfl (gRat (eC rfl h5 (eC rfl h3 (eC rfl h1 (eI e)))) (LayR.at hL (i := 86) rfl))
    (r_aload_n k_308_58 rfl rfl
    (r_getI k_308_59 rfl po_308 rfl rfl rfl rfl
    (r_iload_n k_308_62 rfl rfl
    (r_gd fun g => r_iast k_308_63 rfl rfl g
    (r_aload_n k_308_64 rfl rfl
    (r_getR k_308_65 rfl po_308 rfl rfl rfl rfl (gRat (eI (eC rfl h5 (eC rfl h3 (eC rfl h1 (eI e))))) (LayR.at hL (i := 87) rfl))
    (r_aload_n k_308_68 rfl rfl
    (r_getI k_308_69 rfl po_308 rfl rfl rfl rfl
    (r_iload_n k_308_72 rfl rfl
    (r_gd fun g => r_iast k_308_73 rfl rfl g
    (r_aload_n k_308_74 rfl rfl
    (r_getR k_308_75 rfl po_308 rfl rfl rfl rfl (gRat (eI (eI (eC rfl h5 (eC rfl h3 (eC rfl h1 (eI e)))))) (LayR.at hL (i := 88) rfl))
    (r_aload_n k_308_78 rfl rfl
    (r_getI k_308_79 rfl po_308 rfl rfl rfl rfl
    (r_iload_n k_308_82 rfl rfl
    (r_gd fun g => r_iast k_308_83 rfl rfl g
    (r_aload_n k_308_84 rfl rfl
    (r_dup k_308_85 rfl rfl
    (r_getI k_308_86 rfl po_308 rfl rfl rfl rfl
    (r_iconst k_308_89 rfl rfl
    (r_iadd k_308_90 rfl
    (r_putI k_308_91 rfl po_308 rfl rfl rfl
    (r_aload_n k_308_94 rfl rfl
    (r_getI k_308_95 rfl po_308 rfl rfl rfl rfl
    (r_ret k_308_98 rfl rfl)))))))))))))))))))))))))))
    (r_aload_n k_308_48 rfl rfl
    (r_iconst k_308_49 rfl rfl
    (r_callI (q_virt (rest := []) (as := [.int (ι 2)]) k_308_50 po_308 rfl rfl rfl (rcvO rfl rfl rfl) rfl rfl) (lvq (j := 0) rfl (by decide +kernel)) rfl rfl (fun r6 σ6 h6 => r_ret k_308_53 rfl rfl))))))))))))))
    (r_aload_n k_308_21 rfl rfl
    (r_iconst k_308_22 rfl rfl
    (r_callI (q_virt (rest := []) (as := [.int (ι 1)]) k_308_23 po_308 rfl rfl rfl (rcvO rfl rfl rfl) rfl rfl) (lvq (j := 0) rfl (by decide +kernel)) rfl rfl (fun r7 σ7 h7 => r_ret k_308_26 rfl rfl))))))))))))))
/-! ===== 309 HedgeWantsModel.tastes ===== -/
theorem k_309_0 : cd 309 0 = some (.aload_n 0, 1) := by decide +kernel
theorem k_309_1 : cd 309 1 = some (.iconst 0, 1) := by decide +kernel
theorem k_309_2 : cd 309 2 = some (.putfield 145, 3) := by decide +kernel
theorem k_309_5 : cd 309 5 = some (.iload_n 1, 1) := by decide +kernel
theorem k_309_6 : cd 309 6 = some (.i2l, 1) := by decide +kernel
theorem k_309_7 : cd 309 7 = some (.lconst 0, 1) := by decide +kernel
theorem k_309_8 : cd 309 8 = some (.ldc2_w 429, 3) := by decide +kernel
theorem k_309_11 : cd 309 11 = some (.invokestatic 148, 3) := by decide +kernel
theorem k_309_14 : cd 309 14 = some (.ifCond .ne 9, 3) := by decide +kernel
theorem k_309_17 : cd 309 17 = some (.aload_n 0, 1) := by decide +kernel
theorem k_309_18 : cd 309 18 = some (.iconst 1, 1) := by decide +kernel
theorem k_309_19 : cd 309 19 = some (.invokevirtual 290, 3) := by decide +kernel
theorem k_309_22 : cd 309 22 = some (.ireturn, 1) := by decide +kernel
theorem k_309_23 : cd 309 23 = some (.iload_n 1, 1) := by decide +kernel
theorem k_309_24 : cd 309 24 = some (.iconst 2, 1) := by decide +kernel
theorem k_309_25 : cd 309 25 = some (.if_icmp .ne 16, 3) := by decide +kernel
theorem k_309_28 : cd 309 28 = some (.aload_n 0, 1) := by decide +kernel
theorem k_309_29 : cd 309 29 = some (.invokevirtual 470, 3) := by decide +kernel
theorem k_309_32 : cd 309 32 = some (.ifCond .eq 7, 3) := by decide +kernel
theorem k_309_35 : cd 309 35 = some (.iconst 1, 1) := by decide +kernel
theorem k_309_36 : cd 309 36 = some (.goto 4, 3) := by decide +kernel
theorem k_309_39 : cd 309 39 = some (.iconst 0, 1) := by decide +kernel
theorem k_309_40 : cd 309 40 = some (.ireturn, 1) := by decide +kernel
theorem k_309_41 : cd 309 41 = some (.aload_n 0, 1) := by decide +kernel
theorem k_309_42 : cd 309 42 = some (.invokevirtual 474, 3) := by decide +kernel
theorem k_309_45 : cd 309 45 = some (.iload_n 1, 1) := by decide +kernel
theorem k_309_46 : cd 309 46 = some (.ifCond .ne 10, 3) := by decide +kernel
theorem k_309_49 : cd 309 49 = some (.aload_n 0, 1) := by decide +kernel
theorem k_309_50 : cd 309 50 = some (.getfield 467, 3) := by decide +kernel
theorem k_309_53 : cd 309 53 = some (.goto 20, 3) := by decide +kernel
theorem k_309_56 : cd 309 56 = some (.aload_n 0, 1) := by decide +kernel
theorem k_309_57 : cd 309 57 = some (.getfield 467, 3) := by decide +kernel
theorem k_309_60 : cd 309 60 = some (.ifCond .ne 7, 3) := by decide +kernel
theorem k_309_63 : cd 309 63 = some (.iconst (-1), 1) := by decide +kernel
theorem k_309_64 : cd 309 64 = some (.goto 9, 3) := by decide +kernel
theorem k_309_67 : cd 309 67 = some (.aload_n 0, 1) := by decide +kernel
theorem k_309_68 : cd 309 68 = some (.getfield 118, 3) := by decide +kernel
theorem k_309_71 : cd 309 71 = some (.iconst 0, 1) := by decide +kernel
theorem k_309_72 : cd 309 72 = some (.iaload, 1) := by decide +kernel
theorem k_309_73 : cd 309 73 = some (.ireturn, 1) := by decide +kernel
theorem po_309 : po 309 = 9 := rfl
theorem M_309  {x0 : Int32} {σ : pS} {ρ : Nat → Nat → Option Nat} (e : gR σ = ρ) (hL : LayR ρ) : Le
  (bI (pcall 261 [.long x0.toInt64, .long (0 : Int64), .long (2 : Int64)] (sI σ 61 4 (ι 0))) fun r1 σ1 => if ¬ r1 = (ι 0) then if ¬ x0 = (ι 2) then bV (pcall 311 [.ref 61] σ1) fun σ2 => if ¬ x0 = (ι 0) then if ¬ (gI σ2 61 47) = (ι 0) then some (1, .int (gI σ2 89 0), σ2) else some (1, .int (ν 1), σ2) else some (1, .int (gI σ2 61 47), σ2) else bI (pcall 310 [.ref 61] σ1) fun r3 σ3 => if r3 = (ι 0) then some (1, .int (ι 0), σ3) else some (1, .int (ι 1), σ3) else bI (pcall 211 [.ref 61, .int (ι 1)] σ1) fun r4 σ4 => some (1, .int r4, σ4))
  (pcall 309 [.ref 61, .int x0] σ) := by
  show Le _ (den 309 0 0 [.ref 61, .int x0] [] σ)
  exact r_aload_n k_309_0 rfl rfl
    (r_iconst k_309_1 rfl rfl
    (r_putI k_309_2 rfl po_309 rfl rfl rfl
    (r_iload_n k_309_5 rfl rfl
    (r_i2l k_309_6 rfl
    (r_lconst k_309_7 rfl rfl
    (r_ldc2 k_309_8 rfl po_309 rfl rfl
    (r_callI (q_stat (rest := []) (av := [.long x0.toInt64, .long (0 : Int64), .long (2 : Int64)]) k_309_11 po_309 rfl (by decide) rfl rfl rfl rfl) (lvq (j := 0) rfl (by decide +kernel)) rfl rfl (fun r1 σ1 h1 => r_if (tgt := 23) k_309_14 rfl rfl cop_ne
    (r_iload_n k_309_23 rfl rfl
    (r_iconst k_309_24 rfl rfl
    (r_icmp (tgt := 41) k_309_25 rfl rfl cop_ne
    (r_aload_n k_309_41 rfl rfl
    (r_callV (q_virt (rest := []) (as := []) k_309_42 po_309 rfl rfl rfl (rcvO rfl rfl rfl) rfl rfl) (lvq (j := 0) rfl (by decide +kernel)) rfl rfl (fun _ σ2 h2 => r_iload_n k_309_45 rfl rfl
    (r_if (tgt := 56) k_309_46 rfl rfl cop_ne
    (r_aload_n k_309_56 rfl rfl
    (r_getI k_309_57 rfl po_309 rfl rfl rfl rfl
    (r_if (tgt := 67) k_309_60 rfl rfl cop_ne
    (r_aload_n k_309_67 rfl rfl
    (r_getR k_309_68 rfl po_309 rfl rfl rfl rfl (gRat (eC rfl h2 (eC rfl h1 (eI e))) (LayR.at hL (i := 90) rfl))
    (r_iconst k_309_71 rfl rfl
    (r_iald k_309_72 rfl rfl (by decide)
    (r_ret k_309_73 rfl rfl)))))
    (r_iconst k_309_63 rfl rfl
    (r_goto (tgt := 73) k_309_64 rfl (r_ret k_309_73 rfl rfl))))))
    (r_aload_n k_309_49 rfl rfl
    (r_getI k_309_50 rfl po_309 rfl rfl rfl rfl
    (r_goto (tgt := 73) k_309_53 rfl (r_ret k_309_73 rfl rfl))))))))
    (r_aload_n k_309_28 rfl rfl
    (r_callI (q_virt (rest := []) (as := []) k_309_29 po_309 rfl rfl rfl (rcvO rfl rfl rfl) rfl rfl) (lvq (j := 0) rfl (by decide +kernel)) rfl rfl (fun r3 σ3 h3 => r_if (tgt := 39) k_309_32 rfl rfl cop_eq
    (r_iconst k_309_39 rfl rfl
    (r_ret k_309_40 rfl rfl))
    (r_iconst k_309_35 rfl rfl
    (r_goto (tgt := 40) k_309_36 rfl (r_ret k_309_40 rfl rfl)))))))))
    (r_aload_n k_309_17 rfl rfl
    (r_iconst k_309_18 rfl rfl
    (r_callI (q_virt (rest := []) (as := [.int (ι 1)]) k_309_19 po_309 rfl rfl rfl (rcvO rfl rfl rfl) rfl rfl) (lvq (j := 0) rfl (by decide +kernel)) rfl rfl (fun r4 σ4 h4 => r_ret k_309_22 rfl rfl))))))))))))
/-! ===== 310 HedgeWantsModel.isAsSeen ===== -/
theorem k_310_0 : cd 310 0 = some (.aload_n 0, 1) := by decide +kernel
theorem k_310_1 : cd 310 1 = some (.aload_n 0, 1) := by decide +kernel
theorem k_310_2 : cd 310 2 = some (.getfield 115, 3) := by decide +kernel
theorem k_310_5 : cd 310 5 = some (.iconst 0, 1) := by decide +kernel
theorem k_310_6 : cd 310 6 = some (.invokevirtual 402, 3) := by decide +kernel
theorem k_310_9 : cd 310 9 = some (.iconst 0, 1) := by decide +kernel
theorem k_310_10 : cd 310 10 = some (.istore_n 1, 1) := by decide +kernel
theorem k_310_11 : cd 310 11 = some (.iconst 0, 1) := by decide +kernel
theorem k_310_12 : cd 310 12 = some (.istore_n 2, 1) := by decide +kernel
theorem k_310_13 : cd 310 13 = some (.iload_n 2, 1) := by decide +kernel
theorem k_310_14 : cd 310 14 = some (.aload_n 0, 1) := by decide +kernel
theorem k_310_15 : cd 310 15 = some (.getfield 309, 3) := by decide +kernel
theorem k_310_18 : cd 310 18 = some (.if_icmp .ge 20, 3) := by decide +kernel
theorem k_310_21 : cd 310 21 = some (.iload_n 1, 1) := by decide +kernel
theorem k_310_22 : cd 310 22 = some (.aload_n 0, 1) := by decide +kernel
theorem k_310_23 : cd 310 23 = some (.getfield 109, 3) := by decide +kernel
theorem k_310_26 : cd 310 26 = some (.iload_n 2, 1) := by decide +kernel
theorem k_310_27 : cd 310 27 = some (.iaload, 1) := by decide +kernel
theorem k_310_28 : cd 310 28 = some (.invokestatic 322, 3) := by decide +kernel
theorem k_310_31 : cd 310 31 = some (.istore_n 1, 1) := by decide +kernel
theorem k_310_32 : cd 310 32 = some (.iinc 2 1, 3) := by decide +kernel
theorem k_310_35 : cd 310 35 = some (.goto (-22), 3) := by decide +kernel
theorem k_310_38 : cd 310 38 = some (.iconst 1, 1) := by decide +kernel
theorem k_310_39 : cd 310 39 = some (.istore_n 2, 1) := by decide +kernel
theorem k_310_40 : cd 310 40 = some (.iconst 0, 1) := by decide +kernel
theorem k_310_41 : cd 310 41 = some (.istore_n 3, 1) := by decide +kernel
theorem k_310_42 : cd 310 42 = some (.iload_n 3, 1) := by decide +kernel
theorem k_310_43 : cd 310 43 = some (.iload_n 1, 1) := by decide +kernel
theorem k_310_44 : cd 310 44 = some (.if_icmp .gt 83, 3) := by decide +kernel
theorem k_310_47 : cd 310 47 = some (.iload_n 2, 1) := by decide +kernel
theorem k_310_48 : cd 310 48 = some (.ifCond .eq 79, 3) := by decide +kernel
theorem k_310_51 : cd 310 51 = some (.iconst 0, 1) := by decide +kernel
theorem k_310_52 : cd 310 52 = some (.istore 4, 2) := by decide +kernel
theorem k_310_54 : cd 310 54 = some (.iload 4, 2) := by decide +kernel
theorem k_310_56 : cd 310 56 = some (.aload_n 0, 1) := by decide +kernel
theorem k_310_57 : cd 310 57 = some (.getfield 309, 3) := by decide +kernel
theorem k_310_60 : cd 310 60 = some (.if_icmp .ge 52, 3) := by decide +kernel
theorem k_310_63 : cd 310 63 = some (.iload_n 2, 1) := by decide +kernel
theorem k_310_64 : cd 310 64 = some (.ifCond .eq 40, 3) := by decide +kernel
theorem k_310_67 : cd 310 67 = some (.aload_n 0, 1) := by decide +kernel
theorem k_310_68 : cd 310 68 = some (.getfield 109, 3) := by decide +kernel
theorem k_310_71 : cd 310 71 = some (.iload 4, 2) := by decide +kernel
theorem k_310_73 : cd 310 73 = some (.iaload, 1) := by decide +kernel
theorem k_310_74 : cd 310 74 = some (.iload_n 3, 1) := by decide +kernel
theorem k_310_75 : cd 310 75 = some (.if_icmp .ne 25, 3) := by decide +kernel
theorem k_310_78 : cd 310 78 = some (.aload_n 0, 1) := by decide +kernel
theorem k_310_79 : cd 310 79 = some (.getfield 77, 3) := by decide +kernel
theorem k_310_82 : cd 310 82 = some (.aload_n 0, 1) := by decide +kernel
theorem k_310_83 : cd 310 83 = some (.getfield 106, 3) := by decide +kernel
theorem k_310_86 : cd 310 86 = some (.iload 4, 2) := by decide +kernel
theorem k_310_88 : cd 310 88 = some (.iaload, 1) := by decide +kernel
theorem k_310_89 : cd 310 89 = some (.iaload, 1) := by decide +kernel
theorem k_310_90 : cd 310 90 = some (.aload_n 0, 1) := by decide +kernel
theorem k_310_91 : cd 310 91 = some (.getfield 112, 3) := by decide +kernel
theorem k_310_94 : cd 310 94 = some (.iload 4, 2) := by decide +kernel
theorem k_310_96 : cd 310 96 = some (.iaload, 1) := by decide +kernel
theorem k_310_97 : cd 310 97 = some (.if_icmp .ne 7, 3) := by decide +kernel
theorem k_310_100 : cd 310 100 = some (.iconst 1, 1) := by decide +kernel
theorem k_310_101 : cd 310 101 = some (.goto 4, 3) := by decide +kernel
theorem k_310_104 : cd 310 104 = some (.iconst 0, 1) := by decide +kernel
theorem k_310_105 : cd 310 105 = some (.istore_n 2, 1) := by decide +kernel
theorem k_310_106 : cd 310 106 = some (.iinc 4 1, 3) := by decide +kernel
theorem k_310_109 : cd 310 109 = some (.goto (-55), 3) := by decide +kernel
theorem k_310_112 : cd 310 112 = some (.iload_n 3, 1) := by decide +kernel
theorem k_310_113 : cd 310 113 = some (.iload_n 1, 1) := by decide +kernel
theorem k_310_114 : cd 310 114 = some (.if_icmp .ge 7, 3) := by decide +kernel
theorem k_310_117 : cd 310 117 = some (.aload_n 0, 1) := by decide +kernel
theorem k_310_118 : cd 310 118 = some (.invokevirtual 356, 3) := by decide +kernel
theorem k_310_121 : cd 310 121 = some (.iinc 3 1, 3) := by decide +kernel
theorem k_310_124 : cd 310 124 = some (.goto (-82), 3) := by decide +kernel
theorem k_310_127 : cd 310 127 = some (.aload_n 0, 1) := by decide +kernel
theorem k_310_128 : cd 310 128 = some (.aload_n 0, 1) := by decide +kernel
theorem k_310_129 : cd 310 129 = some (.getfield 115, 3) := by decide +kernel
theorem k_310_132 : cd 310 132 = some (.iconst 0, 1) := by decide +kernel
theorem k_310_133 : cd 310 133 = some (.invokevirtual 426, 3) := by decide +kernel
theorem k_310_136 : cd 310 136 = some (.iload_n 2, 1) := by decide +kernel
theorem k_310_137 : cd 310 137 = some (.ireturn, 1) := by decide +kernel
theorem po_310 : po 310 = 9 := rfl
noncomputable def C_310_13  (x1 : Int32) (x2 : Int32) (v3 : Value) (v4 : Value) (σ : pS) : Option pZ := den 310 0 13 [.ref 61, .int x1, .int x2, v3, v4] [] σ
noncomputable def C_310_42  (x1 : Int32) (x2 : Int32) (x3 : Int32) (v4 : Value) (σ : pS) : Option pZ := den 310 0 42 [.ref 61, .int x1, .int x2, .int x3, v4] [] σ
noncomputable def C_310_54  (x1 : Int32) (x2 : Int32) (x3 : Int32) (x4 : Int32) (σ : pS) : Option pZ := den 310 0 54 [.ref 61, .int x1, .int x2, .int x3, .int x4] [] σ
theorem T_310_13  {x1 : Int32} {x2 : Int32} {v3 : Value} {v4 : Value}  {σ : pS} {ρ : Nat → Nat → Option Nat} (e : gR σ = ρ) (hL : LayR ρ) : Le
  (if (gI σ 61 33) ≤ x2 then C_310_42 x1 (ι 1) (ι 0) v4 σ else gd (inb x2 8) (C_310_13 (imax x1 (gI σ 86 (ix x2))) (x2 + (ι 1)) v3 v4 σ))
  (C_310_13  x1 x2 v3 v4 σ) := by
  unfold C_310_13
  exact r_iload_n k_310_13 rfl rfl
    (r_aload_n k_310_14 rfl rfl
    (r_getI k_310_15 rfl po_310 rfl rfl rfl rfl
    (r_icmp (tgt := 38) k_310_18 rfl rfl cop_ge
    (r_iconst k_310_38 rfl rfl
    (r_istore_n k_310_39 rfl rfl rfl
    (r_iconst k_310_40 rfl rfl
    (r_istore_n k_310_41 rfl rfl rfl
    (Le.rfl')))))
    (r_iload_n k_310_21 rfl rfl
    (r_aload_n k_310_22 rfl rfl
    (r_getR k_310_23 rfl po_310 rfl rfl rfl rfl (gRat e (LayR.at hL (i := 87) rfl))
    (r_iload_n k_310_26 rfl rfl
    (r_gd fun g => r_iald k_310_27 rfl rfl g
    (r_imax k_310_28 rfl po_310 rfl rfl
    (r_istore_n k_310_31 rfl rfl rfl
    (r_iinc k_310_32 rfl rfl rfl rfl
    (r_goto (tgt := 13) k_310_35 rfl (Le.rfl')))))))))))))
theorem T_310_42  {x1 : Int32} {x2 : Int32} {x3 : Int32} {v4 : Value}  {σ : pS} {ρ : Nat → Nat → Option Nat} (e : gR σ = ρ) (hL : LayR ρ) : Le
  (if x1 < x3 then bV (pcall 284 [.ref 61, .ref 88, .int (ι 0)] σ) fun σ1 => gd (narrow .boolean (.int x2) = .int x2) (some (1, .int x2, σ1)) else if x2 = (ι 0) then bV (pcall 284 [.ref 61, .ref 88, .int (ι 0)] σ) fun σ2 => gd (narrow .boolean (.int x2) = .int x2) (some (1, .int x2, σ2)) else C_310_54 x1 x2 x3 (ι 0) σ)
  (C_310_42  x1 x2 x3 v4 σ) := by
  unfold C_310_42
  exact r_iload_n k_310_42 rfl rfl
    (r_iload_n k_310_43 rfl rfl
    (r_icmp (tgt := 127) k_310_44 rfl rfl cop_gt
    (r_aload_n k_310_127 rfl rfl
    (r_aload_n k_310_128 rfl rfl
    (r_getR k_310_129 rfl po_310 rfl rfl rfl rfl (gRat e (LayR.at hL (i := 89) rfl))
    (r_iconst k_310_132 rfl rfl
    (r_callV (q_virt (rest := []) (as := [.ref 88, .int (ι 0)]) k_310_133 po_310 rfl rfl rfl (rcvO rfl rfl rfl) rfl rfl) (lvq (j := 0) rfl (by decide +kernel)) rfl rfl (fun _ σ1 h1 => r_iload_n k_310_136 rfl rfl
    (r_gd fun g => r_ret k_310_137 rfl g)))))))
    (r_iload_n k_310_47 rfl rfl
    (r_if (tgt := 127) k_310_48 rfl rfl cop_eq
    (r_aload_n k_310_127 rfl rfl
    (r_aload_n k_310_128 rfl rfl
    (r_getR k_310_129 rfl po_310 rfl rfl rfl rfl (gRat e (LayR.at hL (i := 89) rfl))
    (r_iconst k_310_132 rfl rfl
    (r_callV (q_virt (rest := []) (as := [.ref 88, .int (ι 0)]) k_310_133 po_310 rfl rfl rfl (rcvO rfl rfl rfl) rfl rfl) (lvq (j := 0) rfl (by decide +kernel)) rfl rfl (fun _ σ2 h2 => r_iload_n k_310_136 rfl rfl
    (r_gd fun g => r_ret k_310_137 rfl g)))))))
    (r_iconst k_310_51 rfl rfl
    (r_istore k_310_52 rfl rfl rfl
    (Le.rfl')))))))
theorem T_310_54  {x1 : Int32} {x2 : Int32} {x3 : Int32} {x4 : Int32}  {σ : pS} {ρ : Nat → Nat → Option Nat} (e : gR σ = ρ) (hL : LayR ρ) : Le
  (if (gI σ 61 33) ≤ x4 then if x1 ≤ x3 then C_310_42 x1 x2 (x3 + (ι 1)) (.int x4) σ else bV (pcall 273 [.ref 61] σ) fun σ1 => C_310_42 x1 x2 (x3 + (ι 1)) (.int x4) σ1 else if x2 = (ι 0) then C_310_54 x1 (ι 0) x3 (x4 + (ι 1)) σ else gd (inb x4 8) (if ¬ (gI σ 86 (ix x4)) = x3 then C_310_54 x1 (ι 1) x3 (x4 + (ι 1)) σ else gd (inb x4 8) (gd (inb (gI σ 85 (ix x4)) 12) (gd (inb x4 8) (if ¬ (gI σ 75 (ix (gI σ 85 (ix x4)))) = (gI σ 87 (ix x4)) then C_310_54 x1 (ι 0) x3 (x4 + (ι 1)) σ else C_310_54 x1 (ι 1) x3 (x4 + (ι 1)) σ)))))
  (C_310_54  x1 x2 x3 x4 σ) := by
  unfold C_310_54
  exact r_iload k_310_54 rfl rfl
    (r_aload_n k_310_56 rfl rfl
    (r_getI k_310_57 rfl po_310 rfl rfl rfl rfl
    (r_icmp (tgt := 112) k_310_60 rfl rfl cop_ge
    (r_iload_n k_310_112 rfl rfl
    (r_iload_n k_310_113 rfl rfl
    (r_icmp (tgt := 121) k_310_114 rfl rfl cop_ge
    (r_iinc k_310_121 rfl rfl rfl rfl
    (r_goto (tgt := 42) k_310_124 rfl (Le.rfl')))
    (r_aload_n k_310_117 rfl rfl
    (r_callV (q_virt (rest := []) (as := []) k_310_118 po_310 rfl rfl rfl (rcvO rfl rfl rfl) rfl rfl) (lvq (j := 0) rfl (by decide +kernel)) rfl rfl (fun _ σ1 h1 => r_iinc k_310_121 rfl rfl rfl rfl
    (r_goto (tgt := 42) k_310_124 rfl (Le.rfl'))))))))
    (r_iload_n k_310_63 rfl rfl
    (r_if (tgt := 104) k_310_64 rfl rfl cop_eq
    (r_iconst k_310_104 rfl rfl
    (r_istore_n k_310_105 rfl rfl rfl
    (r_iinc k_310_106 rfl rfl rfl rfl
    (r_goto (tgt := 54) k_310_109 rfl (Le.rfl')))))
    (r_aload_n k_310_67 rfl rfl
    (r_getR k_310_68 rfl po_310 rfl rfl rfl rfl (gRat e (LayR.at hL (i := 87) rfl))
    (r_iload k_310_71 rfl rfl
    (r_gd fun g => r_iald k_310_73 rfl rfl g
    (r_iload_n k_310_74 rfl rfl
    (r_icmp (tgt := 100) k_310_75 rfl rfl cop_ne
    (r_iconst k_310_100 rfl rfl
    (r_goto (tgt := 105) k_310_101 rfl (r_istore_n k_310_105 rfl rfl rfl
    (r_iinc k_310_106 rfl rfl rfl rfl
    (r_goto (tgt := 54) k_310_109 rfl (Le.rfl'))))))
    (r_aload_n k_310_78 rfl rfl
    (r_getR k_310_79 rfl po_310 rfl rfl rfl rfl (gRat e (LayR.at hL (i := 76) rfl))
    (r_aload_n k_310_82 rfl rfl
    (r_getR k_310_83 rfl po_310 rfl rfl rfl rfl (gRat e (LayR.at hL (i := 86) rfl))
    (r_iload k_310_86 rfl rfl
    (r_gd fun g => r_iald k_310_88 rfl rfl g
    (r_gd fun g => r_iald k_310_89 rfl rfl g
    (r_aload_n k_310_90 rfl rfl
    (r_getR k_310_91 rfl po_310 rfl rfl rfl rfl (gRat e (LayR.at hL (i := 88) rfl))
    (r_iload k_310_94 rfl rfl
    (r_gd fun g => r_iald k_310_96 rfl rfl g
    (r_icmp (tgt := 104) k_310_97 rfl rfl cop_ne
    (r_iconst k_310_104 rfl rfl
    (r_istore_n k_310_105 rfl rfl rfl
    (r_iinc k_310_106 rfl rfl rfl rfl
    (r_goto (tgt := 54) k_310_109 rfl (Le.rfl')))))
    (r_iconst k_310_100 rfl rfl
    (r_goto (tgt := 105) k_310_101 rfl (r_istore_n k_310_105 rfl rfl rfl
    (r_iinc k_310_106 rfl rfl rfl rfl
    (r_goto (tgt := 54) k_310_109 rfl (Le.rfl')))))))))))))))))))))))))))))
theorem M_310   {σ : pS} {ρ : Nat → Nat → Option Nat} (e : gR σ = ρ) (hL : LayR ρ) : Le
  (bV (pcall 271 [.ref 61, .ref 88, .int (ι 0)] σ) fun σ1 => C_310_13 (ι 0) (ι 0) (.retAddr 0) (.retAddr 0) σ1)
  (pcall 310 [.ref 61] σ) := by
  show Le _ (den 310 0 0 [.ref 61, .retAddr 0, .retAddr 0, .retAddr 0, .retAddr 0] [] σ)
  exact r_aload_n k_310_0 rfl rfl
    (r_aload_n k_310_1 rfl rfl
    (r_getR k_310_2 rfl po_310 rfl rfl rfl rfl (gRat e (LayR.at hL (i := 89) rfl))
    (r_iconst k_310_5 rfl rfl
    (r_callV (q_virt (rest := []) (as := [.ref 88, .int (ι 0)]) k_310_6 po_310 rfl rfl rfl (rcvO rfl rfl rfl) rfl rfl) (lvq (j := 0) rfl (by decide +kernel)) rfl rfl (fun _ σ1 h1 => r_iconst k_310_9 rfl rfl
    (r_istore_n k_310_10 rfl rfl rfl
    (r_iconst k_310_11 rfl rfl
    (r_istore_n k_310_12 rfl rfl rfl
    (Le.rfl')))))))))
/-! ===== 311 HedgeWantsModel.tellFits ===== -/
theorem k_311_0 : cd 311 0 = some (.aload_n 0, 1) := by decide +kernel
theorem k_311_1 : cd 311 1 = some (.iconst 0, 1) := by decide +kernel
theorem k_311_2 : cd 311 2 = some (.putfield 467, 3) := by decide +kernel
theorem k_311_5 : cd 311 5 = some (.iconst 0, 1) := by decide +kernel
theorem k_311_6 : cd 311 6 = some (.istore_n 1, 1) := by decide +kernel
theorem k_311_7 : cd 311 7 = some (.iload_n 1, 1) := by decide +kernel
theorem k_311_8 : cd 311 8 = some (.aload_n 0, 1) := by decide +kernel
theorem k_311_9 : cd 311 9 = some (.getfield 44, 3) := by decide +kernel
theorem k_311_12 : cd 311 12 = some (.iconst 0, 1) := by decide +kernel
theorem k_311_13 : cd 311 13 = some (.iaload, 1) := by decide +kernel
theorem k_311_14 : cd 311 14 = some (.if_icmp .ge 123, 3) := by decide +kernel
theorem k_311_17 : cd 311 17 = some (.iconst 0, 1) := by decide +kernel
theorem k_311_18 : cd 311 18 = some (.istore_n 2, 1) := by decide +kernel
theorem k_311_19 : cd 311 19 = some (.iload_n 2, 1) := by decide +kernel
theorem k_311_20 : cd 311 20 = some (.aload_n 0, 1) := by decide +kernel
theorem k_311_21 : cd 311 21 = some (.getfield 44, 3) := by decide +kernel
theorem k_311_24 : cd 311 24 = some (.iconst 1, 1) := by decide +kernel
theorem k_311_25 : cd 311 25 = some (.iaload, 1) := by decide +kernel
theorem k_311_26 : cd 311 26 = some (.if_icmp .ge 105, 3) := by decide +kernel
theorem k_311_29 : cd 311 29 = some (.aload_n 0, 1) := by decide +kernel
theorem k_311_30 : cd 311 30 = some (.iload_n 1, 1) := by decide +kernel
theorem k_311_31 : cd 311 31 = some (.iload_n 2, 1) := by decide +kernel
theorem k_311_32 : cd 311 32 = some (.invokevirtual 319, 3) := by decide +kernel
theorem k_311_35 : cd 311 35 = some (.istore_n 3, 1) := by decide +kernel
theorem k_311_36 : cd 311 36 = some (.iconst 0, 1) := by decide +kernel
theorem k_311_37 : cd 311 37 = some (.istore 4, 2) := by decide +kernel
theorem k_311_39 : cd 311 39 = some (.iload 4, 2) := by decide +kernel
theorem k_311_41 : cd 311 41 = some (.bipush 9, 2) := by decide +kernel
theorem k_311_43 : cd 311 43 = some (.if_icmp .gt 70, 3) := by decide +kernel
theorem k_311_46 : cd 311 46 = some (.aload_n 0, 1) := by decide +kernel
theorem k_311_47 : cd 311 47 = some (.getfield 82, 3) := by decide +kernel
theorem k_311_50 : cd 311 50 = some (.bipush 12, 2) := by decide +kernel
theorem k_311_52 : cd 311 52 = some (.iload_n 1, 1) := by decide +kernel
theorem k_311_53 : cd 311 53 = some (.imul, 1) := by decide +kernel
theorem k_311_54 : cd 311 54 = some (.iload_n 2, 1) := by decide +kernel
theorem k_311_55 : cd 311 55 = some (.iadd, 1) := by decide +kernel
theorem k_311_56 : cd 311 56 = some (.iload 4, 2) := by decide +kernel
theorem k_311_58 : cd 311 58 = some (.iastore, 1) := by decide +kernel
theorem k_311_59 : cd 311 59 = some (.iload 4, 2) := by decide +kernel
theorem k_311_61 : cd 311 61 = some (.iload_n 3, 1) := by decide +kernel
theorem k_311_62 : cd 311 62 = some (.if_icmp .eq 45, 3) := by decide +kernel
theorem k_311_65 : cd 311 65 = some (.aload_n 0, 1) := by decide +kernel
theorem k_311_66 : cd 311 66 = some (.invokevirtual 470, 3) := by decide +kernel
theorem k_311_69 : cd 311 69 = some (.ifCond .ne 6, 3) := by decide +kernel
theorem k_311_72 : cd 311 72 = some (.goto 35, 3) := by decide +kernel
theorem k_311_75 : cd 311 75 = some (.aload_n 0, 1) := by decide +kernel
theorem k_311_76 : cd 311 76 = some (.getfield 118, 3) := by decide +kernel
theorem k_311_79 : cd 311 79 = some (.aload_n 0, 1) := by decide +kernel
theorem k_311_80 : cd 311 80 = some (.getfield 467, 3) := by decide +kernel
theorem k_311_83 : cd 311 83 = some (.sipush 1000, 3) := by decide +kernel
theorem k_311_86 : cd 311 86 = some (.iload_n 1, 1) := by decide +kernel
theorem k_311_87 : cd 311 87 = some (.imul, 1) := by decide +kernel
theorem k_311_88 : cd 311 88 = some (.bipush 10, 2) := by decide +kernel
theorem k_311_90 : cd 311 90 = some (.iload_n 2, 1) := by decide +kernel
theorem k_311_91 : cd 311 91 = some (.imul, 1) := by decide +kernel
theorem k_311_92 : cd 311 92 = some (.iadd, 1) := by decide +kernel
theorem k_311_93 : cd 311 93 = some (.iload 4, 2) := by decide +kernel
theorem k_311_95 : cd 311 95 = some (.iadd, 1) := by decide +kernel
theorem k_311_96 : cd 311 96 = some (.iastore, 1) := by decide +kernel
theorem k_311_97 : cd 311 97 = some (.aload_n 0, 1) := by decide +kernel
theorem k_311_98 : cd 311 98 = some (.dup, 1) := by decide +kernel
theorem k_311_99 : cd 311 99 = some (.getfield 467, 3) := by decide +kernel
theorem k_311_102 : cd 311 102 = some (.iconst 1, 1) := by decide +kernel
theorem k_311_103 : cd 311 103 = some (.iadd, 1) := by decide +kernel
theorem k_311_104 : cd 311 104 = some (.putfield 467, 3) := by decide +kernel
theorem k_311_107 : cd 311 107 = some (.iinc 4 1, 3) := by decide +kernel
theorem k_311_110 : cd 311 110 = some (.goto (-71), 3) := by decide +kernel
theorem k_311_113 : cd 311 113 = some (.aload_n 0, 1) := by decide +kernel
theorem k_311_114 : cd 311 114 = some (.getfield 82, 3) := by decide +kernel
theorem k_311_117 : cd 311 117 = some (.bipush 12, 2) := by decide +kernel
theorem k_311_119 : cd 311 119 = some (.iload_n 1, 1) := by decide +kernel
theorem k_311_120 : cd 311 120 = some (.imul, 1) := by decide +kernel
theorem k_311_121 : cd 311 121 = some (.iload_n 2, 1) := by decide +kernel
theorem k_311_122 : cd 311 122 = some (.iadd, 1) := by decide +kernel
theorem k_311_123 : cd 311 123 = some (.iload_n 3, 1) := by decide +kernel
theorem k_311_124 : cd 311 124 = some (.iastore, 1) := by decide +kernel
theorem k_311_125 : cd 311 125 = some (.iinc 2 1, 3) := by decide +kernel
theorem k_311_128 : cd 311 128 = some (.goto (-109), 3) := by decide +kernel
theorem k_311_131 : cd 311 131 = some (.iinc 1 1, 3) := by decide +kernel
theorem k_311_134 : cd 311 134 = some (.goto (-127), 3) := by decide +kernel
theorem k_311_137 : cd 311 137 = some (.return_, 1) := by decide +kernel
theorem po_311 : po 311 = 9 := rfl
noncomputable def C_311_7  (x1 : Int32) (v2 : Value) (v3 : Value) (v4 : Value) (σ : pS) : Option pZ := den 311 0 7 [.ref 61, .int x1, v2, v3, v4] [] σ
noncomputable def C_311_19  (x1 : Int32) (x2 : Int32) (v3 : Value) (v4 : Value) (σ : pS) : Option pZ := den 311 0 19 [.ref 61, .int x1, .int x2, v3, v4] [] σ
noncomputable def C_311_39  (x1 : Int32) (x2 : Int32) (x3 : Int32) (x4 : Int32) (σ : pS) : Option pZ := den 311 0 39 [.ref 61, .int x1, .int x2, .int x3, .int x4] [] σ
theorem T_311_7  {x1 : Int32} {v2 : Value} {v3 : Value} {v4 : Value}  {σ : pS} {ρ : Nat → Nat → Option Nat} (e : gR σ = ρ) (hL : LayR ρ) : Le
  (if (gI σ 65 0) ≤ x1 then some (0, .null, σ) else C_311_19 x1 (ι 0) v3 v4 σ)
  (C_311_7  x1 v2 v3 v4 σ) := by
  unfold C_311_7
  exact r_iload_n k_311_7 rfl rfl
    (r_aload_n k_311_8 rfl rfl
    (r_getR k_311_9 rfl po_311 rfl rfl rfl rfl (gRat e (LayR.at hL (i := 66) rfl))
    (r_iconst k_311_12 rfl rfl
    (r_iald k_311_13 rfl rfl (by decide)
    (r_icmp (tgt := 137) k_311_14 rfl rfl cop_ge
    (r_retV k_311_137 rfl)
    (r_iconst k_311_17 rfl rfl
    (r_istore_n k_311_18 rfl rfl rfl
    (Le.rfl'))))))))
theorem T_311_19  {x1 : Int32} {x2 : Int32} {v3 : Value} {v4 : Value}  {σ : pS} {ρ : Nat → Nat → Option Nat} (e : gR σ = ρ) (hL : LayR ρ) : Le
  (if (gI σ 65 1) ≤ x2 then C_311_7 (x1 + (ι 1)) (.int x2) v3 v4 σ else bI (pcall 245 [.ref 61, .int x1, .int x2] σ) fun r1 σ1 => C_311_39 x1 x2 r1 (ι 0) σ1)
  (C_311_19  x1 x2 v3 v4 σ) := by
  unfold C_311_19
  exact r_iload_n k_311_19 rfl rfl
    (r_aload_n k_311_20 rfl rfl
    (r_getR k_311_21 rfl po_311 rfl rfl rfl rfl (gRat e (LayR.at hL (i := 66) rfl))
    (r_iconst k_311_24 rfl rfl
    (r_iald k_311_25 rfl rfl (by decide)
    (r_icmp (tgt := 131) k_311_26 rfl rfl cop_ge
    (r_iinc k_311_131 rfl rfl rfl rfl
    (r_goto (tgt := 7) k_311_134 rfl (Le.rfl')))
    (r_aload_n k_311_29 rfl rfl
    (r_iload_n k_311_30 rfl rfl
    (r_iload_n k_311_31 rfl rfl
    (r_callI (q_virt (rest := []) (as := [.int x1, .int x2]) k_311_32 po_311 rfl rfl rfl (rcvO rfl rfl rfl) rfl rfl) (lvq (j := 0) rfl (by decide +kernel)) rfl rfl (fun r1 σ1 h1 => r_istore_n k_311_35 rfl rfl rfl
    (r_iconst k_311_36 rfl rfl
    (r_istore k_311_37 rfl rfl rfl
    (Le.rfl')))))))))))))
theorem T_311_39  {x1 : Int32} {x2 : Int32} {x3 : Int32} {x4 : Int32}  {σ : pS} {ρ : Nat → Nat → Option Nat} (e : gR σ = ρ) (hL : LayR ρ) : Le
  (if (ι 9) < x4 then gd (inb (((ι 12) * x1) + x2) 96) (C_311_19 x1 (x2 + (ι 1)) (.int x3) (.int x4) (sI σ 77 (ix (((ι 12) * x1) + x2)) x3)) else gd (inb (((ι 12) * x1) + x2) 96) (if x4 = x3 then C_311_39 x1 x2 x3 (x4 + (ι 1)) (sI σ 77 (ix (((ι 12) * x1) + x2)) x4) else bI (pcall 310 [.ref 61] (sI σ 77 (ix (((ι 12) * x1) + x2)) x4)) fun r1 σ1 => if ¬ r1 = (ι 0) then gd (inb (gI σ1 61 47) 960) (C_311_39 x1 x2 x3 (x4 + (ι 1)) (sI (sI σ1 89 (ix (gI σ1 61 47)) ((((ι 1000) * x1) + ((ι 10) * x2)) + x4)) 61 47 ((gI (sI σ1 89 (ix (gI σ1 61 47)) ((((ι 1000) * x1) + ((ι 10) * x2)) + x4)) 61 47) + (ι 1)))) else C_311_39 x1 x2 x3 (x4 + (ι 1)) σ1))
  (C_311_39  x1 x2 x3 x4 σ) := by
  unfold C_311_39
  exact r_iload k_311_39 rfl rfl
    (r_bipush k_311_41 rfl rfl
    (r_icmp (tgt := 113) k_311_43 rfl rfl cop_gt
    (r_aload_n k_311_113 rfl rfl
    (r_getR k_311_114 rfl po_311 rfl rfl rfl rfl (gRat e (LayR.at hL (i := 78) rfl))
    (r_bipush k_311_117 rfl rfl
    (r_iload_n k_311_119 rfl rfl
    (r_imul k_311_120 rfl
    (r_iload_n k_311_121 rfl rfl
    (r_iadd k_311_122 rfl
    (r_iload_n k_311_123 rfl rfl
    (r_gd fun g => r_iast k_311_124 rfl rfl g
    (r_iinc k_311_125 rfl rfl rfl rfl
    (r_goto (tgt := 19) k_311_128 rfl (Le.rfl'))))))))))))
    (r_aload_n k_311_46 rfl rfl
    (r_getR k_311_47 rfl po_311 rfl rfl rfl rfl (gRat e (LayR.at hL (i := 78) rfl))
    (r_bipush k_311_50 rfl rfl
    (r_iload_n k_311_52 rfl rfl
    (r_imul k_311_53 rfl
    (r_iload_n k_311_54 rfl rfl
    (r_iadd k_311_55 rfl
    (r_iload k_311_56 rfl rfl
    (r_gd fun g => r_iast k_311_58 rfl rfl g
    (r_iload k_311_59 rfl rfl
    (r_iload_n k_311_61 rfl rfl
    (r_icmp (tgt := 107) k_311_62 rfl rfl cop_eq
    (r_iinc k_311_107 rfl rfl rfl rfl
    (r_goto (tgt := 39) k_311_110 rfl (Le.rfl')))
    (r_aload_n k_311_65 rfl rfl
    (r_callI (q_virt (rest := []) (as := []) k_311_66 po_311 rfl rfl rfl (rcvO rfl rfl rfl) rfl rfl) (lvq (j := 0) rfl (by decide +kernel)) rfl rfl (fun r1 σ1 h1 => r_if (tgt := 75) k_311_69 rfl rfl cop_ne
    (r_aload_n k_311_75 rfl rfl
    (r_getR k_311_76 rfl po_311 rfl rfl rfl rfl (gRat (eC rfl h1 (eI e)) (LayR.at hL (i := 90) rfl))
    (r_aload_n k_311_79 rfl rfl
    (r_getI k_311_80 rfl po_311 rfl rfl rfl rfl
    (r_sipush k_311_83 rfl rfl
    (r_iload_n k_311_86 rfl rfl
    (r_imul k_311_87 rfl
    (r_bipush k_311_88 rfl rfl
    (r_iload_n k_311_90 rfl rfl
    (r_imul k_311_91 rfl
    (r_iadd k_311_92 rfl
    (r_iload k_311_93 rfl rfl
    (r_iadd k_311_95 rfl
    (r_gd fun g => r_iast k_311_96 rfl rfl g
    (r_aload_n k_311_97 rfl rfl
    (r_dup k_311_98 rfl rfl
    (r_getI k_311_99 rfl po_311 rfl rfl rfl rfl
    (r_iconst k_311_102 rfl rfl
    (r_iadd k_311_103 rfl
    (r_putI k_311_104 rfl po_311 rfl rfl rfl
    (r_iinc k_311_107 rfl rfl rfl rfl
    (r_goto (tgt := 39) k_311_110 rfl (Le.rfl')))))))))))))))))))))))
    (r_goto (tgt := 107) k_311_72 rfl (r_iinc k_311_107 rfl rfl rfl rfl
    (r_goto (tgt := 39) k_311_110 rfl (Le.rfl')))))))))))))))))))))
theorem M_311   {σ : pS} {ρ : Nat → Nat → Option Nat} (e : gR σ = ρ) (hL : LayR ρ) : Le
  (C_311_7 (ι 0) (.retAddr 0) (.retAddr 0) (.retAddr 0) (sI σ 61 47 (ι 0)))
  (pcall 311 [.ref 61] σ) := by
  show Le _ (den 311 0 0 [.ref 61, .retAddr 0, .retAddr 0, .retAddr 0, .retAddr 0] [] σ)
  exact r_aload_n k_311_0 rfl rfl
    (r_iconst k_311_1 rfl rfl
    (r_putI k_311_2 rfl po_311 rfl rfl rfl
    (r_iconst k_311_5 rfl rfl
    (r_istore_n k_311_6 rfl rfl rfl
    (Le.rfl')))))
/-! ===== 312 HedgeWantsModel.next ===== -/
theorem k_312_0 : cd 312 0 = some (.aload_n 0, 1) := by decide +kernel
theorem k_312_1 : cd 312 1 = some (.iconst 0, 1) := by decide +kernel
theorem k_312_2 : cd 312 2 = some (.putfield 145, 3) := by decide +kernel
theorem k_312_5 : cd 312 5 = some (.iload_n 1, 1) := by decide +kernel
theorem k_312_6 : cd 312 6 = some (.i2l, 1) := by decide +kernel
theorem k_312_7 : cd 312 7 = some (.lconst 0, 1) := by decide +kernel
theorem k_312_8 : cd 312 8 = some (.lconst 1, 1) := by decide +kernel
theorem k_312_9 : cd 312 9 = some (.invokestatic 148, 3) := by decide +kernel
theorem k_312_12 : cd 312 12 = some (.ifCond .ne 9, 3) := by decide +kernel
theorem k_312_15 : cd 312 15 = some (.aload_n 0, 1) := by decide +kernel
theorem k_312_16 : cd 312 16 = some (.iconst 1, 1) := by decide +kernel
theorem k_312_17 : cd 312 17 = some (.invokevirtual 290, 3) := by decide +kernel
theorem k_312_20 : cd 312 20 = some (.ireturn, 1) := by decide +kernel
theorem k_312_21 : cd 312 21 = some (.aload_n 0, 1) := by decide +kernel
theorem k_312_22 : cd 312 22 = some (.invokevirtual 474, 3) := by decide +kernel
theorem k_312_25 : cd 312 25 = some (.aload_n 0, 1) := by decide +kernel
theorem k_312_26 : cd 312 26 = some (.aload_n 0, 1) := by decide +kernel
theorem k_312_27 : cd 312 27 = some (.getfield 99, 3) := by decide +kernel
theorem k_312_30 : cd 312 30 = some (.iconst 0, 1) := by decide +kernel
theorem k_312_31 : cd 312 31 = some (.invokevirtual 402, 3) := by decide +kernel
theorem k_312_34 : cd 312 34 = some (.iconst 0, 1) := by decide +kernel
theorem k_312_35 : cd 312 35 = some (.istore_n 2, 1) := by decide +kernel
theorem k_312_36 : cd 312 36 = some (.iload_n 2, 1) := by decide +kernel
theorem k_312_37 : cd 312 37 = some (.bipush 12, 2) := by decide +kernel
theorem k_312_39 : cd 312 39 = some (.if_icmp .ge 16, 3) := by decide +kernel
theorem k_312_42 : cd 312 42 = some (.aload_n 0, 1) := by decide +kernel
theorem k_312_43 : cd 312 43 = some (.getfield 121, 3) := by decide +kernel
theorem k_312_46 : cd 312 46 = some (.iload_n 2, 1) := by decide +kernel
theorem k_312_47 : cd 312 47 = some (.iconst 0, 1) := by decide +kernel
theorem k_312_48 : cd 312 48 = some (.iastore, 1) := by decide +kernel
theorem k_312_49 : cd 312 49 = some (.iinc 2 1, 3) := by decide +kernel
theorem k_312_52 : cd 312 52 = some (.goto (-16), 3) := by decide +kernel
theorem k_312_55 : cd 312 55 = some (.iconst 0, 1) := by decide +kernel
theorem k_312_56 : cd 312 56 = some (.istore_n 2, 1) := by decide +kernel
theorem k_312_57 : cd 312 57 = some (.iload_n 2, 1) := by decide +kernel
theorem k_312_58 : cd 312 58 = some (.aload_n 0, 1) := by decide +kernel
theorem k_312_59 : cd 312 59 = some (.getfield 467, 3) := by decide +kernel
theorem k_312_62 : cd 312 62 = some (.if_icmp .ge 98, 3) := by decide +kernel
theorem k_312_65 : cd 312 65 = some (.aload_n 0, 1) := by decide +kernel
theorem k_312_66 : cd 312 66 = some (.getfield 82, 3) := by decide +kernel
theorem k_312_69 : cd 312 69 = some (.bipush 12, 2) := by decide +kernel
theorem k_312_71 : cd 312 71 = some (.aload_n 0, 1) := by decide +kernel
theorem k_312_72 : cd 312 72 = some (.getfield 118, 3) := by decide +kernel
theorem k_312_75 : cd 312 75 = some (.iload_n 2, 1) := by decide +kernel
theorem k_312_76 : cd 312 76 = some (.iaload, 1) := by decide +kernel
theorem k_312_77 : cd 312 77 = some (.sipush 1000, 3) := by decide +kernel
theorem k_312_80 : cd 312 80 = some (.idiv, 1) := by decide +kernel
theorem k_312_81 : cd 312 81 = some (.imul, 1) := by decide +kernel
theorem k_312_82 : cd 312 82 = some (.aload_n 0, 1) := by decide +kernel
theorem k_312_83 : cd 312 83 = some (.getfield 118, 3) := by decide +kernel
theorem k_312_86 : cd 312 86 = some (.iload_n 2, 1) := by decide +kernel
theorem k_312_87 : cd 312 87 = some (.iaload, 1) := by decide +kernel
theorem k_312_88 : cd 312 88 = some (.bipush 10, 2) := by decide +kernel
theorem k_312_90 : cd 312 90 = some (.idiv, 1) := by decide +kernel
theorem k_312_91 : cd 312 91 = some (.bipush 100, 2) := by decide +kernel
theorem k_312_93 : cd 312 93 = some (.irem, 1) := by decide +kernel
theorem k_312_94 : cd 312 94 = some (.iadd, 1) := by decide +kernel
theorem k_312_95 : cd 312 95 = some (.aload_n 0, 1) := by decide +kernel
theorem k_312_96 : cd 312 96 = some (.getfield 118, 3) := by decide +kernel
theorem k_312_99 : cd 312 99 = some (.iload_n 2, 1) := by decide +kernel
theorem k_312_100 : cd 312 100 = some (.iaload, 1) := by decide +kernel
theorem k_312_101 : cd 312 101 = some (.bipush 10, 2) := by decide +kernel
theorem k_312_103 : cd 312 103 = some (.irem, 1) := by decide +kernel
theorem k_312_104 : cd 312 104 = some (.iastore, 1) := by decide +kernel
theorem k_312_105 : cd 312 105 = some (.aload_n 0, 1) := by decide +kernel
theorem k_312_106 : cd 312 106 = some (.iconst 5, 1) := by decide +kernel
theorem k_312_107 : cd 312 107 = some (.invokevirtual 414, 3) := by decide +kernel
theorem k_312_110 : cd 312 110 = some (.iconst 0, 1) := by decide +kernel
theorem k_312_111 : cd 312 111 = some (.istore_n 3, 1) := by decide +kernel
theorem k_312_112 : cd 312 112 = some (.iload_n 3, 1) := by decide +kernel
theorem k_312_113 : cd 312 113 = some (.aload_n 0, 1) := by decide +kernel
theorem k_312_114 : cd 312 114 = some (.getfield 44, 3) := by decide +kernel
theorem k_312_117 : cd 312 117 = some (.iconst 1, 1) := by decide +kernel
theorem k_312_118 : cd 312 118 = some (.iaload, 1) := by decide +kernel
theorem k_312_119 : cd 312 119 = some (.if_icmp .ge 26, 3) := by decide +kernel
theorem k_312_122 : cd 312 122 = some (.aload_n 0, 1) := by decide +kernel
theorem k_312_123 : cd 312 123 = some (.getfield 121, 3) := by decide +kernel
theorem k_312_126 : cd 312 126 = some (.iload_n 3, 1) := by decide +kernel
theorem k_312_127 : cd 312 127 = some (.dup2, 1) := by decide +kernel
theorem k_312_128 : cd 312 128 = some (.iaload, 1) := by decide +kernel
theorem k_312_129 : cd 312 129 = some (.iconst 1, 1) := by decide +kernel
theorem k_312_130 : cd 312 130 = some (.aload_n 0, 1) := by decide +kernel
theorem k_312_131 : cd 312 131 = some (.getfield 77, 3) := by decide +kernel
theorem k_312_134 : cd 312 134 = some (.iload_n 3, 1) := by decide +kernel
theorem k_312_135 : cd 312 135 = some (.iaload, 1) := by decide +kernel
theorem k_312_136 : cd 312 136 = some (.ishl, 1) := by decide +kernel
theorem k_312_137 : cd 312 137 = some (.ior, 1) := by decide +kernel
theorem k_312_138 : cd 312 138 = some (.iastore, 1) := by decide +kernel
theorem k_312_139 : cd 312 139 = some (.iinc 3 1, 3) := by decide +kernel
theorem k_312_142 : cd 312 142 = some (.goto (-30), 3) := by decide +kernel
theorem k_312_145 : cd 312 145 = some (.aload_n 0, 1) := by decide +kernel
theorem k_312_146 : cd 312 146 = some (.aload_n 0, 1) := by decide +kernel
theorem k_312_147 : cd 312 147 = some (.getfield 99, 3) := by decide +kernel
theorem k_312_150 : cd 312 150 = some (.iconst 0, 1) := by decide +kernel
theorem k_312_151 : cd 312 151 = some (.invokevirtual 426, 3) := by decide +kernel
theorem k_312_154 : cd 312 154 = some (.iinc 2 1, 3) := by decide +kernel
theorem k_312_157 : cd 312 157 = some (.goto (-100), 3) := by decide +kernel
theorem k_312_160 : cd 312 160 = some (.iconst (-1), 1) := by decide +kernel
theorem k_312_161 : cd 312 161 = some (.istore_n 2, 1) := by decide +kernel
theorem k_312_162 : cd 312 162 = some (.iconst 0, 1) := by decide +kernel
theorem k_312_163 : cd 312 163 = some (.istore_n 3, 1) := by decide +kernel
theorem k_312_164 : cd 312 164 = some (.iconst 0, 1) := by decide +kernel
theorem k_312_165 : cd 312 165 = some (.istore 4, 2) := by decide +kernel
theorem k_312_167 : cd 312 167 = some (.iload 4, 2) := by decide +kernel
theorem k_312_169 : cd 312 169 = some (.aload_n 0, 1) := by decide +kernel
theorem k_312_170 : cd 312 170 = some (.getfield 44, 3) := by decide +kernel
theorem k_312_173 : cd 312 173 = some (.iconst 1, 1) := by decide +kernel
theorem k_312_174 : cd 312 174 = some (.iaload, 1) := by decide +kernel
theorem k_312_175 : cd 312 175 = some (.if_icmp .ge 40, 3) := by decide +kernel
theorem k_312_178 : cd 312 178 = some (.aload_n 0, 1) := by decide +kernel
theorem k_312_179 : cd 312 179 = some (.getfield 121, 3) := by decide +kernel
theorem k_312_182 : cd 312 182 = some (.iload 4, 2) := by decide +kernel
theorem k_312_184 : cd 312 184 = some (.iaload, 1) := by decide +kernel
theorem k_312_185 : cd 312 185 = some (.invokestatic 334, 3) := by decide +kernel
theorem k_312_188 : cd 312 188 = some (.iload_n 3, 1) := by decide +kernel
theorem k_312_189 : cd 312 189 = some (.if_icmp .gt 6, 3) := by decide +kernel
theorem k_312_192 : cd 312 192 = some (.goto 17, 3) := by decide +kernel
theorem k_312_195 : cd 312 195 = some (.iload 4, 2) := by decide +kernel
theorem k_312_197 : cd 312 197 = some (.istore_n 2, 1) := by decide +kernel
theorem k_312_198 : cd 312 198 = some (.aload_n 0, 1) := by decide +kernel
theorem k_312_199 : cd 312 199 = some (.getfield 121, 3) := by decide +kernel
theorem k_312_202 : cd 312 202 = some (.iload 4, 2) := by decide +kernel
theorem k_312_204 : cd 312 204 = some (.iaload, 1) := by decide +kernel
theorem k_312_205 : cd 312 205 = some (.invokestatic 334, 3) := by decide +kernel
theorem k_312_208 : cd 312 208 = some (.istore_n 3, 1) := by decide +kernel
theorem k_312_209 : cd 312 209 = some (.iinc 4 1, 3) := by decide +kernel
theorem k_312_212 : cd 312 212 = some (.goto (-45), 3) := by decide +kernel
theorem k_312_215 : cd 312 215 = some (.iload_n 1, 1) := by decide +kernel
theorem k_312_216 : cd 312 216 = some (.ifCond .ne 7, 3) := by decide +kernel
theorem k_312_219 : cd 312 219 = some (.iload_n 2, 1) := by decide +kernel
theorem k_312_220 : cd 312 220 = some (.goto 4, 3) := by decide +kernel
theorem k_312_223 : cd 312 223 = some (.iload_n 3, 1) := by decide +kernel
theorem k_312_224 : cd 312 224 = some (.ireturn, 1) := by decide +kernel
theorem po_312 : po 312 = 9 := rfl
noncomputable def C_312_36  (x1 : Int32) (x2 : Int32) (v3 : Value) (v4 : Value) (σ : pS) : Option pZ := den 312 0 36 [.ref 61, .int x1, .int x2, v3, v4] [] σ
noncomputable def C_312_57  (x1 : Int32) (x2 : Int32) (v3 : Value) (v4 : Value) (σ : pS) : Option pZ := den 312 0 57 [.ref 61, .int x1, .int x2, v3, v4] [] σ
noncomputable def C_312_112  (x1 : Int32) (x2 : Int32) (x3 : Int32) (v4 : Value) (σ : pS) : Option pZ := den 312 0 112 [.ref 61, .int x1, .int x2, .int x3, v4] [] σ
noncomputable def C_312_167  (x1 : Int32) (x2 : Int32) (x3 : Int32) (x4 : Int32) (σ : pS) : Option pZ := den 312 0 167 [.ref 61, .int x1, .int x2, .int x3, .int x4] [] σ
theorem T_312_36  {x1 : Int32} {x2 : Int32} {v3 : Value} {v4 : Value}  {σ : pS} {ρ : Nat → Nat → Option Nat} (e : gR σ = ρ) (hL : LayR ρ) : Le
  (if (ι 12) ≤ x2 then C_312_57 x1 (ι 0) v3 v4 σ else gd (inb x2 12) (C_312_36 x1 (x2 + (ι 1)) v3 v4 (sI σ 90 (ix x2) (ι 0))))
  (C_312_36  x1 x2 v3 v4 σ) := by
  unfold C_312_36
  exact r_iload_n k_312_36 rfl rfl
    (r_bipush k_312_37 rfl rfl
    (r_icmp (tgt := 55) k_312_39 rfl rfl cop_ge
    (r_iconst k_312_55 rfl rfl
    (r_istore_n k_312_56 rfl rfl rfl
    (Le.rfl')))
    (r_aload_n k_312_42 rfl rfl
    (r_getR k_312_43 rfl po_312 rfl rfl rfl rfl (gRat e (LayR.at hL (i := 91) rfl))
    (r_iload_n k_312_46 rfl rfl
    (r_iconst k_312_47 rfl rfl
    (r_gd fun g => r_iast k_312_48 rfl rfl g
    (r_iinc k_312_49 rfl rfl rfl rfl
    (r_goto (tgt := 36) k_312_52 rfl (Le.rfl'))))))))))
theorem T_312_57  {x1 : Int32} {x2 : Int32} {v3 : Value} {v4 : Value}  {σ : pS} {ρ : Nat → Nat → Option Nat} (e : gR σ = ρ) (hL : LayR ρ) : Le
  (if (gI σ 61 47) ≤ x2 then C_312_167 x1 (ν 1) (ι 0) (ι 0) σ else gd (inb x2 960) (gd (inb x2 960) (gd (inb x2 960) (gd (inb (((ι 12) * ((gI σ 89 (ix x2)) / (ι 1000))) + (irem' ((gI σ 89 (ix x2)) / (ι 10)) (ι 100))) 96) (bV (pcall 272 [.ref 61, .int (ι 5)] (sI σ 77 (ix (((ι 12) * ((gI σ 89 (ix x2)) / (ι 1000))) + (irem' ((gI σ 89 (ix x2)) / (ι 10)) (ι 100)))) (irem' (gI σ 89 (ix x2)) (ι 10)))) fun σ1 => C_312_112 x1 x2 (ι 0) v4 σ1)))))
  (C_312_57  x1 x2 v3 v4 σ) := by
  unfold C_312_57
  exact r_iload_n k_312_57 rfl rfl
    (r_aload_n k_312_58 rfl rfl
    (r_getI k_312_59 rfl po_312 rfl rfl rfl rfl
    (r_icmp (tgt := 160) k_312_62 rfl rfl cop_ge
    (r_iconst k_312_160 rfl rfl
    (r_istore_n k_312_161 rfl rfl rfl
    (r_iconst k_312_162 rfl rfl
    (r_istore_n k_312_163 rfl rfl rfl
    (r_iconst k_312_164 rfl rfl
    (r_istore k_312_165 rfl rfl rfl
    (Le.rfl')))))))
    (r_aload_n k_312_65 rfl rfl
    (r_getR k_312_66 rfl po_312 rfl rfl rfl rfl (gRat e (LayR.at hL (i := 78) rfl))
    (r_bipush k_312_69 rfl rfl
    (r_aload_n k_312_71 rfl rfl
    (r_getR k_312_72 rfl po_312 rfl rfl rfl rfl (gRat e (LayR.at hL (i := 90) rfl))
    (r_iload_n k_312_75 rfl rfl
    (r_gd fun g => r_iald k_312_76 rfl rfl g
    (r_sipush k_312_77 rfl rfl
    (r_idiv k_312_80 rfl (by decide)
    (r_imul k_312_81 rfl
    (r_aload_n k_312_82 rfl rfl
    (r_getR k_312_83 rfl po_312 rfl rfl rfl rfl (gRat e (LayR.at hL (i := 90) rfl))
    (r_iload_n k_312_86 rfl rfl
    (r_gd fun g => r_iald k_312_87 rfl rfl g
    (r_bipush k_312_88 rfl rfl
    (r_idiv k_312_90 rfl (by decide)
    (r_bipush k_312_91 rfl rfl
    (r_irem k_312_93 rfl (by decide)
    (r_iadd k_312_94 rfl
    (r_aload_n k_312_95 rfl rfl
    (r_getR k_312_96 rfl po_312 rfl rfl rfl rfl (gRat e (LayR.at hL (i := 90) rfl))
    (r_iload_n k_312_99 rfl rfl
    (r_gd fun g => r_iald k_312_100 rfl rfl g
    (r_bipush k_312_101 rfl rfl
    (r_irem k_312_103 rfl (by decide)
    (r_gd fun g => r_iast k_312_104 rfl rfl g
    (r_aload_n k_312_105 rfl rfl
    (r_iconst k_312_106 rfl rfl
    (r_callV (q_virt (rest := []) (as := [.int (ι 5)]) k_312_107 po_312 rfl rfl rfl (rcvO rfl rfl rfl) rfl rfl) (lvq (j := 0) rfl (by decide +kernel)) rfl rfl (fun _ σ1 h1 => r_iconst k_312_110 rfl rfl
    (r_istore_n k_312_111 rfl rfl rfl
    (Le.rfl')))))))))))))))))))))))))))))))))))
theorem T_312_112  {x1 : Int32} {x2 : Int32} {x3 : Int32} {v4 : Value}  {σ : pS} {ρ : Nat → Nat → Option Nat} (e : gR σ = ρ) (hL : LayR ρ) : Le
  (if (gI σ 65 1) ≤ x3 then bV (pcall 284 [.ref 61, .ref 83, .int (ι 0)] σ) fun σ1 => C_312_57 x1 (x2 + (ι 1)) (.int x3) v4 σ1 else gd (inb x3 12) (gd (inb x3 12) (gd (inb x3 12) (C_312_112 x1 x2 (x3 + (ι 1)) v4 (sI σ 90 (ix x3) ((gI σ 90 (ix x3)) ||| (shl' (ι 1) (gI σ 75 (ix x3)))))))))
  (C_312_112  x1 x2 x3 v4 σ) := by
  unfold C_312_112
  exact r_iload_n k_312_112 rfl rfl
    (r_aload_n k_312_113 rfl rfl
    (r_getR k_312_114 rfl po_312 rfl rfl rfl rfl (gRat e (LayR.at hL (i := 66) rfl))
    (r_iconst k_312_117 rfl rfl
    (r_iald k_312_118 rfl rfl (by decide)
    (r_icmp (tgt := 145) k_312_119 rfl rfl cop_ge
    (r_aload_n k_312_145 rfl rfl
    (r_aload_n k_312_146 rfl rfl
    (r_getR k_312_147 rfl po_312 rfl rfl rfl rfl (gRat e (LayR.at hL (i := 84) rfl))
    (r_iconst k_312_150 rfl rfl
    (r_callV (q_virt (rest := []) (as := [.ref 83, .int (ι 0)]) k_312_151 po_312 rfl rfl rfl (rcvO rfl rfl rfl) rfl rfl) (lvq (j := 0) rfl (by decide +kernel)) rfl rfl (fun _ σ1 h1 => r_iinc k_312_154 rfl rfl rfl rfl
    (r_goto (tgt := 57) k_312_157 rfl (Le.rfl'))))))))
    (r_aload_n k_312_122 rfl rfl
    (r_getR k_312_123 rfl po_312 rfl rfl rfl rfl (gRat e (LayR.at hL (i := 91) rfl))
    (r_iload_n k_312_126 rfl rfl
    (r_dup2 k_312_127 rfl rfl rfl
    (r_gd fun g => r_iald k_312_128 rfl rfl g
    (r_iconst k_312_129 rfl rfl
    (r_aload_n k_312_130 rfl rfl
    (r_getR k_312_131 rfl po_312 rfl rfl rfl rfl (gRat e (LayR.at hL (i := 76) rfl))
    (r_iload_n k_312_134 rfl rfl
    (r_gd fun g => r_iald k_312_135 rfl rfl g
    (r_ishl k_312_136 rfl
    (r_ior k_312_137 rfl
    (r_gd fun g => r_iast k_312_138 rfl rfl g
    (r_iinc k_312_139 rfl rfl rfl rfl
    (r_goto (tgt := 112) k_312_142 rfl (Le.rfl')))))))))))))))))))))
theorem T_312_167  {x1 : Int32} {x2 : Int32} {x3 : Int32} {x4 : Int32}  {σ : pS} {ρ : Nat → Nat → Option Nat} (e : gR σ = ρ) (hL : LayR ρ) : Le
  (if (gI σ 65 1) ≤ x4 then if ¬ x1 = (ι 0) then some (1, .int x3, σ) else some (1, .int x2, σ) else gd (inb x4 12) (bI (pcall 247 [.int (gI σ 90 (ix x4))] σ) fun r1 σ1 => if x3 < r1 then gd (inb x4 12) (bI (pcall 247 [.int (gI σ1 90 (ix x4))] σ1) fun r2 σ2 => C_312_167 x1 x4 r2 (x4 + (ι 1)) σ2) else C_312_167 x1 x2 x3 (x4 + (ι 1)) σ1))
  (C_312_167  x1 x2 x3 x4 σ) := by
  unfold C_312_167
  exact r_iload k_312_167 rfl rfl
    (r_aload_n k_312_169 rfl rfl
    (r_getR k_312_170 rfl po_312 rfl rfl rfl rfl (gRat e (LayR.at hL (i := 66) rfl))
    (r_iconst k_312_173 rfl rfl
    (r_iald k_312_174 rfl rfl (by decide)
    (r_icmp (tgt := 215) k_312_175 rfl rfl cop_ge
    (r_iload_n k_312_215 rfl rfl
    (r_if (tgt := 223) k_312_216 rfl rfl cop_ne
    (r_iload_n k_312_223 rfl rfl
    (r_ret k_312_224 rfl rfl))
    (r_iload_n k_312_219 rfl rfl
    (r_goto (tgt := 224) k_312_220 rfl (r_ret k_312_224 rfl rfl)))))
    (r_aload_n k_312_178 rfl rfl
    (r_getR k_312_179 rfl po_312 rfl rfl rfl rfl (gRat e (LayR.at hL (i := 91) rfl))
    (r_iload k_312_182 rfl rfl
    (r_gd fun g => r_iald k_312_184 rfl rfl g
    (r_callI (q_stat (rest := []) (av := [.int (gI σ 90 (ix x4))]) k_312_185 po_312 rfl (by decide) rfl rfl rfl rfl) (lvq (j := 0) rfl (by decide +kernel)) rfl rfl (fun r1 σ1 h1 => r_iload_n k_312_188 rfl rfl
    (r_icmp (tgt := 195) k_312_189 rfl rfl cop_gt
    (r_iload k_312_195 rfl rfl
    (r_istore_n k_312_197 rfl rfl rfl
    (r_aload_n k_312_198 rfl rfl
    (r_getR k_312_199 rfl po_312 rfl rfl rfl rfl (gRat (eC rfl h1 e) (LayR.at hL (i := 91) rfl))
    (r_iload k_312_202 rfl rfl
    (r_gd fun g => r_iald k_312_204 rfl rfl g
    (r_callI (q_stat (rest := []) (av := [.int (gI σ1 90 (ix x4))]) k_312_205 po_312 rfl (by decide) rfl rfl rfl rfl) (lvq (j := 0) rfl (by decide +kernel)) rfl rfl (fun r2 σ2 h2 => r_istore_n k_312_208 rfl rfl rfl
    (r_iinc k_312_209 rfl rfl rfl rfl
    (r_goto (tgt := 167) k_312_212 rfl (Le.rfl')))))))))))
    (r_goto (tgt := 209) k_312_192 rfl (r_iinc k_312_209 rfl rfl rfl rfl
    (r_goto (tgt := 167) k_312_212 rfl (Le.rfl'))))))))))))))))
theorem M_312  {x0 : Int32} {σ : pS} {ρ : Nat → Nat → Option Nat} (e : gR σ = ρ) (hL : LayR ρ) : Le
  (bI (pcall 261 [.long x0.toInt64, .long (0 : Int64), .long (1 : Int64)] (sI σ 61 4 (ι 0))) fun r1 σ1 => if ¬ r1 = (ι 0) then bV (pcall 311 [.ref 61] σ1) fun σ2 => bV (pcall 271 [.ref 61, .ref 83, .int (ι 0)] σ2) fun σ3 => C_312_36 x0 (ι 0) (.retAddr 0) (.retAddr 0) σ3 else bI (pcall 211 [.ref 61, .int (ι 1)] σ1) fun r4 σ4 => some (1, .int r4, σ4))
  (pcall 312 [.ref 61, .int x0] σ) := by
  show Le _ (den 312 0 0 [.ref 61, .int x0, .retAddr 0, .retAddr 0, .retAddr 0] [] σ)
  exact r_aload_n k_312_0 rfl rfl
    (r_iconst k_312_1 rfl rfl
    (r_putI k_312_2 rfl po_312 rfl rfl rfl
    (r_iload_n k_312_5 rfl rfl
    (r_i2l k_312_6 rfl
    (r_lconst k_312_7 rfl rfl
    (r_lconst k_312_8 rfl rfl
    (r_callI (q_stat (rest := []) (av := [.long x0.toInt64, .long (0 : Int64), .long (1 : Int64)]) k_312_9 po_312 rfl (by decide) rfl rfl rfl rfl) (lvq (j := 0) rfl (by decide +kernel)) rfl rfl (fun r1 σ1 h1 => r_if (tgt := 21) k_312_12 rfl rfl cop_ne
    (r_aload_n k_312_21 rfl rfl
    (r_callV (q_virt (rest := []) (as := []) k_312_22 po_312 rfl rfl rfl (rcvO rfl rfl rfl) rfl rfl) (lvq (j := 0) rfl (by decide +kernel)) rfl rfl (fun _ σ2 h2 => r_aload_n k_312_25 rfl rfl
    (r_aload_n k_312_26 rfl rfl
    (r_getR k_312_27 rfl po_312 rfl rfl rfl rfl (gRat (eC rfl h2 (eC rfl h1 (eI e))) (LayR.at hL (i := 84) rfl))
    (r_iconst k_312_30 rfl rfl
    (r_callV (q_virt (rest := []) (as := [.ref 83, .int (ι 0)]) k_312_31 po_312 rfl rfl rfl (rcvO rfl rfl rfl) rfl rfl) (lvq (j := 0) rfl (by decide +kernel)) rfl rfl (fun _ σ3 h3 => r_iconst k_312_34 rfl rfl
    (r_istore_n k_312_35 rfl rfl rfl
    (Le.rfl'))))))))))
    (r_aload_n k_312_15 rfl rfl
    (r_iconst k_312_16 rfl rfl
    (r_callI (q_virt (rest := []) (as := [.int (ι 1)]) k_312_17 po_312 rfl rfl rfl (rcvO rfl rfl rfl) rfl rfl) (lvq (j := 0) rfl (by decide +kernel)) rfl rfl (fun r4 σ4 h4 => r_ret k_312_20 rfl rfl))))))))))))
/-! ===== 313 HedgeWantsModel.forget ===== -/
theorem k_313_0 : cd 313 0 = some (.aload_n 0, 1) := by decide +kernel
theorem k_313_1 : cd 313 1 = some (.iconst 0, 1) := by decide +kernel
theorem k_313_2 : cd 313 2 = some (.putfield 145, 3) := by decide +kernel
theorem k_313_5 : cd 313 5 = some (.aload_n 0, 1) := by decide +kernel
theorem k_313_6 : cd 313 6 = some (.iconst 0, 1) := by decide +kernel
theorem k_313_7 : cd 313 7 = some (.putfield 309, 3) := by decide +kernel
theorem k_313_10 : cd 313 10 = some (.return_, 1) := by decide +kernel
theorem po_313 : po 313 = 9 := rfl
theorem M_313   {σ : pS} {ρ : Nat → Nat → Option Nat} (e : gR σ = ρ) (hL : LayR ρ) : Le
  (some (0, .null, (sI (sI σ 61 4 (ι 0)) 61 33 (ι 0))))
  (pcall 313 [.ref 61] σ) := by
  show Le _ (den 313 0 0 [.ref 61] [] σ)
  exact r_aload_n k_313_0 rfl rfl
    (r_iconst k_313_1 rfl rfl
    (r_putI k_313_2 rfl po_313 rfl rfl rfl
    (r_aload_n k_313_5 rfl rfl
    (r_iconst k_313_6 rfl rfl
    (r_putI k_313_7 rfl po_313 rfl rfl rfl
    (r_retV k_313_10 rfl))))))
/-! ===== 314 HedgeWantsModel.shy ===== -/
theorem k_314_0 : cd 314 0 = some (.aload_n 0, 1) := by decide +kernel
theorem k_314_1 : cd 314 1 = some (.iconst 0, 1) := by decide +kernel
theorem k_314_2 : cd 314 2 = some (.putfield 145, 3) := by decide +kernel
theorem k_314_5 : cd 314 5 = some (.aload_n 0, 1) := by decide +kernel
theorem k_314_6 : cd 314 6 = some (.iload_n 1, 1) := by decide +kernel
theorem k_314_7 : cd 314 7 = some (.invokevirtual 396, 3) := by decide +kernel
theorem k_314_10 : cd 314 10 = some (.ifCond .ne 9, 3) := by decide +kernel
theorem k_314_13 : cd 314 13 = some (.aload_n 0, 1) := by decide +kernel
theorem k_314_14 : cd 314 14 = some (.iconst 1, 1) := by decide +kernel
theorem k_314_15 : cd 314 15 = some (.invokevirtual 290, 3) := by decide +kernel
theorem k_314_18 : cd 314 18 = some (.ireturn, 1) := by decide +kernel
theorem k_314_19 : cd 314 19 = some (.iload_n 2, 1) := by decide +kernel
theorem k_314_20 : cd 314 20 = some (.i2l, 1) := by decide +kernel
theorem k_314_21 : cd 314 21 = some (.lconst 1, 1) := by decide +kernel
theorem k_314_22 : cd 314 22 = some (.ldc2_w 477, 3) := by decide +kernel
theorem k_314_25 : cd 314 25 = some (.invokestatic 148, 3) := by decide +kernel
theorem k_314_28 : cd 314 28 = some (.ifCond .eq 15, 3) := by decide +kernel
theorem k_314_31 : cd 314 31 = some (.iload_n 3, 1) := by decide +kernel
theorem k_314_32 : cd 314 32 = some (.i2l, 1) := by decide +kernel
theorem k_314_33 : cd 314 33 = some (.lconst 0, 1) := by decide +kernel
theorem k_314_34 : cd 314 34 = some (.ldc2_w 479, 3) := by decide +kernel
theorem k_314_37 : cd 314 37 = some (.invokestatic 148, 3) := by decide +kernel
theorem k_314_40 : cd 314 40 = some (.ifCond .ne 9, 3) := by decide +kernel
theorem k_314_43 : cd 314 43 = some (.aload_n 0, 1) := by decide +kernel
theorem k_314_44 : cd 314 44 = some (.iconst 2, 1) := by decide +kernel
theorem k_314_45 : cd 314 45 = some (.invokevirtual 290, 3) := by decide +kernel
theorem k_314_48 : cd 314 48 = some (.ireturn, 1) := by decide +kernel
theorem k_314_49 : cd 314 49 = some (.iconst 0, 1) := by decide +kernel
theorem k_314_50 : cd 314 50 = some (.istore 4, 2) := by decide +kernel
theorem k_314_52 : cd 314 52 = some (.aload_n 0, 1) := by decide +kernel
theorem k_314_53 : cd 314 53 = some (.getfield 77, 3) := by decide +kernel
theorem k_314_56 : cd 314 56 = some (.iload_n 1, 1) := by decide +kernel
theorem k_314_57 : cd 314 57 = some (.iaload, 1) := by decide +kernel
theorem k_314_58 : cd 314 58 = some (.istore 5, 2) := by decide +kernel
theorem k_314_60 : cd 314 60 = some (.aload_n 0, 1) := by decide +kernel
theorem k_314_61 : cd 314 61 = some (.aload_n 0, 1) := by decide +kernel
theorem k_314_62 : cd 314 62 = some (.getfield 99, 3) := by decide +kernel
theorem k_314_65 : cd 314 65 = some (.iconst 0, 1) := by decide +kernel
theorem k_314_66 : cd 314 66 = some (.invokevirtual 402, 3) := by decide +kernel
theorem k_314_69 : cd 314 69 = some (.iconst 0, 1) := by decide +kernel
theorem k_314_70 : cd 314 70 = some (.istore 6, 2) := by decide +kernel
theorem k_314_72 : cd 314 72 = some (.iload 6, 2) := by decide +kernel
theorem k_314_74 : cd 314 74 = some (.iconst 1, 1) := by decide +kernel
theorem k_314_75 : cd 314 75 = some (.iload_n 2, 1) := by decide +kernel
theorem k_314_76 : cd 314 76 = some (.ishl, 1) := by decide +kernel
theorem k_314_77 : cd 314 77 = some (.if_icmp .ge 106, 3) := by decide +kernel
theorem k_314_80 : cd 314 80 = some (.iconst 1, 1) := by decide +kernel
theorem k_314_81 : cd 314 81 = some (.istore 7, 2) := by decide +kernel
theorem k_314_83 : cd 314 83 = some (.iconst 0, 1) := by decide +kernel
theorem k_314_84 : cd 314 84 = some (.istore 8, 2) := by decide +kernel
theorem k_314_86 : cd 314 86 = some (.iload 8, 2) := by decide +kernel
theorem k_314_88 : cd 314 88 = some (.iload_n 2, 1) := by decide +kernel
theorem k_314_89 : cd 314 89 = some (.if_icmp .ge 57, 3) := by decide +kernel
theorem k_314_92 : cd 314 92 = some (.iload 7, 2) := by decide +kernel
theorem k_314_94 : cd 314 94 = some (.iload 6, 2) := by decide +kernel
theorem k_314_96 : cd 314 96 = some (.iload 8, 2) := by decide +kernel
theorem k_314_98 : cd 314 98 = some (.invokestatic 269, 3) := by decide +kernel
theorem k_314_101 : cd 314 101 = some (.ifCond .eq 7, 3) := by decide +kernel
theorem k_314_104 : cd 314 104 = some (.iload_n 3, 1) := by decide +kernel
theorem k_314_105 : cd 314 105 = some (.goto 7, 3) := by decide +kernel
theorem k_314_108 : cd 314 108 = some (.bipush 10, 2) := by decide +kernel
theorem k_314_110 : cd 314 110 = some (.iload_n 3, 1) := by decide +kernel
theorem k_314_111 : cd 314 111 = some (.isub, 1) := by decide +kernel
theorem k_314_112 : cd 314 112 = some (.imul, 1) := by decide +kernel
theorem k_314_113 : cd 314 113 = some (.istore 7, 2) := by decide +kernel
theorem k_314_115 : cd 314 115 = some (.aload_n 0, 1) := by decide +kernel
theorem k_314_116 : cd 314 116 = some (.iload 6, 2) := by decide +kernel
theorem k_314_118 : cd 314 118 = some (.iload 8, 2) := by decide +kernel
theorem k_314_120 : cd 314 120 = some (.invokestatic 269, 3) := by decide +kernel
theorem k_314_123 : cd 314 123 = some (.ifCond .eq 9, 3) := by decide +kernel
theorem k_314_126 : cd 314 126 = some (.sipush 255, 3) := by decide +kernel
theorem k_314_129 : cd 314 129 = some (.goto 4, 3) := by decide +kernel
theorem k_314_132 : cd 314 132 = some (.iconst 0, 1) := by decide +kernel
theorem k_314_133 : cd 314 133 = some (.putfield 325, 3) := by decide +kernel
theorem k_314_136 : cd 314 136 = some (.aload_n 0, 1) := by decide +kernel
theorem k_314_137 : cd 314 137 = some (.invokevirtual 356, 3) := by decide +kernel
theorem k_314_140 : cd 314 140 = some (.iinc 8 1, 3) := by decide +kernel
theorem k_314_143 : cd 314 143 = some (.goto (-57), 3) := by decide +kernel
theorem k_314_146 : cd 314 146 = some (.iload 4, 2) := by decide +kernel
theorem k_314_148 : cd 314 148 = some (.aload_n 0, 1) := by decide +kernel
theorem k_314_149 : cd 314 149 = some (.getfield 77, 3) := by decide +kernel
theorem k_314_152 : cd 314 152 = some (.iload_n 1, 1) := by decide +kernel
theorem k_314_153 : cd 314 153 = some (.iaload, 1) := by decide +kernel
theorem k_314_154 : cd 314 154 = some (.iload 5, 2) := by decide +kernel
theorem k_314_156 : cd 314 156 = some (.if_icmp .ne 8, 3) := by decide +kernel
theorem k_314_159 : cd 314 159 = some (.iload 7, 2) := by decide +kernel
theorem k_314_161 : cd 314 161 = some (.goto 4, 3) := by decide +kernel
theorem k_314_164 : cd 314 164 = some (.iconst 0, 1) := by decide +kernel
theorem k_314_165 : cd 314 165 = some (.iadd, 1) := by decide +kernel
theorem k_314_166 : cd 314 166 = some (.istore 4, 2) := by decide +kernel
theorem k_314_168 : cd 314 168 = some (.aload_n 0, 1) := by decide +kernel
theorem k_314_169 : cd 314 169 = some (.aload_n 0, 1) := by decide +kernel
theorem k_314_170 : cd 314 170 = some (.getfield 99, 3) := by decide +kernel
theorem k_314_173 : cd 314 173 = some (.iconst 0, 1) := by decide +kernel
theorem k_314_174 : cd 314 174 = some (.invokevirtual 426, 3) := by decide +kernel
theorem k_314_177 : cd 314 177 = some (.iinc 6 1, 3) := by decide +kernel
theorem k_314_180 : cd 314 180 = some (.goto (-108), 3) := by decide +kernel
theorem k_314_183 : cd 314 183 = some (.iload 4, 2) := by decide +kernel
theorem k_314_185 : cd 314 185 = some (.ireturn, 1) := by decide +kernel
theorem po_314 : po 314 = 9 := rfl
noncomputable def C_314_72  (x1 : Int32) (x2 : Int32) (x3 : Int32) (x4 : Int32) (x5 : Int32) (x6 : Int32) (v7 : Value) (v8 : Value) (σ : pS) : Option pZ := den 314 0 72 [.ref 61, .int x1, .int x2, .int x3, .int x4, .int x5, .int x6, v7, v8] [] σ
noncomputable def C_314_86  (x1 : Int32) (x2 : Int32) (x3 : Int32) (x4 : Int32) (x5 : Int32) (x6 : Int32) (x7 : Int32) (x8 : Int32) (σ : pS) : Option pZ := den 314 0 86 [.ref 61, .int x1, .int x2, .int x3, .int x4, .int x5, .int x6, .int x7, .int x8] [] σ
noncomputable def C_314_112  (x1 : Int32) (x2 : Int32) (x3 : Int32) (x4 : Int32) (x5 : Int32) (x6 : Int32) (v7 : Value) (x8 : Int32) (s0 : Int32) (s1 : Int32) (σ : pS) : Option pZ := den 314 0 112 [.ref 61, .int x1, .int x2, .int x3, .int x4, .int x5, .int x6, v7, .int x8] [.int s1, .int s0] σ
theorem T_314_72  {x1 : Int32} {x2 : Int32} {x3 : Int32} {x4 : Int32} {x5 : Int32} {x6 : Int32} {v7 : Value} {v8 : Value}  {σ : pS} {ρ : Nat → Nat → Option Nat} (e : gR σ = ρ) (hL : LayR ρ) : Le
  (if (shl' (ι 1) x2) ≤ x6 then some (1, .int x4, σ) else C_314_86 x1 x2 x3 x4 x5 x6 (ι 1) (ι 0) σ)
  (C_314_72  x1 x2 x3 x4 x5 x6 v7 v8 σ) := by
  unfold C_314_72
  exact r_iload k_314_72 rfl rfl
    (r_iconst k_314_74 rfl rfl
    (r_iload_n k_314_75 rfl rfl
    (r_ishl k_314_76 rfl
    (r_icmp (tgt := 183) k_314_77 rfl rfl cop_ge
    (r_iload k_314_183 rfl rfl
    (r_ret k_314_185 rfl rfl))
    (r_iconst k_314_80 rfl rfl
    (r_istore k_314_81 rfl rfl rfl
    (r_iconst k_314_83 rfl rfl
    (r_istore k_314_84 rfl rfl rfl
    (Le.rfl')))))))))
theorem T_314_86  {x1 : Int32} {x2 : Int32} {x3 : Int32} {x4 : Int32} {x5 : Int32} {x6 : Int32} {x7 : Int32} {x8 : Int32}  {σ : pS} {ρ : Nat → Nat → Option Nat} (e : gR σ = ρ) (hL : LayR ρ) : Le
  (if x2 ≤ x8 then gd (inb x1 12) (if ¬ (gI σ 75 (ix x1)) = x5 then bV (pcall 284 [.ref 61, .ref 83, .int (ι 0)] σ) fun σ1 => C_314_72 x1 x2 x3 (x4 + (ι 0)) x5 (x6 + (ι 1)) (.int x7) (.int x8) σ1 else bV (pcall 284 [.ref 61, .ref 83, .int (ι 0)] σ) fun σ2 => C_314_72 x1 x2 x3 (x4 + x7) x5 (x6 + (ι 1)) (.int x7) (.int x8) σ2) else bI (pcall 236 [.int x6, .int x8] σ) fun r3 σ3 => if r3 = (ι 0) then C_314_112 x1 x2 x3 x4 x5 x6 (.int x7) x8 x7 ((ι 10) - x3) σ3 else C_314_112 x1 x2 x3 x4 x5 x6 (.int x7) x8 x7 x3 σ3)
  (C_314_86  x1 x2 x3 x4 x5 x6 x7 x8 σ) := by
  unfold C_314_86
  exact r_iload k_314_86 rfl rfl
    (r_iload_n k_314_88 rfl rfl
    (r_icmp (tgt := 146) k_314_89 rfl rfl cop_ge
    (r_iload k_314_146 rfl rfl
    (r_aload_n k_314_148 rfl rfl
    (r_getR k_314_149 rfl po_314 rfl rfl rfl rfl (gRat e (LayR.at hL (i := 76) rfl))
    (r_iload_n k_314_152 rfl rfl
    (r_gd fun g => r_iald k_314_153 rfl rfl g
    (r_iload k_314_154 rfl rfl
    (r_icmp (tgt := 164) k_314_156 rfl rfl cop_ne
    (r_iconst k_314_164 rfl rfl
    (r_iadd k_314_165 rfl
    (r_istore k_314_166 rfl rfl rfl
    (r_aload_n k_314_168 rfl rfl
    (r_aload_n k_314_169 rfl rfl
    (r_getR k_314_170 rfl po_314 rfl rfl rfl rfl (gRat e (LayR.at hL (i := 84) rfl))
    (r_iconst k_314_173 rfl rfl
    (r_callV (q_virt (rest := []) (as := [.ref 83, .int (ι 0)]) k_314_174 po_314 rfl rfl rfl (rcvO rfl rfl rfl) rfl rfl) (lvq (j := 0) rfl (by decide +kernel)) rfl rfl (fun _ σ1 h1 => r_iinc k_314_177 rfl rfl rfl rfl
    (r_goto (tgt := 72) k_314_180 rfl (Le.rfl')))))))))))
    (r_iload k_314_159 rfl rfl
    (r_goto (tgt := 165) k_314_161 rfl (r_iadd k_314_165 rfl
    (r_istore k_314_166 rfl rfl rfl
    (r_aload_n k_314_168 rfl rfl
    (r_aload_n k_314_169 rfl rfl
    (r_getR k_314_170 rfl po_314 rfl rfl rfl rfl (gRat e (LayR.at hL (i := 84) rfl))
    (r_iconst k_314_173 rfl rfl
    (r_callV (q_virt (rest := []) (as := [.ref 83, .int (ι 0)]) k_314_174 po_314 rfl rfl rfl (rcvO rfl rfl rfl) rfl rfl) (lvq (j := 0) rfl (by decide +kernel)) rfl rfl (fun _ σ2 h2 => r_iinc k_314_177 rfl rfl rfl rfl
    (r_goto (tgt := 72) k_314_180 rfl (Le.rfl')))))))))))))))))))
    (r_iload k_314_92 rfl rfl
    (r_iload k_314_94 rfl rfl
    (r_iload k_314_96 rfl rfl
    (r_callI (q_stat (rest := [.int x7]) (av := [.int x6, .int x8]) k_314_98 po_314 rfl (by decide) rfl rfl rfl rfl) (lvq (j := 0) rfl (by decide +kernel)) rfl rfl (fun r3 σ3 h3 => r_if (tgt := 108) k_314_101 rfl rfl cop_eq
    (r_bipush k_314_108 rfl rfl
    (r_iload_n k_314_110 rfl rfl
    (r_isub k_314_111 rfl
    (Le.rfl'))))
    (r_iload_n k_314_104 rfl rfl
    (r_goto (tgt := 112) k_314_105 rfl (Le.rfl'))))))))))
theorem T_314_112  {x1 : Int32} {x2 : Int32} {x3 : Int32} {x4 : Int32} {x5 : Int32} {x6 : Int32} {v7 : Value} {x8 : Int32} {s0 : Int32} {s1 : Int32}  {σ : pS} {ρ : Nat → Nat → Option Nat} (e : gR σ = ρ) (hL : LayR ρ) : Le
  (bI (pcall 236 [.int x6, .int x8] σ) fun r1 σ1 => if r1 = (ι 0) then bV (pcall 273 [.ref 61] (sI σ1 61 36 (ι 0))) fun σ2 => C_314_86 x1 x2 x3 x4 x5 x6 (s0 * s1) (x8 + (ι 1)) σ2 else bV (pcall 273 [.ref 61] (sI σ1 61 36 (ι 255))) fun σ3 => C_314_86 x1 x2 x3 x4 x5 x6 (s0 * s1) (x8 + (ι 1)) σ3)
  (C_314_112  x1 x2 x3 x4 x5 x6 v7 x8 s0 s1 σ) := by
  unfold C_314_112
  exact r_imul k_314_112 rfl
    (r_istore k_314_113 rfl rfl rfl
    (r_aload_n k_314_115 rfl rfl
    (r_iload k_314_116 rfl rfl
    (r_iload k_314_118 rfl rfl
    (r_callI (q_stat (rest := [.ref 61]) (av := [.int x6, .int x8]) k_314_120 po_314 rfl (by decide) rfl rfl rfl rfl) (lvq (j := 0) rfl (by decide +kernel)) rfl rfl (fun r1 σ1 h1 => r_if (tgt := 132) k_314_123 rfl rfl cop_eq
    (r_iconst k_314_132 rfl rfl
    (r_putI k_314_133 rfl po_314 rfl rfl rfl
    (r_aload_n k_314_136 rfl rfl
    (r_callV (q_virt (rest := []) (as := []) k_314_137 po_314 rfl rfl rfl (rcvO rfl rfl rfl) rfl rfl) (lvq (j := 0) rfl (by decide +kernel)) rfl rfl (fun _ σ2 h2 => r_iinc k_314_140 rfl rfl rfl rfl
    (r_goto (tgt := 86) k_314_143 rfl (Le.rfl')))))))
    (r_sipush k_314_126 rfl rfl
    (r_goto (tgt := 133) k_314_129 rfl (r_putI k_314_133 rfl po_314 rfl rfl rfl
    (r_aload_n k_314_136 rfl rfl
    (r_callV (q_virt (rest := []) (as := []) k_314_137 po_314 rfl rfl rfl (rcvO rfl rfl rfl) rfl rfl) (lvq (j := 0) rfl (by decide +kernel)) rfl rfl (fun _ σ3 h3 => r_iinc k_314_140 rfl rfl rfl rfl
    (r_goto (tgt := 86) k_314_143 rfl (Le.rfl'))))))))))))))
theorem M_314  {x0 : Int32} {x1 : Int32} {x2 : Int32} {σ : pS} {ρ : Nat → Nat → Option Nat} (e : gR σ = ρ) (hL : LayR ρ) : Le
  (bI (pcall 264 [.ref 61, .int x0] (sI σ 61 4 (ι 0))) fun r1 σ1 => if ¬ r1 = (ι 0) then bI (pcall 261 [.long x1.toInt64, .long (1 : Int64), .long (5 : Int64)] σ1) fun r2 σ2 => if r2 = (ι 0) then bI (pcall 211 [.ref 61, .int (ι 2)] σ2) fun r3 σ3 => some (1, .int r3, σ3) else bI (pcall 261 [.long x2.toInt64, .long (0 : Int64), .long (10 : Int64)] σ2) fun r4 σ4 => if ¬ r4 = (ι 0) then gd (inb x0 12) (bV (pcall 271 [.ref 61, .ref 83, .int (ι 0)] σ4) fun σ5 => C_314_72 x0 x1 x2 (ι 0) (gI σ4 75 (ix x0)) (ι 0) (.retAddr 0) (.retAddr 0) σ5) else bI (pcall 211 [.ref 61, .int (ι 2)] σ4) fun r6 σ6 => some (1, .int r6, σ6) else bI (pcall 211 [.ref 61, .int (ι 1)] σ1) fun r7 σ7 => some (1, .int r7, σ7))
  (pcall 314 [.ref 61, .int x0, .int x1, .int x2] σ) := by
  show Le _ (den 314 0 0 [.ref 61, .int x0, .int x1, .int x2, .retAddr 0, .retAddr 0, .retAddr 0, .retAddr 0, .retAddr 0] [] σ)
  exact r_aload_n k_314_0 rfl rfl
    (r_iconst k_314_1 rfl rfl
    (r_putI k_314_2 rfl po_314 rfl rfl rfl
    (r_aload_n k_314_5 rfl rfl
    (r_iload_n k_314_6 rfl rfl
    (r_callI (q_virt (rest := []) (as := [.int x0]) k_314_7 po_314 rfl rfl rfl (rcvO rfl rfl rfl) rfl rfl) (lvq (j := 0) rfl (by decide +kernel)) rfl rfl (fun r1 σ1 h1 => r_if (tgt := 19) k_314_10 rfl rfl cop_ne
    (r_iload_n k_314_19 rfl rfl
    (r_i2l k_314_20 rfl
    (r_lconst k_314_21 rfl rfl
    (r_ldc2 k_314_22 rfl po_314 rfl rfl
    (r_callI (q_stat (rest := []) (av := [.long x1.toInt64, .long (1 : Int64), .long (5 : Int64)]) k_314_25 po_314 rfl (by decide) rfl rfl rfl rfl) (lvq (j := 0) rfl (by decide +kernel)) rfl rfl (fun r2 σ2 h2 => r_if (tgt := 43) k_314_28 rfl rfl cop_eq
    (r_aload_n k_314_43 rfl rfl
    (r_iconst k_314_44 rfl rfl
    (r_callI (q_virt (rest := []) (as := [.int (ι 2)]) k_314_45 po_314 rfl rfl rfl (rcvO rfl rfl rfl) rfl rfl) (lvq (j := 0) rfl (by decide +kernel)) rfl rfl (fun r3 σ3 h3 => r_ret k_314_48 rfl rfl))))
    (r_iload_n k_314_31 rfl rfl
    (r_i2l k_314_32 rfl
    (r_lconst k_314_33 rfl rfl
    (r_ldc2 k_314_34 rfl po_314 rfl rfl
    (r_callI (q_stat (rest := []) (av := [.long x2.toInt64, .long (0 : Int64), .long (10 : Int64)]) k_314_37 po_314 rfl (by decide) rfl rfl rfl rfl) (lvq (j := 0) rfl (by decide +kernel)) rfl rfl (fun r4 σ4 h4 => r_if (tgt := 49) k_314_40 rfl rfl cop_ne
    (r_iconst k_314_49 rfl rfl
    (r_istore k_314_50 rfl rfl rfl
    (r_aload_n k_314_52 rfl rfl
    (r_getR k_314_53 rfl po_314 rfl rfl rfl rfl (gRat (eC rfl h4 (eC rfl h2 (eC rfl h1 (eI e)))) (LayR.at hL (i := 76) rfl))
    (r_iload_n k_314_56 rfl rfl
    (r_gd fun g => r_iald k_314_57 rfl rfl g
    (r_istore k_314_58 rfl rfl rfl
    (r_aload_n k_314_60 rfl rfl
    (r_aload_n k_314_61 rfl rfl
    (r_getR k_314_62 rfl po_314 rfl rfl rfl rfl (gRat (eC rfl h4 (eC rfl h2 (eC rfl h1 (eI e)))) (LayR.at hL (i := 84) rfl))
    (r_iconst k_314_65 rfl rfl
    (r_callV (q_virt (rest := []) (as := [.ref 83, .int (ι 0)]) k_314_66 po_314 rfl rfl rfl (rcvO rfl rfl rfl) rfl rfl) (lvq (j := 0) rfl (by decide +kernel)) rfl rfl (fun _ σ5 h5 => r_iconst k_314_69 rfl rfl
    (r_istore k_314_70 rfl rfl rfl
    (Le.rfl')))))))))))))))
    (r_aload_n k_314_43 rfl rfl
    (r_iconst k_314_44 rfl rfl
    (r_callI (q_virt (rest := []) (as := [.int (ι 2)]) k_314_45 po_314 rfl rfl rfl (rcvO rfl rfl rfl) rfl rfl) (lvq (j := 0) rfl (by decide +kernel)) rfl rfl (fun r6 σ6 h6 => r_ret k_314_48 rfl rfl))))))))))))))))
    (r_aload_n k_314_13 rfl rfl
    (r_iconst k_314_14 rfl rfl
    (r_callI (q_virt (rest := []) (as := [.int (ι 1)]) k_314_15 po_314 rfl rfl rfl (rcvO rfl rfl rfl) rfl rfl) (lvq (j := 0) rfl (by decide +kernel)) rfl rfl (fun r7 σ7 h7 => r_ret k_314_18 rfl rfl))))))))))
/-! ===== 315 HedgeWantsModel.game ===== -/
theorem k_315_0 : cd 315 0 = some (.aload_n 0, 1) := by decide +kernel
theorem k_315_1 : cd 315 1 = some (.iconst 0, 1) := by decide +kernel
theorem k_315_2 : cd 315 2 = some (.putfield 145, 3) := by decide +kernel
theorem k_315_5 : cd 315 5 = some (.aload_n 0, 1) := by decide +kernel
theorem k_315_6 : cd 315 6 = some (.iload_n 1, 1) := by decide +kernel
theorem k_315_7 : cd 315 7 = some (.invokevirtual 390, 3) := by decide +kernel
theorem k_315_10 : cd 315 10 = some (.ifCond .eq 21, 3) := by decide +kernel
theorem k_315_13 : cd 315 13 = some (.aload_n 0, 1) := by decide +kernel
theorem k_315_14 : cd 315 14 = some (.iload_n 2, 1) := by decide +kernel
theorem k_315_15 : cd 315 15 = some (.invokevirtual 390, 3) := by decide +kernel
theorem k_315_18 : cd 315 18 = some (.ifCond .eq 13, 3) := by decide +kernel
theorem k_315_21 : cd 315 21 = some (.iload_n 3, 1) := by decide +kernel
theorem k_315_22 : cd 315 22 = some (.i2l, 1) := by decide +kernel
theorem k_315_23 : cd 315 23 = some (.lconst 0, 1) := by decide +kernel
theorem k_315_24 : cd 315 24 = some (.lconst 1, 1) := by decide +kernel
theorem k_315_25 : cd 315 25 = some (.invokestatic 148, 3) := by decide +kernel
theorem k_315_28 : cd 315 28 = some (.ifCond .ne 9, 3) := by decide +kernel
theorem k_315_31 : cd 315 31 = some (.aload_n 0, 1) := by decide +kernel
theorem k_315_32 : cd 315 32 = some (.iconst 1, 1) := by decide +kernel
theorem k_315_33 : cd 315 33 = some (.invokevirtual 290, 3) := by decide +kernel
theorem k_315_36 : cd 315 36 = some (.ireturn, 1) := by decide +kernel
theorem k_315_37 : cd 315 37 = some (.iload_n 1, 1) := by decide +kernel
theorem k_315_38 : cd 315 38 = some (.iload_n 2, 1) := by decide +kernel
theorem k_315_39 : cd 315 39 = some (.if_icmp .ne 9, 3) := by decide +kernel
theorem k_315_42 : cd 315 42 = some (.aload_n 0, 1) := by decide +kernel
theorem k_315_43 : cd 315 43 = some (.iconst 2, 1) := by decide +kernel
theorem k_315_44 : cd 315 44 = some (.invokevirtual 290, 3) := by decide +kernel
theorem k_315_47 : cd 315 47 = some (.ireturn, 1) := by decide +kernel
theorem k_315_48 : cd 315 48 = some (.aload_n 0, 1) := by decide +kernel
theorem k_315_49 : cd 315 49 = some (.iload_n 1, 1) := by decide +kernel
theorem k_315_50 : cd 315 50 = some (.iload_n 2, 1) := by decide +kernel
theorem k_315_51 : cd 315 51 = some (.invokevirtual 481, 3) := by decide +kernel
theorem k_315_54 : cd 315 54 = some (.iconst 0, 1) := by decide +kernel
theorem k_315_55 : cd 315 55 = some (.istore 4, 2) := by decide +kernel
theorem k_315_57 : cd 315 57 = some (.iconst (-1), 1) := by decide +kernel
theorem k_315_58 : cd 315 58 = some (.istore 5, 2) := by decide +kernel
theorem k_315_60 : cd 315 60 = some (.iconst 0, 1) := by decide +kernel
theorem k_315_61 : cd 315 61 = some (.istore 6, 2) := by decide +kernel
theorem k_315_63 : cd 315 63 = some (.iload 6, 2) := by decide +kernel
theorem k_315_65 : cd 315 65 = some (.iconst 4, 1) := by decide +kernel
theorem k_315_66 : cd 315 66 = some (.if_icmp .ge 90, 3) := by decide +kernel
theorem k_315_69 : cd 315 69 = some (.aload_n 0, 1) := by decide +kernel
theorem k_315_70 : cd 315 70 = some (.getfield 124, 3) := by decide +kernel
theorem k_315_73 : cd 315 73 = some (.iconst 2, 1) := by decide +kernel
theorem k_315_74 : cd 315 74 = some (.iload 6, 2) := by decide +kernel
theorem k_315_76 : cd 315 76 = some (.iconst 2, 1) := by decide +kernel
theorem k_315_77 : cd 315 77 = some (.ixor, 1) := by decide +kernel
theorem k_315_78 : cd 315 78 = some (.imul, 1) := by decide +kernel
theorem k_315_79 : cd 315 79 = some (.iaload, 1) := by decide +kernel
theorem k_315_80 : cd 315 80 = some (.aload_n 0, 1) := by decide +kernel
theorem k_315_81 : cd 315 81 = some (.getfield 124, 3) := by decide +kernel
theorem k_315_84 : cd 315 84 = some (.iconst 2, 1) := by decide +kernel
theorem k_315_85 : cd 315 85 = some (.iload 6, 2) := by decide +kernel
theorem k_315_87 : cd 315 87 = some (.imul, 1) := by decide +kernel
theorem k_315_88 : cd 315 88 = some (.iaload, 1) := by decide +kernel
theorem k_315_89 : cd 315 89 = some (.if_icmp .gt 61, 3) := by decide +kernel
theorem k_315_92 : cd 315 92 = some (.aload_n 0, 1) := by decide +kernel
theorem k_315_93 : cd 315 93 = some (.getfield 124, 3) := by decide +kernel
theorem k_315_96 : cd 315 96 = some (.iconst 2, 1) := by decide +kernel
theorem k_315_97 : cd 315 97 = some (.iload 6, 2) := by decide +kernel
theorem k_315_99 : cd 315 99 = some (.iconst 1, 1) := by decide +kernel
theorem k_315_100 : cd 315 100 = some (.ixor, 1) := by decide +kernel
theorem k_315_101 : cd 315 101 = some (.imul, 1) := by decide +kernel
theorem k_315_102 : cd 315 102 = some (.iconst 1, 1) := by decide +kernel
theorem k_315_103 : cd 315 103 = some (.iadd, 1) := by decide +kernel
theorem k_315_104 : cd 315 104 = some (.iaload, 1) := by decide +kernel
theorem k_315_105 : cd 315 105 = some (.aload_n 0, 1) := by decide +kernel
theorem k_315_106 : cd 315 106 = some (.getfield 124, 3) := by decide +kernel
theorem k_315_109 : cd 315 109 = some (.iconst 2, 1) := by decide +kernel
theorem k_315_110 : cd 315 110 = some (.iload 6, 2) := by decide +kernel
theorem k_315_112 : cd 315 112 = some (.imul, 1) := by decide +kernel
theorem k_315_113 : cd 315 113 = some (.iconst 1, 1) := by decide +kernel
theorem k_315_114 : cd 315 114 = some (.iadd, 1) := by decide +kernel
theorem k_315_115 : cd 315 115 = some (.iaload, 1) := by decide +kernel
theorem k_315_116 : cd 315 116 = some (.if_icmp .le 6, 3) := by decide +kernel
theorem k_315_119 : cd 315 119 = some (.goto 31, 3) := by decide +kernel
theorem k_315_122 : cd 315 122 = some (.iinc 4 1, 3) := by decide +kernel
theorem k_315_125 : cd 315 125 = some (.iload 5, 2) := by decide +kernel
theorem k_315_127 : cd 315 127 = some (.iconst (-1), 1) := by decide +kernel
theorem k_315_128 : cd 315 128 = some (.if_icmp .ne 18, 3) := by decide +kernel
theorem k_315_131 : cd 315 131 = some (.bipush 10, 2) := by decide +kernel
theorem k_315_133 : cd 315 133 = some (.iload 6, 2) := by decide +kernel
theorem k_315_135 : cd 315 135 = some (.iconst 2, 1) := by decide +kernel
theorem k_315_136 : cd 315 136 = some (.idiv, 1) := by decide +kernel
theorem k_315_137 : cd 315 137 = some (.imul, 1) := by decide +kernel
theorem k_315_138 : cd 315 138 = some (.iload 6, 2) := by decide +kernel
theorem k_315_140 : cd 315 140 = some (.iconst 2, 1) := by decide +kernel
theorem k_315_141 : cd 315 141 = some (.irem, 1) := by decide +kernel
theorem k_315_142 : cd 315 142 = some (.iadd, 1) := by decide +kernel
theorem k_315_143 : cd 315 143 = some (.goto 5, 3) := by decide +kernel
theorem k_315_146 : cd 315 146 = some (.iload 5, 2) := by decide +kernel
theorem k_315_148 : cd 315 148 = some (.istore 5, 2) := by decide +kernel
theorem k_315_150 : cd 315 150 = some (.iinc 6 1, 3) := by decide +kernel
theorem k_315_153 : cd 315 153 = some (.goto (-90), 3) := by decide +kernel
theorem k_315_156 : cd 315 156 = some (.iload_n 3, 1) := by decide +kernel
theorem k_315_157 : cd 315 157 = some (.ifCond .ne 8, 3) := by decide +kernel
theorem k_315_160 : cd 315 160 = some (.iload 4, 2) := by decide +kernel
theorem k_315_162 : cd 315 162 = some (.goto 5, 3) := by decide +kernel
theorem k_315_165 : cd 315 165 = some (.iload 5, 2) := by decide +kernel
theorem k_315_167 : cd 315 167 = some (.ireturn, 1) := by decide +kernel
theorem po_315 : po 315 = 9 := rfl
noncomputable def C_315_63  (v1 : Value) (v2 : Value) (x3 : Int32) (x4 : Int32) (x5 : Int32) (x6 : Int32) (σ : pS) : Option pZ := den 315 0 63 [.ref 61, v1, v2, .int x3, .int x4, .int x5, .int x6] [] σ
theorem T_315_63  {v1 : Value} {v2 : Value} {x3 : Int32} {x4 : Int32} {x5 : Int32} {x6 : Int32}  {σ : pS} {ρ : Nat → Nat → Option Nat} (e : gR σ = ρ) (hL : LayR ρ) : Le
  (if (ι 4) ≤ x6 then if ¬ x3 = (ι 0) then some (1, .int x5, σ) else some (1, .int x4, σ) else gd (inb ((ι 2) * (x6 ^^^ (ι 2))) 8) (gd (inb ((ι 2) * x6) 8) (if (gI σ 91 (ix ((ι 2) * x6))) < (gI σ 91 (ix ((ι 2) * (x6 ^^^ (ι 2))))) then C_315_63 v1 v2 x3 x4 x5 (x6 + (ι 1)) σ else gd (inb (((ι 2) * (x6 ^^^ (ι 1))) + (ι 1)) 8) (gd (inb (((ι 2) * x6) + (ι 1)) 8) (if (gI σ 91 (ix (((ι 2) * (x6 ^^^ (ι 1))) + (ι 1)))) ≤ (gI σ 91 (ix (((ι 2) * x6) + (ι 1)))) then if ¬ x5 = (ν 1) then C_315_63 v1 v2 x3 (x4 + (ι 1)) x5 (x6 + (ι 1)) σ else C_315_63 v1 v2 x3 (x4 + (ι 1)) (((ι 10) * (x6 / (ι 2))) + (irem' x6 (ι 2))) (x6 + (ι 1)) σ else C_315_63 v1 v2 x3 x4 x5 (x6 + (ι 1)) σ)))))
  (C_315_63  v1 v2 x3 x4 x5 x6 σ) := by
  unfold C_315_63
  exact r_iload k_315_63 rfl rfl
    (r_iconst k_315_65 rfl rfl
    (r_icmp (tgt := 156) k_315_66 rfl rfl cop_ge
    (r_iload_n k_315_156 rfl rfl
    (r_if (tgt := 165) k_315_157 rfl rfl cop_ne
    (r_iload k_315_165 rfl rfl
    (r_ret k_315_167 rfl rfl))
    (r_iload k_315_160 rfl rfl
    (r_goto (tgt := 167) k_315_162 rfl (r_ret k_315_167 rfl rfl)))))
    (r_aload_n k_315_69 rfl rfl
    (r_getR k_315_70 rfl po_315 rfl rfl rfl rfl (gRat e (LayR.at hL (i := 92) rfl))
    (r_iconst k_315_73 rfl rfl
    (r_iload k_315_74 rfl rfl
    (r_iconst k_315_76 rfl rfl
    (r_ixor k_315_77 rfl
    (r_imul k_315_78 rfl
    (r_gd fun g => r_iald k_315_79 rfl rfl g
    (r_aload_n k_315_80 rfl rfl
    (r_getR k_315_81 rfl po_315 rfl rfl rfl rfl (gRat e (LayR.at hL (i := 92) rfl))
    (r_iconst k_315_84 rfl rfl
    (r_iload k_315_85 rfl rfl
    (r_imul k_315_87 rfl
    (r_gd fun g => r_iald k_315_88 rfl rfl g
    (r_icmp (tgt := 150) k_315_89 rfl rfl cop_gt
    (r_iinc k_315_150 rfl rfl rfl rfl
    (r_goto (tgt := 63) k_315_153 rfl (Le.rfl')))
    (r_aload_n k_315_92 rfl rfl
    (r_getR k_315_93 rfl po_315 rfl rfl rfl rfl (gRat e (LayR.at hL (i := 92) rfl))
    (r_iconst k_315_96 rfl rfl
    (r_iload k_315_97 rfl rfl
    (r_iconst k_315_99 rfl rfl
    (r_ixor k_315_100 rfl
    (r_imul k_315_101 rfl
    (r_iconst k_315_102 rfl rfl
    (r_iadd k_315_103 rfl
    (r_gd fun g => r_iald k_315_104 rfl rfl g
    (r_aload_n k_315_105 rfl rfl
    (r_getR k_315_106 rfl po_315 rfl rfl rfl rfl (gRat e (LayR.at hL (i := 92) rfl))
    (r_iconst k_315_109 rfl rfl
    (r_iload k_315_110 rfl rfl
    (r_imul k_315_112 rfl
    (r_iconst k_315_113 rfl rfl
    (r_iadd k_315_114 rfl
    (r_gd fun g => r_iald k_315_115 rfl rfl g
    (r_icmp (tgt := 122) k_315_116 rfl rfl cop_le
    (r_iinc k_315_122 rfl rfl rfl rfl
    (r_iload k_315_125 rfl rfl
    (r_iconst k_315_127 rfl rfl
    (r_icmp (tgt := 146) k_315_128 rfl rfl cop_ne
    (r_iload k_315_146 rfl rfl
    (r_istore k_315_148 rfl rfl rfl
    (r_iinc k_315_150 rfl rfl rfl rfl
    (r_goto (tgt := 63) k_315_153 rfl (Le.rfl')))))
    (r_bipush k_315_131 rfl rfl
    (r_iload k_315_133 rfl rfl
    (r_iconst k_315_135 rfl rfl
    (r_idiv k_315_136 rfl (by decide)
    (r_imul k_315_137 rfl
    (r_iload k_315_138 rfl rfl
    (r_iconst k_315_140 rfl rfl
    (r_irem k_315_141 rfl (by decide)
    (r_iadd k_315_142 rfl
    (r_goto (tgt := 148) k_315_143 rfl (r_istore k_315_148 rfl rfl rfl
    (r_iinc k_315_150 rfl rfl rfl rfl
    (r_goto (tgt := 63) k_315_153 rfl (Le.rfl'))))))))))))))))))
    (r_goto (tgt := 150) k_315_119 rfl (r_iinc k_315_150 rfl rfl rfl rfl
    (r_goto (tgt := 63) k_315_153 rfl (Le.rfl'))))))))))))))))))))))))))))))))))))))))
theorem M_315  {x0 : Int32} {x1 : Int32} {x2 : Int32} {σ : pS} {ρ : Nat → Nat → Option Nat} (e : gR σ = ρ) (hL : LayR ρ) : Le
  (bI (pcall 260 [.ref 61, .int x0] (sI σ 61 4 (ι 0))) fun r1 σ1 => if r1 = (ι 0) then bI (pcall 211 [.ref 61, .int (ι 1)] σ1) fun r2 σ2 => some (1, .int r2, σ2) else bI (pcall 260 [.ref 61, .int x1] σ1) fun r3 σ3 => if r3 = (ι 0) then bI (pcall 211 [.ref 61, .int (ι 1)] σ3) fun r4 σ4 => some (1, .int r4, σ4) else bI (pcall 261 [.long x2.toInt64, .long (0 : Int64), .long (1 : Int64)] σ3) fun r5 σ5 => if ¬ r5 = (ι 0) then if ¬ x0 = x1 then bV (pcall 316 [.ref 61, .int x0, .int x1] σ5) fun σ6 => C_315_63 (.int x0) (.int x1) x2 (ι 0) (ν 1) (ι 0) σ6 else bI (pcall 211 [.ref 61, .int (ι 2)] σ5) fun r7 σ7 => some (1, .int r7, σ7) else bI (pcall 211 [.ref 61, .int (ι 1)] σ5) fun r8 σ8 => some (1, .int r8, σ8))
  (pcall 315 [.ref 61, .int x0, .int x1, .int x2] σ) := by
  show Le _ (den 315 0 0 [.ref 61, .int x0, .int x1, .int x2, .retAddr 0, .retAddr 0, .retAddr 0] [] σ)
  exact r_aload_n k_315_0 rfl rfl
    (r_iconst k_315_1 rfl rfl
    (r_putI k_315_2 rfl po_315 rfl rfl rfl
    (r_aload_n k_315_5 rfl rfl
    (r_iload_n k_315_6 rfl rfl
    (r_callI (q_virt (rest := []) (as := [.int x0]) k_315_7 po_315 rfl rfl rfl (rcvO rfl rfl rfl) rfl rfl) (lvq (j := 0) rfl (by decide +kernel)) rfl rfl (fun r1 σ1 h1 => r_if (tgt := 31) k_315_10 rfl rfl cop_eq
    (r_aload_n k_315_31 rfl rfl
    (r_iconst k_315_32 rfl rfl
    (r_callI (q_virt (rest := []) (as := [.int (ι 1)]) k_315_33 po_315 rfl rfl rfl (rcvO rfl rfl rfl) rfl rfl) (lvq (j := 0) rfl (by decide +kernel)) rfl rfl (fun r2 σ2 h2 => r_ret k_315_36 rfl rfl))))
    (r_aload_n k_315_13 rfl rfl
    (r_iload_n k_315_14 rfl rfl
    (r_callI (q_virt (rest := []) (as := [.int x1]) k_315_15 po_315 rfl rfl rfl (rcvO rfl rfl rfl) rfl rfl) (lvq (j := 0) rfl (by decide +kernel)) rfl rfl (fun r3 σ3 h3 => r_if (tgt := 31) k_315_18 rfl rfl cop_eq
    (r_aload_n k_315_31 rfl rfl
    (r_iconst k_315_32 rfl rfl
    (r_callI (q_virt (rest := []) (as := [.int (ι 1)]) k_315_33 po_315 rfl rfl rfl (rcvO rfl rfl rfl) rfl rfl) (lvq (j := 0) rfl (by decide +kernel)) rfl rfl (fun r4 σ4 h4 => r_ret k_315_36 rfl rfl))))
    (r_iload_n k_315_21 rfl rfl
    (r_i2l k_315_22 rfl
    (r_lconst k_315_23 rfl rfl
    (r_lconst k_315_24 rfl rfl
    (r_callI (q_stat (rest := []) (av := [.long x2.toInt64, .long (0 : Int64), .long (1 : Int64)]) k_315_25 po_315 rfl (by decide) rfl rfl rfl rfl) (lvq (j := 0) rfl (by decide +kernel)) rfl rfl (fun r5 σ5 h5 => r_if (tgt := 37) k_315_28 rfl rfl cop_ne
    (r_iload_n k_315_37 rfl rfl
    (r_iload_n k_315_38 rfl rfl
    (r_icmp (tgt := 48) k_315_39 rfl rfl cop_ne
    (r_aload_n k_315_48 rfl rfl
    (r_iload_n k_315_49 rfl rfl
    (r_iload_n k_315_50 rfl rfl
    (r_callV (q_virt (rest := []) (as := [.int x0, .int x1]) k_315_51 po_315 rfl rfl rfl (rcvO rfl rfl rfl) rfl rfl) (lvq (j := 0) rfl (by decide +kernel)) rfl rfl (fun _ σ6 h6 => r_iconst k_315_54 rfl rfl
    (r_istore k_315_55 rfl rfl rfl
    (r_iconst k_315_57 rfl rfl
    (r_istore k_315_58 rfl rfl rfl
    (r_iconst k_315_60 rfl rfl
    (r_istore k_315_61 rfl rfl rfl
    (Le.rfl')))))))))))
    (r_aload_n k_315_42 rfl rfl
    (r_iconst k_315_43 rfl rfl
    (r_callI (q_virt (rest := []) (as := [.int (ι 2)]) k_315_44 po_315 rfl rfl rfl (rcvO rfl rfl rfl) rfl rfl) (lvq (j := 0) rfl (by decide +kernel)) rfl rfl (fun r7 σ7 h7 => r_ret k_315_47 rfl rfl)))))))
    (r_aload_n k_315_31 rfl rfl
    (r_iconst k_315_32 rfl rfl
    (r_callI (q_virt (rest := []) (as := [.int (ι 1)]) k_315_33 po_315 rfl rfl rfl (rcvO rfl rfl rfl) rfl rfl) (lvq (j := 0) rfl (by decide +kernel)) rfl rfl (fun r8 σ8 h8 => r_ret k_315_36 rfl rfl))))))))))))))))))))
/-! ===== 316 HedgeWantsModel.tellGains ===== -/
theorem k_316_0 : cd 316 0 = some (.aload_n 0, 1) := by decide +kernel
theorem k_316_1 : cd 316 1 = some (.aload_n 0, 1) := by decide +kernel
theorem k_316_2 : cd 316 2 = some (.getfield 99, 3) := by decide +kernel
theorem k_316_5 : cd 316 5 = some (.iconst 0, 1) := by decide +kernel
theorem k_316_6 : cd 316 6 = some (.invokevirtual 402, 3) := by decide +kernel
theorem k_316_9 : cd 316 9 = some (.iconst 0, 1) := by decide +kernel
theorem k_316_10 : cd 316 10 = some (.istore_n 3, 1) := by decide +kernel
theorem k_316_11 : cd 316 11 = some (.iload_n 3, 1) := by decide +kernel
theorem k_316_12 : cd 316 12 = some (.iconst 4, 1) := by decide +kernel
theorem k_316_13 : cd 316 13 = some (.if_icmp .ge 78, 3) := by decide +kernel
theorem k_316_16 : cd 316 16 = some (.aload_n 0, 1) := by decide +kernel
theorem k_316_17 : cd 316 17 = some (.iload_n 3, 1) := by decide +kernel
theorem k_316_18 : cd 316 18 = some (.iconst 2, 1) := by decide +kernel
theorem k_316_19 : cd 316 19 = some (.idiv, 1) := by decide +kernel
theorem k_316_20 : cd 316 20 = some (.iload_n 1, 1) := by decide +kernel
theorem k_316_21 : cd 316 21 = some (.ishl, 1) := by decide +kernel
theorem k_316_22 : cd 316 22 = some (.iload_n 3, 1) := by decide +kernel
theorem k_316_23 : cd 316 23 = some (.iconst 2, 1) := by decide +kernel
theorem k_316_24 : cd 316 24 = some (.irem, 1) := by decide +kernel
theorem k_316_25 : cd 316 25 = some (.iload_n 2, 1) := by decide +kernel
theorem k_316_26 : cd 316 26 = some (.ishl, 1) := by decide +kernel
theorem k_316_27 : cd 316 27 = some (.ior, 1) := by decide +kernel
theorem k_316_28 : cd 316 28 = some (.putfield 325, 3) := by decide +kernel
theorem k_316_31 : cd 316 31 = some (.aload_n 0, 1) := by decide +kernel
theorem k_316_32 : cd 316 32 = some (.iconst 4, 1) := by decide +kernel
theorem k_316_33 : cd 316 33 = some (.invokevirtual 414, 3) := by decide +kernel
theorem k_316_36 : cd 316 36 = some (.aload_n 0, 1) := by decide +kernel
theorem k_316_37 : cd 316 37 = some (.getfield 124, 3) := by decide +kernel
theorem k_316_40 : cd 316 40 = some (.iconst 2, 1) := by decide +kernel
theorem k_316_41 : cd 316 41 = some (.iload_n 3, 1) := by decide +kernel
theorem k_316_42 : cd 316 42 = some (.imul, 1) := by decide +kernel
theorem k_316_43 : cd 316 43 = some (.aload_n 0, 1) := by decide +kernel
theorem k_316_44 : cd 316 44 = some (.iload_n 1, 1) := by decide +kernel
theorem k_316_45 : cd 316 45 = some (.invokevirtual 359, 3) := by decide +kernel
theorem k_316_48 : cd 316 48 = some (.iconst 2, 1) := by decide +kernel
theorem k_316_49 : cd 316 49 = some (.iload_n 3, 1) := by decide +kernel
theorem k_316_50 : cd 316 50 = some (.iconst 2, 1) := by decide +kernel
theorem k_316_51 : cd 316 51 = some (.idiv, 1) := by decide +kernel
theorem k_316_52 : cd 316 52 = some (.imul, 1) := by decide +kernel
theorem k_316_53 : cd 316 53 = some (.iadd, 1) := by decide +kernel
theorem k_316_54 : cd 316 54 = some (.iastore, 1) := by decide +kernel
theorem k_316_55 : cd 316 55 = some (.aload_n 0, 1) := by decide +kernel
theorem k_316_56 : cd 316 56 = some (.getfield 124, 3) := by decide +kernel
theorem k_316_59 : cd 316 59 = some (.iconst 2, 1) := by decide +kernel
theorem k_316_60 : cd 316 60 = some (.iload_n 3, 1) := by decide +kernel
theorem k_316_61 : cd 316 61 = some (.imul, 1) := by decide +kernel
theorem k_316_62 : cd 316 62 = some (.iconst 1, 1) := by decide +kernel
theorem k_316_63 : cd 316 63 = some (.iadd, 1) := by decide +kernel
theorem k_316_64 : cd 316 64 = some (.aload_n 0, 1) := by decide +kernel
theorem k_316_65 : cd 316 65 = some (.iload_n 2, 1) := by decide +kernel
theorem k_316_66 : cd 316 66 = some (.invokevirtual 359, 3) := by decide +kernel
theorem k_316_69 : cd 316 69 = some (.iconst 2, 1) := by decide +kernel
theorem k_316_70 : cd 316 70 = some (.iload_n 3, 1) := by decide +kernel
theorem k_316_71 : cd 316 71 = some (.iconst 2, 1) := by decide +kernel
theorem k_316_72 : cd 316 72 = some (.irem, 1) := by decide +kernel
theorem k_316_73 : cd 316 73 = some (.imul, 1) := by decide +kernel
theorem k_316_74 : cd 316 74 = some (.iadd, 1) := by decide +kernel
theorem k_316_75 : cd 316 75 = some (.iastore, 1) := by decide +kernel
theorem k_316_76 : cd 316 76 = some (.aload_n 0, 1) := by decide +kernel
theorem k_316_77 : cd 316 77 = some (.aload_n 0, 1) := by decide +kernel
theorem k_316_78 : cd 316 78 = some (.getfield 99, 3) := by decide +kernel
theorem k_316_81 : cd 316 81 = some (.iconst 0, 1) := by decide +kernel
theorem k_316_82 : cd 316 82 = some (.invokevirtual 426, 3) := by decide +kernel
theorem k_316_85 : cd 316 85 = some (.iinc 3 1, 3) := by decide +kernel
theorem k_316_88 : cd 316 88 = some (.goto (-77), 3) := by decide +kernel
theorem k_316_91 : cd 316 91 = some (.return_, 1) := by decide +kernel
theorem po_316 : po 316 = 9 := rfl
noncomputable def C_316_11  (x1 : Int32) (x2 : Int32) (x3 : Int32) (σ : pS) : Option pZ := den 316 0 11 [.ref 61, .int x1, .int x2, .int x3] [] σ
theorem T_316_11  {x1 : Int32} {x2 : Int32} {x3 : Int32}  {σ : pS} {ρ : Nat → Nat → Option Nat} (e : gR σ = ρ) (hL : LayR ρ) : Le
  (if (ι 4) ≤ x3 then some (0, .null, σ) else bV (pcall 272 [.ref 61, .int (ι 4)] (sI σ 61 36 ((shl' (x3 / (ι 2)) x1) ||| (shl' (irem' x3 (ι 2)) x2)))) fun σ1 => bI (pcall 252 [.ref 61, .int x1] σ1) fun r2 σ2 => gd (inb ((ι 2) * x3) 8) (bI (pcall 252 [.ref 61, .int x2] (sI σ2 91 (ix ((ι 2) * x3)) (r2 + ((ι 2) * (x3 / (ι 2)))))) fun r3 σ3 => gd (inb (((ι 2) * x3) + (ι 1)) 8) (bV (pcall 284 [.ref 61, .ref 83, .int (ι 0)] (sI σ3 91 (ix (((ι 2) * x3) + (ι 1))) (r3 + ((ι 2) * (irem' x3 (ι 2)))))) fun σ4 => C_316_11 x1 x2 (x3 + (ι 1)) σ4)))
  (C_316_11  x1 x2 x3 σ) := by
  unfold C_316_11
  exact r_iload_n k_316_11 rfl rfl
    (r_iconst k_316_12 rfl rfl
    (r_icmp (tgt := 91) k_316_13 rfl rfl cop_ge
    (r_retV k_316_91 rfl)
    (r_aload_n k_316_16 rfl rfl
    (r_iload_n k_316_17 rfl rfl
    (r_iconst k_316_18 rfl rfl
    (r_idiv k_316_19 rfl (by decide)
    (r_iload_n k_316_20 rfl rfl
    (r_ishl k_316_21 rfl
    (r_iload_n k_316_22 rfl rfl
    (r_iconst k_316_23 rfl rfl
    (r_irem k_316_24 rfl (by decide)
    (r_iload_n k_316_25 rfl rfl
    (r_ishl k_316_26 rfl
    (r_ior k_316_27 rfl
    (r_putI k_316_28 rfl po_316 rfl rfl rfl
    (r_aload_n k_316_31 rfl rfl
    (r_iconst k_316_32 rfl rfl
    (r_callV (q_virt (rest := []) (as := [.int (ι 4)]) k_316_33 po_316 rfl rfl rfl (rcvO rfl rfl rfl) rfl rfl) (lvq (j := 0) rfl (by decide +kernel)) rfl rfl (fun _ σ1 h1 => r_aload_n k_316_36 rfl rfl
    (r_getR k_316_37 rfl po_316 rfl rfl rfl rfl (gRat (eC rfl h1 (eI e)) (LayR.at hL (i := 92) rfl))
    (r_iconst k_316_40 rfl rfl
    (r_iload_n k_316_41 rfl rfl
    (r_imul k_316_42 rfl
    (r_aload_n k_316_43 rfl rfl
    (r_iload_n k_316_44 rfl rfl
    (r_callI (q_virt (rest := [.int ((ι 2) * x3), .ref 91]) (as := [.int x1]) k_316_45 po_316 rfl rfl rfl (rcvO rfl rfl rfl) rfl rfl) (lvq (j := 0) rfl (by decide +kernel)) rfl rfl (fun r2 σ2 h2 => r_iconst k_316_48 rfl rfl
    (r_iload_n k_316_49 rfl rfl
    (r_iconst k_316_50 rfl rfl
    (r_idiv k_316_51 rfl (by decide)
    (r_imul k_316_52 rfl
    (r_iadd k_316_53 rfl
    (r_gd fun g => r_iast k_316_54 rfl rfl g
    (r_aload_n k_316_55 rfl rfl
    (r_getR k_316_56 rfl po_316 rfl rfl rfl rfl (gRat (eI (eC rfl h2 (eC rfl h1 (eI e)))) (LayR.at hL (i := 92) rfl))
    (r_iconst k_316_59 rfl rfl
    (r_iload_n k_316_60 rfl rfl
    (r_imul k_316_61 rfl
    (r_iconst k_316_62 rfl rfl
    (r_iadd k_316_63 rfl
    (r_aload_n k_316_64 rfl rfl
    (r_iload_n k_316_65 rfl rfl
    (r_callI (q_virt (rest := [.int (((ι 2) * x3) + (ι 1)), .ref 91]) (as := [.int x2]) k_316_66 po_316 rfl rfl rfl (rcvO rfl rfl rfl) rfl rfl) (lvq (j := 0) rfl (by decide +kernel)) rfl rfl (fun r3 σ3 h3 => r_iconst k_316_69 rfl rfl
    (r_iload_n k_316_70 rfl rfl
    (r_iconst k_316_71 rfl rfl
    (r_irem k_316_72 rfl (by decide)
    (r_imul k_316_73 rfl
    (r_iadd k_316_74 rfl
    (r_gd fun g => r_iast k_316_75 rfl rfl g
    (r_aload_n k_316_76 rfl rfl
    (r_aload_n k_316_77 rfl rfl
    (r_getR k_316_78 rfl po_316 rfl rfl rfl rfl (gRat (eI (eC rfl h3 (eI (eC rfl h2 (eC rfl h1 (eI e)))))) (LayR.at hL (i := 84) rfl))
    (r_iconst k_316_81 rfl rfl
    (r_callV (q_virt (rest := []) (as := [.ref 83, .int (ι 0)]) k_316_82 po_316 rfl rfl rfl (rcvO rfl rfl rfl) rfl rfl) (lvq (j := 0) rfl (by decide +kernel)) rfl rfl (fun _ σ4 h4 => r_iinc k_316_85 rfl rfl rfl rfl
    (r_goto (tgt := 11) k_316_88 rfl (Le.rfl'))))))))))))))))))))))))))))))))))))))))))))))))))))))))))
theorem M_316  {x0 : Int32} {x1 : Int32} {σ : pS} {ρ : Nat → Nat → Option Nat} (e : gR σ = ρ) (hL : LayR ρ) : Le
  (bV (pcall 271 [.ref 61, .ref 83, .int (ι 0)] σ) fun σ1 => C_316_11 x0 x1 (ι 0) σ1)
  (pcall 316 [.ref 61, .int x0, .int x1] σ) := by
  show Le _ (den 316 0 0 [.ref 61, .int x0, .int x1, .retAddr 0] [] σ)
  exact r_aload_n k_316_0 rfl rfl
    (r_aload_n k_316_1 rfl rfl
    (r_getR k_316_2 rfl po_316 rfl rfl rfl rfl (gRat e (LayR.at hL (i := 84) rfl))
    (r_iconst k_316_5 rfl rfl
    (r_callV (q_virt (rest := []) (as := [.ref 83, .int (ι 0)]) k_316_6 po_316 rfl rfl rfl (rcvO rfl rfl rfl) rfl rfl) (lvq (j := 0) rfl (by decide +kernel)) rfl rfl (fun _ σ1 h1 => r_iconst k_316_9 rfl rfl
    (r_istore_n k_316_10 rfl rfl rfl
    (Le.rfl')))))))
/-! ===== 317 HedgeWantsModel.years ===== -/
theorem k_317_0 : cd 317 0 = some (.aload_n 0, 1) := by decide +kernel
theorem k_317_1 : cd 317 1 = some (.iconst 0, 1) := by decide +kernel
theorem k_317_2 : cd 317 2 = some (.putfield 145, 3) := by decide +kernel
theorem k_317_5 : cd 317 5 = some (.iload_n 3, 1) := by decide +kernel
theorem k_317_6 : cd 317 6 = some (.i2l, 1) := by decide +kernel
theorem k_317_7 : cd 317 7 = some (.lconst 0, 1) := by decide +kernel
theorem k_317_8 : cd 317 8 = some (.ldc2_w 429, 3) := by decide +kernel
theorem k_317_11 : cd 317 11 = some (.invokestatic 148, 3) := by decide +kernel
theorem k_317_14 : cd 317 14 = some (.ifCond .ne 9, 3) := by decide +kernel
theorem k_317_17 : cd 317 17 = some (.aload_n 0, 1) := by decide +kernel
theorem k_317_18 : cd 317 18 = some (.iconst 1, 1) := by decide +kernel
theorem k_317_19 : cd 317 19 = some (.invokevirtual 290, 3) := by decide +kernel
theorem k_317_22 : cd 317 22 = some (.ireturn, 1) := by decide +kernel
theorem k_317_23 : cd 317 23 = some (.iload_n 2, 1) := by decide +kernel
theorem k_317_24 : cd 317 24 = some (.i2l, 1) := by decide +kernel
theorem k_317_25 : cd 317 25 = some (.lconst 0, 1) := by decide +kernel
theorem k_317_26 : cd 317 26 = some (.ldc2_w 431, 3) := by decide +kernel
theorem k_317_29 : cd 317 29 = some (.invokestatic 148, 3) := by decide +kernel
theorem k_317_32 : cd 317 32 = some (.ifCond .ne 9, 3) := by decide +kernel
theorem k_317_35 : cd 317 35 = some (.aload_n 0, 1) := by decide +kernel
theorem k_317_36 : cd 317 36 = some (.iconst 2, 1) := by decide +kernel
theorem k_317_37 : cd 317 37 = some (.invokevirtual 290, 3) := by decide +kernel
theorem k_317_40 : cd 317 40 = some (.ireturn, 1) := by decide +kernel
theorem k_317_41 : cd 317 41 = some (.aload_n 0, 1) := by decide +kernel
theorem k_317_42 : cd 317 42 = some (.aload_n 0, 1) := by decide +kernel
theorem k_317_43 : cd 317 43 = some (.getfield 99, 3) := by decide +kernel
theorem k_317_46 : cd 317 46 = some (.iconst 0, 1) := by decide +kernel
theorem k_317_47 : cd 317 47 = some (.invokevirtual 402, 3) := by decide +kernel
theorem k_317_50 : cd 317 50 = some (.aload_n 0, 1) := by decide +kernel
theorem k_317_51 : cd 317 51 = some (.invokevirtual 436, 3) := by decide +kernel
theorem k_317_54 : cd 317 54 = some (.aload_n 0, 1) := by decide +kernel
theorem k_317_55 : cd 317 55 = some (.iload_n 1, 1) := by decide +kernel
theorem k_317_56 : cd 317 56 = some (.putfield 484, 3) := by decide +kernel
theorem k_317_59 : cd 317 59 = some (.iconst 0, 1) := by decide +kernel
theorem k_317_60 : cd 317 60 = some (.istore 4, 2) := by decide +kernel
theorem k_317_62 : cd 317 62 = some (.iload 4, 2) := by decide +kernel
theorem k_317_64 : cd 317 64 = some (.iload_n 2, 1) := by decide +kernel
theorem k_317_65 : cd 317 65 = some (.if_icmp .ge 17, 3) := by decide +kernel
theorem k_317_68 : cd 317 68 = some (.aload_n 0, 1) := by decide +kernel
theorem k_317_69 : cd 317 69 = some (.invokevirtual 491, 3) := by decide +kernel
theorem k_317_72 : cd 317 72 = some (.aload_n 0, 1) := by decide +kernel
theorem k_317_73 : cd 317 73 = some (.invokevirtual 356, 3) := by decide +kernel
theorem k_317_76 : cd 317 76 = some (.iinc 4 1, 3) := by decide +kernel
theorem k_317_79 : cd 317 79 = some (.goto (-17), 3) := by decide +kernel
theorem k_317_82 : cd 317 82 = some (.iload_n 3, 1) := by decide +kernel
theorem k_317_83 : cd 317 83 = some (.ifCond .ne 10, 3) := by decide +kernel
theorem k_317_86 : cd 317 86 = some (.aload_n 0, 1) := by decide +kernel
theorem k_317_87 : cd 317 87 = some (.invokevirtual 441, 3) := by decide +kernel
theorem k_317_90 : cd 317 90 = some (.goto 22, 3) := by decide +kernel
theorem k_317_93 : cd 317 93 = some (.iload_n 3, 1) := by decide +kernel
theorem k_317_94 : cd 317 94 = some (.iconst 1, 1) := by decide +kernel
theorem k_317_95 : cd 317 95 = some (.if_icmp .ne 13, 3) := by decide +kernel
theorem k_317_98 : cd 317 98 = some (.aload_n 0, 1) := by decide +kernel
theorem k_317_99 : cd 317 99 = some (.invokevirtual 450, 3) := by decide +kernel
theorem k_317_102 : cd 317 102 = some (.invokestatic 334, 3) := by decide +kernel
theorem k_317_105 : cd 317 105 = some (.goto 7, 3) := by decide +kernel
theorem k_317_108 : cd 317 108 = some (.aload_n 0, 1) := by decide +kernel
theorem k_317_109 : cd 317 109 = some (.invokevirtual 387, 3) := by decide +kernel
theorem k_317_112 : cd 317 112 = some (.istore 4, 2) := by decide +kernel
theorem k_317_114 : cd 317 114 = some (.aload_n 0, 1) := by decide +kernel
theorem k_317_115 : cd 317 115 = some (.aload_n 0, 1) := by decide +kernel
theorem k_317_116 : cd 317 116 = some (.getfield 99, 3) := by decide +kernel
theorem k_317_119 : cd 317 119 = some (.iconst 0, 1) := by decide +kernel
theorem k_317_120 : cd 317 120 = some (.invokevirtual 426, 3) := by decide +kernel
theorem k_317_123 : cd 317 123 = some (.iload 4, 2) := by decide +kernel
theorem k_317_125 : cd 317 125 = some (.ireturn, 1) := by decide +kernel
theorem po_317 : po 317 = 9 := rfl
noncomputable def C_317_62  (v1 : Value) (x2 : Int32) (x3 : Int32) (x4 : Int32) (σ : pS) : Option pZ := den 317 0 62 [.ref 61, v1, .int x2, .int x3, .int x4] [] σ
theorem T_317_62  {v1 : Value} {x2 : Int32} {x3 : Int32} {x4 : Int32}  {σ : pS} {ρ : Nat → Nat → Option Nat} (e : gR σ = ρ) (hL : LayR ρ) : Le
  (if x2 ≤ x4 then if ¬ x3 = (ι 0) then if ¬ x3 = (ι 1) then bI (pcall 258 [.ref 61] σ) fun r1 σ1 => bV (pcall 284 [.ref 61, .ref 83, .int (ι 0)] σ1) fun σ2 => some (1, .int r1, σ2) else bI (pcall 296 [.ref 61] σ) fun r3 σ3 => bI (pcall 247 [.int r3] σ3) fun r4 σ4 => bV (pcall 284 [.ref 61, .ref 83, .int (ι 0)] σ4) fun σ5 => some (1, .int r4, σ5) else bI (pcall 293 [.ref 61] σ) fun r6 σ6 => bV (pcall 284 [.ref 61, .ref 83, .int (ι 0)] σ6) fun σ7 => some (1, .int r6, σ7) else bV (pcall 318 [.ref 61] σ) fun σ8 => bV (pcall 273 [.ref 61] σ8) fun σ9 => C_317_62 v1 x2 x3 (x4 + (ι 1)) σ9)
  (C_317_62  v1 x2 x3 x4 σ) := by
  unfold C_317_62
  exact r_iload k_317_62 rfl rfl
    (r_iload_n k_317_64 rfl rfl
    (r_icmp (tgt := 82) k_317_65 rfl rfl cop_ge
    (r_iload_n k_317_82 rfl rfl
    (r_if (tgt := 93) k_317_83 rfl rfl cop_ne
    (r_iload_n k_317_93 rfl rfl
    (r_iconst k_317_94 rfl rfl
    (r_icmp (tgt := 108) k_317_95 rfl rfl cop_ne
    (r_aload_n k_317_108 rfl rfl
    (r_callI (q_virt (rest := []) (as := []) k_317_109 po_317 rfl rfl rfl (rcvO rfl rfl rfl) rfl rfl) (lvq (j := 0) rfl (by decide +kernel)) rfl rfl (fun r1 σ1 h1 => r_istore k_317_112 rfl rfl rfl
    (r_aload_n k_317_114 rfl rfl
    (r_aload_n k_317_115 rfl rfl
    (r_getR k_317_116 rfl po_317 rfl rfl rfl rfl (gRat (eC rfl h1 e) (LayR.at hL (i := 84) rfl))
    (r_iconst k_317_119 rfl rfl
    (r_callV (q_virt (rest := []) (as := [.ref 83, .int (ι 0)]) k_317_120 po_317 rfl rfl rfl (rcvO rfl rfl rfl) rfl rfl) (lvq (j := 0) rfl (by decide +kernel)) rfl rfl (fun _ σ2 h2 => r_iload k_317_123 rfl rfl
    (r_ret k_317_125 rfl rfl))))))))))
    (r_aload_n k_317_98 rfl rfl
    (r_callI (q_virt (rest := []) (as := []) k_317_99 po_317 rfl rfl rfl (rcvO rfl rfl rfl) rfl rfl) (lvq (j := 0) rfl (by decide +kernel)) rfl rfl (fun r3 σ3 h3 => r_callI (q_stat (rest := []) (av := [.int r3]) k_317_102 po_317 rfl (by decide) rfl rfl rfl rfl) (lvq (j := 0) rfl (by decide +kernel)) rfl rfl (fun r4 σ4 h4 => r_goto (tgt := 112) k_317_105 rfl (r_istore k_317_112 rfl rfl rfl
    (r_aload_n k_317_114 rfl rfl
    (r_aload_n k_317_115 rfl rfl
    (r_getR k_317_116 rfl po_317 rfl rfl rfl rfl (gRat (eC rfl h4 (eC rfl h3 e)) (LayR.at hL (i := 84) rfl))
    (r_iconst k_317_119 rfl rfl
    (r_callV (q_virt (rest := []) (as := [.ref 83, .int (ι 0)]) k_317_120 po_317 rfl rfl rfl (rcvO rfl rfl rfl) rfl rfl) (lvq (j := 0) rfl (by decide +kernel)) rfl rfl (fun _ σ5 h5 => r_iload k_317_123 rfl rfl
    (r_ret k_317_125 rfl rfl)))))))))))))))
    (r_aload_n k_317_86 rfl rfl
    (r_callI (q_virt (rest := []) (as := []) k_317_87 po_317 rfl rfl rfl (rcvO rfl rfl rfl) rfl rfl) (lvq (j := 0) rfl (by decide +kernel)) rfl rfl (fun r6 σ6 h6 => r_goto (tgt := 112) k_317_90 rfl (r_istore k_317_112 rfl rfl rfl
    (r_aload_n k_317_114 rfl rfl
    (r_aload_n k_317_115 rfl rfl
    (r_getR k_317_116 rfl po_317 rfl rfl rfl rfl (gRat (eC rfl h6 e) (LayR.at hL (i := 84) rfl))
    (r_iconst k_317_119 rfl rfl
    (r_callV (q_virt (rest := []) (as := [.ref 83, .int (ι 0)]) k_317_120 po_317 rfl rfl rfl (rcvO rfl rfl rfl) rfl rfl) (lvq (j := 0) rfl (by decide +kernel)) rfl rfl (fun _ σ7 h7 => r_iload k_317_123 rfl rfl
    (r_ret k_317_125 rfl rfl)))))))))))))
    (r_aload_n k_317_68 rfl rfl
    (r_callV (q_virt (rest := []) (as := []) k_317_69 po_317 rfl rfl rfl (rcvO rfl rfl rfl) rfl rfl) (lvq (j := 0) rfl (by decide +kernel)) rfl rfl (fun _ σ8 h8 => r_aload_n k_317_72 rfl rfl
    (r_callV (q_virt (rest := []) (as := []) k_317_73 po_317 rfl rfl rfl (rcvO rfl rfl rfl) rfl rfl) (lvq (j := 0) rfl (by decide +kernel)) rfl rfl (fun _ σ9 h9 => r_iinc k_317_76 rfl rfl rfl rfl
    (r_goto (tgt := 62) k_317_79 rfl (Le.rfl')))))))))
theorem M_317  {x0 : Int32} {x1 : Int32} {x2 : Int32} {σ : pS} {ρ : Nat → Nat → Option Nat} (e : gR σ = ρ) (hL : LayR ρ) : Le
  (bI (pcall 261 [.long x2.toInt64, .long (0 : Int64), .long (2 : Int64)] (sI σ 61 4 (ι 0))) fun r1 σ1 => if ¬ r1 = (ι 0) then bI (pcall 261 [.long x1.toInt64, .long (0 : Int64), .long (60 : Int64)] σ1) fun r2 σ2 => if ¬ r2 = (ι 0) then bV (pcall 271 [.ref 61, .ref 83, .int (ι 0)] σ2) fun σ3 => bV (pcall 291 [.ref 61] σ3) fun σ4 => C_317_62 (.int x0) x1 x2 (ι 0) (sI σ4 61 49 x0) else bI (pcall 211 [.ref 61, .int (ι 2)] σ2) fun r5 σ5 => some (1, .int r5, σ5) else bI (pcall 211 [.ref 61, .int (ι 1)] σ1) fun r6 σ6 => some (1, .int r6, σ6))
  (pcall 317 [.ref 61, .int x0, .int x1, .int x2] σ) := by
  show Le _ (den 317 0 0 [.ref 61, .int x0, .int x1, .int x2, .retAddr 0] [] σ)
  exact r_aload_n k_317_0 rfl rfl
    (r_iconst k_317_1 rfl rfl
    (r_putI k_317_2 rfl po_317 rfl rfl rfl
    (r_iload_n k_317_5 rfl rfl
    (r_i2l k_317_6 rfl
    (r_lconst k_317_7 rfl rfl
    (r_ldc2 k_317_8 rfl po_317 rfl rfl
    (r_callI (q_stat (rest := []) (av := [.long x2.toInt64, .long (0 : Int64), .long (2 : Int64)]) k_317_11 po_317 rfl (by decide) rfl rfl rfl rfl) (lvq (j := 0) rfl (by decide +kernel)) rfl rfl (fun r1 σ1 h1 => r_if (tgt := 23) k_317_14 rfl rfl cop_ne
    (r_iload_n k_317_23 rfl rfl
    (r_i2l k_317_24 rfl
    (r_lconst k_317_25 rfl rfl
    (r_ldc2 k_317_26 rfl po_317 rfl rfl
    (r_callI (q_stat (rest := []) (av := [.long x1.toInt64, .long (0 : Int64), .long (60 : Int64)]) k_317_29 po_317 rfl (by decide) rfl rfl rfl rfl) (lvq (j := 0) rfl (by decide +kernel)) rfl rfl (fun r2 σ2 h2 => r_if (tgt := 41) k_317_32 rfl rfl cop_ne
    (r_aload_n k_317_41 rfl rfl
    (r_aload_n k_317_42 rfl rfl
    (r_getR k_317_43 rfl po_317 rfl rfl rfl rfl (gRat (eC rfl h2 (eC rfl h1 (eI e))) (LayR.at hL (i := 84) rfl))
    (r_iconst k_317_46 rfl rfl
    (r_callV (q_virt (rest := []) (as := [.ref 83, .int (ι 0)]) k_317_47 po_317 rfl rfl rfl (rcvO rfl rfl rfl) rfl rfl) (lvq (j := 0) rfl (by decide +kernel)) rfl rfl (fun _ σ3 h3 => r_aload_n k_317_50 rfl rfl
    (r_callV (q_virt (rest := []) (as := []) k_317_51 po_317 rfl rfl rfl (rcvO rfl rfl rfl) rfl rfl) (lvq (j := 0) rfl (by decide +kernel)) rfl rfl (fun _ σ4 h4 => r_aload_n k_317_54 rfl rfl
    (r_iload_n k_317_55 rfl rfl
    (r_putI k_317_56 rfl po_317 rfl rfl rfl
    (r_iconst k_317_59 rfl rfl
    (r_istore k_317_60 rfl rfl rfl
    (Le.rfl')))))))))))))
    (r_aload_n k_317_35 rfl rfl
    (r_iconst k_317_36 rfl rfl
    (r_callI (q_virt (rest := []) (as := [.int (ι 2)]) k_317_37 po_317 rfl rfl rfl (rcvO rfl rfl rfl) rfl rfl) (lvq (j := 0) rfl (by decide +kernel)) rfl rfl (fun r5 σ5 h5 => r_ret k_317_40 rfl rfl))))))))))
    (r_aload_n k_317_17 rfl rfl
    (r_iconst k_317_18 rfl rfl
    (r_callI (q_virt (rest := []) (as := [.int (ι 1)]) k_317_19 po_317 rfl rfl rfl (rcvO rfl rfl rfl) rfl rfl) (lvq (j := 0) rfl (by decide +kernel)) rfl rfl (fun r6 σ6 h6 => r_ret k_317_22 rfl rfl))))))))))))
/-! ===== 318 HedgeWantsModel.something ===== -/
theorem k_318_0 : cd 318 0 = some (.aload_n 0, 1) := by decide +kernel
theorem k_318_1 : cd 318 1 = some (.bipush 6, 2) := by decide +kernel
theorem k_318_3 : cd 318 3 = some (.invokevirtual 488, 3) := by decide +kernel
theorem k_318_6 : cd 318 6 = some (.istore_n 1, 1) := by decide +kernel
theorem k_318_7 : cd 318 7 = some (.iload_n 1, 1) := by decide +kernel
theorem k_318_8 : cd 318 8 = some (.iconst 2, 1) := by decide +kernel
theorem k_318_9 : cd 318 9 = some (.if_icmp .gt 12, 3) := by decide +kernel
theorem k_318_12 : cd 318 12 = some (.aload_n 0, 1) := by decide +kernel
theorem k_318_13 : cd 318 13 = some (.getfield 44, 3) := by decide +kernel
theorem k_318_16 : cd 318 16 = some (.iconst 1, 1) := by decide +kernel
theorem k_318_17 : cd 318 17 = some (.iaload, 1) := by decide +kernel
theorem k_318_18 : cd 318 18 = some (.ifCond .ne 4, 3) := by decide +kernel
theorem k_318_21 : cd 318 21 = some (.return_, 1) := by decide +kernel
theorem k_318_22 : cd 318 22 = some (.aload_n 0, 1) := by decide +kernel
theorem k_318_23 : cd 318 23 = some (.aload_n 0, 1) := by decide +kernel
theorem k_318_24 : cd 318 24 = some (.getfield 44, 3) := by decide +kernel
theorem k_318_27 : cd 318 27 = some (.iconst 1, 1) := by decide +kernel
theorem k_318_28 : cd 318 28 = some (.iaload, 1) := by decide +kernel
theorem k_318_29 : cd 318 29 = some (.invokevirtual 488, 3) := by decide +kernel
theorem k_318_32 : cd 318 32 = some (.istore_n 2, 1) := by decide +kernel
theorem k_318_33 : cd 318 33 = some (.iload_n 1, 1) := by decide +kernel
theorem k_318_34 : cd 318 34 = some (.ifCond .ne 31, 3) := by decide +kernel
theorem k_318_37 : cd 318 37 = some (.aload_n 0, 1) := by decide +kernel
theorem k_318_38 : cd 318 38 = some (.aload_n 0, 1) := by decide +kernel
theorem k_318_39 : cd 318 39 = some (.getfield 44, 3) := by decide +kernel
theorem k_318_42 : cd 318 42 = some (.iconst 0, 1) := by decide +kernel
theorem k_318_43 : cd 318 43 = some (.iaload, 1) := by decide +kernel
theorem k_318_44 : cd 318 44 = some (.invokevirtual 488, 3) := by decide +kernel
theorem k_318_47 : cd 318 47 = some (.istore_n 3, 1) := by decide +kernel
theorem k_318_48 : cd 318 48 = some (.aload_n 0, 1) := by decide +kernel
theorem k_318_49 : cd 318 49 = some (.getfield 82, 3) := by decide +kernel
theorem k_318_52 : cd 318 52 = some (.bipush 12, 2) := by decide +kernel
theorem k_318_54 : cd 318 54 = some (.iload_n 3, 1) := by decide +kernel
theorem k_318_55 : cd 318 55 = some (.imul, 1) := by decide +kernel
theorem k_318_56 : cd 318 56 = some (.iload_n 2, 1) := by decide +kernel
theorem k_318_57 : cd 318 57 = some (.iadd, 1) := by decide +kernel
theorem k_318_58 : cd 318 58 = some (.aload_n 0, 1) := by decide +kernel
theorem k_318_59 : cd 318 59 = some (.bipush 10, 2) := by decide +kernel
theorem k_318_61 : cd 318 61 = some (.invokevirtual 488, 3) := by decide +kernel
theorem k_318_64 : cd 318 64 = some (.iastore, 1) := by decide +kernel
theorem k_318_65 : cd 318 65 = some (.iload_n 1, 1) := by decide +kernel
theorem k_318_66 : cd 318 66 = some (.iconst 1, 1) := by decide +kernel
theorem k_318_67 : cd 318 67 = some (.if_icmp .ne 10, 3) := by decide +kernel
theorem k_318_70 : cd 318 70 = some (.aload_n 0, 1) := by decide +kernel
theorem k_318_71 : cd 318 71 = some (.getfield 80, 3) := by decide +kernel
theorem k_318_74 : cd 318 74 = some (.iload_n 2, 1) := by decide +kernel
theorem k_318_75 : cd 318 75 = some (.iconst 0, 1) := by decide +kernel
theorem k_318_76 : cd 318 76 = some (.iastore, 1) := by decide +kernel
theorem k_318_77 : cd 318 77 = some (.iload_n 1, 1) := by decide +kernel
theorem k_318_78 : cd 318 78 = some (.iconst 2, 1) := by decide +kernel
theorem k_318_79 : cd 318 79 = some (.if_icmp .ne 19, 3) := by decide +kernel
theorem k_318_82 : cd 318 82 = some (.aload_n 0, 1) := by decide +kernel
theorem k_318_83 : cd 318 83 = some (.getfield 77, 3) := by decide +kernel
theorem k_318_86 : cd 318 86 = some (.iload_n 2, 1) := by decide +kernel
theorem k_318_87 : cd 318 87 = some (.aload_n 0, 1) := by decide +kernel
theorem k_318_88 : cd 318 88 = some (.aload_n 0, 1) := by decide +kernel
theorem k_318_89 : cd 318 89 = some (.getfield 44, 3) := by decide +kernel
theorem k_318_92 : cd 318 92 = some (.iconst 0, 1) := by decide +kernel
theorem k_318_93 : cd 318 93 = some (.iaload, 1) := by decide +kernel
theorem k_318_94 : cd 318 94 = some (.invokevirtual 488, 3) := by decide +kernel
theorem k_318_97 : cd 318 97 = some (.iastore, 1) := by decide +kernel
theorem k_318_98 : cd 318 98 = some (.return_, 1) := by decide +kernel
theorem po_318 : po 318 = 9 := rfl
noncomputable def C_318_65  (x1 : Int32) (x2 : Int32) (v3 : Value) (σ : pS) : Option pZ := den 318 0 65 [.ref 61, .int x1, .int x2, v3] [] σ
theorem T_318_65  {x1 : Int32} {x2 : Int32} {v3 : Value}  {σ : pS} {ρ : Nat → Nat → Option Nat} (e : gR σ = ρ) (hL : LayR ρ) : Le
  (if ¬ x1 = (ι 1) then if ¬ x1 = (ι 2) then some (0, .null, σ) else bI (pcall 319 [.ref 61, .int (gI σ 65 0)] σ) fun r1 σ1 => gd (inb x2 12) (some (0, .null, (sI σ1 75 (ix x2) r1))) else gd (inb x2 12) (if ¬ x1 = (ι 2) then some (0, .null, (sI σ 76 (ix x2) (ι 0))) else bI (pcall 319 [.ref 61, .int (gI (sI σ 76 (ix x2) (ι 0)) 65 0)] (sI σ 76 (ix x2) (ι 0))) fun r2 σ2 => gd (inb x2 12) (some (0, .null, (sI σ2 75 (ix x2) r2)))))
  (C_318_65  x1 x2 v3 σ) := by
  unfold C_318_65
  exact r_iload_n k_318_65 rfl rfl
    (r_iconst k_318_66 rfl rfl
    (r_icmp (tgt := 77) k_318_67 rfl rfl cop_ne
    (r_iload_n k_318_77 rfl rfl
    (r_iconst k_318_78 rfl rfl
    (r_icmp (tgt := 98) k_318_79 rfl rfl cop_ne
    (r_retV k_318_98 rfl)
    (r_aload_n k_318_82 rfl rfl
    (r_getR k_318_83 rfl po_318 rfl rfl rfl rfl (gRat e (LayR.at hL (i := 76) rfl))
    (r_iload_n k_318_86 rfl rfl
    (r_aload_n k_318_87 rfl rfl
    (r_aload_n k_318_88 rfl rfl
    (r_getR k_318_89 rfl po_318 rfl rfl rfl rfl (gRat e (LayR.at hL (i := 66) rfl))
    (r_iconst k_318_92 rfl rfl
    (r_iald k_318_93 rfl rfl (by decide)
    (r_callI (q_virt (rest := [.int x2, .ref 75]) (as := [.int (gI σ 65 0)]) k_318_94 po_318 rfl rfl rfl (rcvO rfl rfl rfl) rfl rfl) (lvq (j := 0) rfl (by decide +kernel)) rfl rfl (fun r1 σ1 h1 => r_gd fun g => r_iast k_318_97 rfl rfl g
    (r_retV k_318_98 rfl))))))))))))))
    (r_aload_n k_318_70 rfl rfl
    (r_getR k_318_71 rfl po_318 rfl rfl rfl rfl (gRat e (LayR.at hL (i := 77) rfl))
    (r_iload_n k_318_74 rfl rfl
    (r_iconst k_318_75 rfl rfl
    (r_gd fun g => r_iast k_318_76 rfl rfl g
    (r_iload_n k_318_77 rfl rfl
    (r_iconst k_318_78 rfl rfl
    (r_icmp (tgt := 98) k_318_79 rfl rfl cop_ne
    (r_retV k_318_98 rfl)
    (r_aload_n k_318_82 rfl rfl
    (r_getR k_318_83 rfl po_318 rfl rfl rfl rfl (gRat (eI e) (LayR.at hL (i := 76) rfl))
    (r_iload_n k_318_86 rfl rfl
    (r_aload_n k_318_87 rfl rfl
    (r_aload_n k_318_88 rfl rfl
    (r_getR k_318_89 rfl po_318 rfl rfl rfl rfl (gRat (eI e) (LayR.at hL (i := 66) rfl))
    (r_iconst k_318_92 rfl rfl
    (r_iald k_318_93 rfl rfl (by decide)
    (r_callI (q_virt (rest := [.int x2, .ref 75]) (as := [.int (gI (sI σ 76 (ix x2) (ι 0)) 65 0)]) k_318_94 po_318 rfl rfl rfl (rcvO rfl rfl rfl) rfl rfl) (lvq (j := 0) rfl (by decide +kernel)) rfl rfl (fun r2 σ2 h2 => r_gd fun g => r_iast k_318_97 rfl rfl g
    (r_retV k_318_98 rfl)))))))))))))))))))))
theorem M_318   {σ : pS} {ρ : Nat → Nat → Option Nat} (e : gR σ = ρ) (hL : LayR ρ) : Le
  (bI (pcall 319 [.ref 61, .int (ι 6)] σ) fun r1 σ1 => if (ι 2) < r1 then some (0, .null, σ1) else if ¬ (gI σ1 65 1) = (ι 0) then bI (pcall 319 [.ref 61, .int (gI σ1 65 1)] σ1) fun r2 σ2 => if ¬ r1 = (ι 0) then C_318_65 r1 r2 (.retAddr 0) σ2 else bI (pcall 319 [.ref 61, .int (gI σ2 65 0)] σ2) fun r3 σ3 => bI (pcall 319 [.ref 61, .int (ι 10)] σ3) fun r4 σ4 => gd (inb (((ι 12) * r3) + r2) 96) (C_318_65 r1 r2 (.int r3) (sI σ4 77 (ix (((ι 12) * r3) + r2)) r4)) else some (0, .null, σ1))
  (pcall 318 [.ref 61] σ) := by
  show Le _ (den 318 0 0 [.ref 61, .retAddr 0, .retAddr 0, .retAddr 0] [] σ)
  exact r_aload_n k_318_0 rfl rfl
    (r_bipush k_318_1 rfl rfl
    (r_callI (q_virt (rest := []) (as := [.int (ι 6)]) k_318_3 po_318 rfl rfl rfl (rcvO rfl rfl rfl) rfl rfl) (lvq (j := 0) rfl (by decide +kernel)) rfl rfl (fun r1 σ1 h1 => r_istore_n k_318_6 rfl rfl rfl
    (r_iload_n k_318_7 rfl rfl
    (r_iconst k_318_8 rfl rfl
    (r_icmp (tgt := 21) k_318_9 rfl rfl cop_gt
    (r_retV k_318_21 rfl)
    (r_aload_n k_318_12 rfl rfl
    (r_getR k_318_13 rfl po_318 rfl rfl rfl rfl (gRat (eC rfl h1 e) (LayR.at hL (i := 66) rfl))
    (r_iconst k_318_16 rfl rfl
    (r_iald k_318_17 rfl rfl (by decide)
    (r_if (tgt := 22) k_318_18 rfl rfl cop_ne
    (r_aload_n k_318_22 rfl rfl
    (r_aload_n k_318_23 rfl rfl
    (r_getR k_318_24 rfl po_318 rfl rfl rfl rfl (gRat (eC rfl h1 e) (LayR.at hL (i := 66) rfl))
    (r_iconst k_318_27 rfl rfl
    (r_iald k_318_28 rfl rfl (by decide)
    (r_callI (q_virt (rest := []) (as := [.int (gI σ1 65 1)]) k_318_29 po_318 rfl rfl rfl (rcvO rfl rfl rfl) rfl rfl) (lvq (j := 0) rfl (by decide +kernel)) rfl rfl (fun r2 σ2 h2 => r_istore_n k_318_32 rfl rfl rfl
    (r_iload_n k_318_33 rfl rfl
    (r_if (tgt := 65) k_318_34 rfl rfl cop_ne
    (Le.rfl')
    (r_aload_n k_318_37 rfl rfl
    (r_aload_n k_318_38 rfl rfl
    (r_getR k_318_39 rfl po_318 rfl rfl rfl rfl (gRat (eC rfl h2 (eC rfl h1 e)) (LayR.at hL (i := 66) rfl))
    (r_iconst k_318_42 rfl rfl
    (r_iald k_318_43 rfl rfl (by decide)
    (r_callI (q_virt (rest := []) (as := [.int (gI σ2 65 0)]) k_318_44 po_318 rfl rfl rfl (rcvO rfl rfl rfl) rfl rfl) (lvq (j := 0) rfl (by decide +kernel)) rfl rfl (fun r3 σ3 h3 => r_istore_n k_318_47 rfl rfl rfl
    (r_aload_n k_318_48 rfl rfl
    (r_getR k_318_49 rfl po_318 rfl rfl rfl rfl (gRat (eC rfl h3 (eC rfl h2 (eC rfl h1 e))) (LayR.at hL (i := 78) rfl))
    (r_bipush k_318_52 rfl rfl
    (r_iload_n k_318_54 rfl rfl
    (r_imul k_318_55 rfl
    (r_iload_n k_318_56 rfl rfl
    (r_iadd k_318_57 rfl
    (r_aload_n k_318_58 rfl rfl
    (r_bipush k_318_59 rfl rfl
    (r_callI (q_virt (rest := [.int (((ι 12) * r3) + r2), .ref 77]) (as := [.int (ι 10)]) k_318_61 po_318 rfl rfl rfl (rcvO rfl rfl rfl) rfl rfl) (lvq (j := 0) rfl (by decide +kernel)) rfl rfl (fun r4 σ4 h4 => r_gd fun g => r_iast k_318_64 rfl rfl g
    (Le.rfl'))))))))))))))))))))))))))))
    (r_retV k_318_21 rfl))))))))))))
/-! ===== 319 HedgeWantsModel.drawOf ===== -/
theorem k_319_0 : cd 319 0 = some (.aload_n 0, 1) := by decide +kernel
theorem k_319_1 : cd 319 1 = some (.aload_n 0, 1) := by decide +kernel
theorem k_319_2 : cd 319 2 = some (.getfield 484, 3) := by decide +kernel
theorem k_319_5 : cd 319 5 = some (.ldc_w 487, 3) := by decide +kernel
theorem k_319_8 : cd 319 8 = some (.imul, 1) := by decide +kernel
theorem k_319_9 : cd 319 9 = some (.sipush 12345, 3) := by decide +kernel
theorem k_319_12 : cd 319 12 = some (.iadd, 1) := by decide +kernel
theorem k_319_13 : cd 319 13 = some (.putfield 484, 3) := by decide +kernel
theorem k_319_16 : cd 319 16 = some (.aload_n 0, 1) := by decide +kernel
theorem k_319_17 : cd 319 17 = some (.getfield 484, 3) := by decide +kernel
theorem k_319_20 : cd 319 20 = some (.bipush 16, 2) := by decide +kernel
theorem k_319_22 : cd 319 22 = some (.ishr, 1) := by decide +kernel
theorem k_319_23 : cd 319 23 = some (.sipush 32767, 3) := by decide +kernel
theorem k_319_26 : cd 319 26 = some (.iand, 1) := by decide +kernel
theorem k_319_27 : cd 319 27 = some (.iload_n 1, 1) := by decide +kernel
theorem k_319_28 : cd 319 28 = some (.irem, 1) := by decide +kernel
theorem k_319_29 : cd 319 29 = some (.ireturn, 1) := by decide +kernel
theorem po_319 : po 319 = 9 := rfl
theorem M_319  {x0 : Int32} {σ : pS} {ρ : Nat → Nat → Option Nat} (e : gR σ = ρ) (hL : LayR ρ) : Le
  (gd (¬ x0 = ι 0) (some (1, .int (irem' ((shr' (gI (sI σ 61 49 (((gI σ 61 49) * (ι 1103515245)) + (ι 12345))) 61 49) (ι 16)) &&& (ι 32767)) x0), (sI σ 61 49 (((gI σ 61 49) * (ι 1103515245)) + (ι 12345))))))
  (pcall 319 [.ref 61, .int x0] σ) := by
  show Le _ (den 319 0 0 [.ref 61, .int x0] [] σ)
  exact r_aload_n k_319_0 rfl rfl
    (r_aload_n k_319_1 rfl rfl
    (r_getI k_319_2 rfl po_319 rfl rfl rfl rfl
    (r_ldcwI k_319_5 rfl po_319 rfl rfl
    (r_imul k_319_8 rfl
    (r_sipush k_319_9 rfl rfl
    (r_iadd k_319_12 rfl
    (r_putI k_319_13 rfl po_319 rfl rfl rfl
    (r_aload_n k_319_16 rfl rfl
    (r_getI k_319_17 rfl po_319 rfl rfl rfl rfl
    (r_bipush k_319_20 rfl rfl
    (r_ishr k_319_22 rfl
    (r_sipush k_319_23 rfl rfl
    (r_iand k_319_26 rfl
    (r_iload_n k_319_27 rfl rfl
    (r_gd fun g => r_irem k_319_28 rfl g
    (r_ret k_319_29 rfl rfl))))))))))))))))
/-! ===== 320 HedgeWantsModel.image ===== -/
theorem k_320_0 : cd 320 0 = some (.aload_n 0, 1) := by decide +kernel
theorem k_320_1 : cd 320 1 = some (.iconst 0, 1) := by decide +kernel
theorem k_320_2 : cd 320 2 = some (.putfield 145, 3) := by decide +kernel
theorem k_320_5 : cd 320 5 = some (.aload_n 0, 1) := by decide +kernel
theorem k_320_6 : cd 320 6 = some (.iconst 1, 1) := by decide +kernel
theorem k_320_7 : cd 320 7 = some (.putfield 312, 3) := by decide +kernel
theorem k_320_10 : cd 320 10 = some (.aload_n 0, 1) := by decide +kernel
theorem k_320_11 : cd 320 11 = some (.aload_n 0, 1) := by decide +kernel
theorem k_320_12 : cd 320 12 = some (.getfield 306, 3) := by decide +kernel
theorem k_320_15 : cd 320 15 = some (.putfield 494, 3) := by decide +kernel
theorem k_320_18 : cd 320 18 = some (.aload_n 0, 1) := by decide +kernel
theorem k_320_19 : cd 320 19 = some (.aload_n 0, 1) := by decide +kernel
theorem k_320_20 : cd 320 20 = some (.getfield 309, 3) := by decide +kernel
theorem k_320_23 : cd 320 23 = some (.putfield 497, 3) := by decide +kernel
theorem k_320_26 : cd 320 26 = some (.aload_n 0, 1) := by decide +kernel
theorem k_320_27 : cd 320 27 = some (.aload_n 0, 1) := by decide +kernel
theorem k_320_28 : cd 320 28 = some (.getfield 127, 3) := by decide +kernel
theorem k_320_31 : cd 320 31 = some (.iconst 0, 1) := by decide +kernel
theorem k_320_32 : cd 320 32 = some (.invokevirtual 402, 3) := by decide +kernel
theorem k_320_35 : cd 320 35 = some (.aload_n 0, 1) := by decide +kernel
theorem k_320_36 : cd 320 36 = some (.getfield 130, 3) := by decide +kernel
theorem k_320_39 : cd 320 39 = some (.aload_n 0, 1) := by decide +kernel
theorem k_320_40 : cd 320 40 = some (.getfield 87, 3) := by decide +kernel
theorem k_320_43 : cd 320 43 = some (.invokestatic 500, 3) := by decide +kernel
theorem k_320_46 : cd 320 46 = some (.aload_n 0, 1) := by decide +kernel
theorem k_320_47 : cd 320 47 = some (.getfield 133, 3) := by decide +kernel
theorem k_320_50 : cd 320 50 = some (.aload_n 0, 1) := by decide +kernel
theorem k_320_51 : cd 320 51 = some (.getfield 106, 3) := by decide +kernel
theorem k_320_54 : cd 320 54 = some (.invokestatic 500, 3) := by decide +kernel
theorem k_320_57 : cd 320 57 = some (.aload_n 0, 1) := by decide +kernel
theorem k_320_58 : cd 320 58 = some (.getfield 136, 3) := by decide +kernel
theorem k_320_61 : cd 320 61 = some (.aload_n 0, 1) := by decide +kernel
theorem k_320_62 : cd 320 62 = some (.getfield 109, 3) := by decide +kernel
theorem k_320_65 : cd 320 65 = some (.invokestatic 500, 3) := by decide +kernel
theorem k_320_68 : cd 320 68 = some (.aload_n 0, 1) := by decide +kernel
theorem k_320_69 : cd 320 69 = some (.getfield 139, 3) := by decide +kernel
theorem k_320_72 : cd 320 72 = some (.aload_n 0, 1) := by decide +kernel
theorem k_320_73 : cd 320 73 = some (.getfield 112, 3) := by decide +kernel
theorem k_320_76 : cd 320 76 = some (.invokestatic 500, 3) := by decide +kernel
theorem k_320_79 : cd 320 79 = some (.aload_n 0, 1) := by decide +kernel
theorem k_320_80 : cd 320 80 = some (.getfield 142, 3) := by decide +kernel
theorem k_320_83 : cd 320 83 = some (.aload_n 0, 1) := by decide +kernel
theorem k_320_84 : cd 320 84 = some (.getfield 67, 3) := by decide +kernel
theorem k_320_87 : cd 320 87 = some (.invokestatic 500, 3) := by decide +kernel
theorem k_320_90 : cd 320 90 = some (.return_, 1) := by decide +kernel
theorem po_320 : po 320 = 9 := rfl
theorem M_320   {σ : pS} {ρ : Nat → Nat → Option Nat} (e : gR σ = ρ) (hL : LayR ρ) : Le
  (bV (pcall 271 [.ref 61, .ref 92, .int (ι 0)] (sI (sI (sI (sI σ 61 4 (ι 0)) 61 50 (ι 1)) 61 51 (gI (sI (sI σ 61 4 (ι 0)) 61 50 (ι 1)) 61 32)) 61 52 (gI (sI (sI (sI σ 61 4 (ι 0)) 61 50 (ι 1)) 61 51 (gI (sI (sI σ 61 4 (ι 0)) 61 50 (ι 1)) 61 32)) 61 33))) fun σ1 => bV (pcall 321 [.ref 93, .ref 79] σ1) fun σ2 => bV (pcall 321 [.ref 94, .ref 85] σ2) fun σ3 => bV (pcall 321 [.ref 95, .ref 86] σ3) fun σ4 => bV (pcall 321 [.ref 96, .ref 87] σ4) fun σ5 => bV (pcall 321 [.ref 97, .ref 73] σ5) fun σ6 => some (0, .null, σ6))
  (pcall 320 [.ref 61] σ) := by
  show Le _ (den 320 0 0 [.ref 61] [] σ)
  exact r_aload_n k_320_0 rfl rfl
    (r_iconst k_320_1 rfl rfl
    (r_putI k_320_2 rfl po_320 rfl rfl rfl
    (r_aload_n k_320_5 rfl rfl
    (r_iconst k_320_6 rfl rfl
    (r_putZ k_320_7 rfl po_320 rfl rfl rfl (by decide)
    (r_aload_n k_320_10 rfl rfl
    (r_aload_n k_320_11 rfl rfl
    (r_getI k_320_12 rfl po_320 rfl rfl rfl rfl
    (r_putI k_320_15 rfl po_320 rfl rfl rfl
    (r_aload_n k_320_18 rfl rfl
    (r_aload_n k_320_19 rfl rfl
    (r_getI k_320_20 rfl po_320 rfl rfl rfl rfl
    (r_putI k_320_23 rfl po_320 rfl rfl rfl
    (r_aload_n k_320_26 rfl rfl
    (r_aload_n k_320_27 rfl rfl
    (r_getR k_320_28 rfl po_320 rfl rfl rfl rfl (gRat (eI (eI (eI (eI e)))) (LayR.at hL (i := 93) rfl))
    (r_iconst k_320_31 rfl rfl
    (r_callV (q_virt (rest := []) (as := [.ref 92, .int (ι 0)]) k_320_32 po_320 rfl rfl rfl (rcvO rfl rfl rfl) rfl rfl) (lvq (j := 0) rfl (by decide +kernel)) rfl rfl (fun _ σ1 h1 => r_aload_n k_320_35 rfl rfl
    (r_getR k_320_36 rfl po_320 rfl rfl rfl rfl (gRat (eC rfl h1 (eI (eI (eI (eI e))))) (LayR.at hL (i := 94) rfl))
    (r_aload_n k_320_39 rfl rfl
    (r_getR k_320_40 rfl po_320 rfl rfl rfl rfl (gRat (eC rfl h1 (eI (eI (eI (eI e))))) (LayR.at hL (i := 80) rfl))
    (r_callV (q_stat (rest := []) (av := [.ref 93, .ref 79]) k_320_43 po_320 rfl (by decide) rfl rfl rfl rfl) (lvq (j := 0) rfl (by decide +kernel)) rfl rfl (fun _ σ2 h2 => r_aload_n k_320_46 rfl rfl
    (r_getR k_320_47 rfl po_320 rfl rfl rfl rfl (gRat (eC rfl h2 (eC rfl h1 (eI (eI (eI (eI e)))))) (LayR.at hL (i := 95) rfl))
    (r_aload_n k_320_50 rfl rfl
    (r_getR k_320_51 rfl po_320 rfl rfl rfl rfl (gRat (eC rfl h2 (eC rfl h1 (eI (eI (eI (eI e)))))) (LayR.at hL (i := 86) rfl))
    (r_callV (q_stat (rest := []) (av := [.ref 94, .ref 85]) k_320_54 po_320 rfl (by decide) rfl rfl rfl rfl) (lvq (j := 0) rfl (by decide +kernel)) rfl rfl (fun _ σ3 h3 => r_aload_n k_320_57 rfl rfl
    (r_getR k_320_58 rfl po_320 rfl rfl rfl rfl (gRat (eC rfl h3 (eC rfl h2 (eC rfl h1 (eI (eI (eI (eI e))))))) (LayR.at hL (i := 96) rfl))
    (r_aload_n k_320_61 rfl rfl
    (r_getR k_320_62 rfl po_320 rfl rfl rfl rfl (gRat (eC rfl h3 (eC rfl h2 (eC rfl h1 (eI (eI (eI (eI e))))))) (LayR.at hL (i := 87) rfl))
    (r_callV (q_stat (rest := []) (av := [.ref 95, .ref 86]) k_320_65 po_320 rfl (by decide) rfl rfl rfl rfl) (lvq (j := 0) rfl (by decide +kernel)) rfl rfl (fun _ σ4 h4 => r_aload_n k_320_68 rfl rfl
    (r_getR k_320_69 rfl po_320 rfl rfl rfl rfl (gRat (eC rfl h4 (eC rfl h3 (eC rfl h2 (eC rfl h1 (eI (eI (eI (eI e)))))))) (LayR.at hL (i := 97) rfl))
    (r_aload_n k_320_72 rfl rfl
    (r_getR k_320_73 rfl po_320 rfl rfl rfl rfl (gRat (eC rfl h4 (eC rfl h3 (eC rfl h2 (eC rfl h1 (eI (eI (eI (eI e)))))))) (LayR.at hL (i := 88) rfl))
    (r_callV (q_stat (rest := []) (av := [.ref 96, .ref 87]) k_320_76 po_320 rfl (by decide) rfl rfl rfl rfl) (lvq (j := 0) rfl (by decide +kernel)) rfl rfl (fun _ σ5 h5 => r_aload_n k_320_79 rfl rfl
    (r_getR k_320_80 rfl po_320 rfl rfl rfl rfl (gRat (eC rfl h5 (eC rfl h4 (eC rfl h3 (eC rfl h2 (eC rfl h1 (eI (eI (eI (eI e))))))))) (LayR.at hL (i := 98) rfl))
    (r_aload_n k_320_83 rfl rfl
    (r_getR k_320_84 rfl po_320 rfl rfl rfl rfl (gRat (eC rfl h5 (eC rfl h4 (eC rfl h3 (eC rfl h2 (eC rfl h1 (eI (eI (eI (eI e))))))))) (LayR.at hL (i := 74) rfl))
    (r_callV (q_stat (rest := []) (av := [.ref 97, .ref 73]) k_320_87 po_320 rfl (by decide) rfl rfl rfl rfl) (lvq (j := 0) rfl (by decide +kernel)) rfl rfl (fun _ σ6 h6 => r_retV k_320_90 rfl))))))))))))))))))))))))))))))))))))))))))))
/-! ===== 321 HedgeWantsModel.copyTo ===== -/
theorem k_321_0 : cd 321 0 = some (.iconst 0, 1) := by decide +kernel
theorem k_321_1 : cd 321 1 = some (.istore_n 2, 1) := by decide +kernel
theorem k_321_2 : cd 321 2 = some (.iload_n 2, 1) := by decide +kernel
theorem k_321_3 : cd 321 3 = some (.aload_n 0, 1) := by decide +kernel
theorem k_321_4 : cd 321 4 = some (.arraylength, 1) := by decide +kernel
theorem k_321_5 : cd 321 5 = some (.if_icmp .ge 15, 3) := by decide +kernel
theorem k_321_8 : cd 321 8 = some (.aload_n 0, 1) := by decide +kernel
theorem k_321_9 : cd 321 9 = some (.iload_n 2, 1) := by decide +kernel
theorem k_321_10 : cd 321 10 = some (.aload_n 1, 1) := by decide +kernel
theorem k_321_11 : cd 321 11 = some (.iload_n 2, 1) := by decide +kernel
theorem k_321_12 : cd 321 12 = some (.iaload, 1) := by decide +kernel
theorem k_321_13 : cd 321 13 = some (.iastore, 1) := by decide +kernel
theorem k_321_14 : cd 321 14 = some (.iinc 2 1, 3) := by decide +kernel
theorem k_321_17 : cd 321 17 = some (.goto (-15), 3) := by decide +kernel
theorem k_321_20 : cd 321 20 = some (.return_, 1) := by decide +kernel
theorem po_321 : po 321 = 9 := rfl
noncomputable def C_321_2 (a0 n0 : Nat) (a1 n1 : Nat) (x2 : Int32) (σ : pS) : Option pZ := den 321 0 2 [.ref a0, .ref a1, .int x2] [] σ
theorem T_321_2 {a0 n0 : Nat} (ha0 : kd a0 = (100, n0)) {a1 n1 : Nat} (ha1 : kd a1 = (100, n1)) {x2 : Int32}  {σ : pS} {ρ : Nat → Nat → Option Nat} (e : gR σ = ρ) (hL : LayR ρ) : Le
  (if (ι n0) ≤ x2 then some (0, .null, σ) else gd (inb x2 n1) (gd (inb x2 n0) (C_321_2 a0 n0 a1 n1 (x2 + (ι 1)) (sI σ a0 (ix x2) (gI σ a1 (ix x2))))))
  (C_321_2 a0 n0 a1 n1 x2 σ) := by
  unfold C_321_2
  exact r_iload_n k_321_2 rfl rfl
    (r_aload_n k_321_3 rfl rfl
    (r_alenI k_321_4 rfl ha0 rfl
    (r_icmp (tgt := 20) k_321_5 rfl rfl cop_ge
    (r_retV k_321_20 rfl)
    (r_aload_n k_321_8 rfl rfl
    (r_iload_n k_321_9 rfl rfl
    (r_aload_n k_321_10 rfl rfl
    (r_iload_n k_321_11 rfl rfl
    (r_gd fun g => r_iald k_321_12 rfl ha1 g
    (r_gd fun g => r_iast k_321_13 rfl ha0 g
    (r_iinc k_321_14 rfl rfl rfl rfl
    (r_goto (tgt := 2) k_321_17 rfl (Le.rfl'))))))))))))
theorem M_321 {a0 n0 : Nat} (ha0 : kd a0 = (100, n0)) {a1 n1 : Nat} (ha1 : kd a1 = (100, n1))  {σ : pS} {ρ : Nat → Nat → Option Nat} (e : gR σ = ρ) (hL : LayR ρ) : Le
  (C_321_2 a0 n0 a1 n1 (ι 0) σ)
  (pcall 321 [.ref a0, .ref a1] σ) := by
  show Le _ (den 321 0 0 [.ref a0, .ref a1, .retAddr 0] [] σ)
  exact r_iconst k_321_0 rfl rfl
    (r_istore_n k_321_1 rfl rfl rfl
    (Le.rfl'))
/-! ===== 322 HedgeWantsModel.restore ===== -/
theorem k_322_0 : cd 322 0 = some (.aload_n 0, 1) := by decide +kernel
theorem k_322_1 : cd 322 1 = some (.iconst 0, 1) := by decide +kernel
theorem k_322_2 : cd 322 2 = some (.putfield 145, 3) := by decide +kernel
theorem k_322_5 : cd 322 5 = some (.aload_n 0, 1) := by decide +kernel
theorem k_322_6 : cd 322 6 = some (.getfield 312, 3) := by decide +kernel
theorem k_322_9 : cd 322 9 = some (.ifCond .ne 5, 3) := by decide +kernel
theorem k_322_12 : cd 322 12 = some (.iconst 0, 1) := by decide +kernel
theorem k_322_13 : cd 322 13 = some (.ireturn, 1) := by decide +kernel
theorem k_322_14 : cd 322 14 = some (.aload_n 0, 1) := by decide +kernel
theorem k_322_15 : cd 322 15 = some (.aload_n 0, 1) := by decide +kernel
theorem k_322_16 : cd 322 16 = some (.getfield 494, 3) := by decide +kernel
theorem k_322_19 : cd 322 19 = some (.putfield 306, 3) := by decide +kernel
theorem k_322_22 : cd 322 22 = some (.aload_n 0, 1) := by decide +kernel
theorem k_322_23 : cd 322 23 = some (.aload_n 0, 1) := by decide +kernel
theorem k_322_24 : cd 322 24 = some (.getfield 497, 3) := by decide +kernel
theorem k_322_27 : cd 322 27 = some (.putfield 309, 3) := by decide +kernel
theorem k_322_30 : cd 322 30 = some (.aload_n 0, 1) := by decide +kernel
theorem k_322_31 : cd 322 31 = some (.aload_n 0, 1) := by decide +kernel
theorem k_322_32 : cd 322 32 = some (.getfield 127, 3) := by decide +kernel
theorem k_322_35 : cd 322 35 = some (.iconst 0, 1) := by decide +kernel
theorem k_322_36 : cd 322 36 = some (.invokevirtual 426, 3) := by decide +kernel
theorem k_322_39 : cd 322 39 = some (.aload_n 0, 1) := by decide +kernel
theorem k_322_40 : cd 322 40 = some (.getfield 87, 3) := by decide +kernel
theorem k_322_43 : cd 322 43 = some (.aload_n 0, 1) := by decide +kernel
theorem k_322_44 : cd 322 44 = some (.getfield 130, 3) := by decide +kernel
theorem k_322_47 : cd 322 47 = some (.invokestatic 500, 3) := by decide +kernel
theorem k_322_50 : cd 322 50 = some (.aload_n 0, 1) := by decide +kernel
theorem k_322_51 : cd 322 51 = some (.getfield 106, 3) := by decide +kernel
theorem k_322_54 : cd 322 54 = some (.aload_n 0, 1) := by decide +kernel
theorem k_322_55 : cd 322 55 = some (.getfield 133, 3) := by decide +kernel
theorem k_322_58 : cd 322 58 = some (.invokestatic 500, 3) := by decide +kernel
theorem k_322_61 : cd 322 61 = some (.aload_n 0, 1) := by decide +kernel
theorem k_322_62 : cd 322 62 = some (.getfield 109, 3) := by decide +kernel
theorem k_322_65 : cd 322 65 = some (.aload_n 0, 1) := by decide +kernel
theorem k_322_66 : cd 322 66 = some (.getfield 136, 3) := by decide +kernel
theorem k_322_69 : cd 322 69 = some (.invokestatic 500, 3) := by decide +kernel
theorem k_322_72 : cd 322 72 = some (.aload_n 0, 1) := by decide +kernel
theorem k_322_73 : cd 322 73 = some (.getfield 112, 3) := by decide +kernel
theorem k_322_76 : cd 322 76 = some (.aload_n 0, 1) := by decide +kernel
theorem k_322_77 : cd 322 77 = some (.getfield 139, 3) := by decide +kernel
theorem k_322_80 : cd 322 80 = some (.invokestatic 500, 3) := by decide +kernel
theorem k_322_83 : cd 322 83 = some (.aload_n 0, 1) := by decide +kernel
theorem k_322_84 : cd 322 84 = some (.getfield 67, 3) := by decide +kernel
theorem k_322_87 : cd 322 87 = some (.aload_n 0, 1) := by decide +kernel
theorem k_322_88 : cd 322 88 = some (.getfield 142, 3) := by decide +kernel
theorem k_322_91 : cd 322 91 = some (.invokestatic 500, 3) := by decide +kernel
theorem k_322_94 : cd 322 94 = some (.iconst 1, 1) := by decide +kernel
theorem k_322_95 : cd 322 95 = some (.ireturn, 1) := by decide +kernel
theorem po_322 : po 322 = 9 := rfl
theorem M_322   {σ : pS} {ρ : Nat → Nat → Option Nat} (e : gR σ = ρ) (hL : LayR ρ) : Le
  (if ¬ (gI (sI σ 61 4 (ι 0)) 61 50) = (ι 0) then bV (pcall 284 [.ref 61, .ref 92, .int (ι 0)] (sI (sI (sI σ 61 4 (ι 0)) 61 32 (gI (sI σ 61 4 (ι 0)) 61 51)) 61 33 (gI (sI (sI σ 61 4 (ι 0)) 61 32 (gI (sI σ 61 4 (ι 0)) 61 51)) 61 52))) fun σ1 => bV (pcall 321 [.ref 79, .ref 93] σ1) fun σ2 => bV (pcall 321 [.ref 85, .ref 94] σ2) fun σ3 => bV (pcall 321 [.ref 86, .ref 95] σ3) fun σ4 => bV (pcall 321 [.ref 87, .ref 96] σ4) fun σ5 => bV (pcall 321 [.ref 73, .ref 97] σ5) fun σ6 => some (1, .int (ι 1), σ6) else some (1, .int (ι 0), (sI σ 61 4 (ι 0))))
  (pcall 322 [.ref 61] σ) := by
  show Le _ (den 322 0 0 [.ref 61] [] σ)
  exact r_aload_n k_322_0 rfl rfl
    (r_iconst k_322_1 rfl rfl
    (r_putI k_322_2 rfl po_322 rfl rfl rfl
    (r_aload_n k_322_5 rfl rfl
    (r_getI k_322_6 rfl po_322 rfl rfl rfl rfl
    (r_if (tgt := 14) k_322_9 rfl rfl cop_ne
    (r_aload_n k_322_14 rfl rfl
    (r_aload_n k_322_15 rfl rfl
    (r_getI k_322_16 rfl po_322 rfl rfl rfl rfl
    (r_putI k_322_19 rfl po_322 rfl rfl rfl
    (r_aload_n k_322_22 rfl rfl
    (r_aload_n k_322_23 rfl rfl
    (r_getI k_322_24 rfl po_322 rfl rfl rfl rfl
    (r_putI k_322_27 rfl po_322 rfl rfl rfl
    (r_aload_n k_322_30 rfl rfl
    (r_aload_n k_322_31 rfl rfl
    (r_getR k_322_32 rfl po_322 rfl rfl rfl rfl (gRat (eI (eI (eI e))) (LayR.at hL (i := 93) rfl))
    (r_iconst k_322_35 rfl rfl
    (r_callV (q_virt (rest := []) (as := [.ref 92, .int (ι 0)]) k_322_36 po_322 rfl rfl rfl (rcvO rfl rfl rfl) rfl rfl) (lvq (j := 0) rfl (by decide +kernel)) rfl rfl (fun _ σ1 h1 => r_aload_n k_322_39 rfl rfl
    (r_getR k_322_40 rfl po_322 rfl rfl rfl rfl (gRat (eC rfl h1 (eI (eI (eI e)))) (LayR.at hL (i := 80) rfl))
    (r_aload_n k_322_43 rfl rfl
    (r_getR k_322_44 rfl po_322 rfl rfl rfl rfl (gRat (eC rfl h1 (eI (eI (eI e)))) (LayR.at hL (i := 94) rfl))
    (r_callV (q_stat (rest := []) (av := [.ref 79, .ref 93]) k_322_47 po_322 rfl (by decide) rfl rfl rfl rfl) (lvq (j := 0) rfl (by decide +kernel)) rfl rfl (fun _ σ2 h2 => r_aload_n k_322_50 rfl rfl
    (r_getR k_322_51 rfl po_322 rfl rfl rfl rfl (gRat (eC rfl h2 (eC rfl h1 (eI (eI (eI e))))) (LayR.at hL (i := 86) rfl))
    (r_aload_n k_322_54 rfl rfl
    (r_getR k_322_55 rfl po_322 rfl rfl rfl rfl (gRat (eC rfl h2 (eC rfl h1 (eI (eI (eI e))))) (LayR.at hL (i := 95) rfl))
    (r_callV (q_stat (rest := []) (av := [.ref 85, .ref 94]) k_322_58 po_322 rfl (by decide) rfl rfl rfl rfl) (lvq (j := 0) rfl (by decide +kernel)) rfl rfl (fun _ σ3 h3 => r_aload_n k_322_61 rfl rfl
    (r_getR k_322_62 rfl po_322 rfl rfl rfl rfl (gRat (eC rfl h3 (eC rfl h2 (eC rfl h1 (eI (eI (eI e)))))) (LayR.at hL (i := 87) rfl))
    (r_aload_n k_322_65 rfl rfl
    (r_getR k_322_66 rfl po_322 rfl rfl rfl rfl (gRat (eC rfl h3 (eC rfl h2 (eC rfl h1 (eI (eI (eI e)))))) (LayR.at hL (i := 96) rfl))
    (r_callV (q_stat (rest := []) (av := [.ref 86, .ref 95]) k_322_69 po_322 rfl (by decide) rfl rfl rfl rfl) (lvq (j := 0) rfl (by decide +kernel)) rfl rfl (fun _ σ4 h4 => r_aload_n k_322_72 rfl rfl
    (r_getR k_322_73 rfl po_322 rfl rfl rfl rfl (gRat (eC rfl h4 (eC rfl h3 (eC rfl h2 (eC rfl h1 (eI (eI (eI e))))))) (LayR.at hL (i := 88) rfl))
    (r_aload_n k_322_76 rfl rfl
    (r_getR k_322_77 rfl po_322 rfl rfl rfl rfl (gRat (eC rfl h4 (eC rfl h3 (eC rfl h2 (eC rfl h1 (eI (eI (eI e))))))) (LayR.at hL (i := 97) rfl))
    (r_callV (q_stat (rest := []) (av := [.ref 87, .ref 96]) k_322_80 po_322 rfl (by decide) rfl rfl rfl rfl) (lvq (j := 0) rfl (by decide +kernel)) rfl rfl (fun _ σ5 h5 => r_aload_n k_322_83 rfl rfl
    (r_getR k_322_84 rfl po_322 rfl rfl rfl rfl (gRat (eC rfl h5 (eC rfl h4 (eC rfl h3 (eC rfl h2 (eC rfl h1 (eI (eI (eI e)))))))) (LayR.at hL (i := 74) rfl))
    (r_aload_n k_322_87 rfl rfl
    (r_getR k_322_88 rfl po_322 rfl rfl rfl rfl (gRat (eC rfl h5 (eC rfl h4 (eC rfl h3 (eC rfl h2 (eC rfl h1 (eI (eI (eI e)))))))) (LayR.at hL (i := 98) rfl))
    (r_callV (q_stat (rest := []) (av := [.ref 73, .ref 97]) k_322_91 po_322 rfl (by decide) rfl rfl rfl rfl) (lvq (j := 0) rfl (by decide +kernel)) rfl rfl (fun _ σ6 h6 => r_iconst k_322_94 rfl rfl
    (r_ret k_322_95 rfl rfl))))))))))))))))))))))))))))))))))))))))
    (r_iconst k_322_12 rfl rfl
    (r_ret k_322_13 rfl rfl)))))))
end TREES
