section TREES
/-! ===== 208 HedgeWantsModel.thrown ===== -/
theorem k_208_0 : cd 208 0 = some (.aload_n 0, 1) := by decide +kernel
theorem k_208_1 : cd 208 1 = some (.getfield 145, 3) := by decide +kernel
theorem k_208_4 : cd 208 4 = some (.ireturn, 1) := by decide +kernel
theorem po_208 : po 208 = 9 := rfl
theorem M_208   {σ : pS} {ρ : Nat → Nat → Option Nat} (e : gR σ = ρ) (hL : LayR ρ) : Le
  (some (1, .int (gI σ 61 4), σ))
  (pcall 208 [.ref 61] σ) := by
  show Le _ (den 208 0 0 [.ref 61] [] σ)
  exact r_aload_n k_208_0 rfl rfl
    (r_getI k_208_1 rfl po_208 rfl rfl rfl rfl
    (r_ret k_208_4 rfl rfl))
/-! ===== 209 HedgeWantsModel.feed ===== -/
theorem k_209_0 : cd 209 0 = some (.aload_n 0, 1) := by decide +kernel
theorem k_209_1 : cd 209 1 = some (.iconst 0, 1) := by decide +kernel
theorem k_209_2 : cd 209 2 = some (.putfield 145, 3) := by decide +kernel
theorem k_209_5 : cd 209 5 = some (.aload_n 0, 1) := by decide +kernel
theorem k_209_6 : cd 209 6 = some (.getfield 152, 3) := by decide +kernel
theorem k_209_9 : cd 209 9 = some (.bipush 20, 2) := by decide +kernel
theorem k_209_11 : cd 209 11 = some (.iadd, 1) := by decide +kernel
theorem k_209_12 : cd 209 12 = some (.sipush 700, 3) := by decide +kernel
theorem k_209_15 : cd 209 15 = some (.if_icmp .le 5, 3) := by decide +kernel
theorem k_209_18 : cd 209 18 = some (.iconst (-1), 1) := by decide +kernel
theorem k_209_19 : cd 209 19 = some (.ireturn, 1) := by decide +kernel
theorem k_209_20 : cd 209 20 = some (.iconst 0, 1) := by decide +kernel
theorem k_209_21 : cd 209 21 = some (.istore 6, 2) := by decide +kernel
theorem k_209_23 : cd 209 23 = some (.iload 6, 2) := by decide +kernel
theorem k_209_25 : cd 209 25 = some (.bipush 20, 2) := by decide +kernel
theorem k_209_27 : cd 209 27 = some (.if_icmp .ge 93, 3) := by decide +kernel
theorem k_209_30 : cd 209 30 = some (.iload 6, 2) := by decide +kernel
theorem k_209_32 : cd 209 32 = some (.iconst 4, 1) := by decide +kernel
theorem k_209_33 : cd 209 33 = some (.if_icmp .ge 7, 3) := by decide +kernel
theorem k_209_36 : cd 209 36 = some (.iload_n 1, 1) := by decide +kernel
theorem k_209_37 : cd 209 37 = some (.goto 39, 3) := by decide +kernel
theorem k_209_40 : cd 209 40 = some (.iload 6, 2) := by decide +kernel
theorem k_209_42 : cd 209 42 = some (.bipush 8, 2) := by decide +kernel
theorem k_209_44 : cd 209 44 = some (.if_icmp .ge 7, 3) := by decide +kernel
theorem k_209_47 : cd 209 47 = some (.iload_n 2, 1) := by decide +kernel
theorem k_209_48 : cd 209 48 = some (.goto 28, 3) := by decide +kernel
theorem k_209_51 : cd 209 51 = some (.iload 6, 2) := by decide +kernel
theorem k_209_53 : cd 209 53 = some (.bipush 12, 2) := by decide +kernel
theorem k_209_55 : cd 209 55 = some (.if_icmp .ge 7, 3) := by decide +kernel
theorem k_209_58 : cd 209 58 = some (.iload_n 3, 1) := by decide +kernel
theorem k_209_59 : cd 209 59 = some (.goto 17, 3) := by decide +kernel
theorem k_209_62 : cd 209 62 = some (.iload 6, 2) := by decide +kernel
theorem k_209_64 : cd 209 64 = some (.bipush 16, 2) := by decide +kernel
theorem k_209_66 : cd 209 66 = some (.if_icmp .ge 8, 3) := by decide +kernel
theorem k_209_69 : cd 209 69 = some (.iload 4, 2) := by decide +kernel
theorem k_209_71 : cd 209 71 = some (.goto 5, 3) := by decide +kernel
theorem k_209_74 : cd 209 74 = some (.iload 5, 2) := by decide +kernel
theorem k_209_76 : cd 209 76 = some (.istore 7, 2) := by decide +kernel
theorem k_209_78 : cd 209 78 = some (.aload_n 0, 1) := by decide +kernel
theorem k_209_79 : cd 209 79 = some (.getfield 70, 3) := by decide +kernel
theorem k_209_82 : cd 209 82 = some (.aload_n 0, 1) := by decide +kernel
theorem k_209_83 : cd 209 83 = some (.getfield 152, 3) := by decide +kernel
theorem k_209_86 : cd 209 86 = some (.iload 7, 2) := by decide +kernel
theorem k_209_88 : cd 209 88 = some (.bipush 24, 2) := by decide +kernel
theorem k_209_90 : cd 209 90 = some (.bipush 8, 2) := by decide +kernel
theorem k_209_92 : cd 209 92 = some (.iload 6, 2) := by decide +kernel
theorem k_209_94 : cd 209 94 = some (.iconst 4, 1) := by decide +kernel
theorem k_209_95 : cd 209 95 = some (.irem, 1) := by decide +kernel
theorem k_209_96 : cd 209 96 = some (.imul, 1) := by decide +kernel
theorem k_209_97 : cd 209 97 = some (.isub, 1) := by decide +kernel
theorem k_209_98 : cd 209 98 = some (.ishr, 1) := by decide +kernel
theorem k_209_99 : cd 209 99 = some (.sipush 255, 3) := by decide +kernel
theorem k_209_102 : cd 209 102 = some (.iand, 1) := by decide +kernel
theorem k_209_103 : cd 209 103 = some (.iastore, 1) := by decide +kernel
theorem k_209_104 : cd 209 104 = some (.aload_n 0, 1) := by decide +kernel
theorem k_209_105 : cd 209 105 = some (.dup, 1) := by decide +kernel
theorem k_209_106 : cd 209 106 = some (.getfield 152, 3) := by decide +kernel
theorem k_209_109 : cd 209 109 = some (.iconst 1, 1) := by decide +kernel
theorem k_209_110 : cd 209 110 = some (.iadd, 1) := by decide +kernel
theorem k_209_111 : cd 209 111 = some (.putfield 152, 3) := by decide +kernel
theorem k_209_114 : cd 209 114 = some (.iinc 6 1, 3) := by decide +kernel
theorem k_209_117 : cd 209 117 = some (.goto (-94), 3) := by decide +kernel
theorem k_209_120 : cd 209 120 = some (.aload_n 0, 1) := by decide +kernel
theorem k_209_121 : cd 209 121 = some (.getfield 152, 3) := by decide +kernel
theorem k_209_124 : cd 209 124 = some (.ireturn, 1) := by decide +kernel
theorem po_209 : po 209 = 9 := rfl
noncomputable def C_209_23  (x1 : Int32) (x2 : Int32) (x3 : Int32) (x4 : Int32) (x5 : Int32) (x6 : Int32) (v7 : Value) (σ : pS) : Option pZ := den 209 0 23 [.ref 61, .int x1, .int x2, .int x3, .int x4, .int x5, .int x6, v7] [] σ
noncomputable def C_209_76  (x1 : Int32) (x2 : Int32) (x3 : Int32) (x4 : Int32) (x5 : Int32) (x6 : Int32) (v7 : Value) (s0 : Int32) (σ : pS) : Option pZ := den 209 0 76 [.ref 61, .int x1, .int x2, .int x3, .int x4, .int x5, .int x6, v7] [.int s0] σ
theorem T_209_23  {x1 : Int32} {x2 : Int32} {x3 : Int32} {x4 : Int32} {x5 : Int32} {x6 : Int32} {v7 : Value}  {σ : pS} {ρ : Nat → Nat → Option Nat} (e : gR σ = ρ) (hL : LayR ρ) : Le
  (if (ι 20) ≤ x6 then some (1, .int (gI σ 61 15), σ) else if (ι 4) ≤ x6 then if (ι 8) ≤ x6 then if (ι 12) ≤ x6 then if (ι 16) ≤ x6 then C_209_76 x1 x2 x3 x4 x5 x6 v7 x5 σ else C_209_76 x1 x2 x3 x4 x5 x6 v7 x4 σ else C_209_76 x1 x2 x3 x4 x5 x6 v7 x3 σ else C_209_76 x1 x2 x3 x4 x5 x6 v7 x2 σ else C_209_76 x1 x2 x3 x4 x5 x6 v7 x1 σ)
  (C_209_23  x1 x2 x3 x4 x5 x6 v7 σ) := by
  unfold C_209_23
  exact r_iload k_209_23 rfl rfl
    (r_bipush k_209_25 rfl rfl
    (r_icmp (tgt := 120) k_209_27 rfl rfl cop_ge
    (r_aload_n k_209_120 rfl rfl
    (r_getI k_209_121 rfl po_209 rfl rfl rfl rfl
    (r_ret k_209_124 rfl rfl)))
    (r_iload k_209_30 rfl rfl
    (r_iconst k_209_32 rfl rfl
    (r_icmp (tgt := 40) k_209_33 rfl rfl cop_ge
    (r_iload k_209_40 rfl rfl
    (r_bipush k_209_42 rfl rfl
    (r_icmp (tgt := 51) k_209_44 rfl rfl cop_ge
    (r_iload k_209_51 rfl rfl
    (r_bipush k_209_53 rfl rfl
    (r_icmp (tgt := 62) k_209_55 rfl rfl cop_ge
    (r_iload k_209_62 rfl rfl
    (r_bipush k_209_64 rfl rfl
    (r_icmp (tgt := 74) k_209_66 rfl rfl cop_ge
    (r_iload k_209_74 rfl rfl
    (Le.rfl'))
    (r_iload k_209_69 rfl rfl
    (r_goto (tgt := 76) k_209_71 rfl (Le.rfl'))))))
    (r_iload_n k_209_58 rfl rfl
    (r_goto (tgt := 76) k_209_59 rfl (Le.rfl'))))))
    (r_iload_n k_209_47 rfl rfl
    (r_goto (tgt := 76) k_209_48 rfl (Le.rfl'))))))
    (r_iload_n k_209_36 rfl rfl
    (r_goto (tgt := 76) k_209_37 rfl (Le.rfl'))))))))
theorem T_209_76  {x1 : Int32} {x2 : Int32} {x3 : Int32} {x4 : Int32} {x5 : Int32} {x6 : Int32} {v7 : Value} {s0 : Int32}  {σ : pS} {ρ : Nat → Nat → Option Nat} (e : gR σ = ρ) (hL : LayR ρ) : Le
  (gd (inb (gI σ 61 15) 700) (C_209_23 x1 x2 x3 x4 x5 (x6 + (ι 1)) (.int s0) (sI (sI σ 74 (ix (gI σ 61 15)) ((shr' s0 ((ι 24) - ((ι 8) * (irem' x6 (ι 4))))) &&& (ι 255))) 61 15 ((gI (sI σ 74 (ix (gI σ 61 15)) ((shr' s0 ((ι 24) - ((ι 8) * (irem' x6 (ι 4))))) &&& (ι 255))) 61 15) + (ι 1)))))
  (C_209_76  x1 x2 x3 x4 x5 x6 v7 s0 σ) := by
  unfold C_209_76
  exact r_istore k_209_76 rfl rfl rfl
    (r_aload_n k_209_78 rfl rfl
    (r_getR k_209_79 rfl po_209 rfl rfl rfl rfl (gRat e (LayR.at hL (i := 75) rfl))
    (r_aload_n k_209_82 rfl rfl
    (r_getI k_209_83 rfl po_209 rfl rfl rfl rfl
    (r_iload k_209_86 rfl rfl
    (r_bipush k_209_88 rfl rfl
    (r_bipush k_209_90 rfl rfl
    (r_iload k_209_92 rfl rfl
    (r_iconst k_209_94 rfl rfl
    (r_irem k_209_95 rfl (by decide)
    (r_imul k_209_96 rfl
    (r_isub k_209_97 rfl
    (r_ishr k_209_98 rfl
    (r_sipush k_209_99 rfl rfl
    (r_iand k_209_102 rfl
    (r_gd fun g => r_iast k_209_103 rfl rfl g
    (r_aload_n k_209_104 rfl rfl
    (r_dup k_209_105 rfl rfl
    (r_getI k_209_106 rfl po_209 rfl rfl rfl rfl
    (r_iconst k_209_109 rfl rfl
    (r_iadd k_209_110 rfl
    (r_putI k_209_111 rfl po_209 rfl rfl rfl
    (r_iinc k_209_114 rfl rfl rfl rfl
    (r_goto (tgt := 23) k_209_117 rfl (Le.rfl')))))))))))))))))))))))))
theorem M_209  {x0 : Int32} {x1 : Int32} {x2 : Int32} {x3 : Int32} {x4 : Int32} {σ : pS} {ρ : Nat → Nat → Option Nat} (e : gR σ = ρ) (hL : LayR ρ) : Le
  (if ((gI (sI σ 61 4 (ι 0)) 61 15) + (ι 20)) ≤ (ι 700) then C_209_23 x0 x1 x2 x3 x4 (ι 0) (.retAddr 0) (sI σ 61 4 (ι 0)) else some (1, .int (ν 1), (sI σ 61 4 (ι 0))))
  (pcall 209 [.ref 61, .int x0, .int x1, .int x2, .int x3, .int x4] σ) := by
  show Le _ (den 209 0 0 [.ref 61, .int x0, .int x1, .int x2, .int x3, .int x4, .retAddr 0, .retAddr 0] [] σ)
  exact r_aload_n k_209_0 rfl rfl
    (r_iconst k_209_1 rfl rfl
    (r_putI k_209_2 rfl po_209 rfl rfl rfl
    (r_aload_n k_209_5 rfl rfl
    (r_getI k_209_6 rfl po_209 rfl rfl rfl rfl
    (r_bipush k_209_9 rfl rfl
    (r_iadd k_209_11 rfl
    (r_sipush k_209_12 rfl rfl
    (r_icmp (tgt := 20) k_209_15 rfl rfl cop_le
    (r_iconst k_209_20 rfl rfl
    (r_istore k_209_21 rfl rfl rfl
    (Le.rfl')))
    (r_iconst k_209_18 rfl rfl
    (r_ret k_209_19 rfl rfl))))))))))
/-! ===== 210 HedgeWantsModel.province ===== -/
theorem k_210_0 : cd 210 0 = some (.aload_n 0, 1) := by decide +kernel
theorem k_210_1 : cd 210 1 = some (.iconst 0, 1) := by decide +kernel
theorem k_210_2 : cd 210 2 = some (.putfield 145, 3) := by decide +kernel
theorem k_210_5 : cd 210 5 = some (.iload_n 1, 1) := by decide +kernel
theorem k_210_6 : cd 210 6 = some (.ifCond .lt 11, 3) := by decide +kernel
theorem k_210_9 : cd 210 9 = some (.iload_n 1, 1) := by decide +kernel
theorem k_210_10 : cd 210 10 = some (.aload_n 0, 1) := by decide +kernel
theorem k_210_11 : cd 210 11 = some (.getfield 152, 3) := by decide +kernel
theorem k_210_14 : cd 210 14 = some (.if_icmp .le 9, 3) := by decide +kernel
theorem k_210_17 : cd 210 17 = some (.aload_n 0, 1) := by decide +kernel
theorem k_210_18 : cd 210 18 = some (.iconst 1, 1) := by decide +kernel
theorem k_210_19 : cd 210 19 = some (.invokevirtual 290, 3) := by decide +kernel
theorem k_210_22 : cd 210 22 = some (.ireturn, 1) := by decide +kernel
theorem k_210_23 : cd 210 23 = some (.aload_n 0, 1) := by decide +kernel
theorem k_210_24 : cd 210 24 = some (.iconst 0, 1) := by decide +kernel
theorem k_210_25 : cd 210 25 = some (.putfield 152, 3) := by decide +kernel
theorem k_210_28 : cd 210 28 = some (.aload_n 0, 1) := by decide +kernel
theorem k_210_29 : cd 210 29 = some (.iload_n 1, 1) := by decide +kernel
theorem k_210_30 : cd 210 30 = some (.putfield 155, 3) := by decide +kernel
theorem k_210_33 : cd 210 33 = some (.aload_n 0, 1) := by decide +kernel
theorem k_210_34 : cd 210 34 = some (.iconst 0, 1) := by decide +kernel
theorem k_210_35 : cd 210 35 = some (.putfield 158, 3) := by decide +kernel
theorem k_210_38 : cd 210 38 = some (.aload_n 0, 1) := by decide +kernel
theorem k_210_39 : cd 210 39 = some (.iconst 0, 1) := by decide +kernel
theorem k_210_40 : cd 210 40 = some (.putfield 194, 3) := by decide +kernel
theorem k_210_43 : cd 210 43 = some (.aload_n 0, 1) := by decide +kernel
theorem k_210_44 : cd 210 44 = some (.iconst (-1), 1) := by decide +kernel
theorem k_210_45 : cd 210 45 = some (.putfield 73, 3) := by decide +kernel
theorem k_210_48 : cd 210 48 = some (.iconst 0, 1) := by decide +kernel
theorem k_210_49 : cd 210 49 = some (.istore_n 2, 1) := by decide +kernel
theorem k_210_50 : cd 210 50 = some (.iload_n 2, 1) := by decide +kernel
theorem k_210_51 : cd 210 51 = some (.iconst 5, 1) := by decide +kernel
theorem k_210_52 : cd 210 52 = some (.if_icmp .ge 18, 3) := by decide +kernel
theorem k_210_55 : cd 210 55 = some (.aload_n 0, 1) := by decide +kernel
theorem k_210_56 : cd 210 56 = some (.getfield 44, 3) := by decide +kernel
theorem k_210_59 : cd 210 59 = some (.iconst 5, 1) := by decide +kernel
theorem k_210_60 : cd 210 60 = some (.iload_n 2, 1) := by decide +kernel
theorem k_210_61 : cd 210 61 = some (.iadd, 1) := by decide +kernel
theorem k_210_62 : cd 210 62 = some (.iconst 0, 1) := by decide +kernel
theorem k_210_63 : cd 210 63 = some (.iastore, 1) := by decide +kernel
theorem k_210_64 : cd 210 64 = some (.iinc 2 1, 3) := by decide +kernel
theorem k_210_67 : cd 210 67 = some (.goto (-17), 3) := by decide +kernel
theorem k_210_70 : cd 210 70 = some (.aload_n 0, 1) := by decide +kernel
theorem k_210_71 : cd 210 71 = some (.invokevirtual 219, 3) := by decide +kernel
theorem k_210_74 : cd 210 74 = some (.iconst 0, 1) := by decide +kernel
theorem k_210_75 : cd 210 75 = some (.istore_n 2, 1) := by decide +kernel
theorem k_210_76 : cd 210 76 = some (.aload_n 0, 1) := by decide +kernel
theorem k_210_77 : cd 210 77 = some (.getfield 194, 3) := by decide +kernel
theorem k_210_80 : cd 210 80 = some (.ifCond .ne 19, 3) := by decide +kernel
theorem k_210_83 : cd 210 83 = some (.aload_n 0, 1) := by decide +kernel
theorem k_210_84 : cd 210 84 = some (.getfield 168, 3) := by decide +kernel
theorem k_210_87 : cd 210 87 = some (.ifCond .eq 12, 3) := by decide +kernel
theorem k_210_90 : cd 210 90 = some (.aload_n 0, 1) := by decide +kernel
theorem k_210_91 : cd 210 91 = some (.iload_n 2, 1) := by decide +kernel
theorem k_210_92 : cd 210 92 = some (.invokevirtual 293, 3) := by decide +kernel
theorem k_210_95 : cd 210 95 = some (.istore_n 2, 1) := by decide +kernel
theorem k_210_96 : cd 210 96 = some (.goto (-20), 3) := by decide +kernel
theorem k_210_99 : cd 210 99 = some (.aload_n 0, 1) := by decide +kernel
theorem k_210_100 : cd 210 100 = some (.getfield 194, 3) := by decide +kernel
theorem k_210_103 : cd 210 103 = some (.ifCond .eq 26, 3) := by decide +kernel
theorem k_210_106 : cd 210 106 = some (.aload_n 0, 1) := by decide +kernel
theorem k_210_107 : cd 210 107 = some (.aload_n 0, 1) := by decide +kernel
theorem k_210_108 : cd 210 108 = some (.getfield 197, 3) := by decide +kernel
theorem k_210_111 : cd 210 111 = some (.putfield 73, 3) := by decide +kernel
theorem k_210_114 : cd 210 114 = some (.aload_n 0, 1) := by decide +kernel
theorem k_210_115 : cd 210 115 = some (.getfield 67, 3) := by decide +kernel
theorem k_210_118 : cd 210 118 = some (.iconst 0, 1) := by decide +kernel
theorem k_210_119 : cd 210 119 = some (.dup2, 1) := by decide +kernel
theorem k_210_120 : cd 210 120 = some (.iaload, 1) := by decide +kernel
theorem k_210_121 : cd 210 121 = some (.iconst 1, 1) := by decide +kernel
theorem k_210_122 : cd 210 122 = some (.iadd, 1) := by decide +kernel
theorem k_210_123 : cd 210 123 = some (.iastore, 1) := by decide +kernel
theorem k_210_124 : cd 210 124 = some (.aload_n 0, 1) := by decide +kernel
theorem k_210_125 : cd 210 125 = some (.getfield 194, 3) := by decide +kernel
theorem k_210_128 : cd 210 128 = some (.ireturn, 1) := by decide +kernel
theorem k_210_129 : cd 210 129 = some (.aload_n 0, 1) := by decide +kernel
theorem k_210_130 : cd 210 130 = some (.invokevirtual 296, 3) := by decide +kernel
theorem k_210_133 : cd 210 133 = some (.iconst 0, 1) := by decide +kernel
theorem k_210_134 : cd 210 134 = some (.ireturn, 1) := by decide +kernel
theorem po_210 : po 210 = 9 := rfl
noncomputable def C_210_50  (v1 : Value) (x2 : Int32) (σ : pS) : Option pZ := den 210 0 50 [.ref 61, v1, .int x2] [] σ
noncomputable def C_210_76  (v1 : Value) (x2 : Int32) (σ : pS) : Option pZ := den 210 0 76 [.ref 61, v1, .int x2] [] σ
noncomputable def C_210_99  (v1 : Value) (v2 : Value) (σ : pS) : Option pZ := den 210 0 99 [.ref 61, v1, v2] [] σ
theorem T_210_50  {v1 : Value} {x2 : Int32}  {σ : pS} {ρ : Nat → Nat → Option Nat} (e : gR σ = ρ) (hL : LayR ρ) : Le
  (if (ι 5) ≤ x2 then bV (pcall 212 [.ref 61] σ) fun σ1 => C_210_76 v1 (ι 0) σ1 else gd (inb ((ι 5) + x2) 10) (C_210_50 v1 (x2 + (ι 1)) (sI σ 65 (ix ((ι 5) + x2)) (ι 0))))
  (C_210_50  v1 x2 σ) := by
  unfold C_210_50
  exact r_iload_n k_210_50 rfl rfl
    (r_iconst k_210_51 rfl rfl
    (r_icmp (tgt := 70) k_210_52 rfl rfl cop_ge
    (r_aload_n k_210_70 rfl rfl
    (r_callV (q_virt (rest := []) (as := []) k_210_71 po_210 rfl rfl rfl (rcvO rfl rfl rfl) rfl rfl) (lvq (j := 0) rfl (by decide +kernel)) rfl rfl (fun _ σ1 h1 => r_iconst k_210_74 rfl rfl
    (r_istore_n k_210_75 rfl rfl rfl
    (Le.rfl')))))
    (r_aload_n k_210_55 rfl rfl
    (r_getR k_210_56 rfl po_210 rfl rfl rfl rfl (gRat e (LayR.at hL (i := 66) rfl))
    (r_iconst k_210_59 rfl rfl
    (r_iload_n k_210_60 rfl rfl
    (r_iadd k_210_61 rfl
    (r_iconst k_210_62 rfl rfl
    (r_gd fun g => r_iast k_210_63 rfl rfl g
    (r_iinc k_210_64 rfl rfl rfl rfl
    (r_goto (tgt := 50) k_210_67 rfl (Le.rfl'))))))))))))
theorem T_210_76  {v1 : Value} {x2 : Int32}  {σ : pS} {ρ : Nat → Nat → Option Nat} (e : gR σ = ρ) (hL : LayR ρ) : Le
  (if ¬ (gI σ 61 22) = (ι 0) then C_210_99 v1 (.int x2) σ else if (gI σ 61 18) = (ι 0) then C_210_99 v1 (.int x2) σ else bI (pcall 217 [.ref 61, .int x2] σ) fun r1 σ1 => gd (LayR (gR σ1)) (C_210_76 v1 r1 σ1))
  (C_210_76  v1 x2 σ) := by
  unfold C_210_76
  exact r_aload_n k_210_76 rfl rfl
    (r_getI k_210_77 rfl po_210 rfl rfl rfl rfl
    (r_if (tgt := 99) k_210_80 rfl rfl cop_ne
    (Le.rfl')
    (r_aload_n k_210_83 rfl rfl
    (r_getI k_210_84 rfl po_210 rfl rfl rfl rfl
    (r_if (tgt := 99) k_210_87 rfl rfl cop_eq
    (Le.rfl')
    (r_aload_n k_210_90 rfl rfl
    (r_iload_n k_210_91 rfl rfl
    (r_callI (q_virt (rest := []) (as := [.int x2]) k_210_92 po_210 rfl rfl rfl (rcvO rfl rfl rfl) rfl rfl) (lvq (j := 0) rfl (by decide +kernel)) rfl rfl (fun r1 σ1 h1 => r_gd fun L1 => r_istore_n k_210_95 rfl rfl rfl
    (r_goto (tgt := 76) k_210_96 rfl (Le.rfl')))))))))))
theorem T_210_99  {v1 : Value} {v2 : Value}  {σ : pS} {ρ : Nat → Nat → Option Nat} (e : gR σ = ρ) (hL : LayR ρ) : Le
  (if (gI σ 61 22) = (ι 0) then bV (pcall 237 [.ref 61] σ) fun σ1 => some (1, .int (ι 0), σ1) else some (1, .int (gI (sI (sI σ 61 24 (gI σ 61 23)) 73 0 ((gI (sI σ 61 24 (gI σ 61 23)) 73 0) + (ι 1))) 61 22), (sI (sI σ 61 24 (gI σ 61 23)) 73 0 ((gI (sI σ 61 24 (gI σ 61 23)) 73 0) + (ι 1)))))
  (C_210_99  v1 v2 σ) := by
  unfold C_210_99
  exact r_aload_n k_210_99 rfl rfl
    (r_getI k_210_100 rfl po_210 rfl rfl rfl rfl
    (r_if (tgt := 129) k_210_103 rfl rfl cop_eq
    (r_aload_n k_210_129 rfl rfl
    (r_callV (q_virt (rest := []) (as := []) k_210_130 po_210 rfl rfl rfl (rcvO rfl rfl rfl) rfl rfl) (lvq (j := 0) rfl (by decide +kernel)) rfl rfl (fun _ σ1 h1 => r_iconst k_210_133 rfl rfl
    (r_ret k_210_134 rfl rfl))))
    (r_aload_n k_210_106 rfl rfl
    (r_aload_n k_210_107 rfl rfl
    (r_getI k_210_108 rfl po_210 rfl rfl rfl rfl
    (r_putI k_210_111 rfl po_210 rfl rfl rfl
    (r_aload_n k_210_114 rfl rfl
    (r_getR k_210_115 rfl po_210 rfl rfl rfl rfl (gRat (eI e) (LayR.at hL (i := 74) rfl))
    (r_iconst k_210_118 rfl rfl
    (r_dup2 k_210_119 rfl rfl rfl
    (r_iald k_210_120 rfl rfl (by decide)
    (r_iconst k_210_121 rfl rfl
    (r_iadd k_210_122 rfl
    (r_iast k_210_123 rfl rfl (by decide)
    (r_aload_n k_210_124 rfl rfl
    (r_getI k_210_125 rfl po_210 rfl rfl rfl rfl
    (r_ret k_210_128 rfl rfl)))))))))))))))))
theorem M_210  {x0 : Int32} {σ : pS} {ρ : Nat → Nat → Option Nat} (e : gR σ = ρ) (hL : LayR ρ) : Le
  (if x0 < (ι 0) then bI (pcall 211 [.ref 61, .int (ι 1)] (sI σ 61 4 (ι 0))) fun r1 σ1 => some (1, .int r1, σ1) else if x0 ≤ (gI (sI σ 61 4 (ι 0)) 61 15) then C_210_50 (.int x0) (ι 0) (sI (sI (sI (sI (sI (sI σ 61 4 (ι 0)) 61 15 (ι 0)) 61 17 x0) 61 16 (ι 0)) 61 22 (ι 0)) 61 24 (ν 1)) else bI (pcall 211 [.ref 61, .int (ι 1)] (sI σ 61 4 (ι 0))) fun r2 σ2 => some (1, .int r2, σ2))
  (pcall 210 [.ref 61, .int x0] σ) := by
  show Le _ (den 210 0 0 [.ref 61, .int x0, .retAddr 0] [] σ)
  exact r_aload_n k_210_0 rfl rfl
    (r_iconst k_210_1 rfl rfl
    (r_putI k_210_2 rfl po_210 rfl rfl rfl
    (r_iload_n k_210_5 rfl rfl
    (r_if (tgt := 17) k_210_6 rfl rfl cop_lt
    (r_aload_n k_210_17 rfl rfl
    (r_iconst k_210_18 rfl rfl
    (r_callI (q_virt (rest := []) (as := [.int (ι 1)]) k_210_19 po_210 rfl rfl rfl (rcvO rfl rfl rfl) rfl rfl) (lvq (j := 0) rfl (by decide +kernel)) rfl rfl (fun r1 σ1 h1 => r_ret k_210_22 rfl rfl))))
    (r_iload_n k_210_9 rfl rfl
    (r_aload_n k_210_10 rfl rfl
    (r_getI k_210_11 rfl po_210 rfl rfl rfl rfl
    (r_icmp (tgt := 23) k_210_14 rfl rfl cop_le
    (r_aload_n k_210_23 rfl rfl
    (r_iconst k_210_24 rfl rfl
    (r_putI k_210_25 rfl po_210 rfl rfl rfl
    (r_aload_n k_210_28 rfl rfl
    (r_iload_n k_210_29 rfl rfl
    (r_putI k_210_30 rfl po_210 rfl rfl rfl
    (r_aload_n k_210_33 rfl rfl
    (r_iconst k_210_34 rfl rfl
    (r_putI k_210_35 rfl po_210 rfl rfl rfl
    (r_aload_n k_210_38 rfl rfl
    (r_iconst k_210_39 rfl rfl
    (r_putI k_210_40 rfl po_210 rfl rfl rfl
    (r_aload_n k_210_43 rfl rfl
    (r_iconst k_210_44 rfl rfl
    (r_putI k_210_45 rfl po_210 rfl rfl rfl
    (r_iconst k_210_48 rfl rfl
    (r_istore_n k_210_49 rfl rfl rfl
    (Le.rfl'))))))))))))))))))
    (r_aload_n k_210_17 rfl rfl
    (r_iconst k_210_18 rfl rfl
    (r_callI (q_virt (rest := []) (as := [.int (ι 1)]) k_210_19 po_210 rfl rfl rfl (rcvO rfl rfl rfl) rfl rfl) (lvq (j := 0) rfl (by decide +kernel)) rfl rfl (fun r2 σ2 h2 => r_ret k_210_22 rfl rfl))))))))))))
/-! ===== 211 HedgeWantsModel.fail ===== -/
theorem k_211_0 : cd 211 0 = some (.aload_n 0, 1) := by decide +kernel
theorem k_211_1 : cd 211 1 = some (.iload_n 1, 1) := by decide +kernel
theorem k_211_2 : cd 211 2 = some (.putfield 145, 3) := by decide +kernel
theorem k_211_5 : cd 211 5 = some (.iconst 0, 1) := by decide +kernel
theorem k_211_6 : cd 211 6 = some (.ireturn, 1) := by decide +kernel
theorem po_211 : po 211 = 9 := rfl
theorem M_211  {x0 : Int32} {σ : pS} {ρ : Nat → Nat → Option Nat} (e : gR σ = ρ) (hL : LayR ρ) : Le
  (some (1, .int (ι 0), (sI σ 61 4 x0)))
  (pcall 211 [.ref 61, .int x0] σ) := by
  show Le _ (den 211 0 0 [.ref 61, .int x0] [] σ)
  exact r_aload_n k_211_0 rfl rfl
    (r_iload_n k_211_1 rfl rfl
    (r_putI k_211_2 rfl po_211 rfl rfl rfl
    (r_iconst k_211_5 rfl rfl
    (r_ret k_211_6 rfl rfl))))
/-! ===== 212 HedgeWantsModel.stepOn ===== -/
theorem k_212_0 : cd 212 0 = some (.aload_n 0, 1) := by decide +kernel
theorem k_212_1 : cd 212 1 = some (.aload_n 0, 1) := by decide +kernel
theorem k_212_2 : cd 212 2 = some (.getfield 158, 3) := by decide +kernel
theorem k_212_5 : cd 212 5 = some (.invokevirtual 161, 3) := by decide +kernel
theorem k_212_8 : cd 212 8 = some (.bipush 32, 2) := by decide +kernel
theorem k_212_10 : cd 212 10 = some (.if_icmp .eq 16, 3) := by decide +kernel
theorem k_212_13 : cd 212 13 = some (.aload_n 0, 1) := by decide +kernel
theorem k_212_14 : cd 212 14 = some (.aload_n 0, 1) := by decide +kernel
theorem k_212_15 : cd 212 15 = some (.getfield 158, 3) := by decide +kernel
theorem k_212_18 : cd 212 18 = some (.invokevirtual 161, 3) := by decide +kernel
theorem k_212_21 : cd 212 21 = some (.bipush 10, 2) := by decide +kernel
theorem k_212_23 : cd 212 23 = some (.if_icmp .ne 16, 3) := by decide +kernel
theorem k_212_26 : cd 212 26 = some (.aload_n 0, 1) := by decide +kernel
theorem k_212_27 : cd 212 27 = some (.dup, 1) := by decide +kernel
theorem k_212_28 : cd 212 28 = some (.getfield 158, 3) := by decide +kernel
theorem k_212_31 : cd 212 31 = some (.iconst 1, 1) := by decide +kernel
theorem k_212_32 : cd 212 32 = some (.iadd, 1) := by decide +kernel
theorem k_212_33 : cd 212 33 = some (.putfield 158, 3) := by decide +kernel
theorem k_212_36 : cd 212 36 = some (.goto (-36), 3) := by decide +kernel
theorem k_212_39 : cd 212 39 = some (.aload_n 0, 1) := by decide +kernel
theorem k_212_40 : cd 212 40 = some (.aload_n 0, 1) := by decide +kernel
theorem k_212_41 : cd 212 41 = some (.getfield 158, 3) := by decide +kernel
theorem k_212_44 : cd 212 44 = some (.putfield 165, 3) := by decide +kernel
theorem k_212_47 : cd 212 47 = some (.aload_n 0, 1) := by decide +kernel
theorem k_212_48 : cd 212 48 = some (.aload_n 0, 1) := by decide +kernel
theorem k_212_49 : cd 212 49 = some (.getfield 158, 3) := by decide +kernel
theorem k_212_52 : cd 212 52 = some (.invokevirtual 161, 3) := by decide +kernel
theorem k_212_55 : cd 212 55 = some (.istore_n 1, 1) := by decide +kernel
theorem k_212_56 : cd 212 56 = some (.iload_n 1, 1) := by decide +kernel
theorem k_212_57 : cd 212 57 = some (.iconst (-1), 1) := by decide +kernel
theorem k_212_58 : cd 212 58 = some (.if_icmp .ne 11, 3) := by decide +kernel
theorem k_212_61 : cd 212 61 = some (.aload_n 0, 1) := by decide +kernel
theorem k_212_62 : cd 212 62 = some (.iconst 0, 1) := by decide +kernel
theorem k_212_63 : cd 212 63 = some (.putfield 168, 3) := by decide +kernel
theorem k_212_66 : cd 212 66 = some (.goto 146, 3) := by decide +kernel
theorem k_212_69 : cd 212 69 = some (.iload_n 1, 1) := by decide +kernel
theorem k_212_70 : cd 212 70 = some (.invokestatic 171, 3) := by decide +kernel
theorem k_212_73 : cd 212 73 = some (.ifCond .eq 38, 3) := by decide +kernel
theorem k_212_76 : cd 212 76 = some (.aload_n 0, 1) := by decide +kernel
theorem k_212_77 : cd 212 77 = some (.aload_n 0, 1) := by decide +kernel
theorem k_212_78 : cd 212 78 = some (.getfield 158, 3) := by decide +kernel
theorem k_212_81 : cd 212 81 = some (.invokevirtual 161, 3) := by decide +kernel
theorem k_212_84 : cd 212 84 = some (.invokestatic 171, 3) := by decide +kernel
theorem k_212_87 : cd 212 87 = some (.ifCond .eq 16, 3) := by decide +kernel
theorem k_212_90 : cd 212 90 = some (.aload_n 0, 1) := by decide +kernel
theorem k_212_91 : cd 212 91 = some (.dup, 1) := by decide +kernel
theorem k_212_92 : cd 212 92 = some (.getfield 158, 3) := by decide +kernel
theorem k_212_95 : cd 212 95 = some (.iconst 1, 1) := by decide +kernel
theorem k_212_96 : cd 212 96 = some (.iadd, 1) := by decide +kernel
theorem k_212_97 : cd 212 97 = some (.putfield 158, 3) := by decide +kernel
theorem k_212_100 : cd 212 100 = some (.goto (-24), 3) := by decide +kernel
theorem k_212_103 : cd 212 103 = some (.aload_n 0, 1) := by decide +kernel
theorem k_212_104 : cd 212 104 = some (.iconst 1, 1) := by decide +kernel
theorem k_212_105 : cd 212 105 = some (.putfield 168, 3) := by decide +kernel
theorem k_212_108 : cd 212 108 = some (.goto 104, 3) := by decide +kernel
theorem k_212_111 : cd 212 111 = some (.iload_n 1, 1) := by decide +kernel
theorem k_212_112 : cd 212 112 = some (.invokestatic 175, 3) := by decide +kernel
theorem k_212_115 : cd 212 115 = some (.ifCond .eq 71, 3) := by decide +kernel
theorem k_212_118 : cd 212 118 = some (.aload_n 0, 1) := by decide +kernel
theorem k_212_119 : cd 212 119 = some (.iconst 0, 1) := by decide +kernel
theorem k_212_120 : cd 212 120 = some (.putfield 178, 3) := by decide +kernel
theorem k_212_123 : cd 212 123 = some (.aload_n 0, 1) := by decide +kernel
theorem k_212_124 : cd 212 124 = some (.aload_n 0, 1) := by decide +kernel
theorem k_212_125 : cd 212 125 = some (.getfield 158, 3) := by decide +kernel
theorem k_212_128 : cd 212 128 = some (.invokevirtual 161, 3) := by decide +kernel
theorem k_212_131 : cd 212 131 = some (.invokestatic 175, 3) := by decide +kernel
theorem k_212_134 : cd 212 134 = some (.ifCond .eq 44, 3) := by decide +kernel
theorem k_212_137 : cd 212 137 = some (.aload_n 0, 1) := by decide +kernel
theorem k_212_138 : cd 212 138 = some (.ldc 181, 2) := by decide +kernel
theorem k_212_140 : cd 212 140 = some (.bipush 10, 2) := by decide +kernel
theorem k_212_142 : cd 212 142 = some (.aload_n 0, 1) := by decide +kernel
theorem k_212_143 : cd 212 143 = some (.getfield 178, 3) := by decide +kernel
theorem k_212_146 : cd 212 146 = some (.imul, 1) := by decide +kernel
theorem k_212_147 : cd 212 147 = some (.aload_n 0, 1) := by decide +kernel
theorem k_212_148 : cd 212 148 = some (.aload_n 0, 1) := by decide +kernel
theorem k_212_149 : cd 212 149 = some (.getfield 158, 3) := by decide +kernel
theorem k_212_152 : cd 212 152 = some (.invokevirtual 161, 3) := by decide +kernel
theorem k_212_155 : cd 212 155 = some (.iadd, 1) := by decide +kernel
theorem k_212_156 : cd 212 156 = some (.bipush 48, 2) := by decide +kernel
theorem k_212_158 : cd 212 158 = some (.isub, 1) := by decide +kernel
theorem k_212_159 : cd 212 159 = some (.invokestatic 182, 3) := by decide +kernel
theorem k_212_162 : cd 212 162 = some (.putfield 178, 3) := by decide +kernel
theorem k_212_165 : cd 212 165 = some (.aload_n 0, 1) := by decide +kernel
theorem k_212_166 : cd 212 166 = some (.dup, 1) := by decide +kernel
theorem k_212_167 : cd 212 167 = some (.getfield 158, 3) := by decide +kernel
theorem k_212_170 : cd 212 170 = some (.iconst 1, 1) := by decide +kernel
theorem k_212_171 : cd 212 171 = some (.iadd, 1) := by decide +kernel
theorem k_212_172 : cd 212 172 = some (.putfield 158, 3) := by decide +kernel
theorem k_212_175 : cd 212 175 = some (.goto (-52), 3) := by decide +kernel
theorem k_212_178 : cd 212 178 = some (.aload_n 0, 1) := by decide +kernel
theorem k_212_179 : cd 212 179 = some (.iconst 2, 1) := by decide +kernel
theorem k_212_180 : cd 212 180 = some (.putfield 168, 3) := by decide +kernel
theorem k_212_183 : cd 212 183 = some (.goto 29, 3) := by decide +kernel
theorem k_212_186 : cd 212 186 = some (.aload_n 0, 1) := by decide +kernel
theorem k_212_187 : cd 212 187 = some (.dup, 1) := by decide +kernel
theorem k_212_188 : cd 212 188 = some (.getfield 158, 3) := by decide +kernel
theorem k_212_191 : cd 212 191 = some (.iconst 1, 1) := by decide +kernel
theorem k_212_192 : cd 212 192 = some (.iadd, 1) := by decide +kernel
theorem k_212_193 : cd 212 193 = some (.putfield 158, 3) := by decide +kernel
theorem k_212_196 : cd 212 196 = some (.aload_n 0, 1) := by decide +kernel
theorem k_212_197 : cd 212 197 = some (.iload_n 1, 1) := by decide +kernel
theorem k_212_198 : cd 212 198 = some (.invokestatic 188, 3) := by decide +kernel
theorem k_212_201 : cd 212 201 = some (.ifCond .eq 7, 3) := by decide +kernel
theorem k_212_204 : cd 212 204 = some (.iconst 3, 1) := by decide +kernel
theorem k_212_205 : cd 212 205 = some (.goto 4, 3) := by decide +kernel
theorem k_212_208 : cd 212 208 = some (.iconst 4, 1) := by decide +kernel
theorem k_212_209 : cd 212 209 = some (.putfield 168, 3) := by decide +kernel
theorem k_212_212 : cd 212 212 = some (.aload_n 0, 1) := by decide +kernel
theorem k_212_213 : cd 212 213 = some (.aload_n 0, 1) := by decide +kernel
theorem k_212_214 : cd 212 214 = some (.getfield 158, 3) := by decide +kernel
theorem k_212_217 : cd 212 217 = some (.putfield 191, 3) := by decide +kernel
theorem k_212_220 : cd 212 220 = some (.return_, 1) := by decide +kernel
theorem po_212 : po 212 = 9 := rfl
noncomputable def C_212_0  (v1 : Value) (σ : pS) : Option pZ := den 212 0 0 [.ref 61, v1] [] σ
noncomputable def C_212_76  (v1 : Value) (σ : pS) : Option pZ := den 212 0 76 [.ref 61, v1] [] σ
noncomputable def C_212_123  (v1 : Value) (σ : pS) : Option pZ := den 212 0 123 [.ref 61, v1] [] σ
theorem T_212_0  {v1 : Value}  {σ : pS} {ρ : Nat → Nat → Option Nat} (e : gR σ = ρ) (hL : LayR ρ) : Le
  (bI (pcall 213 [.ref 61, .int (gI σ 61 16)] σ) fun r1 σ1 => if r1 = (ι 32) then C_212_0 v1 (sI σ1 61 16 ((gI σ1 61 16) + (ι 1))) else bI (pcall 213 [.ref 61, .int (gI σ1 61 16)] σ1) fun r2 σ2 => if ¬ r2 = (ι 10) then bI (pcall 213 [.ref 61, .int (gI (sI σ2 61 20 (gI σ2 61 16)) 61 16)] (sI σ2 61 20 (gI σ2 61 16))) fun r3 σ3 => if ¬ r3 = (ν 1) then bI (pcall 214 [.int r3] σ3) fun r4 σ4 => if r4 = (ι 0) then bI (pcall 215 [.int r3] σ4) fun r5 σ5 => if r5 = (ι 0) then bI (pcall 216 [.int r3] (sI σ5 61 16 ((gI σ5 61 16) + (ι 1)))) fun r6 σ6 => if r6 = (ι 0) then some (0, .null, (sI (sI σ6 61 18 (ι 4)) 61 21 (gI (sI σ6 61 18 (ι 4)) 61 16))) else some (0, .null, (sI (sI σ6 61 18 (ι 3)) 61 21 (gI (sI σ6 61 18 (ι 3)) 61 16))) else C_212_123 (.int r3) (sI σ5 61 19 (ι 0)) else C_212_76 (.int r3) σ4 else some (0, .null, (sI (sI σ3 61 18 (ι 0)) 61 21 (gI (sI σ3 61 18 (ι 0)) 61 16))) else C_212_0 v1 (sI σ2 61 16 ((gI σ2 61 16) + (ι 1))))
  (C_212_0  v1 σ) := by
  unfold C_212_0
  exact r_aload_n k_212_0 rfl rfl
    (r_aload_n k_212_1 rfl rfl
    (r_getI k_212_2 rfl po_212 rfl rfl rfl rfl
    (r_callI (q_virt (rest := []) (as := [.int (gI σ 61 16)]) k_212_5 po_212 rfl rfl rfl (rcvO rfl rfl rfl) rfl rfl) (lvq (j := 0) rfl (by decide +kernel)) rfl rfl (fun r1 σ1 h1 => r_bipush k_212_8 rfl rfl
    (r_icmp (tgt := 26) k_212_10 rfl rfl cop_eq
    (r_aload_n k_212_26 rfl rfl
    (r_dup k_212_27 rfl rfl
    (r_getI k_212_28 rfl po_212 rfl rfl rfl rfl
    (r_iconst k_212_31 rfl rfl
    (r_iadd k_212_32 rfl
    (r_putI k_212_33 rfl po_212 rfl rfl rfl
    (r_goto (tgt := 0) k_212_36 rfl (Le.rfl'))))))))
    (r_aload_n k_212_13 rfl rfl
    (r_aload_n k_212_14 rfl rfl
    (r_getI k_212_15 rfl po_212 rfl rfl rfl rfl
    (r_callI (q_virt (rest := []) (as := [.int (gI σ1 61 16)]) k_212_18 po_212 rfl rfl rfl (rcvO rfl rfl rfl) rfl rfl) (lvq (j := 0) rfl (by decide +kernel)) rfl rfl (fun r2 σ2 h2 => r_bipush k_212_21 rfl rfl
    (r_icmp (tgt := 39) k_212_23 rfl rfl cop_ne
    (r_aload_n k_212_39 rfl rfl
    (r_aload_n k_212_40 rfl rfl
    (r_getI k_212_41 rfl po_212 rfl rfl rfl rfl
    (r_putI k_212_44 rfl po_212 rfl rfl rfl
    (r_aload_n k_212_47 rfl rfl
    (r_aload_n k_212_48 rfl rfl
    (r_getI k_212_49 rfl po_212 rfl rfl rfl rfl
    (r_callI (q_virt (rest := []) (as := [.int (gI (sI σ2 61 20 (gI σ2 61 16)) 61 16)]) k_212_52 po_212 rfl rfl rfl (rcvO rfl rfl rfl) rfl rfl) (lvq (j := 0) rfl (by decide +kernel)) rfl rfl (fun r3 σ3 h3 => r_istore_n k_212_55 rfl rfl rfl
    (r_iload_n k_212_56 rfl rfl
    (r_iconst k_212_57 rfl rfl
    (r_icmp (tgt := 69) k_212_58 rfl rfl cop_ne
    (r_iload_n k_212_69 rfl rfl
    (r_callI (q_stat (rest := []) (av := [.int r3]) k_212_70 po_212 rfl (by decide) rfl rfl rfl rfl) (lvq (j := 0) rfl (by decide +kernel)) rfl rfl (fun r4 σ4 h4 => r_if (tgt := 111) k_212_73 rfl rfl cop_eq
    (r_iload_n k_212_111 rfl rfl
    (r_callI (q_stat (rest := []) (av := [.int r3]) k_212_112 po_212 rfl (by decide) rfl rfl rfl rfl) (lvq (j := 0) rfl (by decide +kernel)) rfl rfl (fun r5 σ5 h5 => r_if (tgt := 186) k_212_115 rfl rfl cop_eq
    (r_aload_n k_212_186 rfl rfl
    (r_dup k_212_187 rfl rfl
    (r_getI k_212_188 rfl po_212 rfl rfl rfl rfl
    (r_iconst k_212_191 rfl rfl
    (r_iadd k_212_192 rfl
    (r_putI k_212_193 rfl po_212 rfl rfl rfl
    (r_aload_n k_212_196 rfl rfl
    (r_iload_n k_212_197 rfl rfl
    (r_callI (q_stat (rest := [.ref 61]) (av := [.int r3]) k_212_198 po_212 rfl (by decide) rfl rfl rfl rfl) (lvq (j := 0) rfl (by decide +kernel)) rfl rfl (fun r6 σ6 h6 => r_if (tgt := 208) k_212_201 rfl rfl cop_eq
    (r_iconst k_212_208 rfl rfl
    (r_putI k_212_209 rfl po_212 rfl rfl rfl
    (r_aload_n k_212_212 rfl rfl
    (r_aload_n k_212_213 rfl rfl
    (r_getI k_212_214 rfl po_212 rfl rfl rfl rfl
    (r_putI k_212_217 rfl po_212 rfl rfl rfl
    (r_retV k_212_220 rfl)))))))
    (r_iconst k_212_204 rfl rfl
    (r_goto (tgt := 209) k_212_205 rfl (r_putI k_212_209 rfl po_212 rfl rfl rfl
    (r_aload_n k_212_212 rfl rfl
    (r_aload_n k_212_213 rfl rfl
    (r_getI k_212_214 rfl po_212 rfl rfl rfl rfl
    (r_putI k_212_217 rfl po_212 rfl rfl rfl
    (r_retV k_212_220 rfl))))))))))))))))))
    (r_aload_n k_212_118 rfl rfl
    (r_iconst k_212_119 rfl rfl
    (r_putI k_212_120 rfl po_212 rfl rfl rfl
    (Le.rfl')))))))
    (Le.rfl'))))
    (r_aload_n k_212_61 rfl rfl
    (r_iconst k_212_62 rfl rfl
    (r_putI k_212_63 rfl po_212 rfl rfl rfl
    (r_goto (tgt := 212) k_212_66 rfl (r_aload_n k_212_212 rfl rfl
    (r_aload_n k_212_213 rfl rfl
    (r_getI k_212_214 rfl po_212 rfl rfl rfl rfl
    (r_putI k_212_217 rfl po_212 rfl rfl rfl
    (r_retV k_212_220 rfl)))))))))))))))))))))
    (r_aload_n k_212_26 rfl rfl
    (r_dup k_212_27 rfl rfl
    (r_getI k_212_28 rfl po_212 rfl rfl rfl rfl
    (r_iconst k_212_31 rfl rfl
    (r_iadd k_212_32 rfl
    (r_putI k_212_33 rfl po_212 rfl rfl rfl
    (r_goto (tgt := 0) k_212_36 rfl (Le.rfl')))))))))))))))))))
theorem T_212_76  {v1 : Value}  {σ : pS} {ρ : Nat → Nat → Option Nat} (e : gR σ = ρ) (hL : LayR ρ) : Le
  (bI (pcall 213 [.ref 61, .int (gI σ 61 16)] σ) fun r1 σ1 => bI (pcall 214 [.int r1] σ1) fun r2 σ2 => if r2 = (ι 0) then some (0, .null, (sI (sI σ2 61 18 (ι 1)) 61 21 (gI (sI σ2 61 18 (ι 1)) 61 16))) else C_212_76 v1 (sI σ2 61 16 ((gI σ2 61 16) + (ι 1))))
  (C_212_76  v1 σ) := by
  unfold C_212_76
  exact r_aload_n k_212_76 rfl rfl
    (r_aload_n k_212_77 rfl rfl
    (r_getI k_212_78 rfl po_212 rfl rfl rfl rfl
    (r_callI (q_virt (rest := []) (as := [.int (gI σ 61 16)]) k_212_81 po_212 rfl rfl rfl (rcvO rfl rfl rfl) rfl rfl) (lvq (j := 0) rfl (by decide +kernel)) rfl rfl (fun r1 σ1 h1 => r_callI (q_stat (rest := []) (av := [.int r1]) k_212_84 po_212 rfl (by decide) rfl rfl rfl rfl) (lvq (j := 0) rfl (by decide +kernel)) rfl rfl (fun r2 σ2 h2 => r_if (tgt := 103) k_212_87 rfl rfl cop_eq
    (r_aload_n k_212_103 rfl rfl
    (r_iconst k_212_104 rfl rfl
    (r_putI k_212_105 rfl po_212 rfl rfl rfl
    (r_goto (tgt := 212) k_212_108 rfl (r_aload_n k_212_212 rfl rfl
    (r_aload_n k_212_213 rfl rfl
    (r_getI k_212_214 rfl po_212 rfl rfl rfl rfl
    (r_putI k_212_217 rfl po_212 rfl rfl rfl
    (r_retV k_212_220 rfl)))))))))
    (r_aload_n k_212_90 rfl rfl
    (r_dup k_212_91 rfl rfl
    (r_getI k_212_92 rfl po_212 rfl rfl rfl rfl
    (r_iconst k_212_95 rfl rfl
    (r_iadd k_212_96 rfl
    (r_putI k_212_97 rfl po_212 rfl rfl rfl
    (r_goto (tgt := 76) k_212_100 rfl (Le.rfl')))))))))))))
theorem T_212_123  {v1 : Value}  {σ : pS} {ρ : Nat → Nat → Option Nat} (e : gR σ = ρ) (hL : LayR ρ) : Le
  (bI (pcall 213 [.ref 61, .int (gI σ 61 16)] σ) fun r1 σ1 => bI (pcall 215 [.int r1] σ1) fun r2 σ2 => if r2 = (ι 0) then some (0, .null, (sI (sI σ2 61 18 (ι 2)) 61 21 (gI (sI σ2 61 18 (ι 2)) 61 16))) else bI (pcall 213 [.ref 61, .int (gI σ2 61 16)] σ2) fun r3 σ3 => C_212_123 v1 (sI (sI σ3 61 19 (imin (ι 100000) ((((ι 10) * (gI σ2 61 19)) + r3) - (ι 48)))) 61 16 ((gI (sI σ3 61 19 (imin (ι 100000) ((((ι 10) * (gI σ2 61 19)) + r3) - (ι 48)))) 61 16) + (ι 1))))
  (C_212_123  v1 σ) := by
  unfold C_212_123
  exact r_aload_n k_212_123 rfl rfl
    (r_aload_n k_212_124 rfl rfl
    (r_getI k_212_125 rfl po_212 rfl rfl rfl rfl
    (r_callI (q_virt (rest := []) (as := [.int (gI σ 61 16)]) k_212_128 po_212 rfl rfl rfl (rcvO rfl rfl rfl) rfl rfl) (lvq (j := 0) rfl (by decide +kernel)) rfl rfl (fun r1 σ1 h1 => r_callI (q_stat (rest := []) (av := [.int r1]) k_212_131 po_212 rfl (by decide) rfl rfl rfl rfl) (lvq (j := 0) rfl (by decide +kernel)) rfl rfl (fun r2 σ2 h2 => r_if (tgt := 178) k_212_134 rfl rfl cop_eq
    (r_aload_n k_212_178 rfl rfl
    (r_iconst k_212_179 rfl rfl
    (r_putI k_212_180 rfl po_212 rfl rfl rfl
    (r_goto (tgt := 212) k_212_183 rfl (r_aload_n k_212_212 rfl rfl
    (r_aload_n k_212_213 rfl rfl
    (r_getI k_212_214 rfl po_212 rfl rfl rfl rfl
    (r_putI k_212_217 rfl po_212 rfl rfl rfl
    (r_retV k_212_220 rfl)))))))))
    (r_aload_n k_212_137 rfl rfl
    (r_ldcI k_212_138 rfl po_212 rfl rfl
    (r_bipush k_212_140 rfl rfl
    (r_aload_n k_212_142 rfl rfl
    (r_getI k_212_143 rfl po_212 rfl rfl rfl rfl
    (r_imul k_212_146 rfl
    (r_aload_n k_212_147 rfl rfl
    (r_aload_n k_212_148 rfl rfl
    (r_getI k_212_149 rfl po_212 rfl rfl rfl rfl
    (r_callI (q_virt (rest := [.int ((ι 10) * (gI σ2 61 19)), .int (ι 100000), .ref 61]) (as := [.int (gI σ2 61 16)]) k_212_152 po_212 rfl rfl rfl (rcvO rfl rfl rfl) rfl rfl) (lvq (j := 0) rfl (by decide +kernel)) rfl rfl (fun r3 σ3 h3 => r_iadd k_212_155 rfl
    (r_bipush k_212_156 rfl rfl
    (r_isub k_212_158 rfl
    (r_imin k_212_159 rfl po_212 rfl rfl
    (r_putI k_212_162 rfl po_212 rfl rfl rfl
    (r_aload_n k_212_165 rfl rfl
    (r_dup k_212_166 rfl rfl
    (r_getI k_212_167 rfl po_212 rfl rfl rfl rfl
    (r_iconst k_212_170 rfl rfl
    (r_iadd k_212_171 rfl
    (r_putI k_212_172 rfl po_212 rfl rfl rfl
    (r_goto (tgt := 123) k_212_175 rfl (Le.rfl'))))))))))))))))))))))))))))
theorem M_212   {σ : pS} {ρ : Nat → Nat → Option Nat} (e : gR σ = ρ) (hL : LayR ρ) : Le
  (bI (pcall 213 [.ref 61, .int (gI σ 61 16)] σ) fun r1 σ1 => if r1 = (ι 32) then C_212_0 (.retAddr 0) (sI σ1 61 16 ((gI σ1 61 16) + (ι 1))) else bI (pcall 213 [.ref 61, .int (gI σ1 61 16)] σ1) fun r2 σ2 => if ¬ r2 = (ι 10) then bI (pcall 213 [.ref 61, .int (gI (sI σ2 61 20 (gI σ2 61 16)) 61 16)] (sI σ2 61 20 (gI σ2 61 16))) fun r3 σ3 => if ¬ r3 = (ν 1) then bI (pcall 214 [.int r3] σ3) fun r4 σ4 => if r4 = (ι 0) then bI (pcall 215 [.int r3] σ4) fun r5 σ5 => if r5 = (ι 0) then bI (pcall 216 [.int r3] (sI σ5 61 16 ((gI σ5 61 16) + (ι 1)))) fun r6 σ6 => if r6 = (ι 0) then some (0, .null, (sI (sI σ6 61 18 (ι 4)) 61 21 (gI (sI σ6 61 18 (ι 4)) 61 16))) else some (0, .null, (sI (sI σ6 61 18 (ι 3)) 61 21 (gI (sI σ6 61 18 (ι 3)) 61 16))) else C_212_123 (.int r3) (sI σ5 61 19 (ι 0)) else C_212_76 (.int r3) σ4 else some (0, .null, (sI (sI σ3 61 18 (ι 0)) 61 21 (gI (sI σ3 61 18 (ι 0)) 61 16))) else C_212_0 (.retAddr 0) (sI σ2 61 16 ((gI σ2 61 16) + (ι 1))))
  (pcall 212 [.ref 61] σ) := by
  show Le _ (den 212 0 0 [.ref 61, .retAddr 0] [] σ)
  exact r_aload_n k_212_0 rfl rfl
    (r_aload_n k_212_1 rfl rfl
    (r_getI k_212_2 rfl po_212 rfl rfl rfl rfl
    (r_callI (q_virt (rest := []) (as := [.int (gI σ 61 16)]) k_212_5 po_212 rfl rfl rfl (rcvO rfl rfl rfl) rfl rfl) (lvq (j := 0) rfl (by decide +kernel)) rfl rfl (fun r1 σ1 h1 => r_bipush k_212_8 rfl rfl
    (r_icmp (tgt := 26) k_212_10 rfl rfl cop_eq
    (r_aload_n k_212_26 rfl rfl
    (r_dup k_212_27 rfl rfl
    (r_getI k_212_28 rfl po_212 rfl rfl rfl rfl
    (r_iconst k_212_31 rfl rfl
    (r_iadd k_212_32 rfl
    (r_putI k_212_33 rfl po_212 rfl rfl rfl
    (r_goto (tgt := 0) k_212_36 rfl (Le.rfl'))))))))
    (r_aload_n k_212_13 rfl rfl
    (r_aload_n k_212_14 rfl rfl
    (r_getI k_212_15 rfl po_212 rfl rfl rfl rfl
    (r_callI (q_virt (rest := []) (as := [.int (gI σ1 61 16)]) k_212_18 po_212 rfl rfl rfl (rcvO rfl rfl rfl) rfl rfl) (lvq (j := 0) rfl (by decide +kernel)) rfl rfl (fun r2 σ2 h2 => r_bipush k_212_21 rfl rfl
    (r_icmp (tgt := 39) k_212_23 rfl rfl cop_ne
    (r_aload_n k_212_39 rfl rfl
    (r_aload_n k_212_40 rfl rfl
    (r_getI k_212_41 rfl po_212 rfl rfl rfl rfl
    (r_putI k_212_44 rfl po_212 rfl rfl rfl
    (r_aload_n k_212_47 rfl rfl
    (r_aload_n k_212_48 rfl rfl
    (r_getI k_212_49 rfl po_212 rfl rfl rfl rfl
    (r_callI (q_virt (rest := []) (as := [.int (gI (sI σ2 61 20 (gI σ2 61 16)) 61 16)]) k_212_52 po_212 rfl rfl rfl (rcvO rfl rfl rfl) rfl rfl) (lvq (j := 0) rfl (by decide +kernel)) rfl rfl (fun r3 σ3 h3 => r_istore_n k_212_55 rfl rfl rfl
    (r_iload_n k_212_56 rfl rfl
    (r_iconst k_212_57 rfl rfl
    (r_icmp (tgt := 69) k_212_58 rfl rfl cop_ne
    (r_iload_n k_212_69 rfl rfl
    (r_callI (q_stat (rest := []) (av := [.int r3]) k_212_70 po_212 rfl (by decide) rfl rfl rfl rfl) (lvq (j := 0) rfl (by decide +kernel)) rfl rfl (fun r4 σ4 h4 => r_if (tgt := 111) k_212_73 rfl rfl cop_eq
    (r_iload_n k_212_111 rfl rfl
    (r_callI (q_stat (rest := []) (av := [.int r3]) k_212_112 po_212 rfl (by decide) rfl rfl rfl rfl) (lvq (j := 0) rfl (by decide +kernel)) rfl rfl (fun r5 σ5 h5 => r_if (tgt := 186) k_212_115 rfl rfl cop_eq
    (r_aload_n k_212_186 rfl rfl
    (r_dup k_212_187 rfl rfl
    (r_getI k_212_188 rfl po_212 rfl rfl rfl rfl
    (r_iconst k_212_191 rfl rfl
    (r_iadd k_212_192 rfl
    (r_putI k_212_193 rfl po_212 rfl rfl rfl
    (r_aload_n k_212_196 rfl rfl
    (r_iload_n k_212_197 rfl rfl
    (r_callI (q_stat (rest := [.ref 61]) (av := [.int r3]) k_212_198 po_212 rfl (by decide) rfl rfl rfl rfl) (lvq (j := 0) rfl (by decide +kernel)) rfl rfl (fun r6 σ6 h6 => r_if (tgt := 208) k_212_201 rfl rfl cop_eq
    (r_iconst k_212_208 rfl rfl
    (r_putI k_212_209 rfl po_212 rfl rfl rfl
    (r_aload_n k_212_212 rfl rfl
    (r_aload_n k_212_213 rfl rfl
    (r_getI k_212_214 rfl po_212 rfl rfl rfl rfl
    (r_putI k_212_217 rfl po_212 rfl rfl rfl
    (r_retV k_212_220 rfl)))))))
    (r_iconst k_212_204 rfl rfl
    (r_goto (tgt := 209) k_212_205 rfl (r_putI k_212_209 rfl po_212 rfl rfl rfl
    (r_aload_n k_212_212 rfl rfl
    (r_aload_n k_212_213 rfl rfl
    (r_getI k_212_214 rfl po_212 rfl rfl rfl rfl
    (r_putI k_212_217 rfl po_212 rfl rfl rfl
    (r_retV k_212_220 rfl))))))))))))))))))
    (r_aload_n k_212_118 rfl rfl
    (r_iconst k_212_119 rfl rfl
    (r_putI k_212_120 rfl po_212 rfl rfl rfl
    (Le.rfl')))))))
    (Le.rfl'))))
    (r_aload_n k_212_61 rfl rfl
    (r_iconst k_212_62 rfl rfl
    (r_putI k_212_63 rfl po_212 rfl rfl rfl
    (r_goto (tgt := 212) k_212_66 rfl (r_aload_n k_212_212 rfl rfl
    (r_aload_n k_212_213 rfl rfl
    (r_getI k_212_214 rfl po_212 rfl rfl rfl rfl
    (r_putI k_212_217 rfl po_212 rfl rfl rfl
    (r_retV k_212_220 rfl)))))))))))))))))))))
    (r_aload_n k_212_26 rfl rfl
    (r_dup k_212_27 rfl rfl
    (r_getI k_212_28 rfl po_212 rfl rfl rfl rfl
    (r_iconst k_212_31 rfl rfl
    (r_iadd k_212_32 rfl
    (r_putI k_212_33 rfl po_212 rfl rfl rfl
    (r_goto (tgt := 0) k_212_36 rfl (Le.rfl')))))))))))))))))))
/-! ===== 213 HedgeWantsModel.byteAt ===== -/
theorem k_213_0 : cd 213 0 = some (.iload_n 1, 1) := by decide +kernel
theorem k_213_1 : cd 213 1 = some (.aload_n 0, 1) := by decide +kernel
theorem k_213_2 : cd 213 2 = some (.getfield 155, 3) := by decide +kernel
theorem k_213_5 : cd 213 5 = some (.if_icmp .ge 12, 3) := by decide +kernel
theorem k_213_8 : cd 213 8 = some (.aload_n 0, 1) := by decide +kernel
theorem k_213_9 : cd 213 9 = some (.getfield 70, 3) := by decide +kernel
theorem k_213_12 : cd 213 12 = some (.iload_n 1, 1) := by decide +kernel
theorem k_213_13 : cd 213 13 = some (.iaload, 1) := by decide +kernel
theorem k_213_14 : cd 213 14 = some (.goto 4, 3) := by decide +kernel
theorem k_213_17 : cd 213 17 = some (.iconst (-1), 1) := by decide +kernel
theorem k_213_18 : cd 213 18 = some (.ireturn, 1) := by decide +kernel
theorem po_213 : po 213 = 9 := rfl
theorem M_213  {x0 : Int32} {σ : pS} {ρ : Nat → Nat → Option Nat} (e : gR σ = ρ) (hL : LayR ρ) : Le
  (if (gI σ 61 17) ≤ x0 then some (1, .int (ν 1), σ) else gd (inb x0 700) (some (1, .int (gI σ 74 (ix x0)), σ)))
  (pcall 213 [.ref 61, .int x0] σ) := by
  show Le _ (den 213 0 0 [.ref 61, .int x0] [] σ)
  exact r_iload_n k_213_0 rfl rfl
    (r_aload_n k_213_1 rfl rfl
    (r_getI k_213_2 rfl po_213 rfl rfl rfl rfl
    (r_icmp (tgt := 17) k_213_5 rfl rfl cop_ge
    (r_iconst k_213_17 rfl rfl
    (r_ret k_213_18 rfl rfl))
    (r_aload_n k_213_8 rfl rfl
    (r_getR k_213_9 rfl po_213 rfl rfl rfl rfl (gRat e (LayR.at hL (i := 75) rfl))
    (r_iload_n k_213_12 rfl rfl
    (r_gd fun g => r_iald k_213_13 rfl rfl g
    (r_goto (tgt := 18) k_213_14 rfl (r_ret k_213_18 rfl rfl)))))))))
/-! ===== 214 HedgeWantsModel.isLetter ===== -/
theorem k_214_0 : cd 214 0 = some (.iload_n 0, 1) := by decide +kernel
theorem k_214_1 : cd 214 1 = some (.bipush 97, 2) := by decide +kernel
theorem k_214_3 : cd 214 3 = some (.if_icmp .lt 13, 3) := by decide +kernel
theorem k_214_6 : cd 214 6 = some (.iload_n 0, 1) := by decide +kernel
theorem k_214_7 : cd 214 7 = some (.bipush 122, 2) := by decide +kernel
theorem k_214_9 : cd 214 9 = some (.if_icmp .gt 7, 3) := by decide +kernel
theorem k_214_12 : cd 214 12 = some (.iconst 1, 1) := by decide +kernel
theorem k_214_13 : cd 214 13 = some (.goto 4, 3) := by decide +kernel
theorem k_214_16 : cd 214 16 = some (.iconst 0, 1) := by decide +kernel
theorem k_214_17 : cd 214 17 = some (.ireturn, 1) := by decide +kernel
theorem po_214 : po 214 = 9 := rfl
theorem M_214  {x0 : Int32} {σ : pS} {ρ : Nat → Nat → Option Nat} (e : gR σ = ρ) (hL : LayR ρ) : Le
  (if x0 < (ι 97) then some (1, .int (ι 0), σ) else if (ι 122) < x0 then some (1, .int (ι 0), σ) else some (1, .int (ι 1), σ))
  (pcall 214 [.int x0] σ) := by
  show Le _ (den 214 0 0 [.int x0] [] σ)
  exact r_iload_n k_214_0 rfl rfl
    (r_bipush k_214_1 rfl rfl
    (r_icmp (tgt := 16) k_214_3 rfl rfl cop_lt
    (r_iconst k_214_16 rfl rfl
    (r_ret k_214_17 rfl rfl))
    (r_iload_n k_214_6 rfl rfl
    (r_bipush k_214_7 rfl rfl
    (r_icmp (tgt := 16) k_214_9 rfl rfl cop_gt
    (r_iconst k_214_16 rfl rfl
    (r_ret k_214_17 rfl rfl))
    (r_iconst k_214_12 rfl rfl
    (r_goto (tgt := 17) k_214_13 rfl (r_ret k_214_17 rfl rfl))))))))
/-! ===== 215 HedgeWantsModel.isDigit ===== -/
theorem k_215_0 : cd 215 0 = some (.iload_n 0, 1) := by decide +kernel
theorem k_215_1 : cd 215 1 = some (.bipush 48, 2) := by decide +kernel
theorem k_215_3 : cd 215 3 = some (.if_icmp .lt 13, 3) := by decide +kernel
theorem k_215_6 : cd 215 6 = some (.iload_n 0, 1) := by decide +kernel
theorem k_215_7 : cd 215 7 = some (.bipush 57, 2) := by decide +kernel
theorem k_215_9 : cd 215 9 = some (.if_icmp .gt 7, 3) := by decide +kernel
theorem k_215_12 : cd 215 12 = some (.iconst 1, 1) := by decide +kernel
theorem k_215_13 : cd 215 13 = some (.goto 4, 3) := by decide +kernel
theorem k_215_16 : cd 215 16 = some (.iconst 0, 1) := by decide +kernel
theorem k_215_17 : cd 215 17 = some (.ireturn, 1) := by decide +kernel
theorem po_215 : po 215 = 9 := rfl
theorem M_215  {x0 : Int32} {σ : pS} {ρ : Nat → Nat → Option Nat} (e : gR σ = ρ) (hL : LayR ρ) : Le
  (if x0 < (ι 48) then some (1, .int (ι 0), σ) else if (ι 57) < x0 then some (1, .int (ι 0), σ) else some (1, .int (ι 1), σ))
  (pcall 215 [.int x0] σ) := by
  show Le _ (den 215 0 0 [.int x0] [] σ)
  exact r_iload_n k_215_0 rfl rfl
    (r_bipush k_215_1 rfl rfl
    (r_icmp (tgt := 16) k_215_3 rfl rfl cop_lt
    (r_iconst k_215_16 rfl rfl
    (r_ret k_215_17 rfl rfl))
    (r_iload_n k_215_6 rfl rfl
    (r_bipush k_215_7 rfl rfl
    (r_icmp (tgt := 16) k_215_9 rfl rfl cop_gt
    (r_iconst k_215_16 rfl rfl
    (r_ret k_215_17 rfl rfl))
    (r_iconst k_215_12 rfl rfl
    (r_goto (tgt := 17) k_215_13 rfl (r_ret k_215_17 rfl rfl))))))))
/-! ===== 216 HedgeWantsModel.isMark ===== -/
theorem k_216_0 : cd 216 0 = some (.iload_n 0, 1) := by decide +kernel
theorem k_216_1 : cd 216 1 = some (.bipush 59, 2) := by decide +kernel
theorem k_216_3 : cd 216 3 = some (.if_icmp .eq 51, 3) := by decide +kernel
theorem k_216_6 : cd 216 6 = some (.iload_n 0, 1) := by decide +kernel
theorem k_216_7 : cd 216 7 = some (.bipush 40, 2) := by decide +kernel
theorem k_216_9 : cd 216 9 = some (.if_icmp .eq 45, 3) := by decide +kernel
theorem k_216_12 : cd 216 12 = some (.iload_n 0, 1) := by decide +kernel
theorem k_216_13 : cd 216 13 = some (.bipush 41, 2) := by decide +kernel
theorem k_216_15 : cd 216 15 = some (.if_icmp .eq 39, 3) := by decide +kernel
theorem k_216_18 : cd 216 18 = some (.iload_n 0, 1) := by decide +kernel
theorem k_216_19 : cd 216 19 = some (.bipush 43, 2) := by decide +kernel
theorem k_216_21 : cd 216 21 = some (.if_icmp .eq 33, 3) := by decide +kernel
theorem k_216_24 : cd 216 24 = some (.iload_n 0, 1) := by decide +kernel
theorem k_216_25 : cd 216 25 = some (.bipush 45, 2) := by decide +kernel
theorem k_216_27 : cd 216 27 = some (.if_icmp .eq 27, 3) := by decide +kernel
theorem k_216_30 : cd 216 30 = some (.iload_n 0, 1) := by decide +kernel
theorem k_216_31 : cd 216 31 = some (.bipush 42, 2) := by decide +kernel
theorem k_216_33 : cd 216 33 = some (.if_icmp .eq 21, 3) := by decide +kernel
theorem k_216_36 : cd 216 36 = some (.iload_n 0, 1) := by decide +kernel
theorem k_216_37 : cd 216 37 = some (.bipush 47, 2) := by decide +kernel
theorem k_216_39 : cd 216 39 = some (.if_icmp .eq 15, 3) := by decide +kernel
theorem k_216_42 : cd 216 42 = some (.iload_n 0, 1) := by decide +kernel
theorem k_216_43 : cd 216 43 = some (.bipush 60, 2) := by decide +kernel
theorem k_216_45 : cd 216 45 = some (.if_icmp .eq 9, 3) := by decide +kernel
theorem k_216_48 : cd 216 48 = some (.iload_n 0, 1) := by decide +kernel
theorem k_216_49 : cd 216 49 = some (.bipush 61, 2) := by decide +kernel
theorem k_216_51 : cd 216 51 = some (.if_icmp .ne 7, 3) := by decide +kernel
theorem k_216_54 : cd 216 54 = some (.iconst 1, 1) := by decide +kernel
theorem k_216_55 : cd 216 55 = some (.goto 4, 3) := by decide +kernel
theorem k_216_58 : cd 216 58 = some (.iconst 0, 1) := by decide +kernel
theorem k_216_59 : cd 216 59 = some (.ireturn, 1) := by decide +kernel
theorem po_216 : po 216 = 9 := rfl
theorem M_216  {x0 : Int32} {σ : pS} {ρ : Nat → Nat → Option Nat} (e : gR σ = ρ) (hL : LayR ρ) : Le
  (if x0 = (ι 59) then some (1, .int (ι 1), σ) else if x0 = (ι 40) then some (1, .int (ι 1), σ) else if x0 = (ι 41) then some (1, .int (ι 1), σ) else if x0 = (ι 43) then some (1, .int (ι 1), σ) else if x0 = (ι 45) then some (1, .int (ι 1), σ) else if x0 = (ι 42) then some (1, .int (ι 1), σ) else if x0 = (ι 47) then some (1, .int (ι 1), σ) else if x0 = (ι 60) then some (1, .int (ι 1), σ) else if ¬ x0 = (ι 61) then some (1, .int (ι 0), σ) else some (1, .int (ι 1), σ))
  (pcall 216 [.int x0] σ) := by
  show Le _ (den 216 0 0 [.int x0] [] σ)
  exact r_iload_n k_216_0 rfl rfl
    (r_bipush k_216_1 rfl rfl
    (r_icmp (tgt := 54) k_216_3 rfl rfl cop_eq
    (r_iconst k_216_54 rfl rfl
    (r_goto (tgt := 59) k_216_55 rfl (r_ret k_216_59 rfl rfl)))
    (r_iload_n k_216_6 rfl rfl
    (r_bipush k_216_7 rfl rfl
    (r_icmp (tgt := 54) k_216_9 rfl rfl cop_eq
    (r_iconst k_216_54 rfl rfl
    (r_goto (tgt := 59) k_216_55 rfl (r_ret k_216_59 rfl rfl)))
    (r_iload_n k_216_12 rfl rfl
    (r_bipush k_216_13 rfl rfl
    (r_icmp (tgt := 54) k_216_15 rfl rfl cop_eq
    (r_iconst k_216_54 rfl rfl
    (r_goto (tgt := 59) k_216_55 rfl (r_ret k_216_59 rfl rfl)))
    (r_iload_n k_216_18 rfl rfl
    (r_bipush k_216_19 rfl rfl
    (r_icmp (tgt := 54) k_216_21 rfl rfl cop_eq
    (r_iconst k_216_54 rfl rfl
    (r_goto (tgt := 59) k_216_55 rfl (r_ret k_216_59 rfl rfl)))
    (r_iload_n k_216_24 rfl rfl
    (r_bipush k_216_25 rfl rfl
    (r_icmp (tgt := 54) k_216_27 rfl rfl cop_eq
    (r_iconst k_216_54 rfl rfl
    (r_goto (tgt := 59) k_216_55 rfl (r_ret k_216_59 rfl rfl)))
    (r_iload_n k_216_30 rfl rfl
    (r_bipush k_216_31 rfl rfl
    (r_icmp (tgt := 54) k_216_33 rfl rfl cop_eq
    (r_iconst k_216_54 rfl rfl
    (r_goto (tgt := 59) k_216_55 rfl (r_ret k_216_59 rfl rfl)))
    (r_iload_n k_216_36 rfl rfl
    (r_bipush k_216_37 rfl rfl
    (r_icmp (tgt := 54) k_216_39 rfl rfl cop_eq
    (r_iconst k_216_54 rfl rfl
    (r_goto (tgt := 59) k_216_55 rfl (r_ret k_216_59 rfl rfl)))
    (r_iload_n k_216_42 rfl rfl
    (r_bipush k_216_43 rfl rfl
    (r_icmp (tgt := 54) k_216_45 rfl rfl cop_eq
    (r_iconst k_216_54 rfl rfl
    (r_goto (tgt := 59) k_216_55 rfl (r_ret k_216_59 rfl rfl)))
    (r_iload_n k_216_48 rfl rfl
    (r_bipush k_216_49 rfl rfl
    (r_icmp (tgt := 58) k_216_51 rfl rfl cop_ne
    (r_iconst k_216_58 rfl rfl
    (r_ret k_216_59 rfl rfl))
    (r_iconst k_216_54 rfl rfl
    (r_goto (tgt := 59) k_216_55 rfl (r_ret k_216_59 rfl rfl)))))))))))))))))))))))))))))
/-! ===== 217 HedgeWantsModel.readLine ===== -/
theorem k_217_0 : cd 217 0 = some (.aload_n 0, 1) := by decide +kernel
theorem k_217_1 : cd 217 1 = some (.aload_n 0, 1) := by decide +kernel
theorem k_217_2 : cd 217 2 = some (.getfield 15, 3) := by decide +kernel
theorem k_217_5 : cd 217 5 = some (.invokevirtual 235, 3) := by decide +kernel
theorem k_217_8 : cd 217 8 = some (.istore_n 2, 1) := by decide +kernel
theorem k_217_9 : cd 217 9 = some (.aload_n 0, 1) := by decide +kernel
theorem k_217_10 : cd 217 10 = some (.ldc_w 273, 3) := by decide +kernel
theorem k_217_13 : cd 217 13 = some (.invokevirtual 208, 3) := by decide +kernel
theorem k_217_16 : cd 217 16 = some (.ifCond .eq 7, 3) := by decide +kernel
theorem k_217_19 : cd 217 19 = some (.iconst 1, 1) := by decide +kernel
theorem k_217_20 : cd 217 20 = some (.goto 18, 3) := by decide +kernel
theorem k_217_23 : cd 217 23 = some (.aload_n 0, 1) := by decide +kernel
theorem k_217_24 : cd 217 24 = some (.ldc_w 275, 3) := by decide +kernel
theorem k_217_27 : cd 217 27 = some (.invokevirtual 208, 3) := by decide +kernel
theorem k_217_30 : cd 217 30 = some (.ifCond .eq 7, 3) := by decide +kernel
theorem k_217_33 : cd 217 33 = some (.iconst 2, 1) := by decide +kernel
theorem k_217_34 : cd 217 34 = some (.goto 4, 3) := by decide +kernel
theorem k_217_37 : cd 217 37 = some (.iconst 0, 1) := by decide +kernel
theorem k_217_38 : cd 217 38 = some (.istore_n 3, 1) := by decide +kernel
theorem k_217_39 : cd 217 39 = some (.iload_n 3, 1) := by decide +kernel
theorem k_217_40 : cd 217 40 = some (.iload_n 1, 1) := by decide +kernel
theorem k_217_41 : cd 217 41 = some (.iand, 1) := by decide +kernel
theorem k_217_42 : cd 217 42 = some (.ifCond .eq 8, 3) := by decide +kernel
theorem k_217_45 : cd 217 45 = some (.aload_n 0, 1) := by decide +kernel
theorem k_217_46 : cd 217 46 = some (.iconst 5, 1) := by decide +kernel
theorem k_217_47 : cd 217 47 = some (.invokevirtual 215, 3) := by decide +kernel
theorem k_217_50 : cd 217 50 = some (.iload_n 3, 1) := by decide +kernel
theorem k_217_51 : cd 217 51 = some (.ifCond .le 58, 3) := by decide +kernel
theorem k_217_54 : cd 217 54 = some (.aload_n 0, 1) := by decide +kernel
theorem k_217_55 : cd 217 55 = some (.getfield 194, 3) := by decide +kernel
theorem k_217_58 : cd 217 58 = some (.ifCond .ne 51, 3) := by decide +kernel
theorem k_217_61 : cd 217 61 = some (.aload_n 0, 1) := by decide +kernel
theorem k_217_62 : cd 217 62 = some (.invokevirtual 219, 3) := by decide +kernel
theorem k_217_65 : cd 217 65 = some (.aload_n 0, 1) := by decide +kernel
theorem k_217_66 : cd 217 66 = some (.iload_n 3, 1) := by decide +kernel
theorem k_217_67 : cd 217 67 = some (.iconst 2, 1) := by decide +kernel
theorem k_217_68 : cd 217 68 = some (.if_icmp .ne 7, 3) := by decide +kernel
theorem k_217_71 : cd 217 71 = some (.iconst 1, 1) := by decide +kernel
theorem k_217_72 : cd 217 72 = some (.goto 4, 3) := by decide +kernel
theorem k_217_75 : cd 217 75 = some (.iconst 0, 1) := by decide +kernel
theorem k_217_76 : cd 217 76 = some (.putfield 225, 3) := by decide +kernel
theorem k_217_79 : cd 217 79 = some (.aload_n 0, 1) := by decide +kernel
theorem k_217_80 : cd 217 80 = some (.aload_n 0, 1) := by decide +kernel
theorem k_217_81 : cd 217 81 = some (.getfield 225, 3) := by decide +kernel
theorem k_217_84 : cd 217 84 = some (.ifCond .eq 10, 3) := by decide +kernel
theorem k_217_87 : cd 217 87 = some (.aload_n 0, 1) := by decide +kernel
theorem k_217_88 : cd 217 88 = some (.getfield 38, 3) := by decide +kernel
theorem k_217_91 : cd 217 91 = some (.goto 7, 3) := by decide +kernel
theorem k_217_94 : cd 217 94 = some (.aload_n 0, 1) := by decide +kernel
theorem k_217_95 : cd 217 95 = some (.getfield 31, 3) := by decide +kernel
theorem k_217_98 : cd 217 98 = some (.putfield 41, 3) := by decide +kernel
theorem k_217_101 : cd 217 101 = some (.aload_n 0, 1) := by decide +kernel
theorem k_217_102 : cd 217 102 = some (.iconst 0, 1) := by decide +kernel
theorem k_217_103 : cd 217 103 = some (.invokevirtual 242, 3) := by decide +kernel
theorem k_217_106 : cd 217 106 = some (.goto 55, 3) := by decide +kernel
theorem k_217_109 : cd 217 109 = some (.iload_n 2, 1) := by decide +kernel
theorem k_217_110 : cd 217 110 = some (.iconst (-1), 1) := by decide +kernel
theorem k_217_111 : cd 217 111 = some (.if_icmp .eq 11, 3) := by decide +kernel
theorem k_217_114 : cd 217 114 = some (.aload_n 0, 1) := by decide +kernel
theorem k_217_115 : cd 217 115 = some (.iload_n 2, 1) := by decide +kernel
theorem k_217_116 : cd 217 116 = some (.invokevirtual 277, 3) := by decide +kernel
theorem k_217_119 : cd 217 119 = some (.goto 42, 3) := by decide +kernel
theorem k_217_122 : cd 217 122 = some (.aload_n 0, 1) := by decide +kernel
theorem k_217_123 : cd 217 123 = some (.ldc_w 280, 3) := by decide +kernel
theorem k_217_126 : cd 217 126 = some (.invokevirtual 208, 3) := by decide +kernel
theorem k_217_129 : cd 217 129 = some (.ifCond .eq 10, 3) := by decide +kernel
theorem k_217_132 : cd 217 132 = some (.aload_n 0, 1) := by decide +kernel
theorem k_217_133 : cd 217 133 = some (.invokevirtual 282, 3) := by decide +kernel
theorem k_217_136 : cd 217 136 = some (.goto 25, 3) := by decide +kernel
theorem k_217_139 : cd 217 139 = some (.aload_n 0, 1) := by decide +kernel
theorem k_217_140 : cd 217 140 = some (.ldc_w 285, 3) := by decide +kernel
theorem k_217_143 : cd 217 143 = some (.invokevirtual 208, 3) := by decide +kernel
theorem k_217_146 : cd 217 146 = some (.ifCond .eq 10, 3) := by decide +kernel
theorem k_217_149 : cd 217 149 = some (.aload_n 0, 1) := by decide +kernel
theorem k_217_150 : cd 217 150 = some (.invokevirtual 287, 3) := by decide +kernel
theorem k_217_153 : cd 217 153 = some (.goto 8, 3) := by decide +kernel
theorem k_217_156 : cd 217 156 = some (.aload_n 0, 1) := by decide +kernel
theorem k_217_157 : cd 217 157 = some (.iconst 1, 1) := by decide +kernel
theorem k_217_158 : cd 217 158 = some (.invokevirtual 215, 3) := by decide +kernel
theorem k_217_161 : cd 217 161 = some (.aload_n 0, 1) := by decide +kernel
theorem k_217_162 : cd 217 162 = some (.bipush 59, 2) := by decide +kernel
theorem k_217_164 : cd 217 164 = some (.invokevirtual 239, 3) := by decide +kernel
theorem k_217_167 : cd 217 167 = some (.iload_n 1, 1) := by decide +kernel
theorem k_217_168 : cd 217 168 = some (.iload_n 3, 1) := by decide +kernel
theorem k_217_169 : cd 217 169 = some (.ior, 1) := by decide +kernel
theorem k_217_170 : cd 217 170 = some (.ireturn, 1) := by decide +kernel
theorem po_217 : po 217 = 9 := rfl
noncomputable def C_217_50  (x1 : Int32) (x2 : Int32) (x3 : Int32) (σ : pS) : Option pZ := den 217 0 50 [.ref 61, .int x1, .int x2, .int x3] [] σ
noncomputable def C_217_76  (x1 : Int32) (v2 : Value) (x3 : Int32) (s1 : Int32) (σ : pS) : Option pZ := den 217 0 76 [.ref 61, .int x1, v2, .int x3] [.int s1, .ref 61] σ
noncomputable def C_217_109  (x1 : Int32) (x2 : Int32) (x3 : Int32) (σ : pS) : Option pZ := den 217 0 109 [.ref 61, .int x1, .int x2, .int x3] [] σ
theorem T_217_50  {x1 : Int32} {x2 : Int32} {x3 : Int32}  {σ : pS} {ρ : Nat → Nat → Option Nat} (e : gR σ = ρ) (hL : LayR ρ) : Le
  (if x3 ≤ (ι 0) then C_217_109 x1 x2 x3 σ else if ¬ (gI σ 61 22) = (ι 0) then C_217_109 x1 x2 x3 σ else bV (pcall 212 [.ref 61] σ) fun σ1 => if ¬ x3 = (ι 2) then C_217_76 x1 (.int x2) x3 (ι 0) σ1 else C_217_76 x1 (.int x2) x3 (ι 1) σ1)
  (C_217_50  x1 x2 x3 σ) := by
  unfold C_217_50
  exact r_iload_n k_217_50 rfl rfl
    (r_if (tgt := 109) k_217_51 rfl rfl cop_le
    (Le.rfl')
    (r_aload_n k_217_54 rfl rfl
    (r_getI k_217_55 rfl po_217 rfl rfl rfl rfl
    (r_if (tgt := 109) k_217_58 rfl rfl cop_ne
    (Le.rfl')
    (r_aload_n k_217_61 rfl rfl
    (r_callV (q_virt (rest := []) (as := []) k_217_62 po_217 rfl rfl rfl (rcvO rfl rfl rfl) rfl rfl) (lvq (j := 0) rfl (by decide +kernel)) rfl rfl (fun _ σ1 h1 => r_aload_n k_217_65 rfl rfl
    (r_iload_n k_217_66 rfl rfl
    (r_iconst k_217_67 rfl rfl
    (r_icmp (tgt := 75) k_217_68 rfl rfl cop_ne
    (r_iconst k_217_75 rfl rfl
    (Le.rfl'))
    (r_iconst k_217_71 rfl rfl
    (r_goto (tgt := 76) k_217_72 rfl (Le.rfl')))))))))))))
theorem T_217_76  {x1 : Int32} {v2 : Value} {x3 : Int32} {s1 : Int32}  {σ : pS} {ρ : Nat → Nat → Option Nat} (e : gR σ = ρ) (hL : LayR ρ) : Le
  (gd (s1 = ι 0 ∨ s1 = ι 1) (if (gI (sI σ 61 25 s1) 61 25) = (ι 0) then gd (LayR (gR (sR (sI σ 61 25 s1) 61 3 (some 63)))) (bV (pcall 221 [.ref 61, .int (ι 0)] (sR (sI σ 61 25 s1) 61 3 (some 63))) fun σ2 => bV (pcall 231 [.ref 61, .int (ι 59)] σ2) fun σ3 => some (1, .int (x1 ||| x3), σ3)) else gd (LayR (gR (sR (sI σ 61 25 s1) 61 3 (some 64)))) (bV (pcall 221 [.ref 61, .int (ι 0)] (sR (sI σ 61 25 s1) 61 3 (some 64))) fun σ5 => bV (pcall 231 [.ref 61, .int (ι 59)] σ5) fun σ6 => some (1, .int (x1 ||| x3), σ6))))
  (C_217_76  x1 v2 x3 s1 σ) := by
  unfold C_217_76
  exact r_gd fun g => r_putZ k_217_76 rfl po_217 rfl rfl rfl g
    (r_aload_n k_217_79 rfl rfl
    (r_aload_n k_217_80 rfl rfl
    (r_getI k_217_81 rfl po_217 rfl rfl rfl rfl
    (r_if (tgt := 94) k_217_84 rfl rfl cop_eq
    (r_aload_n k_217_94 rfl rfl
    (r_getR k_217_95 rfl po_217 rfl rfl rfl rfl (gRat (eI e) (LayR.at hL (i := 64) rfl))
    (r_gd fun L1 => r_putR k_217_98 rfl po_217 rfl rfl (Or.inl rfl) rfl
    (r_aload_n k_217_101 rfl rfl
    (r_iconst k_217_102 rfl rfl
    (r_callV (q_virt (rest := []) (as := [.int (ι 0)]) k_217_103 po_217 rfl rfl rfl (rcvO rfl rfl rfl) rfl rfl) (lvq (j := 0) rfl (by decide +kernel)) rfl rfl (fun _ σ2 h2 => r_goto (tgt := 161) k_217_106 rfl (r_aload_n k_217_161 rfl rfl
    (r_bipush k_217_162 rfl rfl
    (r_callV (q_virt (rest := []) (as := [.int (ι 59)]) k_217_164 po_217 rfl rfl rfl (rcvO rfl rfl rfl) rfl rfl) (lvq (j := 0) rfl (by decide +kernel)) rfl rfl (fun _ σ3 h3 => r_iload_n k_217_167 rfl rfl
    (r_iload_n k_217_168 rfl rfl
    (r_ior k_217_169 rfl
    (r_ret k_217_170 rfl rfl))))))))))))))
    (r_aload_n k_217_87 rfl rfl
    (r_getR k_217_88 rfl po_217 rfl rfl rfl rfl (gRat (eI e) (LayR.at hL (i := 65) rfl))
    (r_goto (tgt := 98) k_217_91 rfl (r_gd fun L4 => r_putR k_217_98 rfl po_217 rfl rfl (Or.inl rfl) rfl
    (r_aload_n k_217_101 rfl rfl
    (r_iconst k_217_102 rfl rfl
    (r_callV (q_virt (rest := []) (as := [.int (ι 0)]) k_217_103 po_217 rfl rfl rfl (rcvO rfl rfl rfl) rfl rfl) (lvq (j := 0) rfl (by decide +kernel)) rfl rfl (fun _ σ5 h5 => r_goto (tgt := 161) k_217_106 rfl (r_aload_n k_217_161 rfl rfl
    (r_bipush k_217_162 rfl rfl
    (r_callV (q_virt (rest := []) (as := [.int (ι 59)]) k_217_164 po_217 rfl rfl rfl (rcvO rfl rfl rfl) rfl rfl) (lvq (j := 0) rfl (by decide +kernel)) rfl rfl (fun _ σ6 h6 => r_iload_n k_217_167 rfl rfl
    (r_iload_n k_217_168 rfl rfl
    (r_ior k_217_169 rfl
    (r_ret k_217_170 rfl rfl)))))))))))))))))))
theorem T_217_109  {x1 : Int32} {x2 : Int32} {x3 : Int32}  {σ : pS} {ρ : Nat → Nat → Option Nat} (e : gR σ = ρ) (hL : LayR ρ) : Le
  (if x2 = (ν 1) then bI (pcall 219 [.ref 61, .ref 1002] σ) fun r1 σ1 => if r1 = (ι 0) then bI (pcall 219 [.ref 61, .ref 1005] σ1) fun r2 σ2 => if r2 = (ι 0) then bV (pcall 220 [.ref 61, .int (ι 1)] σ2) fun σ3 => bV (pcall 231 [.ref 61, .int (ι 59)] σ3) fun σ4 => some (1, .int (x1 ||| x3), σ4) else bV (pcall 235 [.ref 61] σ2) fun σ5 => bV (pcall 231 [.ref 61, .int (ι 59)] σ5) fun σ6 => some (1, .int (x1 ||| x3), σ6) else bV (pcall 234 [.ref 61] σ1) fun σ7 => bV (pcall 231 [.ref 61, .int (ι 59)] σ7) fun σ8 => some (1, .int (x1 ||| x3), σ8) else bV (pcall 232 [.ref 61, .int x2] σ) fun σ9 => bV (pcall 231 [.ref 61, .int (ι 59)] σ9) fun σ10 => some (1, .int (x1 ||| x3), σ10))
  (C_217_109  x1 x2 x3 σ) := by
  unfold C_217_109
  exact r_iload_n k_217_109 rfl rfl
    (r_iconst k_217_110 rfl rfl
    (r_icmp (tgt := 122) k_217_111 rfl rfl cop_eq
    (r_aload_n k_217_122 rfl rfl
    (r_ldcwS k_217_123 rfl po_217 rfl rfl
    (r_callI (q_virt (rest := []) (as := [.ref 1002]) k_217_126 po_217 rfl rfl rfl (rcvO rfl rfl rfl) rfl rfl) (lvq (j := 0) rfl (by decide +kernel)) rfl rfl (fun r1 σ1 h1 => r_if (tgt := 139) k_217_129 rfl rfl cop_eq
    (r_aload_n k_217_139 rfl rfl
    (r_ldcwS k_217_140 rfl po_217 rfl rfl
    (r_callI (q_virt (rest := []) (as := [.ref 1005]) k_217_143 po_217 rfl rfl rfl (rcvO rfl rfl rfl) rfl rfl) (lvq (j := 0) rfl (by decide +kernel)) rfl rfl (fun r2 σ2 h2 => r_if (tgt := 156) k_217_146 rfl rfl cop_eq
    (r_aload_n k_217_156 rfl rfl
    (r_iconst k_217_157 rfl rfl
    (r_callV (q_virt (rest := []) (as := [.int (ι 1)]) k_217_158 po_217 rfl rfl rfl (rcvO rfl rfl rfl) rfl rfl) (lvq (j := 0) rfl (by decide +kernel)) rfl rfl (fun _ σ3 h3 => r_aload_n k_217_161 rfl rfl
    (r_bipush k_217_162 rfl rfl
    (r_callV (q_virt (rest := []) (as := [.int (ι 59)]) k_217_164 po_217 rfl rfl rfl (rcvO rfl rfl rfl) rfl rfl) (lvq (j := 0) rfl (by decide +kernel)) rfl rfl (fun _ σ4 h4 => r_iload_n k_217_167 rfl rfl
    (r_iload_n k_217_168 rfl rfl
    (r_ior k_217_169 rfl
    (r_ret k_217_170 rfl rfl))))))))))
    (r_aload_n k_217_149 rfl rfl
    (r_callV (q_virt (rest := []) (as := []) k_217_150 po_217 rfl rfl rfl (rcvO rfl rfl rfl) rfl rfl) (lvq (j := 0) rfl (by decide +kernel)) rfl rfl (fun _ σ5 h5 => r_goto (tgt := 161) k_217_153 rfl (r_aload_n k_217_161 rfl rfl
    (r_bipush k_217_162 rfl rfl
    (r_callV (q_virt (rest := []) (as := [.int (ι 59)]) k_217_164 po_217 rfl rfl rfl (rcvO rfl rfl rfl) rfl rfl) (lvq (j := 0) rfl (by decide +kernel)) rfl rfl (fun _ σ6 h6 => r_iload_n k_217_167 rfl rfl
    (r_iload_n k_217_168 rfl rfl
    (r_ior k_217_169 rfl
    (r_ret k_217_170 rfl rfl))))))))))))))
    (r_aload_n k_217_132 rfl rfl
    (r_callV (q_virt (rest := []) (as := []) k_217_133 po_217 rfl rfl rfl (rcvO rfl rfl rfl) rfl rfl) (lvq (j := 0) rfl (by decide +kernel)) rfl rfl (fun _ σ7 h7 => r_goto (tgt := 161) k_217_136 rfl (r_aload_n k_217_161 rfl rfl
    (r_bipush k_217_162 rfl rfl
    (r_callV (q_virt (rest := []) (as := [.int (ι 59)]) k_217_164 po_217 rfl rfl rfl (rcvO rfl rfl rfl) rfl rfl) (lvq (j := 0) rfl (by decide +kernel)) rfl rfl (fun _ σ8 h8 => r_iload_n k_217_167 rfl rfl
    (r_iload_n k_217_168 rfl rfl
    (r_ior k_217_169 rfl
    (r_ret k_217_170 rfl rfl))))))))))))))
    (r_aload_n k_217_114 rfl rfl
    (r_iload_n k_217_115 rfl rfl
    (r_callV (q_virt (rest := []) (as := [.int x2]) k_217_116 po_217 rfl rfl rfl (rcvO rfl rfl rfl) rfl rfl) (lvq (j := 0) rfl (by decide +kernel)) rfl rfl (fun _ σ9 h9 => r_goto (tgt := 161) k_217_119 rfl (r_aload_n k_217_161 rfl rfl
    (r_bipush k_217_162 rfl rfl
    (r_callV (q_virt (rest := []) (as := [.int (ι 59)]) k_217_164 po_217 rfl rfl rfl (rcvO rfl rfl rfl) rfl rfl) (lvq (j := 0) rfl (by decide +kernel)) rfl rfl (fun _ σ10 h10 => r_iload_n k_217_167 rfl rfl
    (r_iload_n k_217_168 rfl rfl
    (r_ior k_217_169 rfl
    (r_ret k_217_170 rfl rfl)))))))))))))
theorem M_217  {x0 : Int32} {σ : pS} {ρ : Nat → Nat → Option Nat} (e : gR σ = ρ) (hL : LayR ρ) : Le
  (bI (pcall 218 [.ref 61, .ref 62] σ) fun r1 σ1 => bI (pcall 219 [.ref 61, .ref 1006] σ1) fun r2 σ2 => if r2 = (ι 0) then bI (pcall 219 [.ref 61, .ref 1018] σ2) fun r3 σ3 => if r3 = (ι 0) then if ((ι 0) &&& x0) = (ι 0) then C_217_50 x0 r1 (ι 0) σ3 else bV (pcall 220 [.ref 61, .int (ι 5)] σ3) fun σ4 => C_217_50 x0 r1 (ι 0) σ4 else if ((ι 2) &&& x0) = (ι 0) then C_217_50 x0 r1 (ι 2) σ3 else bV (pcall 220 [.ref 61, .int (ι 5)] σ3) fun σ5 => C_217_50 x0 r1 (ι 2) σ5 else if ((ι 1) &&& x0) = (ι 0) then C_217_50 x0 r1 (ι 1) σ2 else bV (pcall 220 [.ref 61, .int (ι 5)] σ2) fun σ6 => C_217_50 x0 r1 (ι 1) σ6)
  (pcall 217 [.ref 61, .int x0] σ) := by
  show Le _ (den 217 0 0 [.ref 61, .int x0, .retAddr 0, .retAddr 0] [] σ)
  exact r_aload_n k_217_0 rfl rfl
    (r_aload_n k_217_1 rfl rfl
    (r_getR k_217_2 rfl po_217 rfl rfl rfl rfl (gRat e (LayR.at hL (i := 63) rfl))
    (r_callI (q_virt (rest := []) (as := [.ref 62]) k_217_5 po_217 rfl rfl rfl (rcvO rfl rfl rfl) rfl rfl) (lvq (j := 0) rfl (by decide +kernel)) rfl rfl (fun r1 σ1 h1 => r_istore_n k_217_8 rfl rfl rfl
    (r_aload_n k_217_9 rfl rfl
    (r_ldcwS k_217_10 rfl po_217 rfl rfl
    (r_callI (q_virt (rest := []) (as := [.ref 1006]) k_217_13 po_217 rfl rfl rfl (rcvO rfl rfl rfl) rfl rfl) (lvq (j := 0) rfl (by decide +kernel)) rfl rfl (fun r2 σ2 h2 => r_if (tgt := 23) k_217_16 rfl rfl cop_eq
    (r_aload_n k_217_23 rfl rfl
    (r_ldcwS k_217_24 rfl po_217 rfl rfl
    (r_callI (q_virt (rest := []) (as := [.ref 1018]) k_217_27 po_217 rfl rfl rfl (rcvO rfl rfl rfl) rfl rfl) (lvq (j := 0) rfl (by decide +kernel)) rfl rfl (fun r3 σ3 h3 => r_if (tgt := 37) k_217_30 rfl rfl cop_eq
    (r_iconst k_217_37 rfl rfl
    (r_istore_n k_217_38 rfl rfl rfl
    (r_iload_n k_217_39 rfl rfl
    (r_iload_n k_217_40 rfl rfl
    (r_iand k_217_41 rfl
    (r_if (tgt := 50) k_217_42 rfl rfl cop_eq
    (Le.rfl')
    (r_aload_n k_217_45 rfl rfl
    (r_iconst k_217_46 rfl rfl
    (r_callV (q_virt (rest := []) (as := [.int (ι 5)]) k_217_47 po_217 rfl rfl rfl (rcvO rfl rfl rfl) rfl rfl) (lvq (j := 0) rfl (by decide +kernel)) rfl rfl (fun _ σ4 h4 => Le.rfl'))))))))))
    (r_iconst k_217_33 rfl rfl
    (r_goto (tgt := 38) k_217_34 rfl (r_istore_n k_217_38 rfl rfl rfl
    (r_iload_n k_217_39 rfl rfl
    (r_iload_n k_217_40 rfl rfl
    (r_iand k_217_41 rfl
    (r_if (tgt := 50) k_217_42 rfl rfl cop_eq
    (Le.rfl')
    (r_aload_n k_217_45 rfl rfl
    (r_iconst k_217_46 rfl rfl
    (r_callV (q_virt (rest := []) (as := [.int (ι 5)]) k_217_47 po_217 rfl rfl rfl (rcvO rfl rfl rfl) rfl rfl) (lvq (j := 0) rfl (by decide +kernel)) rfl rfl (fun _ σ5 h5 => Le.rfl')))))))))))))))
    (r_iconst k_217_19 rfl rfl
    (r_goto (tgt := 38) k_217_20 rfl (r_istore_n k_217_38 rfl rfl rfl
    (r_iload_n k_217_39 rfl rfl
    (r_iload_n k_217_40 rfl rfl
    (r_iand k_217_41 rfl
    (r_if (tgt := 50) k_217_42 rfl rfl cop_eq
    (Le.rfl')
    (r_aload_n k_217_45 rfl rfl
    (r_iconst k_217_46 rfl rfl
    (r_callV (q_virt (rest := []) (as := [.int (ι 5)]) k_217_47 po_217 rfl rfl rfl (rcvO rfl rfl rfl) rfl rfl) (lvq (j := 0) rfl (by decide +kernel)) rfl rfl (fun _ σ6 h6 => Le.rfl')))))))))))))))))))
/-! ===== 218 HedgeWantsModel.which ===== -/
theorem k_218_0 : cd 218 0 = some (.iconst 0, 1) := by decide +kernel
theorem k_218_1 : cd 218 1 = some (.istore_n 2, 1) := by decide +kernel
theorem k_218_2 : cd 218 2 = some (.iload_n 2, 1) := by decide +kernel
theorem k_218_3 : cd 218 3 = some (.aload_n 1, 1) := by decide +kernel
theorem k_218_4 : cd 218 4 = some (.arraylength, 1) := by decide +kernel
theorem k_218_5 : cd 218 5 = some (.if_icmp .ge 21, 3) := by decide +kernel
theorem k_218_8 : cd 218 8 = some (.aload_n 0, 1) := by decide +kernel
theorem k_218_9 : cd 218 9 = some (.aload_n 1, 1) := by decide +kernel
theorem k_218_10 : cd 218 10 = some (.iload_n 2, 1) := by decide +kernel
theorem k_218_11 : cd 218 11 = some (.aaload, 1) := by decide +kernel
theorem k_218_12 : cd 218 12 = some (.invokevirtual 208, 3) := by decide +kernel
theorem k_218_15 : cd 218 15 = some (.ifCond .eq 5, 3) := by decide +kernel
theorem k_218_18 : cd 218 18 = some (.iload_n 2, 1) := by decide +kernel
theorem k_218_19 : cd 218 19 = some (.ireturn, 1) := by decide +kernel
theorem k_218_20 : cd 218 20 = some (.iinc 2 1, 3) := by decide +kernel
theorem k_218_23 : cd 218 23 = some (.goto (-21), 3) := by decide +kernel
theorem k_218_26 : cd 218 26 = some (.iconst (-1), 1) := by decide +kernel
theorem k_218_27 : cd 218 27 = some (.ireturn, 1) := by decide +kernel
theorem po_218 : po 218 = 9 := rfl
noncomputable def C_218_2 (a0 n0 : Nat) (x2 : Int32) (σ : pS) : Option pZ := den 218 0 2 [.ref 61, .ref a0, .int x2] [] σ
theorem T_218_2 {a0 n0 : Nat} (ha0 : kd a0 = (102, n0)) {x2 : Int32}  {σ : pS} {ρ : Nat → Nat → Option Nat} (e : gR σ = ρ) (hL : LayR ρ) : Le
  (if (ι n0) ≤ x2 then some (1, .int (ν 1), σ) else gd (inb x2 n0) (bG isS (gR σ a0 (ix x2)) fun q1 => bI (pcall 219 [.ref 61, .ref q1] σ) fun r2 σ2 => if r2 = (ι 0) then C_218_2 a0 n0 (x2 + (ι 1)) σ2 else some (1, .int x2, σ2)))
  (C_218_2 a0 n0 x2 σ) := by
  unfold C_218_2
  exact r_iload_n k_218_2 rfl rfl
    (r_aload_n k_218_3 rfl rfl
    (r_alenR k_218_4 rfl ha0 rfl
    (r_icmp (tgt := 26) k_218_5 rfl rfl cop_ge
    (r_iconst k_218_26 rfl rfl
    (r_ret k_218_27 rfl rfl))
    (r_aload_n k_218_8 rfl rfl
    (r_aload_n k_218_9 rfl rfl
    (r_iload_n k_218_10 rfl rfl
    (r_gd fun g => r_aaldG k_218_11 rfl ha0 g fun q1 hq1 => r_callI (q_virt (rest := []) (as := [.ref q1]) k_218_12 po_218 rfl rfl rfl (rcvO rfl rfl rfl) rfl rfl) (lvq (j := 0) rfl (by decide +kernel)) rfl rfl (fun r2 σ2 h2 => r_if (tgt := 20) k_218_15 rfl rfl cop_eq
    (r_iinc k_218_20 rfl rfl rfl rfl
    (r_goto (tgt := 2) k_218_23 rfl (Le.rfl')))
    (r_iload_n k_218_18 rfl rfl
    (r_ret k_218_19 rfl rfl))))))))))
theorem M_218 {a0 n0 : Nat} (ha0 : kd a0 = (102, n0))  {σ : pS} {ρ : Nat → Nat → Option Nat} (e : gR σ = ρ) (hL : LayR ρ) : Le
  (C_218_2 a0 n0 (ι 0) σ)
  (pcall 218 [.ref 61, .ref a0] σ) := by
  show Le _ (den 218 0 0 [.ref 61, .ref a0, .retAddr 0] [] σ)
  exact r_iconst k_218_0 rfl rfl
    (r_istore_n k_218_1 rfl rfl rfl
    (Le.rfl'))
/-! ===== 219 HedgeWantsModel.is ===== -/
theorem k_219_0 : cd 219 0 = some (.aload_n 0, 1) := by decide +kernel
theorem k_219_1 : cd 219 1 = some (.getfield 194, 3) := by decide +kernel
theorem k_219_4 : cd 219 4 = some (.ifCond .ne 31, 3) := by decide +kernel
theorem k_219_7 : cd 219 7 = some (.aload_n 0, 1) := by decide +kernel
theorem k_219_8 : cd 219 8 = some (.getfield 168, 3) := by decide +kernel
theorem k_219_11 : cd 219 11 = some (.iconst 1, 1) := by decide +kernel
theorem k_219_12 : cd 219 12 = some (.if_icmp .ne 23, 3) := by decide +kernel
theorem k_219_15 : cd 219 15 = some (.aload_n 1, 1) := by decide +kernel
theorem k_219_16 : cd 219 16 = some (.invokevirtual 200, 3) := by decide +kernel
theorem k_219_19 : cd 219 19 = some (.aload_n 0, 1) := by decide +kernel
theorem k_219_20 : cd 219 20 = some (.getfield 191, 3) := by decide +kernel
theorem k_219_23 : cd 219 23 = some (.aload_n 0, 1) := by decide +kernel
theorem k_219_24 : cd 219 24 = some (.getfield 165, 3) := by decide +kernel
theorem k_219_27 : cd 219 27 = some (.isub, 1) := by decide +kernel
theorem k_219_28 : cd 219 28 = some (.if_icmp .ne 7, 3) := by decide +kernel
theorem k_219_31 : cd 219 31 = some (.iconst 1, 1) := by decide +kernel
theorem k_219_32 : cd 219 32 = some (.goto 4, 3) := by decide +kernel
theorem k_219_35 : cd 219 35 = some (.iconst 0, 1) := by decide +kernel
theorem k_219_36 : cd 219 36 = some (.istore_n 2, 1) := by decide +kernel
theorem k_219_37 : cd 219 37 = some (.iconst 0, 1) := by decide +kernel
theorem k_219_38 : cd 219 38 = some (.istore_n 3, 1) := by decide +kernel
theorem k_219_39 : cd 219 39 = some (.iload_n 2, 1) := by decide +kernel
theorem k_219_40 : cd 219 40 = some (.ifCond .eq 42, 3) := by decide +kernel
theorem k_219_43 : cd 219 43 = some (.iload_n 3, 1) := by decide +kernel
theorem k_219_44 : cd 219 44 = some (.aload_n 1, 1) := by decide +kernel
theorem k_219_45 : cd 219 45 = some (.invokevirtual 200, 3) := by decide +kernel
theorem k_219_48 : cd 219 48 = some (.if_icmp .ge 34, 3) := by decide +kernel
theorem k_219_51 : cd 219 51 = some (.aload_n 1, 1) := by decide +kernel
theorem k_219_52 : cd 219 52 = some (.iload_n 3, 1) := by decide +kernel
theorem k_219_53 : cd 219 53 = some (.invokevirtual 204, 3) := by decide +kernel
theorem k_219_56 : cd 219 56 = some (.aload_n 0, 1) := by decide +kernel
theorem k_219_57 : cd 219 57 = some (.getfield 70, 3) := by decide +kernel
theorem k_219_60 : cd 219 60 = some (.aload_n 0, 1) := by decide +kernel
theorem k_219_61 : cd 219 61 = some (.getfield 165, 3) := by decide +kernel
theorem k_219_64 : cd 219 64 = some (.iload_n 3, 1) := by decide +kernel
theorem k_219_65 : cd 219 65 = some (.iadd, 1) := by decide +kernel
theorem k_219_66 : cd 219 66 = some (.iaload, 1) := by decide +kernel
theorem k_219_67 : cd 219 67 = some (.if_icmp .ne 7, 3) := by decide +kernel
theorem k_219_70 : cd 219 70 = some (.iconst 1, 1) := by decide +kernel
theorem k_219_71 : cd 219 71 = some (.goto 4, 3) := by decide +kernel
theorem k_219_74 : cd 219 74 = some (.iconst 0, 1) := by decide +kernel
theorem k_219_75 : cd 219 75 = some (.istore_n 2, 1) := by decide +kernel
theorem k_219_76 : cd 219 76 = some (.iinc 3 1, 3) := by decide +kernel
theorem k_219_79 : cd 219 79 = some (.goto (-40), 3) := by decide +kernel
theorem k_219_82 : cd 219 82 = some (.iload_n 2, 1) := by decide +kernel
theorem k_219_83 : cd 219 83 = some (.ireturn, 1) := by decide +kernel
theorem po_219 : po 219 = 9 := rfl
noncomputable def C_219_39 (i1 : Nat) (x2 : Int32) (x3 : Int32) (σ : pS) : Option pZ := den 219 0 39 [.ref 61, .ref (i1 + 1000), .int x2, .int x3] [] σ
theorem T_219_39 {i1 : Nat} (hi1 : i1 < 26) {x2 : Int32} {x3 : Int32}  {σ : pS} {ρ : Nat → Nat → Option Nat} (e : gR σ = ρ) (hL : LayR ρ) : Le
  (if x2 = (ι 0) then gd (narrow .boolean (.int x2) = .int x2) (some (1, .int x2, σ)) else bI (pcall 11 [.ref (i1 + 1000)] σ) fun r1 σ1 => if r1 ≤ x3 then gd (narrow .boolean (.int x2) = .int x2) (some (1, .int x2, σ1)) else bI (pcall 13 [.ref (i1 + 1000), .int x3] σ1) fun r2 σ2 => gd (inb ((gI σ2 61 20) + x3) 700) (if ¬ r2 = (gI σ2 74 (ix ((gI σ2 61 20) + x3))) then C_219_39 i1 (ι 0) (x3 + (ι 1)) σ2 else C_219_39 i1 (ι 1) (x3 + (ι 1)) σ2))
  (C_219_39 i1 x2 x3 σ) := by
  unfold C_219_39
  exact r_iload_n k_219_39 rfl rfl
    (r_if (tgt := 82) k_219_40 rfl rfl cop_eq
    (r_iload_n k_219_82 rfl rfl
    (r_gd fun g => r_ret k_219_83 rfl g))
    (r_iload_n k_219_43 rfl rfl
    (r_aload_n k_219_44 rfl rfl
    (r_callI (q_virt (rest := [.int x3]) (as := []) k_219_45 po_219 rfl rfl rfl (rcvS (i := i1) rfl hi1) rfl rfl) (lvq (j := 0) rfl (by decide +kernel)) rfl rfl (fun r1 σ1 h1 => r_icmp (tgt := 82) k_219_48 rfl rfl cop_ge
    (r_iload_n k_219_82 rfl rfl
    (r_gd fun g => r_ret k_219_83 rfl g))
    (r_aload_n k_219_51 rfl rfl
    (r_iload_n k_219_52 rfl rfl
    (r_callI (q_virt (rest := []) (as := [.int x3]) k_219_53 po_219 rfl rfl rfl (rcvS (i := i1) rfl hi1) rfl rfl) (lvq (j := 0) rfl (by decide +kernel)) rfl rfl (fun r2 σ2 h2 => r_aload_n k_219_56 rfl rfl
    (r_getR k_219_57 rfl po_219 rfl rfl rfl rfl (gRat (eC rfl h2 (eC rfl h1 e)) (LayR.at hL (i := 75) rfl))
    (r_aload_n k_219_60 rfl rfl
    (r_getI k_219_61 rfl po_219 rfl rfl rfl rfl
    (r_iload_n k_219_64 rfl rfl
    (r_iadd k_219_65 rfl
    (r_gd fun g => r_iald k_219_66 rfl rfl g
    (r_icmp (tgt := 74) k_219_67 rfl rfl cop_ne
    (r_iconst k_219_74 rfl rfl
    (r_istore_n k_219_75 rfl rfl rfl
    (r_iinc k_219_76 rfl rfl rfl rfl
    (r_goto (tgt := 39) k_219_79 rfl (Le.rfl')))))
    (r_iconst k_219_70 rfl rfl
    (r_goto (tgt := 75) k_219_71 rfl (r_istore_n k_219_75 rfl rfl rfl
    (r_iinc k_219_76 rfl rfl rfl rfl
    (r_goto (tgt := 39) k_219_79 rfl (Le.rfl'))))))))))))))))))))))
theorem M_219 {i1 : Nat} (hi1 : i1 < 26)  {σ : pS} {ρ : Nat → Nat → Option Nat} (e : gR σ = ρ) (hL : LayR ρ) : Le
  (if ¬ (gI σ 61 22) = (ι 0) then C_219_39 i1 (ι 0) (ι 0) σ else if ¬ (gI σ 61 18) = (ι 1) then C_219_39 i1 (ι 0) (ι 0) σ else bI (pcall 11 [.ref (i1 + 1000)] σ) fun r1 σ1 => if ¬ r1 = ((gI σ1 61 21) - (gI σ1 61 20)) then C_219_39 i1 (ι 0) (ι 0) σ1 else C_219_39 i1 (ι 1) (ι 0) σ1)
  (pcall 219 [.ref 61, .ref (i1 + 1000)] σ) := by
  show Le _ (den 219 0 0 [.ref 61, .ref (i1 + 1000), .retAddr 0, .retAddr 0] [] σ)
  exact r_aload_n k_219_0 rfl rfl
    (r_getI k_219_1 rfl po_219 rfl rfl rfl rfl
    (r_if (tgt := 35) k_219_4 rfl rfl cop_ne
    (r_iconst k_219_35 rfl rfl
    (r_istore_n k_219_36 rfl rfl rfl
    (r_iconst k_219_37 rfl rfl
    (r_istore_n k_219_38 rfl rfl rfl
    (Le.rfl')))))
    (r_aload_n k_219_7 rfl rfl
    (r_getI k_219_8 rfl po_219 rfl rfl rfl rfl
    (r_iconst k_219_11 rfl rfl
    (r_icmp (tgt := 35) k_219_12 rfl rfl cop_ne
    (r_iconst k_219_35 rfl rfl
    (r_istore_n k_219_36 rfl rfl rfl
    (r_iconst k_219_37 rfl rfl
    (r_istore_n k_219_38 rfl rfl rfl
    (Le.rfl')))))
    (r_aload_n k_219_15 rfl rfl
    (r_callI (q_virt (rest := []) (as := []) k_219_16 po_219 rfl rfl rfl (rcvS (i := i1) rfl hi1) rfl rfl) (lvq (j := 0) rfl (by decide +kernel)) rfl rfl (fun r1 σ1 h1 => r_aload_n k_219_19 rfl rfl
    (r_getI k_219_20 rfl po_219 rfl rfl rfl rfl
    (r_aload_n k_219_23 rfl rfl
    (r_getI k_219_24 rfl po_219 rfl rfl rfl rfl
    (r_isub k_219_27 rfl
    (r_icmp (tgt := 35) k_219_28 rfl rfl cop_ne
    (r_iconst k_219_35 rfl rfl
    (r_istore_n k_219_36 rfl rfl rfl
    (r_iconst k_219_37 rfl rfl
    (r_istore_n k_219_38 rfl rfl rfl
    (Le.rfl')))))
    (r_iconst k_219_31 rfl rfl
    (r_goto (tgt := 36) k_219_32 rfl (r_istore_n k_219_36 rfl rfl rfl
    (r_iconst k_219_37 rfl rfl
    (r_istore_n k_219_38 rfl rfl rfl
    (Le.rfl'))))))))))))))))))))
/-! ===== 220 HedgeWantsModel.wrong ===== -/
theorem k_220_0 : cd 220 0 = some (.aload_n 0, 1) := by decide +kernel
theorem k_220_1 : cd 220 1 = some (.getfield 194, 3) := by decide +kernel
theorem k_220_4 : cd 220 4 = some (.ifCond .eq 4, 3) := by decide +kernel
theorem k_220_7 : cd 220 7 = some (.return_, 1) := by decide +kernel
theorem k_220_8 : cd 220 8 = some (.aload_n 0, 1) := by decide +kernel
theorem k_220_9 : cd 220 9 = some (.iload_n 1, 1) := by decide +kernel
theorem k_220_10 : cd 220 10 = some (.putfield 194, 3) := by decide +kernel
theorem k_220_13 : cd 220 13 = some (.aload_n 0, 1) := by decide +kernel
theorem k_220_14 : cd 220 14 = some (.aload_n 0, 1) := by decide +kernel
theorem k_220_15 : cd 220 15 = some (.getfield 165, 3) := by decide +kernel
theorem k_220_18 : cd 220 18 = some (.putfield 197, 3) := by decide +kernel
theorem k_220_21 : cd 220 21 = some (.return_, 1) := by decide +kernel
theorem po_220 : po 220 = 9 := rfl
theorem M_220  {x0 : Int32} {σ : pS} {ρ : Nat → Nat → Option Nat} (e : gR σ = ρ) (hL : LayR ρ) : Le
  (if (gI σ 61 22) = (ι 0) then some (0, .null, (sI (sI σ 61 22 x0) 61 23 (gI (sI σ 61 22 x0) 61 20))) else some (0, .null, σ))
  (pcall 220 [.ref 61, .int x0] σ) := by
  show Le _ (den 220 0 0 [.ref 61, .int x0] [] σ)
  exact r_aload_n k_220_0 rfl rfl
    (r_getI k_220_1 rfl po_220 rfl rfl rfl rfl
    (r_if (tgt := 8) k_220_4 rfl rfl cop_eq
    (r_aload_n k_220_8 rfl rfl
    (r_iload_n k_220_9 rfl rfl
    (r_putI k_220_10 rfl po_220 rfl rfl rfl
    (r_aload_n k_220_13 rfl rfl
    (r_aload_n k_220_14 rfl rfl
    (r_getI k_220_15 rfl po_220 rfl rfl rfl rfl
    (r_putI k_220_18 rfl po_220 rfl rfl rfl
    (r_retV k_220_21 rfl))))))))
    (r_retV k_220_7 rfl)))
/-! ===== 221 HedgeWantsModel.readExpression ===== -/
theorem k_221_0 : cd 221 0 = some (.aload_n 0, 1) := by decide +kernel
theorem k_221_1 : cd 221 1 = some (.getfield 194, 3) := by decide +kernel
theorem k_221_4 : cd 221 4 = some (.ifCond .eq 4, 3) := by decide +kernel
theorem k_221_7 : cd 221 7 = some (.return_, 1) := by decide +kernel
theorem k_221_8 : cd 221 8 = some (.aload_n 0, 1) := by decide +kernel
theorem k_221_9 : cd 221 9 = some (.getfield 168, 3) := by decide +kernel
theorem k_221_12 : cd 221 12 = some (.iconst 2, 1) := by decide +kernel
theorem k_221_13 : cd 221 13 = some (.if_icmp .eq 20, 3) := by decide +kernel
theorem k_221_16 : cd 221 16 = some (.aload_n 0, 1) := by decide +kernel
theorem k_221_17 : cd 221 17 = some (.getfield 168, 3) := by decide +kernel
theorem k_221_20 : cd 221 20 = some (.iconst 1, 1) := by decide +kernel
theorem k_221_21 : cd 221 21 = some (.if_icmp .eq 12, 3) := by decide +kernel
theorem k_221_24 : cd 221 24 = some (.aload_n 0, 1) := by decide +kernel
theorem k_221_25 : cd 221 25 = some (.bipush 40, 2) := by decide +kernel
theorem k_221_27 : cd 221 27 = some (.invokevirtual 212, 3) := by decide +kernel
theorem k_221_30 : cd 221 30 = some (.ifCond .eq 7, 3) := by decide +kernel
theorem k_221_33 : cd 221 33 = some (.iconst 1, 1) := by decide +kernel
theorem k_221_34 : cd 221 34 = some (.goto 4, 3) := by decide +kernel
theorem k_221_37 : cd 221 37 = some (.iconst 0, 1) := by decide +kernel
theorem k_221_38 : cd 221 38 = some (.istore_n 2, 1) := by decide +kernel
theorem k_221_39 : cd 221 39 = some (.iload_n 2, 1) := by decide +kernel
theorem k_221_40 : cd 221 40 = some (.ifCond .ne 11, 3) := by decide +kernel
theorem k_221_43 : cd 221 43 = some (.aload_n 0, 1) := by decide +kernel
theorem k_221_44 : cd 221 44 = some (.iconst 1, 1) := by decide +kernel
theorem k_221_45 : cd 221 45 = some (.invokevirtual 215, 3) := by decide +kernel
theorem k_221_48 : cd 221 48 = some (.goto 14, 3) := by decide +kernel
theorem k_221_51 : cd 221 51 = some (.iload_n 1, 1) := by decide +kernel
theorem k_221_52 : cd 221 52 = some (.bipush 6, 2) := by decide +kernel
theorem k_221_54 : cd 221 54 = some (.if_icmp .ne 8, 3) := by decide +kernel
theorem k_221_57 : cd 221 57 = some (.aload_n 0, 1) := by decide +kernel
theorem k_221_58 : cd 221 58 = some (.iconst 2, 1) := by decide +kernel
theorem k_221_59 : cd 221 59 = some (.invokevirtual 215, 3) := by decide +kernel
theorem k_221_62 : cd 221 62 = some (.aload_n 0, 1) := by decide +kernel
theorem k_221_63 : cd 221 63 = some (.iload_n 1, 1) := by decide +kernel
theorem k_221_64 : cd 221 64 = some (.invokevirtual 261, 3) := by decide +kernel
theorem k_221_67 : cd 221 67 = some (.aload_n 0, 1) := by decide +kernel
theorem k_221_68 : cd 221 68 = some (.ldc_w 264, 3) := by decide +kernel
theorem k_221_71 : cd 221 71 = some (.invokevirtual 208, 3) := by decide +kernel
theorem k_221_74 : cd 221 74 = some (.ifCond .eq 21, 3) := by decide +kernel
theorem k_221_77 : cd 221 77 = some (.aload_n 0, 1) := by decide +kernel
theorem k_221_78 : cd 221 78 = some (.invokevirtual 219, 3) := by decide +kernel
theorem k_221_81 : cd 221 81 = some (.aload_n 0, 1) := by decide +kernel
theorem k_221_82 : cd 221 82 = some (.iload_n 1, 1) := by decide +kernel
theorem k_221_83 : cd 221 83 = some (.invokevirtual 261, 3) := by decide +kernel
theorem k_221_86 : cd 221 86 = some (.aload_n 0, 1) := by decide +kernel
theorem k_221_87 : cd 221 87 = some (.bipush (-27), 2) := by decide +kernel
theorem k_221_89 : cd 221 89 = some (.invokevirtual 232, 3) := by decide +kernel
theorem k_221_92 : cd 221 92 = some (.goto (-25), 3) := by decide +kernel
theorem k_221_95 : cd 221 95 = some (.return_, 1) := by decide +kernel
theorem po_221 : po 221 = 9 := rfl
noncomputable def C_221_38  (k : Nat) (x1 : Int32) (v2 : Value) (s0 : Int32) (σ : pS) : Option pZ := den 221 k 38 [.ref 61, .int x1, v2] [.int s0] σ
noncomputable def C_221_67  (k : Nat) (x1 : Int32) (v2 : Value) (σ : pS) : Option pZ := den 221 k 67 [.ref 61, .int x1, v2] [] σ
theorem T_221_38  {k : Nat} {x1 : Int32} {v2 : Value} {s0 : Int32}  {σ : pS} {ρ : Nat → Nat → Option Nat} (e : gR σ = ρ) (hL : LayR ρ) : Le
  (if ¬ s0 = (ι 0) then if ¬ x1 = (ι 6) then gd (lv 223 (rk 223 [.ref 61, .int x1]) < lv 221 k) (bV (pcall 223 [.ref 61, .int x1] σ) fun σ1 => C_221_67 k x1 (.int s0) σ1) else gd (lv 220 (rk 220 [.ref 61, .int (ι 2)]) < lv 221 k) (bV (pcall 220 [.ref 61, .int (ι 2)] σ) fun σ2 => gd (lv 223 (rk 223 [.ref 61, .int x1]) < lv 221 k) (bV (pcall 223 [.ref 61, .int x1] σ2) fun σ3 => C_221_67 k x1 (.int s0) σ3)) else gd (lv 220 (rk 220 [.ref 61, .int (ι 1)]) < lv 221 k) (bV (pcall 220 [.ref 61, .int (ι 1)] σ) fun σ4 => gd (lv 223 (rk 223 [.ref 61, .int x1]) < lv 221 k) (bV (pcall 223 [.ref 61, .int x1] σ4) fun σ5 => C_221_67 k x1 (.int s0) σ5)))
  (C_221_38  k x1 v2 s0 σ) := by
  unfold C_221_38
  exact r_istore_n k_221_38 rfl rfl rfl
    (r_iload_n k_221_39 rfl rfl
    (r_if (tgt := 51) k_221_40 rfl rfl cop_ne
    (r_iload_n k_221_51 rfl rfl
    (r_bipush k_221_52 rfl rfl
    (r_icmp (tgt := 62) k_221_54 rfl rfl cop_ne
    (r_aload_n k_221_62 rfl rfl
    (r_iload_n k_221_63 rfl rfl
    (r_gd fun g => r_callV (q_virt (rest := []) (as := [.int x1]) k_221_64 po_221 rfl rfl rfl (rcvO rfl rfl rfl) rfl rfl) g rfl rfl (fun _ σ1 h1 => Le.rfl'))))
    (r_aload_n k_221_57 rfl rfl
    (r_iconst k_221_58 rfl rfl
    (r_gd fun g => r_callV (q_virt (rest := []) (as := [.int (ι 2)]) k_221_59 po_221 rfl rfl rfl (rcvO rfl rfl rfl) rfl rfl) g rfl rfl (fun _ σ2 h2 => r_aload_n k_221_62 rfl rfl
    (r_iload_n k_221_63 rfl rfl
    (r_gd fun g => r_callV (q_virt (rest := []) (as := [.int x1]) k_221_64 po_221 rfl rfl rfl (rcvO rfl rfl rfl) rfl rfl) g rfl rfl (fun _ σ3 h3 => Le.rfl'))))))))))
    (r_aload_n k_221_43 rfl rfl
    (r_iconst k_221_44 rfl rfl
    (r_gd fun g => r_callV (q_virt (rest := []) (as := [.int (ι 1)]) k_221_45 po_221 rfl rfl rfl (rcvO rfl rfl rfl) rfl rfl) g rfl rfl (fun _ σ4 h4 => r_goto (tgt := 62) k_221_48 rfl (r_aload_n k_221_62 rfl rfl
    (r_iload_n k_221_63 rfl rfl
    (r_gd fun g => r_callV (q_virt (rest := []) (as := [.int x1]) k_221_64 po_221 rfl rfl rfl (rcvO rfl rfl rfl) rfl rfl) g rfl rfl (fun _ σ5 h5 => Le.rfl'))))))))))
theorem T_221_67  {k : Nat} {x1 : Int32} {v2 : Value}  {σ : pS} {ρ : Nat → Nat → Option Nat} (e : gR σ = ρ) (hL : LayR ρ) : Le
  (gd (lv 219 (rk 219 [.ref 61, .ref 1017]) < lv 221 k) (bI (pcall 219 [.ref 61, .ref 1017] σ) fun r1 σ1 => if r1 = (ι 0) then some (0, .null, σ1) else gd (lv 212 (rk 212 [.ref 61]) < lv 221 k) (bV (pcall 212 [.ref 61] σ1) fun σ2 => gd (lv 223 (rk 223 [.ref 61, .int x1]) < lv 221 k) (bV (pcall 223 [.ref 61, .int x1] σ2) fun σ3 => gd (lv 230 (rk 230 [.ref 61, .int (ν 27)]) < lv 221 k) (bV (pcall 230 [.ref 61, .int (ν 27)] σ3) fun σ4 => C_221_67 k x1 v2 σ4)))))
  (C_221_67  k x1 v2 σ) := by
  unfold C_221_67
  exact r_aload_n k_221_67 rfl rfl
    (r_ldcwS k_221_68 rfl po_221 rfl rfl
    (r_gd fun g => r_callI (q_virt (rest := []) (as := [.ref 1017]) k_221_71 po_221 rfl rfl rfl (rcvO rfl rfl rfl) rfl rfl) g rfl rfl (fun r1 σ1 h1 => r_if (tgt := 95) k_221_74 rfl rfl cop_eq
    (r_retV k_221_95 rfl)
    (r_aload_n k_221_77 rfl rfl
    (r_gd fun g => r_callV (q_virt (rest := []) (as := []) k_221_78 po_221 rfl rfl rfl (rcvO rfl rfl rfl) rfl rfl) g rfl rfl (fun _ σ2 h2 => r_aload_n k_221_81 rfl rfl
    (r_iload_n k_221_82 rfl rfl
    (r_gd fun g => r_callV (q_virt (rest := []) (as := [.int x1]) k_221_83 po_221 rfl rfl rfl (rcvO rfl rfl rfl) rfl rfl) g rfl rfl (fun _ σ3 h3 => r_aload_n k_221_86 rfl rfl
    (r_bipush k_221_87 rfl rfl
    (r_gd fun g => r_callV (q_virt (rest := []) (as := [.int (ν 27)]) k_221_89 po_221 rfl rfl rfl (rcvO rfl rfl rfl) rfl rfl) g rfl rfl (fun _ σ4 h4 => r_goto (tgt := 67) k_221_92 rfl (Le.rfl')))))))))))))
theorem M_221  {x0 : Int32} {σ : pS} {ρ : Nat → Nat → Option Nat} (e : gR σ = ρ) (hL : LayR ρ) : Le
  (if (gI σ 61 22) = (ι 0) then if (gI σ 61 18) = (ι 2) then C_221_38 (rk 221 [.ref 61, .int x0]) x0 (.retAddr 0) (ι 1) σ else if (gI σ 61 18) = (ι 1) then C_221_38 (rk 221 [.ref 61, .int x0]) x0 (.retAddr 0) (ι 1) σ else gd (lv 222 (rk 222 [.ref 61, .int (ι 40)]) < lv 221 (rk 221 [.ref 61, .int x0])) (bI (pcall 222 [.ref 61, .int (ι 40)] σ) fun r1 σ1 => if r1 = (ι 0) then C_221_38 (rk 221 [.ref 61, .int x0]) x0 (.retAddr 0) (ι 0) σ1 else C_221_38 (rk 221 [.ref 61, .int x0]) x0 (.retAddr 0) (ι 1) σ1) else some (0, .null, σ))
  (pcall 221 [.ref 61, .int x0] σ) := by
  show Le _ (den 221 (rk 221 [.ref 61, .int x0]) 0 [.ref 61, .int x0, .retAddr 0] [] σ)
  exact r_aload_n k_221_0 rfl rfl
    (r_getI k_221_1 rfl po_221 rfl rfl rfl rfl
    (r_if (tgt := 8) k_221_4 rfl rfl cop_eq
    (r_aload_n k_221_8 rfl rfl
    (r_getI k_221_9 rfl po_221 rfl rfl rfl rfl
    (r_iconst k_221_12 rfl rfl
    (r_icmp (tgt := 33) k_221_13 rfl rfl cop_eq
    (r_iconst k_221_33 rfl rfl
    (r_goto (tgt := 38) k_221_34 rfl (Le.rfl')))
    (r_aload_n k_221_16 rfl rfl
    (r_getI k_221_17 rfl po_221 rfl rfl rfl rfl
    (r_iconst k_221_20 rfl rfl
    (r_icmp (tgt := 33) k_221_21 rfl rfl cop_eq
    (r_iconst k_221_33 rfl rfl
    (r_goto (tgt := 38) k_221_34 rfl (Le.rfl')))
    (r_aload_n k_221_24 rfl rfl
    (r_bipush k_221_25 rfl rfl
    (r_gd fun g => r_callI (q_virt (rest := []) (as := [.int (ι 40)]) k_221_27 po_221 rfl rfl rfl (rcvO rfl rfl rfl) rfl rfl) g rfl rfl (fun r1 σ1 h1 => r_if (tgt := 37) k_221_30 rfl rfl cop_eq
    (r_iconst k_221_37 rfl rfl
    (Le.rfl'))
    (r_iconst k_221_33 rfl rfl
    (r_goto (tgt := 38) k_221_34 rfl (Le.rfl')))))))))))))))
    (r_retV k_221_7 rfl)))
/-! ===== 222 HedgeWantsModel.isMarked ===== -/
theorem k_222_0 : cd 222 0 = some (.aload_n 0, 1) := by decide +kernel
theorem k_222_1 : cd 222 1 = some (.getfield 194, 3) := by decide +kernel
theorem k_222_4 : cd 222 4 = some (.ifCond .ne 28, 3) := by decide +kernel
theorem k_222_7 : cd 222 7 = some (.aload_n 0, 1) := by decide +kernel
theorem k_222_8 : cd 222 8 = some (.getfield 168, 3) := by decide +kernel
theorem k_222_11 : cd 222 11 = some (.iconst 3, 1) := by decide +kernel
theorem k_222_12 : cd 222 12 = some (.if_icmp .ne 20, 3) := by decide +kernel
theorem k_222_15 : cd 222 15 = some (.aload_n 0, 1) := by decide +kernel
theorem k_222_16 : cd 222 16 = some (.getfield 70, 3) := by decide +kernel
theorem k_222_19 : cd 222 19 = some (.aload_n 0, 1) := by decide +kernel
theorem k_222_20 : cd 222 20 = some (.getfield 165, 3) := by decide +kernel
theorem k_222_23 : cd 222 23 = some (.iaload, 1) := by decide +kernel
theorem k_222_24 : cd 222 24 = some (.iload_n 1, 1) := by decide +kernel
theorem k_222_25 : cd 222 25 = some (.if_icmp .ne 7, 3) := by decide +kernel
theorem k_222_28 : cd 222 28 = some (.iconst 1, 1) := by decide +kernel
theorem k_222_29 : cd 222 29 = some (.goto 4, 3) := by decide +kernel
theorem k_222_32 : cd 222 32 = some (.iconst 0, 1) := by decide +kernel
theorem k_222_33 : cd 222 33 = some (.ireturn, 1) := by decide +kernel
theorem po_222 : po 222 = 9 := rfl
theorem M_222  {x0 : Int32} {σ : pS} {ρ : Nat → Nat → Option Nat} (e : gR σ = ρ) (hL : LayR ρ) : Le
  (if ¬ (gI σ 61 22) = (ι 0) then some (1, .int (ι 0), σ) else if ¬ (gI σ 61 18) = (ι 3) then some (1, .int (ι 0), σ) else gd (inb (gI σ 61 20) 700) (if ¬ (gI σ 74 (ix (gI σ 61 20))) = x0 then some (1, .int (ι 0), σ) else some (1, .int (ι 1), σ)))
  (pcall 222 [.ref 61, .int x0] σ) := by
  show Le _ (den 222 0 0 [.ref 61, .int x0] [] σ)
  exact r_aload_n k_222_0 rfl rfl
    (r_getI k_222_1 rfl po_222 rfl rfl rfl rfl
    (r_if (tgt := 32) k_222_4 rfl rfl cop_ne
    (r_iconst k_222_32 rfl rfl
    (r_ret k_222_33 rfl rfl))
    (r_aload_n k_222_7 rfl rfl
    (r_getI k_222_8 rfl po_222 rfl rfl rfl rfl
    (r_iconst k_222_11 rfl rfl
    (r_icmp (tgt := 32) k_222_12 rfl rfl cop_ne
    (r_iconst k_222_32 rfl rfl
    (r_ret k_222_33 rfl rfl))
    (r_aload_n k_222_15 rfl rfl
    (r_getR k_222_16 rfl po_222 rfl rfl rfl rfl (gRat e (LayR.at hL (i := 75) rfl))
    (r_aload_n k_222_19 rfl rfl
    (r_getI k_222_20 rfl po_222 rfl rfl rfl rfl
    (r_gd fun g => r_iald k_222_23 rfl rfl g
    (r_iload_n k_222_24 rfl rfl
    (r_icmp (tgt := 32) k_222_25 rfl rfl cop_ne
    (r_iconst k_222_32 rfl rfl
    (r_ret k_222_33 rfl rfl))
    (r_iconst k_222_28 rfl rfl
    (r_goto (tgt := 33) k_222_29 rfl (r_ret k_222_33 rfl rfl))))))))))))))))
/-! ===== 223 HedgeWantsModel.readAnd ===== -/
theorem k_223_0 : cd 223 0 = some (.aload_n 0, 1) := by decide +kernel
theorem k_223_1 : cd 223 1 = some (.iload_n 1, 1) := by decide +kernel
theorem k_223_2 : cd 223 2 = some (.invokevirtual 256, 3) := by decide +kernel
theorem k_223_5 : cd 223 5 = some (.aload_n 0, 1) := by decide +kernel
theorem k_223_6 : cd 223 6 = some (.ldc_w 259, 3) := by decide +kernel
theorem k_223_9 : cd 223 9 = some (.invokevirtual 208, 3) := by decide +kernel
theorem k_223_12 : cd 223 12 = some (.ifCond .eq 21, 3) := by decide +kernel
theorem k_223_15 : cd 223 15 = some (.aload_n 0, 1) := by decide +kernel
theorem k_223_16 : cd 223 16 = some (.invokevirtual 219, 3) := by decide +kernel
theorem k_223_19 : cd 223 19 = some (.aload_n 0, 1) := by decide +kernel
theorem k_223_20 : cd 223 20 = some (.iload_n 1, 1) := by decide +kernel
theorem k_223_21 : cd 223 21 = some (.invokevirtual 256, 3) := by decide +kernel
theorem k_223_24 : cd 223 24 = some (.aload_n 0, 1) := by decide +kernel
theorem k_223_25 : cd 223 25 = some (.bipush (-26), 2) := by decide +kernel
theorem k_223_27 : cd 223 27 = some (.invokevirtual 232, 3) := by decide +kernel
theorem k_223_30 : cd 223 30 = some (.goto (-25), 3) := by decide +kernel
theorem k_223_33 : cd 223 33 = some (.return_, 1) := by decide +kernel
theorem po_223 : po 223 = 9 := rfl
noncomputable def C_223_5  (k : Nat) (x1 : Int32) (σ : pS) : Option pZ := den 223 k 5 [.ref 61, .int x1] [] σ
theorem T_223_5  {k : Nat} {x1 : Int32}  {σ : pS} {ρ : Nat → Nat → Option Nat} (e : gR σ = ρ) (hL : LayR ρ) : Le
  (gd (lv 219 (rk 219 [.ref 61, .ref 1016]) < lv 223 k) (bI (pcall 219 [.ref 61, .ref 1016] σ) fun r1 σ1 => if r1 = (ι 0) then some (0, .null, σ1) else gd (lv 212 (rk 212 [.ref 61]) < lv 223 k) (bV (pcall 212 [.ref 61] σ1) fun σ2 => gd (lv 224 (rk 224 [.ref 61, .int x1]) < lv 223 k) (bV (pcall 224 [.ref 61, .int x1] σ2) fun σ3 => gd (lv 230 (rk 230 [.ref 61, .int (ν 26)]) < lv 223 k) (bV (pcall 230 [.ref 61, .int (ν 26)] σ3) fun σ4 => C_223_5 k x1 σ4)))))
  (C_223_5  k x1 σ) := by
  unfold C_223_5
  exact r_aload_n k_223_5 rfl rfl
    (r_ldcwS k_223_6 rfl po_223 rfl rfl
    (r_gd fun g => r_callI (q_virt (rest := []) (as := [.ref 1016]) k_223_9 po_223 rfl rfl rfl (rcvO rfl rfl rfl) rfl rfl) g rfl rfl (fun r1 σ1 h1 => r_if (tgt := 33) k_223_12 rfl rfl cop_eq
    (r_retV k_223_33 rfl)
    (r_aload_n k_223_15 rfl rfl
    (r_gd fun g => r_callV (q_virt (rest := []) (as := []) k_223_16 po_223 rfl rfl rfl (rcvO rfl rfl rfl) rfl rfl) g rfl rfl (fun _ σ2 h2 => r_aload_n k_223_19 rfl rfl
    (r_iload_n k_223_20 rfl rfl
    (r_gd fun g => r_callV (q_virt (rest := []) (as := [.int x1]) k_223_21 po_223 rfl rfl rfl (rcvO rfl rfl rfl) rfl rfl) g rfl rfl (fun _ σ3 h3 => r_aload_n k_223_24 rfl rfl
    (r_bipush k_223_25 rfl rfl
    (r_gd fun g => r_callV (q_virt (rest := []) (as := [.int (ν 26)]) k_223_27 po_223 rfl rfl rfl (rcvO rfl rfl rfl) rfl rfl) g rfl rfl (fun _ σ4 h4 => r_goto (tgt := 5) k_223_30 rfl (Le.rfl')))))))))))))
theorem M_223  {x0 : Int32} {σ : pS} {ρ : Nat → Nat → Option Nat} (e : gR σ = ρ) (hL : LayR ρ) : Le
  (gd (lv 224 (rk 224 [.ref 61, .int x0]) < lv 223 (rk 223 [.ref 61, .int x0])) (bV (pcall 224 [.ref 61, .int x0] σ) fun σ1 => C_223_5 (rk 223 [.ref 61, .int x0]) x0 σ1))
  (pcall 223 [.ref 61, .int x0] σ) := by
  show Le _ (den 223 (rk 223 [.ref 61, .int x0]) 0 [.ref 61, .int x0] [] σ)
  exact r_aload_n k_223_0 rfl rfl
    (r_iload_n k_223_1 rfl rfl
    (r_gd fun g => r_callV (q_virt (rest := []) (as := [.int x0]) k_223_2 po_223 rfl rfl rfl (rcvO rfl rfl rfl) rfl rfl) g rfl rfl (fun _ σ1 h1 => Le.rfl')))
/-! ===== 224 HedgeWantsModel.readNot ===== -/
theorem k_224_0 : cd 224 0 = some (.iconst 0, 1) := by decide +kernel
theorem k_224_1 : cd 224 1 = some (.istore_n 2, 1) := by decide +kernel
theorem k_224_2 : cd 224 2 = some (.aload_n 0, 1) := by decide +kernel
theorem k_224_3 : cd 224 3 = some (.ldc 251, 2) := by decide +kernel
theorem k_224_5 : cd 224 5 = some (.invokevirtual 208, 3) := by decide +kernel
theorem k_224_8 : cd 224 8 = some (.ifCond .eq 31, 3) := by decide +kernel
theorem k_224_11 : cd 224 11 = some (.iload_n 2, 1) := by decide +kernel
theorem k_224_12 : cd 224 12 = some (.bipush 6, 2) := by decide +kernel
theorem k_224_14 : cd 224 14 = some (.if_icmp .ne 8, 3) := by decide +kernel
theorem k_224_17 : cd 224 17 = some (.aload_n 0, 1) := by decide +kernel
theorem k_224_18 : cd 224 18 = some (.iconst 2, 1) := by decide +kernel
theorem k_224_19 : cd 224 19 = some (.invokevirtual 215, 3) := by decide +kernel
theorem k_224_22 : cd 224 22 = some (.iinc 2 1, 3) := by decide +kernel
theorem k_224_25 : cd 224 25 = some (.aload_n 0, 1) := by decide +kernel
theorem k_224_26 : cd 224 26 = some (.getfield 194, 3) := by decide +kernel
theorem k_224_29 : cd 224 29 = some (.ifCond .ne (-27), 3) := by decide +kernel
theorem k_224_32 : cd 224 32 = some (.aload_n 0, 1) := by decide +kernel
theorem k_224_33 : cd 224 33 = some (.invokevirtual 219, 3) := by decide +kernel
theorem k_224_36 : cd 224 36 = some (.goto (-34), 3) := by decide +kernel
theorem k_224_39 : cd 224 39 = some (.aload_n 0, 1) := by decide +kernel
theorem k_224_40 : cd 224 40 = some (.iload_n 1, 1) := by decide +kernel
theorem k_224_41 : cd 224 41 = some (.invokevirtual 253, 3) := by decide +kernel
theorem k_224_44 : cd 224 44 = some (.aload_n 0, 1) := by decide +kernel
theorem k_224_45 : cd 224 45 = some (.bipush 60, 2) := by decide +kernel
theorem k_224_47 : cd 224 47 = some (.invokevirtual 212, 3) := by decide +kernel
theorem k_224_50 : cd 224 50 = some (.ifCond .ne 12, 3) := by decide +kernel
theorem k_224_53 : cd 224 53 = some (.aload_n 0, 1) := by decide +kernel
theorem k_224_54 : cd 224 54 = some (.bipush 61, 2) := by decide +kernel
theorem k_224_56 : cd 224 56 = some (.invokevirtual 212, 3) := by decide +kernel
theorem k_224_59 : cd 224 59 = some (.ifCond .eq 34, 3) := by decide +kernel
theorem k_224_62 : cd 224 62 = some (.aload_n 0, 1) := by decide +kernel
theorem k_224_63 : cd 224 63 = some (.bipush 60, 2) := by decide +kernel
theorem k_224_65 : cd 224 65 = some (.invokevirtual 212, 3) := by decide +kernel
theorem k_224_68 : cd 224 68 = some (.ifCond .eq 8, 3) := by decide +kernel
theorem k_224_71 : cd 224 71 = some (.bipush (-24), 2) := by decide +kernel
theorem k_224_73 : cd 224 73 = some (.goto 5, 3) := by decide +kernel
theorem k_224_76 : cd 224 76 = some (.bipush (-25), 2) := by decide +kernel
theorem k_224_78 : cd 224 78 = some (.istore_n 3, 1) := by decide +kernel
theorem k_224_79 : cd 224 79 = some (.aload_n 0, 1) := by decide +kernel
theorem k_224_80 : cd 224 80 = some (.invokevirtual 219, 3) := by decide +kernel
theorem k_224_83 : cd 224 83 = some (.aload_n 0, 1) := by decide +kernel
theorem k_224_84 : cd 224 84 = some (.iload_n 1, 1) := by decide +kernel
theorem k_224_85 : cd 224 85 = some (.invokevirtual 253, 3) := by decide +kernel
theorem k_224_88 : cd 224 88 = some (.aload_n 0, 1) := by decide +kernel
theorem k_224_89 : cd 224 89 = some (.iload_n 3, 1) := by decide +kernel
theorem k_224_90 : cd 224 90 = some (.invokevirtual 232, 3) := by decide +kernel
theorem k_224_93 : cd 224 93 = some (.iconst 0, 1) := by decide +kernel
theorem k_224_94 : cd 224 94 = some (.istore_n 3, 1) := by decide +kernel
theorem k_224_95 : cd 224 95 = some (.iload_n 3, 1) := by decide +kernel
theorem k_224_96 : cd 224 96 = some (.iload_n 2, 1) := by decide +kernel
theorem k_224_97 : cd 224 97 = some (.if_icmp .ge 15, 3) := by decide +kernel
theorem k_224_100 : cd 224 100 = some (.aload_n 0, 1) := by decide +kernel
theorem k_224_101 : cd 224 101 = some (.bipush (-28), 2) := by decide +kernel
theorem k_224_103 : cd 224 103 = some (.invokevirtual 232, 3) := by decide +kernel
theorem k_224_106 : cd 224 106 = some (.iinc 3 1, 3) := by decide +kernel
theorem k_224_109 : cd 224 109 = some (.goto (-14), 3) := by decide +kernel
theorem k_224_112 : cd 224 112 = some (.return_, 1) := by decide +kernel
theorem po_224 : po 224 = 9 := rfl
noncomputable def C_224_2  (k : Nat) (x1 : Int32) (x2 : Int32) (v3 : Value) (σ : pS) : Option pZ := den 224 k 2 [.ref 61, .int x1, .int x2, v3] [] σ
noncomputable def C_224_62  (k : Nat) (x1 : Int32) (x2 : Int32) (v3 : Value) (σ : pS) : Option pZ := den 224 k 62 [.ref 61, .int x1, .int x2, v3] [] σ
noncomputable def C_224_95  (k : Nat) (v1 : Value) (x2 : Int32) (x3 : Int32) (σ : pS) : Option pZ := den 224 k 95 [.ref 61, v1, .int x2, .int x3] [] σ
theorem T_224_2  {k : Nat} {x1 : Int32} {x2 : Int32} {v3 : Value}  {σ : pS} {ρ : Nat → Nat → Option Nat} (e : gR σ = ρ) (hL : LayR ρ) : Le
  (gd (lv 219 (rk 219 [.ref 61, .ref 1007]) < lv 224 k) (bI (pcall 219 [.ref 61, .ref 1007] σ) fun r1 σ1 => if r1 = (ι 0) then gd (lv 225 (rk 225 [.ref 61, .int x1]) < lv 224 k) (bV (pcall 225 [.ref 61, .int x1] σ1) fun σ2 => gd (lv 222 (rk 222 [.ref 61, .int (ι 60)]) < lv 224 k) (bI (pcall 222 [.ref 61, .int (ι 60)] σ2) fun r3 σ3 => if ¬ r3 = (ι 0) then C_224_62 k x1 x2 v3 σ3 else gd (lv 222 (rk 222 [.ref 61, .int (ι 61)]) < lv 224 k) (bI (pcall 222 [.ref 61, .int (ι 61)] σ3) fun r4 σ4 => if r4 = (ι 0) then C_224_95 k (.int x1) x2 (ι 0) σ4 else C_224_62 k x1 x2 v3 σ4))) else if ¬ x2 = (ι 6) then if ¬ (gI σ1 61 22) = (ι 0) then C_224_2 k x1 (x2 + (ι 1)) v3 σ1 else gd (lv 212 (rk 212 [.ref 61]) < lv 224 k) (bV (pcall 212 [.ref 61] σ1) fun σ5 => C_224_2 k x1 (x2 + (ι 1)) v3 σ5) else gd (lv 220 (rk 220 [.ref 61, .int (ι 2)]) < lv 224 k) (bV (pcall 220 [.ref 61, .int (ι 2)] σ1) fun σ6 => if ¬ (gI σ6 61 22) = (ι 0) then C_224_2 k x1 (x2 + (ι 1)) v3 σ6 else gd (lv 212 (rk 212 [.ref 61]) < lv 224 k) (bV (pcall 212 [.ref 61] σ6) fun σ7 => C_224_2 k x1 (x2 + (ι 1)) v3 σ7))))
  (C_224_2  k x1 x2 v3 σ) := by
  unfold C_224_2
  exact r_aload_n k_224_2 rfl rfl
    (r_ldcS k_224_3 rfl po_224 rfl rfl
    (r_gd fun g => r_callI (q_virt (rest := []) (as := [.ref 1007]) k_224_5 po_224 rfl rfl rfl (rcvO rfl rfl rfl) rfl rfl) g rfl rfl (fun r1 σ1 h1 => r_if (tgt := 39) k_224_8 rfl rfl cop_eq
    (r_aload_n k_224_39 rfl rfl
    (r_iload_n k_224_40 rfl rfl
    (r_gd fun g => r_callV (q_virt (rest := []) (as := [.int x1]) k_224_41 po_224 rfl rfl rfl (rcvO rfl rfl rfl) rfl rfl) g rfl rfl (fun _ σ2 h2 => r_aload_n k_224_44 rfl rfl
    (r_bipush k_224_45 rfl rfl
    (r_gd fun g => r_callI (q_virt (rest := []) (as := [.int (ι 60)]) k_224_47 po_224 rfl rfl rfl (rcvO rfl rfl rfl) rfl rfl) g rfl rfl (fun r3 σ3 h3 => r_if (tgt := 62) k_224_50 rfl rfl cop_ne
    (Le.rfl')
    (r_aload_n k_224_53 rfl rfl
    (r_bipush k_224_54 rfl rfl
    (r_gd fun g => r_callI (q_virt (rest := []) (as := [.int (ι 61)]) k_224_56 po_224 rfl rfl rfl (rcvO rfl rfl rfl) rfl rfl) g rfl rfl (fun r4 σ4 h4 => r_if (tgt := 93) k_224_59 rfl rfl cop_eq
    (r_iconst k_224_93 rfl rfl
    (r_istore_n k_224_94 rfl rfl rfl
    (Le.rfl')))
    (Le.rfl'))))))))))))
    (r_iload_n k_224_11 rfl rfl
    (r_bipush k_224_12 rfl rfl
    (r_icmp (tgt := 22) k_224_14 rfl rfl cop_ne
    (r_iinc k_224_22 rfl rfl rfl rfl
    (r_aload_n k_224_25 rfl rfl
    (r_getI k_224_26 rfl po_224 rfl rfl rfl rfl
    (r_if (tgt := 2) k_224_29 rfl rfl cop_ne
    (Le.rfl')
    (r_aload_n k_224_32 rfl rfl
    (r_gd fun g => r_callV (q_virt (rest := []) (as := []) k_224_33 po_224 rfl rfl rfl (rcvO rfl rfl rfl) rfl rfl) g rfl rfl (fun _ σ5 h5 => r_goto (tgt := 2) k_224_36 rfl (Le.rfl'))))))))
    (r_aload_n k_224_17 rfl rfl
    (r_iconst k_224_18 rfl rfl
    (r_gd fun g => r_callV (q_virt (rest := []) (as := [.int (ι 2)]) k_224_19 po_224 rfl rfl rfl (rcvO rfl rfl rfl) rfl rfl) g rfl rfl (fun _ σ6 h6 => r_iinc k_224_22 rfl rfl rfl rfl
    (r_aload_n k_224_25 rfl rfl
    (r_getI k_224_26 rfl po_224 rfl rfl rfl rfl
    (r_if (tgt := 2) k_224_29 rfl rfl cop_ne
    (Le.rfl')
    (r_aload_n k_224_32 rfl rfl
    (r_gd fun g => r_callV (q_virt (rest := []) (as := []) k_224_33 po_224 rfl rfl rfl (rcvO rfl rfl rfl) rfl rfl) g rfl rfl (fun _ σ7 h7 => r_goto (tgt := 2) k_224_36 rfl (Le.rfl')))))))))))))))))
theorem T_224_62  {k : Nat} {x1 : Int32} {x2 : Int32} {v3 : Value}  {σ : pS} {ρ : Nat → Nat → Option Nat} (e : gR σ = ρ) (hL : LayR ρ) : Le
  (gd (lv 222 (rk 222 [.ref 61, .int (ι 60)]) < lv 224 k) (bI (pcall 222 [.ref 61, .int (ι 60)] σ) fun r1 σ1 => if r1 = (ι 0) then gd (lv 212 (rk 212 [.ref 61]) < lv 224 k) (bV (pcall 212 [.ref 61] σ1) fun σ2 => gd (lv 225 (rk 225 [.ref 61, .int x1]) < lv 224 k) (bV (pcall 225 [.ref 61, .int x1] σ2) fun σ3 => gd (lv 230 (rk 230 [.ref 61, .int (ν 25)]) < lv 224 k) (bV (pcall 230 [.ref 61, .int (ν 25)] σ3) fun σ4 => C_224_95 k (.int x1) x2 (ι 0) σ4))) else gd (lv 212 (rk 212 [.ref 61]) < lv 224 k) (bV (pcall 212 [.ref 61] σ1) fun σ5 => gd (lv 225 (rk 225 [.ref 61, .int x1]) < lv 224 k) (bV (pcall 225 [.ref 61, .int x1] σ5) fun σ6 => gd (lv 230 (rk 230 [.ref 61, .int (ν 24)]) < lv 224 k) (bV (pcall 230 [.ref 61, .int (ν 24)] σ6) fun σ7 => C_224_95 k (.int x1) x2 (ι 0) σ7)))))
  (C_224_62  k x1 x2 v3 σ) := by
  unfold C_224_62
  exact r_aload_n k_224_62 rfl rfl
    (r_bipush k_224_63 rfl rfl
    (r_gd fun g => r_callI (q_virt (rest := []) (as := [.int (ι 60)]) k_224_65 po_224 rfl rfl rfl (rcvO rfl rfl rfl) rfl rfl) g rfl rfl (fun r1 σ1 h1 => r_if (tgt := 76) k_224_68 rfl rfl cop_eq
    (r_bipush k_224_76 rfl rfl
    (r_istore_n k_224_78 rfl rfl rfl
    (r_aload_n k_224_79 rfl rfl
    (r_gd fun g => r_callV (q_virt (rest := []) (as := []) k_224_80 po_224 rfl rfl rfl (rcvO rfl rfl rfl) rfl rfl) g rfl rfl (fun _ σ2 h2 => r_aload_n k_224_83 rfl rfl
    (r_iload_n k_224_84 rfl rfl
    (r_gd fun g => r_callV (q_virt (rest := []) (as := [.int x1]) k_224_85 po_224 rfl rfl rfl (rcvO rfl rfl rfl) rfl rfl) g rfl rfl (fun _ σ3 h3 => r_aload_n k_224_88 rfl rfl
    (r_iload_n k_224_89 rfl rfl
    (r_gd fun g => r_callV (q_virt (rest := []) (as := [.int (ν 25)]) k_224_90 po_224 rfl rfl rfl (rcvO rfl rfl rfl) rfl rfl) g rfl rfl (fun _ σ4 h4 => r_iconst k_224_93 rfl rfl
    (r_istore_n k_224_94 rfl rfl rfl
    (Le.rfl')))))))))))))
    (r_bipush k_224_71 rfl rfl
    (r_goto (tgt := 78) k_224_73 rfl (r_istore_n k_224_78 rfl rfl rfl
    (r_aload_n k_224_79 rfl rfl
    (r_gd fun g => r_callV (q_virt (rest := []) (as := []) k_224_80 po_224 rfl rfl rfl (rcvO rfl rfl rfl) rfl rfl) g rfl rfl (fun _ σ5 h5 => r_aload_n k_224_83 rfl rfl
    (r_iload_n k_224_84 rfl rfl
    (r_gd fun g => r_callV (q_virt (rest := []) (as := [.int x1]) k_224_85 po_224 rfl rfl rfl (rcvO rfl rfl rfl) rfl rfl) g rfl rfl (fun _ σ6 h6 => r_aload_n k_224_88 rfl rfl
    (r_iload_n k_224_89 rfl rfl
    (r_gd fun g => r_callV (q_virt (rest := []) (as := [.int (ν 24)]) k_224_90 po_224 rfl rfl rfl (rcvO rfl rfl rfl) rfl rfl) g rfl rfl (fun _ σ7 h7 => r_iconst k_224_93 rfl rfl
    (r_istore_n k_224_94 rfl rfl rfl
    (Le.rfl')))))))))))))))))
theorem T_224_95  {k : Nat} {v1 : Value} {x2 : Int32} {x3 : Int32}  {σ : pS} {ρ : Nat → Nat → Option Nat} (e : gR σ = ρ) (hL : LayR ρ) : Le
  (if x2 ≤ x3 then some (0, .null, σ) else gd (lv 230 (rk 230 [.ref 61, .int (ν 28)]) < lv 224 k) (bV (pcall 230 [.ref 61, .int (ν 28)] σ) fun σ1 => C_224_95 k v1 x2 (x3 + (ι 1)) σ1))
  (C_224_95  k v1 x2 x3 σ) := by
  unfold C_224_95
  exact r_iload_n k_224_95 rfl rfl
    (r_iload_n k_224_96 rfl rfl
    (r_icmp (tgt := 112) k_224_97 rfl rfl cop_ge
    (r_retV k_224_112 rfl)
    (r_aload_n k_224_100 rfl rfl
    (r_bipush k_224_101 rfl rfl
    (r_gd fun g => r_callV (q_virt (rest := []) (as := [.int (ν 28)]) k_224_103 po_224 rfl rfl rfl (rcvO rfl rfl rfl) rfl rfl) g rfl rfl (fun _ σ1 h1 => r_iinc k_224_106 rfl rfl rfl rfl
    (r_goto (tgt := 95) k_224_109 rfl (Le.rfl'))))))))
theorem M_224  {x0 : Int32} {σ : pS} {ρ : Nat → Nat → Option Nat} (e : gR σ = ρ) (hL : LayR ρ) : Le
  (C_224_2 (rk 224 [.ref 61, .int x0]) x0 (ι 0) (.retAddr 0) σ)
  (pcall 224 [.ref 61, .int x0] σ) := by
  show Le _ (den 224 (rk 224 [.ref 61, .int x0]) 0 [.ref 61, .int x0, .retAddr 0, .retAddr 0] [] σ)
  exact r_iconst k_224_0 rfl rfl
    (r_istore_n k_224_1 rfl rfl rfl
    (Le.rfl'))
/-! ===== 225 HedgeWantsModel.readSum ===== -/
theorem k_225_0 : cd 225 0 = some (.aload_n 0, 1) := by decide +kernel
theorem k_225_1 : cd 225 1 = some (.iload_n 1, 1) := by decide +kernel
theorem k_225_2 : cd 225 2 = some (.invokevirtual 248, 3) := by decide +kernel
theorem k_225_5 : cd 225 5 = some (.aload_n 0, 1) := by decide +kernel
theorem k_225_6 : cd 225 6 = some (.bipush 43, 2) := by decide +kernel
theorem k_225_8 : cd 225 8 = some (.invokevirtual 212, 3) := by decide +kernel
theorem k_225_11 : cd 225 11 = some (.ifCond .ne 12, 3) := by decide +kernel
theorem k_225_14 : cd 225 14 = some (.aload_n 0, 1) := by decide +kernel
theorem k_225_15 : cd 225 15 = some (.bipush 45, 2) := by decide +kernel
theorem k_225_17 : cd 225 17 = some (.invokevirtual 212, 3) := by decide +kernel
theorem k_225_20 : cd 225 20 = some (.ifCond .eq 37, 3) := by decide +kernel
theorem k_225_23 : cd 225 23 = some (.aload_n 0, 1) := by decide +kernel
theorem k_225_24 : cd 225 24 = some (.bipush 43, 2) := by decide +kernel
theorem k_225_26 : cd 225 26 = some (.invokevirtual 212, 3) := by decide +kernel
theorem k_225_29 : cd 225 29 = some (.ifCond .eq 8, 3) := by decide +kernel
theorem k_225_32 : cd 225 32 = some (.bipush (-20), 2) := by decide +kernel
theorem k_225_34 : cd 225 34 = some (.goto 5, 3) := by decide +kernel
theorem k_225_37 : cd 225 37 = some (.bipush (-21), 2) := by decide +kernel
theorem k_225_39 : cd 225 39 = some (.istore_n 2, 1) := by decide +kernel
theorem k_225_40 : cd 225 40 = some (.aload_n 0, 1) := by decide +kernel
theorem k_225_41 : cd 225 41 = some (.invokevirtual 219, 3) := by decide +kernel
theorem k_225_44 : cd 225 44 = some (.aload_n 0, 1) := by decide +kernel
theorem k_225_45 : cd 225 45 = some (.iload_n 1, 1) := by decide +kernel
theorem k_225_46 : cd 225 46 = some (.invokevirtual 248, 3) := by decide +kernel
theorem k_225_49 : cd 225 49 = some (.aload_n 0, 1) := by decide +kernel
theorem k_225_50 : cd 225 50 = some (.iload_n 2, 1) := by decide +kernel
theorem k_225_51 : cd 225 51 = some (.invokevirtual 232, 3) := by decide +kernel
theorem k_225_54 : cd 225 54 = some (.goto (-49), 3) := by decide +kernel
theorem k_225_57 : cd 225 57 = some (.return_, 1) := by decide +kernel
theorem po_225 : po 225 = 9 := rfl
noncomputable def C_225_5  (k : Nat) (x1 : Int32) (v2 : Value) (σ : pS) : Option pZ := den 225 k 5 [.ref 61, .int x1, v2] [] σ
noncomputable def C_225_23  (k : Nat) (x1 : Int32) (v2 : Value) (σ : pS) : Option pZ := den 225 k 23 [.ref 61, .int x1, v2] [] σ
theorem T_225_5  {k : Nat} {x1 : Int32} {v2 : Value}  {σ : pS} {ρ : Nat → Nat → Option Nat} (e : gR σ = ρ) (hL : LayR ρ) : Le
  (gd (lv 222 (rk 222 [.ref 61, .int (ι 43)]) < lv 225 k) (bI (pcall 222 [.ref 61, .int (ι 43)] σ) fun r1 σ1 => if ¬ r1 = (ι 0) then C_225_23 k x1 v2 σ1 else gd (lv 222 (rk 222 [.ref 61, .int (ι 45)]) < lv 225 k) (bI (pcall 222 [.ref 61, .int (ι 45)] σ1) fun r2 σ2 => if r2 = (ι 0) then some (0, .null, σ2) else C_225_23 k x1 v2 σ2)))
  (C_225_5  k x1 v2 σ) := by
  unfold C_225_5
  exact r_aload_n k_225_5 rfl rfl
    (r_bipush k_225_6 rfl rfl
    (r_gd fun g => r_callI (q_virt (rest := []) (as := [.int (ι 43)]) k_225_8 po_225 rfl rfl rfl (rcvO rfl rfl rfl) rfl rfl) g rfl rfl (fun r1 σ1 h1 => r_if (tgt := 23) k_225_11 rfl rfl cop_ne
    (Le.rfl')
    (r_aload_n k_225_14 rfl rfl
    (r_bipush k_225_15 rfl rfl
    (r_gd fun g => r_callI (q_virt (rest := []) (as := [.int (ι 45)]) k_225_17 po_225 rfl rfl rfl (rcvO rfl rfl rfl) rfl rfl) g rfl rfl (fun r2 σ2 h2 => r_if (tgt := 57) k_225_20 rfl rfl cop_eq
    (r_retV k_225_57 rfl)
    (Le.rfl'))))))))
theorem T_225_23  {k : Nat} {x1 : Int32} {v2 : Value}  {σ : pS} {ρ : Nat → Nat → Option Nat} (e : gR σ = ρ) (hL : LayR ρ) : Le
  (gd (lv 222 (rk 222 [.ref 61, .int (ι 43)]) < lv 225 k) (bI (pcall 222 [.ref 61, .int (ι 43)] σ) fun r1 σ1 => if r1 = (ι 0) then gd (lv 212 (rk 212 [.ref 61]) < lv 225 k) (bV (pcall 212 [.ref 61] σ1) fun σ2 => gd (lv 226 (rk 226 [.ref 61, .int x1]) < lv 225 k) (bV (pcall 226 [.ref 61, .int x1] σ2) fun σ3 => gd (lv 230 (rk 230 [.ref 61, .int (ν 21)]) < lv 225 k) (bV (pcall 230 [.ref 61, .int (ν 21)] σ3) fun σ4 => C_225_5 k x1 (.int (ν 21)) σ4))) else gd (lv 212 (rk 212 [.ref 61]) < lv 225 k) (bV (pcall 212 [.ref 61] σ1) fun σ5 => gd (lv 226 (rk 226 [.ref 61, .int x1]) < lv 225 k) (bV (pcall 226 [.ref 61, .int x1] σ5) fun σ6 => gd (lv 230 (rk 230 [.ref 61, .int (ν 20)]) < lv 225 k) (bV (pcall 230 [.ref 61, .int (ν 20)] σ6) fun σ7 => C_225_5 k x1 (.int (ν 20)) σ7)))))
  (C_225_23  k x1 v2 σ) := by
  unfold C_225_23
  exact r_aload_n k_225_23 rfl rfl
    (r_bipush k_225_24 rfl rfl
    (r_gd fun g => r_callI (q_virt (rest := []) (as := [.int (ι 43)]) k_225_26 po_225 rfl rfl rfl (rcvO rfl rfl rfl) rfl rfl) g rfl rfl (fun r1 σ1 h1 => r_if (tgt := 37) k_225_29 rfl rfl cop_eq
    (r_bipush k_225_37 rfl rfl
    (r_istore_n k_225_39 rfl rfl rfl
    (r_aload_n k_225_40 rfl rfl
    (r_gd fun g => r_callV (q_virt (rest := []) (as := []) k_225_41 po_225 rfl rfl rfl (rcvO rfl rfl rfl) rfl rfl) g rfl rfl (fun _ σ2 h2 => r_aload_n k_225_44 rfl rfl
    (r_iload_n k_225_45 rfl rfl
    (r_gd fun g => r_callV (q_virt (rest := []) (as := [.int x1]) k_225_46 po_225 rfl rfl rfl (rcvO rfl rfl rfl) rfl rfl) g rfl rfl (fun _ σ3 h3 => r_aload_n k_225_49 rfl rfl
    (r_iload_n k_225_50 rfl rfl
    (r_gd fun g => r_callV (q_virt (rest := []) (as := [.int (ν 21)]) k_225_51 po_225 rfl rfl rfl (rcvO rfl rfl rfl) rfl rfl) g rfl rfl (fun _ σ4 h4 => r_goto (tgt := 5) k_225_54 rfl (Le.rfl'))))))))))))
    (r_bipush k_225_32 rfl rfl
    (r_goto (tgt := 39) k_225_34 rfl (r_istore_n k_225_39 rfl rfl rfl
    (r_aload_n k_225_40 rfl rfl
    (r_gd fun g => r_callV (q_virt (rest := []) (as := []) k_225_41 po_225 rfl rfl rfl (rcvO rfl rfl rfl) rfl rfl) g rfl rfl (fun _ σ5 h5 => r_aload_n k_225_44 rfl rfl
    (r_iload_n k_225_45 rfl rfl
    (r_gd fun g => r_callV (q_virt (rest := []) (as := [.int x1]) k_225_46 po_225 rfl rfl rfl (rcvO rfl rfl rfl) rfl rfl) g rfl rfl (fun _ σ6 h6 => r_aload_n k_225_49 rfl rfl
    (r_iload_n k_225_50 rfl rfl
    (r_gd fun g => r_callV (q_virt (rest := []) (as := [.int (ν 20)]) k_225_51 po_225 rfl rfl rfl (rcvO rfl rfl rfl) rfl rfl) g rfl rfl (fun _ σ7 h7 => r_goto (tgt := 5) k_225_54 rfl (Le.rfl'))))))))))))))))
theorem M_225  {x0 : Int32} {σ : pS} {ρ : Nat → Nat → Option Nat} (e : gR σ = ρ) (hL : LayR ρ) : Le
  (gd (lv 226 (rk 226 [.ref 61, .int x0]) < lv 225 (rk 225 [.ref 61, .int x0])) (bV (pcall 226 [.ref 61, .int x0] σ) fun σ1 => C_225_5 (rk 225 [.ref 61, .int x0]) x0 (.retAddr 0) σ1))
  (pcall 225 [.ref 61, .int x0] σ) := by
  show Le _ (den 225 (rk 225 [.ref 61, .int x0]) 0 [.ref 61, .int x0, .retAddr 0] [] σ)
  exact r_aload_n k_225_0 rfl rfl
    (r_iload_n k_225_1 rfl rfl
    (r_gd fun g => r_callV (q_virt (rest := []) (as := [.int x0]) k_225_2 po_225 rfl rfl rfl (rcvO rfl rfl rfl) rfl rfl) g rfl rfl (fun _ σ1 h1 => Le.rfl')))
/-! ===== 226 HedgeWantsModel.readProduct ===== -/
theorem k_226_0 : cd 226 0 = some (.aload_n 0, 1) := by decide +kernel
theorem k_226_1 : cd 226 1 = some (.iload_n 1, 1) := by decide +kernel
theorem k_226_2 : cd 226 2 = some (.invokevirtual 245, 3) := by decide +kernel
theorem k_226_5 : cd 226 5 = some (.aload_n 0, 1) := by decide +kernel
theorem k_226_6 : cd 226 6 = some (.bipush 42, 2) := by decide +kernel
theorem k_226_8 : cd 226 8 = some (.invokevirtual 212, 3) := by decide +kernel
theorem k_226_11 : cd 226 11 = some (.ifCond .ne 12, 3) := by decide +kernel
theorem k_226_14 : cd 226 14 = some (.aload_n 0, 1) := by decide +kernel
theorem k_226_15 : cd 226 15 = some (.bipush 47, 2) := by decide +kernel
theorem k_226_17 : cd 226 17 = some (.invokevirtual 212, 3) := by decide +kernel
theorem k_226_20 : cd 226 20 = some (.ifCond .eq 37, 3) := by decide +kernel
theorem k_226_23 : cd 226 23 = some (.aload_n 0, 1) := by decide +kernel
theorem k_226_24 : cd 226 24 = some (.bipush 42, 2) := by decide +kernel
theorem k_226_26 : cd 226 26 = some (.invokevirtual 212, 3) := by decide +kernel
theorem k_226_29 : cd 226 29 = some (.ifCond .eq 8, 3) := by decide +kernel
theorem k_226_32 : cd 226 32 = some (.bipush (-22), 2) := by decide +kernel
theorem k_226_34 : cd 226 34 = some (.goto 5, 3) := by decide +kernel
theorem k_226_37 : cd 226 37 = some (.bipush (-23), 2) := by decide +kernel
theorem k_226_39 : cd 226 39 = some (.istore_n 2, 1) := by decide +kernel
theorem k_226_40 : cd 226 40 = some (.aload_n 0, 1) := by decide +kernel
theorem k_226_41 : cd 226 41 = some (.invokevirtual 219, 3) := by decide +kernel
theorem k_226_44 : cd 226 44 = some (.aload_n 0, 1) := by decide +kernel
theorem k_226_45 : cd 226 45 = some (.iload_n 1, 1) := by decide +kernel
theorem k_226_46 : cd 226 46 = some (.invokevirtual 245, 3) := by decide +kernel
theorem k_226_49 : cd 226 49 = some (.aload_n 0, 1) := by decide +kernel
theorem k_226_50 : cd 226 50 = some (.iload_n 2, 1) := by decide +kernel
theorem k_226_51 : cd 226 51 = some (.invokevirtual 232, 3) := by decide +kernel
theorem k_226_54 : cd 226 54 = some (.goto (-49), 3) := by decide +kernel
theorem k_226_57 : cd 226 57 = some (.return_, 1) := by decide +kernel
theorem po_226 : po 226 = 9 := rfl
noncomputable def C_226_5  (k : Nat) (x1 : Int32) (v2 : Value) (σ : pS) : Option pZ := den 226 k 5 [.ref 61, .int x1, v2] [] σ
noncomputable def C_226_23  (k : Nat) (x1 : Int32) (v2 : Value) (σ : pS) : Option pZ := den 226 k 23 [.ref 61, .int x1, v2] [] σ
theorem T_226_5  {k : Nat} {x1 : Int32} {v2 : Value}  {σ : pS} {ρ : Nat → Nat → Option Nat} (e : gR σ = ρ) (hL : LayR ρ) : Le
  (gd (lv 222 (rk 222 [.ref 61, .int (ι 42)]) < lv 226 k) (bI (pcall 222 [.ref 61, .int (ι 42)] σ) fun r1 σ1 => if ¬ r1 = (ι 0) then C_226_23 k x1 v2 σ1 else gd (lv 222 (rk 222 [.ref 61, .int (ι 47)]) < lv 226 k) (bI (pcall 222 [.ref 61, .int (ι 47)] σ1) fun r2 σ2 => if r2 = (ι 0) then some (0, .null, σ2) else C_226_23 k x1 v2 σ2)))
  (C_226_5  k x1 v2 σ) := by
  unfold C_226_5
  exact r_aload_n k_226_5 rfl rfl
    (r_bipush k_226_6 rfl rfl
    (r_gd fun g => r_callI (q_virt (rest := []) (as := [.int (ι 42)]) k_226_8 po_226 rfl rfl rfl (rcvO rfl rfl rfl) rfl rfl) g rfl rfl (fun r1 σ1 h1 => r_if (tgt := 23) k_226_11 rfl rfl cop_ne
    (Le.rfl')
    (r_aload_n k_226_14 rfl rfl
    (r_bipush k_226_15 rfl rfl
    (r_gd fun g => r_callI (q_virt (rest := []) (as := [.int (ι 47)]) k_226_17 po_226 rfl rfl rfl (rcvO rfl rfl rfl) rfl rfl) g rfl rfl (fun r2 σ2 h2 => r_if (tgt := 57) k_226_20 rfl rfl cop_eq
    (r_retV k_226_57 rfl)
    (Le.rfl'))))))))
theorem T_226_23  {k : Nat} {x1 : Int32} {v2 : Value}  {σ : pS} {ρ : Nat → Nat → Option Nat} (e : gR σ = ρ) (hL : LayR ρ) : Le
  (gd (lv 222 (rk 222 [.ref 61, .int (ι 42)]) < lv 226 k) (bI (pcall 222 [.ref 61, .int (ι 42)] σ) fun r1 σ1 => if r1 = (ι 0) then gd (lv 212 (rk 212 [.ref 61]) < lv 226 k) (bV (pcall 212 [.ref 61] σ1) fun σ2 => gd (lv 227 (rk 227 [.ref 61, .int x1]) < lv 226 k) (bV (pcall 227 [.ref 61, .int x1] σ2) fun σ3 => gd (lv 230 (rk 230 [.ref 61, .int (ν 23)]) < lv 226 k) (bV (pcall 230 [.ref 61, .int (ν 23)] σ3) fun σ4 => C_226_5 k x1 (.int (ν 23)) σ4))) else gd (lv 212 (rk 212 [.ref 61]) < lv 226 k) (bV (pcall 212 [.ref 61] σ1) fun σ5 => gd (lv 227 (rk 227 [.ref 61, .int x1]) < lv 226 k) (bV (pcall 227 [.ref 61, .int x1] σ5) fun σ6 => gd (lv 230 (rk 230 [.ref 61, .int (ν 22)]) < lv 226 k) (bV (pcall 230 [.ref 61, .int (ν 22)] σ6) fun σ7 => C_226_5 k x1 (.int (ν 22)) σ7)))))
  (C_226_23  k x1 v2 σ) := by
  unfold C_226_23
  exact r_aload_n k_226_23 rfl rfl
    (r_bipush k_226_24 rfl rfl
    (r_gd fun g => r_callI (q_virt (rest := []) (as := [.int (ι 42)]) k_226_26 po_226 rfl rfl rfl (rcvO rfl rfl rfl) rfl rfl) g rfl rfl (fun r1 σ1 h1 => r_if (tgt := 37) k_226_29 rfl rfl cop_eq
    (r_bipush k_226_37 rfl rfl
    (r_istore_n k_226_39 rfl rfl rfl
    (r_aload_n k_226_40 rfl rfl
    (r_gd fun g => r_callV (q_virt (rest := []) (as := []) k_226_41 po_226 rfl rfl rfl (rcvO rfl rfl rfl) rfl rfl) g rfl rfl (fun _ σ2 h2 => r_aload_n k_226_44 rfl rfl
    (r_iload_n k_226_45 rfl rfl
    (r_gd fun g => r_callV (q_virt (rest := []) (as := [.int x1]) k_226_46 po_226 rfl rfl rfl (rcvO rfl rfl rfl) rfl rfl) g rfl rfl (fun _ σ3 h3 => r_aload_n k_226_49 rfl rfl
    (r_iload_n k_226_50 rfl rfl
    (r_gd fun g => r_callV (q_virt (rest := []) (as := [.int (ν 23)]) k_226_51 po_226 rfl rfl rfl (rcvO rfl rfl rfl) rfl rfl) g rfl rfl (fun _ σ4 h4 => r_goto (tgt := 5) k_226_54 rfl (Le.rfl'))))))))))))
    (r_bipush k_226_32 rfl rfl
    (r_goto (tgt := 39) k_226_34 rfl (r_istore_n k_226_39 rfl rfl rfl
    (r_aload_n k_226_40 rfl rfl
    (r_gd fun g => r_callV (q_virt (rest := []) (as := []) k_226_41 po_226 rfl rfl rfl (rcvO rfl rfl rfl) rfl rfl) g rfl rfl (fun _ σ5 h5 => r_aload_n k_226_44 rfl rfl
    (r_iload_n k_226_45 rfl rfl
    (r_gd fun g => r_callV (q_virt (rest := []) (as := [.int x1]) k_226_46 po_226 rfl rfl rfl (rcvO rfl rfl rfl) rfl rfl) g rfl rfl (fun _ σ6 h6 => r_aload_n k_226_49 rfl rfl
    (r_iload_n k_226_50 rfl rfl
    (r_gd fun g => r_callV (q_virt (rest := []) (as := [.int (ν 22)]) k_226_51 po_226 rfl rfl rfl (rcvO rfl rfl rfl) rfl rfl) g rfl rfl (fun _ σ7 h7 => r_goto (tgt := 5) k_226_54 rfl (Le.rfl'))))))))))))))))
theorem M_226  {x0 : Int32} {σ : pS} {ρ : Nat → Nat → Option Nat} (e : gR σ = ρ) (hL : LayR ρ) : Le
  (gd (lv 227 (rk 227 [.ref 61, .int x0]) < lv 226 (rk 226 [.ref 61, .int x0])) (bV (pcall 227 [.ref 61, .int x0] σ) fun σ1 => C_226_5 (rk 226 [.ref 61, .int x0]) x0 (.retAddr 0) σ1))
  (pcall 226 [.ref 61, .int x0] σ) := by
  show Le _ (den 226 (rk 226 [.ref 61, .int x0]) 0 [.ref 61, .int x0, .retAddr 0] [] σ)
  exact r_aload_n k_226_0 rfl rfl
    (r_iload_n k_226_1 rfl rfl
    (r_gd fun g => r_callV (q_virt (rest := []) (as := [.int x0]) k_226_2 po_226 rfl rfl rfl (rcvO rfl rfl rfl) rfl rfl) g rfl rfl (fun _ σ1 h1 => Le.rfl')))
/-! ===== 227 HedgeWantsModel.readPart ===== -/
theorem k_227_0 : cd 227 0 = some (.aload_n 0, 1) := by decide +kernel
theorem k_227_1 : cd 227 1 = some (.getfield 194, 3) := by decide +kernel
theorem k_227_4 : cd 227 4 = some (.ifCond .eq 4, 3) := by decide +kernel
theorem k_227_7 : cd 227 7 = some (.return_, 1) := by decide +kernel
theorem k_227_8 : cd 227 8 = some (.aload_n 0, 1) := by decide +kernel
theorem k_227_9 : cd 227 9 = some (.getfield 168, 3) := by decide +kernel
theorem k_227_12 : cd 227 12 = some (.iconst 2, 1) := by decide +kernel
theorem k_227_13 : cd 227 13 = some (.if_icmp .ne 16, 3) := by decide +kernel
theorem k_227_16 : cd 227 16 = some (.aload_n 0, 1) := by decide +kernel
theorem k_227_17 : cd 227 17 = some (.aload_n 0, 1) := by decide +kernel
theorem k_227_18 : cd 227 18 = some (.iconst 0, 1) := by decide +kernel
theorem k_227_19 : cd 227 19 = some (.sipush 9999, 3) := by decide +kernel
theorem k_227_22 : cd 227 22 = some (.invokevirtual 229, 3) := by decide +kernel
theorem k_227_25 : cd 227 25 = some (.invokevirtual 232, 3) := by decide +kernel
theorem k_227_28 : cd 227 28 = some (.return_, 1) := by decide +kernel
theorem k_227_29 : cd 227 29 = some (.aload_n 0, 1) := by decide +kernel
theorem k_227_30 : cd 227 30 = some (.getfield 168, 3) := by decide +kernel
theorem k_227_33 : cd 227 33 = some (.iconst 1, 1) := by decide +kernel
theorem k_227_34 : cd 227 34 = some (.if_icmp .ne 41, 3) := by decide +kernel
theorem k_227_37 : cd 227 37 = some (.aload_n 0, 1) := by decide +kernel
theorem k_227_38 : cd 227 38 = some (.aload_n 0, 1) := by decide +kernel
theorem k_227_39 : cd 227 39 = some (.getfield 41, 3) := by decide +kernel
theorem k_227_42 : cd 227 42 = some (.invokevirtual 235, 3) := by decide +kernel
theorem k_227_45 : cd 227 45 = some (.istore_n 2, 1) := by decide +kernel
theorem k_227_46 : cd 227 46 = some (.iload_n 2, 1) := by decide +kernel
theorem k_227_47 : cd 227 47 = some (.iconst (-1), 1) := by decide +kernel
theorem k_227_48 : cd 227 48 = some (.if_icmp .ne 8, 3) := by decide +kernel
theorem k_227_51 : cd 227 51 = some (.aload_n 0, 1) := by decide +kernel
theorem k_227_52 : cd 227 52 = some (.iconst 3, 1) := by decide +kernel
theorem k_227_53 : cd 227 53 = some (.invokevirtual 215, 3) := by decide +kernel
theorem k_227_56 : cd 227 56 = some (.aload_n 0, 1) := by decide +kernel
theorem k_227_57 : cd 227 57 = some (.iconst (-1), 1) := by decide +kernel
theorem k_227_58 : cd 227 58 = some (.iload_n 2, 1) := by decide +kernel
theorem k_227_59 : cd 227 59 = some (.isub, 1) := by decide +kernel
theorem k_227_60 : cd 227 60 = some (.invokevirtual 232, 3) := by decide +kernel
theorem k_227_63 : cd 227 63 = some (.aload_n 0, 1) := by decide +kernel
theorem k_227_64 : cd 227 64 = some (.getfield 194, 3) := by decide +kernel
theorem k_227_67 : cd 227 67 = some (.ifCond .ne 7, 3) := by decide +kernel
theorem k_227_70 : cd 227 70 = some (.aload_n 0, 1) := by decide +kernel
theorem k_227_71 : cd 227 71 = some (.invokevirtual 219, 3) := by decide +kernel
theorem k_227_74 : cd 227 74 = some (.return_, 1) := by decide +kernel
theorem k_227_75 : cd 227 75 = some (.aload_n 0, 1) := by decide +kernel
theorem k_227_76 : cd 227 76 = some (.bipush 40, 2) := by decide +kernel
theorem k_227_78 : cd 227 78 = some (.invokevirtual 239, 3) := by decide +kernel
theorem k_227_81 : cd 227 81 = some (.aload_n 0, 1) := by decide +kernel
theorem k_227_82 : cd 227 82 = some (.iload_n 1, 1) := by decide +kernel
theorem k_227_83 : cd 227 83 = some (.iconst 1, 1) := by decide +kernel
theorem k_227_84 : cd 227 84 = some (.iadd, 1) := by decide +kernel
theorem k_227_85 : cd 227 85 = some (.invokevirtual 242, 3) := by decide +kernel
theorem k_227_88 : cd 227 88 = some (.aload_n 0, 1) := by decide +kernel
theorem k_227_89 : cd 227 89 = some (.bipush 41, 2) := by decide +kernel
theorem k_227_91 : cd 227 91 = some (.invokevirtual 239, 3) := by decide +kernel
theorem k_227_94 : cd 227 94 = some (.return_, 1) := by decide +kernel
theorem po_227 : po 227 = 9 := rfl
theorem M_227  {x0 : Int32} {σ : pS} {ρ : Nat → Nat → Option Nat} (e : gR σ = ρ) (hL : LayR ρ) : Le
  (if (gI σ 61 22) = (ι 0) then if ¬ (gI σ 61 18) = (ι 2) then if ¬ (gI σ 61 18) = (ι 1) then gd (lv 231 (rk 231 [.ref 61, .int (ι 40)]) < lv 227 (rk 227 [.ref 61, .int x0])) (bV (pcall 231 [.ref 61, .int (ι 40)] σ) fun σ1 => gd (lv 221 (rk 221 [.ref 61, .int (x0 + (ι 1))]) < lv 227 (rk 227 [.ref 61, .int x0])) (bV (pcall 221 [.ref 61, .int (x0 + (ι 1))] σ1) fun σ2 => gd (lv 231 (rk 231 [.ref 61, .int (ι 41)]) < lv 227 (rk 227 [.ref 61, .int x0])) (bV (pcall 231 [.ref 61, .int (ι 41)] σ2) fun σ3 => some (0, .null, σ3)))) else bG isV (gR σ 61 3) fun q4 => gd (lv 218 (rk 218 [.ref 61, .ref q4]) < lv 227 (rk 227 [.ref 61, .int x0])) (bI (pcall 218 [.ref 61, .ref q4] σ) fun r5 σ5 => if ¬ r5 = (ν 1) then gd (lv 230 (rk 230 [.ref 61, .int ((ν 1) - r5)]) < lv 227 (rk 227 [.ref 61, .int x0])) (bV (pcall 230 [.ref 61, .int ((ν 1) - r5)] σ5) fun σ6 => if ¬ (gI σ6 61 22) = (ι 0) then some (0, .null, σ6) else gd (lv 212 (rk 212 [.ref 61]) < lv 227 (rk 227 [.ref 61, .int x0])) (bV (pcall 212 [.ref 61] σ6) fun σ7 => some (0, .null, σ7))) else gd (lv 220 (rk 220 [.ref 61, .int (ι 3)]) < lv 227 (rk 227 [.ref 61, .int x0])) (bV (pcall 220 [.ref 61, .int (ι 3)] σ5) fun σ8 => gd (lv 230 (rk 230 [.ref 61, .int ((ν 1) - r5)]) < lv 227 (rk 227 [.ref 61, .int x0])) (bV (pcall 230 [.ref 61, .int ((ν 1) - r5)] σ8) fun σ9 => if ¬ (gI σ9 61 22) = (ι 0) then some (0, .null, σ9) else gd (lv 212 (rk 212 [.ref 61]) < lv 227 (rk 227 [.ref 61, .int x0])) (bV (pcall 212 [.ref 61] σ9) fun σ10 => some (0, .null, σ10))))) else gd (lv 228 (rk 228 [.ref 61, .int (ι 0), .int (ι 9999)]) < lv 227 (rk 227 [.ref 61, .int x0])) (bI (pcall 228 [.ref 61, .int (ι 0), .int (ι 9999)] σ) fun r11 σ11 => gd (lv 230 (rk 230 [.ref 61, .int r11]) < lv 227 (rk 227 [.ref 61, .int x0])) (bV (pcall 230 [.ref 61, .int r11] σ11) fun σ12 => some (0, .null, σ12))) else some (0, .null, σ))
  (pcall 227 [.ref 61, .int x0] σ) := by
  show Le _ (den 227 (rk 227 [.ref 61, .int x0]) 0 [.ref 61, .int x0, .retAddr 0] [] σ)
  exact r_aload_n k_227_0 rfl rfl
    (r_getI k_227_1 rfl po_227 rfl rfl rfl rfl
    (r_if (tgt := 8) k_227_4 rfl rfl cop_eq
    (r_aload_n k_227_8 rfl rfl
    (r_getI k_227_9 rfl po_227 rfl rfl rfl rfl
    (r_iconst k_227_12 rfl rfl
    (r_icmp (tgt := 29) k_227_13 rfl rfl cop_ne
    (r_aload_n k_227_29 rfl rfl
    (r_getI k_227_30 rfl po_227 rfl rfl rfl rfl
    (r_iconst k_227_33 rfl rfl
    (r_icmp (tgt := 75) k_227_34 rfl rfl cop_ne
    (r_aload_n k_227_75 rfl rfl
    (r_bipush k_227_76 rfl rfl
    (r_gd fun g => r_callV (q_virt (rest := []) (as := [.int (ι 40)]) k_227_78 po_227 rfl rfl rfl (rcvO rfl rfl rfl) rfl rfl) g rfl rfl (fun _ σ1 h1 => r_aload_n k_227_81 rfl rfl
    (r_iload_n k_227_82 rfl rfl
    (r_iconst k_227_83 rfl rfl
    (r_iadd k_227_84 rfl
    (r_gd fun g => r_callV (q_virt (rest := []) (as := [.int (x0 + (ι 1))]) k_227_85 po_227 rfl rfl rfl (rcvO rfl rfl rfl) rfl rfl) g rfl rfl (fun _ σ2 h2 => r_aload_n k_227_88 rfl rfl
    (r_bipush k_227_89 rfl rfl
    (r_gd fun g => r_callV (q_virt (rest := []) (as := [.int (ι 41)]) k_227_91 po_227 rfl rfl rfl (rcvO rfl rfl rfl) rfl rfl) g rfl rfl (fun _ σ3 h3 => r_retV k_227_94 rfl))))))))))))
    (r_aload_n k_227_37 rfl rfl
    (r_aload_n k_227_38 rfl rfl
    (r_getG k_227_39 rfl po_227 rfl rfl rfl rfl fun q4 hq4 => r_gd fun g => r_callI (q_virt (rest := []) (as := [.ref q4]) k_227_42 po_227 rfl rfl rfl (rcvO rfl rfl rfl) rfl rfl) g rfl rfl (fun r5 σ5 h5 => r_istore_n k_227_45 rfl rfl rfl
    (r_iload_n k_227_46 rfl rfl
    (r_iconst k_227_47 rfl rfl
    (r_icmp (tgt := 56) k_227_48 rfl rfl cop_ne
    (r_aload_n k_227_56 rfl rfl
    (r_iconst k_227_57 rfl rfl
    (r_iload_n k_227_58 rfl rfl
    (r_isub k_227_59 rfl
    (r_gd fun g => r_callV (q_virt (rest := []) (as := [.int ((ν 1) - r5)]) k_227_60 po_227 rfl rfl rfl (rcvO rfl rfl rfl) rfl rfl) g rfl rfl (fun _ σ6 h6 => r_aload_n k_227_63 rfl rfl
    (r_getI k_227_64 rfl po_227 rfl rfl rfl rfl
    (r_if (tgt := 74) k_227_67 rfl rfl cop_ne
    (r_retV k_227_74 rfl)
    (r_aload_n k_227_70 rfl rfl
    (r_gd fun g => r_callV (q_virt (rest := []) (as := []) k_227_71 po_227 rfl rfl rfl (rcvO rfl rfl rfl) rfl rfl) g rfl rfl (fun _ σ7 h7 => r_retV k_227_74 rfl)))))))))))
    (r_aload_n k_227_51 rfl rfl
    (r_iconst k_227_52 rfl rfl
    (r_gd fun g => r_callV (q_virt (rest := []) (as := [.int (ι 3)]) k_227_53 po_227 rfl rfl rfl (rcvO rfl rfl rfl) rfl rfl) g rfl rfl (fun _ σ8 h8 => r_aload_n k_227_56 rfl rfl
    (r_iconst k_227_57 rfl rfl
    (r_iload_n k_227_58 rfl rfl
    (r_isub k_227_59 rfl
    (r_gd fun g => r_callV (q_virt (rest := []) (as := [.int ((ν 1) - r5)]) k_227_60 po_227 rfl rfl rfl (rcvO rfl rfl rfl) rfl rfl) g rfl rfl (fun _ σ9 h9 => r_aload_n k_227_63 rfl rfl
    (r_getI k_227_64 rfl po_227 rfl rfl rfl rfl
    (r_if (tgt := 74) k_227_67 rfl rfl cop_ne
    (r_retV k_227_74 rfl)
    (r_aload_n k_227_70 rfl rfl
    (r_gd fun g => r_callV (q_virt (rest := []) (as := []) k_227_71 po_227 rfl rfl rfl (rcvO rfl rfl rfl) rfl rfl) g rfl rfl (fun _ σ10 h10 => r_retV k_227_74 rfl)))))))))))))))))))))))))
    (r_aload_n k_227_16 rfl rfl
    (r_aload_n k_227_17 rfl rfl
    (r_iconst k_227_18 rfl rfl
    (r_sipush k_227_19 rfl rfl
    (r_gd fun g => r_callI (q_virt (rest := [.ref 61]) (as := [.int (ι 0), .int (ι 9999)]) k_227_22 po_227 rfl rfl rfl (rcvO rfl rfl rfl) rfl rfl) g rfl rfl (fun r11 σ11 h11 => r_gd fun g => r_callV (q_virt (rest := []) (as := [.int r11]) k_227_25 po_227 rfl rfl rfl (rcvO rfl rfl rfl) rfl rfl) g rfl rfl (fun _ σ12 h12 => r_retV k_227_28 rfl)))))))))))
    (r_retV k_227_7 rfl)))
/-! ===== 228 HedgeWantsModel.readNumber ===== -/
theorem k_228_0 : cd 228 0 = some (.aload_n 0, 1) := by decide +kernel
theorem k_228_1 : cd 228 1 = some (.iload_n 1, 1) := by decide +kernel
theorem k_228_2 : cd 228 2 = some (.iload_n 2, 1) := by decide +kernel
theorem k_228_3 : cd 228 3 = some (.invokevirtual 222, 3) := by decide +kernel
theorem k_228_6 : cd 228 6 = some (.istore_n 3, 1) := by decide +kernel
theorem k_228_7 : cd 228 7 = some (.aload_n 0, 1) := by decide +kernel
theorem k_228_8 : cd 228 8 = some (.getfield 194, 3) := by decide +kernel
theorem k_228_11 : cd 228 11 = some (.ifCond .ne 7, 3) := by decide +kernel
theorem k_228_14 : cd 228 14 = some (.aload_n 0, 1) := by decide +kernel
theorem k_228_15 : cd 228 15 = some (.invokevirtual 219, 3) := by decide +kernel
theorem k_228_18 : cd 228 18 = some (.iload_n 3, 1) := by decide +kernel
theorem k_228_19 : cd 228 19 = some (.ireturn, 1) := by decide +kernel
theorem po_228 : po 228 = 9 := rfl
theorem M_228  {x0 : Int32} {x1 : Int32} {σ : pS} {ρ : Nat → Nat → Option Nat} (e : gR σ = ρ) (hL : LayR ρ) : Le
  (bI (pcall 229 [.ref 61, .int x0, .int x1] σ) fun r1 σ1 => if ¬ (gI σ1 61 22) = (ι 0) then some (1, .int r1, σ1) else bV (pcall 212 [.ref 61] σ1) fun σ2 => some (1, .int r1, σ2))
  (pcall 228 [.ref 61, .int x0, .int x1] σ) := by
  show Le _ (den 228 0 0 [.ref 61, .int x0, .int x1, .retAddr 0] [] σ)
  exact r_aload_n k_228_0 rfl rfl
    (r_iload_n k_228_1 rfl rfl
    (r_iload_n k_228_2 rfl rfl
    (r_callI (q_virt (rest := []) (as := [.int x0, .int x1]) k_228_3 po_228 rfl rfl rfl (rcvO rfl rfl rfl) rfl rfl) (lvq (j := 0) rfl (by decide +kernel)) rfl rfl (fun r1 σ1 h1 => r_istore_n k_228_6 rfl rfl rfl
    (r_aload_n k_228_7 rfl rfl
    (r_getI k_228_8 rfl po_228 rfl rfl rfl rfl
    (r_if (tgt := 18) k_228_11 rfl rfl cop_ne
    (r_iload_n k_228_18 rfl rfl
    (r_ret k_228_19 rfl rfl))
    (r_aload_n k_228_14 rfl rfl
    (r_callV (q_virt (rest := []) (as := []) k_228_15 po_228 rfl rfl rfl (rcvO rfl rfl rfl) rfl rfl) (lvq (j := 0) rfl (by decide +kernel)) rfl rfl (fun _ σ2 h2 => r_iload_n k_228_18 rfl rfl
    (r_ret k_228_19 rfl rfl)))))))))))
/-! ===== 229 HedgeWantsModel.numberNow ===== -/
theorem k_229_0 : cd 229 0 = some (.aload_n 0, 1) := by decide +kernel
theorem k_229_1 : cd 229 1 = some (.getfield 194, 3) := by decide +kernel
theorem k_229_4 : cd 229 4 = some (.ifCond .eq 5, 3) := by decide +kernel
theorem k_229_7 : cd 229 7 = some (.iconst 0, 1) := by decide +kernel
theorem k_229_8 : cd 229 8 = some (.ireturn, 1) := by decide +kernel
theorem k_229_9 : cd 229 9 = some (.aload_n 0, 1) := by decide +kernel
theorem k_229_10 : cd 229 10 = some (.getfield 168, 3) := by decide +kernel
theorem k_229_13 : cd 229 13 = some (.iconst 2, 1) := by decide +kernel
theorem k_229_14 : cd 229 14 = some (.if_icmp .eq 11, 3) := by decide +kernel
theorem k_229_17 : cd 229 17 = some (.aload_n 0, 1) := by decide +kernel
theorem k_229_18 : cd 229 18 = some (.iconst 1, 1) := by decide +kernel
theorem k_229_19 : cd 229 19 = some (.invokevirtual 215, 3) := by decide +kernel
theorem k_229_22 : cd 229 22 = some (.goto 37, 3) := by decide +kernel
theorem k_229_25 : cd 229 25 = some (.aload_n 0, 1) := by decide +kernel
theorem k_229_26 : cd 229 26 = some (.getfield 191, 3) := by decide +kernel
theorem k_229_29 : cd 229 29 = some (.aload_n 0, 1) := by decide +kernel
theorem k_229_30 : cd 229 30 = some (.getfield 165, 3) := by decide +kernel
theorem k_229_33 : cd 229 33 = some (.isub, 1) := by decide +kernel
theorem k_229_34 : cd 229 34 = some (.iconst 4, 1) := by decide +kernel
theorem k_229_35 : cd 229 35 = some (.if_icmp .gt 19, 3) := by decide +kernel
theorem k_229_38 : cd 229 38 = some (.aload_n 0, 1) := by decide +kernel
theorem k_229_39 : cd 229 39 = some (.getfield 178, 3) := by decide +kernel
theorem k_229_42 : cd 229 42 = some (.iload_n 1, 1) := by decide +kernel
theorem k_229_43 : cd 229 43 = some (.if_icmp .lt 11, 3) := by decide +kernel
theorem k_229_46 : cd 229 46 = some (.aload_n 0, 1) := by decide +kernel
theorem k_229_47 : cd 229 47 = some (.getfield 178, 3) := by decide +kernel
theorem k_229_50 : cd 229 50 = some (.iload_n 2, 1) := by decide +kernel
theorem k_229_51 : cd 229 51 = some (.if_icmp .le 8, 3) := by decide +kernel
theorem k_229_54 : cd 229 54 = some (.aload_n 0, 1) := by decide +kernel
theorem k_229_55 : cd 229 55 = some (.iconst 2, 1) := by decide +kernel
theorem k_229_56 : cd 229 56 = some (.invokevirtual 215, 3) := by decide +kernel
theorem k_229_59 : cd 229 59 = some (.aload_n 0, 1) := by decide +kernel
theorem k_229_60 : cd 229 60 = some (.getfield 194, 3) := by decide +kernel
theorem k_229_63 : cd 229 63 = some (.ifCond .ne 10, 3) := by decide +kernel
theorem k_229_66 : cd 229 66 = some (.aload_n 0, 1) := by decide +kernel
theorem k_229_67 : cd 229 67 = some (.getfield 178, 3) := by decide +kernel
theorem k_229_70 : cd 229 70 = some (.goto 4, 3) := by decide +kernel
theorem k_229_73 : cd 229 73 = some (.iconst 0, 1) := by decide +kernel
theorem k_229_74 : cd 229 74 = some (.ireturn, 1) := by decide +kernel
theorem po_229 : po 229 = 9 := rfl
theorem M_229  {x0 : Int32} {x1 : Int32} {σ : pS} {ρ : Nat → Nat → Option Nat} (e : gR σ = ρ) (hL : LayR ρ) : Le
  (if (gI σ 61 22) = (ι 0) then if (gI σ 61 18) = (ι 2) then if (ι 4) < ((gI σ 61 21) - (gI σ 61 20)) then bV (pcall 220 [.ref 61, .int (ι 2)] σ) fun σ1 => if ¬ (gI σ1 61 22) = (ι 0) then some (1, .int (ι 0), σ1) else some (1, .int (gI σ1 61 19), σ1) else if (gI σ 61 19) < x0 then bV (pcall 220 [.ref 61, .int (ι 2)] σ) fun σ2 => if ¬ (gI σ2 61 22) = (ι 0) then some (1, .int (ι 0), σ2) else some (1, .int (gI σ2 61 19), σ2) else if (gI σ 61 19) ≤ x1 then if ¬ (gI σ 61 22) = (ι 0) then some (1, .int (ι 0), σ) else some (1, .int (gI σ 61 19), σ) else bV (pcall 220 [.ref 61, .int (ι 2)] σ) fun σ3 => if ¬ (gI σ3 61 22) = (ι 0) then some (1, .int (ι 0), σ3) else some (1, .int (gI σ3 61 19), σ3) else bV (pcall 220 [.ref 61, .int (ι 1)] σ) fun σ4 => if ¬ (gI σ4 61 22) = (ι 0) then some (1, .int (ι 0), σ4) else some (1, .int (gI σ4 61 19), σ4) else some (1, .int (ι 0), σ))
  (pcall 229 [.ref 61, .int x0, .int x1] σ) := by
  show Le _ (den 229 0 0 [.ref 61, .int x0, .int x1] [] σ)
  exact r_aload_n k_229_0 rfl rfl
    (r_getI k_229_1 rfl po_229 rfl rfl rfl rfl
    (r_if (tgt := 9) k_229_4 rfl rfl cop_eq
    (r_aload_n k_229_9 rfl rfl
    (r_getI k_229_10 rfl po_229 rfl rfl rfl rfl
    (r_iconst k_229_13 rfl rfl
    (r_icmp (tgt := 25) k_229_14 rfl rfl cop_eq
    (r_aload_n k_229_25 rfl rfl
    (r_getI k_229_26 rfl po_229 rfl rfl rfl rfl
    (r_aload_n k_229_29 rfl rfl
    (r_getI k_229_30 rfl po_229 rfl rfl rfl rfl
    (r_isub k_229_33 rfl
    (r_iconst k_229_34 rfl rfl
    (r_icmp (tgt := 54) k_229_35 rfl rfl cop_gt
    (r_aload_n k_229_54 rfl rfl
    (r_iconst k_229_55 rfl rfl
    (r_callV (q_virt (rest := []) (as := [.int (ι 2)]) k_229_56 po_229 rfl rfl rfl (rcvO rfl rfl rfl) rfl rfl) (lvq (j := 0) rfl (by decide +kernel)) rfl rfl (fun _ σ1 h1 => r_aload_n k_229_59 rfl rfl
    (r_getI k_229_60 rfl po_229 rfl rfl rfl rfl
    (r_if (tgt := 73) k_229_63 rfl rfl cop_ne
    (r_iconst k_229_73 rfl rfl
    (r_ret k_229_74 rfl rfl))
    (r_aload_n k_229_66 rfl rfl
    (r_getI k_229_67 rfl po_229 rfl rfl rfl rfl
    (r_goto (tgt := 74) k_229_70 rfl (r_ret k_229_74 rfl rfl))))))))))
    (r_aload_n k_229_38 rfl rfl
    (r_getI k_229_39 rfl po_229 rfl rfl rfl rfl
    (r_iload_n k_229_42 rfl rfl
    (r_icmp (tgt := 54) k_229_43 rfl rfl cop_lt
    (r_aload_n k_229_54 rfl rfl
    (r_iconst k_229_55 rfl rfl
    (r_callV (q_virt (rest := []) (as := [.int (ι 2)]) k_229_56 po_229 rfl rfl rfl (rcvO rfl rfl rfl) rfl rfl) (lvq (j := 0) rfl (by decide +kernel)) rfl rfl (fun _ σ2 h2 => r_aload_n k_229_59 rfl rfl
    (r_getI k_229_60 rfl po_229 rfl rfl rfl rfl
    (r_if (tgt := 73) k_229_63 rfl rfl cop_ne
    (r_iconst k_229_73 rfl rfl
    (r_ret k_229_74 rfl rfl))
    (r_aload_n k_229_66 rfl rfl
    (r_getI k_229_67 rfl po_229 rfl rfl rfl rfl
    (r_goto (tgt := 74) k_229_70 rfl (r_ret k_229_74 rfl rfl))))))))))
    (r_aload_n k_229_46 rfl rfl
    (r_getI k_229_47 rfl po_229 rfl rfl rfl rfl
    (r_iload_n k_229_50 rfl rfl
    (r_icmp (tgt := 59) k_229_51 rfl rfl cop_le
    (r_aload_n k_229_59 rfl rfl
    (r_getI k_229_60 rfl po_229 rfl rfl rfl rfl
    (r_if (tgt := 73) k_229_63 rfl rfl cop_ne
    (r_iconst k_229_73 rfl rfl
    (r_ret k_229_74 rfl rfl))
    (r_aload_n k_229_66 rfl rfl
    (r_getI k_229_67 rfl po_229 rfl rfl rfl rfl
    (r_goto (tgt := 74) k_229_70 rfl (r_ret k_229_74 rfl rfl)))))))
    (r_aload_n k_229_54 rfl rfl
    (r_iconst k_229_55 rfl rfl
    (r_callV (q_virt (rest := []) (as := [.int (ι 2)]) k_229_56 po_229 rfl rfl rfl (rcvO rfl rfl rfl) rfl rfl) (lvq (j := 0) rfl (by decide +kernel)) rfl rfl (fun _ σ3 h3 => r_aload_n k_229_59 rfl rfl
    (r_getI k_229_60 rfl po_229 rfl rfl rfl rfl
    (r_if (tgt := 73) k_229_63 rfl rfl cop_ne
    (r_iconst k_229_73 rfl rfl
    (r_ret k_229_74 rfl rfl))
    (r_aload_n k_229_66 rfl rfl
    (r_getI k_229_67 rfl po_229 rfl rfl rfl rfl
    (r_goto (tgt := 74) k_229_70 rfl (r_ret k_229_74 rfl rfl)))))))))))))))))))))))))
    (r_aload_n k_229_17 rfl rfl
    (r_iconst k_229_18 rfl rfl
    (r_callV (q_virt (rest := []) (as := [.int (ι 1)]) k_229_19 po_229 rfl rfl rfl (rcvO rfl rfl rfl) rfl rfl) (lvq (j := 0) rfl (by decide +kernel)) rfl rfl (fun _ σ4 h4 => r_goto (tgt := 59) k_229_22 rfl (r_aload_n k_229_59 rfl rfl
    (r_getI k_229_60 rfl po_229 rfl rfl rfl rfl
    (r_if (tgt := 73) k_229_63 rfl rfl cop_ne
    (r_iconst k_229_73 rfl rfl
    (r_ret k_229_74 rfl rfl))
    (r_aload_n k_229_66 rfl rfl
    (r_getI k_229_67 rfl po_229 rfl rfl rfl rfl
    (r_goto (tgt := 74) k_229_70 rfl (r_ret k_229_74 rfl rfl)))))))))))))))
    (r_iconst k_229_7 rfl rfl
    (r_ret k_229_8 rfl rfl))))
/-! ===== 230 HedgeWantsModel.lay ===== -/
theorem k_230_0 : cd 230 0 = some (.aload_n 0, 1) := by decide +kernel
theorem k_230_1 : cd 230 1 = some (.getfield 194, 3) := by decide +kernel
theorem k_230_4 : cd 230 4 = some (.ifCond .eq 4, 3) := by decide +kernel
theorem k_230_7 : cd 230 7 = some (.return_, 1) := by decide +kernel
theorem k_230_8 : cd 230 8 = some (.iconst 5, 1) := by decide +kernel
theorem k_230_9 : cd 230 9 = some (.aload_n 0, 1) := by decide +kernel
theorem k_230_10 : cd 230 10 = some (.getfield 225, 3) := by decide +kernel
theorem k_230_13 : cd 230 13 = some (.ifCond .eq 7, 3) := by decide +kernel
theorem k_230_16 : cd 230 16 = some (.iconst 4, 1) := by decide +kernel
theorem k_230_17 : cd 230 17 = some (.goto 4, 3) := by decide +kernel
theorem k_230_20 : cd 230 20 = some (.iconst 3, 1) := by decide +kernel
theorem k_230_21 : cd 230 21 = some (.iadd, 1) := by decide +kernel
theorem k_230_22 : cd 230 22 = some (.istore_n 2, 1) := by decide +kernel
theorem k_230_23 : cd 230 23 = some (.aload_n 0, 1) := by decide +kernel
theorem k_230_24 : cd 230 24 = some (.getfield 225, 3) := by decide +kernel
theorem k_230_27 : cd 230 27 = some (.ifCond .eq 10, 3) := by decide +kernel
theorem k_230_30 : cd 230 30 = some (.aload_n 0, 1) := by decide +kernel
theorem k_230_31 : cd 230 31 = some (.getfield 64, 3) := by decide +kernel
theorem k_230_34 : cd 230 34 = some (.goto 7, 3) := by decide +kernel
theorem k_230_37 : cd 230 37 = some (.aload_n 0, 1) := by decide +kernel
theorem k_230_38 : cd 230 38 = some (.getfield 61, 3) := by decide +kernel
theorem k_230_41 : cd 230 41 = some (.astore_n 3, 1) := by decide +kernel
theorem k_230_42 : cd 230 42 = some (.aload_n 3, 1) := by decide +kernel
theorem k_230_43 : cd 230 43 = some (.sipush 700, 3) := by decide +kernel
theorem k_230_46 : cd 230 46 = some (.aload_n 0, 1) := by decide +kernel
theorem k_230_47 : cd 230 47 = some (.getfield 44, 3) := by decide +kernel
theorem k_230_50 : cd 230 50 = some (.iload_n 2, 1) := by decide +kernel
theorem k_230_51 : cd 230 51 = some (.iaload, 1) := by decide +kernel
theorem k_230_52 : cd 230 52 = some (.iadd, 1) := by decide +kernel
theorem k_230_53 : cd 230 53 = some (.iload_n 1, 1) := by decide +kernel
theorem k_230_54 : cd 230 54 = some (.iastore, 1) := by decide +kernel
theorem k_230_55 : cd 230 55 = some (.aload_n 0, 1) := by decide +kernel
theorem k_230_56 : cd 230 56 = some (.getfield 44, 3) := by decide +kernel
theorem k_230_59 : cd 230 59 = some (.iload_n 2, 1) := by decide +kernel
theorem k_230_60 : cd 230 60 = some (.dup2, 1) := by decide +kernel
theorem k_230_61 : cd 230 61 = some (.iaload, 1) := by decide +kernel
theorem k_230_62 : cd 230 62 = some (.iconst 1, 1) := by decide +kernel
theorem k_230_63 : cd 230 63 = some (.iadd, 1) := by decide +kernel
theorem k_230_64 : cd 230 64 = some (.iastore, 1) := by decide +kernel
theorem k_230_65 : cd 230 65 = some (.return_, 1) := by decide +kernel
theorem po_230 : po 230 = 9 := rfl
noncomputable def C_230_41  (x1 : Int32) (x2 : Int32) (v3 : Value) (qs0 : Nat) (σ : pS) : Option pZ := den 230 0 41 [.ref 61, .int x1, .int x2, v3] [.ref qs0] σ
theorem T_230_41  {x1 : Int32} {x2 : Int32} {v3 : Value} {qs0 : Nat} (hqs0 : kd qs0 = (100, 1400)) {σ : pS} {ρ : Nat → Nat → Option Nat} (e : gR σ = ρ) (hL : LayR ρ) : Le
  (gd (inb x2 10) (gd (inb ((ι 700) + (gI σ 65 (ix x2))) 1400) (gd (inb x2 10) (gd (inb x2 10) (some (0, .null, (sI (sI σ qs0 (ix ((ι 700) + (gI σ 65 (ix x2)))) x1) 65 (ix x2) ((gI (sI σ qs0 (ix ((ι 700) + (gI σ 65 (ix x2)))) x1) 65 (ix x2)) + (ι 1)))))))))
  (C_230_41  x1 x2 v3 qs0 σ) := by
  unfold C_230_41
  exact r_astore_n k_230_41 rfl rfl rfl
    (r_aload_n k_230_42 rfl rfl
    (r_sipush k_230_43 rfl rfl
    (r_aload_n k_230_46 rfl rfl
    (r_getR k_230_47 rfl po_230 rfl rfl rfl rfl (gRat e (LayR.at hL (i := 66) rfl))
    (r_iload_n k_230_50 rfl rfl
    (r_gd fun g => r_iald k_230_51 rfl rfl g
    (r_iadd k_230_52 rfl
    (r_iload_n k_230_53 rfl rfl
    (r_gd fun g => r_iast k_230_54 rfl hqs0 g
    (r_aload_n k_230_55 rfl rfl
    (r_getR k_230_56 rfl po_230 rfl rfl rfl rfl (gRat (eI e) (LayR.at hL (i := 66) rfl))
    (r_iload_n k_230_59 rfl rfl
    (r_dup2 k_230_60 rfl rfl rfl
    (r_gd fun g => r_iald k_230_61 rfl rfl g
    (r_iconst k_230_62 rfl rfl
    (r_iadd k_230_63 rfl
    (r_gd fun g => r_iast k_230_64 rfl rfl g
    (r_retV k_230_65 rfl))))))))))))))))))
theorem M_230  {x0 : Int32} {σ : pS} {ρ : Nat → Nat → Option Nat} (e : gR σ = ρ) (hL : LayR ρ) : Le
  (if (gI σ 61 22) = (ι 0) then if (gI σ 61 25) = (ι 0) then if (gI σ 61 25) = (ι 0) then C_230_41 x0 ((ι 5) + (ι 3)) (.retAddr 0) 71 σ else C_230_41 x0 ((ι 5) + (ι 3)) (.retAddr 0) 72 σ else if (gI σ 61 25) = (ι 0) then C_230_41 x0 ((ι 5) + (ι 4)) (.retAddr 0) 71 σ else C_230_41 x0 ((ι 5) + (ι 4)) (.retAddr 0) 72 σ else some (0, .null, σ))
  (pcall 230 [.ref 61, .int x0] σ) := by
  show Le _ (den 230 0 0 [.ref 61, .int x0, .retAddr 0, .retAddr 0] [] σ)
  exact r_aload_n k_230_0 rfl rfl
    (r_getI k_230_1 rfl po_230 rfl rfl rfl rfl
    (r_if (tgt := 8) k_230_4 rfl rfl cop_eq
    (r_iconst k_230_8 rfl rfl
    (r_aload_n k_230_9 rfl rfl
    (r_getI k_230_10 rfl po_230 rfl rfl rfl rfl
    (r_if (tgt := 20) k_230_13 rfl rfl cop_eq
    (r_iconst k_230_20 rfl rfl
    (r_iadd k_230_21 rfl
    (r_istore_n k_230_22 rfl rfl rfl
    (r_aload_n k_230_23 rfl rfl
    (r_getI k_230_24 rfl po_230 rfl rfl rfl rfl
    (r_if (tgt := 37) k_230_27 rfl rfl cop_eq
    (r_aload_n k_230_37 rfl rfl
    (r_getR k_230_38 rfl po_230 rfl rfl rfl rfl (gRat e (LayR.at hL (i := 72) rfl))
    (Le.rfl')))
    (r_aload_n k_230_30 rfl rfl
    (r_getR k_230_31 rfl po_230 rfl rfl rfl rfl (gRat e (LayR.at hL (i := 73) rfl))
    (r_goto (tgt := 41) k_230_34 rfl (Le.rfl'))))))))))
    (r_iconst k_230_16 rfl rfl
    (r_goto (tgt := 21) k_230_17 rfl (r_iadd k_230_21 rfl
    (r_istore_n k_230_22 rfl rfl rfl
    (r_aload_n k_230_23 rfl rfl
    (r_getI k_230_24 rfl po_230 rfl rfl rfl rfl
    (r_if (tgt := 37) k_230_27 rfl rfl cop_eq
    (r_aload_n k_230_37 rfl rfl
    (r_getR k_230_38 rfl po_230 rfl rfl rfl rfl (gRat e (LayR.at hL (i := 72) rfl))
    (Le.rfl')))
    (r_aload_n k_230_30 rfl rfl
    (r_getR k_230_31 rfl po_230 rfl rfl rfl rfl (gRat e (LayR.at hL (i := 73) rfl))
    (r_goto (tgt := 41) k_230_34 rfl (Le.rfl')))))))))))))))
    (r_retV k_230_7 rfl)))
/-! ===== 231 HedgeWantsModel.mark ===== -/
theorem k_231_0 : cd 231 0 = some (.aload_n 0, 1) := by decide +kernel
theorem k_231_1 : cd 231 1 = some (.getfield 194, 3) := by decide +kernel
theorem k_231_4 : cd 231 4 = some (.ifCond .ne 16, 3) := by decide +kernel
theorem k_231_7 : cd 231 7 = some (.aload_n 0, 1) := by decide +kernel
theorem k_231_8 : cd 231 8 = some (.iload_n 1, 1) := by decide +kernel
theorem k_231_9 : cd 231 9 = some (.invokevirtual 212, 3) := by decide +kernel
theorem k_231_12 : cd 231 12 = some (.ifCond .ne 8, 3) := by decide +kernel
theorem k_231_15 : cd 231 15 = some (.aload_n 0, 1) := by decide +kernel
theorem k_231_16 : cd 231 16 = some (.iconst 1, 1) := by decide +kernel
theorem k_231_17 : cd 231 17 = some (.invokevirtual 215, 3) := by decide +kernel
theorem k_231_20 : cd 231 20 = some (.aload_n 0, 1) := by decide +kernel
theorem k_231_21 : cd 231 21 = some (.getfield 194, 3) := by decide +kernel
theorem k_231_24 : cd 231 24 = some (.ifCond .ne 7, 3) := by decide +kernel
theorem k_231_27 : cd 231 27 = some (.aload_n 0, 1) := by decide +kernel
theorem k_231_28 : cd 231 28 = some (.invokevirtual 219, 3) := by decide +kernel
theorem k_231_31 : cd 231 31 = some (.return_, 1) := by decide +kernel
theorem po_231 : po 231 = 9 := rfl
theorem M_231  {x0 : Int32} {σ : pS} {ρ : Nat → Nat → Option Nat} (e : gR σ = ρ) (hL : LayR ρ) : Le
  (if ¬ (gI σ 61 22) = (ι 0) then if ¬ (gI σ 61 22) = (ι 0) then some (0, .null, σ) else bV (pcall 212 [.ref 61] σ) fun σ1 => some (0, .null, σ1) else bI (pcall 222 [.ref 61, .int x0] σ) fun r2 σ2 => if ¬ r2 = (ι 0) then if ¬ (gI σ2 61 22) = (ι 0) then some (0, .null, σ2) else bV (pcall 212 [.ref 61] σ2) fun σ3 => some (0, .null, σ3) else bV (pcall 220 [.ref 61, .int (ι 1)] σ2) fun σ4 => if ¬ (gI σ4 61 22) = (ι 0) then some (0, .null, σ4) else bV (pcall 212 [.ref 61] σ4) fun σ5 => some (0, .null, σ5))
  (pcall 231 [.ref 61, .int x0] σ) := by
  show Le _ (den 231 0 0 [.ref 61, .int x0] [] σ)
  exact r_aload_n k_231_0 rfl rfl
    (r_getI k_231_1 rfl po_231 rfl rfl rfl rfl
    (r_if (tgt := 20) k_231_4 rfl rfl cop_ne
    (r_aload_n k_231_20 rfl rfl
    (r_getI k_231_21 rfl po_231 rfl rfl rfl rfl
    (r_if (tgt := 31) k_231_24 rfl rfl cop_ne
    (r_retV k_231_31 rfl)
    (r_aload_n k_231_27 rfl rfl
    (r_callV (q_virt (rest := []) (as := []) k_231_28 po_231 rfl rfl rfl (rcvO rfl rfl rfl) rfl rfl) (lvq (j := 0) rfl (by decide +kernel)) rfl rfl (fun _ σ1 h1 => r_retV k_231_31 rfl))))))
    (r_aload_n k_231_7 rfl rfl
    (r_iload_n k_231_8 rfl rfl
    (r_callI (q_virt (rest := []) (as := [.int x0]) k_231_9 po_231 rfl rfl rfl (rcvO rfl rfl rfl) rfl rfl) (lvq (j := 0) rfl (by decide +kernel)) rfl rfl (fun r2 σ2 h2 => r_if (tgt := 20) k_231_12 rfl rfl cop_ne
    (r_aload_n k_231_20 rfl rfl
    (r_getI k_231_21 rfl po_231 rfl rfl rfl rfl
    (r_if (tgt := 31) k_231_24 rfl rfl cop_ne
    (r_retV k_231_31 rfl)
    (r_aload_n k_231_27 rfl rfl
    (r_callV (q_virt (rest := []) (as := []) k_231_28 po_231 rfl rfl rfl (rcvO rfl rfl rfl) rfl rfl) (lvq (j := 0) rfl (by decide +kernel)) rfl rfl (fun _ σ3 h3 => r_retV k_231_31 rfl))))))
    (r_aload_n k_231_15 rfl rfl
    (r_iconst k_231_16 rfl rfl
    (r_callV (q_virt (rest := []) (as := [.int (ι 1)]) k_231_17 po_231 rfl rfl rfl (rcvO rfl rfl rfl) rfl rfl) (lvq (j := 0) rfl (by decide +kernel)) rfl rfl (fun _ σ4 h4 => r_aload_n k_231_20 rfl rfl
    (r_getI k_231_21 rfl po_231 rfl rfl rfl rfl
    (r_if (tgt := 31) k_231_24 rfl rfl cop_ne
    (r_retV k_231_31 rfl)
    (r_aload_n k_231_27 rfl rfl
    (r_callV (q_virt (rest := []) (as := []) k_231_28 po_231 rfl rfl rfl (rcvO rfl rfl rfl) rfl rfl) (lvq (j := 0) rfl (by decide +kernel)) rfl rfl (fun _ σ5 h5 => r_retV k_231_31 rfl)))))))))))))))
/-! ===== 232 HedgeWantsModel.sayThing ===== -/
theorem k_232_0 : cd 232 0 = some (.aload_n 0, 1) := by decide +kernel
theorem k_232_1 : cd 232 1 = some (.getfield 44, 3) := by decide +kernel
theorem k_232_4 : cd 232 4 = some (.bipush 6, 2) := by decide +kernel
theorem k_232_6 : cd 232 6 = some (.iaload, 1) := by decide +kernel
theorem k_232_7 : cd 232 7 = some (.bipush 12, 2) := by decide +kernel
theorem k_232_9 : cd 232 9 = some (.if_icmp .ne 8, 3) := by decide +kernel
theorem k_232_12 : cd 232 12 = some (.aload_n 0, 1) := by decide +kernel
theorem k_232_13 : cd 232 13 = some (.iconst 2, 1) := by decide +kernel
theorem k_232_14 : cd 232 14 = some (.invokevirtual 215, 3) := by decide +kernel
theorem k_232_17 : cd 232 17 = some (.aload_n 0, 1) := by decide +kernel
theorem k_232_18 : cd 232 18 = some (.getfield 194, 3) := by decide +kernel
theorem k_232_21 : cd 232 21 = some (.ifCond .eq 4, 3) := by decide +kernel
theorem k_232_24 : cd 232 24 = some (.return_, 1) := by decide +kernel
theorem k_232_25 : cd 232 25 = some (.aload_n 0, 1) := by decide +kernel
theorem k_232_26 : cd 232 26 = some (.invokevirtual 219, 3) := by decide +kernel
theorem k_232_29 : cd 232 29 = some (.aload_n 0, 1) := by decide +kernel
theorem k_232_30 : cd 232 30 = some (.getfield 44, 3) := by decide +kernel
theorem k_232_33 : cd 232 33 = some (.bipush 6, 2) := by decide +kernel
theorem k_232_35 : cd 232 35 = some (.iaload, 1) := by decide +kernel
theorem k_232_36 : cd 232 36 = some (.istore_n 2, 1) := by decide +kernel
theorem k_232_37 : cd 232 37 = some (.aload_n 0, 1) := by decide +kernel
theorem k_232_38 : cd 232 38 = some (.getfield 50, 3) := by decide +kernel
theorem k_232_41 : cd 232 41 = some (.bipush 12, 2) := by decide +kernel
theorem k_232_43 : cd 232 43 = some (.iload_n 2, 1) := by decide +kernel
theorem k_232_44 : cd 232 44 = some (.iadd, 1) := by decide +kernel
theorem k_232_45 : cd 232 45 = some (.iload_n 1, 1) := by decide +kernel
theorem k_232_46 : cd 232 46 = some (.iastore, 1) := by decide +kernel
theorem k_232_47 : cd 232 47 = some (.aload_n 0, 1) := by decide +kernel
theorem k_232_48 : cd 232 48 = some (.getfield 52, 3) := by decide +kernel
theorem k_232_51 : cd 232 51 = some (.bipush 12, 2) := by decide +kernel
theorem k_232_53 : cd 232 53 = some (.iload_n 2, 1) := by decide +kernel
theorem k_232_54 : cd 232 54 = some (.iadd, 1) := by decide +kernel
theorem k_232_55 : cd 232 55 = some (.aload_n 0, 1) := by decide +kernel
theorem k_232_56 : cd 232 56 = some (.invokevirtual 266, 3) := by decide +kernel
theorem k_232_59 : cd 232 59 = some (.iastore, 1) := by decide +kernel
theorem k_232_60 : cd 232 60 = some (.aload_n 0, 1) := by decide +kernel
theorem k_232_61 : cd 232 61 = some (.getfield 194, 3) := by decide +kernel
theorem k_232_64 : cd 232 64 = some (.ifCond .ne 7, 3) := by decide +kernel
theorem k_232_67 : cd 232 67 = some (.aload_n 0, 1) := by decide +kernel
theorem k_232_68 : cd 232 68 = some (.invokevirtual 219, 3) := by decide +kernel
theorem k_232_71 : cd 232 71 = some (.iconst 0, 1) := by decide +kernel
theorem k_232_72 : cd 232 72 = some (.istore_n 3, 1) := by decide +kernel
theorem k_232_73 : cd 232 73 = some (.iload_n 3, 1) := by decide +kernel
theorem k_232_74 : cd 232 74 = some (.aload_n 0, 1) := by decide +kernel
theorem k_232_75 : cd 232 75 = some (.getfield 44, 3) := by decide +kernel
theorem k_232_78 : cd 232 78 = some (.iconst 5, 1) := by decide +kernel
theorem k_232_79 : cd 232 79 = some (.iaload, 1) := by decide +kernel
theorem k_232_80 : cd 232 80 = some (.if_icmp .ge 37, 3) := by decide +kernel
theorem k_232_83 : cd 232 83 = some (.aload_n 0, 1) := by decide +kernel
theorem k_232_84 : cd 232 84 = some (.getfield 194, 3) := by decide +kernel
theorem k_232_87 : cd 232 87 = some (.ifCond .ne 30, 3) := by decide +kernel
theorem k_232_90 : cd 232 90 = some (.aload_n 0, 1) := by decide +kernel
theorem k_232_91 : cd 232 91 = some (.getfield 55, 3) := by decide +kernel
theorem k_232_94 : cd 232 94 = some (.bipush 96, 2) := by decide +kernel
theorem k_232_96 : cd 232 96 = some (.bipush 12, 2) := by decide +kernel
theorem k_232_98 : cd 232 98 = some (.iload_n 3, 1) := by decide +kernel
theorem k_232_99 : cd 232 99 = some (.imul, 1) := by decide +kernel
theorem k_232_100 : cd 232 100 = some (.iadd, 1) := by decide +kernel
theorem k_232_101 : cd 232 101 = some (.iload_n 2, 1) := by decide +kernel
theorem k_232_102 : cd 232 102 = some (.iadd, 1) := by decide +kernel
theorem k_232_103 : cd 232 103 = some (.aload_n 0, 1) := by decide +kernel
theorem k_232_104 : cd 232 104 = some (.iconst 0, 1) := by decide +kernel
theorem k_232_105 : cd 232 105 = some (.bipush 9, 2) := by decide +kernel
theorem k_232_107 : cd 232 107 = some (.invokevirtual 229, 3) := by decide +kernel
theorem k_232_110 : cd 232 110 = some (.iastore, 1) := by decide +kernel
theorem k_232_111 : cd 232 111 = some (.iinc 3 1, 3) := by decide +kernel
theorem k_232_114 : cd 232 114 = some (.goto (-41), 3) := by decide +kernel
theorem k_232_117 : cd 232 117 = some (.aload_n 0, 1) := by decide +kernel
theorem k_232_118 : cd 232 118 = some (.getfield 44, 3) := by decide +kernel
theorem k_232_121 : cd 232 121 = some (.bipush 6, 2) := by decide +kernel
theorem k_232_123 : cd 232 123 = some (.dup2, 1) := by decide +kernel
theorem k_232_124 : cd 232 124 = some (.iaload, 1) := by decide +kernel
theorem k_232_125 : cd 232 125 = some (.iconst 1, 1) := by decide +kernel
theorem k_232_126 : cd 232 126 = some (.iadd, 1) := by decide +kernel
theorem k_232_127 : cd 232 127 = some (.iastore, 1) := by decide +kernel
theorem k_232_128 : cd 232 128 = some (.return_, 1) := by decide +kernel
theorem po_232 : po 232 = 9 := rfl
noncomputable def C_232_17  (x1 : Int32) (v2 : Value) (v3 : Value) (σ : pS) : Option pZ := den 232 0 17 [.ref 61, .int x1, v2, v3] [] σ
noncomputable def C_232_73  (v1 : Value) (x2 : Int32) (x3 : Int32) (σ : pS) : Option pZ := den 232 0 73 [.ref 61, v1, .int x2, .int x3] [] σ
theorem T_232_17  {x1 : Int32} {v2 : Value} {v3 : Value}  {σ : pS} {ρ : Nat → Nat → Option Nat} (e : gR σ = ρ) (hL : LayR ρ) : Le
  (if (gI σ 61 22) = (ι 0) then bV (pcall 212 [.ref 61] σ) fun σ1 => gd (inb ((ι 12) + (gI σ1 65 6)) 24) (bI (pcall 233 [.ref 61] (sI σ1 67 (ix ((ι 12) + (gI σ1 65 6))) x1)) fun r2 σ2 => gd (inb ((ι 12) + (gI σ1 65 6)) 24) (if ¬ (gI (sI σ2 68 (ix ((ι 12) + (gI σ1 65 6))) r2) 61 22) = (ι 0) then C_232_73 (.int x1) (gI σ1 65 6) (ι 0) (sI σ2 68 (ix ((ι 12) + (gI σ1 65 6))) r2) else bV (pcall 212 [.ref 61] (sI σ2 68 (ix ((ι 12) + (gI σ1 65 6))) r2)) fun σ3 => C_232_73 (.int x1) (gI σ1 65 6) (ι 0) σ3)) else some (0, .null, σ))
  (C_232_17  x1 v2 v3 σ) := by
  unfold C_232_17
  exact r_aload_n k_232_17 rfl rfl
    (r_getI k_232_18 rfl po_232 rfl rfl rfl rfl
    (r_if (tgt := 25) k_232_21 rfl rfl cop_eq
    (r_aload_n k_232_25 rfl rfl
    (r_callV (q_virt (rest := []) (as := []) k_232_26 po_232 rfl rfl rfl (rcvO rfl rfl rfl) rfl rfl) (lvq (j := 0) rfl (by decide +kernel)) rfl rfl (fun _ σ1 h1 => r_aload_n k_232_29 rfl rfl
    (r_getR k_232_30 rfl po_232 rfl rfl rfl rfl (gRat (eC rfl h1 e) (LayR.at hL (i := 66) rfl))
    (r_bipush k_232_33 rfl rfl
    (r_iald k_232_35 rfl rfl (by decide)
    (r_istore_n k_232_36 rfl rfl rfl
    (r_aload_n k_232_37 rfl rfl
    (r_getR k_232_38 rfl po_232 rfl rfl rfl rfl (gRat (eC rfl h1 e) (LayR.at hL (i := 68) rfl))
    (r_bipush k_232_41 rfl rfl
    (r_iload_n k_232_43 rfl rfl
    (r_iadd k_232_44 rfl
    (r_iload_n k_232_45 rfl rfl
    (r_gd fun g => r_iast k_232_46 rfl rfl g
    (r_aload_n k_232_47 rfl rfl
    (r_getR k_232_48 rfl po_232 rfl rfl rfl rfl (gRat (eI (eC rfl h1 e)) (LayR.at hL (i := 69) rfl))
    (r_bipush k_232_51 rfl rfl
    (r_iload_n k_232_53 rfl rfl
    (r_iadd k_232_54 rfl
    (r_aload_n k_232_55 rfl rfl
    (r_callI (q_virt (rest := [.int ((ι 12) + (gI σ1 65 6)), .ref 68]) (as := []) k_232_56 po_232 rfl rfl rfl (rcvO rfl rfl rfl) rfl rfl) (lvq (j := 0) rfl (by decide +kernel)) rfl rfl (fun r2 σ2 h2 => r_gd fun g => r_iast k_232_59 rfl rfl g
    (r_aload_n k_232_60 rfl rfl
    (r_getI k_232_61 rfl po_232 rfl rfl rfl rfl
    (r_if (tgt := 71) k_232_64 rfl rfl cop_ne
    (r_iconst k_232_71 rfl rfl
    (r_istore_n k_232_72 rfl rfl rfl
    (Le.rfl')))
    (r_aload_n k_232_67 rfl rfl
    (r_callV (q_virt (rest := []) (as := []) k_232_68 po_232 rfl rfl rfl (rcvO rfl rfl rfl) rfl rfl) (lvq (j := 0) rfl (by decide +kernel)) rfl rfl (fun _ σ3 h3 => r_iconst k_232_71 rfl rfl
    (r_istore_n k_232_72 rfl rfl rfl
    (Le.rfl'))))))))))))))))))))))))))))))
    (r_retV k_232_24 rfl)))
theorem T_232_73  {v1 : Value} {x2 : Int32} {x3 : Int32}  {σ : pS} {ρ : Nat → Nat → Option Nat} (e : gR σ = ρ) (hL : LayR ρ) : Le
  (if (gI σ 65 5) ≤ x3 then some (0, .null, (sI σ 65 6 ((gI σ 65 6) + (ι 1)))) else if ¬ (gI σ 61 22) = (ι 0) then some (0, .null, (sI σ 65 6 ((gI σ 65 6) + (ι 1)))) else bI (pcall 228 [.ref 61, .int (ι 0), .int (ι 9)] σ) fun r1 σ1 => gd (inb (((ι 96) + ((ι 12) * x3)) + x2) 192) (C_232_73 v1 x2 (x3 + (ι 1)) (sI σ1 69 (ix (((ι 96) + ((ι 12) * x3)) + x2)) r1)))
  (C_232_73  v1 x2 x3 σ) := by
  unfold C_232_73
  exact r_iload_n k_232_73 rfl rfl
    (r_aload_n k_232_74 rfl rfl
    (r_getR k_232_75 rfl po_232 rfl rfl rfl rfl (gRat e (LayR.at hL (i := 66) rfl))
    (r_iconst k_232_78 rfl rfl
    (r_iald k_232_79 rfl rfl (by decide)
    (r_icmp (tgt := 117) k_232_80 rfl rfl cop_ge
    (r_aload_n k_232_117 rfl rfl
    (r_getR k_232_118 rfl po_232 rfl rfl rfl rfl (gRat e (LayR.at hL (i := 66) rfl))
    (r_bipush k_232_121 rfl rfl
    (r_dup2 k_232_123 rfl rfl rfl
    (r_iald k_232_124 rfl rfl (by decide)
    (r_iconst k_232_125 rfl rfl
    (r_iadd k_232_126 rfl
    (r_iast k_232_127 rfl rfl (by decide)
    (r_retV k_232_128 rfl)))))))))
    (r_aload_n k_232_83 rfl rfl
    (r_getI k_232_84 rfl po_232 rfl rfl rfl rfl
    (r_if (tgt := 117) k_232_87 rfl rfl cop_ne
    (r_aload_n k_232_117 rfl rfl
    (r_getR k_232_118 rfl po_232 rfl rfl rfl rfl (gRat e (LayR.at hL (i := 66) rfl))
    (r_bipush k_232_121 rfl rfl
    (r_dup2 k_232_123 rfl rfl rfl
    (r_iald k_232_124 rfl rfl (by decide)
    (r_iconst k_232_125 rfl rfl
    (r_iadd k_232_126 rfl
    (r_iast k_232_127 rfl rfl (by decide)
    (r_retV k_232_128 rfl)))))))))
    (r_aload_n k_232_90 rfl rfl
    (r_getR k_232_91 rfl po_232 rfl rfl rfl rfl (gRat e (LayR.at hL (i := 70) rfl))
    (r_bipush k_232_94 rfl rfl
    (r_bipush k_232_96 rfl rfl
    (r_iload_n k_232_98 rfl rfl
    (r_imul k_232_99 rfl
    (r_iadd k_232_100 rfl
    (r_iload_n k_232_101 rfl rfl
    (r_iadd k_232_102 rfl
    (r_aload_n k_232_103 rfl rfl
    (r_iconst k_232_104 rfl rfl
    (r_bipush k_232_105 rfl rfl
    (r_callI (q_virt (rest := [.int (((ι 96) + ((ι 12) * x3)) + x2), .ref 69]) (as := [.int (ι 0), .int (ι 9)]) k_232_107 po_232 rfl rfl rfl (rcvO rfl rfl rfl) rfl rfl) (lvq (j := 0) rfl (by decide +kernel)) rfl rfl (fun r1 σ1 h1 => r_gd fun g => r_iast k_232_110 rfl rfl g
    (r_iinc k_232_111 rfl rfl rfl rfl
    (r_goto (tgt := 73) k_232_114 rfl (Le.rfl')))))))))))))))))))))))))
theorem M_232  {x0 : Int32} {σ : pS} {ρ : Nat → Nat → Option Nat} (e : gR σ = ρ) (hL : LayR ρ) : Le
  (if ¬ (gI σ 65 6) = (ι 12) then C_232_17 x0 (.retAddr 0) (.retAddr 0) σ else bV (pcall 220 [.ref 61, .int (ι 2)] σ) fun σ1 => C_232_17 x0 (.retAddr 0) (.retAddr 0) σ1)
  (pcall 232 [.ref 61, .int x0] σ) := by
  show Le _ (den 232 0 0 [.ref 61, .int x0, .retAddr 0, .retAddr 0] [] σ)
  exact r_aload_n k_232_0 rfl rfl
    (r_getR k_232_1 rfl po_232 rfl rfl rfl rfl (gRat e (LayR.at hL (i := 66) rfl))
    (r_bipush k_232_4 rfl rfl
    (r_iald k_232_6 rfl rfl (by decide)
    (r_bipush k_232_7 rfl rfl
    (r_icmp (tgt := 17) k_232_9 rfl rfl cop_ne
    (Le.rfl')
    (r_aload_n k_232_12 rfl rfl
    (r_iconst k_232_13 rfl rfl
    (r_callV (q_virt (rest := []) (as := [.int (ι 2)]) k_232_14 po_232 rfl rfl rfl (rcvO rfl rfl rfl) rfl rfl) (lvq (j := 0) rfl (by decide +kernel)) rfl rfl (fun _ σ1 h1 => Le.rfl')))))))))
/-! ===== 233 HedgeWantsModel.personNow ===== -/
theorem k_233_0 : cd 233 0 = some (.aload_n 0, 1) := by decide +kernel
theorem k_233_1 : cd 233 1 = some (.iconst 0, 1) := by decide +kernel
theorem k_233_2 : cd 233 2 = some (.sipush 9999, 3) := by decide +kernel
theorem k_233_5 : cd 233 5 = some (.invokevirtual 222, 3) := by decide +kernel
theorem k_233_8 : cd 233 8 = some (.istore_n 1, 1) := by decide +kernel
theorem k_233_9 : cd 233 9 = some (.aload_n 0, 1) := by decide +kernel
theorem k_233_10 : cd 233 10 = some (.getfield 194, 3) := by decide +kernel
theorem k_233_13 : cd 233 13 = some (.ifCond .ne 18, 3) := by decide +kernel
theorem k_233_16 : cd 233 16 = some (.iload_n 1, 1) := by decide +kernel
theorem k_233_17 : cd 233 17 = some (.aload_n 0, 1) := by decide +kernel
theorem k_233_18 : cd 233 18 = some (.getfield 44, 3) := by decide +kernel
theorem k_233_21 : cd 233 21 = some (.iconst 5, 1) := by decide +kernel
theorem k_233_22 : cd 233 22 = some (.iaload, 1) := by decide +kernel
theorem k_233_23 : cd 233 23 = some (.if_icmp .lt 8, 3) := by decide +kernel
theorem k_233_26 : cd 233 26 = some (.aload_n 0, 1) := by decide +kernel
theorem k_233_27 : cd 233 27 = some (.iconst 3, 1) := by decide +kernel
theorem k_233_28 : cd 233 28 = some (.invokevirtual 215, 3) := by decide +kernel
theorem k_233_31 : cd 233 31 = some (.aload_n 0, 1) := by decide +kernel
theorem k_233_32 : cd 233 32 = some (.getfield 194, 3) := by decide +kernel
theorem k_233_35 : cd 233 35 = some (.ifCond .ne 7, 3) := by decide +kernel
theorem k_233_38 : cd 233 38 = some (.iload_n 1, 1) := by decide +kernel
theorem k_233_39 : cd 233 39 = some (.goto 4, 3) := by decide +kernel
theorem k_233_42 : cd 233 42 = some (.iconst 0, 1) := by decide +kernel
theorem k_233_43 : cd 233 43 = some (.ireturn, 1) := by decide +kernel
theorem po_233 : po 233 = 9 := rfl
theorem M_233   {σ : pS} {ρ : Nat → Nat → Option Nat} (e : gR σ = ρ) (hL : LayR ρ) : Le
  (bI (pcall 229 [.ref 61, .int (ι 0), .int (ι 9999)] σ) fun r1 σ1 => if ¬ (gI σ1 61 22) = (ι 0) then if ¬ (gI σ1 61 22) = (ι 0) then some (1, .int (ι 0), σ1) else some (1, .int r1, σ1) else if r1 < (gI σ1 65 5) then if ¬ (gI σ1 61 22) = (ι 0) then some (1, .int (ι 0), σ1) else some (1, .int r1, σ1) else bV (pcall 220 [.ref 61, .int (ι 3)] σ1) fun σ2 => if ¬ (gI σ2 61 22) = (ι 0) then some (1, .int (ι 0), σ2) else some (1, .int r1, σ2))
  (pcall 233 [.ref 61] σ) := by
  show Le _ (den 233 0 0 [.ref 61, .retAddr 0] [] σ)
  exact r_aload_n k_233_0 rfl rfl
    (r_iconst k_233_1 rfl rfl
    (r_sipush k_233_2 rfl rfl
    (r_callI (q_virt (rest := []) (as := [.int (ι 0), .int (ι 9999)]) k_233_5 po_233 rfl rfl rfl (rcvO rfl rfl rfl) rfl rfl) (lvq (j := 0) rfl (by decide +kernel)) rfl rfl (fun r1 σ1 h1 => r_istore_n k_233_8 rfl rfl rfl
    (r_aload_n k_233_9 rfl rfl
    (r_getI k_233_10 rfl po_233 rfl rfl rfl rfl
    (r_if (tgt := 31) k_233_13 rfl rfl cop_ne
    (r_aload_n k_233_31 rfl rfl
    (r_getI k_233_32 rfl po_233 rfl rfl rfl rfl
    (r_if (tgt := 42) k_233_35 rfl rfl cop_ne
    (r_iconst k_233_42 rfl rfl
    (r_ret k_233_43 rfl rfl))
    (r_iload_n k_233_38 rfl rfl
    (r_goto (tgt := 43) k_233_39 rfl (r_ret k_233_43 rfl rfl))))))
    (r_iload_n k_233_16 rfl rfl
    (r_aload_n k_233_17 rfl rfl
    (r_getR k_233_18 rfl po_233 rfl rfl rfl rfl (gRat (eC rfl h1 e) (LayR.at hL (i := 66) rfl))
    (r_iconst k_233_21 rfl rfl
    (r_iald k_233_22 rfl rfl (by decide)
    (r_icmp (tgt := 31) k_233_23 rfl rfl cop_lt
    (r_aload_n k_233_31 rfl rfl
    (r_getI k_233_32 rfl po_233 rfl rfl rfl rfl
    (r_if (tgt := 42) k_233_35 rfl rfl cop_ne
    (r_iconst k_233_42 rfl rfl
    (r_ret k_233_43 rfl rfl))
    (r_iload_n k_233_38 rfl rfl
    (r_goto (tgt := 43) k_233_39 rfl (r_ret k_233_43 rfl rfl))))))
    (r_aload_n k_233_26 rfl rfl
    (r_iconst k_233_27 rfl rfl
    (r_callV (q_virt (rest := []) (as := [.int (ι 3)]) k_233_28 po_233 rfl rfl rfl (rcvO rfl rfl rfl) rfl rfl) (lvq (j := 0) rfl (by decide +kernel)) rfl rfl (fun _ σ2 h2 => r_aload_n k_233_31 rfl rfl
    (r_getI k_233_32 rfl po_233 rfl rfl rfl rfl
    (r_if (tgt := 42) k_233_35 rfl rfl cop_ne
    (r_iconst k_233_42 rfl rfl
    (r_ret k_233_43 rfl rfl))
    (r_iload_n k_233_38 rfl rfl
    (r_goto (tgt := 43) k_233_39 rfl (r_ret k_233_43 rfl rfl))))))))))))))))))))))
/-! ===== 234 HedgeWantsModel.sayPerson ===== -/
theorem k_234_0 : cd 234 0 = some (.aload_n 0, 1) := by decide +kernel
theorem k_234_1 : cd 234 1 = some (.getfield 44, 3) := by decide +kernel
theorem k_234_4 : cd 234 4 = some (.iconst 5, 1) := by decide +kernel
theorem k_234_5 : cd 234 5 = some (.iaload, 1) := by decide +kernel
theorem k_234_6 : cd 234 6 = some (.bipush 8, 2) := by decide +kernel
theorem k_234_8 : cd 234 8 = some (.if_icmp .ne 8, 3) := by decide +kernel
theorem k_234_11 : cd 234 11 = some (.aload_n 0, 1) := by decide +kernel
theorem k_234_12 : cd 234 12 = some (.iconst 2, 1) := by decide +kernel
theorem k_234_13 : cd 234 13 = some (.invokevirtual 215, 3) := by decide +kernel
theorem k_234_16 : cd 234 16 = some (.aload_n 0, 1) := by decide +kernel
theorem k_234_17 : cd 234 17 = some (.getfield 44, 3) := by decide +kernel
theorem k_234_20 : cd 234 20 = some (.bipush 6, 2) := by decide +kernel
theorem k_234_22 : cd 234 22 = some (.iaload, 1) := by decide +kernel
theorem k_234_23 : cd 234 23 = some (.ifCond .le 8, 3) := by decide +kernel
theorem k_234_26 : cd 234 26 = some (.aload_n 0, 1) := by decide +kernel
theorem k_234_27 : cd 234 27 = some (.iconst 4, 1) := by decide +kernel
theorem k_234_28 : cd 234 28 = some (.invokevirtual 215, 3) := by decide +kernel
theorem k_234_31 : cd 234 31 = some (.aload_n 0, 1) := by decide +kernel
theorem k_234_32 : cd 234 32 = some (.getfield 194, 3) := by decide +kernel
theorem k_234_35 : cd 234 35 = some (.ifCond .eq 4, 3) := by decide +kernel
theorem k_234_38 : cd 234 38 = some (.return_, 1) := by decide +kernel
theorem k_234_39 : cd 234 39 = some (.aload_n 0, 1) := by decide +kernel
theorem k_234_40 : cd 234 40 = some (.invokevirtual 219, 3) := by decide +kernel
theorem k_234_43 : cd 234 43 = some (.aload_n 0, 1) := by decide +kernel
theorem k_234_44 : cd 234 44 = some (.getfield 48, 3) := by decide +kernel
theorem k_234_47 : cd 234 47 = some (.bipush 8, 2) := by decide +kernel
theorem k_234_49 : cd 234 49 = some (.aload_n 0, 1) := by decide +kernel
theorem k_234_50 : cd 234 50 = some (.getfield 44, 3) := by decide +kernel
theorem k_234_53 : cd 234 53 = some (.iconst 5, 1) := by decide +kernel
theorem k_234_54 : cd 234 54 = some (.iaload, 1) := by decide +kernel
theorem k_234_55 : cd 234 55 = some (.iadd, 1) := by decide +kernel
theorem k_234_56 : cd 234 56 = some (.aload_n 0, 1) := by decide +kernel
theorem k_234_57 : cd 234 57 = some (.iconst 0, 1) := by decide +kernel
theorem k_234_58 : cd 234 58 = some (.bipush 9, 2) := by decide +kernel
theorem k_234_60 : cd 234 60 = some (.invokevirtual 229, 3) := by decide +kernel
theorem k_234_63 : cd 234 63 = some (.iastore, 1) := by decide +kernel
theorem k_234_64 : cd 234 64 = some (.aload_n 0, 1) := by decide +kernel
theorem k_234_65 : cd 234 65 = some (.getfield 58, 3) := by decide +kernel
theorem k_234_68 : cd 234 68 = some (.bipush 8, 2) := by decide +kernel
theorem k_234_70 : cd 234 70 = some (.aload_n 0, 1) := by decide +kernel
theorem k_234_71 : cd 234 71 = some (.getfield 44, 3) := by decide +kernel
theorem k_234_74 : cd 234 74 = some (.iconst 5, 1) := by decide +kernel
theorem k_234_75 : cd 234 75 = some (.iaload, 1) := by decide +kernel
theorem k_234_76 : cd 234 76 = some (.iadd, 1) := by decide +kernel
theorem k_234_77 : cd 234 77 = some (.iconst 0, 1) := by decide +kernel
theorem k_234_78 : cd 234 78 = some (.iastore, 1) := by decide +kernel
theorem k_234_79 : cd 234 79 = some (.aload_n 0, 1) := by decide +kernel
theorem k_234_80 : cd 234 80 = some (.getfield 44, 3) := by decide +kernel
theorem k_234_83 : cd 234 83 = some (.iconst 5, 1) := by decide +kernel
theorem k_234_84 : cd 234 84 = some (.dup2, 1) := by decide +kernel
theorem k_234_85 : cd 234 85 = some (.iaload, 1) := by decide +kernel
theorem k_234_86 : cd 234 86 = some (.iconst 1, 1) := by decide +kernel
theorem k_234_87 : cd 234 87 = some (.iadd, 1) := by decide +kernel
theorem k_234_88 : cd 234 88 = some (.iastore, 1) := by decide +kernel
theorem k_234_89 : cd 234 89 = some (.return_, 1) := by decide +kernel
theorem po_234 : po 234 = 9 := rfl
noncomputable def C_234_31   (σ : pS) : Option pZ := den 234 0 31 [.ref 61] [] σ
theorem T_234_31    {σ : pS} {ρ : Nat → Nat → Option Nat} (e : gR σ = ρ) (hL : LayR ρ) : Le
  (if (gI σ 61 22) = (ι 0) then bV (pcall 212 [.ref 61] σ) fun σ1 => bI (pcall 228 [.ref 61, .int (ι 0), .int (ι 9)] σ1) fun r2 σ2 => gd (inb ((ι 8) + (gI σ1 65 5)) 16) (gd (inb ((ι 8) + (gI (sI σ2 66 (ix ((ι 8) + (gI σ1 65 5))) r2) 65 5)) 16) (some (0, .null, (sI (sI (sI σ2 66 (ix ((ι 8) + (gI σ1 65 5))) r2) 70 (ix ((ι 8) + (gI (sI σ2 66 (ix ((ι 8) + (gI σ1 65 5))) r2) 65 5))) (ι 0)) 65 5 ((gI (sI (sI σ2 66 (ix ((ι 8) + (gI σ1 65 5))) r2) 70 (ix ((ι 8) + (gI (sI σ2 66 (ix ((ι 8) + (gI σ1 65 5))) r2) 65 5))) (ι 0)) 65 5) + (ι 1)))))) else some (0, .null, σ))
  (C_234_31   σ) := by
  unfold C_234_31
  exact r_aload_n k_234_31 rfl rfl
    (r_getI k_234_32 rfl po_234 rfl rfl rfl rfl
    (r_if (tgt := 39) k_234_35 rfl rfl cop_eq
    (r_aload_n k_234_39 rfl rfl
    (r_callV (q_virt (rest := []) (as := []) k_234_40 po_234 rfl rfl rfl (rcvO rfl rfl rfl) rfl rfl) (lvq (j := 0) rfl (by decide +kernel)) rfl rfl (fun _ σ1 h1 => r_aload_n k_234_43 rfl rfl
    (r_getR k_234_44 rfl po_234 rfl rfl rfl rfl (gRat (eC rfl h1 e) (LayR.at hL (i := 67) rfl))
    (r_bipush k_234_47 rfl rfl
    (r_aload_n k_234_49 rfl rfl
    (r_getR k_234_50 rfl po_234 rfl rfl rfl rfl (gRat (eC rfl h1 e) (LayR.at hL (i := 66) rfl))
    (r_iconst k_234_53 rfl rfl
    (r_iald k_234_54 rfl rfl (by decide)
    (r_iadd k_234_55 rfl
    (r_aload_n k_234_56 rfl rfl
    (r_iconst k_234_57 rfl rfl
    (r_bipush k_234_58 rfl rfl
    (r_callI (q_virt (rest := [.int ((ι 8) + (gI σ1 65 5)), .ref 66]) (as := [.int (ι 0), .int (ι 9)]) k_234_60 po_234 rfl rfl rfl (rcvO rfl rfl rfl) rfl rfl) (lvq (j := 0) rfl (by decide +kernel)) rfl rfl (fun r2 σ2 h2 => r_gd fun g => r_iast k_234_63 rfl rfl g
    (r_aload_n k_234_64 rfl rfl
    (r_getR k_234_65 rfl po_234 rfl rfl rfl rfl (gRat (eI (eC rfl h2 (eC rfl h1 e))) (LayR.at hL (i := 71) rfl))
    (r_bipush k_234_68 rfl rfl
    (r_aload_n k_234_70 rfl rfl
    (r_getR k_234_71 rfl po_234 rfl rfl rfl rfl (gRat (eI (eC rfl h2 (eC rfl h1 e))) (LayR.at hL (i := 66) rfl))
    (r_iconst k_234_74 rfl rfl
    (r_iald k_234_75 rfl rfl (by decide)
    (r_iadd k_234_76 rfl
    (r_iconst k_234_77 rfl rfl
    (r_gd fun g => r_iast k_234_78 rfl rfl g
    (r_aload_n k_234_79 rfl rfl
    (r_getR k_234_80 rfl po_234 rfl rfl rfl rfl (gRat (eI (eI (eC rfl h2 (eC rfl h1 e)))) (LayR.at hL (i := 66) rfl))
    (r_iconst k_234_83 rfl rfl
    (r_dup2 k_234_84 rfl rfl rfl
    (r_iald k_234_85 rfl rfl (by decide)
    (r_iconst k_234_86 rfl rfl
    (r_iadd k_234_87 rfl
    (r_iast k_234_88 rfl rfl (by decide)
    (r_retV k_234_89 rfl))))))))))))))))))))))))))))))))))
    (r_retV k_234_38 rfl)))
theorem M_234   {σ : pS} {ρ : Nat → Nat → Option Nat} (e : gR σ = ρ) (hL : LayR ρ) : Le
  (if ¬ (gI σ 65 5) = (ι 8) then if (gI σ 65 6) ≤ (ι 0) then C_234_31 σ else bV (pcall 220 [.ref 61, .int (ι 4)] σ) fun σ1 => C_234_31 σ1 else bV (pcall 220 [.ref 61, .int (ι 2)] σ) fun σ2 => if (gI σ2 65 6) ≤ (ι 0) then C_234_31 σ2 else bV (pcall 220 [.ref 61, .int (ι 4)] σ2) fun σ3 => C_234_31 σ3)
  (pcall 234 [.ref 61] σ) := by
  show Le _ (den 234 0 0 [.ref 61] [] σ)
  exact r_aload_n k_234_0 rfl rfl
    (r_getR k_234_1 rfl po_234 rfl rfl rfl rfl (gRat e (LayR.at hL (i := 66) rfl))
    (r_iconst k_234_4 rfl rfl
    (r_iald k_234_5 rfl rfl (by decide)
    (r_bipush k_234_6 rfl rfl
    (r_icmp (tgt := 16) k_234_8 rfl rfl cop_ne
    (r_aload_n k_234_16 rfl rfl
    (r_getR k_234_17 rfl po_234 rfl rfl rfl rfl (gRat e (LayR.at hL (i := 66) rfl))
    (r_bipush k_234_20 rfl rfl
    (r_iald k_234_22 rfl rfl (by decide)
    (r_if (tgt := 31) k_234_23 rfl rfl cop_le
    (Le.rfl')
    (r_aload_n k_234_26 rfl rfl
    (r_iconst k_234_27 rfl rfl
    (r_callV (q_virt (rest := []) (as := [.int (ι 4)]) k_234_28 po_234 rfl rfl rfl (rcvO rfl rfl rfl) rfl rfl) (lvq (j := 0) rfl (by decide +kernel)) rfl rfl (fun _ σ1 h1 => Le.rfl')))))))))
    (r_aload_n k_234_11 rfl rfl
    (r_iconst k_234_12 rfl rfl
    (r_callV (q_virt (rest := []) (as := [.int (ι 2)]) k_234_13 po_234 rfl rfl rfl (rcvO rfl rfl rfl) rfl rfl) (lvq (j := 0) rfl (by decide +kernel)) rfl rfl (fun _ σ2 h2 => r_aload_n k_234_16 rfl rfl
    (r_getR k_234_17 rfl po_234 rfl rfl rfl rfl (gRat (eC rfl h2 e) (LayR.at hL (i := 66) rfl))
    (r_bipush k_234_20 rfl rfl
    (r_iald k_234_22 rfl rfl (by decide)
    (r_if (tgt := 31) k_234_23 rfl rfl cop_le
    (Le.rfl')
    (r_aload_n k_234_26 rfl rfl
    (r_iconst k_234_27 rfl rfl
    (r_callV (q_virt (rest := []) (as := [.int (ι 4)]) k_234_28 po_234 rfl rfl rfl (rcvO rfl rfl rfl) rfl rfl) (lvq (j := 0) rfl (by decide +kernel)) rfl rfl (fun _ σ3 h3 => Le.rfl')))))))))))))))))
/-! ===== 235 HedgeWantsModel.sayHedge ===== -/
theorem k_235_0 : cd 235 0 = some (.aload_n 0, 1) := by decide +kernel
theorem k_235_1 : cd 235 1 = some (.invokevirtual 219, 3) := by decide +kernel
theorem k_235_4 : cd 235 4 = some (.aload_n 0, 1) := by decide +kernel
theorem k_235_5 : cd 235 5 = some (.invokevirtual 266, 3) := by decide +kernel
theorem k_235_8 : cd 235 8 = some (.istore_n 1, 1) := by decide +kernel
theorem k_235_9 : cd 235 9 = some (.aload_n 0, 1) := by decide +kernel
theorem k_235_10 : cd 235 10 = some (.getfield 194, 3) := by decide +kernel
theorem k_235_13 : cd 235 13 = some (.ifCond .ne 7, 3) := by decide +kernel
theorem k_235_16 : cd 235 16 = some (.aload_n 0, 1) := by decide +kernel
theorem k_235_17 : cd 235 17 = some (.invokevirtual 219, 3) := by decide +kernel
theorem k_235_20 : cd 235 20 = some (.aload_n 0, 1) := by decide +kernel
theorem k_235_21 : cd 235 21 = some (.invokevirtual 266, 3) := by decide +kernel
theorem k_235_24 : cd 235 24 = some (.istore_n 2, 1) := by decide +kernel
theorem k_235_25 : cd 235 25 = some (.aload_n 0, 1) := by decide +kernel
theorem k_235_26 : cd 235 26 = some (.getfield 194, 3) := by decide +kernel
theorem k_235_29 : cd 235 29 = some (.ifCond .ne 29, 3) := by decide +kernel
theorem k_235_32 : cd 235 32 = some (.iload_n 1, 1) := by decide +kernel
theorem k_235_33 : cd 235 33 = some (.iload_n 2, 1) := by decide +kernel
theorem k_235_34 : cd 235 34 = some (.if_icmp .eq 19, 3) := by decide +kernel
theorem k_235_37 : cd 235 37 = some (.aload_n 0, 1) := by decide +kernel
theorem k_235_38 : cd 235 38 = some (.getfield 58, 3) := by decide +kernel
theorem k_235_41 : cd 235 41 = some (.bipush 8, 2) := by decide +kernel
theorem k_235_43 : cd 235 43 = some (.iload_n 1, 1) := by decide +kernel
theorem k_235_44 : cd 235 44 = some (.iadd, 1) := by decide +kernel
theorem k_235_45 : cd 235 45 = some (.iaload, 1) := by decide +kernel
theorem k_235_46 : cd 235 46 = some (.iload_n 2, 1) := by decide +kernel
theorem k_235_47 : cd 235 47 = some (.invokestatic 269, 3) := by decide +kernel
theorem k_235_50 : cd 235 50 = some (.ifCond .eq 8, 3) := by decide +kernel
theorem k_235_53 : cd 235 53 = some (.aload_n 0, 1) := by decide +kernel
theorem k_235_54 : cd 235 54 = some (.iconst 4, 1) := by decide +kernel
theorem k_235_55 : cd 235 55 = some (.invokevirtual 215, 3) := by decide +kernel
theorem k_235_58 : cd 235 58 = some (.aload_n 0, 1) := by decide +kernel
theorem k_235_59 : cd 235 59 = some (.getfield 194, 3) := by decide +kernel
theorem k_235_62 : cd 235 62 = some (.ifCond .eq 4, 3) := by decide +kernel
theorem k_235_65 : cd 235 65 = some (.return_, 1) := by decide +kernel
theorem k_235_66 : cd 235 66 = some (.aload_n 0, 1) := by decide +kernel
theorem k_235_67 : cd 235 67 = some (.invokevirtual 219, 3) := by decide +kernel
theorem k_235_70 : cd 235 70 = some (.aload_n 0, 1) := by decide +kernel
theorem k_235_71 : cd 235 71 = some (.getfield 58, 3) := by decide +kernel
theorem k_235_74 : cd 235 74 = some (.bipush 8, 2) := by decide +kernel
theorem k_235_76 : cd 235 76 = some (.iload_n 1, 1) := by decide +kernel
theorem k_235_77 : cd 235 77 = some (.iadd, 1) := by decide +kernel
theorem k_235_78 : cd 235 78 = some (.dup2, 1) := by decide +kernel
theorem k_235_79 : cd 235 79 = some (.iaload, 1) := by decide +kernel
theorem k_235_80 : cd 235 80 = some (.iconst 1, 1) := by decide +kernel
theorem k_235_81 : cd 235 81 = some (.iload_n 2, 1) := by decide +kernel
theorem k_235_82 : cd 235 82 = some (.ishl, 1) := by decide +kernel
theorem k_235_83 : cd 235 83 = some (.ior, 1) := by decide +kernel
theorem k_235_84 : cd 235 84 = some (.iastore, 1) := by decide +kernel
theorem k_235_85 : cd 235 85 = some (.aload_n 0, 1) := by decide +kernel
theorem k_235_86 : cd 235 86 = some (.getfield 58, 3) := by decide +kernel
theorem k_235_89 : cd 235 89 = some (.bipush 8, 2) := by decide +kernel
theorem k_235_91 : cd 235 91 = some (.iload_n 2, 1) := by decide +kernel
theorem k_235_92 : cd 235 92 = some (.iadd, 1) := by decide +kernel
theorem k_235_93 : cd 235 93 = some (.dup2, 1) := by decide +kernel
theorem k_235_94 : cd 235 94 = some (.iaload, 1) := by decide +kernel
theorem k_235_95 : cd 235 95 = some (.iconst 1, 1) := by decide +kernel
theorem k_235_96 : cd 235 96 = some (.iload_n 1, 1) := by decide +kernel
theorem k_235_97 : cd 235 97 = some (.ishl, 1) := by decide +kernel
theorem k_235_98 : cd 235 98 = some (.ior, 1) := by decide +kernel
theorem k_235_99 : cd 235 99 = some (.iastore, 1) := by decide +kernel
theorem k_235_100 : cd 235 100 = some (.aload_n 0, 1) := by decide +kernel
theorem k_235_101 : cd 235 101 = some (.getfield 44, 3) := by decide +kernel
theorem k_235_104 : cd 235 104 = some (.bipush 7, 2) := by decide +kernel
theorem k_235_106 : cd 235 106 = some (.dup2, 1) := by decide +kernel
theorem k_235_107 : cd 235 107 = some (.iaload, 1) := by decide +kernel
theorem k_235_108 : cd 235 108 = some (.iconst 1, 1) := by decide +kernel
theorem k_235_109 : cd 235 109 = some (.iadd, 1) := by decide +kernel
theorem k_235_110 : cd 235 110 = some (.iastore, 1) := by decide +kernel
theorem k_235_111 : cd 235 111 = some (.return_, 1) := by decide +kernel
theorem po_235 : po 235 = 9 := rfl
noncomputable def C_235_20  (x1 : Int32) (v2 : Value) (σ : pS) : Option pZ := den 235 0 20 [.ref 61, .int x1, v2] [] σ
noncomputable def C_235_58  (x1 : Int32) (x2 : Int32) (σ : pS) : Option pZ := den 235 0 58 [.ref 61, .int x1, .int x2] [] σ
theorem T_235_20  {x1 : Int32} {v2 : Value}  {σ : pS} {ρ : Nat → Nat → Option Nat} (e : gR σ = ρ) (hL : LayR ρ) : Le
  (bI (pcall 233 [.ref 61] σ) fun r1 σ1 => if ¬ (gI σ1 61 22) = (ι 0) then C_235_58 x1 r1 σ1 else if x1 = r1 then bV (pcall 220 [.ref 61, .int (ι 4)] σ1) fun σ2 => C_235_58 x1 r1 σ2 else gd (inb ((ι 8) + x1) 16) (bI (pcall 236 [.int (gI σ1 70 (ix ((ι 8) + x1))), .int r1] σ1) fun r3 σ3 => if r3 = (ι 0) then C_235_58 x1 r1 σ3 else bV (pcall 220 [.ref 61, .int (ι 4)] σ3) fun σ4 => C_235_58 x1 r1 σ4))
  (C_235_20  x1 v2 σ) := by
  unfold C_235_20
  exact r_aload_n k_235_20 rfl rfl
    (r_callI (q_virt (rest := []) (as := []) k_235_21 po_235 rfl rfl rfl (rcvO rfl rfl rfl) rfl rfl) (lvq (j := 0) rfl (by decide +kernel)) rfl rfl (fun r1 σ1 h1 => r_istore_n k_235_24 rfl rfl rfl
    (r_aload_n k_235_25 rfl rfl
    (r_getI k_235_26 rfl po_235 rfl rfl rfl rfl
    (r_if (tgt := 58) k_235_29 rfl rfl cop_ne
    (Le.rfl')
    (r_iload_n k_235_32 rfl rfl
    (r_iload_n k_235_33 rfl rfl
    (r_icmp (tgt := 53) k_235_34 rfl rfl cop_eq
    (r_aload_n k_235_53 rfl rfl
    (r_iconst k_235_54 rfl rfl
    (r_callV (q_virt (rest := []) (as := [.int (ι 4)]) k_235_55 po_235 rfl rfl rfl (rcvO rfl rfl rfl) rfl rfl) (lvq (j := 0) rfl (by decide +kernel)) rfl rfl (fun _ σ2 h2 => Le.rfl'))))
    (r_aload_n k_235_37 rfl rfl
    (r_getR k_235_38 rfl po_235 rfl rfl rfl rfl (gRat (eC rfl h1 e) (LayR.at hL (i := 71) rfl))
    (r_bipush k_235_41 rfl rfl
    (r_iload_n k_235_43 rfl rfl
    (r_iadd k_235_44 rfl
    (r_gd fun g => r_iald k_235_45 rfl rfl g
    (r_iload_n k_235_46 rfl rfl
    (r_callI (q_stat (rest := []) (av := [.int (gI σ1 70 (ix ((ι 8) + x1))), .int r1]) k_235_47 po_235 rfl (by decide) rfl rfl rfl rfl) (lvq (j := 0) rfl (by decide +kernel)) rfl rfl (fun r3 σ3 h3 => r_if (tgt := 58) k_235_50 rfl rfl cop_eq
    (Le.rfl')
    (r_aload_n k_235_53 rfl rfl
    (r_iconst k_235_54 rfl rfl
    (r_callV (q_virt (rest := []) (as := [.int (ι 4)]) k_235_55 po_235 rfl rfl rfl (rcvO rfl rfl rfl) rfl rfl) (lvq (j := 0) rfl (by decide +kernel)) rfl rfl (fun _ σ4 h4 => Le.rfl')))))))))))))))))))))
theorem T_235_58  {x1 : Int32} {x2 : Int32}  {σ : pS} {ρ : Nat → Nat → Option Nat} (e : gR σ = ρ) (hL : LayR ρ) : Le
  (if (gI σ 61 22) = (ι 0) then bV (pcall 212 [.ref 61] σ) fun σ1 => gd (inb ((ι 8) + x1) 16) (gd (inb ((ι 8) + x1) 16) (gd (inb ((ι 8) + x2) 16) (gd (inb ((ι 8) + x2) 16) (some (0, .null, (sI (sI (sI σ1 70 (ix ((ι 8) + x1)) ((gI σ1 70 (ix ((ι 8) + x1))) ||| (shl' (ι 1) x2))) 70 (ix ((ι 8) + x2)) ((gI (sI σ1 70 (ix ((ι 8) + x1)) ((gI σ1 70 (ix ((ι 8) + x1))) ||| (shl' (ι 1) x2))) 70 (ix ((ι 8) + x2))) ||| (shl' (ι 1) x1))) 65 7 ((gI (sI (sI σ1 70 (ix ((ι 8) + x1)) ((gI σ1 70 (ix ((ι 8) + x1))) ||| (shl' (ι 1) x2))) 70 (ix ((ι 8) + x2)) ((gI (sI σ1 70 (ix ((ι 8) + x1)) ((gI σ1 70 (ix ((ι 8) + x1))) ||| (shl' (ι 1) x2))) 70 (ix ((ι 8) + x2))) ||| (shl' (ι 1) x1))) 65 7) + (ι 1)))))))) else some (0, .null, σ))
  (C_235_58  x1 x2 σ) := by
  unfold C_235_58
  exact r_aload_n k_235_58 rfl rfl
    (r_getI k_235_59 rfl po_235 rfl rfl rfl rfl
    (r_if (tgt := 66) k_235_62 rfl rfl cop_eq
    (r_aload_n k_235_66 rfl rfl
    (r_callV (q_virt (rest := []) (as := []) k_235_67 po_235 rfl rfl rfl (rcvO rfl rfl rfl) rfl rfl) (lvq (j := 0) rfl (by decide +kernel)) rfl rfl (fun _ σ1 h1 => r_aload_n k_235_70 rfl rfl
    (r_getR k_235_71 rfl po_235 rfl rfl rfl rfl (gRat (eC rfl h1 e) (LayR.at hL (i := 71) rfl))
    (r_bipush k_235_74 rfl rfl
    (r_iload_n k_235_76 rfl rfl
    (r_iadd k_235_77 rfl
    (r_dup2 k_235_78 rfl rfl rfl
    (r_gd fun g => r_iald k_235_79 rfl rfl g
    (r_iconst k_235_80 rfl rfl
    (r_iload_n k_235_81 rfl rfl
    (r_ishl k_235_82 rfl
    (r_ior k_235_83 rfl
    (r_gd fun g => r_iast k_235_84 rfl rfl g
    (r_aload_n k_235_85 rfl rfl
    (r_getR k_235_86 rfl po_235 rfl rfl rfl rfl (gRat (eI (eC rfl h1 e)) (LayR.at hL (i := 71) rfl))
    (r_bipush k_235_89 rfl rfl
    (r_iload_n k_235_91 rfl rfl
    (r_iadd k_235_92 rfl
    (r_dup2 k_235_93 rfl rfl rfl
    (r_gd fun g => r_iald k_235_94 rfl rfl g
    (r_iconst k_235_95 rfl rfl
    (r_iload_n k_235_96 rfl rfl
    (r_ishl k_235_97 rfl
    (r_ior k_235_98 rfl
    (r_gd fun g => r_iast k_235_99 rfl rfl g
    (r_aload_n k_235_100 rfl rfl
    (r_getR k_235_101 rfl po_235 rfl rfl rfl rfl (gRat (eI (eI (eC rfl h1 e))) (LayR.at hL (i := 66) rfl))
    (r_bipush k_235_104 rfl rfl
    (r_dup2 k_235_106 rfl rfl rfl
    (r_iald k_235_107 rfl rfl (by decide)
    (r_iconst k_235_108 rfl rfl
    (r_iadd k_235_109 rfl
    (r_iast k_235_110 rfl rfl (by decide)
    (r_retV k_235_111 rfl)))))))))))))))))))))))))))))))))))
    (r_retV k_235_65 rfl)))
theorem M_235   {σ : pS} {ρ : Nat → Nat → Option Nat} (e : gR σ = ρ) (hL : LayR ρ) : Le
  (bV (pcall 212 [.ref 61] σ) fun σ1 => bI (pcall 233 [.ref 61] σ1) fun r2 σ2 => if ¬ (gI σ2 61 22) = (ι 0) then C_235_20 r2 (.retAddr 0) σ2 else bV (pcall 212 [.ref 61] σ2) fun σ3 => C_235_20 r2 (.retAddr 0) σ3)
  (pcall 235 [.ref 61] σ) := by
  show Le _ (den 235 0 0 [.ref 61, .retAddr 0, .retAddr 0] [] σ)
  exact r_aload_n k_235_0 rfl rfl
    (r_callV (q_virt (rest := []) (as := []) k_235_1 po_235 rfl rfl rfl (rcvO rfl rfl rfl) rfl rfl) (lvq (j := 0) rfl (by decide +kernel)) rfl rfl (fun _ σ1 h1 => r_aload_n k_235_4 rfl rfl
    (r_callI (q_virt (rest := []) (as := []) k_235_5 po_235 rfl rfl rfl (rcvO rfl rfl rfl) rfl rfl) (lvq (j := 0) rfl (by decide +kernel)) rfl rfl (fun r2 σ2 h2 => r_istore_n k_235_8 rfl rfl rfl
    (r_aload_n k_235_9 rfl rfl
    (r_getI k_235_10 rfl po_235 rfl rfl rfl rfl
    (r_if (tgt := 20) k_235_13 rfl rfl cop_ne
    (Le.rfl')
    (r_aload_n k_235_16 rfl rfl
    (r_callV (q_virt (rest := []) (as := []) k_235_17 po_235 rfl rfl rfl (rcvO rfl rfl rfl) rfl rfl) (lvq (j := 0) rfl (by decide +kernel)) rfl rfl (fun _ σ3 h3 => Le.rfl'))))))))))
/-! ===== 236 HedgeWantsModel.isOf ===== -/
theorem k_236_0 : cd 236 0 = some (.iload_n 0, 1) := by decide +kernel
theorem k_236_1 : cd 236 1 = some (.iload_n 1, 1) := by decide +kernel
theorem k_236_2 : cd 236 2 = some (.ishr, 1) := by decide +kernel
theorem k_236_3 : cd 236 3 = some (.iconst 1, 1) := by decide +kernel
theorem k_236_4 : cd 236 4 = some (.iand, 1) := by decide +kernel
theorem k_236_5 : cd 236 5 = some (.iconst 1, 1) := by decide +kernel
theorem k_236_6 : cd 236 6 = some (.if_icmp .ne 7, 3) := by decide +kernel
theorem k_236_9 : cd 236 9 = some (.iconst 1, 1) := by decide +kernel
theorem k_236_10 : cd 236 10 = some (.goto 4, 3) := by decide +kernel
theorem k_236_13 : cd 236 13 = some (.iconst 0, 1) := by decide +kernel
theorem k_236_14 : cd 236 14 = some (.ireturn, 1) := by decide +kernel
theorem po_236 : po 236 = 9 := rfl
theorem M_236  {x0 : Int32} {x1 : Int32} {σ : pS} {ρ : Nat → Nat → Option Nat} (e : gR σ = ρ) (hL : LayR ρ) : Le
  (if ¬ ((shr' x0 x1) &&& (ι 1)) = (ι 1) then some (1, .int (ι 0), σ) else some (1, .int (ι 1), σ))
  (pcall 236 [.int x0, .int x1] σ) := by
  show Le _ (den 236 0 0 [.int x0, .int x1] [] σ)
  exact r_iload_n k_236_0 rfl rfl
    (r_iload_n k_236_1 rfl rfl
    (r_ishr k_236_2 rfl
    (r_iconst k_236_3 rfl rfl
    (r_iand k_236_4 rfl
    (r_iconst k_236_5 rfl rfl
    (r_icmp (tgt := 13) k_236_6 rfl rfl cop_ne
    (r_iconst k_236_13 rfl rfl
    (r_ret k_236_14 rfl rfl))
    (r_iconst k_236_9 rfl rfl
    (r_goto (tgt := 14) k_236_10 rfl (r_ret k_236_14 rfl rfl)))))))))
/-! ===== 237 HedgeWantsModel.takeOver ===== -/
theorem k_237_0 : cd 237 0 = some (.aload_n 0, 1) := by decide +kernel
theorem k_237_1 : cd 237 1 = some (.getfield 44, 3) := by decide +kernel
theorem k_237_4 : cd 237 4 = some (.invokestatic 299, 3) := by decide +kernel
theorem k_237_7 : cd 237 7 = some (.aload_n 0, 1) := by decide +kernel
theorem k_237_8 : cd 237 8 = some (.getfield 48, 3) := by decide +kernel
theorem k_237_11 : cd 237 11 = some (.invokestatic 299, 3) := by decide +kernel
theorem k_237_14 : cd 237 14 = some (.aload_n 0, 1) := by decide +kernel
theorem k_237_15 : cd 237 15 = some (.getfield 50, 3) := by decide +kernel
theorem k_237_18 : cd 237 18 = some (.invokestatic 299, 3) := by decide +kernel
theorem k_237_21 : cd 237 21 = some (.aload_n 0, 1) := by decide +kernel
theorem k_237_22 : cd 237 22 = some (.getfield 52, 3) := by decide +kernel
theorem k_237_25 : cd 237 25 = some (.invokestatic 299, 3) := by decide +kernel
theorem k_237_28 : cd 237 28 = some (.aload_n 0, 1) := by decide +kernel
theorem k_237_29 : cd 237 29 = some (.getfield 55, 3) := by decide +kernel
theorem k_237_32 : cd 237 32 = some (.invokestatic 299, 3) := by decide +kernel
theorem k_237_35 : cd 237 35 = some (.aload_n 0, 1) := by decide +kernel
theorem k_237_36 : cd 237 36 = some (.getfield 58, 3) := by decide +kernel
theorem k_237_39 : cd 237 39 = some (.invokestatic 299, 3) := by decide +kernel
theorem k_237_42 : cd 237 42 = some (.aload_n 0, 1) := by decide +kernel
theorem k_237_43 : cd 237 43 = some (.getfield 61, 3) := by decide +kernel
theorem k_237_46 : cd 237 46 = some (.invokestatic 299, 3) := by decide +kernel
theorem k_237_49 : cd 237 49 = some (.aload_n 0, 1) := by decide +kernel
theorem k_237_50 : cd 237 50 = some (.getfield 64, 3) := by decide +kernel
theorem k_237_53 : cd 237 53 = some (.invokestatic 299, 3) := by decide +kernel
theorem k_237_56 : cd 237 56 = some (.aload_n 0, 1) := by decide +kernel
theorem k_237_57 : cd 237 57 = some (.iconst 0, 1) := by decide +kernel
theorem k_237_58 : cd 237 58 = some (.putfield 303, 3) := by decide +kernel
theorem k_237_61 : cd 237 61 = some (.iconst 0, 1) := by decide +kernel
theorem k_237_62 : cd 237 62 = some (.istore_n 1, 1) := by decide +kernel
theorem k_237_63 : cd 237 63 = some (.iload_n 1, 1) := by decide +kernel
theorem k_237_64 : cd 237 64 = some (.bipush 12, 2) := by decide +kernel
theorem k_237_66 : cd 237 66 = some (.if_icmp .ge 42, 3) := by decide +kernel
theorem k_237_69 : cd 237 69 = some (.aload_n 0, 1) := by decide +kernel
theorem k_237_70 : cd 237 70 = some (.getfield 77, 3) := by decide +kernel
theorem k_237_73 : cd 237 73 = some (.iload_n 1, 1) := by decide +kernel
theorem k_237_74 : cd 237 74 = some (.iload_n 1, 1) := by decide +kernel
theorem k_237_75 : cd 237 75 = some (.aload_n 0, 1) := by decide +kernel
theorem k_237_76 : cd 237 76 = some (.getfield 44, 3) := by decide +kernel
theorem k_237_79 : cd 237 79 = some (.iconst 1, 1) := by decide +kernel
theorem k_237_80 : cd 237 80 = some (.iaload, 1) := by decide +kernel
theorem k_237_81 : cd 237 81 = some (.if_icmp .ge 12, 3) := by decide +kernel
theorem k_237_84 : cd 237 84 = some (.aload_n 0, 1) := by decide +kernel
theorem k_237_85 : cd 237 85 = some (.getfield 52, 3) := by decide +kernel
theorem k_237_88 : cd 237 88 = some (.iload_n 1, 1) := by decide +kernel
theorem k_237_89 : cd 237 89 = some (.iaload, 1) := by decide +kernel
theorem k_237_90 : cd 237 90 = some (.goto 4, 3) := by decide +kernel
theorem k_237_93 : cd 237 93 = some (.iconst (-1), 1) := by decide +kernel
theorem k_237_94 : cd 237 94 = some (.iastore, 1) := by decide +kernel
theorem k_237_95 : cd 237 95 = some (.aload_n 0, 1) := by decide +kernel
theorem k_237_96 : cd 237 96 = some (.getfield 80, 3) := by decide +kernel
theorem k_237_99 : cd 237 99 = some (.iload_n 1, 1) := by decide +kernel
theorem k_237_100 : cd 237 100 = some (.iconst 0, 1) := by decide +kernel
theorem k_237_101 : cd 237 101 = some (.iastore, 1) := by decide +kernel
theorem k_237_102 : cd 237 102 = some (.iinc 1 1, 3) := by decide +kernel
theorem k_237_105 : cd 237 105 = some (.goto (-42), 3) := by decide +kernel
theorem k_237_108 : cd 237 108 = some (.iconst 0, 1) := by decide +kernel
theorem k_237_109 : cd 237 109 = some (.istore_n 1, 1) := by decide +kernel
theorem k_237_110 : cd 237 110 = some (.iload_n 1, 1) := by decide +kernel
theorem k_237_111 : cd 237 111 = some (.bipush 8, 2) := by decide +kernel
theorem k_237_113 : cd 237 113 = some (.if_icmp .ge 127, 3) := by decide +kernel
theorem k_237_116 : cd 237 116 = some (.iload_n 1, 1) := by decide +kernel
theorem k_237_117 : cd 237 117 = some (.aload_n 0, 1) := by decide +kernel
theorem k_237_118 : cd 237 118 = some (.getfield 44, 3) := by decide +kernel
theorem k_237_121 : cd 237 121 = some (.iconst 0, 1) := by decide +kernel
theorem k_237_122 : cd 237 122 = some (.iaload, 1) := by decide +kernel
theorem k_237_123 : cd 237 123 = some (.if_icmp .ge 7, 3) := by decide +kernel
theorem k_237_126 : cd 237 126 = some (.iconst 1, 1) := by decide +kernel
theorem k_237_127 : cd 237 127 = some (.goto 4, 3) := by decide +kernel
theorem k_237_130 : cd 237 130 = some (.iconst 0, 1) := by decide +kernel
theorem k_237_131 : cd 237 131 = some (.istore_n 2, 1) := by decide +kernel
theorem k_237_132 : cd 237 132 = some (.iconst 0, 1) := by decide +kernel
theorem k_237_133 : cd 237 133 = some (.istore_n 3, 1) := by decide +kernel
theorem k_237_134 : cd 237 134 = some (.iload_n 3, 1) := by decide +kernel
theorem k_237_135 : cd 237 135 = some (.bipush 12, 2) := by decide +kernel
theorem k_237_137 : cd 237 137 = some (.if_icmp .ge 49, 3) := by decide +kernel
theorem k_237_140 : cd 237 140 = some (.aload_n 0, 1) := by decide +kernel
theorem k_237_141 : cd 237 141 = some (.getfield 82, 3) := by decide +kernel
theorem k_237_144 : cd 237 144 = some (.bipush 12, 2) := by decide +kernel
theorem k_237_146 : cd 237 146 = some (.iload_n 1, 1) := by decide +kernel
theorem k_237_147 : cd 237 147 = some (.imul, 1) := by decide +kernel
theorem k_237_148 : cd 237 148 = some (.iload_n 3, 1) := by decide +kernel
theorem k_237_149 : cd 237 149 = some (.iadd, 1) := by decide +kernel
theorem k_237_150 : cd 237 150 = some (.iload_n 2, 1) := by decide +kernel
theorem k_237_151 : cd 237 151 = some (.ifCond .eq 27, 3) := by decide +kernel
theorem k_237_154 : cd 237 154 = some (.iload_n 3, 1) := by decide +kernel
theorem k_237_155 : cd 237 155 = some (.aload_n 0, 1) := by decide +kernel
theorem k_237_156 : cd 237 156 = some (.getfield 44, 3) := by decide +kernel
theorem k_237_159 : cd 237 159 = some (.iconst 1, 1) := by decide +kernel
theorem k_237_160 : cd 237 160 = some (.iaload, 1) := by decide +kernel
theorem k_237_161 : cd 237 161 = some (.if_icmp .ge 17, 3) := by decide +kernel
theorem k_237_164 : cd 237 164 = some (.aload_n 0, 1) := by decide +kernel
theorem k_237_165 : cd 237 165 = some (.getfield 55, 3) := by decide +kernel
theorem k_237_168 : cd 237 168 = some (.bipush 12, 2) := by decide +kernel
theorem k_237_170 : cd 237 170 = some (.iload_n 1, 1) := by decide +kernel
theorem k_237_171 : cd 237 171 = some (.imul, 1) := by decide +kernel
theorem k_237_172 : cd 237 172 = some (.iload_n 3, 1) := by decide +kernel
theorem k_237_173 : cd 237 173 = some (.iadd, 1) := by decide +kernel
theorem k_237_174 : cd 237 174 = some (.iaload, 1) := by decide +kernel
theorem k_237_175 : cd 237 175 = some (.goto 4, 3) := by decide +kernel
theorem k_237_178 : cd 237 178 = some (.iconst 0, 1) := by decide +kernel
theorem k_237_179 : cd 237 179 = some (.iastore, 1) := by decide +kernel
theorem k_237_180 : cd 237 180 = some (.iinc 3 1, 3) := by decide +kernel
theorem k_237_183 : cd 237 183 = some (.goto (-49), 3) := by decide +kernel
theorem k_237_186 : cd 237 186 = some (.aload_n 0, 1) := by decide +kernel
theorem k_237_187 : cd 237 187 = some (.getfield 84, 3) := by decide +kernel
theorem k_237_190 : cd 237 190 = some (.iload_n 1, 1) := by decide +kernel
theorem k_237_191 : cd 237 191 = some (.iload_n 2, 1) := by decide +kernel
theorem k_237_192 : cd 237 192 = some (.ifCond .ne 7, 3) := by decide +kernel
theorem k_237_195 : cd 237 195 = some (.iconst 0, 1) := by decide +kernel
theorem k_237_196 : cd 237 196 = some (.goto 37, 3) := by decide +kernel
theorem k_237_199 : cd 237 199 = some (.aload_n 0, 1) := by decide +kernel
theorem k_237_200 : cd 237 200 = some (.getfield 44, 3) := by decide +kernel
theorem k_237_203 : cd 237 203 = some (.iconst 2, 1) := by decide +kernel
theorem k_237_204 : cd 237 204 = some (.iaload, 1) := by decide +kernel
theorem k_237_205 : cd 237 205 = some (.ifCond .le 12, 3) := by decide +kernel
theorem k_237_208 : cd 237 208 = some (.aload_n 0, 1) := by decide +kernel
theorem k_237_209 : cd 237 209 = some (.getfield 58, 3) := by decide +kernel
theorem k_237_212 : cd 237 212 = some (.iload_n 1, 1) := by decide +kernel
theorem k_237_213 : cd 237 213 = some (.iaload, 1) := by decide +kernel
theorem k_237_214 : cd 237 214 = some (.goto 19, 3) := by decide +kernel
theorem k_237_217 : cd 237 217 = some (.iconst 1, 1) := by decide +kernel
theorem k_237_218 : cd 237 218 = some (.aload_n 0, 1) := by decide +kernel
theorem k_237_219 : cd 237 219 = some (.getfield 44, 3) := by decide +kernel
theorem k_237_222 : cd 237 222 = some (.iconst 0, 1) := by decide +kernel
theorem k_237_223 : cd 237 223 = some (.iaload, 1) := by decide +kernel
theorem k_237_224 : cd 237 224 = some (.ishl, 1) := by decide +kernel
theorem k_237_225 : cd 237 225 = some (.iconst 1, 1) := by decide +kernel
theorem k_237_226 : cd 237 226 = some (.isub, 1) := by decide +kernel
theorem k_237_227 : cd 237 227 = some (.iconst 1, 1) := by decide +kernel
theorem k_237_228 : cd 237 228 = some (.iload_n 1, 1) := by decide +kernel
theorem k_237_229 : cd 237 229 = some (.ishl, 1) := by decide +kernel
theorem k_237_230 : cd 237 230 = some (.iconst (-1), 1) := by decide +kernel
theorem k_237_231 : cd 237 231 = some (.ixor, 1) := by decide +kernel
theorem k_237_232 : cd 237 232 = some (.iand, 1) := by decide +kernel
theorem k_237_233 : cd 237 233 = some (.iastore, 1) := by decide +kernel
theorem k_237_234 : cd 237 234 = some (.iinc 1 1, 3) := by decide +kernel
theorem k_237_237 : cd 237 237 = some (.goto (-127), 3) := by decide +kernel
theorem k_237_240 : cd 237 240 = some (.aload_n 0, 1) := by decide +kernel
theorem k_237_241 : cd 237 241 = some (.iconst 0, 1) := by decide +kernel
theorem k_237_242 : cd 237 242 = some (.putfield 306, 3) := by decide +kernel
theorem k_237_245 : cd 237 245 = some (.aload_n 0, 1) := by decide +kernel
theorem k_237_246 : cd 237 246 = some (.iconst 0, 1) := by decide +kernel
theorem k_237_247 : cd 237 247 = some (.putfield 309, 3) := by decide +kernel
theorem k_237_250 : cd 237 250 = some (.aload_n 0, 1) := by decide +kernel
theorem k_237_251 : cd 237 251 = some (.iconst 0, 1) := by decide +kernel
theorem k_237_252 : cd 237 252 = some (.putfield 312, 3) := by decide +kernel
theorem k_237_255 : cd 237 255 = some (.return_, 1) := by decide +kernel
theorem po_237 : po 237 = 9 := rfl
noncomputable def C_237_63  (x1 : Int32) (v2 : Value) (v3 : Value) (σ : pS) : Option pZ := den 237 0 63 [.ref 61, .int x1, v2, v3] [] σ
noncomputable def C_237_110  (x1 : Int32) (v2 : Value) (v3 : Value) (σ : pS) : Option pZ := den 237 0 110 [.ref 61, .int x1, v2, v3] [] σ
noncomputable def C_237_134  (x1 : Int32) (x2 : Int32) (x3 : Int32) (σ : pS) : Option pZ := den 237 0 134 [.ref 61, .int x1, .int x2, .int x3] [] σ
theorem T_237_63  {x1 : Int32} {v2 : Value} {v3 : Value}  {σ : pS} {ρ : Nat → Nat → Option Nat} (e : gR σ = ρ) (hL : LayR ρ) : Le
  (if (ι 12) ≤ x1 then C_237_110 (ι 0) v2 v3 σ else if (gI σ 65 1) ≤ x1 then gd (inb x1 12) (gd (inb x1 12) (C_237_63 (x1 + (ι 1)) v2 v3 (sI (sI σ 75 (ix x1) (ν 1)) 76 (ix x1) (ι 0)))) else gd (inb x1 24) (gd (inb x1 12) (gd (inb x1 12) (C_237_63 (x1 + (ι 1)) v2 v3 (sI (sI σ 75 (ix x1) (gI σ 68 (ix x1))) 76 (ix x1) (ι 0))))))
  (C_237_63  x1 v2 v3 σ) := by
  unfold C_237_63
  exact r_iload_n k_237_63 rfl rfl
    (r_bipush k_237_64 rfl rfl
    (r_icmp (tgt := 108) k_237_66 rfl rfl cop_ge
    (r_iconst k_237_108 rfl rfl
    (r_istore_n k_237_109 rfl rfl rfl
    (Le.rfl')))
    (r_aload_n k_237_69 rfl rfl
    (r_getR k_237_70 rfl po_237 rfl rfl rfl rfl (gRat e (LayR.at hL (i := 76) rfl))
    (r_iload_n k_237_73 rfl rfl
    (r_iload_n k_237_74 rfl rfl
    (r_aload_n k_237_75 rfl rfl
    (r_getR k_237_76 rfl po_237 rfl rfl rfl rfl (gRat e (LayR.at hL (i := 66) rfl))
    (r_iconst k_237_79 rfl rfl
    (r_iald k_237_80 rfl rfl (by decide)
    (r_icmp (tgt := 93) k_237_81 rfl rfl cop_ge
    (r_iconst k_237_93 rfl rfl
    (r_gd fun g => r_iast k_237_94 rfl rfl g
    (r_aload_n k_237_95 rfl rfl
    (r_getR k_237_96 rfl po_237 rfl rfl rfl rfl (gRat (eI e) (LayR.at hL (i := 77) rfl))
    (r_iload_n k_237_99 rfl rfl
    (r_iconst k_237_100 rfl rfl
    (r_gd fun g => r_iast k_237_101 rfl rfl g
    (r_iinc k_237_102 rfl rfl rfl rfl
    (r_goto (tgt := 63) k_237_105 rfl (Le.rfl'))))))))))
    (r_aload_n k_237_84 rfl rfl
    (r_getR k_237_85 rfl po_237 rfl rfl rfl rfl (gRat e (LayR.at hL (i := 69) rfl))
    (r_iload_n k_237_88 rfl rfl
    (r_gd fun g => r_iald k_237_89 rfl rfl g
    (r_goto (tgt := 94) k_237_90 rfl (r_gd fun g => r_iast k_237_94 rfl rfl g
    (r_aload_n k_237_95 rfl rfl
    (r_getR k_237_96 rfl po_237 rfl rfl rfl rfl (gRat (eI e) (LayR.at hL (i := 77) rfl))
    (r_iload_n k_237_99 rfl rfl
    (r_iconst k_237_100 rfl rfl
    (r_gd fun g => r_iast k_237_101 rfl rfl g
    (r_iinc k_237_102 rfl rfl rfl rfl
    (r_goto (tgt := 63) k_237_105 rfl (Le.rfl')))))))))))))))))))))))))
theorem T_237_110  {x1 : Int32} {v2 : Value} {v3 : Value}  {σ : pS} {ρ : Nat → Nat → Option Nat} (e : gR σ = ρ) (hL : LayR ρ) : Le
  (if (ι 8) ≤ x1 then some (0, .null, (sI (sI (sI σ 61 32 (ι 0)) 61 33 (ι 0)) 61 50 (ι 0))) else if (gI σ 65 0) ≤ x1 then C_237_134 x1 (ι 0) (ι 0) σ else C_237_134 x1 (ι 1) (ι 0) σ)
  (C_237_110  x1 v2 v3 σ) := by
  unfold C_237_110
  exact r_iload_n k_237_110 rfl rfl
    (r_bipush k_237_111 rfl rfl
    (r_icmp (tgt := 240) k_237_113 rfl rfl cop_ge
    (r_aload_n k_237_240 rfl rfl
    (r_iconst k_237_241 rfl rfl
    (r_putI k_237_242 rfl po_237 rfl rfl rfl
    (r_aload_n k_237_245 rfl rfl
    (r_iconst k_237_246 rfl rfl
    (r_putI k_237_247 rfl po_237 rfl rfl rfl
    (r_aload_n k_237_250 rfl rfl
    (r_iconst k_237_251 rfl rfl
    (r_putZ k_237_252 rfl po_237 rfl rfl rfl (by decide)
    (r_retV k_237_255 rfl))))))))))
    (r_iload_n k_237_116 rfl rfl
    (r_aload_n k_237_117 rfl rfl
    (r_getR k_237_118 rfl po_237 rfl rfl rfl rfl (gRat e (LayR.at hL (i := 66) rfl))
    (r_iconst k_237_121 rfl rfl
    (r_iald k_237_122 rfl rfl (by decide)
    (r_icmp (tgt := 130) k_237_123 rfl rfl cop_ge
    (r_iconst k_237_130 rfl rfl
    (r_istore_n k_237_131 rfl rfl rfl
    (r_iconst k_237_132 rfl rfl
    (r_istore_n k_237_133 rfl rfl rfl
    (Le.rfl')))))
    (r_iconst k_237_126 rfl rfl
    (r_goto (tgt := 131) k_237_127 rfl (r_istore_n k_237_131 rfl rfl rfl
    (r_iconst k_237_132 rfl rfl
    (r_istore_n k_237_133 rfl rfl rfl
    (Le.rfl'))))))))))))))
theorem T_237_134  {x1 : Int32} {x2 : Int32} {x3 : Int32}  {σ : pS} {ρ : Nat → Nat → Option Nat} (e : gR σ = ρ) (hL : LayR ρ) : Le
  (if (ι 12) ≤ x3 then if ¬ x2 = (ι 0) then if (gI σ 65 2) ≤ (ι 0) then gd (inb x1 8) (C_237_110 (x1 + (ι 1)) (.int x2) (.int x3) (sI σ 78 (ix x1) (((shl' (ι 1) (gI σ 65 0)) - (ι 1)) &&& ((shl' (ι 1) x1) ^^^ (ν 1))))) else gd (inb x1 16) (gd (inb x1 8) (C_237_110 (x1 + (ι 1)) (.int x2) (.int x3) (sI σ 78 (ix x1) (gI σ 70 (ix x1))))) else gd (inb x1 8) (C_237_110 (x1 + (ι 1)) (.int x2) (.int x3) (sI σ 78 (ix x1) (ι 0))) else if x2 = (ι 0) then gd (inb (((ι 12) * x1) + x3) 96) (C_237_134 x1 x2 (x3 + (ι 1)) (sI σ 77 (ix (((ι 12) * x1) + x3)) (ι 0))) else if (gI σ 65 1) ≤ x3 then gd (inb (((ι 12) * x1) + x3) 96) (C_237_134 x1 x2 (x3 + (ι 1)) (sI σ 77 (ix (((ι 12) * x1) + x3)) (ι 0))) else gd (inb (((ι 12) * x1) + x3) 192) (gd (inb (((ι 12) * x1) + x3) 96) (C_237_134 x1 x2 (x3 + (ι 1)) (sI σ 77 (ix (((ι 12) * x1) + x3)) (gI σ 69 (ix (((ι 12) * x1) + x3)))))))
  (C_237_134  x1 x2 x3 σ) := by
  unfold C_237_134
  exact r_iload_n k_237_134 rfl rfl
    (r_bipush k_237_135 rfl rfl
    (r_icmp (tgt := 186) k_237_137 rfl rfl cop_ge
    (r_aload_n k_237_186 rfl rfl
    (r_getR k_237_187 rfl po_237 rfl rfl rfl rfl (gRat e (LayR.at hL (i := 79) rfl))
    (r_iload_n k_237_190 rfl rfl
    (r_iload_n k_237_191 rfl rfl
    (r_if (tgt := 199) k_237_192 rfl rfl cop_ne
    (r_aload_n k_237_199 rfl rfl
    (r_getR k_237_200 rfl po_237 rfl rfl rfl rfl (gRat e (LayR.at hL (i := 66) rfl))
    (r_iconst k_237_203 rfl rfl
    (r_iald k_237_204 rfl rfl (by decide)
    (r_if (tgt := 217) k_237_205 rfl rfl cop_le
    (r_iconst k_237_217 rfl rfl
    (r_aload_n k_237_218 rfl rfl
    (r_getR k_237_219 rfl po_237 rfl rfl rfl rfl (gRat e (LayR.at hL (i := 66) rfl))
    (r_iconst k_237_222 rfl rfl
    (r_iald k_237_223 rfl rfl (by decide)
    (r_ishl k_237_224 rfl
    (r_iconst k_237_225 rfl rfl
    (r_isub k_237_226 rfl
    (r_iconst k_237_227 rfl rfl
    (r_iload_n k_237_228 rfl rfl
    (r_ishl k_237_229 rfl
    (r_iconst k_237_230 rfl rfl
    (r_ixor k_237_231 rfl
    (r_iand k_237_232 rfl
    (r_gd fun g => r_iast k_237_233 rfl rfl g
    (r_iinc k_237_234 rfl rfl rfl rfl
    (r_goto (tgt := 110) k_237_237 rfl (Le.rfl'))))))))))))))))))
    (r_aload_n k_237_208 rfl rfl
    (r_getR k_237_209 rfl po_237 rfl rfl rfl rfl (gRat e (LayR.at hL (i := 71) rfl))
    (r_iload_n k_237_212 rfl rfl
    (r_gd fun g => r_iald k_237_213 rfl rfl g
    (r_goto (tgt := 233) k_237_214 rfl (r_gd fun g => r_iast k_237_233 rfl rfl g
    (r_iinc k_237_234 rfl rfl rfl rfl
    (r_goto (tgt := 110) k_237_237 rfl (Le.rfl'))))))))))))))
    (r_iconst k_237_195 rfl rfl
    (r_goto (tgt := 233) k_237_196 rfl (r_gd fun g => r_iast k_237_233 rfl rfl g
    (r_iinc k_237_234 rfl rfl rfl rfl
    (r_goto (tgt := 110) k_237_237 rfl (Le.rfl')))))))))))
    (r_aload_n k_237_140 rfl rfl
    (r_getR k_237_141 rfl po_237 rfl rfl rfl rfl (gRat e (LayR.at hL (i := 78) rfl))
    (r_bipush k_237_144 rfl rfl
    (r_iload_n k_237_146 rfl rfl
    (r_imul k_237_147 rfl
    (r_iload_n k_237_148 rfl rfl
    (r_iadd k_237_149 rfl
    (r_iload_n k_237_150 rfl rfl
    (r_if (tgt := 178) k_237_151 rfl rfl cop_eq
    (r_iconst k_237_178 rfl rfl
    (r_gd fun g => r_iast k_237_179 rfl rfl g
    (r_iinc k_237_180 rfl rfl rfl rfl
    (r_goto (tgt := 134) k_237_183 rfl (Le.rfl')))))
    (r_iload_n k_237_154 rfl rfl
    (r_aload_n k_237_155 rfl rfl
    (r_getR k_237_156 rfl po_237 rfl rfl rfl rfl (gRat e (LayR.at hL (i := 66) rfl))
    (r_iconst k_237_159 rfl rfl
    (r_iald k_237_160 rfl rfl (by decide)
    (r_icmp (tgt := 178) k_237_161 rfl rfl cop_ge
    (r_iconst k_237_178 rfl rfl
    (r_gd fun g => r_iast k_237_179 rfl rfl g
    (r_iinc k_237_180 rfl rfl rfl rfl
    (r_goto (tgt := 134) k_237_183 rfl (Le.rfl')))))
    (r_aload_n k_237_164 rfl rfl
    (r_getR k_237_165 rfl po_237 rfl rfl rfl rfl (gRat e (LayR.at hL (i := 70) rfl))
    (r_bipush k_237_168 rfl rfl
    (r_iload_n k_237_170 rfl rfl
    (r_imul k_237_171 rfl
    (r_iload_n k_237_172 rfl rfl
    (r_iadd k_237_173 rfl
    (r_gd fun g => r_iald k_237_174 rfl rfl g
    (r_goto (tgt := 179) k_237_175 rfl (r_gd fun g => r_iast k_237_179 rfl rfl g
    (r_iinc k_237_180 rfl rfl rfl rfl
    (r_goto (tgt := 134) k_237_183 rfl (Le.rfl'))))))))))))))))))))))))))))))
theorem M_237   {σ : pS} {ρ : Nat → Nat → Option Nat} (e : gR σ = ρ) (hL : LayR ρ) : Le
  (bV (pcall 238 [.ref 65] σ) fun σ1 => bV (pcall 238 [.ref 66] σ1) fun σ2 => bV (pcall 238 [.ref 67] σ2) fun σ3 => bV (pcall 238 [.ref 68] σ3) fun σ4 => bV (pcall 238 [.ref 69] σ4) fun σ5 => bV (pcall 238 [.ref 70] σ5) fun σ6 => bV (pcall 238 [.ref 71] σ6) fun σ7 => bV (pcall 238 [.ref 72] σ7) fun σ8 => C_237_63 (ι 0) (.retAddr 0) (.retAddr 0) (sI σ8 61 31 (ι 0)))
  (pcall 237 [.ref 61] σ) := by
  show Le _ (den 237 0 0 [.ref 61, .retAddr 0, .retAddr 0, .retAddr 0] [] σ)
  exact r_aload_n k_237_0 rfl rfl
    (r_getR k_237_1 rfl po_237 rfl rfl rfl rfl (gRat e (LayR.at hL (i := 66) rfl))
    (r_callV (q_stat (rest := []) (av := [.ref 65]) k_237_4 po_237 rfl (by decide) rfl rfl rfl rfl) (lvq (j := 0) rfl (by decide +kernel)) rfl rfl (fun _ σ1 h1 => r_aload_n k_237_7 rfl rfl
    (r_getR k_237_8 rfl po_237 rfl rfl rfl rfl (gRat (eC rfl h1 e) (LayR.at hL (i := 67) rfl))
    (r_callV (q_stat (rest := []) (av := [.ref 66]) k_237_11 po_237 rfl (by decide) rfl rfl rfl rfl) (lvq (j := 0) rfl (by decide +kernel)) rfl rfl (fun _ σ2 h2 => r_aload_n k_237_14 rfl rfl
    (r_getR k_237_15 rfl po_237 rfl rfl rfl rfl (gRat (eC rfl h2 (eC rfl h1 e)) (LayR.at hL (i := 68) rfl))
    (r_callV (q_stat (rest := []) (av := [.ref 67]) k_237_18 po_237 rfl (by decide) rfl rfl rfl rfl) (lvq (j := 0) rfl (by decide +kernel)) rfl rfl (fun _ σ3 h3 => r_aload_n k_237_21 rfl rfl
    (r_getR k_237_22 rfl po_237 rfl rfl rfl rfl (gRat (eC rfl h3 (eC rfl h2 (eC rfl h1 e))) (LayR.at hL (i := 69) rfl))
    (r_callV (q_stat (rest := []) (av := [.ref 68]) k_237_25 po_237 rfl (by decide) rfl rfl rfl rfl) (lvq (j := 0) rfl (by decide +kernel)) rfl rfl (fun _ σ4 h4 => r_aload_n k_237_28 rfl rfl
    (r_getR k_237_29 rfl po_237 rfl rfl rfl rfl (gRat (eC rfl h4 (eC rfl h3 (eC rfl h2 (eC rfl h1 e)))) (LayR.at hL (i := 70) rfl))
    (r_callV (q_stat (rest := []) (av := [.ref 69]) k_237_32 po_237 rfl (by decide) rfl rfl rfl rfl) (lvq (j := 0) rfl (by decide +kernel)) rfl rfl (fun _ σ5 h5 => r_aload_n k_237_35 rfl rfl
    (r_getR k_237_36 rfl po_237 rfl rfl rfl rfl (gRat (eC rfl h5 (eC rfl h4 (eC rfl h3 (eC rfl h2 (eC rfl h1 e))))) (LayR.at hL (i := 71) rfl))
    (r_callV (q_stat (rest := []) (av := [.ref 70]) k_237_39 po_237 rfl (by decide) rfl rfl rfl rfl) (lvq (j := 0) rfl (by decide +kernel)) rfl rfl (fun _ σ6 h6 => r_aload_n k_237_42 rfl rfl
    (r_getR k_237_43 rfl po_237 rfl rfl rfl rfl (gRat (eC rfl h6 (eC rfl h5 (eC rfl h4 (eC rfl h3 (eC rfl h2 (eC rfl h1 e)))))) (LayR.at hL (i := 72) rfl))
    (r_callV (q_stat (rest := []) (av := [.ref 71]) k_237_46 po_237 rfl (by decide) rfl rfl rfl rfl) (lvq (j := 0) rfl (by decide +kernel)) rfl rfl (fun _ σ7 h7 => r_aload_n k_237_49 rfl rfl
    (r_getR k_237_50 rfl po_237 rfl rfl rfl rfl (gRat (eC rfl h7 (eC rfl h6 (eC rfl h5 (eC rfl h4 (eC rfl h3 (eC rfl h2 (eC rfl h1 e))))))) (LayR.at hL (i := 73) rfl))
    (r_callV (q_stat (rest := []) (av := [.ref 72]) k_237_53 po_237 rfl (by decide) rfl rfl rfl rfl) (lvq (j := 0) rfl (by decide +kernel)) rfl rfl (fun _ σ8 h8 => r_aload_n k_237_56 rfl rfl
    (r_iconst k_237_57 rfl rfl
    (r_putI k_237_58 rfl po_237 rfl rfl rfl
    (r_iconst k_237_61 rfl rfl
    (r_istore_n k_237_62 rfl rfl rfl
    (Le.rfl')))))))))))))))))))))))))))))
/-! ===== 238 HedgeWantsModel.takeHalf ===== -/
theorem k_238_0 : cd 238 0 = some (.iconst 0, 1) := by decide +kernel
theorem k_238_1 : cd 238 1 = some (.istore_n 1, 1) := by decide +kernel
theorem k_238_2 : cd 238 2 = some (.iload_n 1, 1) := by decide +kernel
theorem k_238_3 : cd 238 3 = some (.aload_n 0, 1) := by decide +kernel
theorem k_238_4 : cd 238 4 = some (.arraylength, 1) := by decide +kernel
theorem k_238_5 : cd 238 5 = some (.iconst 2, 1) := by decide +kernel
theorem k_238_6 : cd 238 6 = some (.idiv, 1) := by decide +kernel
theorem k_238_7 : cd 238 7 = some (.if_icmp .ge 20, 3) := by decide +kernel
theorem k_238_10 : cd 238 10 = some (.aload_n 0, 1) := by decide +kernel
theorem k_238_11 : cd 238 11 = some (.iload_n 1, 1) := by decide +kernel
theorem k_238_12 : cd 238 12 = some (.aload_n 0, 1) := by decide +kernel
theorem k_238_13 : cd 238 13 = some (.aload_n 0, 1) := by decide +kernel
theorem k_238_14 : cd 238 14 = some (.arraylength, 1) := by decide +kernel
theorem k_238_15 : cd 238 15 = some (.iconst 2, 1) := by decide +kernel
theorem k_238_16 : cd 238 16 = some (.idiv, 1) := by decide +kernel
theorem k_238_17 : cd 238 17 = some (.iload_n 1, 1) := by decide +kernel
theorem k_238_18 : cd 238 18 = some (.iadd, 1) := by decide +kernel
theorem k_238_19 : cd 238 19 = some (.iaload, 1) := by decide +kernel
theorem k_238_20 : cd 238 20 = some (.iastore, 1) := by decide +kernel
theorem k_238_21 : cd 238 21 = some (.iinc 1 1, 3) := by decide +kernel
theorem k_238_24 : cd 238 24 = some (.goto (-22), 3) := by decide +kernel
theorem k_238_27 : cd 238 27 = some (.return_, 1) := by decide +kernel
theorem po_238 : po 238 = 9 := rfl
noncomputable def C_238_2 (a0 n0 : Nat) (x1 : Int32) (σ : pS) : Option pZ := den 238 0 2 [.ref a0, .int x1] [] σ
theorem T_238_2 {a0 n0 : Nat} (ha0 : kd a0 = (100, n0)) {x1 : Int32}  {σ : pS} {ρ : Nat → Nat → Option Nat} (e : gR σ = ρ) (hL : LayR ρ) : Le
  (if ((ι n0) / (ι 2)) ≤ x1 then some (0, .null, σ) else gd (inb (((ι n0) / (ι 2)) + x1) n0) (gd (inb x1 n0) (C_238_2 a0 n0 (x1 + (ι 1)) (sI σ a0 (ix x1) (gI σ a0 (ix (((ι n0) / (ι 2)) + x1)))))))
  (C_238_2 a0 n0 x1 σ) := by
  unfold C_238_2
  exact r_iload_n k_238_2 rfl rfl
    (r_aload_n k_238_3 rfl rfl
    (r_alenI k_238_4 rfl ha0 rfl
    (r_iconst k_238_5 rfl rfl
    (r_idiv k_238_6 rfl (by decide)
    (r_icmp (tgt := 27) k_238_7 rfl rfl cop_ge
    (r_retV k_238_27 rfl)
    (r_aload_n k_238_10 rfl rfl
    (r_iload_n k_238_11 rfl rfl
    (r_aload_n k_238_12 rfl rfl
    (r_aload_n k_238_13 rfl rfl
    (r_alenI k_238_14 rfl ha0 rfl
    (r_iconst k_238_15 rfl rfl
    (r_idiv k_238_16 rfl (by decide)
    (r_iload_n k_238_17 rfl rfl
    (r_iadd k_238_18 rfl
    (r_gd fun g => r_iald k_238_19 rfl ha0 g
    (r_gd fun g => r_iast k_238_20 rfl ha0 g
    (r_iinc k_238_21 rfl rfl rfl rfl
    (r_goto (tgt := 2) k_238_24 rfl (Le.rfl')))))))))))))))))))
theorem M_238 {a0 n0 : Nat} (ha0 : kd a0 = (100, n0))  {σ : pS} {ρ : Nat → Nat → Option Nat} (e : gR σ = ρ) (hL : LayR ρ) : Le
  (C_238_2 a0 n0 (ι 0) σ)
  (pcall 238 [.ref a0] σ) := by
  show Le _ (den 238 0 0 [.ref a0, .retAddr 0] [] σ)
  exact r_iconst k_238_0 rfl rfl
    (r_istore_n k_238_1 rfl rfl rfl
    (Le.rfl'))
/-! ===== 239 HedgeWantsModel.fault ===== -/
theorem k_239_0 : cd 239 0 = some (.aload_n 0, 1) := by decide +kernel
theorem k_239_1 : cd 239 1 = some (.iconst 0, 1) := by decide +kernel
theorem k_239_2 : cd 239 2 = some (.putfield 145, 3) := by decide +kernel
theorem k_239_5 : cd 239 5 = some (.aload_n 0, 1) := by decide +kernel
theorem k_239_6 : cd 239 6 = some (.getfield 73, 3) := by decide +kernel
theorem k_239_9 : cd 239 9 = some (.ireturn, 1) := by decide +kernel
theorem po_239 : po 239 = 9 := rfl
theorem M_239   {σ : pS} {ρ : Nat → Nat → Option Nat} (e : gR σ = ρ) (hL : LayR ρ) : Le
  (some (1, .int (gI (sI σ 61 4 (ι 0)) 61 24), (sI σ 61 4 (ι 0))))
  (pcall 239 [.ref 61] σ) := by
  show Le _ (den 239 0 0 [.ref 61] [] σ)
  exact r_aload_n k_239_0 rfl rfl
    (r_iconst k_239_1 rfl rfl
    (r_putI k_239_2 rfl po_239 rfl rfl rfl
    (r_aload_n k_239_5 rfl rfl
    (r_getI k_239_6 rfl po_239 rfl rfl rfl rfl
    (r_ret k_239_9 rfl rfl)))))
/-! ===== 240 HedgeWantsModel.count ===== -/
theorem k_240_0 : cd 240 0 = some (.aload_n 0, 1) := by decide +kernel
theorem k_240_1 : cd 240 1 = some (.iconst 0, 1) := by decide +kernel
theorem k_240_2 : cd 240 2 = some (.putfield 145, 3) := by decide +kernel
theorem k_240_5 : cd 240 5 = some (.iload_n 1, 1) := by decide +kernel
theorem k_240_6 : cd 240 6 = some (.tableswitch 175 0 16 #[82, 82, 89, 94, 99, 105, 105, 121, 135, 140, 145, 150, 155, 160, 165, 165, 165], 82) := by decide +kernel
theorem k_240_88 : cd 240 88 = some (.aload_n 0, 1) := by decide +kernel
theorem k_240_89 : cd 240 89 = some (.getfield 44, 3) := by decide +kernel
theorem k_240_92 : cd 240 92 = some (.iload_n 1, 1) := by decide +kernel
theorem k_240_93 : cd 240 93 = some (.iaload, 1) := by decide +kernel
theorem k_240_94 : cd 240 94 = some (.ireturn, 1) := by decide +kernel
theorem k_240_95 : cd 240 95 = some (.aload_n 0, 1) := by decide +kernel
theorem k_240_96 : cd 240 96 = some (.getfield 303, 3) := by decide +kernel
theorem k_240_99 : cd 240 99 = some (.ireturn, 1) := by decide +kernel
theorem k_240_100 : cd 240 100 = some (.aload_n 0, 1) := by decide +kernel
theorem k_240_101 : cd 240 101 = some (.invokevirtual 371, 3) := by decide +kernel
theorem k_240_104 : cd 240 104 = some (.ireturn, 1) := by decide +kernel
theorem k_240_105 : cd 240 105 = some (.aload_n 0, 1) := by decide +kernel
theorem k_240_106 : cd 240 106 = some (.iconst 0, 1) := by decide +kernel
theorem k_240_107 : cd 240 107 = some (.invokevirtual 374, 3) := by decide +kernel
theorem k_240_110 : cd 240 110 = some (.ireturn, 1) := by decide +kernel
theorem k_240_111 : cd 240 111 = some (.aload_n 0, 1) := by decide +kernel
theorem k_240_112 : cd 240 112 = some (.iload_n 1, 1) := by decide +kernel
theorem k_240_113 : cd 240 113 = some (.bipush 6, 2) := by decide +kernel
theorem k_240_115 : cd 240 115 = some (.if_icmp .ne 7, 3) := by decide +kernel
theorem k_240_118 : cd 240 118 = some (.iconst 1, 1) := by decide +kernel
theorem k_240_119 : cd 240 119 = some (.goto 4, 3) := by decide +kernel
theorem k_240_122 : cd 240 122 = some (.iconst 0, 1) := by decide +kernel
theorem k_240_123 : cd 240 123 = some (.invokevirtual 378, 3) := by decide +kernel
theorem k_240_126 : cd 240 126 = some (.ireturn, 1) := by decide +kernel
theorem k_240_127 : cd 240 127 = some (.aload_n 0, 1) := by decide +kernel
theorem k_240_128 : cd 240 128 = some (.iconst 1, 1) := by decide +kernel
theorem k_240_129 : cd 240 129 = some (.invokevirtual 374, 3) := by decide +kernel
theorem k_240_132 : cd 240 132 = some (.ifCond .ne 7, 3) := by decide +kernel
theorem k_240_135 : cd 240 135 = some (.iconst 1, 1) := by decide +kernel
theorem k_240_136 : cd 240 136 = some (.goto 4, 3) := by decide +kernel
theorem k_240_139 : cd 240 139 = some (.iconst 0, 1) := by decide +kernel
theorem k_240_140 : cd 240 140 = some (.ireturn, 1) := by decide +kernel
theorem k_240_141 : cd 240 141 = some (.aload_n 0, 1) := by decide +kernel
theorem k_240_142 : cd 240 142 = some (.invokevirtual 381, 3) := by decide +kernel
theorem k_240_145 : cd 240 145 = some (.ireturn, 1) := by decide +kernel
theorem k_240_146 : cd 240 146 = some (.aload_n 0, 1) := by decide +kernel
theorem k_240_147 : cd 240 147 = some (.invokevirtual 384, 3) := by decide +kernel
theorem k_240_150 : cd 240 150 = some (.ireturn, 1) := by decide +kernel
theorem k_240_151 : cd 240 151 = some (.aload_n 0, 1) := by decide +kernel
theorem k_240_152 : cd 240 152 = some (.invokevirtual 387, 3) := by decide +kernel
theorem k_240_155 : cd 240 155 = some (.ireturn, 1) := by decide +kernel
theorem k_240_156 : cd 240 156 = some (.aload_n 0, 1) := by decide +kernel
theorem k_240_157 : cd 240 157 = some (.getfield 306, 3) := by decide +kernel
theorem k_240_160 : cd 240 160 = some (.ireturn, 1) := by decide +kernel
theorem k_240_161 : cd 240 161 = some (.aload_n 0, 1) := by decide +kernel
theorem k_240_162 : cd 240 162 = some (.getfield 309, 3) := by decide +kernel
theorem k_240_165 : cd 240 165 = some (.ireturn, 1) := by decide +kernel
theorem k_240_166 : cd 240 166 = some (.aload_n 0, 1) := by decide +kernel
theorem k_240_167 : cd 240 167 = some (.getfield 152, 3) := by decide +kernel
theorem k_240_170 : cd 240 170 = some (.ireturn, 1) := by decide +kernel
theorem k_240_171 : cd 240 171 = some (.aload_n 0, 1) := by decide +kernel
theorem k_240_172 : cd 240 172 = some (.getfield 67, 3) := by decide +kernel
theorem k_240_175 : cd 240 175 = some (.iload_n 1, 1) := by decide +kernel
theorem k_240_176 : cd 240 176 = some (.bipush 14, 2) := by decide +kernel
theorem k_240_178 : cd 240 178 = some (.isub, 1) := by decide +kernel
theorem k_240_179 : cd 240 179 = some (.iaload, 1) := by decide +kernel
theorem k_240_180 : cd 240 180 = some (.ireturn, 1) := by decide +kernel
theorem k_240_181 : cd 240 181 = some (.aload_n 0, 1) := by decide +kernel
theorem k_240_182 : cd 240 182 = some (.iconst 1, 1) := by decide +kernel
theorem k_240_183 : cd 240 183 = some (.invokevirtual 290, 3) := by decide +kernel
theorem k_240_186 : cd 240 186 = some (.ireturn, 1) := by decide +kernel
theorem po_240 : po 240 = 9 := rfl
theorem M_240  {x0 : Int32} {σ : pS} {ρ : Nat → Nat → Option Nat} (e : gR σ = ρ) (hL : LayR ρ) : Le
  (if x0 = (ι 0) then gd (inb x0 10) (some (1, .int (gI (sI σ 61 4 (ι 0)) 65 (ix x0)), (sI σ 61 4 (ι 0)))) else if x0 = (ι 1) then gd (inb x0 10) (some (1, .int (gI (sI σ 61 4 (ι 0)) 65 (ix x0)), (sI σ 61 4 (ι 0)))) else if x0 = (ι 2) then some (1, .int (gI (sI σ 61 4 (ι 0)) 61 31), (sI σ 61 4 (ι 0))) else if x0 = (ι 3) then bI (pcall 241 [.ref 61] (sI σ 61 4 (ι 0))) fun r24 σ24 => some (1, .int r24, σ24) else if x0 = (ι 4) then bI (pcall 250 [.ref 61, .int (ι 0)] (sI σ 61 4 (ι 0))) fun r22 σ22 => some (1, .int r22, σ22) else if x0 = (ι 5) then if ¬ x0 = (ι 6) then bI (pcall 253 [.ref 61, .int (ι 0)] (sI σ 61 4 (ι 0))) fun r19 σ19 => some (1, .int r19, σ19) else bI (pcall 253 [.ref 61, .int (ι 1)] (sI σ 61 4 (ι 0))) fun r20 σ20 => some (1, .int r20, σ20) else if x0 = (ι 6) then if ¬ x0 = (ι 6) then bI (pcall 253 [.ref 61, .int (ι 0)] (sI σ 61 4 (ι 0))) fun r16 σ16 => some (1, .int r16, σ16) else bI (pcall 253 [.ref 61, .int (ι 1)] (sI σ 61 4 (ι 0))) fun r17 σ17 => some (1, .int r17, σ17) else if x0 = (ι 7) then bI (pcall 250 [.ref 61, .int (ι 1)] (sI σ 61 4 (ι 0))) fun r14 σ14 => if ¬ r14 = (ι 0) then some (1, .int (ι 0), σ14) else some (1, .int (ι 1), σ14) else if x0 = (ι 8) then bI (pcall 255 [.ref 61] (sI σ 61 4 (ι 0))) fun r12 σ12 => some (1, .int r12, σ12) else if x0 = (ι 9) then bI (pcall 257 [.ref 61] (sI σ 61 4 (ι 0))) fun r10 σ10 => some (1, .int r10, σ10) else if x0 = (ι 10) then bI (pcall 258 [.ref 61] (sI σ 61 4 (ι 0))) fun r8 σ8 => some (1, .int r8, σ8) else if x0 = (ι 11) then some (1, .int (gI (sI σ 61 4 (ι 0)) 61 32), (sI σ 61 4 (ι 0))) else if x0 = (ι 12) then some (1, .int (gI (sI σ 61 4 (ι 0)) 61 33), (sI σ 61 4 (ι 0))) else if x0 = (ι 13) then some (1, .int (gI (sI σ 61 4 (ι 0)) 61 15), (sI σ 61 4 (ι 0))) else if x0 = (ι 14) then gd (inb (x0 - (ι 14)) 3) (some (1, .int (gI (sI σ 61 4 (ι 0)) 73 (ix (x0 - (ι 14)))), (sI σ 61 4 (ι 0)))) else if x0 = (ι 15) then gd (inb (x0 - (ι 14)) 3) (some (1, .int (gI (sI σ 61 4 (ι 0)) 73 (ix (x0 - (ι 14)))), (sI σ 61 4 (ι 0)))) else if x0 = (ι 16) then gd (inb (x0 - (ι 14)) 3) (some (1, .int (gI (sI σ 61 4 (ι 0)) 73 (ix (x0 - (ι 14)))), (sI σ 61 4 (ι 0)))) else gd (x0.toInt < 0 ∨ 16 < x0.toInt) (bI (pcall 211 [.ref 61, .int (ι 1)] (sI σ 61 4 (ι 0))) fun r1 σ1 => some (1, .int r1, σ1)))
  (pcall 240 [.ref 61, .int x0] σ) := by
  show Le _ (den 240 0 0 [.ref 61, .int x0] [] σ)
  exact r_aload_n k_240_0 rfl rfl
    (r_iconst k_240_1 rfl rfl
    (r_putI k_240_2 rfl po_240 rfl rfl rfl
    (r_iload_n k_240_5 rfl rfl
    (r_case (fun c28 => r_tabGo (off := 82) (tgt := 88) c28 k_240_6 (by decide) (by decide) rfl (r_aload_n k_240_88 rfl rfl
    (r_getR k_240_89 rfl po_240 rfl rfl rfl rfl (gRat (eI e) (LayR.at hL (i := 66) rfl))
    (r_iload_n k_240_92 rfl rfl
    (r_gd fun g => r_iald k_240_93 rfl rfl g
    (r_ret k_240_94 rfl rfl)))))) (fun _ => r_case (fun c27 => r_tabGo (off := 82) (tgt := 88) c27 k_240_6 (by decide) (by decide) rfl (r_aload_n k_240_88 rfl rfl
    (r_getR k_240_89 rfl po_240 rfl rfl rfl rfl (gRat (eI e) (LayR.at hL (i := 66) rfl))
    (r_iload_n k_240_92 rfl rfl
    (r_gd fun g => r_iald k_240_93 rfl rfl g
    (r_ret k_240_94 rfl rfl)))))) (fun _ => r_case (fun c26 => r_tabGo (off := 89) (tgt := 95) c26 k_240_6 (by decide) (by decide) rfl (r_aload_n k_240_95 rfl rfl
    (r_getI k_240_96 rfl po_240 rfl rfl rfl rfl
    (r_ret k_240_99 rfl rfl)))) (fun _ => r_case (fun c25 => r_tabGo (off := 94) (tgt := 100) c25 k_240_6 (by decide) (by decide) rfl (r_aload_n k_240_100 rfl rfl
    (r_callI (q_virt (rest := []) (as := []) k_240_101 po_240 rfl rfl rfl (rcvO rfl rfl rfl) rfl rfl) (lvq (j := 0) rfl (by decide +kernel)) rfl rfl (fun r24 σ24 h24 => r_ret k_240_104 rfl rfl)))) (fun _ => r_case (fun c23 => r_tabGo (off := 99) (tgt := 105) c23 k_240_6 (by decide) (by decide) rfl (r_aload_n k_240_105 rfl rfl
    (r_iconst k_240_106 rfl rfl
    (r_callI (q_virt (rest := []) (as := [.int (ι 0)]) k_240_107 po_240 rfl rfl rfl (rcvO rfl rfl rfl) rfl rfl) (lvq (j := 0) rfl (by decide +kernel)) rfl rfl (fun r22 σ22 h22 => r_ret k_240_110 rfl rfl))))) (fun _ => r_case (fun c21 => r_tabGo (off := 105) (tgt := 111) c21 k_240_6 (by decide) (by decide) rfl (r_aload_n k_240_111 rfl rfl
    (r_iload_n k_240_112 rfl rfl
    (r_bipush k_240_113 rfl rfl
    (r_icmp (tgt := 122) k_240_115 rfl rfl cop_ne
    (r_iconst k_240_122 rfl rfl
    (r_callI (q_virt (rest := []) (as := [.int (ι 0)]) k_240_123 po_240 rfl rfl rfl (rcvO rfl rfl rfl) rfl rfl) (lvq (j := 0) rfl (by decide +kernel)) rfl rfl (fun r19 σ19 h19 => r_ret k_240_126 rfl rfl)))
    (r_iconst k_240_118 rfl rfl
    (r_goto (tgt := 123) k_240_119 rfl (r_callI (q_virt (rest := []) (as := [.int (ι 1)]) k_240_123 po_240 rfl rfl rfl (rcvO rfl rfl rfl) rfl rfl) (lvq (j := 0) rfl (by decide +kernel)) rfl rfl (fun r20 σ20 h20 => r_ret k_240_126 rfl rfl))))))))) (fun _ => r_case (fun c18 => r_tabGo (off := 105) (tgt := 111) c18 k_240_6 (by decide) (by decide) rfl (r_aload_n k_240_111 rfl rfl
    (r_iload_n k_240_112 rfl rfl
    (r_bipush k_240_113 rfl rfl
    (r_icmp (tgt := 122) k_240_115 rfl rfl cop_ne
    (r_iconst k_240_122 rfl rfl
    (r_callI (q_virt (rest := []) (as := [.int (ι 0)]) k_240_123 po_240 rfl rfl rfl (rcvO rfl rfl rfl) rfl rfl) (lvq (j := 0) rfl (by decide +kernel)) rfl rfl (fun r16 σ16 h16 => r_ret k_240_126 rfl rfl)))
    (r_iconst k_240_118 rfl rfl
    (r_goto (tgt := 123) k_240_119 rfl (r_callI (q_virt (rest := []) (as := [.int (ι 1)]) k_240_123 po_240 rfl rfl rfl (rcvO rfl rfl rfl) rfl rfl) (lvq (j := 0) rfl (by decide +kernel)) rfl rfl (fun r17 σ17 h17 => r_ret k_240_126 rfl rfl))))))))) (fun _ => r_case (fun c15 => r_tabGo (off := 121) (tgt := 127) c15 k_240_6 (by decide) (by decide) rfl (r_aload_n k_240_127 rfl rfl
    (r_iconst k_240_128 rfl rfl
    (r_callI (q_virt (rest := []) (as := [.int (ι 1)]) k_240_129 po_240 rfl rfl rfl (rcvO rfl rfl rfl) rfl rfl) (lvq (j := 0) rfl (by decide +kernel)) rfl rfl (fun r14 σ14 h14 => r_if (tgt := 139) k_240_132 rfl rfl cop_ne
    (r_iconst k_240_139 rfl rfl
    (r_ret k_240_140 rfl rfl))
    (r_iconst k_240_135 rfl rfl
    (r_goto (tgt := 140) k_240_136 rfl (r_ret k_240_140 rfl rfl)))))))) (fun _ => r_case (fun c13 => r_tabGo (off := 135) (tgt := 141) c13 k_240_6 (by decide) (by decide) rfl (r_aload_n k_240_141 rfl rfl
    (r_callI (q_virt (rest := []) (as := []) k_240_142 po_240 rfl rfl rfl (rcvO rfl rfl rfl) rfl rfl) (lvq (j := 0) rfl (by decide +kernel)) rfl rfl (fun r12 σ12 h12 => r_ret k_240_145 rfl rfl)))) (fun _ => r_case (fun c11 => r_tabGo (off := 140) (tgt := 146) c11 k_240_6 (by decide) (by decide) rfl (r_aload_n k_240_146 rfl rfl
    (r_callI (q_virt (rest := []) (as := []) k_240_147 po_240 rfl rfl rfl (rcvO rfl rfl rfl) rfl rfl) (lvq (j := 0) rfl (by decide +kernel)) rfl rfl (fun r10 σ10 h10 => r_ret k_240_150 rfl rfl)))) (fun _ => r_case (fun c9 => r_tabGo (off := 145) (tgt := 151) c9 k_240_6 (by decide) (by decide) rfl (r_aload_n k_240_151 rfl rfl
    (r_callI (q_virt (rest := []) (as := []) k_240_152 po_240 rfl rfl rfl (rcvO rfl rfl rfl) rfl rfl) (lvq (j := 0) rfl (by decide +kernel)) rfl rfl (fun r8 σ8 h8 => r_ret k_240_155 rfl rfl)))) (fun _ => r_case (fun c7 => r_tabGo (off := 150) (tgt := 156) c7 k_240_6 (by decide) (by decide) rfl (r_aload_n k_240_156 rfl rfl
    (r_getI k_240_157 rfl po_240 rfl rfl rfl rfl
    (r_ret k_240_160 rfl rfl)))) (fun _ => r_case (fun c6 => r_tabGo (off := 155) (tgt := 161) c6 k_240_6 (by decide) (by decide) rfl (r_aload_n k_240_161 rfl rfl
    (r_getI k_240_162 rfl po_240 rfl rfl rfl rfl
    (r_ret k_240_165 rfl rfl)))) (fun _ => r_case (fun c5 => r_tabGo (off := 160) (tgt := 166) c5 k_240_6 (by decide) (by decide) rfl (r_aload_n k_240_166 rfl rfl
    (r_getI k_240_167 rfl po_240 rfl rfl rfl rfl
    (r_ret k_240_170 rfl rfl)))) (fun _ => r_case (fun c4 => r_tabGo (off := 165) (tgt := 171) c4 k_240_6 (by decide) (by decide) rfl (r_aload_n k_240_171 rfl rfl
    (r_getR k_240_172 rfl po_240 rfl rfl rfl rfl (gRat (eI e) (LayR.at hL (i := 74) rfl))
    (r_iload_n k_240_175 rfl rfl
    (r_bipush k_240_176 rfl rfl
    (r_isub k_240_178 rfl
    (r_gd fun g => r_iald k_240_179 rfl rfl g
    (r_ret k_240_180 rfl rfl)))))))) (fun _ => r_case (fun c3 => r_tabGo (off := 165) (tgt := 171) c3 k_240_6 (by decide) (by decide) rfl (r_aload_n k_240_171 rfl rfl
    (r_getR k_240_172 rfl po_240 rfl rfl rfl rfl (gRat (eI e) (LayR.at hL (i := 74) rfl))
    (r_iload_n k_240_175 rfl rfl
    (r_bipush k_240_176 rfl rfl
    (r_isub k_240_178 rfl
    (r_gd fun g => r_iald k_240_179 rfl rfl g
    (r_ret k_240_180 rfl rfl)))))))) (fun _ => r_case (fun c2 => r_tabGo (off := 165) (tgt := 171) c2 k_240_6 (by decide) (by decide) rfl (r_aload_n k_240_171 rfl rfl
    (r_getR k_240_172 rfl po_240 rfl rfl rfl rfl (gRat (eI e) (LayR.at hL (i := 74) rfl))
    (r_iload_n k_240_175 rfl rfl
    (r_bipush k_240_176 rfl rfl
    (r_isub k_240_178 rfl
    (r_gd fun g => r_iald k_240_179 rfl rfl g
    (r_ret k_240_180 rfl rfl)))))))) (fun _ => r_gd fun g => r_tabOut (tgt := 181) k_240_6 g rfl (r_aload_n k_240_181 rfl rfl
    (r_iconst k_240_182 rfl rfl
    (r_callI (q_virt (rest := []) (as := [.int (ι 1)]) k_240_183 po_240 rfl rfl rfl (rcvO rfl rfl rfl) rfl rfl) (lvq (j := 0) rfl (by decide +kernel)) rfl rfl (fun r1 σ1 h1 => r_ret k_240_186 rfl rfl)))))))))))))))))))))))))
/-! ===== 241 HedgeWantsModel.safeThings ===== -/
theorem k_241_0 : cd 241 0 = some (.iconst 0, 1) := by decide +kernel
theorem k_241_1 : cd 241 1 = some (.istore_n 1, 1) := by decide +kernel
theorem k_241_2 : cd 241 2 = some (.iconst 0, 1) := by decide +kernel
theorem k_241_3 : cd 241 3 = some (.istore_n 2, 1) := by decide +kernel
theorem k_241_4 : cd 241 4 = some (.iload_n 2, 1) := by decide +kernel
theorem k_241_5 : cd 241 5 = some (.aload_n 0, 1) := by decide +kernel
theorem k_241_6 : cd 241 6 = some (.getfield 44, 3) := by decide +kernel
theorem k_241_9 : cd 241 9 = some (.iconst 1, 1) := by decide +kernel
theorem k_241_10 : cd 241 10 = some (.iaload, 1) := by decide +kernel
theorem k_241_11 : cd 241 11 = some (.if_icmp .ge 27, 3) := by decide +kernel
theorem k_241_14 : cd 241 14 = some (.iload_n 1, 1) := by decide +kernel
theorem k_241_15 : cd 241 15 = some (.aload_n 0, 1) := by decide +kernel
theorem k_241_16 : cd 241 16 = some (.iload_n 2, 1) := by decide +kernel
theorem k_241_17 : cd 241 17 = some (.invokevirtual 344, 3) := by decide +kernel
theorem k_241_20 : cd 241 20 = some (.ifCond .ne 9, 3) := by decide +kernel
theorem k_241_23 : cd 241 23 = some (.iconst 1, 1) := by decide +kernel
theorem k_241_24 : cd 241 24 = some (.iload_n 2, 1) := by decide +kernel
theorem k_241_25 : cd 241 25 = some (.ishl, 1) := by decide +kernel
theorem k_241_26 : cd 241 26 = some (.goto 4, 3) := by decide +kernel
theorem k_241_29 : cd 241 29 = some (.iconst 0, 1) := by decide +kernel
theorem k_241_30 : cd 241 30 = some (.ior, 1) := by decide +kernel
theorem k_241_31 : cd 241 31 = some (.istore_n 1, 1) := by decide +kernel
theorem k_241_32 : cd 241 32 = some (.iinc 2 1, 3) := by decide +kernel
theorem k_241_35 : cd 241 35 = some (.goto (-31), 3) := by decide +kernel
theorem k_241_38 : cd 241 38 = some (.iload_n 1, 1) := by decide +kernel
theorem k_241_39 : cd 241 39 = some (.ireturn, 1) := by decide +kernel
theorem po_241 : po 241 = 9 := rfl
noncomputable def C_241_4  (x1 : Int32) (x2 : Int32) (σ : pS) : Option pZ := den 241 0 4 [.ref 61, .int x1, .int x2] [] σ
theorem T_241_4  {x1 : Int32} {x2 : Int32}  {σ : pS} {ρ : Nat → Nat → Option Nat} (e : gR σ = ρ) (hL : LayR ρ) : Le
  (if (gI σ 65 1) ≤ x2 then some (1, .int x1, σ) else bI (pcall 242 [.ref 61, .int x2] σ) fun r1 σ1 => if ¬ r1 = (ι 0) then C_241_4 (x1 ||| (ι 0)) (x2 + (ι 1)) σ1 else C_241_4 (x1 ||| (shl' (ι 1) x2)) (x2 + (ι 1)) σ1)
  (C_241_4  x1 x2 σ) := by
  unfold C_241_4
  exact r_iload_n k_241_4 rfl rfl
    (r_aload_n k_241_5 rfl rfl
    (r_getR k_241_6 rfl po_241 rfl rfl rfl rfl (gRat e (LayR.at hL (i := 66) rfl))
    (r_iconst k_241_9 rfl rfl
    (r_iald k_241_10 rfl rfl (by decide)
    (r_icmp (tgt := 38) k_241_11 rfl rfl cop_ge
    (r_iload_n k_241_38 rfl rfl
    (r_ret k_241_39 rfl rfl))
    (r_iload_n k_241_14 rfl rfl
    (r_aload_n k_241_15 rfl rfl
    (r_iload_n k_241_16 rfl rfl
    (r_callI (q_virt (rest := [.int x1]) (as := [.int x2]) k_241_17 po_241 rfl rfl rfl (rcvO rfl rfl rfl) rfl rfl) (lvq (j := 0) rfl (by decide +kernel)) rfl rfl (fun r1 σ1 h1 => r_if (tgt := 29) k_241_20 rfl rfl cop_ne
    (r_iconst k_241_29 rfl rfl
    (r_ior k_241_30 rfl
    (r_istore_n k_241_31 rfl rfl rfl
    (r_iinc k_241_32 rfl rfl rfl rfl
    (r_goto (tgt := 4) k_241_35 rfl (Le.rfl'))))))
    (r_iconst k_241_23 rfl rfl
    (r_iload_n k_241_24 rfl rfl
    (r_ishl k_241_25 rfl
    (r_goto (tgt := 30) k_241_26 rfl (r_ior k_241_30 rfl
    (r_istore_n k_241_31 rfl rfl rfl
    (r_iinc k_241_32 rfl rfl rfl rfl
    (r_goto (tgt := 4) k_241_35 rfl (Le.rfl')))))))))))))))))))
theorem M_241   {σ : pS} {ρ : Nat → Nat → Option Nat} (e : gR σ = ρ) (hL : LayR ρ) : Le
  (C_241_4 (ι 0) (ι 0) σ)
  (pcall 241 [.ref 61] σ) := by
  show Le _ (den 241 0 0 [.ref 61, .retAddr 0, .retAddr 0] [] σ)
  exact r_iconst k_241_0 rfl rfl
    (r_istore_n k_241_1 rfl rfl rfl
    (r_iconst k_241_2 rfl rfl
    (r_istore_n k_241_3 rfl rfl rfl
    (Le.rfl'))))
/-! ===== 242 HedgeWantsModel.wantedBy ===== -/
theorem k_242_0 : cd 242 0 = some (.iconst 0, 1) := by decide +kernel
theorem k_242_1 : cd 242 1 = some (.istore_n 2, 1) := by decide +kernel
theorem k_242_2 : cd 242 2 = some (.iconst 0, 1) := by decide +kernel
theorem k_242_3 : cd 242 3 = some (.istore_n 3, 1) := by decide +kernel
theorem k_242_4 : cd 242 4 = some (.iload_n 3, 1) := by decide +kernel
theorem k_242_5 : cd 242 5 = some (.aload_n 0, 1) := by decide +kernel
theorem k_242_6 : cd 242 6 = some (.getfield 44, 3) := by decide +kernel
theorem k_242_9 : cd 242 9 = some (.iconst 0, 1) := by decide +kernel
theorem k_242_10 : cd 242 10 = some (.iaload, 1) := by decide +kernel
theorem k_242_11 : cd 242 11 = some (.if_icmp .ge 28, 3) := by decide +kernel
theorem k_242_14 : cd 242 14 = some (.iload_n 2, 1) := by decide +kernel
theorem k_242_15 : cd 242 15 = some (.aload_n 0, 1) := by decide +kernel
theorem k_242_16 : cd 242 16 = some (.iload_n 3, 1) := by decide +kernel
theorem k_242_17 : cd 242 17 = some (.iload_n 1, 1) := by decide +kernel
theorem k_242_18 : cd 242 18 = some (.invokevirtual 341, 3) := by decide +kernel
theorem k_242_21 : cd 242 21 = some (.ifCond .eq 9, 3) := by decide +kernel
theorem k_242_24 : cd 242 24 = some (.iconst 1, 1) := by decide +kernel
theorem k_242_25 : cd 242 25 = some (.iload_n 3, 1) := by decide +kernel
theorem k_242_26 : cd 242 26 = some (.ishl, 1) := by decide +kernel
theorem k_242_27 : cd 242 27 = some (.goto 4, 3) := by decide +kernel
theorem k_242_30 : cd 242 30 = some (.iconst 0, 1) := by decide +kernel
theorem k_242_31 : cd 242 31 = some (.ior, 1) := by decide +kernel
theorem k_242_32 : cd 242 32 = some (.istore_n 2, 1) := by decide +kernel
theorem k_242_33 : cd 242 33 = some (.iinc 3 1, 3) := by decide +kernel
theorem k_242_36 : cd 242 36 = some (.goto (-32), 3) := by decide +kernel
theorem k_242_39 : cd 242 39 = some (.iload_n 2, 1) := by decide +kernel
theorem k_242_40 : cd 242 40 = some (.ireturn, 1) := by decide +kernel
theorem po_242 : po 242 = 9 := rfl
noncomputable def C_242_4  (x1 : Int32) (x2 : Int32) (x3 : Int32) (σ : pS) : Option pZ := den 242 0 4 [.ref 61, .int x1, .int x2, .int x3] [] σ
theorem T_242_4  {x1 : Int32} {x2 : Int32} {x3 : Int32}  {σ : pS} {ρ : Nat → Nat → Option Nat} (e : gR σ = ρ) (hL : LayR ρ) : Le
  (if (gI σ 65 0) ≤ x3 then some (1, .int x2, σ) else bI (pcall 243 [.ref 61, .int x3, .int x1] σ) fun r1 σ1 => if r1 = (ι 0) then C_242_4 x1 (x2 ||| (ι 0)) (x3 + (ι 1)) σ1 else C_242_4 x1 (x2 ||| (shl' (ι 1) x3)) (x3 + (ι 1)) σ1)
  (C_242_4  x1 x2 x3 σ) := by
  unfold C_242_4
  exact r_iload_n k_242_4 rfl rfl
    (r_aload_n k_242_5 rfl rfl
    (r_getR k_242_6 rfl po_242 rfl rfl rfl rfl (gRat e (LayR.at hL (i := 66) rfl))
    (r_iconst k_242_9 rfl rfl
    (r_iald k_242_10 rfl rfl (by decide)
    (r_icmp (tgt := 39) k_242_11 rfl rfl cop_ge
    (r_iload_n k_242_39 rfl rfl
    (r_ret k_242_40 rfl rfl))
    (r_iload_n k_242_14 rfl rfl
    (r_aload_n k_242_15 rfl rfl
    (r_iload_n k_242_16 rfl rfl
    (r_iload_n k_242_17 rfl rfl
    (r_callI (q_virt (rest := [.int x2]) (as := [.int x3, .int x1]) k_242_18 po_242 rfl rfl rfl (rcvO rfl rfl rfl) rfl rfl) (lvq (j := 0) rfl (by decide +kernel)) rfl rfl (fun r1 σ1 h1 => r_if (tgt := 30) k_242_21 rfl rfl cop_eq
    (r_iconst k_242_30 rfl rfl
    (r_ior k_242_31 rfl
    (r_istore_n k_242_32 rfl rfl rfl
    (r_iinc k_242_33 rfl rfl rfl rfl
    (r_goto (tgt := 4) k_242_36 rfl (Le.rfl'))))))
    (r_iconst k_242_24 rfl rfl
    (r_iload_n k_242_25 rfl rfl
    (r_ishl k_242_26 rfl
    (r_goto (tgt := 31) k_242_27 rfl (r_ior k_242_31 rfl
    (r_istore_n k_242_32 rfl rfl rfl
    (r_iinc k_242_33 rfl rfl rfl rfl
    (r_goto (tgt := 4) k_242_36 rfl (Le.rfl'))))))))))))))))))))
theorem M_242  {x0 : Int32} {σ : pS} {ρ : Nat → Nat → Option Nat} (e : gR σ = ρ) (hL : LayR ρ) : Le
  (C_242_4 x0 (ι 0) (ι 0) σ)
  (pcall 242 [.ref 61, .int x0] σ) := by
  show Le _ (den 242 0 0 [.ref 61, .int x0, .retAddr 0, .retAddr 0] [] σ)
  exact r_iconst k_242_0 rfl rfl
    (r_istore_n k_242_1 rfl rfl rfl
    (r_iconst k_242_2 rfl rfl
    (r_istore_n k_242_3 rfl rfl rfl
    (Le.rfl'))))
/-! ===== 243 HedgeWantsModel.wantsIt ===== -/
theorem k_243_0 : cd 243 0 = some (.aload_n 0, 1) := by decide +kernel
theorem k_243_1 : cd 243 1 = some (.getfield 77, 3) := by decide +kernel
theorem k_243_4 : cd 243 4 = some (.iload_n 2, 1) := by decide +kernel
theorem k_243_5 : cd 243 5 = some (.iaload, 1) := by decide +kernel
theorem k_243_6 : cd 243 6 = some (.istore_n 3, 1) := by decide +kernel
theorem k_243_7 : cd 243 7 = some (.iload_n 1, 1) := by decide +kernel
theorem k_243_8 : cd 243 8 = some (.iload_n 3, 1) := by decide +kernel
theorem k_243_9 : cd 243 9 = some (.if_icmp .eq 27, 3) := by decide +kernel
theorem k_243_12 : cd 243 12 = some (.aload_n 0, 1) := by decide +kernel
theorem k_243_13 : cd 243 13 = some (.getfield 84, 3) := by decide +kernel
theorem k_243_16 : cd 243 16 = some (.iload_n 1, 1) := by decide +kernel
theorem k_243_17 : cd 243 17 = some (.iaload, 1) := by decide +kernel
theorem k_243_18 : cd 243 18 = some (.iload_n 3, 1) := by decide +kernel
theorem k_243_19 : cd 243 19 = some (.invokestatic 269, 3) := by decide +kernel
theorem k_243_22 : cd 243 22 = some (.ifCond .eq 14, 3) := by decide +kernel
theorem k_243_25 : cd 243 25 = some (.aload_n 0, 1) := by decide +kernel
theorem k_243_26 : cd 243 26 = some (.getfield 325, 3) := by decide +kernel
theorem k_243_29 : cd 243 29 = some (.iload_n 1, 1) := by decide +kernel
theorem k_243_30 : cd 243 30 = some (.invokestatic 269, 3) := by decide +kernel
theorem k_243_33 : cd 243 33 = some (.ifCond .eq 5, 3) := by decide +kernel
theorem k_243_36 : cd 243 36 = some (.iconst 0, 1) := by decide +kernel
theorem k_243_37 : cd 243 37 = some (.ireturn, 1) := by decide +kernel
theorem k_243_38 : cd 243 38 = some (.aload_n 0, 1) := by decide +kernel
theorem k_243_39 : cd 243 39 = some (.getfield 44, 3) := by decide +kernel
theorem k_243_42 : cd 243 42 = some (.iconst 3, 1) := by decide +kernel
theorem k_243_43 : cd 243 43 = some (.iaload, 1) := by decide +kernel
theorem k_243_44 : cd 243 44 = some (.ifCond .ne 19, 3) := by decide +kernel
theorem k_243_47 : cd 243 47 = some (.aload_n 0, 1) := by decide +kernel
theorem k_243_48 : cd 243 48 = some (.iload_n 1, 1) := by decide +kernel
theorem k_243_49 : cd 243 49 = some (.iload_n 2, 1) := by decide +kernel
theorem k_243_50 : cd 243 50 = some (.invokevirtual 328, 3) := by decide +kernel
theorem k_243_53 : cd 243 53 = some (.iconst 5, 1) := by decide +kernel
theorem k_243_54 : cd 243 54 = some (.if_icmp .lt 7, 3) := by decide +kernel
theorem k_243_57 : cd 243 57 = some (.iconst 1, 1) := by decide +kernel
theorem k_243_58 : cd 243 58 = some (.goto 4, 3) := by decide +kernel
theorem k_243_61 : cd 243 61 = some (.iconst 0, 1) := by decide +kernel
theorem k_243_62 : cd 243 62 = some (.ireturn, 1) := by decide +kernel
theorem k_243_63 : cd 243 63 = some (.aload_n 0, 1) := by decide +kernel
theorem k_243_64 : cd 243 64 = some (.getfield 90, 3) := by decide +kernel
theorem k_243_67 : cd 243 67 = some (.iconst 0, 1) := by decide +kernel
theorem k_243_68 : cd 243 68 = some (.aload_n 0, 1) := by decide +kernel
theorem k_243_69 : cd 243 69 = some (.getfield 80, 3) := by decide +kernel
theorem k_243_72 : cd 243 72 = some (.iload_n 2, 1) := by decide +kernel
theorem k_243_73 : cd 243 73 = some (.iaload, 1) := by decide +kernel
theorem k_243_74 : cd 243 74 = some (.iastore, 1) := by decide +kernel
theorem k_243_75 : cd 243 75 = some (.aload_n 0, 1) := by decide +kernel
theorem k_243_76 : cd 243 76 = some (.getfield 90, 3) := by decide +kernel
theorem k_243_79 : cd 243 79 = some (.iconst 1, 1) := by decide +kernel
theorem k_243_80 : cd 243 80 = some (.aload_n 0, 1) := by decide +kernel
theorem k_243_81 : cd 243 81 = some (.getfield 303, 3) := by decide +kernel
theorem k_243_84 : cd 243 84 = some (.iastore, 1) := by decide +kernel
theorem k_243_85 : cd 243 85 = some (.aload_n 0, 1) := by decide +kernel
theorem k_243_86 : cd 243 86 = some (.getfield 90, 3) := by decide +kernel
theorem k_243_89 : cd 243 89 = some (.iconst 2, 1) := by decide +kernel
theorem k_243_90 : cd 243 90 = some (.aload_n 0, 1) := by decide +kernel
theorem k_243_91 : cd 243 91 = some (.iload_n 1, 1) := by decide +kernel
theorem k_243_92 : cd 243 92 = some (.iload_n 2, 1) := by decide +kernel
theorem k_243_93 : cd 243 93 = some (.invokevirtual 328, 3) := by decide +kernel
theorem k_243_96 : cd 243 96 = some (.iastore, 1) := by decide +kernel
theorem k_243_97 : cd 243 97 = some (.aload_n 0, 1) := by decide +kernel
theorem k_243_98 : cd 243 98 = some (.getfield 90, 3) := by decide +kernel
theorem k_243_101 : cd 243 101 = some (.iconst 3, 1) := by decide +kernel
theorem k_243_102 : cd 243 102 = some (.aload_n 0, 1) := by decide +kernel
theorem k_243_103 : cd 243 103 = some (.getfield 48, 3) := by decide +kernel
theorem k_243_106 : cd 243 106 = some (.iload_n 1, 1) := by decide +kernel
theorem k_243_107 : cd 243 107 = some (.iaload, 1) := by decide +kernel
theorem k_243_108 : cd 243 108 = some (.iastore, 1) := by decide +kernel
theorem k_243_109 : cd 243 109 = some (.aload_n 0, 1) := by decide +kernel
theorem k_243_110 : cd 243 110 = some (.getfield 90, 3) := by decide +kernel
theorem k_243_113 : cd 243 113 = some (.iconst 4, 1) := by decide +kernel
theorem k_243_114 : cd 243 114 = some (.aload_n 0, 1) := by decide +kernel
theorem k_243_115 : cd 243 115 = some (.iload_n 1, 1) := by decide +kernel
theorem k_243_116 : cd 243 116 = some (.invokevirtual 331, 3) := by decide +kernel
theorem k_243_119 : cd 243 119 = some (.invokestatic 334, 3) := by decide +kernel
theorem k_243_122 : cd 243 122 = some (.iastore, 1) := by decide +kernel
theorem k_243_123 : cd 243 123 = some (.aload_n 0, 1) := by decide +kernel
theorem k_243_124 : cd 243 124 = some (.getfield 90, 3) := by decide +kernel
theorem k_243_127 : cd 243 127 = some (.iconst 5, 1) := by decide +kernel
theorem k_243_128 : cd 243 128 = some (.aload_n 0, 1) := by decide +kernel
theorem k_243_129 : cd 243 129 = some (.iload_n 3, 1) := by decide +kernel
theorem k_243_130 : cd 243 130 = some (.invokevirtual 331, 3) := by decide +kernel
theorem k_243_133 : cd 243 133 = some (.invokestatic 334, 3) := by decide +kernel
theorem k_243_136 : cd 243 136 = some (.iastore, 1) := by decide +kernel
theorem k_243_137 : cd 243 137 = some (.aload_n 0, 1) := by decide +kernel
theorem k_243_138 : cd 243 138 = some (.aload_n 0, 1) := by decide +kernel
theorem k_243_139 : cd 243 139 = some (.getfield 61, 3) := by decide +kernel
theorem k_243_142 : cd 243 142 = some (.aload_n 0, 1) := by decide +kernel
theorem k_243_143 : cd 243 143 = some (.getfield 44, 3) := by decide +kernel
theorem k_243_146 : cd 243 146 = some (.iconst 3, 1) := by decide +kernel
theorem k_243_147 : cd 243 147 = some (.iaload, 1) := by decide +kernel
theorem k_243_148 : cd 243 148 = some (.invokevirtual 337, 3) := by decide +kernel
theorem k_243_151 : cd 243 151 = some (.ifCond .le 7, 3) := by decide +kernel
theorem k_243_154 : cd 243 154 = some (.iconst 1, 1) := by decide +kernel
theorem k_243_155 : cd 243 155 = some (.goto 4, 3) := by decide +kernel
theorem k_243_158 : cd 243 158 = some (.iconst 0, 1) := by decide +kernel
theorem k_243_159 : cd 243 159 = some (.ireturn, 1) := by decide +kernel
theorem po_243 : po 243 = 9 := rfl
theorem M_243  {x0 : Int32} {x1 : Int32} {σ : pS} {ρ : Nat → Nat → Option Nat} (e : gR σ = ρ) (hL : LayR ρ) : Le
  (gd (inb x1 12) (if x0 = (gI σ 75 (ix x1)) then some (1, .int (ι 0), σ) else gd (inb x0 8) (bI (pcall 236 [.int (gI σ 78 (ix x0)), .int (gI σ 75 (ix x1))] σ) fun r1 σ1 => if r1 = (ι 0) then some (1, .int (ι 0), σ1) else bI (pcall 236 [.int (gI σ1 61 36), .int x0] σ1) fun r2 σ2 => if r2 = (ι 0) then if ¬ (gI σ2 65 3) = (ι 0) then gd (inb x1 12) (bI (pcall 244 [.ref 61, .int x0, .int x1] (sI (sI σ2 80 0 (gI σ2 76 (ix x1))) 80 1 (gI (sI σ2 80 0 (gI σ2 76 (ix x1))) 61 31))) fun r3 σ3 => gd (inb x0 16) (bI (pcall 246 [.ref 61, .int x0] (sI (sI σ3 80 2 r3) 80 3 (gI (sI σ3 80 2 r3) 66 (ix x0)))) fun r4 σ4 => bI (pcall 247 [.int r4] σ4) fun r5 σ5 => bI (pcall 246 [.ref 61, .int (gI σ 75 (ix x1))] (sI σ5 80 4 r5)) fun r6 σ6 => bI (pcall 247 [.int r6] σ6) fun r7 σ7 => bI (pcall 248 [.ref 61, .ref 71, .int (gI (sI σ7 80 5 r7) 65 3)] (sI σ7 80 5 r7)) fun r8 σ8 => if r8 ≤ (ι 0) then some (1, .int (ι 0), σ8) else some (1, .int (ι 1), σ8))) else bI (pcall 244 [.ref 61, .int x0, .int x1] σ2) fun r9 σ9 => if r9 < (ι 5) then some (1, .int (ι 0), σ9) else some (1, .int (ι 1), σ9) else some (1, .int (ι 0), σ2))))
  (pcall 243 [.ref 61, .int x0, .int x1] σ) := by
  show Le _ (den 243 0 0 [.ref 61, .int x0, .int x1, .retAddr 0] [] σ)
  exact r_aload_n k_243_0 rfl rfl
    (r_getR k_243_1 rfl po_243 rfl rfl rfl rfl (gRat e (LayR.at hL (i := 76) rfl))
    (r_iload_n k_243_4 rfl rfl
    (r_gd fun g => r_iald k_243_5 rfl rfl g
    (r_istore_n k_243_6 rfl rfl rfl
    (r_iload_n k_243_7 rfl rfl
    (r_iload_n k_243_8 rfl rfl
    (r_icmp (tgt := 36) k_243_9 rfl rfl cop_eq
    (r_iconst k_243_36 rfl rfl
    (r_ret k_243_37 rfl rfl))
    (r_aload_n k_243_12 rfl rfl
    (r_getR k_243_13 rfl po_243 rfl rfl rfl rfl (gRat e (LayR.at hL (i := 79) rfl))
    (r_iload_n k_243_16 rfl rfl
    (r_gd fun g => r_iald k_243_17 rfl rfl g
    (r_iload_n k_243_18 rfl rfl
    (r_callI (q_stat (rest := []) (av := [.int (gI σ 78 (ix x0)), .int (gI σ 75 (ix x1))]) k_243_19 po_243 rfl (by decide) rfl rfl rfl rfl) (lvq (j := 0) rfl (by decide +kernel)) rfl rfl (fun r1 σ1 h1 => r_if (tgt := 36) k_243_22 rfl rfl cop_eq
    (r_iconst k_243_36 rfl rfl
    (r_ret k_243_37 rfl rfl))
    (r_aload_n k_243_25 rfl rfl
    (r_getI k_243_26 rfl po_243 rfl rfl rfl rfl
    (r_iload_n k_243_29 rfl rfl
    (r_callI (q_stat (rest := []) (av := [.int (gI σ1 61 36), .int x0]) k_243_30 po_243 rfl (by decide) rfl rfl rfl rfl) (lvq (j := 0) rfl (by decide +kernel)) rfl rfl (fun r2 σ2 h2 => r_if (tgt := 38) k_243_33 rfl rfl cop_eq
    (r_aload_n k_243_38 rfl rfl
    (r_getR k_243_39 rfl po_243 rfl rfl rfl rfl (gRat (eC rfl h2 (eC rfl h1 e)) (LayR.at hL (i := 66) rfl))
    (r_iconst k_243_42 rfl rfl
    (r_iald k_243_43 rfl rfl (by decide)
    (r_if (tgt := 63) k_243_44 rfl rfl cop_ne
    (r_aload_n k_243_63 rfl rfl
    (r_getR k_243_64 rfl po_243 rfl rfl rfl rfl (gRat (eC rfl h2 (eC rfl h1 e)) (LayR.at hL (i := 81) rfl))
    (r_iconst k_243_67 rfl rfl
    (r_aload_n k_243_68 rfl rfl
    (r_getR k_243_69 rfl po_243 rfl rfl rfl rfl (gRat (eC rfl h2 (eC rfl h1 e)) (LayR.at hL (i := 77) rfl))
    (r_iload_n k_243_72 rfl rfl
    (r_gd fun g => r_iald k_243_73 rfl rfl g
    (r_iast k_243_74 rfl rfl (by decide)
    (r_aload_n k_243_75 rfl rfl
    (r_getR k_243_76 rfl po_243 rfl rfl rfl rfl (gRat (eI (eC rfl h2 (eC rfl h1 e))) (LayR.at hL (i := 81) rfl))
    (r_iconst k_243_79 rfl rfl
    (r_aload_n k_243_80 rfl rfl
    (r_getI k_243_81 rfl po_243 rfl rfl rfl rfl
    (r_iast k_243_84 rfl rfl (by decide)
    (r_aload_n k_243_85 rfl rfl
    (r_getR k_243_86 rfl po_243 rfl rfl rfl rfl (gRat (eI (eI (eC rfl h2 (eC rfl h1 e)))) (LayR.at hL (i := 81) rfl))
    (r_iconst k_243_89 rfl rfl
    (r_aload_n k_243_90 rfl rfl
    (r_iload_n k_243_91 rfl rfl
    (r_iload_n k_243_92 rfl rfl
    (r_callI (q_virt (rest := [.int (ι 2), .ref 80]) (as := [.int x0, .int x1]) k_243_93 po_243 rfl rfl rfl (rcvO rfl rfl rfl) rfl rfl) (lvq (j := 0) rfl (by decide +kernel)) rfl rfl (fun r3 σ3 h3 => r_iast k_243_96 rfl rfl (by decide)
    (r_aload_n k_243_97 rfl rfl
    (r_getR k_243_98 rfl po_243 rfl rfl rfl rfl (gRat (eI (eC rfl h3 (eI (eI (eC rfl h2 (eC rfl h1 e)))))) (LayR.at hL (i := 81) rfl))
    (r_iconst k_243_101 rfl rfl
    (r_aload_n k_243_102 rfl rfl
    (r_getR k_243_103 rfl po_243 rfl rfl rfl rfl (gRat (eI (eC rfl h3 (eI (eI (eC rfl h2 (eC rfl h1 e)))))) (LayR.at hL (i := 67) rfl))
    (r_iload_n k_243_106 rfl rfl
    (r_gd fun g => r_iald k_243_107 rfl rfl g
    (r_iast k_243_108 rfl rfl (by decide)
    (r_aload_n k_243_109 rfl rfl
    (r_getR k_243_110 rfl po_243 rfl rfl rfl rfl (gRat (eI (eI (eC rfl h3 (eI (eI (eC rfl h2 (eC rfl h1 e))))))) (LayR.at hL (i := 81) rfl))
    (r_iconst k_243_113 rfl rfl
    (r_aload_n k_243_114 rfl rfl
    (r_iload_n k_243_115 rfl rfl
    (r_callI (q_virt (rest := [.int (ι 4), .ref 80]) (as := [.int x0]) k_243_116 po_243 rfl rfl rfl (rcvO rfl rfl rfl) rfl rfl) (lvq (j := 0) rfl (by decide +kernel)) rfl rfl (fun r4 σ4 h4 => r_callI (q_stat (rest := [.int (ι 4), .ref 80]) (av := [.int r4]) k_243_119 po_243 rfl (by decide) rfl rfl rfl rfl) (lvq (j := 0) rfl (by decide +kernel)) rfl rfl (fun r5 σ5 h5 => r_iast k_243_122 rfl rfl (by decide)
    (r_aload_n k_243_123 rfl rfl
    (r_getR k_243_124 rfl po_243 rfl rfl rfl rfl (gRat (eI (eC rfl h5 (eC rfl h4 (eI (eI (eC rfl h3 (eI (eI (eC rfl h2 (eC rfl h1 e)))))))))) (LayR.at hL (i := 81) rfl))
    (r_iconst k_243_127 rfl rfl
    (r_aload_n k_243_128 rfl rfl
    (r_iload_n k_243_129 rfl rfl
    (r_callI (q_virt (rest := [.int (ι 5), .ref 80]) (as := [.int (gI σ 75 (ix x1))]) k_243_130 po_243 rfl rfl rfl (rcvO rfl rfl rfl) rfl rfl) (lvq (j := 0) rfl (by decide +kernel)) rfl rfl (fun r6 σ6 h6 => r_callI (q_stat (rest := [.int (ι 5), .ref 80]) (av := [.int r6]) k_243_133 po_243 rfl (by decide) rfl rfl rfl rfl) (lvq (j := 0) rfl (by decide +kernel)) rfl rfl (fun r7 σ7 h7 => r_iast k_243_136 rfl rfl (by decide)
    (r_aload_n k_243_137 rfl rfl
    (r_aload_n k_243_138 rfl rfl
    (r_getR k_243_139 rfl po_243 rfl rfl rfl rfl (gRat (eI (eC rfl h7 (eC rfl h6 (eI (eC rfl h5 (eC rfl h4 (eI (eI (eC rfl h3 (eI (eI (eC rfl h2 (eC rfl h1 e))))))))))))) (LayR.at hL (i := 72) rfl))
    (r_aload_n k_243_142 rfl rfl
    (r_getR k_243_143 rfl po_243 rfl rfl rfl rfl (gRat (eI (eC rfl h7 (eC rfl h6 (eI (eC rfl h5 (eC rfl h4 (eI (eI (eC rfl h3 (eI (eI (eC rfl h2 (eC rfl h1 e))))))))))))) (LayR.at hL (i := 66) rfl))
    (r_iconst k_243_146 rfl rfl
    (r_iald k_243_147 rfl rfl (by decide)
    (r_callI (q_virt (rest := []) (as := [.ref 71, .int (gI (sI σ7 80 5 r7) 65 3)]) k_243_148 po_243 rfl rfl rfl (rcvO rfl rfl rfl) rfl rfl) (lvq (j := 0) rfl (by decide +kernel)) rfl rfl (fun r8 σ8 h8 => r_if (tgt := 158) k_243_151 rfl rfl cop_le
    (r_iconst k_243_158 rfl rfl
    (r_ret k_243_159 rfl rfl))
    (r_iconst k_243_154 rfl rfl
    (r_goto (tgt := 159) k_243_155 rfl (r_ret k_243_159 rfl rfl))))))))))))))))))))))))))))))))))))))))))))))))))))))))))
    (r_aload_n k_243_47 rfl rfl
    (r_iload_n k_243_48 rfl rfl
    (r_iload_n k_243_49 rfl rfl
    (r_callI (q_virt (rest := []) (as := [.int x0, .int x1]) k_243_50 po_243 rfl rfl rfl (rcvO rfl rfl rfl) rfl rfl) (lvq (j := 0) rfl (by decide +kernel)) rfl rfl (fun r9 σ9 h9 => r_iconst k_243_53 rfl rfl
    (r_icmp (tgt := 61) k_243_54 rfl rfl cop_lt
    (r_iconst k_243_61 rfl rfl
    (r_ret k_243_62 rfl rfl))
    (r_iconst k_243_57 rfl rfl
    (r_goto (tgt := 62) k_243_58 rfl (r_ret k_243_62 rfl rfl))))))))))))))
    (r_iconst k_243_36 rfl rfl
    (r_ret k_243_37 rfl rfl)))))))))))))))))))))
/-! ===== 244 HedgeWantsModel.lookOf ===== -/
theorem k_244_0 : cd 244 0 = some (.aload_n 0, 1) := by decide +kernel
theorem k_244_1 : cd 244 1 = some (.getfield 77, 3) := by decide +kernel
theorem k_244_4 : cd 244 4 = some (.iload_n 2, 1) := by decide +kernel
theorem k_244_5 : cd 244 5 = some (.iaload, 1) := by decide +kernel
theorem k_244_6 : cd 244 6 = some (.iload_n 1, 1) := by decide +kernel
theorem k_244_7 : cd 244 7 = some (.if_icmp .ne 12, 3) := by decide +kernel
theorem k_244_10 : cd 244 10 = some (.aload_n 0, 1) := by decide +kernel
theorem k_244_11 : cd 244 11 = some (.iload_n 1, 1) := by decide +kernel
theorem k_244_12 : cd 244 12 = some (.iload_n 2, 1) := by decide +kernel
theorem k_244_13 : cd 244 13 = some (.invokevirtual 319, 3) := by decide +kernel
theorem k_244_16 : cd 244 16 = some (.goto 20, 3) := by decide +kernel
theorem k_244_19 : cd 244 19 = some (.iconst 0, 1) := by decide +kernel
theorem k_244_20 : cd 244 20 = some (.aload_n 0, 1) := by decide +kernel
theorem k_244_21 : cd 244 21 = some (.iload_n 1, 1) := by decide +kernel
theorem k_244_22 : cd 244 22 = some (.iload_n 2, 1) := by decide +kernel
theorem k_244_23 : cd 244 23 = some (.invokevirtual 319, 3) := by decide +kernel
theorem k_244_26 : cd 244 26 = some (.aload_n 0, 1) := by decide +kernel
theorem k_244_27 : cd 244 27 = some (.getfield 80, 3) := by decide +kernel
theorem k_244_30 : cd 244 30 = some (.iload_n 2, 1) := by decide +kernel
theorem k_244_31 : cd 244 31 = some (.iaload, 1) := by decide +kernel
theorem k_244_32 : cd 244 32 = some (.isub, 1) := by decide +kernel
theorem k_244_33 : cd 244 33 = some (.invokestatic 322, 3) := by decide +kernel
theorem k_244_36 : cd 244 36 = some (.ireturn, 1) := by decide +kernel
theorem po_244 : po 244 = 9 := rfl
theorem M_244  {x0 : Int32} {x1 : Int32} {σ : pS} {ρ : Nat → Nat → Option Nat} (e : gR σ = ρ) (hL : LayR ρ) : Le
  (gd (inb x1 12) (if ¬ (gI σ 75 (ix x1)) = x0 then bI (pcall 245 [.ref 61, .int x0, .int x1] σ) fun r1 σ1 => gd (inb x1 12) (some (1, .int (imax (ι 0) (r1 - (gI σ1 76 (ix x1)))), σ1)) else bI (pcall 245 [.ref 61, .int x0, .int x1] σ) fun r2 σ2 => some (1, .int r2, σ2)))
  (pcall 244 [.ref 61, .int x0, .int x1] σ) := by
  show Le _ (den 244 0 0 [.ref 61, .int x0, .int x1] [] σ)
  exact r_aload_n k_244_0 rfl rfl
    (r_getR k_244_1 rfl po_244 rfl rfl rfl rfl (gRat e (LayR.at hL (i := 76) rfl))
    (r_iload_n k_244_4 rfl rfl
    (r_gd fun g => r_iald k_244_5 rfl rfl g
    (r_iload_n k_244_6 rfl rfl
    (r_icmp (tgt := 19) k_244_7 rfl rfl cop_ne
    (r_iconst k_244_19 rfl rfl
    (r_aload_n k_244_20 rfl rfl
    (r_iload_n k_244_21 rfl rfl
    (r_iload_n k_244_22 rfl rfl
    (r_callI (q_virt (rest := [.int (ι 0)]) (as := [.int x0, .int x1]) k_244_23 po_244 rfl rfl rfl (rcvO rfl rfl rfl) rfl rfl) (lvq (j := 0) rfl (by decide +kernel)) rfl rfl (fun r1 σ1 h1 => r_aload_n k_244_26 rfl rfl
    (r_getR k_244_27 rfl po_244 rfl rfl rfl rfl (gRat (eC rfl h1 e) (LayR.at hL (i := 77) rfl))
    (r_iload_n k_244_30 rfl rfl
    (r_gd fun g => r_iald k_244_31 rfl rfl g
    (r_isub k_244_32 rfl
    (r_imax k_244_33 rfl po_244 rfl rfl
    (r_ret k_244_36 rfl rfl))))))))))))
    (r_aload_n k_244_10 rfl rfl
    (r_iload_n k_244_11 rfl rfl
    (r_iload_n k_244_12 rfl rfl
    (r_callI (q_virt (rest := []) (as := [.int x0, .int x1]) k_244_13 po_244 rfl rfl rfl (rcvO rfl rfl rfl) rfl rfl) (lvq (j := 0) rfl (by decide +kernel)) rfl rfl (fun r2 σ2 h2 => r_goto (tgt := 36) k_244_16 rfl (r_ret k_244_36 rfl rfl)))))))))))
/-! ===== 245 HedgeWantsModel.worthOf ===== -/
theorem k_245_0 : cd 245 0 = some (.aload_n 0, 1) := by decide +kernel
theorem k_245_1 : cd 245 1 = some (.getfield 82, 3) := by decide +kernel
theorem k_245_4 : cd 245 4 = some (.bipush 12, 2) := by decide +kernel
theorem k_245_6 : cd 245 6 = some (.iload_n 1, 1) := by decide +kernel
theorem k_245_7 : cd 245 7 = some (.imul, 1) := by decide +kernel
theorem k_245_8 : cd 245 8 = some (.iload_n 2, 1) := by decide +kernel
theorem k_245_9 : cd 245 9 = some (.iadd, 1) := by decide +kernel
theorem k_245_10 : cd 245 10 = some (.iaload, 1) := by decide +kernel
theorem k_245_11 : cd 245 11 = some (.ireturn, 1) := by decide +kernel
theorem po_245 : po 245 = 9 := rfl
theorem M_245  {x0 : Int32} {x1 : Int32} {σ : pS} {ρ : Nat → Nat → Option Nat} (e : gR σ = ρ) (hL : LayR ρ) : Le
  (gd (inb (((ι 12) * x0) + x1) 96) (some (1, .int (gI σ 77 (ix (((ι 12) * x0) + x1))), σ)))
  (pcall 245 [.ref 61, .int x0, .int x1] σ) := by
  show Le _ (den 245 0 0 [.ref 61, .int x0, .int x1] [] σ)
  exact r_aload_n k_245_0 rfl rfl
    (r_getR k_245_1 rfl po_245 rfl rfl rfl rfl (gRat e (LayR.at hL (i := 78) rfl))
    (r_bipush k_245_4 rfl rfl
    (r_iload_n k_245_6 rfl rfl
    (r_imul k_245_7 rfl
    (r_iload_n k_245_8 rfl rfl
    (r_iadd k_245_9 rfl
    (r_gd fun g => r_iald k_245_10 rfl rfl g
    (r_ret k_245_11 rfl rfl))))))))
/-! ===== 246 HedgeWantsModel.thingsOf ===== -/
theorem k_246_0 : cd 246 0 = some (.iconst 0, 1) := by decide +kernel
theorem k_246_1 : cd 246 1 = some (.istore_n 2, 1) := by decide +kernel
theorem k_246_2 : cd 246 2 = some (.iconst 0, 1) := by decide +kernel
theorem k_246_3 : cd 246 3 = some (.istore_n 3, 1) := by decide +kernel
theorem k_246_4 : cd 246 4 = some (.iload_n 3, 1) := by decide +kernel
theorem k_246_5 : cd 246 5 = some (.aload_n 0, 1) := by decide +kernel
theorem k_246_6 : cd 246 6 = some (.getfield 44, 3) := by decide +kernel
theorem k_246_9 : cd 246 9 = some (.iconst 1, 1) := by decide +kernel
theorem k_246_10 : cd 246 10 = some (.iaload, 1) := by decide +kernel
theorem k_246_11 : cd 246 11 = some (.if_icmp .ge 29, 3) := by decide +kernel
theorem k_246_14 : cd 246 14 = some (.iload_n 2, 1) := by decide +kernel
theorem k_246_15 : cd 246 15 = some (.aload_n 0, 1) := by decide +kernel
theorem k_246_16 : cd 246 16 = some (.getfield 77, 3) := by decide +kernel
theorem k_246_19 : cd 246 19 = some (.iload_n 3, 1) := by decide +kernel
theorem k_246_20 : cd 246 20 = some (.iaload, 1) := by decide +kernel
theorem k_246_21 : cd 246 21 = some (.iload_n 1, 1) := by decide +kernel
theorem k_246_22 : cd 246 22 = some (.if_icmp .ne 9, 3) := by decide +kernel
theorem k_246_25 : cd 246 25 = some (.iconst 1, 1) := by decide +kernel
theorem k_246_26 : cd 246 26 = some (.iload_n 3, 1) := by decide +kernel
theorem k_246_27 : cd 246 27 = some (.ishl, 1) := by decide +kernel
theorem k_246_28 : cd 246 28 = some (.goto 4, 3) := by decide +kernel
theorem k_246_31 : cd 246 31 = some (.iconst 0, 1) := by decide +kernel
theorem k_246_32 : cd 246 32 = some (.ior, 1) := by decide +kernel
theorem k_246_33 : cd 246 33 = some (.istore_n 2, 1) := by decide +kernel
theorem k_246_34 : cd 246 34 = some (.iinc 3 1, 3) := by decide +kernel
theorem k_246_37 : cd 246 37 = some (.goto (-33), 3) := by decide +kernel
theorem k_246_40 : cd 246 40 = some (.iload_n 2, 1) := by decide +kernel
theorem k_246_41 : cd 246 41 = some (.ireturn, 1) := by decide +kernel
theorem po_246 : po 246 = 9 := rfl
noncomputable def C_246_4  (x1 : Int32) (x2 : Int32) (x3 : Int32) (σ : pS) : Option pZ := den 246 0 4 [.ref 61, .int x1, .int x2, .int x3] [] σ
theorem T_246_4  {x1 : Int32} {x2 : Int32} {x3 : Int32}  {σ : pS} {ρ : Nat → Nat → Option Nat} (e : gR σ = ρ) (hL : LayR ρ) : Le
  (if (gI σ 65 1) ≤ x3 then some (1, .int x2, σ) else gd (inb x3 12) (if ¬ (gI σ 75 (ix x3)) = x1 then C_246_4 x1 (x2 ||| (ι 0)) (x3 + (ι 1)) σ else C_246_4 x1 (x2 ||| (shl' (ι 1) x3)) (x3 + (ι 1)) σ))
  (C_246_4  x1 x2 x3 σ) := by
  unfold C_246_4
  exact r_iload_n k_246_4 rfl rfl
    (r_aload_n k_246_5 rfl rfl
    (r_getR k_246_6 rfl po_246 rfl rfl rfl rfl (gRat e (LayR.at hL (i := 66) rfl))
    (r_iconst k_246_9 rfl rfl
    (r_iald k_246_10 rfl rfl (by decide)
    (r_icmp (tgt := 40) k_246_11 rfl rfl cop_ge
    (r_iload_n k_246_40 rfl rfl
    (r_ret k_246_41 rfl rfl))
    (r_iload_n k_246_14 rfl rfl
    (r_aload_n k_246_15 rfl rfl
    (r_getR k_246_16 rfl po_246 rfl rfl rfl rfl (gRat e (LayR.at hL (i := 76) rfl))
    (r_iload_n k_246_19 rfl rfl
    (r_gd fun g => r_iald k_246_20 rfl rfl g
    (r_iload_n k_246_21 rfl rfl
    (r_icmp (tgt := 31) k_246_22 rfl rfl cop_ne
    (r_iconst k_246_31 rfl rfl
    (r_ior k_246_32 rfl
    (r_istore_n k_246_33 rfl rfl rfl
    (r_iinc k_246_34 rfl rfl rfl rfl
    (r_goto (tgt := 4) k_246_37 rfl (Le.rfl'))))))
    (r_iconst k_246_25 rfl rfl
    (r_iload_n k_246_26 rfl rfl
    (r_ishl k_246_27 rfl
    (r_goto (tgt := 32) k_246_28 rfl (r_ior k_246_32 rfl
    (r_istore_n k_246_33 rfl rfl rfl
    (r_iinc k_246_34 rfl rfl rfl rfl
    (r_goto (tgt := 4) k_246_37 rfl (Le.rfl')))))))))))))))))))))
theorem M_246  {x0 : Int32} {σ : pS} {ρ : Nat → Nat → Option Nat} (e : gR σ = ρ) (hL : LayR ρ) : Le
  (C_246_4 x0 (ι 0) (ι 0) σ)
  (pcall 246 [.ref 61, .int x0] σ) := by
  show Le _ (den 246 0 0 [.ref 61, .int x0, .retAddr 0, .retAddr 0] [] σ)
  exact r_iconst k_246_0 rfl rfl
    (r_istore_n k_246_1 rfl rfl rfl
    (r_iconst k_246_2 rfl rfl
    (r_istore_n k_246_3 rfl rfl rfl
    (Le.rfl'))))
/-! ===== 247 HedgeWantsModel.bitsOf ===== -/
theorem k_247_0 : cd 247 0 = some (.iconst 0, 1) := by decide +kernel
theorem k_247_1 : cd 247 1 = some (.istore_n 1, 1) := by decide +kernel
theorem k_247_2 : cd 247 2 = some (.iload_n 0, 1) := by decide +kernel
theorem k_247_3 : cd 247 3 = some (.istore_n 2, 1) := by decide +kernel
theorem k_247_4 : cd 247 4 = some (.iload_n 2, 1) := by decide +kernel
theorem k_247_5 : cd 247 5 = some (.ifCond .eq 15, 3) := by decide +kernel
theorem k_247_8 : cd 247 8 = some (.iinc 1 1, 3) := by decide +kernel
theorem k_247_11 : cd 247 11 = some (.iload_n 2, 1) := by decide +kernel
theorem k_247_12 : cd 247 12 = some (.iload_n 2, 1) := by decide +kernel
theorem k_247_13 : cd 247 13 = some (.iconst 1, 1) := by decide +kernel
theorem k_247_14 : cd 247 14 = some (.isub, 1) := by decide +kernel
theorem k_247_15 : cd 247 15 = some (.iand, 1) := by decide +kernel
theorem k_247_16 : cd 247 16 = some (.istore_n 2, 1) := by decide +kernel
theorem k_247_17 : cd 247 17 = some (.goto (-13), 3) := by decide +kernel
theorem k_247_20 : cd 247 20 = some (.iload_n 1, 1) := by decide +kernel
theorem k_247_21 : cd 247 21 = some (.ireturn, 1) := by decide +kernel
theorem po_247 : po 247 = 9 := rfl
noncomputable def C_247_4  (v0 : Value) (x1 : Int32) (x2 : Int32) (σ : pS) : Option pZ := den 247 0 4 [v0, .int x1, .int x2] [] σ
theorem T_247_4  {v0 : Value} {x1 : Int32} {x2 : Int32}  {σ : pS} {ρ : Nat → Nat → Option Nat} (e : gR σ = ρ) (hL : LayR ρ) : Le
  (if x2 = (ι 0) then some (1, .int x1, σ) else C_247_4 v0 (x1 + (ι 1)) (x2 &&& (x2 - (ι 1))) σ)
  (C_247_4  v0 x1 x2 σ) := by
  unfold C_247_4
  exact r_iload_n k_247_4 rfl rfl
    (r_if (tgt := 20) k_247_5 rfl rfl cop_eq
    (r_iload_n k_247_20 rfl rfl
    (r_ret k_247_21 rfl rfl))
    (r_iinc k_247_8 rfl rfl rfl rfl
    (r_iload_n k_247_11 rfl rfl
    (r_iload_n k_247_12 rfl rfl
    (r_iconst k_247_13 rfl rfl
    (r_isub k_247_14 rfl
    (r_iand k_247_15 rfl
    (r_istore_n k_247_16 rfl rfl rfl
    (r_goto (tgt := 4) k_247_17 rfl (Le.rfl'))))))))))
theorem M_247  {x0 : Int32} {σ : pS} {ρ : Nat → Nat → Option Nat} (e : gR σ = ρ) (hL : LayR ρ) : Le
  (C_247_4 (.int x0) (ι 0) x0 σ)
  (pcall 247 [.int x0] σ) := by
  show Le _ (den 247 0 0 [.int x0, .retAddr 0, .retAddr 0] [] σ)
  exact r_iconst k_247_0 rfl rfl
    (r_istore_n k_247_1 rfl rfl rfl
    (r_iload_n k_247_2 rfl rfl
    (r_istore_n k_247_3 rfl rfl rfl
    (Le.rfl'))))
/-! ===== 248 HedgeWantsModel.valueNow ===== -/
theorem k_248_0 : cd 248 0 = some (.iconst 0, 1) := by decide +kernel
theorem k_248_1 : cd 248 1 = some (.istore_n 3, 1) := by decide +kernel
theorem k_248_2 : cd 248 2 = some (.iconst 0, 1) := by decide +kernel
theorem k_248_3 : cd 248 3 = some (.istore 4, 2) := by decide +kernel
theorem k_248_5 : cd 248 5 = some (.iload 4, 2) := by decide +kernel
theorem k_248_7 : cd 248 7 = some (.iload_n 2, 1) := by decide +kernel
theorem k_248_8 : cd 248 8 = some (.if_icmp .ge 117, 3) := by decide +kernel
theorem k_248_11 : cd 248 11 = some (.aload_n 1, 1) := by decide +kernel
theorem k_248_12 : cd 248 12 = some (.iload 4, 2) := by decide +kernel
theorem k_248_14 : cd 248 14 = some (.iaload, 1) := by decide +kernel
theorem k_248_15 : cd 248 15 = some (.istore 5, 2) := by decide +kernel
theorem k_248_17 : cd 248 17 = some (.iload 5, 2) := by decide +kernel
theorem k_248_19 : cd 248 19 = some (.bipush (-20), 2) := by decide +kernel
theorem k_248_21 : cd 248 21 = some (.if_icmp .le 34, 3) := by decide +kernel
theorem k_248_24 : cd 248 24 = some (.aload_n 0, 1) := by decide +kernel
theorem k_248_25 : cd 248 25 = some (.getfield 93, 3) := by decide +kernel
theorem k_248_28 : cd 248 28 = some (.iload_n 3, 1) := by decide +kernel
theorem k_248_29 : cd 248 29 = some (.iload 5, 2) := by decide +kernel
theorem k_248_31 : cd 248 31 = some (.ifCond .lt 8, 3) := by decide +kernel
theorem k_248_34 : cd 248 34 = some (.iload 5, 2) := by decide +kernel
theorem k_248_36 : cd 248 36 = some (.goto 12, 3) := by decide +kernel
theorem k_248_39 : cd 248 39 = some (.aload_n 0, 1) := by decide +kernel
theorem k_248_40 : cd 248 40 = some (.getfield 90, 3) := by decide +kernel
theorem k_248_43 : cd 248 43 = some (.iconst (-1), 1) := by decide +kernel
theorem k_248_44 : cd 248 44 = some (.iload 5, 2) := by decide +kernel
theorem k_248_46 : cd 248 46 = some (.isub, 1) := by decide +kernel
theorem k_248_47 : cd 248 47 = some (.iaload, 1) := by decide +kernel
theorem k_248_48 : cd 248 48 = some (.iastore, 1) := by decide +kernel
theorem k_248_49 : cd 248 49 = some (.iinc 3 1, 3) := by decide +kernel
theorem k_248_52 : cd 248 52 = some (.goto 67, 3) := by decide +kernel
theorem k_248_55 : cd 248 55 = some (.iload 5, 2) := by decide +kernel
theorem k_248_57 : cd 248 57 = some (.bipush (-28), 2) := by decide +kernel
theorem k_248_59 : cd 248 59 = some (.if_icmp .ne 30, 3) := by decide +kernel
theorem k_248_62 : cd 248 62 = some (.aload_n 0, 1) := by decide +kernel
theorem k_248_63 : cd 248 63 = some (.getfield 93, 3) := by decide +kernel
theorem k_248_66 : cd 248 66 = some (.iload_n 3, 1) := by decide +kernel
theorem k_248_67 : cd 248 67 = some (.iconst 1, 1) := by decide +kernel
theorem k_248_68 : cd 248 68 = some (.isub, 1) := by decide +kernel
theorem k_248_69 : cd 248 69 = some (.aload_n 0, 1) := by decide +kernel
theorem k_248_70 : cd 248 70 = some (.getfield 93, 3) := by decide +kernel
theorem k_248_73 : cd 248 73 = some (.iload_n 3, 1) := by decide +kernel
theorem k_248_74 : cd 248 74 = some (.iconst 1, 1) := by decide +kernel
theorem k_248_75 : cd 248 75 = some (.isub, 1) := by decide +kernel
theorem k_248_76 : cd 248 76 = some (.iaload, 1) := by decide +kernel
theorem k_248_77 : cd 248 77 = some (.ifCond .eq 7, 3) := by decide +kernel
theorem k_248_80 : cd 248 80 = some (.iconst 0, 1) := by decide +kernel
theorem k_248_81 : cd 248 81 = some (.goto 4, 3) := by decide +kernel
theorem k_248_84 : cd 248 84 = some (.iconst 1, 1) := by decide +kernel
theorem k_248_85 : cd 248 85 = some (.iastore, 1) := by decide +kernel
theorem k_248_86 : cd 248 86 = some (.goto 33, 3) := by decide +kernel
theorem k_248_89 : cd 248 89 = some (.iinc 3 (-1), 3) := by decide +kernel
theorem k_248_92 : cd 248 92 = some (.aload_n 0, 1) := by decide +kernel
theorem k_248_93 : cd 248 93 = some (.getfield 93, 3) := by decide +kernel
theorem k_248_96 : cd 248 96 = some (.iload_n 3, 1) := by decide +kernel
theorem k_248_97 : cd 248 97 = some (.iconst 1, 1) := by decide +kernel
theorem k_248_98 : cd 248 98 = some (.isub, 1) := by decide +kernel
theorem k_248_99 : cd 248 99 = some (.iload 5, 2) := by decide +kernel
theorem k_248_101 : cd 248 101 = some (.aload_n 0, 1) := by decide +kernel
theorem k_248_102 : cd 248 102 = some (.getfield 93, 3) := by decide +kernel
theorem k_248_105 : cd 248 105 = some (.iload_n 3, 1) := by decide +kernel
theorem k_248_106 : cd 248 106 = some (.iconst 1, 1) := by decide +kernel
theorem k_248_107 : cd 248 107 = some (.isub, 1) := by decide +kernel
theorem k_248_108 : cd 248 108 = some (.iaload, 1) := by decide +kernel
theorem k_248_109 : cd 248 109 = some (.aload_n 0, 1) := by decide +kernel
theorem k_248_110 : cd 248 110 = some (.getfield 93, 3) := by decide +kernel
theorem k_248_113 : cd 248 113 = some (.iload_n 3, 1) := by decide +kernel
theorem k_248_114 : cd 248 114 = some (.iaload, 1) := by decide +kernel
theorem k_248_115 : cd 248 115 = some (.invokestatic 315, 3) := by decide +kernel
theorem k_248_118 : cd 248 118 = some (.iastore, 1) := by decide +kernel
theorem k_248_119 : cd 248 119 = some (.iinc 4 1, 3) := by decide +kernel
theorem k_248_122 : cd 248 122 = some (.goto (-117), 3) := by decide +kernel
theorem k_248_125 : cd 248 125 = some (.aload_n 0, 1) := by decide +kernel
theorem k_248_126 : cd 248 126 = some (.getfield 93, 3) := by decide +kernel
theorem k_248_129 : cd 248 129 = some (.iconst 0, 1) := by decide +kernel
theorem k_248_130 : cd 248 130 = some (.iaload, 1) := by decide +kernel
theorem k_248_131 : cd 248 131 = some (.ireturn, 1) := by decide +kernel
theorem po_248 : po 248 = 9 := rfl
noncomputable def C_248_5 (a0 n0 : Nat) (x2 : Int32) (x3 : Int32) (x4 : Int32) (v5 : Value) (σ : pS) : Option pZ := den 248 0 5 [.ref 61, .ref a0, .int x2, .int x3, .int x4, v5] [] σ
theorem T_248_5 {a0 n0 : Nat} (ha0 : kd a0 = (100, n0)) {x2 : Int32} {x3 : Int32} {x4 : Int32} {v5 : Value}  {σ : pS} {ρ : Nat → Nat → Option Nat} (e : gR σ = ρ) (hL : LayR ρ) : Le
  (if x2 ≤ x4 then some (1, .int (gI σ 81 0), σ) else gd (inb x4 n0) (if (gI σ a0 (ix x4)) ≤ (ν 20) then if ¬ (gI σ a0 (ix x4)) = (ν 28) then gd (inb ((x3 + (ν 1)) - (ι 1)) 64) (gd (inb (x3 + (ν 1)) 64) (bI (pcall 249 [.int (gI σ a0 (ix x4)), .int (gI σ 81 (ix ((x3 + (ν 1)) - (ι 1)))), .int (gI σ 81 (ix (x3 + (ν 1))))] σ) fun r1 σ1 => gd (inb ((x3 + (ν 1)) - (ι 1)) 64) (C_248_5 a0 n0 x2 (x3 + (ν 1)) (x4 + (ι 1)) (.int (gI σ a0 (ix x4))) (sI σ1 81 (ix ((x3 + (ν 1)) - (ι 1))) r1)))) else gd (inb (x3 - (ι 1)) 64) (if (gI σ 81 (ix (x3 - (ι 1)))) = (ι 0) then gd (inb (x3 - (ι 1)) 64) (C_248_5 a0 n0 x2 x3 (x4 + (ι 1)) (.int (gI σ a0 (ix x4))) (sI σ 81 (ix (x3 - (ι 1))) (ι 1))) else gd (inb (x3 - (ι 1)) 64) (C_248_5 a0 n0 x2 x3 (x4 + (ι 1)) (.int (gI σ a0 (ix x4))) (sI σ 81 (ix (x3 - (ι 1))) (ι 0)))) else if (gI σ a0 (ix x4)) < (ι 0) then gd (inb ((ν 1) - (gI σ a0 (ix x4))) 6) (gd (inb x3 64) (C_248_5 a0 n0 x2 (x3 + (ι 1)) (x4 + (ι 1)) (.int (gI σ a0 (ix x4))) (sI σ 81 (ix x3) (gI σ 80 (ix ((ν 1) - (gI σ a0 (ix x4)))))))) else gd (inb x3 64) (C_248_5 a0 n0 x2 (x3 + (ι 1)) (x4 + (ι 1)) (.int (gI σ a0 (ix x4))) (sI σ 81 (ix x3) (gI σ a0 (ix x4))))))
  (C_248_5 a0 n0 x2 x3 x4 v5 σ) := by
  unfold C_248_5
  exact r_iload k_248_5 rfl rfl
    (r_iload_n k_248_7 rfl rfl
    (r_icmp (tgt := 125) k_248_8 rfl rfl cop_ge
    (r_aload_n k_248_125 rfl rfl
    (r_getR k_248_126 rfl po_248 rfl rfl rfl rfl (gRat e (LayR.at hL (i := 82) rfl))
    (r_iconst k_248_129 rfl rfl
    (r_iald k_248_130 rfl rfl (by decide)
    (r_ret k_248_131 rfl rfl)))))
    (r_aload_n k_248_11 rfl rfl
    (r_iload k_248_12 rfl rfl
    (r_gd fun g => r_iald k_248_14 rfl ha0 g
    (r_istore k_248_15 rfl rfl rfl
    (r_iload k_248_17 rfl rfl
    (r_bipush k_248_19 rfl rfl
    (r_icmp (tgt := 55) k_248_21 rfl rfl cop_le
    (r_iload k_248_55 rfl rfl
    (r_bipush k_248_57 rfl rfl
    (r_icmp (tgt := 89) k_248_59 rfl rfl cop_ne
    (r_iinc k_248_89 rfl rfl rfl rfl
    (r_aload_n k_248_92 rfl rfl
    (r_getR k_248_93 rfl po_248 rfl rfl rfl rfl (gRat e (LayR.at hL (i := 82) rfl))
    (r_iload_n k_248_96 rfl rfl
    (r_iconst k_248_97 rfl rfl
    (r_isub k_248_98 rfl
    (r_iload k_248_99 rfl rfl
    (r_aload_n k_248_101 rfl rfl
    (r_getR k_248_102 rfl po_248 rfl rfl rfl rfl (gRat e (LayR.at hL (i := 82) rfl))
    (r_iload_n k_248_105 rfl rfl
    (r_iconst k_248_106 rfl rfl
    (r_isub k_248_107 rfl
    (r_gd fun g => r_iald k_248_108 rfl rfl g
    (r_aload_n k_248_109 rfl rfl
    (r_getR k_248_110 rfl po_248 rfl rfl rfl rfl (gRat e (LayR.at hL (i := 82) rfl))
    (r_iload_n k_248_113 rfl rfl
    (r_gd fun g => r_iald k_248_114 rfl rfl g
    (r_callI (q_stat (rest := [.int ((x3 + (ν 1)) - (ι 1)), .ref 81]) (av := [.int (gI σ a0 (ix x4)), .int (gI σ 81 (ix ((x3 + (ν 1)) - (ι 1)))), .int (gI σ 81 (ix (x3 + (ν 1))))]) k_248_115 po_248 rfl (by decide) rfl rfl rfl rfl) (lvq (j := 0) rfl (by decide +kernel)) rfl rfl (fun r1 σ1 h1 => r_gd fun g => r_iast k_248_118 rfl rfl g
    (r_iinc k_248_119 rfl rfl rfl rfl
    (r_goto (tgt := 5) k_248_122 rfl (Le.rfl'))))))))))))))))))))))
    (r_aload_n k_248_62 rfl rfl
    (r_getR k_248_63 rfl po_248 rfl rfl rfl rfl (gRat e (LayR.at hL (i := 82) rfl))
    (r_iload_n k_248_66 rfl rfl
    (r_iconst k_248_67 rfl rfl
    (r_isub k_248_68 rfl
    (r_aload_n k_248_69 rfl rfl
    (r_getR k_248_70 rfl po_248 rfl rfl rfl rfl (gRat e (LayR.at hL (i := 82) rfl))
    (r_iload_n k_248_73 rfl rfl
    (r_iconst k_248_74 rfl rfl
    (r_isub k_248_75 rfl
    (r_gd fun g => r_iald k_248_76 rfl rfl g
    (r_if (tgt := 84) k_248_77 rfl rfl cop_eq
    (r_iconst k_248_84 rfl rfl
    (r_gd fun g => r_iast k_248_85 rfl rfl g
    (r_goto (tgt := 119) k_248_86 rfl (r_iinc k_248_119 rfl rfl rfl rfl
    (r_goto (tgt := 5) k_248_122 rfl (Le.rfl'))))))
    (r_iconst k_248_80 rfl rfl
    (r_goto (tgt := 85) k_248_81 rfl (r_gd fun g => r_iast k_248_85 rfl rfl g
    (r_goto (tgt := 119) k_248_86 rfl (r_iinc k_248_119 rfl rfl rfl rfl
    (r_goto (tgt := 5) k_248_122 rfl (Le.rfl'))))))))))))))))))))))
    (r_aload_n k_248_24 rfl rfl
    (r_getR k_248_25 rfl po_248 rfl rfl rfl rfl (gRat e (LayR.at hL (i := 82) rfl))
    (r_iload_n k_248_28 rfl rfl
    (r_iload k_248_29 rfl rfl
    (r_if (tgt := 39) k_248_31 rfl rfl cop_lt
    (r_aload_n k_248_39 rfl rfl
    (r_getR k_248_40 rfl po_248 rfl rfl rfl rfl (gRat e (LayR.at hL (i := 81) rfl))
    (r_iconst k_248_43 rfl rfl
    (r_iload k_248_44 rfl rfl
    (r_isub k_248_46 rfl
    (r_gd fun g => r_iald k_248_47 rfl rfl g
    (r_gd fun g => r_iast k_248_48 rfl rfl g
    (r_iinc k_248_49 rfl rfl rfl rfl
    (r_goto (tgt := 119) k_248_52 rfl (r_iinc k_248_119 rfl rfl rfl rfl
    (r_goto (tgt := 5) k_248_122 rfl (Le.rfl'))))))))))))
    (r_iload k_248_34 rfl rfl
    (r_goto (tgt := 48) k_248_36 rfl (r_gd fun g => r_iast k_248_48 rfl rfl g
    (r_iinc k_248_49 rfl rfl rfl rfl
    (r_goto (tgt := 119) k_248_52 rfl (r_iinc k_248_119 rfl rfl rfl rfl
    (r_goto (tgt := 5) k_248_122 rfl (Le.rfl'))))))))))))))))))))))
theorem M_248 {a0 n0 : Nat} (ha0 : kd a0 = (100, n0)) {x1 : Int32} {σ : pS} {ρ : Nat → Nat → Option Nat} (e : gR σ = ρ) (hL : LayR ρ) : Le
  (C_248_5 a0 n0 x1 (ι 0) (ι 0) (.retAddr 0) σ)
  (pcall 248 [.ref 61, .ref a0, .int x1] σ) := by
  show Le _ (den 248 0 0 [.ref 61, .ref a0, .int x1, .retAddr 0, .retAddr 0, .retAddr 0] [] σ)
  exact r_iconst k_248_0 rfl rfl
    (r_istore_n k_248_1 rfl rfl rfl
    (r_iconst k_248_2 rfl rfl
    (r_istore k_248_3 rfl rfl rfl
    (Le.rfl'))))
/-! ===== 249 HedgeWantsModel.reckon ===== -/
theorem k_249_0 : cd 249 0 = some (.iload_n 0, 1) := by decide +kernel
theorem k_249_1 : cd 249 1 = some (.tableswitch 103 (-26) (-20) #[89, 78, 67, 55, 51, 47, 43], 43) := by decide +kernel
theorem k_249_44 : cd 249 44 = some (.iload_n 1, 1) := by decide +kernel
theorem k_249_45 : cd 249 45 = some (.iload_n 2, 1) := by decide +kernel
theorem k_249_46 : cd 249 46 = some (.iadd, 1) := by decide +kernel
theorem k_249_47 : cd 249 47 = some (.ireturn, 1) := by decide +kernel
theorem k_249_48 : cd 249 48 = some (.iload_n 1, 1) := by decide +kernel
theorem k_249_49 : cd 249 49 = some (.iload_n 2, 1) := by decide +kernel
theorem k_249_50 : cd 249 50 = some (.isub, 1) := by decide +kernel
theorem k_249_51 : cd 249 51 = some (.ireturn, 1) := by decide +kernel
theorem k_249_52 : cd 249 52 = some (.iload_n 1, 1) := by decide +kernel
theorem k_249_53 : cd 249 53 = some (.iload_n 2, 1) := by decide +kernel
theorem k_249_54 : cd 249 54 = some (.imul, 1) := by decide +kernel
theorem k_249_55 : cd 249 55 = some (.ireturn, 1) := by decide +kernel
theorem k_249_56 : cd 249 56 = some (.iload_n 2, 1) := by decide +kernel
theorem k_249_57 : cd 249 57 = some (.ifCond .ne 7, 3) := by decide +kernel
theorem k_249_60 : cd 249 60 = some (.iconst 0, 1) := by decide +kernel
theorem k_249_61 : cd 249 61 = some (.goto 6, 3) := by decide +kernel
theorem k_249_64 : cd 249 64 = some (.iload_n 1, 1) := by decide +kernel
theorem k_249_65 : cd 249 65 = some (.iload_n 2, 1) := by decide +kernel
theorem k_249_66 : cd 249 66 = some (.idiv, 1) := by decide +kernel
theorem k_249_67 : cd 249 67 = some (.ireturn, 1) := by decide +kernel
theorem k_249_68 : cd 249 68 = some (.iload_n 1, 1) := by decide +kernel
theorem k_249_69 : cd 249 69 = some (.iload_n 2, 1) := by decide +kernel
theorem k_249_70 : cd 249 70 = some (.if_icmp .ge 7, 3) := by decide +kernel
theorem k_249_73 : cd 249 73 = some (.iconst 1, 1) := by decide +kernel
theorem k_249_74 : cd 249 74 = some (.goto 4, 3) := by decide +kernel
theorem k_249_77 : cd 249 77 = some (.iconst 0, 1) := by decide +kernel
theorem k_249_78 : cd 249 78 = some (.ireturn, 1) := by decide +kernel
theorem k_249_79 : cd 249 79 = some (.iload_n 1, 1) := by decide +kernel
theorem k_249_80 : cd 249 80 = some (.iload_n 2, 1) := by decide +kernel
theorem k_249_81 : cd 249 81 = some (.if_icmp .ne 7, 3) := by decide +kernel
theorem k_249_84 : cd 249 84 = some (.iconst 1, 1) := by decide +kernel
theorem k_249_85 : cd 249 85 = some (.goto 4, 3) := by decide +kernel
theorem k_249_88 : cd 249 88 = some (.iconst 0, 1) := by decide +kernel
theorem k_249_89 : cd 249 89 = some (.ireturn, 1) := by decide +kernel
theorem k_249_90 : cd 249 90 = some (.iload_n 1, 1) := by decide +kernel
theorem k_249_91 : cd 249 91 = some (.ifCond .eq 11, 3) := by decide +kernel
theorem k_249_94 : cd 249 94 = some (.iload_n 2, 1) := by decide +kernel
theorem k_249_95 : cd 249 95 = some (.ifCond .eq 7, 3) := by decide +kernel
theorem k_249_98 : cd 249 98 = some (.iconst 1, 1) := by decide +kernel
theorem k_249_99 : cd 249 99 = some (.goto 4, 3) := by decide +kernel
theorem k_249_102 : cd 249 102 = some (.iconst 0, 1) := by decide +kernel
theorem k_249_103 : cd 249 103 = some (.ireturn, 1) := by decide +kernel
theorem k_249_104 : cd 249 104 = some (.iload_n 1, 1) := by decide +kernel
theorem k_249_105 : cd 249 105 = some (.ifCond .ne 7, 3) := by decide +kernel
theorem k_249_108 : cd 249 108 = some (.iload_n 2, 1) := by decide +kernel
theorem k_249_109 : cd 249 109 = some (.ifCond .eq 7, 3) := by decide +kernel
theorem k_249_112 : cd 249 112 = some (.iconst 1, 1) := by decide +kernel
theorem k_249_113 : cd 249 113 = some (.goto 4, 3) := by decide +kernel
theorem k_249_116 : cd 249 116 = some (.iconst 0, 1) := by decide +kernel
theorem k_249_117 : cd 249 117 = some (.ireturn, 1) := by decide +kernel
theorem po_249 : po 249 = 9 := rfl
theorem M_249  {x0 : Int32} {x1 : Int32} {x2 : Int32} {σ : pS} {ρ : Nat → Nat → Option Nat} (e : gR σ = ρ) (hL : LayR ρ) : Le
  (if x0 = (ν 26) then if x1 = (ι 0) then some (1, .int (ι 0), σ) else if x2 = (ι 0) then some (1, .int (ι 0), σ) else some (1, .int (ι 1), σ) else if x0 = (ν 25) then if ¬ x1 = x2 then some (1, .int (ι 0), σ) else some (1, .int (ι 1), σ) else if x0 = (ν 24) then if x2 ≤ x1 then some (1, .int (ι 0), σ) else some (1, .int (ι 1), σ) else if x0 = (ν 23) then if ¬ x2 = (ι 0) then gd (¬ x2 = ι 0) (some (1, .int (x1 / x2), σ)) else some (1, .int (ι 0), σ) else if x0 = (ν 22) then some (1, .int (x1 * x2), σ) else if x0 = (ν 21) then some (1, .int (x1 - x2), σ) else if x0 = (ν 20) then some (1, .int (x1 + x2), σ) else gd (x0.toInt < -26 ∨ -20 < x0.toInt) (if ¬ x1 = (ι 0) then some (1, .int (ι 1), σ) else if x2 = (ι 0) then some (1, .int (ι 0), σ) else some (1, .int (ι 1), σ)))
  (pcall 249 [.int x0, .int x1, .int x2] σ) := by
  show Le _ (den 249 0 0 [.int x0, .int x1, .int x2] [] σ)
  exact r_iload_n k_249_0 rfl rfl
    (r_case (fun c7 => r_tabGo (off := 89) (tgt := 90) c7 k_249_1 (by decide) (by decide) rfl (r_iload_n k_249_90 rfl rfl
    (r_if (tgt := 102) k_249_91 rfl rfl cop_eq
    (r_iconst k_249_102 rfl rfl
    (r_ret k_249_103 rfl rfl))
    (r_iload_n k_249_94 rfl rfl
    (r_if (tgt := 102) k_249_95 rfl rfl cop_eq
    (r_iconst k_249_102 rfl rfl
    (r_ret k_249_103 rfl rfl))
    (r_iconst k_249_98 rfl rfl
    (r_goto (tgt := 103) k_249_99 rfl (r_ret k_249_103 rfl rfl)))))))) (fun _ => r_case (fun c6 => r_tabGo (off := 78) (tgt := 79) c6 k_249_1 (by decide) (by decide) rfl (r_iload_n k_249_79 rfl rfl
    (r_iload_n k_249_80 rfl rfl
    (r_icmp (tgt := 88) k_249_81 rfl rfl cop_ne
    (r_iconst k_249_88 rfl rfl
    (r_ret k_249_89 rfl rfl))
    (r_iconst k_249_84 rfl rfl
    (r_goto (tgt := 89) k_249_85 rfl (r_ret k_249_89 rfl rfl))))))) (fun _ => r_case (fun c5 => r_tabGo (off := 67) (tgt := 68) c5 k_249_1 (by decide) (by decide) rfl (r_iload_n k_249_68 rfl rfl
    (r_iload_n k_249_69 rfl rfl
    (r_icmp (tgt := 77) k_249_70 rfl rfl cop_ge
    (r_iconst k_249_77 rfl rfl
    (r_ret k_249_78 rfl rfl))
    (r_iconst k_249_73 rfl rfl
    (r_goto (tgt := 78) k_249_74 rfl (r_ret k_249_78 rfl rfl))))))) (fun _ => r_case (fun c4 => r_tabGo (off := 55) (tgt := 56) c4 k_249_1 (by decide) (by decide) rfl (r_iload_n k_249_56 rfl rfl
    (r_if (tgt := 64) k_249_57 rfl rfl cop_ne
    (r_iload_n k_249_64 rfl rfl
    (r_iload_n k_249_65 rfl rfl
    (r_gd fun g => r_idiv k_249_66 rfl g
    (r_ret k_249_67 rfl rfl))))
    (r_iconst k_249_60 rfl rfl
    (r_goto (tgt := 67) k_249_61 rfl (r_ret k_249_67 rfl rfl)))))) (fun _ => r_case (fun c3 => r_tabGo (off := 51) (tgt := 52) c3 k_249_1 (by decide) (by decide) rfl (r_iload_n k_249_52 rfl rfl
    (r_iload_n k_249_53 rfl rfl
    (r_imul k_249_54 rfl
    (r_ret k_249_55 rfl rfl))))) (fun _ => r_case (fun c2 => r_tabGo (off := 47) (tgt := 48) c2 k_249_1 (by decide) (by decide) rfl (r_iload_n k_249_48 rfl rfl
    (r_iload_n k_249_49 rfl rfl
    (r_isub k_249_50 rfl
    (r_ret k_249_51 rfl rfl))))) (fun _ => r_case (fun c1 => r_tabGo (off := 43) (tgt := 44) c1 k_249_1 (by decide) (by decide) rfl (r_iload_n k_249_44 rfl rfl
    (r_iload_n k_249_45 rfl rfl
    (r_iadd k_249_46 rfl
    (r_ret k_249_47 rfl rfl))))) (fun _ => r_gd fun g => r_tabOut (tgt := 104) k_249_1 g rfl (r_iload_n k_249_104 rfl rfl
    (r_if (tgt := 112) k_249_105 rfl rfl cop_ne
    (r_iconst k_249_112 rfl rfl
    (r_goto (tgt := 117) k_249_113 rfl (r_ret k_249_117 rfl rfl)))
    (r_iload_n k_249_108 rfl rfl
    (r_if (tgt := 116) k_249_109 rfl rfl cop_eq
    (r_iconst k_249_116 rfl rfl
    (r_ret k_249_117 rfl rfl))
    (r_iconst k_249_112 rfl rfl
    (r_goto (tgt := 117) k_249_113 rfl (r_ret k_249_117 rfl rfl)))))))))))))))
/-! ===== 250 HedgeWantsModel.envyMany ===== -/
theorem k_250_0 : cd 250 0 = some (.iconst 0, 1) := by decide +kernel
theorem k_250_1 : cd 250 1 = some (.istore_n 2, 1) := by decide +kernel
theorem k_250_2 : cd 250 2 = some (.iconst 0, 1) := by decide +kernel
theorem k_250_3 : cd 250 3 = some (.istore_n 3, 1) := by decide +kernel
theorem k_250_4 : cd 250 4 = some (.iload_n 3, 1) := by decide +kernel
theorem k_250_5 : cd 250 5 = some (.aload_n 0, 1) := by decide +kernel
theorem k_250_6 : cd 250 6 = some (.getfield 44, 3) := by decide +kernel
theorem k_250_9 : cd 250 9 = some (.iconst 0, 1) := by decide +kernel
theorem k_250_10 : cd 250 10 = some (.iaload, 1) := by decide +kernel
theorem k_250_11 : cd 250 11 = some (.if_icmp .ge 65, 3) := by decide +kernel
theorem k_250_14 : cd 250 14 = some (.iconst 0, 1) := by decide +kernel
theorem k_250_15 : cd 250 15 = some (.istore 4, 2) := by decide +kernel
theorem k_250_17 : cd 250 17 = some (.iload 4, 2) := by decide +kernel
theorem k_250_19 : cd 250 19 = some (.aload_n 0, 1) := by decide +kernel
theorem k_250_20 : cd 250 20 = some (.getfield 44, 3) := by decide +kernel
theorem k_250_23 : cd 250 23 = some (.iconst 0, 1) := by decide +kernel
theorem k_250_24 : cd 250 24 = some (.iaload, 1) := by decide +kernel
theorem k_250_25 : cd 250 25 = some (.if_icmp .ge 45, 3) := by decide +kernel
theorem k_250_28 : cd 250 28 = some (.iload_n 2, 1) := by decide +kernel
theorem k_250_29 : cd 250 29 = some (.aload_n 0, 1) := by decide +kernel
theorem k_250_30 : cd 250 30 = some (.iload_n 3, 1) := by decide +kernel
theorem k_250_31 : cd 250 31 = some (.iload 4, 2) := by decide +kernel
theorem k_250_33 : cd 250 33 = some (.invokevirtual 362, 3) := by decide +kernel
theorem k_250_36 : cd 250 36 = some (.ifCond .eq 25, 3) := by decide +kernel
theorem k_250_39 : cd 250 39 = some (.iload_n 1, 1) := by decide +kernel
theorem k_250_40 : cd 250 40 = some (.ifCond .eq 17, 3) := by decide +kernel
theorem k_250_43 : cd 250 43 = some (.aload_n 0, 1) := by decide +kernel
theorem k_250_44 : cd 250 44 = some (.getfield 84, 3) := by decide +kernel
theorem k_250_47 : cd 250 47 = some (.iload_n 3, 1) := by decide +kernel
theorem k_250_48 : cd 250 48 = some (.iaload, 1) := by decide +kernel
theorem k_250_49 : cd 250 49 = some (.iload 4, 2) := by decide +kernel
theorem k_250_51 : cd 250 51 = some (.invokestatic 269, 3) := by decide +kernel
theorem k_250_54 : cd 250 54 = some (.ifCond .eq 7, 3) := by decide +kernel
theorem k_250_57 : cd 250 57 = some (.iconst 1, 1) := by decide +kernel
theorem k_250_58 : cd 250 58 = some (.goto 4, 3) := by decide +kernel
theorem k_250_61 : cd 250 61 = some (.iconst 0, 1) := by decide +kernel
theorem k_250_62 : cd 250 62 = some (.iadd, 1) := by decide +kernel
theorem k_250_63 : cd 250 63 = some (.istore_n 2, 1) := by decide +kernel
theorem k_250_64 : cd 250 64 = some (.iinc 4 1, 3) := by decide +kernel
theorem k_250_67 : cd 250 67 = some (.goto (-50), 3) := by decide +kernel
theorem k_250_70 : cd 250 70 = some (.iinc 3 1, 3) := by decide +kernel
theorem k_250_73 : cd 250 73 = some (.goto (-69), 3) := by decide +kernel
theorem k_250_76 : cd 250 76 = some (.iload_n 2, 1) := by decide +kernel
theorem k_250_77 : cd 250 77 = some (.ireturn, 1) := by decide +kernel
theorem po_250 : po 250 = 9 := rfl
noncomputable def C_250_4  (x1 : Int32) (x2 : Int32) (x3 : Int32) (v4 : Value) (σ : pS) : Option pZ := den 250 0 4 [.ref 61, .int x1, .int x2, .int x3, v4] [] σ
noncomputable def C_250_17  (x1 : Int32) (x2 : Int32) (x3 : Int32) (x4 : Int32) (σ : pS) : Option pZ := den 250 0 17 [.ref 61, .int x1, .int x2, .int x3, .int x4] [] σ
theorem T_250_4  {x1 : Int32} {x2 : Int32} {x3 : Int32} {v4 : Value}  {σ : pS} {ρ : Nat → Nat → Option Nat} (e : gR σ = ρ) (hL : LayR ρ) : Le
  (if (gI σ 65 0) ≤ x3 then some (1, .int x2, σ) else C_250_17 x1 x2 x3 (ι 0) σ)
  (C_250_4  x1 x2 x3 v4 σ) := by
  unfold C_250_4
  exact r_iload_n k_250_4 rfl rfl
    (r_aload_n k_250_5 rfl rfl
    (r_getR k_250_6 rfl po_250 rfl rfl rfl rfl (gRat e (LayR.at hL (i := 66) rfl))
    (r_iconst k_250_9 rfl rfl
    (r_iald k_250_10 rfl rfl (by decide)
    (r_icmp (tgt := 76) k_250_11 rfl rfl cop_ge
    (r_iload_n k_250_76 rfl rfl
    (r_ret k_250_77 rfl rfl))
    (r_iconst k_250_14 rfl rfl
    (r_istore k_250_15 rfl rfl rfl
    (Le.rfl'))))))))
theorem T_250_17  {x1 : Int32} {x2 : Int32} {x3 : Int32} {x4 : Int32}  {σ : pS} {ρ : Nat → Nat → Option Nat} (e : gR σ = ρ) (hL : LayR ρ) : Le
  (if (gI σ 65 0) ≤ x4 then C_250_4 x1 x2 (x3 + (ι 1)) (.int x4) σ else bI (pcall 251 [.ref 61, .int x3, .int x4] σ) fun r1 σ1 => if r1 = (ι 0) then C_250_17 x1 (x2 + (ι 0)) x3 (x4 + (ι 1)) σ1 else if x1 = (ι 0) then C_250_17 x1 (x2 + (ι 1)) x3 (x4 + (ι 1)) σ1 else gd (inb x3 8) (bI (pcall 236 [.int (gI σ1 78 (ix x3)), .int x4] σ1) fun r2 σ2 => if r2 = (ι 0) then C_250_17 x1 (x2 + (ι 0)) x3 (x4 + (ι 1)) σ2 else C_250_17 x1 (x2 + (ι 1)) x3 (x4 + (ι 1)) σ2))
  (C_250_17  x1 x2 x3 x4 σ) := by
  unfold C_250_17
  exact r_iload k_250_17 rfl rfl
    (r_aload_n k_250_19 rfl rfl
    (r_getR k_250_20 rfl po_250 rfl rfl rfl rfl (gRat e (LayR.at hL (i := 66) rfl))
    (r_iconst k_250_23 rfl rfl
    (r_iald k_250_24 rfl rfl (by decide)
    (r_icmp (tgt := 70) k_250_25 rfl rfl cop_ge
    (r_iinc k_250_70 rfl rfl rfl rfl
    (r_goto (tgt := 4) k_250_73 rfl (Le.rfl')))
    (r_iload_n k_250_28 rfl rfl
    (r_aload_n k_250_29 rfl rfl
    (r_iload_n k_250_30 rfl rfl
    (r_iload k_250_31 rfl rfl
    (r_callI (q_virt (rest := [.int x2]) (as := [.int x3, .int x4]) k_250_33 po_250 rfl rfl rfl (rcvO rfl rfl rfl) rfl rfl) (lvq (j := 0) rfl (by decide +kernel)) rfl rfl (fun r1 σ1 h1 => r_if (tgt := 61) k_250_36 rfl rfl cop_eq
    (r_iconst k_250_61 rfl rfl
    (r_iadd k_250_62 rfl
    (r_istore_n k_250_63 rfl rfl rfl
    (r_iinc k_250_64 rfl rfl rfl rfl
    (r_goto (tgt := 17) k_250_67 rfl (Le.rfl'))))))
    (r_iload_n k_250_39 rfl rfl
    (r_if (tgt := 57) k_250_40 rfl rfl cop_eq
    (r_iconst k_250_57 rfl rfl
    (r_goto (tgt := 62) k_250_58 rfl (r_iadd k_250_62 rfl
    (r_istore_n k_250_63 rfl rfl rfl
    (r_iinc k_250_64 rfl rfl rfl rfl
    (r_goto (tgt := 17) k_250_67 rfl (Le.rfl')))))))
    (r_aload_n k_250_43 rfl rfl
    (r_getR k_250_44 rfl po_250 rfl rfl rfl rfl (gRat (eC rfl h1 e) (LayR.at hL (i := 79) rfl))
    (r_iload_n k_250_47 rfl rfl
    (r_gd fun g => r_iald k_250_48 rfl rfl g
    (r_iload k_250_49 rfl rfl
    (r_callI (q_stat (rest := [.int x2]) (av := [.int (gI σ1 78 (ix x3)), .int x4]) k_250_51 po_250 rfl (by decide) rfl rfl rfl rfl) (lvq (j := 0) rfl (by decide +kernel)) rfl rfl (fun r2 σ2 h2 => r_if (tgt := 61) k_250_54 rfl rfl cop_eq
    (r_iconst k_250_61 rfl rfl
    (r_iadd k_250_62 rfl
    (r_istore_n k_250_63 rfl rfl rfl
    (r_iinc k_250_64 rfl rfl rfl rfl
    (r_goto (tgt := 17) k_250_67 rfl (Le.rfl'))))))
    (r_iconst k_250_57 rfl rfl
    (r_goto (tgt := 62) k_250_58 rfl (r_iadd k_250_62 rfl
    (r_istore_n k_250_63 rfl rfl rfl
    (r_iinc k_250_64 rfl rfl rfl rfl
    (r_goto (tgt := 17) k_250_67 rfl (Le.rfl')))))))))))))))))))))))))))
theorem M_250  {x0 : Int32} {σ : pS} {ρ : Nat → Nat → Option Nat} (e : gR σ = ρ) (hL : LayR ρ) : Le
  (C_250_4 x0 (ι 0) (ι 0) (.retAddr 0) σ)
  (pcall 250 [.ref 61, .int x0] σ) := by
  show Le _ (den 250 0 0 [.ref 61, .int x0, .retAddr 0, .retAddr 0, .retAddr 0] [] σ)
  exact r_iconst k_250_0 rfl rfl
    (r_istore_n k_250_1 rfl rfl rfl
    (r_iconst k_250_2 rfl rfl
    (r_istore_n k_250_3 rfl rfl rfl
    (Le.rfl'))))
/-! ===== 251 HedgeWantsModel.isEnvious ===== -/
theorem k_251_0 : cd 251 0 = some (.iconst 0, 1) := by decide +kernel
theorem k_251_1 : cd 251 1 = some (.istore_n 3, 1) := by decide +kernel
theorem k_251_2 : cd 251 2 = some (.iconst 0, 1) := by decide +kernel
theorem k_251_3 : cd 251 3 = some (.istore 4, 2) := by decide +kernel
theorem k_251_5 : cd 251 5 = some (.iload 4, 2) := by decide +kernel
theorem k_251_7 : cd 251 7 = some (.aload_n 0, 1) := by decide +kernel
theorem k_251_8 : cd 251 8 = some (.getfield 44, 3) := by decide +kernel
theorem k_251_11 : cd 251 11 = some (.iconst 1, 1) := by decide +kernel
theorem k_251_12 : cd 251 12 = some (.iaload, 1) := by decide +kernel
theorem k_251_13 : cd 251 13 = some (.if_icmp .ge 34, 3) := by decide +kernel
theorem k_251_16 : cd 251 16 = some (.iload_n 3, 1) := by decide +kernel
theorem k_251_17 : cd 251 17 = some (.aload_n 0, 1) := by decide +kernel
theorem k_251_18 : cd 251 18 = some (.getfield 77, 3) := by decide +kernel
theorem k_251_21 : cd 251 21 = some (.iload 4, 2) := by decide +kernel
theorem k_251_23 : cd 251 23 = some (.iaload, 1) := by decide +kernel
theorem k_251_24 : cd 251 24 = some (.iload_n 2, 1) := by decide +kernel
theorem k_251_25 : cd 251 25 = some (.if_icmp .ne 13, 3) := by decide +kernel
theorem k_251_28 : cd 251 28 = some (.aload_n 0, 1) := by decide +kernel
theorem k_251_29 : cd 251 29 = some (.iload_n 1, 1) := by decide +kernel
theorem k_251_30 : cd 251 30 = some (.iload 4, 2) := by decide +kernel
theorem k_251_32 : cd 251 32 = some (.invokevirtual 328, 3) := by decide +kernel
theorem k_251_35 : cd 251 35 = some (.goto 4, 3) := by decide +kernel
theorem k_251_38 : cd 251 38 = some (.iconst 0, 1) := by decide +kernel
theorem k_251_39 : cd 251 39 = some (.iadd, 1) := by decide +kernel
theorem k_251_40 : cd 251 40 = some (.istore_n 3, 1) := by decide +kernel
theorem k_251_41 : cd 251 41 = some (.iinc 4 1, 3) := by decide +kernel
theorem k_251_44 : cd 251 44 = some (.goto (-39), 3) := by decide +kernel
theorem k_251_47 : cd 251 47 = some (.iload_n 1, 1) := by decide +kernel
theorem k_251_48 : cd 251 48 = some (.iload_n 2, 1) := by decide +kernel
theorem k_251_49 : cd 251 49 = some (.if_icmp .eq 16, 3) := by decide +kernel
theorem k_251_52 : cd 251 52 = some (.iload_n 3, 1) := by decide +kernel
theorem k_251_53 : cd 251 53 = some (.aload_n 0, 1) := by decide +kernel
theorem k_251_54 : cd 251 54 = some (.iload_n 1, 1) := by decide +kernel
theorem k_251_55 : cd 251 55 = some (.invokevirtual 359, 3) := by decide +kernel
theorem k_251_58 : cd 251 58 = some (.if_icmp .le 7, 3) := by decide +kernel
theorem k_251_61 : cd 251 61 = some (.iconst 1, 1) := by decide +kernel
theorem k_251_62 : cd 251 62 = some (.goto 4, 3) := by decide +kernel
theorem k_251_65 : cd 251 65 = some (.iconst 0, 1) := by decide +kernel
theorem k_251_66 : cd 251 66 = some (.ireturn, 1) := by decide +kernel
theorem po_251 : po 251 = 9 := rfl
noncomputable def C_251_5  (x1 : Int32) (x2 : Int32) (x3 : Int32) (x4 : Int32) (σ : pS) : Option pZ := den 251 0 5 [.ref 61, .int x1, .int x2, .int x3, .int x4] [] σ
theorem T_251_5  {x1 : Int32} {x2 : Int32} {x3 : Int32} {x4 : Int32}  {σ : pS} {ρ : Nat → Nat → Option Nat} (e : gR σ = ρ) (hL : LayR ρ) : Le
  (if (gI σ 65 1) ≤ x4 then if x1 = x2 then some (1, .int (ι 0), σ) else bI (pcall 252 [.ref 61, .int x1] σ) fun r1 σ1 => if x3 ≤ r1 then some (1, .int (ι 0), σ1) else some (1, .int (ι 1), σ1) else gd (inb x4 12) (if ¬ (gI σ 75 (ix x4)) = x2 then C_251_5 x1 x2 (x3 + (ι 0)) (x4 + (ι 1)) σ else bI (pcall 244 [.ref 61, .int x1, .int x4] σ) fun r2 σ2 => C_251_5 x1 x2 (x3 + r2) (x4 + (ι 1)) σ2))
  (C_251_5  x1 x2 x3 x4 σ) := by
  unfold C_251_5
  exact r_iload k_251_5 rfl rfl
    (r_aload_n k_251_7 rfl rfl
    (r_getR k_251_8 rfl po_251 rfl rfl rfl rfl (gRat e (LayR.at hL (i := 66) rfl))
    (r_iconst k_251_11 rfl rfl
    (r_iald k_251_12 rfl rfl (by decide)
    (r_icmp (tgt := 47) k_251_13 rfl rfl cop_ge
    (r_iload_n k_251_47 rfl rfl
    (r_iload_n k_251_48 rfl rfl
    (r_icmp (tgt := 65) k_251_49 rfl rfl cop_eq
    (r_iconst k_251_65 rfl rfl
    (r_ret k_251_66 rfl rfl))
    (r_iload_n k_251_52 rfl rfl
    (r_aload_n k_251_53 rfl rfl
    (r_iload_n k_251_54 rfl rfl
    (r_callI (q_virt (rest := [.int x3]) (as := [.int x1]) k_251_55 po_251 rfl rfl rfl (rcvO rfl rfl rfl) rfl rfl) (lvq (j := 0) rfl (by decide +kernel)) rfl rfl (fun r1 σ1 h1 => r_icmp (tgt := 65) k_251_58 rfl rfl cop_le
    (r_iconst k_251_65 rfl rfl
    (r_ret k_251_66 rfl rfl))
    (r_iconst k_251_61 rfl rfl
    (r_goto (tgt := 66) k_251_62 rfl (r_ret k_251_66 rfl rfl)))))))))))
    (r_iload_n k_251_16 rfl rfl
    (r_aload_n k_251_17 rfl rfl
    (r_getR k_251_18 rfl po_251 rfl rfl rfl rfl (gRat e (LayR.at hL (i := 76) rfl))
    (r_iload k_251_21 rfl rfl
    (r_gd fun g => r_iald k_251_23 rfl rfl g
    (r_iload_n k_251_24 rfl rfl
    (r_icmp (tgt := 38) k_251_25 rfl rfl cop_ne
    (r_iconst k_251_38 rfl rfl
    (r_iadd k_251_39 rfl
    (r_istore_n k_251_40 rfl rfl rfl
    (r_iinc k_251_41 rfl rfl rfl rfl
    (r_goto (tgt := 5) k_251_44 rfl (Le.rfl'))))))
    (r_aload_n k_251_28 rfl rfl
    (r_iload_n k_251_29 rfl rfl
    (r_iload k_251_30 rfl rfl
    (r_callI (q_virt (rest := [.int x3]) (as := [.int x1, .int x4]) k_251_32 po_251 rfl rfl rfl (rcvO rfl rfl rfl) rfl rfl) (lvq (j := 0) rfl (by decide +kernel)) rfl rfl (fun r2 σ2 h2 => r_goto (tgt := 39) k_251_35 rfl (r_iadd k_251_39 rfl
    (r_istore_n k_251_40 rfl rfl rfl
    (r_iinc k_251_41 rfl rfl rfl rfl
    (r_goto (tgt := 5) k_251_44 rfl (Le.rfl'))))))))))))))))))))))
theorem M_251  {x0 : Int32} {x1 : Int32} {σ : pS} {ρ : Nat → Nat → Option Nat} (e : gR σ = ρ) (hL : LayR ρ) : Le
  (C_251_5 x0 x1 (ι 0) (ι 0) σ)
  (pcall 251 [.ref 61, .int x0, .int x1] σ) := by
  show Le _ (den 251 0 0 [.ref 61, .int x0, .int x1, .retAddr 0, .retAddr 0] [] σ)
  exact r_iconst k_251_0 rfl rfl
    (r_istore_n k_251_1 rfl rfl rfl
    (r_iconst k_251_2 rfl rfl
    (r_istore k_251_3 rfl rfl rfl
    (Le.rfl'))))
/-! ===== 252 HedgeWantsModel.worthHad ===== -/
theorem k_252_0 : cd 252 0 = some (.iconst 0, 1) := by decide +kernel
theorem k_252_1 : cd 252 1 = some (.istore_n 2, 1) := by decide +kernel
theorem k_252_2 : cd 252 2 = some (.iconst 0, 1) := by decide +kernel
theorem k_252_3 : cd 252 3 = some (.istore_n 3, 1) := by decide +kernel
theorem k_252_4 : cd 252 4 = some (.iload_n 3, 1) := by decide +kernel
theorem k_252_5 : cd 252 5 = some (.aload_n 0, 1) := by decide +kernel
theorem k_252_6 : cd 252 6 = some (.getfield 44, 3) := by decide +kernel
theorem k_252_9 : cd 252 9 = some (.iconst 1, 1) := by decide +kernel
theorem k_252_10 : cd 252 10 = some (.iaload, 1) := by decide +kernel
theorem k_252_11 : cd 252 11 = some (.if_icmp .ge 32, 3) := by decide +kernel
theorem k_252_14 : cd 252 14 = some (.iload_n 2, 1) := by decide +kernel
theorem k_252_15 : cd 252 15 = some (.aload_n 0, 1) := by decide +kernel
theorem k_252_16 : cd 252 16 = some (.getfield 77, 3) := by decide +kernel
theorem k_252_19 : cd 252 19 = some (.iload_n 3, 1) := by decide +kernel
theorem k_252_20 : cd 252 20 = some (.iaload, 1) := by decide +kernel
theorem k_252_21 : cd 252 21 = some (.iload_n 1, 1) := by decide +kernel
theorem k_252_22 : cd 252 22 = some (.if_icmp .ne 12, 3) := by decide +kernel
theorem k_252_25 : cd 252 25 = some (.aload_n 0, 1) := by decide +kernel
theorem k_252_26 : cd 252 26 = some (.iload_n 1, 1) := by decide +kernel
theorem k_252_27 : cd 252 27 = some (.iload_n 3, 1) := by decide +kernel
theorem k_252_28 : cd 252 28 = some (.invokevirtual 319, 3) := by decide +kernel
theorem k_252_31 : cd 252 31 = some (.goto 4, 3) := by decide +kernel
theorem k_252_34 : cd 252 34 = some (.iconst 0, 1) := by decide +kernel
theorem k_252_35 : cd 252 35 = some (.iadd, 1) := by decide +kernel
theorem k_252_36 : cd 252 36 = some (.istore_n 2, 1) := by decide +kernel
theorem k_252_37 : cd 252 37 = some (.iinc 3 1, 3) := by decide +kernel
theorem k_252_40 : cd 252 40 = some (.goto (-36), 3) := by decide +kernel
theorem k_252_43 : cd 252 43 = some (.iload_n 2, 1) := by decide +kernel
theorem k_252_44 : cd 252 44 = some (.ireturn, 1) := by decide +kernel
theorem po_252 : po 252 = 9 := rfl
noncomputable def C_252_4  (x1 : Int32) (x2 : Int32) (x3 : Int32) (σ : pS) : Option pZ := den 252 0 4 [.ref 61, .int x1, .int x2, .int x3] [] σ
theorem T_252_4  {x1 : Int32} {x2 : Int32} {x3 : Int32}  {σ : pS} {ρ : Nat → Nat → Option Nat} (e : gR σ = ρ) (hL : LayR ρ) : Le
  (if (gI σ 65 1) ≤ x3 then some (1, .int x2, σ) else gd (inb x3 12) (if ¬ (gI σ 75 (ix x3)) = x1 then C_252_4 x1 (x2 + (ι 0)) (x3 + (ι 1)) σ else bI (pcall 245 [.ref 61, .int x1, .int x3] σ) fun r1 σ1 => C_252_4 x1 (x2 + r1) (x3 + (ι 1)) σ1))
  (C_252_4  x1 x2 x3 σ) := by
  unfold C_252_4
  exact r_iload_n k_252_4 rfl rfl
    (r_aload_n k_252_5 rfl rfl
    (r_getR k_252_6 rfl po_252 rfl rfl rfl rfl (gRat e (LayR.at hL (i := 66) rfl))
    (r_iconst k_252_9 rfl rfl
    (r_iald k_252_10 rfl rfl (by decide)
    (r_icmp (tgt := 43) k_252_11 rfl rfl cop_ge
    (r_iload_n k_252_43 rfl rfl
    (r_ret k_252_44 rfl rfl))
    (r_iload_n k_252_14 rfl rfl
    (r_aload_n k_252_15 rfl rfl
    (r_getR k_252_16 rfl po_252 rfl rfl rfl rfl (gRat e (LayR.at hL (i := 76) rfl))
    (r_iload_n k_252_19 rfl rfl
    (r_gd fun g => r_iald k_252_20 rfl rfl g
    (r_iload_n k_252_21 rfl rfl
    (r_icmp (tgt := 34) k_252_22 rfl rfl cop_ne
    (r_iconst k_252_34 rfl rfl
    (r_iadd k_252_35 rfl
    (r_istore_n k_252_36 rfl rfl rfl
    (r_iinc k_252_37 rfl rfl rfl rfl
    (r_goto (tgt := 4) k_252_40 rfl (Le.rfl'))))))
    (r_aload_n k_252_25 rfl rfl
    (r_iload_n k_252_26 rfl rfl
    (r_iload_n k_252_27 rfl rfl
    (r_callI (q_virt (rest := [.int x2]) (as := [.int x1, .int x3]) k_252_28 po_252 rfl rfl rfl (rcvO rfl rfl rfl) rfl rfl) (lvq (j := 0) rfl (by decide +kernel)) rfl rfl (fun r1 σ1 h1 => r_goto (tgt := 35) k_252_31 rfl (r_iadd k_252_35 rfl
    (r_istore_n k_252_36 rfl rfl rfl
    (r_iinc k_252_37 rfl rfl rfl rfl
    (r_goto (tgt := 4) k_252_40 rfl (Le.rfl'))))))))))))))))))))))
theorem M_252  {x0 : Int32} {σ : pS} {ρ : Nat → Nat → Option Nat} (e : gR σ = ρ) (hL : LayR ρ) : Le
  (C_252_4 x0 (ι 0) (ι 0) σ)
  (pcall 252 [.ref 61, .int x0] σ) := by
  show Le _ (den 252 0 0 [.ref 61, .int x0, .retAddr 0, .retAddr 0] [] σ)
  exact r_iconst k_252_0 rfl rfl
    (r_istore_n k_252_1 rfl rfl rfl
    (r_iconst k_252_2 rfl rfl
    (r_istore_n k_252_3 rfl rfl rfl
    (Le.rfl'))))
/-! ===== 253 HedgeWantsModel.swapsNow ===== -/
theorem k_253_0 : cd 253 0 = some (.iconst 0, 1) := by decide +kernel
theorem k_253_1 : cd 253 1 = some (.istore_n 2, 1) := by decide +kernel
theorem k_253_2 : cd 253 2 = some (.iconst 0, 1) := by decide +kernel
theorem k_253_3 : cd 253 3 = some (.istore_n 3, 1) := by decide +kernel
theorem k_253_4 : cd 253 4 = some (.iload_n 3, 1) := by decide +kernel
theorem k_253_5 : cd 253 5 = some (.aload_n 0, 1) := by decide +kernel
theorem k_253_6 : cd 253 6 = some (.getfield 44, 3) := by decide +kernel
theorem k_253_9 : cd 253 9 = some (.iconst 1, 1) := by decide +kernel
theorem k_253_10 : cd 253 10 = some (.iaload, 1) := by decide +kernel
theorem k_253_11 : cd 253 11 = some (.if_icmp .ge 59, 3) := by decide +kernel
theorem k_253_14 : cd 253 14 = some (.iload_n 3, 1) := by decide +kernel
theorem k_253_15 : cd 253 15 = some (.iconst 1, 1) := by decide +kernel
theorem k_253_16 : cd 253 16 = some (.iadd, 1) := by decide +kernel
theorem k_253_17 : cd 253 17 = some (.istore 4, 2) := by decide +kernel
theorem k_253_19 : cd 253 19 = some (.iload 4, 2) := by decide +kernel
theorem k_253_21 : cd 253 21 = some (.aload_n 0, 1) := by decide +kernel
theorem k_253_22 : cd 253 22 = some (.getfield 44, 3) := by decide +kernel
theorem k_253_25 : cd 253 25 = some (.iconst 1, 1) := by decide +kernel
theorem k_253_26 : cd 253 26 = some (.iaload, 1) := by decide +kernel
theorem k_253_27 : cd 253 27 = some (.if_icmp .ge 37, 3) := by decide +kernel
theorem k_253_30 : cd 253 30 = some (.aload_n 0, 1) := by decide +kernel
theorem k_253_31 : cd 253 31 = some (.iload_n 3, 1) := by decide +kernel
theorem k_253_32 : cd 253 32 = some (.iload 4, 2) := by decide +kernel
theorem k_253_34 : cd 253 34 = some (.invokevirtual 365, 3) := by decide +kernel
theorem k_253_37 : cd 253 37 = some (.ifCond .ne 6, 3) := by decide +kernel
theorem k_253_40 : cd 253 40 = some (.goto 18, 3) := by decide +kernel
theorem k_253_43 : cd 253 43 = some (.iload_n 1, 1) := by decide +kernel
theorem k_253_44 : cd 253 44 = some (.ifCond .eq 11, 3) := by decide +kernel
theorem k_253_47 : cd 253 47 = some (.bipush 100, 2) := by decide +kernel
theorem k_253_49 : cd 253 49 = some (.iload_n 3, 1) := by decide +kernel
theorem k_253_50 : cd 253 50 = some (.imul, 1) := by decide +kernel
theorem k_253_51 : cd 253 51 = some (.iload 4, 2) := by decide +kernel
theorem k_253_53 : cd 253 53 = some (.iadd, 1) := by decide +kernel
theorem k_253_54 : cd 253 54 = some (.ireturn, 1) := by decide +kernel
theorem k_253_55 : cd 253 55 = some (.iinc 2 1, 3) := by decide +kernel
theorem k_253_58 : cd 253 58 = some (.iinc 4 1, 3) := by decide +kernel
theorem k_253_61 : cd 253 61 = some (.goto (-42), 3) := by decide +kernel
theorem k_253_64 : cd 253 64 = some (.iinc 3 1, 3) := by decide +kernel
theorem k_253_67 : cd 253 67 = some (.goto (-63), 3) := by decide +kernel
theorem k_253_70 : cd 253 70 = some (.iload_n 1, 1) := by decide +kernel
theorem k_253_71 : cd 253 71 = some (.ifCond .eq 7, 3) := by decide +kernel
theorem k_253_74 : cd 253 74 = some (.iconst (-1), 1) := by decide +kernel
theorem k_253_75 : cd 253 75 = some (.goto 4, 3) := by decide +kernel
theorem k_253_78 : cd 253 78 = some (.iload_n 2, 1) := by decide +kernel
theorem k_253_79 : cd 253 79 = some (.ireturn, 1) := by decide +kernel
theorem po_253 : po 253 = 9 := rfl
noncomputable def C_253_4  (x1 : Int32) (x2 : Int32) (x3 : Int32) (v4 : Value) (σ : pS) : Option pZ := den 253 0 4 [.ref 61, .int x1, .int x2, .int x3, v4] [] σ
noncomputable def C_253_19  (x1 : Int32) (x2 : Int32) (x3 : Int32) (x4 : Int32) (σ : pS) : Option pZ := den 253 0 19 [.ref 61, .int x1, .int x2, .int x3, .int x4] [] σ
theorem T_253_4  {x1 : Int32} {x2 : Int32} {x3 : Int32} {v4 : Value}  {σ : pS} {ρ : Nat → Nat → Option Nat} (e : gR σ = ρ) (hL : LayR ρ) : Le
  (if (gI σ 65 1) ≤ x3 then if x1 = (ι 0) then some (1, .int x2, σ) else some (1, .int (ν 1), σ) else C_253_19 x1 x2 x3 (x3 + (ι 1)) σ)
  (C_253_4  x1 x2 x3 v4 σ) := by
  unfold C_253_4
  exact r_iload_n k_253_4 rfl rfl
    (r_aload_n k_253_5 rfl rfl
    (r_getR k_253_6 rfl po_253 rfl rfl rfl rfl (gRat e (LayR.at hL (i := 66) rfl))
    (r_iconst k_253_9 rfl rfl
    (r_iald k_253_10 rfl rfl (by decide)
    (r_icmp (tgt := 70) k_253_11 rfl rfl cop_ge
    (r_iload_n k_253_70 rfl rfl
    (r_if (tgt := 78) k_253_71 rfl rfl cop_eq
    (r_iload_n k_253_78 rfl rfl
    (r_ret k_253_79 rfl rfl))
    (r_iconst k_253_74 rfl rfl
    (r_goto (tgt := 79) k_253_75 rfl (r_ret k_253_79 rfl rfl)))))
    (r_iload_n k_253_14 rfl rfl
    (r_iconst k_253_15 rfl rfl
    (r_iadd k_253_16 rfl
    (r_istore k_253_17 rfl rfl rfl
    (Le.rfl'))))))))))
theorem T_253_19  {x1 : Int32} {x2 : Int32} {x3 : Int32} {x4 : Int32}  {σ : pS} {ρ : Nat → Nat → Option Nat} (e : gR σ = ρ) (hL : LayR ρ) : Le
  (if (gI σ 65 1) ≤ x4 then C_253_4 x1 x2 (x3 + (ι 1)) (.int x4) σ else bI (pcall 254 [.ref 61, .int x3, .int x4] σ) fun r1 σ1 => if ¬ r1 = (ι 0) then if x1 = (ι 0) then C_253_19 x1 (x2 + (ι 1)) x3 (x4 + (ι 1)) σ1 else some (1, .int (((ι 100) * x3) + x4), σ1) else C_253_19 x1 x2 x3 (x4 + (ι 1)) σ1)
  (C_253_19  x1 x2 x3 x4 σ) := by
  unfold C_253_19
  exact r_iload k_253_19 rfl rfl
    (r_aload_n k_253_21 rfl rfl
    (r_getR k_253_22 rfl po_253 rfl rfl rfl rfl (gRat e (LayR.at hL (i := 66) rfl))
    (r_iconst k_253_25 rfl rfl
    (r_iald k_253_26 rfl rfl (by decide)
    (r_icmp (tgt := 64) k_253_27 rfl rfl cop_ge
    (r_iinc k_253_64 rfl rfl rfl rfl
    (r_goto (tgt := 4) k_253_67 rfl (Le.rfl')))
    (r_aload_n k_253_30 rfl rfl
    (r_iload_n k_253_31 rfl rfl
    (r_iload k_253_32 rfl rfl
    (r_callI (q_virt (rest := []) (as := [.int x3, .int x4]) k_253_34 po_253 rfl rfl rfl (rcvO rfl rfl rfl) rfl rfl) (lvq (j := 0) rfl (by decide +kernel)) rfl rfl (fun r1 σ1 h1 => r_if (tgt := 43) k_253_37 rfl rfl cop_ne
    (r_iload_n k_253_43 rfl rfl
    (r_if (tgt := 55) k_253_44 rfl rfl cop_eq
    (r_iinc k_253_55 rfl rfl rfl rfl
    (r_iinc k_253_58 rfl rfl rfl rfl
    (r_goto (tgt := 19) k_253_61 rfl (Le.rfl'))))
    (r_bipush k_253_47 rfl rfl
    (r_iload_n k_253_49 rfl rfl
    (r_imul k_253_50 rfl
    (r_iload k_253_51 rfl rfl
    (r_iadd k_253_53 rfl
    (r_ret k_253_54 rfl rfl))))))))
    (r_goto (tgt := 58) k_253_40 rfl (r_iinc k_253_58 rfl rfl rfl rfl
    (r_goto (tgt := 19) k_253_61 rfl (Le.rfl'))))))))))))))
theorem M_253  {x0 : Int32} {σ : pS} {ρ : Nat → Nat → Option Nat} (e : gR σ = ρ) (hL : LayR ρ) : Le
  (C_253_4 x0 (ι 0) (ι 0) (.retAddr 0) σ)
  (pcall 253 [.ref 61, .int x0] σ) := by
  show Le _ (den 253 0 0 [.ref 61, .int x0, .retAddr 0, .retAddr 0, .retAddr 0] [] σ)
  exact r_iconst k_253_0 rfl rfl
    (r_istore_n k_253_1 rfl rfl rfl
    (r_iconst k_253_2 rfl rfl
    (r_istore_n k_253_3 rfl rfl rfl
    (Le.rfl'))))
/-! ===== 254 HedgeWantsModel.areBetter ===== -/
theorem k_254_0 : cd 254 0 = some (.aload_n 0, 1) := by decide +kernel
theorem k_254_1 : cd 254 1 = some (.getfield 77, 3) := by decide +kernel
theorem k_254_4 : cd 254 4 = some (.iload_n 1, 1) := by decide +kernel
theorem k_254_5 : cd 254 5 = some (.iaload, 1) := by decide +kernel
theorem k_254_6 : cd 254 6 = some (.istore_n 3, 1) := by decide +kernel
theorem k_254_7 : cd 254 7 = some (.aload_n 0, 1) := by decide +kernel
theorem k_254_8 : cd 254 8 = some (.getfield 77, 3) := by decide +kernel
theorem k_254_11 : cd 254 11 = some (.iload_n 2, 1) := by decide +kernel
theorem k_254_12 : cd 254 12 = some (.iaload, 1) := by decide +kernel
theorem k_254_13 : cd 254 13 = some (.istore 4, 2) := by decide +kernel
theorem k_254_15 : cd 254 15 = some (.iload_n 3, 1) := by decide +kernel
theorem k_254_16 : cd 254 16 = some (.iload 4, 2) := by decide +kernel
theorem k_254_18 : cd 254 18 = some (.if_icmp .eq 39, 3) := by decide +kernel
theorem k_254_21 : cd 254 21 = some (.aload_n 0, 1) := by decide +kernel
theorem k_254_22 : cd 254 22 = some (.iload_n 3, 1) := by decide +kernel
theorem k_254_23 : cd 254 23 = some (.iload_n 2, 1) := by decide +kernel
theorem k_254_24 : cd 254 24 = some (.invokevirtual 328, 3) := by decide +kernel
theorem k_254_27 : cd 254 27 = some (.aload_n 0, 1) := by decide +kernel
theorem k_254_28 : cd 254 28 = some (.iload_n 3, 1) := by decide +kernel
theorem k_254_29 : cd 254 29 = some (.iload_n 1, 1) := by decide +kernel
theorem k_254_30 : cd 254 30 = some (.invokevirtual 319, 3) := by decide +kernel
theorem k_254_33 : cd 254 33 = some (.if_icmp .le 24, 3) := by decide +kernel
theorem k_254_36 : cd 254 36 = some (.aload_n 0, 1) := by decide +kernel
theorem k_254_37 : cd 254 37 = some (.iload 4, 2) := by decide +kernel
theorem k_254_39 : cd 254 39 = some (.iload_n 1, 1) := by decide +kernel
theorem k_254_40 : cd 254 40 = some (.invokevirtual 328, 3) := by decide +kernel
theorem k_254_43 : cd 254 43 = some (.aload_n 0, 1) := by decide +kernel
theorem k_254_44 : cd 254 44 = some (.iload 4, 2) := by decide +kernel
theorem k_254_46 : cd 254 46 = some (.iload_n 2, 1) := by decide +kernel
theorem k_254_47 : cd 254 47 = some (.invokevirtual 319, 3) := by decide +kernel
theorem k_254_50 : cd 254 50 = some (.if_icmp .le 7, 3) := by decide +kernel
theorem k_254_53 : cd 254 53 = some (.iconst 1, 1) := by decide +kernel
theorem k_254_54 : cd 254 54 = some (.goto 4, 3) := by decide +kernel
theorem k_254_57 : cd 254 57 = some (.iconst 0, 1) := by decide +kernel
theorem k_254_58 : cd 254 58 = some (.ireturn, 1) := by decide +kernel
theorem po_254 : po 254 = 9 := rfl
theorem M_254  {x0 : Int32} {x1 : Int32} {σ : pS} {ρ : Nat → Nat → Option Nat} (e : gR σ = ρ) (hL : LayR ρ) : Le
  (gd (inb x0 12) (gd (inb x1 12) (if (gI σ 75 (ix x0)) = (gI σ 75 (ix x1)) then some (1, .int (ι 0), σ) else bI (pcall 244 [.ref 61, .int (gI σ 75 (ix x0)), .int x1] σ) fun r1 σ1 => bI (pcall 245 [.ref 61, .int (gI σ 75 (ix x0)), .int x0] σ1) fun r2 σ2 => if r1 ≤ r2 then some (1, .int (ι 0), σ2) else bI (pcall 244 [.ref 61, .int (gI σ 75 (ix x1)), .int x0] σ2) fun r3 σ3 => bI (pcall 245 [.ref 61, .int (gI σ 75 (ix x1)), .int x1] σ3) fun r4 σ4 => if r3 ≤ r4 then some (1, .int (ι 0), σ4) else some (1, .int (ι 1), σ4))))
  (pcall 254 [.ref 61, .int x0, .int x1] σ) := by
  show Le _ (den 254 0 0 [.ref 61, .int x0, .int x1, .retAddr 0, .retAddr 0] [] σ)
  exact r_aload_n k_254_0 rfl rfl
    (r_getR k_254_1 rfl po_254 rfl rfl rfl rfl (gRat e (LayR.at hL (i := 76) rfl))
    (r_iload_n k_254_4 rfl rfl
    (r_gd fun g => r_iald k_254_5 rfl rfl g
    (r_istore_n k_254_6 rfl rfl rfl
    (r_aload_n k_254_7 rfl rfl
    (r_getR k_254_8 rfl po_254 rfl rfl rfl rfl (gRat e (LayR.at hL (i := 76) rfl))
    (r_iload_n k_254_11 rfl rfl
    (r_gd fun g => r_iald k_254_12 rfl rfl g
    (r_istore k_254_13 rfl rfl rfl
    (r_iload_n k_254_15 rfl rfl
    (r_iload k_254_16 rfl rfl
    (r_icmp (tgt := 57) k_254_18 rfl rfl cop_eq
    (r_iconst k_254_57 rfl rfl
    (r_ret k_254_58 rfl rfl))
    (r_aload_n k_254_21 rfl rfl
    (r_iload_n k_254_22 rfl rfl
    (r_iload_n k_254_23 rfl rfl
    (r_callI (q_virt (rest := []) (as := [.int (gI σ 75 (ix x0)), .int x1]) k_254_24 po_254 rfl rfl rfl (rcvO rfl rfl rfl) rfl rfl) (lvq (j := 0) rfl (by decide +kernel)) rfl rfl (fun r1 σ1 h1 => r_aload_n k_254_27 rfl rfl
    (r_iload_n k_254_28 rfl rfl
    (r_iload_n k_254_29 rfl rfl
    (r_callI (q_virt (rest := [.int r1]) (as := [.int (gI σ 75 (ix x0)), .int x0]) k_254_30 po_254 rfl rfl rfl (rcvO rfl rfl rfl) rfl rfl) (lvq (j := 0) rfl (by decide +kernel)) rfl rfl (fun r2 σ2 h2 => r_icmp (tgt := 57) k_254_33 rfl rfl cop_le
    (r_iconst k_254_57 rfl rfl
    (r_ret k_254_58 rfl rfl))
    (r_aload_n k_254_36 rfl rfl
    (r_iload k_254_37 rfl rfl
    (r_iload_n k_254_39 rfl rfl
    (r_callI (q_virt (rest := []) (as := [.int (gI σ 75 (ix x1)), .int x0]) k_254_40 po_254 rfl rfl rfl (rcvO rfl rfl rfl) rfl rfl) (lvq (j := 0) rfl (by decide +kernel)) rfl rfl (fun r3 σ3 h3 => r_aload_n k_254_43 rfl rfl
    (r_iload k_254_44 rfl rfl
    (r_iload_n k_254_46 rfl rfl
    (r_callI (q_virt (rest := [.int r3]) (as := [.int (gI σ 75 (ix x1)), .int x1]) k_254_47 po_254 rfl rfl rfl (rcvO rfl rfl rfl) rfl rfl) (lvq (j := 0) rfl (by decide +kernel)) rfl rfl (fun r4 σ4 h4 => r_icmp (tgt := 57) k_254_50 rfl rfl cop_le
    (r_iconst k_254_57 rfl rfl
    (r_ret k_254_58 rfl rfl))
    (r_iconst k_254_53 rfl rfl
    (r_goto (tgt := 58) k_254_54 rfl (r_ret k_254_58 rfl rfl)))))))))))))))))))))))))))))))))
/-! ===== 255 HedgeWantsModel.partsNow ===== -/
theorem k_255_0 : cd 255 0 = some (.iconst 0, 1) := by decide +kernel
theorem k_255_1 : cd 255 1 = some (.istore_n 1, 1) := by decide +kernel
theorem k_255_2 : cd 255 2 = some (.iconst 0, 1) := by decide +kernel
theorem k_255_3 : cd 255 3 = some (.istore_n 2, 1) := by decide +kernel
theorem k_255_4 : cd 255 4 = some (.iconst 0, 1) := by decide +kernel
theorem k_255_5 : cd 255 5 = some (.istore_n 3, 1) := by decide +kernel
theorem k_255_6 : cd 255 6 = some (.iload_n 3, 1) := by decide +kernel
theorem k_255_7 : cd 255 7 = some (.aload_n 0, 1) := by decide +kernel
theorem k_255_8 : cd 255 8 = some (.getfield 44, 3) := by decide +kernel
theorem k_255_11 : cd 255 11 = some (.iconst 0, 1) := by decide +kernel
theorem k_255_12 : cd 255 12 = some (.iaload, 1) := by decide +kernel
theorem k_255_13 : cd 255 13 = some (.if_icmp .ge 32, 3) := by decide +kernel
theorem k_255_16 : cd 255 16 = some (.iload_n 2, 1) := by decide +kernel
theorem k_255_17 : cd 255 17 = some (.iload_n 3, 1) := by decide +kernel
theorem k_255_18 : cd 255 18 = some (.invokestatic 269, 3) := by decide +kernel
theorem k_255_21 : cd 255 21 = some (.ifCond .eq 6, 3) := by decide +kernel
theorem k_255_24 : cd 255 24 = some (.goto 15, 3) := by decide +kernel
theorem k_255_27 : cd 255 27 = some (.iinc 1 1, 3) := by decide +kernel
theorem k_255_30 : cd 255 30 = some (.iload_n 2, 1) := by decide +kernel
theorem k_255_31 : cd 255 31 = some (.aload_n 0, 1) := by decide +kernel
theorem k_255_32 : cd 255 32 = some (.iload_n 3, 1) := by decide +kernel
theorem k_255_33 : cd 255 33 = some (.iconst 0, 1) := by decide +kernel
theorem k_255_34 : cd 255 34 = some (.invokevirtual 368, 3) := by decide +kernel
theorem k_255_37 : cd 255 37 = some (.ior, 1) := by decide +kernel
theorem k_255_38 : cd 255 38 = some (.istore_n 2, 1) := by decide +kernel
theorem k_255_39 : cd 255 39 = some (.iinc 3 1, 3) := by decide +kernel
theorem k_255_42 : cd 255 42 = some (.goto (-36), 3) := by decide +kernel
theorem k_255_45 : cd 255 45 = some (.iload_n 1, 1) := by decide +kernel
theorem k_255_46 : cd 255 46 = some (.ireturn, 1) := by decide +kernel
theorem po_255 : po 255 = 9 := rfl
noncomputable def C_255_6  (x1 : Int32) (x2 : Int32) (x3 : Int32) (σ : pS) : Option pZ := den 255 0 6 [.ref 61, .int x1, .int x2, .int x3] [] σ
theorem T_255_6  {x1 : Int32} {x2 : Int32} {x3 : Int32}  {σ : pS} {ρ : Nat → Nat → Option Nat} (e : gR σ = ρ) (hL : LayR ρ) : Le
  (if (gI σ 65 0) ≤ x3 then some (1, .int x1, σ) else bI (pcall 236 [.int x2, .int x3] σ) fun r1 σ1 => if r1 = (ι 0) then bI (pcall 256 [.ref 61, .int x3, .int (ι 0)] σ1) fun r2 σ2 => C_255_6 (x1 + (ι 1)) (x2 ||| r2) (x3 + (ι 1)) σ2 else C_255_6 x1 x2 (x3 + (ι 1)) σ1)
  (C_255_6  x1 x2 x3 σ) := by
  unfold C_255_6
  exact r_iload_n k_255_6 rfl rfl
    (r_aload_n k_255_7 rfl rfl
    (r_getR k_255_8 rfl po_255 rfl rfl rfl rfl (gRat e (LayR.at hL (i := 66) rfl))
    (r_iconst k_255_11 rfl rfl
    (r_iald k_255_12 rfl rfl (by decide)
    (r_icmp (tgt := 45) k_255_13 rfl rfl cop_ge
    (r_iload_n k_255_45 rfl rfl
    (r_ret k_255_46 rfl rfl))
    (r_iload_n k_255_16 rfl rfl
    (r_iload_n k_255_17 rfl rfl
    (r_callI (q_stat (rest := []) (av := [.int x2, .int x3]) k_255_18 po_255 rfl (by decide) rfl rfl rfl rfl) (lvq (j := 0) rfl (by decide +kernel)) rfl rfl (fun r1 σ1 h1 => r_if (tgt := 27) k_255_21 rfl rfl cop_eq
    (r_iinc k_255_27 rfl rfl rfl rfl
    (r_iload_n k_255_30 rfl rfl
    (r_aload_n k_255_31 rfl rfl
    (r_iload_n k_255_32 rfl rfl
    (r_iconst k_255_33 rfl rfl
    (r_callI (q_virt (rest := [.int x2]) (as := [.int x3, .int (ι 0)]) k_255_34 po_255 rfl rfl rfl (rcvO rfl rfl rfl) rfl rfl) (lvq (j := 0) rfl (by decide +kernel)) rfl rfl (fun r2 σ2 h2 => r_ior k_255_37 rfl
    (r_istore_n k_255_38 rfl rfl rfl
    (r_iinc k_255_39 rfl rfl rfl rfl
    (r_goto (tgt := 6) k_255_42 rfl (Le.rfl')))))))))))
    (r_goto (tgt := 39) k_255_24 rfl (r_iinc k_255_39 rfl rfl rfl rfl
    (r_goto (tgt := 6) k_255_42 rfl (Le.rfl')))))))))))))
theorem M_255   {σ : pS} {ρ : Nat → Nat → Option Nat} (e : gR σ = ρ) (hL : LayR ρ) : Le
  (C_255_6 (ι 0) (ι 0) (ι 0) σ)
  (pcall 255 [.ref 61] σ) := by
  show Le _ (den 255 0 0 [.ref 61, .retAddr 0, .retAddr 0, .retAddr 0] [] σ)
  exact r_iconst k_255_0 rfl rfl
    (r_istore_n k_255_1 rfl rfl rfl
    (r_iconst k_255_2 rfl rfl
    (r_istore_n k_255_3 rfl rfl rfl
    (r_iconst k_255_4 rfl rfl
    (r_istore_n k_255_5 rfl rfl rfl
    (Le.rfl'))))))
/-! ===== 256 HedgeWantsModel.reachedFrom ===== -/
theorem k_256_0 : cd 256 0 = some (.iconst 1, 1) := by decide +kernel
theorem k_256_1 : cd 256 1 = some (.iload_n 1, 1) := by decide +kernel
theorem k_256_2 : cd 256 2 = some (.ishl, 1) := by decide +kernel
theorem k_256_3 : cd 256 3 = some (.istore_n 3, 1) := by decide +kernel
theorem k_256_4 : cd 256 4 = some (.iconst 0, 1) := by decide +kernel
theorem k_256_5 : cd 256 5 = some (.istore 4, 2) := by decide +kernel
theorem k_256_7 : cd 256 7 = some (.iload_n 3, 1) := by decide +kernel
theorem k_256_8 : cd 256 8 = some (.iload 4, 2) := by decide +kernel
theorem k_256_10 : cd 256 10 = some (.if_icmp .eq 53, 3) := by decide +kernel
theorem k_256_13 : cd 256 13 = some (.iload_n 3, 1) := by decide +kernel
theorem k_256_14 : cd 256 14 = some (.istore 4, 2) := by decide +kernel
theorem k_256_16 : cd 256 16 = some (.iconst 0, 1) := by decide +kernel
theorem k_256_17 : cd 256 17 = some (.istore 5, 2) := by decide +kernel
theorem k_256_19 : cd 256 19 = some (.iload 5, 2) := by decide +kernel
theorem k_256_21 : cd 256 21 = some (.aload_n 0, 1) := by decide +kernel
theorem k_256_22 : cd 256 22 = some (.getfield 44, 3) := by decide +kernel
theorem k_256_25 : cd 256 25 = some (.iconst 0, 1) := by decide +kernel
theorem k_256_26 : cd 256 26 = some (.iaload, 1) := by decide +kernel
theorem k_256_27 : cd 256 27 = some (.if_icmp .ge 33, 3) := by decide +kernel
theorem k_256_30 : cd 256 30 = some (.iload 4, 2) := by decide +kernel
theorem k_256_32 : cd 256 32 = some (.iload 5, 2) := by decide +kernel
theorem k_256_34 : cd 256 34 = some (.invokestatic 269, 3) := by decide +kernel
theorem k_256_37 : cd 256 37 = some (.ifCond .eq 17, 3) := by decide +kernel
theorem k_256_40 : cd 256 40 = some (.iload_n 3, 1) := by decide +kernel
theorem k_256_41 : cd 256 41 = some (.aload_n 0, 1) := by decide +kernel
theorem k_256_42 : cd 256 42 = some (.getfield 84, 3) := by decide +kernel
theorem k_256_45 : cd 256 45 = some (.iload 5, 2) := by decide +kernel
theorem k_256_47 : cd 256 47 = some (.iaload, 1) := by decide +kernel
theorem k_256_48 : cd 256 48 = some (.iload_n 2, 1) := by decide +kernel
theorem k_256_49 : cd 256 49 = some (.iconst (-1), 1) := by decide +kernel
theorem k_256_50 : cd 256 50 = some (.ixor, 1) := by decide +kernel
theorem k_256_51 : cd 256 51 = some (.iand, 1) := by decide +kernel
theorem k_256_52 : cd 256 52 = some (.ior, 1) := by decide +kernel
theorem k_256_53 : cd 256 53 = some (.istore_n 3, 1) := by decide +kernel
theorem k_256_54 : cd 256 54 = some (.iinc 5 1, 3) := by decide +kernel
theorem k_256_57 : cd 256 57 = some (.goto (-38), 3) := by decide +kernel
theorem k_256_60 : cd 256 60 = some (.goto (-53), 3) := by decide +kernel
theorem k_256_63 : cd 256 63 = some (.iload_n 3, 1) := by decide +kernel
theorem k_256_64 : cd 256 64 = some (.ireturn, 1) := by decide +kernel
theorem po_256 : po 256 = 9 := rfl
noncomputable def C_256_7  (v1 : Value) (x2 : Int32) (x3 : Int32) (x4 : Int32) (v5 : Value) (σ : pS) : Option pZ := den 256 0 7 [.ref 61, v1, .int x2, .int x3, .int x4, v5] [] σ
noncomputable def C_256_19  (v1 : Value) (x2 : Int32) (x3 : Int32) (x4 : Int32) (x5 : Int32) (σ : pS) : Option pZ := den 256 0 19 [.ref 61, v1, .int x2, .int x3, .int x4, .int x5] [] σ
theorem T_256_7  {v1 : Value} {x2 : Int32} {x3 : Int32} {x4 : Int32} {v5 : Value}  {σ : pS} {ρ : Nat → Nat → Option Nat} (e : gR σ = ρ) (hL : LayR ρ) : Le
  (if x3 = x4 then some (1, .int x3, σ) else C_256_19 v1 x2 x3 x3 (ι 0) σ)
  (C_256_7  v1 x2 x3 x4 v5 σ) := by
  unfold C_256_7
  exact r_iload_n k_256_7 rfl rfl
    (r_iload k_256_8 rfl rfl
    (r_icmp (tgt := 63) k_256_10 rfl rfl cop_eq
    (r_iload_n k_256_63 rfl rfl
    (r_ret k_256_64 rfl rfl))
    (r_iload_n k_256_13 rfl rfl
    (r_istore k_256_14 rfl rfl rfl
    (r_iconst k_256_16 rfl rfl
    (r_istore k_256_17 rfl rfl rfl
    (Le.rfl')))))))
theorem T_256_19  {v1 : Value} {x2 : Int32} {x3 : Int32} {x4 : Int32} {x5 : Int32}  {σ : pS} {ρ : Nat → Nat → Option Nat} (e : gR σ = ρ) (hL : LayR ρ) : Le
  (if (gI σ 65 0) ≤ x5 then C_256_7 v1 x2 x3 x4 (.int x5) σ else bI (pcall 236 [.int x4, .int x5] σ) fun r1 σ1 => if r1 = (ι 0) then C_256_19 v1 x2 x3 x4 (x5 + (ι 1)) σ1 else gd (inb x5 8) (C_256_19 v1 x2 (x3 ||| ((gI σ1 78 (ix x5)) &&& (x2 ^^^ (ν 1)))) x4 (x5 + (ι 1)) σ1))
  (C_256_19  v1 x2 x3 x4 x5 σ) := by
  unfold C_256_19
  exact r_iload k_256_19 rfl rfl
    (r_aload_n k_256_21 rfl rfl
    (r_getR k_256_22 rfl po_256 rfl rfl rfl rfl (gRat e (LayR.at hL (i := 66) rfl))
    (r_iconst k_256_25 rfl rfl
    (r_iald k_256_26 rfl rfl (by decide)
    (r_icmp (tgt := 60) k_256_27 rfl rfl cop_ge
    (r_goto (tgt := 7) k_256_60 rfl (Le.rfl'))
    (r_iload k_256_30 rfl rfl
    (r_iload k_256_32 rfl rfl
    (r_callI (q_stat (rest := []) (av := [.int x4, .int x5]) k_256_34 po_256 rfl (by decide) rfl rfl rfl rfl) (lvq (j := 0) rfl (by decide +kernel)) rfl rfl (fun r1 σ1 h1 => r_if (tgt := 54) k_256_37 rfl rfl cop_eq
    (r_iinc k_256_54 rfl rfl rfl rfl
    (r_goto (tgt := 19) k_256_57 rfl (Le.rfl')))
    (r_iload_n k_256_40 rfl rfl
    (r_aload_n k_256_41 rfl rfl
    (r_getR k_256_42 rfl po_256 rfl rfl rfl rfl (gRat (eC rfl h1 e) (LayR.at hL (i := 79) rfl))
    (r_iload k_256_45 rfl rfl
    (r_gd fun g => r_iald k_256_47 rfl rfl g
    (r_iload_n k_256_48 rfl rfl
    (r_iconst k_256_49 rfl rfl
    (r_ixor k_256_50 rfl
    (r_iand k_256_51 rfl
    (r_ior k_256_52 rfl
    (r_istore_n k_256_53 rfl rfl rfl
    (r_iinc k_256_54 rfl rfl rfl rfl
    (r_goto (tgt := 19) k_256_57 rfl (Le.rfl')))))))))))))))))))))))
theorem M_256  {x0 : Int32} {x1 : Int32} {σ : pS} {ρ : Nat → Nat → Option Nat} (e : gR σ = ρ) (hL : LayR ρ) : Le
  (C_256_7 (.int x0) x1 (shl' (ι 1) x0) (ι 0) (.retAddr 0) σ)
  (pcall 256 [.ref 61, .int x0, .int x1] σ) := by
  show Le _ (den 256 0 0 [.ref 61, .int x0, .int x1, .retAddr 0, .retAddr 0, .retAddr 0] [] σ)
  exact r_iconst k_256_0 rfl rfl
    (r_iload_n k_256_1 rfl rfl
    (r_ishl k_256_2 rfl
    (r_istore_n k_256_3 rfl rfl rfl
    (r_iconst k_256_4 rfl rfl
    (r_istore k_256_5 rfl rfl rfl
    (Le.rfl'))))))
/-! ===== 257 HedgeWantsModel.hedgesNow ===== -/
theorem k_257_0 : cd 257 0 = some (.iconst 0, 1) := by decide +kernel
theorem k_257_1 : cd 257 1 = some (.istore_n 1, 1) := by decide +kernel
theorem k_257_2 : cd 257 2 = some (.iconst 0, 1) := by decide +kernel
theorem k_257_3 : cd 257 3 = some (.istore_n 2, 1) := by decide +kernel
theorem k_257_4 : cd 257 4 = some (.iload_n 2, 1) := by decide +kernel
theorem k_257_5 : cd 257 5 = some (.aload_n 0, 1) := by decide +kernel
theorem k_257_6 : cd 257 6 = some (.getfield 44, 3) := by decide +kernel
theorem k_257_9 : cd 257 9 = some (.iconst 0, 1) := by decide +kernel
theorem k_257_10 : cd 257 10 = some (.iaload, 1) := by decide +kernel
theorem k_257_11 : cd 257 11 = some (.if_icmp .ge 21, 3) := by decide +kernel
theorem k_257_14 : cd 257 14 = some (.iload_n 1, 1) := by decide +kernel
theorem k_257_15 : cd 257 15 = some (.aload_n 0, 1) := by decide +kernel
theorem k_257_16 : cd 257 16 = some (.getfield 84, 3) := by decide +kernel
theorem k_257_19 : cd 257 19 = some (.iload_n 2, 1) := by decide +kernel
theorem k_257_20 : cd 257 20 = some (.iaload, 1) := by decide +kernel
theorem k_257_21 : cd 257 21 = some (.invokestatic 334, 3) := by decide +kernel
theorem k_257_24 : cd 257 24 = some (.iadd, 1) := by decide +kernel
theorem k_257_25 : cd 257 25 = some (.istore_n 1, 1) := by decide +kernel
theorem k_257_26 : cd 257 26 = some (.iinc 2 1, 3) := by decide +kernel
theorem k_257_29 : cd 257 29 = some (.goto (-25), 3) := by decide +kernel
theorem k_257_32 : cd 257 32 = some (.iload_n 1, 1) := by decide +kernel
theorem k_257_33 : cd 257 33 = some (.iconst 2, 1) := by decide +kernel
theorem k_257_34 : cd 257 34 = some (.idiv, 1) := by decide +kernel
theorem k_257_35 : cd 257 35 = some (.ireturn, 1) := by decide +kernel
theorem po_257 : po 257 = 9 := rfl
noncomputable def C_257_4  (x1 : Int32) (x2 : Int32) (σ : pS) : Option pZ := den 257 0 4 [.ref 61, .int x1, .int x2] [] σ
theorem T_257_4  {x1 : Int32} {x2 : Int32}  {σ : pS} {ρ : Nat → Nat → Option Nat} (e : gR σ = ρ) (hL : LayR ρ) : Le
  (if (gI σ 65 0) ≤ x2 then some (1, .int (x1 / (ι 2)), σ) else gd (inb x2 8) (bI (pcall 247 [.int (gI σ 78 (ix x2))] σ) fun r1 σ1 => C_257_4 (x1 + r1) (x2 + (ι 1)) σ1))
  (C_257_4  x1 x2 σ) := by
  unfold C_257_4
  exact r_iload_n k_257_4 rfl rfl
    (r_aload_n k_257_5 rfl rfl
    (r_getR k_257_6 rfl po_257 rfl rfl rfl rfl (gRat e (LayR.at hL (i := 66) rfl))
    (r_iconst k_257_9 rfl rfl
    (r_iald k_257_10 rfl rfl (by decide)
    (r_icmp (tgt := 32) k_257_11 rfl rfl cop_ge
    (r_iload_n k_257_32 rfl rfl
    (r_iconst k_257_33 rfl rfl
    (r_idiv k_257_34 rfl (by decide)
    (r_ret k_257_35 rfl rfl))))
    (r_iload_n k_257_14 rfl rfl
    (r_aload_n k_257_15 rfl rfl
    (r_getR k_257_16 rfl po_257 rfl rfl rfl rfl (gRat e (LayR.at hL (i := 79) rfl))
    (r_iload_n k_257_19 rfl rfl
    (r_gd fun g => r_iald k_257_20 rfl rfl g
    (r_callI (q_stat (rest := [.int x1]) (av := [.int (gI σ 78 (ix x2))]) k_257_21 po_257 rfl (by decide) rfl rfl rfl rfl) (lvq (j := 0) rfl (by decide +kernel)) rfl rfl (fun r1 σ1 h1 => r_iadd k_257_24 rfl
    (r_istore_n k_257_25 rfl rfl rfl
    (r_iinc k_257_26 rfl rfl rfl rfl
    (r_goto (tgt := 4) k_257_29 rfl (Le.rfl'))))))))))))))))
theorem M_257   {σ : pS} {ρ : Nat → Nat → Option Nat} (e : gR σ = ρ) (hL : LayR ρ) : Le
  (C_257_4 (ι 0) (ι 0) σ)
  (pcall 257 [.ref 61] σ) := by
  show Le _ (den 257 0 0 [.ref 61, .retAddr 0, .retAddr 0] [] σ)
  exact r_iconst k_257_0 rfl rfl
    (r_istore_n k_257_1 rfl rfl rfl
    (r_iconst k_257_2 rfl rfl
    (r_istore_n k_257_3 rfl rfl rfl
    (Le.rfl'))))
/-! ===== 258 HedgeWantsModel.allRun ===== -/
theorem k_258_0 : cd 258 0 = some (.iconst 0, 1) := by decide +kernel
theorem k_258_1 : cd 258 1 = some (.istore_n 1, 1) := by decide +kernel
theorem k_258_2 : cd 258 2 = some (.iconst 0, 1) := by decide +kernel
theorem k_258_3 : cd 258 3 = some (.istore_n 2, 1) := by decide +kernel
theorem k_258_4 : cd 258 4 = some (.iload_n 2, 1) := by decide +kernel
theorem k_258_5 : cd 258 5 = some (.aload_n 0, 1) := by decide +kernel
theorem k_258_6 : cd 258 6 = some (.getfield 44, 3) := by decide +kernel
theorem k_258_9 : cd 258 9 = some (.iconst 1, 1) := by decide +kernel
theorem k_258_10 : cd 258 10 = some (.iaload, 1) := by decide +kernel
theorem k_258_11 : cd 258 11 = some (.if_icmp .ge 18, 3) := by decide +kernel
theorem k_258_14 : cd 258 14 = some (.iload_n 1, 1) := by decide +kernel
theorem k_258_15 : cd 258 15 = some (.aload_n 0, 1) := by decide +kernel
theorem k_258_16 : cd 258 16 = some (.getfield 80, 3) := by decide +kernel
theorem k_258_19 : cd 258 19 = some (.iload_n 2, 1) := by decide +kernel
theorem k_258_20 : cd 258 20 = some (.iaload, 1) := by decide +kernel
theorem k_258_21 : cd 258 21 = some (.iadd, 1) := by decide +kernel
theorem k_258_22 : cd 258 22 = some (.istore_n 1, 1) := by decide +kernel
theorem k_258_23 : cd 258 23 = some (.iinc 2 1, 3) := by decide +kernel
theorem k_258_26 : cd 258 26 = some (.goto (-22), 3) := by decide +kernel
theorem k_258_29 : cd 258 29 = some (.iload_n 1, 1) := by decide +kernel
theorem k_258_30 : cd 258 30 = some (.ireturn, 1) := by decide +kernel
theorem po_258 : po 258 = 9 := rfl
noncomputable def C_258_4  (x1 : Int32) (x2 : Int32) (σ : pS) : Option pZ := den 258 0 4 [.ref 61, .int x1, .int x2] [] σ
theorem T_258_4  {x1 : Int32} {x2 : Int32}  {σ : pS} {ρ : Nat → Nat → Option Nat} (e : gR σ = ρ) (hL : LayR ρ) : Le
  (if (gI σ 65 1) ≤ x2 then some (1, .int x1, σ) else gd (inb x2 12) (C_258_4 (x1 + (gI σ 76 (ix x2))) (x2 + (ι 1)) σ))
  (C_258_4  x1 x2 σ) := by
  unfold C_258_4
  exact r_iload_n k_258_4 rfl rfl
    (r_aload_n k_258_5 rfl rfl
    (r_getR k_258_6 rfl po_258 rfl rfl rfl rfl (gRat e (LayR.at hL (i := 66) rfl))
    (r_iconst k_258_9 rfl rfl
    (r_iald k_258_10 rfl rfl (by decide)
    (r_icmp (tgt := 29) k_258_11 rfl rfl cop_ge
    (r_iload_n k_258_29 rfl rfl
    (r_ret k_258_30 rfl rfl))
    (r_iload_n k_258_14 rfl rfl
    (r_aload_n k_258_15 rfl rfl
    (r_getR k_258_16 rfl po_258 rfl rfl rfl rfl (gRat e (LayR.at hL (i := 77) rfl))
    (r_iload_n k_258_19 rfl rfl
    (r_gd fun g => r_iald k_258_20 rfl rfl g
    (r_iadd k_258_21 rfl
    (r_istore_n k_258_22 rfl rfl rfl
    (r_iinc k_258_23 rfl rfl rfl rfl
    (r_goto (tgt := 4) k_258_26 rfl (Le.rfl')))))))))))))))
theorem M_258   {σ : pS} {ρ : Nat → Nat → Option Nat} (e : gR σ = ρ) (hL : LayR ρ) : Le
  (C_258_4 (ι 0) (ι 0) σ)
  (pcall 258 [.ref 61] σ) := by
  show Le _ (den 258 0 0 [.ref 61, .retAddr 0, .retAddr 0] [] σ)
  exact r_iconst k_258_0 rfl rfl
    (r_istore_n k_258_1 rfl rfl rfl
    (r_iconst k_258_2 rfl rfl
    (r_istore_n k_258_3 rfl rfl rfl
    (Le.rfl'))))
/-! ===== 259 HedgeWantsModel.person ===== -/
theorem k_259_0 : cd 259 0 = some (.aload_n 0, 1) := by decide +kernel
theorem k_259_1 : cd 259 1 = some (.iconst 0, 1) := by decide +kernel
theorem k_259_2 : cd 259 2 = some (.putfield 145, 3) := by decide +kernel
theorem k_259_5 : cd 259 5 = some (.aload_n 0, 1) := by decide +kernel
theorem k_259_6 : cd 259 6 = some (.iload_n 1, 1) := by decide +kernel
theorem k_259_7 : cd 259 7 = some (.invokevirtual 390, 3) := by decide +kernel
theorem k_259_10 : cd 259 10 = some (.ifCond .ne 9, 3) := by decide +kernel
theorem k_259_13 : cd 259 13 = some (.aload_n 0, 1) := by decide +kernel
theorem k_259_14 : cd 259 14 = some (.iconst 1, 1) := by decide +kernel
theorem k_259_15 : cd 259 15 = some (.invokevirtual 290, 3) := by decide +kernel
theorem k_259_18 : cd 259 18 = some (.ireturn, 1) := by decide +kernel
theorem k_259_19 : cd 259 19 = some (.iload_n 2, 1) := by decide +kernel
theorem k_259_20 : cd 259 20 = some (.tableswitch 68 0 4 #[36, 43, 49, 55, 62], 36) := by decide +kernel
theorem k_259_56 : cd 259 56 = some (.aload_n 0, 1) := by decide +kernel
theorem k_259_57 : cd 259 57 = some (.getfield 48, 3) := by decide +kernel
theorem k_259_60 : cd 259 60 = some (.iload_n 1, 1) := by decide +kernel
theorem k_259_61 : cd 259 61 = some (.iaload, 1) := by decide +kernel
theorem k_259_62 : cd 259 62 = some (.ireturn, 1) := by decide +kernel
theorem k_259_63 : cd 259 63 = some (.aload_n 0, 1) := by decide +kernel
theorem k_259_64 : cd 259 64 = some (.iload_n 1, 1) := by decide +kernel
theorem k_259_65 : cd 259 65 = some (.invokevirtual 331, 3) := by decide +kernel
theorem k_259_68 : cd 259 68 = some (.ireturn, 1) := by decide +kernel
theorem k_259_69 : cd 259 69 = some (.aload_n 0, 1) := by decide +kernel
theorem k_259_70 : cd 259 70 = some (.iload_n 1, 1) := by decide +kernel
theorem k_259_71 : cd 259 71 = some (.invokevirtual 359, 3) := by decide +kernel
theorem k_259_74 : cd 259 74 = some (.ireturn, 1) := by decide +kernel
theorem k_259_75 : cd 259 75 = some (.aload_n 0, 1) := by decide +kernel
theorem k_259_76 : cd 259 76 = some (.getfield 84, 3) := by decide +kernel
theorem k_259_79 : cd 259 79 = some (.iload_n 1, 1) := by decide +kernel
theorem k_259_80 : cd 259 80 = some (.iaload, 1) := by decide +kernel
theorem k_259_81 : cd 259 81 = some (.ireturn, 1) := by decide +kernel
theorem k_259_82 : cd 259 82 = some (.aload_n 0, 1) := by decide +kernel
theorem k_259_83 : cd 259 83 = some (.iload_n 1, 1) := by decide +kernel
theorem k_259_84 : cd 259 84 = some (.invokevirtual 393, 3) := by decide +kernel
theorem k_259_87 : cd 259 87 = some (.ireturn, 1) := by decide +kernel
theorem k_259_88 : cd 259 88 = some (.aload_n 0, 1) := by decide +kernel
theorem k_259_89 : cd 259 89 = some (.iconst 1, 1) := by decide +kernel
theorem k_259_90 : cd 259 90 = some (.invokevirtual 290, 3) := by decide +kernel
theorem k_259_93 : cd 259 93 = some (.ireturn, 1) := by decide +kernel
theorem po_259 : po 259 = 9 := rfl
theorem M_259  {x0 : Int32} {x1 : Int32} {σ : pS} {ρ : Nat → Nat → Option Nat} (e : gR σ = ρ) (hL : LayR ρ) : Le
  (bI (pcall 260 [.ref 61, .int x0] (sI σ 61 4 (ι 0))) fun r1 σ1 => if ¬ r1 = (ι 0) then if x1 = (ι 0) then gd (inb x0 16) (some (1, .int (gI σ1 66 (ix x0)), σ1)) else if x1 = (ι 1) then bI (pcall 246 [.ref 61, .int x0] σ1) fun r8 σ8 => some (1, .int r8, σ8) else if x1 = (ι 2) then bI (pcall 252 [.ref 61, .int x0] σ1) fun r6 σ6 => some (1, .int r6, σ6) else if x1 = (ι 3) then gd (inb x0 8) (some (1, .int (gI σ1 78 (ix x0)), σ1)) else if x1 = (ι 4) then bI (pcall 262 [.ref 61, .int x0] σ1) fun r3 σ3 => some (1, .int r3, σ3) else gd (x1.toInt < 0 ∨ 4 < x1.toInt) (bI (pcall 211 [.ref 61, .int (ι 1)] σ1) fun r2 σ2 => some (1, .int r2, σ2)) else bI (pcall 211 [.ref 61, .int (ι 1)] σ1) fun r11 σ11 => some (1, .int r11, σ11))
  (pcall 259 [.ref 61, .int x0, .int x1] σ) := by
  show Le _ (den 259 0 0 [.ref 61, .int x0, .int x1] [] σ)
  exact r_aload_n k_259_0 rfl rfl
    (r_iconst k_259_1 rfl rfl
    (r_putI k_259_2 rfl po_259 rfl rfl rfl
    (r_aload_n k_259_5 rfl rfl
    (r_iload_n k_259_6 rfl rfl
    (r_callI (q_virt (rest := []) (as := [.int x0]) k_259_7 po_259 rfl rfl rfl (rcvO rfl rfl rfl) rfl rfl) (lvq (j := 0) rfl (by decide +kernel)) rfl rfl (fun r1 σ1 h1 => r_if (tgt := 19) k_259_10 rfl rfl cop_ne
    (r_iload_n k_259_19 rfl rfl
    (r_case (fun c10 => r_tabGo (off := 36) (tgt := 56) c10 k_259_20 (by decide) (by decide) rfl (r_aload_n k_259_56 rfl rfl
    (r_getR k_259_57 rfl po_259 rfl rfl rfl rfl (gRat (eC rfl h1 (eI e)) (LayR.at hL (i := 67) rfl))
    (r_iload_n k_259_60 rfl rfl
    (r_gd fun g => r_iald k_259_61 rfl rfl g
    (r_ret k_259_62 rfl rfl)))))) (fun _ => r_case (fun c9 => r_tabGo (off := 43) (tgt := 63) c9 k_259_20 (by decide) (by decide) rfl (r_aload_n k_259_63 rfl rfl
    (r_iload_n k_259_64 rfl rfl
    (r_callI (q_virt (rest := []) (as := [.int x0]) k_259_65 po_259 rfl rfl rfl (rcvO rfl rfl rfl) rfl rfl) (lvq (j := 0) rfl (by decide +kernel)) rfl rfl (fun r8 σ8 h8 => r_ret k_259_68 rfl rfl))))) (fun _ => r_case (fun c7 => r_tabGo (off := 49) (tgt := 69) c7 k_259_20 (by decide) (by decide) rfl (r_aload_n k_259_69 rfl rfl
    (r_iload_n k_259_70 rfl rfl
    (r_callI (q_virt (rest := []) (as := [.int x0]) k_259_71 po_259 rfl rfl rfl (rcvO rfl rfl rfl) rfl rfl) (lvq (j := 0) rfl (by decide +kernel)) rfl rfl (fun r6 σ6 h6 => r_ret k_259_74 rfl rfl))))) (fun _ => r_case (fun c5 => r_tabGo (off := 55) (tgt := 75) c5 k_259_20 (by decide) (by decide) rfl (r_aload_n k_259_75 rfl rfl
    (r_getR k_259_76 rfl po_259 rfl rfl rfl rfl (gRat (eC rfl h1 (eI e)) (LayR.at hL (i := 79) rfl))
    (r_iload_n k_259_79 rfl rfl
    (r_gd fun g => r_iald k_259_80 rfl rfl g
    (r_ret k_259_81 rfl rfl)))))) (fun _ => r_case (fun c4 => r_tabGo (off := 62) (tgt := 82) c4 k_259_20 (by decide) (by decide) rfl (r_aload_n k_259_82 rfl rfl
    (r_iload_n k_259_83 rfl rfl
    (r_callI (q_virt (rest := []) (as := [.int x0]) k_259_84 po_259 rfl rfl rfl (rcvO rfl rfl rfl) rfl rfl) (lvq (j := 0) rfl (by decide +kernel)) rfl rfl (fun r3 σ3 h3 => r_ret k_259_87 rfl rfl))))) (fun _ => r_gd fun g => r_tabOut (tgt := 88) k_259_20 g rfl (r_aload_n k_259_88 rfl rfl
    (r_iconst k_259_89 rfl rfl
    (r_callI (q_virt (rest := []) (as := [.int (ι 1)]) k_259_90 po_259 rfl rfl rfl (rcvO rfl rfl rfl) rfl rfl) (lvq (j := 0) rfl (by decide +kernel)) rfl rfl (fun r2 σ2 h2 => r_ret k_259_93 rfl rfl)))))))))))
    (r_aload_n k_259_13 rfl rfl
    (r_iconst k_259_14 rfl rfl
    (r_callI (q_virt (rest := []) (as := [.int (ι 1)]) k_259_15 po_259 rfl rfl rfl (rcvO rfl rfl rfl) rfl rfl) (lvq (j := 0) rfl (by decide +kernel)) rfl rfl (fun r11 σ11 h11 => r_ret k_259_18 rfl rfl))))))))))
/-! ===== 260 HedgeWantsModel.isPerson ===== -/
theorem k_260_0 : cd 260 0 = some (.iload_n 1, 1) := by decide +kernel
theorem k_260_1 : cd 260 1 = some (.i2l, 1) := by decide +kernel
theorem k_260_2 : cd 260 2 = some (.lconst 0, 1) := by decide +kernel
theorem k_260_3 : cd 260 3 = some (.aload_n 0, 1) := by decide +kernel
theorem k_260_4 : cd 260 4 = some (.getfield 44, 3) := by decide +kernel
theorem k_260_7 : cd 260 7 = some (.iconst 0, 1) := by decide +kernel
theorem k_260_8 : cd 260 8 = some (.iaload, 1) := by decide +kernel
theorem k_260_9 : cd 260 9 = some (.iconst 1, 1) := by decide +kernel
theorem k_260_10 : cd 260 10 = some (.isub, 1) := by decide +kernel
theorem k_260_11 : cd 260 11 = some (.i2l, 1) := by decide +kernel
theorem k_260_12 : cd 260 12 = some (.invokestatic 148, 3) := by decide +kernel
theorem k_260_15 : cd 260 15 = some (.ireturn, 1) := by decide +kernel
theorem po_260 : po 260 = 9 := rfl
theorem M_260  {x0 : Int32} {σ : pS} {ρ : Nat → Nat → Option Nat} (e : gR σ = ρ) (hL : LayR ρ) : Le
  (bI (pcall 261 [.long x0.toInt64, .long (0 : Int64), .long (((gI σ 65 0) - (ι 1)).toInt64)] σ) fun r1 σ1 => gd (narrow .boolean (.int r1) = .int r1) (some (1, .int r1, σ1)))
  (pcall 260 [.ref 61, .int x0] σ) := by
  show Le _ (den 260 0 0 [.ref 61, .int x0] [] σ)
  exact r_iload_n k_260_0 rfl rfl
    (r_i2l k_260_1 rfl
    (r_lconst k_260_2 rfl rfl
    (r_aload_n k_260_3 rfl rfl
    (r_getR k_260_4 rfl po_260 rfl rfl rfl rfl (gRat e (LayR.at hL (i := 66) rfl))
    (r_iconst k_260_7 rfl rfl
    (r_iald k_260_8 rfl rfl (by decide)
    (r_iconst k_260_9 rfl rfl
    (r_isub k_260_10 rfl
    (r_i2l k_260_11 rfl
    (r_callI (q_stat (rest := []) (av := [.long x0.toInt64, .long (0 : Int64), .long (((gI σ 65 0) - (ι 1)).toInt64)]) k_260_12 po_260 rfl (by decide) rfl rfl rfl rfl) (lvq (j := 0) rfl (by decide +kernel)) rfl rfl (fun r1 σ1 h1 => r_gd fun g => r_ret k_260_15 rfl g)))))))))))
/-! ===== 261 HedgeWantsModel.isIn ===== -/
theorem k_261_0 : cd 261 0 = some (.lload_n 0, 1) := by decide +kernel
theorem k_261_1 : cd 261 1 = some (.lload_n 2, 1) := by decide +kernel
theorem k_261_2 : cd 261 2 = some (.lcmp, 1) := by decide +kernel
theorem k_261_3 : cd 261 3 = some (.ifCond .lt 14, 3) := by decide +kernel
theorem k_261_6 : cd 261 6 = some (.lload_n 0, 1) := by decide +kernel
theorem k_261_7 : cd 261 7 = some (.lload 4, 2) := by decide +kernel
theorem k_261_9 : cd 261 9 = some (.lcmp, 1) := by decide +kernel
theorem k_261_10 : cd 261 10 = some (.ifCond .gt 7, 3) := by decide +kernel
theorem k_261_13 : cd 261 13 = some (.iconst 1, 1) := by decide +kernel
theorem k_261_14 : cd 261 14 = some (.goto 4, 3) := by decide +kernel
theorem k_261_17 : cd 261 17 = some (.iconst 0, 1) := by decide +kernel
theorem k_261_18 : cd 261 18 = some (.ireturn, 1) := by decide +kernel
theorem po_261 : po 261 = 9 := rfl
theorem M_261  {x0 : Int64} {x1 : Int64} {x2 : Int64} {σ : pS} {ρ : Nat → Nat → Option Nat} (e : gR σ = ρ) (hL : LayR ρ) : Le
  (if (lg_cmp x0 x1) < (ι 0) then some (1, .int (ι 0), σ) else if (ι 0) < (lg_cmp x0 x2) then some (1, .int (ι 0), σ) else some (1, .int (ι 1), σ))
  (pcall 261 [.long x0, .long x1, .long x2] σ) := by
  show Le _ (den 261 0 0 [.long x0, .retAddr 1, .long x1, .retAddr 1, .long x2, .retAddr 1] [] σ)
  exact r_lload_n k_261_0 rfl rfl rfl
    (r_lload_n k_261_1 rfl rfl rfl
    (r_lcmp k_261_2 rfl
    (r_if (tgt := 17) k_261_3 rfl rfl cop_lt
    (r_iconst k_261_17 rfl rfl
    (r_ret k_261_18 rfl rfl))
    (r_lload_n k_261_6 rfl rfl rfl
    (r_lload k_261_7 rfl rfl rfl
    (r_lcmp k_261_9 rfl
    (r_if (tgt := 17) k_261_10 rfl rfl cop_gt
    (r_iconst k_261_17 rfl rfl
    (r_ret k_261_18 rfl rfl))
    (r_iconst k_261_13 rfl rfl
    (r_goto (tgt := 18) k_261_14 rfl (r_ret k_261_18 rfl rfl))))))))))
/-! ===== 262 HedgeWantsModel.wantedOf ===== -/
theorem k_262_0 : cd 262 0 = some (.iconst 0, 1) := by decide +kernel
theorem k_262_1 : cd 262 1 = some (.istore_n 2, 1) := by decide +kernel
theorem k_262_2 : cd 262 2 = some (.iconst 0, 1) := by decide +kernel
theorem k_262_3 : cd 262 3 = some (.istore_n 3, 1) := by decide +kernel
theorem k_262_4 : cd 262 4 = some (.iload_n 3, 1) := by decide +kernel
theorem k_262_5 : cd 262 5 = some (.aload_n 0, 1) := by decide +kernel
theorem k_262_6 : cd 262 6 = some (.getfield 44, 3) := by decide +kernel
theorem k_262_9 : cd 262 9 = some (.iconst 1, 1) := by decide +kernel
theorem k_262_10 : cd 262 10 = some (.iaload, 1) := by decide +kernel
theorem k_262_11 : cd 262 11 = some (.if_icmp .ge 28, 3) := by decide +kernel
theorem k_262_14 : cd 262 14 = some (.iload_n 2, 1) := by decide +kernel
theorem k_262_15 : cd 262 15 = some (.aload_n 0, 1) := by decide +kernel
theorem k_262_16 : cd 262 16 = some (.iload_n 1, 1) := by decide +kernel
theorem k_262_17 : cd 262 17 = some (.iload_n 3, 1) := by decide +kernel
theorem k_262_18 : cd 262 18 = some (.invokevirtual 341, 3) := by decide +kernel
theorem k_262_21 : cd 262 21 = some (.ifCond .eq 9, 3) := by decide +kernel
theorem k_262_24 : cd 262 24 = some (.iconst 1, 1) := by decide +kernel
theorem k_262_25 : cd 262 25 = some (.iload_n 3, 1) := by decide +kernel
theorem k_262_26 : cd 262 26 = some (.ishl, 1) := by decide +kernel
theorem k_262_27 : cd 262 27 = some (.goto 4, 3) := by decide +kernel
theorem k_262_30 : cd 262 30 = some (.iconst 0, 1) := by decide +kernel
theorem k_262_31 : cd 262 31 = some (.ior, 1) := by decide +kernel
theorem k_262_32 : cd 262 32 = some (.istore_n 2, 1) := by decide +kernel
theorem k_262_33 : cd 262 33 = some (.iinc 3 1, 3) := by decide +kernel
theorem k_262_36 : cd 262 36 = some (.goto (-32), 3) := by decide +kernel
theorem k_262_39 : cd 262 39 = some (.iload_n 2, 1) := by decide +kernel
theorem k_262_40 : cd 262 40 = some (.ireturn, 1) := by decide +kernel
theorem po_262 : po 262 = 9 := rfl
noncomputable def C_262_4  (x1 : Int32) (x2 : Int32) (x3 : Int32) (σ : pS) : Option pZ := den 262 0 4 [.ref 61, .int x1, .int x2, .int x3] [] σ
theorem T_262_4  {x1 : Int32} {x2 : Int32} {x3 : Int32}  {σ : pS} {ρ : Nat → Nat → Option Nat} (e : gR σ = ρ) (hL : LayR ρ) : Le
  (if (gI σ 65 1) ≤ x3 then some (1, .int x2, σ) else bI (pcall 243 [.ref 61, .int x1, .int x3] σ) fun r1 σ1 => if r1 = (ι 0) then C_262_4 x1 (x2 ||| (ι 0)) (x3 + (ι 1)) σ1 else C_262_4 x1 (x2 ||| (shl' (ι 1) x3)) (x3 + (ι 1)) σ1)
  (C_262_4  x1 x2 x3 σ) := by
  unfold C_262_4
  exact r_iload_n k_262_4 rfl rfl
    (r_aload_n k_262_5 rfl rfl
    (r_getR k_262_6 rfl po_262 rfl rfl rfl rfl (gRat e (LayR.at hL (i := 66) rfl))
    (r_iconst k_262_9 rfl rfl
    (r_iald k_262_10 rfl rfl (by decide)
    (r_icmp (tgt := 39) k_262_11 rfl rfl cop_ge
    (r_iload_n k_262_39 rfl rfl
    (r_ret k_262_40 rfl rfl))
    (r_iload_n k_262_14 rfl rfl
    (r_aload_n k_262_15 rfl rfl
    (r_iload_n k_262_16 rfl rfl
    (r_iload_n k_262_17 rfl rfl
    (r_callI (q_virt (rest := [.int x2]) (as := [.int x1, .int x3]) k_262_18 po_262 rfl rfl rfl (rcvO rfl rfl rfl) rfl rfl) (lvq (j := 0) rfl (by decide +kernel)) rfl rfl (fun r1 σ1 h1 => r_if (tgt := 30) k_262_21 rfl rfl cop_eq
    (r_iconst k_262_30 rfl rfl
    (r_ior k_262_31 rfl
    (r_istore_n k_262_32 rfl rfl rfl
    (r_iinc k_262_33 rfl rfl rfl rfl
    (r_goto (tgt := 4) k_262_36 rfl (Le.rfl'))))))
    (r_iconst k_262_24 rfl rfl
    (r_iload_n k_262_25 rfl rfl
    (r_ishl k_262_26 rfl
    (r_goto (tgt := 31) k_262_27 rfl (r_ior k_262_31 rfl
    (r_istore_n k_262_32 rfl rfl rfl
    (r_iinc k_262_33 rfl rfl rfl rfl
    (r_goto (tgt := 4) k_262_36 rfl (Le.rfl'))))))))))))))))))))
theorem M_262  {x0 : Int32} {σ : pS} {ρ : Nat → Nat → Option Nat} (e : gR σ = ρ) (hL : LayR ρ) : Le
  (C_262_4 x0 (ι 0) (ι 0) σ)
  (pcall 262 [.ref 61, .int x0] σ) := by
  show Le _ (den 262 0 0 [.ref 61, .int x0, .retAddr 0, .retAddr 0] [] σ)
  exact r_iconst k_262_0 rfl rfl
    (r_istore_n k_262_1 rfl rfl rfl
    (r_iconst k_262_2 rfl rfl
    (r_istore_n k_262_3 rfl rfl rfl
    (Le.rfl'))))
/-! ===== 263 HedgeWantsModel.thing ===== -/
theorem k_263_0 : cd 263 0 = some (.aload_n 0, 1) := by decide +kernel
theorem k_263_1 : cd 263 1 = some (.iconst 0, 1) := by decide +kernel
theorem k_263_2 : cd 263 2 = some (.putfield 145, 3) := by decide +kernel
theorem k_263_5 : cd 263 5 = some (.aload_n 0, 1) := by decide +kernel
theorem k_263_6 : cd 263 6 = some (.iload_n 1, 1) := by decide +kernel
theorem k_263_7 : cd 263 7 = some (.invokevirtual 396, 3) := by decide +kernel
theorem k_263_10 : cd 263 10 = some (.ifCond .ne 9, 3) := by decide +kernel
theorem k_263_13 : cd 263 13 = some (.aload_n 0, 1) := by decide +kernel
theorem k_263_14 : cd 263 14 = some (.iconst 1, 1) := by decide +kernel
theorem k_263_15 : cd 263 15 = some (.invokevirtual 290, 3) := by decide +kernel
theorem k_263_18 : cd 263 18 = some (.ireturn, 1) := by decide +kernel
theorem k_263_19 : cd 263 19 = some (.iload_n 2, 1) := by decide +kernel
theorem k_263_20 : cd 263 20 = some (.tableswitch 79 0 5 #[40, 47, 54, 60, 66, 73], 40) := by decide +kernel
theorem k_263_60 : cd 263 60 = some (.aload_n 0, 1) := by decide +kernel
theorem k_263_61 : cd 263 61 = some (.getfield 77, 3) := by decide +kernel
theorem k_263_64 : cd 263 64 = some (.iload_n 1, 1) := by decide +kernel
theorem k_263_65 : cd 263 65 = some (.iaload, 1) := by decide +kernel
theorem k_263_66 : cd 263 66 = some (.ireturn, 1) := by decide +kernel
theorem k_263_67 : cd 263 67 = some (.aload_n 0, 1) := by decide +kernel
theorem k_263_68 : cd 263 68 = some (.getfield 80, 3) := by decide +kernel
theorem k_263_71 : cd 263 71 = some (.iload_n 1, 1) := by decide +kernel
theorem k_263_72 : cd 263 72 = some (.iaload, 1) := by decide +kernel
theorem k_263_73 : cd 263 73 = some (.ireturn, 1) := by decide +kernel
theorem k_263_74 : cd 263 74 = some (.aload_n 0, 1) := by decide +kernel
theorem k_263_75 : cd 263 75 = some (.iload_n 1, 1) := by decide +kernel
theorem k_263_76 : cd 263 76 = some (.invokevirtual 344, 3) := by decide +kernel
theorem k_263_79 : cd 263 79 = some (.ireturn, 1) := by decide +kernel
theorem k_263_80 : cd 263 80 = some (.aload_n 0, 1) := by decide +kernel
theorem k_263_81 : cd 263 81 = some (.iload_n 1, 1) := by decide +kernel
theorem k_263_82 : cd 263 82 = some (.invokevirtual 350, 3) := by decide +kernel
theorem k_263_85 : cd 263 85 = some (.ireturn, 1) := by decide +kernel
theorem k_263_86 : cd 263 86 = some (.aload_n 0, 1) := by decide +kernel
theorem k_263_87 : cd 263 87 = some (.getfield 50, 3) := by decide +kernel
theorem k_263_90 : cd 263 90 = some (.iload_n 1, 1) := by decide +kernel
theorem k_263_91 : cd 263 91 = some (.iaload, 1) := by decide +kernel
theorem k_263_92 : cd 263 92 = some (.ireturn, 1) := by decide +kernel
theorem k_263_93 : cd 263 93 = some (.aload_n 0, 1) := by decide +kernel
theorem k_263_94 : cd 263 94 = some (.iload_n 1, 1) := by decide +kernel
theorem k_263_95 : cd 263 95 = some (.invokevirtual 399, 3) := by decide +kernel
theorem k_263_98 : cd 263 98 = some (.ireturn, 1) := by decide +kernel
theorem k_263_99 : cd 263 99 = some (.aload_n 0, 1) := by decide +kernel
theorem k_263_100 : cd 263 100 = some (.iconst 1, 1) := by decide +kernel
theorem k_263_101 : cd 263 101 = some (.invokevirtual 290, 3) := by decide +kernel
theorem k_263_104 : cd 263 104 = some (.ireturn, 1) := by decide +kernel
theorem po_263 : po 263 = 9 := rfl
theorem M_263  {x0 : Int32} {x1 : Int32} {σ : pS} {ρ : Nat → Nat → Option Nat} (e : gR σ = ρ) (hL : LayR ρ) : Le
  (bI (pcall 264 [.ref 61, .int x0] (sI σ 61 4 (ι 0))) fun r1 σ1 => if ¬ r1 = (ι 0) then if x1 = (ι 0) then gd (inb x0 12) (some (1, .int (gI σ1 75 (ix x0)), σ1)) else if x1 = (ι 1) then gd (inb x0 12) (some (1, .int (gI σ1 76 (ix x0)), σ1)) else if x1 = (ι 2) then bI (pcall 242 [.ref 61, .int x0] σ1) fun r8 σ8 => some (1, .int r8, σ8) else if x1 = (ι 3) then bI (pcall 265 [.ref 61, .int x0] σ1) fun r6 σ6 => some (1, .int r6, σ6) else if x1 = (ι 4) then gd (inb x0 24) (some (1, .int (gI σ1 67 (ix x0)), σ1)) else if x1 = (ι 5) then bI (pcall 266 [.ref 61, .int x0] σ1) fun r3 σ3 => some (1, .int r3, σ3) else gd (x1.toInt < 0 ∨ 5 < x1.toInt) (bI (pcall 211 [.ref 61, .int (ι 1)] σ1) fun r2 σ2 => some (1, .int r2, σ2)) else bI (pcall 211 [.ref 61, .int (ι 1)] σ1) fun r12 σ12 => some (1, .int r12, σ12))
  (pcall 263 [.ref 61, .int x0, .int x1] σ) := by
  show Le _ (den 263 0 0 [.ref 61, .int x0, .int x1] [] σ)
  exact r_aload_n k_263_0 rfl rfl
    (r_iconst k_263_1 rfl rfl
    (r_putI k_263_2 rfl po_263 rfl rfl rfl
    (r_aload_n k_263_5 rfl rfl
    (r_iload_n k_263_6 rfl rfl
    (r_callI (q_virt (rest := []) (as := [.int x0]) k_263_7 po_263 rfl rfl rfl (rcvO rfl rfl rfl) rfl rfl) (lvq (j := 0) rfl (by decide +kernel)) rfl rfl (fun r1 σ1 h1 => r_if (tgt := 19) k_263_10 rfl rfl cop_ne
    (r_iload_n k_263_19 rfl rfl
    (r_case (fun c11 => r_tabGo (off := 40) (tgt := 60) c11 k_263_20 (by decide) (by decide) rfl (r_aload_n k_263_60 rfl rfl
    (r_getR k_263_61 rfl po_263 rfl rfl rfl rfl (gRat (eC rfl h1 (eI e)) (LayR.at hL (i := 76) rfl))
    (r_iload_n k_263_64 rfl rfl
    (r_gd fun g => r_iald k_263_65 rfl rfl g
    (r_ret k_263_66 rfl rfl)))))) (fun _ => r_case (fun c10 => r_tabGo (off := 47) (tgt := 67) c10 k_263_20 (by decide) (by decide) rfl (r_aload_n k_263_67 rfl rfl
    (r_getR k_263_68 rfl po_263 rfl rfl rfl rfl (gRat (eC rfl h1 (eI e)) (LayR.at hL (i := 77) rfl))
    (r_iload_n k_263_71 rfl rfl
    (r_gd fun g => r_iald k_263_72 rfl rfl g
    (r_ret k_263_73 rfl rfl)))))) (fun _ => r_case (fun c9 => r_tabGo (off := 54) (tgt := 74) c9 k_263_20 (by decide) (by decide) rfl (r_aload_n k_263_74 rfl rfl
    (r_iload_n k_263_75 rfl rfl
    (r_callI (q_virt (rest := []) (as := [.int x0]) k_263_76 po_263 rfl rfl rfl (rcvO rfl rfl rfl) rfl rfl) (lvq (j := 0) rfl (by decide +kernel)) rfl rfl (fun r8 σ8 h8 => r_ret k_263_79 rfl rfl))))) (fun _ => r_case (fun c7 => r_tabGo (off := 60) (tgt := 80) c7 k_263_20 (by decide) (by decide) rfl (r_aload_n k_263_80 rfl rfl
    (r_iload_n k_263_81 rfl rfl
    (r_callI (q_virt (rest := []) (as := [.int x0]) k_263_82 po_263 rfl rfl rfl (rcvO rfl rfl rfl) rfl rfl) (lvq (j := 0) rfl (by decide +kernel)) rfl rfl (fun r6 σ6 h6 => r_ret k_263_85 rfl rfl))))) (fun _ => r_case (fun c5 => r_tabGo (off := 66) (tgt := 86) c5 k_263_20 (by decide) (by decide) rfl (r_aload_n k_263_86 rfl rfl
    (r_getR k_263_87 rfl po_263 rfl rfl rfl rfl (gRat (eC rfl h1 (eI e)) (LayR.at hL (i := 68) rfl))
    (r_iload_n k_263_90 rfl rfl
    (r_gd fun g => r_iald k_263_91 rfl rfl g
    (r_ret k_263_92 rfl rfl)))))) (fun _ => r_case (fun c4 => r_tabGo (off := 73) (tgt := 93) c4 k_263_20 (by decide) (by decide) rfl (r_aload_n k_263_93 rfl rfl
    (r_iload_n k_263_94 rfl rfl
    (r_callI (q_virt (rest := []) (as := [.int x0]) k_263_95 po_263 rfl rfl rfl (rcvO rfl rfl rfl) rfl rfl) (lvq (j := 0) rfl (by decide +kernel)) rfl rfl (fun r3 σ3 h3 => r_ret k_263_98 rfl rfl))))) (fun _ => r_gd fun g => r_tabOut (tgt := 99) k_263_20 g rfl (r_aload_n k_263_99 rfl rfl
    (r_iconst k_263_100 rfl rfl
    (r_callI (q_virt (rest := []) (as := [.int (ι 1)]) k_263_101 po_263 rfl rfl rfl (rcvO rfl rfl rfl) rfl rfl) (lvq (j := 0) rfl (by decide +kernel)) rfl rfl (fun r2 σ2 h2 => r_ret k_263_104 rfl rfl))))))))))))
    (r_aload_n k_263_13 rfl rfl
    (r_iconst k_263_14 rfl rfl
    (r_callI (q_virt (rest := []) (as := [.int (ι 1)]) k_263_15 po_263 rfl rfl rfl (rcvO rfl rfl rfl) rfl rfl) (lvq (j := 0) rfl (by decide +kernel)) rfl rfl (fun r12 σ12 h12 => r_ret k_263_18 rfl rfl))))))))))
/-! ===== 264 HedgeWantsModel.isThing ===== -/
theorem k_264_0 : cd 264 0 = some (.iload_n 1, 1) := by decide +kernel
theorem k_264_1 : cd 264 1 = some (.i2l, 1) := by decide +kernel
theorem k_264_2 : cd 264 2 = some (.lconst 0, 1) := by decide +kernel
theorem k_264_3 : cd 264 3 = some (.aload_n 0, 1) := by decide +kernel
theorem k_264_4 : cd 264 4 = some (.getfield 44, 3) := by decide +kernel
theorem k_264_7 : cd 264 7 = some (.iconst 1, 1) := by decide +kernel
theorem k_264_8 : cd 264 8 = some (.iaload, 1) := by decide +kernel
theorem k_264_9 : cd 264 9 = some (.iconst 1, 1) := by decide +kernel
theorem k_264_10 : cd 264 10 = some (.isub, 1) := by decide +kernel
theorem k_264_11 : cd 264 11 = some (.i2l, 1) := by decide +kernel
theorem k_264_12 : cd 264 12 = some (.invokestatic 148, 3) := by decide +kernel
theorem k_264_15 : cd 264 15 = some (.ireturn, 1) := by decide +kernel
theorem po_264 : po 264 = 9 := rfl
theorem M_264  {x0 : Int32} {σ : pS} {ρ : Nat → Nat → Option Nat} (e : gR σ = ρ) (hL : LayR ρ) : Le
  (bI (pcall 261 [.long x0.toInt64, .long (0 : Int64), .long (((gI σ 65 1) - (ι 1)).toInt64)] σ) fun r1 σ1 => gd (narrow .boolean (.int r1) = .int r1) (some (1, .int r1, σ1)))
  (pcall 264 [.ref 61, .int x0] σ) := by
  show Le _ (den 264 0 0 [.ref 61, .int x0] [] σ)
  exact r_iload_n k_264_0 rfl rfl
    (r_i2l k_264_1 rfl
    (r_lconst k_264_2 rfl rfl
    (r_aload_n k_264_3 rfl rfl
    (r_getR k_264_4 rfl po_264 rfl rfl rfl rfl (gRat e (LayR.at hL (i := 66) rfl))
    (r_iconst k_264_7 rfl rfl
    (r_iald k_264_8 rfl rfl (by decide)
    (r_iconst k_264_9 rfl rfl
    (r_isub k_264_10 rfl
    (r_i2l k_264_11 rfl
    (r_callI (q_stat (rest := []) (av := [.long x0.toInt64, .long (0 : Int64), .long (((gI σ 65 1) - (ι 1)).toInt64)]) k_264_12 po_264 rfl (by decide) rfl rfl rfl rfl) (lvq (j := 0) rfl (by decide +kernel)) rfl rfl (fun r1 σ1 h1 => r_gd fun g => r_ret k_264_15 rfl g)))))))))))
/-! ===== 265 HedgeWantsModel.takerOf ===== -/
theorem k_265_0 : cd 265 0 = some (.aload_n 0, 1) := by decide +kernel
theorem k_265_1 : cd 265 1 = some (.iload_n 1, 1) := by decide +kernel
theorem k_265_2 : cd 265 2 = some (.invokevirtual 344, 3) := by decide +kernel
theorem k_265_5 : cd 265 5 = some (.istore_n 2, 1) := by decide +kernel
theorem k_265_6 : cd 265 6 = some (.iconst (-1), 1) := by decide +kernel
theorem k_265_7 : cd 265 7 = some (.istore_n 3, 1) := by decide +kernel
theorem k_265_8 : cd 265 8 = some (.iconst 0, 1) := by decide +kernel
theorem k_265_9 : cd 265 9 = some (.istore 4, 2) := by decide +kernel
theorem k_265_11 : cd 265 11 = some (.iload 4, 2) := by decide +kernel
theorem k_265_13 : cd 265 13 = some (.aload_n 0, 1) := by decide +kernel
theorem k_265_14 : cd 265 14 = some (.getfield 44, 3) := by decide +kernel
theorem k_265_17 : cd 265 17 = some (.iconst 0, 1) := by decide +kernel
theorem k_265_18 : cd 265 18 = some (.iaload, 1) := by decide +kernel
theorem k_265_19 : cd 265 19 = some (.if_icmp .ge 42, 3) := by decide +kernel
theorem k_265_22 : cd 265 22 = some (.iload_n 2, 1) := by decide +kernel
theorem k_265_23 : cd 265 23 = some (.iload 4, 2) := by decide +kernel
theorem k_265_25 : cd 265 25 = some (.invokestatic 269, 3) := by decide +kernel
theorem k_265_28 : cd 265 28 = some (.ifCond .eq 27, 3) := by decide +kernel
theorem k_265_31 : cd 265 31 = some (.iload_n 3, 1) := by decide +kernel
theorem k_265_32 : cd 265 32 = some (.iconst (-1), 1) := by decide +kernel
theorem k_265_33 : cd 265 33 = some (.if_icmp .eq 19, 3) := by decide +kernel
theorem k_265_36 : cd 265 36 = some (.aload_n 0, 1) := by decide +kernel
theorem k_265_37 : cd 265 37 = some (.iload 4, 2) := by decide +kernel
theorem k_265_39 : cd 265 39 = some (.iload_n 1, 1) := by decide +kernel
theorem k_265_40 : cd 265 40 = some (.invokevirtual 328, 3) := by decide +kernel
theorem k_265_43 : cd 265 43 = some (.aload_n 0, 1) := by decide +kernel
theorem k_265_44 : cd 265 44 = some (.iload_n 3, 1) := by decide +kernel
theorem k_265_45 : cd 265 45 = some (.iload_n 1, 1) := by decide +kernel
theorem k_265_46 : cd 265 46 = some (.invokevirtual 328, 3) := by decide +kernel
theorem k_265_49 : cd 265 49 = some (.if_icmp .le 6, 3) := by decide +kernel
theorem k_265_52 : cd 265 52 = some (.iload 4, 2) := by decide +kernel
theorem k_265_54 : cd 265 54 = some (.istore_n 3, 1) := by decide +kernel
theorem k_265_55 : cd 265 55 = some (.iinc 4 1, 3) := by decide +kernel
theorem k_265_58 : cd 265 58 = some (.goto (-47), 3) := by decide +kernel
theorem k_265_61 : cd 265 61 = some (.iload_n 3, 1) := by decide +kernel
theorem k_265_62 : cd 265 62 = some (.ireturn, 1) := by decide +kernel
theorem po_265 : po 265 = 9 := rfl
noncomputable def C_265_11  (x1 : Int32) (x2 : Int32) (x3 : Int32) (x4 : Int32) (σ : pS) : Option pZ := den 265 0 11 [.ref 61, .int x1, .int x2, .int x3, .int x4] [] σ
theorem T_265_11  {x1 : Int32} {x2 : Int32} {x3 : Int32} {x4 : Int32}  {σ : pS} {ρ : Nat → Nat → Option Nat} (e : gR σ = ρ) (hL : LayR ρ) : Le
  (if (gI σ 65 0) ≤ x4 then some (1, .int x3, σ) else bI (pcall 236 [.int x2, .int x4] σ) fun r1 σ1 => if r1 = (ι 0) then C_265_11 x1 x2 x3 (x4 + (ι 1)) σ1 else if x3 = (ν 1) then C_265_11 x1 x2 x4 (x4 + (ι 1)) σ1 else bI (pcall 244 [.ref 61, .int x4, .int x1] σ1) fun r2 σ2 => bI (pcall 244 [.ref 61, .int x3, .int x1] σ2) fun r3 σ3 => if r2 ≤ r3 then C_265_11 x1 x2 x3 (x4 + (ι 1)) σ3 else C_265_11 x1 x2 x4 (x4 + (ι 1)) σ3)
  (C_265_11  x1 x2 x3 x4 σ) := by
  unfold C_265_11
  exact r_iload k_265_11 rfl rfl
    (r_aload_n k_265_13 rfl rfl
    (r_getR k_265_14 rfl po_265 rfl rfl rfl rfl (gRat e (LayR.at hL (i := 66) rfl))
    (r_iconst k_265_17 rfl rfl
    (r_iald k_265_18 rfl rfl (by decide)
    (r_icmp (tgt := 61) k_265_19 rfl rfl cop_ge
    (r_iload_n k_265_61 rfl rfl
    (r_ret k_265_62 rfl rfl))
    (r_iload_n k_265_22 rfl rfl
    (r_iload k_265_23 rfl rfl
    (r_callI (q_stat (rest := []) (av := [.int x2, .int x4]) k_265_25 po_265 rfl (by decide) rfl rfl rfl rfl) (lvq (j := 0) rfl (by decide +kernel)) rfl rfl (fun r1 σ1 h1 => r_if (tgt := 55) k_265_28 rfl rfl cop_eq
    (r_iinc k_265_55 rfl rfl rfl rfl
    (r_goto (tgt := 11) k_265_58 rfl (Le.rfl')))
    (r_iload_n k_265_31 rfl rfl
    (r_iconst k_265_32 rfl rfl
    (r_icmp (tgt := 52) k_265_33 rfl rfl cop_eq
    (r_iload k_265_52 rfl rfl
    (r_istore_n k_265_54 rfl rfl rfl
    (r_iinc k_265_55 rfl rfl rfl rfl
    (r_goto (tgt := 11) k_265_58 rfl (Le.rfl')))))
    (r_aload_n k_265_36 rfl rfl
    (r_iload k_265_37 rfl rfl
    (r_iload_n k_265_39 rfl rfl
    (r_callI (q_virt (rest := []) (as := [.int x4, .int x1]) k_265_40 po_265 rfl rfl rfl (rcvO rfl rfl rfl) rfl rfl) (lvq (j := 0) rfl (by decide +kernel)) rfl rfl (fun r2 σ2 h2 => r_aload_n k_265_43 rfl rfl
    (r_iload_n k_265_44 rfl rfl
    (r_iload_n k_265_45 rfl rfl
    (r_callI (q_virt (rest := [.int r2]) (as := [.int x3, .int x1]) k_265_46 po_265 rfl rfl rfl (rcvO rfl rfl rfl) rfl rfl) (lvq (j := 0) rfl (by decide +kernel)) rfl rfl (fun r3 σ3 h3 => r_icmp (tgt := 55) k_265_49 rfl rfl cop_le
    (r_iinc k_265_55 rfl rfl rfl rfl
    (r_goto (tgt := 11) k_265_58 rfl (Le.rfl')))
    (r_iload k_265_52 rfl rfl
    (r_istore_n k_265_54 rfl rfl rfl
    (r_iinc k_265_55 rfl rfl rfl rfl
    (r_goto (tgt := 11) k_265_58 rfl (Le.rfl'))))))))))))))))))))))))))
theorem M_265  {x0 : Int32} {σ : pS} {ρ : Nat → Nat → Option Nat} (e : gR σ = ρ) (hL : LayR ρ) : Le
  (bI (pcall 242 [.ref 61, .int x0] σ) fun r1 σ1 => C_265_11 x0 r1 (ν 1) (ι 0) σ1)
  (pcall 265 [.ref 61, .int x0] σ) := by
  show Le _ (den 265 0 0 [.ref 61, .int x0, .retAddr 0, .retAddr 0, .retAddr 0] [] σ)
  exact r_aload_n k_265_0 rfl rfl
    (r_iload_n k_265_1 rfl rfl
    (r_callI (q_virt (rest := []) (as := [.int x0]) k_265_2 po_265 rfl rfl rfl (rcvO rfl rfl rfl) rfl rfl) (lvq (j := 0) rfl (by decide +kernel)) rfl rfl (fun r1 σ1 h1 => r_istore_n k_265_5 rfl rfl rfl
    (r_iconst k_265_6 rfl rfl
    (r_istore_n k_265_7 rfl rfl rfl
    (r_iconst k_265_8 rfl rfl
    (r_istore k_265_9 rfl rfl rfl
    (Le.rfl'))))))))
/-! ===== 266 HedgeWantsModel.toSpoil ===== -/
theorem k_266_0 : cd 266 0 = some (.aload_n 0, 1) := by decide +kernel
theorem k_266_1 : cd 266 1 = some (.getfield 80, 3) := by decide +kernel
theorem k_266_4 : cd 266 4 = some (.iload_n 1, 1) := by decide +kernel
theorem k_266_5 : cd 266 5 = some (.iaload, 1) := by decide +kernel
theorem k_266_6 : cd 266 6 = some (.istore_n 2, 1) := by decide +kernel
theorem k_266_7 : cd 266 7 = some (.iconst (-1), 1) := by decide +kernel
theorem k_266_8 : cd 266 8 = some (.istore_n 3, 1) := by decide +kernel
theorem k_266_9 : cd 266 9 = some (.iload_n 2, 1) := by decide +kernel
theorem k_266_10 : cd 266 10 = some (.istore 4, 2) := by decide +kernel
theorem k_266_12 : cd 266 12 = some (.iload 4, 2) := by decide +kernel
theorem k_266_14 : cd 266 14 = some (.bipush 9, 2) := by decide +kernel
theorem k_266_16 : cd 266 16 = some (.if_icmp .gt 35, 3) := by decide +kernel
theorem k_266_19 : cd 266 19 = some (.iload_n 3, 1) := by decide +kernel
theorem k_266_20 : cd 266 20 = some (.iconst (-1), 1) := by decide +kernel
theorem k_266_21 : cd 266 21 = some (.if_icmp .ne 30, 3) := by decide +kernel
theorem k_266_24 : cd 266 24 = some (.aload_n 0, 1) := by decide +kernel
theorem k_266_25 : cd 266 25 = some (.getfield 80, 3) := by decide +kernel
theorem k_266_28 : cd 266 28 = some (.iload_n 1, 1) := by decide +kernel
theorem k_266_29 : cd 266 29 = some (.iload 4, 2) := by decide +kernel
theorem k_266_31 : cd 266 31 = some (.iastore, 1) := by decide +kernel
theorem k_266_32 : cd 266 32 = some (.aload_n 0, 1) := by decide +kernel
theorem k_266_33 : cd 266 33 = some (.iload_n 1, 1) := by decide +kernel
theorem k_266_34 : cd 266 34 = some (.invokevirtual 344, 3) := by decide +kernel
theorem k_266_37 : cd 266 37 = some (.ifCond .ne 8, 3) := by decide +kernel
theorem k_266_40 : cd 266 40 = some (.iload 4, 2) := by decide +kernel
theorem k_266_42 : cd 266 42 = some (.iload_n 2, 1) := by decide +kernel
theorem k_266_43 : cd 266 43 = some (.isub, 1) := by decide +kernel
theorem k_266_44 : cd 266 44 = some (.istore_n 3, 1) := by decide +kernel
theorem k_266_45 : cd 266 45 = some (.iinc 4 1, 3) := by decide +kernel
theorem k_266_48 : cd 266 48 = some (.goto (-36), 3) := by decide +kernel
theorem k_266_51 : cd 266 51 = some (.aload_n 0, 1) := by decide +kernel
theorem k_266_52 : cd 266 52 = some (.getfield 80, 3) := by decide +kernel
theorem k_266_55 : cd 266 55 = some (.iload_n 1, 1) := by decide +kernel
theorem k_266_56 : cd 266 56 = some (.iload_n 2, 1) := by decide +kernel
theorem k_266_57 : cd 266 57 = some (.iastore, 1) := by decide +kernel
theorem k_266_58 : cd 266 58 = some (.iload_n 3, 1) := by decide +kernel
theorem k_266_59 : cd 266 59 = some (.ireturn, 1) := by decide +kernel
theorem po_266 : po 266 = 9 := rfl
noncomputable def C_266_12  (x1 : Int32) (x2 : Int32) (x3 : Int32) (x4 : Int32) (σ : pS) : Option pZ := den 266 0 12 [.ref 61, .int x1, .int x2, .int x3, .int x4] [] σ
theorem T_266_12  {x1 : Int32} {x2 : Int32} {x3 : Int32} {x4 : Int32}  {σ : pS} {ρ : Nat → Nat → Option Nat} (e : gR σ = ρ) (hL : LayR ρ) : Le
  (if (ι 9) < x4 then gd (inb x1 12) (some (1, .int x3, (sI σ 76 (ix x1) x2))) else if ¬ x3 = (ν 1) then gd (inb x1 12) (some (1, .int x3, (sI σ 76 (ix x1) x2))) else gd (inb x1 12) (bI (pcall 242 [.ref 61, .int x1] (sI σ 76 (ix x1) x4)) fun r1 σ1 => if ¬ r1 = (ι 0) then C_266_12 x1 x2 x3 (x4 + (ι 1)) σ1 else C_266_12 x1 x2 (x4 - x2) (x4 + (ι 1)) σ1))
  (C_266_12  x1 x2 x3 x4 σ) := by
  unfold C_266_12
  exact r_iload k_266_12 rfl rfl
    (r_bipush k_266_14 rfl rfl
    (r_icmp (tgt := 51) k_266_16 rfl rfl cop_gt
    (r_aload_n k_266_51 rfl rfl
    (r_getR k_266_52 rfl po_266 rfl rfl rfl rfl (gRat e (LayR.at hL (i := 77) rfl))
    (r_iload_n k_266_55 rfl rfl
    (r_iload_n k_266_56 rfl rfl
    (r_gd fun g => r_iast k_266_57 rfl rfl g
    (r_iload_n k_266_58 rfl rfl
    (r_ret k_266_59 rfl rfl)))))))
    (r_iload_n k_266_19 rfl rfl
    (r_iconst k_266_20 rfl rfl
    (r_icmp (tgt := 51) k_266_21 rfl rfl cop_ne
    (r_aload_n k_266_51 rfl rfl
    (r_getR k_266_52 rfl po_266 rfl rfl rfl rfl (gRat e (LayR.at hL (i := 77) rfl))
    (r_iload_n k_266_55 rfl rfl
    (r_iload_n k_266_56 rfl rfl
    (r_gd fun g => r_iast k_266_57 rfl rfl g
    (r_iload_n k_266_58 rfl rfl
    (r_ret k_266_59 rfl rfl)))))))
    (r_aload_n k_266_24 rfl rfl
    (r_getR k_266_25 rfl po_266 rfl rfl rfl rfl (gRat e (LayR.at hL (i := 77) rfl))
    (r_iload_n k_266_28 rfl rfl
    (r_iload k_266_29 rfl rfl
    (r_gd fun g => r_iast k_266_31 rfl rfl g
    (r_aload_n k_266_32 rfl rfl
    (r_iload_n k_266_33 rfl rfl
    (r_callI (q_virt (rest := []) (as := [.int x1]) k_266_34 po_266 rfl rfl rfl (rcvO rfl rfl rfl) rfl rfl) (lvq (j := 0) rfl (by decide +kernel)) rfl rfl (fun r1 σ1 h1 => r_if (tgt := 45) k_266_37 rfl rfl cop_ne
    (r_iinc k_266_45 rfl rfl rfl rfl
    (r_goto (tgt := 12) k_266_48 rfl (Le.rfl')))
    (r_iload k_266_40 rfl rfl
    (r_iload_n k_266_42 rfl rfl
    (r_isub k_266_43 rfl
    (r_istore_n k_266_44 rfl rfl rfl
    (r_iinc k_266_45 rfl rfl rfl rfl
    (r_goto (tgt := 12) k_266_48 rfl (Le.rfl')))))))))))))))))))))
theorem M_266  {x0 : Int32} {σ : pS} {ρ : Nat → Nat → Option Nat} (e : gR σ = ρ) (hL : LayR ρ) : Le
  (gd (inb x0 12) (C_266_12 x0 (gI σ 76 (ix x0)) (ν 1) (gI σ 76 (ix x0)) σ))
  (pcall 266 [.ref 61, .int x0] σ) := by
  show Le _ (den 266 0 0 [.ref 61, .int x0, .retAddr 0, .retAddr 0, .retAddr 0] [] σ)
  exact r_aload_n k_266_0 rfl rfl
    (r_getR k_266_1 rfl po_266 rfl rfl rfl rfl (gRat e (LayR.at hL (i := 77) rfl))
    (r_iload_n k_266_4 rfl rfl
    (r_gd fun g => r_iald k_266_5 rfl rfl g
    (r_istore_n k_266_6 rfl rfl rfl
    (r_iconst k_266_7 rfl rfl
    (r_istore_n k_266_8 rfl rfl rfl
    (r_iload_n k_266_9 rfl rfl
    (r_istore k_266_10 rfl rfl rfl
    (Le.rfl')))))))))
/-! ===== 267 HedgeWantsModel.look ===== -/
theorem k_267_0 : cd 267 0 = some (.aload_n 0, 1) := by decide +kernel
theorem k_267_1 : cd 267 1 = some (.iconst 0, 1) := by decide +kernel
theorem k_267_2 : cd 267 2 = some (.putfield 145, 3) := by decide +kernel
theorem k_267_5 : cd 267 5 = some (.aload_n 0, 1) := by decide +kernel
theorem k_267_6 : cd 267 6 = some (.iload_n 1, 1) := by decide +kernel
theorem k_267_7 : cd 267 7 = some (.invokevirtual 390, 3) := by decide +kernel
theorem k_267_10 : cd 267 10 = some (.ifCond .eq 21, 3) := by decide +kernel
theorem k_267_13 : cd 267 13 = some (.aload_n 0, 1) := by decide +kernel
theorem k_267_14 : cd 267 14 = some (.iload_n 2, 1) := by decide +kernel
theorem k_267_15 : cd 267 15 = some (.invokevirtual 396, 3) := by decide +kernel
theorem k_267_18 : cd 267 18 = some (.ifCond .eq 13, 3) := by decide +kernel
theorem k_267_21 : cd 267 21 = some (.iload_n 3, 1) := by decide +kernel
theorem k_267_22 : cd 267 22 = some (.i2l, 1) := by decide +kernel
theorem k_267_23 : cd 267 23 = some (.lconst 0, 1) := by decide +kernel
theorem k_267_24 : cd 267 24 = some (.lconst 1, 1) := by decide +kernel
theorem k_267_25 : cd 267 25 = some (.invokestatic 148, 3) := by decide +kernel
theorem k_267_28 : cd 267 28 = some (.ifCond .ne 9, 3) := by decide +kernel
theorem k_267_31 : cd 267 31 = some (.aload_n 0, 1) := by decide +kernel
theorem k_267_32 : cd 267 32 = some (.iconst 1, 1) := by decide +kernel
theorem k_267_33 : cd 267 33 = some (.invokevirtual 290, 3) := by decide +kernel
theorem k_267_36 : cd 267 36 = some (.ireturn, 1) := by decide +kernel
theorem k_267_37 : cd 267 37 = some (.iload_n 3, 1) := by decide +kernel
theorem k_267_38 : cd 267 38 = some (.ifCond .ne 12, 3) := by decide +kernel
theorem k_267_41 : cd 267 41 = some (.aload_n 0, 1) := by decide +kernel
theorem k_267_42 : cd 267 42 = some (.iload_n 1, 1) := by decide +kernel
theorem k_267_43 : cd 267 43 = some (.iload_n 2, 1) := by decide +kernel
theorem k_267_44 : cd 267 44 = some (.invokevirtual 319, 3) := by decide +kernel
theorem k_267_47 : cd 267 47 = some (.goto 9, 3) := by decide +kernel
theorem k_267_50 : cd 267 50 = some (.aload_n 0, 1) := by decide +kernel
theorem k_267_51 : cd 267 51 = some (.iload_n 1, 1) := by decide +kernel
theorem k_267_52 : cd 267 52 = some (.iload_n 2, 1) := by decide +kernel
theorem k_267_53 : cd 267 53 = some (.invokevirtual 328, 3) := by decide +kernel
theorem k_267_56 : cd 267 56 = some (.ireturn, 1) := by decide +kernel
theorem po_267 : po 267 = 9 := rfl
theorem M_267  {x0 : Int32} {x1 : Int32} {x2 : Int32} {σ : pS} {ρ : Nat → Nat → Option Nat} (e : gR σ = ρ) (hL : LayR ρ) : Le
  (bI (pcall 260 [.ref 61, .int x0] (sI σ 61 4 (ι 0))) fun r1 σ1 => if r1 = (ι 0) then bI (pcall 211 [.ref 61, .int (ι 1)] σ1) fun r2 σ2 => some (1, .int r2, σ2) else bI (pcall 264 [.ref 61, .int x1] σ1) fun r3 σ3 => if r3 = (ι 0) then bI (pcall 211 [.ref 61, .int (ι 1)] σ3) fun r4 σ4 => some (1, .int r4, σ4) else bI (pcall 261 [.long x2.toInt64, .long (0 : Int64), .long (1 : Int64)] σ3) fun r5 σ5 => if ¬ r5 = (ι 0) then if ¬ x2 = (ι 0) then bI (pcall 244 [.ref 61, .int x0, .int x1] σ5) fun r6 σ6 => some (1, .int r6, σ6) else bI (pcall 245 [.ref 61, .int x0, .int x1] σ5) fun r7 σ7 => some (1, .int r7, σ7) else bI (pcall 211 [.ref 61, .int (ι 1)] σ5) fun r8 σ8 => some (1, .int r8, σ8))
  (pcall 267 [.ref 61, .int x0, .int x1, .int x2] σ) := by
  show Le _ (den 267 0 0 [.ref 61, .int x0, .int x1, .int x2] [] σ)
  exact r_aload_n k_267_0 rfl rfl
    (r_iconst k_267_1 rfl rfl
    (r_putI k_267_2 rfl po_267 rfl rfl rfl
    (r_aload_n k_267_5 rfl rfl
    (r_iload_n k_267_6 rfl rfl
    (r_callI (q_virt (rest := []) (as := [.int x0]) k_267_7 po_267 rfl rfl rfl (rcvO rfl rfl rfl) rfl rfl) (lvq (j := 0) rfl (by decide +kernel)) rfl rfl (fun r1 σ1 h1 => r_if (tgt := 31) k_267_10 rfl rfl cop_eq
    (r_aload_n k_267_31 rfl rfl
    (r_iconst k_267_32 rfl rfl
    (r_callI (q_virt (rest := []) (as := [.int (ι 1)]) k_267_33 po_267 rfl rfl rfl (rcvO rfl rfl rfl) rfl rfl) (lvq (j := 0) rfl (by decide +kernel)) rfl rfl (fun r2 σ2 h2 => r_ret k_267_36 rfl rfl))))
    (r_aload_n k_267_13 rfl rfl
    (r_iload_n k_267_14 rfl rfl
    (r_callI (q_virt (rest := []) (as := [.int x1]) k_267_15 po_267 rfl rfl rfl (rcvO rfl rfl rfl) rfl rfl) (lvq (j := 0) rfl (by decide +kernel)) rfl rfl (fun r3 σ3 h3 => r_if (tgt := 31) k_267_18 rfl rfl cop_eq
    (r_aload_n k_267_31 rfl rfl
    (r_iconst k_267_32 rfl rfl
    (r_callI (q_virt (rest := []) (as := [.int (ι 1)]) k_267_33 po_267 rfl rfl rfl (rcvO rfl rfl rfl) rfl rfl) (lvq (j := 0) rfl (by decide +kernel)) rfl rfl (fun r4 σ4 h4 => r_ret k_267_36 rfl rfl))))
    (r_iload_n k_267_21 rfl rfl
    (r_i2l k_267_22 rfl
    (r_lconst k_267_23 rfl rfl
    (r_lconst k_267_24 rfl rfl
    (r_callI (q_stat (rest := []) (av := [.long x2.toInt64, .long (0 : Int64), .long (1 : Int64)]) k_267_25 po_267 rfl (by decide) rfl rfl rfl rfl) (lvq (j := 0) rfl (by decide +kernel)) rfl rfl (fun r5 σ5 h5 => r_if (tgt := 37) k_267_28 rfl rfl cop_ne
    (r_iload_n k_267_37 rfl rfl
    (r_if (tgt := 50) k_267_38 rfl rfl cop_ne
    (r_aload_n k_267_50 rfl rfl
    (r_iload_n k_267_51 rfl rfl
    (r_iload_n k_267_52 rfl rfl
    (r_callI (q_virt (rest := []) (as := [.int x0, .int x1]) k_267_53 po_267 rfl rfl rfl (rcvO rfl rfl rfl) rfl rfl) (lvq (j := 0) rfl (by decide +kernel)) rfl rfl (fun r6 σ6 h6 => r_ret k_267_56 rfl rfl)))))
    (r_aload_n k_267_41 rfl rfl
    (r_iload_n k_267_42 rfl rfl
    (r_iload_n k_267_43 rfl rfl
    (r_callI (q_virt (rest := []) (as := [.int x0, .int x1]) k_267_44 po_267 rfl rfl rfl (rcvO rfl rfl rfl) rfl rfl) (lvq (j := 0) rfl (by decide +kernel)) rfl rfl (fun r7 σ7 h7 => r_goto (tgt := 56) k_267_47 rfl (r_ret k_267_56 rfl rfl))))))))
    (r_aload_n k_267_31 rfl rfl
    (r_iconst k_267_32 rfl rfl
    (r_callI (q_virt (rest := []) (as := [.int (ι 1)]) k_267_33 po_267 rfl rfl rfl (rcvO rfl rfl rfl) rfl rfl) (lvq (j := 0) rfl (by decide +kernel)) rfl rfl (fun r8 σ8 h8 => r_ret k_267_36 rfl rfl))))))))))))))))))))
/-! ===== 268 HedgeWantsModel.days ===== -/
theorem k_268_0 : cd 268 0 = some (.aload_n 0, 1) := by decide +kernel
theorem k_268_1 : cd 268 1 = some (.iconst 0, 1) := by decide +kernel
theorem k_268_2 : cd 268 2 = some (.putfield 145, 3) := by decide +kernel
theorem k_268_5 : cd 268 5 = some (.iload_n 1, 1) := by decide +kernel
theorem k_268_6 : cd 268 6 = some (.i2l, 1) := by decide +kernel
theorem k_268_7 : cd 268 7 = some (.lconst 1, 1) := by decide +kernel
theorem k_268_8 : cd 268 8 = some (.ldc2_w 406, 3) := by decide +kernel
theorem k_268_11 : cd 268 11 = some (.invokestatic 148, 3) := by decide +kernel
theorem k_268_14 : cd 268 14 = some (.ifCond .eq 15, 3) := by decide +kernel
theorem k_268_17 : cd 268 17 = some (.aload_n 0, 1) := by decide +kernel
theorem k_268_18 : cd 268 18 = some (.getfield 303, 3) := by decide +kernel
theorem k_268_21 : cd 268 21 = some (.iload_n 1, 1) := by decide +kernel
theorem k_268_22 : cd 268 22 = some (.iadd, 1) := by decide +kernel
theorem k_268_23 : cd 268 23 = some (.sipush 999, 3) := by decide +kernel
theorem k_268_26 : cd 268 26 = some (.if_icmp .le 9, 3) := by decide +kernel
theorem k_268_29 : cd 268 29 = some (.aload_n 0, 1) := by decide +kernel
theorem k_268_30 : cd 268 30 = some (.iconst 1, 1) := by decide +kernel
theorem k_268_31 : cd 268 31 = some (.invokevirtual 408, 3) := by decide +kernel
theorem k_268_34 : cd 268 34 = some (.ireturn, 1) := by decide +kernel
theorem k_268_35 : cd 268 35 = some (.aload_n 0, 1) := by decide +kernel
theorem k_268_36 : cd 268 36 = some (.invokevirtual 411, 3) := by decide +kernel
theorem k_268_39 : cd 268 39 = some (.aload_n 0, 1) := by decide +kernel
theorem k_268_40 : cd 268 40 = some (.iload_n 1, 1) := by decide +kernel
theorem k_268_41 : cd 268 41 = some (.invokevirtual 414, 3) := by decide +kernel
theorem k_268_44 : cd 268 44 = some (.aload_n 0, 1) := by decide +kernel
theorem k_268_45 : cd 268 45 = some (.getfield 303, 3) := by decide +kernel
theorem k_268_48 : cd 268 48 = some (.ireturn, 1) := by decide +kernel
theorem po_268 : po 268 = 9 := rfl
theorem M_268  {x0 : Int32} {σ : pS} {ρ : Nat → Nat → Option Nat} (e : gR σ = ρ) (hL : LayR ρ) : Le
  (bI (pcall 261 [.long x0.toInt64, .long (1 : Int64), .long (20 : Int64)] (sI σ 61 4 (ι 0))) fun r1 σ1 => if r1 = (ι 0) then bI (pcall 269 [.ref 61, .int (ι 1)] σ1) fun r2 σ2 => some (1, .int r2, σ2) else if ((gI σ1 61 31) + x0) ≤ (ι 999) then bV (pcall 270 [.ref 61] σ1) fun σ3 => bV (pcall 272 [.ref 61, .int x0] σ3) fun σ4 => some (1, .int (gI σ4 61 31), σ4) else bI (pcall 269 [.ref 61, .int (ι 1)] σ1) fun r5 σ5 => some (1, .int r5, σ5))
  (pcall 268 [.ref 61, .int x0] σ) := by
  show Le _ (den 268 0 0 [.ref 61, .int x0] [] σ)
  exact r_aload_n k_268_0 rfl rfl
    (r_iconst k_268_1 rfl rfl
    (r_putI k_268_2 rfl po_268 rfl rfl rfl
    (r_iload_n k_268_5 rfl rfl
    (r_i2l k_268_6 rfl
    (r_lconst k_268_7 rfl rfl
    (r_ldc2 k_268_8 rfl po_268 rfl rfl
    (r_callI (q_stat (rest := []) (av := [.long x0.toInt64, .long (1 : Int64), .long (20 : Int64)]) k_268_11 po_268 rfl (by decide) rfl rfl rfl rfl) (lvq (j := 0) rfl (by decide +kernel)) rfl rfl (fun r1 σ1 h1 => r_if (tgt := 29) k_268_14 rfl rfl cop_eq
    (r_aload_n k_268_29 rfl rfl
    (r_iconst k_268_30 rfl rfl
    (r_callI (q_virt (rest := []) (as := [.int (ι 1)]) k_268_31 po_268 rfl rfl rfl (rcvO rfl rfl rfl) rfl rfl) (lvq (j := 0) rfl (by decide +kernel)) rfl rfl (fun r2 σ2 h2 => r_ret k_268_34 rfl rfl))))
    (r_aload_n k_268_17 rfl rfl
    (r_getI k_268_18 rfl po_268 rfl rfl rfl rfl
    (r_iload_n k_268_21 rfl rfl
    (r_iadd k_268_22 rfl
    (r_sipush k_268_23 rfl rfl
    (r_icmp (tgt := 35) k_268_26 rfl rfl cop_le
    (r_aload_n k_268_35 rfl rfl
    (r_callV (q_virt (rest := []) (as := []) k_268_36 po_268 rfl rfl rfl (rcvO rfl rfl rfl) rfl rfl) (lvq (j := 0) rfl (by decide +kernel)) rfl rfl (fun _ σ3 h3 => r_aload_n k_268_39 rfl rfl
    (r_iload_n k_268_40 rfl rfl
    (r_callV (q_virt (rest := []) (as := [.int x0]) k_268_41 po_268 rfl rfl rfl (rcvO rfl rfl rfl) rfl rfl) (lvq (j := 0) rfl (by decide +kernel)) rfl rfl (fun _ σ4 h4 => r_aload_n k_268_44 rfl rfl
    (r_getI k_268_45 rfl po_268 rfl rfl rfl rfl
    (r_ret k_268_48 rfl rfl))))))))
    (r_aload_n k_268_29 rfl rfl
    (r_iconst k_268_30 rfl rfl
    (r_callI (q_virt (rest := []) (as := [.int (ι 1)]) k_268_31 po_268 rfl rfl rfl (rcvO rfl rfl rfl) rfl rfl) (lvq (j := 0) rfl (by decide +kernel)) rfl rfl (fun r5 σ5 h5 => r_ret k_268_34 rfl rfl))))))))))))))))))
/-! ===== 269 HedgeWantsModel.refuse ===== -/
theorem k_269_0 : cd 269 0 = some (.aload_n 0, 1) := by decide +kernel
theorem k_269_1 : cd 269 1 = some (.getfield 67, 3) := by decide +kernel
theorem k_269_4 : cd 269 4 = some (.iload_n 1, 1) := by decide +kernel
theorem k_269_5 : cd 269 5 = some (.dup2, 1) := by decide +kernel
theorem k_269_6 : cd 269 6 = some (.iaload, 1) := by decide +kernel
theorem k_269_7 : cd 269 7 = some (.iconst 1, 1) := by decide +kernel
theorem k_269_8 : cd 269 8 = some (.iadd, 1) := by decide +kernel
theorem k_269_9 : cd 269 9 = some (.iastore, 1) := by decide +kernel
theorem k_269_10 : cd 269 10 = some (.iconst (-1), 1) := by decide +kernel
theorem k_269_11 : cd 269 11 = some (.ireturn, 1) := by decide +kernel
theorem po_269 : po 269 = 9 := rfl
theorem M_269  {x0 : Int32} {σ : pS} {ρ : Nat → Nat → Option Nat} (e : gR σ = ρ) (hL : LayR ρ) : Le
  (gd (inb x0 3) (gd (inb x0 3) (some (1, .int (ν 1), (sI σ 73 (ix x0) ((gI σ 73 (ix x0)) + (ι 1)))))))
  (pcall 269 [.ref 61, .int x0] σ) := by
  show Le _ (den 269 0 0 [.ref 61, .int x0] [] σ)
  exact r_aload_n k_269_0 rfl rfl
    (r_getR k_269_1 rfl po_269 rfl rfl rfl rfl (gRat e (LayR.at hL (i := 74) rfl))
    (r_iload_n k_269_4 rfl rfl
    (r_dup2 k_269_5 rfl rfl rfl
    (r_gd fun g => r_iald k_269_6 rfl rfl g
    (r_iconst k_269_7 rfl rfl
    (r_iadd k_269_8 rfl
    (r_gd fun g => r_iast k_269_9 rfl rfl g
    (r_iconst k_269_10 rfl rfl
    (r_ret k_269_11 rfl rfl)))))))))
/-! ===== 270 HedgeWantsModel.keep ===== -/
theorem k_270_0 : cd 270 0 = some (.aload_n 0, 1) := by decide +kernel
theorem k_270_1 : cd 270 1 = some (.getfield 306, 3) := by decide +kernel
theorem k_270_4 : cd 270 4 = some (.bipush 40, 2) := by decide +kernel
theorem k_270_6 : cd 270 6 = some (.if_icmp .ne 48, 3) := by decide +kernel
theorem k_270_9 : cd 270 9 = some (.sipush 129, 3) := by decide +kernel
theorem k_270_12 : cd 270 12 = some (.istore_n 1, 1) := by decide +kernel
theorem k_270_13 : cd 270 13 = some (.iload_n 1, 1) := by decide +kernel
theorem k_270_14 : cd 270 14 = some (.aload_n 0, 1) := by decide +kernel
theorem k_270_15 : cd 270 15 = some (.getfield 87, 3) := by decide +kernel
theorem k_270_18 : cd 270 18 = some (.arraylength, 1) := by decide +kernel
theorem k_270_19 : cd 270 19 = some (.if_icmp .ge 25, 3) := by decide +kernel
theorem k_270_22 : cd 270 22 = some (.aload_n 0, 1) := by decide +kernel
theorem k_270_23 : cd 270 23 = some (.getfield 87, 3) := by decide +kernel
theorem k_270_26 : cd 270 26 = some (.iload_n 1, 1) := by decide +kernel
theorem k_270_27 : cd 270 27 = some (.sipush 129, 3) := by decide +kernel
theorem k_270_30 : cd 270 30 = some (.isub, 1) := by decide +kernel
theorem k_270_31 : cd 270 31 = some (.aload_n 0, 1) := by decide +kernel
theorem k_270_32 : cd 270 32 = some (.getfield 87, 3) := by decide +kernel
theorem k_270_35 : cd 270 35 = some (.iload_n 1, 1) := by decide +kernel
theorem k_270_36 : cd 270 36 = some (.iaload, 1) := by decide +kernel
theorem k_270_37 : cd 270 37 = some (.iastore, 1) := by decide +kernel
theorem k_270_38 : cd 270 38 = some (.iinc 1 1, 3) := by decide +kernel
theorem k_270_41 : cd 270 41 = some (.goto (-28), 3) := by decide +kernel
theorem k_270_44 : cd 270 44 = some (.aload_n 0, 1) := by decide +kernel
theorem k_270_45 : cd 270 45 = some (.dup, 1) := by decide +kernel
theorem k_270_46 : cd 270 46 = some (.getfield 306, 3) := by decide +kernel
theorem k_270_49 : cd 270 49 = some (.iconst 1, 1) := by decide +kernel
theorem k_270_50 : cd 270 50 = some (.isub, 1) := by decide +kernel
theorem k_270_51 : cd 270 51 = some (.putfield 306, 3) := by decide +kernel
theorem k_270_54 : cd 270 54 = some (.aload_n 0, 1) := by decide +kernel
theorem k_270_55 : cd 270 55 = some (.aload_n 0, 1) := by decide +kernel
theorem k_270_56 : cd 270 56 = some (.getfield 87, 3) := by decide +kernel
theorem k_270_59 : cd 270 59 = some (.sipush 129, 3) := by decide +kernel
theorem k_270_62 : cd 270 62 = some (.aload_n 0, 1) := by decide +kernel
theorem k_270_63 : cd 270 63 = some (.getfield 306, 3) := by decide +kernel
theorem k_270_66 : cd 270 66 = some (.imul, 1) := by decide +kernel
theorem k_270_67 : cd 270 67 = some (.invokevirtual 402, 3) := by decide +kernel
theorem k_270_70 : cd 270 70 = some (.aload_n 0, 1) := by decide +kernel
theorem k_270_71 : cd 270 71 = some (.dup, 1) := by decide +kernel
theorem k_270_72 : cd 270 72 = some (.getfield 306, 3) := by decide +kernel
theorem k_270_75 : cd 270 75 = some (.iconst 1, 1) := by decide +kernel
theorem k_270_76 : cd 270 76 = some (.iadd, 1) := by decide +kernel
theorem k_270_77 : cd 270 77 = some (.putfield 306, 3) := by decide +kernel
theorem k_270_80 : cd 270 80 = some (.return_, 1) := by decide +kernel
theorem po_270 : po 270 = 9 := rfl
noncomputable def C_270_13  (x1 : Int32) (σ : pS) : Option pZ := den 270 0 13 [.ref 61, .int x1] [] σ
noncomputable def C_270_54  (v1 : Value) (σ : pS) : Option pZ := den 270 0 54 [.ref 61, v1] [] σ
theorem T_270_13  {x1 : Int32}  {σ : pS} {ρ : Nat → Nat → Option Nat} (e : gR σ = ρ) (hL : LayR ρ) : Le
  (if (ι 5160) ≤ x1 then C_270_54 (.int x1) (sI σ 61 32 ((gI σ 61 32) - (ι 1))) else gd (inb x1 5160) (gd (inb (x1 - (ι 129)) 5160) (C_270_13 (x1 + (ι 1)) (sI σ 79 (ix (x1 - (ι 129))) (gI σ 79 (ix x1))))))
  (C_270_13  x1 σ) := by
  unfold C_270_13
  exact r_iload_n k_270_13 rfl rfl
    (r_aload_n k_270_14 rfl rfl
    (r_getR k_270_15 rfl po_270 rfl rfl rfl rfl (gRat e (LayR.at hL (i := 80) rfl))
    (r_alenI k_270_18 rfl rfl rfl
    (r_icmp (tgt := 44) k_270_19 rfl rfl cop_ge
    (r_aload_n k_270_44 rfl rfl
    (r_dup k_270_45 rfl rfl
    (r_getI k_270_46 rfl po_270 rfl rfl rfl rfl
    (r_iconst k_270_49 rfl rfl
    (r_isub k_270_50 rfl
    (r_putI k_270_51 rfl po_270 rfl rfl rfl
    (Le.rfl')))))))
    (r_aload_n k_270_22 rfl rfl
    (r_getR k_270_23 rfl po_270 rfl rfl rfl rfl (gRat e (LayR.at hL (i := 80) rfl))
    (r_iload_n k_270_26 rfl rfl
    (r_sipush k_270_27 rfl rfl
    (r_isub k_270_30 rfl
    (r_aload_n k_270_31 rfl rfl
    (r_getR k_270_32 rfl po_270 rfl rfl rfl rfl (gRat e (LayR.at hL (i := 80) rfl))
    (r_iload_n k_270_35 rfl rfl
    (r_gd fun g => r_iald k_270_36 rfl rfl g
    (r_gd fun g => r_iast k_270_37 rfl rfl g
    (r_iinc k_270_38 rfl rfl rfl rfl
    (r_goto (tgt := 13) k_270_41 rfl (Le.rfl')))))))))))))))))
theorem T_270_54  {v1 : Value}  {σ : pS} {ρ : Nat → Nat → Option Nat} (e : gR σ = ρ) (hL : LayR ρ) : Le
  (bV (pcall 271 [.ref 61, .ref 79, .int ((ι 129) * (gI σ 61 32))] σ) fun σ1 => some (0, .null, (sI σ1 61 32 ((gI σ1 61 32) + (ι 1)))))
  (C_270_54  v1 σ) := by
  unfold C_270_54
  exact r_aload_n k_270_54 rfl rfl
    (r_aload_n k_270_55 rfl rfl
    (r_getR k_270_56 rfl po_270 rfl rfl rfl rfl (gRat e (LayR.at hL (i := 80) rfl))
    (r_sipush k_270_59 rfl rfl
    (r_aload_n k_270_62 rfl rfl
    (r_getI k_270_63 rfl po_270 rfl rfl rfl rfl
    (r_imul k_270_66 rfl
    (r_callV (q_virt (rest := []) (as := [.ref 79, .int ((ι 129) * (gI σ 61 32))]) k_270_67 po_270 rfl rfl rfl (rcvO rfl rfl rfl) rfl rfl) (lvq (j := 0) rfl (by decide +kernel)) rfl rfl (fun _ σ1 h1 => r_aload_n k_270_70 rfl rfl
    (r_dup k_270_71 rfl rfl
    (r_getI k_270_72 rfl po_270 rfl rfl rfl rfl
    (r_iconst k_270_75 rfl rfl
    (r_iadd k_270_76 rfl
    (r_putI k_270_77 rfl po_270 rfl rfl rfl
    (r_retV k_270_80 rfl))))))))))))))
theorem M_270   {σ : pS} {ρ : Nat → Nat → Option Nat} (e : gR σ = ρ) (hL : LayR ρ) : Le
  (if ¬ (gI σ 61 32) = (ι 40) then C_270_54 (.retAddr 0) σ else C_270_13 (ι 129) σ)
  (pcall 270 [.ref 61] σ) := by
  show Le _ (den 270 0 0 [.ref 61, .retAddr 0] [] σ)
  exact r_aload_n k_270_0 rfl rfl
    (r_getI k_270_1 rfl po_270 rfl rfl rfl rfl
    (r_bipush k_270_4 rfl rfl
    (r_icmp (tgt := 54) k_270_6 rfl rfl cop_ne
    (Le.rfl')
    (r_sipush k_270_9 rfl rfl
    (r_istore_n k_270_12 rfl rfl rfl
    (Le.rfl'))))))
end TREES
