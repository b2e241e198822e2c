/-! ===== the law's start: its bytes (written by wip/gen/ctor.py) ===== -/
section CTOR
theorem po_15 : po 15 = 7 := rfl
theorem po_24 : po 24 = 5 := rfl
theorem po_41 : po 41 = 6 := rfl
theorem po_68 : po 68 = 8 := rfl
theorem po_103 : po 103 = 4 := rfl
theorem po_128 : po 128 = 2 := rfl
theorem po_133 : po 133 = 1 := rfl
theorem po_153 : po 153 = 3 := rfl
theorem po_163 : po 163 = 0 := rfl
theorem po_207 : po 207 = 9 := rfl
theorem isin_15 : isin 15 = true := by decide +kernel
theorem isin_24 : isin 24 = true := by decide +kernel
theorem isin_41 : isin 41 = true := by decide +kernel
theorem isin_68 : isin 68 = true := by decide +kernel
theorem isin_103 : isin 103 = true := by decide +kernel
theorem isin_128 : isin 128 = true := by decide +kernel
theorem isin_133 : isin 133 = true := by decide +kernel
theorem isin_153 : isin 153 = true := by decide +kernel
theorem isin_163 : isin 163 = true := by decide +kernel
theorem isin_207 : isin 207 = true := by decide +kernel
theorem k_15_0 : cd 15 0 = some (.aload_n 0, 1) := by decide +kernel
theorem k_15_1 : cd 15 1 = some (.invokespecial 3, 3) := by decide +kernel
theorem k_15_4 : cd 15 4 = some (.aload_n 0, 1) := by decide +kernel
theorem k_15_5 : cd 15 5 = some (.sipush 700, 3) := by decide +kernel
theorem k_15_8 : cd 15 8 = some (.newarray .int, 2) := by decide +kernel
theorem k_15_10 : cd 15 10 = some (.putfield 9, 3) := by decide +kernel
theorem k_15_13 : cd 15 13 = some (.aload_n 0, 1) := by decide +kernel
theorem k_15_14 : cd 15 14 = some (.bipush 64, 2) := by decide +kernel
theorem k_15_16 : cd 15 16 = some (.newarray .int, 2) := by decide +kernel
theorem k_15_18 : cd 15 18 = some (.putfield 15, 3) := by decide +kernel
theorem k_15_21 : cd 15 21 = some (.return_, 1) := by decide +kernel
theorem k_24_0 : cd 24 0 = some (.aload_n 0, 1) := by decide +kernel
theorem k_24_1 : cd 24 1 = some (.invokespecial 3, 3) := by decide +kernel
theorem k_24_4 : cd 24 4 = some (.aload_n 0, 1) := by decide +kernel
theorem k_24_5 : cd 24 5 = some (.bipush 8, 2) := by decide +kernel
theorem k_24_7 : cd 24 7 = some (.newarray .int, 2) := by decide +kernel
theorem k_24_9 : cd 24 9 = some (.putfield 9, 3) := by decide +kernel
theorem k_24_12 : cd 24 12 = some (.aload_n 0, 1) := by decide +kernel
theorem k_24_13 : cd 24 13 = some (.bipush 8, 2) := by decide +kernel
theorem k_24_15 : cd 24 15 = some (.newarray .int, 2) := by decide +kernel
theorem k_24_17 : cd 24 17 = some (.putfield 15, 3) := by decide +kernel
theorem k_24_20 : cd 24 20 = some (.aload_n 0, 1) := by decide +kernel
theorem k_24_21 : cd 24 21 = some (.bipush 12, 2) := by decide +kernel
theorem k_24_23 : cd 24 23 = some (.newarray .int, 2) := by decide +kernel
theorem k_24_25 : cd 24 25 = some (.putfield 18, 3) := by decide +kernel
theorem k_24_28 : cd 24 28 = some (.aload_n 0, 1) := by decide +kernel
theorem k_24_29 : cd 24 29 = some (.bipush 96, 2) := by decide +kernel
theorem k_24_31 : cd 24 31 = some (.newarray .int, 2) := by decide +kernel
theorem k_24_33 : cd 24 33 = some (.putfield 21, 3) := by decide +kernel
theorem k_24_36 : cd 24 36 = some (.aload_n 0, 1) := by decide +kernel
theorem k_24_37 : cd 24 37 = some (.new 24, 3) := by decide +kernel
theorem k_24_40 : cd 24 40 = some (.dup, 1) := by decide +kernel
theorem k_24_41 : cd 24 41 = some (.invokespecial 26, 3) := by decide +kernel
theorem k_24_44 : cd 24 44 = some (.putfield 27, 3) := by decide +kernel
theorem k_24_47 : cd 24 47 = some (.aload_n 0, 1) := by decide +kernel
theorem k_24_48 : cd 24 48 = some (.new 24, 3) := by decide +kernel
theorem k_24_51 : cd 24 51 = some (.dup, 1) := by decide +kernel
theorem k_24_52 : cd 24 52 = some (.invokespecial 26, 3) := by decide +kernel
theorem k_24_55 : cd 24 55 = some (.putfield 31, 3) := by decide +kernel
theorem k_24_58 : cd 24 58 = some (.return_, 1) := by decide +kernel
theorem k_41_0 : cd 41 0 = some (.aload_n 0, 1) := by decide +kernel
theorem k_41_1 : cd 41 1 = some (.invokespecial 3, 3) := by decide +kernel
theorem k_41_4 : cd 41 4 = some (.aload_n 0, 1) := by decide +kernel
theorem k_41_5 : cd 41 5 = some (.aload_n 1, 1) := by decide +kernel
theorem k_41_6 : cd 41 6 = some (.putfield 9, 3) := by decide +kernel
theorem k_41_9 : cd 41 9 = some (.aload_n 0, 1) := by decide +kernel
theorem k_41_10 : cd 41 10 = some (.iconst (-1), 1) := by decide +kernel
theorem k_41_11 : cd 41 11 = some (.putfield 15, 3) := by decide +kernel
theorem k_41_14 : cd 41 14 = some (.aload_n 0, 1) := by decide +kernel
theorem k_41_15 : cd 41 15 = some (.aload_n 2, 1) := by decide +kernel
theorem k_41_16 : cd 41 16 = some (.putfield 19, 3) := by decide +kernel
theorem k_41_19 : cd 41 19 = some (.aload_n 0, 1) := by decide +kernel
theorem k_41_20 : cd 41 20 = some (.aload_n 2, 1) := by decide +kernel
theorem k_41_21 : cd 41 21 = some (.invokevirtual 23, 3) := by decide +kernel
theorem k_41_24 : cd 41 24 = some (.putfield 29, 3) := by decide +kernel
theorem k_41_27 : cd 41 27 = some (.return_, 1) := by decide +kernel
theorem k_68_0 : cd 68 0 = some (.aload_n 0, 1) := by decide +kernel
theorem k_68_1 : cd 68 1 = some (.invokespecial 3, 3) := by decide +kernel
theorem k_68_4 : cd 68 4 = some (.aload_n 0, 1) := by decide +kernel
theorem k_68_5 : cd 68 5 = some (.bipush 12, 2) := by decide +kernel
theorem k_68_7 : cd 68 7 = some (.newarray .int, 2) := by decide +kernel
theorem k_68_9 : cd 68 9 = some (.putfield 9, 3) := by decide +kernel
theorem k_68_12 : cd 68 12 = some (.aload_n 0, 1) := by decide +kernel
theorem k_68_13 : cd 68 13 = some (.bipush 12, 2) := by decide +kernel
theorem k_68_15 : cd 68 15 = some (.newarray .int, 2) := by decide +kernel
theorem k_68_17 : cd 68 17 = some (.putfield 15, 3) := by decide +kernel
theorem k_68_20 : cd 68 20 = some (.aload_n 0, 1) := by decide +kernel
theorem k_68_21 : cd 68 21 = some (.bipush 8, 2) := by decide +kernel
theorem k_68_23 : cd 68 23 = some (.newarray .int, 2) := by decide +kernel
theorem k_68_25 : cd 68 25 = some (.putfield 18, 3) := by decide +kernel
theorem k_68_28 : cd 68 28 = some (.aload_n 0, 1) := by decide +kernel
theorem k_68_29 : cd 68 29 = some (.bipush 96, 2) := by decide +kernel
theorem k_68_31 : cd 68 31 = some (.newarray .int, 2) := by decide +kernel
theorem k_68_33 : cd 68 33 = some (.putfield 21, 3) := by decide +kernel
theorem k_68_36 : cd 68 36 = some (.aload_n 0, 1) := by decide +kernel
theorem k_68_37 : cd 68 37 = some (.bipush 12, 2) := by decide +kernel
theorem k_68_39 : cd 68 39 = some (.newarray .int, 2) := by decide +kernel
theorem k_68_41 : cd 68 41 = some (.putfield 24, 3) := by decide +kernel
theorem k_68_44 : cd 68 44 = some (.aload_n 0, 1) := by decide +kernel
theorem k_68_45 : cd 68 45 = some (.bipush 8, 2) := by decide +kernel
theorem k_68_47 : cd 68 47 = some (.newarray .int, 2) := by decide +kernel
theorem k_68_49 : cd 68 49 = some (.putfield 29, 3) := by decide +kernel
theorem k_68_52 : cd 68 52 = some (.aload_n 0, 1) := by decide +kernel
theorem k_68_53 : cd 68 53 = some (.aload_n 1, 1) := by decide +kernel
theorem k_68_54 : cd 68 54 = some (.putfield 32, 3) := by decide +kernel
theorem k_68_57 : cd 68 57 = some (.return_, 1) := by decide +kernel
theorem k_103_0 : cd 103 0 = some (.aload_n 0, 1) := by decide +kernel
theorem k_103_1 : cd 103 1 = some (.invokespecial 3, 3) := by decide +kernel
theorem k_103_4 : cd 103 4 = some (.aload_n 0, 1) := by decide +kernel
theorem k_103_5 : cd 103 5 = some (.sipush 5160, 3) := by decide +kernel
theorem k_103_8 : cd 103 8 = some (.newarray .int, 2) := by decide +kernel
theorem k_103_10 : cd 103 10 = some (.putfield 11, 3) := by decide +kernel
theorem k_103_13 : cd 103 13 = some (.aload_n 0, 1) := by decide +kernel
theorem k_103_14 : cd 103 14 = some (.bipush 24, 2) := by decide +kernel
theorem k_103_16 : cd 103 16 = some (.newarray .int, 2) := by decide +kernel
theorem k_103_18 : cd 103 18 = some (.putfield 17, 3) := by decide +kernel
theorem k_103_21 : cd 103 21 = some (.aload_n 0, 1) := by decide +kernel
theorem k_103_22 : cd 103 22 = some (.iconst 3, 1) := by decide +kernel
theorem k_103_23 : cd 103 23 = some (.newarray .int, 2) := by decide +kernel
theorem k_103_25 : cd 103 25 = some (.putfield 20, 3) := by decide +kernel
theorem k_103_28 : cd 103 28 = some (.return_, 1) := by decide +kernel
theorem k_128_0 : cd 128 0 = some (.aload_n 0, 1) := by decide +kernel
theorem k_128_1 : cd 128 1 = some (.invokespecial 3, 3) := by decide +kernel
theorem k_128_4 : cd 128 4 = some (.aload_n 0, 1) := by decide +kernel
theorem k_128_5 : cd 128 5 = some (.sipush 256, 3) := by decide +kernel
theorem k_128_8 : cd 128 8 = some (.newarray .long, 2) := by decide +kernel
theorem k_128_10 : cd 128 10 = some (.putfield 9, 3) := by decide +kernel
theorem k_128_13 : cd 128 13 = some (.return_, 1) := by decide +kernel
theorem k_133_0 : cd 133 0 = some (.aload_n 0, 1) := by decide +kernel
theorem k_133_1 : cd 133 1 = some (.invokespecial 3, 3) := by decide +kernel
theorem k_133_4 : cd 133 4 = some (.aload_n 0, 1) := by decide +kernel
theorem k_133_5 : cd 133 5 = some (.iconst 4, 1) := by decide +kernel
theorem k_133_6 : cd 133 6 = some (.newarray .int, 2) := by decide +kernel
theorem k_133_8 : cd 133 8 = some (.putfield 9, 3) := by decide +kernel
theorem k_133_11 : cd 133 11 = some (.aload_n 0, 1) := by decide +kernel
theorem k_133_12 : cd 133 12 = some (.iconst 4, 1) := by decide +kernel
theorem k_133_13 : cd 133 13 = some (.newarray .int, 2) := by decide +kernel
theorem k_133_15 : cd 133 15 = some (.putfield 15, 3) := by decide +kernel
theorem k_133_18 : cd 133 18 = some (.aload_n 0, 1) := by decide +kernel
theorem k_133_19 : cd 133 19 = some (.aload_n 1, 1) := by decide +kernel
theorem k_133_20 : cd 133 20 = some (.putfield 18, 3) := by decide +kernel
theorem k_133_23 : cd 133 23 = some (.aload_n 0, 1) := by decide +kernel
theorem k_133_24 : cd 133 24 = some (.aload_n 2, 1) := by decide +kernel
theorem k_133_25 : cd 133 25 = some (.putfield 22, 3) := by decide +kernel
theorem k_133_28 : cd 133 28 = some (.return_, 1) := by decide +kernel
theorem k_153_0 : cd 153 0 = some (.aload_n 0, 1) := by decide +kernel
theorem k_153_1 : cd 153 1 = some (.invokespecial 3, 3) := by decide +kernel
theorem k_153_4 : cd 153 4 = some (.aload_n 0, 1) := by decide +kernel
theorem k_153_5 : cd 153 5 = some (.bipush 12, 2) := by decide +kernel
theorem k_153_7 : cd 153 7 = some (.newarray .int, 2) := by decide +kernel
theorem k_153_9 : cd 153 9 = some (.putfield 9, 3) := by decide +kernel
theorem k_153_12 : cd 153 12 = some (.aload_n 0, 1) := by decide +kernel
theorem k_153_13 : cd 153 13 = some (.aload_n 1, 1) := by decide +kernel
theorem k_153_14 : cd 153 14 = some (.putfield 15, 3) := by decide +kernel
theorem k_153_17 : cd 153 17 = some (.aload_n 0, 1) := by decide +kernel
theorem k_153_18 : cd 153 18 = some (.aload_n 2, 1) := by decide +kernel
theorem k_153_19 : cd 153 19 = some (.putfield 19, 3) := by decide +kernel
theorem k_153_22 : cd 153 22 = some (.aload_n 0, 1) := by decide +kernel
theorem k_153_23 : cd 153 23 = some (.aload_n 3, 1) := by decide +kernel
theorem k_153_24 : cd 153 24 = some (.putfield 23, 3) := by decide +kernel
theorem k_153_27 : cd 153 27 = some (.return_, 1) := by decide +kernel
theorem k_163_0 : cd 163 0 = some (.aload_n 0, 1) := by decide +kernel
theorem k_163_1 : cd 163 1 = some (.invokespecial 1, 3) := by decide +kernel
theorem k_163_4 : cd 163 4 = some (.aload_n 0, 1) := by decide +kernel
theorem k_163_5 : cd 163 5 = some (.sipush 700, 3) := by decide +kernel
theorem k_163_8 : cd 163 8 = some (.newarray .int, 2) := by decide +kernel
theorem k_163_10 : cd 163 10 = some (.putfield 9, 3) := by decide +kernel
theorem k_163_13 : cd 163 13 = some (.aload_n 0, 1) := by decide +kernel
theorem k_163_14 : cd 163 14 = some (.new 13, 3) := by decide +kernel
theorem k_163_17 : cd 163 17 = some (.dup, 1) := by decide +kernel
theorem k_163_18 : cd 163 18 = some (.invokespecial 15, 3) := by decide +kernel
theorem k_163_21 : cd 163 21 = some (.putfield 16, 3) := by decide +kernel
theorem k_163_24 : cd 163 24 = some (.aload_n 0, 1) := by decide +kernel
theorem k_163_25 : cd 163 25 = some (.new 13, 3) := by decide +kernel
theorem k_163_28 : cd 163 28 = some (.dup, 1) := by decide +kernel
theorem k_163_29 : cd 163 29 = some (.invokespecial 15, 3) := by decide +kernel
theorem k_163_32 : cd 163 32 = some (.putfield 20, 3) := by decide +kernel
theorem k_163_35 : cd 163 35 = some (.aload_n 0, 1) := by decide +kernel
theorem k_163_36 : cd 163 36 = some (.new 23, 3) := by decide +kernel
theorem k_163_39 : cd 163 39 = some (.dup, 1) := by decide +kernel
theorem k_163_40 : cd 163 40 = some (.aload_n 0, 1) := by decide +kernel
theorem k_163_41 : cd 163 41 = some (.getfield 9, 3) := by decide +kernel
theorem k_163_44 : cd 163 44 = some (.aload_n 0, 1) := by decide +kernel
theorem k_163_45 : cd 163 45 = some (.getfield 20, 3) := by decide +kernel
theorem k_163_48 : cd 163 48 = some (.invokespecial 25, 3) := by decide +kernel
theorem k_163_51 : cd 163 51 = some (.putfield 28, 3) := by decide +kernel
theorem k_163_54 : cd 163 54 = some (.aload_n 0, 1) := by decide +kernel
theorem k_163_55 : cd 163 55 = some (.iconst (-1), 1) := by decide +kernel
theorem k_163_56 : cd 163 56 = some (.putfield 32, 3) := by decide +kernel
theorem k_163_59 : cd 163 59 = some (.aload_n 0, 1) := by decide +kernel
theorem k_163_60 : cd 163 60 = some (.new 36, 3) := by decide +kernel
theorem k_163_63 : cd 163 63 = some (.dup, 1) := by decide +kernel
theorem k_163_64 : cd 163 64 = some (.aload_n 0, 1) := by decide +kernel
theorem k_163_65 : cd 163 65 = some (.getfield 16, 3) := by decide +kernel
theorem k_163_68 : cd 163 68 = some (.invokespecial 38, 3) := by decide +kernel
theorem k_163_71 : cd 163 71 = some (.putfield 41, 3) := by decide +kernel
theorem k_163_74 : cd 163 74 = some (.aload_n 0, 1) := by decide +kernel
theorem k_163_75 : cd 163 75 = some (.new 45, 3) := by decide +kernel
theorem k_163_78 : cd 163 78 = some (.dup, 1) := by decide +kernel
theorem k_163_79 : cd 163 79 = some (.invokespecial 47, 3) := by decide +kernel
theorem k_163_82 : cd 163 82 = some (.putfield 48, 3) := by decide +kernel
theorem k_163_85 : cd 163 85 = some (.aload_n 0, 1) := by decide +kernel
theorem k_163_86 : cd 163 86 = some (.new 36, 3) := by decide +kernel
theorem k_163_89 : cd 163 89 = some (.dup, 1) := by decide +kernel
theorem k_163_90 : cd 163 90 = some (.aload_n 0, 1) := by decide +kernel
theorem k_163_91 : cd 163 91 = some (.getfield 16, 3) := by decide +kernel
theorem k_163_94 : cd 163 94 = some (.invokespecial 38, 3) := by decide +kernel
theorem k_163_97 : cd 163 97 = some (.putfield 52, 3) := by decide +kernel
theorem k_163_100 : cd 163 100 = some (.aload_n 0, 1) := by decide +kernel
theorem k_163_101 : cd 163 101 = some (.new 45, 3) := by decide +kernel
theorem k_163_104 : cd 163 104 = some (.dup, 1) := by decide +kernel
theorem k_163_105 : cd 163 105 = some (.invokespecial 47, 3) := by decide +kernel
theorem k_163_108 : cd 163 108 = some (.putfield 55, 3) := by decide +kernel
theorem k_163_111 : cd 163 111 = some (.new 36, 3) := by decide +kernel
theorem k_163_114 : cd 163 114 = some (.dup, 1) := by decide +kernel
theorem k_163_115 : cd 163 115 = some (.aload_n 0, 1) := by decide +kernel
theorem k_163_116 : cd 163 116 = some (.getfield 16, 3) := by decide +kernel
theorem k_163_119 : cd 163 119 = some (.invokespecial 38, 3) := by decide +kernel
theorem k_163_122 : cd 163 122 = some (.astore_n 1, 1) := by decide +kernel
theorem k_163_123 : cd 163 123 = some (.aload_n 0, 1) := by decide +kernel
theorem k_163_124 : cd 163 124 = some (.new 58, 3) := by decide +kernel
theorem k_163_127 : cd 163 127 = some (.dup, 1) := by decide +kernel
theorem k_163_128 : cd 163 128 = some (.aload_n 0, 1) := by decide +kernel
theorem k_163_129 : cd 163 129 = some (.getfield 41, 3) := by decide +kernel
theorem k_163_132 : cd 163 132 = some (.aload_n 1, 1) := by decide +kernel
theorem k_163_133 : cd 163 133 = some (.invokespecial 60, 3) := by decide +kernel
theorem k_163_136 : cd 163 136 = some (.putfield 63, 3) := by decide +kernel
theorem k_163_139 : cd 163 139 = some (.aload_n 0, 1) := by decide +kernel
theorem k_163_140 : cd 163 140 = some (.new 67, 3) := by decide +kernel
theorem k_163_143 : cd 163 143 = some (.dup, 1) := by decide +kernel
theorem k_163_144 : cd 163 144 = some (.aload_n 0, 1) := by decide +kernel
theorem k_163_145 : cd 163 145 = some (.getfield 41, 3) := by decide +kernel
theorem k_163_148 : cd 163 148 = some (.aload_n 0, 1) := by decide +kernel
theorem k_163_149 : cd 163 149 = some (.getfield 48, 3) := by decide +kernel
theorem k_163_152 : cd 163 152 = some (.aload_n 1, 1) := by decide +kernel
theorem k_163_153 : cd 163 153 = some (.invokespecial 69, 3) := by decide +kernel
theorem k_163_156 : cd 163 156 = some (.putfield 72, 3) := by decide +kernel
theorem k_163_159 : cd 163 159 = some (.aload_n 0, 1) := by decide +kernel
theorem k_163_160 : cd 163 160 = some (.new 76, 3) := by decide +kernel
theorem k_163_163 : cd 163 163 = some (.dup, 1) := by decide +kernel
theorem k_163_164 : cd 163 164 = some (.invokespecial 78, 3) := by decide +kernel
theorem k_163_167 : cd 163 167 = some (.putfield 79, 3) := by decide +kernel
theorem k_163_170 : cd 163 170 = some (.return_, 1) := by decide +kernel
theorem k_207_0 : cd 207 0 = some (.aload_n 0, 1) := by decide +kernel
theorem k_207_1 : cd 207 1 = some (.invokespecial 3, 3) := by decide +kernel
theorem k_207_4 : cd 207 4 = some (.aload_n 0, 1) := by decide +kernel
theorem k_207_5 : cd 207 5 = some (.iconst 2, 1) := by decide +kernel
theorem k_207_6 : cd 207 6 = some (.anewarray 9, 3) := by decide +kernel
theorem k_207_9 : cd 207 9 = some (.dup, 1) := by decide +kernel
theorem k_207_10 : cd 207 10 = some (.iconst 0, 1) := by decide +kernel
theorem k_207_11 : cd 207 11 = some (.ldc 11, 2) := by decide +kernel
theorem k_207_13 : cd 207 13 = some (.aastore, 1) := by decide +kernel
theorem k_207_14 : cd 207 14 = some (.dup, 1) := by decide +kernel
theorem k_207_15 : cd 207 15 = some (.iconst 1, 1) := by decide +kernel
theorem k_207_16 : cd 207 16 = some (.ldc 13, 2) := by decide +kernel
theorem k_207_18 : cd 207 18 = some (.aastore, 1) := by decide +kernel
theorem k_207_19 : cd 207 19 = some (.putfield 15, 3) := by decide +kernel
theorem k_207_22 : cd 207 22 = some (.aload_n 0, 1) := by decide +kernel
theorem k_207_23 : cd 207 23 = some (.bipush 6, 2) := by decide +kernel
theorem k_207_25 : cd 207 25 = some (.anewarray 9, 3) := by decide +kernel
theorem k_207_28 : cd 207 28 = some (.dup, 1) := by decide +kernel
theorem k_207_29 : cd 207 29 = some (.iconst 0, 1) := by decide +kernel
theorem k_207_30 : cd 207 30 = some (.ldc 19, 2) := by decide +kernel
theorem k_207_32 : cd 207 32 = some (.aastore, 1) := by decide +kernel
theorem k_207_33 : cd 207 33 = some (.dup, 1) := by decide +kernel
theorem k_207_34 : cd 207 34 = some (.iconst 1, 1) := by decide +kernel
theorem k_207_35 : cd 207 35 = some (.ldc 21, 2) := by decide +kernel
theorem k_207_37 : cd 207 37 = some (.aastore, 1) := by decide +kernel
theorem k_207_38 : cd 207 38 = some (.dup, 1) := by decide +kernel
theorem k_207_39 : cd 207 39 = some (.iconst 2, 1) := by decide +kernel
theorem k_207_40 : cd 207 40 = some (.ldc 23, 2) := by decide +kernel
theorem k_207_42 : cd 207 42 = some (.aastore, 1) := by decide +kernel
theorem k_207_43 : cd 207 43 = some (.dup, 1) := by decide +kernel
theorem k_207_44 : cd 207 44 = some (.iconst 3, 1) := by decide +kernel
theorem k_207_45 : cd 207 45 = some (.ldc 25, 2) := by decide +kernel
theorem k_207_47 : cd 207 47 = some (.aastore, 1) := by decide +kernel
theorem k_207_48 : cd 207 48 = some (.dup, 1) := by decide +kernel
theorem k_207_49 : cd 207 49 = some (.iconst 4, 1) := by decide +kernel
theorem k_207_50 : cd 207 50 = some (.ldc 27, 2) := by decide +kernel
theorem k_207_52 : cd 207 52 = some (.aastore, 1) := by decide +kernel
theorem k_207_53 : cd 207 53 = some (.dup, 1) := by decide +kernel
theorem k_207_54 : cd 207 54 = some (.iconst 5, 1) := by decide +kernel
theorem k_207_55 : cd 207 55 = some (.ldc 29, 2) := by decide +kernel
theorem k_207_57 : cd 207 57 = some (.aastore, 1) := by decide +kernel
theorem k_207_58 : cd 207 58 = some (.putfield 31, 3) := by decide +kernel
theorem k_207_61 : cd 207 61 = some (.aload_n 0, 1) := by decide +kernel
theorem k_207_62 : cd 207 62 = some (.iconst 4, 1) := by decide +kernel
theorem k_207_63 : cd 207 63 = some (.anewarray 9, 3) := by decide +kernel
theorem k_207_66 : cd 207 66 = some (.dup, 1) := by decide +kernel
theorem k_207_67 : cd 207 67 = some (.iconst 0, 1) := by decide +kernel
theorem k_207_68 : cd 207 68 = some (.ldc 19, 2) := by decide +kernel
theorem k_207_70 : cd 207 70 = some (.aastore, 1) := by decide +kernel
theorem k_207_71 : cd 207 71 = some (.dup, 1) := by decide +kernel
theorem k_207_72 : cd 207 72 = some (.iconst 1, 1) := by decide +kernel
theorem k_207_73 : cd 207 73 = some (.ldc 21, 2) := by decide +kernel
theorem k_207_75 : cd 207 75 = some (.aastore, 1) := by decide +kernel
theorem k_207_76 : cd 207 76 = some (.dup, 1) := by decide +kernel
theorem k_207_77 : cd 207 77 = some (.iconst 2, 1) := by decide +kernel
theorem k_207_78 : cd 207 78 = some (.ldc 34, 2) := by decide +kernel
theorem k_207_80 : cd 207 80 = some (.aastore, 1) := by decide +kernel
theorem k_207_81 : cd 207 81 = some (.dup, 1) := by decide +kernel
theorem k_207_82 : cd 207 82 = some (.iconst 3, 1) := by decide +kernel
theorem k_207_83 : cd 207 83 = some (.ldc 36, 2) := by decide +kernel
theorem k_207_85 : cd 207 85 = some (.aastore, 1) := by decide +kernel
theorem k_207_86 : cd 207 86 = some (.putfield 38, 3) := by decide +kernel
theorem k_207_89 : cd 207 89 = some (.aload_n 0, 1) := by decide +kernel
theorem k_207_90 : cd 207 90 = some (.aload_n 0, 1) := by decide +kernel
theorem k_207_91 : cd 207 91 = some (.getfield 31, 3) := by decide +kernel
theorem k_207_94 : cd 207 94 = some (.putfield 41, 3) := by decide +kernel
theorem k_207_97 : cd 207 97 = some (.aload_n 0, 1) := by decide +kernel
theorem k_207_98 : cd 207 98 = some (.bipush 10, 2) := by decide +kernel
theorem k_207_100 : cd 207 100 = some (.newarray .int, 2) := by decide +kernel
theorem k_207_102 : cd 207 102 = some (.putfield 44, 3) := by decide +kernel
theorem k_207_105 : cd 207 105 = some (.aload_n 0, 1) := by decide +kernel
theorem k_207_106 : cd 207 106 = some (.bipush 16, 2) := by decide +kernel
theorem k_207_108 : cd 207 108 = some (.newarray .int, 2) := by decide +kernel
theorem k_207_110 : cd 207 110 = some (.putfield 48, 3) := by decide +kernel
theorem k_207_113 : cd 207 113 = some (.aload_n 0, 1) := by decide +kernel
theorem k_207_114 : cd 207 114 = some (.bipush 24, 2) := by decide +kernel
theorem k_207_116 : cd 207 116 = some (.newarray .int, 2) := by decide +kernel
theorem k_207_118 : cd 207 118 = some (.putfield 50, 3) := by decide +kernel
theorem k_207_121 : cd 207 121 = some (.aload_n 0, 1) := by decide +kernel
theorem k_207_122 : cd 207 122 = some (.bipush 24, 2) := by decide +kernel
theorem k_207_124 : cd 207 124 = some (.newarray .int, 2) := by decide +kernel
theorem k_207_126 : cd 207 126 = some (.putfield 52, 3) := by decide +kernel
theorem k_207_129 : cd 207 129 = some (.aload_n 0, 1) := by decide +kernel
theorem k_207_130 : cd 207 130 = some (.sipush 192, 3) := by decide +kernel
theorem k_207_133 : cd 207 133 = some (.newarray .int, 2) := by decide +kernel
theorem k_207_135 : cd 207 135 = some (.putfield 55, 3) := by decide +kernel
theorem k_207_138 : cd 207 138 = some (.aload_n 0, 1) := by decide +kernel
theorem k_207_139 : cd 207 139 = some (.bipush 16, 2) := by decide +kernel
theorem k_207_141 : cd 207 141 = some (.newarray .int, 2) := by decide +kernel
theorem k_207_143 : cd 207 143 = some (.putfield 58, 3) := by decide +kernel
theorem k_207_146 : cd 207 146 = some (.aload_n 0, 1) := by decide +kernel
theorem k_207_147 : cd 207 147 = some (.sipush 1400, 3) := by decide +kernel
theorem k_207_150 : cd 207 150 = some (.newarray .int, 2) := by decide +kernel
theorem k_207_152 : cd 207 152 = some (.putfield 61, 3) := by decide +kernel
theorem k_207_155 : cd 207 155 = some (.aload_n 0, 1) := by decide +kernel
theorem k_207_156 : cd 207 156 = some (.sipush 1400, 3) := by decide +kernel
theorem k_207_159 : cd 207 159 = some (.newarray .int, 2) := by decide +kernel
theorem k_207_161 : cd 207 161 = some (.putfield 64, 3) := by decide +kernel
theorem k_207_164 : cd 207 164 = some (.aload_n 0, 1) := by decide +kernel
theorem k_207_165 : cd 207 165 = some (.iconst 3, 1) := by decide +kernel
theorem k_207_166 : cd 207 166 = some (.newarray .int, 2) := by decide +kernel
theorem k_207_168 : cd 207 168 = some (.putfield 67, 3) := by decide +kernel
theorem k_207_171 : cd 207 171 = some (.aload_n 0, 1) := by decide +kernel
theorem k_207_172 : cd 207 172 = some (.sipush 700, 3) := by decide +kernel
theorem k_207_175 : cd 207 175 = some (.newarray .int, 2) := by decide +kernel
theorem k_207_177 : cd 207 177 = some (.putfield 70, 3) := by decide +kernel
theorem k_207_180 : cd 207 180 = some (.aload_n 0, 1) := by decide +kernel
theorem k_207_181 : cd 207 181 = some (.iconst (-1), 1) := by decide +kernel
theorem k_207_182 : cd 207 182 = some (.putfield 73, 3) := by decide +kernel
theorem k_207_185 : cd 207 185 = some (.aload_n 0, 1) := by decide +kernel
theorem k_207_186 : cd 207 186 = some (.bipush 12, 2) := by decide +kernel
theorem k_207_188 : cd 207 188 = some (.newarray .int, 2) := by decide +kernel
theorem k_207_190 : cd 207 190 = some (.putfield 77, 3) := by decide +kernel
theorem k_207_193 : cd 207 193 = some (.aload_n 0, 1) := by decide +kernel
theorem k_207_194 : cd 207 194 = some (.bipush 12, 2) := by decide +kernel
theorem k_207_196 : cd 207 196 = some (.newarray .int, 2) := by decide +kernel
theorem k_207_198 : cd 207 198 = some (.putfield 80, 3) := by decide +kernel
theorem k_207_201 : cd 207 201 = some (.aload_n 0, 1) := by decide +kernel
theorem k_207_202 : cd 207 202 = some (.bipush 96, 2) := by decide +kernel
theorem k_207_204 : cd 207 204 = some (.newarray .int, 2) := by decide +kernel
theorem k_207_206 : cd 207 206 = some (.putfield 82, 3) := by decide +kernel
theorem k_207_209 : cd 207 209 = some (.aload_n 0, 1) := by decide +kernel
theorem k_207_210 : cd 207 210 = some (.bipush 8, 2) := by decide +kernel
theorem k_207_212 : cd 207 212 = some (.newarray .int, 2) := by decide +kernel
theorem k_207_214 : cd 207 214 = some (.putfield 84, 3) := by decide +kernel
theorem k_207_217 : cd 207 217 = some (.aload_n 0, 1) := by decide +kernel
theorem k_207_218 : cd 207 218 = some (.sipush 5160, 3) := by decide +kernel
theorem k_207_221 : cd 207 221 = some (.newarray .int, 2) := by decide +kernel
theorem k_207_223 : cd 207 223 = some (.putfield 87, 3) := by decide +kernel
theorem k_207_226 : cd 207 226 = some (.aload_n 0, 1) := by decide +kernel
theorem k_207_227 : cd 207 227 = some (.bipush 6, 2) := by decide +kernel
theorem k_207_229 : cd 207 229 = some (.newarray .int, 2) := by decide +kernel
theorem k_207_231 : cd 207 231 = some (.putfield 90, 3) := by decide +kernel
theorem k_207_234 : cd 207 234 = some (.aload_n 0, 1) := by decide +kernel
theorem k_207_235 : cd 207 235 = some (.bipush 64, 2) := by decide +kernel
theorem k_207_237 : cd 207 237 = some (.newarray .int, 2) := by decide +kernel
theorem k_207_239 : cd 207 239 = some (.putfield 93, 3) := by decide +kernel
theorem k_207_242 : cd 207 242 = some (.aload_n 0, 1) := by decide +kernel
theorem k_207_243 : cd 207 243 = some (.bipush 12, 2) := by decide +kernel
theorem k_207_245 : cd 207 245 = some (.newarray .int, 2) := by decide +kernel
theorem k_207_247 : cd 207 247 = some (.putfield 96, 3) := by decide +kernel
theorem k_207_250 : cd 207 250 = some (.aload_n 0, 1) := by decide +kernel
theorem k_207_251 : cd 207 251 = some (.sipush 129, 3) := by decide +kernel
theorem k_207_254 : cd 207 254 = some (.newarray .int, 2) := by decide +kernel
theorem k_207_256 : cd 207 256 = some (.putfield 99, 3) := by decide +kernel
theorem k_207_259 : cd 207 259 = some (.aload_n 0, 1) := by decide +kernel
theorem k_207_260 : cd 207 260 = some (.ldc 102, 2) := by decide +kernel
theorem k_207_262 : cd 207 262 = some (.newarray .int, 2) := by decide +kernel
theorem k_207_264 : cd 207 264 = some (.putfield 103, 3) := by decide +kernel
theorem k_207_267 : cd 207 267 = some (.aload_n 0, 1) := by decide +kernel
theorem k_207_268 : cd 207 268 = some (.bipush 8, 2) := by decide +kernel
theorem k_207_270 : cd 207 270 = some (.newarray .int, 2) := by decide +kernel
theorem k_207_272 : cd 207 272 = some (.putfield 106, 3) := by decide +kernel
theorem k_207_275 : cd 207 275 = some (.aload_n 0, 1) := by decide +kernel
theorem k_207_276 : cd 207 276 = some (.bipush 8, 2) := by decide +kernel
theorem k_207_278 : cd 207 278 = some (.newarray .int, 2) := by decide +kernel
theorem k_207_280 : cd 207 280 = some (.putfield 109, 3) := by decide +kernel
theorem k_207_283 : cd 207 283 = some (.aload_n 0, 1) := by decide +kernel
theorem k_207_284 : cd 207 284 = some (.bipush 8, 2) := by decide +kernel
theorem k_207_286 : cd 207 286 = some (.newarray .int, 2) := by decide +kernel
theorem k_207_288 : cd 207 288 = some (.putfield 112, 3) := by decide +kernel
theorem k_207_291 : cd 207 291 = some (.aload_n 0, 1) := by decide +kernel
theorem k_207_292 : cd 207 292 = some (.sipush 129, 3) := by decide +kernel
theorem k_207_295 : cd 207 295 = some (.newarray .int, 2) := by decide +kernel
theorem k_207_297 : cd 207 297 = some (.putfield 115, 3) := by decide +kernel
theorem k_207_300 : cd 207 300 = some (.aload_n 0, 1) := by decide +kernel
theorem k_207_301 : cd 207 301 = some (.sipush 960, 3) := by decide +kernel
theorem k_207_304 : cd 207 304 = some (.newarray .int, 2) := by decide +kernel
theorem k_207_306 : cd 207 306 = some (.putfield 118, 3) := by decide +kernel
theorem k_207_309 : cd 207 309 = some (.aload_n 0, 1) := by decide +kernel
theorem k_207_310 : cd 207 310 = some (.bipush 12, 2) := by decide +kernel
theorem k_207_312 : cd 207 312 = some (.newarray .int, 2) := by decide +kernel
theorem k_207_314 : cd 207 314 = some (.putfield 121, 3) := by decide +kernel
theorem k_207_317 : cd 207 317 = some (.aload_n 0, 1) := by decide +kernel
theorem k_207_318 : cd 207 318 = some (.bipush 8, 2) := by decide +kernel
theorem k_207_320 : cd 207 320 = some (.newarray .int, 2) := by decide +kernel
theorem k_207_322 : cd 207 322 = some (.putfield 124, 3) := by decide +kernel
theorem k_207_325 : cd 207 325 = some (.aload_n 0, 1) := by decide +kernel
theorem k_207_326 : cd 207 326 = some (.sipush 129, 3) := by decide +kernel
theorem k_207_329 : cd 207 329 = some (.newarray .int, 2) := by decide +kernel
theorem k_207_331 : cd 207 331 = some (.putfield 127, 3) := by decide +kernel
theorem k_207_334 : cd 207 334 = some (.aload_n 0, 1) := by decide +kernel
theorem k_207_335 : cd 207 335 = some (.sipush 5160, 3) := by decide +kernel
theorem k_207_338 : cd 207 338 = some (.newarray .int, 2) := by decide +kernel
theorem k_207_340 : cd 207 340 = some (.putfield 130, 3) := by decide +kernel
theorem k_207_343 : cd 207 343 = some (.aload_n 0, 1) := by decide +kernel
theorem k_207_344 : cd 207 344 = some (.bipush 8, 2) := by decide +kernel
theorem k_207_346 : cd 207 346 = some (.newarray .int, 2) := by decide +kernel
theorem k_207_348 : cd 207 348 = some (.putfield 133, 3) := by decide +kernel
theorem k_207_351 : cd 207 351 = some (.aload_n 0, 1) := by decide +kernel
theorem k_207_352 : cd 207 352 = some (.bipush 8, 2) := by decide +kernel
theorem k_207_354 : cd 207 354 = some (.newarray .int, 2) := by decide +kernel
theorem k_207_356 : cd 207 356 = some (.putfield 136, 3) := by decide +kernel
theorem k_207_359 : cd 207 359 = some (.aload_n 0, 1) := by decide +kernel
theorem k_207_360 : cd 207 360 = some (.bipush 8, 2) := by decide +kernel
theorem k_207_362 : cd 207 362 = some (.newarray .int, 2) := by decide +kernel
theorem k_207_364 : cd 207 364 = some (.putfield 139, 3) := by decide +kernel
theorem k_207_367 : cd 207 367 = some (.aload_n 0, 1) := by decide +kernel
theorem k_207_368 : cd 207 368 = some (.iconst 3, 1) := by decide +kernel
theorem k_207_369 : cd 207 369 = some (.newarray .int, 2) := by decide +kernel
theorem k_207_371 : cd 207 371 = some (.putfield 142, 3) := by decide +kernel
theorem k_207_374 : cd 207 374 = some (.return_, 1) := by decide +kernel
theorem k_353_0 : cd 353 0 = some (.new 8, 3) := by decide +kernel
theorem k_353_3 : cd 353 3 = some (.dup, 1) := by decide +kernel
theorem k_353_4 : cd 353 4 = some (.invokespecial 108, 3) := by decide +kernel
theorem k_353_7 : cd 353 7 = some (.astore_n 1, 1) := by decide +kernel
theorem k_353_8 : cd 353 8 = some (.new 109, 3) := by decide +kernel
theorem k_353_11 : cd 353 11 = some (.dup, 1) := by decide +kernel
theorem k_353_12 : cd 353 12 = some (.invokespecial 111, 3) := by decide +kernel
theorem k_353_15 : cd 353 15 = some (.astore_n 2, 1) := by decide +kernel
theorem k_353_16 : cd 353 16 = some (.iconst 1, 1) := by decide +kernel
theorem k_353_17 : cd 353 17 = some (.newarray .long, 2) := by decide +kernel
theorem k_353_19 : cd 353 19 = some (.astore_n 3, 1) := by decide +kernel
theorem k_353_20 : cd 353 20 = some (.iconst 0, 1) := by decide +kernel
theorem k_353_21 : cd 353 21 = some (.istore 4, 2) := by decide +kernel
end CTOR
