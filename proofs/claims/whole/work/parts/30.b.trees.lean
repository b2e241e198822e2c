section TREES
def lt (x : pS) (f : pS → Option pZ) : Option pZ := f x
theorem r_lt {b k pc : Nat} {ls st : List Value} {x : pS} {f : pS → Option pZ} (H : ∀ s, gR s = gR x → Le (f s) (den b k pc ls st s)) : Le (lt x f) (den b k pc ls st x) := H x rfl
/-! ===== 69 HedgeWants.World.day ===== -/
theorem k_69_0 : cd 69 0 = some (.aload_n 0, 1) := by decide +kernel
theorem k_69_1 : cd 69 1 = some (.getfield 50, 3) := by decide +kernel
theorem k_69_4 : cd 69 4 = some (.ireturn, 1) := by decide +kernel
theorem po_69 : po 69 = 8 := rfl
theorem M_69 {w : Nat} (hw : isW w)  {σ : pS} {ρ : Nat → Nat → Option Nat} (e : gR σ = ρ) (hL : LayR ρ) : Le
  (some (1, .int (gI σ w 3), σ))
  (pcall 69 [.ref w] σ) := by
  show Le _ (den 69 0 0 [.ref w] [] σ)
  exact r_aload_n k_69_0 rfl rfl
    (r_getI k_69_1 rfl po_69 rfl rfl rfl (kdW hw)
    (r_ret k_69_4 rfl rfl))
/-! ===== 70 HedgeWants.World.save ===== -/
theorem k_70_0 : cd 70 0 = some (.iload_n 2, 1) := by decide +kernel
theorem k_70_1 : cd 70 1 = some (.sipush 129, 3) := by decide +kernel
theorem k_70_4 : cd 70 4 = some (.imul, 1) := by decide +kernel
theorem k_70_5 : cd 70 5 = some (.istore_n 3, 1) := by decide +kernel
theorem k_70_6 : cd 70 6 = some (.iload_n 2, 1) := by decide +kernel
theorem k_70_7 : cd 70 7 = some (.ifCond .lt 17, 3) := by decide +kernel
theorem k_70_10 : cd 70 10 = some (.iload_n 3, 1) := by decide +kernel
theorem k_70_11 : cd 70 11 = some (.ifCond .lt 13, 3) := by decide +kernel
theorem k_70_14 : cd 70 14 = some (.iload_n 3, 1) := by decide +kernel
theorem k_70_15 : cd 70 15 = some (.sipush 129, 3) := by decide +kernel
theorem k_70_18 : cd 70 18 = some (.iadd, 1) := by decide +kernel
theorem k_70_19 : cd 70 19 = some (.aload_n 1, 1) := by decide +kernel
theorem k_70_20 : cd 70 20 = some (.arraylength, 1) := by decide +kernel
theorem k_70_21 : cd 70 21 = some (.if_icmp .le 4, 3) := by decide +kernel
theorem k_70_24 : cd 70 24 = some (.return_, 1) := by decide +kernel
theorem k_70_25 : cd 70 25 = some (.aload_n 1, 1) := by decide +kernel
theorem k_70_26 : cd 70 26 = some (.iload_n 3, 1) := by decide +kernel
theorem k_70_27 : cd 70 27 = some (.aload_n 0, 1) := by decide +kernel
theorem k_70_28 : cd 70 28 = some (.getfield 50, 3) := by decide +kernel
theorem k_70_31 : cd 70 31 = some (.iastore, 1) := by decide +kernel
theorem k_70_32 : cd 70 32 = some (.iinc 3 1, 3) := by decide +kernel
theorem k_70_35 : cd 70 35 = some (.aload_n 0, 1) := by decide +kernel
theorem k_70_36 : cd 70 36 = some (.getfield 9, 3) := by decide +kernel
theorem k_70_39 : cd 70 39 = some (.iconst 0, 1) := by decide +kernel
theorem k_70_40 : cd 70 40 = some (.aload_n 1, 1) := by decide +kernel
theorem k_70_41 : cd 70 41 = some (.iload_n 3, 1) := by decide +kernel
theorem k_70_42 : cd 70 42 = some (.bipush 12, 2) := by decide +kernel
theorem k_70_44 : cd 70 44 = some (.invokestatic 74, 3) := by decide +kernel
theorem k_70_47 : cd 70 47 = some (.iinc 3 12, 3) := by decide +kernel
theorem k_70_50 : cd 70 50 = some (.aload_n 0, 1) := by decide +kernel
theorem k_70_51 : cd 70 51 = some (.getfield 15, 3) := by decide +kernel
theorem k_70_54 : cd 70 54 = some (.iconst 0, 1) := by decide +kernel
theorem k_70_55 : cd 70 55 = some (.aload_n 1, 1) := by decide +kernel
theorem k_70_56 : cd 70 56 = some (.iload_n 3, 1) := by decide +kernel
theorem k_70_57 : cd 70 57 = some (.bipush 12, 2) := by decide +kernel
theorem k_70_59 : cd 70 59 = some (.invokestatic 74, 3) := by decide +kernel
theorem k_70_62 : cd 70 62 = some (.iinc 3 12, 3) := by decide +kernel
theorem k_70_65 : cd 70 65 = some (.aload_n 0, 1) := by decide +kernel
theorem k_70_66 : cd 70 66 = some (.getfield 18, 3) := by decide +kernel
theorem k_70_69 : cd 70 69 = some (.iconst 0, 1) := by decide +kernel
theorem k_70_70 : cd 70 70 = some (.aload_n 1, 1) := by decide +kernel
theorem k_70_71 : cd 70 71 = some (.iload_n 3, 1) := by decide +kernel
theorem k_70_72 : cd 70 72 = some (.bipush 8, 2) := by decide +kernel
theorem k_70_74 : cd 70 74 = some (.invokestatic 74, 3) := by decide +kernel
theorem k_70_77 : cd 70 77 = some (.iinc 3 8, 3) := by decide +kernel
theorem k_70_80 : cd 70 80 = some (.aload_n 0, 1) := by decide +kernel
theorem k_70_81 : cd 70 81 = some (.getfield 21, 3) := by decide +kernel
theorem k_70_84 : cd 70 84 = some (.iconst 0, 1) := by decide +kernel
theorem k_70_85 : cd 70 85 = some (.aload_n 1, 1) := by decide +kernel
theorem k_70_86 : cd 70 86 = some (.iload_n 3, 1) := by decide +kernel
theorem k_70_87 : cd 70 87 = some (.bipush 96, 2) := by decide +kernel
theorem k_70_89 : cd 70 89 = some (.invokestatic 74, 3) := by decide +kernel
theorem k_70_92 : cd 70 92 = some (.return_, 1) := by decide +kernel
theorem po_70 : po 70 = 8 := rfl
theorem M_70 {w : Nat} (hw : isW w) {a0 n0 : Nat} (ha0 : kd a0 = (100, n0)) {x1 : Int32} {σ : pS} {ρ : Nat → Nat → Option Nat} (e : gR σ = ρ) (hL : LayR ρ) : Le
  (if x1 < (ι 0) then some (0, .null, σ) else if (x1 * (ι 129)) < (ι 0) then some (0, .null, σ) else if ((x1 * (ι 129)) + (ι 129)) ≤ (ι n0) then gd (inb (x1 * (ι 129)) n0) (lt (sI σ a0 (ix (x1 * (ι 129))) (gI σ w 3)) fun s1 => gd (cpok (ι 0) ((x1 * (ι 129)) + (ι 1)) (ι 12) 12 n0) (lt (sA s1 a0 (va_cpy (gI s1 (w + 1)) (gI s1 a0) 0 (ix ((x1 * (ι 129)) + (ι 1))) 12)) fun s2 => gd (cpok (ι 0) (((x1 * (ι 129)) + (ι 1)) + (ι 12)) (ι 12) 12 n0) (lt (sA s2 a0 (va_cpy (gI s2 (w + 2)) (gI s2 a0) 0 (ix (((x1 * (ι 129)) + (ι 1)) + (ι 12))) 12)) fun s3 => gd (cpok (ι 0) ((((x1 * (ι 129)) + (ι 1)) + (ι 12)) + (ι 12)) (ι 8) 8 n0) (lt (sA s3 a0 (va_cpy (gI s3 (w + 3)) (gI s3 a0) 0 (ix ((((x1 * (ι 129)) + (ι 1)) + (ι 12)) + (ι 12))) 8)) fun s4 => gd (cpok (ι 0) (((((x1 * (ι 129)) + (ι 1)) + (ι 12)) + (ι 12)) + (ι 8)) (ι 96) 96 n0) (lt (sA s4 a0 (va_cpy (gI s4 (w + 4)) (gI s4 a0) 0 (ix (((((x1 * (ι 129)) + (ι 1)) + (ι 12)) + (ι 12)) + (ι 8))) 96)) fun s5 => some (0, .null, s5)))))) else some (0, .null, σ))
  (pcall 70 [.ref w, .ref a0, .int x1] σ) := by
  show Le _ (den 70 0 0 [.ref w, .ref a0, .int x1, .retAddr 0] [] σ)
  exact r_iload_n k_70_0 rfl rfl
    (r_sipush k_70_1 rfl rfl
    (r_imul k_70_4 rfl
    (r_istore_n k_70_5 rfl rfl rfl
    (r_iload_n k_70_6 rfl rfl
    (r_if (tgt := 24) k_70_7 rfl rfl cop_lt
    (r_retV k_70_24 rfl)
    (r_iload_n k_70_10 rfl rfl
    (r_if (tgt := 24) k_70_11 rfl rfl cop_lt
    (r_retV k_70_24 rfl)
    (r_iload_n k_70_14 rfl rfl
    (r_sipush k_70_15 rfl rfl
    (r_iadd k_70_18 rfl
    (r_aload_n k_70_19 rfl rfl
    (r_alenI k_70_20 rfl ha0 rfl
    (r_icmp (tgt := 25) k_70_21 rfl rfl cop_le
    (r_aload_n k_70_25 rfl rfl
    (r_iload_n k_70_26 rfl rfl
    (r_aload_n k_70_27 rfl rfl
    (r_getI k_70_28 rfl po_70 rfl rfl rfl (kdW hw)
    (r_gd fun g => r_iast k_70_31 rfl ha0 g
    (r_lt fun s1 es1 => r_iinc k_70_32 rfl rfl rfl rfl
    (r_aload_n k_70_35 rfl rfl
    (r_getR k_70_36 rfl po_70 rfl rfl rfl (kdW hw) (gRat (es1.trans (eI e)) (lyW_4 hL hw))
    (r_iconst k_70_39 rfl rfl
    (r_aload_n k_70_40 rfl rfl
    (r_iload_n k_70_41 rfl rfl
    (r_bipush k_70_42 rfl rfl
    (r_gd fun g => r_copy k_70_44 rfl po_70 rfl (kdW_1 hw) ha0 rfl g
    (r_lt fun s2 es2 => r_iinc k_70_47 rfl rfl rfl rfl
    (r_aload_n k_70_50 rfl rfl
    (r_getR k_70_51 rfl po_70 rfl rfl rfl (kdW hw) (gRat (es2.trans (eA (es1.trans (eI e)))) (lyW_5 hL hw))
    (r_iconst k_70_54 rfl rfl
    (r_aload_n k_70_55 rfl rfl
    (r_iload_n k_70_56 rfl rfl
    (r_bipush k_70_57 rfl rfl
    (r_gd fun g => r_copy k_70_59 rfl po_70 rfl (kdW_2 hw) ha0 rfl g
    (r_lt fun s3 es3 => r_iinc k_70_62 rfl rfl rfl rfl
    (r_aload_n k_70_65 rfl rfl
    (r_getR k_70_66 rfl po_70 rfl rfl rfl (kdW hw) (gRat (es3.trans (eA (es2.trans (eA (es1.trans (eI e)))))) (lyW_6 hL hw))
    (r_iconst k_70_69 rfl rfl
    (r_aload_n k_70_70 rfl rfl
    (r_iload_n k_70_71 rfl rfl
    (r_bipush k_70_72 rfl rfl
    (r_gd fun g => r_copy k_70_74 rfl po_70 rfl (kdW_3 hw) ha0 rfl g
    (r_lt fun s4 es4 => r_iinc k_70_77 rfl rfl rfl rfl
    (r_aload_n k_70_80 rfl rfl
    (r_getR k_70_81 rfl po_70 rfl rfl rfl (kdW hw) (gRat (es4.trans (eA (es3.trans (eA (es2.trans (eA (es1.trans (eI e)))))))) (lyW_7 hL hw))
    (r_iconst k_70_84 rfl rfl
    (r_aload_n k_70_85 rfl rfl
    (r_iload_n k_70_86 rfl rfl
    (r_bipush k_70_87 rfl rfl
    (r_gd fun g => r_copy k_70_89 rfl po_70 rfl (kdW_4 hw) ha0 rfl g
    (r_lt fun s5 es5 => r_retV k_70_92 rfl))))))))))))))))))))))))))))))))))))))
    (r_retV k_70_24 rfl))))))))))))))
/-! ===== 71 HedgeWants.World.pass ===== -/
theorem k_71_0 : cd 71 0 = some (.aload_n 0, 1) := by decide +kernel
theorem k_71_1 : cd 71 1 = some (.getfield 53, 3) := by decide +kernel
theorem k_71_4 : cd 71 4 = some (.ifCond .eq 29, 3) := by decide +kernel
theorem k_71_7 : cd 71 7 = some (.iload_n 1, 1) := by decide +kernel
theorem k_71_8 : cd 71 8 = some (.ifCond .ne 25, 3) := by decide +kernel
theorem k_71_11 : cd 71 11 = some (.aload_n 0, 1) := by decide +kernel
theorem k_71_12 : cd 71 12 = some (.getfield 32, 3) := by decide +kernel
theorem k_71_15 : cd 71 15 = some (.invokevirtual 136, 3) := by decide +kernel
theorem k_71_18 : cd 71 18 = some (.ifCond .ne 15, 3) := by decide +kernel
theorem k_71_21 : cd 71 21 = some (.aload_n 0, 1) := by decide +kernel
theorem k_71_22 : cd 71 22 = some (.dup, 1) := by decide +kernel
theorem k_71_23 : cd 71 23 = some (.getfield 50, 3) := by decide +kernel
theorem k_71_26 : cd 71 26 = some (.iconst 1, 1) := by decide +kernel
theorem k_71_27 : cd 71 27 = some (.iadd, 1) := by decide +kernel
theorem k_71_28 : cd 71 28 = some (.putfield 50, 3) := by decide +kernel
theorem k_71_31 : cd 71 31 = some (.iconst 0, 1) := by decide +kernel
theorem k_71_32 : cd 71 32 = some (.ireturn, 1) := by decide +kernel
theorem k_71_33 : cd 71 33 = some (.aload_n 0, 1) := by decide +kernel
theorem k_71_34 : cd 71 34 = some (.iload_n 1, 1) := by decide +kernel
theorem k_71_35 : cd 71 35 = some (.putfield 102, 3) := by decide +kernel
theorem k_71_38 : cd 71 38 = some (.iconst 0, 1) := by decide +kernel
theorem k_71_39 : cd 71 39 = some (.istore_n 2, 1) := by decide +kernel
theorem k_71_40 : cd 71 40 = some (.iconst 0, 1) := by decide +kernel
theorem k_71_41 : cd 71 41 = some (.istore_n 3, 1) := by decide +kernel
theorem k_71_42 : cd 71 42 = some (.iload_n 3, 1) := by decide +kernel
theorem k_71_43 : cd 71 43 = some (.aload_n 0, 1) := by decide +kernel
theorem k_71_44 : cd 71 44 = some (.getfield 48, 3) := by decide +kernel
theorem k_71_47 : cd 71 47 = some (.if_icmp .ge 57, 3) := by decide +kernel
theorem k_71_50 : cd 71 50 = some (.iload_n 3, 1) := by decide +kernel
theorem k_71_51 : cd 71 51 = some (.aload_n 0, 1) := by decide +kernel
theorem k_71_52 : cd 71 52 = some (.getfield 24, 3) := by decide +kernel
theorem k_71_55 : cd 71 55 = some (.arraylength, 1) := by decide +kernel
theorem k_71_56 : cd 71 56 = some (.if_icmp .ge 48, 3) := by decide +kernel
theorem k_71_59 : cd 71 59 = some (.aload_n 0, 1) := by decide +kernel
theorem k_71_60 : cd 71 60 = some (.iload_n 3, 1) := by decide +kernel
theorem k_71_61 : cd 71 61 = some (.invokevirtual 139, 3) := by decide +kernel
theorem k_71_64 : cd 71 64 = some (.istore 4, 2) := by decide +kernel
theorem k_71_66 : cd 71 66 = some (.iload 4, 2) := by decide +kernel
theorem k_71_68 : cd 71 68 = some (.iconst (-1), 1) := by decide +kernel
theorem k_71_69 : cd 71 69 = some (.if_icmp .eq 29, 3) := by decide +kernel
theorem k_71_72 : cd 71 72 = some (.aload_n 0, 1) := by decide +kernel
theorem k_71_73 : cd 71 73 = some (.iload_n 3, 1) := by decide +kernel
theorem k_71_74 : cd 71 74 = some (.iload 4, 2) := by decide +kernel
theorem k_71_76 : cd 71 76 = some (.invokevirtual 142, 3) := by decide +kernel
theorem k_71_79 : cd 71 79 = some (.aload_n 0, 1) := by decide +kernel
theorem k_71_80 : cd 71 80 = some (.iload_n 3, 1) := by decide +kernel
theorem k_71_81 : cd 71 81 = some (.iconst 0, 1) := by decide +kernel
theorem k_71_82 : cd 71 82 = some (.invokevirtual 146, 3) := by decide +kernel
theorem k_71_85 : cd 71 85 = some (.aload_n 0, 1) := by decide +kernel
theorem k_71_86 : cd 71 86 = some (.getfield 24, 3) := by decide +kernel
theorem k_71_89 : cd 71 89 = some (.iload_n 3, 1) := by decide +kernel
theorem k_71_90 : cd 71 90 = some (.dup2, 1) := by decide +kernel
theorem k_71_91 : cd 71 91 = some (.iaload, 1) := by decide +kernel
theorem k_71_92 : cd 71 92 = some (.iconst 1, 1) := by decide +kernel
theorem k_71_93 : cd 71 93 = some (.iadd, 1) := by decide +kernel
theorem k_71_94 : cd 71 94 = some (.iastore, 1) := by decide +kernel
theorem k_71_95 : cd 71 95 = some (.iinc 2 1, 3) := by decide +kernel
theorem k_71_98 : cd 71 98 = some (.iinc 3 1, 3) := by decide +kernel
theorem k_71_101 : cd 71 101 = some (.goto (-59), 3) := by decide +kernel
theorem k_71_104 : cd 71 104 = some (.iconst 0, 1) := by decide +kernel
theorem k_71_105 : cd 71 105 = some (.istore_n 3, 1) := by decide +kernel
theorem k_71_106 : cd 71 106 = some (.iconst 0, 1) := by decide +kernel
theorem k_71_107 : cd 71 107 = some (.istore 4, 2) := by decide +kernel
theorem k_71_109 : cd 71 109 = some (.iload 4, 2) := by decide +kernel
theorem k_71_111 : cd 71 111 = some (.aload_n 0, 1) := by decide +kernel
theorem k_71_112 : cd 71 112 = some (.getfield 48, 3) := by decide +kernel
theorem k_71_115 : cd 71 115 = some (.if_icmp .ge 60, 3) := by decide +kernel
theorem k_71_118 : cd 71 118 = some (.aload_n 0, 1) := by decide +kernel
theorem k_71_119 : cd 71 119 = some (.iload 4, 2) := by decide +kernel
theorem k_71_121 : cd 71 121 = some (.invokevirtual 94, 3) := by decide +kernel
theorem k_71_124 : cd 71 124 = some (.istore 5, 2) := by decide +kernel
theorem k_71_126 : cd 71 126 = some (.iload 5, 2) := by decide +kernel
theorem k_71_128 : cd 71 128 = some (.bipush 9, 2) := by decide +kernel
theorem k_71_130 : cd 71 130 = some (.if_icmp .ge 20, 3) := by decide +kernel
theorem k_71_133 : cd 71 133 = some (.aload_n 0, 1) := by decide +kernel
theorem k_71_134 : cd 71 134 = some (.iload 4, 2) := by decide +kernel
theorem k_71_136 : cd 71 136 = some (.invokevirtual 149, 3) := by decide +kernel
theorem k_71_139 : cd 71 139 = some (.bipush 9, 2) := by decide +kernel
theorem k_71_141 : cd 71 141 = some (.iload 5, 2) := by decide +kernel
theorem k_71_143 : cd 71 143 = some (.isub, 1) := by decide +kernel
theorem k_71_144 : cd 71 144 = some (.invokestatic 152, 3) := by decide +kernel
theorem k_71_147 : cd 71 147 = some (.goto 4, 3) := by decide +kernel
theorem k_71_150 : cd 71 150 = some (.iconst 0, 1) := by decide +kernel
theorem k_71_151 : cd 71 151 = some (.istore 6, 2) := by decide +kernel
theorem k_71_153 : cd 71 153 = some (.aload_n 0, 1) := by decide +kernel
theorem k_71_154 : cd 71 154 = some (.iload 4, 2) := by decide +kernel
theorem k_71_156 : cd 71 156 = some (.iload 5, 2) := by decide +kernel
theorem k_71_158 : cd 71 158 = some (.iload 6, 2) := by decide +kernel
theorem k_71_160 : cd 71 160 = some (.iadd, 1) := by decide +kernel
theorem k_71_161 : cd 71 161 = some (.invokevirtual 146, 3) := by decide +kernel
theorem k_71_164 : cd 71 164 = some (.iload_n 3, 1) := by decide +kernel
theorem k_71_165 : cd 71 165 = some (.iload 6, 2) := by decide +kernel
theorem k_71_167 : cd 71 167 = some (.iadd, 1) := by decide +kernel
theorem k_71_168 : cd 71 168 = some (.istore_n 3, 1) := by decide +kernel
theorem k_71_169 : cd 71 169 = some (.iinc 4 1, 3) := by decide +kernel
theorem k_71_172 : cd 71 172 = some (.goto (-63), 3) := by decide +kernel
theorem k_71_175 : cd 71 175 = some (.aload_n 0, 1) := by decide +kernel
theorem k_71_176 : cd 71 176 = some (.iconst 0, 1) := by decide +kernel
theorem k_71_177 : cd 71 177 = some (.putfield 102, 3) := by decide +kernel
theorem k_71_180 : cd 71 180 = some (.aload_n 0, 1) := by decide +kernel
theorem k_71_181 : cd 71 181 = some (.iload_n 1, 1) := by decide +kernel
theorem k_71_182 : cd 71 182 = some (.ifCond .ne 15, 3) := by decide +kernel
theorem k_71_185 : cd 71 185 = some (.iload_n 2, 1) := by decide +kernel
theorem k_71_186 : cd 71 186 = some (.ifCond .ne 11, 3) := by decide +kernel
theorem k_71_189 : cd 71 189 = some (.iload_n 3, 1) := by decide +kernel
theorem k_71_190 : cd 71 190 = some (.ifCond .ne 7, 3) := by decide +kernel
theorem k_71_193 : cd 71 193 = some (.iconst 1, 1) := by decide +kernel
theorem k_71_194 : cd 71 194 = some (.goto 4, 3) := by decide +kernel
theorem k_71_197 : cd 71 197 = some (.iconst 0, 1) := by decide +kernel
theorem k_71_198 : cd 71 198 = some (.putfield 53, 3) := by decide +kernel
theorem k_71_201 : cd 71 201 = some (.aload_n 0, 1) := by decide +kernel
theorem k_71_202 : cd 71 202 = some (.dup, 1) := by decide +kernel
theorem k_71_203 : cd 71 203 = some (.getfield 50, 3) := by decide +kernel
theorem k_71_206 : cd 71 206 = some (.iconst 1, 1) := by decide +kernel
theorem k_71_207 : cd 71 207 = some (.iadd, 1) := by decide +kernel
theorem k_71_208 : cd 71 208 = some (.putfield 50, 3) := by decide +kernel
theorem k_71_211 : cd 71 211 = some (.iload_n 2, 1) := by decide +kernel
theorem k_71_212 : cd 71 212 = some (.ireturn, 1) := by decide +kernel
theorem po_71 : po 71 = 8 := rfl
noncomputable def C_71_42 (w : Nat) (x1 : Int32) (x2 : Int32) (x3 : Int32) (v4 : Value) (v5 : Value) (v6 : Value) (σ : pS) : Option pZ := den 71 0 42 [.ref w, .int x1, .int x2, .int x3, v4, v5, v6] [] σ
noncomputable def C_71_109 (w : Nat) (x1 : Int32) (x2 : Int32) (x3 : Int32) (x4 : Int32) (v5 : Value) (v6 : Value) (σ : pS) : Option pZ := den 71 0 109 [.ref w, .int x1, .int x2, .int x3, .int x4, v5, v6] [] σ
theorem T_71_42 {w : Nat} (hw : isW w) {x1 : Int32} {x2 : Int32} {x3 : Int32} {v4 : Value} {v5 : Value} {v6 : Value}  {σ : pS} {ρ : Nat → Nat → Option Nat} (e : gR σ = ρ) (hL : LayR ρ) : Le
  (if (gI σ w 2) ≤ x3 then C_71_109 w x1 x2 (ι 0) (ι 0) v5 v6 σ else if (ι 12) ≤ x3 then C_71_109 w x1 x2 (ι 0) (ι 0) v5 v6 σ else bI (pcall 72 [.ref w, .int x3] σ) fun r1 σ1 => if r1 = (ν 1) then C_71_42 w x1 x2 (x3 + (ι 1)) (.int r1) v5 v6 σ1 else bV (pcall 80 [.ref w, .int x3, .int r1] σ1) fun σ2 => bV (pcall 81 [.ref w, .int x3, .int (ι 0)] σ2) fun σ3 => gd (inb x3 12) (gd (inb x3 12) (C_71_42 w x1 (x2 + (ι 1)) (x3 + (ι 1)) (.int r1) v5 v6 (sI σ3 (w + 5) (ix x3) ((gI σ3 (w + 5) (ix x3)) + (ι 1))))))
  (C_71_42 w x1 x2 x3 v4 v5 v6 σ) := by
  unfold C_71_42
  exact r_iload_n k_71_42 rfl rfl
    (r_aload_n k_71_43 rfl rfl
    (r_getI k_71_44 rfl po_71 rfl rfl rfl (kdW hw)
    (r_icmp (tgt := 104) k_71_47 rfl rfl cop_ge
    (r_iconst k_71_104 rfl rfl
    (r_istore_n k_71_105 rfl rfl rfl
    (r_iconst k_71_106 rfl rfl
    (r_istore k_71_107 rfl rfl rfl
    (Le.rfl')))))
    (r_iload_n k_71_50 rfl rfl
    (r_aload_n k_71_51 rfl rfl
    (r_getR k_71_52 rfl po_71 rfl rfl rfl (kdW hw) (gRat e (lyW_8 hL hw))
    (r_alenI k_71_55 rfl (kdW_5 hw) rfl
    (r_icmp (tgt := 104) k_71_56 rfl rfl cop_ge
    (r_iconst k_71_104 rfl rfl
    (r_istore_n k_71_105 rfl rfl rfl
    (r_iconst k_71_106 rfl rfl
    (r_istore k_71_107 rfl rfl rfl
    (Le.rfl')))))
    (r_aload_n k_71_59 rfl rfl
    (r_iload_n k_71_60 rfl rfl
    (r_callI (q_virt (rest := []) (as := [.int x3]) k_71_61 po_71 rfl rfl rfl (rcvO rfl rfl (kdW hw)) rfl rfl) (lvq (j := 0) rfl (by decide +kernel)) rfl rfl (fun r1 σ1 h1 => r_istore k_71_64 rfl rfl rfl
    (r_iload k_71_66 rfl rfl
    (r_iconst k_71_68 rfl rfl
    (r_icmp (tgt := 98) k_71_69 rfl rfl cop_eq
    (r_iinc k_71_98 rfl rfl rfl rfl
    (r_goto (tgt := 42) k_71_101 rfl (Le.rfl')))
    (r_aload_n k_71_72 rfl rfl
    (r_iload_n k_71_73 rfl rfl
    (r_iload k_71_74 rfl rfl
    (r_callV (q_virt (rest := []) (as := [.int x3, .int r1]) k_71_76 po_71 rfl rfl rfl (rcvO rfl rfl (kdW hw)) rfl rfl) (lvq (j := 0) rfl (by decide +kernel)) rfl rfl (fun _ σ2 h2 => r_aload_n k_71_79 rfl rfl
    (r_iload_n k_71_80 rfl rfl
    (r_iconst k_71_81 rfl rfl
    (r_callV (q_virt (rest := []) (as := [.int x3, .int (ι 0)]) k_71_82 po_71 rfl rfl rfl (rcvO rfl rfl (kdW hw)) rfl rfl) (lvq (j := 0) rfl (by decide +kernel)) rfl rfl (fun _ σ3 h3 => r_aload_n k_71_85 rfl rfl
    (r_getR k_71_86 rfl po_71 rfl rfl rfl (kdW hw) (gRat (eC rfl h3 (eC rfl h2 (eC rfl h1 e))) (lyW_8 hL hw))
    (r_iload_n k_71_89 rfl rfl
    (r_dup2 k_71_90 rfl rfl rfl
    (r_gd fun g => r_iald k_71_91 rfl (kdW_5 hw) g
    (r_iconst k_71_92 rfl rfl
    (r_iadd k_71_93 rfl
    (r_gd fun g => r_iast k_71_94 rfl (kdW_5 hw) g
    (r_iinc k_71_95 rfl rfl rfl rfl
    (r_iinc k_71_98 rfl rfl rfl rfl
    (r_goto (tgt := 42) k_71_101 rfl (Le.rfl')))))))))))))))))))))))))))))))))))
theorem T_71_109 {w : Nat} (hw : isW w) {x1 : Int32} {x2 : Int32} {x3 : Int32} {x4 : Int32} {v5 : Value} {v6 : Value}  {σ : pS} {ρ : Nat → Nat → Option Nat} (e : gR σ = ρ) (hL : LayR ρ) : Le
  (if (gI σ w 2) ≤ x4 then if ¬ x1 = (ι 0) then some (1, .int x2, (sI (sI (sI σ w 10 (ι 0)) w 11 (ι 0)) w 3 ((gI (sI (sI σ w 10 (ι 0)) w 11 (ι 0)) w 3) + (ι 1)))) else if ¬ x2 = (ι 0) then some (1, .int x2, (sI (sI (sI σ w 10 (ι 0)) w 11 (ι 0)) w 3 ((gI (sI (sI σ w 10 (ι 0)) w 11 (ι 0)) w 3) + (ι 1)))) else if ¬ x3 = (ι 0) then some (1, .int x2, (sI (sI (sI σ w 10 (ι 0)) w 11 (ι 0)) w 3 ((gI (sI (sI σ w 10 (ι 0)) w 11 (ι 0)) w 3) + (ι 1)))) else some (1, .int x2, (sI (sI (sI σ w 10 (ι 0)) w 11 (ι 1)) w 3 ((gI (sI (sI σ w 10 (ι 0)) w 11 (ι 1)) w 3) + (ι 1)))) else bI (pcall 76 [.ref w, .int x4] σ) fun r1 σ1 => if (ι 9) ≤ r1 then bV (pcall 81 [.ref w, .int x4, .int (r1 + (ι 0))] σ1) fun σ2 => C_71_109 w x1 x2 (x3 + (ι 0)) (x4 + (ι 1)) (.int r1) (.int (ι 0)) σ2 else bI (pcall 82 [.ref w, .int x4] σ1) fun r3 σ3 => bV (pcall 81 [.ref w, .int x4, .int (r1 + (imin r3 ((ι 9) - r1)))] σ3) fun σ4 => C_71_109 w x1 x2 (x3 + (imin r3 ((ι 9) - r1))) (x4 + (ι 1)) (.int r1) (.int (imin r3 ((ι 9) - r1))) σ4)
  (C_71_109 w x1 x2 x3 x4 v5 v6 σ) := by
  unfold C_71_109
  exact r_iload k_71_109 rfl rfl
    (r_aload_n k_71_111 rfl rfl
    (r_getI k_71_112 rfl po_71 rfl rfl rfl (kdW hw)
    (r_icmp (tgt := 175) k_71_115 rfl rfl cop_ge
    (r_aload_n k_71_175 rfl rfl
    (r_iconst k_71_176 rfl rfl
    (r_putI k_71_177 rfl po_71 rfl rfl (kdW hw)
    (r_aload_n k_71_180 rfl rfl
    (r_iload_n k_71_181 rfl rfl
    (r_if (tgt := 197) k_71_182 rfl rfl cop_ne
    (r_iconst k_71_197 rfl rfl
    (r_putZ k_71_198 rfl po_71 rfl rfl (kdW hw) (by decide)
    (r_aload_n k_71_201 rfl rfl
    (r_dup k_71_202 rfl rfl
    (r_getI k_71_203 rfl po_71 rfl rfl rfl (kdW hw)
    (r_iconst k_71_206 rfl rfl
    (r_iadd k_71_207 rfl
    (r_putI k_71_208 rfl po_71 rfl rfl (kdW hw)
    (r_iload_n k_71_211 rfl rfl
    (r_ret k_71_212 rfl rfl))))))))))
    (r_iload_n k_71_185 rfl rfl
    (r_if (tgt := 197) k_71_186 rfl rfl cop_ne
    (r_iconst k_71_197 rfl rfl
    (r_putZ k_71_198 rfl po_71 rfl rfl (kdW hw) (by decide)
    (r_aload_n k_71_201 rfl rfl
    (r_dup k_71_202 rfl rfl
    (r_getI k_71_203 rfl po_71 rfl rfl rfl (kdW hw)
    (r_iconst k_71_206 rfl rfl
    (r_iadd k_71_207 rfl
    (r_putI k_71_208 rfl po_71 rfl rfl (kdW hw)
    (r_iload_n k_71_211 rfl rfl
    (r_ret k_71_212 rfl rfl))))))))))
    (r_iload_n k_71_189 rfl rfl
    (r_if (tgt := 197) k_71_190 rfl rfl cop_ne
    (r_iconst k_71_197 rfl rfl
    (r_putZ k_71_198 rfl po_71 rfl rfl (kdW hw) (by decide)
    (r_aload_n k_71_201 rfl rfl
    (r_dup k_71_202 rfl rfl
    (r_getI k_71_203 rfl po_71 rfl rfl rfl (kdW hw)
    (r_iconst k_71_206 rfl rfl
    (r_iadd k_71_207 rfl
    (r_putI k_71_208 rfl po_71 rfl rfl (kdW hw)
    (r_iload_n k_71_211 rfl rfl
    (r_ret k_71_212 rfl rfl))))))))))
    (r_iconst k_71_193 rfl rfl
    (r_goto (tgt := 198) k_71_194 rfl (r_putZ k_71_198 rfl po_71 rfl rfl (kdW hw) (by decide)
    (r_aload_n k_71_201 rfl rfl
    (r_dup k_71_202 rfl rfl
    (r_getI k_71_203 rfl po_71 rfl rfl rfl (kdW hw)
    (r_iconst k_71_206 rfl rfl
    (r_iadd k_71_207 rfl
    (r_putI k_71_208 rfl po_71 rfl rfl (kdW hw)
    (r_iload_n k_71_211 rfl rfl
    (r_ret k_71_212 rfl rfl)))))))))))))))))))))
    (r_aload_n k_71_118 rfl rfl
    (r_iload k_71_119 rfl rfl
    (r_callI (q_virt (rest := []) (as := [.int x4]) k_71_121 po_71 rfl rfl rfl (rcvO rfl rfl (kdW hw)) rfl rfl) (lvq (j := 0) rfl (by decide +kernel)) rfl rfl (fun r1 σ1 h1 => r_istore k_71_124 rfl rfl rfl
    (r_iload k_71_126 rfl rfl
    (r_bipush k_71_128 rfl rfl
    (r_icmp (tgt := 150) k_71_130 rfl rfl cop_ge
    (r_iconst k_71_150 rfl rfl
    (r_istore k_71_151 rfl rfl rfl
    (r_aload_n k_71_153 rfl rfl
    (r_iload k_71_154 rfl rfl
    (r_iload k_71_156 rfl rfl
    (r_iload k_71_158 rfl rfl
    (r_iadd k_71_160 rfl
    (r_callV (q_virt (rest := []) (as := [.int x4, .int (r1 + (ι 0))]) k_71_161 po_71 rfl rfl rfl (rcvO rfl rfl (kdW hw)) rfl rfl) (lvq (j := 0) rfl (by decide +kernel)) rfl rfl (fun _ σ2 h2 => r_iload_n k_71_164 rfl rfl
    (r_iload k_71_165 rfl rfl
    (r_iadd k_71_167 rfl
    (r_istore_n k_71_168 rfl rfl rfl
    (r_iinc k_71_169 rfl rfl rfl rfl
    (r_goto (tgt := 109) k_71_172 rfl (Le.rfl')))))))))))))))
    (r_aload_n k_71_133 rfl rfl
    (r_iload k_71_134 rfl rfl
    (r_callI (q_virt (rest := []) (as := [.int x4]) k_71_136 po_71 rfl rfl rfl (rcvO rfl rfl (kdW hw)) rfl rfl) (lvq (j := 0) rfl (by decide +kernel)) rfl rfl (fun r3 σ3 h3 => r_bipush k_71_139 rfl rfl
    (r_iload k_71_141 rfl rfl
    (r_isub k_71_143 rfl
    (r_imin k_71_144 rfl po_71 rfl rfl
    (r_goto (tgt := 151) k_71_147 rfl (r_istore k_71_151 rfl rfl rfl
    (r_aload_n k_71_153 rfl rfl
    (r_iload k_71_154 rfl rfl
    (r_iload k_71_156 rfl rfl
    (r_iload k_71_158 rfl rfl
    (r_iadd k_71_160 rfl
    (r_callV (q_virt (rest := []) (as := [.int x4, .int (r1 + (imin r3 ((ι 9) - r1)))]) k_71_161 po_71 rfl rfl rfl (rcvO rfl rfl (kdW hw)) rfl rfl) (lvq (j := 0) rfl (by decide +kernel)) rfl rfl (fun _ σ4 h4 => r_iload_n k_71_164 rfl rfl
    (r_iload k_71_165 rfl rfl
    (r_iadd k_71_167 rfl
    (r_istore_n k_71_168 rfl rfl rfl
    (r_iinc k_71_169 rfl rfl rfl rfl
    (r_goto (tgt := 109) k_71_172 rfl (Le.rfl'))))))))))))))))))))))))))))))))
theorem M_71 {w : Nat} (hw : isW w) {x0 : Int32} {σ : pS} {ρ : Nat → Nat → Option Nat} (e : gR σ = ρ) (hL : LayR ρ) : Le
  (if (gI σ w 11) = (ι 0) then C_71_42 w x0 (ι 0) (ι 0) (.retAddr 0) (.retAddr 0) (.retAddr 0) (sI σ w 10 x0) else if ¬ x0 = (ι 0) then C_71_42 w x0 (ι 0) (ι 0) (.retAddr 0) (.retAddr 0) (.retAddr 0) (sI σ w 10 x0) else bG isP (gR σ w 0) fun q1 => bI (pcall 26 [.ref q1] σ) fun r2 σ2 => if ¬ r2 = (ι 0) then C_71_42 w x0 (ι 0) (ι 0) (.retAddr 0) (.retAddr 0) (.retAddr 0) (sI σ2 w 10 x0) else some (1, .int (ι 0), (sI σ2 w 3 ((gI σ2 w 3) + (ι 1)))))
  (pcall 71 [.ref w, .int x0] σ) := by
  show Le _ (den 71 0 0 [.ref w, .int x0, .retAddr 0, .retAddr 0, .retAddr 0, .retAddr 0, .retAddr 0] [] σ)
  exact r_aload_n k_71_0 rfl rfl
    (r_getI k_71_1 rfl po_71 rfl rfl rfl (kdW hw)
    (r_if (tgt := 33) k_71_4 rfl rfl cop_eq
    (r_aload_n k_71_33 rfl rfl
    (r_iload_n k_71_34 rfl rfl
    (r_putI k_71_35 rfl po_71 rfl rfl (kdW hw)
    (r_iconst k_71_38 rfl rfl
    (r_istore_n k_71_39 rfl rfl rfl
    (r_iconst k_71_40 rfl rfl
    (r_istore_n k_71_41 rfl rfl rfl
    (Le.rfl'))))))))
    (r_iload_n k_71_7 rfl rfl
    (r_if (tgt := 33) k_71_8 rfl rfl cop_ne
    (r_aload_n k_71_33 rfl rfl
    (r_iload_n k_71_34 rfl rfl
    (r_putI k_71_35 rfl po_71 rfl rfl (kdW hw)
    (r_iconst k_71_38 rfl rfl
    (r_istore_n k_71_39 rfl rfl rfl
    (r_iconst k_71_40 rfl rfl
    (r_istore_n k_71_41 rfl rfl rfl
    (Le.rfl'))))))))
    (r_aload_n k_71_11 rfl rfl
    (r_getG k_71_12 rfl po_71 rfl rfl rfl (kdW hw) fun q1 hq1 => r_callI (q_virt (rest := []) (as := []) k_71_15 po_71 rfl rfl rfl (rcvO rfl rfl (kdP hq1)) rfl rfl) (lvq (j := 0) rfl (by decide +kernel)) rfl rfl (fun r2 σ2 h2 => r_if (tgt := 33) k_71_18 rfl rfl cop_ne
    (r_aload_n k_71_33 rfl rfl
    (r_iload_n k_71_34 rfl rfl
    (r_putI k_71_35 rfl po_71 rfl rfl (kdW hw)
    (r_iconst k_71_38 rfl rfl
    (r_istore_n k_71_39 rfl rfl rfl
    (r_iconst k_71_40 rfl rfl
    (r_istore_n k_71_41 rfl rfl rfl
    (Le.rfl'))))))))
    (r_aload_n k_71_21 rfl rfl
    (r_dup k_71_22 rfl rfl
    (r_getI k_71_23 rfl po_71 rfl rfl rfl (kdW hw)
    (r_iconst k_71_26 rfl rfl
    (r_iadd k_71_27 rfl
    (r_putI k_71_28 rfl po_71 rfl rfl (kdW hw)
    (r_iconst k_71_31 rfl rfl
    (r_ret k_71_32 rfl rfl)))))))))))))))
/-! ===== 72 HedgeWants.World.takerOf ===== -/
theorem k_72_0 : cd 72 0 = some (.iconst (-1), 1) := by decide +kernel
theorem k_72_1 : cd 72 1 = some (.istore_n 2, 1) := by decide +kernel
theorem k_72_2 : cd 72 2 = some (.iconst (-1), 1) := by decide +kernel
theorem k_72_3 : cd 72 3 = some (.istore_n 3, 1) := by decide +kernel
theorem k_72_4 : cd 72 4 = some (.iconst 0, 1) := by decide +kernel
theorem k_72_5 : cd 72 5 = some (.istore 4, 2) := by decide +kernel
theorem k_72_7 : cd 72 7 = some (.iload 4, 2) := by decide +kernel
theorem k_72_9 : cd 72 9 = some (.aload_n 0, 1) := by decide +kernel
theorem k_72_10 : cd 72 10 = some (.getfield 42, 3) := by decide +kernel
theorem k_72_13 : cd 72 13 = some (.if_icmp .ge 40, 3) := by decide +kernel
theorem k_72_16 : cd 72 16 = some (.aload_n 0, 1) := by decide +kernel
theorem k_72_17 : cd 72 17 = some (.iload 4, 2) := by decide +kernel
theorem k_72_19 : cd 72 19 = some (.iload_n 1, 1) := by decide +kernel
theorem k_72_20 : cd 72 20 = some (.invokevirtual 105, 3) := by decide +kernel
theorem k_72_23 : cd 72 23 = some (.istore 5, 2) := by decide +kernel
theorem k_72_25 : cd 72 25 = some (.iload 5, 2) := by decide +kernel
theorem k_72_27 : cd 72 27 = some (.iload_n 3, 1) := by decide +kernel
theorem k_72_28 : cd 72 28 = some (.if_icmp .le 19, 3) := by decide +kernel
theorem k_72_31 : cd 72 31 = some (.aload_n 0, 1) := by decide +kernel
theorem k_72_32 : cd 72 32 = some (.iload_n 1, 1) := by decide +kernel
theorem k_72_33 : cd 72 33 = some (.iload 4, 2) := by decide +kernel
theorem k_72_35 : cd 72 35 = some (.invokevirtual 130, 3) := by decide +kernel
theorem k_72_38 : cd 72 38 = some (.ifCond .eq 9, 3) := by decide +kernel
theorem k_72_41 : cd 72 41 = some (.iload 4, 2) := by decide +kernel
theorem k_72_43 : cd 72 43 = some (.istore_n 2, 1) := by decide +kernel
theorem k_72_44 : cd 72 44 = some (.iload 5, 2) := by decide +kernel
theorem k_72_46 : cd 72 46 = some (.istore_n 3, 1) := by decide +kernel
theorem k_72_47 : cd 72 47 = some (.iinc 4 1, 3) := by decide +kernel
theorem k_72_50 : cd 72 50 = some (.goto (-43), 3) := by decide +kernel
theorem k_72_53 : cd 72 53 = some (.iload_n 2, 1) := by decide +kernel
theorem k_72_54 : cd 72 54 = some (.ireturn, 1) := by decide +kernel
theorem po_72 : po 72 = 8 := rfl
noncomputable def C_72_7 (w : Nat) (x1 : Int32) (x2 : Int32) (x3 : Int32) (x4 : Int32) (v5 : Value) (σ : pS) : Option pZ := den 72 0 7 [.ref w, .int x1, .int x2, .int x3, .int x4, v5] [] σ
theorem T_72_7 {w : Nat} (hw : isW w) {x1 : Int32} {x2 : Int32} {x3 : Int32} {x4 : Int32} {v5 : Value}  {σ : pS} {ρ : Nat → Nat → Option Nat} (e : gR σ = ρ) (hL : LayR ρ) : Le
  (if (gI σ w 1) ≤ x4 then some (1, .int x2, σ) else bI (pcall 73 [.ref w, .int x4, .int x1] σ) fun r1 σ1 => if r1 ≤ x3 then C_72_7 w x1 x2 x3 (x4 + (ι 1)) (.int r1) σ1 else bI (pcall 77 [.ref w, .int x1, .int x4] σ1) fun r2 σ2 => if r2 = (ι 0) then C_72_7 w x1 x2 x3 (x4 + (ι 1)) (.int r1) σ2 else C_72_7 w x1 x4 r1 (x4 + (ι 1)) (.int r1) σ2)
  (C_72_7 w x1 x2 x3 x4 v5 σ) := by
  unfold C_72_7
  exact r_iload k_72_7 rfl rfl
    (r_aload_n k_72_9 rfl rfl
    (r_getI k_72_10 rfl po_72 rfl rfl rfl (kdW hw)
    (r_icmp (tgt := 53) k_72_13 rfl rfl cop_ge
    (r_iload_n k_72_53 rfl rfl
    (r_ret k_72_54 rfl rfl))
    (r_aload_n k_72_16 rfl rfl
    (r_iload k_72_17 rfl rfl
    (r_iload_n k_72_19 rfl rfl
    (r_callI (q_virt (rest := []) (as := [.int x4, .int x1]) k_72_20 po_72 rfl rfl rfl (rcvO rfl rfl (kdW hw)) rfl rfl) (lvq (j := 0) rfl (by decide +kernel)) rfl rfl (fun r1 σ1 h1 => r_istore k_72_23 rfl rfl rfl
    (r_iload k_72_25 rfl rfl
    (r_iload_n k_72_27 rfl rfl
    (r_icmp (tgt := 47) k_72_28 rfl rfl cop_le
    (r_iinc k_72_47 rfl rfl rfl rfl
    (r_goto (tgt := 7) k_72_50 rfl (Le.rfl')))
    (r_aload_n k_72_31 rfl rfl
    (r_iload_n k_72_32 rfl rfl
    (r_iload k_72_33 rfl rfl
    (r_callI (q_virt (rest := []) (as := [.int x1, .int x4]) k_72_35 po_72 rfl rfl rfl (rcvO rfl rfl (kdW hw)) rfl rfl) (lvq (j := 0) rfl (by decide +kernel)) rfl rfl (fun r2 σ2 h2 => r_if (tgt := 47) k_72_38 rfl rfl cop_eq
    (r_iinc k_72_47 rfl rfl rfl rfl
    (r_goto (tgt := 7) k_72_50 rfl (Le.rfl')))
    (r_iload k_72_41 rfl rfl
    (r_istore_n k_72_43 rfl rfl rfl
    (r_iload k_72_44 rfl rfl
    (r_istore_n k_72_46 rfl rfl rfl
    (r_iinc k_72_47 rfl rfl rfl rfl
    (r_goto (tgt := 7) k_72_50 rfl (Le.rfl')))))))))))))))))))))))
theorem M_72 {w : Nat} (hw : isW w) {x0 : Int32} {σ : pS} {ρ : Nat → Nat → Option Nat} (e : gR σ = ρ) (hL : LayR ρ) : Le
  (C_72_7 w x0 (ν 1) (ν 1) (ι 0) (.retAddr 0) σ)
  (pcall 72 [.ref w, .int x0] σ) := by
  show Le _ (den 72 0 0 [.ref w, .int x0, .retAddr 0, .retAddr 0, .retAddr 0, .retAddr 0] [] σ)
  exact r_iconst k_72_0 rfl rfl
    (r_istore_n k_72_1 rfl rfl rfl
    (r_iconst k_72_2 rfl rfl
    (r_istore_n k_72_3 rfl rfl rfl
    (r_iconst k_72_4 rfl rfl
    (r_istore k_72_5 rfl rfl rfl
    (Le.rfl'))))))
/-! ===== 73 HedgeWants.World.lookOf ===== -/
theorem k_73_0 : cd 73 0 = some (.aload_n 0, 1) := by decide +kernel
theorem k_73_1 : cd 73 1 = some (.iload_n 1, 1) := by decide +kernel
theorem k_73_2 : cd 73 2 = some (.iload_n 2, 1) := by decide +kernel
theorem k_73_3 : cd 73 3 = some (.invokevirtual 87, 3) := by decide +kernel
theorem k_73_6 : cd 73 6 = some (.istore_n 3, 1) := by decide +kernel
theorem k_73_7 : cd 73 7 = some (.aload_n 0, 1) := by decide +kernel
theorem k_73_8 : cd 73 8 = some (.iload_n 2, 1) := by decide +kernel
theorem k_73_9 : cd 73 9 = some (.invokevirtual 91, 3) := by decide +kernel
theorem k_73_12 : cd 73 12 = some (.iload_n 1, 1) := by decide +kernel
theorem k_73_13 : cd 73 13 = some (.if_icmp .ne 7, 3) := by decide +kernel
theorem k_73_16 : cd 73 16 = some (.iload_n 3, 1) := by decide +kernel
theorem k_73_17 : cd 73 17 = some (.goto 14, 3) := by decide +kernel
theorem k_73_20 : cd 73 20 = some (.iconst 0, 1) := by decide +kernel
theorem k_73_21 : cd 73 21 = some (.iload_n 3, 1) := by decide +kernel
theorem k_73_22 : cd 73 22 = some (.aload_n 0, 1) := by decide +kernel
theorem k_73_23 : cd 73 23 = some (.iload_n 2, 1) := by decide +kernel
theorem k_73_24 : cd 73 24 = some (.invokevirtual 94, 3) := by decide +kernel
theorem k_73_27 : cd 73 27 = some (.isub, 1) := by decide +kernel
theorem k_73_28 : cd 73 28 = some (.invokestatic 97, 3) := by decide +kernel
theorem k_73_31 : cd 73 31 = some (.ireturn, 1) := by decide +kernel
theorem po_73 : po 73 = 8 := rfl
theorem M_73 {w : Nat} (hw : isW w) {x0 : Int32} {x1 : Int32} {σ : pS} {ρ : Nat → Nat → Option Nat} (e : gR σ = ρ) (hL : LayR ρ) : Le
  (bI (pcall 74 [.ref w, .int x0, .int x1] σ) fun r1 σ1 => bI (pcall 75 [.ref w, .int x1] σ1) fun r2 σ2 => if ¬ r2 = x0 then bI (pcall 76 [.ref w, .int x1] σ2) fun r3 σ3 => some (1, .int (imax (ι 0) (r1 - r3)), σ3) else some (1, .int r1, σ2))
  (pcall 73 [.ref w, .int x0, .int x1] σ) := by
  show Le _ (den 73 0 0 [.ref w, .int x0, .int x1, .retAddr 0] [] σ)
  exact r_aload_n k_73_0 rfl rfl
    (r_iload_n k_73_1 rfl rfl
    (r_iload_n k_73_2 rfl rfl
    (r_callI (q_virt (rest := []) (as := [.int x0, .int x1]) k_73_3 po_73 rfl rfl rfl (rcvO rfl rfl (kdW hw)) rfl rfl) (lvq (j := 0) rfl (by decide +kernel)) rfl rfl (fun r1 σ1 h1 => r_istore_n k_73_6 rfl rfl rfl
    (r_aload_n k_73_7 rfl rfl
    (r_iload_n k_73_8 rfl rfl
    (r_callI (q_virt (rest := []) (as := [.int x1]) k_73_9 po_73 rfl rfl rfl (rcvO rfl rfl (kdW hw)) rfl rfl) (lvq (j := 0) rfl (by decide +kernel)) rfl rfl (fun r2 σ2 h2 => r_iload_n k_73_12 rfl rfl
    (r_icmp (tgt := 20) k_73_13 rfl rfl cop_ne
    (r_iconst k_73_20 rfl rfl
    (r_iload_n k_73_21 rfl rfl
    (r_aload_n k_73_22 rfl rfl
    (r_iload_n k_73_23 rfl rfl
    (r_callI (q_virt (rest := [.int r1, .int (ι 0)]) (as := [.int x1]) k_73_24 po_73 rfl rfl rfl (rcvO rfl rfl (kdW hw)) rfl rfl) (lvq (j := 0) rfl (by decide +kernel)) rfl rfl (fun r3 σ3 h3 => r_isub k_73_27 rfl
    (r_imax k_73_28 rfl po_73 rfl rfl
    (r_ret k_73_31 rfl rfl))))))))
    (r_iload_n k_73_16 rfl rfl
    (r_goto (tgt := 31) k_73_17 rfl (r_ret k_73_31 rfl rfl))))))))))))
/-! ===== 74 HedgeWants.World.worthOf ===== -/
theorem k_74_0 : cd 74 0 = some (.iload_n 1, 1) := by decide +kernel
theorem k_74_1 : cd 74 1 = some (.bipush 12, 2) := by decide +kernel
theorem k_74_3 : cd 74 3 = some (.imul, 1) := by decide +kernel
theorem k_74_4 : cd 74 4 = some (.iload_n 2, 1) := by decide +kernel
theorem k_74_5 : cd 74 5 = some (.iadd, 1) := by decide +kernel
theorem k_74_6 : cd 74 6 = some (.istore_n 3, 1) := by decide +kernel
theorem k_74_7 : cd 74 7 = some (.iload_n 3, 1) := by decide +kernel
theorem k_74_8 : cd 74 8 = some (.ifCond .lt 21, 3) := by decide +kernel
theorem k_74_11 : cd 74 11 = some (.iload_n 3, 1) := by decide +kernel
theorem k_74_12 : cd 74 12 = some (.aload_n 0, 1) := by decide +kernel
theorem k_74_13 : cd 74 13 = some (.getfield 21, 3) := by decide +kernel
theorem k_74_16 : cd 74 16 = some (.arraylength, 1) := by decide +kernel
theorem k_74_17 : cd 74 17 = some (.if_icmp .ge 12, 3) := by decide +kernel
theorem k_74_20 : cd 74 20 = some (.aload_n 0, 1) := by decide +kernel
theorem k_74_21 : cd 74 21 = some (.getfield 21, 3) := by decide +kernel
theorem k_74_24 : cd 74 24 = some (.iload_n 3, 1) := by decide +kernel
theorem k_74_25 : cd 74 25 = some (.iaload, 1) := by decide +kernel
theorem k_74_26 : cd 74 26 = some (.goto 4, 3) := by decide +kernel
theorem k_74_29 : cd 74 29 = some (.iconst 0, 1) := by decide +kernel
theorem k_74_30 : cd 74 30 = some (.ireturn, 1) := by decide +kernel
theorem po_74 : po 74 = 8 := rfl
theorem M_74 {w : Nat} (hw : isW w) {x0 : Int32} {x1 : Int32} {σ : pS} {ρ : Nat → Nat → Option Nat} (e : gR σ = ρ) (hL : LayR ρ) : Le
  (if ((x0 * (ι 12)) + x1) < (ι 0) then some (1, .int (ι 0), σ) else if (ι 96) ≤ ((x0 * (ι 12)) + x1) then some (1, .int (ι 0), σ) else gd (inb ((x0 * (ι 12)) + x1) 96) (some (1, .int (gI σ (w + 4) (ix ((x0 * (ι 12)) + x1))), σ)))
  (pcall 74 [.ref w, .int x0, .int x1] σ) := by
  show Le _ (den 74 0 0 [.ref w, .int x0, .int x1, .retAddr 0] [] σ)
  exact r_iload_n k_74_0 rfl rfl
    (r_bipush k_74_1 rfl rfl
    (r_imul k_74_3 rfl
    (r_iload_n k_74_4 rfl rfl
    (r_iadd k_74_5 rfl
    (r_istore_n k_74_6 rfl rfl rfl
    (r_iload_n k_74_7 rfl rfl
    (r_if (tgt := 29) k_74_8 rfl rfl cop_lt
    (r_iconst k_74_29 rfl rfl
    (r_ret k_74_30 rfl rfl))
    (r_iload_n k_74_11 rfl rfl
    (r_aload_n k_74_12 rfl rfl
    (r_getR k_74_13 rfl po_74 rfl rfl rfl (kdW hw) (gRat e (lyW_7 hL hw))
    (r_alenI k_74_16 rfl (kdW_4 hw) rfl
    (r_icmp (tgt := 29) k_74_17 rfl rfl cop_ge
    (r_iconst k_74_29 rfl rfl
    (r_ret k_74_30 rfl rfl))
    (r_aload_n k_74_20 rfl rfl
    (r_getR k_74_21 rfl po_74 rfl rfl rfl (kdW hw) (gRat e (lyW_7 hL hw))
    (r_iload_n k_74_24 rfl rfl
    (r_gd fun g => r_iald k_74_25 rfl (kdW_4 hw) g
    (r_goto (tgt := 30) k_74_26 rfl (r_ret k_74_30 rfl rfl))))))))))))))))))
/-! ===== 75 HedgeWants.World.ownerOf ===== -/
theorem k_75_0 : cd 75 0 = some (.iload_n 1, 1) := by decide +kernel
theorem k_75_1 : cd 75 1 = some (.ifCond .lt 21, 3) := by decide +kernel
theorem k_75_4 : cd 75 4 = some (.iload_n 1, 1) := by decide +kernel
theorem k_75_5 : cd 75 5 = some (.aload_n 0, 1) := by decide +kernel
theorem k_75_6 : cd 75 6 = some (.getfield 9, 3) := by decide +kernel
theorem k_75_9 : cd 75 9 = some (.arraylength, 1) := by decide +kernel
theorem k_75_10 : cd 75 10 = some (.if_icmp .ge 12, 3) := by decide +kernel
theorem k_75_13 : cd 75 13 = some (.aload_n 0, 1) := by decide +kernel
theorem k_75_14 : cd 75 14 = some (.getfield 9, 3) := by decide +kernel
theorem k_75_17 : cd 75 17 = some (.iload_n 1, 1) := by decide +kernel
theorem k_75_18 : cd 75 18 = some (.iaload, 1) := by decide +kernel
theorem k_75_19 : cd 75 19 = some (.goto 4, 3) := by decide +kernel
theorem k_75_22 : cd 75 22 = some (.iconst (-1), 1) := by decide +kernel
theorem k_75_23 : cd 75 23 = some (.ireturn, 1) := by decide +kernel
theorem po_75 : po 75 = 8 := rfl
theorem M_75 {w : Nat} (hw : isW w) {x0 : Int32} {σ : pS} {ρ : Nat → Nat → Option Nat} (e : gR σ = ρ) (hL : LayR ρ) : Le
  (if x0 < (ι 0) then some (1, .int (ν 1), σ) else if (ι 12) ≤ x0 then some (1, .int (ν 1), σ) else gd (inb x0 12) (some (1, .int (gI σ (w + 1) (ix x0)), σ)))
  (pcall 75 [.ref w, .int x0] σ) := by
  show Le _ (den 75 0 0 [.ref w, .int x0] [] σ)
  exact r_iload_n k_75_0 rfl rfl
    (r_if (tgt := 22) k_75_1 rfl rfl cop_lt
    (r_iconst k_75_22 rfl rfl
    (r_ret k_75_23 rfl rfl))
    (r_iload_n k_75_4 rfl rfl
    (r_aload_n k_75_5 rfl rfl
    (r_getR k_75_6 rfl po_75 rfl rfl rfl (kdW hw) (gRat e (lyW_4 hL hw))
    (r_alenI k_75_9 rfl (kdW_1 hw) rfl
    (r_icmp (tgt := 22) k_75_10 rfl rfl cop_ge
    (r_iconst k_75_22 rfl rfl
    (r_ret k_75_23 rfl rfl))
    (r_aload_n k_75_13 rfl rfl
    (r_getR k_75_14 rfl po_75 rfl rfl rfl (kdW hw) (gRat e (lyW_4 hL hw))
    (r_iload_n k_75_17 rfl rfl
    (r_gd fun g => r_iald k_75_18 rfl (kdW_1 hw) g
    (r_goto (tgt := 23) k_75_19 rfl (r_ret k_75_23 rfl rfl))))))))))))
/-! ===== 76 HedgeWants.World.runOf ===== -/
theorem k_76_0 : cd 76 0 = some (.iload_n 1, 1) := by decide +kernel
theorem k_76_1 : cd 76 1 = some (.ifCond .lt 21, 3) := by decide +kernel
theorem k_76_4 : cd 76 4 = some (.iload_n 1, 1) := by decide +kernel
theorem k_76_5 : cd 76 5 = some (.aload_n 0, 1) := by decide +kernel
theorem k_76_6 : cd 76 6 = some (.getfield 15, 3) := by decide +kernel
theorem k_76_9 : cd 76 9 = some (.arraylength, 1) := by decide +kernel
theorem k_76_10 : cd 76 10 = some (.if_icmp .ge 12, 3) := by decide +kernel
theorem k_76_13 : cd 76 13 = some (.aload_n 0, 1) := by decide +kernel
theorem k_76_14 : cd 76 14 = some (.getfield 15, 3) := by decide +kernel
theorem k_76_17 : cd 76 17 = some (.iload_n 1, 1) := by decide +kernel
theorem k_76_18 : cd 76 18 = some (.iaload, 1) := by decide +kernel
theorem k_76_19 : cd 76 19 = some (.goto 4, 3) := by decide +kernel
theorem k_76_22 : cd 76 22 = some (.iconst 0, 1) := by decide +kernel
theorem k_76_23 : cd 76 23 = some (.ireturn, 1) := by decide +kernel
theorem po_76 : po 76 = 8 := rfl
theorem M_76 {w : Nat} (hw : isW w) {x0 : Int32} {σ : pS} {ρ : Nat → Nat → Option Nat} (e : gR σ = ρ) (hL : LayR ρ) : Le
  (if x0 < (ι 0) then some (1, .int (ι 0), σ) else if (ι 12) ≤ x0 then some (1, .int (ι 0), σ) else gd (inb x0 12) (some (1, .int (gI σ (w + 2) (ix x0)), σ)))
  (pcall 76 [.ref w, .int x0] σ) := by
  show Le _ (den 76 0 0 [.ref w, .int x0] [] σ)
  exact r_iload_n k_76_0 rfl rfl
    (r_if (tgt := 22) k_76_1 rfl rfl cop_lt
    (r_iconst k_76_22 rfl rfl
    (r_ret k_76_23 rfl rfl))
    (r_iload_n k_76_4 rfl rfl
    (r_aload_n k_76_5 rfl rfl
    (r_getR k_76_6 rfl po_76 rfl rfl rfl (kdW hw) (gRat e (lyW_5 hL hw))
    (r_alenI k_76_9 rfl (kdW_2 hw) rfl
    (r_icmp (tgt := 22) k_76_10 rfl rfl cop_ge
    (r_iconst k_76_22 rfl rfl
    (r_ret k_76_23 rfl rfl))
    (r_aload_n k_76_13 rfl rfl
    (r_getR k_76_14 rfl po_76 rfl rfl rfl (kdW hw) (gRat e (lyW_5 hL hw))
    (r_iload_n k_76_17 rfl rfl
    (r_gd fun g => r_iald k_76_18 rfl (kdW_2 hw) g
    (r_goto (tgt := 23) k_76_19 rfl (r_ret k_76_23 rfl rfl))))))))))))
/-! ===== 77 HedgeWants.World.isWantedBy ===== -/
theorem k_77_0 : cd 77 0 = some (.aload_n 0, 1) := by decide +kernel
theorem k_77_1 : cd 77 1 = some (.iload_n 1, 1) := by decide +kernel
theorem k_77_2 : cd 77 2 = some (.invokevirtual 91, 3) := by decide +kernel
theorem k_77_5 : cd 77 5 = some (.istore_n 3, 1) := by decide +kernel
theorem k_77_6 : cd 77 6 = some (.aload_n 0, 1) := by decide +kernel
theorem k_77_7 : cd 77 7 = some (.iload_n 3, 1) := by decide +kernel
theorem k_77_8 : cd 77 8 = some (.invokevirtual 80, 3) := by decide +kernel
theorem k_77_11 : cd 77 11 = some (.iload_n 2, 1) := by decide +kernel
theorem k_77_12 : cd 77 12 = some (.invokestatic 83, 3) := by decide +kernel
theorem k_77_15 : cd 77 15 = some (.ifCond .eq 14, 3) := by decide +kernel
theorem k_77_18 : cd 77 18 = some (.aload_n 0, 1) := by decide +kernel
theorem k_77_19 : cd 77 19 = some (.getfield 102, 3) := by decide +kernel
theorem k_77_22 : cd 77 22 = some (.iload_n 2, 1) := by decide +kernel
theorem k_77_23 : cd 77 23 = some (.invokestatic 83, 3) := by decide +kernel
theorem k_77_26 : cd 77 26 = some (.ifCond .eq 5, 3) := by decide +kernel
theorem k_77_29 : cd 77 29 = some (.iconst 0, 1) := by decide +kernel
theorem k_77_30 : cd 77 30 = some (.ireturn, 1) := by decide +kernel
theorem k_77_31 : cd 77 31 = some (.aload_n 0, 1) := by decide +kernel
theorem k_77_32 : cd 77 32 = some (.iload_n 2, 1) := by decide +kernel
theorem k_77_33 : cd 77 33 = some (.iload_n 1, 1) := by decide +kernel
theorem k_77_34 : cd 77 34 = some (.invokevirtual 105, 3) := by decide +kernel
theorem k_77_37 : cd 77 37 = some (.istore 4, 2) := by decide +kernel
theorem k_77_39 : cd 77 39 = some (.aload_n 0, 1) := by decide +kernel
theorem k_77_40 : cd 77 40 = some (.getfield 32, 3) := by decide +kernel
theorem k_77_43 : cd 77 43 = some (.invokevirtual 108, 3) := by decide +kernel
theorem k_77_46 : cd 77 46 = some (.astore 5, 2) := by decide +kernel
theorem k_77_48 : cd 77 48 = some (.aload 5, 2) := by decide +kernel
theorem k_77_50 : cd 77 50 = some (.invokevirtual 112, 3) := by decide +kernel
theorem k_77_53 : cd 77 53 = some (.ifCond .ne 15, 3) := by decide +kernel
theorem k_77_56 : cd 77 56 = some (.iload 4, 2) := by decide +kernel
theorem k_77_58 : cd 77 58 = some (.iconst 5, 1) := by decide +kernel
theorem k_77_59 : cd 77 59 = some (.if_icmp .lt 7, 3) := by decide +kernel
theorem k_77_62 : cd 77 62 = some (.iconst 1, 1) := by decide +kernel
theorem k_77_63 : cd 77 63 = some (.goto 4, 3) := by decide +kernel
theorem k_77_66 : cd 77 66 = some (.iconst 0, 1) := by decide +kernel
theorem k_77_67 : cd 77 67 = some (.ireturn, 1) := by decide +kernel
theorem k_77_68 : cd 77 68 = some (.aload_n 0, 1) := by decide +kernel
theorem k_77_69 : cd 77 69 = some (.getfield 29, 3) := by decide +kernel
theorem k_77_72 : cd 77 72 = some (.iconst 0, 1) := by decide +kernel
theorem k_77_73 : cd 77 73 = some (.aload_n 0, 1) := by decide +kernel
theorem k_77_74 : cd 77 74 = some (.iload_n 1, 1) := by decide +kernel
theorem k_77_75 : cd 77 75 = some (.invokevirtual 94, 3) := by decide +kernel
theorem k_77_78 : cd 77 78 = some (.iastore, 1) := by decide +kernel
theorem k_77_79 : cd 77 79 = some (.aload_n 0, 1) := by decide +kernel
theorem k_77_80 : cd 77 80 = some (.getfield 29, 3) := by decide +kernel
theorem k_77_83 : cd 77 83 = some (.iconst 1, 1) := by decide +kernel
theorem k_77_84 : cd 77 84 = some (.aload_n 0, 1) := by decide +kernel
theorem k_77_85 : cd 77 85 = some (.getfield 50, 3) := by decide +kernel
theorem k_77_88 : cd 77 88 = some (.iastore, 1) := by decide +kernel
theorem k_77_89 : cd 77 89 = some (.aload_n 0, 1) := by decide +kernel
theorem k_77_90 : cd 77 90 = some (.getfield 29, 3) := by decide +kernel
theorem k_77_93 : cd 77 93 = some (.iconst 2, 1) := by decide +kernel
theorem k_77_94 : cd 77 94 = some (.iload 4, 2) := by decide +kernel
theorem k_77_96 : cd 77 96 = some (.iastore, 1) := by decide +kernel
theorem k_77_97 : cd 77 97 = some (.aload_n 0, 1) := by decide +kernel
theorem k_77_98 : cd 77 98 = some (.getfield 29, 3) := by decide +kernel
theorem k_77_101 : cd 77 101 = some (.iconst 3, 1) := by decide +kernel
theorem k_77_102 : cd 77 102 = some (.aload_n 0, 1) := by decide +kernel
theorem k_77_103 : cd 77 103 = some (.getfield 32, 3) := by decide +kernel
theorem k_77_106 : cd 77 106 = some (.iload_n 2, 1) := by decide +kernel
theorem k_77_107 : cd 77 107 = some (.invokevirtual 116, 3) := by decide +kernel
theorem k_77_110 : cd 77 110 = some (.iastore, 1) := by decide +kernel
theorem k_77_111 : cd 77 111 = some (.aload_n 0, 1) := by decide +kernel
theorem k_77_112 : cd 77 112 = some (.getfield 29, 3) := by decide +kernel
theorem k_77_115 : cd 77 115 = some (.iconst 4, 1) := by decide +kernel
theorem k_77_116 : cd 77 116 = some (.aload 5, 2) := by decide +kernel
theorem k_77_118 : cd 77 118 = some (.iconst 4, 1) := by decide +kernel
theorem k_77_119 : cd 77 119 = some (.invokevirtual 119, 3) := by decide +kernel
theorem k_77_122 : cd 77 122 = some (.ifCond .eq 11, 3) := by decide +kernel
theorem k_77_125 : cd 77 125 = some (.aload_n 0, 1) := by decide +kernel
theorem k_77_126 : cd 77 126 = some (.iload_n 2, 1) := by decide +kernel
theorem k_77_127 : cd 77 127 = some (.invokevirtual 123, 3) := by decide +kernel
theorem k_77_130 : cd 77 130 = some (.goto 4, 3) := by decide +kernel
theorem k_77_133 : cd 77 133 = some (.iconst 0, 1) := by decide +kernel
theorem k_77_134 : cd 77 134 = some (.iastore, 1) := by decide +kernel
theorem k_77_135 : cd 77 135 = some (.aload_n 0, 1) := by decide +kernel
theorem k_77_136 : cd 77 136 = some (.getfield 29, 3) := by decide +kernel
theorem k_77_139 : cd 77 139 = some (.iconst 5, 1) := by decide +kernel
theorem k_77_140 : cd 77 140 = some (.aload 5, 2) := by decide +kernel
theorem k_77_142 : cd 77 142 = some (.iconst 5, 1) := by decide +kernel
theorem k_77_143 : cd 77 143 = some (.invokevirtual 119, 3) := by decide +kernel
theorem k_77_146 : cd 77 146 = some (.ifCond .eq 11, 3) := by decide +kernel
theorem k_77_149 : cd 77 149 = some (.aload_n 0, 1) := by decide +kernel
theorem k_77_150 : cd 77 150 = some (.iload_n 3, 1) := by decide +kernel
theorem k_77_151 : cd 77 151 = some (.invokevirtual 123, 3) := by decide +kernel
theorem k_77_154 : cd 77 154 = some (.goto 4, 3) := by decide +kernel
theorem k_77_157 : cd 77 157 = some (.iconst 0, 1) := by decide +kernel
theorem k_77_158 : cd 77 158 = some (.iastore, 1) := by decide +kernel
theorem k_77_159 : cd 77 159 = some (.aload 5, 2) := by decide +kernel
theorem k_77_161 : cd 77 161 = some (.aload_n 0, 1) := by decide +kernel
theorem k_77_162 : cd 77 162 = some (.getfield 29, 3) := by decide +kernel
theorem k_77_165 : cd 77 165 = some (.invokevirtual 126, 3) := by decide +kernel
theorem k_77_168 : cd 77 168 = some (.ifCond .le 7, 3) := by decide +kernel
theorem k_77_171 : cd 77 171 = some (.iconst 1, 1) := by decide +kernel
theorem k_77_172 : cd 77 172 = some (.goto 4, 3) := by decide +kernel
theorem k_77_175 : cd 77 175 = some (.iconst 0, 1) := by decide +kernel
theorem k_77_176 : cd 77 176 = some (.ireturn, 1) := by decide +kernel
theorem po_77 : po 77 = 8 := rfl
noncomputable def C_77_134 (w : Nat) (v1 : Value) (v2 : Value) (x3 : Int32) (v4 : Value) (q5 : Nat) (s1 : Int32) (s2 : Int32) (σ : pS) : Option pZ := den 77 0 134 [.ref w, v1, v2, .int x3, v4, .ref q5] [.int s2, .int s1, .ref (w + 6)] σ
theorem T_77_134 {w : Nat} (hw : isW w) {v1 : Value} {v2 : Value} {x3 : Int32} {v4 : Value} {q5 : Nat} {s1 : Int32} {s2 : Int32} (hq5 : isU q5) {σ : pS} {ρ : Nat → Nat → Option Nat} (e : gR σ = ρ) (hL : LayR ρ) : Le
  (gd (inb s1 8) (bI (pcall 16 [.ref q5, .int (ι 5)] (sI σ (w + 6) (ix s1) s2)) fun r1 σ1 => if r1 = (ι 0) then bI (pcall 18 [.ref q5, .ref (w + 6)] (sI σ1 (w + 6) 5 (ι 0))) fun r2 σ2 => if r2 ≤ (ι 0) then some (1, .int (ι 0), σ2) else some (1, .int (ι 1), σ2) else bI (pcall 79 [.ref w, .int x3] σ1) fun r3 σ3 => bI (pcall 18 [.ref q5, .ref (w + 6)] (sI σ3 (w + 6) 5 r3)) fun r4 σ4 => if r4 ≤ (ι 0) then some (1, .int (ι 0), σ4) else some (1, .int (ι 1), σ4)))
  (C_77_134 w v1 v2 x3 v4 q5 s1 s2 σ) := by
  unfold C_77_134
  exact r_gd fun g => r_iast k_77_134 rfl (kdW_6 hw) g
    (r_aload_n k_77_135 rfl rfl
    (r_getR k_77_136 rfl po_77 rfl rfl rfl (kdW hw) (gRat (eI e) (lyW_9 hL hw))
    (r_iconst k_77_139 rfl rfl
    (r_aload k_77_140 rfl rfl
    (r_iconst k_77_142 rfl rfl
    (r_callI (q_virt (rest := [.int (ι 5), .ref (w + 6)]) (as := [.int (ι 5)]) k_77_143 po_77 rfl rfl rfl (rcvO rfl rfl (kdU hq5)) rfl rfl) (lvq (j := 0) rfl (by decide +kernel)) rfl rfl (fun r1 σ1 h1 => r_if (tgt := 157) k_77_146 rfl rfl cop_eq
    (r_iconst k_77_157 rfl rfl
    (r_iast k_77_158 rfl (kdW_6 hw) (by decide)
    (r_aload k_77_159 rfl rfl
    (r_aload_n k_77_161 rfl rfl
    (r_getR k_77_162 rfl po_77 rfl rfl rfl (kdW hw) (gRat (eI (eC rfl h1 (eI e))) (lyW_9 hL hw))
    (r_callI (q_virt (rest := []) (as := [.ref (w + 6)]) k_77_165 po_77 rfl rfl rfl (rcvO rfl rfl (kdU hq5)) rfl rfl) (lvq (j := 0) rfl (by decide +kernel)) rfl rfl (fun r2 σ2 h2 => r_if (tgt := 175) k_77_168 rfl rfl cop_le
    (r_iconst k_77_175 rfl rfl
    (r_ret k_77_176 rfl rfl))
    (r_iconst k_77_171 rfl rfl
    (r_goto (tgt := 176) k_77_172 rfl (r_ret k_77_176 rfl rfl))))))))))
    (r_aload_n k_77_149 rfl rfl
    (r_iload_n k_77_150 rfl rfl
    (r_callI (q_virt (rest := [.int (ι 5), .ref (w + 6)]) (as := [.int x3]) k_77_151 po_77 rfl rfl rfl (rcvO rfl rfl (kdW hw)) rfl rfl) (lvq (j := 0) rfl (by decide +kernel)) rfl rfl (fun r3 σ3 h3 => r_goto (tgt := 158) k_77_154 rfl (r_iast k_77_158 rfl (kdW_6 hw) (by decide)
    (r_aload k_77_159 rfl rfl
    (r_aload_n k_77_161 rfl rfl
    (r_getR k_77_162 rfl po_77 rfl rfl rfl (kdW hw) (gRat (eI (eC rfl h3 (eC rfl h1 (eI e)))) (lyW_9 hL hw))
    (r_callI (q_virt (rest := []) (as := [.ref (w + 6)]) k_77_165 po_77 rfl rfl rfl (rcvO rfl rfl (kdU hq5)) rfl rfl) (lvq (j := 0) rfl (by decide +kernel)) rfl rfl (fun r4 σ4 h4 => r_if (tgt := 175) k_77_168 rfl rfl cop_le
    (r_iconst k_77_175 rfl rfl
    (r_ret k_77_176 rfl rfl))
    (r_iconst k_77_171 rfl rfl
    (r_goto (tgt := 176) k_77_172 rfl (r_ret k_77_176 rfl rfl))))))))))))))))))))
theorem M_77 {w : Nat} (hw : isW w) {x0 : Int32} {x1 : Int32} {σ : pS} {ρ : Nat → Nat → Option Nat} (e : gR σ = ρ) (hL : LayR ρ) : Le
  (bI (pcall 75 [.ref w, .int x0] σ) fun r1 σ1 => bI (pcall 78 [.ref w, .int r1] σ1) fun r2 σ2 => bI (pcall 168 [.int r2, .int x1] σ2) fun r3 σ3 => if r3 = (ι 0) then some (1, .int (ι 0), σ3) else bI (pcall 168 [.int (gI σ3 w 10), .int x1] σ3) fun r4 σ4 => if r4 = (ι 0) then bI (pcall 73 [.ref w, .int x1, .int x0] σ4) fun r5 σ5 => bG isP (gR σ5 w 0) fun q6 => bA (pcall 25 [.ref q6] σ5) fun r7 σ7 => gd (isU r7) (bI (pcall 17 [.ref r7] σ7) fun r8 σ8 => if ¬ r8 = (ι 0) then bI (pcall 76 [.ref w, .int x0] σ8) fun r9 σ9 => bG isP (gR (sI (sI (sI σ9 (w + 6) 0 r9) (w + 6) 1 (gI (sI σ9 (w + 6) 0 r9) w 3)) (w + 6) 2 r5) w 0) fun q10 => bI (pcall 27 [.ref q10, .int x1] (sI (sI (sI σ9 (w + 6) 0 r9) (w + 6) 1 (gI (sI σ9 (w + 6) 0 r9) w 3)) (w + 6) 2 r5)) fun r11 σ11 => bI (pcall 16 [.ref r7, .int (ι 4)] (sI σ11 (w + 6) 3 r11)) fun r12 σ12 => if r12 = (ι 0) then C_77_134 w (.int x0) (.int x1) r1 (.int r5) r7 (ι 4) (ι 0) σ12 else bI (pcall 79 [.ref w, .int x1] σ12) fun r13 σ13 => C_77_134 w (.int x0) (.int x1) r1 (.int r5) r7 (ι 4) r13 σ13 else if r5 < (ι 5) then some (1, .int (ι 0), σ8) else some (1, .int (ι 1), σ8)) else some (1, .int (ι 0), σ4))
  (pcall 77 [.ref w, .int x0, .int x1] σ) := by
  show Le _ (den 77 0 0 [.ref w, .int x0, .int x1, .retAddr 0, .retAddr 0, .retAddr 0] [] σ)
  exact r_aload_n k_77_0 rfl rfl
    (r_iload_n k_77_1 rfl rfl
    (r_callI (q_virt (rest := []) (as := [.int x0]) k_77_2 po_77 rfl rfl rfl (rcvO rfl rfl (kdW hw)) rfl rfl) (lvq (j := 0) rfl (by decide +kernel)) rfl rfl (fun r1 σ1 h1 => r_istore_n k_77_5 rfl rfl rfl
    (r_aload_n k_77_6 rfl rfl
    (r_iload_n k_77_7 rfl rfl
    (r_callI (q_virt (rest := []) (as := [.int r1]) k_77_8 po_77 rfl rfl rfl (rcvO rfl rfl (kdW hw)) rfl rfl) (lvq (j := 0) rfl (by decide +kernel)) rfl rfl (fun r2 σ2 h2 => r_iload_n k_77_11 rfl rfl
    (r_callI (q_stat (rest := []) (av := [.int r2, .int x1]) k_77_12 po_77 rfl (by decide) rfl rfl rfl rfl) (lvq (j := 0) rfl (by decide +kernel)) rfl rfl (fun r3 σ3 h3 => r_if (tgt := 29) k_77_15 rfl rfl cop_eq
    (r_iconst k_77_29 rfl rfl
    (r_ret k_77_30 rfl rfl))
    (r_aload_n k_77_18 rfl rfl
    (r_getI k_77_19 rfl po_77 rfl rfl rfl (kdW hw)
    (r_iload_n k_77_22 rfl rfl
    (r_callI (q_stat (rest := []) (av := [.int (gI σ3 w 10), .int x1]) k_77_23 po_77 rfl (by decide) rfl rfl rfl rfl) (lvq (j := 0) rfl (by decide +kernel)) rfl rfl (fun r4 σ4 h4 => r_if (tgt := 31) k_77_26 rfl rfl cop_eq
    (r_aload_n k_77_31 rfl rfl
    (r_iload_n k_77_32 rfl rfl
    (r_iload_n k_77_33 rfl rfl
    (r_callI (q_virt (rest := []) (as := [.int x1, .int x0]) k_77_34 po_77 rfl rfl rfl (rcvO rfl rfl (kdW hw)) rfl rfl) (lvq (j := 0) rfl (by decide +kernel)) rfl rfl (fun r5 σ5 h5 => r_istore k_77_37 rfl rfl rfl
    (r_aload_n k_77_39 rfl rfl
    (r_getG k_77_40 rfl po_77 rfl rfl rfl (kdW hw) fun q6 hq6 => r_callA (q_virt (rest := []) (as := []) k_77_43 po_77 rfl rfl rfl (rcvO rfl rfl (kdP hq6)) rfl rfl) (lvq (j := 0) rfl (by decide +kernel)) rfl rfl (fun r7 σ7 h7 => r_gd fun hr7 => r_astore k_77_46 rfl rfl rfl
    (r_aload k_77_48 rfl rfl
    (r_callI (q_virt (rest := []) (as := []) k_77_50 po_77 rfl rfl rfl (rcvO rfl rfl (kdU hr7)) rfl rfl) (lvq (j := 0) rfl (by decide +kernel)) rfl rfl (fun r8 σ8 h8 => r_if (tgt := 68) k_77_53 rfl rfl cop_ne
    (r_aload_n k_77_68 rfl rfl
    (r_getR k_77_69 rfl po_77 rfl rfl rfl (kdW hw) (gRat (eC rfl h8 (eC rfl h7 (eC rfl h5 (eC rfl h4 (eC rfl h3 (eC rfl h2 (eC rfl h1 e))))))) (lyW_9 hL hw))
    (r_iconst k_77_72 rfl rfl
    (r_aload_n k_77_73 rfl rfl
    (r_iload_n k_77_74 rfl rfl
    (r_callI (q_virt (rest := [.int (ι 0), .ref (w + 6)]) (as := [.int x0]) k_77_75 po_77 rfl rfl rfl (rcvO rfl rfl (kdW hw)) rfl rfl) (lvq (j := 0) rfl (by decide +kernel)) rfl rfl (fun r9 σ9 h9 => r_iast k_77_78 rfl (kdW_6 hw) (by decide)
    (r_aload_n k_77_79 rfl rfl
    (r_getR k_77_80 rfl po_77 rfl rfl rfl (kdW hw) (gRat (eI (eC rfl h9 (eC rfl h8 (eC rfl h7 (eC rfl h5 (eC rfl h4 (eC rfl h3 (eC rfl h2 (eC rfl h1 e))))))))) (lyW_9 hL hw))
    (r_iconst k_77_83 rfl rfl
    (r_aload_n k_77_84 rfl rfl
    (r_getI k_77_85 rfl po_77 rfl rfl rfl (kdW hw)
    (r_iast k_77_88 rfl (kdW_6 hw) (by decide)
    (r_aload_n k_77_89 rfl rfl
    (r_getR k_77_90 rfl po_77 rfl rfl rfl (kdW hw) (gRat (eI (eI (eC rfl h9 (eC rfl h8 (eC rfl h7 (eC rfl h5 (eC rfl h4 (eC rfl h3 (eC rfl h2 (eC rfl h1 e)))))))))) (lyW_9 hL hw))
    (r_iconst k_77_93 rfl rfl
    (r_iload k_77_94 rfl rfl
    (r_iast k_77_96 rfl (kdW_6 hw) (by decide)
    (r_aload_n k_77_97 rfl rfl
    (r_getR k_77_98 rfl po_77 rfl rfl rfl (kdW hw) (gRat (eI (eI (eI (eC rfl h9 (eC rfl h8 (eC rfl h7 (eC rfl h5 (eC rfl h4 (eC rfl h3 (eC rfl h2 (eC rfl h1 e))))))))))) (lyW_9 hL hw))
    (r_iconst k_77_101 rfl rfl
    (r_aload_n k_77_102 rfl rfl
    (r_getG k_77_103 rfl po_77 rfl rfl rfl (kdW hw) fun q10 hq10 => r_iload_n k_77_106 rfl rfl
    (r_callI (q_virt (rest := [.int (ι 3), .ref (w + 6)]) (as := [.int x1]) k_77_107 po_77 rfl rfl rfl (rcvO rfl rfl (kdP hq10)) rfl rfl) (lvq (j := 0) rfl (by decide +kernel)) rfl rfl (fun r11 σ11 h11 => r_iast k_77_110 rfl (kdW_6 hw) (by decide)
    (r_aload_n k_77_111 rfl rfl
    (r_getR k_77_112 rfl po_77 rfl rfl rfl (kdW hw) (gRat (eI (eC rfl h11 (eI (eI (eI (eC rfl h9 (eC rfl h8 (eC rfl h7 (eC rfl h5 (eC rfl h4 (eC rfl h3 (eC rfl h2 (eC rfl h1 e))))))))))))) (lyW_9 hL hw))
    (r_iconst k_77_115 rfl rfl
    (r_aload k_77_116 rfl rfl
    (r_iconst k_77_118 rfl rfl
    (r_callI (q_virt (rest := [.int (ι 4), .ref (w + 6)]) (as := [.int (ι 4)]) k_77_119 po_77 rfl rfl rfl (rcvO rfl rfl (kdU hr7)) rfl rfl) (lvq (j := 0) rfl (by decide +kernel)) rfl rfl (fun r12 σ12 h12 => r_if (tgt := 133) k_77_122 rfl rfl cop_eq
    (r_iconst k_77_133 rfl rfl
    (Le.rfl'))
    (r_aload_n k_77_125 rfl rfl
    (r_iload_n k_77_126 rfl rfl
    (r_callI (q_virt (rest := [.int (ι 4), .ref (w + 6)]) (as := [.int x1]) k_77_127 po_77 rfl rfl rfl (rcvO rfl rfl (kdW hw)) rfl rfl) (lvq (j := 0) rfl (by decide +kernel)) rfl rfl (fun r13 σ13 h13 => r_goto (tgt := 134) k_77_130 rfl (Le.rfl')))))))))))))))))))))))))))))))))))))
    (r_iload k_77_56 rfl rfl
    (r_iconst k_77_58 rfl rfl
    (r_icmp (tgt := 66) k_77_59 rfl rfl cop_lt
    (r_iconst k_77_66 rfl rfl
    (r_ret k_77_67 rfl rfl))
    (r_iconst k_77_62 rfl rfl
    (r_goto (tgt := 67) k_77_63 rfl (r_ret k_77_67 rfl rfl)))))))))))))))))
    (r_iconst k_77_29 rfl rfl
    (r_ret k_77_30 rfl rfl))))))))))))))))
/-! ===== 78 HedgeWants.World.sightOf ===== -/
theorem k_78_0 : cd 78 0 = some (.iload_n 1, 1) := by decide +kernel
theorem k_78_1 : cd 78 1 = some (.ifCond .lt 21, 3) := by decide +kernel
theorem k_78_4 : cd 78 4 = some (.iload_n 1, 1) := by decide +kernel
theorem k_78_5 : cd 78 5 = some (.aload_n 0, 1) := by decide +kernel
theorem k_78_6 : cd 78 6 = some (.getfield 18, 3) := by decide +kernel
theorem k_78_9 : cd 78 9 = some (.arraylength, 1) := by decide +kernel
theorem k_78_10 : cd 78 10 = some (.if_icmp .ge 12, 3) := by decide +kernel
theorem k_78_13 : cd 78 13 = some (.aload_n 0, 1) := by decide +kernel
theorem k_78_14 : cd 78 14 = some (.getfield 18, 3) := by decide +kernel
theorem k_78_17 : cd 78 17 = some (.iload_n 1, 1) := by decide +kernel
theorem k_78_18 : cd 78 18 = some (.iaload, 1) := by decide +kernel
theorem k_78_19 : cd 78 19 = some (.goto 4, 3) := by decide +kernel
theorem k_78_22 : cd 78 22 = some (.iconst 0, 1) := by decide +kernel
theorem k_78_23 : cd 78 23 = some (.ireturn, 1) := by decide +kernel
theorem po_78 : po 78 = 8 := rfl
theorem M_78 {w : Nat} (hw : isW w) {x0 : Int32} {σ : pS} {ρ : Nat → Nat → Option Nat} (e : gR σ = ρ) (hL : LayR ρ) : Le
  (if x0 < (ι 0) then some (1, .int (ι 0), σ) else if (ι 8) ≤ x0 then some (1, .int (ι 0), σ) else gd (inb x0 8) (some (1, .int (gI σ (w + 3) (ix x0)), σ)))
  (pcall 78 [.ref w, .int x0] σ) := by
  show Le _ (den 78 0 0 [.ref w, .int x0] [] σ)
  exact r_iload_n k_78_0 rfl rfl
    (r_if (tgt := 22) k_78_1 rfl rfl cop_lt
    (r_iconst k_78_22 rfl rfl
    (r_ret k_78_23 rfl rfl))
    (r_iload_n k_78_4 rfl rfl
    (r_aload_n k_78_5 rfl rfl
    (r_getR k_78_6 rfl po_78 rfl rfl rfl (kdW hw) (gRat e (lyW_6 hL hw))
    (r_alenI k_78_9 rfl (kdW_3 hw) rfl
    (r_icmp (tgt := 22) k_78_10 rfl rfl cop_ge
    (r_iconst k_78_22 rfl rfl
    (r_ret k_78_23 rfl rfl))
    (r_aload_n k_78_13 rfl rfl
    (r_getR k_78_14 rfl po_78 rfl rfl rfl (kdW hw) (gRat e (lyW_6 hL hw))
    (r_iload_n k_78_17 rfl rfl
    (r_gd fun g => r_iald k_78_18 rfl (kdW_3 hw) g
    (r_goto (tgt := 23) k_78_19 rfl (r_ret k_78_23 rfl rfl))))))))))))
/-! ===== 79 HedgeWants.World.howManyOf ===== -/
theorem k_79_0 : cd 79 0 = some (.iconst 0, 1) := by decide +kernel
theorem k_79_1 : cd 79 1 = some (.istore_n 2, 1) := by decide +kernel
theorem k_79_2 : cd 79 2 = some (.iconst 0, 1) := by decide +kernel
theorem k_79_3 : cd 79 3 = some (.istore_n 3, 1) := by decide +kernel
theorem k_79_4 : cd 79 4 = some (.iload_n 3, 1) := by decide +kernel
theorem k_79_5 : cd 79 5 = some (.aload_n 0, 1) := by decide +kernel
theorem k_79_6 : cd 79 6 = some (.getfield 9, 3) := by decide +kernel
theorem k_79_9 : cd 79 9 = some (.arraylength, 1) := by decide +kernel
theorem k_79_10 : cd 79 10 = some (.if_icmp .ge 35, 3) := by decide +kernel
theorem k_79_13 : cd 79 13 = some (.iload_n 3, 1) := by decide +kernel
theorem k_79_14 : cd 79 14 = some (.aload_n 0, 1) := by decide +kernel
theorem k_79_15 : cd 79 15 = some (.getfield 48, 3) := by decide +kernel
theorem k_79_18 : cd 79 18 = some (.if_icmp .ge 27, 3) := by decide +kernel
theorem k_79_21 : cd 79 21 = some (.iload_n 2, 1) := by decide +kernel
theorem k_79_22 : cd 79 22 = some (.aload_n 0, 1) := by decide +kernel
theorem k_79_23 : cd 79 23 = some (.getfield 9, 3) := by decide +kernel
theorem k_79_26 : cd 79 26 = some (.iload_n 3, 1) := by decide +kernel
theorem k_79_27 : cd 79 27 = some (.iaload, 1) := by decide +kernel
theorem k_79_28 : cd 79 28 = some (.iload_n 1, 1) := by decide +kernel
theorem k_79_29 : cd 79 29 = some (.if_icmp .ne 7, 3) := by decide +kernel
theorem k_79_32 : cd 79 32 = some (.iconst 1, 1) := by decide +kernel
theorem k_79_33 : cd 79 33 = some (.goto 4, 3) := by decide +kernel
theorem k_79_36 : cd 79 36 = some (.iconst 0, 1) := by decide +kernel
theorem k_79_37 : cd 79 37 = some (.iadd, 1) := by decide +kernel
theorem k_79_38 : cd 79 38 = some (.istore_n 2, 1) := by decide +kernel
theorem k_79_39 : cd 79 39 = some (.iinc 3 1, 3) := by decide +kernel
theorem k_79_42 : cd 79 42 = some (.goto (-38), 3) := by decide +kernel
theorem k_79_45 : cd 79 45 = some (.iload_n 2, 1) := by decide +kernel
theorem k_79_46 : cd 79 46 = some (.ireturn, 1) := by decide +kernel
theorem po_79 : po 79 = 8 := rfl
noncomputable def C_79_4 (w : Nat) (x1 : Int32) (x2 : Int32) (x3 : Int32) (σ : pS) : Option pZ := den 79 0 4 [.ref w, .int x1, .int x2, .int x3] [] σ
theorem T_79_4 {w : Nat} (hw : isW w) {x1 : Int32} {x2 : Int32} {x3 : Int32}  {σ : pS} {ρ : Nat → Nat → Option Nat} (e : gR σ = ρ) (hL : LayR ρ) : Le
  (if (ι 12) ≤ x3 then some (1, .int x2, σ) else if (gI σ w 2) ≤ x3 then some (1, .int x2, σ) else gd (inb x3 12) (if ¬ (gI σ (w + 1) (ix x3)) = x1 then C_79_4 w x1 (x2 + (ι 0)) (x3 + (ι 1)) σ else C_79_4 w x1 (x2 + (ι 1)) (x3 + (ι 1)) σ))
  (C_79_4 w x1 x2 x3 σ) := by
  unfold C_79_4
  exact r_iload_n k_79_4 rfl rfl
    (r_aload_n k_79_5 rfl rfl
    (r_getR k_79_6 rfl po_79 rfl rfl rfl (kdW hw) (gRat e (lyW_4 hL hw))
    (r_alenI k_79_9 rfl (kdW_1 hw) rfl
    (r_icmp (tgt := 45) k_79_10 rfl rfl cop_ge
    (r_iload_n k_79_45 rfl rfl
    (r_ret k_79_46 rfl rfl))
    (r_iload_n k_79_13 rfl rfl
    (r_aload_n k_79_14 rfl rfl
    (r_getI k_79_15 rfl po_79 rfl rfl rfl (kdW hw)
    (r_icmp (tgt := 45) k_79_18 rfl rfl cop_ge
    (r_iload_n k_79_45 rfl rfl
    (r_ret k_79_46 rfl rfl))
    (r_iload_n k_79_21 rfl rfl
    (r_aload_n k_79_22 rfl rfl
    (r_getR k_79_23 rfl po_79 rfl rfl rfl (kdW hw) (gRat e (lyW_4 hL hw))
    (r_iload_n k_79_26 rfl rfl
    (r_gd fun g => r_iald k_79_27 rfl (kdW_1 hw) g
    (r_iload_n k_79_28 rfl rfl
    (r_icmp (tgt := 36) k_79_29 rfl rfl cop_ne
    (r_iconst k_79_36 rfl rfl
    (r_iadd k_79_37 rfl
    (r_istore_n k_79_38 rfl rfl rfl
    (r_iinc k_79_39 rfl rfl rfl rfl
    (r_goto (tgt := 4) k_79_42 rfl (Le.rfl'))))))
    (r_iconst k_79_32 rfl rfl
    (r_goto (tgt := 37) k_79_33 rfl (r_iadd k_79_37 rfl
    (r_istore_n k_79_38 rfl rfl rfl
    (r_iinc k_79_39 rfl rfl rfl rfl
    (r_goto (tgt := 4) k_79_42 rfl (Le.rfl'))))))))))))))))))))))
theorem M_79 {w : Nat} (hw : isW w) {x0 : Int32} {σ : pS} {ρ : Nat → Nat → Option Nat} (e : gR σ = ρ) (hL : LayR ρ) : Le
  (C_79_4 w x0 (ι 0) (ι 0) σ)
  (pcall 79 [.ref w, .int x0] σ) := by
  show Le _ (den 79 0 0 [.ref w, .int x0, .retAddr 0, .retAddr 0] [] σ)
  exact r_iconst k_79_0 rfl rfl
    (r_istore_n k_79_1 rfl rfl rfl
    (r_iconst k_79_2 rfl rfl
    (r_istore_n k_79_3 rfl rfl rfl
    (Le.rfl'))))
/-! ===== 80 HedgeWants.World.setOwner ===== -/
theorem k_80_0 : cd 80 0 = some (.iload_n 1, 1) := by decide +kernel
theorem k_80_1 : cd 80 1 = some (.ifCond .lt 24, 3) := by decide +kernel
theorem k_80_4 : cd 80 4 = some (.iload_n 1, 1) := by decide +kernel
theorem k_80_5 : cd 80 5 = some (.aload_n 0, 1) := by decide +kernel
theorem k_80_6 : cd 80 6 = some (.getfield 9, 3) := by decide +kernel
theorem k_80_9 : cd 80 9 = some (.arraylength, 1) := by decide +kernel
theorem k_80_10 : cd 80 10 = some (.if_icmp .ge 15, 3) := by decide +kernel
theorem k_80_13 : cd 80 13 = some (.aload_n 0, 1) := by decide +kernel
theorem k_80_14 : cd 80 14 = some (.getfield 9, 3) := by decide +kernel
theorem k_80_17 : cd 80 17 = some (.iload_n 1, 1) := by decide +kernel
theorem k_80_18 : cd 80 18 = some (.iload_n 2, 1) := by decide +kernel
theorem k_80_19 : cd 80 19 = some (.iastore, 1) := by decide +kernel
theorem k_80_20 : cd 80 20 = some (.aload_n 0, 1) := by decide +kernel
theorem k_80_21 : cd 80 21 = some (.iconst 0, 1) := by decide +kernel
theorem k_80_22 : cd 80 22 = some (.putfield 53, 3) := by decide +kernel
theorem k_80_25 : cd 80 25 = some (.return_, 1) := by decide +kernel
theorem po_80 : po 80 = 8 := rfl
theorem M_80 {w : Nat} (hw : isW w) {x0 : Int32} {x1 : Int32} {σ : pS} {ρ : Nat → Nat → Option Nat} (e : gR σ = ρ) (hL : LayR ρ) : Le
  (if x0 < (ι 0) then some (0, .null, σ) else if (ι 12) ≤ x0 then some (0, .null, σ) else gd (inb x0 12) (some (0, .null, (sI (sI σ (w + 1) (ix x0) x1) w 11 (ι 0)))))
  (pcall 80 [.ref w, .int x0, .int x1] σ) := by
  show Le _ (den 80 0 0 [.ref w, .int x0, .int x1] [] σ)
  exact r_iload_n k_80_0 rfl rfl
    (r_if (tgt := 25) k_80_1 rfl rfl cop_lt
    (r_retV k_80_25 rfl)
    (r_iload_n k_80_4 rfl rfl
    (r_aload_n k_80_5 rfl rfl
    (r_getR k_80_6 rfl po_80 rfl rfl rfl (kdW hw) (gRat e (lyW_4 hL hw))
    (r_alenI k_80_9 rfl (kdW_1 hw) rfl
    (r_icmp (tgt := 25) k_80_10 rfl rfl cop_ge
    (r_retV k_80_25 rfl)
    (r_aload_n k_80_13 rfl rfl
    (r_getR k_80_14 rfl po_80 rfl rfl rfl (kdW hw) (gRat e (lyW_4 hL hw))
    (r_iload_n k_80_17 rfl rfl
    (r_iload_n k_80_18 rfl rfl
    (r_gd fun g => r_iast k_80_19 rfl (kdW_1 hw) g
    (r_aload_n k_80_20 rfl rfl
    (r_iconst k_80_21 rfl rfl
    (r_putZ k_80_22 rfl po_80 rfl rfl (kdW hw) (by decide)
    (r_retV k_80_25 rfl)))))))))))))))
/-! ===== 81 HedgeWants.World.setRun ===== -/
theorem k_81_0 : cd 81 0 = some (.iload_n 1, 1) := by decide +kernel
theorem k_81_1 : cd 81 1 = some (.ifCond .lt 24, 3) := by decide +kernel
theorem k_81_4 : cd 81 4 = some (.iload_n 1, 1) := by decide +kernel
theorem k_81_5 : cd 81 5 = some (.aload_n 0, 1) := by decide +kernel
theorem k_81_6 : cd 81 6 = some (.getfield 15, 3) := by decide +kernel
theorem k_81_9 : cd 81 9 = some (.arraylength, 1) := by decide +kernel
theorem k_81_10 : cd 81 10 = some (.if_icmp .ge 15, 3) := by decide +kernel
theorem k_81_13 : cd 81 13 = some (.aload_n 0, 1) := by decide +kernel
theorem k_81_14 : cd 81 14 = some (.getfield 15, 3) := by decide +kernel
theorem k_81_17 : cd 81 17 = some (.iload_n 1, 1) := by decide +kernel
theorem k_81_18 : cd 81 18 = some (.iload_n 2, 1) := by decide +kernel
theorem k_81_19 : cd 81 19 = some (.iastore, 1) := by decide +kernel
theorem k_81_20 : cd 81 20 = some (.aload_n 0, 1) := by decide +kernel
theorem k_81_21 : cd 81 21 = some (.iconst 0, 1) := by decide +kernel
theorem k_81_22 : cd 81 22 = some (.putfield 53, 3) := by decide +kernel
theorem k_81_25 : cd 81 25 = some (.return_, 1) := by decide +kernel
theorem po_81 : po 81 = 8 := rfl
theorem M_81 {w : Nat} (hw : isW w) {x0 : Int32} {x1 : Int32} {σ : pS} {ρ : Nat → Nat → Option Nat} (e : gR σ = ρ) (hL : LayR ρ) : Le
  (if x0 < (ι 0) then some (0, .null, σ) else if (ι 12) ≤ x0 then some (0, .null, σ) else gd (inb x0 12) (some (0, .null, (sI (sI σ (w + 2) (ix x0) x1) w 11 (ι 0)))))
  (pcall 81 [.ref w, .int x0, .int x1] σ) := by
  show Le _ (den 81 0 0 [.ref w, .int x0, .int x1] [] σ)
  exact r_iload_n k_81_0 rfl rfl
    (r_if (tgt := 25) k_81_1 rfl rfl cop_lt
    (r_retV k_81_25 rfl)
    (r_iload_n k_81_4 rfl rfl
    (r_aload_n k_81_5 rfl rfl
    (r_getR k_81_6 rfl po_81 rfl rfl rfl (kdW hw) (gRat e (lyW_5 hL hw))
    (r_alenI k_81_9 rfl (kdW_2 hw) rfl
    (r_icmp (tgt := 25) k_81_10 rfl rfl cop_ge
    (r_retV k_81_25 rfl)
    (r_aload_n k_81_13 rfl rfl
    (r_getR k_81_14 rfl po_81 rfl rfl rfl (kdW hw) (gRat e (lyW_5 hL hw))
    (r_iload_n k_81_17 rfl rfl
    (r_iload_n k_81_18 rfl rfl
    (r_gd fun g => r_iast k_81_19 rfl (kdW_2 hw) g
    (r_aload_n k_81_20 rfl rfl
    (r_iconst k_81_21 rfl rfl
    (r_putZ k_81_22 rfl po_81 rfl rfl (kdW hw) (by decide)
    (r_retV k_81_25 rfl)))))))))))))))
/-! ===== 82 HedgeWants.World.wearOf ===== -/
theorem k_82_0 : cd 82 0 = some (.aload_n 0, 1) := by decide +kernel
theorem k_82_1 : cd 82 1 = some (.getfield 32, 3) := by decide +kernel
theorem k_82_4 : cd 82 4 = some (.invokevirtual 155, 3) := by decide +kernel
theorem k_82_7 : cd 82 7 = some (.astore_n 2, 1) := by decide +kernel
theorem k_82_8 : cd 82 8 = some (.iconst 0, 1) := by decide +kernel
theorem k_82_9 : cd 82 9 = some (.istore_n 3, 1) := by decide +kernel
theorem k_82_10 : cd 82 10 = some (.aload_n 2, 1) := by decide +kernel
theorem k_82_11 : cd 82 11 = some (.invokevirtual 112, 3) := by decide +kernel
theorem k_82_14 : cd 82 14 = some (.ifCond .eq 12, 3) := by decide +kernel
theorem k_82_17 : cd 82 17 = some (.aload_n 2, 1) := by decide +kernel
theorem k_82_18 : cd 82 18 = some (.bipush 7, 2) := by decide +kernel
theorem k_82_20 : cd 82 20 = some (.invokevirtual 119, 3) := by decide +kernel
theorem k_82_23 : cd 82 23 = some (.ifCond .eq 39, 3) := by decide +kernel
theorem k_82_26 : cd 82 26 = some (.iconst 0, 1) := by decide +kernel
theorem k_82_27 : cd 82 27 = some (.istore 4, 2) := by decide +kernel
theorem k_82_29 : cd 82 29 = some (.iload 4, 2) := by decide +kernel
theorem k_82_31 : cd 82 31 = some (.aload_n 0, 1) := by decide +kernel
theorem k_82_32 : cd 82 32 = some (.getfield 42, 3) := by decide +kernel
theorem k_82_35 : cd 82 35 = some (.if_icmp .ge 27, 3) := by decide +kernel
theorem k_82_38 : cd 82 38 = some (.iload_n 3, 1) := by decide +kernel
theorem k_82_39 : cd 82 39 = some (.aload_n 0, 1) := by decide +kernel
theorem k_82_40 : cd 82 40 = some (.iload_n 1, 1) := by decide +kernel
theorem k_82_41 : cd 82 41 = some (.iload 4, 2) := by decide +kernel
theorem k_82_43 : cd 82 43 = some (.invokevirtual 130, 3) := by decide +kernel
theorem k_82_46 : cd 82 46 = some (.ifCond .eq 7, 3) := by decide +kernel
theorem k_82_49 : cd 82 49 = some (.iconst 1, 1) := by decide +kernel
theorem k_82_50 : cd 82 50 = some (.goto 4, 3) := by decide +kernel
theorem k_82_53 : cd 82 53 = some (.iconst 0, 1) := by decide +kernel
theorem k_82_54 : cd 82 54 = some (.iadd, 1) := by decide +kernel
theorem k_82_55 : cd 82 55 = some (.istore_n 3, 1) := by decide +kernel
theorem k_82_56 : cd 82 56 = some (.iinc 4 1, 3) := by decide +kernel
theorem k_82_59 : cd 82 59 = some (.goto (-30), 3) := by decide +kernel
theorem k_82_62 : cd 82 62 = some (.iload_n 3, 1) := by decide +kernel
theorem k_82_63 : cd 82 63 = some (.ifCond .le 7, 3) := by decide +kernel
theorem k_82_66 : cd 82 66 = some (.iconst 1, 1) := by decide +kernel
theorem k_82_67 : cd 82 67 = some (.goto 4, 3) := by decide +kernel
theorem k_82_70 : cd 82 70 = some (.iconst 0, 1) := by decide +kernel
theorem k_82_71 : cd 82 71 = some (.istore 4, 2) := by decide +kernel
theorem k_82_73 : cd 82 73 = some (.aload_n 2, 1) := by decide +kernel
theorem k_82_74 : cd 82 74 = some (.invokevirtual 112, 3) := by decide +kernel
theorem k_82_77 : cd 82 77 = some (.ifCond .eq 67, 3) := by decide +kernel
theorem k_82_80 : cd 82 80 = some (.aload_n 0, 1) := by decide +kernel
theorem k_82_81 : cd 82 81 = some (.getfield 29, 3) := by decide +kernel
theorem k_82_84 : cd 82 84 = some (.iconst 0, 1) := by decide +kernel
theorem k_82_85 : cd 82 85 = some (.aload_n 0, 1) := by decide +kernel
theorem k_82_86 : cd 82 86 = some (.iload_n 1, 1) := by decide +kernel
theorem k_82_87 : cd 82 87 = some (.invokevirtual 94, 3) := by decide +kernel
theorem k_82_90 : cd 82 90 = some (.iastore, 1) := by decide +kernel
theorem k_82_91 : cd 82 91 = some (.aload_n 0, 1) := by decide +kernel
theorem k_82_92 : cd 82 92 = some (.getfield 29, 3) := by decide +kernel
theorem k_82_95 : cd 82 95 = some (.iconst 1, 1) := by decide +kernel
theorem k_82_96 : cd 82 96 = some (.aload_n 0, 1) := by decide +kernel
theorem k_82_97 : cd 82 97 = some (.getfield 50, 3) := by decide +kernel
theorem k_82_100 : cd 82 100 = some (.iastore, 1) := by decide +kernel
theorem k_82_101 : cd 82 101 = some (.aload_n 0, 1) := by decide +kernel
theorem k_82_102 : cd 82 102 = some (.getfield 29, 3) := by decide +kernel
theorem k_82_105 : cd 82 105 = some (.bipush 6, 2) := by decide +kernel
theorem k_82_107 : cd 82 107 = some (.aload_n 0, 1) := by decide +kernel
theorem k_82_108 : cd 82 108 = some (.aload_n 0, 1) := by decide +kernel
theorem k_82_109 : cd 82 109 = some (.iload_n 1, 1) := by decide +kernel
theorem k_82_110 : cd 82 110 = some (.invokevirtual 91, 3) := by decide +kernel
theorem k_82_113 : cd 82 113 = some (.iload_n 1, 1) := by decide +kernel
theorem k_82_114 : cd 82 114 = some (.invokevirtual 87, 3) := by decide +kernel
theorem k_82_117 : cd 82 117 = some (.iastore, 1) := by decide +kernel
theorem k_82_118 : cd 82 118 = some (.aload_n 0, 1) := by decide +kernel
theorem k_82_119 : cd 82 119 = some (.getfield 29, 3) := by decide +kernel
theorem k_82_122 : cd 82 122 = some (.bipush 7, 2) := by decide +kernel
theorem k_82_124 : cd 82 124 = some (.iload_n 3, 1) := by decide +kernel
theorem k_82_125 : cd 82 125 = some (.iastore, 1) := by decide +kernel
theorem k_82_126 : cd 82 126 = some (.iconst 0, 1) := by decide +kernel
theorem k_82_127 : cd 82 127 = some (.aload_n 2, 1) := by decide +kernel
theorem k_82_128 : cd 82 128 = some (.aload_n 0, 1) := by decide +kernel
theorem k_82_129 : cd 82 129 = some (.getfield 29, 3) := by decide +kernel
theorem k_82_132 : cd 82 132 = some (.invokevirtual 126, 3) := by decide +kernel
theorem k_82_135 : cd 82 135 = some (.iconst 3, 1) := by decide +kernel
theorem k_82_136 : cd 82 136 = some (.invokestatic 152, 3) := by decide +kernel
theorem k_82_139 : cd 82 139 = some (.invokestatic 97, 3) := by decide +kernel
theorem k_82_142 : cd 82 142 = some (.istore 4, 2) := by decide +kernel
theorem k_82_144 : cd 82 144 = some (.aload_n 0, 1) := by decide +kernel
theorem k_82_145 : cd 82 145 = some (.getfield 32, 3) := by decide +kernel
theorem k_82_148 : cd 82 148 = some (.iload_n 1, 1) := by decide +kernel
theorem k_82_149 : cd 82 149 = some (.invokevirtual 157, 3) := by decide +kernel
theorem k_82_152 : cd 82 152 = some (.ifCond .eq 10, 3) := by decide +kernel
theorem k_82_155 : cd 82 155 = some (.iload 4, 2) := by decide +kernel
theorem k_82_157 : cd 82 157 = some (.iconst 2, 1) := by decide +kernel
theorem k_82_158 : cd 82 158 = some (.idiv, 1) := by decide +kernel
theorem k_82_159 : cd 82 159 = some (.goto 5, 3) := by decide +kernel
theorem k_82_162 : cd 82 162 = some (.iload 4, 2) := by decide +kernel
theorem k_82_164 : cd 82 164 = some (.ireturn, 1) := by decide +kernel
theorem po_82 : po 82 = 8 := rfl
noncomputable def C_82_29 (w : Nat) (x1 : Int32) (q2 : Nat) (x3 : Int32) (x4 : Int32) (σ : pS) : Option pZ := den 82 0 29 [.ref w, .int x1, .ref q2, .int x3, .int x4] [] σ
noncomputable def C_82_71 (w : Nat) (x1 : Int32) (q2 : Nat) (x3 : Int32) (v4 : Value) (s0 : Int32) (σ : pS) : Option pZ := den 82 0 71 [.ref w, .int x1, .ref q2, .int x3, v4] [.int s0] σ
theorem T_82_29 {w : Nat} (hw : isW w) {x1 : Int32} {q2 : Nat} {x3 : Int32} {x4 : Int32} (hq2 : isU q2) {σ : pS} {ρ : Nat → Nat → Option Nat} (e : gR σ = ρ) (hL : LayR ρ) : Le
  (if (gI σ w 1) ≤ x4 then if x3 ≤ (ι 0) then C_82_71 w x1 q2 x3 (.int x4) (ι 0) σ else C_82_71 w x1 q2 x3 (.int x4) (ι 1) σ else bI (pcall 77 [.ref w, .int x1, .int x4] σ) fun r1 σ1 => if r1 = (ι 0) then C_82_29 w x1 q2 (x3 + (ι 0)) (x4 + (ι 1)) σ1 else C_82_29 w x1 q2 (x3 + (ι 1)) (x4 + (ι 1)) σ1)
  (C_82_29 w x1 q2 x3 x4 σ) := by
  unfold C_82_29
  exact r_iload k_82_29 rfl rfl
    (r_aload_n k_82_31 rfl rfl
    (r_getI k_82_32 rfl po_82 rfl rfl rfl (kdW hw)
    (r_icmp (tgt := 62) k_82_35 rfl rfl cop_ge
    (r_iload_n k_82_62 rfl rfl
    (r_if (tgt := 70) k_82_63 rfl rfl cop_le
    (r_iconst k_82_70 rfl rfl
    (Le.rfl'))
    (r_iconst k_82_66 rfl rfl
    (r_goto (tgt := 71) k_82_67 rfl (Le.rfl')))))
    (r_iload_n k_82_38 rfl rfl
    (r_aload_n k_82_39 rfl rfl
    (r_iload_n k_82_40 rfl rfl
    (r_iload k_82_41 rfl rfl
    (r_callI (q_virt (rest := [.int x3]) (as := [.int x1, .int x4]) k_82_43 po_82 rfl rfl rfl (rcvO rfl rfl (kdW hw)) rfl rfl) (lvq (j := 0) rfl (by decide +kernel)) rfl rfl (fun r1 σ1 h1 => r_if (tgt := 53) k_82_46 rfl rfl cop_eq
    (r_iconst k_82_53 rfl rfl
    (r_iadd k_82_54 rfl
    (r_istore_n k_82_55 rfl rfl rfl
    (r_iinc k_82_56 rfl rfl rfl rfl
    (r_goto (tgt := 29) k_82_59 rfl (Le.rfl'))))))
    (r_iconst k_82_49 rfl rfl
    (r_goto (tgt := 54) k_82_50 rfl (r_iadd k_82_54 rfl
    (r_istore_n k_82_55 rfl rfl rfl
    (r_iinc k_82_56 rfl rfl rfl rfl
    (r_goto (tgt := 29) k_82_59 rfl (Le.rfl'))))))))))))))))
theorem T_82_71 {w : Nat} (hw : isW w) {x1 : Int32} {q2 : Nat} {x3 : Int32} {v4 : Value} {s0 : Int32} (hq2 : isU q2) {σ : pS} {ρ : Nat → Nat → Option Nat} (e : gR σ = ρ) (hL : LayR ρ) : Le
  (bI (pcall 17 [.ref q2] σ) fun r1 σ1 => if r1 = (ι 0) then bG isP (gR σ1 w 0) fun q2 => bI (pcall 29 [.ref q2, .int x1] σ1) fun r3 σ3 => if r3 = (ι 0) then some (1, .int s0, σ3) else some (1, .int (s0 / (ι 2)), σ3) else bI (pcall 76 [.ref w, .int x1] σ1) fun r4 σ4 => bI (pcall 75 [.ref w, .int x1] (sI (sI σ4 (w + 6) 0 r4) (w + 6) 1 (gI (sI σ4 (w + 6) 0 r4) w 3))) fun r5 σ5 => bI (pcall 74 [.ref w, .int r5, .int x1] σ5) fun r6 σ6 => bI (pcall 18 [.ref q2, .ref (w + 6)] (sI (sI σ6 (w + 6) 6 r6) (w + 6) 7 x3)) fun r7 σ7 => bG isP (gR σ7 w 0) fun q8 => bI (pcall 29 [.ref q8, .int x1] σ7) fun r9 σ9 => if r9 = (ι 0) then some (1, .int (imax (ι 0) (imin r7 (ι 3))), σ9) else some (1, .int ((imax (ι 0) (imin r7 (ι 3))) / (ι 2)), σ9))
  (C_82_71 w x1 q2 x3 v4 s0 σ) := by
  unfold C_82_71
  exact r_istore k_82_71 rfl rfl rfl
    (r_aload_n k_82_73 rfl rfl
    (r_callI (q_virt (rest := []) (as := []) k_82_74 po_82 rfl rfl rfl (rcvO rfl rfl (kdU hq2)) rfl rfl) (lvq (j := 0) rfl (by decide +kernel)) rfl rfl (fun r1 σ1 h1 => r_if (tgt := 144) k_82_77 rfl rfl cop_eq
    (r_aload_n k_82_144 rfl rfl
    (r_getG k_82_145 rfl po_82 rfl rfl rfl (kdW hw) fun q2 hq2 => r_iload_n k_82_148 rfl rfl
    (r_callI (q_virt (rest := []) (as := [.int x1]) k_82_149 po_82 rfl rfl rfl (rcvO rfl rfl (kdP hq2)) rfl rfl) (lvq (j := 0) rfl (by decide +kernel)) rfl rfl (fun r3 σ3 h3 => r_if (tgt := 162) k_82_152 rfl rfl cop_eq
    (r_iload k_82_162 rfl rfl
    (r_ret k_82_164 rfl rfl))
    (r_iload k_82_155 rfl rfl
    (r_iconst k_82_157 rfl rfl
    (r_idiv k_82_158 rfl (by decide)
    (r_goto (tgt := 164) k_82_159 rfl (r_ret k_82_164 rfl rfl)))))))))
    (r_aload_n k_82_80 rfl rfl
    (r_getR k_82_81 rfl po_82 rfl rfl rfl (kdW hw) (gRat (eC rfl h1 e) (lyW_9 hL hw))
    (r_iconst k_82_84 rfl rfl
    (r_aload_n k_82_85 rfl rfl
    (r_iload_n k_82_86 rfl rfl
    (r_callI (q_virt (rest := [.int (ι 0), .ref (w + 6)]) (as := [.int x1]) k_82_87 po_82 rfl rfl rfl (rcvO rfl rfl (kdW hw)) rfl rfl) (lvq (j := 0) rfl (by decide +kernel)) rfl rfl (fun r4 σ4 h4 => r_iast k_82_90 rfl (kdW_6 hw) (by decide)
    (r_aload_n k_82_91 rfl rfl
    (r_getR k_82_92 rfl po_82 rfl rfl rfl (kdW hw) (gRat (eI (eC rfl h4 (eC rfl h1 e))) (lyW_9 hL hw))
    (r_iconst k_82_95 rfl rfl
    (r_aload_n k_82_96 rfl rfl
    (r_getI k_82_97 rfl po_82 rfl rfl rfl (kdW hw)
    (r_iast k_82_100 rfl (kdW_6 hw) (by decide)
    (r_aload_n k_82_101 rfl rfl
    (r_getR k_82_102 rfl po_82 rfl rfl rfl (kdW hw) (gRat (eI (eI (eC rfl h4 (eC rfl h1 e)))) (lyW_9 hL hw))
    (r_bipush k_82_105 rfl rfl
    (r_aload_n k_82_107 rfl rfl
    (r_aload_n k_82_108 rfl rfl
    (r_iload_n k_82_109 rfl rfl
    (r_callI (q_virt (rest := [.ref w, .int (ι 6), .ref (w + 6)]) (as := [.int x1]) k_82_110 po_82 rfl rfl rfl (rcvO rfl rfl (kdW hw)) rfl rfl) (lvq (j := 0) rfl (by decide +kernel)) rfl rfl (fun r5 σ5 h5 => r_iload_n k_82_113 rfl rfl
    (r_callI (q_virt (rest := [.int (ι 6), .ref (w + 6)]) (as := [.int r5, .int x1]) k_82_114 po_82 rfl rfl rfl (rcvO rfl rfl (kdW hw)) rfl rfl) (lvq (j := 0) rfl (by decide +kernel)) rfl rfl (fun r6 σ6 h6 => r_iast k_82_117 rfl (kdW_6 hw) (by decide)
    (r_aload_n k_82_118 rfl rfl
    (r_getR k_82_119 rfl po_82 rfl rfl rfl (kdW hw) (gRat (eI (eC rfl h6 (eC rfl h5 (eI (eI (eC rfl h4 (eC rfl h1 e))))))) (lyW_9 hL hw))
    (r_bipush k_82_122 rfl rfl
    (r_iload_n k_82_124 rfl rfl
    (r_iast k_82_125 rfl (kdW_6 hw) (by decide)
    (r_iconst k_82_126 rfl rfl
    (r_aload_n k_82_127 rfl rfl
    (r_aload_n k_82_128 rfl rfl
    (r_getR k_82_129 rfl po_82 rfl rfl rfl (kdW hw) (gRat (eI (eI (eC rfl h6 (eC rfl h5 (eI (eI (eC rfl h4 (eC rfl h1 e)))))))) (lyW_9 hL hw))
    (r_callI (q_virt (rest := [.int (ι 0)]) (as := [.ref (w + 6)]) k_82_132 po_82 rfl rfl rfl (rcvO rfl rfl (kdU hq2)) rfl rfl) (lvq (j := 0) rfl (by decide +kernel)) rfl rfl (fun r7 σ7 h7 => r_iconst k_82_135 rfl rfl
    (r_imin k_82_136 rfl po_82 rfl rfl
    (r_imax k_82_139 rfl po_82 rfl rfl
    (r_istore k_82_142 rfl rfl rfl
    (r_aload_n k_82_144 rfl rfl
    (r_getG k_82_145 rfl po_82 rfl rfl rfl (kdW hw) fun q8 hq8 => r_iload_n k_82_148 rfl rfl
    (r_callI (q_virt (rest := []) (as := [.int x1]) k_82_149 po_82 rfl rfl rfl (rcvO rfl rfl (kdP hq8)) rfl rfl) (lvq (j := 0) rfl (by decide +kernel)) rfl rfl (fun r9 σ9 h9 => r_if (tgt := 162) k_82_152 rfl rfl cop_eq
    (r_iload k_82_162 rfl rfl
    (r_ret k_82_164 rfl rfl))
    (r_iload k_82_155 rfl rfl
    (r_iconst k_82_157 rfl rfl
    (r_idiv k_82_158 rfl (by decide)
    (r_goto (tgt := 164) k_82_159 rfl (r_ret k_82_164 rfl rfl)))))))))))))))))))))))))))))))))))))))))))))))))
theorem M_82 {w : Nat} (hw : isW w) {x0 : Int32} {σ : pS} {ρ : Nat → Nat → Option Nat} (e : gR σ = ρ) (hL : LayR ρ) : Le
  (bG isP (gR σ w 0) fun q1 => bA (pcall 28 [.ref q1] σ) fun r2 σ2 => gd (isU r2) (bI (pcall 17 [.ref r2] σ2) fun r3 σ3 => if r3 = (ι 0) then C_82_29 w x0 r2 (ι 0) (ι 0) σ3 else bI (pcall 16 [.ref r2, .int (ι 7)] σ3) fun r4 σ4 => if r4 = (ι 0) then if (ι 0) ≤ (ι 0) then C_82_71 w x0 r2 (ι 0) (.retAddr 0) (ι 0) σ4 else C_82_71 w x0 r2 (ι 0) (.retAddr 0) (ι 1) σ4 else C_82_29 w x0 r2 (ι 0) (ι 0) σ4))
  (pcall 82 [.ref w, .int x0] σ) := by
  show Le _ (den 82 0 0 [.ref w, .int x0, .retAddr 0, .retAddr 0, .retAddr 0] [] σ)
  exact r_aload_n k_82_0 rfl rfl
    (r_getG k_82_1 rfl po_82 rfl rfl rfl (kdW hw) fun q1 hq1 => r_callA (q_virt (rest := []) (as := []) k_82_4 po_82 rfl rfl rfl (rcvO rfl rfl (kdP hq1)) rfl rfl) (lvq (j := 0) rfl (by decide +kernel)) rfl rfl (fun r2 σ2 h2 => r_gd fun hr2 => r_astore_n k_82_7 rfl rfl rfl
    (r_iconst k_82_8 rfl rfl
    (r_istore_n k_82_9 rfl rfl rfl
    (r_aload_n k_82_10 rfl rfl
    (r_callI (q_virt (rest := []) (as := []) k_82_11 po_82 rfl rfl rfl (rcvO rfl rfl (kdU hr2)) rfl rfl) (lvq (j := 0) rfl (by decide +kernel)) rfl rfl (fun r3 σ3 h3 => r_if (tgt := 26) k_82_14 rfl rfl cop_eq
    (r_iconst k_82_26 rfl rfl
    (r_istore k_82_27 rfl rfl rfl
    (Le.rfl')))
    (r_aload_n k_82_17 rfl rfl
    (r_bipush k_82_18 rfl rfl
    (r_callI (q_virt (rest := []) (as := [.int (ι 7)]) k_82_20 po_82 rfl rfl rfl (rcvO rfl rfl (kdU hr2)) rfl rfl) (lvq (j := 0) rfl (by decide +kernel)) rfl rfl (fun r4 σ4 h4 => r_if (tgt := 62) k_82_23 rfl rfl cop_eq
    (r_iload_n k_82_62 rfl rfl
    (r_if (tgt := 70) k_82_63 rfl rfl cop_le
    (r_iconst k_82_70 rfl rfl
    (Le.rfl'))
    (r_iconst k_82_66 rfl rfl
    (r_goto (tgt := 71) k_82_67 rfl (Le.rfl')))))
    (r_iconst k_82_26 rfl rfl
    (r_istore k_82_27 rfl rfl rfl
    (Le.rfl'))))))))))))))
/-! ===== 83 HedgeWants.World.load ===== -/
theorem k_83_0 : cd 83 0 = some (.iload_n 2, 1) := by decide +kernel
theorem k_83_1 : cd 83 1 = some (.sipush 129, 3) := by decide +kernel
theorem k_83_4 : cd 83 4 = some (.imul, 1) := by decide +kernel
theorem k_83_5 : cd 83 5 = some (.istore_n 3, 1) := by decide +kernel
theorem k_83_6 : cd 83 6 = some (.iload_n 2, 1) := by decide +kernel
theorem k_83_7 : cd 83 7 = some (.ifCond .lt 17, 3) := by decide +kernel
theorem k_83_10 : cd 83 10 = some (.iload_n 3, 1) := by decide +kernel
theorem k_83_11 : cd 83 11 = some (.ifCond .lt 13, 3) := by decide +kernel
theorem k_83_14 : cd 83 14 = some (.iload_n 3, 1) := by decide +kernel
theorem k_83_15 : cd 83 15 = some (.sipush 129, 3) := by decide +kernel
theorem k_83_18 : cd 83 18 = some (.iadd, 1) := by decide +kernel
theorem k_83_19 : cd 83 19 = some (.aload_n 1, 1) := by decide +kernel
theorem k_83_20 : cd 83 20 = some (.arraylength, 1) := by decide +kernel
theorem k_83_21 : cd 83 21 = some (.if_icmp .le 4, 3) := by decide +kernel
theorem k_83_24 : cd 83 24 = some (.return_, 1) := by decide +kernel
theorem k_83_25 : cd 83 25 = some (.aload_n 0, 1) := by decide +kernel
theorem k_83_26 : cd 83 26 = some (.iconst 0, 1) := by decide +kernel
theorem k_83_27 : cd 83 27 = some (.putfield 53, 3) := by decide +kernel
theorem k_83_30 : cd 83 30 = some (.aload_n 0, 1) := by decide +kernel
theorem k_83_31 : cd 83 31 = some (.aload_n 1, 1) := by decide +kernel
theorem k_83_32 : cd 83 32 = some (.iload_n 3, 1) := by decide +kernel
theorem k_83_33 : cd 83 33 = some (.iaload, 1) := by decide +kernel
theorem k_83_34 : cd 83 34 = some (.putfield 50, 3) := by decide +kernel
theorem k_83_37 : cd 83 37 = some (.iinc 3 1, 3) := by decide +kernel
theorem k_83_40 : cd 83 40 = some (.aload_n 1, 1) := by decide +kernel
theorem k_83_41 : cd 83 41 = some (.iload_n 3, 1) := by decide +kernel
theorem k_83_42 : cd 83 42 = some (.aload_n 0, 1) := by decide +kernel
theorem k_83_43 : cd 83 43 = some (.getfield 9, 3) := by decide +kernel
theorem k_83_46 : cd 83 46 = some (.iconst 0, 1) := by decide +kernel
theorem k_83_47 : cd 83 47 = some (.bipush 12, 2) := by decide +kernel
theorem k_83_49 : cd 83 49 = some (.invokestatic 74, 3) := by decide +kernel
theorem k_83_52 : cd 83 52 = some (.iinc 3 12, 3) := by decide +kernel
theorem k_83_55 : cd 83 55 = some (.aload_n 1, 1) := by decide +kernel
theorem k_83_56 : cd 83 56 = some (.iload_n 3, 1) := by decide +kernel
theorem k_83_57 : cd 83 57 = some (.aload_n 0, 1) := by decide +kernel
theorem k_83_58 : cd 83 58 = some (.getfield 15, 3) := by decide +kernel
theorem k_83_61 : cd 83 61 = some (.iconst 0, 1) := by decide +kernel
theorem k_83_62 : cd 83 62 = some (.bipush 12, 2) := by decide +kernel
theorem k_83_64 : cd 83 64 = some (.invokestatic 74, 3) := by decide +kernel
theorem k_83_67 : cd 83 67 = some (.iinc 3 12, 3) := by decide +kernel
theorem k_83_70 : cd 83 70 = some (.aload_n 1, 1) := by decide +kernel
theorem k_83_71 : cd 83 71 = some (.iload_n 3, 1) := by decide +kernel
theorem k_83_72 : cd 83 72 = some (.aload_n 0, 1) := by decide +kernel
theorem k_83_73 : cd 83 73 = some (.getfield 18, 3) := by decide +kernel
theorem k_83_76 : cd 83 76 = some (.iconst 0, 1) := by decide +kernel
theorem k_83_77 : cd 83 77 = some (.bipush 8, 2) := by decide +kernel
theorem k_83_79 : cd 83 79 = some (.invokestatic 74, 3) := by decide +kernel
theorem k_83_82 : cd 83 82 = some (.iinc 3 8, 3) := by decide +kernel
theorem k_83_85 : cd 83 85 = some (.aload_n 1, 1) := by decide +kernel
theorem k_83_86 : cd 83 86 = some (.iload_n 3, 1) := by decide +kernel
theorem k_83_87 : cd 83 87 = some (.aload_n 0, 1) := by decide +kernel
theorem k_83_88 : cd 83 88 = some (.getfield 21, 3) := by decide +kernel
theorem k_83_91 : cd 83 91 = some (.iconst 0, 1) := by decide +kernel
theorem k_83_92 : cd 83 92 = some (.bipush 96, 2) := by decide +kernel
theorem k_83_94 : cd 83 94 = some (.invokestatic 74, 3) := by decide +kernel
theorem k_83_97 : cd 83 97 = some (.return_, 1) := by decide +kernel
theorem po_83 : po 83 = 8 := rfl
theorem M_83 {w : Nat} (hw : isW w) {a0 n0 : Nat} (ha0 : kd a0 = (100, n0)) {x1 : Int32} {σ : pS} {ρ : Nat → Nat → Option Nat} (e : gR σ = ρ) (hL : LayR ρ) : Le
  (if x1 < (ι 0) then some (0, .null, σ) else if (x1 * (ι 129)) < (ι 0) then some (0, .null, σ) else if ((x1 * (ι 129)) + (ι 129)) ≤ (ι n0) then lt (sI σ w 11 (ι 0)) fun s1 => gd (inb (x1 * (ι 129)) n0) (lt (sI s1 w 3 (gI s1 a0 (ix (x1 * (ι 129))))) fun s2 => gd (cpok ((x1 * (ι 129)) + (ι 1)) (ι 0) (ι 12) n0 12) (lt (sA s2 (w + 1) (va_cpy (gI s2 a0) (gI s2 (w + 1)) (ix ((x1 * (ι 129)) + (ι 1))) 0 12)) fun s3 => gd (cpok (((x1 * (ι 129)) + (ι 1)) + (ι 12)) (ι 0) (ι 12) n0 12) (lt (sA s3 (w + 2) (va_cpy (gI s3 a0) (gI s3 (w + 2)) (ix (((x1 * (ι 129)) + (ι 1)) + (ι 12))) 0 12)) fun s4 => gd (cpok ((((x1 * (ι 129)) + (ι 1)) + (ι 12)) + (ι 12)) (ι 0) (ι 8) n0 8) (lt (sA s4 (w + 3) (va_cpy (gI s4 a0) (gI s4 (w + 3)) (ix ((((x1 * (ι 129)) + (ι 1)) + (ι 12)) + (ι 12))) 0 8)) fun s5 => gd (cpok (((((x1 * (ι 129)) + (ι 1)) + (ι 12)) + (ι 12)) + (ι 8)) (ι 0) (ι 96) n0 96) (lt (sA s5 (w + 4) (va_cpy (gI s5 a0) (gI s5 (w + 4)) (ix (((((x1 * (ι 129)) + (ι 1)) + (ι 12)) + (ι 12)) + (ι 8))) 0 96)) fun s6 => some (0, .null, s6)))))) else some (0, .null, σ))
  (pcall 83 [.ref w, .ref a0, .int x1] σ) := by
  show Le _ (den 83 0 0 [.ref w, .ref a0, .int x1, .retAddr 0] [] σ)
  exact r_iload_n k_83_0 rfl rfl
    (r_sipush k_83_1 rfl rfl
    (r_imul k_83_4 rfl
    (r_istore_n k_83_5 rfl rfl rfl
    (r_iload_n k_83_6 rfl rfl
    (r_if (tgt := 24) k_83_7 rfl rfl cop_lt
    (r_retV k_83_24 rfl)
    (r_iload_n k_83_10 rfl rfl
    (r_if (tgt := 24) k_83_11 rfl rfl cop_lt
    (r_retV k_83_24 rfl)
    (r_iload_n k_83_14 rfl rfl
    (r_sipush k_83_15 rfl rfl
    (r_iadd k_83_18 rfl
    (r_aload_n k_83_19 rfl rfl
    (r_alenI k_83_20 rfl ha0 rfl
    (r_icmp (tgt := 25) k_83_21 rfl rfl cop_le
    (r_aload_n k_83_25 rfl rfl
    (r_iconst k_83_26 rfl rfl
    (r_putZ k_83_27 rfl po_83 rfl rfl (kdW hw) (by decide)
    (r_lt fun s1 es1 => r_aload_n k_83_30 rfl rfl
    (r_aload_n k_83_31 rfl rfl
    (r_iload_n k_83_32 rfl rfl
    (r_gd fun g => r_iald k_83_33 rfl ha0 g
    (r_putI k_83_34 rfl po_83 rfl rfl (kdW hw)
    (r_lt fun s2 es2 => r_iinc k_83_37 rfl rfl rfl rfl
    (r_aload_n k_83_40 rfl rfl
    (r_iload_n k_83_41 rfl rfl
    (r_aload_n k_83_42 rfl rfl
    (r_getR k_83_43 rfl po_83 rfl rfl rfl (kdW hw) (gRat (es2.trans (eI (es1.trans (eI e)))) (lyW_4 hL hw))
    (r_iconst k_83_46 rfl rfl
    (r_bipush k_83_47 rfl rfl
    (r_gd fun g => r_copy k_83_49 rfl po_83 rfl ha0 (kdW_1 hw) rfl g
    (r_lt fun s3 es3 => r_iinc k_83_52 rfl rfl rfl rfl
    (r_aload_n k_83_55 rfl rfl
    (r_iload_n k_83_56 rfl rfl
    (r_aload_n k_83_57 rfl rfl
    (r_getR k_83_58 rfl po_83 rfl rfl rfl (kdW hw) (gRat (es3.trans (eA (es2.trans (eI (es1.trans (eI e)))))) (lyW_5 hL hw))
    (r_iconst k_83_61 rfl rfl
    (r_bipush k_83_62 rfl rfl
    (r_gd fun g => r_copy k_83_64 rfl po_83 rfl ha0 (kdW_2 hw) rfl g
    (r_lt fun s4 es4 => r_iinc k_83_67 rfl rfl rfl rfl
    (r_aload_n k_83_70 rfl rfl
    (r_iload_n k_83_71 rfl rfl
    (r_aload_n k_83_72 rfl rfl
    (r_getR k_83_73 rfl po_83 rfl rfl rfl (kdW hw) (gRat (es4.trans (eA (es3.trans (eA (es2.trans (eI (es1.trans (eI e)))))))) (lyW_6 hL hw))
    (r_iconst k_83_76 rfl rfl
    (r_bipush k_83_77 rfl rfl
    (r_gd fun g => r_copy k_83_79 rfl po_83 rfl ha0 (kdW_3 hw) rfl g
    (r_lt fun s5 es5 => r_iinc k_83_82 rfl rfl rfl rfl
    (r_aload_n k_83_85 rfl rfl
    (r_iload_n k_83_86 rfl rfl
    (r_aload_n k_83_87 rfl rfl
    (r_getR k_83_88 rfl po_83 rfl rfl rfl (kdW hw) (gRat (es5.trans (eA (es4.trans (eA (es3.trans (eA (es2.trans (eI (es1.trans (eI e)))))))))) (lyW_7 hL hw))
    (r_iconst k_83_91 rfl rfl
    (r_bipush k_83_92 rfl rfl
    (r_gd fun g => r_copy k_83_94 rfl po_83 rfl ha0 (kdW_4 hw) rfl g
    (r_lt fun s6 es6 => r_retV k_83_97 rfl)))))))))))))))))))))))))))))))))))))))))
    (r_retV k_83_24 rfl))))))))))))))
/-! ===== 84 HedgeWants.World.follow ===== -/
theorem k_84_0 : cd 84 0 = some (.aload_n 0, 1) := by decide +kernel
theorem k_84_1 : cd 84 1 = some (.aload_n 1, 1) := by decide +kernel
theorem k_84_2 : cd 84 2 = some (.getfield 32, 3) := by decide +kernel
theorem k_84_5 : cd 84 5 = some (.putfield 32, 3) := by decide +kernel
theorem k_84_8 : cd 84 8 = some (.aload_n 0, 1) := by decide +kernel
theorem k_84_9 : cd 84 9 = some (.aload_n 1, 1) := by decide +kernel
theorem k_84_10 : cd 84 10 = some (.getfield 42, 3) := by decide +kernel
theorem k_84_13 : cd 84 13 = some (.putfield 42, 3) := by decide +kernel
theorem k_84_16 : cd 84 16 = some (.aload_n 0, 1) := by decide +kernel
theorem k_84_17 : cd 84 17 = some (.aload_n 1, 1) := by decide +kernel
theorem k_84_18 : cd 84 18 = some (.getfield 48, 3) := by decide +kernel
theorem k_84_21 : cd 84 21 = some (.putfield 48, 3) := by decide +kernel
theorem k_84_24 : cd 84 24 = some (.aload_n 0, 1) := by decide +kernel
theorem k_84_25 : cd 84 25 = some (.aload_n 1, 1) := by decide +kernel
theorem k_84_26 : cd 84 26 = some (.getfield 50, 3) := by decide +kernel
theorem k_84_29 : cd 84 29 = some (.putfield 50, 3) := by decide +kernel
theorem k_84_32 : cd 84 32 = some (.aload_n 0, 1) := by decide +kernel
theorem k_84_33 : cd 84 33 = some (.aload_n 1, 1) := by decide +kernel
theorem k_84_34 : cd 84 34 = some (.getfield 53, 3) := by decide +kernel
theorem k_84_37 : cd 84 37 = some (.putfield 53, 3) := by decide +kernel
theorem k_84_40 : cd 84 40 = some (.aload_n 1, 1) := by decide +kernel
theorem k_84_41 : cd 84 41 = some (.getfield 9, 3) := by decide +kernel
theorem k_84_44 : cd 84 44 = some (.iconst 0, 1) := by decide +kernel
theorem k_84_45 : cd 84 45 = some (.aload_n 0, 1) := by decide +kernel
theorem k_84_46 : cd 84 46 = some (.getfield 9, 3) := by decide +kernel
theorem k_84_49 : cd 84 49 = some (.iconst 0, 1) := by decide +kernel
theorem k_84_50 : cd 84 50 = some (.bipush 12, 2) := by decide +kernel
theorem k_84_52 : cd 84 52 = some (.invokestatic 74, 3) := by decide +kernel
theorem k_84_55 : cd 84 55 = some (.aload_n 1, 1) := by decide +kernel
theorem k_84_56 : cd 84 56 = some (.getfield 15, 3) := by decide +kernel
theorem k_84_59 : cd 84 59 = some (.iconst 0, 1) := by decide +kernel
theorem k_84_60 : cd 84 60 = some (.aload_n 0, 1) := by decide +kernel
theorem k_84_61 : cd 84 61 = some (.getfield 15, 3) := by decide +kernel
theorem k_84_64 : cd 84 64 = some (.iconst 0, 1) := by decide +kernel
theorem k_84_65 : cd 84 65 = some (.bipush 12, 2) := by decide +kernel
theorem k_84_67 : cd 84 67 = some (.invokestatic 74, 3) := by decide +kernel
theorem k_84_70 : cd 84 70 = some (.aload_n 1, 1) := by decide +kernel
theorem k_84_71 : cd 84 71 = some (.getfield 18, 3) := by decide +kernel
theorem k_84_74 : cd 84 74 = some (.iconst 0, 1) := by decide +kernel
theorem k_84_75 : cd 84 75 = some (.aload_n 0, 1) := by decide +kernel
theorem k_84_76 : cd 84 76 = some (.getfield 18, 3) := by decide +kernel
theorem k_84_79 : cd 84 79 = some (.iconst 0, 1) := by decide +kernel
theorem k_84_80 : cd 84 80 = some (.bipush 8, 2) := by decide +kernel
theorem k_84_82 : cd 84 82 = some (.invokestatic 74, 3) := by decide +kernel
theorem k_84_85 : cd 84 85 = some (.aload_n 1, 1) := by decide +kernel
theorem k_84_86 : cd 84 86 = some (.getfield 21, 3) := by decide +kernel
theorem k_84_89 : cd 84 89 = some (.iconst 0, 1) := by decide +kernel
theorem k_84_90 : cd 84 90 = some (.aload_n 0, 1) := by decide +kernel
theorem k_84_91 : cd 84 91 = some (.getfield 21, 3) := by decide +kernel
theorem k_84_94 : cd 84 94 = some (.iconst 0, 1) := by decide +kernel
theorem k_84_95 : cd 84 95 = some (.bipush 96, 2) := by decide +kernel
theorem k_84_97 : cd 84 97 = some (.invokestatic 74, 3) := by decide +kernel
theorem k_84_100 : cd 84 100 = some (.aload_n 0, 1) := by decide +kernel
theorem k_84_101 : cd 84 101 = some (.getfield 24, 3) := by decide +kernel
theorem k_84_104 : cd 84 104 = some (.iconst 0, 1) := by decide +kernel
theorem k_84_105 : cd 84 105 = some (.invokestatic 68, 3) := by decide +kernel
theorem k_84_108 : cd 84 108 = some (.return_, 1) := by decide +kernel
theorem po_84 : po 84 = 8 := rfl
theorem M_84 {w : Nat} (hw : isW w) {o0 : Nat} (ho0 : isW o0)  {σ : pS} {ρ : Nat → Nat → Option Nat} (e : gR σ = ρ) (hL : LayR ρ) : Le
  (bG isP (gR σ o0 0) fun q1 => gd (LayR (gR (sR σ w 0 (some q1)))) (lt (sR σ w 0 (some q1)) fun s2 => lt (sI s2 w 1 (gI s2 o0 1)) fun s3 => lt (sI s3 w 2 (gI s3 o0 2)) fun s4 => lt (sI s4 w 3 (gI s4 o0 3)) fun s5 => gd ((gI s5 o0 11) = ι 0 ∨ (gI s5 o0 11) = ι 1) (lt (sI s5 w 11 (gI s5 o0 11)) fun s6 => lt (sA s6 (w + 1) (va_cpy (gI s6 (o0 + 1)) (gI s6 (w + 1)) 0 0 12)) fun s7 => lt (sA s7 (w + 2) (va_cpy (gI s7 (o0 + 2)) (gI s7 (w + 2)) 0 0 12)) fun s8 => lt (sA s8 (w + 3) (va_cpy (gI s8 (o0 + 3)) (gI s8 (w + 3)) 0 0 8)) fun s9 => lt (sA s9 (w + 4) (va_cpy (gI s9 (o0 + 4)) (gI s9 (w + 4)) 0 0 96)) fun s10 => bV (pcall 1 [.ref (w + 5), .int (ι 0)] s10) fun σ11 => some (0, .null, σ11))))
  (pcall 84 [.ref w, .ref o0] σ) := by
  show Le _ (den 84 0 0 [.ref w, .ref o0] [] σ)
  exact r_aload_n k_84_0 rfl rfl
    (r_aload_n k_84_1 rfl rfl
    (r_getG k_84_2 rfl po_84 rfl rfl rfl (kdW ho0) fun q1 hq1 => r_gd fun L2 => r_putR k_84_5 rfl po_84 rfl rfl (Or.inl rfl) (kdW hw)
    (r_lt fun s2 es2 => r_aload_n k_84_8 rfl rfl
    (r_aload_n k_84_9 rfl rfl
    (r_getI k_84_10 rfl po_84 rfl rfl rfl (kdW ho0)
    (r_putI k_84_13 rfl po_84 rfl rfl (kdW hw)
    (r_lt fun s3 es3 => r_aload_n k_84_16 rfl rfl
    (r_aload_n k_84_17 rfl rfl
    (r_getI k_84_18 rfl po_84 rfl rfl rfl (kdW ho0)
    (r_putI k_84_21 rfl po_84 rfl rfl (kdW hw)
    (r_lt fun s4 es4 => r_aload_n k_84_24 rfl rfl
    (r_aload_n k_84_25 rfl rfl
    (r_getI k_84_26 rfl po_84 rfl rfl rfl (kdW ho0)
    (r_putI k_84_29 rfl po_84 rfl rfl (kdW hw)
    (r_lt fun s5 es5 => r_aload_n k_84_32 rfl rfl
    (r_aload_n k_84_33 rfl rfl
    (r_getI k_84_34 rfl po_84 rfl rfl rfl (kdW ho0)
    (r_gd fun g => r_putZ k_84_37 rfl po_84 rfl rfl (kdW hw) g
    (r_lt fun s6 es6 => r_aload_n k_84_40 rfl rfl
    (r_getR k_84_41 rfl po_84 rfl rfl rfl (kdW ho0) (gRat (es6.trans (eI (es5.trans (eI (es4.trans (eI (es3.trans (eI es2)))))))) (lyW_4 L2 ho0))
    (r_iconst k_84_44 rfl rfl
    (r_aload_n k_84_45 rfl rfl
    (r_getR k_84_46 rfl po_84 rfl rfl rfl (kdW hw) (gRat (es6.trans (eI (es5.trans (eI (es4.trans (eI (es3.trans (eI es2)))))))) (lyW_4 L2 hw))
    (r_iconst k_84_49 rfl rfl
    (r_bipush k_84_50 rfl rfl
    (r_copy k_84_52 rfl po_84 rfl (kdW_1 ho0) (kdW_1 hw) rfl (by decide)
    (r_lt fun s7 es7 => r_aload_n k_84_55 rfl rfl
    (r_getR k_84_56 rfl po_84 rfl rfl rfl (kdW ho0) (gRat (es7.trans (eA (es6.trans (eI (es5.trans (eI (es4.trans (eI (es3.trans (eI es2)))))))))) (lyW_5 L2 ho0))
    (r_iconst k_84_59 rfl rfl
    (r_aload_n k_84_60 rfl rfl
    (r_getR k_84_61 rfl po_84 rfl rfl rfl (kdW hw) (gRat (es7.trans (eA (es6.trans (eI (es5.trans (eI (es4.trans (eI (es3.trans (eI es2)))))))))) (lyW_5 L2 hw))
    (r_iconst k_84_64 rfl rfl
    (r_bipush k_84_65 rfl rfl
    (r_copy k_84_67 rfl po_84 rfl (kdW_2 ho0) (kdW_2 hw) rfl (by decide)
    (r_lt fun s8 es8 => r_aload_n k_84_70 rfl rfl
    (r_getR k_84_71 rfl po_84 rfl rfl rfl (kdW ho0) (gRat (es8.trans (eA (es7.trans (eA (es6.trans (eI (es5.trans (eI (es4.trans (eI (es3.trans (eI es2)))))))))))) (lyW_6 L2 ho0))
    (r_iconst k_84_74 rfl rfl
    (r_aload_n k_84_75 rfl rfl
    (r_getR k_84_76 rfl po_84 rfl rfl rfl (kdW hw) (gRat (es8.trans (eA (es7.trans (eA (es6.trans (eI (es5.trans (eI (es4.trans (eI (es3.trans (eI es2)))))))))))) (lyW_6 L2 hw))
    (r_iconst k_84_79 rfl rfl
    (r_bipush k_84_80 rfl rfl
    (r_copy k_84_82 rfl po_84 rfl (kdW_3 ho0) (kdW_3 hw) rfl (by decide)
    (r_lt fun s9 es9 => r_aload_n k_84_85 rfl rfl
    (r_getR k_84_86 rfl po_84 rfl rfl rfl (kdW ho0) (gRat (es9.trans (eA (es8.trans (eA (es7.trans (eA (es6.trans (eI (es5.trans (eI (es4.trans (eI (es3.trans (eI es2)))))))))))))) (lyW_7 L2 ho0))
    (r_iconst k_84_89 rfl rfl
    (r_aload_n k_84_90 rfl rfl
    (r_getR k_84_91 rfl po_84 rfl rfl rfl (kdW hw) (gRat (es9.trans (eA (es8.trans (eA (es7.trans (eA (es6.trans (eI (es5.trans (eI (es4.trans (eI (es3.trans (eI es2)))))))))))))) (lyW_7 L2 hw))
    (r_iconst k_84_94 rfl rfl
    (r_bipush k_84_95 rfl rfl
    (r_copy k_84_97 rfl po_84 rfl (kdW_4 ho0) (kdW_4 hw) rfl (by decide)
    (r_lt fun s10 es10 => r_aload_n k_84_100 rfl rfl
    (r_getR k_84_101 rfl po_84 rfl rfl rfl (kdW hw) (gRat (es10.trans (eA (es9.trans (eA (es8.trans (eA (es7.trans (eA (es6.trans (eI (es5.trans (eI (es4.trans (eI (es3.trans (eI es2)))))))))))))))) (lyW_8 L2 hw))
    (r_iconst k_84_104 rfl rfl
    (r_callV (q_stat (rest := []) (av := [.ref (w + 5), .int (ι 0)]) k_84_105 po_84 rfl (by decide) rfl rfl rfl rfl) (lvq (j := 0) rfl (by decide +kernel)) rfl rfl (fun _ σ11 h11 => r_retV k_84_108 rfl)))))))))))))))))))))))))))))))))))))))))))))))))))))))
/-! ===== 85 HedgeWants.World.begin ===== -/
theorem k_85_0 : cd 85 0 = some (.aload_n 0, 1) := by decide +kernel
theorem k_85_1 : cd 85 1 = some (.aload_n 1, 1) := by decide +kernel
theorem k_85_2 : cd 85 2 = some (.putfield 32, 3) := by decide +kernel
theorem k_85_5 : cd 85 5 = some (.aload_n 0, 1) := by decide +kernel
theorem k_85_6 : cd 85 6 = some (.aload_n 1, 1) := by decide +kernel
theorem k_85_7 : cd 85 7 = some (.invokevirtual 36, 3) := by decide +kernel
theorem k_85_10 : cd 85 10 = some (.putfield 42, 3) := by decide +kernel
theorem k_85_13 : cd 85 13 = some (.aload_n 0, 1) := by decide +kernel
theorem k_85_14 : cd 85 14 = some (.aload_n 1, 1) := by decide +kernel
theorem k_85_15 : cd 85 15 = some (.invokevirtual 45, 3) := by decide +kernel
theorem k_85_18 : cd 85 18 = some (.putfield 48, 3) := by decide +kernel
theorem k_85_21 : cd 85 21 = some (.aload_n 0, 1) := by decide +kernel
theorem k_85_22 : cd 85 22 = some (.iconst 0, 1) := by decide +kernel
theorem k_85_23 : cd 85 23 = some (.putfield 50, 3) := by decide +kernel
theorem k_85_26 : cd 85 26 = some (.aload_n 0, 1) := by decide +kernel
theorem k_85_27 : cd 85 27 = some (.iconst 0, 1) := by decide +kernel
theorem k_85_28 : cd 85 28 = some (.putfield 53, 3) := by decide +kernel
theorem k_85_31 : cd 85 31 = some (.iconst 0, 1) := by decide +kernel
theorem k_85_32 : cd 85 32 = some (.istore_n 2, 1) := by decide +kernel
theorem k_85_33 : cd 85 33 = some (.iload_n 2, 1) := by decide +kernel
theorem k_85_34 : cd 85 34 = some (.aload_n 0, 1) := by decide +kernel
theorem k_85_35 : cd 85 35 = some (.getfield 9, 3) := by decide +kernel
theorem k_85_38 : cd 85 38 = some (.arraylength, 1) := by decide +kernel
theorem k_85_39 : cd 85 39 = some (.if_icmp .ge 36, 3) := by decide +kernel
theorem k_85_42 : cd 85 42 = some (.iload_n 2, 1) := by decide +kernel
theorem k_85_43 : cd 85 43 = some (.aload_n 0, 1) := by decide +kernel
theorem k_85_44 : cd 85 44 = some (.getfield 15, 3) := by decide +kernel
theorem k_85_47 : cd 85 47 = some (.arraylength, 1) := by decide +kernel
theorem k_85_48 : cd 85 48 = some (.if_icmp .ge 27, 3) := by decide +kernel
theorem k_85_51 : cd 85 51 = some (.aload_n 0, 1) := by decide +kernel
theorem k_85_52 : cd 85 52 = some (.getfield 9, 3) := by decide +kernel
theorem k_85_55 : cd 85 55 = some (.iload_n 2, 1) := by decide +kernel
theorem k_85_56 : cd 85 56 = some (.aload_n 1, 1) := by decide +kernel
theorem k_85_57 : cd 85 57 = some (.iload_n 2, 1) := by decide +kernel
theorem k_85_58 : cd 85 58 = some (.invokevirtual 57, 3) := by decide +kernel
theorem k_85_61 : cd 85 61 = some (.iastore, 1) := by decide +kernel
theorem k_85_62 : cd 85 62 = some (.aload_n 0, 1) := by decide +kernel
theorem k_85_63 : cd 85 63 = some (.getfield 15, 3) := by decide +kernel
theorem k_85_66 : cd 85 66 = some (.iload_n 2, 1) := by decide +kernel
theorem k_85_67 : cd 85 67 = some (.iconst 0, 1) := by decide +kernel
theorem k_85_68 : cd 85 68 = some (.iastore, 1) := by decide +kernel
theorem k_85_69 : cd 85 69 = some (.iinc 2 1, 3) := by decide +kernel
theorem k_85_72 : cd 85 72 = some (.goto (-39), 3) := by decide +kernel
theorem k_85_75 : cd 85 75 = some (.iconst 0, 1) := by decide +kernel
theorem k_85_76 : cd 85 76 = some (.istore_n 2, 1) := by decide +kernel
theorem k_85_77 : cd 85 77 = some (.iload_n 2, 1) := by decide +kernel
theorem k_85_78 : cd 85 78 = some (.aload_n 0, 1) := by decide +kernel
theorem k_85_79 : cd 85 79 = some (.getfield 18, 3) := by decide +kernel
theorem k_85_82 : cd 85 82 = some (.arraylength, 1) := by decide +kernel
theorem k_85_83 : cd 85 83 = some (.if_icmp .ge 20, 3) := by decide +kernel
theorem k_85_86 : cd 85 86 = some (.aload_n 0, 1) := by decide +kernel
theorem k_85_87 : cd 85 87 = some (.getfield 18, 3) := by decide +kernel
theorem k_85_90 : cd 85 90 = some (.iload_n 2, 1) := by decide +kernel
theorem k_85_91 : cd 85 91 = some (.aload_n 1, 1) := by decide +kernel
theorem k_85_92 : cd 85 92 = some (.iload_n 2, 1) := by decide +kernel
theorem k_85_93 : cd 85 93 = some (.invokevirtual 61, 3) := by decide +kernel
theorem k_85_96 : cd 85 96 = some (.iastore, 1) := by decide +kernel
theorem k_85_97 : cd 85 97 = some (.iinc 2 1, 3) := by decide +kernel
theorem k_85_100 : cd 85 100 = some (.goto (-23), 3) := by decide +kernel
theorem k_85_103 : cd 85 103 = some (.aload_n 1, 1) := by decide +kernel
theorem k_85_104 : cd 85 104 = some (.aload_n 0, 1) := by decide +kernel
theorem k_85_105 : cd 85 105 = some (.getfield 21, 3) := by decide +kernel
theorem k_85_108 : cd 85 108 = some (.invokevirtual 64, 3) := by decide +kernel
theorem k_85_111 : cd 85 111 = some (.aload_n 0, 1) := by decide +kernel
theorem k_85_112 : cd 85 112 = some (.getfield 24, 3) := by decide +kernel
theorem k_85_115 : cd 85 115 = some (.iconst 0, 1) := by decide +kernel
theorem k_85_116 : cd 85 116 = some (.invokestatic 68, 3) := by decide +kernel
theorem k_85_119 : cd 85 119 = some (.return_, 1) := by decide +kernel
theorem po_85 : po 85 = 8 := rfl
noncomputable def C_85_33 (w : Nat) (o0 : Nat) (x2 : Int32) (σ : pS) : Option pZ := den 85 0 33 [.ref w, .ref o0, .int x2] [] σ
noncomputable def C_85_77 (w : Nat) (o0 : Nat) (x2 : Int32) (σ : pS) : Option pZ := den 85 0 77 [.ref w, .ref o0, .int x2] [] σ
theorem T_85_33 {w : Nat} (hw : isW w) {o0 : Nat} (ho0 : isP o0) {x2 : Int32}  {σ : pS} {ρ : Nat → Nat → Option Nat} (e : gR σ = ρ) (hL : LayR ρ) : Le
  (if (ι 12) ≤ x2 then C_85_77 w o0 (ι 0) σ else if (ι 12) ≤ x2 then C_85_77 w o0 (ι 0) σ else bI (pcall 38 [.ref o0, .int x2] σ) fun r1 σ1 => gd (inb x2 12) (gd (inb x2 12) (C_85_33 w o0 (x2 + (ι 1)) (sI (sI σ1 (w + 1) (ix x2) r1) (w + 2) (ix x2) (ι 0)))))
  (C_85_33 w o0 x2 σ) := by
  unfold C_85_33
  exact r_iload_n k_85_33 rfl rfl
    (r_aload_n k_85_34 rfl rfl
    (r_getR k_85_35 rfl po_85 rfl rfl rfl (kdW hw) (gRat e (lyW_4 hL hw))
    (r_alenI k_85_38 rfl (kdW_1 hw) rfl
    (r_icmp (tgt := 75) k_85_39 rfl rfl cop_ge
    (r_iconst k_85_75 rfl rfl
    (r_istore_n k_85_76 rfl rfl rfl
    (Le.rfl')))
    (r_iload_n k_85_42 rfl rfl
    (r_aload_n k_85_43 rfl rfl
    (r_getR k_85_44 rfl po_85 rfl rfl rfl (kdW hw) (gRat e (lyW_5 hL hw))
    (r_alenI k_85_47 rfl (kdW_2 hw) rfl
    (r_icmp (tgt := 75) k_85_48 rfl rfl cop_ge
    (r_iconst k_85_75 rfl rfl
    (r_istore_n k_85_76 rfl rfl rfl
    (Le.rfl')))
    (r_aload_n k_85_51 rfl rfl
    (r_getR k_85_52 rfl po_85 rfl rfl rfl (kdW hw) (gRat e (lyW_4 hL hw))
    (r_iload_n k_85_55 rfl rfl
    (r_aload_n k_85_56 rfl rfl
    (r_iload_n k_85_57 rfl rfl
    (r_callI (q_virt (rest := [.int x2, .ref (w + 1)]) (as := [.int x2]) k_85_58 po_85 rfl rfl rfl (rcvO rfl rfl (kdP ho0)) rfl rfl) (lvq (j := 0) rfl (by decide +kernel)) rfl rfl (fun r1 σ1 h1 => r_gd fun g => r_iast k_85_61 rfl (kdW_1 hw) g
    (r_aload_n k_85_62 rfl rfl
    (r_getR k_85_63 rfl po_85 rfl rfl rfl (kdW hw) (gRat (eI (eC rfl h1 e)) (lyW_5 hL hw))
    (r_iload_n k_85_66 rfl rfl
    (r_iconst k_85_67 rfl rfl
    (r_gd fun g => r_iast k_85_68 rfl (kdW_2 hw) g
    (r_iinc k_85_69 rfl rfl rfl rfl
    (r_goto (tgt := 33) k_85_72 rfl (Le.rfl'))))))))))))))))))))))))
theorem T_85_77 {w : Nat} (hw : isW w) {o0 : Nat} (ho0 : isP o0) {x2 : Int32}  {σ : pS} {ρ : Nat → Nat → Option Nat} (e : gR σ = ρ) (hL : LayR ρ) : Le
  (if (ι 8) ≤ x2 then bV (pcall 40 [.ref o0, .ref (w + 4)] σ) fun σ1 => bV (pcall 1 [.ref (w + 5), .int (ι 0)] σ1) fun σ2 => some (0, .null, σ2) else bI (pcall 39 [.ref o0, .int x2] σ) fun r3 σ3 => gd (inb x2 8) (C_85_77 w o0 (x2 + (ι 1)) (sI σ3 (w + 3) (ix x2) r3)))
  (C_85_77 w o0 x2 σ) := by
  unfold C_85_77
  exact r_iload_n k_85_77 rfl rfl
    (r_aload_n k_85_78 rfl rfl
    (r_getR k_85_79 rfl po_85 rfl rfl rfl (kdW hw) (gRat e (lyW_6 hL hw))
    (r_alenI k_85_82 rfl (kdW_3 hw) rfl
    (r_icmp (tgt := 103) k_85_83 rfl rfl cop_ge
    (r_aload_n k_85_103 rfl rfl
    (r_aload_n k_85_104 rfl rfl
    (r_getR k_85_105 rfl po_85 rfl rfl rfl (kdW hw) (gRat e (lyW_7 hL hw))
    (r_callV (q_virt (rest := []) (as := [.ref (w + 4)]) k_85_108 po_85 rfl rfl rfl (rcvO rfl rfl (kdP ho0)) rfl rfl) (lvq (j := 0) rfl (by decide +kernel)) rfl rfl (fun _ σ1 h1 => r_aload_n k_85_111 rfl rfl
    (r_getR k_85_112 rfl po_85 rfl rfl rfl (kdW hw) (gRat (eC rfl h1 e) (lyW_8 hL hw))
    (r_iconst k_85_115 rfl rfl
    (r_callV (q_stat (rest := []) (av := [.ref (w + 5), .int (ι 0)]) k_85_116 po_85 rfl (by decide) rfl rfl rfl rfl) (lvq (j := 0) rfl (by decide +kernel)) rfl rfl (fun _ σ2 h2 => r_retV k_85_119 rfl)))))))))
    (r_aload_n k_85_86 rfl rfl
    (r_getR k_85_87 rfl po_85 rfl rfl rfl (kdW hw) (gRat e (lyW_6 hL hw))
    (r_iload_n k_85_90 rfl rfl
    (r_aload_n k_85_91 rfl rfl
    (r_iload_n k_85_92 rfl rfl
    (r_callI (q_virt (rest := [.int x2, .ref (w + 3)]) (as := [.int x2]) k_85_93 po_85 rfl rfl rfl (rcvO rfl rfl (kdP ho0)) rfl rfl) (lvq (j := 0) rfl (by decide +kernel)) rfl rfl (fun r3 σ3 h3 => r_gd fun g => r_iast k_85_96 rfl (kdW_3 hw) g
    (r_iinc k_85_97 rfl rfl rfl rfl
    (r_goto (tgt := 77) k_85_100 rfl (Le.rfl'))))))))))))))
theorem M_85 {w : Nat} (hw : isW w) {o0 : Nat} (ho0 : isP o0)  {σ : pS} {ρ : Nat → Nat → Option Nat} (e : gR σ = ρ) (hL : LayR ρ) : Le
  (gd (LayR (gR (sR σ w 0 (some o0)))) (bI (pcall 31 [.ref o0] (sR σ w 0 (some o0))) fun r2 σ2 => bI (pcall 32 [.ref o0] (sI σ2 w 1 r2)) fun r3 σ3 => C_85_33 w o0 (ι 0) (sI (sI (sI σ3 w 2 r3) w 3 (ι 0)) w 11 (ι 0))))
  (pcall 85 [.ref w, .ref o0] σ) := by
  show Le _ (den 85 0 0 [.ref w, .ref o0, .retAddr 0] [] σ)
  exact r_aload_n k_85_0 rfl rfl
    (r_aload_n k_85_1 rfl rfl
    (r_gd fun L1 => r_putR k_85_2 rfl po_85 rfl rfl (Or.inl rfl) (kdW hw)
    (r_aload_n k_85_5 rfl rfl
    (r_aload_n k_85_6 rfl rfl
    (r_callI (q_virt (rest := [.ref w]) (as := []) k_85_7 po_85 rfl rfl rfl (rcvO rfl rfl (kdP ho0)) rfl rfl) (lvq (j := 0) rfl (by decide +kernel)) rfl rfl (fun r2 σ2 h2 => r_putI k_85_10 rfl po_85 rfl rfl (kdW hw)
    (r_aload_n k_85_13 rfl rfl
    (r_aload_n k_85_14 rfl rfl
    (r_callI (q_virt (rest := [.ref w]) (as := []) k_85_15 po_85 rfl rfl rfl (rcvO rfl rfl (kdP ho0)) rfl rfl) (lvq (j := 0) rfl (by decide +kernel)) rfl rfl (fun r3 σ3 h3 => r_putI k_85_18 rfl po_85 rfl rfl (kdW hw)
    (r_aload_n k_85_21 rfl rfl
    (r_iconst k_85_22 rfl rfl
    (r_putI k_85_23 rfl po_85 rfl rfl (kdW hw)
    (r_aload_n k_85_26 rfl rfl
    (r_iconst k_85_27 rfl rfl
    (r_putZ k_85_28 rfl po_85 rfl rfl (kdW hw) (by decide)
    (r_iconst k_85_31 rfl rfl
    (r_istore_n k_85_32 rfl rfl rfl
    (Le.rfl')))))))))))))))))))
/-! ===== 86 HedgeWants.World.people ===== -/
theorem k_86_0 : cd 86 0 = some (.aload_n 0, 1) := by decide +kernel
theorem k_86_1 : cd 86 1 = some (.getfield 42, 3) := by decide +kernel
theorem k_86_4 : cd 86 4 = some (.ireturn, 1) := by decide +kernel
theorem po_86 : po 86 = 8 := rfl
theorem M_86 {w : Nat} (hw : isW w)  {σ : pS} {ρ : Nat → Nat → Option Nat} (e : gR σ = ρ) (hL : LayR ρ) : Le
  (some (1, .int (gI σ w 1), σ))
  (pcall 86 [.ref w] σ) := by
  show Le _ (den 86 0 0 [.ref w] [] σ)
  exact r_aload_n k_86_0 rfl rfl
    (r_getI k_86_1 rfl po_86 rfl rfl rfl (kdW hw)
    (r_ret k_86_4 rfl rfl))
/-! ===== 87 HedgeWants.World.things ===== -/
theorem k_87_0 : cd 87 0 = some (.aload_n 0, 1) := by decide +kernel
theorem k_87_1 : cd 87 1 = some (.getfield 48, 3) := by decide +kernel
theorem k_87_4 : cd 87 4 = some (.ireturn, 1) := by decide +kernel
theorem po_87 : po 87 = 8 := rfl
theorem M_87 {w : Nat} (hw : isW w)  {σ : pS} {ρ : Nat → Nat → Option Nat} (e : gR σ = ρ) (hL : LayR ρ) : Le
  (some (1, .int (gI σ w 2), σ))
  (pcall 87 [.ref w] σ) := by
  show Le _ (den 87 0 0 [.ref w] [] σ)
  exact r_aload_n k_87_0 rfl rfl
    (r_getI k_87_1 rfl po_87 rfl rfl rfl (kdW hw)
    (r_ret k_87_4 rfl rfl))
/-! ===== 88 HedgeWants.World.safeThings ===== -/
theorem k_88_0 : cd 88 0 = some (.iconst 0, 1) := by decide +kernel
theorem k_88_1 : cd 88 1 = some (.istore_n 1, 1) := by decide +kernel
theorem k_88_2 : cd 88 2 = some (.iconst 0, 1) := by decide +kernel
theorem k_88_3 : cd 88 3 = some (.istore_n 2, 1) := by decide +kernel
theorem k_88_4 : cd 88 4 = some (.iload_n 2, 1) := by decide +kernel
theorem k_88_5 : cd 88 5 = some (.aload_n 0, 1) := by decide +kernel
theorem k_88_6 : cd 88 6 = some (.getfield 48, 3) := by decide +kernel
theorem k_88_9 : cd 88 9 = some (.if_icmp .ge 27, 3) := by decide +kernel
theorem k_88_12 : cd 88 12 = some (.iload_n 1, 1) := by decide +kernel
theorem k_88_13 : cd 88 13 = some (.aload_n 0, 1) := by decide +kernel
theorem k_88_14 : cd 88 14 = some (.iload_n 2, 1) := by decide +kernel
theorem k_88_15 : cd 88 15 = some (.invokevirtual 133, 3) := by decide +kernel
theorem k_88_18 : cd 88 18 = some (.ifCond .ne 9, 3) := by decide +kernel
theorem k_88_21 : cd 88 21 = some (.iconst 1, 1) := by decide +kernel
theorem k_88_22 : cd 88 22 = some (.iload_n 2, 1) := by decide +kernel
theorem k_88_23 : cd 88 23 = some (.ishl, 1) := by decide +kernel
theorem k_88_24 : cd 88 24 = some (.goto 4, 3) := by decide +kernel
theorem k_88_27 : cd 88 27 = some (.iconst 0, 1) := by decide +kernel
theorem k_88_28 : cd 88 28 = some (.ior, 1) := by decide +kernel
theorem k_88_29 : cd 88 29 = some (.istore_n 1, 1) := by decide +kernel
theorem k_88_30 : cd 88 30 = some (.iinc 2 1, 3) := by decide +kernel
theorem k_88_33 : cd 88 33 = some (.goto (-29), 3) := by decide +kernel
theorem k_88_36 : cd 88 36 = some (.iload_n 1, 1) := by decide +kernel
theorem k_88_37 : cd 88 37 = some (.ireturn, 1) := by decide +kernel
theorem po_88 : po 88 = 8 := rfl
noncomputable def C_88_4 (w : Nat) (x1 : Int32) (x2 : Int32) (σ : pS) : Option pZ := den 88 0 4 [.ref w, .int x1, .int x2] [] σ
theorem T_88_4 {w : Nat} (hw : isW w) {x1 : Int32} {x2 : Int32}  {σ : pS} {ρ : Nat → Nat → Option Nat} (e : gR σ = ρ) (hL : LayR ρ) : Le
  (if (gI σ w 2) ≤ x2 then some (1, .int x1, σ) else bI (pcall 89 [.ref w, .int x2] σ) fun r1 σ1 => if ¬ r1 = (ι 0) then C_88_4 w (x1 ||| (ι 0)) (x2 + (ι 1)) σ1 else C_88_4 w (x1 ||| (shl' (ι 1) x2)) (x2 + (ι 1)) σ1)
  (C_88_4 w x1 x2 σ) := by
  unfold C_88_4
  exact r_iload_n k_88_4 rfl rfl
    (r_aload_n k_88_5 rfl rfl
    (r_getI k_88_6 rfl po_88 rfl rfl rfl (kdW hw)
    (r_icmp (tgt := 36) k_88_9 rfl rfl cop_ge
    (r_iload_n k_88_36 rfl rfl
    (r_ret k_88_37 rfl rfl))
    (r_iload_n k_88_12 rfl rfl
    (r_aload_n k_88_13 rfl rfl
    (r_iload_n k_88_14 rfl rfl
    (r_callI (q_virt (rest := [.int x1]) (as := [.int x2]) k_88_15 po_88 rfl rfl rfl (rcvO rfl rfl (kdW hw)) rfl rfl) (lvq (j := 0) rfl (by decide +kernel)) rfl rfl (fun r1 σ1 h1 => r_if (tgt := 27) k_88_18 rfl rfl cop_ne
    (r_iconst k_88_27 rfl rfl
    (r_ior k_88_28 rfl
    (r_istore_n k_88_29 rfl rfl rfl
    (r_iinc k_88_30 rfl rfl rfl rfl
    (r_goto (tgt := 4) k_88_33 rfl (Le.rfl'))))))
    (r_iconst k_88_21 rfl rfl
    (r_iload_n k_88_22 rfl rfl
    (r_ishl k_88_23 rfl
    (r_goto (tgt := 28) k_88_24 rfl (r_ior k_88_28 rfl
    (r_istore_n k_88_29 rfl rfl rfl
    (r_iinc k_88_30 rfl rfl rfl rfl
    (r_goto (tgt := 4) k_88_33 rfl (Le.rfl')))))))))))))))))
theorem M_88 {w : Nat} (hw : isW w)  {σ : pS} {ρ : Nat → Nat → Option Nat} (e : gR σ = ρ) (hL : LayR ρ) : Le
  (C_88_4 w (ι 0) (ι 0) σ)
  (pcall 88 [.ref w] σ) := by
  show Le _ (den 88 0 0 [.ref w, .retAddr 0, .retAddr 0] [] σ)
  exact r_iconst k_88_0 rfl rfl
    (r_istore_n k_88_1 rfl rfl rfl
    (r_iconst k_88_2 rfl rfl
    (r_istore_n k_88_3 rfl rfl rfl
    (Le.rfl'))))
/-! ===== 89 HedgeWants.World.wantersOf ===== -/
theorem k_89_0 : cd 89 0 = some (.iconst 0, 1) := by decide +kernel
theorem k_89_1 : cd 89 1 = some (.istore_n 2, 1) := by decide +kernel
theorem k_89_2 : cd 89 2 = some (.iconst 0, 1) := by decide +kernel
theorem k_89_3 : cd 89 3 = some (.istore_n 3, 1) := by decide +kernel
theorem k_89_4 : cd 89 4 = some (.iload_n 3, 1) := by decide +kernel
theorem k_89_5 : cd 89 5 = some (.aload_n 0, 1) := by decide +kernel
theorem k_89_6 : cd 89 6 = some (.getfield 42, 3) := by decide +kernel
theorem k_89_9 : cd 89 9 = some (.if_icmp .ge 28, 3) := by decide +kernel
theorem k_89_12 : cd 89 12 = some (.iload_n 2, 1) := by decide +kernel
theorem k_89_13 : cd 89 13 = some (.aload_n 0, 1) := by decide +kernel
theorem k_89_14 : cd 89 14 = some (.iload_n 1, 1) := by decide +kernel
theorem k_89_15 : cd 89 15 = some (.iload_n 3, 1) := by decide +kernel
theorem k_89_16 : cd 89 16 = some (.invokevirtual 130, 3) := by decide +kernel
theorem k_89_19 : cd 89 19 = some (.ifCond .eq 9, 3) := by decide +kernel
theorem k_89_22 : cd 89 22 = some (.iconst 1, 1) := by decide +kernel
theorem k_89_23 : cd 89 23 = some (.iload_n 3, 1) := by decide +kernel
theorem k_89_24 : cd 89 24 = some (.ishl, 1) := by decide +kernel
theorem k_89_25 : cd 89 25 = some (.goto 4, 3) := by decide +kernel
theorem k_89_28 : cd 89 28 = some (.iconst 0, 1) := by decide +kernel
theorem k_89_29 : cd 89 29 = some (.ior, 1) := by decide +kernel
theorem k_89_30 : cd 89 30 = some (.istore_n 2, 1) := by decide +kernel
theorem k_89_31 : cd 89 31 = some (.iinc 3 1, 3) := by decide +kernel
theorem k_89_34 : cd 89 34 = some (.goto (-30), 3) := by decide +kernel
theorem k_89_37 : cd 89 37 = some (.iload_n 2, 1) := by decide +kernel
theorem k_89_38 : cd 89 38 = some (.ireturn, 1) := by decide +kernel
theorem po_89 : po 89 = 8 := rfl
noncomputable def C_89_4 (w : Nat) (x1 : Int32) (x2 : Int32) (x3 : Int32) (σ : pS) : Option pZ := den 89 0 4 [.ref w, .int x1, .int x2, .int x3] [] σ
theorem T_89_4 {w : Nat} (hw : isW w) {x1 : Int32} {x2 : Int32} {x3 : Int32}  {σ : pS} {ρ : Nat → Nat → Option Nat} (e : gR σ = ρ) (hL : LayR ρ) : Le
  (if (gI σ w 1) ≤ x3 then some (1, .int x2, σ) else bI (pcall 77 [.ref w, .int x1, .int x3] σ) fun r1 σ1 => if r1 = (ι 0) then C_89_4 w x1 (x2 ||| (ι 0)) (x3 + (ι 1)) σ1 else C_89_4 w x1 (x2 ||| (shl' (ι 1) x3)) (x3 + (ι 1)) σ1)
  (C_89_4 w x1 x2 x3 σ) := by
  unfold C_89_4
  exact r_iload_n k_89_4 rfl rfl
    (r_aload_n k_89_5 rfl rfl
    (r_getI k_89_6 rfl po_89 rfl rfl rfl (kdW hw)
    (r_icmp (tgt := 37) k_89_9 rfl rfl cop_ge
    (r_iload_n k_89_37 rfl rfl
    (r_ret k_89_38 rfl rfl))
    (r_iload_n k_89_12 rfl rfl
    (r_aload_n k_89_13 rfl rfl
    (r_iload_n k_89_14 rfl rfl
    (r_iload_n k_89_15 rfl rfl
    (r_callI (q_virt (rest := [.int x2]) (as := [.int x1, .int x3]) k_89_16 po_89 rfl rfl rfl (rcvO rfl rfl (kdW hw)) rfl rfl) (lvq (j := 0) rfl (by decide +kernel)) rfl rfl (fun r1 σ1 h1 => r_if (tgt := 28) k_89_19 rfl rfl cop_eq
    (r_iconst k_89_28 rfl rfl
    (r_ior k_89_29 rfl
    (r_istore_n k_89_30 rfl rfl rfl
    (r_iinc k_89_31 rfl rfl rfl rfl
    (r_goto (tgt := 4) k_89_34 rfl (Le.rfl'))))))
    (r_iconst k_89_22 rfl rfl
    (r_iload_n k_89_23 rfl rfl
    (r_ishl k_89_24 rfl
    (r_goto (tgt := 29) k_89_25 rfl (r_ior k_89_29 rfl
    (r_istore_n k_89_30 rfl rfl rfl
    (r_iinc k_89_31 rfl rfl rfl rfl
    (r_goto (tgt := 4) k_89_34 rfl (Le.rfl'))))))))))))))))))
theorem M_89 {w : Nat} (hw : isW w) {x0 : Int32} {σ : pS} {ρ : Nat → Nat → Option Nat} (e : gR σ = ρ) (hL : LayR ρ) : Le
  (C_89_4 w x0 (ι 0) (ι 0) σ)
  (pcall 89 [.ref w, .int x0] σ) := by
  show Le _ (den 89 0 0 [.ref w, .int x0, .retAddr 0, .retAddr 0] [] σ)
  exact r_iconst k_89_0 rfl rfl
    (r_istore_n k_89_1 rfl rfl rfl
    (r_iconst k_89_2 rfl rfl
    (r_istore_n k_89_3 rfl rfl rfl
    (Le.rfl'))))
/-! ===== 90 HedgeWants.World.wealthOf ===== -/
theorem k_90_0 : cd 90 0 = some (.iconst 0, 1) := by decide +kernel
theorem k_90_1 : cd 90 1 = some (.istore_n 2, 1) := by decide +kernel
theorem k_90_2 : cd 90 2 = some (.iconst 0, 1) := by decide +kernel
theorem k_90_3 : cd 90 3 = some (.istore_n 3, 1) := by decide +kernel
theorem k_90_4 : cd 90 4 = some (.iload_n 3, 1) := by decide +kernel
theorem k_90_5 : cd 90 5 = some (.aload_n 0, 1) := by decide +kernel
theorem k_90_6 : cd 90 6 = some (.getfield 48, 3) := by decide +kernel
theorem k_90_9 : cd 90 9 = some (.if_icmp .ge 31, 3) := by decide +kernel
theorem k_90_12 : cd 90 12 = some (.iload_n 2, 1) := by decide +kernel
theorem k_90_13 : cd 90 13 = some (.aload_n 0, 1) := by decide +kernel
theorem k_90_14 : cd 90 14 = some (.iload_n 3, 1) := by decide +kernel
theorem k_90_15 : cd 90 15 = some (.invokevirtual 91, 3) := by decide +kernel
theorem k_90_18 : cd 90 18 = some (.iload_n 1, 1) := by decide +kernel
theorem k_90_19 : cd 90 19 = some (.if_icmp .ne 12, 3) := by decide +kernel
theorem k_90_22 : cd 90 22 = some (.aload_n 0, 1) := by decide +kernel
theorem k_90_23 : cd 90 23 = some (.iload_n 1, 1) := by decide +kernel
theorem k_90_24 : cd 90 24 = some (.iload_n 3, 1) := by decide +kernel
theorem k_90_25 : cd 90 25 = some (.invokevirtual 87, 3) := by decide +kernel
theorem k_90_28 : cd 90 28 = some (.goto 4, 3) := by decide +kernel
theorem k_90_31 : cd 90 31 = some (.iconst 0, 1) := by decide +kernel
theorem k_90_32 : cd 90 32 = some (.iadd, 1) := by decide +kernel
theorem k_90_33 : cd 90 33 = some (.istore_n 2, 1) := by decide +kernel
theorem k_90_34 : cd 90 34 = some (.iinc 3 1, 3) := by decide +kernel
theorem k_90_37 : cd 90 37 = some (.goto (-33), 3) := by decide +kernel
theorem k_90_40 : cd 90 40 = some (.iload_n 2, 1) := by decide +kernel
theorem k_90_41 : cd 90 41 = some (.ireturn, 1) := by decide +kernel
theorem po_90 : po 90 = 8 := rfl
noncomputable def C_90_4 (w : Nat) (x1 : Int32) (x2 : Int32) (x3 : Int32) (σ : pS) : Option pZ := den 90 0 4 [.ref w, .int x1, .int x2, .int x3] [] σ
theorem T_90_4 {w : Nat} (hw : isW w) {x1 : Int32} {x2 : Int32} {x3 : Int32}  {σ : pS} {ρ : Nat → Nat → Option Nat} (e : gR σ = ρ) (hL : LayR ρ) : Le
  (if (gI σ w 2) ≤ x3 then some (1, .int x2, σ) else bI (pcall 75 [.ref w, .int x3] σ) fun r1 σ1 => if ¬ r1 = x1 then C_90_4 w x1 (x2 + (ι 0)) (x3 + (ι 1)) σ1 else bI (pcall 74 [.ref w, .int x1, .int x3] σ1) fun r2 σ2 => C_90_4 w x1 (x2 + r2) (x3 + (ι 1)) σ2)
  (C_90_4 w x1 x2 x3 σ) := by
  unfold C_90_4
  exact r_iload_n k_90_4 rfl rfl
    (r_aload_n k_90_5 rfl rfl
    (r_getI k_90_6 rfl po_90 rfl rfl rfl (kdW hw)
    (r_icmp (tgt := 40) k_90_9 rfl rfl cop_ge
    (r_iload_n k_90_40 rfl rfl
    (r_ret k_90_41 rfl rfl))
    (r_iload_n k_90_12 rfl rfl
    (r_aload_n k_90_13 rfl rfl
    (r_iload_n k_90_14 rfl rfl
    (r_callI (q_virt (rest := [.int x2]) (as := [.int x3]) k_90_15 po_90 rfl rfl rfl (rcvO rfl rfl (kdW hw)) rfl rfl) (lvq (j := 0) rfl (by decide +kernel)) rfl rfl (fun r1 σ1 h1 => r_iload_n k_90_18 rfl rfl
    (r_icmp (tgt := 31) k_90_19 rfl rfl cop_ne
    (r_iconst k_90_31 rfl rfl
    (r_iadd k_90_32 rfl
    (r_istore_n k_90_33 rfl rfl rfl
    (r_iinc k_90_34 rfl rfl rfl rfl
    (r_goto (tgt := 4) k_90_37 rfl (Le.rfl'))))))
    (r_aload_n k_90_22 rfl rfl
    (r_iload_n k_90_23 rfl rfl
    (r_iload_n k_90_24 rfl rfl
    (r_callI (q_virt (rest := [.int x2]) (as := [.int x1, .int x3]) k_90_25 po_90 rfl rfl rfl (rcvO rfl rfl (kdW hw)) rfl rfl) (lvq (j := 0) rfl (by decide +kernel)) rfl rfl (fun r2 σ2 h2 => r_goto (tgt := 32) k_90_28 rfl (r_iadd k_90_32 rfl
    (r_istore_n k_90_33 rfl rfl rfl
    (r_iinc k_90_34 rfl rfl rfl rfl
    (r_goto (tgt := 4) k_90_37 rfl (Le.rfl')))))))))))))))))))
theorem M_90 {w : Nat} (hw : isW w) {x0 : Int32} {σ : pS} {ρ : Nat → Nat → Option Nat} (e : gR σ = ρ) (hL : LayR ρ) : Le
  (C_90_4 w x0 (ι 0) (ι 0) σ)
  (pcall 90 [.ref w, .int x0] σ) := by
  show Le _ (den 90 0 0 [.ref w, .int x0, .retAddr 0, .retAddr 0] [] σ)
  exact r_iconst k_90_0 rfl rfl
    (r_istore_n k_90_1 rfl rfl rfl
    (r_iconst k_90_2 rfl rfl
    (r_istore_n k_90_3 rfl rfl rfl
    (Le.rfl'))))
/-! ===== 91 HedgeWants.World.areNeighbours ===== -/
theorem k_91_0 : cd 91 0 = some (.aload_n 0, 1) := by decide +kernel
theorem k_91_1 : cd 91 1 = some (.iload_n 1, 1) := by decide +kernel
theorem k_91_2 : cd 91 2 = some (.invokevirtual 80, 3) := by decide +kernel
theorem k_91_5 : cd 91 5 = some (.iload_n 2, 1) := by decide +kernel
theorem k_91_6 : cd 91 6 = some (.invokestatic 83, 3) := by decide +kernel
theorem k_91_9 : cd 91 9 = some (.ireturn, 1) := by decide +kernel
theorem po_91 : po 91 = 8 := rfl
theorem M_91 {w : Nat} (hw : isW w) {x0 : Int32} {x1 : Int32} {σ : pS} {ρ : Nat → Nat → Option Nat} (e : gR σ = ρ) (hL : LayR ρ) : Le
  (bI (pcall 78 [.ref w, .int x0] σ) fun r1 σ1 => bI (pcall 168 [.int r1, .int x1] σ1) fun r2 σ2 => gd (narrow .boolean (.int r2) = .int r2) (some (1, .int r2, σ2)))
  (pcall 91 [.ref w, .int x0, .int x1] σ) := by
  show Le _ (den 91 0 0 [.ref w, .int x0, .int x1] [] σ)
  exact r_aload_n k_91_0 rfl rfl
    (r_iload_n k_91_1 rfl rfl
    (r_callI (q_virt (rest := []) (as := [.int x0]) k_91_2 po_91 rfl rfl rfl (rcvO rfl rfl (kdW hw)) rfl rfl) (lvq (j := 0) rfl (by decide +kernel)) rfl rfl (fun r1 σ1 h1 => r_iload_n k_91_5 rfl rfl
    (r_callI (q_stat (rest := []) (av := [.int r1, .int x1]) k_91_6 po_91 rfl (by decide) rfl rfl rfl rfl) (lvq (j := 0) rfl (by decide +kernel)) rfl rfl (fun r2 σ2 h2 => r_gd fun g => r_ret k_91_9 rfl g)))))
/-! ===== 92 HedgeWants.World.allRun ===== -/
theorem k_92_0 : cd 92 0 = some (.iconst 0, 1) := by decide +kernel
theorem k_92_1 : cd 92 1 = some (.istore_n 1, 1) := by decide +kernel
theorem k_92_2 : cd 92 2 = some (.iconst 0, 1) := by decide +kernel
theorem k_92_3 : cd 92 3 = some (.istore_n 2, 1) := by decide +kernel
theorem k_92_4 : cd 92 4 = some (.iload_n 2, 1) := by decide +kernel
theorem k_92_5 : cd 92 5 = some (.aload_n 0, 1) := by decide +kernel
theorem k_92_6 : cd 92 6 = some (.getfield 48, 3) := by decide +kernel
theorem k_92_9 : cd 92 9 = some (.if_icmp .ge 17, 3) := by decide +kernel
theorem k_92_12 : cd 92 12 = some (.iload_n 1, 1) := by decide +kernel
theorem k_92_13 : cd 92 13 = some (.aload_n 0, 1) := by decide +kernel
theorem k_92_14 : cd 92 14 = some (.iload_n 2, 1) := by decide +kernel
theorem k_92_15 : cd 92 15 = some (.invokevirtual 94, 3) := by decide +kernel
theorem k_92_18 : cd 92 18 = some (.iadd, 1) := by decide +kernel
theorem k_92_19 : cd 92 19 = some (.istore_n 1, 1) := by decide +kernel
theorem k_92_20 : cd 92 20 = some (.iinc 2 1, 3) := by decide +kernel
theorem k_92_23 : cd 92 23 = some (.goto (-19), 3) := by decide +kernel
theorem k_92_26 : cd 92 26 = some (.iload_n 1, 1) := by decide +kernel
theorem k_92_27 : cd 92 27 = some (.ireturn, 1) := by decide +kernel
theorem po_92 : po 92 = 8 := rfl
noncomputable def C_92_4 (w : Nat) (x1 : Int32) (x2 : Int32) (σ : pS) : Option pZ := den 92 0 4 [.ref w, .int x1, .int x2] [] σ
theorem T_92_4 {w : Nat} (hw : isW w) {x1 : Int32} {x2 : Int32}  {σ : pS} {ρ : Nat → Nat → Option Nat} (e : gR σ = ρ) (hL : LayR ρ) : Le
  (if (gI σ w 2) ≤ x2 then some (1, .int x1, σ) else bI (pcall 76 [.ref w, .int x2] σ) fun r1 σ1 => C_92_4 w (x1 + r1) (x2 + (ι 1)) σ1)
  (C_92_4 w x1 x2 σ) := by
  unfold C_92_4
  exact r_iload_n k_92_4 rfl rfl
    (r_aload_n k_92_5 rfl rfl
    (r_getI k_92_6 rfl po_92 rfl rfl rfl (kdW hw)
    (r_icmp (tgt := 26) k_92_9 rfl rfl cop_ge
    (r_iload_n k_92_26 rfl rfl
    (r_ret k_92_27 rfl rfl))
    (r_iload_n k_92_12 rfl rfl
    (r_aload_n k_92_13 rfl rfl
    (r_iload_n k_92_14 rfl rfl
    (r_callI (q_virt (rest := [.int x1]) (as := [.int x2]) k_92_15 po_92 rfl rfl rfl (rcvO rfl rfl (kdW hw)) rfl rfl) (lvq (j := 0) rfl (by decide +kernel)) rfl rfl (fun r1 σ1 h1 => r_iadd k_92_18 rfl
    (r_istore_n k_92_19 rfl rfl rfl
    (r_iinc k_92_20 rfl rfl rfl rfl
    (r_goto (tgt := 4) k_92_23 rfl (Le.rfl'))))))))))))
theorem M_92 {w : Nat} (hw : isW w)  {σ : pS} {ρ : Nat → Nat → Option Nat} (e : gR σ = ρ) (hL : LayR ρ) : Le
  (C_92_4 w (ι 0) (ι 0) σ)
  (pcall 92 [.ref w] σ) := by
  show Le _ (den 92 0 0 [.ref w, .retAddr 0, .retAddr 0] [] σ)
  exact r_iconst k_92_0 rfl rfl
    (r_istore_n k_92_1 rfl rfl rfl
    (r_iconst k_92_2 rfl rfl
    (r_istore_n k_92_3 rfl rfl rfl
    (Le.rfl'))))
/-! ===== 93 HedgeWants.World.thingsOf ===== -/
theorem k_93_0 : cd 93 0 = some (.iconst 0, 1) := by decide +kernel
theorem k_93_1 : cd 93 1 = some (.istore_n 2, 1) := by decide +kernel
theorem k_93_2 : cd 93 2 = some (.iconst 0, 1) := by decide +kernel
theorem k_93_3 : cd 93 3 = some (.istore_n 3, 1) := by decide +kernel
theorem k_93_4 : cd 93 4 = some (.iload_n 3, 1) := by decide +kernel
theorem k_93_5 : cd 93 5 = some (.aload_n 0, 1) := by decide +kernel
theorem k_93_6 : cd 93 6 = some (.getfield 48, 3) := by decide +kernel
theorem k_93_9 : cd 93 9 = some (.if_icmp .ge 28, 3) := by decide +kernel
theorem k_93_12 : cd 93 12 = some (.iload_n 2, 1) := by decide +kernel
theorem k_93_13 : cd 93 13 = some (.aload_n 0, 1) := by decide +kernel
theorem k_93_14 : cd 93 14 = some (.iload_n 3, 1) := by decide +kernel
theorem k_93_15 : cd 93 15 = some (.invokevirtual 91, 3) := by decide +kernel
theorem k_93_18 : cd 93 18 = some (.iload_n 1, 1) := by decide +kernel
theorem k_93_19 : cd 93 19 = some (.if_icmp .ne 9, 3) := by decide +kernel
theorem k_93_22 : cd 93 22 = some (.iconst 1, 1) := by decide +kernel
theorem k_93_23 : cd 93 23 = some (.iload_n 3, 1) := by decide +kernel
theorem k_93_24 : cd 93 24 = some (.ishl, 1) := by decide +kernel
theorem k_93_25 : cd 93 25 = some (.goto 4, 3) := by decide +kernel
theorem k_93_28 : cd 93 28 = some (.iconst 0, 1) := by decide +kernel
theorem k_93_29 : cd 93 29 = some (.ior, 1) := by decide +kernel
theorem k_93_30 : cd 93 30 = some (.istore_n 2, 1) := by decide +kernel
theorem k_93_31 : cd 93 31 = some (.iinc 3 1, 3) := by decide +kernel
theorem k_93_34 : cd 93 34 = some (.goto (-30), 3) := by decide +kernel
theorem k_93_37 : cd 93 37 = some (.iload_n 2, 1) := by decide +kernel
theorem k_93_38 : cd 93 38 = some (.ireturn, 1) := by decide +kernel
theorem po_93 : po 93 = 8 := rfl
noncomputable def C_93_4 (w : Nat) (x1 : Int32) (x2 : Int32) (x3 : Int32) (σ : pS) : Option pZ := den 93 0 4 [.ref w, .int x1, .int x2, .int x3] [] σ
theorem T_93_4 {w : Nat} (hw : isW w) {x1 : Int32} {x2 : Int32} {x3 : Int32}  {σ : pS} {ρ : Nat → Nat → Option Nat} (e : gR σ = ρ) (hL : LayR ρ) : Le
  (if (gI σ w 2) ≤ x3 then some (1, .int x2, σ) else bI (pcall 75 [.ref w, .int x3] σ) fun r1 σ1 => if ¬ r1 = x1 then C_93_4 w x1 (x2 ||| (ι 0)) (x3 + (ι 1)) σ1 else C_93_4 w x1 (x2 ||| (shl' (ι 1) x3)) (x3 + (ι 1)) σ1)
  (C_93_4 w x1 x2 x3 σ) := by
  unfold C_93_4
  exact r_iload_n k_93_4 rfl rfl
    (r_aload_n k_93_5 rfl rfl
    (r_getI k_93_6 rfl po_93 rfl rfl rfl (kdW hw)
    (r_icmp (tgt := 37) k_93_9 rfl rfl cop_ge
    (r_iload_n k_93_37 rfl rfl
    (r_ret k_93_38 rfl rfl))
    (r_iload_n k_93_12 rfl rfl
    (r_aload_n k_93_13 rfl rfl
    (r_iload_n k_93_14 rfl rfl
    (r_callI (q_virt (rest := [.int x2]) (as := [.int x3]) k_93_15 po_93 rfl rfl rfl (rcvO rfl rfl (kdW hw)) rfl rfl) (lvq (j := 0) rfl (by decide +kernel)) rfl rfl (fun r1 σ1 h1 => r_iload_n k_93_18 rfl rfl
    (r_icmp (tgt := 28) k_93_19 rfl rfl cop_ne
    (r_iconst k_93_28 rfl rfl
    (r_ior k_93_29 rfl
    (r_istore_n k_93_30 rfl rfl rfl
    (r_iinc k_93_31 rfl rfl rfl rfl
    (r_goto (tgt := 4) k_93_34 rfl (Le.rfl'))))))
    (r_iconst k_93_22 rfl rfl
    (r_iload_n k_93_23 rfl rfl
    (r_ishl k_93_24 rfl
    (r_goto (tgt := 29) k_93_25 rfl (r_ior k_93_29 rfl
    (r_istore_n k_93_30 rfl rfl rfl
    (r_iinc k_93_31 rfl rfl rfl rfl
    (r_goto (tgt := 4) k_93_34 rfl (Le.rfl'))))))))))))))))))
theorem M_93 {w : Nat} (hw : isW w) {x0 : Int32} {σ : pS} {ρ : Nat → Nat → Option Nat} (e : gR σ = ρ) (hL : LayR ρ) : Le
  (C_93_4 w x0 (ι 0) (ι 0) σ)
  (pcall 93 [.ref w, .int x0] σ) := by
  show Le _ (den 93 0 0 [.ref w, .int x0, .retAddr 0, .retAddr 0] [] σ)
  exact r_iconst k_93_0 rfl rfl
    (r_istore_n k_93_1 rfl rfl rfl
    (r_iconst k_93_2 rfl rfl
    (r_istore_n k_93_3 rfl rfl rfl
    (Le.rfl'))))
/-! ===== 94 HedgeWants.World.wishesOf ===== -/
theorem k_94_0 : cd 94 0 = some (.iconst 0, 1) := by decide +kernel
theorem k_94_1 : cd 94 1 = some (.istore_n 2, 1) := by decide +kernel
theorem k_94_2 : cd 94 2 = some (.iconst 0, 1) := by decide +kernel
theorem k_94_3 : cd 94 3 = some (.istore_n 3, 1) := by decide +kernel
theorem k_94_4 : cd 94 4 = some (.iload_n 3, 1) := by decide +kernel
theorem k_94_5 : cd 94 5 = some (.aload_n 0, 1) := by decide +kernel
theorem k_94_6 : cd 94 6 = some (.getfield 48, 3) := by decide +kernel
theorem k_94_9 : cd 94 9 = some (.if_icmp .ge 28, 3) := by decide +kernel
theorem k_94_12 : cd 94 12 = some (.iload_n 2, 1) := by decide +kernel
theorem k_94_13 : cd 94 13 = some (.aload_n 0, 1) := by decide +kernel
theorem k_94_14 : cd 94 14 = some (.iload_n 3, 1) := by decide +kernel
theorem k_94_15 : cd 94 15 = some (.iload_n 1, 1) := by decide +kernel
theorem k_94_16 : cd 94 16 = some (.invokevirtual 130, 3) := by decide +kernel
theorem k_94_19 : cd 94 19 = some (.ifCond .eq 9, 3) := by decide +kernel
theorem k_94_22 : cd 94 22 = some (.iconst 1, 1) := by decide +kernel
theorem k_94_23 : cd 94 23 = some (.iload_n 3, 1) := by decide +kernel
theorem k_94_24 : cd 94 24 = some (.ishl, 1) := by decide +kernel
theorem k_94_25 : cd 94 25 = some (.goto 4, 3) := by decide +kernel
theorem k_94_28 : cd 94 28 = some (.iconst 0, 1) := by decide +kernel
theorem k_94_29 : cd 94 29 = some (.ior, 1) := by decide +kernel
theorem k_94_30 : cd 94 30 = some (.istore_n 2, 1) := by decide +kernel
theorem k_94_31 : cd 94 31 = some (.iinc 3 1, 3) := by decide +kernel
theorem k_94_34 : cd 94 34 = some (.goto (-30), 3) := by decide +kernel
theorem k_94_37 : cd 94 37 = some (.iload_n 2, 1) := by decide +kernel
theorem k_94_38 : cd 94 38 = some (.ireturn, 1) := by decide +kernel
theorem po_94 : po 94 = 8 := rfl
noncomputable def C_94_4 (w : Nat) (x1 : Int32) (x2 : Int32) (x3 : Int32) (σ : pS) : Option pZ := den 94 0 4 [.ref w, .int x1, .int x2, .int x3] [] σ
theorem T_94_4 {w : Nat} (hw : isW w) {x1 : Int32} {x2 : Int32} {x3 : Int32}  {σ : pS} {ρ : Nat → Nat → Option Nat} (e : gR σ = ρ) (hL : LayR ρ) : Le
  (if (gI σ w 2) ≤ x3 then some (1, .int x2, σ) else bI (pcall 77 [.ref w, .int x3, .int x1] σ) fun r1 σ1 => if r1 = (ι 0) then C_94_4 w x1 (x2 ||| (ι 0)) (x3 + (ι 1)) σ1 else C_94_4 w x1 (x2 ||| (shl' (ι 1) x3)) (x3 + (ι 1)) σ1)
  (C_94_4 w x1 x2 x3 σ) := by
  unfold C_94_4
  exact r_iload_n k_94_4 rfl rfl
    (r_aload_n k_94_5 rfl rfl
    (r_getI k_94_6 rfl po_94 rfl rfl rfl (kdW hw)
    (r_icmp (tgt := 37) k_94_9 rfl rfl cop_ge
    (r_iload_n k_94_37 rfl rfl
    (r_ret k_94_38 rfl rfl))
    (r_iload_n k_94_12 rfl rfl
    (r_aload_n k_94_13 rfl rfl
    (r_iload_n k_94_14 rfl rfl
    (r_iload_n k_94_15 rfl rfl
    (r_callI (q_virt (rest := [.int x2]) (as := [.int x3, .int x1]) k_94_16 po_94 rfl rfl rfl (rcvO rfl rfl (kdW hw)) rfl rfl) (lvq (j := 0) rfl (by decide +kernel)) rfl rfl (fun r1 σ1 h1 => r_if (tgt := 28) k_94_19 rfl rfl cop_eq
    (r_iconst k_94_28 rfl rfl
    (r_ior k_94_29 rfl
    (r_istore_n k_94_30 rfl rfl rfl
    (r_iinc k_94_31 rfl rfl rfl rfl
    (r_goto (tgt := 4) k_94_34 rfl (Le.rfl'))))))
    (r_iconst k_94_22 rfl rfl
    (r_iload_n k_94_23 rfl rfl
    (r_ishl k_94_24 rfl
    (r_goto (tgt := 29) k_94_25 rfl (r_ior k_94_29 rfl
    (r_istore_n k_94_30 rfl rfl rfl
    (r_iinc k_94_31 rfl rfl rfl rfl
    (r_goto (tgt := 4) k_94_34 rfl (Le.rfl'))))))))))))))))))
theorem M_94 {w : Nat} (hw : isW w) {x0 : Int32} {σ : pS} {ρ : Nat → Nat → Option Nat} (e : gR σ = ρ) (hL : LayR ρ) : Le
  (C_94_4 w x0 (ι 0) (ι 0) σ)
  (pcall 94 [.ref w, .int x0] σ) := by
  show Le _ (den 94 0 0 [.ref w, .int x0, .retAddr 0, .retAddr 0] [] σ)
  exact r_iconst k_94_0 rfl rfl
    (r_istore_n k_94_1 rfl rfl rfl
    (r_iconst k_94_2 rfl rfl
    (r_istore_n k_94_3 rfl rfl rfl
    (Le.rfl'))))
/-! ===== 95 HedgeWants.World.setWorth ===== -/
theorem k_95_0 : cd 95 0 = some (.iload_n 1, 1) := by decide +kernel
theorem k_95_1 : cd 95 1 = some (.bipush 12, 2) := by decide +kernel
theorem k_95_3 : cd 95 3 = some (.imul, 1) := by decide +kernel
theorem k_95_4 : cd 95 4 = some (.iload_n 2, 1) := by decide +kernel
theorem k_95_5 : cd 95 5 = some (.iadd, 1) := by decide +kernel
theorem k_95_6 : cd 95 6 = some (.istore 4, 2) := by decide +kernel
theorem k_95_8 : cd 95 8 = some (.iload 4, 2) := by decide +kernel
theorem k_95_10 : cd 95 10 = some (.ifCond .lt 26, 3) := by decide +kernel
theorem k_95_13 : cd 95 13 = some (.iload 4, 2) := by decide +kernel
theorem k_95_15 : cd 95 15 = some (.aload_n 0, 1) := by decide +kernel
theorem k_95_16 : cd 95 16 = some (.getfield 21, 3) := by decide +kernel
theorem k_95_19 : cd 95 19 = some (.arraylength, 1) := by decide +kernel
theorem k_95_20 : cd 95 20 = some (.if_icmp .ge 16, 3) := by decide +kernel
theorem k_95_23 : cd 95 23 = some (.aload_n 0, 1) := by decide +kernel
theorem k_95_24 : cd 95 24 = some (.getfield 21, 3) := by decide +kernel
theorem k_95_27 : cd 95 27 = some (.iload 4, 2) := by decide +kernel
theorem k_95_29 : cd 95 29 = some (.iload_n 3, 1) := by decide +kernel
theorem k_95_30 : cd 95 30 = some (.iastore, 1) := by decide +kernel
theorem k_95_31 : cd 95 31 = some (.aload_n 0, 1) := by decide +kernel
theorem k_95_32 : cd 95 32 = some (.iconst 0, 1) := by decide +kernel
theorem k_95_33 : cd 95 33 = some (.putfield 53, 3) := by decide +kernel
theorem k_95_36 : cd 95 36 = some (.return_, 1) := by decide +kernel
theorem po_95 : po 95 = 8 := rfl
theorem M_95 {w : Nat} (hw : isW w) {x0 : Int32} {x1 : Int32} {x2 : Int32} {σ : pS} {ρ : Nat → Nat → Option Nat} (e : gR σ = ρ) (hL : LayR ρ) : Le
  (if ((x0 * (ι 12)) + x1) < (ι 0) then some (0, .null, σ) else if (ι 96) ≤ ((x0 * (ι 12)) + x1) then some (0, .null, σ) else gd (inb ((x0 * (ι 12)) + x1) 96) (some (0, .null, (sI (sI σ (w + 4) (ix ((x0 * (ι 12)) + x1)) x2) w 11 (ι 0)))))
  (pcall 95 [.ref w, .int x0, .int x1, .int x2] σ) := by
  show Le _ (den 95 0 0 [.ref w, .int x0, .int x1, .int x2, .retAddr 0] [] σ)
  exact r_iload_n k_95_0 rfl rfl
    (r_bipush k_95_1 rfl rfl
    (r_imul k_95_3 rfl
    (r_iload_n k_95_4 rfl rfl
    (r_iadd k_95_5 rfl
    (r_istore k_95_6 rfl rfl rfl
    (r_iload k_95_8 rfl rfl
    (r_if (tgt := 36) k_95_10 rfl rfl cop_lt
    (r_retV k_95_36 rfl)
    (r_iload k_95_13 rfl rfl
    (r_aload_n k_95_15 rfl rfl
    (r_getR k_95_16 rfl po_95 rfl rfl rfl (kdW hw) (gRat e (lyW_7 hL hw))
    (r_alenI k_95_19 rfl (kdW_4 hw) rfl
    (r_icmp (tgt := 36) k_95_20 rfl rfl cop_ge
    (r_retV k_95_36 rfl)
    (r_aload_n k_95_23 rfl rfl
    (r_getR k_95_24 rfl po_95 rfl rfl rfl (kdW hw) (gRat e (lyW_7 hL hw))
    (r_iload k_95_27 rfl rfl
    (r_iload_n k_95_29 rfl rfl
    (r_gd fun g => r_iast k_95_30 rfl (kdW_4 hw) g
    (r_aload_n k_95_31 rfl rfl
    (r_iconst k_95_32 rfl rfl
    (r_putZ k_95_33 rfl po_95 rfl rfl (kdW hw) (by decide)
    (r_retV k_95_36 rfl)))))))))))))))))))))
/-! ===== 96 HedgeWants.World.setHedge ===== -/
theorem k_96_0 : cd 96 0 = some (.iload_n 1, 1) := by decide +kernel
theorem k_96_1 : cd 96 1 = some (.ifCond .lt 100, 3) := by decide +kernel
theorem k_96_4 : cd 96 4 = some (.iload_n 1, 1) := by decide +kernel
theorem k_96_5 : cd 96 5 = some (.aload_n 0, 1) := by decide +kernel
theorem k_96_6 : cd 96 6 = some (.getfield 18, 3) := by decide +kernel
theorem k_96_9 : cd 96 9 = some (.arraylength, 1) := by decide +kernel
theorem k_96_10 : cd 96 10 = some (.if_icmp .ge 91, 3) := by decide +kernel
theorem k_96_13 : cd 96 13 = some (.iload_n 2, 1) := by decide +kernel
theorem k_96_14 : cd 96 14 = some (.ifCond .lt 87, 3) := by decide +kernel
theorem k_96_17 : cd 96 17 = some (.iload_n 2, 1) := by decide +kernel
theorem k_96_18 : cd 96 18 = some (.aload_n 0, 1) := by decide +kernel
theorem k_96_19 : cd 96 19 = some (.getfield 18, 3) := by decide +kernel
theorem k_96_22 : cd 96 22 = some (.arraylength, 1) := by decide +kernel
theorem k_96_23 : cd 96 23 = some (.if_icmp .ge 78, 3) := by decide +kernel
theorem k_96_26 : cd 96 26 = some (.aload_n 0, 1) := by decide +kernel
theorem k_96_27 : cd 96 27 = some (.getfield 18, 3) := by decide +kernel
theorem k_96_30 : cd 96 30 = some (.iload_n 1, 1) := by decide +kernel
theorem k_96_31 : cd 96 31 = some (.iload_n 3, 1) := by decide +kernel
theorem k_96_32 : cd 96 32 = some (.ifCond .eq 16, 3) := by decide +kernel
theorem k_96_35 : cd 96 35 = some (.aload_n 0, 1) := by decide +kernel
theorem k_96_36 : cd 96 36 = some (.getfield 18, 3) := by decide +kernel
theorem k_96_39 : cd 96 39 = some (.iload_n 1, 1) := by decide +kernel
theorem k_96_40 : cd 96 40 = some (.iaload, 1) := by decide +kernel
theorem k_96_41 : cd 96 41 = some (.iconst 1, 1) := by decide +kernel
theorem k_96_42 : cd 96 42 = some (.iload_n 2, 1) := by decide +kernel
theorem k_96_43 : cd 96 43 = some (.ishl, 1) := by decide +kernel
theorem k_96_44 : cd 96 44 = some (.ior, 1) := by decide +kernel
theorem k_96_45 : cd 96 45 = some (.goto 15, 3) := by decide +kernel
theorem k_96_48 : cd 96 48 = some (.aload_n 0, 1) := by decide +kernel
theorem k_96_49 : cd 96 49 = some (.getfield 18, 3) := by decide +kernel
theorem k_96_52 : cd 96 52 = some (.iload_n 1, 1) := by decide +kernel
theorem k_96_53 : cd 96 53 = some (.iaload, 1) := by decide +kernel
theorem k_96_54 : cd 96 54 = some (.iconst 1, 1) := by decide +kernel
theorem k_96_55 : cd 96 55 = some (.iload_n 2, 1) := by decide +kernel
theorem k_96_56 : cd 96 56 = some (.ishl, 1) := by decide +kernel
theorem k_96_57 : cd 96 57 = some (.iconst (-1), 1) := by decide +kernel
theorem k_96_58 : cd 96 58 = some (.ixor, 1) := by decide +kernel
theorem k_96_59 : cd 96 59 = some (.iand, 1) := by decide +kernel
theorem k_96_60 : cd 96 60 = some (.iastore, 1) := by decide +kernel
theorem k_96_61 : cd 96 61 = some (.aload_n 0, 1) := by decide +kernel
theorem k_96_62 : cd 96 62 = some (.getfield 18, 3) := by decide +kernel
theorem k_96_65 : cd 96 65 = some (.iload_n 2, 1) := by decide +kernel
theorem k_96_66 : cd 96 66 = some (.iload_n 3, 1) := by decide +kernel
theorem k_96_67 : cd 96 67 = some (.ifCond .eq 16, 3) := by decide +kernel
theorem k_96_70 : cd 96 70 = some (.aload_n 0, 1) := by decide +kernel
theorem k_96_71 : cd 96 71 = some (.getfield 18, 3) := by decide +kernel
theorem k_96_74 : cd 96 74 = some (.iload_n 2, 1) := by decide +kernel
theorem k_96_75 : cd 96 75 = some (.iaload, 1) := by decide +kernel
theorem k_96_76 : cd 96 76 = some (.iconst 1, 1) := by decide +kernel
theorem k_96_77 : cd 96 77 = some (.iload_n 1, 1) := by decide +kernel
theorem k_96_78 : cd 96 78 = some (.ishl, 1) := by decide +kernel
theorem k_96_79 : cd 96 79 = some (.ior, 1) := by decide +kernel
theorem k_96_80 : cd 96 80 = some (.goto 15, 3) := by decide +kernel
theorem k_96_83 : cd 96 83 = some (.aload_n 0, 1) := by decide +kernel
theorem k_96_84 : cd 96 84 = some (.getfield 18, 3) := by decide +kernel
theorem k_96_87 : cd 96 87 = some (.iload_n 2, 1) := by decide +kernel
theorem k_96_88 : cd 96 88 = some (.iaload, 1) := by decide +kernel
theorem k_96_89 : cd 96 89 = some (.iconst 1, 1) := by decide +kernel
theorem k_96_90 : cd 96 90 = some (.iload_n 1, 1) := by decide +kernel
theorem k_96_91 : cd 96 91 = some (.ishl, 1) := by decide +kernel
theorem k_96_92 : cd 96 92 = some (.iconst (-1), 1) := by decide +kernel
theorem k_96_93 : cd 96 93 = some (.ixor, 1) := by decide +kernel
theorem k_96_94 : cd 96 94 = some (.iand, 1) := by decide +kernel
theorem k_96_95 : cd 96 95 = some (.iastore, 1) := by decide +kernel
theorem k_96_96 : cd 96 96 = some (.aload_n 0, 1) := by decide +kernel
theorem k_96_97 : cd 96 97 = some (.iconst 0, 1) := by decide +kernel
theorem k_96_98 : cd 96 98 = some (.putfield 53, 3) := by decide +kernel
theorem k_96_101 : cd 96 101 = some (.return_, 1) := by decide +kernel
theorem po_96 : po 96 = 8 := rfl
noncomputable def C_96_60 (w : Nat) (x1 : Int32) (x2 : Int32) (x3 : Int32) (s1 : Int32) (s2 : Int32) (σ : pS) : Option pZ := den 96 0 60 [.ref w, .int x1, .int x2, .int x3] [.int s2, .int s1, .ref (w + 3)] σ
theorem T_96_60 {w : Nat} (hw : isW w) {x1 : Int32} {x2 : Int32} {x3 : Int32} {s1 : Int32} {s2 : Int32}  {σ : pS} {ρ : Nat → Nat → Option Nat} (e : gR σ = ρ) (hL : LayR ρ) : Le
  (gd (inb s1 8) (if x3 = (ι 0) then gd (inb x2 8) (gd (inb x2 8) (some (0, .null, (sI (sI (sI σ (w + 3) (ix s1) s2) (w + 3) (ix x2) ((gI (sI σ (w + 3) (ix s1) s2) (w + 3) (ix x2)) &&& ((shl' (ι 1) x1) ^^^ (ν 1)))) w 11 (ι 0))))) else gd (inb x2 8) (gd (inb x2 8) (some (0, .null, (sI (sI (sI σ (w + 3) (ix s1) s2) (w + 3) (ix x2) ((gI (sI σ (w + 3) (ix s1) s2) (w + 3) (ix x2)) ||| (shl' (ι 1) x1))) w 11 (ι 0)))))))
  (C_96_60 w x1 x2 x3 s1 s2 σ) := by
  unfold C_96_60
  exact r_gd fun g => r_iast k_96_60 rfl (kdW_3 hw) g
    (r_aload_n k_96_61 rfl rfl
    (r_getR k_96_62 rfl po_96 rfl rfl rfl (kdW hw) (gRat (eI e) (lyW_6 hL hw))
    (r_iload_n k_96_65 rfl rfl
    (r_iload_n k_96_66 rfl rfl
    (r_if (tgt := 83) k_96_67 rfl rfl cop_eq
    (r_aload_n k_96_83 rfl rfl
    (r_getR k_96_84 rfl po_96 rfl rfl rfl (kdW hw) (gRat (eI e) (lyW_6 hL hw))
    (r_iload_n k_96_87 rfl rfl
    (r_gd fun g => r_iald k_96_88 rfl (kdW_3 hw) g
    (r_iconst k_96_89 rfl rfl
    (r_iload_n k_96_90 rfl rfl
    (r_ishl k_96_91 rfl
    (r_iconst k_96_92 rfl rfl
    (r_ixor k_96_93 rfl
    (r_iand k_96_94 rfl
    (r_gd fun g => r_iast k_96_95 rfl (kdW_3 hw) g
    (r_aload_n k_96_96 rfl rfl
    (r_iconst k_96_97 rfl rfl
    (r_putZ k_96_98 rfl po_96 rfl rfl (kdW hw) (by decide)
    (r_retV k_96_101 rfl)))))))))))))))
    (r_aload_n k_96_70 rfl rfl
    (r_getR k_96_71 rfl po_96 rfl rfl rfl (kdW hw) (gRat (eI e) (lyW_6 hL hw))
    (r_iload_n k_96_74 rfl rfl
    (r_gd fun g => r_iald k_96_75 rfl (kdW_3 hw) g
    (r_iconst k_96_76 rfl rfl
    (r_iload_n k_96_77 rfl rfl
    (r_ishl k_96_78 rfl
    (r_ior k_96_79 rfl
    (r_goto (tgt := 95) k_96_80 rfl (r_gd fun g => r_iast k_96_95 rfl (kdW_3 hw) g
    (r_aload_n k_96_96 rfl rfl
    (r_iconst k_96_97 rfl rfl
    (r_putZ k_96_98 rfl po_96 rfl rfl (kdW hw) (by decide)
    (r_retV k_96_101 rfl)))))))))))))))))))
theorem M_96 {w : Nat} (hw : isW w) {x0 : Int32} {x1 : Int32} {x2 : Int32} {σ : pS} {ρ : Nat → Nat → Option Nat} (e : gR σ = ρ) (hL : LayR ρ) : Le
  (if x0 < (ι 0) then some (0, .null, σ) else if (ι 8) ≤ x0 then some (0, .null, σ) else if x1 < (ι 0) then some (0, .null, σ) else if (ι 8) ≤ x1 then some (0, .null, σ) else if x2 = (ι 0) then gd (inb x0 8) (C_96_60 w x0 x1 x2 x0 ((gI σ (w + 3) (ix x0)) &&& ((shl' (ι 1) x1) ^^^ (ν 1))) σ) else gd (inb x0 8) (C_96_60 w x0 x1 x2 x0 ((gI σ (w + 3) (ix x0)) ||| (shl' (ι 1) x1)) σ))
  (pcall 96 [.ref w, .int x0, .int x1, .int x2] σ) := by
  show Le _ (den 96 0 0 [.ref w, .int x0, .int x1, .int x2] [] σ)
  exact r_iload_n k_96_0 rfl rfl
    (r_if (tgt := 101) k_96_1 rfl rfl cop_lt
    (r_retV k_96_101 rfl)
    (r_iload_n k_96_4 rfl rfl
    (r_aload_n k_96_5 rfl rfl
    (r_getR k_96_6 rfl po_96 rfl rfl rfl (kdW hw) (gRat e (lyW_6 hL hw))
    (r_alenI k_96_9 rfl (kdW_3 hw) rfl
    (r_icmp (tgt := 101) k_96_10 rfl rfl cop_ge
    (r_retV k_96_101 rfl)
    (r_iload_n k_96_13 rfl rfl
    (r_if (tgt := 101) k_96_14 rfl rfl cop_lt
    (r_retV k_96_101 rfl)
    (r_iload_n k_96_17 rfl rfl
    (r_aload_n k_96_18 rfl rfl
    (r_getR k_96_19 rfl po_96 rfl rfl rfl (kdW hw) (gRat e (lyW_6 hL hw))
    (r_alenI k_96_22 rfl (kdW_3 hw) rfl
    (r_icmp (tgt := 101) k_96_23 rfl rfl cop_ge
    (r_retV k_96_101 rfl)
    (r_aload_n k_96_26 rfl rfl
    (r_getR k_96_27 rfl po_96 rfl rfl rfl (kdW hw) (gRat e (lyW_6 hL hw))
    (r_iload_n k_96_30 rfl rfl
    (r_iload_n k_96_31 rfl rfl
    (r_if (tgt := 48) k_96_32 rfl rfl cop_eq
    (r_aload_n k_96_48 rfl rfl
    (r_getR k_96_49 rfl po_96 rfl rfl rfl (kdW hw) (gRat e (lyW_6 hL hw))
    (r_iload_n k_96_52 rfl rfl
    (r_gd fun g => r_iald k_96_53 rfl (kdW_3 hw) g
    (r_iconst k_96_54 rfl rfl
    (r_iload_n k_96_55 rfl rfl
    (r_ishl k_96_56 rfl
    (r_iconst k_96_57 rfl rfl
    (r_ixor k_96_58 rfl
    (r_iand k_96_59 rfl
    (Le.rfl')))))))))))
    (r_aload_n k_96_35 rfl rfl
    (r_getR k_96_36 rfl po_96 rfl rfl rfl (kdW hw) (gRat e (lyW_6 hL hw))
    (r_iload_n k_96_39 rfl rfl
    (r_gd fun g => r_iald k_96_40 rfl (kdW_3 hw) g
    (r_iconst k_96_41 rfl rfl
    (r_iload_n k_96_42 rfl rfl
    (r_ishl k_96_43 rfl
    (r_ior k_96_44 rfl
    (r_goto (tgt := 60) k_96_45 rfl (Le.rfl'))))))))))))))))))))))))))))
/-! ===== 97 HedgeWants.World.takesOf ===== -/
theorem k_97_0 : cd 97 0 = some (.iload_n 1, 1) := by decide +kernel
theorem k_97_1 : cd 97 1 = some (.ifCond .lt 21, 3) := by decide +kernel
theorem k_97_4 : cd 97 4 = some (.iload_n 1, 1) := by decide +kernel
theorem k_97_5 : cd 97 5 = some (.aload_n 0, 1) := by decide +kernel
theorem k_97_6 : cd 97 6 = some (.getfield 24, 3) := by decide +kernel
theorem k_97_9 : cd 97 9 = some (.arraylength, 1) := by decide +kernel
theorem k_97_10 : cd 97 10 = some (.if_icmp .ge 12, 3) := by decide +kernel
theorem k_97_13 : cd 97 13 = some (.aload_n 0, 1) := by decide +kernel
theorem k_97_14 : cd 97 14 = some (.getfield 24, 3) := by decide +kernel
theorem k_97_17 : cd 97 17 = some (.iload_n 1, 1) := by decide +kernel
theorem k_97_18 : cd 97 18 = some (.iaload, 1) := by decide +kernel
theorem k_97_19 : cd 97 19 = some (.goto 4, 3) := by decide +kernel
theorem k_97_22 : cd 97 22 = some (.iconst 0, 1) := by decide +kernel
theorem k_97_23 : cd 97 23 = some (.ireturn, 1) := by decide +kernel
theorem po_97 : po 97 = 8 := rfl
theorem M_97 {w : Nat} (hw : isW w) {x0 : Int32} {σ : pS} {ρ : Nat → Nat → Option Nat} (e : gR σ = ρ) (hL : LayR ρ) : Le
  (if x0 < (ι 0) then some (1, .int (ι 0), σ) else if (ι 12) ≤ x0 then some (1, .int (ι 0), σ) else gd (inb x0 12) (some (1, .int (gI σ (w + 5) (ix x0)), σ)))
  (pcall 97 [.ref w, .int x0] σ) := by
  show Le _ (den 97 0 0 [.ref w, .int x0] [] σ)
  exact r_iload_n k_97_0 rfl rfl
    (r_if (tgt := 22) k_97_1 rfl rfl cop_lt
    (r_iconst k_97_22 rfl rfl
    (r_ret k_97_23 rfl rfl))
    (r_iload_n k_97_4 rfl rfl
    (r_aload_n k_97_5 rfl rfl
    (r_getR k_97_6 rfl po_97 rfl rfl rfl (kdW hw) (gRat e (lyW_8 hL hw))
    (r_alenI k_97_9 rfl (kdW_5 hw) rfl
    (r_icmp (tgt := 22) k_97_10 rfl rfl cop_ge
    (r_iconst k_97_22 rfl rfl
    (r_ret k_97_23 rfl rfl))
    (r_aload_n k_97_13 rfl rfl
    (r_getR k_97_14 rfl po_97 rfl rfl rfl (kdW hw) (gRat e (lyW_8 hL hw))
    (r_iload_n k_97_17 rfl rfl
    (r_gd fun g => r_iald k_97_18 rfl (kdW_5 hw) g
    (r_goto (tgt := 23) k_97_19 rfl (r_ret k_97_23 rfl rfl))))))))))))
/-! ===== 98 HedgeWants.World.allTakes ===== -/
theorem k_98_0 : cd 98 0 = some (.iconst 0, 1) := by decide +kernel
theorem k_98_1 : cd 98 1 = some (.istore_n 1, 1) := by decide +kernel
theorem k_98_2 : cd 98 2 = some (.iconst 0, 1) := by decide +kernel
theorem k_98_3 : cd 98 3 = some (.istore_n 2, 1) := by decide +kernel
theorem k_98_4 : cd 98 4 = some (.iload_n 2, 1) := by decide +kernel
theorem k_98_5 : cd 98 5 = some (.aload_n 0, 1) := by decide +kernel
theorem k_98_6 : cd 98 6 = some (.getfield 48, 3) := by decide +kernel
theorem k_98_9 : cd 98 9 = some (.if_icmp .ge 17, 3) := by decide +kernel
theorem k_98_12 : cd 98 12 = some (.iload_n 1, 1) := by decide +kernel
theorem k_98_13 : cd 98 13 = some (.aload_n 0, 1) := by decide +kernel
theorem k_98_14 : cd 98 14 = some (.iload_n 2, 1) := by decide +kernel
theorem k_98_15 : cd 98 15 = some (.invokevirtual 166, 3) := by decide +kernel
theorem k_98_18 : cd 98 18 = some (.iadd, 1) := by decide +kernel
theorem k_98_19 : cd 98 19 = some (.istore_n 1, 1) := by decide +kernel
theorem k_98_20 : cd 98 20 = some (.iinc 2 1, 3) := by decide +kernel
theorem k_98_23 : cd 98 23 = some (.goto (-19), 3) := by decide +kernel
theorem k_98_26 : cd 98 26 = some (.iload_n 1, 1) := by decide +kernel
theorem k_98_27 : cd 98 27 = some (.ireturn, 1) := by decide +kernel
theorem po_98 : po 98 = 8 := rfl
noncomputable def C_98_4 (w : Nat) (x1 : Int32) (x2 : Int32) (σ : pS) : Option pZ := den 98 0 4 [.ref w, .int x1, .int x2] [] σ
theorem T_98_4 {w : Nat} (hw : isW w) {x1 : Int32} {x2 : Int32}  {σ : pS} {ρ : Nat → Nat → Option Nat} (e : gR σ = ρ) (hL : LayR ρ) : Le
  (if (gI σ w 2) ≤ x2 then some (1, .int x1, σ) else bI (pcall 97 [.ref w, .int x2] σ) fun r1 σ1 => C_98_4 w (x1 + r1) (x2 + (ι 1)) σ1)
  (C_98_4 w x1 x2 σ) := by
  unfold C_98_4
  exact r_iload_n k_98_4 rfl rfl
    (r_aload_n k_98_5 rfl rfl
    (r_getI k_98_6 rfl po_98 rfl rfl rfl (kdW hw)
    (r_icmp (tgt := 26) k_98_9 rfl rfl cop_ge
    (r_iload_n k_98_26 rfl rfl
    (r_ret k_98_27 rfl rfl))
    (r_iload_n k_98_12 rfl rfl
    (r_aload_n k_98_13 rfl rfl
    (r_iload_n k_98_14 rfl rfl
    (r_callI (q_virt (rest := [.int x1]) (as := [.int x2]) k_98_15 po_98 rfl rfl rfl (rcvO rfl rfl (kdW hw)) rfl rfl) (lvq (j := 0) rfl (by decide +kernel)) rfl rfl (fun r1 σ1 h1 => r_iadd k_98_18 rfl
    (r_istore_n k_98_19 rfl rfl rfl
    (r_iinc k_98_20 rfl rfl rfl rfl
    (r_goto (tgt := 4) k_98_23 rfl (Le.rfl'))))))))))))
theorem M_98 {w : Nat} (hw : isW w)  {σ : pS} {ρ : Nat → Nat → Option Nat} (e : gR σ = ρ) (hL : LayR ρ) : Le
  (C_98_4 w (ι 0) (ι 0) σ)
  (pcall 98 [.ref w] σ) := by
  show Le _ (den 98 0 0 [.ref w, .retAddr 0, .retAddr 0] [] σ)
  exact r_iconst k_98_0 rfl rfl
    (r_istore_n k_98_1 rfl rfl rfl
    (r_iconst k_98_2 rfl rfl
    (r_istore_n k_98_3 rfl rfl rfl
    (Le.rfl'))))
/-! ===== 99 HedgeWants.World.mostTaken ===== -/
theorem k_99_0 : cd 99 0 = some (.iconst (-1), 1) := by decide +kernel
theorem k_99_1 : cd 99 1 = some (.istore_n 1, 1) := by decide +kernel
theorem k_99_2 : cd 99 2 = some (.iconst 0, 1) := by decide +kernel
theorem k_99_3 : cd 99 3 = some (.istore_n 2, 1) := by decide +kernel
theorem k_99_4 : cd 99 4 = some (.iconst 0, 1) := by decide +kernel
theorem k_99_5 : cd 99 5 = some (.istore_n 3, 1) := by decide +kernel
theorem k_99_6 : cd 99 6 = some (.iload_n 3, 1) := by decide +kernel
theorem k_99_7 : cd 99 7 = some (.aload_n 0, 1) := by decide +kernel
theorem k_99_8 : cd 99 8 = some (.getfield 48, 3) := by decide +kernel
theorem k_99_11 : cd 99 11 = some (.if_icmp .ge 26, 3) := by decide +kernel
theorem k_99_14 : cd 99 14 = some (.aload_n 0, 1) := by decide +kernel
theorem k_99_15 : cd 99 15 = some (.iload_n 3, 1) := by decide +kernel
theorem k_99_16 : cd 99 16 = some (.invokevirtual 166, 3) := by decide +kernel
theorem k_99_19 : cd 99 19 = some (.iload_n 2, 1) := by decide +kernel
theorem k_99_20 : cd 99 20 = some (.if_icmp .le 11, 3) := by decide +kernel
theorem k_99_23 : cd 99 23 = some (.iload_n 3, 1) := by decide +kernel
theorem k_99_24 : cd 99 24 = some (.istore_n 1, 1) := by decide +kernel
theorem k_99_25 : cd 99 25 = some (.aload_n 0, 1) := by decide +kernel
theorem k_99_26 : cd 99 26 = some (.iload_n 3, 1) := by decide +kernel
theorem k_99_27 : cd 99 27 = some (.invokevirtual 166, 3) := by decide +kernel
theorem k_99_30 : cd 99 30 = some (.istore_n 2, 1) := by decide +kernel
theorem k_99_31 : cd 99 31 = some (.iinc 3 1, 3) := by decide +kernel
theorem k_99_34 : cd 99 34 = some (.goto (-28), 3) := by decide +kernel
theorem k_99_37 : cd 99 37 = some (.iload_n 1, 1) := by decide +kernel
theorem k_99_38 : cd 99 38 = some (.ireturn, 1) := by decide +kernel
theorem po_99 : po 99 = 8 := rfl
noncomputable def C_99_6 (w : Nat) (x1 : Int32) (x2 : Int32) (x3 : Int32) (σ : pS) : Option pZ := den 99 0 6 [.ref w, .int x1, .int x2, .int x3] [] σ
theorem T_99_6 {w : Nat} (hw : isW w) {x1 : Int32} {x2 : Int32} {x3 : Int32}  {σ : pS} {ρ : Nat → Nat → Option Nat} (e : gR σ = ρ) (hL : LayR ρ) : Le
  (if (gI σ w 2) ≤ x3 then some (1, .int x1, σ) else bI (pcall 97 [.ref w, .int x3] σ) fun r1 σ1 => if r1 ≤ x2 then C_99_6 w x1 x2 (x3 + (ι 1)) σ1 else bI (pcall 97 [.ref w, .int x3] σ1) fun r2 σ2 => C_99_6 w x3 r2 (x3 + (ι 1)) σ2)
  (C_99_6 w x1 x2 x3 σ) := by
  unfold C_99_6
  exact r_iload_n k_99_6 rfl rfl
    (r_aload_n k_99_7 rfl rfl
    (r_getI k_99_8 rfl po_99 rfl rfl rfl (kdW hw)
    (r_icmp (tgt := 37) k_99_11 rfl rfl cop_ge
    (r_iload_n k_99_37 rfl rfl
    (r_ret k_99_38 rfl rfl))
    (r_aload_n k_99_14 rfl rfl
    (r_iload_n k_99_15 rfl rfl
    (r_callI (q_virt (rest := []) (as := [.int x3]) k_99_16 po_99 rfl rfl rfl (rcvO rfl rfl (kdW hw)) rfl rfl) (lvq (j := 0) rfl (by decide +kernel)) rfl rfl (fun r1 σ1 h1 => r_iload_n k_99_19 rfl rfl
    (r_icmp (tgt := 31) k_99_20 rfl rfl cop_le
    (r_iinc k_99_31 rfl rfl rfl rfl
    (r_goto (tgt := 6) k_99_34 rfl (Le.rfl')))
    (r_iload_n k_99_23 rfl rfl
    (r_istore_n k_99_24 rfl rfl rfl
    (r_aload_n k_99_25 rfl rfl
    (r_iload_n k_99_26 rfl rfl
    (r_callI (q_virt (rest := []) (as := [.int x3]) k_99_27 po_99 rfl rfl rfl (rcvO rfl rfl (kdW hw)) rfl rfl) (lvq (j := 0) rfl (by decide +kernel)) rfl rfl (fun r2 σ2 h2 => r_istore_n k_99_30 rfl rfl rfl
    (r_iinc k_99_31 rfl rfl rfl rfl
    (r_goto (tgt := 6) k_99_34 rfl (Le.rfl')))))))))))))))))
theorem M_99 {w : Nat} (hw : isW w)  {σ : pS} {ρ : Nat → Nat → Option Nat} (e : gR σ = ρ) (hL : LayR ρ) : Le
  (C_99_6 w (ν 1) (ι 0) (ι 0) σ)
  (pcall 99 [.ref w] σ) := by
  show Le _ (den 99 0 0 [.ref w, .retAddr 0, .retAddr 0, .retAddr 0] [] σ)
  exact r_iconst k_99_0 rfl rfl
    (r_istore_n k_99_1 rfl rfl rfl
    (r_iconst k_99_2 rfl rfl
    (r_istore_n k_99_3 rfl rfl rfl
    (r_iconst k_99_4 rfl rfl
    (r_istore_n k_99_5 rfl rfl rfl
    (Le.rfl'))))))
/-! ===== 100 HedgeWants.World.richest ===== -/
theorem k_100_0 : cd 100 0 = some (.iconst (-1), 1) := by decide +kernel
theorem k_100_1 : cd 100 1 = some (.istore_n 1, 1) := by decide +kernel
theorem k_100_2 : cd 100 2 = some (.iconst (-1), 1) := by decide +kernel
theorem k_100_3 : cd 100 3 = some (.istore_n 2, 1) := by decide +kernel
theorem k_100_4 : cd 100 4 = some (.iconst 0, 1) := by decide +kernel
theorem k_100_5 : cd 100 5 = some (.istore_n 3, 1) := by decide +kernel
theorem k_100_6 : cd 100 6 = some (.iload_n 3, 1) := by decide +kernel
theorem k_100_7 : cd 100 7 = some (.aload_n 0, 1) := by decide +kernel
theorem k_100_8 : cd 100 8 = some (.getfield 42, 3) := by decide +kernel
theorem k_100_11 : cd 100 11 = some (.if_icmp .ge 27, 3) := by decide +kernel
theorem k_100_14 : cd 100 14 = some (.aload_n 0, 1) := by decide +kernel
theorem k_100_15 : cd 100 15 = some (.iload_n 3, 1) := by decide +kernel
theorem k_100_16 : cd 100 16 = some (.invokevirtual 160, 3) := by decide +kernel
theorem k_100_19 : cd 100 19 = some (.istore 4, 2) := by decide +kernel
theorem k_100_21 : cd 100 21 = some (.iload 4, 2) := by decide +kernel
theorem k_100_23 : cd 100 23 = some (.iload_n 2, 1) := by decide +kernel
theorem k_100_24 : cd 100 24 = some (.if_icmp .le 8, 3) := by decide +kernel
theorem k_100_27 : cd 100 27 = some (.iload_n 3, 1) := by decide +kernel
theorem k_100_28 : cd 100 28 = some (.istore_n 1, 1) := by decide +kernel
theorem k_100_29 : cd 100 29 = some (.iload 4, 2) := by decide +kernel
theorem k_100_31 : cd 100 31 = some (.istore_n 2, 1) := by decide +kernel
theorem k_100_32 : cd 100 32 = some (.iinc 3 1, 3) := by decide +kernel
theorem k_100_35 : cd 100 35 = some (.goto (-29), 3) := by decide +kernel
theorem k_100_38 : cd 100 38 = some (.iload_n 1, 1) := by decide +kernel
theorem k_100_39 : cd 100 39 = some (.ireturn, 1) := by decide +kernel
theorem po_100 : po 100 = 8 := rfl
noncomputable def C_100_6 (w : Nat) (x1 : Int32) (x2 : Int32) (x3 : Int32) (v4 : Value) (σ : pS) : Option pZ := den 100 0 6 [.ref w, .int x1, .int x2, .int x3, v4] [] σ
theorem T_100_6 {w : Nat} (hw : isW w) {x1 : Int32} {x2 : Int32} {x3 : Int32} {v4 : Value}  {σ : pS} {ρ : Nat → Nat → Option Nat} (e : gR σ = ρ) (hL : LayR ρ) : Le
  (if (gI σ w 1) ≤ x3 then some (1, .int x1, σ) else bI (pcall 90 [.ref w, .int x3] σ) fun r1 σ1 => if r1 ≤ x2 then C_100_6 w x1 x2 (x3 + (ι 1)) (.int r1) σ1 else C_100_6 w x3 r1 (x3 + (ι 1)) (.int r1) σ1)
  (C_100_6 w x1 x2 x3 v4 σ) := by
  unfold C_100_6
  exact r_iload_n k_100_6 rfl rfl
    (r_aload_n k_100_7 rfl rfl
    (r_getI k_100_8 rfl po_100 rfl rfl rfl (kdW hw)
    (r_icmp (tgt := 38) k_100_11 rfl rfl cop_ge
    (r_iload_n k_100_38 rfl rfl
    (r_ret k_100_39 rfl rfl))
    (r_aload_n k_100_14 rfl rfl
    (r_iload_n k_100_15 rfl rfl
    (r_callI (q_virt (rest := []) (as := [.int x3]) k_100_16 po_100 rfl rfl rfl (rcvO rfl rfl (kdW hw)) rfl rfl) (lvq (j := 0) rfl (by decide +kernel)) rfl rfl (fun r1 σ1 h1 => r_istore k_100_19 rfl rfl rfl
    (r_iload k_100_21 rfl rfl
    (r_iload_n k_100_23 rfl rfl
    (r_icmp (tgt := 32) k_100_24 rfl rfl cop_le
    (r_iinc k_100_32 rfl rfl rfl rfl
    (r_goto (tgt := 6) k_100_35 rfl (Le.rfl')))
    (r_iload_n k_100_27 rfl rfl
    (r_istore_n k_100_28 rfl rfl rfl
    (r_iload k_100_29 rfl rfl
    (r_istore_n k_100_31 rfl rfl rfl
    (r_iinc k_100_32 rfl rfl rfl rfl
    (r_goto (tgt := 6) k_100_35 rfl (Le.rfl')))))))))))))))))
theorem M_100 {w : Nat} (hw : isW w)  {σ : pS} {ρ : Nat → Nat → Option Nat} (e : gR σ = ρ) (hL : LayR ρ) : Le
  (C_100_6 w (ν 1) (ν 1) (ι 0) (.retAddr 0) σ)
  (pcall 100 [.ref w] σ) := by
  show Le _ (den 100 0 0 [.ref w, .retAddr 0, .retAddr 0, .retAddr 0, .retAddr 0] [] σ)
  exact r_iconst k_100_0 rfl rfl
    (r_istore_n k_100_1 rfl rfl rfl
    (r_iconst k_100_2 rfl rfl
    (r_istore_n k_100_3 rfl rfl rfl
    (r_iconst k_100_4 rfl rfl
    (r_istore_n k_100_5 rfl rfl rfl
    (Le.rfl'))))))
/-! ===== 101 HedgeWants.World.whoHasNothing ===== -/
theorem k_101_0 : cd 101 0 = some (.iconst 0, 1) := by decide +kernel
theorem k_101_1 : cd 101 1 = some (.istore_n 1, 1) := by decide +kernel
theorem k_101_2 : cd 101 2 = some (.iconst 0, 1) := by decide +kernel
theorem k_101_3 : cd 101 3 = some (.istore_n 2, 1) := by decide +kernel
theorem k_101_4 : cd 101 4 = some (.iload_n 2, 1) := by decide +kernel
theorem k_101_5 : cd 101 5 = some (.aload_n 0, 1) := by decide +kernel
theorem k_101_6 : cd 101 6 = some (.getfield 42, 3) := by decide +kernel
theorem k_101_9 : cd 101 9 = some (.if_icmp .ge 27, 3) := by decide +kernel
theorem k_101_12 : cd 101 12 = some (.iload_n 1, 1) := by decide +kernel
theorem k_101_13 : cd 101 13 = some (.aload_n 0, 1) := by decide +kernel
theorem k_101_14 : cd 101 14 = some (.iload_n 2, 1) := by decide +kernel
theorem k_101_15 : cd 101 15 = some (.invokevirtual 163, 3) := by decide +kernel
theorem k_101_18 : cd 101 18 = some (.ifCond .ne 9, 3) := by decide +kernel
theorem k_101_21 : cd 101 21 = some (.iconst 1, 1) := by decide +kernel
theorem k_101_22 : cd 101 22 = some (.iload_n 2, 1) := by decide +kernel
theorem k_101_23 : cd 101 23 = some (.ishl, 1) := by decide +kernel
theorem k_101_24 : cd 101 24 = some (.goto 4, 3) := by decide +kernel
theorem k_101_27 : cd 101 27 = some (.iconst 0, 1) := by decide +kernel
theorem k_101_28 : cd 101 28 = some (.ior, 1) := by decide +kernel
theorem k_101_29 : cd 101 29 = some (.istore_n 1, 1) := by decide +kernel
theorem k_101_30 : cd 101 30 = some (.iinc 2 1, 3) := by decide +kernel
theorem k_101_33 : cd 101 33 = some (.goto (-29), 3) := by decide +kernel
theorem k_101_36 : cd 101 36 = some (.iload_n 1, 1) := by decide +kernel
theorem k_101_37 : cd 101 37 = some (.ireturn, 1) := by decide +kernel
theorem po_101 : po 101 = 8 := rfl
noncomputable def C_101_4 (w : Nat) (x1 : Int32) (x2 : Int32) (σ : pS) : Option pZ := den 101 0 4 [.ref w, .int x1, .int x2] [] σ
theorem T_101_4 {w : Nat} (hw : isW w) {x1 : Int32} {x2 : Int32}  {σ : pS} {ρ : Nat → Nat → Option Nat} (e : gR σ = ρ) (hL : LayR ρ) : Le
  (if (gI σ w 1) ≤ x2 then some (1, .int x1, σ) else bI (pcall 93 [.ref w, .int x2] σ) fun r1 σ1 => if ¬ r1 = (ι 0) then C_101_4 w (x1 ||| (ι 0)) (x2 + (ι 1)) σ1 else C_101_4 w (x1 ||| (shl' (ι 1) x2)) (x2 + (ι 1)) σ1)
  (C_101_4 w x1 x2 σ) := by
  unfold C_101_4
  exact r_iload_n k_101_4 rfl rfl
    (r_aload_n k_101_5 rfl rfl
    (r_getI k_101_6 rfl po_101 rfl rfl rfl (kdW hw)
    (r_icmp (tgt := 36) k_101_9 rfl rfl cop_ge
    (r_iload_n k_101_36 rfl rfl
    (r_ret k_101_37 rfl rfl))
    (r_iload_n k_101_12 rfl rfl
    (r_aload_n k_101_13 rfl rfl
    (r_iload_n k_101_14 rfl rfl
    (r_callI (q_virt (rest := [.int x1]) (as := [.int x2]) k_101_15 po_101 rfl rfl rfl (rcvO rfl rfl (kdW hw)) rfl rfl) (lvq (j := 0) rfl (by decide +kernel)) rfl rfl (fun r1 σ1 h1 => r_if (tgt := 27) k_101_18 rfl rfl cop_ne
    (r_iconst k_101_27 rfl rfl
    (r_ior k_101_28 rfl
    (r_istore_n k_101_29 rfl rfl rfl
    (r_iinc k_101_30 rfl rfl rfl rfl
    (r_goto (tgt := 4) k_101_33 rfl (Le.rfl'))))))
    (r_iconst k_101_21 rfl rfl
    (r_iload_n k_101_22 rfl rfl
    (r_ishl k_101_23 rfl
    (r_goto (tgt := 28) k_101_24 rfl (r_ior k_101_28 rfl
    (r_istore_n k_101_29 rfl rfl rfl
    (r_iinc k_101_30 rfl rfl rfl rfl
    (r_goto (tgt := 4) k_101_33 rfl (Le.rfl')))))))))))))))))
theorem M_101 {w : Nat} (hw : isW w)  {σ : pS} {ρ : Nat → Nat → Option Nat} (e : gR σ = ρ) (hL : LayR ρ) : Le
  (C_101_4 w (ι 0) (ι 0) σ)
  (pcall 101 [.ref w] σ) := by
  show Le _ (den 101 0 0 [.ref w, .retAddr 0, .retAddr 0] [] σ)
  exact r_iconst k_101_0 rfl rfl
    (r_istore_n k_101_1 rfl rfl rfl
    (r_iconst k_101_2 rfl rfl
    (r_istore_n k_101_3 rfl rfl rfl
    (Le.rfl'))))
/-! ===== 102 HedgeWants.World.hasOwnersOf ===== -/
theorem k_102_0 : cd 102 0 = some (.iconst 0, 1) := by decide +kernel
theorem k_102_1 : cd 102 1 = some (.istore_n 2, 1) := by decide +kernel
theorem k_102_2 : cd 102 2 = some (.iload_n 2, 1) := by decide +kernel
theorem k_102_3 : cd 102 3 = some (.aload_n 0, 1) := by decide +kernel
theorem k_102_4 : cd 102 4 = some (.getfield 48, 3) := by decide +kernel
theorem k_102_7 : cd 102 7 = some (.if_icmp .ge 24, 3) := by decide +kernel
theorem k_102_10 : cd 102 10 = some (.aload_n 0, 1) := by decide +kernel
theorem k_102_11 : cd 102 11 = some (.iload_n 2, 1) := by decide +kernel
theorem k_102_12 : cd 102 12 = some (.invokevirtual 91, 3) := by decide +kernel
theorem k_102_15 : cd 102 15 = some (.aload_n 1, 1) := by decide +kernel
theorem k_102_16 : cd 102 16 = some (.iload_n 2, 1) := by decide +kernel
theorem k_102_17 : cd 102 17 = some (.invokevirtual 91, 3) := by decide +kernel
theorem k_102_20 : cd 102 20 = some (.if_icmp .eq 5, 3) := by decide +kernel
theorem k_102_23 : cd 102 23 = some (.iconst 0, 1) := by decide +kernel
theorem k_102_24 : cd 102 24 = some (.ireturn, 1) := by decide +kernel
theorem k_102_25 : cd 102 25 = some (.iinc 2 1, 3) := by decide +kernel
theorem k_102_28 : cd 102 28 = some (.goto (-26), 3) := by decide +kernel
theorem k_102_31 : cd 102 31 = some (.iconst 1, 1) := by decide +kernel
theorem k_102_32 : cd 102 32 = some (.ireturn, 1) := by decide +kernel
theorem po_102 : po 102 = 8 := rfl
noncomputable def C_102_2 (w : Nat) (o0 : Nat) (x2 : Int32) (σ : pS) : Option pZ := den 102 0 2 [.ref w, .ref o0, .int x2] [] σ
theorem T_102_2 {w : Nat} (hw : isW w) {o0 : Nat} (ho0 : isW o0) {x2 : Int32}  {σ : pS} {ρ : Nat → Nat → Option Nat} (e : gR σ = ρ) (hL : LayR ρ) : Le
  (if (gI σ w 2) ≤ x2 then some (1, .int (ι 1), σ) else bI (pcall 75 [.ref w, .int x2] σ) fun r1 σ1 => bI (pcall 75 [.ref o0, .int x2] σ1) fun r2 σ2 => if r1 = r2 then C_102_2 w o0 (x2 + (ι 1)) σ2 else some (1, .int (ι 0), σ2))
  (C_102_2 w o0 x2 σ) := by
  unfold C_102_2
  exact r_iload_n k_102_2 rfl rfl
    (r_aload_n k_102_3 rfl rfl
    (r_getI k_102_4 rfl po_102 rfl rfl rfl (kdW hw)
    (r_icmp (tgt := 31) k_102_7 rfl rfl cop_ge
    (r_iconst k_102_31 rfl rfl
    (r_ret k_102_32 rfl rfl))
    (r_aload_n k_102_10 rfl rfl
    (r_iload_n k_102_11 rfl rfl
    (r_callI (q_virt (rest := []) (as := [.int x2]) k_102_12 po_102 rfl rfl rfl (rcvO rfl rfl (kdW hw)) rfl rfl) (lvq (j := 0) rfl (by decide +kernel)) rfl rfl (fun r1 σ1 h1 => r_aload_n k_102_15 rfl rfl
    (r_iload_n k_102_16 rfl rfl
    (r_callI (q_virt (rest := [.int r1]) (as := [.int x2]) k_102_17 po_102 rfl rfl rfl (rcvO rfl rfl (kdW ho0)) rfl rfl) (lvq (j := 0) rfl (by decide +kernel)) rfl rfl (fun r2 σ2 h2 => r_icmp (tgt := 25) k_102_20 rfl rfl cop_eq
    (r_iinc k_102_25 rfl rfl rfl rfl
    (r_goto (tgt := 2) k_102_28 rfl (Le.rfl')))
    (r_iconst k_102_23 rfl rfl
    (r_ret k_102_24 rfl rfl))))))))))))
theorem M_102 {w : Nat} (hw : isW w) {o0 : Nat} (ho0 : isW o0)  {σ : pS} {ρ : Nat → Nat → Option Nat} (e : gR σ = ρ) (hL : LayR ρ) : Le
  (C_102_2 w o0 (ι 0) σ)
  (pcall 102 [.ref w, .ref o0] σ) := by
  show Le _ (den 102 0 0 [.ref w, .ref o0, .retAddr 0] [] σ)
  exact r_iconst k_102_0 rfl rfl
    (r_istore_n k_102_1 rfl rfl rfl
    (Le.rfl'))
/-! ===== 104 HedgeWants.Memory.refuse ===== -/
theorem k_104_0 : cd 104 0 = some (.iload_n 1, 1) := by decide +kernel
theorem k_104_1 : cd 104 1 = some (.ifCond .lt 22, 3) := by decide +kernel
theorem k_104_4 : cd 104 4 = some (.iload_n 1, 1) := by decide +kernel
theorem k_104_5 : cd 104 5 = some (.aload_n 0, 1) := by decide +kernel
theorem k_104_6 : cd 104 6 = some (.getfield 20, 3) := by decide +kernel
theorem k_104_9 : cd 104 9 = some (.arraylength, 1) := by decide +kernel
theorem k_104_10 : cd 104 10 = some (.if_icmp .ge 13, 3) := by decide +kernel
theorem k_104_13 : cd 104 13 = some (.aload_n 0, 1) := by decide +kernel
theorem k_104_14 : cd 104 14 = some (.getfield 20, 3) := by decide +kernel
theorem k_104_17 : cd 104 17 = some (.iload_n 1, 1) := by decide +kernel
theorem k_104_18 : cd 104 18 = some (.dup2, 1) := by decide +kernel
theorem k_104_19 : cd 104 19 = some (.iaload, 1) := by decide +kernel
theorem k_104_20 : cd 104 20 = some (.iconst 1, 1) := by decide +kernel
theorem k_104_21 : cd 104 21 = some (.iadd, 1) := by decide +kernel
theorem k_104_22 : cd 104 22 = some (.iastore, 1) := by decide +kernel
theorem k_104_23 : cd 104 23 = some (.iconst (-1), 1) := by decide +kernel
theorem k_104_24 : cd 104 24 = some (.ireturn, 1) := by decide +kernel
theorem po_104 : po 104 = 4 := rfl
theorem M_104 {m : Nat} (hm : isM m) {x0 : Int32} {σ : pS} {ρ : Nat → Nat → Option Nat} (e : gR σ = ρ) (hL : LayR ρ) : Le
  (if x0 < (ι 0) then some (1, .int (ν 1), σ) else if (ι 3) ≤ x0 then some (1, .int (ν 1), σ) else gd (inb x0 3) (gd (inb x0 3) (some (1, .int (ν 1), (sI σ (m + 3) (ix x0) ((gI σ (m + 3) (ix x0)) + (ι 1)))))))
  (pcall 104 [.ref m, .int x0] σ) := by
  show Le _ (den 104 0 0 [.ref m, .int x0] [] σ)
  exact r_iload_n k_104_0 rfl rfl
    (r_if (tgt := 23) k_104_1 rfl rfl cop_lt
    (r_iconst k_104_23 rfl rfl
    (r_ret k_104_24 rfl rfl))
    (r_iload_n k_104_4 rfl rfl
    (r_aload_n k_104_5 rfl rfl
    (r_getR k_104_6 rfl po_104 rfl rfl rfl (kdM hm) (gRat e (lyM_4 hL hm))
    (r_alenI k_104_9 rfl (kdM_3 hm) rfl
    (r_icmp (tgt := 23) k_104_10 rfl rfl cop_ge
    (r_iconst k_104_23 rfl rfl
    (r_ret k_104_24 rfl rfl))
    (r_aload_n k_104_13 rfl rfl
    (r_getR k_104_14 rfl po_104 rfl rfl rfl (kdM hm) (gRat e (lyM_4 hL hm))
    (r_iload_n k_104_17 rfl rfl
    (r_dup2 k_104_18 rfl rfl rfl
    (r_gd fun g => r_iald k_104_19 rfl (kdM_3 hm) g
    (r_iconst k_104_20 rfl rfl
    (r_iadd k_104_21 rfl
    (r_gd fun g => r_iast k_104_22 rfl (kdM_3 hm) g
    (r_iconst k_104_23 rfl rfl
    (r_ret k_104_24 rfl rfl))))))))))))))))
/-! ===== 105 HedgeWants.Memory.keepAct ===== -/
theorem k_105_0 : cd 105 0 = some (.aload_n 0, 1) := by decide +kernel
theorem k_105_1 : cd 105 1 = some (.getfield 29, 3) := by decide +kernel
theorem k_105_4 : cd 105 4 = some (.bipush 40, 2) := by decide +kernel
theorem k_105_6 : cd 105 6 = some (.if_icmp .lt 27, 3) := by decide +kernel
theorem k_105_9 : cd 105 9 = some (.aload_n 0, 1) := by decide +kernel
theorem k_105_10 : cd 105 10 = some (.getfield 11, 3) := by decide +kernel
theorem k_105_13 : cd 105 13 = some (.sipush 129, 3) := by decide +kernel
theorem k_105_16 : cd 105 16 = some (.aload_n 0, 1) := by decide +kernel
theorem k_105_17 : cd 105 17 = some (.getfield 11, 3) := by decide +kernel
theorem k_105_20 : cd 105 20 = some (.iconst 0, 1) := by decide +kernel
theorem k_105_21 : cd 105 21 = some (.sipush 5031, 3) := by decide +kernel
theorem k_105_24 : cd 105 24 = some (.invokestatic 23, 3) := by decide +kernel
theorem k_105_27 : cd 105 27 = some (.aload_n 0, 1) := by decide +kernel
theorem k_105_28 : cd 105 28 = some (.bipush 39, 2) := by decide +kernel
theorem k_105_30 : cd 105 30 = some (.putfield 29, 3) := by decide +kernel
theorem k_105_33 : cd 105 33 = some (.aload_n 1, 1) := by decide +kernel
theorem k_105_34 : cd 105 34 = some (.aload_n 0, 1) := by decide +kernel
theorem k_105_35 : cd 105 35 = some (.getfield 11, 3) := by decide +kernel
theorem k_105_38 : cd 105 38 = some (.aload_n 0, 1) := by decide +kernel
theorem k_105_39 : cd 105 39 = some (.getfield 29, 3) := by decide +kernel
theorem k_105_42 : cd 105 42 = some (.invokevirtual 36, 3) := by decide +kernel
theorem k_105_45 : cd 105 45 = some (.aload_n 0, 1) := by decide +kernel
theorem k_105_46 : cd 105 46 = some (.dup, 1) := by decide +kernel
theorem k_105_47 : cd 105 47 = some (.getfield 29, 3) := by decide +kernel
theorem k_105_50 : cd 105 50 = some (.iconst 1, 1) := by decide +kernel
theorem k_105_51 : cd 105 51 = some (.iadd, 1) := by decide +kernel
theorem k_105_52 : cd 105 52 = some (.putfield 29, 3) := by decide +kernel
theorem k_105_55 : cd 105 55 = some (.return_, 1) := by decide +kernel
theorem po_105 : po 105 = 4 := rfl
theorem M_105 {m : Nat} (hm : isM m) {o0 : Nat} (ho0 : isW o0)  {σ : pS} {ρ : Nat → Nat → Option Nat} (e : gR σ = ρ) (hL : LayR ρ) : Le
  (if (gI σ m 1) < (ι 40) then bV (pcall 70 [.ref o0, .ref (m + 1), .int (gI σ m 1)] σ) fun σ1 => some (0, .null, (sI σ1 m 1 ((gI σ1 m 1) + (ι 1)))) else bV (pcall 70 [.ref o0, .ref (m + 1), .int (gI (sI (sA σ (m + 1) (va_cpy (gI σ (m + 1)) (gI σ (m + 1)) 129 0 5031)) m 1 (ι 39)) m 1)] (sI (sA σ (m + 1) (va_cpy (gI σ (m + 1)) (gI σ (m + 1)) 129 0 5031)) m 1 (ι 39))) fun σ2 => some (0, .null, (sI σ2 m 1 ((gI σ2 m 1) + (ι 1)))))
  (pcall 105 [.ref m, .ref o0] σ) := by
  show Le _ (den 105 0 0 [.ref m, .ref o0] [] σ)
  exact r_aload_n k_105_0 rfl rfl
    (r_getI k_105_1 rfl po_105 rfl rfl rfl (kdM hm)
    (r_bipush k_105_4 rfl rfl
    (r_icmp (tgt := 33) k_105_6 rfl rfl cop_lt
    (r_aload_n k_105_33 rfl rfl
    (r_aload_n k_105_34 rfl rfl
    (r_getR k_105_35 rfl po_105 rfl rfl rfl (kdM hm) (gRat e (lyM_0 hL hm))
    (r_aload_n k_105_38 rfl rfl
    (r_getI k_105_39 rfl po_105 rfl rfl rfl (kdM hm)
    (r_callV (q_virt (rest := []) (as := [.ref (m + 1), .int (gI σ m 1)]) k_105_42 po_105 rfl rfl rfl (rcvO rfl rfl (kdW ho0)) rfl rfl) (lvq (j := 0) rfl (by decide +kernel)) rfl rfl (fun _ σ1 h1 => r_aload_n k_105_45 rfl rfl
    (r_dup k_105_46 rfl rfl
    (r_getI k_105_47 rfl po_105 rfl rfl rfl (kdM hm)
    (r_iconst k_105_50 rfl rfl
    (r_iadd k_105_51 rfl
    (r_putI k_105_52 rfl po_105 rfl rfl (kdM hm)
    (r_retV k_105_55 rfl)))))))))))))
    (r_aload_n k_105_9 rfl rfl
    (r_getR k_105_10 rfl po_105 rfl rfl rfl (kdM hm) (gRat e (lyM_0 hL hm))
    (r_sipush k_105_13 rfl rfl
    (r_aload_n k_105_16 rfl rfl
    (r_getR k_105_17 rfl po_105 rfl rfl rfl (kdM hm) (gRat e (lyM_0 hL hm))
    (r_iconst k_105_20 rfl rfl
    (r_sipush k_105_21 rfl rfl
    (r_copy k_105_24 rfl po_105 rfl (kdM_1 hm) (kdM_1 hm) rfl (by decide)
    (r_aload_n k_105_27 rfl rfl
    (r_bipush k_105_28 rfl rfl
    (r_putI k_105_30 rfl po_105 rfl rfl (kdM hm)
    (r_aload_n k_105_33 rfl rfl
    (r_aload_n k_105_34 rfl rfl
    (r_getR k_105_35 rfl po_105 rfl rfl rfl (kdM hm) (gRat (eI (eA e)) (lyM_0 hL hm))
    (r_aload_n k_105_38 rfl rfl
    (r_getI k_105_39 rfl po_105 rfl rfl rfl (kdM hm)
    (r_callV (q_virt (rest := []) (as := [.ref (m + 1), .int (gI (sI (sA σ (m + 1) (va_cpy (gI σ (m + 1)) (gI σ (m + 1)) 129 0 5031)) m 1 (ι 39)) m 1)]) k_105_42 po_105 rfl rfl rfl (rcvO rfl rfl (kdW ho0)) rfl rfl) (lvq (j := 0) rfl (by decide +kernel)) rfl rfl (fun _ σ2 h2 => r_aload_n k_105_45 rfl rfl
    (r_dup k_105_46 rfl rfl
    (r_getI k_105_47 rfl po_105 rfl rfl rfl (kdM hm)
    (r_iconst k_105_50 rfl rfl
    (r_iadd k_105_51 rfl
    (r_putI k_105_52 rfl po_105 rfl rfl (kdM hm)
    (r_retV k_105_55 rfl)))))))))))))))))))))))))))
/-! ===== 106 HedgeWants.Memory.takeBackAct ===== -/
theorem k_106_0 : cd 106 0 = some (.aload_n 0, 1) := by decide +kernel
theorem k_106_1 : cd 106 1 = some (.getfield 29, 3) := by decide +kernel
theorem k_106_4 : cd 106 4 = some (.ifCond .gt 5, 3) := by decide +kernel
theorem k_106_7 : cd 106 7 = some (.iconst 0, 1) := by decide +kernel
theorem k_106_8 : cd 106 8 = some (.ireturn, 1) := by decide +kernel
theorem k_106_9 : cd 106 9 = some (.aload_n 0, 1) := by decide +kernel
theorem k_106_10 : cd 106 10 = some (.dup, 1) := by decide +kernel
theorem k_106_11 : cd 106 11 = some (.getfield 29, 3) := by decide +kernel
theorem k_106_14 : cd 106 14 = some (.iconst 1, 1) := by decide +kernel
theorem k_106_15 : cd 106 15 = some (.isub, 1) := by decide +kernel
theorem k_106_16 : cd 106 16 = some (.putfield 29, 3) := by decide +kernel
theorem k_106_19 : cd 106 19 = some (.aload_n 1, 1) := by decide +kernel
theorem k_106_20 : cd 106 20 = some (.aload_n 0, 1) := by decide +kernel
theorem k_106_21 : cd 106 21 = some (.getfield 11, 3) := by decide +kernel
theorem k_106_24 : cd 106 24 = some (.aload_n 0, 1) := by decide +kernel
theorem k_106_25 : cd 106 25 = some (.getfield 29, 3) := by decide +kernel
theorem k_106_28 : cd 106 28 = some (.invokevirtual 40, 3) := by decide +kernel
theorem k_106_31 : cd 106 31 = some (.iconst 1, 1) := by decide +kernel
theorem k_106_32 : cd 106 32 = some (.ireturn, 1) := by decide +kernel
theorem po_106 : po 106 = 4 := rfl
theorem M_106 {m : Nat} (hm : isM m) {o0 : Nat} (ho0 : isW o0)  {σ : pS} {ρ : Nat → Nat → Option Nat} (e : gR σ = ρ) (hL : LayR ρ) : Le
  (if (ι 0) < (gI σ m 1) then bV (pcall 83 [.ref o0, .ref (m + 1), .int (gI (sI σ m 1 ((gI σ m 1) - (ι 1))) m 1)] (sI σ m 1 ((gI σ m 1) - (ι 1)))) fun σ1 => some (1, .int (ι 1), σ1) else some (1, .int (ι 0), σ))
  (pcall 106 [.ref m, .ref o0] σ) := by
  show Le _ (den 106 0 0 [.ref m, .ref o0] [] σ)
  exact r_aload_n k_106_0 rfl rfl
    (r_getI k_106_1 rfl po_106 rfl rfl rfl (kdM hm)
    (r_if (tgt := 9) k_106_4 rfl rfl cop_gt
    (r_aload_n k_106_9 rfl rfl
    (r_dup k_106_10 rfl rfl
    (r_getI k_106_11 rfl po_106 rfl rfl rfl (kdM hm)
    (r_iconst k_106_14 rfl rfl
    (r_isub k_106_15 rfl
    (r_putI k_106_16 rfl po_106 rfl rfl (kdM hm)
    (r_aload_n k_106_19 rfl rfl
    (r_aload_n k_106_20 rfl rfl
    (r_getR k_106_21 rfl po_106 rfl rfl rfl (kdM hm) (gRat (eI e) (lyM_0 hL hm))
    (r_aload_n k_106_24 rfl rfl
    (r_getI k_106_25 rfl po_106 rfl rfl rfl (kdM hm)
    (r_callV (q_virt (rest := []) (as := [.ref (m + 1), .int (gI (sI σ m 1 ((gI σ m 1) - (ι 1))) m 1)]) k_106_28 po_106 rfl rfl rfl (rcvO rfl rfl (kdW ho0)) rfl rfl) (lvq (j := 0) rfl (by decide +kernel)) rfl rfl (fun _ σ1 h1 => r_iconst k_106_31 rfl rfl
    (r_ret k_106_32 rfl rfl))))))))))))))
    (r_iconst k_106_7 rfl rfl
    (r_ret k_106_8 rfl rfl))))
/-! ===== 107 HedgeWants.Memory.acts ===== -/
theorem k_107_0 : cd 107 0 = some (.aload_n 0, 1) := by decide +kernel
theorem k_107_1 : cd 107 1 = some (.getfield 29, 3) := by decide +kernel
theorem k_107_4 : cd 107 4 = some (.ireturn, 1) := by decide +kernel
theorem po_107 : po 107 = 4 := rfl
theorem M_107 {m : Nat} (hm : isM m)  {σ : pS} {ρ : Nat → Nat → Option Nat} (e : gR σ = ρ) (hL : LayR ρ) : Le
  (some (1, .int (gI σ m 1), σ))
  (pcall 107 [.ref m] σ) := by
  show Le _ (den 107 0 0 [.ref m] [] σ)
  exact r_aload_n k_107_0 rfl rfl
    (r_getI k_107_1 rfl po_107 rfl rfl rfl (kdM hm)
    (r_ret k_107_4 rfl rfl))
/-! ===== 108 HedgeWants.Memory.forgetSeen ===== -/
theorem k_108_0 : cd 108 0 = some (.aload_n 0, 1) := by decide +kernel
theorem k_108_1 : cd 108 1 = some (.iconst 0, 1) := by decide +kernel
theorem k_108_2 : cd 108 2 = some (.putfield 33, 3) := by decide +kernel
theorem k_108_5 : cd 108 5 = some (.return_, 1) := by decide +kernel
theorem po_108 : po 108 = 4 := rfl
theorem M_108 {m : Nat} (hm : isM m)  {σ : pS} {ρ : Nat → Nat → Option Nat} (e : gR σ = ρ) (hL : LayR ρ) : Le
  (some (0, .null, (sI σ m 3 (ι 0))))
  (pcall 108 [.ref m] σ) := by
  show Le _ (den 108 0 0 [.ref m] [] σ)
  exact r_aload_n k_108_0 rfl rfl
    (r_iconst k_108_1 rfl rfl
    (r_putI k_108_2 rfl po_108 rfl rfl (kdM hm)
    (r_retV k_108_5 rfl)))
/-! ===== 109 HedgeWants.Memory.follow ===== -/
theorem k_109_0 : cd 109 0 = some (.aload_n 1, 1) := by decide +kernel
theorem k_109_1 : cd 109 1 = some (.getfield 11, 3) := by decide +kernel
theorem k_109_4 : cd 109 4 = some (.iconst 0, 1) := by decide +kernel
theorem k_109_5 : cd 109 5 = some (.aload_n 0, 1) := by decide +kernel
theorem k_109_6 : cd 109 6 = some (.getfield 11, 3) := by decide +kernel
theorem k_109_9 : cd 109 9 = some (.iconst 0, 1) := by decide +kernel
theorem k_109_10 : cd 109 10 = some (.sipush 5160, 3) := by decide +kernel
theorem k_109_13 : cd 109 13 = some (.invokestatic 23, 3) := by decide +kernel
theorem k_109_16 : cd 109 16 = some (.aload_n 0, 1) := by decide +kernel
theorem k_109_17 : cd 109 17 = some (.aload_n 1, 1) := by decide +kernel
theorem k_109_18 : cd 109 18 = some (.getfield 29, 3) := by decide +kernel
theorem k_109_21 : cd 109 21 = some (.putfield 29, 3) := by decide +kernel
theorem k_109_24 : cd 109 24 = some (.aload_n 1, 1) := by decide +kernel
theorem k_109_25 : cd 109 25 = some (.getfield 17, 3) := by decide +kernel
theorem k_109_28 : cd 109 28 = some (.iconst 0, 1) := by decide +kernel
theorem k_109_29 : cd 109 29 = some (.aload_n 0, 1) := by decide +kernel
theorem k_109_30 : cd 109 30 = some (.getfield 17, 3) := by decide +kernel
theorem k_109_33 : cd 109 33 = some (.iconst 0, 1) := by decide +kernel
theorem k_109_34 : cd 109 34 = some (.bipush 24, 2) := by decide +kernel
theorem k_109_36 : cd 109 36 = some (.invokestatic 23, 3) := by decide +kernel
theorem k_109_39 : cd 109 39 = some (.aload_n 0, 1) := by decide +kernel
theorem k_109_40 : cd 109 40 = some (.aload_n 1, 1) := by decide +kernel
theorem k_109_41 : cd 109 41 = some (.getfield 33, 3) := by decide +kernel
theorem k_109_44 : cd 109 44 = some (.putfield 33, 3) := by decide +kernel
theorem k_109_47 : cd 109 47 = some (.aload_n 1, 1) := by decide +kernel
theorem k_109_48 : cd 109 48 = some (.getfield 20, 3) := by decide +kernel
theorem k_109_51 : cd 109 51 = some (.iconst 0, 1) := by decide +kernel
theorem k_109_52 : cd 109 52 = some (.aload_n 0, 1) := by decide +kernel
theorem k_109_53 : cd 109 53 = some (.getfield 20, 3) := by decide +kernel
theorem k_109_56 : cd 109 56 = some (.iconst 0, 1) := by decide +kernel
theorem k_109_57 : cd 109 57 = some (.iconst 3, 1) := by decide +kernel
theorem k_109_58 : cd 109 58 = some (.invokestatic 23, 3) := by decide +kernel
theorem k_109_61 : cd 109 61 = some (.return_, 1) := by decide +kernel
theorem po_109 : po 109 = 4 := rfl
theorem M_109 {m : Nat} (hm : isM m) {o0 : Nat} (ho0 : isM o0)  {σ : pS} {ρ : Nat → Nat → Option Nat} (e : gR σ = ρ) (hL : LayR ρ) : Le
  (lt (sA σ (m + 1) (va_cpy (gI σ (o0 + 1)) (gI σ (m + 1)) 0 0 5160)) fun s1 => lt (sI s1 m 1 (gI s1 o0 1)) fun s2 => lt (sA s2 (m + 2) (va_cpy (gI s2 (o0 + 2)) (gI s2 (m + 2)) 0 0 24)) fun s3 => lt (sI s3 m 3 (gI s3 o0 3)) fun s4 => lt (sA s4 (m + 3) (va_cpy (gI s4 (o0 + 3)) (gI s4 (m + 3)) 0 0 3)) fun s5 => some (0, .null, s5))
  (pcall 109 [.ref m, .ref o0] σ) := by
  show Le _ (den 109 0 0 [.ref m, .ref o0] [] σ)
  exact r_aload_n k_109_0 rfl rfl
    (r_getR k_109_1 rfl po_109 rfl rfl rfl (kdM ho0) (gRat e (lyM_0 hL ho0))
    (r_iconst k_109_4 rfl rfl
    (r_aload_n k_109_5 rfl rfl
    (r_getR k_109_6 rfl po_109 rfl rfl rfl (kdM hm) (gRat e (lyM_0 hL hm))
    (r_iconst k_109_9 rfl rfl
    (r_sipush k_109_10 rfl rfl
    (r_copy k_109_13 rfl po_109 rfl (kdM_1 ho0) (kdM_1 hm) rfl (by decide)
    (r_lt fun s1 es1 => r_aload_n k_109_16 rfl rfl
    (r_aload_n k_109_17 rfl rfl
    (r_getI k_109_18 rfl po_109 rfl rfl rfl (kdM ho0)
    (r_putI k_109_21 rfl po_109 rfl rfl (kdM hm)
    (r_lt fun s2 es2 => r_aload_n k_109_24 rfl rfl
    (r_getR k_109_25 rfl po_109 rfl rfl rfl (kdM ho0) (gRat (es2.trans (eI (es1.trans (eA e)))) (lyM_2 hL ho0))
    (r_iconst k_109_28 rfl rfl
    (r_aload_n k_109_29 rfl rfl
    (r_getR k_109_30 rfl po_109 rfl rfl rfl (kdM hm) (gRat (es2.trans (eI (es1.trans (eA e)))) (lyM_2 hL hm))
    (r_iconst k_109_33 rfl rfl
    (r_bipush k_109_34 rfl rfl
    (r_copy k_109_36 rfl po_109 rfl (kdM_2 ho0) (kdM_2 hm) rfl (by decide)
    (r_lt fun s3 es3 => r_aload_n k_109_39 rfl rfl
    (r_aload_n k_109_40 rfl rfl
    (r_getI k_109_41 rfl po_109 rfl rfl rfl (kdM ho0)
    (r_putI k_109_44 rfl po_109 rfl rfl (kdM hm)
    (r_lt fun s4 es4 => r_aload_n k_109_47 rfl rfl
    (r_getR k_109_48 rfl po_109 rfl rfl rfl (kdM ho0) (gRat (es4.trans (eI (es3.trans (eA (es2.trans (eI (es1.trans (eA e)))))))) (lyM_4 hL ho0))
    (r_iconst k_109_51 rfl rfl
    (r_aload_n k_109_52 rfl rfl
    (r_getR k_109_53 rfl po_109 rfl rfl rfl (kdM hm) (gRat (es4.trans (eI (es3.trans (eA (es2.trans (eI (es1.trans (eA e)))))))) (lyM_4 hL hm))
    (r_iconst k_109_56 rfl rfl
    (r_iconst k_109_57 rfl rfl
    (r_copy k_109_58 rfl po_109 rfl (kdM_3 ho0) (kdM_3 hm) rfl (by decide)
    (r_lt fun s5 es5 => r_retV k_109_61 rfl))))))))))))))))))))))))))))))))
/-! ===== 110 HedgeWants.Memory.beginAnew ===== -/
theorem k_110_0 : cd 110 0 = some (.aload_n 0, 1) := by decide +kernel
theorem k_110_1 : cd 110 1 = some (.iconst 0, 1) := by decide +kernel
theorem k_110_2 : cd 110 2 = some (.putfield 29, 3) := by decide +kernel
theorem k_110_5 : cd 110 5 = some (.aload_n 0, 1) := by decide +kernel
theorem k_110_6 : cd 110 6 = some (.iconst 0, 1) := by decide +kernel
theorem k_110_7 : cd 110 7 = some (.putfield 33, 3) := by decide +kernel
theorem k_110_10 : cd 110 10 = some (.return_, 1) := by decide +kernel
theorem po_110 : po 110 = 4 := rfl
theorem M_110 {m : Nat} (hm : isM m)  {σ : pS} {ρ : Nat → Nat → Option Nat} (e : gR σ = ρ) (hL : LayR ρ) : Le
  (some (0, .null, (sI (sI σ m 1 (ι 0)) m 3 (ι 0))))
  (pcall 110 [.ref m] σ) := by
  show Le _ (den 110 0 0 [.ref m] [] σ)
  exact r_aload_n k_110_0 rfl rfl
    (r_iconst k_110_1 rfl rfl
    (r_putI k_110_2 rfl po_110 rfl rfl (kdM hm)
    (r_aload_n k_110_5 rfl rfl
    (r_iconst k_110_6 rfl rfl
    (r_putI k_110_7 rfl po_110 rfl rfl (kdM hm)
    (r_retV k_110_10 rfl))))))
/-! ===== 111 HedgeWants.Memory.seen ===== -/
theorem k_111_0 : cd 111 0 = some (.aload_n 0, 1) := by decide +kernel
theorem k_111_1 : cd 111 1 = some (.getfield 33, 3) := by decide +kernel
theorem k_111_4 : cd 111 4 = some (.ireturn, 1) := by decide +kernel
theorem po_111 : po 111 = 4 := rfl
theorem M_111 {m : Nat} (hm : isM m)  {σ : pS} {ρ : Nat → Nat → Option Nat} (e : gR σ = ρ) (hL : LayR ρ) : Le
  (some (1, .int (gI σ m 3), σ))
  (pcall 111 [.ref m] σ) := by
  show Le _ (den 111 0 0 [.ref m] [] σ)
  exact r_aload_n k_111_0 rfl rfl
    (r_getI k_111_1 rfl po_111 rfl rfl rfl (kdM hm)
    (r_ret k_111_4 rfl rfl))
/-! ===== 112 HedgeWants.Memory.refused ===== -/
theorem k_112_0 : cd 112 0 = some (.iload_n 1, 1) := by decide +kernel
theorem k_112_1 : cd 112 1 = some (.ifCond .lt 21, 3) := by decide +kernel
theorem k_112_4 : cd 112 4 = some (.iload_n 1, 1) := by decide +kernel
theorem k_112_5 : cd 112 5 = some (.aload_n 0, 1) := by decide +kernel
theorem k_112_6 : cd 112 6 = some (.getfield 20, 3) := by decide +kernel
theorem k_112_9 : cd 112 9 = some (.arraylength, 1) := by decide +kernel
theorem k_112_10 : cd 112 10 = some (.if_icmp .ge 12, 3) := by decide +kernel
theorem k_112_13 : cd 112 13 = some (.aload_n 0, 1) := by decide +kernel
theorem k_112_14 : cd 112 14 = some (.getfield 20, 3) := by decide +kernel
theorem k_112_17 : cd 112 17 = some (.iload_n 1, 1) := by decide +kernel
theorem k_112_18 : cd 112 18 = some (.iaload, 1) := by decide +kernel
theorem k_112_19 : cd 112 19 = some (.goto 4, 3) := by decide +kernel
theorem k_112_22 : cd 112 22 = some (.iconst 0, 1) := by decide +kernel
theorem k_112_23 : cd 112 23 = some (.ireturn, 1) := by decide +kernel
theorem po_112 : po 112 = 4 := rfl
theorem M_112 {m : Nat} (hm : isM m) {x0 : Int32} {σ : pS} {ρ : Nat → Nat → Option Nat} (e : gR σ = ρ) (hL : LayR ρ) : Le
  (if x0 < (ι 0) then some (1, .int (ι 0), σ) else if (ι 3) ≤ x0 then some (1, .int (ι 0), σ) else gd (inb x0 3) (some (1, .int (gI σ (m + 3) (ix x0)), σ)))
  (pcall 112 [.ref m, .int x0] σ) := by
  show Le _ (den 112 0 0 [.ref m, .int x0] [] σ)
  exact r_iload_n k_112_0 rfl rfl
    (r_if (tgt := 22) k_112_1 rfl rfl cop_lt
    (r_iconst k_112_22 rfl rfl
    (r_ret k_112_23 rfl rfl))
    (r_iload_n k_112_4 rfl rfl
    (r_aload_n k_112_5 rfl rfl
    (r_getR k_112_6 rfl po_112 rfl rfl rfl (kdM hm) (gRat e (lyM_4 hL hm))
    (r_alenI k_112_9 rfl (kdM_3 hm) rfl
    (r_icmp (tgt := 22) k_112_10 rfl rfl cop_ge
    (r_iconst k_112_22 rfl rfl
    (r_ret k_112_23 rfl rfl))
    (r_aload_n k_112_13 rfl rfl
    (r_getR k_112_14 rfl po_112 rfl rfl rfl (kdM hm) (gRat e (lyM_4 hL hm))
    (r_iload_n k_112_17 rfl rfl
    (r_gd fun g => r_iald k_112_18 rfl (kdM_3 hm) g
    (r_goto (tgt := 23) k_112_19 rfl (r_ret k_112_23 rfl rfl))))))))))))
/-! ===== 113 HedgeWants.Memory.keepSeen ===== -/
theorem k_113_0 : cd 113 0 = some (.aload_n 0, 1) := by decide +kernel
theorem k_113_1 : cd 113 1 = some (.getfield 33, 3) := by decide +kernel
theorem k_113_4 : cd 113 4 = some (.iconst 3, 1) := by decide +kernel
theorem k_113_5 : cd 113 5 = some (.imul, 1) := by decide +kernel
theorem k_113_6 : cd 113 6 = some (.istore 4, 2) := by decide +kernel
theorem k_113_8 : cd 113 8 = some (.iload 4, 2) := by decide +kernel
theorem k_113_10 : cd 113 10 = some (.ifCond .lt 53, 3) := by decide +kernel
theorem k_113_13 : cd 113 13 = some (.iload 4, 2) := by decide +kernel
theorem k_113_15 : cd 113 15 = some (.iconst 2, 1) := by decide +kernel
theorem k_113_16 : cd 113 16 = some (.iadd, 1) := by decide +kernel
theorem k_113_17 : cd 113 17 = some (.aload_n 0, 1) := by decide +kernel
theorem k_113_18 : cd 113 18 = some (.getfield 17, 3) := by decide +kernel
theorem k_113_21 : cd 113 21 = some (.arraylength, 1) := by decide +kernel
theorem k_113_22 : cd 113 22 = some (.if_icmp .ge 41, 3) := by decide +kernel
theorem k_113_25 : cd 113 25 = some (.aload_n 0, 1) := by decide +kernel
theorem k_113_26 : cd 113 26 = some (.getfield 17, 3) := by decide +kernel
theorem k_113_29 : cd 113 29 = some (.iload 4, 2) := by decide +kernel
theorem k_113_31 : cd 113 31 = some (.iload_n 1, 1) := by decide +kernel
theorem k_113_32 : cd 113 32 = some (.iastore, 1) := by decide +kernel
theorem k_113_33 : cd 113 33 = some (.aload_n 0, 1) := by decide +kernel
theorem k_113_34 : cd 113 34 = some (.getfield 17, 3) := by decide +kernel
theorem k_113_37 : cd 113 37 = some (.iload 4, 2) := by decide +kernel
theorem k_113_39 : cd 113 39 = some (.iconst 1, 1) := by decide +kernel
theorem k_113_40 : cd 113 40 = some (.iadd, 1) := by decide +kernel
theorem k_113_41 : cd 113 41 = some (.iload_n 2, 1) := by decide +kernel
theorem k_113_42 : cd 113 42 = some (.iastore, 1) := by decide +kernel
theorem k_113_43 : cd 113 43 = some (.aload_n 0, 1) := by decide +kernel
theorem k_113_44 : cd 113 44 = some (.getfield 17, 3) := by decide +kernel
theorem k_113_47 : cd 113 47 = some (.iload 4, 2) := by decide +kernel
theorem k_113_49 : cd 113 49 = some (.iconst 2, 1) := by decide +kernel
theorem k_113_50 : cd 113 50 = some (.iadd, 1) := by decide +kernel
theorem k_113_51 : cd 113 51 = some (.iload_n 3, 1) := by decide +kernel
theorem k_113_52 : cd 113 52 = some (.iastore, 1) := by decide +kernel
theorem k_113_53 : cd 113 53 = some (.aload_n 0, 1) := by decide +kernel
theorem k_113_54 : cd 113 54 = some (.dup, 1) := by decide +kernel
theorem k_113_55 : cd 113 55 = some (.getfield 33, 3) := by decide +kernel
theorem k_113_58 : cd 113 58 = some (.iconst 1, 1) := by decide +kernel
theorem k_113_59 : cd 113 59 = some (.iadd, 1) := by decide +kernel
theorem k_113_60 : cd 113 60 = some (.putfield 33, 3) := by decide +kernel
theorem k_113_63 : cd 113 63 = some (.return_, 1) := by decide +kernel
theorem po_113 : po 113 = 4 := rfl
theorem M_113 {m : Nat} (hm : isM m) {x0 : Int32} {x1 : Int32} {x2 : Int32} {σ : pS} {ρ : Nat → Nat → Option Nat} (e : gR σ = ρ) (hL : LayR ρ) : Le
  (if ((gI σ m 3) * (ι 3)) < (ι 0) then some (0, .null, σ) else if (ι 24) ≤ (((gI σ m 3) * (ι 3)) + (ι 2)) then some (0, .null, σ) else gd (inb ((gI σ m 3) * (ι 3)) 24) (gd (inb (((gI σ m 3) * (ι 3)) + (ι 1)) 24) (gd (inb (((gI σ m 3) * (ι 3)) + (ι 2)) 24) (some (0, .null, (sI (sI (sI (sI σ (m + 2) (ix ((gI σ m 3) * (ι 3))) x0) (m + 2) (ix (((gI σ m 3) * (ι 3)) + (ι 1))) x1) (m + 2) (ix (((gI σ m 3) * (ι 3)) + (ι 2))) x2) m 3 ((gI (sI (sI (sI σ (m + 2) (ix ((gI σ m 3) * (ι 3))) x0) (m + 2) (ix (((gI σ m 3) * (ι 3)) + (ι 1))) x1) (m + 2) (ix (((gI σ m 3) * (ι 3)) + (ι 2))) x2) m 3) + (ι 1))))))))
  (pcall 113 [.ref m, .int x0, .int x1, .int x2] σ) := by
  show Le _ (den 113 0 0 [.ref m, .int x0, .int x1, .int x2, .retAddr 0] [] σ)
  exact r_aload_n k_113_0 rfl rfl
    (r_getI k_113_1 rfl po_113 rfl rfl rfl (kdM hm)
    (r_iconst k_113_4 rfl rfl
    (r_imul k_113_5 rfl
    (r_istore k_113_6 rfl rfl rfl
    (r_iload k_113_8 rfl rfl
    (r_if (tgt := 63) k_113_10 rfl rfl cop_lt
    (r_retV k_113_63 rfl)
    (r_iload k_113_13 rfl rfl
    (r_iconst k_113_15 rfl rfl
    (r_iadd k_113_16 rfl
    (r_aload_n k_113_17 rfl rfl
    (r_getR k_113_18 rfl po_113 rfl rfl rfl (kdM hm) (gRat e (lyM_2 hL hm))
    (r_alenI k_113_21 rfl (kdM_2 hm) rfl
    (r_icmp (tgt := 63) k_113_22 rfl rfl cop_ge
    (r_retV k_113_63 rfl)
    (r_aload_n k_113_25 rfl rfl
    (r_getR k_113_26 rfl po_113 rfl rfl rfl (kdM hm) (gRat e (lyM_2 hL hm))
    (r_iload k_113_29 rfl rfl
    (r_iload_n k_113_31 rfl rfl
    (r_gd fun g => r_iast k_113_32 rfl (kdM_2 hm) g
    (r_aload_n k_113_33 rfl rfl
    (r_getR k_113_34 rfl po_113 rfl rfl rfl (kdM hm) (gRat (eI e) (lyM_2 hL hm))
    (r_iload k_113_37 rfl rfl
    (r_iconst k_113_39 rfl rfl
    (r_iadd k_113_40 rfl
    (r_iload_n k_113_41 rfl rfl
    (r_gd fun g => r_iast k_113_42 rfl (kdM_2 hm) g
    (r_aload_n k_113_43 rfl rfl
    (r_getR k_113_44 rfl po_113 rfl rfl rfl (kdM hm) (gRat (eI (eI e)) (lyM_2 hL hm))
    (r_iload k_113_47 rfl rfl
    (r_iconst k_113_49 rfl rfl
    (r_iadd k_113_50 rfl
    (r_iload_n k_113_51 rfl rfl
    (r_gd fun g => r_iast k_113_52 rfl (kdM_2 hm) g
    (r_aload_n k_113_53 rfl rfl
    (r_dup k_113_54 rfl rfl
    (r_getI k_113_55 rfl po_113 rfl rfl rfl (kdM hm)
    (r_iconst k_113_58 rfl rfl
    (r_iadd k_113_59 rfl
    (r_putI k_113_60 rfl po_113 rfl rfl (kdM hm)
    (r_retV k_113_63 rfl)))))))))))))))))))))))))))))))))))))))
/-! ===== 114 HedgeWants.Memory.lastDaySeen ===== -/
theorem k_114_0 : cd 114 0 = some (.iconst 0, 1) := by decide +kernel
theorem k_114_1 : cd 114 1 = some (.istore_n 1, 1) := by decide +kernel
theorem k_114_2 : cd 114 2 = some (.iconst 0, 1) := by decide +kernel
theorem k_114_3 : cd 114 3 = some (.istore_n 2, 1) := by decide +kernel
theorem k_114_4 : cd 114 4 = some (.iload_n 2, 1) := by decide +kernel
theorem k_114_5 : cd 114 5 = some (.aload_n 0, 1) := by decide +kernel
theorem k_114_6 : cd 114 6 = some (.getfield 33, 3) := by decide +kernel
theorem k_114_9 : cd 114 9 = some (.iconst 3, 1) := by decide +kernel
theorem k_114_10 : cd 114 10 = some (.imul, 1) := by decide +kernel
theorem k_114_11 : cd 114 11 = some (.if_icmp .ge 33, 3) := by decide +kernel
theorem k_114_14 : cd 114 14 = some (.iload_n 2, 1) := by decide +kernel
theorem k_114_15 : cd 114 15 = some (.iconst 2, 1) := by decide +kernel
theorem k_114_16 : cd 114 16 = some (.iadd, 1) := by decide +kernel
theorem k_114_17 : cd 114 17 = some (.aload_n 0, 1) := by decide +kernel
theorem k_114_18 : cd 114 18 = some (.getfield 17, 3) := by decide +kernel
theorem k_114_21 : cd 114 21 = some (.arraylength, 1) := by decide +kernel
theorem k_114_22 : cd 114 22 = some (.if_icmp .ge 22, 3) := by decide +kernel
theorem k_114_25 : cd 114 25 = some (.iload_n 1, 1) := by decide +kernel
theorem k_114_26 : cd 114 26 = some (.aload_n 0, 1) := by decide +kernel
theorem k_114_27 : cd 114 27 = some (.getfield 17, 3) := by decide +kernel
theorem k_114_30 : cd 114 30 = some (.iload_n 2, 1) := by decide +kernel
theorem k_114_31 : cd 114 31 = some (.iconst 1, 1) := by decide +kernel
theorem k_114_32 : cd 114 32 = some (.iadd, 1) := by decide +kernel
theorem k_114_33 : cd 114 33 = some (.iaload, 1) := by decide +kernel
theorem k_114_34 : cd 114 34 = some (.invokestatic 43, 3) := by decide +kernel
theorem k_114_37 : cd 114 37 = some (.istore_n 1, 1) := by decide +kernel
theorem k_114_38 : cd 114 38 = some (.iinc 2 3, 3) := by decide +kernel
theorem k_114_41 : cd 114 41 = some (.goto (-37), 3) := by decide +kernel
theorem k_114_44 : cd 114 44 = some (.iload_n 1, 1) := by decide +kernel
theorem k_114_45 : cd 114 45 = some (.ireturn, 1) := by decide +kernel
theorem po_114 : po 114 = 4 := rfl
noncomputable def C_114_4 (m : Nat) (x1 : Int32) (x2 : Int32) (σ : pS) : Option pZ := den 114 0 4 [.ref m, .int x1, .int x2] [] σ
theorem T_114_4 {m : Nat} (hm : isM m) {x1 : Int32} {x2 : Int32}  {σ : pS} {ρ : Nat → Nat → Option Nat} (e : gR σ = ρ) (hL : LayR ρ) : Le
  (if ((gI σ m 3) * (ι 3)) ≤ x2 then some (1, .int x1, σ) else if (ι 24) ≤ (x2 + (ι 2)) then some (1, .int x1, σ) else gd (inb (x2 + (ι 1)) 24) (C_114_4 m (imax x1 (gI σ (m + 2) (ix (x2 + (ι 1))))) (x2 + (ι 3)) σ))
  (C_114_4 m x1 x2 σ) := by
  unfold C_114_4
  exact r_iload_n k_114_4 rfl rfl
    (r_aload_n k_114_5 rfl rfl
    (r_getI k_114_6 rfl po_114 rfl rfl rfl (kdM hm)
    (r_iconst k_114_9 rfl rfl
    (r_imul k_114_10 rfl
    (r_icmp (tgt := 44) k_114_11 rfl rfl cop_ge
    (r_iload_n k_114_44 rfl rfl
    (r_ret k_114_45 rfl rfl))
    (r_iload_n k_114_14 rfl rfl
    (r_iconst k_114_15 rfl rfl
    (r_iadd k_114_16 rfl
    (r_aload_n k_114_17 rfl rfl
    (r_getR k_114_18 rfl po_114 rfl rfl rfl (kdM hm) (gRat e (lyM_2 hL hm))
    (r_alenI k_114_21 rfl (kdM_2 hm) rfl
    (r_icmp (tgt := 44) k_114_22 rfl rfl cop_ge
    (r_iload_n k_114_44 rfl rfl
    (r_ret k_114_45 rfl rfl))
    (r_iload_n k_114_25 rfl rfl
    (r_aload_n k_114_26 rfl rfl
    (r_getR k_114_27 rfl po_114 rfl rfl rfl (kdM hm) (gRat e (lyM_2 hL hm))
    (r_iload_n k_114_30 rfl rfl
    (r_iconst k_114_31 rfl rfl
    (r_iadd k_114_32 rfl
    (r_gd fun g => r_iald k_114_33 rfl (kdM_2 hm) g
    (r_imax k_114_34 rfl po_114 rfl rfl
    (r_istore_n k_114_37 rfl rfl rfl
    (r_iinc k_114_38 rfl rfl rfl rfl
    (r_goto (tgt := 4) k_114_41 rfl (Le.rfl'))))))))))))))))))))))))
theorem M_114 {m : Nat} (hm : isM m)  {σ : pS} {ρ : Nat → Nat → Option Nat} (e : gR σ = ρ) (hL : LayR ρ) : Le
  (C_114_4 m (ι 0) (ι 0) σ)
  (pcall 114 [.ref m] σ) := by
  show Le _ (den 114 0 0 [.ref m, .retAddr 0, .retAddr 0] [] σ)
  exact r_iconst k_114_0 rfl rfl
    (r_istore_n k_114_1 rfl rfl rfl
    (r_iconst k_114_2 rfl rfl
    (r_istore_n k_114_3 rfl rfl rfl
    (Le.rfl'))))
/-! ===== 115 HedgeWants.Memory.agrees ===== -/
theorem k_115_0 : cd 115 0 = some (.iconst 0, 1) := by decide +kernel
theorem k_115_1 : cd 115 1 = some (.istore_n 3, 1) := by decide +kernel
theorem k_115_2 : cd 115 2 = some (.iload_n 3, 1) := by decide +kernel
theorem k_115_3 : cd 115 3 = some (.aload_n 0, 1) := by decide +kernel
theorem k_115_4 : cd 115 4 = some (.getfield 33, 3) := by decide +kernel
theorem k_115_7 : cd 115 7 = some (.iconst 3, 1) := by decide +kernel
theorem k_115_8 : cd 115 8 = some (.imul, 1) := by decide +kernel
theorem k_115_9 : cd 115 9 = some (.if_icmp .ge 55, 3) := by decide +kernel
theorem k_115_12 : cd 115 12 = some (.iload_n 3, 1) := by decide +kernel
theorem k_115_13 : cd 115 13 = some (.iconst 2, 1) := by decide +kernel
theorem k_115_14 : cd 115 14 = some (.iadd, 1) := by decide +kernel
theorem k_115_15 : cd 115 15 = some (.aload_n 0, 1) := by decide +kernel
theorem k_115_16 : cd 115 16 = some (.getfield 17, 3) := by decide +kernel
theorem k_115_19 : cd 115 19 = some (.arraylength, 1) := by decide +kernel
theorem k_115_20 : cd 115 20 = some (.if_icmp .ge 44, 3) := by decide +kernel
theorem k_115_23 : cd 115 23 = some (.aload_n 0, 1) := by decide +kernel
theorem k_115_24 : cd 115 24 = some (.getfield 17, 3) := by decide +kernel
theorem k_115_27 : cd 115 27 = some (.iload_n 3, 1) := by decide +kernel
theorem k_115_28 : cd 115 28 = some (.iconst 1, 1) := by decide +kernel
theorem k_115_29 : cd 115 29 = some (.iadd, 1) := by decide +kernel
theorem k_115_30 : cd 115 30 = some (.iaload, 1) := by decide +kernel
theorem k_115_31 : cd 115 31 = some (.iload_n 2, 1) := by decide +kernel
theorem k_115_32 : cd 115 32 = some (.if_icmp .ne 26, 3) := by decide +kernel
theorem k_115_35 : cd 115 35 = some (.aload_n 1, 1) := by decide +kernel
theorem k_115_36 : cd 115 36 = some (.aload_n 0, 1) := by decide +kernel
theorem k_115_37 : cd 115 37 = some (.getfield 17, 3) := by decide +kernel
theorem k_115_40 : cd 115 40 = some (.iload_n 3, 1) := by decide +kernel
theorem k_115_41 : cd 115 41 = some (.iaload, 1) := by decide +kernel
theorem k_115_42 : cd 115 42 = some (.invokevirtual 49, 3) := by decide +kernel
theorem k_115_45 : cd 115 45 = some (.aload_n 0, 1) := by decide +kernel
theorem k_115_46 : cd 115 46 = some (.getfield 17, 3) := by decide +kernel
theorem k_115_49 : cd 115 49 = some (.iload_n 3, 1) := by decide +kernel
theorem k_115_50 : cd 115 50 = some (.iconst 2, 1) := by decide +kernel
theorem k_115_51 : cd 115 51 = some (.iadd, 1) := by decide +kernel
theorem k_115_52 : cd 115 52 = some (.iaload, 1) := by decide +kernel
theorem k_115_53 : cd 115 53 = some (.if_icmp .eq 5, 3) := by decide +kernel
theorem k_115_56 : cd 115 56 = some (.iconst 0, 1) := by decide +kernel
theorem k_115_57 : cd 115 57 = some (.ireturn, 1) := by decide +kernel
theorem k_115_58 : cd 115 58 = some (.iinc 3 3, 3) := by decide +kernel
theorem k_115_61 : cd 115 61 = some (.goto (-59), 3) := by decide +kernel
theorem k_115_64 : cd 115 64 = some (.iconst 1, 1) := by decide +kernel
theorem k_115_65 : cd 115 65 = some (.ireturn, 1) := by decide +kernel
theorem po_115 : po 115 = 4 := rfl
noncomputable def C_115_2 (m : Nat) (o0 : Nat) (x2 : Int32) (x3 : Int32) (σ : pS) : Option pZ := den 115 0 2 [.ref m, .ref o0, .int x2, .int x3] [] σ
theorem T_115_2 {m : Nat} (hm : isM m) {o0 : Nat} (ho0 : isW o0) {x2 : Int32} {x3 : Int32}  {σ : pS} {ρ : Nat → Nat → Option Nat} (e : gR σ = ρ) (hL : LayR ρ) : Le
  (if ((gI σ m 3) * (ι 3)) ≤ x3 then some (1, .int (ι 1), σ) else if (ι 24) ≤ (x3 + (ι 2)) then some (1, .int (ι 1), σ) else gd (inb (x3 + (ι 1)) 24) (if ¬ (gI σ (m + 2) (ix (x3 + (ι 1)))) = x2 then C_115_2 m o0 x2 (x3 + (ι 3)) σ else gd (inb x3 24) (bI (pcall 75 [.ref o0, .int (gI σ (m + 2) (ix x3))] σ) fun r1 σ1 => gd (inb (x3 + (ι 2)) 24) (if r1 = (gI σ1 (m + 2) (ix (x3 + (ι 2)))) then C_115_2 m o0 x2 (x3 + (ι 3)) σ1 else some (1, .int (ι 0), σ1)))))
  (C_115_2 m o0 x2 x3 σ) := by
  unfold C_115_2
  exact r_iload_n k_115_2 rfl rfl
    (r_aload_n k_115_3 rfl rfl
    (r_getI k_115_4 rfl po_115 rfl rfl rfl (kdM hm)
    (r_iconst k_115_7 rfl rfl
    (r_imul k_115_8 rfl
    (r_icmp (tgt := 64) k_115_9 rfl rfl cop_ge
    (r_iconst k_115_64 rfl rfl
    (r_ret k_115_65 rfl rfl))
    (r_iload_n k_115_12 rfl rfl
    (r_iconst k_115_13 rfl rfl
    (r_iadd k_115_14 rfl
    (r_aload_n k_115_15 rfl rfl
    (r_getR k_115_16 rfl po_115 rfl rfl rfl (kdM hm) (gRat e (lyM_2 hL hm))
    (r_alenI k_115_19 rfl (kdM_2 hm) rfl
    (r_icmp (tgt := 64) k_115_20 rfl rfl cop_ge
    (r_iconst k_115_64 rfl rfl
    (r_ret k_115_65 rfl rfl))
    (r_aload_n k_115_23 rfl rfl
    (r_getR k_115_24 rfl po_115 rfl rfl rfl (kdM hm) (gRat e (lyM_2 hL hm))
    (r_iload_n k_115_27 rfl rfl
    (r_iconst k_115_28 rfl rfl
    (r_iadd k_115_29 rfl
    (r_gd fun g => r_iald k_115_30 rfl (kdM_2 hm) g
    (r_iload_n k_115_31 rfl rfl
    (r_icmp (tgt := 58) k_115_32 rfl rfl cop_ne
    (r_iinc k_115_58 rfl rfl rfl rfl
    (r_goto (tgt := 2) k_115_61 rfl (Le.rfl')))
    (r_aload_n k_115_35 rfl rfl
    (r_aload_n k_115_36 rfl rfl
    (r_getR k_115_37 rfl po_115 rfl rfl rfl (kdM hm) (gRat e (lyM_2 hL hm))
    (r_iload_n k_115_40 rfl rfl
    (r_gd fun g => r_iald k_115_41 rfl (kdM_2 hm) g
    (r_callI (q_virt (rest := []) (as := [.int (gI σ (m + 2) (ix x3))]) k_115_42 po_115 rfl rfl rfl (rcvO rfl rfl (kdW ho0)) rfl rfl) (lvq (j := 0) rfl (by decide +kernel)) rfl rfl (fun r1 σ1 h1 => r_aload_n k_115_45 rfl rfl
    (r_getR k_115_46 rfl po_115 rfl rfl rfl (kdM hm) (gRat (eC rfl h1 e) (lyM_2 hL hm))
    (r_iload_n k_115_49 rfl rfl
    (r_iconst k_115_50 rfl rfl
    (r_iadd k_115_51 rfl
    (r_gd fun g => r_iald k_115_52 rfl (kdM_2 hm) g
    (r_icmp (tgt := 58) k_115_53 rfl rfl cop_eq
    (r_iinc k_115_58 rfl rfl rfl rfl
    (r_goto (tgt := 2) k_115_61 rfl (Le.rfl')))
    (r_iconst k_115_56 rfl rfl
    (r_ret k_115_57 rfl rfl)))))))))))))))))))))))))))))))))))
theorem M_115 {m : Nat} (hm : isM m) {o0 : Nat} (ho0 : isW o0) {x1 : Int32} {σ : pS} {ρ : Nat → Nat → Option Nat} (e : gR σ = ρ) (hL : LayR ρ) : Le
  (C_115_2 m o0 x1 (ι 0) σ)
  (pcall 115 [.ref m, .ref o0, .int x1] σ) := by
  show Le _ (den 115 0 0 [.ref m, .ref o0, .int x1, .retAddr 0] [] σ)
  exact r_iconst k_115_0 rfl rfl
    (r_istore_n k_115_1 rfl rfl rfl
    (Le.rfl'))
/-! ===== 116 HedgeWants.Envy.couples ===== -/
theorem k_116_0 : cd 116 0 = some (.iconst 0, 1) := by decide +kernel
theorem k_116_1 : cd 116 1 = some (.istore_n 1, 1) := by decide +kernel
theorem k_116_2 : cd 116 2 = some (.iconst 0, 1) := by decide +kernel
theorem k_116_3 : cd 116 3 = some (.istore_n 2, 1) := by decide +kernel
theorem k_116_4 : cd 116 4 = some (.iload_n 2, 1) := by decide +kernel
theorem k_116_5 : cd 116 5 = some (.aload_n 0, 1) := by decide +kernel
theorem k_116_6 : cd 116 6 = some (.invokevirtual 26, 3) := by decide +kernel
theorem k_116_9 : cd 116 9 = some (.if_icmp .ge 42, 3) := by decide +kernel
theorem k_116_12 : cd 116 12 = some (.iconst 0, 1) := by decide +kernel
theorem k_116_13 : cd 116 13 = some (.istore_n 3, 1) := by decide +kernel
theorem k_116_14 : cd 116 14 = some (.iload_n 3, 1) := by decide +kernel
theorem k_116_15 : cd 116 15 = some (.aload_n 0, 1) := by decide +kernel
theorem k_116_16 : cd 116 16 = some (.invokevirtual 26, 3) := by decide +kernel
theorem k_116_19 : cd 116 19 = some (.if_icmp .ge 26, 3) := by decide +kernel
theorem k_116_22 : cd 116 22 = some (.iload_n 1, 1) := by decide +kernel
theorem k_116_23 : cd 116 23 = some (.aload_n 0, 1) := by decide +kernel
theorem k_116_24 : cd 116 24 = some (.iload_n 2, 1) := by decide +kernel
theorem k_116_25 : cd 116 25 = some (.iload_n 3, 1) := by decide +kernel
theorem k_116_26 : cd 116 26 = some (.invokestatic 29, 3) := by decide +kernel
theorem k_116_29 : cd 116 29 = some (.ifCond .eq 7, 3) := by decide +kernel
theorem k_116_32 : cd 116 32 = some (.iconst 1, 1) := by decide +kernel
theorem k_116_33 : cd 116 33 = some (.goto 4, 3) := by decide +kernel
theorem k_116_36 : cd 116 36 = some (.iconst 0, 1) := by decide +kernel
theorem k_116_37 : cd 116 37 = some (.iadd, 1) := by decide +kernel
theorem k_116_38 : cd 116 38 = some (.istore_n 1, 1) := by decide +kernel
theorem k_116_39 : cd 116 39 = some (.iinc 3 1, 3) := by decide +kernel
theorem k_116_42 : cd 116 42 = some (.goto (-28), 3) := by decide +kernel
theorem k_116_45 : cd 116 45 = some (.iinc 2 1, 3) := by decide +kernel
theorem k_116_48 : cd 116 48 = some (.goto (-44), 3) := by decide +kernel
theorem k_116_51 : cd 116 51 = some (.iload_n 1, 1) := by decide +kernel
theorem k_116_52 : cd 116 52 = some (.ireturn, 1) := by decide +kernel
theorem po_116 : po 116 = 10 := rfl
noncomputable def C_116_4 (o0 : Nat) (x1 : Int32) (x2 : Int32) (v3 : Value) (σ : pS) : Option pZ := den 116 0 4 [.ref o0, .int x1, .int x2, v3] [] σ
noncomputable def C_116_14 (o0 : Nat) (x1 : Int32) (x2 : Int32) (x3 : Int32) (σ : pS) : Option pZ := den 116 0 14 [.ref o0, .int x1, .int x2, .int x3] [] σ
theorem T_116_4 {o0 : Nat} (ho0 : isW o0) {x1 : Int32} {x2 : Int32} {v3 : Value}  {σ : pS} {ρ : Nat → Nat → Option Nat} (e : gR σ = ρ) (hL : LayR ρ) : Le
  (bI (pcall 86 [.ref o0] σ) fun r1 σ1 => if r1 ≤ x2 then some (1, .int x1, σ1) else C_116_14 o0 x1 x2 (ι 0) σ1)
  (C_116_4 o0 x1 x2 v3 σ) := by
  unfold C_116_4
  exact r_iload_n k_116_4 rfl rfl
    (r_aload_n k_116_5 rfl rfl
    (r_callI (q_virt (rest := [.int x2]) (as := []) k_116_6 po_116 rfl rfl rfl (rcvO rfl rfl (kdW ho0)) rfl rfl) (lvq (j := 0) rfl (by decide +kernel)) rfl rfl (fun r1 σ1 h1 => r_icmp (tgt := 51) k_116_9 rfl rfl cop_ge
    (r_iload_n k_116_51 rfl rfl
    (r_ret k_116_52 rfl rfl))
    (r_iconst k_116_12 rfl rfl
    (r_istore_n k_116_13 rfl rfl rfl
    (Le.rfl'))))))
theorem T_116_14 {o0 : Nat} (ho0 : isW o0) {x1 : Int32} {x2 : Int32} {x3 : Int32}  {σ : pS} {ρ : Nat → Nat → Option Nat} (e : gR σ = ρ) (hL : LayR ρ) : Le
  (bI (pcall 86 [.ref o0] σ) fun r1 σ1 => if r1 ≤ x3 then C_116_4 o0 x1 (x2 + (ι 1)) (.int x3) σ1 else bI (pcall 117 [.ref o0, .int x2, .int x3] σ1) fun r2 σ2 => if r2 = (ι 0) then C_116_14 o0 (x1 + (ι 0)) x2 (x3 + (ι 1)) σ2 else C_116_14 o0 (x1 + (ι 1)) x2 (x3 + (ι 1)) σ2)
  (C_116_14 o0 x1 x2 x3 σ) := by
  unfold C_116_14
  exact r_iload_n k_116_14 rfl rfl
    (r_aload_n k_116_15 rfl rfl
    (r_callI (q_virt (rest := [.int x3]) (as := []) k_116_16 po_116 rfl rfl rfl (rcvO rfl rfl (kdW ho0)) rfl rfl) (lvq (j := 0) rfl (by decide +kernel)) rfl rfl (fun r1 σ1 h1 => r_icmp (tgt := 45) k_116_19 rfl rfl cop_ge
    (r_iinc k_116_45 rfl rfl rfl rfl
    (r_goto (tgt := 4) k_116_48 rfl (Le.rfl')))
    (r_iload_n k_116_22 rfl rfl
    (r_aload_n k_116_23 rfl rfl
    (r_iload_n k_116_24 rfl rfl
    (r_iload_n k_116_25 rfl rfl
    (r_callI (q_stat (rest := [.int x1]) (av := [.ref o0, .int x2, .int x3]) k_116_26 po_116 rfl (by decide) rfl rfl rfl rfl) (lvq (j := 0) rfl (by decide +kernel)) rfl rfl (fun r2 σ2 h2 => r_if (tgt := 36) k_116_29 rfl rfl cop_eq
    (r_iconst k_116_36 rfl rfl
    (r_iadd k_116_37 rfl
    (r_istore_n k_116_38 rfl rfl rfl
    (r_iinc k_116_39 rfl rfl rfl rfl
    (r_goto (tgt := 14) k_116_42 rfl (Le.rfl'))))))
    (r_iconst k_116_32 rfl rfl
    (r_goto (tgt := 37) k_116_33 rfl (r_iadd k_116_37 rfl
    (r_istore_n k_116_38 rfl rfl rfl
    (r_iinc k_116_39 rfl rfl rfl rfl
    (r_goto (tgt := 14) k_116_42 rfl (Le.rfl'))))))))))))))))
theorem M_116 {o0 : Nat} (ho0 : isW o0)  {σ : pS} {ρ : Nat → Nat → Option Nat} (e : gR σ = ρ) (hL : LayR ρ) : Le
  (C_116_4 o0 (ι 0) (ι 0) (.retAddr 0) σ)
  (pcall 116 [.ref o0] σ) := by
  show Le _ (den 116 0 0 [.ref o0, .retAddr 0, .retAddr 0, .retAddr 0] [] σ)
  exact r_iconst k_116_0 rfl rfl
    (r_istore_n k_116_1 rfl rfl rfl
    (r_iconst k_116_2 rfl rfl
    (r_istore_n k_116_3 rfl rfl rfl
    (Le.rfl'))))
/-! ===== 117 HedgeWants.Envy.isBetween ===== -/
theorem k_117_0 : cd 117 0 = some (.iconst 0, 1) := by decide +kernel
theorem k_117_1 : cd 117 1 = some (.istore_n 3, 1) := by decide +kernel
theorem k_117_2 : cd 117 2 = some (.iconst 0, 1) := by decide +kernel
theorem k_117_3 : cd 117 3 = some (.istore 4, 2) := by decide +kernel
theorem k_117_5 : cd 117 5 = some (.iload 4, 2) := by decide +kernel
theorem k_117_7 : cd 117 7 = some (.aload_n 0, 1) := by decide +kernel
theorem k_117_8 : cd 117 8 = some (.invokevirtual 9, 3) := by decide +kernel
theorem k_117_11 : cd 117 11 = some (.if_icmp .ge 33, 3) := by decide +kernel
theorem k_117_14 : cd 117 14 = some (.iload_n 3, 1) := by decide +kernel
theorem k_117_15 : cd 117 15 = some (.aload_n 0, 1) := by decide +kernel
theorem k_117_16 : cd 117 16 = some (.iload 4, 2) := by decide +kernel
theorem k_117_18 : cd 117 18 = some (.invokevirtual 15, 3) := by decide +kernel
theorem k_117_21 : cd 117 21 = some (.iload_n 2, 1) := by decide +kernel
theorem k_117_22 : cd 117 22 = some (.if_icmp .ne 13, 3) := by decide +kernel
theorem k_117_25 : cd 117 25 = some (.aload_n 0, 1) := by decide +kernel
theorem k_117_26 : cd 117 26 = some (.iload_n 1, 1) := by decide +kernel
theorem k_117_27 : cd 117 27 = some (.iload 4, 2) := by decide +kernel
theorem k_117_29 : cd 117 29 = some (.invokevirtual 19, 3) := by decide +kernel
theorem k_117_32 : cd 117 32 = some (.goto 4, 3) := by decide +kernel
theorem k_117_35 : cd 117 35 = some (.iconst 0, 1) := by decide +kernel
theorem k_117_36 : cd 117 36 = some (.iadd, 1) := by decide +kernel
theorem k_117_37 : cd 117 37 = some (.istore_n 3, 1) := by decide +kernel
theorem k_117_38 : cd 117 38 = some (.iinc 4 1, 3) := by decide +kernel
theorem k_117_41 : cd 117 41 = some (.goto (-36), 3) := by decide +kernel
theorem k_117_44 : cd 117 44 = some (.iload_n 1, 1) := by decide +kernel
theorem k_117_45 : cd 117 45 = some (.iload_n 2, 1) := by decide +kernel
theorem k_117_46 : cd 117 46 = some (.if_icmp .eq 16, 3) := by decide +kernel
theorem k_117_49 : cd 117 49 = some (.iload_n 3, 1) := by decide +kernel
theorem k_117_50 : cd 117 50 = some (.aload_n 0, 1) := by decide +kernel
theorem k_117_51 : cd 117 51 = some (.iload_n 1, 1) := by decide +kernel
theorem k_117_52 : cd 117 52 = some (.invokevirtual 23, 3) := by decide +kernel
theorem k_117_55 : cd 117 55 = some (.if_icmp .le 7, 3) := by decide +kernel
theorem k_117_58 : cd 117 58 = some (.iconst 1, 1) := by decide +kernel
theorem k_117_59 : cd 117 59 = some (.goto 4, 3) := by decide +kernel
theorem k_117_62 : cd 117 62 = some (.iconst 0, 1) := by decide +kernel
theorem k_117_63 : cd 117 63 = some (.ireturn, 1) := by decide +kernel
theorem po_117 : po 117 = 10 := rfl
noncomputable def C_117_5 (o0 : Nat) (x1 : Int32) (x2 : Int32) (x3 : Int32) (x4 : Int32) (σ : pS) : Option pZ := den 117 0 5 [.ref o0, .int x1, .int x2, .int x3, .int x4] [] σ
theorem T_117_5 {o0 : Nat} (ho0 : isW o0) {x1 : Int32} {x2 : Int32} {x3 : Int32} {x4 : Int32}  {σ : pS} {ρ : Nat → Nat → Option Nat} (e : gR σ = ρ) (hL : LayR ρ) : Le
  (bI (pcall 87 [.ref o0] σ) fun r1 σ1 => if r1 ≤ x4 then if x1 = x2 then some (1, .int (ι 0), σ1) else bI (pcall 90 [.ref o0, .int x1] σ1) fun r2 σ2 => if x3 ≤ r2 then some (1, .int (ι 0), σ2) else some (1, .int (ι 1), σ2) else bI (pcall 75 [.ref o0, .int x4] σ1) fun r3 σ3 => if ¬ r3 = x2 then C_117_5 o0 x1 x2 (x3 + (ι 0)) (x4 + (ι 1)) σ3 else bI (pcall 73 [.ref o0, .int x1, .int x4] σ3) fun r4 σ4 => C_117_5 o0 x1 x2 (x3 + r4) (x4 + (ι 1)) σ4)
  (C_117_5 o0 x1 x2 x3 x4 σ) := by
  unfold C_117_5
  exact r_iload k_117_5 rfl rfl
    (r_aload_n k_117_7 rfl rfl
    (r_callI (q_virt (rest := [.int x4]) (as := []) k_117_8 po_117 rfl rfl rfl (rcvO rfl rfl (kdW ho0)) rfl rfl) (lvq (j := 0) rfl (by decide +kernel)) rfl rfl (fun r1 σ1 h1 => r_icmp (tgt := 44) k_117_11 rfl rfl cop_ge
    (r_iload_n k_117_44 rfl rfl
    (r_iload_n k_117_45 rfl rfl
    (r_icmp (tgt := 62) k_117_46 rfl rfl cop_eq
    (r_iconst k_117_62 rfl rfl
    (r_ret k_117_63 rfl rfl))
    (r_iload_n k_117_49 rfl rfl
    (r_aload_n k_117_50 rfl rfl
    (r_iload_n k_117_51 rfl rfl
    (r_callI (q_virt (rest := [.int x3]) (as := [.int x1]) k_117_52 po_117 rfl rfl rfl (rcvO rfl rfl (kdW ho0)) rfl rfl) (lvq (j := 0) rfl (by decide +kernel)) rfl rfl (fun r2 σ2 h2 => r_icmp (tgt := 62) k_117_55 rfl rfl cop_le
    (r_iconst k_117_62 rfl rfl
    (r_ret k_117_63 rfl rfl))
    (r_iconst k_117_58 rfl rfl
    (r_goto (tgt := 63) k_117_59 rfl (r_ret k_117_63 rfl rfl)))))))))))
    (r_iload_n k_117_14 rfl rfl
    (r_aload_n k_117_15 rfl rfl
    (r_iload k_117_16 rfl rfl
    (r_callI (q_virt (rest := [.int x3]) (as := [.int x4]) k_117_18 po_117 rfl rfl rfl (rcvO rfl rfl (kdW ho0)) rfl rfl) (lvq (j := 0) rfl (by decide +kernel)) rfl rfl (fun r3 σ3 h3 => r_iload_n k_117_21 rfl rfl
    (r_icmp (tgt := 35) k_117_22 rfl rfl cop_ne
    (r_iconst k_117_35 rfl rfl
    (r_iadd k_117_36 rfl
    (r_istore_n k_117_37 rfl rfl rfl
    (r_iinc k_117_38 rfl rfl rfl rfl
    (r_goto (tgt := 5) k_117_41 rfl (Le.rfl'))))))
    (r_aload_n k_117_25 rfl rfl
    (r_iload_n k_117_26 rfl rfl
    (r_iload k_117_27 rfl rfl
    (r_callI (q_virt (rest := [.int x3]) (as := [.int x1, .int x4]) k_117_29 po_117 rfl rfl rfl (rcvO rfl rfl (kdW ho0)) rfl rfl) (lvq (j := 0) rfl (by decide +kernel)) rfl rfl (fun r4 σ4 h4 => r_goto (tgt := 36) k_117_32 rfl (r_iadd k_117_36 rfl
    (r_istore_n k_117_37 rfl rfl rfl
    (r_iinc k_117_38 rfl rfl rfl rfl
    (r_goto (tgt := 5) k_117_41 rfl (Le.rfl')))))))))))))))))))
theorem M_117 {o0 : Nat} (ho0 : isW o0) {x1 : Int32} {x2 : Int32} {σ : pS} {ρ : Nat → Nat → Option Nat} (e : gR σ = ρ) (hL : LayR ρ) : Le
  (C_117_5 o0 x1 x2 (ι 0) (ι 0) σ)
  (pcall 117 [.ref o0, .int x1, .int x2] σ) := by
  show Le _ (den 117 0 0 [.ref o0, .int x1, .int x2, .retAddr 0, .retAddr 0] [] σ)
  exact r_iconst k_117_0 rfl rfl
    (r_istore_n k_117_1 rfl rfl rfl
    (r_iconst k_117_2 rfl rfl
    (r_istore k_117_3 rfl rfl rfl
    (Le.rfl'))))
/-! ===== 118 HedgeWants.Envy.swaps ===== -/
theorem k_118_0 : cd 118 0 = some (.iconst 0, 1) := by decide +kernel
theorem k_118_1 : cd 118 1 = some (.istore_n 1, 1) := by decide +kernel
theorem k_118_2 : cd 118 2 = some (.iconst 0, 1) := by decide +kernel
theorem k_118_3 : cd 118 3 = some (.istore_n 2, 1) := by decide +kernel
theorem k_118_4 : cd 118 4 = some (.iload_n 2, 1) := by decide +kernel
theorem k_118_5 : cd 118 5 = some (.aload_n 0, 1) := by decide +kernel
theorem k_118_6 : cd 118 6 = some (.invokevirtual 9, 3) := by decide +kernel
theorem k_118_9 : cd 118 9 = some (.if_icmp .ge 44, 3) := by decide +kernel
theorem k_118_12 : cd 118 12 = some (.iload_n 2, 1) := by decide +kernel
theorem k_118_13 : cd 118 13 = some (.iconst 1, 1) := by decide +kernel
theorem k_118_14 : cd 118 14 = some (.iadd, 1) := by decide +kernel
theorem k_118_15 : cd 118 15 = some (.istore_n 3, 1) := by decide +kernel
theorem k_118_16 : cd 118 16 = some (.iload_n 3, 1) := by decide +kernel
theorem k_118_17 : cd 118 17 = some (.aload_n 0, 1) := by decide +kernel
theorem k_118_18 : cd 118 18 = some (.invokevirtual 9, 3) := by decide +kernel
theorem k_118_21 : cd 118 21 = some (.if_icmp .ge 26, 3) := by decide +kernel
theorem k_118_24 : cd 118 24 = some (.iload_n 1, 1) := by decide +kernel
theorem k_118_25 : cd 118 25 = some (.aload_n 0, 1) := by decide +kernel
theorem k_118_26 : cd 118 26 = some (.iload_n 2, 1) := by decide +kernel
theorem k_118_27 : cd 118 27 = some (.iload_n 3, 1) := by decide +kernel
theorem k_118_28 : cd 118 28 = some (.invokestatic 39, 3) := by decide +kernel
theorem k_118_31 : cd 118 31 = some (.ifCond .eq 7, 3) := by decide +kernel
theorem k_118_34 : cd 118 34 = some (.iconst 1, 1) := by decide +kernel
theorem k_118_35 : cd 118 35 = some (.goto 4, 3) := by decide +kernel
theorem k_118_38 : cd 118 38 = some (.iconst 0, 1) := by decide +kernel
theorem k_118_39 : cd 118 39 = some (.iadd, 1) := by decide +kernel
theorem k_118_40 : cd 118 40 = some (.istore_n 1, 1) := by decide +kernel
theorem k_118_41 : cd 118 41 = some (.iinc 3 1, 3) := by decide +kernel
theorem k_118_44 : cd 118 44 = some (.goto (-28), 3) := by decide +kernel
theorem k_118_47 : cd 118 47 = some (.iinc 2 1, 3) := by decide +kernel
theorem k_118_50 : cd 118 50 = some (.goto (-46), 3) := by decide +kernel
theorem k_118_53 : cd 118 53 = some (.iload_n 1, 1) := by decide +kernel
theorem k_118_54 : cd 118 54 = some (.ireturn, 1) := by decide +kernel
theorem po_118 : po 118 = 10 := rfl
noncomputable def C_118_4 (o0 : Nat) (x1 : Int32) (x2 : Int32) (v3 : Value) (σ : pS) : Option pZ := den 118 0 4 [.ref o0, .int x1, .int x2, v3] [] σ
noncomputable def C_118_16 (o0 : Nat) (x1 : Int32) (x2 : Int32) (x3 : Int32) (σ : pS) : Option pZ := den 118 0 16 [.ref o0, .int x1, .int x2, .int x3] [] σ
theorem T_118_4 {o0 : Nat} (ho0 : isW o0) {x1 : Int32} {x2 : Int32} {v3 : Value}  {σ : pS} {ρ : Nat → Nat → Option Nat} (e : gR σ = ρ) (hL : LayR ρ) : Le
  (bI (pcall 87 [.ref o0] σ) fun r1 σ1 => if r1 ≤ x2 then some (1, .int x1, σ1) else C_118_16 o0 x1 x2 (x2 + (ι 1)) σ1)
  (C_118_4 o0 x1 x2 v3 σ) := by
  unfold C_118_4
  exact r_iload_n k_118_4 rfl rfl
    (r_aload_n k_118_5 rfl rfl
    (r_callI (q_virt (rest := [.int x2]) (as := []) k_118_6 po_118 rfl rfl rfl (rcvO rfl rfl (kdW ho0)) rfl rfl) (lvq (j := 0) rfl (by decide +kernel)) rfl rfl (fun r1 σ1 h1 => r_icmp (tgt := 53) k_118_9 rfl rfl cop_ge
    (r_iload_n k_118_53 rfl rfl
    (r_ret k_118_54 rfl rfl))
    (r_iload_n k_118_12 rfl rfl
    (r_iconst k_118_13 rfl rfl
    (r_iadd k_118_14 rfl
    (r_istore_n k_118_15 rfl rfl rfl
    (Le.rfl'))))))))
theorem T_118_16 {o0 : Nat} (ho0 : isW o0) {x1 : Int32} {x2 : Int32} {x3 : Int32}  {σ : pS} {ρ : Nat → Nat → Option Nat} (e : gR σ = ρ) (hL : LayR ρ) : Le
  (bI (pcall 87 [.ref o0] σ) fun r1 σ1 => if r1 ≤ x3 then C_118_4 o0 x1 (x2 + (ι 1)) (.int x3) σ1 else bI (pcall 119 [.ref o0, .int x2, .int x3] σ1) fun r2 σ2 => if r2 = (ι 0) then C_118_16 o0 (x1 + (ι 0)) x2 (x3 + (ι 1)) σ2 else C_118_16 o0 (x1 + (ι 1)) x2 (x3 + (ι 1)) σ2)
  (C_118_16 o0 x1 x2 x3 σ) := by
  unfold C_118_16
  exact r_iload_n k_118_16 rfl rfl
    (r_aload_n k_118_17 rfl rfl
    (r_callI (q_virt (rest := [.int x3]) (as := []) k_118_18 po_118 rfl rfl rfl (rcvO rfl rfl (kdW ho0)) rfl rfl) (lvq (j := 0) rfl (by decide +kernel)) rfl rfl (fun r1 σ1 h1 => r_icmp (tgt := 47) k_118_21 rfl rfl cop_ge
    (r_iinc k_118_47 rfl rfl rfl rfl
    (r_goto (tgt := 4) k_118_50 rfl (Le.rfl')))
    (r_iload_n k_118_24 rfl rfl
    (r_aload_n k_118_25 rfl rfl
    (r_iload_n k_118_26 rfl rfl
    (r_iload_n k_118_27 rfl rfl
    (r_callI (q_stat (rest := [.int x1]) (av := [.ref o0, .int x2, .int x3]) k_118_28 po_118 rfl (by decide) rfl rfl rfl rfl) (lvq (j := 0) rfl (by decide +kernel)) rfl rfl (fun r2 σ2 h2 => r_if (tgt := 38) k_118_31 rfl rfl cop_eq
    (r_iconst k_118_38 rfl rfl
    (r_iadd k_118_39 rfl
    (r_istore_n k_118_40 rfl rfl rfl
    (r_iinc k_118_41 rfl rfl rfl rfl
    (r_goto (tgt := 16) k_118_44 rfl (Le.rfl'))))))
    (r_iconst k_118_34 rfl rfl
    (r_goto (tgt := 39) k_118_35 rfl (r_iadd k_118_39 rfl
    (r_istore_n k_118_40 rfl rfl rfl
    (r_iinc k_118_41 rfl rfl rfl rfl
    (r_goto (tgt := 16) k_118_44 rfl (Le.rfl'))))))))))))))))
theorem M_118 {o0 : Nat} (ho0 : isW o0)  {σ : pS} {ρ : Nat → Nat → Option Nat} (e : gR σ = ρ) (hL : LayR ρ) : Le
  (C_118_4 o0 (ι 0) (ι 0) (.retAddr 0) σ)
  (pcall 118 [.ref o0] σ) := by
  show Le _ (den 118 0 0 [.ref o0, .retAddr 0, .retAddr 0, .retAddr 0] [] σ)
  exact r_iconst k_118_0 rfl rfl
    (r_istore_n k_118_1 rfl rfl rfl
    (r_iconst k_118_2 rfl rfl
    (r_istore_n k_118_3 rfl rfl rfl
    (Le.rfl'))))
/-! ===== 119 HedgeWants.Envy.bothGain ===== -/
theorem k_119_0 : cd 119 0 = some (.aload_n 0, 1) := by decide +kernel
theorem k_119_1 : cd 119 1 = some (.iload_n 1, 1) := by decide +kernel
theorem k_119_2 : cd 119 2 = some (.invokevirtual 15, 3) := by decide +kernel
theorem k_119_5 : cd 119 5 = some (.istore_n 3, 1) := by decide +kernel
theorem k_119_6 : cd 119 6 = some (.aload_n 0, 1) := by decide +kernel
theorem k_119_7 : cd 119 7 = some (.iload_n 2, 1) := by decide +kernel
theorem k_119_8 : cd 119 8 = some (.invokevirtual 15, 3) := by decide +kernel
theorem k_119_11 : cd 119 11 = some (.istore 4, 2) := by decide +kernel
theorem k_119_13 : cd 119 13 = some (.iload_n 3, 1) := by decide +kernel
theorem k_119_14 : cd 119 14 = some (.iload 4, 2) := by decide +kernel
theorem k_119_16 : cd 119 16 = some (.if_icmp .eq 39, 3) := by decide +kernel
theorem k_119_19 : cd 119 19 = some (.aload_n 0, 1) := by decide +kernel
theorem k_119_20 : cd 119 20 = some (.iload_n 3, 1) := by decide +kernel
theorem k_119_21 : cd 119 21 = some (.iload_n 2, 1) := by decide +kernel
theorem k_119_22 : cd 119 22 = some (.invokevirtual 19, 3) := by decide +kernel
theorem k_119_25 : cd 119 25 = some (.aload_n 0, 1) := by decide +kernel
theorem k_119_26 : cd 119 26 = some (.iload_n 3, 1) := by decide +kernel
theorem k_119_27 : cd 119 27 = some (.iload_n 1, 1) := by decide +kernel
theorem k_119_28 : cd 119 28 = some (.invokevirtual 42, 3) := by decide +kernel
theorem k_119_31 : cd 119 31 = some (.if_icmp .le 24, 3) := by decide +kernel
theorem k_119_34 : cd 119 34 = some (.aload_n 0, 1) := by decide +kernel
theorem k_119_35 : cd 119 35 = some (.iload 4, 2) := by decide +kernel
theorem k_119_37 : cd 119 37 = some (.iload_n 1, 1) := by decide +kernel
theorem k_119_38 : cd 119 38 = some (.invokevirtual 19, 3) := by decide +kernel
theorem k_119_41 : cd 119 41 = some (.aload_n 0, 1) := by decide +kernel
theorem k_119_42 : cd 119 42 = some (.iload 4, 2) := by decide +kernel
theorem k_119_44 : cd 119 44 = some (.iload_n 2, 1) := by decide +kernel
theorem k_119_45 : cd 119 45 = some (.invokevirtual 42, 3) := by decide +kernel
theorem k_119_48 : cd 119 48 = some (.if_icmp .le 7, 3) := by decide +kernel
theorem k_119_51 : cd 119 51 = some (.iconst 1, 1) := by decide +kernel
theorem k_119_52 : cd 119 52 = some (.goto 4, 3) := by decide +kernel
theorem k_119_55 : cd 119 55 = some (.iconst 0, 1) := by decide +kernel
theorem k_119_56 : cd 119 56 = some (.ireturn, 1) := by decide +kernel
theorem po_119 : po 119 = 10 := rfl
theorem M_119 {o0 : Nat} (ho0 : isW o0) {x1 : Int32} {x2 : Int32} {σ : pS} {ρ : Nat → Nat → Option Nat} (e : gR σ = ρ) (hL : LayR ρ) : Le
  (bI (pcall 75 [.ref o0, .int x1] σ) fun r1 σ1 => bI (pcall 75 [.ref o0, .int x2] σ1) fun r2 σ2 => if r1 = r2 then some (1, .int (ι 0), σ2) else bI (pcall 73 [.ref o0, .int r1, .int x2] σ2) fun r3 σ3 => bI (pcall 74 [.ref o0, .int r1, .int x1] σ3) fun r4 σ4 => if r3 ≤ r4 then some (1, .int (ι 0), σ4) else bI (pcall 73 [.ref o0, .int r2, .int x1] σ4) fun r5 σ5 => bI (pcall 74 [.ref o0, .int r2, .int x2] σ5) fun r6 σ6 => if r5 ≤ r6 then some (1, .int (ι 0), σ6) else some (1, .int (ι 1), σ6))
  (pcall 119 [.ref o0, .int x1, .int x2] σ) := by
  show Le _ (den 119 0 0 [.ref o0, .int x1, .int x2, .retAddr 0, .retAddr 0] [] σ)
  exact r_aload_n k_119_0 rfl rfl
    (r_iload_n k_119_1 rfl rfl
    (r_callI (q_virt (rest := []) (as := [.int x1]) k_119_2 po_119 rfl rfl rfl (rcvO rfl rfl (kdW ho0)) rfl rfl) (lvq (j := 0) rfl (by decide +kernel)) rfl rfl (fun r1 σ1 h1 => r_istore_n k_119_5 rfl rfl rfl
    (r_aload_n k_119_6 rfl rfl
    (r_iload_n k_119_7 rfl rfl
    (r_callI (q_virt (rest := []) (as := [.int x2]) k_119_8 po_119 rfl rfl rfl (rcvO rfl rfl (kdW ho0)) rfl rfl) (lvq (j := 0) rfl (by decide +kernel)) rfl rfl (fun r2 σ2 h2 => r_istore k_119_11 rfl rfl rfl
    (r_iload_n k_119_13 rfl rfl
    (r_iload k_119_14 rfl rfl
    (r_icmp (tgt := 55) k_119_16 rfl rfl cop_eq
    (r_iconst k_119_55 rfl rfl
    (r_ret k_119_56 rfl rfl))
    (r_aload_n k_119_19 rfl rfl
    (r_iload_n k_119_20 rfl rfl
    (r_iload_n k_119_21 rfl rfl
    (r_callI (q_virt (rest := []) (as := [.int r1, .int x2]) k_119_22 po_119 rfl rfl rfl (rcvO rfl rfl (kdW ho0)) rfl rfl) (lvq (j := 0) rfl (by decide +kernel)) rfl rfl (fun r3 σ3 h3 => r_aload_n k_119_25 rfl rfl
    (r_iload_n k_119_26 rfl rfl
    (r_iload_n k_119_27 rfl rfl
    (r_callI (q_virt (rest := [.int r3]) (as := [.int r1, .int x1]) k_119_28 po_119 rfl rfl rfl (rcvO rfl rfl (kdW ho0)) rfl rfl) (lvq (j := 0) rfl (by decide +kernel)) rfl rfl (fun r4 σ4 h4 => r_icmp (tgt := 55) k_119_31 rfl rfl cop_le
    (r_iconst k_119_55 rfl rfl
    (r_ret k_119_56 rfl rfl))
    (r_aload_n k_119_34 rfl rfl
    (r_iload k_119_35 rfl rfl
    (r_iload_n k_119_37 rfl rfl
    (r_callI (q_virt (rest := []) (as := [.int r2, .int x1]) k_119_38 po_119 rfl rfl rfl (rcvO rfl rfl (kdW ho0)) rfl rfl) (lvq (j := 0) rfl (by decide +kernel)) rfl rfl (fun r5 σ5 h5 => r_aload_n k_119_41 rfl rfl
    (r_iload k_119_42 rfl rfl
    (r_iload_n k_119_44 rfl rfl
    (r_callI (q_virt (rest := [.int r5]) (as := [.int r2, .int x2]) k_119_45 po_119 rfl rfl rfl (rcvO rfl rfl (kdW ho0)) rfl rfl) (lvq (j := 0) rfl (by decide +kernel)) rfl rfl (fun r6 σ6 h6 => r_icmp (tgt := 55) k_119_48 rfl rfl cop_le
    (r_iconst k_119_55 rfl rfl
    (r_ret k_119_56 rfl rfl))
    (r_iconst k_119_51 rfl rfl
    (r_goto (tgt := 56) k_119_52 rfl (r_ret k_119_56 rfl rfl)))))))))))))))))))))))))))))))
/-! ===== 120 HedgeWants.Envy.firstSwap ===== -/
theorem k_120_0 : cd 120 0 = some (.iconst 0, 1) := by decide +kernel
theorem k_120_1 : cd 120 1 = some (.istore_n 1, 1) := by decide +kernel
theorem k_120_2 : cd 120 2 = some (.iload_n 1, 1) := by decide +kernel
theorem k_120_3 : cd 120 3 = some (.aload_n 0, 1) := by decide +kernel
theorem k_120_4 : cd 120 4 = some (.invokevirtual 9, 3) := by decide +kernel
theorem k_120_7 : cd 120 7 = some (.if_icmp .ge 43, 3) := by decide +kernel
theorem k_120_10 : cd 120 10 = some (.iload_n 1, 1) := by decide +kernel
theorem k_120_11 : cd 120 11 = some (.iconst 1, 1) := by decide +kernel
theorem k_120_12 : cd 120 12 = some (.iadd, 1) := by decide +kernel
theorem k_120_13 : cd 120 13 = some (.istore_n 2, 1) := by decide +kernel
theorem k_120_14 : cd 120 14 = some (.iload_n 2, 1) := by decide +kernel
theorem k_120_15 : cd 120 15 = some (.aload_n 0, 1) := by decide +kernel
theorem k_120_16 : cd 120 16 = some (.invokevirtual 9, 3) := by decide +kernel
theorem k_120_19 : cd 120 19 = some (.if_icmp .ge 25, 3) := by decide +kernel
theorem k_120_22 : cd 120 22 = some (.aload_n 0, 1) := by decide +kernel
theorem k_120_23 : cd 120 23 = some (.iload_n 1, 1) := by decide +kernel
theorem k_120_24 : cd 120 24 = some (.iload_n 2, 1) := by decide +kernel
theorem k_120_25 : cd 120 25 = some (.invokestatic 39, 3) := by decide +kernel
theorem k_120_28 : cd 120 28 = some (.ifCond .eq 10, 3) := by decide +kernel
theorem k_120_31 : cd 120 31 = some (.bipush 100, 2) := by decide +kernel
theorem k_120_33 : cd 120 33 = some (.iload_n 1, 1) := by decide +kernel
theorem k_120_34 : cd 120 34 = some (.imul, 1) := by decide +kernel
theorem k_120_35 : cd 120 35 = some (.iload_n 2, 1) := by decide +kernel
theorem k_120_36 : cd 120 36 = some (.iadd, 1) := by decide +kernel
theorem k_120_37 : cd 120 37 = some (.ireturn, 1) := by decide +kernel
theorem k_120_38 : cd 120 38 = some (.iinc 2 1, 3) := by decide +kernel
theorem k_120_41 : cd 120 41 = some (.goto (-27), 3) := by decide +kernel
theorem k_120_44 : cd 120 44 = some (.iinc 1 1, 3) := by decide +kernel
theorem k_120_47 : cd 120 47 = some (.goto (-45), 3) := by decide +kernel
theorem k_120_50 : cd 120 50 = some (.iconst (-1), 1) := by decide +kernel
theorem k_120_51 : cd 120 51 = some (.ireturn, 1) := by decide +kernel
theorem po_120 : po 120 = 10 := rfl
noncomputable def C_120_2 (o0 : Nat) (x1 : Int32) (v2 : Value) (σ : pS) : Option pZ := den 120 0 2 [.ref o0, .int x1, v2] [] σ
noncomputable def C_120_14 (o0 : Nat) (x1 : Int32) (x2 : Int32) (σ : pS) : Option pZ := den 120 0 14 [.ref o0, .int x1, .int x2] [] σ
theorem T_120_2 {o0 : Nat} (ho0 : isW o0) {x1 : Int32} {v2 : Value}  {σ : pS} {ρ : Nat → Nat → Option Nat} (e : gR σ = ρ) (hL : LayR ρ) : Le
  (bI (pcall 87 [.ref o0] σ) fun r1 σ1 => if r1 ≤ x1 then some (1, .int (ν 1), σ1) else C_120_14 o0 x1 (x1 + (ι 1)) σ1)
  (C_120_2 o0 x1 v2 σ) := by
  unfold C_120_2
  exact r_iload_n k_120_2 rfl rfl
    (r_aload_n k_120_3 rfl rfl
    (r_callI (q_virt (rest := [.int x1]) (as := []) k_120_4 po_120 rfl rfl rfl (rcvO rfl rfl (kdW ho0)) rfl rfl) (lvq (j := 0) rfl (by decide +kernel)) rfl rfl (fun r1 σ1 h1 => r_icmp (tgt := 50) k_120_7 rfl rfl cop_ge
    (r_iconst k_120_50 rfl rfl
    (r_ret k_120_51 rfl rfl))
    (r_iload_n k_120_10 rfl rfl
    (r_iconst k_120_11 rfl rfl
    (r_iadd k_120_12 rfl
    (r_istore_n k_120_13 rfl rfl rfl
    (Le.rfl'))))))))
theorem T_120_14 {o0 : Nat} (ho0 : isW o0) {x1 : Int32} {x2 : Int32}  {σ : pS} {ρ : Nat → Nat → Option Nat} (e : gR σ = ρ) (hL : LayR ρ) : Le
  (bI (pcall 87 [.ref o0] σ) fun r1 σ1 => if r1 ≤ x2 then C_120_2 o0 (x1 + (ι 1)) (.int x2) σ1 else bI (pcall 119 [.ref o0, .int x1, .int x2] σ1) fun r2 σ2 => if r2 = (ι 0) then C_120_14 o0 x1 (x2 + (ι 1)) σ2 else some (1, .int (((ι 100) * x1) + x2), σ2))
  (C_120_14 o0 x1 x2 σ) := by
  unfold C_120_14
  exact r_iload_n k_120_14 rfl rfl
    (r_aload_n k_120_15 rfl rfl
    (r_callI (q_virt (rest := [.int x2]) (as := []) k_120_16 po_120 rfl rfl rfl (rcvO rfl rfl (kdW ho0)) rfl rfl) (lvq (j := 0) rfl (by decide +kernel)) rfl rfl (fun r1 σ1 h1 => r_icmp (tgt := 44) k_120_19 rfl rfl cop_ge
    (r_iinc k_120_44 rfl rfl rfl rfl
    (r_goto (tgt := 2) k_120_47 rfl (Le.rfl')))
    (r_aload_n k_120_22 rfl rfl
    (r_iload_n k_120_23 rfl rfl
    (r_iload_n k_120_24 rfl rfl
    (r_callI (q_stat (rest := []) (av := [.ref o0, .int x1, .int x2]) k_120_25 po_120 rfl (by decide) rfl rfl rfl rfl) (lvq (j := 0) rfl (by decide +kernel)) rfl rfl (fun r2 σ2 h2 => r_if (tgt := 38) k_120_28 rfl rfl cop_eq
    (r_iinc k_120_38 rfl rfl rfl rfl
    (r_goto (tgt := 14) k_120_41 rfl (Le.rfl')))
    (r_bipush k_120_31 rfl rfl
    (r_iload_n k_120_33 rfl rfl
    (r_imul k_120_34 rfl
    (r_iload_n k_120_35 rfl rfl
    (r_iadd k_120_36 rfl
    (r_ret k_120_37 rfl rfl))))))))))))))
theorem M_120 {o0 : Nat} (ho0 : isW o0)  {σ : pS} {ρ : Nat → Nat → Option Nat} (e : gR σ = ρ) (hL : LayR ρ) : Le
  (C_120_2 o0 (ι 0) (.retAddr 0) σ)
  (pcall 120 [.ref o0] σ) := by
  show Le _ (den 120 0 0 [.ref o0, .retAddr 0, .retAddr 0] [] σ)
  exact r_iconst k_120_0 rfl rfl
    (r_istore_n k_120_1 rfl rfl rfl
    (Le.rfl'))
/-! ===== 121 HedgeWants.Envy.nobodyWouldSwapAll ===== -/
theorem k_121_0 : cd 121 0 = some (.iconst 0, 1) := by decide +kernel
theorem k_121_1 : cd 121 1 = some (.istore_n 1, 1) := by decide +kernel
theorem k_121_2 : cd 121 2 = some (.iload_n 1, 1) := by decide +kernel
theorem k_121_3 : cd 121 3 = some (.aload_n 0, 1) := by decide +kernel
theorem k_121_4 : cd 121 4 = some (.invokevirtual 26, 3) := by decide +kernel
theorem k_121_7 : cd 121 7 = some (.if_icmp .ge 45, 3) := by decide +kernel
theorem k_121_10 : cd 121 10 = some (.iconst 0, 1) := by decide +kernel
theorem k_121_11 : cd 121 11 = some (.istore_n 2, 1) := by decide +kernel
theorem k_121_12 : cd 121 12 = some (.iload_n 2, 1) := by decide +kernel
theorem k_121_13 : cd 121 13 = some (.aload_n 0, 1) := by decide +kernel
theorem k_121_14 : cd 121 14 = some (.invokevirtual 26, 3) := by decide +kernel
theorem k_121_17 : cd 121 17 = some (.if_icmp .ge 29, 3) := by decide +kernel
theorem k_121_20 : cd 121 20 = some (.aload_n 0, 1) := by decide +kernel
theorem k_121_21 : cd 121 21 = some (.iload_n 1, 1) := by decide +kernel
theorem k_121_22 : cd 121 22 = some (.iload_n 2, 1) := by decide +kernel
theorem k_121_23 : cd 121 23 = some (.invokevirtual 35, 3) := by decide +kernel
theorem k_121_26 : cd 121 26 = some (.ifCond .eq 14, 3) := by decide +kernel
theorem k_121_29 : cd 121 29 = some (.aload_n 0, 1) := by decide +kernel
theorem k_121_30 : cd 121 30 = some (.iload_n 1, 1) := by decide +kernel
theorem k_121_31 : cd 121 31 = some (.iload_n 2, 1) := by decide +kernel
theorem k_121_32 : cd 121 32 = some (.invokestatic 29, 3) := by decide +kernel
theorem k_121_35 : cd 121 35 = some (.ifCond .eq 5, 3) := by decide +kernel
theorem k_121_38 : cd 121 38 = some (.iconst 0, 1) := by decide +kernel
theorem k_121_39 : cd 121 39 = some (.ireturn, 1) := by decide +kernel
theorem k_121_40 : cd 121 40 = some (.iinc 2 1, 3) := by decide +kernel
theorem k_121_43 : cd 121 43 = some (.goto (-31), 3) := by decide +kernel
theorem k_121_46 : cd 121 46 = some (.iinc 1 1, 3) := by decide +kernel
theorem k_121_49 : cd 121 49 = some (.goto (-47), 3) := by decide +kernel
theorem k_121_52 : cd 121 52 = some (.iconst 1, 1) := by decide +kernel
theorem k_121_53 : cd 121 53 = some (.ireturn, 1) := by decide +kernel
theorem po_121 : po 121 = 10 := rfl
noncomputable def C_121_2 (o0 : Nat) (x1 : Int32) (v2 : Value) (σ : pS) : Option pZ := den 121 0 2 [.ref o0, .int x1, v2] [] σ
noncomputable def C_121_12 (o0 : Nat) (x1 : Int32) (x2 : Int32) (σ : pS) : Option pZ := den 121 0 12 [.ref o0, .int x1, .int x2] [] σ
theorem T_121_2 {o0 : Nat} (ho0 : isW o0) {x1 : Int32} {v2 : Value}  {σ : pS} {ρ : Nat → Nat → Option Nat} (e : gR σ = ρ) (hL : LayR ρ) : Le
  (bI (pcall 86 [.ref o0] σ) fun r1 σ1 => if r1 ≤ x1 then some (1, .int (ι 1), σ1) else C_121_12 o0 x1 (ι 0) σ1)
  (C_121_2 o0 x1 v2 σ) := by
  unfold C_121_2
  exact r_iload_n k_121_2 rfl rfl
    (r_aload_n k_121_3 rfl rfl
    (r_callI (q_virt (rest := [.int x1]) (as := []) k_121_4 po_121 rfl rfl rfl (rcvO rfl rfl (kdW ho0)) rfl rfl) (lvq (j := 0) rfl (by decide +kernel)) rfl rfl (fun r1 σ1 h1 => r_icmp (tgt := 52) k_121_7 rfl rfl cop_ge
    (r_iconst k_121_52 rfl rfl
    (r_ret k_121_53 rfl rfl))
    (r_iconst k_121_10 rfl rfl
    (r_istore_n k_121_11 rfl rfl rfl
    (Le.rfl'))))))
theorem T_121_12 {o0 : Nat} (ho0 : isW o0) {x1 : Int32} {x2 : Int32}  {σ : pS} {ρ : Nat → Nat → Option Nat} (e : gR σ = ρ) (hL : LayR ρ) : Le
  (bI (pcall 86 [.ref o0] σ) fun r1 σ1 => if r1 ≤ x2 then C_121_2 o0 (x1 + (ι 1)) (.int x2) σ1 else bI (pcall 91 [.ref o0, .int x1, .int x2] σ1) fun r2 σ2 => if r2 = (ι 0) then C_121_12 o0 x1 (x2 + (ι 1)) σ2 else bI (pcall 117 [.ref o0, .int x1, .int x2] σ2) fun r3 σ3 => if r3 = (ι 0) then C_121_12 o0 x1 (x2 + (ι 1)) σ3 else some (1, .int (ι 0), σ3))
  (C_121_12 o0 x1 x2 σ) := by
  unfold C_121_12
  exact r_iload_n k_121_12 rfl rfl
    (r_aload_n k_121_13 rfl rfl
    (r_callI (q_virt (rest := [.int x2]) (as := []) k_121_14 po_121 rfl rfl rfl (rcvO rfl rfl (kdW ho0)) rfl rfl) (lvq (j := 0) rfl (by decide +kernel)) rfl rfl (fun r1 σ1 h1 => r_icmp (tgt := 46) k_121_17 rfl rfl cop_ge
    (r_iinc k_121_46 rfl rfl rfl rfl
    (r_goto (tgt := 2) k_121_49 rfl (Le.rfl')))
    (r_aload_n k_121_20 rfl rfl
    (r_iload_n k_121_21 rfl rfl
    (r_iload_n k_121_22 rfl rfl
    (r_callI (q_virt (rest := []) (as := [.int x1, .int x2]) k_121_23 po_121 rfl rfl rfl (rcvO rfl rfl (kdW ho0)) rfl rfl) (lvq (j := 0) rfl (by decide +kernel)) rfl rfl (fun r2 σ2 h2 => r_if (tgt := 40) k_121_26 rfl rfl cop_eq
    (r_iinc k_121_40 rfl rfl rfl rfl
    (r_goto (tgt := 12) k_121_43 rfl (Le.rfl')))
    (r_aload_n k_121_29 rfl rfl
    (r_iload_n k_121_30 rfl rfl
    (r_iload_n k_121_31 rfl rfl
    (r_callI (q_stat (rest := []) (av := [.ref o0, .int x1, .int x2]) k_121_32 po_121 rfl (by decide) rfl rfl rfl rfl) (lvq (j := 0) rfl (by decide +kernel)) rfl rfl (fun r3 σ3 h3 => r_if (tgt := 40) k_121_35 rfl rfl cop_eq
    (r_iinc k_121_40 rfl rfl rfl rfl
    (r_goto (tgt := 12) k_121_43 rfl (Le.rfl')))
    (r_iconst k_121_38 rfl rfl
    (r_ret k_121_39 rfl rfl)))))))))))))))
theorem M_121 {o0 : Nat} (ho0 : isW o0)  {σ : pS} {ρ : Nat → Nat → Option Nat} (e : gR σ = ρ) (hL : LayR ρ) : Le
  (C_121_2 o0 (ι 0) (.retAddr 0) σ)
  (pcall 121 [.ref o0] σ) := by
  show Le _ (den 121 0 0 [.ref o0, .retAddr 0, .retAddr 0] [] σ)
  exact r_iconst k_121_0 rfl rfl
    (r_istore_n k_121_1 rfl rfl rfl
    (Le.rfl'))
/-! ===== 122 HedgeWants.Hedges.parts ===== -/
theorem k_122_0 : cd 122 0 = some (.iconst 0, 1) := by decide +kernel
theorem k_122_1 : cd 122 1 = some (.istore_n 1, 1) := by decide +kernel
theorem k_122_2 : cd 122 2 = some (.iconst 0, 1) := by decide +kernel
theorem k_122_3 : cd 122 3 = some (.istore_n 2, 1) := by decide +kernel
theorem k_122_4 : cd 122 4 = some (.iconst 0, 1) := by decide +kernel
theorem k_122_5 : cd 122 5 = some (.istore_n 3, 1) := by decide +kernel
theorem k_122_6 : cd 122 6 = some (.iload_n 3, 1) := by decide +kernel
theorem k_122_7 : cd 122 7 = some (.aload_n 0, 1) := by decide +kernel
theorem k_122_8 : cd 122 8 = some (.invokevirtual 9, 3) := by decide +kernel
theorem k_122_11 : cd 122 11 = some (.if_icmp .ge 29, 3) := by decide +kernel
theorem k_122_14 : cd 122 14 = some (.iload_n 2, 1) := by decide +kernel
theorem k_122_15 : cd 122 15 = some (.iload_n 3, 1) := by decide +kernel
theorem k_122_16 : cd 122 16 = some (.invokestatic 24, 3) := by decide +kernel
theorem k_122_19 : cd 122 19 = some (.ifCond .ne 15, 3) := by decide +kernel
theorem k_122_22 : cd 122 22 = some (.iinc 1 1, 3) := by decide +kernel
theorem k_122_25 : cd 122 25 = some (.iload_n 2, 1) := by decide +kernel
theorem k_122_26 : cd 122 26 = some (.aload_n 0, 1) := by decide +kernel
theorem k_122_27 : cd 122 27 = some (.iload_n 3, 1) := by decide +kernel
theorem k_122_28 : cd 122 28 = some (.iconst 0, 1) := by decide +kernel
theorem k_122_29 : cd 122 29 = some (.invokestatic 34, 3) := by decide +kernel
theorem k_122_32 : cd 122 32 = some (.ior, 1) := by decide +kernel
theorem k_122_33 : cd 122 33 = some (.istore_n 2, 1) := by decide +kernel
theorem k_122_34 : cd 122 34 = some (.iinc 3 1, 3) := by decide +kernel
theorem k_122_37 : cd 122 37 = some (.goto (-31), 3) := by decide +kernel
theorem k_122_40 : cd 122 40 = some (.iload_n 1, 1) := by decide +kernel
theorem k_122_41 : cd 122 41 = some (.ireturn, 1) := by decide +kernel
theorem po_122 : po 122 = 11 := rfl
noncomputable def C_122_6 (o0 : Nat) (x1 : Int32) (x2 : Int32) (x3 : Int32) (σ : pS) : Option pZ := den 122 0 6 [.ref o0, .int x1, .int x2, .int x3] [] σ
theorem T_122_6 {o0 : Nat} (ho0 : isW o0) {x1 : Int32} {x2 : Int32} {x3 : Int32}  {σ : pS} {ρ : Nat → Nat → Option Nat} (e : gR σ = ρ) (hL : LayR ρ) : Le
  (bI (pcall 86 [.ref o0] σ) fun r1 σ1 => if r1 ≤ x3 then some (1, .int x1, σ1) else bI (pcall 168 [.int x2, .int x3] σ1) fun r2 σ2 => if ¬ r2 = (ι 0) then C_122_6 o0 x1 x2 (x3 + (ι 1)) σ2 else bI (pcall 123 [.ref o0, .int x3, .int (ι 0)] σ2) fun r3 σ3 => C_122_6 o0 (x1 + (ι 1)) (x2 ||| r3) (x3 + (ι 1)) σ3)
  (C_122_6 o0 x1 x2 x3 σ) := by
  unfold C_122_6
  exact r_iload_n k_122_6 rfl rfl
    (r_aload_n k_122_7 rfl rfl
    (r_callI (q_virt (rest := [.int x3]) (as := []) k_122_8 po_122 rfl rfl rfl (rcvO rfl rfl (kdW ho0)) rfl rfl) (lvq (j := 0) rfl (by decide +kernel)) rfl rfl (fun r1 σ1 h1 => r_icmp (tgt := 40) k_122_11 rfl rfl cop_ge
    (r_iload_n k_122_40 rfl rfl
    (r_ret k_122_41 rfl rfl))
    (r_iload_n k_122_14 rfl rfl
    (r_iload_n k_122_15 rfl rfl
    (r_callI (q_stat (rest := []) (av := [.int x2, .int x3]) k_122_16 po_122 rfl (by decide) rfl rfl rfl rfl) (lvq (j := 0) rfl (by decide +kernel)) rfl rfl (fun r2 σ2 h2 => r_if (tgt := 34) k_122_19 rfl rfl cop_ne
    (r_iinc k_122_34 rfl rfl rfl rfl
    (r_goto (tgt := 6) k_122_37 rfl (Le.rfl')))
    (r_iinc k_122_22 rfl rfl rfl rfl
    (r_iload_n k_122_25 rfl rfl
    (r_aload_n k_122_26 rfl rfl
    (r_iload_n k_122_27 rfl rfl
    (r_iconst k_122_28 rfl rfl
    (r_callI (q_stat (rest := [.int x2]) (av := [.ref o0, .int x3, .int (ι 0)]) k_122_29 po_122 rfl (by decide) rfl rfl rfl rfl) (lvq (j := 0) rfl (by decide +kernel)) rfl rfl (fun r3 σ3 h3 => r_ior k_122_32 rfl
    (r_istore_n k_122_33 rfl rfl rfl
    (r_iinc k_122_34 rfl rfl rfl rfl
    (r_goto (tgt := 6) k_122_37 rfl (Le.rfl'))))))))))))))))))
theorem M_122 {o0 : Nat} (ho0 : isW o0)  {σ : pS} {ρ : Nat → Nat → Option Nat} (e : gR σ = ρ) (hL : LayR ρ) : Le
  (C_122_6 o0 (ι 0) (ι 0) (ι 0) σ)
  (pcall 122 [.ref o0] σ) := by
  show Le _ (den 122 0 0 [.ref o0, .retAddr 0, .retAddr 0, .retAddr 0] [] σ)
  exact r_iconst k_122_0 rfl rfl
    (r_istore_n k_122_1 rfl rfl rfl
    (r_iconst k_122_2 rfl rfl
    (r_istore_n k_122_3 rfl rfl rfl
    (r_iconst k_122_4 rfl rfl
    (r_istore_n k_122_5 rfl rfl rfl
    (Le.rfl'))))))
/-! ===== 123 HedgeWants.Hedges.reachedFrom ===== -/
theorem k_123_0 : cd 123 0 = some (.iconst 1, 1) := by decide +kernel
theorem k_123_1 : cd 123 1 = some (.iload_n 1, 1) := by decide +kernel
theorem k_123_2 : cd 123 2 = some (.ishl, 1) := by decide +kernel
theorem k_123_3 : cd 123 3 = some (.istore_n 3, 1) := by decide +kernel
theorem k_123_4 : cd 123 4 = some (.iconst 0, 1) := by decide +kernel
theorem k_123_5 : cd 123 5 = some (.istore 4, 2) := by decide +kernel
theorem k_123_7 : cd 123 7 = some (.iload 4, 2) := by decide +kernel
theorem k_123_9 : cd 123 9 = some (.bipush 8, 2) := by decide +kernel
theorem k_123_11 : cd 123 11 = some (.if_icmp .ge 21, 3) := by decide +kernel
theorem k_123_14 : cd 123 14 = some (.iload_n 3, 1) := by decide +kernel
theorem k_123_15 : cd 123 15 = some (.aload_n 0, 1) := by decide +kernel
theorem k_123_16 : cd 123 16 = some (.iload_n 3, 1) := by decide +kernel
theorem k_123_17 : cd 123 17 = some (.invokestatic 28, 3) := by decide +kernel
theorem k_123_20 : cd 123 20 = some (.iload_n 2, 1) := by decide +kernel
theorem k_123_21 : cd 123 21 = some (.iconst (-1), 1) := by decide +kernel
theorem k_123_22 : cd 123 22 = some (.ixor, 1) := by decide +kernel
theorem k_123_23 : cd 123 23 = some (.iand, 1) := by decide +kernel
theorem k_123_24 : cd 123 24 = some (.ior, 1) := by decide +kernel
theorem k_123_25 : cd 123 25 = some (.istore_n 3, 1) := by decide +kernel
theorem k_123_26 : cd 123 26 = some (.iinc 4 1, 3) := by decide +kernel
theorem k_123_29 : cd 123 29 = some (.goto (-22), 3) := by decide +kernel
theorem k_123_32 : cd 123 32 = some (.iload_n 3, 1) := by decide +kernel
theorem k_123_33 : cd 123 33 = some (.ireturn, 1) := by decide +kernel
theorem po_123 : po 123 = 11 := rfl
noncomputable def C_123_7 (o0 : Nat) (v1 : Value) (x2 : Int32) (x3 : Int32) (x4 : Int32) (σ : pS) : Option pZ := den 123 0 7 [.ref o0, v1, .int x2, .int x3, .int x4] [] σ
theorem T_123_7 {o0 : Nat} (ho0 : isW o0) {v1 : Value} {x2 : Int32} {x3 : Int32} {x4 : Int32}  {σ : pS} {ρ : Nat → Nat → Option Nat} (e : gR σ = ρ) (hL : LayR ρ) : Le
  (if (ι 8) ≤ x4 then some (1, .int x3, σ) else bI (pcall 124 [.ref o0, .int x3] σ) fun r1 σ1 => C_123_7 o0 v1 x2 (x3 ||| (r1 &&& (x2 ^^^ (ν 1)))) (x4 + (ι 1)) σ1)
  (C_123_7 o0 v1 x2 x3 x4 σ) := by
  unfold C_123_7
  exact r_iload k_123_7 rfl rfl
    (r_bipush k_123_9 rfl rfl
    (r_icmp (tgt := 32) k_123_11 rfl rfl cop_ge
    (r_iload_n k_123_32 rfl rfl
    (r_ret k_123_33 rfl rfl))
    (r_iload_n k_123_14 rfl rfl
    (r_aload_n k_123_15 rfl rfl
    (r_iload_n k_123_16 rfl rfl
    (r_callI (q_stat (rest := [.int x3]) (av := [.ref o0, .int x3]) k_123_17 po_123 rfl (by decide) rfl rfl rfl rfl) (lvq (j := 0) rfl (by decide +kernel)) rfl rfl (fun r1 σ1 h1 => r_iload_n k_123_20 rfl rfl
    (r_iconst k_123_21 rfl rfl
    (r_ixor k_123_22 rfl
    (r_iand k_123_23 rfl
    (r_ior k_123_24 rfl
    (r_istore_n k_123_25 rfl rfl rfl
    (r_iinc k_123_26 rfl rfl rfl rfl
    (r_goto (tgt := 7) k_123_29 rfl (Le.rfl')))))))))))))))
theorem M_123 {o0 : Nat} (ho0 : isW o0) {x1 : Int32} {x2 : Int32} {σ : pS} {ρ : Nat → Nat → Option Nat} (e : gR σ = ρ) (hL : LayR ρ) : Le
  (C_123_7 o0 (.int x1) x2 (shl' (ι 1) x1) (ι 0) σ)
  (pcall 123 [.ref o0, .int x1, .int x2] σ) := by
  show Le _ (den 123 0 0 [.ref o0, .int x1, .int x2, .retAddr 0, .retAddr 0] [] σ)
  exact r_iconst k_123_0 rfl rfl
    (r_iload_n k_123_1 rfl rfl
    (r_ishl k_123_2 rfl
    (r_istore_n k_123_3 rfl rfl rfl
    (r_iconst k_123_4 rfl rfl
    (r_istore k_123_5 rfl rfl rfl
    (Le.rfl'))))))
/-! ===== 124 HedgeWants.Hedges.seenBy ===== -/
theorem k_124_0 : cd 124 0 = some (.iconst 0, 1) := by decide +kernel
theorem k_124_1 : cd 124 1 = some (.istore_n 2, 1) := by decide +kernel
theorem k_124_2 : cd 124 2 = some (.iconst 0, 1) := by decide +kernel
theorem k_124_3 : cd 124 3 = some (.istore_n 3, 1) := by decide +kernel
theorem k_124_4 : cd 124 4 = some (.iload_n 3, 1) := by decide +kernel
theorem k_124_5 : cd 124 5 = some (.aload_n 0, 1) := by decide +kernel
theorem k_124_6 : cd 124 6 = some (.invokevirtual 9, 3) := by decide +kernel
theorem k_124_9 : cd 124 9 = some (.if_icmp .ge 29, 3) := by decide +kernel
theorem k_124_12 : cd 124 12 = some (.iload_n 2, 1) := by decide +kernel
theorem k_124_13 : cd 124 13 = some (.iload_n 1, 1) := by decide +kernel
theorem k_124_14 : cd 124 14 = some (.iload_n 3, 1) := by decide +kernel
theorem k_124_15 : cd 124 15 = some (.invokestatic 24, 3) := by decide +kernel
theorem k_124_18 : cd 124 18 = some (.ifCond .eq 11, 3) := by decide +kernel
theorem k_124_21 : cd 124 21 = some (.aload_n 0, 1) := by decide +kernel
theorem k_124_22 : cd 124 22 = some (.iload_n 3, 1) := by decide +kernel
theorem k_124_23 : cd 124 23 = some (.invokevirtual 15, 3) := by decide +kernel
theorem k_124_26 : cd 124 26 = some (.goto 4, 3) := by decide +kernel
theorem k_124_29 : cd 124 29 = some (.iconst 0, 1) := by decide +kernel
theorem k_124_30 : cd 124 30 = some (.ior, 1) := by decide +kernel
theorem k_124_31 : cd 124 31 = some (.istore_n 2, 1) := by decide +kernel
theorem k_124_32 : cd 124 32 = some (.iinc 3 1, 3) := by decide +kernel
theorem k_124_35 : cd 124 35 = some (.goto (-31), 3) := by decide +kernel
theorem k_124_38 : cd 124 38 = some (.iload_n 2, 1) := by decide +kernel
theorem k_124_39 : cd 124 39 = some (.ireturn, 1) := by decide +kernel
theorem po_124 : po 124 = 11 := rfl
noncomputable def C_124_4 (o0 : Nat) (x1 : Int32) (x2 : Int32) (x3 : Int32) (σ : pS) : Option pZ := den 124 0 4 [.ref o0, .int x1, .int x2, .int x3] [] σ
theorem T_124_4 {o0 : Nat} (ho0 : isW o0) {x1 : Int32} {x2 : Int32} {x3 : Int32}  {σ : pS} {ρ : Nat → Nat → Option Nat} (e : gR σ = ρ) (hL : LayR ρ) : Le
  (bI (pcall 86 [.ref o0] σ) fun r1 σ1 => if r1 ≤ x3 then some (1, .int x2, σ1) else bI (pcall 168 [.int x1, .int x3] σ1) fun r2 σ2 => if r2 = (ι 0) then C_124_4 o0 x1 (x2 ||| (ι 0)) (x3 + (ι 1)) σ2 else bI (pcall 78 [.ref o0, .int x3] σ2) fun r3 σ3 => C_124_4 o0 x1 (x2 ||| r3) (x3 + (ι 1)) σ3)
  (C_124_4 o0 x1 x2 x3 σ) := by
  unfold C_124_4
  exact r_iload_n k_124_4 rfl rfl
    (r_aload_n k_124_5 rfl rfl
    (r_callI (q_virt (rest := [.int x3]) (as := []) k_124_6 po_124 rfl rfl rfl (rcvO rfl rfl (kdW ho0)) rfl rfl) (lvq (j := 0) rfl (by decide +kernel)) rfl rfl (fun r1 σ1 h1 => r_icmp (tgt := 38) k_124_9 rfl rfl cop_ge
    (r_iload_n k_124_38 rfl rfl
    (r_ret k_124_39 rfl rfl))
    (r_iload_n k_124_12 rfl rfl
    (r_iload_n k_124_13 rfl rfl
    (r_iload_n k_124_14 rfl rfl
    (r_callI (q_stat (rest := [.int x2]) (av := [.int x1, .int x3]) k_124_15 po_124 rfl (by decide) rfl rfl rfl rfl) (lvq (j := 0) rfl (by decide +kernel)) rfl rfl (fun r2 σ2 h2 => r_if (tgt := 29) k_124_18 rfl rfl cop_eq
    (r_iconst k_124_29 rfl rfl
    (r_ior k_124_30 rfl
    (r_istore_n k_124_31 rfl rfl rfl
    (r_iinc k_124_32 rfl rfl rfl rfl
    (r_goto (tgt := 4) k_124_35 rfl (Le.rfl'))))))
    (r_aload_n k_124_21 rfl rfl
    (r_iload_n k_124_22 rfl rfl
    (r_callI (q_virt (rest := [.int x2]) (as := [.int x3]) k_124_23 po_124 rfl rfl rfl (rcvO rfl rfl (kdW ho0)) rfl rfl) (lvq (j := 0) rfl (by decide +kernel)) rfl rfl (fun r3 σ3 h3 => r_goto (tgt := 30) k_124_26 rfl (r_ior k_124_30 rfl
    (r_istore_n k_124_31 rfl rfl rfl
    (r_iinc k_124_32 rfl rfl rfl rfl
    (r_goto (tgt := 4) k_124_35 rfl (Le.rfl')))))))))))))))))
theorem M_124 {o0 : Nat} (ho0 : isW o0) {x1 : Int32} {σ : pS} {ρ : Nat → Nat → Option Nat} (e : gR σ = ρ) (hL : LayR ρ) : Le
  (C_124_4 o0 x1 (ι 0) (ι 0) σ)
  (pcall 124 [.ref o0, .int x1] σ) := by
  show Le _ (den 124 0 0 [.ref o0, .int x1, .retAddr 0, .retAddr 0] [] σ)
  exact r_iconst k_124_0 rfl rfl
    (r_istore_n k_124_1 rfl rfl rfl
    (r_iconst k_124_2 rfl rfl
    (r_istore_n k_124_3 rfl rfl rfl
    (Le.rfl'))))
/-! ===== 125 HedgeWants.Hedges.howMany ===== -/
theorem k_125_0 : cd 125 0 = some (.iconst 0, 1) := by decide +kernel
theorem k_125_1 : cd 125 1 = some (.istore_n 1, 1) := by decide +kernel
theorem k_125_2 : cd 125 2 = some (.iconst 0, 1) := by decide +kernel
theorem k_125_3 : cd 125 3 = some (.istore_n 2, 1) := by decide +kernel
theorem k_125_4 : cd 125 4 = some (.iload_n 2, 1) := by decide +kernel
theorem k_125_5 : cd 125 5 = some (.aload_n 0, 1) := by decide +kernel
theorem k_125_6 : cd 125 6 = some (.invokevirtual 9, 3) := by decide +kernel
theorem k_125_9 : cd 125 9 = some (.if_icmp .ge 20, 3) := by decide +kernel
theorem k_125_12 : cd 125 12 = some (.iload_n 1, 1) := by decide +kernel
theorem k_125_13 : cd 125 13 = some (.aload_n 0, 1) := by decide +kernel
theorem k_125_14 : cd 125 14 = some (.iload_n 2, 1) := by decide +kernel
theorem k_125_15 : cd 125 15 = some (.invokevirtual 15, 3) := by decide +kernel
theorem k_125_18 : cd 125 18 = some (.invokestatic 19, 3) := by decide +kernel
theorem k_125_21 : cd 125 21 = some (.iadd, 1) := by decide +kernel
theorem k_125_22 : cd 125 22 = some (.istore_n 1, 1) := by decide +kernel
theorem k_125_23 : cd 125 23 = some (.iinc 2 1, 3) := by decide +kernel
theorem k_125_26 : cd 125 26 = some (.goto (-22), 3) := by decide +kernel
theorem k_125_29 : cd 125 29 = some (.iload_n 1, 1) := by decide +kernel
theorem k_125_30 : cd 125 30 = some (.iconst 2, 1) := by decide +kernel
theorem k_125_31 : cd 125 31 = some (.idiv, 1) := by decide +kernel
theorem k_125_32 : cd 125 32 = some (.ireturn, 1) := by decide +kernel
theorem po_125 : po 125 = 11 := rfl
noncomputable def C_125_4 (o0 : Nat) (x1 : Int32) (x2 : Int32) (σ : pS) : Option pZ := den 125 0 4 [.ref o0, .int x1, .int x2] [] σ
theorem T_125_4 {o0 : Nat} (ho0 : isW o0) {x1 : Int32} {x2 : Int32}  {σ : pS} {ρ : Nat → Nat → Option Nat} (e : gR σ = ρ) (hL : LayR ρ) : Le
  (bI (pcall 86 [.ref o0] σ) fun r1 σ1 => if r1 ≤ x2 then some (1, .int (x1 / (ι 2)), σ1) else bI (pcall 78 [.ref o0, .int x2] σ1) fun r2 σ2 => bI (pcall 0 [.int r2] σ2) fun r3 σ3 => C_125_4 o0 (x1 + r3) (x2 + (ι 1)) σ3)
  (C_125_4 o0 x1 x2 σ) := by
  unfold C_125_4
  exact r_iload_n k_125_4 rfl rfl
    (r_aload_n k_125_5 rfl rfl
    (r_callI (q_virt (rest := [.int x2]) (as := []) k_125_6 po_125 rfl rfl rfl (rcvO rfl rfl (kdW ho0)) rfl rfl) (lvq (j := 0) rfl (by decide +kernel)) rfl rfl (fun r1 σ1 h1 => r_icmp (tgt := 29) k_125_9 rfl rfl cop_ge
    (r_iload_n k_125_29 rfl rfl
    (r_iconst k_125_30 rfl rfl
    (r_idiv k_125_31 rfl (by decide)
    (r_ret k_125_32 rfl rfl))))
    (r_iload_n k_125_12 rfl rfl
    (r_aload_n k_125_13 rfl rfl
    (r_iload_n k_125_14 rfl rfl
    (r_callI (q_virt (rest := [.int x1]) (as := [.int x2]) k_125_15 po_125 rfl rfl rfl (rcvO rfl rfl (kdW ho0)) rfl rfl) (lvq (j := 0) rfl (by decide +kernel)) rfl rfl (fun r2 σ2 h2 => r_callI (q_stat (rest := [.int x1]) (av := [.int r2]) k_125_18 po_125 rfl (by decide) rfl rfl rfl rfl) (lvq (j := 0) rfl (by decide +kernel)) rfl rfl (fun r3 σ3 h3 => r_iadd k_125_21 rfl
    (r_istore_n k_125_22 rfl rfl rfl
    (r_iinc k_125_23 rfl rfl rfl rfl
    (r_goto (tgt := 4) k_125_26 rfl (Le.rfl')))))))))))))
theorem M_125 {o0 : Nat} (ho0 : isW o0)  {σ : pS} {ρ : Nat → Nat → Option Nat} (e : gR σ = ρ) (hL : LayR ρ) : Le
  (C_125_4 o0 (ι 0) (ι 0) σ)
  (pcall 125 [.ref o0] σ) := by
  show Le _ (den 125 0 0 [.ref o0, .retAddr 0, .retAddr 0] [] σ)
  exact r_iconst k_125_0 rfl rfl
    (r_istore_n k_125_1 rfl rfl rfl
    (r_iconst k_125_2 rfl rfl
    (r_istore_n k_125_3 rfl rfl rfl
    (Le.rfl'))))
/-! ===== 126 HedgeWants.Hedges.distance ===== -/
theorem k_126_0 : cd 126 0 = some (.iconst 1, 1) := by decide +kernel
theorem k_126_1 : cd 126 1 = some (.iload_n 1, 1) := by decide +kernel
theorem k_126_2 : cd 126 2 = some (.ishl, 1) := by decide +kernel
theorem k_126_3 : cd 126 3 = some (.istore_n 3, 1) := by decide +kernel
theorem k_126_4 : cd 126 4 = some (.iconst 0, 1) := by decide +kernel
theorem k_126_5 : cd 126 5 = some (.istore 4, 2) := by decide +kernel
theorem k_126_7 : cd 126 7 = some (.iload 4, 2) := by decide +kernel
theorem k_126_9 : cd 126 9 = some (.bipush 8, 2) := by decide +kernel
theorem k_126_11 : cd 126 11 = some (.if_icmp .ge 28, 3) := by decide +kernel
theorem k_126_14 : cd 126 14 = some (.iload_n 3, 1) := by decide +kernel
theorem k_126_15 : cd 126 15 = some (.iload_n 2, 1) := by decide +kernel
theorem k_126_16 : cd 126 16 = some (.invokestatic 24, 3) := by decide +kernel
theorem k_126_19 : cd 126 19 = some (.ifCond .eq 6, 3) := by decide +kernel
theorem k_126_22 : cd 126 22 = some (.iload 4, 2) := by decide +kernel
theorem k_126_24 : cd 126 24 = some (.ireturn, 1) := by decide +kernel
theorem k_126_25 : cd 126 25 = some (.iload_n 3, 1) := by decide +kernel
theorem k_126_26 : cd 126 26 = some (.aload_n 0, 1) := by decide +kernel
theorem k_126_27 : cd 126 27 = some (.iload_n 3, 1) := by decide +kernel
theorem k_126_28 : cd 126 28 = some (.invokestatic 28, 3) := by decide +kernel
theorem k_126_31 : cd 126 31 = some (.ior, 1) := by decide +kernel
theorem k_126_32 : cd 126 32 = some (.istore_n 3, 1) := by decide +kernel
theorem k_126_33 : cd 126 33 = some (.iinc 4 1, 3) := by decide +kernel
theorem k_126_36 : cd 126 36 = some (.goto (-29), 3) := by decide +kernel
theorem k_126_39 : cd 126 39 = some (.iconst (-1), 1) := by decide +kernel
theorem k_126_40 : cd 126 40 = some (.ireturn, 1) := by decide +kernel
theorem po_126 : po 126 = 11 := rfl
noncomputable def C_126_7 (o0 : Nat) (v1 : Value) (x2 : Int32) (x3 : Int32) (x4 : Int32) (σ : pS) : Option pZ := den 126 0 7 [.ref o0, v1, .int x2, .int x3, .int x4] [] σ
theorem T_126_7 {o0 : Nat} (ho0 : isW o0) {v1 : Value} {x2 : Int32} {x3 : Int32} {x4 : Int32}  {σ : pS} {ρ : Nat → Nat → Option Nat} (e : gR σ = ρ) (hL : LayR ρ) : Le
  (if (ι 8) ≤ x4 then some (1, .int (ν 1), σ) else bI (pcall 168 [.int x3, .int x2] σ) fun r1 σ1 => if r1 = (ι 0) then bI (pcall 124 [.ref o0, .int x3] σ1) fun r2 σ2 => C_126_7 o0 v1 x2 (x3 ||| r2) (x4 + (ι 1)) σ2 else some (1, .int x4, σ1))
  (C_126_7 o0 v1 x2 x3 x4 σ) := by
  unfold C_126_7
  exact r_iload k_126_7 rfl rfl
    (r_bipush k_126_9 rfl rfl
    (r_icmp (tgt := 39) k_126_11 rfl rfl cop_ge
    (r_iconst k_126_39 rfl rfl
    (r_ret k_126_40 rfl rfl))
    (r_iload_n k_126_14 rfl rfl
    (r_iload_n k_126_15 rfl rfl
    (r_callI (q_stat (rest := []) (av := [.int x3, .int x2]) k_126_16 po_126 rfl (by decide) rfl rfl rfl rfl) (lvq (j := 0) rfl (by decide +kernel)) rfl rfl (fun r1 σ1 h1 => r_if (tgt := 25) k_126_19 rfl rfl cop_eq
    (r_iload_n k_126_25 rfl rfl
    (r_aload_n k_126_26 rfl rfl
    (r_iload_n k_126_27 rfl rfl
    (r_callI (q_stat (rest := [.int x3]) (av := [.ref o0, .int x3]) k_126_28 po_126 rfl (by decide) rfl rfl rfl rfl) (lvq (j := 0) rfl (by decide +kernel)) rfl rfl (fun r2 σ2 h2 => r_ior k_126_31 rfl
    (r_istore_n k_126_32 rfl rfl rfl
    (r_iinc k_126_33 rfl rfl rfl rfl
    (r_goto (tgt := 7) k_126_36 rfl (Le.rfl')))))))))
    (r_iload k_126_22 rfl rfl
    (r_ret k_126_24 rfl rfl))))))))
theorem M_126 {o0 : Nat} (ho0 : isW o0) {x1 : Int32} {x2 : Int32} {σ : pS} {ρ : Nat → Nat → Option Nat} (e : gR σ = ρ) (hL : LayR ρ) : Le
  (C_126_7 o0 (.int x1) x2 (shl' (ι 1) x1) (ι 0) σ)
  (pcall 126 [.ref o0, .int x1, .int x2] σ) := by
  show Le _ (den 126 0 0 [.ref o0, .int x1, .int x2, .retAddr 0, .retAddr 0] [] σ)
  exact r_iconst k_126_0 rfl rfl
    (r_iload_n k_126_1 rfl rfl
    (r_ishl k_126_2 rfl
    (r_istore_n k_126_3 rfl rfl rfl
    (r_iconst k_126_4 rfl rfl
    (r_istore k_126_5 rfl rfl rfl
    (Le.rfl'))))))
/-! ===== 127 HedgeWants.Hedges.fewestBetween ===== -/
theorem k_127_0 : cd 127 0 = some (.iload_n 1, 1) := by decide +kernel
theorem k_127_1 : cd 127 1 = some (.iload_n 2, 1) := by decide +kernel
theorem k_127_2 : cd 127 2 = some (.if_icmp .eq 12, 3) := by decide +kernel
theorem k_127_5 : cd 127 5 = some (.aload_n 0, 1) := by decide +kernel
theorem k_127_6 : cd 127 6 = some (.iload_n 1, 1) := by decide +kernel
theorem k_127_7 : cd 127 7 = some (.iload_n 2, 1) := by decide +kernel
theorem k_127_8 : cd 127 8 = some (.invokevirtual 38, 3) := by decide +kernel
theorem k_127_11 : cd 127 11 = some (.ifCond .eq 5, 3) := by decide +kernel
theorem k_127_14 : cd 127 14 = some (.iconst (-1), 1) := by decide +kernel
theorem k_127_15 : cd 127 15 = some (.ireturn, 1) := by decide +kernel
theorem k_127_16 : cd 127 16 = some (.iconst (-1), 1) := by decide +kernel
theorem k_127_17 : cd 127 17 = some (.istore_n 3, 1) := by decide +kernel
theorem k_127_18 : cd 127 18 = some (.iconst 0, 1) := by decide +kernel
theorem k_127_19 : cd 127 19 = some (.istore 4, 2) := by decide +kernel
theorem k_127_21 : cd 127 21 = some (.iload 4, 2) := by decide +kernel
theorem k_127_23 : cd 127 23 = some (.sipush 256, 3) := by decide +kernel
theorem k_127_26 : cd 127 26 = some (.if_icmp .ge 73, 3) := by decide +kernel
theorem k_127_29 : cd 127 29 = some (.iload_n 3, 1) := by decide +kernel
theorem k_127_30 : cd 127 30 = some (.iconst (-1), 1) := by decide +kernel
theorem k_127_31 : cd 127 31 = some (.if_icmp .eq 15, 3) := by decide +kernel
theorem k_127_34 : cd 127 34 = some (.iload 4, 2) := by decide +kernel
theorem k_127_36 : cd 127 36 = some (.invokestatic 19, 3) := by decide +kernel
theorem k_127_39 : cd 127 39 = some (.iload_n 3, 1) := by decide +kernel
theorem k_127_40 : cd 127 40 = some (.invokestatic 19, 3) := by decide +kernel
theorem k_127_43 : cd 127 43 = some (.if_icmp .ge 7, 3) := by decide +kernel
theorem k_127_46 : cd 127 46 = some (.iconst 1, 1) := by decide +kernel
theorem k_127_47 : cd 127 47 = some (.goto 4, 3) := by decide +kernel
theorem k_127_50 : cd 127 50 = some (.iconst 0, 1) := by decide +kernel
theorem k_127_51 : cd 127 51 = some (.istore 5, 2) := by decide +kernel
theorem k_127_53 : cd 127 53 = some (.iload 5, 2) := by decide +kernel
theorem k_127_55 : cd 127 55 = some (.ifCond .eq 38, 3) := by decide +kernel
theorem k_127_58 : cd 127 58 = some (.iload 4, 2) := by decide +kernel
theorem k_127_60 : cd 127 60 = some (.iload_n 1, 1) := by decide +kernel
theorem k_127_61 : cd 127 61 = some (.invokestatic 24, 3) := by decide +kernel
theorem k_127_64 : cd 127 64 = some (.ifCond .ne 29, 3) := by decide +kernel
theorem k_127_67 : cd 127 67 = some (.iload 4, 2) := by decide +kernel
theorem k_127_69 : cd 127 69 = some (.iload_n 2, 1) := by decide +kernel
theorem k_127_70 : cd 127 70 = some (.invokestatic 24, 3) := by decide +kernel
theorem k_127_73 : cd 127 73 = some (.ifCond .ne 20, 3) := by decide +kernel
theorem k_127_76 : cd 127 76 = some (.aload_n 0, 1) := by decide +kernel
theorem k_127_77 : cd 127 77 = some (.iload_n 1, 1) := by decide +kernel
theorem k_127_78 : cd 127 78 = some (.iload 4, 2) := by decide +kernel
theorem k_127_80 : cd 127 80 = some (.invokestatic 34, 3) := by decide +kernel
theorem k_127_83 : cd 127 83 = some (.iload_n 2, 1) := by decide +kernel
theorem k_127_84 : cd 127 84 = some (.invokestatic 24, 3) := by decide +kernel
theorem k_127_87 : cd 127 87 = some (.ifCond .ne 6, 3) := by decide +kernel
theorem k_127_90 : cd 127 90 = some (.iload 4, 2) := by decide +kernel
theorem k_127_92 : cd 127 92 = some (.istore_n 3, 1) := by decide +kernel
theorem k_127_93 : cd 127 93 = some (.iinc 4 1, 3) := by decide +kernel
theorem k_127_96 : cd 127 96 = some (.goto (-75), 3) := by decide +kernel
theorem k_127_99 : cd 127 99 = some (.iload_n 3, 1) := by decide +kernel
theorem k_127_100 : cd 127 100 = some (.ireturn, 1) := by decide +kernel
theorem po_127 : po 127 = 11 := rfl
noncomputable def C_127_21 (o0 : Nat) (x1 : Int32) (x2 : Int32) (x3 : Int32) (x4 : Int32) (v5 : Value) (σ : pS) : Option pZ := den 127 0 21 [.ref o0, .int x1, .int x2, .int x3, .int x4, v5] [] σ
noncomputable def C_127_51 (o0 : Nat) (x1 : Int32) (x2 : Int32) (x3 : Int32) (x4 : Int32) (v5 : Value) (s0 : Int32) (σ : pS) : Option pZ := den 127 0 51 [.ref o0, .int x1, .int x2, .int x3, .int x4, v5] [.int s0] σ
theorem T_127_21 {o0 : Nat} (ho0 : isW o0) {x1 : Int32} {x2 : Int32} {x3 : Int32} {x4 : Int32} {v5 : Value}  {σ : pS} {ρ : Nat → Nat → Option Nat} (e : gR σ = ρ) (hL : LayR ρ) : Le
  (if (ι 256) ≤ x4 then some (1, .int x3, σ) else if x3 = (ν 1) then C_127_51 o0 x1 x2 x3 x4 v5 (ι 1) σ else bI (pcall 0 [.int x4] σ) fun r1 σ1 => bI (pcall 0 [.int x3] σ1) fun r2 σ2 => if r2 ≤ r1 then C_127_51 o0 x1 x2 x3 x4 v5 (ι 0) σ2 else C_127_51 o0 x1 x2 x3 x4 v5 (ι 1) σ2)
  (C_127_21 o0 x1 x2 x3 x4 v5 σ) := by
  unfold C_127_21
  exact r_iload k_127_21 rfl rfl
    (r_sipush k_127_23 rfl rfl
    (r_icmp (tgt := 99) k_127_26 rfl rfl cop_ge
    (r_iload_n k_127_99 rfl rfl
    (r_ret k_127_100 rfl rfl))
    (r_iload_n k_127_29 rfl rfl
    (r_iconst k_127_30 rfl rfl
    (r_icmp (tgt := 46) k_127_31 rfl rfl cop_eq
    (r_iconst k_127_46 rfl rfl
    (r_goto (tgt := 51) k_127_47 rfl (Le.rfl')))
    (r_iload k_127_34 rfl rfl
    (r_callI (q_stat (rest := []) (av := [.int x4]) k_127_36 po_127 rfl (by decide) rfl rfl rfl rfl) (lvq (j := 0) rfl (by decide +kernel)) rfl rfl (fun r1 σ1 h1 => r_iload_n k_127_39 rfl rfl
    (r_callI (q_stat (rest := [.int r1]) (av := [.int x3]) k_127_40 po_127 rfl (by decide) rfl rfl rfl rfl) (lvq (j := 0) rfl (by decide +kernel)) rfl rfl (fun r2 σ2 h2 => r_icmp (tgt := 50) k_127_43 rfl rfl cop_ge
    (r_iconst k_127_50 rfl rfl
    (Le.rfl'))
    (r_iconst k_127_46 rfl rfl
    (r_goto (tgt := 51) k_127_47 rfl (Le.rfl')))))))))))))
theorem T_127_51 {o0 : Nat} (ho0 : isW o0) {x1 : Int32} {x2 : Int32} {x3 : Int32} {x4 : Int32} {v5 : Value} {s0 : Int32}  {σ : pS} {ρ : Nat → Nat → Option Nat} (e : gR σ = ρ) (hL : LayR ρ) : Le
  (if s0 = (ι 0) then C_127_21 o0 x1 x2 x3 (x4 + (ι 1)) (.int s0) σ else bI (pcall 168 [.int x4, .int x1] σ) fun r1 σ1 => if ¬ r1 = (ι 0) then C_127_21 o0 x1 x2 x3 (x4 + (ι 1)) (.int s0) σ1 else bI (pcall 168 [.int x4, .int x2] σ1) fun r2 σ2 => if ¬ r2 = (ι 0) then C_127_21 o0 x1 x2 x3 (x4 + (ι 1)) (.int s0) σ2 else bI (pcall 123 [.ref o0, .int x1, .int x4] σ2) fun r3 σ3 => bI (pcall 168 [.int r3, .int x2] σ3) fun r4 σ4 => if ¬ r4 = (ι 0) then C_127_21 o0 x1 x2 x3 (x4 + (ι 1)) (.int s0) σ4 else C_127_21 o0 x1 x2 x4 (x4 + (ι 1)) (.int s0) σ4)
  (C_127_51 o0 x1 x2 x3 x4 v5 s0 σ) := by
  unfold C_127_51
  exact r_istore k_127_51 rfl rfl rfl
    (r_iload k_127_53 rfl rfl
    (r_if (tgt := 93) k_127_55 rfl rfl cop_eq
    (r_iinc k_127_93 rfl rfl rfl rfl
    (r_goto (tgt := 21) k_127_96 rfl (Le.rfl')))
    (r_iload k_127_58 rfl rfl
    (r_iload_n k_127_60 rfl rfl
    (r_callI (q_stat (rest := []) (av := [.int x4, .int x1]) k_127_61 po_127 rfl (by decide) rfl rfl rfl rfl) (lvq (j := 0) rfl (by decide +kernel)) rfl rfl (fun r1 σ1 h1 => r_if (tgt := 93) k_127_64 rfl rfl cop_ne
    (r_iinc k_127_93 rfl rfl rfl rfl
    (r_goto (tgt := 21) k_127_96 rfl (Le.rfl')))
    (r_iload k_127_67 rfl rfl
    (r_iload_n k_127_69 rfl rfl
    (r_callI (q_stat (rest := []) (av := [.int x4, .int x2]) k_127_70 po_127 rfl (by decide) rfl rfl rfl rfl) (lvq (j := 0) rfl (by decide +kernel)) rfl rfl (fun r2 σ2 h2 => r_if (tgt := 93) k_127_73 rfl rfl cop_ne
    (r_iinc k_127_93 rfl rfl rfl rfl
    (r_goto (tgt := 21) k_127_96 rfl (Le.rfl')))
    (r_aload_n k_127_76 rfl rfl
    (r_iload_n k_127_77 rfl rfl
    (r_iload k_127_78 rfl rfl
    (r_callI (q_stat (rest := []) (av := [.ref o0, .int x1, .int x4]) k_127_80 po_127 rfl (by decide) rfl rfl rfl rfl) (lvq (j := 0) rfl (by decide +kernel)) rfl rfl (fun r3 σ3 h3 => r_iload_n k_127_83 rfl rfl
    (r_callI (q_stat (rest := []) (av := [.int r3, .int x2]) k_127_84 po_127 rfl (by decide) rfl rfl rfl rfl) (lvq (j := 0) rfl (by decide +kernel)) rfl rfl (fun r4 σ4 h4 => r_if (tgt := 93) k_127_87 rfl rfl cop_ne
    (r_iinc k_127_93 rfl rfl rfl rfl
    (r_goto (tgt := 21) k_127_96 rfl (Le.rfl')))
    (r_iload k_127_90 rfl rfl
    (r_istore_n k_127_92 rfl rfl rfl
    (r_iinc k_127_93 rfl rfl rfl rfl
    (r_goto (tgt := 21) k_127_96 rfl (Le.rfl'))))))))))))))))))))))
theorem M_127 {o0 : Nat} (ho0 : isW o0) {x1 : Int32} {x2 : Int32} {σ : pS} {ρ : Nat → Nat → Option Nat} (e : gR σ = ρ) (hL : LayR ρ) : Le
  (if x1 = x2 then some (1, .int (ν 1), σ) else bI (pcall 91 [.ref o0, .int x1, .int x2] σ) fun r1 σ1 => if r1 = (ι 0) then C_127_21 o0 x1 x2 (ν 1) (ι 0) (.retAddr 0) σ1 else some (1, .int (ν 1), σ1))
  (pcall 127 [.ref o0, .int x1, .int x2] σ) := by
  show Le _ (den 127 0 0 [.ref o0, .int x1, .int x2, .retAddr 0, .retAddr 0, .retAddr 0] [] σ)
  exact r_iload_n k_127_0 rfl rfl
    (r_iload_n k_127_1 rfl rfl
    (r_icmp (tgt := 14) k_127_2 rfl rfl cop_eq
    (r_iconst k_127_14 rfl rfl
    (r_ret k_127_15 rfl rfl))
    (r_aload_n k_127_5 rfl rfl
    (r_iload_n k_127_6 rfl rfl
    (r_iload_n k_127_7 rfl rfl
    (r_callI (q_virt (rest := []) (as := [.int x1, .int x2]) k_127_8 po_127 rfl rfl rfl (rcvO rfl rfl (kdW ho0)) rfl rfl) (lvq (j := 0) rfl (by decide +kernel)) rfl rfl (fun r1 σ1 h1 => r_if (tgt := 16) k_127_11 rfl rfl cop_eq
    (r_iconst k_127_16 rfl rfl
    (r_istore_n k_127_17 rfl rfl rfl
    (r_iconst k_127_18 rfl rfl
    (r_istore k_127_19 rfl rfl rfl
    (Le.rfl')))))
    (r_iconst k_127_14 rfl rfl
    (r_ret k_127_15 rfl rfl)))))))))
/-! ===== 129 HedgeWants.Gifts.share ===== -/
theorem k_129_0 : cd 129 0 = some (.aload_n 0, 1) := by decide +kernel
theorem k_129_1 : cd 129 1 = some (.getfield 9, 3) := by decide +kernel
theorem k_129_4 : cd 129 4 = some (.ldc2_w 15, 3) := by decide +kernel
theorem k_129_7 : cd 129 7 = some (.invokestatic 17, 3) := by decide +kernel
theorem k_129_10 : cd 129 10 = some (.aload_n 0, 1) := by decide +kernel
theorem k_129_11 : cd 129 11 = some (.getfield 9, 3) := by decide +kernel
theorem k_129_14 : cd 129 14 = some (.iconst 0, 1) := by decide +kernel
theorem k_129_15 : cd 129 15 = some (.lconst 0, 1) := by decide +kernel
theorem k_129_16 : cd 129 16 = some (.lastore, 1) := by decide +kernel
theorem k_129_17 : cd 129 17 = some (.iconst 1, 1) := by decide +kernel
theorem k_129_18 : cd 129 18 = some (.aload_n 1, 1) := by decide +kernel
theorem k_129_19 : cd 129 19 = some (.invokevirtual 23, 3) := by decide +kernel
theorem k_129_22 : cd 129 22 = some (.ishl, 1) := by decide +kernel
theorem k_129_23 : cd 129 23 = some (.iconst 1, 1) := by decide +kernel
theorem k_129_24 : cd 129 24 = some (.isub, 1) := by decide +kernel
theorem k_129_25 : cd 129 25 = some (.istore_n 2, 1) := by decide +kernel
theorem k_129_26 : cd 129 26 = some (.iconst 0, 1) := by decide +kernel
theorem k_129_27 : cd 129 27 = some (.istore_n 3, 1) := by decide +kernel
theorem k_129_28 : cd 129 28 = some (.iload_n 3, 1) := by decide +kernel
theorem k_129_29 : cd 129 29 = some (.aload_n 1, 1) := by decide +kernel
theorem k_129_30 : cd 129 30 = some (.invokevirtual 29, 3) := by decide +kernel
theorem k_129_33 : cd 129 33 = some (.if_icmp .ge 58, 3) := by decide +kernel
theorem k_129_36 : cd 129 36 = some (.iload_n 2, 1) := by decide +kernel
theorem k_129_37 : cd 129 37 = some (.istore 4, 2) := by decide +kernel
theorem k_129_39 : cd 129 39 = some (.iload 4, 2) := by decide +kernel
theorem k_129_41 : cd 129 41 = some (.ifCond .le 44, 3) := by decide +kernel
theorem k_129_44 : cd 129 44 = some (.iload 4, 2) := by decide +kernel
theorem k_129_46 : cd 129 46 = some (.aload_n 0, 1) := by decide +kernel
theorem k_129_47 : cd 129 47 = some (.getfield 9, 3) := by decide +kernel
theorem k_129_50 : cd 129 50 = some (.arraylength, 1) := by decide +kernel
theorem k_129_51 : cd 129 51 = some (.if_icmp .ge 34, 3) := by decide +kernel
theorem k_129_54 : cd 129 54 = some (.aload_n 0, 1) := by decide +kernel
theorem k_129_55 : cd 129 55 = some (.getfield 9, 3) := by decide +kernel
theorem k_129_58 : cd 129 58 = some (.iload 4, 2) := by decide +kernel
theorem k_129_60 : cd 129 60 = some (.aload_n 0, 1) := by decide +kernel
theorem k_129_61 : cd 129 61 = some (.getfield 9, 3) := by decide +kernel
theorem k_129_64 : cd 129 64 = some (.iload 4, 2) := by decide +kernel
theorem k_129_66 : cd 129 66 = some (.laload, 1) := by decide +kernel
theorem k_129_67 : cd 129 67 = some (.aload_n 0, 1) := by decide +kernel
theorem k_129_68 : cd 129 68 = some (.aload_n 1, 1) := by decide +kernel
theorem k_129_69 : cd 129 69 = some (.iload_n 3, 1) := by decide +kernel
theorem k_129_70 : cd 129 70 = some (.iload 4, 2) := by decide +kernel
theorem k_129_72 : cd 129 72 = some (.invokevirtual 32, 3) := by decide +kernel
theorem k_129_75 : cd 129 75 = some (.invokestatic 36, 3) := by decide +kernel
theorem k_129_78 : cd 129 78 = some (.lastore, 1) := by decide +kernel
theorem k_129_79 : cd 129 79 = some (.iinc 4 (-1), 3) := by decide +kernel
theorem k_129_82 : cd 129 82 = some (.goto (-43), 3) := by decide +kernel
theorem k_129_85 : cd 129 85 = some (.iinc 3 1, 3) := by decide +kernel
theorem k_129_88 : cd 129 88 = some (.goto (-60), 3) := by decide +kernel
theorem k_129_91 : cd 129 91 = some (.aload_n 1, 1) := by decide +kernel
theorem k_129_92 : cd 129 92 = some (.invokevirtual 23, 3) := by decide +kernel
theorem k_129_95 : cd 129 95 = some (.aload_n 1, 1) := by decide +kernel
theorem k_129_96 : cd 129 96 = some (.invokevirtual 29, 3) := by decide +kernel
theorem k_129_99 : cd 129 99 = some (.invokestatic 42, 3) := by decide +kernel
theorem k_129_102 : cd 129 102 = some (.istore_n 3, 1) := by decide +kernel
theorem k_129_103 : cd 129 103 = some (.aload_n 0, 1) := by decide +kernel
theorem k_129_104 : cd 129 104 = some (.lconst 0, 1) := by decide +kernel
theorem k_129_105 : cd 129 105 = some (.putfield 46, 3) := by decide +kernel
theorem k_129_108 : cd 129 108 = some (.iconst 0, 1) := by decide +kernel
theorem k_129_109 : cd 129 109 = some (.istore 4, 2) := by decide +kernel
theorem k_129_111 : cd 129 111 = some (.iload 4, 2) := by decide +kernel
theorem k_129_113 : cd 129 113 = some (.iload_n 2, 1) := by decide +kernel
theorem k_129_114 : cd 129 114 = some (.if_icmp .gt 53, 3) := by decide +kernel
theorem k_129_117 : cd 129 117 = some (.iload 4, 2) := by decide +kernel
theorem k_129_119 : cd 129 119 = some (.aload_n 0, 1) := by decide +kernel
theorem k_129_120 : cd 129 120 = some (.getfield 9, 3) := by decide +kernel
theorem k_129_123 : cd 129 123 = some (.arraylength, 1) := by decide +kernel
theorem k_129_124 : cd 129 124 = some (.if_icmp .ge 43, 3) := by decide +kernel
theorem k_129_127 : cd 129 127 = some (.aload_n 0, 1) := by decide +kernel
theorem k_129_128 : cd 129 128 = some (.iload 4, 2) := by decide +kernel
theorem k_129_130 : cd 129 130 = some (.invokestatic 50, 3) := by decide +kernel
theorem k_129_133 : cd 129 133 = some (.iload_n 3, 1) := by decide +kernel
theorem k_129_134 : cd 129 134 = some (.if_icmp .ne 20, 3) := by decide +kernel
theorem k_129_137 : cd 129 137 = some (.aload_n 0, 1) := by decide +kernel
theorem k_129_138 : cd 129 138 = some (.getfield 46, 3) := by decide +kernel
theorem k_129_141 : cd 129 141 = some (.aload_n 0, 1) := by decide +kernel
theorem k_129_142 : cd 129 142 = some (.getfield 9, 3) := by decide +kernel
theorem k_129_145 : cd 129 145 = some (.iload 4, 2) := by decide +kernel
theorem k_129_147 : cd 129 147 = some (.laload, 1) := by decide +kernel
theorem k_129_148 : cd 129 148 = some (.invokestatic 36, 3) := by decide +kernel
theorem k_129_151 : cd 129 151 = some (.goto 7, 3) := by decide +kernel
theorem k_129_154 : cd 129 154 = some (.aload_n 0, 1) := by decide +kernel
theorem k_129_155 : cd 129 155 = some (.getfield 46, 3) := by decide +kernel
theorem k_129_158 : cd 129 158 = some (.putfield 46, 3) := by decide +kernel
theorem k_129_161 : cd 129 161 = some (.iinc 4 1, 3) := by decide +kernel
theorem k_129_164 : cd 129 164 = some (.goto (-53), 3) := by decide +kernel
theorem k_129_167 : cd 129 167 = some (.return_, 1) := by decide +kernel
theorem po_129 : po 129 = 2 := rfl
noncomputable def C_129_28 (o0 : Nat) (x2 : Int32) (x3 : Int32) (v4 : Value) (σ : pS) : Option pZ := den 129 0 28 [.ref 59, .ref o0, .int x2, .int x3, v4] [] σ
noncomputable def C_129_39 (o0 : Nat) (x2 : Int32) (x3 : Int32) (x4 : Int32) (σ : pS) : Option pZ := den 129 0 39 [.ref 59, .ref o0, .int x2, .int x3, .int x4] [] σ
noncomputable def C_129_111 (o0 : Nat) (v1 : Value) (x2 : Int32) (x3 : Int32) (x4 : Int32) (σ : pS) : Option pZ := den 129 0 111 [.ref 59, v1, .int x2, .int x3, .int x4] [] σ
theorem T_129_28 {o0 : Nat} (ho0 : isW o0) {x2 : Int32} {x3 : Int32} {v4 : Value}  {σ : pS} {ρ : Nat → Nat → Option Nat} (e : gR σ = ρ) (hL : LayR ρ) : Le
  (bI (pcall 87 [.ref o0] σ) fun r1 σ1 => if r1 ≤ x3 then bI (pcall 86 [.ref o0] σ1) fun r2 σ2 => bI (pcall 87 [.ref o0] σ2) fun r3 σ3 => C_129_111 o0 (.ref o0) x2 (imin r2 r3) (ι 0) (sJ σ3 59 1 (0 : Int64)) else C_129_39 o0 x2 x3 x2 σ1)
  (C_129_28 o0 x2 x3 v4 σ) := by
  unfold C_129_28
  exact r_iload_n k_129_28 rfl rfl
    (r_aload_n k_129_29 rfl rfl
    (r_callI (q_virt (rest := [.int x3]) (as := []) k_129_30 po_129 rfl rfl rfl (rcvO rfl rfl (kdW ho0)) rfl rfl) (lvq (j := 0) rfl (by decide +kernel)) rfl rfl (fun r1 σ1 h1 => r_icmp (tgt := 91) k_129_33 rfl rfl cop_ge
    (r_aload_n k_129_91 rfl rfl
    (r_callI (q_virt (rest := []) (as := []) k_129_92 po_129 rfl rfl rfl (rcvO rfl rfl (kdW ho0)) rfl rfl) (lvq (j := 0) rfl (by decide +kernel)) rfl rfl (fun r2 σ2 h2 => r_aload_n k_129_95 rfl rfl
    (r_callI (q_virt (rest := [.int r2]) (as := []) k_129_96 po_129 rfl rfl rfl (rcvO rfl rfl (kdW ho0)) rfl rfl) (lvq (j := 0) rfl (by decide +kernel)) rfl rfl (fun r3 σ3 h3 => r_imin k_129_99 rfl po_129 rfl rfl
    (r_istore_n k_129_102 rfl rfl rfl
    (r_aload_n k_129_103 rfl rfl
    (r_lconst k_129_104 rfl rfl
    (r_putJ k_129_105 rfl po_129 rfl rfl rfl
    (r_iconst k_129_108 rfl rfl
    (r_istore k_129_109 rfl rfl rfl
    (Le.rfl'))))))))))))
    (r_iload_n k_129_36 rfl rfl
    (r_istore k_129_37 rfl rfl rfl
    (Le.rfl'))))))
theorem T_129_39 {o0 : Nat} (ho0 : isW o0) {x2 : Int32} {x3 : Int32} {x4 : Int32}  {σ : pS} {ρ : Nat → Nat → Option Nat} (e : gR σ = ρ) (hL : LayR ρ) : Le
  (if x4 ≤ (ι 0) then C_129_28 o0 x2 (x3 + (ι 1)) (.int x4) σ else if (ι 256) ≤ x4 then C_129_28 o0 x2 (x3 + (ι 1)) (.int x4) σ else gd (inb x4 256) (bJ (pcall 130 [.ref 59, .ref o0, .int x3, .int x4] σ) fun r1 σ1 => gd (inb x4 256) (C_129_39 o0 x2 x3 (x4 + (ν 1)) (sJ σ1 60 (ix x4) (lmax (gJ σ 60 (ix x4)) r1)))))
  (C_129_39 o0 x2 x3 x4 σ) := by
  unfold C_129_39
  exact r_iload k_129_39 rfl rfl
    (r_if (tgt := 85) k_129_41 rfl rfl cop_le
    (r_iinc k_129_85 rfl rfl rfl rfl
    (r_goto (tgt := 28) k_129_88 rfl (Le.rfl')))
    (r_iload k_129_44 rfl rfl
    (r_aload_n k_129_46 rfl rfl
    (r_getR k_129_47 rfl po_129 rfl rfl rfl rfl (gRat e (LayR.at hL (i := 62) rfl))
    (r_alenJ k_129_50 rfl rfl rfl
    (r_icmp (tgt := 85) k_129_51 rfl rfl cop_ge
    (r_iinc k_129_85 rfl rfl rfl rfl
    (r_goto (tgt := 28) k_129_88 rfl (Le.rfl')))
    (r_aload_n k_129_54 rfl rfl
    (r_getR k_129_55 rfl po_129 rfl rfl rfl rfl (gRat e (LayR.at hL (i := 62) rfl))
    (r_iload k_129_58 rfl rfl
    (r_aload_n k_129_60 rfl rfl
    (r_getR k_129_61 rfl po_129 rfl rfl rfl rfl (gRat e (LayR.at hL (i := 62) rfl))
    (r_iload k_129_64 rfl rfl
    (r_gd fun g => r_lald k_129_66 rfl rfl g
    (r_aload_n k_129_67 rfl rfl
    (r_aload_n k_129_68 rfl rfl
    (r_iload_n k_129_69 rfl rfl
    (r_iload k_129_70 rfl rfl
    (r_callJ (q_virt (rest := [.long (gJ σ 60 (ix x4)), .int x4, .ref 60]) (as := [.ref o0, .int x3, .int x4]) k_129_72 po_129 rfl rfl rfl (rcvO rfl rfl rfl) rfl rfl) (lvq (j := 0) rfl (by decide +kernel)) rfl rfl (fun r1 σ1 h1 => r_lmax k_129_75 rfl po_129 rfl rfl
    (r_gd fun g => r_last k_129_78 rfl rfl g
    (r_iinc k_129_79 rfl rfl rfl rfl
    (r_goto (tgt := 39) k_129_82 rfl (Le.rfl')))))))))))))))))))))))
theorem T_129_111 {o0 : Nat} (ho0 : isW o0) {v1 : Value} {x2 : Int32} {x3 : Int32} {x4 : Int32}  {σ : pS} {ρ : Nat → Nat → Option Nat} (e : gR σ = ρ) (hL : LayR ρ) : Le
  (if x2 < x4 then some (0, .null, σ) else if (ι 256) ≤ x4 then some (0, .null, σ) else bI (pcall 0 [.int x4] σ) fun r1 σ1 => if ¬ r1 = x3 then C_129_111 o0 v1 x2 x3 (x4 + (ι 1)) (sJ σ1 59 1 (gJ σ1 59 1)) else gd (inb x4 256) (C_129_111 o0 v1 x2 x3 (x4 + (ι 1)) (sJ σ1 59 1 (lmax (gJ σ1 59 1) (gJ σ1 60 (ix x4))))))
  (C_129_111 o0 v1 x2 x3 x4 σ) := by
  unfold C_129_111
  exact r_iload k_129_111 rfl rfl
    (r_iload_n k_129_113 rfl rfl
    (r_icmp (tgt := 167) k_129_114 rfl rfl cop_gt
    (r_retV k_129_167 rfl)
    (r_iload k_129_117 rfl rfl
    (r_aload_n k_129_119 rfl rfl
    (r_getR k_129_120 rfl po_129 rfl rfl rfl rfl (gRat e (LayR.at hL (i := 62) rfl))
    (r_alenJ k_129_123 rfl rfl rfl
    (r_icmp (tgt := 167) k_129_124 rfl rfl cop_ge
    (r_retV k_129_167 rfl)
    (r_aload_n k_129_127 rfl rfl
    (r_iload k_129_128 rfl rfl
    (r_callI (q_stat (rest := [.ref 59]) (av := [.int x4]) k_129_130 po_129 rfl (by decide) rfl rfl rfl rfl) (lvq (j := 0) rfl (by decide +kernel)) rfl rfl (fun r1 σ1 h1 => r_iload_n k_129_133 rfl rfl
    (r_icmp (tgt := 154) k_129_134 rfl rfl cop_ne
    (r_aload_n k_129_154 rfl rfl
    (r_getJ k_129_155 rfl po_129 rfl rfl rfl rfl
    (r_putJ k_129_158 rfl po_129 rfl rfl rfl
    (r_iinc k_129_161 rfl rfl rfl rfl
    (r_goto (tgt := 111) k_129_164 rfl (Le.rfl'))))))
    (r_aload_n k_129_137 rfl rfl
    (r_getJ k_129_138 rfl po_129 rfl rfl rfl rfl
    (r_aload_n k_129_141 rfl rfl
    (r_getR k_129_142 rfl po_129 rfl rfl rfl rfl (gRat (eC rfl h1 e) (LayR.at hL (i := 62) rfl))
    (r_iload k_129_145 rfl rfl
    (r_gd fun g => r_lald k_129_147 rfl rfl g
    (r_lmax k_129_148 rfl po_129 rfl rfl
    (r_goto (tgt := 158) k_129_151 rfl (r_putJ k_129_158 rfl po_129 rfl rfl rfl
    (r_iinc k_129_161 rfl rfl rfl rfl
    (r_goto (tgt := 111) k_129_164 rfl (Le.rfl'))))))))))))))))))))))))
theorem M_129 {o0 : Nat} (ho0 : isW o0)  {σ : pS} {ρ : Nat → Nat → Option Nat} (e : gR σ = ρ) (hL : LayR ρ) : Le
  (bV (pcall 2 [.ref 60, .long (-1 : Int64)] σ) fun σ1 => bI (pcall 86 [.ref o0] (sJ σ1 60 0 (0 : Int64))) fun r2 σ2 => C_129_28 o0 ((shl' (ι 1) r2) - (ι 1)) (ι 0) (.retAddr 0) σ2)
  (pcall 129 [.ref 59, .ref o0] σ) := by
  show Le _ (den 129 0 0 [.ref 59, .ref o0, .retAddr 0, .retAddr 0, .retAddr 0] [] σ)
  exact r_aload_n k_129_0 rfl rfl
    (r_getR k_129_1 rfl po_129 rfl rfl rfl rfl (gRat e (LayR.at hL (i := 62) rfl))
    (r_ldc2 k_129_4 rfl po_129 rfl rfl
    (r_callV (q_stat (rest := []) (av := [.ref 60, .long (-1 : Int64)]) k_129_7 po_129 rfl (by decide) rfl rfl rfl rfl) (lvq (j := 0) rfl (by decide +kernel)) rfl rfl (fun _ σ1 h1 => r_aload_n k_129_10 rfl rfl
    (r_getR k_129_11 rfl po_129 rfl rfl rfl rfl (gRat (eC rfl h1 e) (LayR.at hL (i := 62) rfl))
    (r_iconst k_129_14 rfl rfl
    (r_lconst k_129_15 rfl rfl
    (r_last k_129_16 rfl rfl (by decide)
    (r_iconst k_129_17 rfl rfl
    (r_aload_n k_129_18 rfl rfl
    (r_callI (q_virt (rest := [.int (ι 1)]) (as := []) k_129_19 po_129 rfl rfl rfl (rcvO rfl rfl (kdW ho0)) rfl rfl) (lvq (j := 0) rfl (by decide +kernel)) rfl rfl (fun r2 σ2 h2 => r_ishl k_129_22 rfl
    (r_iconst k_129_23 rfl rfl
    (r_isub k_129_24 rfl
    (r_istore_n k_129_25 rfl rfl rfl
    (r_iconst k_129_26 rfl rfl
    (r_istore_n k_129_27 rfl rfl rfl
    (Le.rfl'))))))))))))))))))
/-! ===== 130 HedgeWants.Gifts.bestWith ===== -/
theorem k_130_0 : cd 130 0 = some (.ldc2_w 15, 3) := by decide +kernel
theorem k_130_3 : cd 130 3 = some (.lstore 4, 2) := by decide +kernel
theorem k_130_5 : cd 130 5 = some (.ldc2_w 56, 3) := by decide +kernel
theorem k_130_8 : cd 130 8 = some (.lstore 6, 2) := by decide +kernel
theorem k_130_10 : cd 130 10 = some (.iconst 0, 1) := by decide +kernel
theorem k_130_11 : cd 130 11 = some (.istore 8, 2) := by decide +kernel
theorem k_130_13 : cd 130 13 = some (.iload 8, 2) := by decide +kernel
theorem k_130_15 : cd 130 15 = some (.aload_n 1, 1) := by decide +kernel
theorem k_130_16 : cd 130 16 = some (.invokevirtual 23, 3) := by decide +kernel
theorem k_130_19 : cd 130 19 = some (.if_icmp .ge 103, 3) := by decide +kernel
theorem k_130_22 : cd 130 22 = some (.lload 6, 2) := by decide +kernel
theorem k_130_24 : cd 130 24 = some (.ldc2_w 58, 3) := by decide +kernel
theorem k_130_27 : cd 130 27 = some (.ldiv, 1) := by decide +kernel
theorem k_130_28 : cd 130 28 = some (.lstore 6, 2) := by decide +kernel
theorem k_130_30 : cd 130 30 = some (.iload_n 3, 1) := by decide +kernel
theorem k_130_31 : cd 130 31 = some (.iconst 1, 1) := by decide +kernel
theorem k_130_32 : cd 130 32 = some (.iload 8, 2) := by decide +kernel
theorem k_130_34 : cd 130 34 = some (.ishl, 1) := by decide +kernel
theorem k_130_35 : cd 130 35 = some (.iconst (-1), 1) := by decide +kernel
theorem k_130_36 : cd 130 36 = some (.ixor, 1) := by decide +kernel
theorem k_130_37 : cd 130 37 = some (.iand, 1) := by decide +kernel
theorem k_130_38 : cd 130 38 = some (.istore 9, 2) := by decide +kernel
theorem k_130_40 : cd 130 40 = some (.iload_n 3, 1) := by decide +kernel
theorem k_130_41 : cd 130 41 = some (.iload 8, 2) := by decide +kernel
theorem k_130_43 : cd 130 43 = some (.invokestatic 60, 3) := by decide +kernel
theorem k_130_46 : cd 130 46 = some (.ifCond .eq 70, 3) := by decide +kernel
theorem k_130_49 : cd 130 49 = some (.iload 9, 2) := by decide +kernel
theorem k_130_51 : cd 130 51 = some (.ifCond .lt 65, 3) := by decide +kernel
theorem k_130_54 : cd 130 54 = some (.iload 9, 2) := by decide +kernel
theorem k_130_56 : cd 130 56 = some (.aload_n 0, 1) := by decide +kernel
theorem k_130_57 : cd 130 57 = some (.getfield 9, 3) := by decide +kernel
theorem k_130_60 : cd 130 60 = some (.arraylength, 1) := by decide +kernel
theorem k_130_61 : cd 130 61 = some (.if_icmp .ge 55, 3) := by decide +kernel
theorem k_130_64 : cd 130 64 = some (.aload_n 0, 1) := by decide +kernel
theorem k_130_65 : cd 130 65 = some (.getfield 9, 3) := by decide +kernel
theorem k_130_68 : cd 130 68 = some (.iload 9, 2) := by decide +kernel
theorem k_130_70 : cd 130 70 = some (.laload, 1) := by decide +kernel
theorem k_130_71 : cd 130 71 = some (.lconst 0, 1) := by decide +kernel
theorem k_130_72 : cd 130 72 = some (.lcmp, 1) := by decide +kernel
theorem k_130_73 : cd 130 73 = some (.ifCond .lt 43, 3) := by decide +kernel
theorem k_130_76 : cd 130 76 = some (.aload_n 1, 1) := by decide +kernel
theorem k_130_77 : cd 130 77 = some (.iload 8, 2) := by decide +kernel
theorem k_130_79 : cd 130 79 = some (.iload_n 2, 1) := by decide +kernel
theorem k_130_80 : cd 130 80 = some (.invokevirtual 64, 3) := by decide +kernel
theorem k_130_83 : cd 130 83 = some (.i2l, 1) := by decide +kernel
theorem k_130_84 : cd 130 84 = some (.ldc2_w 56, 3) := by decide +kernel
theorem k_130_87 : cd 130 87 = some (.lmul, 1) := by decide +kernel
theorem k_130_88 : cd 130 88 = some (.bipush 12, 2) := by decide +kernel
theorem k_130_90 : cd 130 90 = some (.iload_n 2, 1) := by decide +kernel
theorem k_130_91 : cd 130 91 = some (.isub, 1) := by decide +kernel
theorem k_130_92 : cd 130 92 = some (.i2l, 1) := by decide +kernel
theorem k_130_93 : cd 130 93 = some (.lload 6, 2) := by decide +kernel
theorem k_130_95 : cd 130 95 = some (.lmul, 1) := by decide +kernel
theorem k_130_96 : cd 130 96 = some (.ladd, 1) := by decide +kernel
theorem k_130_97 : cd 130 97 = some (.lstore 10, 2) := by decide +kernel
theorem k_130_99 : cd 130 99 = some (.lload 4, 2) := by decide +kernel
theorem k_130_101 : cd 130 101 = some (.aload_n 0, 1) := by decide +kernel
theorem k_130_102 : cd 130 102 = some (.getfield 9, 3) := by decide +kernel
theorem k_130_105 : cd 130 105 = some (.iload 9, 2) := by decide +kernel
theorem k_130_107 : cd 130 107 = some (.laload, 1) := by decide +kernel
theorem k_130_108 : cd 130 108 = some (.lload 10, 2) := by decide +kernel
theorem k_130_110 : cd 130 110 = some (.ladd, 1) := by decide +kernel
theorem k_130_111 : cd 130 111 = some (.invokestatic 36, 3) := by decide +kernel
theorem k_130_114 : cd 130 114 = some (.lstore 4, 2) := by decide +kernel
theorem k_130_116 : cd 130 116 = some (.iinc 8 1, 3) := by decide +kernel
theorem k_130_119 : cd 130 119 = some (.goto (-106), 3) := by decide +kernel
theorem k_130_122 : cd 130 122 = some (.lload 4, 2) := by decide +kernel
theorem k_130_124 : cd 130 124 = some (.lreturn, 1) := by decide +kernel
theorem po_130 : po 130 = 2 := rfl
noncomputable def C_130_13 (o0 : Nat) (x2 : Int32) (x3 : Int32) (x4 : Int64) (x6 : Int64) (x8 : Int32) (v9 : Value) (v10 : Value) (v11 : Value) (σ : pS) : Option pZ := den 130 0 13 [.ref 59, .ref o0, .int x2, .int x3, .long x4, .retAddr 1, .long x6, .retAddr 1, .int x8, v9, v10, v11] [] σ
theorem T_130_13 {o0 : Nat} (ho0 : isW o0) {x2 : Int32} {x3 : Int32} {x4 : Int64} {x6 : Int64} {x8 : Int32} {v9 : Value} {v10 : Value} {v11 : Value}  {σ : pS} {ρ : Nat → Nat → Option Nat} (e : gR σ = ρ) (hL : LayR ρ) : Le
  (bI (pcall 86 [.ref o0] σ) fun r1 σ1 => if r1 ≤ x8 then some (1, .long x4, σ1) else bI (pcall 168 [.int x3, .int x8] σ1) fun r2 σ2 => if r2 = (ι 0) then C_130_13 o0 x2 x3 x4 (x6 / (13 : Int64)) (x8 + (ι 1)) (.int (x3 &&& ((shl' (ι 1) x8) ^^^ (ν 1)))) v10 v11 σ2 else if (x3 &&& ((shl' (ι 1) x8) ^^^ (ν 1))) < (ι 0) then C_130_13 o0 x2 x3 x4 (x6 / (13 : Int64)) (x8 + (ι 1)) (.int (x3 &&& ((shl' (ι 1) x8) ^^^ (ν 1)))) v10 v11 σ2 else if (ι 256) ≤ (x3 &&& ((shl' (ι 1) x8) ^^^ (ν 1))) then C_130_13 o0 x2 x3 x4 (x6 / (13 : Int64)) (x8 + (ι 1)) (.int (x3 &&& ((shl' (ι 1) x8) ^^^ (ν 1)))) v10 v11 σ2 else gd (inb (x3 &&& ((shl' (ι 1) x8) ^^^ (ν 1))) 256) (if (lg_cmp (gJ σ2 60 (ix (x3 &&& ((shl' (ι 1) x8) ^^^ (ν 1))))) (0 : Int64)) < (ι 0) then C_130_13 o0 x2 x3 x4 (x6 / (13 : Int64)) (x8 + (ι 1)) (.int (x3 &&& ((shl' (ι 1) x8) ^^^ (ν 1)))) v10 v11 σ2 else bI (pcall 74 [.ref o0, .int x8, .int x2] σ2) fun r3 σ3 => gd (inb (x3 &&& ((shl' (ι 1) x8) ^^^ (ν 1))) 256) (C_130_13 o0 x2 x3 (lmax x4 ((gJ σ3 60 (ix (x3 &&& ((shl' (ι 1) x8) ^^^ (ν 1))))) + ((r3.toInt64 * (815730721 : Int64)) + ((((ι 12) - x2).toInt64) * (x6 / (13 : Int64)))))) (x6 / (13 : Int64)) (x8 + (ι 1)) (.int (x3 &&& ((shl' (ι 1) x8) ^^^ (ν 1)))) (.long ((r3.toInt64 * (815730721 : Int64)) + ((((ι 12) - x2).toInt64) * (x6 / (13 : Int64))))) (.retAddr 1) σ3)))
  (C_130_13 o0 x2 x3 x4 x6 x8 v9 v10 v11 σ) := by
  unfold C_130_13
  exact r_iload k_130_13 rfl rfl
    (r_aload_n k_130_15 rfl rfl
    (r_callI (q_virt (rest := [.int x8]) (as := []) k_130_16 po_130 rfl rfl rfl (rcvO rfl rfl (kdW ho0)) rfl rfl) (lvq (j := 0) rfl (by decide +kernel)) rfl rfl (fun r1 σ1 h1 => r_icmp (tgt := 122) k_130_19 rfl rfl cop_ge
    (r_lload k_130_122 rfl rfl rfl
    (r_retJ k_130_124 rfl))
    (r_lload k_130_22 rfl rfl rfl
    (r_ldc2 k_130_24 rfl po_130 rfl rfl
    (r_ldiv k_130_27 rfl (by decide)
    (r_lstore k_130_28 rfl rfl rfl
    (r_iload_n k_130_30 rfl rfl
    (r_iconst k_130_31 rfl rfl
    (r_iload k_130_32 rfl rfl
    (r_ishl k_130_34 rfl
    (r_iconst k_130_35 rfl rfl
    (r_ixor k_130_36 rfl
    (r_iand k_130_37 rfl
    (r_istore k_130_38 rfl rfl rfl
    (r_iload_n k_130_40 rfl rfl
    (r_iload k_130_41 rfl rfl
    (r_callI (q_stat (rest := []) (av := [.int x3, .int x8]) k_130_43 po_130 rfl (by decide) rfl rfl rfl rfl) (lvq (j := 0) rfl (by decide +kernel)) rfl rfl (fun r2 σ2 h2 => r_if (tgt := 116) k_130_46 rfl rfl cop_eq
    (r_iinc k_130_116 rfl rfl rfl rfl
    (r_goto (tgt := 13) k_130_119 rfl (Le.rfl')))
    (r_iload k_130_49 rfl rfl
    (r_if (tgt := 116) k_130_51 rfl rfl cop_lt
    (r_iinc k_130_116 rfl rfl rfl rfl
    (r_goto (tgt := 13) k_130_119 rfl (Le.rfl')))
    (r_iload k_130_54 rfl rfl
    (r_aload_n k_130_56 rfl rfl
    (r_getR k_130_57 rfl po_130 rfl rfl rfl rfl (gRat (eC rfl h2 (eC rfl h1 e)) (LayR.at hL (i := 62) rfl))
    (r_alenJ k_130_60 rfl rfl rfl
    (r_icmp (tgt := 116) k_130_61 rfl rfl cop_ge
    (r_iinc k_130_116 rfl rfl rfl rfl
    (r_goto (tgt := 13) k_130_119 rfl (Le.rfl')))
    (r_aload_n k_130_64 rfl rfl
    (r_getR k_130_65 rfl po_130 rfl rfl rfl rfl (gRat (eC rfl h2 (eC rfl h1 e)) (LayR.at hL (i := 62) rfl))
    (r_iload k_130_68 rfl rfl
    (r_gd fun g => r_lald k_130_70 rfl rfl g
    (r_lconst k_130_71 rfl rfl
    (r_lcmp k_130_72 rfl
    (r_if (tgt := 116) k_130_73 rfl rfl cop_lt
    (r_iinc k_130_116 rfl rfl rfl rfl
    (r_goto (tgt := 13) k_130_119 rfl (Le.rfl')))
    (r_aload_n k_130_76 rfl rfl
    (r_iload k_130_77 rfl rfl
    (r_iload_n k_130_79 rfl rfl
    (r_callI (q_virt (rest := []) (as := [.int x8, .int x2]) k_130_80 po_130 rfl rfl rfl (rcvO rfl rfl (kdW ho0)) rfl rfl) (lvq (j := 0) rfl (by decide +kernel)) rfl rfl (fun r3 σ3 h3 => r_i2l k_130_83 rfl
    (r_ldc2 k_130_84 rfl po_130 rfl rfl
    (r_lmul k_130_87 rfl
    (r_bipush k_130_88 rfl rfl
    (r_iload_n k_130_90 rfl rfl
    (r_isub k_130_91 rfl
    (r_i2l k_130_92 rfl
    (r_lload k_130_93 rfl rfl rfl
    (r_lmul k_130_95 rfl
    (r_ladd k_130_96 rfl
    (r_lstore k_130_97 rfl rfl rfl
    (r_lload k_130_99 rfl rfl rfl
    (r_aload_n k_130_101 rfl rfl
    (r_getR k_130_102 rfl po_130 rfl rfl rfl rfl (gRat (eC rfl h3 (eC rfl h2 (eC rfl h1 e))) (LayR.at hL (i := 62) rfl))
    (r_iload k_130_105 rfl rfl
    (r_gd fun g => r_lald k_130_107 rfl rfl g
    (r_lload k_130_108 rfl rfl rfl
    (r_ladd k_130_110 rfl
    (r_lmax k_130_111 rfl po_130 rfl rfl
    (r_lstore k_130_114 rfl rfl rfl
    (r_iinc k_130_116 rfl rfl rfl rfl
    (r_goto (tgt := 13) k_130_119 rfl (Le.rfl'))))))))))))))))))))))))))))))))))))))))))))))))))))))))))))
theorem M_130 {o0 : Nat} (ho0 : isW o0) {x1 : Int32} {x2 : Int32} {σ : pS} {ρ : Nat → Nat → Option Nat} (e : gR σ = ρ) (hL : LayR ρ) : Le
  (C_130_13 o0 x1 x2 (-1 : Int64) (815730721 : Int64) (ι 0) (.retAddr 0) (.retAddr 0) (.retAddr 0) σ)
  (pcall 130 [.ref 59, .ref o0, .int x1, .int x2] σ) := by
  show Le _ (den 130 0 0 [.ref 59, .ref o0, .int x1, .int x2, .retAddr 0, .retAddr 0, .retAddr 0, .retAddr 0, .retAddr 0, .retAddr 0, .retAddr 0, .retAddr 0] [] σ)
  exact r_ldc2 k_130_0 rfl po_130 rfl rfl
    (r_lstore k_130_3 rfl rfl rfl
    (r_ldc2 k_130_5 rfl po_130 rfl rfl
    (r_lstore k_130_8 rfl rfl rfl
    (r_iconst k_130_10 rfl rfl
    (r_istore k_130_11 rfl rfl rfl
    (Le.rfl'))))))
/-! ===== 131 HedgeWants.Gifts.worth ===== -/
theorem k_131_0 : cd 131 0 = some (.aload_n 0, 1) := by decide +kernel
theorem k_131_1 : cd 131 1 = some (.getfield 46, 3) := by decide +kernel
theorem k_131_4 : cd 131 4 = some (.ldc2_w 56, 3) := by decide +kernel
theorem k_131_7 : cd 131 7 = some (.ldiv, 1) := by decide +kernel
theorem k_131_8 : cd 131 8 = some (.l2i, 1) := by decide +kernel
theorem k_131_9 : cd 131 9 = some (.ireturn, 1) := by decide +kernel
theorem po_131 : po 131 = 2 := rfl
theorem M_131   {σ : pS} {ρ : Nat → Nat → Option Nat} (e : gR σ = ρ) (hL : LayR ρ) : Le
  (some (1, .int (((gJ σ 59 1) / (815730721 : Int64)).toInt32), σ))
  (pcall 131 [.ref 59] σ) := by
  show Le _ (den 131 0 0 [.ref 59] [] σ)
  exact r_aload_n k_131_0 rfl rfl
    (r_getJ k_131_1 rfl po_131 rfl rfl rfl rfl
    (r_ldc2 k_131_4 rfl po_131 rfl rfl
    (r_ldiv k_131_7 rfl (by decide)
    (r_l2i k_131_8 rfl
    (r_ret k_131_9 rfl rfl)))))
/-! ===== 132 HedgeWants.Gifts.thingFor ===== -/
theorem k_132_0 : cd 132 0 = some (.aload_n 0, 1) := by decide +kernel
theorem k_132_1 : cd 132 1 = some (.getfield 46, 3) := by decide +kernel
theorem k_132_4 : cd 132 4 = some (.ldc2_w 56, 3) := by decide +kernel
theorem k_132_7 : cd 132 7 = some (.lrem, 1) := by decide +kernel
theorem k_132_8 : cd 132 8 = some (.lstore_n 2, 1) := by decide +kernel
theorem k_132_9 : cd 132 9 = some (.iload_n 1, 1) := by decide +kernel
theorem k_132_10 : cd 132 10 = some (.iconst 1, 1) := by decide +kernel
theorem k_132_11 : cd 132 11 = some (.iadd, 1) := by decide +kernel
theorem k_132_12 : cd 132 12 = some (.istore 4, 2) := by decide +kernel
theorem k_132_14 : cd 132 14 = some (.iload 4, 2) := by decide +kernel
theorem k_132_16 : cd 132 16 = some (.bipush 8, 2) := by decide +kernel
theorem k_132_18 : cd 132 18 = some (.if_icmp .ge 15, 3) := by decide +kernel
theorem k_132_21 : cd 132 21 = some (.lload_n 2, 1) := by decide +kernel
theorem k_132_22 : cd 132 22 = some (.ldc2_w 58, 3) := by decide +kernel
theorem k_132_25 : cd 132 25 = some (.ldiv, 1) := by decide +kernel
theorem k_132_26 : cd 132 26 = some (.lstore_n 2, 1) := by decide +kernel
theorem k_132_27 : cd 132 27 = some (.iinc 4 1, 3) := by decide +kernel
theorem k_132_30 : cd 132 30 = some (.goto (-16), 3) := by decide +kernel
theorem k_132_33 : cd 132 33 = some (.lload_n 2, 1) := by decide +kernel
theorem k_132_34 : cd 132 34 = some (.ldc2_w 58, 3) := by decide +kernel
theorem k_132_37 : cd 132 37 = some (.lrem, 1) := by decide +kernel
theorem k_132_38 : cd 132 38 = some (.l2i, 1) := by decide +kernel
theorem k_132_39 : cd 132 39 = some (.istore 4, 2) := by decide +kernel
theorem k_132_41 : cd 132 41 = some (.iload 4, 2) := by decide +kernel
theorem k_132_43 : cd 132 43 = some (.ifCond .ne 7, 3) := by decide +kernel
theorem k_132_46 : cd 132 46 = some (.iconst (-1), 1) := by decide +kernel
theorem k_132_47 : cd 132 47 = some (.goto 8, 3) := by decide +kernel
theorem k_132_50 : cd 132 50 = some (.bipush 12, 2) := by decide +kernel
theorem k_132_52 : cd 132 52 = some (.iload 4, 2) := by decide +kernel
theorem k_132_54 : cd 132 54 = some (.isub, 1) := by decide +kernel
theorem k_132_55 : cd 132 55 = some (.ireturn, 1) := by decide +kernel
theorem po_132 : po 132 = 2 := rfl
noncomputable def C_132_14  (v0 : Value) (v1 : Value) (x2 : Int64) (x4 : Int32) (σ : pS) : Option pZ := den 132 0 14 [v0, v1, .long x2, .retAddr 1, .int x4] [] σ
theorem T_132_14  {v0 : Value} {v1 : Value} {x2 : Int64} {x4 : Int32}  {σ : pS} {ρ : Nat → Nat → Option Nat} (e : gR σ = ρ) (hL : LayR ρ) : Le
  (if (ι 8) ≤ x4 then if ¬ ((lrem' x2 (13 : Int64)).toInt32) = (ι 0) then some (1, .int ((ι 12) - ((lrem' x2 (13 : Int64)).toInt32)), σ) else some (1, .int (ν 1), σ) else C_132_14 v0 v1 (x2 / (13 : Int64)) (x4 + (ι 1)) σ)
  (C_132_14  v0 v1 x2 x4 σ) := by
  unfold C_132_14
  exact r_iload k_132_14 rfl rfl
    (r_bipush k_132_16 rfl rfl
    (r_icmp (tgt := 33) k_132_18 rfl rfl cop_ge
    (r_lload_n k_132_33 rfl rfl rfl
    (r_ldc2 k_132_34 rfl po_132 rfl rfl
    (r_lrem k_132_37 rfl (by decide)
    (r_l2i k_132_38 rfl
    (r_istore k_132_39 rfl rfl rfl
    (r_iload k_132_41 rfl rfl
    (r_if (tgt := 50) k_132_43 rfl rfl cop_ne
    (r_bipush k_132_50 rfl rfl
    (r_iload k_132_52 rfl rfl
    (r_isub k_132_54 rfl
    (r_ret k_132_55 rfl rfl))))
    (r_iconst k_132_46 rfl rfl
    (r_goto (tgt := 55) k_132_47 rfl (r_ret k_132_55 rfl rfl))))))))))
    (r_lload_n k_132_21 rfl rfl rfl
    (r_ldc2 k_132_22 rfl po_132 rfl rfl
    (r_ldiv k_132_25 rfl (by decide)
    (r_lstore_n k_132_26 rfl rfl rfl
    (r_iinc k_132_27 rfl rfl rfl rfl
    (r_goto (tgt := 14) k_132_30 rfl (Le.rfl')))))))))
theorem M_132  {x0 : Int32} {σ : pS} {ρ : Nat → Nat → Option Nat} (e : gR σ = ρ) (hL : LayR ρ) : Le
  (C_132_14 (.ref 59) (.int x0) (lrem' (gJ σ 59 1) (815730721 : Int64)) (x0 + (ι 1)) σ)
  (pcall 132 [.ref 59, .int x0] σ) := by
  show Le _ (den 132 0 0 [.ref 59, .int x0, .retAddr 0, .retAddr 0, .retAddr 0] [] σ)
  exact r_aload_n k_132_0 rfl rfl
    (r_getJ k_132_1 rfl po_132 rfl rfl rfl rfl
    (r_ldc2 k_132_4 rfl po_132 rfl rfl
    (r_lrem k_132_7 rfl (by decide)
    (r_lstore_n k_132_8 rfl rfl rfl
    (r_iload_n k_132_9 rfl rfl
    (r_iconst k_132_10 rfl rfl
    (r_iadd k_132_11 rfl
    (r_istore k_132_12 rfl rfl rfl
    (Le.rfl')))))))))
end TREES
