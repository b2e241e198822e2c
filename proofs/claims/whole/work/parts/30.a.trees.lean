/-! ===== trees ===== -/
section TREES
def layT : List (Nat × Nat × Nat) := [(0, 0, 1), (0, 2, 24), (0, 6, 25), (0, 7, 32), (0, 8, 36), (0, 9, 43), (0, 11, 54), (0, 12, 57), (0, 13, 59), (2, 4, 3), (2, 5, 4), (2, 6, 5), (2, 7, 6), (2, 8, 7), (2, 9, 10), (7, 0, 8), (7, 4, 9), (10, 0, 11), (10, 4, 12), (13, 4, 14), (13, 5, 15), (13, 6, 16), (13, 7, 17), (13, 8, 18), (13, 9, 21), (18, 0, 19), (18, 4, 20), (21, 0, 22), (21, 4, 23), (24, 0, 1), (25, 4, 26), (25, 5, 27), (25, 6, 28), (25, 7, 29), (25, 8, 30), (25, 9, 31), (32, 0, 33), (32, 2, 34), (32, 4, 35), (36, 4, 37), (36, 5, 38), (36, 6, 39), (36, 7, 40), (36, 8, 41), (36, 9, 42), (43, 0, 44), (43, 2, 45), (43, 4, 46), (47, 4, 48), (47, 5, 49), (47, 6, 50), (47, 7, 51), (47, 8, 52), (47, 9, 53), (54, 0, 25), (54, 1, 47), (54, 3, 55), (54, 4, 56), (57, 0, 25), (57, 1, 32), (57, 2, 47), (57, 3, 58), (59, 0, 60), (61, 0, 62), (61, 1, 63), (61, 2, 64), (61, 5, 65), (61, 6, 66), (61, 7, 67), (61, 8, 68), (61, 9, 69), (61, 10, 70), (61, 11, 71), (61, 12, 72), (61, 13, 73), (61, 14, 74), (61, 26, 75), (61, 27, 76), (61, 28, 77), (61, 29, 78), (61, 30, 79), (61, 34, 80), (61, 35, 81), (61, 38, 82), (61, 39, 83), (61, 40, 84), (61, 41, 85), (61, 42, 86), (61, 43, 87), (61, 44, 88), (61, 45, 89), (61, 46, 90), (61, 48, 91), (61, 53, 92), (61, 54, 93), (61, 55, 94), (61, 56, 95), (61, 57, 96), (61, 58, 97)]
abbrev LayR (ρ : Nat → Nat → Option Nat) : Prop := ∀ q ∈ layT, ρ q.1 q.2.1 = some q.2.2
theorem LayR.at {ρ : Nat → Nat → Option Nat} (h : LayR ρ) {i : Nat} {q : Nat × Nat × Nat} (hi : layT[i]? = some q) : ρ q.1 q.2.1 = some q.2.2 := h q (List.mem_of_getElem? hi)
theorem gRat {σ : pS} {ρ : Nat → Nat → Option Nat} {a f q : Nat} (e : gR σ = ρ) (h : ρ a f = some q) : gR σ a f = some q := by rw [e]; exact h
theorem eI {σ : pS} {ρ : Nat → Nat → Option Nat} {a i : Nat} {x : Int32} (e : gR σ = ρ) : gR (sI σ a i x) = ρ := e
theorem eJ {σ : pS} {ρ : Nat → Nat → Option Nat} {a i : Nat} {x : Int64} (e : gR σ = ρ) : gR (sJ σ a i x) = ρ := e
theorem eA {σ : pS} {ρ : Nat → Nat → Option Nat} {a : Nat} {f : Nat → Int32} (e : gR σ = ρ) : gR (sA σ a f) = ρ := e
theorem lvq {b' j b k : Nat} {av : List Value} (h : rk b' av = j) (hl : lv b' j < lv b k) : lv b' (rk b' av) < lv b k := by rw [h]; exact hl
theorem eC {σ : pS} {ρ : Nat → Nat → Option Nat} {b : Nat} {av : List Value} {y : pZ} (hn : nR b = true) (h : pcall b av σ = some y) (e : gR σ = ρ) : gR y.2.2 = ρ := (pcall_gq hn h).1.trans e
theorem kdW {a : Nat} (h : isW a) : kd a = (8, 0) := by rcases h with rfl|rfl|rfl <;> rfl
theorem kdW_1 {a : Nat} (h : isW a) : kd (a + 1) = (100, 12) := by rcases h with rfl|rfl|rfl <;> rfl
theorem lyW_4 {ρ : Nat → Nat → Option Nat} (hL : LayR ρ) {a : Nat} (h : isW a) : ρ a 4 = some (a + 1) := by
  rcases h with rfl|rfl|rfl
  · exact LayR.at hL (i := 30) rfl
  · exact LayR.at hL (i := 39) rfl
  · exact LayR.at hL (i := 48) rfl
theorem kdW_2 {a : Nat} (h : isW a) : kd (a + 2) = (100, 12) := by rcases h with rfl|rfl|rfl <;> rfl
theorem lyW_5 {ρ : Nat → Nat → Option Nat} (hL : LayR ρ) {a : Nat} (h : isW a) : ρ a 5 = some (a + 2) := by
  rcases h with rfl|rfl|rfl
  · exact LayR.at hL (i := 31) rfl
  · exact LayR.at hL (i := 40) rfl
  · exact LayR.at hL (i := 49) rfl
theorem kdW_3 {a : Nat} (h : isW a) : kd (a + 3) = (100, 8) := by rcases h with rfl|rfl|rfl <;> rfl
theorem lyW_6 {ρ : Nat → Nat → Option Nat} (hL : LayR ρ) {a : Nat} (h : isW a) : ρ a 6 = some (a + 3) := by
  rcases h with rfl|rfl|rfl
  · exact LayR.at hL (i := 32) rfl
  · exact LayR.at hL (i := 41) rfl
  · exact LayR.at hL (i := 50) rfl
theorem kdW_4 {a : Nat} (h : isW a) : kd (a + 4) = (100, 96) := by rcases h with rfl|rfl|rfl <;> rfl
theorem lyW_7 {ρ : Nat → Nat → Option Nat} (hL : LayR ρ) {a : Nat} (h : isW a) : ρ a 7 = some (a + 4) := by
  rcases h with rfl|rfl|rfl
  · exact LayR.at hL (i := 33) rfl
  · exact LayR.at hL (i := 42) rfl
  · exact LayR.at hL (i := 51) rfl
theorem kdW_5 {a : Nat} (h : isW a) : kd (a + 5) = (100, 12) := by rcases h with rfl|rfl|rfl <;> rfl
theorem lyW_8 {ρ : Nat → Nat → Option Nat} (hL : LayR ρ) {a : Nat} (h : isW a) : ρ a 8 = some (a + 5) := by
  rcases h with rfl|rfl|rfl
  · exact LayR.at hL (i := 34) rfl
  · exact LayR.at hL (i := 43) rfl
  · exact LayR.at hL (i := 52) rfl
theorem kdW_6 {a : Nat} (h : isW a) : kd (a + 6) = (100, 8) := by rcases h with rfl|rfl|rfl <;> rfl
theorem lyW_9 {ρ : Nat → Nat → Option Nat} (hL : LayR ρ) {a : Nat} (h : isW a) : ρ a 9 = some (a + 6) := by
  rcases h with rfl|rfl|rfl
  · exact LayR.at hL (i := 35) rfl
  · exact LayR.at hL (i := 44) rfl
  · exact LayR.at hL (i := 53) rfl
theorem kdP {a : Nat} (h : isP a) : kd a = (5, 0) := by rcases h with rfl|rfl <;> rfl
theorem kdP_1 {a : Nat} (h : isP a) : kd (a + 1) = (100, 8) := by rcases h with rfl|rfl <;> rfl
theorem lyP_4 {ρ : Nat → Nat → Option Nat} (hL : LayR ρ) {a : Nat} (h : isP a) : ρ a 4 = some (a + 1) := by
  rcases h with rfl|rfl
  · exact LayR.at hL (i := 9) rfl
  · exact LayR.at hL (i := 19) rfl
theorem kdP_2 {a : Nat} (h : isP a) : kd (a + 2) = (100, 8) := by rcases h with rfl|rfl <;> rfl
theorem lyP_5 {ρ : Nat → Nat → Option Nat} (hL : LayR ρ) {a : Nat} (h : isP a) : ρ a 5 = some (a + 2) := by
  rcases h with rfl|rfl
  · exact LayR.at hL (i := 10) rfl
  · exact LayR.at hL (i := 20) rfl
theorem kdP_3 {a : Nat} (h : isP a) : kd (a + 3) = (100, 12) := by rcases h with rfl|rfl <;> rfl
theorem lyP_6 {ρ : Nat → Nat → Option Nat} (hL : LayR ρ) {a : Nat} (h : isP a) : ρ a 6 = some (a + 3) := by
  rcases h with rfl|rfl
  · exact LayR.at hL (i := 11) rfl
  · exact LayR.at hL (i := 21) rfl
theorem kdP_4 {a : Nat} (h : isP a) : kd (a + 4) = (100, 96) := by rcases h with rfl|rfl <;> rfl
theorem lyP_7 {ρ : Nat → Nat → Option Nat} (hL : LayR ρ) {a : Nat} (h : isP a) : ρ a 7 = some (a + 4) := by
  rcases h with rfl|rfl
  · exact LayR.at hL (i := 12) rfl
  · exact LayR.at hL (i := 22) rfl
theorem isU_p5 {a : Nat} (h : isP a) : isU (a + 5) := by rcases h with rfl|rfl <;> decide
theorem lyP_8 {ρ : Nat → Nat → Option Nat} (hL : LayR ρ) {a : Nat} (h : isP a) : ρ a 8 = some (a + 5) := by
  rcases h with rfl|rfl
  · exact LayR.at hL (i := 13) rfl
  · exact LayR.at hL (i := 23) rfl
theorem isU_p8 {a : Nat} (h : isP a) : isU (a + 8) := by rcases h with rfl|rfl <;> decide
theorem lyP_9 {ρ : Nat → Nat → Option Nat} (hL : LayR ρ) {a : Nat} (h : isP a) : ρ a 9 = some (a + 8) := by
  rcases h with rfl|rfl
  · exact LayR.at hL (i := 14) rfl
  · exact LayR.at hL (i := 24) rfl
theorem kdU {a : Nat} (h : isU a) : kd a = (7, 0) := by rcases h with rfl|rfl|rfl|rfl <;> rfl
theorem kdU_1 {a : Nat} (h : isU a) : kd (a + 1) = (100, 700) := by rcases h with rfl|rfl|rfl|rfl <;> rfl
theorem lyU_0 {ρ : Nat → Nat → Option Nat} (hL : LayR ρ) {a : Nat} (h : isU a) : ρ a 0 = some (a + 1) := by
  rcases h with rfl|rfl|rfl|rfl
  · exact LayR.at hL (i := 15) rfl
  · exact LayR.at hL (i := 17) rfl
  · exact LayR.at hL (i := 25) rfl
  · exact LayR.at hL (i := 27) rfl
theorem kdU_2 {a : Nat} (h : isU a) : kd (a + 2) = (100, 64) := by rcases h with rfl|rfl|rfl|rfl <;> rfl
theorem lyU_4 {ρ : Nat → Nat → Option Nat} (hL : LayR ρ) {a : Nat} (h : isU a) : ρ a 4 = some (a + 2) := by
  rcases h with rfl|rfl|rfl|rfl
  · exact LayR.at hL (i := 16) rfl
  · exact LayR.at hL (i := 18) rfl
  · exact LayR.at hL (i := 26) rfl
  · exact LayR.at hL (i := 28) rfl
theorem kdM {a : Nat} (h : isM a) : kd a = (4, 0) := by rcases h with rfl|rfl <;> rfl
theorem kdM_1 {a : Nat} (h : isM a) : kd (a + 1) = (100, 5160) := by rcases h with rfl|rfl <;> rfl
theorem lyM_0 {ρ : Nat → Nat → Option Nat} (hL : LayR ρ) {a : Nat} (h : isM a) : ρ a 0 = some (a + 1) := by
  rcases h with rfl|rfl
  · exact LayR.at hL (i := 36) rfl
  · exact LayR.at hL (i := 45) rfl
theorem kdM_2 {a : Nat} (h : isM a) : kd (a + 2) = (100, 24) := by rcases h with rfl|rfl <;> rfl
theorem lyM_2 {ρ : Nat → Nat → Option Nat} (hL : LayR ρ) {a : Nat} (h : isM a) : ρ a 2 = some (a + 2) := by
  rcases h with rfl|rfl
  · exact LayR.at hL (i := 37) rfl
  · exact LayR.at hL (i := 46) rfl
theorem kdM_3 {a : Nat} (h : isM a) : kd (a + 3) = (100, 3) := by rcases h with rfl|rfl <;> rfl
theorem lyM_4 {ρ : Nat → Nat → Option Nat} (hL : LayR ρ) {a : Nat} (h : isM a) : ρ a 4 = some (a + 3) := by
  rcases h with rfl|rfl
  · exact LayR.at hL (i := 38) rfl
  · exact LayR.at hL (i := 47) rfl

/-! ===== 0 java/lang/Integer.bitCount ===== -/
theorem k_0_0 : cd 0 0 = some (.iload_n 0, 1) := by decide +kernel
theorem k_0_1 : cd 0 1 = some (.iload_n 0, 1) := by decide +kernel
theorem k_0_2 : cd 0 2 = some (.iconst 1, 1) := by decide +kernel
theorem k_0_3 : cd 0 3 = some (.iushr, 1) := by decide +kernel
theorem k_0_4 : cd 0 4 = some (.ldc_w 265, 3) := by decide +kernel
theorem k_0_7 : cd 0 7 = some (.iand, 1) := by decide +kernel
theorem k_0_8 : cd 0 8 = some (.isub, 1) := by decide +kernel
theorem k_0_9 : cd 0 9 = some (.istore_n 0, 1) := by decide +kernel
theorem k_0_10 : cd 0 10 = some (.iload_n 0, 1) := by decide +kernel
theorem k_0_11 : cd 0 11 = some (.ldc_w 266, 3) := by decide +kernel
theorem k_0_14 : cd 0 14 = some (.iand, 1) := by decide +kernel
theorem k_0_15 : cd 0 15 = some (.iload_n 0, 1) := by decide +kernel
theorem k_0_16 : cd 0 16 = some (.iconst 2, 1) := by decide +kernel
theorem k_0_17 : cd 0 17 = some (.iushr, 1) := by decide +kernel
theorem k_0_18 : cd 0 18 = some (.ldc_w 266, 3) := by decide +kernel
theorem k_0_21 : cd 0 21 = some (.iand, 1) := by decide +kernel
theorem k_0_22 : cd 0 22 = some (.iadd, 1) := by decide +kernel
theorem k_0_23 : cd 0 23 = some (.istore_n 0, 1) := by decide +kernel
theorem k_0_24 : cd 0 24 = some (.iload_n 0, 1) := by decide +kernel
theorem k_0_25 : cd 0 25 = some (.iload_n 0, 1) := by decide +kernel
theorem k_0_26 : cd 0 26 = some (.iconst 4, 1) := by decide +kernel
theorem k_0_27 : cd 0 27 = some (.iushr, 1) := by decide +kernel
theorem k_0_28 : cd 0 28 = some (.iadd, 1) := by decide +kernel
theorem k_0_29 : cd 0 29 = some (.ldc_w 267, 3) := by decide +kernel
theorem k_0_32 : cd 0 32 = some (.iand, 1) := by decide +kernel
theorem k_0_33 : cd 0 33 = some (.istore_n 0, 1) := by decide +kernel
theorem k_0_34 : cd 0 34 = some (.iload_n 0, 1) := by decide +kernel
theorem k_0_35 : cd 0 35 = some (.iload_n 0, 1) := by decide +kernel
theorem k_0_36 : cd 0 36 = some (.bipush 8, 2) := by decide +kernel
theorem k_0_38 : cd 0 38 = some (.iushr, 1) := by decide +kernel
theorem k_0_39 : cd 0 39 = some (.iadd, 1) := by decide +kernel
theorem k_0_40 : cd 0 40 = some (.istore_n 0, 1) := by decide +kernel
theorem k_0_41 : cd 0 41 = some (.iload_n 0, 1) := by decide +kernel
theorem k_0_42 : cd 0 42 = some (.iload_n 0, 1) := by decide +kernel
theorem k_0_43 : cd 0 43 = some (.bipush 16, 2) := by decide +kernel
theorem k_0_45 : cd 0 45 = some (.iushr, 1) := by decide +kernel
theorem k_0_46 : cd 0 46 = some (.iadd, 1) := by decide +kernel
theorem k_0_47 : cd 0 47 = some (.istore_n 0, 1) := by decide +kernel
theorem k_0_48 : cd 0 48 = some (.iload_n 0, 1) := by decide +kernel
theorem k_0_49 : cd 0 49 = some (.bipush 63, 2) := by decide +kernel
theorem k_0_51 : cd 0 51 = some (.iand, 1) := by decide +kernel
theorem k_0_52 : cd 0 52 = some (.ireturn, 1) := by decide +kernel
theorem po_0 : po 0 = 13 := rfl
theorem M_0  {x0 : Int32} {σ : pS} {ρ : Nat → Nat → Option Nat} (e : gR σ = ρ) (hL : LayR ρ) : Le
  (some (1, .int ((((((((x0 - ((ushr x0 (ι 1)) &&& (ι 1431655765))) &&& (ι 858993459)) + ((ushr (x0 - ((ushr x0 (ι 1)) &&& (ι 1431655765))) (ι 2)) &&& (ι 858993459))) + (ushr (((x0 - ((ushr x0 (ι 1)) &&& (ι 1431655765))) &&& (ι 858993459)) + ((ushr (x0 - ((ushr x0 (ι 1)) &&& (ι 1431655765))) (ι 2)) &&& (ι 858993459))) (ι 4))) &&& (ι 252645135)) + (ushr (((((x0 - ((ushr x0 (ι 1)) &&& (ι 1431655765))) &&& (ι 858993459)) + ((ushr (x0 - ((ushr x0 (ι 1)) &&& (ι 1431655765))) (ι 2)) &&& (ι 858993459))) + (ushr (((x0 - ((ushr x0 (ι 1)) &&& (ι 1431655765))) &&& (ι 858993459)) + ((ushr (x0 - ((ushr x0 (ι 1)) &&& (ι 1431655765))) (ι 2)) &&& (ι 858993459))) (ι 4))) &&& (ι 252645135)) (ι 8))) + (ushr ((((((x0 - ((ushr x0 (ι 1)) &&& (ι 1431655765))) &&& (ι 858993459)) + ((ushr (x0 - ((ushr x0 (ι 1)) &&& (ι 1431655765))) (ι 2)) &&& (ι 858993459))) + (ushr (((x0 - ((ushr x0 (ι 1)) &&& (ι 1431655765))) &&& (ι 858993459)) + ((ushr (x0 - ((ushr x0 (ι 1)) &&& (ι 1431655765))) (ι 2)) &&& (ι 858993459))) (ι 4))) &&& (ι 252645135)) + (ushr (((((x0 - ((ushr x0 (ι 1)) &&& (ι 1431655765))) &&& (ι 858993459)) + ((ushr (x0 - ((ushr x0 (ι 1)) &&& (ι 1431655765))) (ι 2)) &&& (ι 858993459))) + (ushr (((x0 - ((ushr x0 (ι 1)) &&& (ι 1431655765))) &&& (ι 858993459)) + ((ushr (x0 - ((ushr x0 (ι 1)) &&& (ι 1431655765))) (ι 2)) &&& (ι 858993459))) (ι 4))) &&& (ι 252645135)) (ι 8))) (ι 16))) &&& (ι 63)), σ))
  (pcall 0 [.int x0] σ) := by
  show Le _ (den 0 0 0 [.int x0] [] σ)
  exact r_iload_n k_0_0 rfl rfl
    (r_iload_n k_0_1 rfl rfl
    (r_iconst k_0_2 rfl rfl
    (r_iushr k_0_3 rfl
    (r_ldcwI k_0_4 rfl po_0 rfl rfl
    (r_iand k_0_7 rfl
    (r_isub k_0_8 rfl
    (r_istore_n k_0_9 rfl rfl rfl
    (r_iload_n k_0_10 rfl rfl
    (r_ldcwI k_0_11 rfl po_0 rfl rfl
    (r_iand k_0_14 rfl
    (r_iload_n k_0_15 rfl rfl
    (r_iconst k_0_16 rfl rfl
    (r_iushr k_0_17 rfl
    (r_ldcwI k_0_18 rfl po_0 rfl rfl
    (r_iand k_0_21 rfl
    (r_iadd k_0_22 rfl
    (r_istore_n k_0_23 rfl rfl rfl
    (r_iload_n k_0_24 rfl rfl
    (r_iload_n k_0_25 rfl rfl
    (r_iconst k_0_26 rfl rfl
    (r_iushr k_0_27 rfl
    (r_iadd k_0_28 rfl
    (r_ldcwI k_0_29 rfl po_0 rfl rfl
    (r_iand k_0_32 rfl
    (r_istore_n k_0_33 rfl rfl rfl
    (r_iload_n k_0_34 rfl rfl
    (r_iload_n k_0_35 rfl rfl
    (r_bipush k_0_36 rfl rfl
    (r_iushr k_0_38 rfl
    (r_iadd k_0_39 rfl
    (r_istore_n k_0_40 rfl rfl rfl
    (r_iload_n k_0_41 rfl rfl
    (r_iload_n k_0_42 rfl rfl
    (r_bipush k_0_43 rfl rfl
    (r_iushr k_0_45 rfl
    (r_iadd k_0_46 rfl
    (r_istore_n k_0_47 rfl rfl rfl
    (r_iload_n k_0_48 rfl rfl
    (r_bipush k_0_49 rfl rfl
    (r_iand k_0_51 rfl
    (r_ret k_0_52 rfl rfl)))))))))))))))))))))))))))))))))))))))))
/-! ===== 1 java/util/Arrays.fill ===== -/
theorem k_1_0 : cd 1 0 = some (.iconst 0, 1) := by decide +kernel
theorem k_1_1 : cd 1 1 = some (.istore_n 2, 1) := by decide +kernel
theorem k_1_2 : cd 1 2 = some (.aload_n 0, 1) := by decide +kernel
theorem k_1_3 : cd 1 3 = some (.arraylength, 1) := by decide +kernel
theorem k_1_4 : cd 1 4 = some (.istore_n 3, 1) := by decide +kernel
theorem k_1_5 : cd 1 5 = some (.iload_n 2, 1) := by decide +kernel
theorem k_1_6 : cd 1 6 = some (.iload_n 3, 1) := by decide +kernel
theorem k_1_7 : cd 1 7 = some (.if_icmp .ge 13, 3) := by decide +kernel
theorem k_1_10 : cd 1 10 = some (.aload_n 0, 1) := by decide +kernel
theorem k_1_11 : cd 1 11 = some (.iload_n 2, 1) := by decide +kernel
theorem k_1_12 : cd 1 12 = some (.iload_n 1, 1) := by decide +kernel
theorem k_1_13 : cd 1 13 = some (.iastore, 1) := by decide +kernel
theorem k_1_14 : cd 1 14 = some (.iinc 2 1, 3) := by decide +kernel
theorem k_1_17 : cd 1 17 = some (.goto (-12), 3) := by decide +kernel
theorem k_1_20 : cd 1 20 = some (.return_, 1) := by decide +kernel
theorem po_1 : po 1 = 15 := rfl
noncomputable def C_1_5 (a0 n0 : Nat) (x1 : Int32) (x2 : Int32) (x3 : Int32) (σ : pS) : Option pZ := den 1 0 5 [.ref a0, .int x1, .int x2, .int x3] [] σ
theorem T_1_5 {a0 n0 : Nat} (ha0 : kd a0 = (100, n0)) {x1 : Int32} {x2 : Int32} {x3 : Int32}  {σ : pS} {ρ : Nat → Nat → Option Nat} (e : gR σ = ρ) (hL : LayR ρ) : Le
  (if x3 ≤ x2 then some (0, .null, σ) else gd (inb x2 n0) (C_1_5 a0 n0 x1 (x2 + (ι 1)) x3 (sI σ a0 (ix x2) x1)))
  (C_1_5 a0 n0 x1 x2 x3 σ) := by
  unfold C_1_5
  exact r_iload_n k_1_5 rfl rfl
    (r_iload_n k_1_6 rfl rfl
    (r_icmp (tgt := 20) k_1_7 rfl rfl cop_ge
    (r_retV k_1_20 rfl)
    (r_aload_n k_1_10 rfl rfl
    (r_iload_n k_1_11 rfl rfl
    (r_iload_n k_1_12 rfl rfl
    (r_gd fun g => r_iast k_1_13 rfl ha0 g
    (r_iinc k_1_14 rfl rfl rfl rfl
    (r_goto (tgt := 5) k_1_17 rfl (Le.rfl')))))))))
theorem M_1 {a0 n0 : Nat} (ha0 : kd a0 = (100, n0)) {x1 : Int32} {σ : pS} {ρ : Nat → Nat → Option Nat} (e : gR σ = ρ) (hL : LayR ρ) : Le
  (C_1_5 a0 n0 x1 (ι 0) (ι n0) σ)
  (pcall 1 [.ref a0, .int x1] σ) := by
  show Le _ (den 1 0 0 [.ref a0, .int x1, .retAddr 0, .retAddr 0] [] σ)
  exact r_iconst k_1_0 rfl rfl
    (r_istore_n k_1_1 rfl rfl rfl
    (r_aload_n k_1_2 rfl rfl
    (r_alenI k_1_3 rfl ha0 rfl
    (r_istore_n k_1_4 rfl rfl rfl
    (Le.rfl')))))
/-! ===== 2 java/util/Arrays.fill ===== -/
theorem k_2_0 : cd 2 0 = some (.iconst 0, 1) := by decide +kernel
theorem k_2_1 : cd 2 1 = some (.istore_n 3, 1) := by decide +kernel
theorem k_2_2 : cd 2 2 = some (.aload_n 0, 1) := by decide +kernel
theorem k_2_3 : cd 2 3 = some (.arraylength, 1) := by decide +kernel
theorem k_2_4 : cd 2 4 = some (.istore 4, 2) := by decide +kernel
theorem k_2_6 : cd 2 6 = some (.iload_n 3, 1) := by decide +kernel
theorem k_2_7 : cd 2 7 = some (.iload 4, 2) := by decide +kernel
theorem k_2_9 : cd 2 9 = some (.if_icmp .ge 13, 3) := by decide +kernel
theorem k_2_12 : cd 2 12 = some (.aload_n 0, 1) := by decide +kernel
theorem k_2_13 : cd 2 13 = some (.iload_n 3, 1) := by decide +kernel
theorem k_2_14 : cd 2 14 = some (.lload_n 1, 1) := by decide +kernel
theorem k_2_15 : cd 2 15 = some (.lastore, 1) := by decide +kernel
theorem k_2_16 : cd 2 16 = some (.iinc 3 1, 3) := by decide +kernel
theorem k_2_19 : cd 2 19 = some (.goto (-13), 3) := by decide +kernel
theorem k_2_22 : cd 2 22 = some (.return_, 1) := by decide +kernel
theorem po_2 : po 2 = 15 := rfl
noncomputable def C_2_6 (a0 n0 : Nat) (x1 : Int64) (x3 : Int32) (x4 : Int32) (σ : pS) : Option pZ := den 2 0 6 [.ref a0, .long x1, .retAddr 1, .int x3, .int x4] [] σ
theorem T_2_6 {a0 n0 : Nat} (ha0 : kd a0 = (101, n0)) {x1 : Int64} {x3 : Int32} {x4 : Int32}  {σ : pS} {ρ : Nat → Nat → Option Nat} (e : gR σ = ρ) (hL : LayR ρ) : Le
  (if x4 ≤ x3 then some (0, .null, σ) else gd (inb x3 n0) (C_2_6 a0 n0 x1 (x3 + (ι 1)) x4 (sJ σ a0 (ix x3) x1)))
  (C_2_6 a0 n0 x1 x3 x4 σ) := by
  unfold C_2_6
  exact r_iload_n k_2_6 rfl rfl
    (r_iload k_2_7 rfl rfl
    (r_icmp (tgt := 22) k_2_9 rfl rfl cop_ge
    (r_retV k_2_22 rfl)
    (r_aload_n k_2_12 rfl rfl
    (r_iload_n k_2_13 rfl rfl
    (r_lload_n k_2_14 rfl rfl rfl
    (r_gd fun g => r_last k_2_15 rfl ha0 g
    (r_iinc k_2_16 rfl rfl rfl rfl
    (r_goto (tgt := 6) k_2_19 rfl (Le.rfl')))))))))
theorem M_2 {a0 n0 : Nat} (ha0 : kd a0 = (101, n0)) {x1 : Int64} {σ : pS} {ρ : Nat → Nat → Option Nat} (e : gR σ = ρ) (hL : LayR ρ) : Le
  (C_2_6 a0 n0 x1 (ι 0) (ι n0) σ)
  (pcall 2 [.ref a0, .long x1] σ) := by
  show Le _ (den 2 0 0 [.ref a0, .long x1, .retAddr 1, .retAddr 0, .retAddr 0] [] σ)
  exact r_iconst k_2_0 rfl rfl
    (r_istore_n k_2_1 rfl rfl rfl
    (r_aload_n k_2_2 rfl rfl
    (r_alenJ k_2_3 rfl ha0 rfl
    (r_istore k_2_4 rfl rfl rfl
    (Le.rfl')))))
/-! ===== 3 jdk/internal/util/Preconditions.checkIndex ===== -/
theorem k_3_0 : cd 3 0 = some (.iload_n 0, 1) := by decide +kernel
theorem k_3_1 : cd 3 1 = some (.ifCond .lt 8, 3) := by decide +kernel
theorem k_3_4 : cd 3 4 = some (.iload_n 0, 1) := by decide +kernel
theorem k_3_5 : cd 3 5 = some (.iload_n 1, 1) := by decide +kernel
theorem k_3_6 : cd 3 6 = some (.if_icmp .lt 10, 3) := by decide +kernel
theorem k_3_9 : cd 3 9 = some (.aload_n 2, 1) := by decide +kernel
theorem k_3_16 : cd 3 16 = some (.iload_n 0, 1) := by decide +kernel
theorem k_3_17 : cd 3 17 = some (.ireturn, 1) := by decide +kernel
theorem po_3 : po 3 = 18 := rfl
theorem M_3  {x0 : Int32} {x1 : Int32} {σ : pS} {ρ : Nat → Nat → Option Nat} (e : gR σ = ρ) (hL : LayR ρ) : Le
  (if x0 < (ι 0) then none else if x0 < x1 then some (1, .int x0, σ) else none)
  (pcall 3 [.int x0, .int x1, .retAddr 3] σ) := by
  show Le _ (den 3 0 0 [.int x0, .int x1, .retAddr 3] [] σ)
  exact r_iload_n k_3_0 rfl rfl
    (r_if (tgt := 9) k_3_1 rfl rfl cop_lt
    (Le.none)
    (r_iload_n k_3_4 rfl rfl
    (r_iload_n k_3_5 rfl rfl
    (r_icmp (tgt := 16) k_3_6 rfl rfl cop_lt
    (r_iload_n k_3_16 rfl rfl
    (r_ret k_3_17 rfl rfl))
    (Le.none)))))
/-! ===== 4 java/lang/Integer.bitCount ===== -/
theorem k_4_0 : cd 4 0 = some (.iload_n 0, 1) := by decide +kernel
theorem k_4_1 : cd 4 1 = some (.iload_n 0, 1) := by decide +kernel
theorem k_4_2 : cd 4 2 = some (.iconst 1, 1) := by decide +kernel
theorem k_4_3 : cd 4 3 = some (.iushr, 1) := by decide +kernel
theorem k_4_4 : cd 4 4 = some (.ldc_w 265, 3) := by decide +kernel
theorem k_4_7 : cd 4 7 = some (.iand, 1) := by decide +kernel
theorem k_4_8 : cd 4 8 = some (.isub, 1) := by decide +kernel
theorem k_4_9 : cd 4 9 = some (.istore_n 0, 1) := by decide +kernel
theorem k_4_10 : cd 4 10 = some (.iload_n 0, 1) := by decide +kernel
theorem k_4_11 : cd 4 11 = some (.ldc_w 266, 3) := by decide +kernel
theorem k_4_14 : cd 4 14 = some (.iand, 1) := by decide +kernel
theorem k_4_15 : cd 4 15 = some (.iload_n 0, 1) := by decide +kernel
theorem k_4_16 : cd 4 16 = some (.iconst 2, 1) := by decide +kernel
theorem k_4_17 : cd 4 17 = some (.iushr, 1) := by decide +kernel
theorem k_4_18 : cd 4 18 = some (.ldc_w 266, 3) := by decide +kernel
theorem k_4_21 : cd 4 21 = some (.iand, 1) := by decide +kernel
theorem k_4_22 : cd 4 22 = some (.iadd, 1) := by decide +kernel
theorem k_4_23 : cd 4 23 = some (.istore_n 0, 1) := by decide +kernel
theorem k_4_24 : cd 4 24 = some (.iload_n 0, 1) := by decide +kernel
theorem k_4_25 : cd 4 25 = some (.iload_n 0, 1) := by decide +kernel
theorem k_4_26 : cd 4 26 = some (.iconst 4, 1) := by decide +kernel
theorem k_4_27 : cd 4 27 = some (.iushr, 1) := by decide +kernel
theorem k_4_28 : cd 4 28 = some (.iadd, 1) := by decide +kernel
theorem k_4_29 : cd 4 29 = some (.ldc_w 267, 3) := by decide +kernel
theorem k_4_32 : cd 4 32 = some (.iand, 1) := by decide +kernel
theorem k_4_33 : cd 4 33 = some (.istore_n 0, 1) := by decide +kernel
theorem k_4_34 : cd 4 34 = some (.iload_n 0, 1) := by decide +kernel
theorem k_4_35 : cd 4 35 = some (.iload_n 0, 1) := by decide +kernel
theorem k_4_36 : cd 4 36 = some (.bipush 8, 2) := by decide +kernel
theorem k_4_38 : cd 4 38 = some (.iushr, 1) := by decide +kernel
theorem k_4_39 : cd 4 39 = some (.iadd, 1) := by decide +kernel
theorem k_4_40 : cd 4 40 = some (.istore_n 0, 1) := by decide +kernel
theorem k_4_41 : cd 4 41 = some (.iload_n 0, 1) := by decide +kernel
theorem k_4_42 : cd 4 42 = some (.iload_n 0, 1) := by decide +kernel
theorem k_4_43 : cd 4 43 = some (.bipush 16, 2) := by decide +kernel
theorem k_4_45 : cd 4 45 = some (.iushr, 1) := by decide +kernel
theorem k_4_46 : cd 4 46 = some (.iadd, 1) := by decide +kernel
theorem k_4_47 : cd 4 47 = some (.istore_n 0, 1) := by decide +kernel
theorem k_4_48 : cd 4 48 = some (.iload_n 0, 1) := by decide +kernel
theorem k_4_49 : cd 4 49 = some (.bipush 63, 2) := by decide +kernel
theorem k_4_51 : cd 4 51 = some (.iand, 1) := by decide +kernel
theorem k_4_52 : cd 4 52 = some (.ireturn, 1) := by decide +kernel
theorem po_4 : po 4 = 13 := rfl
theorem M_4  {x0 : Int32} {σ : pS} {ρ : Nat → Nat → Option Nat} (e : gR σ = ρ) (hL : LayR ρ) : Le
  (some (1, .int ((((((((x0 - ((ushr x0 (ι 1)) &&& (ι 1431655765))) &&& (ι 858993459)) + ((ushr (x0 - ((ushr x0 (ι 1)) &&& (ι 1431655765))) (ι 2)) &&& (ι 858993459))) + (ushr (((x0 - ((ushr x0 (ι 1)) &&& (ι 1431655765))) &&& (ι 858993459)) + ((ushr (x0 - ((ushr x0 (ι 1)) &&& (ι 1431655765))) (ι 2)) &&& (ι 858993459))) (ι 4))) &&& (ι 252645135)) + (ushr (((((x0 - ((ushr x0 (ι 1)) &&& (ι 1431655765))) &&& (ι 858993459)) + ((ushr (x0 - ((ushr x0 (ι 1)) &&& (ι 1431655765))) (ι 2)) &&& (ι 858993459))) + (ushr (((x0 - ((ushr x0 (ι 1)) &&& (ι 1431655765))) &&& (ι 858993459)) + ((ushr (x0 - ((ushr x0 (ι 1)) &&& (ι 1431655765))) (ι 2)) &&& (ι 858993459))) (ι 4))) &&& (ι 252645135)) (ι 8))) + (ushr ((((((x0 - ((ushr x0 (ι 1)) &&& (ι 1431655765))) &&& (ι 858993459)) + ((ushr (x0 - ((ushr x0 (ι 1)) &&& (ι 1431655765))) (ι 2)) &&& (ι 858993459))) + (ushr (((x0 - ((ushr x0 (ι 1)) &&& (ι 1431655765))) &&& (ι 858993459)) + ((ushr (x0 - ((ushr x0 (ι 1)) &&& (ι 1431655765))) (ι 2)) &&& (ι 858993459))) (ι 4))) &&& (ι 252645135)) + (ushr (((((x0 - ((ushr x0 (ι 1)) &&& (ι 1431655765))) &&& (ι 858993459)) + ((ushr (x0 - ((ushr x0 (ι 1)) &&& (ι 1431655765))) (ι 2)) &&& (ι 858993459))) + (ushr (((x0 - ((ushr x0 (ι 1)) &&& (ι 1431655765))) &&& (ι 858993459)) + ((ushr (x0 - ((ushr x0 (ι 1)) &&& (ι 1431655765))) (ι 2)) &&& (ι 858993459))) (ι 4))) &&& (ι 252645135)) (ι 8))) (ι 16))) &&& (ι 63)), σ))
  (pcall 4 [.int x0] σ) := by
  show Le _ (den 4 0 0 [.int x0] [] σ)
  exact r_iload_n k_4_0 rfl rfl
    (r_iload_n k_4_1 rfl rfl
    (r_iconst k_4_2 rfl rfl
    (r_iushr k_4_3 rfl
    (r_ldcwI k_4_4 rfl po_4 rfl rfl
    (r_iand k_4_7 rfl
    (r_isub k_4_8 rfl
    (r_istore_n k_4_9 rfl rfl rfl
    (r_iload_n k_4_10 rfl rfl
    (r_ldcwI k_4_11 rfl po_4 rfl rfl
    (r_iand k_4_14 rfl
    (r_iload_n k_4_15 rfl rfl
    (r_iconst k_4_16 rfl rfl
    (r_iushr k_4_17 rfl
    (r_ldcwI k_4_18 rfl po_4 rfl rfl
    (r_iand k_4_21 rfl
    (r_iadd k_4_22 rfl
    (r_istore_n k_4_23 rfl rfl rfl
    (r_iload_n k_4_24 rfl rfl
    (r_iload_n k_4_25 rfl rfl
    (r_iconst k_4_26 rfl rfl
    (r_iushr k_4_27 rfl
    (r_iadd k_4_28 rfl
    (r_ldcwI k_4_29 rfl po_4 rfl rfl
    (r_iand k_4_32 rfl
    (r_istore_n k_4_33 rfl rfl rfl
    (r_iload_n k_4_34 rfl rfl
    (r_iload_n k_4_35 rfl rfl
    (r_bipush k_4_36 rfl rfl
    (r_iushr k_4_38 rfl
    (r_iadd k_4_39 rfl
    (r_istore_n k_4_40 rfl rfl rfl
    (r_iload_n k_4_41 rfl rfl
    (r_iload_n k_4_42 rfl rfl
    (r_bipush k_4_43 rfl rfl
    (r_iushr k_4_45 rfl
    (r_iadd k_4_46 rfl
    (r_istore_n k_4_47 rfl rfl rfl
    (r_iload_n k_4_48 rfl rfl
    (r_bipush k_4_49 rfl rfl
    (r_iand k_4_51 rfl
    (r_ret k_4_52 rfl rfl)))))))))))))))))))))))))))))))))))))))))
/-! ===== 5 java/lang/Integer.bitCount ===== -/
theorem k_5_0 : cd 5 0 = some (.iload_n 0, 1) := by decide +kernel
theorem k_5_1 : cd 5 1 = some (.iload_n 0, 1) := by decide +kernel
theorem k_5_2 : cd 5 2 = some (.iconst 1, 1) := by decide +kernel
theorem k_5_3 : cd 5 3 = some (.iushr, 1) := by decide +kernel
theorem k_5_4 : cd 5 4 = some (.ldc_w 265, 3) := by decide +kernel
theorem k_5_7 : cd 5 7 = some (.iand, 1) := by decide +kernel
theorem k_5_8 : cd 5 8 = some (.isub, 1) := by decide +kernel
theorem k_5_9 : cd 5 9 = some (.istore_n 0, 1) := by decide +kernel
theorem k_5_10 : cd 5 10 = some (.iload_n 0, 1) := by decide +kernel
theorem k_5_11 : cd 5 11 = some (.ldc_w 266, 3) := by decide +kernel
theorem k_5_14 : cd 5 14 = some (.iand, 1) := by decide +kernel
theorem k_5_15 : cd 5 15 = some (.iload_n 0, 1) := by decide +kernel
theorem k_5_16 : cd 5 16 = some (.iconst 2, 1) := by decide +kernel
theorem k_5_17 : cd 5 17 = some (.iushr, 1) := by decide +kernel
theorem k_5_18 : cd 5 18 = some (.ldc_w 266, 3) := by decide +kernel
theorem k_5_21 : cd 5 21 = some (.iand, 1) := by decide +kernel
theorem k_5_22 : cd 5 22 = some (.iadd, 1) := by decide +kernel
theorem k_5_23 : cd 5 23 = some (.istore_n 0, 1) := by decide +kernel
theorem k_5_24 : cd 5 24 = some (.iload_n 0, 1) := by decide +kernel
theorem k_5_25 : cd 5 25 = some (.iload_n 0, 1) := by decide +kernel
theorem k_5_26 : cd 5 26 = some (.iconst 4, 1) := by decide +kernel
theorem k_5_27 : cd 5 27 = some (.iushr, 1) := by decide +kernel
theorem k_5_28 : cd 5 28 = some (.iadd, 1) := by decide +kernel
theorem k_5_29 : cd 5 29 = some (.ldc_w 267, 3) := by decide +kernel
theorem k_5_32 : cd 5 32 = some (.iand, 1) := by decide +kernel
theorem k_5_33 : cd 5 33 = some (.istore_n 0, 1) := by decide +kernel
theorem k_5_34 : cd 5 34 = some (.iload_n 0, 1) := by decide +kernel
theorem k_5_35 : cd 5 35 = some (.iload_n 0, 1) := by decide +kernel
theorem k_5_36 : cd 5 36 = some (.bipush 8, 2) := by decide +kernel
theorem k_5_38 : cd 5 38 = some (.iushr, 1) := by decide +kernel
theorem k_5_39 : cd 5 39 = some (.iadd, 1) := by decide +kernel
theorem k_5_40 : cd 5 40 = some (.istore_n 0, 1) := by decide +kernel
theorem k_5_41 : cd 5 41 = some (.iload_n 0, 1) := by decide +kernel
theorem k_5_42 : cd 5 42 = some (.iload_n 0, 1) := by decide +kernel
theorem k_5_43 : cd 5 43 = some (.bipush 16, 2) := by decide +kernel
theorem k_5_45 : cd 5 45 = some (.iushr, 1) := by decide +kernel
theorem k_5_46 : cd 5 46 = some (.iadd, 1) := by decide +kernel
theorem k_5_47 : cd 5 47 = some (.istore_n 0, 1) := by decide +kernel
theorem k_5_48 : cd 5 48 = some (.iload_n 0, 1) := by decide +kernel
theorem k_5_49 : cd 5 49 = some (.bipush 63, 2) := by decide +kernel
theorem k_5_51 : cd 5 51 = some (.iand, 1) := by decide +kernel
theorem k_5_52 : cd 5 52 = some (.ireturn, 1) := by decide +kernel
theorem po_5 : po 5 = 13 := rfl
theorem M_5  {x0 : Int32} {σ : pS} {ρ : Nat → Nat → Option Nat} (e : gR σ = ρ) (hL : LayR ρ) : Le
  (some (1, .int ((((((((x0 - ((ushr x0 (ι 1)) &&& (ι 1431655765))) &&& (ι 858993459)) + ((ushr (x0 - ((ushr x0 (ι 1)) &&& (ι 1431655765))) (ι 2)) &&& (ι 858993459))) + (ushr (((x0 - ((ushr x0 (ι 1)) &&& (ι 1431655765))) &&& (ι 858993459)) + ((ushr (x0 - ((ushr x0 (ι 1)) &&& (ι 1431655765))) (ι 2)) &&& (ι 858993459))) (ι 4))) &&& (ι 252645135)) + (ushr (((((x0 - ((ushr x0 (ι 1)) &&& (ι 1431655765))) &&& (ι 858993459)) + ((ushr (x0 - ((ushr x0 (ι 1)) &&& (ι 1431655765))) (ι 2)) &&& (ι 858993459))) + (ushr (((x0 - ((ushr x0 (ι 1)) &&& (ι 1431655765))) &&& (ι 858993459)) + ((ushr (x0 - ((ushr x0 (ι 1)) &&& (ι 1431655765))) (ι 2)) &&& (ι 858993459))) (ι 4))) &&& (ι 252645135)) (ι 8))) + (ushr ((((((x0 - ((ushr x0 (ι 1)) &&& (ι 1431655765))) &&& (ι 858993459)) + ((ushr (x0 - ((ushr x0 (ι 1)) &&& (ι 1431655765))) (ι 2)) &&& (ι 858993459))) + (ushr (((x0 - ((ushr x0 (ι 1)) &&& (ι 1431655765))) &&& (ι 858993459)) + ((ushr (x0 - ((ushr x0 (ι 1)) &&& (ι 1431655765))) (ι 2)) &&& (ι 858993459))) (ι 4))) &&& (ι 252645135)) + (ushr (((((x0 - ((ushr x0 (ι 1)) &&& (ι 1431655765))) &&& (ι 858993459)) + ((ushr (x0 - ((ushr x0 (ι 1)) &&& (ι 1431655765))) (ι 2)) &&& (ι 858993459))) + (ushr (((x0 - ((ushr x0 (ι 1)) &&& (ι 1431655765))) &&& (ι 858993459)) + ((ushr (x0 - ((ushr x0 (ι 1)) &&& (ι 1431655765))) (ι 2)) &&& (ι 858993459))) (ι 4))) &&& (ι 252645135)) (ι 8))) (ι 16))) &&& (ι 63)), σ))
  (pcall 5 [.int x0] σ) := by
  show Le _ (den 5 0 0 [.int x0] [] σ)
  exact r_iload_n k_5_0 rfl rfl
    (r_iload_n k_5_1 rfl rfl
    (r_iconst k_5_2 rfl rfl
    (r_iushr k_5_3 rfl
    (r_ldcwI k_5_4 rfl po_5 rfl rfl
    (r_iand k_5_7 rfl
    (r_isub k_5_8 rfl
    (r_istore_n k_5_9 rfl rfl rfl
    (r_iload_n k_5_10 rfl rfl
    (r_ldcwI k_5_11 rfl po_5 rfl rfl
    (r_iand k_5_14 rfl
    (r_iload_n k_5_15 rfl rfl
    (r_iconst k_5_16 rfl rfl
    (r_iushr k_5_17 rfl
    (r_ldcwI k_5_18 rfl po_5 rfl rfl
    (r_iand k_5_21 rfl
    (r_iadd k_5_22 rfl
    (r_istore_n k_5_23 rfl rfl rfl
    (r_iload_n k_5_24 rfl rfl
    (r_iload_n k_5_25 rfl rfl
    (r_iconst k_5_26 rfl rfl
    (r_iushr k_5_27 rfl
    (r_iadd k_5_28 rfl
    (r_ldcwI k_5_29 rfl po_5 rfl rfl
    (r_iand k_5_32 rfl
    (r_istore_n k_5_33 rfl rfl rfl
    (r_iload_n k_5_34 rfl rfl
    (r_iload_n k_5_35 rfl rfl
    (r_bipush k_5_36 rfl rfl
    (r_iushr k_5_38 rfl
    (r_iadd k_5_39 rfl
    (r_istore_n k_5_40 rfl rfl rfl
    (r_iload_n k_5_41 rfl rfl
    (r_iload_n k_5_42 rfl rfl
    (r_bipush k_5_43 rfl rfl
    (r_iushr k_5_45 rfl
    (r_iadd k_5_46 rfl
    (r_istore_n k_5_47 rfl rfl rfl
    (r_iload_n k_5_48 rfl rfl
    (r_bipush k_5_49 rfl rfl
    (r_iand k_5_51 rfl
    (r_ret k_5_52 rfl rfl)))))))))))))))))))))))))))))))))))))))))
/-! ===== 6 java/lang/Integer.bitCount ===== -/
theorem k_6_0 : cd 6 0 = some (.iload_n 0, 1) := by decide +kernel
theorem k_6_1 : cd 6 1 = some (.iload_n 0, 1) := by decide +kernel
theorem k_6_2 : cd 6 2 = some (.iconst 1, 1) := by decide +kernel
theorem k_6_3 : cd 6 3 = some (.iushr, 1) := by decide +kernel
theorem k_6_4 : cd 6 4 = some (.ldc_w 265, 3) := by decide +kernel
theorem k_6_7 : cd 6 7 = some (.iand, 1) := by decide +kernel
theorem k_6_8 : cd 6 8 = some (.isub, 1) := by decide +kernel
theorem k_6_9 : cd 6 9 = some (.istore_n 0, 1) := by decide +kernel
theorem k_6_10 : cd 6 10 = some (.iload_n 0, 1) := by decide +kernel
theorem k_6_11 : cd 6 11 = some (.ldc_w 266, 3) := by decide +kernel
theorem k_6_14 : cd 6 14 = some (.iand, 1) := by decide +kernel
theorem k_6_15 : cd 6 15 = some (.iload_n 0, 1) := by decide +kernel
theorem k_6_16 : cd 6 16 = some (.iconst 2, 1) := by decide +kernel
theorem k_6_17 : cd 6 17 = some (.iushr, 1) := by decide +kernel
theorem k_6_18 : cd 6 18 = some (.ldc_w 266, 3) := by decide +kernel
theorem k_6_21 : cd 6 21 = some (.iand, 1) := by decide +kernel
theorem k_6_22 : cd 6 22 = some (.iadd, 1) := by decide +kernel
theorem k_6_23 : cd 6 23 = some (.istore_n 0, 1) := by decide +kernel
theorem k_6_24 : cd 6 24 = some (.iload_n 0, 1) := by decide +kernel
theorem k_6_25 : cd 6 25 = some (.iload_n 0, 1) := by decide +kernel
theorem k_6_26 : cd 6 26 = some (.iconst 4, 1) := by decide +kernel
theorem k_6_27 : cd 6 27 = some (.iushr, 1) := by decide +kernel
theorem k_6_28 : cd 6 28 = some (.iadd, 1) := by decide +kernel
theorem k_6_29 : cd 6 29 = some (.ldc_w 267, 3) := by decide +kernel
theorem k_6_32 : cd 6 32 = some (.iand, 1) := by decide +kernel
theorem k_6_33 : cd 6 33 = some (.istore_n 0, 1) := by decide +kernel
theorem k_6_34 : cd 6 34 = some (.iload_n 0, 1) := by decide +kernel
theorem k_6_35 : cd 6 35 = some (.iload_n 0, 1) := by decide +kernel
theorem k_6_36 : cd 6 36 = some (.bipush 8, 2) := by decide +kernel
theorem k_6_38 : cd 6 38 = some (.iushr, 1) := by decide +kernel
theorem k_6_39 : cd 6 39 = some (.iadd, 1) := by decide +kernel
theorem k_6_40 : cd 6 40 = some (.istore_n 0, 1) := by decide +kernel
theorem k_6_41 : cd 6 41 = some (.iload_n 0, 1) := by decide +kernel
theorem k_6_42 : cd 6 42 = some (.iload_n 0, 1) := by decide +kernel
theorem k_6_43 : cd 6 43 = some (.bipush 16, 2) := by decide +kernel
theorem k_6_45 : cd 6 45 = some (.iushr, 1) := by decide +kernel
theorem k_6_46 : cd 6 46 = some (.iadd, 1) := by decide +kernel
theorem k_6_47 : cd 6 47 = some (.istore_n 0, 1) := by decide +kernel
theorem k_6_48 : cd 6 48 = some (.iload_n 0, 1) := by decide +kernel
theorem k_6_49 : cd 6 49 = some (.bipush 63, 2) := by decide +kernel
theorem k_6_51 : cd 6 51 = some (.iand, 1) := by decide +kernel
theorem k_6_52 : cd 6 52 = some (.ireturn, 1) := by decide +kernel
theorem po_6 : po 6 = 13 := rfl
theorem M_6  {x0 : Int32} {σ : pS} {ρ : Nat → Nat → Option Nat} (e : gR σ = ρ) (hL : LayR ρ) : Le
  (some (1, .int ((((((((x0 - ((ushr x0 (ι 1)) &&& (ι 1431655765))) &&& (ι 858993459)) + ((ushr (x0 - ((ushr x0 (ι 1)) &&& (ι 1431655765))) (ι 2)) &&& (ι 858993459))) + (ushr (((x0 - ((ushr x0 (ι 1)) &&& (ι 1431655765))) &&& (ι 858993459)) + ((ushr (x0 - ((ushr x0 (ι 1)) &&& (ι 1431655765))) (ι 2)) &&& (ι 858993459))) (ι 4))) &&& (ι 252645135)) + (ushr (((((x0 - ((ushr x0 (ι 1)) &&& (ι 1431655765))) &&& (ι 858993459)) + ((ushr (x0 - ((ushr x0 (ι 1)) &&& (ι 1431655765))) (ι 2)) &&& (ι 858993459))) + (ushr (((x0 - ((ushr x0 (ι 1)) &&& (ι 1431655765))) &&& (ι 858993459)) + ((ushr (x0 - ((ushr x0 (ι 1)) &&& (ι 1431655765))) (ι 2)) &&& (ι 858993459))) (ι 4))) &&& (ι 252645135)) (ι 8))) + (ushr ((((((x0 - ((ushr x0 (ι 1)) &&& (ι 1431655765))) &&& (ι 858993459)) + ((ushr (x0 - ((ushr x0 (ι 1)) &&& (ι 1431655765))) (ι 2)) &&& (ι 858993459))) + (ushr (((x0 - ((ushr x0 (ι 1)) &&& (ι 1431655765))) &&& (ι 858993459)) + ((ushr (x0 - ((ushr x0 (ι 1)) &&& (ι 1431655765))) (ι 2)) &&& (ι 858993459))) (ι 4))) &&& (ι 252645135)) + (ushr (((((x0 - ((ushr x0 (ι 1)) &&& (ι 1431655765))) &&& (ι 858993459)) + ((ushr (x0 - ((ushr x0 (ι 1)) &&& (ι 1431655765))) (ι 2)) &&& (ι 858993459))) + (ushr (((x0 - ((ushr x0 (ι 1)) &&& (ι 1431655765))) &&& (ι 858993459)) + ((ushr (x0 - ((ushr x0 (ι 1)) &&& (ι 1431655765))) (ι 2)) &&& (ι 858993459))) (ι 4))) &&& (ι 252645135)) (ι 8))) (ι 16))) &&& (ι 63)), σ))
  (pcall 6 [.int x0] σ) := by
  show Le _ (den 6 0 0 [.int x0] [] σ)
  exact r_iload_n k_6_0 rfl rfl
    (r_iload_n k_6_1 rfl rfl
    (r_iconst k_6_2 rfl rfl
    (r_iushr k_6_3 rfl
    (r_ldcwI k_6_4 rfl po_6 rfl rfl
    (r_iand k_6_7 rfl
    (r_isub k_6_8 rfl
    (r_istore_n k_6_9 rfl rfl rfl
    (r_iload_n k_6_10 rfl rfl
    (r_ldcwI k_6_11 rfl po_6 rfl rfl
    (r_iand k_6_14 rfl
    (r_iload_n k_6_15 rfl rfl
    (r_iconst k_6_16 rfl rfl
    (r_iushr k_6_17 rfl
    (r_ldcwI k_6_18 rfl po_6 rfl rfl
    (r_iand k_6_21 rfl
    (r_iadd k_6_22 rfl
    (r_istore_n k_6_23 rfl rfl rfl
    (r_iload_n k_6_24 rfl rfl
    (r_iload_n k_6_25 rfl rfl
    (r_iconst k_6_26 rfl rfl
    (r_iushr k_6_27 rfl
    (r_iadd k_6_28 rfl
    (r_ldcwI k_6_29 rfl po_6 rfl rfl
    (r_iand k_6_32 rfl
    (r_istore_n k_6_33 rfl rfl rfl
    (r_iload_n k_6_34 rfl rfl
    (r_iload_n k_6_35 rfl rfl
    (r_bipush k_6_36 rfl rfl
    (r_iushr k_6_38 rfl
    (r_iadd k_6_39 rfl
    (r_istore_n k_6_40 rfl rfl rfl
    (r_iload_n k_6_41 rfl rfl
    (r_iload_n k_6_42 rfl rfl
    (r_bipush k_6_43 rfl rfl
    (r_iushr k_6_45 rfl
    (r_iadd k_6_46 rfl
    (r_istore_n k_6_47 rfl rfl rfl
    (r_iload_n k_6_48 rfl rfl
    (r_bipush k_6_49 rfl rfl
    (r_iand k_6_51 rfl
    (r_ret k_6_52 rfl rfl)))))))))))))))))))))))))))))))))))))))))
/-! ===== 7 java/lang/StringLatin1.charAt ===== -/
theorem k_7_0 : cd 7 0 = some (.iload_n 1, 1) := by decide +kernel
theorem k_7_1 : cd 7 1 = some (.aload_n 0, 1) := by decide +kernel
theorem k_7_2 : cd 7 2 = some (.arraylength, 1) := by decide +kernel
theorem k_7_3 : cd 7 3 = some (.invokestatic 9, 3) := by decide +kernel
theorem k_7_6 : cd 7 6 = some (.aload_n 0, 1) := by decide +kernel
theorem k_7_7 : cd 7 7 = some (.iload_n 1, 1) := by decide +kernel
theorem k_7_8 : cd 7 8 = some (.baload, 1) := by decide +kernel
theorem k_7_9 : cd 7 9 = some (.sipush 255, 3) := by decide +kernel
theorem k_7_12 : cd 7 12 = some (.iand, 1) := by decide +kernel
theorem k_7_13 : cd 7 13 = some (.i2c, 1) := by decide +kernel
theorem k_7_14 : cd 7 14 = some (.ireturn, 1) := by decide +kernel
theorem po_7 : po 7 = 17 := rfl
theorem M_7 {i1 : Nat} (hi1 : i1 < 26) {x1 : Int32} {σ : pS} {ρ : Nat → Nat → Option Nat} (e : gR σ = ρ) (hL : LayR ρ) : Le
  (bV (pcall 14 [.int x1, .int (ι (slen i1))] σ) fun σ1 => gd (inb x1 (slen i1)) (gd (narrow .char (.int (i2c ((sby i1 (ix x1)) &&& (ι 255)))) = .int (i2c ((sby i1 (ix x1)) &&& (ι 255)))) (some (1, .int (i2c ((sby i1 (ix x1)) &&& (ι 255))), σ1))))
  (pcall 7 [.ref (i1 + 2000), .int x1] σ) := by
  show Le _ (den 7 0 0 [.ref (i1 + 2000), .int x1] [] σ)
  exact r_iload_n k_7_0 rfl rfl
    (r_aload_n k_7_1 rfl rfl
    (r_alenB k_7_2 rfl (kdB hi1) hi1
    (r_callV (q_stat (rest := []) (av := [.int x1, .int (ι (slen i1))]) k_7_3 po_7 rfl (by decide) rfl rfl rfl rfl) (lvq (j := 0) rfl (by decide +kernel)) rfl rfl (fun _ σ1 h1 => r_aload_n k_7_6 rfl rfl
    (r_iload_n k_7_7 rfl rfl
    (r_gd fun g => r_bald k_7_8 rfl (kdB hi1) hi1 g
    (r_sipush k_7_9 rfl rfl
    (r_iand k_7_12 rfl
    (r_i2c k_7_13 rfl
    (r_gd fun g => r_ret k_7_14 rfl g))))))))))
/-! ===== 8 java/lang/Integer.bitCount ===== -/
theorem k_8_0 : cd 8 0 = some (.iload_n 0, 1) := by decide +kernel
theorem k_8_1 : cd 8 1 = some (.iload_n 0, 1) := by decide +kernel
theorem k_8_2 : cd 8 2 = some (.iconst 1, 1) := by decide +kernel
theorem k_8_3 : cd 8 3 = some (.iushr, 1) := by decide +kernel
theorem k_8_4 : cd 8 4 = some (.ldc_w 265, 3) := by decide +kernel
theorem k_8_7 : cd 8 7 = some (.iand, 1) := by decide +kernel
theorem k_8_8 : cd 8 8 = some (.isub, 1) := by decide +kernel
theorem k_8_9 : cd 8 9 = some (.istore_n 0, 1) := by decide +kernel
theorem k_8_10 : cd 8 10 = some (.iload_n 0, 1) := by decide +kernel
theorem k_8_11 : cd 8 11 = some (.ldc_w 266, 3) := by decide +kernel
theorem k_8_14 : cd 8 14 = some (.iand, 1) := by decide +kernel
theorem k_8_15 : cd 8 15 = some (.iload_n 0, 1) := by decide +kernel
theorem k_8_16 : cd 8 16 = some (.iconst 2, 1) := by decide +kernel
theorem k_8_17 : cd 8 17 = some (.iushr, 1) := by decide +kernel
theorem k_8_18 : cd 8 18 = some (.ldc_w 266, 3) := by decide +kernel
theorem k_8_21 : cd 8 21 = some (.iand, 1) := by decide +kernel
theorem k_8_22 : cd 8 22 = some (.iadd, 1) := by decide +kernel
theorem k_8_23 : cd 8 23 = some (.istore_n 0, 1) := by decide +kernel
theorem k_8_24 : cd 8 24 = some (.iload_n 0, 1) := by decide +kernel
theorem k_8_25 : cd 8 25 = some (.iload_n 0, 1) := by decide +kernel
theorem k_8_26 : cd 8 26 = some (.iconst 4, 1) := by decide +kernel
theorem k_8_27 : cd 8 27 = some (.iushr, 1) := by decide +kernel
theorem k_8_28 : cd 8 28 = some (.iadd, 1) := by decide +kernel
theorem k_8_29 : cd 8 29 = some (.ldc_w 267, 3) := by decide +kernel
theorem k_8_32 : cd 8 32 = some (.iand, 1) := by decide +kernel
theorem k_8_33 : cd 8 33 = some (.istore_n 0, 1) := by decide +kernel
theorem k_8_34 : cd 8 34 = some (.iload_n 0, 1) := by decide +kernel
theorem k_8_35 : cd 8 35 = some (.iload_n 0, 1) := by decide +kernel
theorem k_8_36 : cd 8 36 = some (.bipush 8, 2) := by decide +kernel
theorem k_8_38 : cd 8 38 = some (.iushr, 1) := by decide +kernel
theorem k_8_39 : cd 8 39 = some (.iadd, 1) := by decide +kernel
theorem k_8_40 : cd 8 40 = some (.istore_n 0, 1) := by decide +kernel
theorem k_8_41 : cd 8 41 = some (.iload_n 0, 1) := by decide +kernel
theorem k_8_42 : cd 8 42 = some (.iload_n 0, 1) := by decide +kernel
theorem k_8_43 : cd 8 43 = some (.bipush 16, 2) := by decide +kernel
theorem k_8_45 : cd 8 45 = some (.iushr, 1) := by decide +kernel
theorem k_8_46 : cd 8 46 = some (.iadd, 1) := by decide +kernel
theorem k_8_47 : cd 8 47 = some (.istore_n 0, 1) := by decide +kernel
theorem k_8_48 : cd 8 48 = some (.iload_n 0, 1) := by decide +kernel
theorem k_8_49 : cd 8 49 = some (.bipush 63, 2) := by decide +kernel
theorem k_8_51 : cd 8 51 = some (.iand, 1) := by decide +kernel
theorem k_8_52 : cd 8 52 = some (.ireturn, 1) := by decide +kernel
theorem po_8 : po 8 = 13 := rfl
theorem M_8  {x0 : Int32} {σ : pS} {ρ : Nat → Nat → Option Nat} (e : gR σ = ρ) (hL : LayR ρ) : Le
  (some (1, .int ((((((((x0 - ((ushr x0 (ι 1)) &&& (ι 1431655765))) &&& (ι 858993459)) + ((ushr (x0 - ((ushr x0 (ι 1)) &&& (ι 1431655765))) (ι 2)) &&& (ι 858993459))) + (ushr (((x0 - ((ushr x0 (ι 1)) &&& (ι 1431655765))) &&& (ι 858993459)) + ((ushr (x0 - ((ushr x0 (ι 1)) &&& (ι 1431655765))) (ι 2)) &&& (ι 858993459))) (ι 4))) &&& (ι 252645135)) + (ushr (((((x0 - ((ushr x0 (ι 1)) &&& (ι 1431655765))) &&& (ι 858993459)) + ((ushr (x0 - ((ushr x0 (ι 1)) &&& (ι 1431655765))) (ι 2)) &&& (ι 858993459))) + (ushr (((x0 - ((ushr x0 (ι 1)) &&& (ι 1431655765))) &&& (ι 858993459)) + ((ushr (x0 - ((ushr x0 (ι 1)) &&& (ι 1431655765))) (ι 2)) &&& (ι 858993459))) (ι 4))) &&& (ι 252645135)) (ι 8))) + (ushr ((((((x0 - ((ushr x0 (ι 1)) &&& (ι 1431655765))) &&& (ι 858993459)) + ((ushr (x0 - ((ushr x0 (ι 1)) &&& (ι 1431655765))) (ι 2)) &&& (ι 858993459))) + (ushr (((x0 - ((ushr x0 (ι 1)) &&& (ι 1431655765))) &&& (ι 858993459)) + ((ushr (x0 - ((ushr x0 (ι 1)) &&& (ι 1431655765))) (ι 2)) &&& (ι 858993459))) (ι 4))) &&& (ι 252645135)) + (ushr (((((x0 - ((ushr x0 (ι 1)) &&& (ι 1431655765))) &&& (ι 858993459)) + ((ushr (x0 - ((ushr x0 (ι 1)) &&& (ι 1431655765))) (ι 2)) &&& (ι 858993459))) + (ushr (((x0 - ((ushr x0 (ι 1)) &&& (ι 1431655765))) &&& (ι 858993459)) + ((ushr (x0 - ((ushr x0 (ι 1)) &&& (ι 1431655765))) (ι 2)) &&& (ι 858993459))) (ι 4))) &&& (ι 252645135)) (ι 8))) (ι 16))) &&& (ι 63)), σ))
  (pcall 8 [.int x0] σ) := by
  show Le _ (den 8 0 0 [.int x0] [] σ)
  exact r_iload_n k_8_0 rfl rfl
    (r_iload_n k_8_1 rfl rfl
    (r_iconst k_8_2 rfl rfl
    (r_iushr k_8_3 rfl
    (r_ldcwI k_8_4 rfl po_8 rfl rfl
    (r_iand k_8_7 rfl
    (r_isub k_8_8 rfl
    (r_istore_n k_8_9 rfl rfl rfl
    (r_iload_n k_8_10 rfl rfl
    (r_ldcwI k_8_11 rfl po_8 rfl rfl
    (r_iand k_8_14 rfl
    (r_iload_n k_8_15 rfl rfl
    (r_iconst k_8_16 rfl rfl
    (r_iushr k_8_17 rfl
    (r_ldcwI k_8_18 rfl po_8 rfl rfl
    (r_iand k_8_21 rfl
    (r_iadd k_8_22 rfl
    (r_istore_n k_8_23 rfl rfl rfl
    (r_iload_n k_8_24 rfl rfl
    (r_iload_n k_8_25 rfl rfl
    (r_iconst k_8_26 rfl rfl
    (r_iushr k_8_27 rfl
    (r_iadd k_8_28 rfl
    (r_ldcwI k_8_29 rfl po_8 rfl rfl
    (r_iand k_8_32 rfl
    (r_istore_n k_8_33 rfl rfl rfl
    (r_iload_n k_8_34 rfl rfl
    (r_iload_n k_8_35 rfl rfl
    (r_bipush k_8_36 rfl rfl
    (r_iushr k_8_38 rfl
    (r_iadd k_8_39 rfl
    (r_istore_n k_8_40 rfl rfl rfl
    (r_iload_n k_8_41 rfl rfl
    (r_iload_n k_8_42 rfl rfl
    (r_bipush k_8_43 rfl rfl
    (r_iushr k_8_45 rfl
    (r_iadd k_8_46 rfl
    (r_istore_n k_8_47 rfl rfl rfl
    (r_iload_n k_8_48 rfl rfl
    (r_bipush k_8_49 rfl rfl
    (r_iand k_8_51 rfl
    (r_ret k_8_52 rfl rfl)))))))))))))))))))))))))))))))))))))))))
/-! ===== 9 java/lang/Integer.bitCount ===== -/
theorem k_9_0 : cd 9 0 = some (.iload_n 0, 1) := by decide +kernel
theorem k_9_1 : cd 9 1 = some (.iload_n 0, 1) := by decide +kernel
theorem k_9_2 : cd 9 2 = some (.iconst 1, 1) := by decide +kernel
theorem k_9_3 : cd 9 3 = some (.iushr, 1) := by decide +kernel
theorem k_9_4 : cd 9 4 = some (.ldc_w 265, 3) := by decide +kernel
theorem k_9_7 : cd 9 7 = some (.iand, 1) := by decide +kernel
theorem k_9_8 : cd 9 8 = some (.isub, 1) := by decide +kernel
theorem k_9_9 : cd 9 9 = some (.istore_n 0, 1) := by decide +kernel
theorem k_9_10 : cd 9 10 = some (.iload_n 0, 1) := by decide +kernel
theorem k_9_11 : cd 9 11 = some (.ldc_w 266, 3) := by decide +kernel
theorem k_9_14 : cd 9 14 = some (.iand, 1) := by decide +kernel
theorem k_9_15 : cd 9 15 = some (.iload_n 0, 1) := by decide +kernel
theorem k_9_16 : cd 9 16 = some (.iconst 2, 1) := by decide +kernel
theorem k_9_17 : cd 9 17 = some (.iushr, 1) := by decide +kernel
theorem k_9_18 : cd 9 18 = some (.ldc_w 266, 3) := by decide +kernel
theorem k_9_21 : cd 9 21 = some (.iand, 1) := by decide +kernel
theorem k_9_22 : cd 9 22 = some (.iadd, 1) := by decide +kernel
theorem k_9_23 : cd 9 23 = some (.istore_n 0, 1) := by decide +kernel
theorem k_9_24 : cd 9 24 = some (.iload_n 0, 1) := by decide +kernel
theorem k_9_25 : cd 9 25 = some (.iload_n 0, 1) := by decide +kernel
theorem k_9_26 : cd 9 26 = some (.iconst 4, 1) := by decide +kernel
theorem k_9_27 : cd 9 27 = some (.iushr, 1) := by decide +kernel
theorem k_9_28 : cd 9 28 = some (.iadd, 1) := by decide +kernel
theorem k_9_29 : cd 9 29 = some (.ldc_w 267, 3) := by decide +kernel
theorem k_9_32 : cd 9 32 = some (.iand, 1) := by decide +kernel
theorem k_9_33 : cd 9 33 = some (.istore_n 0, 1) := by decide +kernel
theorem k_9_34 : cd 9 34 = some (.iload_n 0, 1) := by decide +kernel
theorem k_9_35 : cd 9 35 = some (.iload_n 0, 1) := by decide +kernel
theorem k_9_36 : cd 9 36 = some (.bipush 8, 2) := by decide +kernel
theorem k_9_38 : cd 9 38 = some (.iushr, 1) := by decide +kernel
theorem k_9_39 : cd 9 39 = some (.iadd, 1) := by decide +kernel
theorem k_9_40 : cd 9 40 = some (.istore_n 0, 1) := by decide +kernel
theorem k_9_41 : cd 9 41 = some (.iload_n 0, 1) := by decide +kernel
theorem k_9_42 : cd 9 42 = some (.iload_n 0, 1) := by decide +kernel
theorem k_9_43 : cd 9 43 = some (.bipush 16, 2) := by decide +kernel
theorem k_9_45 : cd 9 45 = some (.iushr, 1) := by decide +kernel
theorem k_9_46 : cd 9 46 = some (.iadd, 1) := by decide +kernel
theorem k_9_47 : cd 9 47 = some (.istore_n 0, 1) := by decide +kernel
theorem k_9_48 : cd 9 48 = some (.iload_n 0, 1) := by decide +kernel
theorem k_9_49 : cd 9 49 = some (.bipush 63, 2) := by decide +kernel
theorem k_9_51 : cd 9 51 = some (.iand, 1) := by decide +kernel
theorem k_9_52 : cd 9 52 = some (.ireturn, 1) := by decide +kernel
theorem po_9 : po 9 = 13 := rfl
theorem M_9  {x0 : Int32} {σ : pS} {ρ : Nat → Nat → Option Nat} (e : gR σ = ρ) (hL : LayR ρ) : Le
  (some (1, .int ((((((((x0 - ((ushr x0 (ι 1)) &&& (ι 1431655765))) &&& (ι 858993459)) + ((ushr (x0 - ((ushr x0 (ι 1)) &&& (ι 1431655765))) (ι 2)) &&& (ι 858993459))) + (ushr (((x0 - ((ushr x0 (ι 1)) &&& (ι 1431655765))) &&& (ι 858993459)) + ((ushr (x0 - ((ushr x0 (ι 1)) &&& (ι 1431655765))) (ι 2)) &&& (ι 858993459))) (ι 4))) &&& (ι 252645135)) + (ushr (((((x0 - ((ushr x0 (ι 1)) &&& (ι 1431655765))) &&& (ι 858993459)) + ((ushr (x0 - ((ushr x0 (ι 1)) &&& (ι 1431655765))) (ι 2)) &&& (ι 858993459))) + (ushr (((x0 - ((ushr x0 (ι 1)) &&& (ι 1431655765))) &&& (ι 858993459)) + ((ushr (x0 - ((ushr x0 (ι 1)) &&& (ι 1431655765))) (ι 2)) &&& (ι 858993459))) (ι 4))) &&& (ι 252645135)) (ι 8))) + (ushr ((((((x0 - ((ushr x0 (ι 1)) &&& (ι 1431655765))) &&& (ι 858993459)) + ((ushr (x0 - ((ushr x0 (ι 1)) &&& (ι 1431655765))) (ι 2)) &&& (ι 858993459))) + (ushr (((x0 - ((ushr x0 (ι 1)) &&& (ι 1431655765))) &&& (ι 858993459)) + ((ushr (x0 - ((ushr x0 (ι 1)) &&& (ι 1431655765))) (ι 2)) &&& (ι 858993459))) (ι 4))) &&& (ι 252645135)) + (ushr (((((x0 - ((ushr x0 (ι 1)) &&& (ι 1431655765))) &&& (ι 858993459)) + ((ushr (x0 - ((ushr x0 (ι 1)) &&& (ι 1431655765))) (ι 2)) &&& (ι 858993459))) + (ushr (((x0 - ((ushr x0 (ι 1)) &&& (ι 1431655765))) &&& (ι 858993459)) + ((ushr (x0 - ((ushr x0 (ι 1)) &&& (ι 1431655765))) (ι 2)) &&& (ι 858993459))) (ι 4))) &&& (ι 252645135)) (ι 8))) (ι 16))) &&& (ι 63)), σ))
  (pcall 9 [.int x0] σ) := by
  show Le _ (den 9 0 0 [.int x0] [] σ)
  exact r_iload_n k_9_0 rfl rfl
    (r_iload_n k_9_1 rfl rfl
    (r_iconst k_9_2 rfl rfl
    (r_iushr k_9_3 rfl
    (r_ldcwI k_9_4 rfl po_9 rfl rfl
    (r_iand k_9_7 rfl
    (r_isub k_9_8 rfl
    (r_istore_n k_9_9 rfl rfl rfl
    (r_iload_n k_9_10 rfl rfl
    (r_ldcwI k_9_11 rfl po_9 rfl rfl
    (r_iand k_9_14 rfl
    (r_iload_n k_9_15 rfl rfl
    (r_iconst k_9_16 rfl rfl
    (r_iushr k_9_17 rfl
    (r_ldcwI k_9_18 rfl po_9 rfl rfl
    (r_iand k_9_21 rfl
    (r_iadd k_9_22 rfl
    (r_istore_n k_9_23 rfl rfl rfl
    (r_iload_n k_9_24 rfl rfl
    (r_iload_n k_9_25 rfl rfl
    (r_iconst k_9_26 rfl rfl
    (r_iushr k_9_27 rfl
    (r_iadd k_9_28 rfl
    (r_ldcwI k_9_29 rfl po_9 rfl rfl
    (r_iand k_9_32 rfl
    (r_istore_n k_9_33 rfl rfl rfl
    (r_iload_n k_9_34 rfl rfl
    (r_iload_n k_9_35 rfl rfl
    (r_bipush k_9_36 rfl rfl
    (r_iushr k_9_38 rfl
    (r_iadd k_9_39 rfl
    (r_istore_n k_9_40 rfl rfl rfl
    (r_iload_n k_9_41 rfl rfl
    (r_iload_n k_9_42 rfl rfl
    (r_bipush k_9_43 rfl rfl
    (r_iushr k_9_45 rfl
    (r_iadd k_9_46 rfl
    (r_istore_n k_9_47 rfl rfl rfl
    (r_iload_n k_9_48 rfl rfl
    (r_bipush k_9_49 rfl rfl
    (r_iand k_9_51 rfl
    (r_ret k_9_52 rfl rfl)))))))))))))))))))))))))))))))))))))))))
/-! ===== 10 java/lang/String.isLatin1 ===== -/
theorem k_10_0 : cd 10 0 = some (.getstatic 38, 3) := by decide +kernel
theorem k_10_3 : cd 10 3 = some (.ifCond .eq 14, 3) := by decide +kernel
theorem k_10_6 : cd 10 6 = some (.aload_n 0, 1) := by decide +kernel
theorem k_10_7 : cd 10 7 = some (.getfield 15, 3) := by decide +kernel
theorem k_10_10 : cd 10 10 = some (.ifCond .ne 7, 3) := by decide +kernel
theorem k_10_13 : cd 10 13 = some (.iconst 1, 1) := by decide +kernel
theorem k_10_14 : cd 10 14 = some (.goto 4, 3) := by decide +kernel
theorem k_10_17 : cd 10 17 = some (.iconst 0, 1) := by decide +kernel
theorem k_10_18 : cd 10 18 = some (.ireturn, 1) := by decide +kernel
theorem po_10 : po 10 = 16 := rfl
theorem M_10 {i0 : Nat} (hi0 : i0 < 26)  {σ : pS} {ρ : Nat → Nat → Option Nat} (e : gR σ = ρ) (hL : LayR ρ) : Le
  (if (ι 1) = (ι 0) then some (1, .int (ι 0), σ) else if ¬ (ι 0) = (ι 0) then some (1, .int (ι 0), σ) else some (1, .int (ι 1), σ))
  (pcall 10 [.ref (i0 + 1000)] σ) := by
  show Le _ (den 10 0 0 [.ref (i0 + 1000)] [] σ)
  exact r_statI k_10_0 rfl po_10
    (r_if (tgt := 17) k_10_3 rfl rfl cop_eq
    (r_iconst k_10_17 rfl rfl
    (r_ret k_10_18 rfl rfl))
    (r_aload_n k_10_6 rfl rfl
    (r_getT15 k_10_7 rfl po_10 hi0
    (r_if (tgt := 17) k_10_10 rfl rfl cop_ne
    (r_iconst k_10_17 rfl rfl
    (r_ret k_10_18 rfl rfl))
    (r_iconst k_10_13 rfl rfl
    (r_goto (tgt := 18) k_10_14 rfl (r_ret k_10_18 rfl rfl)))))))
/-! ===== 11 java/lang/String.length ===== -/
theorem k_11_0 : cd 11 0 = some (.aload_n 0, 1) := by decide +kernel
theorem k_11_1 : cd 11 1 = some (.getfield 9, 3) := by decide +kernel
theorem k_11_4 : cd 11 4 = some (.arraylength, 1) := by decide +kernel
theorem k_11_5 : cd 11 5 = some (.aload_n 0, 1) := by decide +kernel
theorem k_11_6 : cd 11 6 = some (.invokevirtual 335, 3) := by decide +kernel
theorem k_11_9 : cd 11 9 = some (.ishr, 1) := by decide +kernel
theorem k_11_10 : cd 11 10 = some (.ireturn, 1) := by decide +kernel
theorem po_11 : po 11 = 16 := rfl
theorem M_11 {i0 : Nat} (hi0 : i0 < 26)  {σ : pS} {ρ : Nat → Nat → Option Nat} (e : gR σ = ρ) (hL : LayR ρ) : Le
  (bI (pcall 12 [.ref (i0 + 1000)] σ) fun r1 σ1 => some (1, .int (shr' (ι (slen i0)) r1), σ1))
  (pcall 11 [.ref (i0 + 1000)] σ) := by
  show Le _ (den 11 0 0 [.ref (i0 + 1000)] [] σ)
  exact r_aload_n k_11_0 rfl rfl
    (r_getT9 k_11_1 rfl po_11 hi0
    (r_alenB k_11_4 rfl (kdB hi0) hi0
    (r_aload_n k_11_5 rfl rfl
    (r_callI (q_virt (rest := [.int (ι (slen i0))]) (as := []) k_11_6 po_11 rfl rfl rfl (rcvS (i := i0) rfl hi0) rfl rfl) (lvq (j := 0) rfl (by decide +kernel)) rfl rfl (fun r1 σ1 h1 => r_ishr k_11_9 rfl
    (r_ret k_11_10 rfl rfl))))))
/-! ===== 12 java/lang/String.coder ===== -/
theorem k_12_0 : cd 12 0 = some (.getstatic 38, 3) := by decide +kernel
theorem k_12_3 : cd 12 3 = some (.ifCond .eq 10, 3) := by decide +kernel
theorem k_12_6 : cd 12 6 = some (.aload_n 0, 1) := by decide +kernel
theorem k_12_7 : cd 12 7 = some (.getfield 15, 3) := by decide +kernel
theorem k_12_10 : cd 12 10 = some (.goto 4, 3) := by decide +kernel
theorem k_12_13 : cd 12 13 = some (.iconst 1, 1) := by decide +kernel
theorem k_12_14 : cd 12 14 = some (.ireturn, 1) := by decide +kernel
theorem po_12 : po 12 = 16 := rfl
theorem M_12 {i0 : Nat} (hi0 : i0 < 26)  {σ : pS} {ρ : Nat → Nat → Option Nat} (e : gR σ = ρ) (hL : LayR ρ) : Le
  (if (ι 1) = (ι 0) then some (1, .int (ι 1), σ) else some (1, .int (ι 0), σ))
  (pcall 12 [.ref (i0 + 1000)] σ) := by
  show Le _ (den 12 0 0 [.ref (i0 + 1000)] [] σ)
  exact r_statI k_12_0 rfl po_12
    (r_if (tgt := 13) k_12_3 rfl rfl cop_eq
    (r_iconst k_12_13 rfl rfl
    (r_ret k_12_14 rfl rfl))
    (r_aload_n k_12_6 rfl rfl
    (r_getT15 k_12_7 rfl po_12 hi0
    (r_goto (tgt := 14) k_12_10 rfl (r_ret k_12_14 rfl rfl)))))
/-! ===== 13 java/lang/String.charAt ===== -/
theorem k_13_0 : cd 13 0 = some (.aload_n 0, 1) := by decide +kernel
theorem k_13_1 : cd 13 1 = some (.invokevirtual 492, 3) := by decide +kernel
theorem k_13_4 : cd 13 4 = some (.ifCond .eq 12, 3) := by decide +kernel
theorem k_13_7 : cd 13 7 = some (.aload_n 0, 1) := by decide +kernel
theorem k_13_8 : cd 13 8 = some (.getfield 9, 3) := by decide +kernel
theorem k_13_11 : cd 13 11 = some (.iload_n 1, 1) := by decide +kernel
theorem k_13_12 : cd 13 12 = some (.invokestatic 495, 3) := by decide +kernel
theorem k_13_15 : cd 13 15 = some (.ireturn, 1) := by decide +kernel
theorem k_13_16 : cd 13 16 = some (.aload_n 0, 1) := by decide +kernel
theorem k_13_17 : cd 13 17 = some (.getfield 9, 3) := by decide +kernel
theorem k_13_20 : cd 13 20 = some (.iload_n 1, 1) := by decide +kernel
theorem k_13_21 : cd 13 21 = some (.invokestatic 498, 3) := by decide +kernel
theorem po_13 : po 13 = 16 := rfl
theorem M_13 {i0 : Nat} (hi0 : i0 < 26) {x0 : Int32} {σ : pS} {ρ : Nat → Nat → Option Nat} (e : gR σ = ρ) (hL : LayR ρ) : Le
  (bI (pcall 10 [.ref (i0 + 1000)] σ) fun r1 σ1 => if r1 = (ι 0) then none else bI (pcall 7 [.ref (i0 + 2000), .int x0] σ1) fun r2 σ2 => gd (narrow .char (.int r2) = .int r2) (some (1, .int r2, σ2)))
  (pcall 13 [.ref (i0 + 1000), .int x0] σ) := by
  show Le _ (den 13 0 0 [.ref (i0 + 1000), .int x0] [] σ)
  exact r_aload_n k_13_0 rfl rfl
    (r_callI (q_virt (rest := []) (as := []) k_13_1 po_13 rfl rfl rfl (rcvS (i := i0) rfl hi0) rfl rfl) (lvq (j := 0) rfl (by decide +kernel)) rfl rfl (fun r1 σ1 h1 => r_if (tgt := 16) k_13_4 rfl rfl cop_eq
    (r_aload_n k_13_16 rfl rfl
    (r_getT9 k_13_17 rfl po_13 hi0
    (r_iload_n k_13_20 rfl rfl
    (Le.none))))
    (r_aload_n k_13_7 rfl rfl
    (r_getT9 k_13_8 rfl po_13 hi0
    (r_iload_n k_13_11 rfl rfl
    (r_callI (q_stat (rest := []) (av := [.ref (i0 + 2000), .int x0]) k_13_12 po_13 rfl (by decide) rfl rfl rfl rfl) (lvq (j := 0) rfl (by decide +kernel)) rfl rfl (fun r2 σ2 h2 => r_gd fun g => r_ret k_13_15 rfl g)))))))
/-! ===== 14 java/lang/String.checkIndex ===== -/
theorem k_14_0 : cd 14 0 = some (.iload_n 0, 1) := by decide +kernel
theorem k_14_1 : cd 14 1 = some (.iload_n 1, 1) := by decide +kernel
theorem k_14_2 : cd 14 2 = some (.getstatic 1053, 3) := by decide +kernel
theorem k_14_5 : cd 14 5 = some (.invokestatic 1059, 3) := by decide +kernel
theorem k_14_8 : cd 14 8 = some (.pop, 1) := by decide +kernel
theorem k_14_9 : cd 14 9 = some (.return_, 1) := by decide +kernel
theorem po_14 : po 14 = 16 := rfl
theorem M_14  {x0 : Int32} {x1 : Int32} {σ : pS} {ρ : Nat → Nat → Option Nat} (e : gR σ = ρ) (hL : LayR ρ) : Le
  (bI (pcall 3 [.int x0, .int x1, .retAddr 3] σ) fun r1 σ1 => some (0, .null, σ1))
  (pcall 14 [.int x0, .int x1] σ) := by
  show Le _ (den 14 0 0 [.int x0, .int x1] [] σ)
  exact r_iload_n k_14_0 rfl rfl
    (r_iload_n k_14_1 rfl rfl
    (r_statX k_14_2 rfl po_14
    (r_callI (q_stat (rest := []) (av := [.int x0, .int x1, .retAddr 3]) k_14_5 po_14 rfl (by decide) rfl rfl rfl rfl) (lvq (j := 0) rfl (by decide +kernel)) rfl rfl (fun r1 σ1 h1 => r_pop k_14_8 rfl rfl
    (r_retV k_14_9 rfl)))))
/-! ===== 16 HedgeWants.Rule.uses ===== -/
theorem k_16_0 : cd 16 0 = some (.aload_n 0, 1) := by decide +kernel
theorem k_16_1 : cd 16 1 = some (.getfield 26, 3) := by decide +kernel
theorem k_16_4 : cd 16 4 = some (.iload_n 1, 1) := by decide +kernel
theorem k_16_5 : cd 16 5 = some (.invokestatic 29, 3) := by decide +kernel
theorem k_16_8 : cd 16 8 = some (.ireturn, 1) := by decide +kernel
theorem po_16 : po 16 = 7 := rfl
theorem M_16 {u : Nat} (hu : isU u) {x0 : Int32} {σ : pS} {ρ : Nat → Nat → Option Nat} (e : gR σ = ρ) (hL : LayR ρ) : Le
  (bI (pcall 168 [.int (gI σ u 3), .int x0] σ) fun r1 σ1 => gd (narrow .boolean (.int r1) = .int r1) (some (1, .int r1, σ1)))
  (pcall 16 [.ref u, .int x0] σ) := by
  show Le _ (den 16 0 0 [.ref u, .int x0] [] σ)
  exact r_aload_n k_16_0 rfl rfl
    (r_getI k_16_1 rfl po_16 rfl rfl rfl (kdU hu)
    (r_iload_n k_16_4 rfl rfl
    (r_callI (q_stat (rest := []) (av := [.int (gI σ u 3), .int x0]) k_16_5 po_16 rfl (by decide) rfl rfl rfl rfl) (lvq (j := 0) rfl (by decide +kernel)) rfl rfl (fun r1 σ1 h1 => r_gd fun g => r_ret k_16_8 rfl g))))
/-! ===== 17 HedgeWants.Rule.isTold ===== -/
theorem k_17_0 : cd 17 0 = some (.aload_n 0, 1) := by decide +kernel
theorem k_17_1 : cd 17 1 = some (.getfield 22, 3) := by decide +kernel
theorem k_17_4 : cd 17 4 = some (.ireturn, 1) := by decide +kernel
theorem po_17 : po 17 = 7 := rfl
theorem M_17 {u : Nat} (hu : isU u)  {σ : pS} {ρ : Nat → Nat → Option Nat} (e : gR σ = ρ) (hL : LayR ρ) : Le
  (gd (narrow .boolean (.int (gI σ u 2)) = .int (gI σ u 2)) (some (1, .int (gI σ u 2), σ)))
  (pcall 17 [.ref u] σ) := by
  show Le _ (den 17 0 0 [.ref u] [] σ)
  exact r_aload_n k_17_0 rfl rfl
    (r_getI k_17_1 rfl po_17 rfl rfl rfl (kdU hu)
    (r_gd fun g => r_ret k_17_4 rfl g))
/-! ===== 18 HedgeWants.Rule.value ===== -/
theorem k_18_0 : cd 18 0 = some (.iconst 0, 1) := by decide +kernel
theorem k_18_1 : cd 18 1 = some (.istore_n 2, 1) := by decide +kernel
theorem k_18_2 : cd 18 2 = some (.iconst 0, 1) := by decide +kernel
theorem k_18_3 : cd 18 3 = some (.istore_n 3, 1) := by decide +kernel
theorem k_18_4 : cd 18 4 = some (.iload_n 3, 1) := by decide +kernel
theorem k_18_5 : cd 18 5 = some (.aload_n 0, 1) := by decide +kernel
theorem k_18_6 : cd 18 6 = some (.getfield 18, 3) := by decide +kernel
theorem k_18_9 : cd 18 9 = some (.if_icmp .ge 189, 3) := by decide +kernel
theorem k_18_12 : cd 18 12 = some (.iload_n 3, 1) := by decide +kernel
theorem k_18_13 : cd 18 13 = some (.aload_n 0, 1) := by decide +kernel
theorem k_18_14 : cd 18 14 = some (.getfield 9, 3) := by decide +kernel
theorem k_18_17 : cd 18 17 = some (.arraylength, 1) := by decide +kernel
theorem k_18_18 : cd 18 18 = some (.if_icmp .ge 180, 3) := by decide +kernel
theorem k_18_21 : cd 18 21 = some (.aload_n 0, 1) := by decide +kernel
theorem k_18_22 : cd 18 22 = some (.getfield 9, 3) := by decide +kernel
theorem k_18_25 : cd 18 25 = some (.iload_n 3, 1) := by decide +kernel
theorem k_18_26 : cd 18 26 = some (.iaload, 1) := by decide +kernel
theorem k_18_27 : cd 18 27 = some (.istore 4, 2) := by decide +kernel
theorem k_18_29 : cd 18 29 = some (.iload 4, 2) := by decide +kernel
theorem k_18_31 : cd 18 31 = some (.bipush (-8), 2) := by decide +kernel
theorem k_18_33 : cd 18 33 = some (.if_icmp .lt 67, 3) := by decide +kernel
theorem k_18_36 : cd 18 36 = some (.iconst (-1), 1) := by decide +kernel
theorem k_18_37 : cd 18 37 = some (.iload 4, 2) := by decide +kernel
theorem k_18_39 : cd 18 39 = some (.isub, 1) := by decide +kernel
theorem k_18_40 : cd 18 40 = some (.istore 5, 2) := by decide +kernel
theorem k_18_42 : cd 18 42 = some (.iload 5, 2) := by decide +kernel
theorem k_18_44 : cd 18 44 = some (.ifCond .lt 14, 3) := by decide +kernel
theorem k_18_47 : cd 18 47 = some (.iload 5, 2) := by decide +kernel
theorem k_18_49 : cd 18 49 = some (.aload_n 1, 1) := by decide +kernel
theorem k_18_50 : cd 18 50 = some (.arraylength, 1) := by decide +kernel
theorem k_18_51 : cd 18 51 = some (.if_icmp .ge 7, 3) := by decide +kernel
theorem k_18_54 : cd 18 54 = some (.iconst 1, 1) := by decide +kernel
theorem k_18_55 : cd 18 55 = some (.goto 4, 3) := by decide +kernel
theorem k_18_58 : cd 18 58 = some (.iconst 0, 1) := by decide +kernel
theorem k_18_59 : cd 18 59 = some (.istore 6, 2) := by decide +kernel
theorem k_18_61 : cd 18 61 = some (.iload_n 2, 1) := by decide +kernel
theorem k_18_62 : cd 18 62 = some (.ifCond .lt 35, 3) := by decide +kernel
theorem k_18_65 : cd 18 65 = some (.iload_n 2, 1) := by decide +kernel
theorem k_18_66 : cd 18 66 = some (.aload_n 0, 1) := by decide +kernel
theorem k_18_67 : cd 18 67 = some (.getfield 15, 3) := by decide +kernel
theorem k_18_70 : cd 18 70 = some (.arraylength, 1) := by decide +kernel
theorem k_18_71 : cd 18 71 = some (.if_icmp .ge 26, 3) := by decide +kernel
theorem k_18_74 : cd 18 74 = some (.aload_n 0, 1) := by decide +kernel
theorem k_18_75 : cd 18 75 = some (.getfield 15, 3) := by decide +kernel
theorem k_18_78 : cd 18 78 = some (.iload_n 2, 1) := by decide +kernel
theorem k_18_79 : cd 18 79 = some (.iload 6, 2) := by decide +kernel
theorem k_18_81 : cd 18 81 = some (.ifCond .eq 10, 3) := by decide +kernel
theorem k_18_84 : cd 18 84 = some (.aload_n 1, 1) := by decide +kernel
theorem k_18_85 : cd 18 85 = some (.iload 5, 2) := by decide +kernel
theorem k_18_87 : cd 18 87 = some (.iaload, 1) := by decide +kernel
theorem k_18_88 : cd 18 88 = some (.goto 5, 3) := by decide +kernel
theorem k_18_91 : cd 18 91 = some (.iload 4, 2) := by decide +kernel
theorem k_18_93 : cd 18 93 = some (.iastore, 1) := by decide +kernel
theorem k_18_94 : cd 18 94 = some (.iinc 2 1, 3) := by decide +kernel
theorem k_18_97 : cd 18 97 = some (.goto 95, 3) := by decide +kernel
theorem k_18_100 : cd 18 100 = some (.iload 4, 2) := by decide +kernel
theorem k_18_102 : cd 18 102 = some (.bipush (-22), 2) := by decide +kernel
theorem k_18_104 : cd 18 104 = some (.if_icmp .ne 44, 3) := by decide +kernel
theorem k_18_107 : cd 18 107 = some (.iload_n 2, 1) := by decide +kernel
theorem k_18_108 : cd 18 108 = some (.iconst 1, 1) := by decide +kernel
theorem k_18_109 : cd 18 109 = some (.if_icmp .lt 83, 3) := by decide +kernel
theorem k_18_112 : cd 18 112 = some (.iload_n 2, 1) := by decide +kernel
theorem k_18_113 : cd 18 113 = some (.aload_n 0, 1) := by decide +kernel
theorem k_18_114 : cd 18 114 = some (.getfield 15, 3) := by decide +kernel
theorem k_18_117 : cd 18 117 = some (.arraylength, 1) := by decide +kernel
theorem k_18_118 : cd 18 118 = some (.if_icmp .gt 74, 3) := by decide +kernel
theorem k_18_121 : cd 18 121 = some (.aload_n 0, 1) := by decide +kernel
theorem k_18_122 : cd 18 122 = some (.getfield 15, 3) := by decide +kernel
theorem k_18_125 : cd 18 125 = some (.iload_n 2, 1) := by decide +kernel
theorem k_18_126 : cd 18 126 = some (.iconst 1, 1) := by decide +kernel
theorem k_18_127 : cd 18 127 = some (.isub, 1) := by decide +kernel
theorem k_18_128 : cd 18 128 = some (.aload_n 0, 1) := by decide +kernel
theorem k_18_129 : cd 18 129 = some (.getfield 15, 3) := by decide +kernel
theorem k_18_132 : cd 18 132 = some (.iload_n 2, 1) := by decide +kernel
theorem k_18_133 : cd 18 133 = some (.iconst 1, 1) := by decide +kernel
theorem k_18_134 : cd 18 134 = some (.isub, 1) := by decide +kernel
theorem k_18_135 : cd 18 135 = some (.iaload, 1) := by decide +kernel
theorem k_18_136 : cd 18 136 = some (.ifCond .ne 7, 3) := by decide +kernel
theorem k_18_139 : cd 18 139 = some (.iconst 1, 1) := by decide +kernel
theorem k_18_140 : cd 18 140 = some (.goto 4, 3) := by decide +kernel
theorem k_18_143 : cd 18 143 = some (.iconst 0, 1) := by decide +kernel
theorem k_18_144 : cd 18 144 = some (.iastore, 1) := by decide +kernel
theorem k_18_145 : cd 18 145 = some (.goto 47, 3) := by decide +kernel
theorem k_18_148 : cd 18 148 = some (.iload_n 2, 1) := by decide +kernel
theorem k_18_149 : cd 18 149 = some (.iconst 2, 1) := by decide +kernel
theorem k_18_150 : cd 18 150 = some (.if_icmp .lt 42, 3) := by decide +kernel
theorem k_18_153 : cd 18 153 = some (.iload_n 2, 1) := by decide +kernel
theorem k_18_154 : cd 18 154 = some (.aload_n 0, 1) := by decide +kernel
theorem k_18_155 : cd 18 155 = some (.getfield 15, 3) := by decide +kernel
theorem k_18_158 : cd 18 158 = some (.arraylength, 1) := by decide +kernel
theorem k_18_159 : cd 18 159 = some (.if_icmp .gt 33, 3) := by decide +kernel
theorem k_18_162 : cd 18 162 = some (.iinc 2 (-1), 3) := by decide +kernel
theorem k_18_165 : cd 18 165 = some (.aload_n 0, 1) := by decide +kernel
theorem k_18_166 : cd 18 166 = some (.getfield 15, 3) := by decide +kernel
theorem k_18_169 : cd 18 169 = some (.iload_n 2, 1) := by decide +kernel
theorem k_18_170 : cd 18 170 = some (.iconst 1, 1) := by decide +kernel
theorem k_18_171 : cd 18 171 = some (.isub, 1) := by decide +kernel
theorem k_18_172 : cd 18 172 = some (.iload 4, 2) := by decide +kernel
theorem k_18_174 : cd 18 174 = some (.aload_n 0, 1) := by decide +kernel
theorem k_18_175 : cd 18 175 = some (.getfield 15, 3) := by decide +kernel
theorem k_18_178 : cd 18 178 = some (.iload_n 2, 1) := by decide +kernel
theorem k_18_179 : cd 18 179 = some (.iconst 1, 1) := by decide +kernel
theorem k_18_180 : cd 18 180 = some (.isub, 1) := by decide +kernel
theorem k_18_181 : cd 18 181 = some (.iaload, 1) := by decide +kernel
theorem k_18_182 : cd 18 182 = some (.aload_n 0, 1) := by decide +kernel
theorem k_18_183 : cd 18 183 = some (.getfield 15, 3) := by decide +kernel
theorem k_18_186 : cd 18 186 = some (.iload_n 2, 1) := by decide +kernel
theorem k_18_187 : cd 18 187 = some (.iaload, 1) := by decide +kernel
theorem k_18_188 : cd 18 188 = some (.invokestatic 37, 3) := by decide +kernel
theorem k_18_191 : cd 18 191 = some (.iastore, 1) := by decide +kernel
theorem k_18_192 : cd 18 192 = some (.iinc 3 1, 3) := by decide +kernel
theorem k_18_195 : cd 18 195 = some (.goto (-191), 3) := by decide +kernel
theorem k_18_198 : cd 18 198 = some (.iload_n 2, 1) := by decide +kernel
theorem k_18_199 : cd 18 199 = some (.iconst 1, 1) := by decide +kernel
theorem k_18_200 : cd 18 200 = some (.if_icmp .lt 23, 3) := by decide +kernel
theorem k_18_203 : cd 18 203 = some (.iload_n 2, 1) := by decide +kernel
theorem k_18_204 : cd 18 204 = some (.aload_n 0, 1) := by decide +kernel
theorem k_18_205 : cd 18 205 = some (.getfield 15, 3) := by decide +kernel
theorem k_18_208 : cd 18 208 = some (.arraylength, 1) := by decide +kernel
theorem k_18_209 : cd 18 209 = some (.if_icmp .gt 14, 3) := by decide +kernel
theorem k_18_212 : cd 18 212 = some (.aload_n 0, 1) := by decide +kernel
theorem k_18_213 : cd 18 213 = some (.getfield 15, 3) := by decide +kernel
theorem k_18_216 : cd 18 216 = some (.iload_n 2, 1) := by decide +kernel
theorem k_18_217 : cd 18 217 = some (.iconst 1, 1) := by decide +kernel
theorem k_18_218 : cd 18 218 = some (.isub, 1) := by decide +kernel
theorem k_18_219 : cd 18 219 = some (.iaload, 1) := by decide +kernel
theorem k_18_220 : cd 18 220 = some (.goto 4, 3) := by decide +kernel
theorem k_18_223 : cd 18 223 = some (.iconst 0, 1) := by decide +kernel
theorem k_18_224 : cd 18 224 = some (.ireturn, 1) := by decide +kernel
theorem po_18 : po 18 = 7 := rfl
noncomputable def C_18_4 (u : Nat) (a0 n0 : Nat) (x2 : Int32) (x3 : Int32) (v4 : Value) (v5 : Value) (v6 : Value) (σ : pS) : Option pZ := den 18 0 4 [.ref u, .ref a0, .int x2, .int x3, v4, v5, v6] [] σ
noncomputable def C_18_59 (u : Nat) (a0 n0 : Nat) (x2 : Int32) (x3 : Int32) (x4 : Int32) (x5 : Int32) (v6 : Value) (s0 : Int32) (σ : pS) : Option pZ := den 18 0 59 [.ref u, .ref a0, .int x2, .int x3, .int x4, .int x5, v6] [.int s0] σ
noncomputable def C_18_198 (u : Nat) (a0 n0 : Nat) (v1 : Value) (x2 : Int32) (v3 : Value) (v4 : Value) (v5 : Value) (v6 : Value) (σ : pS) : Option pZ := den 18 0 198 [.ref u, v1, .int x2, v3, v4, v5, v6] [] σ
theorem T_18_4 {u : Nat} (hu : isU u) {a0 n0 : Nat} (ha0 : kd a0 = (100, n0)) {x2 : Int32} {x3 : Int32} {v4 : Value} {v5 : Value} {v6 : Value}  {σ : pS} {ρ : Nat → Nat → Option Nat} (e : gR σ = ρ) (hL : LayR ρ) : Le
  (if (gI σ u 1) ≤ x3 then C_18_198 u a0 n0 (.ref a0) x2 (.int x3) v4 v5 v6 σ else if (ι 700) ≤ x3 then C_18_198 u a0 n0 (.ref a0) x2 (.int x3) v4 v5 v6 σ else gd (inb x3 700) (if (gI σ (u + 1) (ix x3)) < (ν 8) then if ¬ (gI σ (u + 1) (ix x3)) = (ν 22) then if x2 < (ι 2) then C_18_4 u a0 n0 x2 (x3 + (ι 1)) (.int (gI σ (u + 1) (ix x3))) v5 v6 σ else if (ι 64) < x2 then C_18_4 u a0 n0 x2 (x3 + (ι 1)) (.int (gI σ (u + 1) (ix x3))) v5 v6 σ else gd (inb ((x2 + (ν 1)) - (ι 1)) 64) (gd (inb (x2 + (ν 1)) 64) (bI (pcall 19 [.int (gI σ (u + 1) (ix x3)), .int (gI σ (u + 2) (ix ((x2 + (ν 1)) - (ι 1)))), .int (gI σ (u + 2) (ix (x2 + (ν 1))))] σ) fun r1 σ1 => gd (inb ((x2 + (ν 1)) - (ι 1)) 64) (C_18_4 u a0 n0 (x2 + (ν 1)) (x3 + (ι 1)) (.int (gI σ (u + 1) (ix x3))) v5 v6 (sI σ1 (u + 2) (ix ((x2 + (ν 1)) - (ι 1))) r1)))) else if x2 < (ι 1) then C_18_4 u a0 n0 x2 (x3 + (ι 1)) (.int (gI σ (u + 1) (ix x3))) v5 v6 σ else if (ι 64) < x2 then C_18_4 u a0 n0 x2 (x3 + (ι 1)) (.int (gI σ (u + 1) (ix x3))) v5 v6 σ else gd (inb (x2 - (ι 1)) 64) (if ¬ (gI σ (u + 2) (ix (x2 - (ι 1)))) = (ι 0) then gd (inb (x2 - (ι 1)) 64) (C_18_4 u a0 n0 x2 (x3 + (ι 1)) (.int (gI σ (u + 1) (ix x3))) v5 v6 (sI σ (u + 2) (ix (x2 - (ι 1))) (ι 0))) else gd (inb (x2 - (ι 1)) 64) (C_18_4 u a0 n0 x2 (x3 + (ι 1)) (.int (gI σ (u + 1) (ix x3))) v5 v6 (sI σ (u + 2) (ix (x2 - (ι 1))) (ι 1)))) else if ((ν 1) - (gI σ (u + 1) (ix x3))) < (ι 0) then C_18_59 u a0 n0 x2 x3 (gI σ (u + 1) (ix x3)) ((ν 1) - (gI σ (u + 1) (ix x3))) v6 (ι 0) σ else if (ι n0) ≤ ((ν 1) - (gI σ (u + 1) (ix x3))) then C_18_59 u a0 n0 x2 x3 (gI σ (u + 1) (ix x3)) ((ν 1) - (gI σ (u + 1) (ix x3))) v6 (ι 0) σ else C_18_59 u a0 n0 x2 x3 (gI σ (u + 1) (ix x3)) ((ν 1) - (gI σ (u + 1) (ix x3))) v6 (ι 1) σ))
  (C_18_4 u a0 n0 x2 x3 v4 v5 v6 σ) := by
  unfold C_18_4
  exact r_iload_n k_18_4 rfl rfl
    (r_aload_n k_18_5 rfl rfl
    (r_getI k_18_6 rfl po_18 rfl rfl rfl (kdU hu)
    (r_icmp (tgt := 198) k_18_9 rfl rfl cop_ge
    (Le.rfl')
    (r_iload_n k_18_12 rfl rfl
    (r_aload_n k_18_13 rfl rfl
    (r_getR k_18_14 rfl po_18 rfl rfl rfl (kdU hu) (gRat e (lyU_0 hL hu))
    (r_alenI k_18_17 rfl (kdU_1 hu) rfl
    (r_icmp (tgt := 198) k_18_18 rfl rfl cop_ge
    (Le.rfl')
    (r_aload_n k_18_21 rfl rfl
    (r_getR k_18_22 rfl po_18 rfl rfl rfl (kdU hu) (gRat e (lyU_0 hL hu))
    (r_iload_n k_18_25 rfl rfl
    (r_gd fun g => r_iald k_18_26 rfl (kdU_1 hu) g
    (r_istore k_18_27 rfl rfl rfl
    (r_iload k_18_29 rfl rfl
    (r_bipush k_18_31 rfl rfl
    (r_icmp (tgt := 100) k_18_33 rfl rfl cop_lt
    (r_iload k_18_100 rfl rfl
    (r_bipush k_18_102 rfl rfl
    (r_icmp (tgt := 148) k_18_104 rfl rfl cop_ne
    (r_iload_n k_18_148 rfl rfl
    (r_iconst k_18_149 rfl rfl
    (r_icmp (tgt := 192) k_18_150 rfl rfl cop_lt
    (r_iinc k_18_192 rfl rfl rfl rfl
    (r_goto (tgt := 4) k_18_195 rfl (Le.rfl')))
    (r_iload_n k_18_153 rfl rfl
    (r_aload_n k_18_154 rfl rfl
    (r_getR k_18_155 rfl po_18 rfl rfl rfl (kdU hu) (gRat e (lyU_4 hL hu))
    (r_alenI k_18_158 rfl (kdU_2 hu) rfl
    (r_icmp (tgt := 192) k_18_159 rfl rfl cop_gt
    (r_iinc k_18_192 rfl rfl rfl rfl
    (r_goto (tgt := 4) k_18_195 rfl (Le.rfl')))
    (r_iinc k_18_162 rfl rfl rfl rfl
    (r_aload_n k_18_165 rfl rfl
    (r_getR k_18_166 rfl po_18 rfl rfl rfl (kdU hu) (gRat e (lyU_4 hL hu))
    (r_iload_n k_18_169 rfl rfl
    (r_iconst k_18_170 rfl rfl
    (r_isub k_18_171 rfl
    (r_iload k_18_172 rfl rfl
    (r_aload_n k_18_174 rfl rfl
    (r_getR k_18_175 rfl po_18 rfl rfl rfl (kdU hu) (gRat e (lyU_4 hL hu))
    (r_iload_n k_18_178 rfl rfl
    (r_iconst k_18_179 rfl rfl
    (r_isub k_18_180 rfl
    (r_gd fun g => r_iald k_18_181 rfl (kdU_2 hu) g
    (r_aload_n k_18_182 rfl rfl
    (r_getR k_18_183 rfl po_18 rfl rfl rfl (kdU hu) (gRat e (lyU_4 hL hu))
    (r_iload_n k_18_186 rfl rfl
    (r_gd fun g => r_iald k_18_187 rfl (kdU_2 hu) g
    (r_callI (q_stat (rest := [.int ((x2 + (ν 1)) - (ι 1)), .ref (u + 2)]) (av := [.int (gI σ (u + 1) (ix x3)), .int (gI σ (u + 2) (ix ((x2 + (ν 1)) - (ι 1)))), .int (gI σ (u + 2) (ix (x2 + (ν 1))))]) k_18_188 po_18 rfl (by decide) rfl rfl rfl rfl) (lvq (j := 0) rfl (by decide +kernel)) rfl rfl (fun r1 σ1 h1 => r_gd fun g => r_iast k_18_191 rfl (kdU_2 hu) g
    (r_iinc k_18_192 rfl rfl rfl rfl
    (r_goto (tgt := 4) k_18_195 rfl (Le.rfl'))))))))))))))))))))))))))))))
    (r_iload_n k_18_107 rfl rfl
    (r_iconst k_18_108 rfl rfl
    (r_icmp (tgt := 192) k_18_109 rfl rfl cop_lt
    (r_iinc k_18_192 rfl rfl rfl rfl
    (r_goto (tgt := 4) k_18_195 rfl (Le.rfl')))
    (r_iload_n k_18_112 rfl rfl
    (r_aload_n k_18_113 rfl rfl
    (r_getR k_18_114 rfl po_18 rfl rfl rfl (kdU hu) (gRat e (lyU_4 hL hu))
    (r_alenI k_18_117 rfl (kdU_2 hu) rfl
    (r_icmp (tgt := 192) k_18_118 rfl rfl cop_gt
    (r_iinc k_18_192 rfl rfl rfl rfl
    (r_goto (tgt := 4) k_18_195 rfl (Le.rfl')))
    (r_aload_n k_18_121 rfl rfl
    (r_getR k_18_122 rfl po_18 rfl rfl rfl (kdU hu) (gRat e (lyU_4 hL hu))
    (r_iload_n k_18_125 rfl rfl
    (r_iconst k_18_126 rfl rfl
    (r_isub k_18_127 rfl
    (r_aload_n k_18_128 rfl rfl
    (r_getR k_18_129 rfl po_18 rfl rfl rfl (kdU hu) (gRat e (lyU_4 hL hu))
    (r_iload_n k_18_132 rfl rfl
    (r_iconst k_18_133 rfl rfl
    (r_isub k_18_134 rfl
    (r_gd fun g => r_iald k_18_135 rfl (kdU_2 hu) g
    (r_if (tgt := 143) k_18_136 rfl rfl cop_ne
    (r_iconst k_18_143 rfl rfl
    (r_gd fun g => r_iast k_18_144 rfl (kdU_2 hu) g
    (r_goto (tgt := 192) k_18_145 rfl (r_iinc k_18_192 rfl rfl rfl rfl
    (r_goto (tgt := 4) k_18_195 rfl (Le.rfl'))))))
    (r_iconst k_18_139 rfl rfl
    (r_goto (tgt := 144) k_18_140 rfl (r_gd fun g => r_iast k_18_144 rfl (kdU_2 hu) g
    (r_goto (tgt := 192) k_18_145 rfl (r_iinc k_18_192 rfl rfl rfl rfl
    (r_goto (tgt := 4) k_18_195 rfl (Le.rfl'))))))))))))))))))))))))))))))
    (r_iconst k_18_36 rfl rfl
    (r_iload k_18_37 rfl rfl
    (r_isub k_18_39 rfl
    (r_istore k_18_40 rfl rfl rfl
    (r_iload k_18_42 rfl rfl
    (r_if (tgt := 58) k_18_44 rfl rfl cop_lt
    (r_iconst k_18_58 rfl rfl
    (Le.rfl'))
    (r_iload k_18_47 rfl rfl
    (r_aload_n k_18_49 rfl rfl
    (r_alenI k_18_50 rfl ha0 rfl
    (r_icmp (tgt := 58) k_18_51 rfl rfl cop_ge
    (r_iconst k_18_58 rfl rfl
    (Le.rfl'))
    (r_iconst k_18_54 rfl rfl
    (r_goto (tgt := 59) k_18_55 rfl (Le.rfl')))))))))))))))))))))))))))))
theorem T_18_59 {u : Nat} (hu : isU u) {a0 n0 : Nat} (ha0 : kd a0 = (100, n0)) {x2 : Int32} {x3 : Int32} {x4 : Int32} {x5 : Int32} {v6 : Value} {s0 : Int32}  {σ : pS} {ρ : Nat → Nat → Option Nat} (e : gR σ = ρ) (hL : LayR ρ) : Le
  (if x2 < (ι 0) then C_18_4 u a0 n0 x2 (x3 + (ι 1)) (.int x4) (.int x5) (.int s0) σ else if (ι 64) ≤ x2 then C_18_4 u a0 n0 x2 (x3 + (ι 1)) (.int x4) (.int x5) (.int s0) σ else if s0 = (ι 0) then gd (inb x2 64) (C_18_4 u a0 n0 (x2 + (ι 1)) (x3 + (ι 1)) (.int x4) (.int x5) (.int s0) (sI σ (u + 2) (ix x2) x4)) else gd (inb x5 n0) (gd (inb x2 64) (C_18_4 u a0 n0 (x2 + (ι 1)) (x3 + (ι 1)) (.int x4) (.int x5) (.int s0) (sI σ (u + 2) (ix x2) (gI σ a0 (ix x5))))))
  (C_18_59 u a0 n0 x2 x3 x4 x5 v6 s0 σ) := by
  unfold C_18_59
  exact r_istore k_18_59 rfl rfl rfl
    (r_iload_n k_18_61 rfl rfl
    (r_if (tgt := 97) k_18_62 rfl rfl cop_lt
    (r_goto (tgt := 192) k_18_97 rfl (r_iinc k_18_192 rfl rfl rfl rfl
    (r_goto (tgt := 4) k_18_195 rfl (Le.rfl'))))
    (r_iload_n k_18_65 rfl rfl
    (r_aload_n k_18_66 rfl rfl
    (r_getR k_18_67 rfl po_18 rfl rfl rfl (kdU hu) (gRat e (lyU_4 hL hu))
    (r_alenI k_18_70 rfl (kdU_2 hu) rfl
    (r_icmp (tgt := 97) k_18_71 rfl rfl cop_ge
    (r_goto (tgt := 192) k_18_97 rfl (r_iinc k_18_192 rfl rfl rfl rfl
    (r_goto (tgt := 4) k_18_195 rfl (Le.rfl'))))
    (r_aload_n k_18_74 rfl rfl
    (r_getR k_18_75 rfl po_18 rfl rfl rfl (kdU hu) (gRat e (lyU_4 hL hu))
    (r_iload_n k_18_78 rfl rfl
    (r_iload k_18_79 rfl rfl
    (r_if (tgt := 91) k_18_81 rfl rfl cop_eq
    (r_iload k_18_91 rfl rfl
    (r_gd fun g => r_iast k_18_93 rfl (kdU_2 hu) g
    (r_iinc k_18_94 rfl rfl rfl rfl
    (r_goto (tgt := 192) k_18_97 rfl (r_iinc k_18_192 rfl rfl rfl rfl
    (r_goto (tgt := 4) k_18_195 rfl (Le.rfl')))))))
    (r_aload_n k_18_84 rfl rfl
    (r_iload k_18_85 rfl rfl
    (r_gd fun g => r_iald k_18_87 rfl ha0 g
    (r_goto (tgt := 93) k_18_88 rfl (r_gd fun g => r_iast k_18_93 rfl (kdU_2 hu) g
    (r_iinc k_18_94 rfl rfl rfl rfl
    (r_goto (tgt := 192) k_18_97 rfl (r_iinc k_18_192 rfl rfl rfl rfl
    (r_goto (tgt := 4) k_18_195 rfl (Le.rfl'))))))))))))))))))))))
theorem T_18_198 {u : Nat} (hu : isU u) {a0 n0 : Nat} (ha0 : kd a0 = (100, n0)) {v1 : Value} {x2 : Int32} {v3 : Value} {v4 : Value} {v5 : Value} {v6 : Value}  {σ : pS} {ρ : Nat → Nat → Option Nat} (e : gR σ = ρ) (hL : LayR ρ) : Le
  (if x2 < (ι 1) then some (1, .int (ι 0), σ) else if (ι 64) < x2 then some (1, .int (ι 0), σ) else gd (inb (x2 - (ι 1)) 64) (some (1, .int (gI σ (u + 2) (ix (x2 - (ι 1)))), σ)))
  (C_18_198 u a0 n0 v1 x2 v3 v4 v5 v6 σ) := by
  unfold C_18_198
  exact r_iload_n k_18_198 rfl rfl
    (r_iconst k_18_199 rfl rfl
    (r_icmp (tgt := 223) k_18_200 rfl rfl cop_lt
    (r_iconst k_18_223 rfl rfl
    (r_ret k_18_224 rfl rfl))
    (r_iload_n k_18_203 rfl rfl
    (r_aload_n k_18_204 rfl rfl
    (r_getR k_18_205 rfl po_18 rfl rfl rfl (kdU hu) (gRat e (lyU_4 hL hu))
    (r_alenI k_18_208 rfl (kdU_2 hu) rfl
    (r_icmp (tgt := 223) k_18_209 rfl rfl cop_gt
    (r_iconst k_18_223 rfl rfl
    (r_ret k_18_224 rfl rfl))
    (r_aload_n k_18_212 rfl rfl
    (r_getR k_18_213 rfl po_18 rfl rfl rfl (kdU hu) (gRat e (lyU_4 hL hu))
    (r_iload_n k_18_216 rfl rfl
    (r_iconst k_18_217 rfl rfl
    (r_isub k_18_218 rfl
    (r_gd fun g => r_iald k_18_219 rfl (kdU_2 hu) g
    (r_goto (tgt := 224) k_18_220 rfl (r_ret k_18_224 rfl rfl)))))))))))))))
theorem M_18 {u : Nat} (hu : isU u) {a0 n0 : Nat} (ha0 : kd a0 = (100, n0))  {σ : pS} {ρ : Nat → Nat → Option Nat} (e : gR σ = ρ) (hL : LayR ρ) : Le
  (C_18_4 u a0 n0 (ι 0) (ι 0) (.retAddr 0) (.retAddr 0) (.retAddr 0) σ)
  (pcall 18 [.ref u, .ref a0] σ) := by
  show Le _ (den 18 0 0 [.ref u, .ref a0, .retAddr 0, .retAddr 0, .retAddr 0, .retAddr 0, .retAddr 0] [] σ)
  exact r_iconst k_18_0 rfl rfl
    (r_istore_n k_18_1 rfl rfl rfl
    (r_iconst k_18_2 rfl rfl
    (r_istore_n k_18_3 rfl rfl rfl
    (Le.rfl'))))
/-! ===== 19 HedgeWants.Rule.joined ===== -/
theorem k_19_0 : cd 19 0 = some (.iload_n 0, 1) := by decide +kernel
theorem k_19_1 : cd 19 1 = some (.tableswitch 109 (-27) (-20) #[105, 101, 97, 86, 75, 109, 61, 47], 47) := by decide +kernel
theorem k_19_48 : cd 19 48 = some (.iload_n 1, 1) := by decide +kernel
theorem k_19_49 : cd 19 49 = some (.ifCond .ne 7, 3) := by decide +kernel
theorem k_19_52 : cd 19 52 = some (.iload_n 2, 1) := by decide +kernel
theorem k_19_53 : cd 19 53 = some (.ifCond .eq 7, 3) := by decide +kernel
theorem k_19_56 : cd 19 56 = some (.iconst 1, 1) := by decide +kernel
theorem k_19_57 : cd 19 57 = some (.goto 4, 3) := by decide +kernel
theorem k_19_60 : cd 19 60 = some (.iconst 0, 1) := by decide +kernel
theorem k_19_61 : cd 19 61 = some (.ireturn, 1) := by decide +kernel
theorem k_19_62 : cd 19 62 = some (.iload_n 1, 1) := by decide +kernel
theorem k_19_63 : cd 19 63 = some (.ifCond .eq 11, 3) := by decide +kernel
theorem k_19_66 : cd 19 66 = some (.iload_n 2, 1) := by decide +kernel
theorem k_19_67 : cd 19 67 = some (.ifCond .eq 7, 3) := by decide +kernel
theorem k_19_70 : cd 19 70 = some (.iconst 1, 1) := by decide +kernel
theorem k_19_71 : cd 19 71 = some (.goto 4, 3) := by decide +kernel
theorem k_19_74 : cd 19 74 = some (.iconst 0, 1) := by decide +kernel
theorem k_19_75 : cd 19 75 = some (.ireturn, 1) := by decide +kernel
theorem k_19_76 : cd 19 76 = some (.iload_n 1, 1) := by decide +kernel
theorem k_19_77 : cd 19 77 = some (.iload_n 2, 1) := by decide +kernel
theorem k_19_78 : cd 19 78 = some (.if_icmp .ge 7, 3) := by decide +kernel
theorem k_19_81 : cd 19 81 = some (.iconst 1, 1) := by decide +kernel
theorem k_19_82 : cd 19 82 = some (.goto 4, 3) := by decide +kernel
theorem k_19_85 : cd 19 85 = some (.iconst 0, 1) := by decide +kernel
theorem k_19_86 : cd 19 86 = some (.ireturn, 1) := by decide +kernel
theorem k_19_87 : cd 19 87 = some (.iload_n 1, 1) := by decide +kernel
theorem k_19_88 : cd 19 88 = some (.iload_n 2, 1) := by decide +kernel
theorem k_19_89 : cd 19 89 = some (.if_icmp .ne 7, 3) := by decide +kernel
theorem k_19_92 : cd 19 92 = some (.iconst 1, 1) := by decide +kernel
theorem k_19_93 : cd 19 93 = some (.goto 4, 3) := by decide +kernel
theorem k_19_96 : cd 19 96 = some (.iconst 0, 1) := by decide +kernel
theorem k_19_97 : cd 19 97 = some (.ireturn, 1) := by decide +kernel
theorem k_19_98 : cd 19 98 = some (.iload_n 1, 1) := by decide +kernel
theorem k_19_99 : cd 19 99 = some (.iload_n 2, 1) := by decide +kernel
theorem k_19_100 : cd 19 100 = some (.iadd, 1) := by decide +kernel
theorem k_19_101 : cd 19 101 = some (.ireturn, 1) := by decide +kernel
theorem k_19_102 : cd 19 102 = some (.iload_n 1, 1) := by decide +kernel
theorem k_19_103 : cd 19 103 = some (.iload_n 2, 1) := by decide +kernel
theorem k_19_104 : cd 19 104 = some (.isub, 1) := by decide +kernel
theorem k_19_105 : cd 19 105 = some (.ireturn, 1) := by decide +kernel
theorem k_19_106 : cd 19 106 = some (.iload_n 1, 1) := by decide +kernel
theorem k_19_107 : cd 19 107 = some (.iload_n 2, 1) := by decide +kernel
theorem k_19_108 : cd 19 108 = some (.imul, 1) := by decide +kernel
theorem k_19_109 : cd 19 109 = some (.ireturn, 1) := by decide +kernel
theorem k_19_110 : cd 19 110 = some (.iload_n 2, 1) := by decide +kernel
theorem k_19_111 : cd 19 111 = some (.ifCond .ne 7, 3) := by decide +kernel
theorem k_19_114 : cd 19 114 = some (.iconst 0, 1) := by decide +kernel
theorem k_19_115 : cd 19 115 = some (.goto 6, 3) := by decide +kernel
theorem k_19_118 : cd 19 118 = some (.iload_n 1, 1) := by decide +kernel
theorem k_19_119 : cd 19 119 = some (.iload_n 2, 1) := by decide +kernel
theorem k_19_120 : cd 19 120 = some (.idiv, 1) := by decide +kernel
theorem k_19_121 : cd 19 121 = some (.ireturn, 1) := by decide +kernel
theorem po_19 : po 19 = 7 := rfl
theorem M_19  {x0 : Int32} {x1 : Int32} {x2 : Int32} {σ : pS} {ρ : Nat → Nat → Option Nat} (e : gR σ = ρ) (hL : LayR ρ) : Le
  (if x0 = (ν 27) then some (1, .int (x1 * x2), σ) else if x0 = (ν 26) then some (1, .int (x1 - x2), σ) else if x0 = (ν 25) then some (1, .int (x1 + x2), σ) else if x0 = (ν 24) then if ¬ x1 = x2 then some (1, .int (ι 0), σ) else some (1, .int (ι 1), σ) else if x0 = (ν 23) then if x2 ≤ x1 then some (1, .int (ι 0), σ) else some (1, .int (ι 1), σ) else if x0 = (ν 22) then if ¬ x2 = (ι 0) then gd (¬ x2 = ι 0) (some (1, .int (x1 / x2), σ)) else some (1, .int (ι 0), σ) else if x0 = (ν 21) then if x1 = (ι 0) then some (1, .int (ι 0), σ) else if x2 = (ι 0) then some (1, .int (ι 0), σ) else some (1, .int (ι 1), σ) else if x0 = (ν 20) then if ¬ x1 = (ι 0) then some (1, .int (ι 1), σ) else if x2 = (ι 0) then some (1, .int (ι 0), σ) else some (1, .int (ι 1), σ) else gd (x0.toInt < -27 ∨ -20 < x0.toInt) (if ¬ x2 = (ι 0) then gd (¬ x2 = ι 0) (some (1, .int (x1 / x2), σ)) else some (1, .int (ι 0), σ)))
  (pcall 19 [.int x0, .int x1, .int x2] σ) := by
  show Le _ (den 19 0 0 [.int x0, .int x1, .int x2] [] σ)
  exact r_iload_n k_19_0 rfl rfl
    (r_case (fun c8 => r_tabGo (off := 105) (tgt := 106) c8 k_19_1 (by decide) (by decide) rfl (r_iload_n k_19_106 rfl rfl
    (r_iload_n k_19_107 rfl rfl
    (r_imul k_19_108 rfl
    (r_ret k_19_109 rfl rfl))))) (fun _ => r_case (fun c7 => r_tabGo (off := 101) (tgt := 102) c7 k_19_1 (by decide) (by decide) rfl (r_iload_n k_19_102 rfl rfl
    (r_iload_n k_19_103 rfl rfl
    (r_isub k_19_104 rfl
    (r_ret k_19_105 rfl rfl))))) (fun _ => r_case (fun c6 => r_tabGo (off := 97) (tgt := 98) c6 k_19_1 (by decide) (by decide) rfl (r_iload_n k_19_98 rfl rfl
    (r_iload_n k_19_99 rfl rfl
    (r_iadd k_19_100 rfl
    (r_ret k_19_101 rfl rfl))))) (fun _ => r_case (fun c5 => r_tabGo (off := 86) (tgt := 87) c5 k_19_1 (by decide) (by decide) rfl (r_iload_n k_19_87 rfl rfl
    (r_iload_n k_19_88 rfl rfl
    (r_icmp (tgt := 96) k_19_89 rfl rfl cop_ne
    (r_iconst k_19_96 rfl rfl
    (r_ret k_19_97 rfl rfl))
    (r_iconst k_19_92 rfl rfl
    (r_goto (tgt := 97) k_19_93 rfl (r_ret k_19_97 rfl rfl))))))) (fun _ => r_case (fun c4 => r_tabGo (off := 75) (tgt := 76) c4 k_19_1 (by decide) (by decide) rfl (r_iload_n k_19_76 rfl rfl
    (r_iload_n k_19_77 rfl rfl
    (r_icmp (tgt := 85) k_19_78 rfl rfl cop_ge
    (r_iconst k_19_85 rfl rfl
    (r_ret k_19_86 rfl rfl))
    (r_iconst k_19_81 rfl rfl
    (r_goto (tgt := 86) k_19_82 rfl (r_ret k_19_86 rfl rfl))))))) (fun _ => r_case (fun c3 => r_tabGo (off := 109) (tgt := 110) c3 k_19_1 (by decide) (by decide) rfl (r_iload_n k_19_110 rfl rfl
    (r_if (tgt := 118) k_19_111 rfl rfl cop_ne
    (r_iload_n k_19_118 rfl rfl
    (r_iload_n k_19_119 rfl rfl
    (r_gd fun g => r_idiv k_19_120 rfl g
    (r_ret k_19_121 rfl rfl))))
    (r_iconst k_19_114 rfl rfl
    (r_goto (tgt := 121) k_19_115 rfl (r_ret k_19_121 rfl rfl)))))) (fun _ => r_case (fun c2 => r_tabGo (off := 61) (tgt := 62) c2 k_19_1 (by decide) (by decide) rfl (r_iload_n k_19_62 rfl rfl
    (r_if (tgt := 74) k_19_63 rfl rfl cop_eq
    (r_iconst k_19_74 rfl rfl
    (r_ret k_19_75 rfl rfl))
    (r_iload_n k_19_66 rfl rfl
    (r_if (tgt := 74) k_19_67 rfl rfl cop_eq
    (r_iconst k_19_74 rfl rfl
    (r_ret k_19_75 rfl rfl))
    (r_iconst k_19_70 rfl rfl
    (r_goto (tgt := 75) k_19_71 rfl (r_ret k_19_75 rfl rfl)))))))) (fun _ => r_case (fun c1 => r_tabGo (off := 47) (tgt := 48) c1 k_19_1 (by decide) (by decide) rfl (r_iload_n k_19_48 rfl rfl
    (r_if (tgt := 56) k_19_49 rfl rfl cop_ne
    (r_iconst k_19_56 rfl rfl
    (r_goto (tgt := 61) k_19_57 rfl (r_ret k_19_61 rfl rfl)))
    (r_iload_n k_19_52 rfl rfl
    (r_if (tgt := 60) k_19_53 rfl rfl cop_eq
    (r_iconst k_19_60 rfl rfl
    (r_ret k_19_61 rfl rfl))
    (r_iconst k_19_56 rfl rfl
    (r_goto (tgt := 61) k_19_57 rfl (r_ret k_19_61 rfl rfl)))))))) (fun _ => r_gd fun g => r_tabOut (tgt := 110) k_19_1 g rfl (r_iload_n k_19_110 rfl rfl
    (r_if (tgt := 118) k_19_111 rfl rfl cop_ne
    (r_iload_n k_19_118 rfl rfl
    (r_iload_n k_19_119 rfl rfl
    (r_gd fun g => r_idiv k_19_120 rfl g
    (r_ret k_19_121 rfl rfl))))
    (r_iconst k_19_114 rfl rfl
    (r_goto (tgt := 121) k_19_115 rfl (r_ret k_19_121 rfl rfl))))))))))))))
/-! ===== 20 HedgeWants.Rule.clear ===== -/
theorem k_20_0 : cd 20 0 = some (.aload_n 0, 1) := by decide +kernel
theorem k_20_1 : cd 20 1 = some (.iconst 0, 1) := by decide +kernel
theorem k_20_2 : cd 20 2 = some (.putfield 18, 3) := by decide +kernel
theorem k_20_5 : cd 20 5 = some (.aload_n 0, 1) := by decide +kernel
theorem k_20_6 : cd 20 6 = some (.iconst 0, 1) := by decide +kernel
theorem k_20_7 : cd 20 7 = some (.putfield 22, 3) := by decide +kernel
theorem k_20_10 : cd 20 10 = some (.aload_n 0, 1) := by decide +kernel
theorem k_20_11 : cd 20 11 = some (.iconst 0, 1) := by decide +kernel
theorem k_20_12 : cd 20 12 = some (.putfield 26, 3) := by decide +kernel
theorem k_20_15 : cd 20 15 = some (.return_, 1) := by decide +kernel
theorem po_20 : po 20 = 7 := rfl
theorem M_20 {u : Nat} (hu : isU u)  {σ : pS} {ρ : Nat → Nat → Option Nat} (e : gR σ = ρ) (hL : LayR ρ) : Le
  (some (0, .null, (sI (sI (sI σ u 1 (ι 0)) u 2 (ι 0)) u 3 (ι 0))))
  (pcall 20 [.ref u] σ) := by
  show Le _ (den 20 0 0 [.ref u] [] σ)
  exact r_aload_n k_20_0 rfl rfl
    (r_iconst k_20_1 rfl rfl
    (r_putI k_20_2 rfl po_20 rfl rfl (kdU hu)
    (r_aload_n k_20_5 rfl rfl
    (r_iconst k_20_6 rfl rfl
    (r_putZ k_20_7 rfl po_20 rfl rfl (kdU hu) (by decide)
    (r_aload_n k_20_10 rfl rfl
    (r_iconst k_20_11 rfl rfl
    (r_putI k_20_12 rfl po_20 rfl rfl (kdU hu)
    (r_retV k_20_15 rfl)))))))))
/-! ===== 21 HedgeWants.Rule.begin ===== -/
theorem k_21_0 : cd 21 0 = some (.aload_n 0, 1) := by decide +kernel
theorem k_21_1 : cd 21 1 = some (.iconst 1, 1) := by decide +kernel
theorem k_21_2 : cd 21 2 = some (.putfield 22, 3) := by decide +kernel
theorem k_21_5 : cd 21 5 = some (.return_, 1) := by decide +kernel
theorem po_21 : po 21 = 7 := rfl
theorem M_21 {u : Nat} (hu : isU u)  {σ : pS} {ρ : Nat → Nat → Option Nat} (e : gR σ = ρ) (hL : LayR ρ) : Le
  (some (0, .null, (sI σ u 2 (ι 1))))
  (pcall 21 [.ref u] σ) := by
  show Le _ (den 21 0 0 [.ref u] [] σ)
  exact r_aload_n k_21_0 rfl rfl
    (r_iconst k_21_1 rfl rfl
    (r_putZ k_21_2 rfl po_21 rfl rfl (kdU hu) (by decide)
    (r_retV k_21_5 rfl)))
/-! ===== 22 HedgeWants.Rule.add ===== -/
theorem k_22_0 : cd 22 0 = some (.aload_n 0, 1) := by decide +kernel
theorem k_22_1 : cd 22 1 = some (.getfield 18, 3) := by decide +kernel
theorem k_22_4 : cd 22 4 = some (.ifCond .lt 35, 3) := by decide +kernel
theorem k_22_7 : cd 22 7 = some (.aload_n 0, 1) := by decide +kernel
theorem k_22_8 : cd 22 8 = some (.getfield 18, 3) := by decide +kernel
theorem k_22_11 : cd 22 11 = some (.aload_n 0, 1) := by decide +kernel
theorem k_22_12 : cd 22 12 = some (.getfield 9, 3) := by decide +kernel
theorem k_22_15 : cd 22 15 = some (.arraylength, 1) := by decide +kernel
theorem k_22_16 : cd 22 16 = some (.if_icmp .ge 23, 3) := by decide +kernel
theorem k_22_19 : cd 22 19 = some (.aload_n 0, 1) := by decide +kernel
theorem k_22_20 : cd 22 20 = some (.getfield 9, 3) := by decide +kernel
theorem k_22_23 : cd 22 23 = some (.aload_n 0, 1) := by decide +kernel
theorem k_22_24 : cd 22 24 = some (.getfield 18, 3) := by decide +kernel
theorem k_22_27 : cd 22 27 = some (.iload_n 1, 1) := by decide +kernel
theorem k_22_28 : cd 22 28 = some (.iastore, 1) := by decide +kernel
theorem k_22_29 : cd 22 29 = some (.aload_n 0, 1) := by decide +kernel
theorem k_22_30 : cd 22 30 = some (.dup, 1) := by decide +kernel
theorem k_22_31 : cd 22 31 = some (.getfield 18, 3) := by decide +kernel
theorem k_22_34 : cd 22 34 = some (.iconst 1, 1) := by decide +kernel
theorem k_22_35 : cd 22 35 = some (.iadd, 1) := by decide +kernel
theorem k_22_36 : cd 22 36 = some (.putfield 18, 3) := by decide +kernel
theorem k_22_39 : cd 22 39 = some (.return_, 1) := by decide +kernel
theorem po_22 : po 22 = 7 := rfl
theorem M_22 {u : Nat} (hu : isU u) {x0 : Int32} {σ : pS} {ρ : Nat → Nat → Option Nat} (e : gR σ = ρ) (hL : LayR ρ) : Le
  (if (gI σ u 1) < (ι 0) then some (0, .null, σ) else if (ι 700) ≤ (gI σ u 1) then some (0, .null, σ) else gd (inb (gI σ u 1) 700) (some (0, .null, (sI (sI σ (u + 1) (ix (gI σ u 1)) x0) u 1 ((gI (sI σ (u + 1) (ix (gI σ u 1)) x0) u 1) + (ι 1))))))
  (pcall 22 [.ref u, .int x0] σ) := by
  show Le _ (den 22 0 0 [.ref u, .int x0] [] σ)
  exact r_aload_n k_22_0 rfl rfl
    (r_getI k_22_1 rfl po_22 rfl rfl rfl (kdU hu)
    (r_if (tgt := 39) k_22_4 rfl rfl cop_lt
    (r_retV k_22_39 rfl)
    (r_aload_n k_22_7 rfl rfl
    (r_getI k_22_8 rfl po_22 rfl rfl rfl (kdU hu)
    (r_aload_n k_22_11 rfl rfl
    (r_getR k_22_12 rfl po_22 rfl rfl rfl (kdU hu) (gRat e (lyU_0 hL hu))
    (r_alenI k_22_15 rfl (kdU_1 hu) rfl
    (r_icmp (tgt := 39) k_22_16 rfl rfl cop_ge
    (r_retV k_22_39 rfl)
    (r_aload_n k_22_19 rfl rfl
    (r_getR k_22_20 rfl po_22 rfl rfl rfl (kdU hu) (gRat e (lyU_0 hL hu))
    (r_aload_n k_22_23 rfl rfl
    (r_getI k_22_24 rfl po_22 rfl rfl rfl (kdU hu)
    (r_iload_n k_22_27 rfl rfl
    (r_gd fun g => r_iast k_22_28 rfl (kdU_1 hu) g
    (r_aload_n k_22_29 rfl rfl
    (r_dup k_22_30 rfl rfl
    (r_getI k_22_31 rfl po_22 rfl rfl rfl (kdU hu)
    (r_iconst k_22_34 rfl rfl
    (r_iadd k_22_35 rfl
    (r_putI k_22_36 rfl po_22 rfl rfl (kdU hu)
    (r_retV k_22_39 rfl)))))))))))))))))))))
/-! ===== 23 HedgeWants.Rule.addFact ===== -/
theorem k_23_0 : cd 23 0 = some (.aload_n 0, 1) := by decide +kernel
theorem k_23_1 : cd 23 1 = some (.iconst (-1), 1) := by decide +kernel
theorem k_23_2 : cd 23 2 = some (.iload_n 1, 1) := by decide +kernel
theorem k_23_3 : cd 23 3 = some (.isub, 1) := by decide +kernel
theorem k_23_4 : cd 23 4 = some (.invokevirtual 33, 3) := by decide +kernel
theorem k_23_7 : cd 23 7 = some (.aload_n 0, 1) := by decide +kernel
theorem k_23_8 : cd 23 8 = some (.dup, 1) := by decide +kernel
theorem k_23_9 : cd 23 9 = some (.getfield 26, 3) := by decide +kernel
theorem k_23_12 : cd 23 12 = some (.iconst 1, 1) := by decide +kernel
theorem k_23_13 : cd 23 13 = some (.iload_n 1, 1) := by decide +kernel
theorem k_23_14 : cd 23 14 = some (.ishl, 1) := by decide +kernel
theorem k_23_15 : cd 23 15 = some (.ior, 1) := by decide +kernel
theorem k_23_16 : cd 23 16 = some (.putfield 26, 3) := by decide +kernel
theorem k_23_19 : cd 23 19 = some (.return_, 1) := by decide +kernel
theorem po_23 : po 23 = 7 := rfl
theorem M_23 {u : Nat} (hu : isU u) {x0 : Int32} {σ : pS} {ρ : Nat → Nat → Option Nat} (e : gR σ = ρ) (hL : LayR ρ) : Le
  (bV (pcall 22 [.ref u, .int ((ν 1) - x0)] σ) fun σ1 => some (0, .null, (sI σ1 u 3 ((gI σ1 u 3) ||| (shl' (ι 1) x0)))))
  (pcall 23 [.ref u, .int x0] σ) := by
  show Le _ (den 23 0 0 [.ref u, .int x0] [] σ)
  exact r_aload_n k_23_0 rfl rfl
    (r_iconst k_23_1 rfl rfl
    (r_iload_n k_23_2 rfl rfl
    (r_isub k_23_3 rfl
    (r_callV (q_virt (rest := []) (as := [.int ((ν 1) - x0)]) k_23_4 po_23 rfl rfl rfl (rcvO rfl rfl (kdU hu)) rfl rfl) (lvq (j := 0) rfl (by decide +kernel)) rfl rfl (fun _ σ1 h1 => r_aload_n k_23_7 rfl rfl
    (r_dup k_23_8 rfl rfl
    (r_getI k_23_9 rfl po_23 rfl rfl rfl (kdU hu)
    (r_iconst k_23_12 rfl rfl
    (r_iload_n k_23_13 rfl rfl
    (r_ishl k_23_14 rfl
    (r_ior k_23_15 rfl
    (r_putI k_23_16 rfl po_23 rfl rfl (kdU hu)
    (r_retV k_23_19 rfl)))))))))))))
/-! ===== 25 HedgeWants.Province.wants ===== -/
theorem k_25_0 : cd 25 0 = some (.aload_n 0, 1) := by decide +kernel
theorem k_25_1 : cd 25 1 = some (.getfield 27, 3) := by decide +kernel
theorem k_25_4 : cd 25 4 = some (.areturn, 1) := by decide +kernel
theorem po_25 : po 25 = 5 := rfl
theorem M_25 {p : Nat} (hp : isP p)  {σ : pS} {ρ : Nat → Nat → Option Nat} (e : gR σ = ρ) (hL : LayR ρ) : Le
  (some (1, .ref (p + 5), σ))
  (pcall 25 [.ref p] σ) := by
  show Le _ (den 25 0 0 [.ref p] [] σ)
  exact r_aload_n k_25_0 rfl rfl
    (r_getR k_25_1 rfl po_25 rfl rfl rfl (kdP hp) (gRat e (lyP_8 hL hp))
    (r_retA k_25_4 rfl))
/-! ===== 26 HedgeWants.Province.namesDay ===== -/
theorem k_26_0 : cd 26 0 = some (.aload_n 0, 1) := by decide +kernel
theorem k_26_1 : cd 26 1 = some (.getfield 27, 3) := by decide +kernel
theorem k_26_4 : cd 26 4 = some (.iconst 1, 1) := by decide +kernel
theorem k_26_5 : cd 26 5 = some (.invokevirtual 57, 3) := by decide +kernel
theorem k_26_8 : cd 26 8 = some (.ifCond .ne 14, 3) := by decide +kernel
theorem k_26_11 : cd 26 11 = some (.aload_n 0, 1) := by decide +kernel
theorem k_26_12 : cd 26 12 = some (.getfield 31, 3) := by decide +kernel
theorem k_26_15 : cd 26 15 = some (.iconst 1, 1) := by decide +kernel
theorem k_26_16 : cd 26 16 = some (.invokevirtual 57, 3) := by decide +kernel
theorem k_26_19 : cd 26 19 = some (.ifCond .eq 7, 3) := by decide +kernel
theorem k_26_22 : cd 26 22 = some (.iconst 1, 1) := by decide +kernel
theorem k_26_23 : cd 26 23 = some (.goto 4, 3) := by decide +kernel
theorem k_26_26 : cd 26 26 = some (.iconst 0, 1) := by decide +kernel
theorem k_26_27 : cd 26 27 = some (.ireturn, 1) := by decide +kernel
theorem po_26 : po 26 = 5 := rfl
theorem M_26 {p : Nat} (hp : isP p)  {σ : pS} {ρ : Nat → Nat → Option Nat} (e : gR σ = ρ) (hL : LayR ρ) : Le
  (bI (pcall 16 [.ref (p + 5), .int (ι 1)] σ) fun r1 σ1 => if ¬ r1 = (ι 0) then some (1, .int (ι 1), σ1) else bI (pcall 16 [.ref (p + 8), .int (ι 1)] σ1) fun r2 σ2 => if r2 = (ι 0) then some (1, .int (ι 0), σ2) else some (1, .int (ι 1), σ2))
  (pcall 26 [.ref p] σ) := by
  show Le _ (den 26 0 0 [.ref p] [] σ)
  exact r_aload_n k_26_0 rfl rfl
    (r_getR k_26_1 rfl po_26 rfl rfl rfl (kdP hp) (gRat e (lyP_8 hL hp))
    (r_iconst k_26_4 rfl rfl
    (r_callI (q_virt (rest := []) (as := [.int (ι 1)]) k_26_5 po_26 rfl rfl rfl (rcvO rfl rfl (kdU (isU_p5 hp))) rfl rfl) (lvq (j := 0) rfl (by decide +kernel)) rfl rfl (fun r1 σ1 h1 => r_if (tgt := 22) k_26_8 rfl rfl cop_ne
    (r_iconst k_26_22 rfl rfl
    (r_goto (tgt := 27) k_26_23 rfl (r_ret k_26_27 rfl rfl)))
    (r_aload_n k_26_11 rfl rfl
    (r_getR k_26_12 rfl po_26 rfl rfl rfl (kdP hp) (gRat (eC rfl h1 e) (lyP_9 hL hp))
    (r_iconst k_26_15 rfl rfl
    (r_callI (q_virt (rest := []) (as := [.int (ι 1)]) k_26_16 po_26 rfl rfl rfl (rcvO rfl rfl (kdU (isU_p8 hp))) rfl rfl) (lvq (j := 0) rfl (by decide +kernel)) rfl rfl (fun r2 σ2 h2 => r_if (tgt := 26) k_26_19 rfl rfl cop_eq
    (r_iconst k_26_26 rfl rfl
    (r_ret k_26_27 rfl rfl))
    (r_iconst k_26_22 rfl rfl
    (r_goto (tgt := 27) k_26_23 rfl (r_ret k_26_27 rfl rfl))))))))))))
/-! ===== 27 HedgeWants.Province.boldOf ===== -/
theorem k_27_0 : cd 27 0 = some (.iload_n 1, 1) := by decide +kernel
theorem k_27_1 : cd 27 1 = some (.ifCond .lt 21, 3) := by decide +kernel
theorem k_27_4 : cd 27 4 = some (.iload_n 1, 1) := by decide +kernel
theorem k_27_5 : cd 27 5 = some (.aload_n 0, 1) := by decide +kernel
theorem k_27_6 : cd 27 6 = some (.getfield 9, 3) := by decide +kernel
theorem k_27_9 : cd 27 9 = some (.arraylength, 1) := by decide +kernel
theorem k_27_10 : cd 27 10 = some (.if_icmp .ge 12, 3) := by decide +kernel
theorem k_27_13 : cd 27 13 = some (.aload_n 0, 1) := by decide +kernel
theorem k_27_14 : cd 27 14 = some (.getfield 9, 3) := by decide +kernel
theorem k_27_17 : cd 27 17 = some (.iload_n 1, 1) := by decide +kernel
theorem k_27_18 : cd 27 18 = some (.iaload, 1) := by decide +kernel
theorem k_27_19 : cd 27 19 = some (.goto 4, 3) := by decide +kernel
theorem k_27_22 : cd 27 22 = some (.iconst 0, 1) := by decide +kernel
theorem k_27_23 : cd 27 23 = some (.ireturn, 1) := by decide +kernel
theorem po_27 : po 27 = 5 := rfl
theorem M_27 {p : Nat} (hp : isP p) {x0 : Int32} {σ : pS} {ρ : Nat → Nat → Option Nat} (e : gR σ = ρ) (hL : LayR ρ) : Le
  (if x0 < (ι 0) then some (1, .int (ι 0), σ) else if (ι 8) ≤ x0 then some (1, .int (ι 0), σ) else gd (inb x0 8) (some (1, .int (gI σ (p + 1) (ix x0)), σ)))
  (pcall 27 [.ref p, .int x0] σ) := by
  show Le _ (den 27 0 0 [.ref p, .int x0] [] σ)
  exact r_iload_n k_27_0 rfl rfl
    (r_if (tgt := 22) k_27_1 rfl rfl cop_lt
    (r_iconst k_27_22 rfl rfl
    (r_ret k_27_23 rfl rfl))
    (r_iload_n k_27_4 rfl rfl
    (r_aload_n k_27_5 rfl rfl
    (r_getR k_27_6 rfl po_27 rfl rfl rfl (kdP hp) (gRat e (lyP_4 hL hp))
    (r_alenI k_27_9 rfl (kdP_1 hp) rfl
    (r_icmp (tgt := 22) k_27_10 rfl rfl cop_ge
    (r_iconst k_27_22 rfl rfl
    (r_ret k_27_23 rfl rfl))
    (r_aload_n k_27_13 rfl rfl
    (r_getR k_27_14 rfl po_27 rfl rfl rfl (kdP hp) (gRat e (lyP_4 hL hp))
    (r_iload_n k_27_17 rfl rfl
    (r_gd fun g => r_iald k_27_18 rfl (kdP_1 hp) g
    (r_goto (tgt := 23) k_27_19 rfl (r_ret k_27_23 rfl rfl))))))))))))
/-! ===== 28 HedgeWants.Province.runs ===== -/
theorem k_28_0 : cd 28 0 = some (.aload_n 0, 1) := by decide +kernel
theorem k_28_1 : cd 28 1 = some (.getfield 31, 3) := by decide +kernel
theorem k_28_4 : cd 28 4 = some (.areturn, 1) := by decide +kernel
theorem po_28 : po 28 = 5 := rfl
theorem M_28 {p : Nat} (hp : isP p)  {σ : pS} {ρ : Nat → Nat → Option Nat} (e : gR σ = ρ) (hL : LayR ρ) : Le
  (some (1, .ref (p + 8), σ))
  (pcall 28 [.ref p] σ) := by
  show Le _ (den 28 0 0 [.ref p] [] σ)
  exact r_aload_n k_28_0 rfl rfl
    (r_getR k_28_1 rfl po_28 rfl rfl rfl (kdP hp) (gRat e (lyP_9 hL hp))
    (r_retA k_28_4 rfl))
/-! ===== 29 HedgeWants.Province.isFirm ===== -/
theorem k_29_0 : cd 29 0 = some (.aload_n 0, 1) := by decide +kernel
theorem k_29_1 : cd 29 1 = some (.getfield 41, 3) := by decide +kernel
theorem k_29_4 : cd 29 4 = some (.iload_n 1, 1) := by decide +kernel
theorem k_29_5 : cd 29 5 = some (.invokestatic 61, 3) := by decide +kernel
theorem k_29_8 : cd 29 8 = some (.ireturn, 1) := by decide +kernel
theorem po_29 : po 29 = 5 := rfl
theorem M_29 {p : Nat} (hp : isP p) {x0 : Int32} {σ : pS} {ρ : Nat → Nat → Option Nat} (e : gR σ = ρ) (hL : LayR ρ) : Le
  (bI (pcall 168 [.int (gI σ p 2), .int x0] σ) fun r1 σ1 => gd (narrow .boolean (.int r1) = .int r1) (some (1, .int r1, σ1)))
  (pcall 29 [.ref p, .int x0] σ) := by
  show Le _ (den 29 0 0 [.ref p, .int x0] [] σ)
  exact r_aload_n k_29_0 rfl rfl
    (r_getI k_29_1 rfl po_29 rfl rfl rfl (kdP hp)
    (r_iload_n k_29_4 rfl rfl
    (r_callI (q_stat (rest := []) (av := [.int (gI σ p 2), .int x0]) k_29_5 po_29 rfl (by decide) rfl rfl rfl rfl) (lvq (j := 0) rfl (by decide +kernel)) rfl rfl (fun r1 σ1 h1 => r_gd fun g => r_ret k_29_8 rfl g))))
/-! ===== 30 HedgeWants.Province.clear ===== -/
theorem k_30_0 : cd 30 0 = some (.aload_n 0, 1) := by decide +kernel
theorem k_30_1 : cd 30 1 = some (.iconst 0, 1) := by decide +kernel
theorem k_30_2 : cd 30 2 = some (.putfield 34, 3) := by decide +kernel
theorem k_30_5 : cd 30 5 = some (.aload_n 0, 1) := by decide +kernel
theorem k_30_6 : cd 30 6 = some (.iconst 0, 1) := by decide +kernel
theorem k_30_7 : cd 30 7 = some (.putfield 38, 3) := by decide +kernel
theorem k_30_10 : cd 30 10 = some (.aload_n 0, 1) := by decide +kernel
theorem k_30_11 : cd 30 11 = some (.iconst 0, 1) := by decide +kernel
theorem k_30_12 : cd 30 12 = some (.putfield 41, 3) := by decide +kernel
theorem k_30_15 : cd 30 15 = some (.aload_n 0, 1) := by decide +kernel
theorem k_30_16 : cd 30 16 = some (.iconst 0, 1) := by decide +kernel
theorem k_30_17 : cd 30 17 = some (.putfield 44, 3) := by decide +kernel
theorem k_30_20 : cd 30 20 = some (.aload_n 0, 1) := by decide +kernel
theorem k_30_21 : cd 30 21 = some (.getfield 15, 3) := by decide +kernel
theorem k_30_24 : cd 30 24 = some (.iconst 0, 1) := by decide +kernel
theorem k_30_25 : cd 30 25 = some (.invokestatic 48, 3) := by decide +kernel
theorem k_30_28 : cd 30 28 = some (.aload_n 0, 1) := by decide +kernel
theorem k_30_29 : cd 30 29 = some (.getfield 27, 3) := by decide +kernel
theorem k_30_32 : cd 30 32 = some (.invokevirtual 54, 3) := by decide +kernel
theorem k_30_35 : cd 30 35 = some (.aload_n 0, 1) := by decide +kernel
theorem k_30_36 : cd 30 36 = some (.getfield 31, 3) := by decide +kernel
theorem k_30_39 : cd 30 39 = some (.invokevirtual 54, 3) := by decide +kernel
theorem k_30_42 : cd 30 42 = some (.return_, 1) := by decide +kernel
theorem po_30 : po 30 = 5 := rfl
theorem M_30 {p : Nat} (hp : isP p)  {σ : pS} {ρ : Nat → Nat → Option Nat} (e : gR σ = ρ) (hL : LayR ρ) : Le
  (bV (pcall 1 [.ref (p + 2), .int (ι 0)] (sI (sI (sI (sI σ p 0 (ι 0)) p 1 (ι 0)) p 2 (ι 0)) p 3 (ι 0))) fun σ1 => bV (pcall 20 [.ref (p + 5)] σ1) fun σ2 => bV (pcall 20 [.ref (p + 8)] σ2) fun σ3 => some (0, .null, σ3))
  (pcall 30 [.ref p] σ) := by
  show Le _ (den 30 0 0 [.ref p] [] σ)
  exact r_aload_n k_30_0 rfl rfl
    (r_iconst k_30_1 rfl rfl
    (r_putI k_30_2 rfl po_30 rfl rfl (kdP hp)
    (r_aload_n k_30_5 rfl rfl
    (r_iconst k_30_6 rfl rfl
    (r_putI k_30_7 rfl po_30 rfl rfl (kdP hp)
    (r_aload_n k_30_10 rfl rfl
    (r_iconst k_30_11 rfl rfl
    (r_putI k_30_12 rfl po_30 rfl rfl (kdP hp)
    (r_aload_n k_30_15 rfl rfl
    (r_iconst k_30_16 rfl rfl
    (r_putZ k_30_17 rfl po_30 rfl rfl (kdP hp) (by decide)
    (r_aload_n k_30_20 rfl rfl
    (r_getR k_30_21 rfl po_30 rfl rfl rfl (kdP hp) (gRat (eI (eI (eI (eI e)))) (lyP_5 hL hp))
    (r_iconst k_30_24 rfl rfl
    (r_callV (q_stat (rest := []) (av := [.ref (p + 2), .int (ι 0)]) k_30_25 po_30 rfl (by decide) rfl rfl rfl rfl) (lvq (j := 0) rfl (by decide +kernel)) rfl rfl (fun _ σ1 h1 => r_aload_n k_30_28 rfl rfl
    (r_getR k_30_29 rfl po_30 rfl rfl rfl (kdP hp) (gRat (eC rfl h1 (eI (eI (eI (eI e))))) (lyP_8 hL hp))
    (r_callV (q_virt (rest := []) (as := []) k_30_32 po_30 rfl rfl rfl (rcvO rfl rfl (kdU (isU_p5 hp))) rfl rfl) (lvq (j := 0) rfl (by decide +kernel)) rfl rfl (fun _ σ2 h2 => r_aload_n k_30_35 rfl rfl
    (r_getR k_30_36 rfl po_30 rfl rfl rfl (kdP hp) (gRat (eC rfl h2 (eC rfl h1 (eI (eI (eI (eI e)))))) (lyP_9 hL hp))
    (r_callV (q_virt (rest := []) (as := []) k_30_39 po_30 rfl rfl rfl (rcvO rfl rfl (kdU (isU_p8 hp))) rfl rfl) (lvq (j := 0) rfl (by decide +kernel)) rfl rfl (fun _ σ3 h3 => r_retV k_30_42 rfl))))))))))))))))))))))
/-! ===== 31 HedgeWants.Province.people ===== -/
theorem k_31_0 : cd 31 0 = some (.aload_n 0, 1) := by decide +kernel
theorem k_31_1 : cd 31 1 = some (.getfield 34, 3) := by decide +kernel
theorem k_31_4 : cd 31 4 = some (.ireturn, 1) := by decide +kernel
theorem po_31 : po 31 = 5 := rfl
theorem M_31 {p : Nat} (hp : isP p)  {σ : pS} {ρ : Nat → Nat → Option Nat} (e : gR σ = ρ) (hL : LayR ρ) : Le
  (some (1, .int (gI σ p 0), σ))
  (pcall 31 [.ref p] σ) := by
  show Le _ (den 31 0 0 [.ref p] [] σ)
  exact r_aload_n k_31_0 rfl rfl
    (r_getI k_31_1 rfl po_31 rfl rfl rfl (kdP hp)
    (r_ret k_31_4 rfl rfl))
/-! ===== 32 HedgeWants.Province.things ===== -/
theorem k_32_0 : cd 32 0 = some (.aload_n 0, 1) := by decide +kernel
theorem k_32_1 : cd 32 1 = some (.getfield 38, 3) := by decide +kernel
theorem k_32_4 : cd 32 4 = some (.ireturn, 1) := by decide +kernel
theorem po_32 : po 32 = 5 := rfl
theorem M_32 {p : Nat} (hp : isP p)  {σ : pS} {ρ : Nat → Nat → Option Nat} (e : gR σ = ρ) (hL : LayR ρ) : Le
  (some (1, .int (gI σ p 1), σ))
  (pcall 32 [.ref p] σ) := by
  show Le _ (den 32 0 0 [.ref p] [] σ)
  exact r_aload_n k_32_0 rfl rfl
    (r_getI k_32_1 rfl po_32 rfl rfl rfl (kdP hp)
    (r_ret k_32_4 rfl rfl))
/-! ===== 33 HedgeWants.Province.addPerson ===== -/
theorem k_33_0 : cd 33 0 = some (.aload_n 0, 1) := by decide +kernel
theorem k_33_1 : cd 33 1 = some (.getfield 34, 3) := by decide +kernel
theorem k_33_4 : cd 33 4 = some (.ifCond .lt 35, 3) := by decide +kernel
theorem k_33_7 : cd 33 7 = some (.aload_n 0, 1) := by decide +kernel
theorem k_33_8 : cd 33 8 = some (.getfield 34, 3) := by decide +kernel
theorem k_33_11 : cd 33 11 = some (.aload_n 0, 1) := by decide +kernel
theorem k_33_12 : cd 33 12 = some (.getfield 9, 3) := by decide +kernel
theorem k_33_15 : cd 33 15 = some (.arraylength, 1) := by decide +kernel
theorem k_33_16 : cd 33 16 = some (.if_icmp .ge 23, 3) := by decide +kernel
theorem k_33_19 : cd 33 19 = some (.aload_n 0, 1) := by decide +kernel
theorem k_33_20 : cd 33 20 = some (.getfield 9, 3) := by decide +kernel
theorem k_33_23 : cd 33 23 = some (.aload_n 0, 1) := by decide +kernel
theorem k_33_24 : cd 33 24 = some (.getfield 34, 3) := by decide +kernel
theorem k_33_27 : cd 33 27 = some (.iload_n 1, 1) := by decide +kernel
theorem k_33_28 : cd 33 28 = some (.iastore, 1) := by decide +kernel
theorem k_33_29 : cd 33 29 = some (.aload_n 0, 1) := by decide +kernel
theorem k_33_30 : cd 33 30 = some (.dup, 1) := by decide +kernel
theorem k_33_31 : cd 33 31 = some (.getfield 34, 3) := by decide +kernel
theorem k_33_34 : cd 33 34 = some (.iconst 1, 1) := by decide +kernel
theorem k_33_35 : cd 33 35 = some (.iadd, 1) := by decide +kernel
theorem k_33_36 : cd 33 36 = some (.putfield 34, 3) := by decide +kernel
theorem k_33_39 : cd 33 39 = some (.return_, 1) := by decide +kernel
theorem po_33 : po 33 = 5 := rfl
theorem M_33 {p : Nat} (hp : isP p) {x0 : Int32} {σ : pS} {ρ : Nat → Nat → Option Nat} (e : gR σ = ρ) (hL : LayR ρ) : Le
  (if (gI σ p 0) < (ι 0) then some (0, .null, σ) else if (ι 8) ≤ (gI σ p 0) then some (0, .null, σ) else gd (inb (gI σ p 0) 8) (some (0, .null, (sI (sI σ (p + 1) (ix (gI σ p 0)) x0) p 0 ((gI (sI σ (p + 1) (ix (gI σ p 0)) x0) p 0) + (ι 1))))))
  (pcall 33 [.ref p, .int x0] σ) := by
  show Le _ (den 33 0 0 [.ref p, .int x0] [] σ)
  exact r_aload_n k_33_0 rfl rfl
    (r_getI k_33_1 rfl po_33 rfl rfl rfl (kdP hp)
    (r_if (tgt := 39) k_33_4 rfl rfl cop_lt
    (r_retV k_33_39 rfl)
    (r_aload_n k_33_7 rfl rfl
    (r_getI k_33_8 rfl po_33 rfl rfl rfl (kdP hp)
    (r_aload_n k_33_11 rfl rfl
    (r_getR k_33_12 rfl po_33 rfl rfl rfl (kdP hp) (gRat e (lyP_4 hL hp))
    (r_alenI k_33_15 rfl (kdP_1 hp) rfl
    (r_icmp (tgt := 39) k_33_16 rfl rfl cop_ge
    (r_retV k_33_39 rfl)
    (r_aload_n k_33_19 rfl rfl
    (r_getR k_33_20 rfl po_33 rfl rfl rfl (kdP hp) (gRat e (lyP_4 hL hp))
    (r_aload_n k_33_23 rfl rfl
    (r_getI k_33_24 rfl po_33 rfl rfl rfl (kdP hp)
    (r_iload_n k_33_27 rfl rfl
    (r_gd fun g => r_iast k_33_28 rfl (kdP_1 hp) g
    (r_aload_n k_33_29 rfl rfl
    (r_dup k_33_30 rfl rfl
    (r_getI k_33_31 rfl po_33 rfl rfl rfl (kdP hp)
    (r_iconst k_33_34 rfl rfl
    (r_iadd k_33_35 rfl
    (r_putI k_33_36 rfl po_33 rfl rfl (kdP hp)
    (r_retV k_33_39 rfl)))))))))))))))))))))
/-! ===== 34 HedgeWants.Province.isHedge ===== -/
theorem k_34_0 : cd 34 0 = some (.iload_n 1, 1) := by decide +kernel
theorem k_34_1 : cd 34 1 = some (.ifCond .lt 29, 3) := by decide +kernel
theorem k_34_4 : cd 34 4 = some (.iload_n 1, 1) := by decide +kernel
theorem k_34_5 : cd 34 5 = some (.aload_n 0, 1) := by decide +kernel
theorem k_34_6 : cd 34 6 = some (.getfield 15, 3) := by decide +kernel
theorem k_34_9 : cd 34 9 = some (.arraylength, 1) := by decide +kernel
theorem k_34_10 : cd 34 10 = some (.if_icmp .ge 20, 3) := by decide +kernel
theorem k_34_13 : cd 34 13 = some (.aload_n 0, 1) := by decide +kernel
theorem k_34_14 : cd 34 14 = some (.getfield 15, 3) := by decide +kernel
theorem k_34_17 : cd 34 17 = some (.iload_n 1, 1) := by decide +kernel
theorem k_34_18 : cd 34 18 = some (.iaload, 1) := by decide +kernel
theorem k_34_19 : cd 34 19 = some (.iload_n 2, 1) := by decide +kernel
theorem k_34_20 : cd 34 20 = some (.invokestatic 61, 3) := by decide +kernel
theorem k_34_23 : cd 34 23 = some (.ifCond .eq 7, 3) := by decide +kernel
theorem k_34_26 : cd 34 26 = some (.iconst 1, 1) := by decide +kernel
theorem k_34_27 : cd 34 27 = some (.goto 4, 3) := by decide +kernel
theorem k_34_30 : cd 34 30 = some (.iconst 0, 1) := by decide +kernel
theorem k_34_31 : cd 34 31 = some (.ireturn, 1) := by decide +kernel
theorem po_34 : po 34 = 5 := rfl
theorem M_34 {p : Nat} (hp : isP p) {x0 : Int32} {x1 : Int32} {σ : pS} {ρ : Nat → Nat → Option Nat} (e : gR σ = ρ) (hL : LayR ρ) : Le
  (if x0 < (ι 0) then some (1, .int (ι 0), σ) else if (ι 8) ≤ x0 then some (1, .int (ι 0), σ) else gd (inb x0 8) (bI (pcall 168 [.int (gI σ (p + 2) (ix x0)), .int x1] σ) fun r1 σ1 => if r1 = (ι 0) then some (1, .int (ι 0), σ1) else some (1, .int (ι 1), σ1)))
  (pcall 34 [.ref p, .int x0, .int x1] σ) := by
  show Le _ (den 34 0 0 [.ref p, .int x0, .int x1] [] σ)
  exact r_iload_n k_34_0 rfl rfl
    (r_if (tgt := 30) k_34_1 rfl rfl cop_lt
    (r_iconst k_34_30 rfl rfl
    (r_ret k_34_31 rfl rfl))
    (r_iload_n k_34_4 rfl rfl
    (r_aload_n k_34_5 rfl rfl
    (r_getR k_34_6 rfl po_34 rfl rfl rfl (kdP hp) (gRat e (lyP_5 hL hp))
    (r_alenI k_34_9 rfl (kdP_2 hp) rfl
    (r_icmp (tgt := 30) k_34_10 rfl rfl cop_ge
    (r_iconst k_34_30 rfl rfl
    (r_ret k_34_31 rfl rfl))
    (r_aload_n k_34_13 rfl rfl
    (r_getR k_34_14 rfl po_34 rfl rfl rfl (kdP hp) (gRat e (lyP_5 hL hp))
    (r_iload_n k_34_17 rfl rfl
    (r_gd fun g => r_iald k_34_18 rfl (kdP_2 hp) g
    (r_iload_n k_34_19 rfl rfl
    (r_callI (q_stat (rest := []) (av := [.int (gI σ (p + 2) (ix x0)), .int x1]) k_34_20 po_34 rfl (by decide) rfl rfl rfl rfl) (lvq (j := 0) rfl (by decide +kernel)) rfl rfl (fun r1 σ1 h1 => r_if (tgt := 30) k_34_23 rfl rfl cop_eq
    (r_iconst k_34_30 rfl rfl
    (r_ret k_34_31 rfl rfl))
    (r_iconst k_34_26 rfl rfl
    (r_goto (tgt := 31) k_34_27 rfl (r_ret k_34_31 rfl rfl))))))))))))))))
/-! ===== 35 HedgeWants.Province.addThing ===== -/
theorem k_35_0 : cd 35 0 = some (.aload_n 0, 1) := by decide +kernel
theorem k_35_1 : cd 35 1 = some (.getfield 38, 3) := by decide +kernel
theorem k_35_4 : cd 35 4 = some (.ifCond .lt 58, 3) := by decide +kernel
theorem k_35_7 : cd 35 7 = some (.aload_n 0, 1) := by decide +kernel
theorem k_35_8 : cd 35 8 = some (.getfield 38, 3) := by decide +kernel
theorem k_35_11 : cd 35 11 = some (.aload_n 0, 1) := by decide +kernel
theorem k_35_12 : cd 35 12 = some (.getfield 18, 3) := by decide +kernel
theorem k_35_15 : cd 35 15 = some (.arraylength, 1) := by decide +kernel
theorem k_35_16 : cd 35 16 = some (.if_icmp .ge 46, 3) := by decide +kernel
theorem k_35_19 : cd 35 19 = some (.aload_n 0, 1) := by decide +kernel
theorem k_35_20 : cd 35 20 = some (.getfield 18, 3) := by decide +kernel
theorem k_35_23 : cd 35 23 = some (.aload_n 0, 1) := by decide +kernel
theorem k_35_24 : cd 35 24 = some (.getfield 38, 3) := by decide +kernel
theorem k_35_27 : cd 35 27 = some (.iload_n 1, 1) := by decide +kernel
theorem k_35_28 : cd 35 28 = some (.iastore, 1) := by decide +kernel
theorem k_35_29 : cd 35 29 = some (.aload_n 0, 1) := by decide +kernel
theorem k_35_30 : cd 35 30 = some (.dup, 1) := by decide +kernel
theorem k_35_31 : cd 35 31 = some (.getfield 41, 3) := by decide +kernel
theorem k_35_34 : cd 35 34 = some (.iload_n 2, 1) := by decide +kernel
theorem k_35_35 : cd 35 35 = some (.ifCond .eq 12, 3) := by decide +kernel
theorem k_35_38 : cd 35 38 = some (.iconst 1, 1) := by decide +kernel
theorem k_35_39 : cd 35 39 = some (.aload_n 0, 1) := by decide +kernel
theorem k_35_40 : cd 35 40 = some (.getfield 38, 3) := by decide +kernel
theorem k_35_43 : cd 35 43 = some (.ishl, 1) := by decide +kernel
theorem k_35_44 : cd 35 44 = some (.goto 4, 3) := by decide +kernel
theorem k_35_47 : cd 35 47 = some (.iconst 0, 1) := by decide +kernel
theorem k_35_48 : cd 35 48 = some (.ior, 1) := by decide +kernel
theorem k_35_49 : cd 35 49 = some (.putfield 41, 3) := by decide +kernel
theorem k_35_52 : cd 35 52 = some (.aload_n 0, 1) := by decide +kernel
theorem k_35_53 : cd 35 53 = some (.dup, 1) := by decide +kernel
theorem k_35_54 : cd 35 54 = some (.getfield 38, 3) := by decide +kernel
theorem k_35_57 : cd 35 57 = some (.iconst 1, 1) := by decide +kernel
theorem k_35_58 : cd 35 58 = some (.iadd, 1) := by decide +kernel
theorem k_35_59 : cd 35 59 = some (.putfield 38, 3) := by decide +kernel
theorem k_35_62 : cd 35 62 = some (.return_, 1) := by decide +kernel
theorem po_35 : po 35 = 5 := rfl
theorem M_35 {p : Nat} (hp : isP p) {x0 : Int32} {x1 : Int32} {σ : pS} {ρ : Nat → Nat → Option Nat} (e : gR σ = ρ) (hL : LayR ρ) : Le
  (if (gI σ p 1) < (ι 0) then some (0, .null, σ) else if (ι 12) ≤ (gI σ p 1) then some (0, .null, σ) else gd (inb (gI σ p 1) 12) (if x1 = (ι 0) then some (0, .null, (sI (sI (sI σ (p + 3) (ix (gI σ p 1)) x0) p 2 ((gI (sI σ (p + 3) (ix (gI σ p 1)) x0) p 2) ||| (ι 0))) p 1 ((gI (sI (sI σ (p + 3) (ix (gI σ p 1)) x0) p 2 ((gI (sI σ (p + 3) (ix (gI σ p 1)) x0) p 2) ||| (ι 0))) p 1) + (ι 1)))) else some (0, .null, (sI (sI (sI σ (p + 3) (ix (gI σ p 1)) x0) p 2 ((gI (sI σ (p + 3) (ix (gI σ p 1)) x0) p 2) ||| (shl' (ι 1) (gI (sI σ (p + 3) (ix (gI σ p 1)) x0) p 1)))) p 1 ((gI (sI (sI σ (p + 3) (ix (gI σ p 1)) x0) p 2 ((gI (sI σ (p + 3) (ix (gI σ p 1)) x0) p 2) ||| (shl' (ι 1) (gI (sI σ (p + 3) (ix (gI σ p 1)) x0) p 1)))) p 1) + (ι 1))))))
  (pcall 35 [.ref p, .int x0, .int x1] σ) := by
  show Le _ (den 35 0 0 [.ref p, .int x0, .int x1] [] σ)
  exact r_aload_n k_35_0 rfl rfl
    (r_getI k_35_1 rfl po_35 rfl rfl rfl (kdP hp)
    (r_if (tgt := 62) k_35_4 rfl rfl cop_lt
    (r_retV k_35_62 rfl)
    (r_aload_n k_35_7 rfl rfl
    (r_getI k_35_8 rfl po_35 rfl rfl rfl (kdP hp)
    (r_aload_n k_35_11 rfl rfl
    (r_getR k_35_12 rfl po_35 rfl rfl rfl (kdP hp) (gRat e (lyP_6 hL hp))
    (r_alenI k_35_15 rfl (kdP_3 hp) rfl
    (r_icmp (tgt := 62) k_35_16 rfl rfl cop_ge
    (r_retV k_35_62 rfl)
    (r_aload_n k_35_19 rfl rfl
    (r_getR k_35_20 rfl po_35 rfl rfl rfl (kdP hp) (gRat e (lyP_6 hL hp))
    (r_aload_n k_35_23 rfl rfl
    (r_getI k_35_24 rfl po_35 rfl rfl rfl (kdP hp)
    (r_iload_n k_35_27 rfl rfl
    (r_gd fun g => r_iast k_35_28 rfl (kdP_3 hp) g
    (r_aload_n k_35_29 rfl rfl
    (r_dup k_35_30 rfl rfl
    (r_getI k_35_31 rfl po_35 rfl rfl rfl (kdP hp)
    (r_iload_n k_35_34 rfl rfl
    (r_if (tgt := 47) k_35_35 rfl rfl cop_eq
    (r_iconst k_35_47 rfl rfl
    (r_ior k_35_48 rfl
    (r_putI k_35_49 rfl po_35 rfl rfl (kdP hp)
    (r_aload_n k_35_52 rfl rfl
    (r_dup k_35_53 rfl rfl
    (r_getI k_35_54 rfl po_35 rfl rfl rfl (kdP hp)
    (r_iconst k_35_57 rfl rfl
    (r_iadd k_35_58 rfl
    (r_putI k_35_59 rfl po_35 rfl rfl (kdP hp)
    (r_retV k_35_62 rfl))))))))))
    (r_iconst k_35_38 rfl rfl
    (r_aload_n k_35_39 rfl rfl
    (r_getI k_35_40 rfl po_35 rfl rfl rfl (kdP hp)
    (r_ishl k_35_43 rfl
    (r_goto (tgt := 48) k_35_44 rfl (r_ior k_35_48 rfl
    (r_putI k_35_49 rfl po_35 rfl rfl (kdP hp)
    (r_aload_n k_35_52 rfl rfl
    (r_dup k_35_53 rfl rfl
    (r_getI k_35_54 rfl po_35 rfl rfl rfl (kdP hp)
    (r_iconst k_35_57 rfl rfl
    (r_iadd k_35_58 rfl
    (r_putI k_35_59 rfl po_35 rfl rfl (kdP hp)
    (r_retV k_35_62 rfl)))))))))))))))))))))))))))))))))
/-! ===== 36 HedgeWants.Province.addWorth ===== -/
theorem k_36_0 : cd 36 0 = some (.iload_n 1, 1) := by decide +kernel
theorem k_36_1 : cd 36 1 = some (.bipush 12, 2) := by decide +kernel
theorem k_36_3 : cd 36 3 = some (.imul, 1) := by decide +kernel
theorem k_36_4 : cd 36 4 = some (.aload_n 0, 1) := by decide +kernel
theorem k_36_5 : cd 36 5 = some (.getfield 38, 3) := by decide +kernel
theorem k_36_8 : cd 36 8 = some (.iadd, 1) := by decide +kernel
theorem k_36_9 : cd 36 9 = some (.iconst 1, 1) := by decide +kernel
theorem k_36_10 : cd 36 10 = some (.isub, 1) := by decide +kernel
theorem k_36_11 : cd 36 11 = some (.istore_n 3, 1) := by decide +kernel
theorem k_36_12 : cd 36 12 = some (.iload_n 3, 1) := by decide +kernel
theorem k_36_13 : cd 36 13 = some (.ifCond .lt 19, 3) := by decide +kernel
theorem k_36_16 : cd 36 16 = some (.iload_n 3, 1) := by decide +kernel
theorem k_36_17 : cd 36 17 = some (.aload_n 0, 1) := by decide +kernel
theorem k_36_18 : cd 36 18 = some (.getfield 21, 3) := by decide +kernel
theorem k_36_21 : cd 36 21 = some (.arraylength, 1) := by decide +kernel
theorem k_36_22 : cd 36 22 = some (.if_icmp .ge 10, 3) := by decide +kernel
theorem k_36_25 : cd 36 25 = some (.aload_n 0, 1) := by decide +kernel
theorem k_36_26 : cd 36 26 = some (.getfield 21, 3) := by decide +kernel
theorem k_36_29 : cd 36 29 = some (.iload_n 3, 1) := by decide +kernel
theorem k_36_30 : cd 36 30 = some (.iload_n 2, 1) := by decide +kernel
theorem k_36_31 : cd 36 31 = some (.iastore, 1) := by decide +kernel
theorem k_36_32 : cd 36 32 = some (.return_, 1) := by decide +kernel
theorem po_36 : po 36 = 5 := rfl
theorem M_36 {p : Nat} (hp : isP p) {x0 : Int32} {x1 : Int32} {σ : pS} {ρ : Nat → Nat → Option Nat} (e : gR σ = ρ) (hL : LayR ρ) : Le
  (if (((x0 * (ι 12)) + (gI σ p 1)) - (ι 1)) < (ι 0) then some (0, .null, σ) else if (ι 96) ≤ (((x0 * (ι 12)) + (gI σ p 1)) - (ι 1)) then some (0, .null, σ) else gd (inb (((x0 * (ι 12)) + (gI σ p 1)) - (ι 1)) 96) (some (0, .null, (sI σ (p + 4) (ix (((x0 * (ι 12)) + (gI σ p 1)) - (ι 1))) x1))))
  (pcall 36 [.ref p, .int x0, .int x1] σ) := by
  show Le _ (den 36 0 0 [.ref p, .int x0, .int x1, .retAddr 0] [] σ)
  exact r_iload_n k_36_0 rfl rfl
    (r_bipush k_36_1 rfl rfl
    (r_imul k_36_3 rfl
    (r_aload_n k_36_4 rfl rfl
    (r_getI k_36_5 rfl po_36 rfl rfl rfl (kdP hp)
    (r_iadd k_36_8 rfl
    (r_iconst k_36_9 rfl rfl
    (r_isub k_36_10 rfl
    (r_istore_n k_36_11 rfl rfl rfl
    (r_iload_n k_36_12 rfl rfl
    (r_if (tgt := 32) k_36_13 rfl rfl cop_lt
    (r_retV k_36_32 rfl)
    (r_iload_n k_36_16 rfl rfl
    (r_aload_n k_36_17 rfl rfl
    (r_getR k_36_18 rfl po_36 rfl rfl rfl (kdP hp) (gRat e (lyP_7 hL hp))
    (r_alenI k_36_21 rfl (kdP_4 hp) rfl
    (r_icmp (tgt := 32) k_36_22 rfl rfl cop_ge
    (r_retV k_36_32 rfl)
    (r_aload_n k_36_25 rfl rfl
    (r_getR k_36_26 rfl po_36 rfl rfl rfl (kdP hp) (gRat e (lyP_7 hL hp))
    (r_iload_n k_36_29 rfl rfl
    (r_iload_n k_36_30 rfl rfl
    (r_gd fun g => r_iast k_36_31 rfl (kdP_4 hp) g
    (r_retV k_36_32 rfl)))))))))))))))))))))
/-! ===== 37 HedgeWants.Province.addHedge ===== -/
theorem k_37_0 : cd 37 0 = some (.iload_n 1, 1) := by decide +kernel
theorem k_37_1 : cd 37 1 = some (.ifCond .lt 54, 3) := by decide +kernel
theorem k_37_4 : cd 37 4 = some (.iload_n 1, 1) := by decide +kernel
theorem k_37_5 : cd 37 5 = some (.aload_n 0, 1) := by decide +kernel
theorem k_37_6 : cd 37 6 = some (.getfield 15, 3) := by decide +kernel
theorem k_37_9 : cd 37 9 = some (.arraylength, 1) := by decide +kernel
theorem k_37_10 : cd 37 10 = some (.if_icmp .ge 45, 3) := by decide +kernel
theorem k_37_13 : cd 37 13 = some (.iload_n 2, 1) := by decide +kernel
theorem k_37_14 : cd 37 14 = some (.ifCond .lt 41, 3) := by decide +kernel
theorem k_37_17 : cd 37 17 = some (.iload_n 2, 1) := by decide +kernel
theorem k_37_18 : cd 37 18 = some (.aload_n 0, 1) := by decide +kernel
theorem k_37_19 : cd 37 19 = some (.getfield 15, 3) := by decide +kernel
theorem k_37_22 : cd 37 22 = some (.arraylength, 1) := by decide +kernel
theorem k_37_23 : cd 37 23 = some (.if_icmp .ge 32, 3) := by decide +kernel
theorem k_37_26 : cd 37 26 = some (.aload_n 0, 1) := by decide +kernel
theorem k_37_27 : cd 37 27 = some (.getfield 15, 3) := by decide +kernel
theorem k_37_30 : cd 37 30 = some (.iload_n 1, 1) := by decide +kernel
theorem k_37_31 : cd 37 31 = some (.dup2, 1) := by decide +kernel
theorem k_37_32 : cd 37 32 = some (.iaload, 1) := by decide +kernel
theorem k_37_33 : cd 37 33 = some (.iconst 1, 1) := by decide +kernel
theorem k_37_34 : cd 37 34 = some (.iload_n 2, 1) := by decide +kernel
theorem k_37_35 : cd 37 35 = some (.ishl, 1) := by decide +kernel
theorem k_37_36 : cd 37 36 = some (.ior, 1) := by decide +kernel
theorem k_37_37 : cd 37 37 = some (.iastore, 1) := by decide +kernel
theorem k_37_38 : cd 37 38 = some (.aload_n 0, 1) := by decide +kernel
theorem k_37_39 : cd 37 39 = some (.getfield 15, 3) := by decide +kernel
theorem k_37_42 : cd 37 42 = some (.iload_n 2, 1) := by decide +kernel
theorem k_37_43 : cd 37 43 = some (.dup2, 1) := by decide +kernel
theorem k_37_44 : cd 37 44 = some (.iaload, 1) := by decide +kernel
theorem k_37_45 : cd 37 45 = some (.iconst 1, 1) := by decide +kernel
theorem k_37_46 : cd 37 46 = some (.iload_n 1, 1) := by decide +kernel
theorem k_37_47 : cd 37 47 = some (.ishl, 1) := by decide +kernel
theorem k_37_48 : cd 37 48 = some (.ior, 1) := by decide +kernel
theorem k_37_49 : cd 37 49 = some (.iastore, 1) := by decide +kernel
theorem k_37_50 : cd 37 50 = some (.aload_n 0, 1) := by decide +kernel
theorem k_37_51 : cd 37 51 = some (.iconst 1, 1) := by decide +kernel
theorem k_37_52 : cd 37 52 = some (.putfield 44, 3) := by decide +kernel
theorem k_37_55 : cd 37 55 = some (.return_, 1) := by decide +kernel
theorem po_37 : po 37 = 5 := rfl
theorem M_37 {p : Nat} (hp : isP p) {x0 : Int32} {x1 : Int32} {σ : pS} {ρ : Nat → Nat → Option Nat} (e : gR σ = ρ) (hL : LayR ρ) : Le
  (if x0 < (ι 0) then some (0, .null, σ) else if (ι 8) ≤ x0 then some (0, .null, σ) else if x1 < (ι 0) then some (0, .null, σ) else if (ι 8) ≤ x1 then some (0, .null, σ) else gd (inb x0 8) (gd (inb x0 8) (gd (inb x1 8) (gd (inb x1 8) (some (0, .null, (sI (sI (sI σ (p + 2) (ix x0) ((gI σ (p + 2) (ix x0)) ||| (shl' (ι 1) x1))) (p + 2) (ix x1) ((gI (sI σ (p + 2) (ix x0) ((gI σ (p + 2) (ix x0)) ||| (shl' (ι 1) x1))) (p + 2) (ix x1)) ||| (shl' (ι 1) x0))) p 3 (ι 1))))))))
  (pcall 37 [.ref p, .int x0, .int x1] σ) := by
  show Le _ (den 37 0 0 [.ref p, .int x0, .int x1] [] σ)
  exact r_iload_n k_37_0 rfl rfl
    (r_if (tgt := 55) k_37_1 rfl rfl cop_lt
    (r_retV k_37_55 rfl)
    (r_iload_n k_37_4 rfl rfl
    (r_aload_n k_37_5 rfl rfl
    (r_getR k_37_6 rfl po_37 rfl rfl rfl (kdP hp) (gRat e (lyP_5 hL hp))
    (r_alenI k_37_9 rfl (kdP_2 hp) rfl
    (r_icmp (tgt := 55) k_37_10 rfl rfl cop_ge
    (r_retV k_37_55 rfl)
    (r_iload_n k_37_13 rfl rfl
    (r_if (tgt := 55) k_37_14 rfl rfl cop_lt
    (r_retV k_37_55 rfl)
    (r_iload_n k_37_17 rfl rfl
    (r_aload_n k_37_18 rfl rfl
    (r_getR k_37_19 rfl po_37 rfl rfl rfl (kdP hp) (gRat e (lyP_5 hL hp))
    (r_alenI k_37_22 rfl (kdP_2 hp) rfl
    (r_icmp (tgt := 55) k_37_23 rfl rfl cop_ge
    (r_retV k_37_55 rfl)
    (r_aload_n k_37_26 rfl rfl
    (r_getR k_37_27 rfl po_37 rfl rfl rfl (kdP hp) (gRat e (lyP_5 hL hp))
    (r_iload_n k_37_30 rfl rfl
    (r_dup2 k_37_31 rfl rfl rfl
    (r_gd fun g => r_iald k_37_32 rfl (kdP_2 hp) g
    (r_iconst k_37_33 rfl rfl
    (r_iload_n k_37_34 rfl rfl
    (r_ishl k_37_35 rfl
    (r_ior k_37_36 rfl
    (r_gd fun g => r_iast k_37_37 rfl (kdP_2 hp) g
    (r_aload_n k_37_38 rfl rfl
    (r_getR k_37_39 rfl po_37 rfl rfl rfl (kdP hp) (gRat (eI e) (lyP_5 hL hp))
    (r_iload_n k_37_42 rfl rfl
    (r_dup2 k_37_43 rfl rfl rfl
    (r_gd fun g => r_iald k_37_44 rfl (kdP_2 hp) g
    (r_iconst k_37_45 rfl rfl
    (r_iload_n k_37_46 rfl rfl
    (r_ishl k_37_47 rfl
    (r_ior k_37_48 rfl
    (r_gd fun g => r_iast k_37_49 rfl (kdP_2 hp) g
    (r_aload_n k_37_50 rfl rfl
    (r_iconst k_37_51 rfl rfl
    (r_putZ k_37_52 rfl po_37 rfl rfl (kdP hp) (by decide)
    (r_retV k_37_55 rfl)))))))))))))))))))))))))))))))))))))
/-! ===== 38 HedgeWants.Province.firstOwnerOf ===== -/
theorem k_38_0 : cd 38 0 = some (.iload_n 1, 1) := by decide +kernel
theorem k_38_1 : cd 38 1 = some (.ifCond .lt 21, 3) := by decide +kernel
theorem k_38_4 : cd 38 4 = some (.iload_n 1, 1) := by decide +kernel
theorem k_38_5 : cd 38 5 = some (.aload_n 0, 1) := by decide +kernel
theorem k_38_6 : cd 38 6 = some (.getfield 18, 3) := by decide +kernel
theorem k_38_9 : cd 38 9 = some (.arraylength, 1) := by decide +kernel
theorem k_38_10 : cd 38 10 = some (.if_icmp .ge 12, 3) := by decide +kernel
theorem k_38_13 : cd 38 13 = some (.aload_n 0, 1) := by decide +kernel
theorem k_38_14 : cd 38 14 = some (.getfield 18, 3) := by decide +kernel
theorem k_38_17 : cd 38 17 = some (.iload_n 1, 1) := by decide +kernel
theorem k_38_18 : cd 38 18 = some (.iaload, 1) := by decide +kernel
theorem k_38_19 : cd 38 19 = some (.goto 4, 3) := by decide +kernel
theorem k_38_22 : cd 38 22 = some (.iconst (-1), 1) := by decide +kernel
theorem k_38_23 : cd 38 23 = some (.ireturn, 1) := by decide +kernel
theorem po_38 : po 38 = 5 := rfl
theorem M_38 {p : Nat} (hp : isP p) {x0 : Int32} {σ : pS} {ρ : Nat → Nat → Option Nat} (e : gR σ = ρ) (hL : LayR ρ) : Le
  (if x0 < (ι 0) then some (1, .int (ν 1), σ) else if (ι 12) ≤ x0 then some (1, .int (ν 1), σ) else gd (inb x0 12) (some (1, .int (gI σ (p + 3) (ix x0)), σ)))
  (pcall 38 [.ref p, .int x0] σ) := by
  show Le _ (den 38 0 0 [.ref p, .int x0] [] σ)
  exact r_iload_n k_38_0 rfl rfl
    (r_if (tgt := 22) k_38_1 rfl rfl cop_lt
    (r_iconst k_38_22 rfl rfl
    (r_ret k_38_23 rfl rfl))
    (r_iload_n k_38_4 rfl rfl
    (r_aload_n k_38_5 rfl rfl
    (r_getR k_38_6 rfl po_38 rfl rfl rfl (kdP hp) (gRat e (lyP_6 hL hp))
    (r_alenI k_38_9 rfl (kdP_3 hp) rfl
    (r_icmp (tgt := 22) k_38_10 rfl rfl cop_ge
    (r_iconst k_38_22 rfl rfl
    (r_ret k_38_23 rfl rfl))
    (r_aload_n k_38_13 rfl rfl
    (r_getR k_38_14 rfl po_38 rfl rfl rfl (kdP hp) (gRat e (lyP_6 hL hp))
    (r_iload_n k_38_17 rfl rfl
    (r_gd fun g => r_iald k_38_18 rfl (kdP_3 hp) g
    (r_goto (tgt := 23) k_38_19 rfl (r_ret k_38_23 rfl rfl))))))))))))
/-! ===== 39 HedgeWants.Province.firstSightOf ===== -/
theorem k_39_0 : cd 39 0 = some (.iload_n 1, 1) := by decide +kernel
theorem k_39_1 : cd 39 1 = some (.ifCond .lt 20, 3) := by decide +kernel
theorem k_39_4 : cd 39 4 = some (.iload_n 1, 1) := by decide +kernel
theorem k_39_5 : cd 39 5 = some (.aload_n 0, 1) := by decide +kernel
theorem k_39_6 : cd 39 6 = some (.getfield 34, 3) := by decide +kernel
theorem k_39_9 : cd 39 9 = some (.if_icmp .ge 12, 3) := by decide +kernel
theorem k_39_12 : cd 39 12 = some (.iload_n 1, 1) := by decide +kernel
theorem k_39_13 : cd 39 13 = some (.aload_n 0, 1) := by decide +kernel
theorem k_39_14 : cd 39 14 = some (.getfield 15, 3) := by decide +kernel
theorem k_39_17 : cd 39 17 = some (.arraylength, 1) := by decide +kernel
theorem k_39_18 : cd 39 18 = some (.if_icmp .lt 5, 3) := by decide +kernel
theorem k_39_21 : cd 39 21 = some (.iconst 0, 1) := by decide +kernel
theorem k_39_22 : cd 39 22 = some (.ireturn, 1) := by decide +kernel
theorem k_39_23 : cd 39 23 = some (.aload_n 0, 1) := by decide +kernel
theorem k_39_24 : cd 39 24 = some (.getfield 44, 3) := by decide +kernel
theorem k_39_27 : cd 39 27 = some (.ifCond .eq 12, 3) := by decide +kernel
theorem k_39_30 : cd 39 30 = some (.aload_n 0, 1) := by decide +kernel
theorem k_39_31 : cd 39 31 = some (.getfield 15, 3) := by decide +kernel
theorem k_39_34 : cd 39 34 = some (.iload_n 1, 1) := by decide +kernel
theorem k_39_35 : cd 39 35 = some (.iaload, 1) := by decide +kernel
theorem k_39_36 : cd 39 36 = some (.goto 17, 3) := by decide +kernel
theorem k_39_39 : cd 39 39 = some (.iconst 1, 1) := by decide +kernel
theorem k_39_40 : cd 39 40 = some (.aload_n 0, 1) := by decide +kernel
theorem k_39_41 : cd 39 41 = some (.getfield 34, 3) := by decide +kernel
theorem k_39_44 : cd 39 44 = some (.ishl, 1) := by decide +kernel
theorem k_39_45 : cd 39 45 = some (.iconst 1, 1) := by decide +kernel
theorem k_39_46 : cd 39 46 = some (.isub, 1) := by decide +kernel
theorem k_39_47 : cd 39 47 = some (.iconst 1, 1) := by decide +kernel
theorem k_39_48 : cd 39 48 = some (.iload_n 1, 1) := by decide +kernel
theorem k_39_49 : cd 39 49 = some (.ishl, 1) := by decide +kernel
theorem k_39_50 : cd 39 50 = some (.iconst (-1), 1) := by decide +kernel
theorem k_39_51 : cd 39 51 = some (.ixor, 1) := by decide +kernel
theorem k_39_52 : cd 39 52 = some (.iand, 1) := by decide +kernel
theorem k_39_53 : cd 39 53 = some (.ireturn, 1) := by decide +kernel
theorem po_39 : po 39 = 5 := rfl
theorem M_39 {p : Nat} (hp : isP p) {x0 : Int32} {σ : pS} {ρ : Nat → Nat → Option Nat} (e : gR σ = ρ) (hL : LayR ρ) : Le
  (if x0 < (ι 0) then some (1, .int (ι 0), σ) else if (gI σ p 0) ≤ x0 then some (1, .int (ι 0), σ) else if x0 < (ι 8) then if (gI σ p 3) = (ι 0) then some (1, .int (((shl' (ι 1) (gI σ p 0)) - (ι 1)) &&& ((shl' (ι 1) x0) ^^^ (ν 1))), σ) else gd (inb x0 8) (some (1, .int (gI σ (p + 2) (ix x0)), σ)) else some (1, .int (ι 0), σ))
  (pcall 39 [.ref p, .int x0] σ) := by
  show Le _ (den 39 0 0 [.ref p, .int x0] [] σ)
  exact r_iload_n k_39_0 rfl rfl
    (r_if (tgt := 21) k_39_1 rfl rfl cop_lt
    (r_iconst k_39_21 rfl rfl
    (r_ret k_39_22 rfl rfl))
    (r_iload_n k_39_4 rfl rfl
    (r_aload_n k_39_5 rfl rfl
    (r_getI k_39_6 rfl po_39 rfl rfl rfl (kdP hp)
    (r_icmp (tgt := 21) k_39_9 rfl rfl cop_ge
    (r_iconst k_39_21 rfl rfl
    (r_ret k_39_22 rfl rfl))
    (r_iload_n k_39_12 rfl rfl
    (r_aload_n k_39_13 rfl rfl
    (r_getR k_39_14 rfl po_39 rfl rfl rfl (kdP hp) (gRat e (lyP_5 hL hp))
    (r_alenI k_39_17 rfl (kdP_2 hp) rfl
    (r_icmp (tgt := 23) k_39_18 rfl rfl cop_lt
    (r_aload_n k_39_23 rfl rfl
    (r_getI k_39_24 rfl po_39 rfl rfl rfl (kdP hp)
    (r_if (tgt := 39) k_39_27 rfl rfl cop_eq
    (r_iconst k_39_39 rfl rfl
    (r_aload_n k_39_40 rfl rfl
    (r_getI k_39_41 rfl po_39 rfl rfl rfl (kdP hp)
    (r_ishl k_39_44 rfl
    (r_iconst k_39_45 rfl rfl
    (r_isub k_39_46 rfl
    (r_iconst k_39_47 rfl rfl
    (r_iload_n k_39_48 rfl rfl
    (r_ishl k_39_49 rfl
    (r_iconst k_39_50 rfl rfl
    (r_ixor k_39_51 rfl
    (r_iand k_39_52 rfl
    (r_ret k_39_53 rfl rfl)))))))))))))
    (r_aload_n k_39_30 rfl rfl
    (r_getR k_39_31 rfl po_39 rfl rfl rfl (kdP hp) (gRat e (lyP_5 hL hp))
    (r_iload_n k_39_34 rfl rfl
    (r_gd fun g => r_iald k_39_35 rfl (kdP_2 hp) g
    (r_goto (tgt := 53) k_39_36 rfl (r_ret k_39_53 rfl rfl)))))))))
    (r_iconst k_39_21 rfl rfl
    (r_ret k_39_22 rfl rfl))))))))))))
/-! ===== 40 HedgeWants.Province.copyWorths ===== -/
theorem k_40_0 : cd 40 0 = some (.aload_n 1, 1) := by decide +kernel
theorem k_40_1 : cd 40 1 = some (.arraylength, 1) := by decide +kernel
theorem k_40_2 : cd 40 2 = some (.aload_n 0, 1) := by decide +kernel
theorem k_40_3 : cd 40 3 = some (.getfield 21, 3) := by decide +kernel
theorem k_40_6 : cd 40 6 = some (.arraylength, 1) := by decide +kernel
theorem k_40_7 : cd 40 7 = some (.if_icmp .lt 18, 3) := by decide +kernel
theorem k_40_10 : cd 40 10 = some (.aload_n 0, 1) := by decide +kernel
theorem k_40_11 : cd 40 11 = some (.getfield 21, 3) := by decide +kernel
theorem k_40_14 : cd 40 14 = some (.iconst 0, 1) := by decide +kernel
theorem k_40_15 : cd 40 15 = some (.aload_n 1, 1) := by decide +kernel
theorem k_40_16 : cd 40 16 = some (.iconst 0, 1) := by decide +kernel
theorem k_40_17 : cd 40 17 = some (.aload_n 0, 1) := by decide +kernel
theorem k_40_18 : cd 40 18 = some (.getfield 21, 3) := by decide +kernel
theorem k_40_21 : cd 40 21 = some (.arraylength, 1) := by decide +kernel
theorem k_40_22 : cd 40 22 = some (.invokestatic 65, 3) := by decide +kernel
theorem k_40_25 : cd 40 25 = some (.return_, 1) := by decide +kernel
theorem po_40 : po 40 = 5 := rfl
theorem M_40 {p : Nat} (hp : isP p) {a0 n0 : Nat} (ha0 : kd a0 = (100, n0))  {σ : pS} {ρ : Nat → Nat → Option Nat} (e : gR σ = ρ) (hL : LayR ρ) : Le
  (if (ι n0) < (ι 96) then some (0, .null, σ) else gd (cpok (ι 0) (ι 0) (ι 96) 96 n0) (some (0, .null, (sA σ a0 (va_cpy (gI σ (p + 4)) (gI σ a0) 0 0 96)))))
  (pcall 40 [.ref p, .ref a0] σ) := by
  show Le _ (den 40 0 0 [.ref p, .ref a0] [] σ)
  exact r_aload_n k_40_0 rfl rfl
    (r_alenI k_40_1 rfl ha0 rfl
    (r_aload_n k_40_2 rfl rfl
    (r_getR k_40_3 rfl po_40 rfl rfl rfl (kdP hp) (gRat e (lyP_7 hL hp))
    (r_alenI k_40_6 rfl (kdP_4 hp) rfl
    (r_icmp (tgt := 25) k_40_7 rfl rfl cop_lt
    (r_retV k_40_25 rfl)
    (r_aload_n k_40_10 rfl rfl
    (r_getR k_40_11 rfl po_40 rfl rfl rfl (kdP hp) (gRat e (lyP_7 hL hp))
    (r_iconst k_40_14 rfl rfl
    (r_aload_n k_40_15 rfl rfl
    (r_iconst k_40_16 rfl rfl
    (r_aload_n k_40_17 rfl rfl
    (r_getR k_40_18 rfl po_40 rfl rfl rfl (kdP hp) (gRat e (lyP_7 hL hp))
    (r_alenI k_40_21 rfl (kdP_4 hp) rfl
    (r_gd fun g => r_copy k_40_22 rfl po_40 rfl (kdP_4 hp) ha0 rfl g
    (r_retV k_40_25 rfl)))))))))))))))
/-! ===== 42 HedgeWants.Reader.read ===== -/
theorem k_42_0 : cd 42 0 = some (.aload_n 0, 1) := by decide +kernel
theorem k_42_1 : cd 42 1 = some (.iload_n 1, 1) := by decide +kernel
theorem k_42_2 : cd 42 2 = some (.putfield 33, 3) := by decide +kernel
theorem k_42_5 : cd 42 5 = some (.aload_n 0, 1) := by decide +kernel
theorem k_42_6 : cd 42 6 = some (.iconst 0, 1) := by decide +kernel
theorem k_42_7 : cd 42 7 = some (.putfield 36, 3) := by decide +kernel
theorem k_42_10 : cd 42 10 = some (.aload_n 0, 1) := by decide +kernel
theorem k_42_11 : cd 42 11 = some (.iconst 0, 1) := by decide +kernel
theorem k_42_12 : cd 42 12 = some (.putfield 39, 3) := by decide +kernel
theorem k_42_15 : cd 42 15 = some (.aload_n 0, 1) := by decide +kernel
theorem k_42_16 : cd 42 16 = some (.iconst (-1), 1) := by decide +kernel
theorem k_42_17 : cd 42 17 = some (.putfield 15, 3) := by decide +kernel
theorem k_42_20 : cd 42 20 = some (.aload_n 0, 1) := by decide +kernel
theorem k_42_21 : cd 42 21 = some (.aload_n 2, 1) := by decide +kernel
theorem k_42_22 : cd 42 22 = some (.putfield 19, 3) := by decide +kernel
theorem k_42_25 : cd 42 25 = some (.aload_n 0, 1) := by decide +kernel
theorem k_42_26 : cd 42 26 = some (.getfield 19, 3) := by decide +kernel
theorem k_42_29 : cd 42 29 = some (.invokevirtual 42, 3) := by decide +kernel
theorem k_42_32 : cd 42 32 = some (.aload_n 0, 1) := by decide +kernel
theorem k_42_33 : cd 42 33 = some (.invokevirtual 45, 3) := by decide +kernel
theorem k_42_36 : cd 42 36 = some (.iconst 0, 1) := by decide +kernel
theorem k_42_37 : cd 42 37 = some (.istore_n 3, 1) := by decide +kernel
theorem k_42_38 : cd 42 38 = some (.iload_n 3, 1) := by decide +kernel
theorem k_42_39 : cd 42 39 = some (.sipush 700, 3) := by decide +kernel
theorem k_42_42 : cd 42 42 = some (.if_icmp .ge 20, 3) := by decide +kernel
theorem k_42_45 : cd 42 45 = some (.aload_n 0, 1) := by decide +kernel
theorem k_42_46 : cd 42 46 = some (.getfield 48, 3) := by decide +kernel
theorem k_42_49 : cd 42 49 = some (.ifCond .eq 13, 3) := by decide +kernel
theorem k_42_52 : cd 42 52 = some (.aload_n 0, 1) := by decide +kernel
theorem k_42_53 : cd 42 53 = some (.invokevirtual 51, 3) := by decide +kernel
theorem k_42_56 : cd 42 56 = some (.iinc 3 1, 3) := by decide +kernel
theorem k_42_59 : cd 42 59 = some (.goto (-21), 3) := by decide +kernel
theorem k_42_62 : cd 42 62 = some (.aload_n 0, 1) := by decide +kernel
theorem k_42_63 : cd 42 63 = some (.getfield 39, 3) := by decide +kernel
theorem k_42_66 : cd 42 66 = some (.ireturn, 1) := by decide +kernel
theorem po_42 : po 42 = 6 := rfl
noncomputable def C_42_38 (o1 : Nat) (v1 : Value) (v2 : Value) (x3 : Int32) (σ : pS) : Option pZ := den 42 0 38 [.ref 24, v1, v2, .int x3] [] σ
theorem T_42_38 {o1 : Nat} (ho1 : isP o1) {v1 : Value} {v2 : Value} {x3 : Int32}  {σ : pS} {ρ : Nat → Nat → Option Nat} (e : gR σ = ρ) (hL : LayR ρ) : Le
  (if (ι 700) ≤ x3 then some (1, .int (gI σ 24 6), σ) else if (gI σ 24 4) = (ι 0) then some (1, .int (gI σ 24 6), σ) else bV (pcall 47 [.ref 24] σ) fun σ1 => gd (LayR (gR σ1)) (C_42_38 o1 v1 v2 (x3 + (ι 1)) σ1))
  (C_42_38 o1 v1 v2 x3 σ) := by
  unfold C_42_38
  exact r_iload_n k_42_38 rfl rfl
    (r_sipush k_42_39 rfl rfl
    (r_icmp (tgt := 62) k_42_42 rfl rfl cop_ge
    (r_aload_n k_42_62 rfl rfl
    (r_getI k_42_63 rfl po_42 rfl rfl rfl rfl
    (r_ret k_42_66 rfl rfl)))
    (r_aload_n k_42_45 rfl rfl
    (r_getI k_42_46 rfl po_42 rfl rfl rfl rfl
    (r_if (tgt := 62) k_42_49 rfl rfl cop_eq
    (r_aload_n k_42_62 rfl rfl
    (r_getI k_42_63 rfl po_42 rfl rfl rfl rfl
    (r_ret k_42_66 rfl rfl)))
    (r_aload_n k_42_52 rfl rfl
    (r_callV (q_virt (rest := []) (as := []) k_42_53 po_42 rfl rfl rfl (rcvO rfl rfl rfl) rfl rfl) (lvq (j := 0) rfl (by decide +kernel)) rfl rfl (fun _ σ1 h1 => r_gd fun L1 => r_iinc k_42_56 rfl rfl rfl rfl
    (r_goto (tgt := 38) k_42_59 rfl (Le.rfl'))))))))))
theorem M_42 {o1 : Nat} (ho1 : isP o1) {x0 : Int32} {σ : pS} {ρ : Nat → Nat → Option Nat} (e : gR σ = ρ) (hL : LayR ρ) : Le
  (gd (LayR (gR (sR (sI (sI (sI (sI σ 24 1 x0) 24 3 (ι 0)) 24 6 (ι 0)) 24 7 (ν 1)) 24 8 (some o1)))) (bG isP (gR (sR (sI (sI (sI (sI σ 24 1 x0) 24 3 (ι 0)) 24 6 (ι 0)) 24 7 (ν 1)) 24 8 (some o1)) 24 8) fun q2 => bV (pcall 30 [.ref q2] (sR (sI (sI (sI (sI σ 24 1 x0) 24 3 (ι 0)) 24 6 (ι 0)) 24 7 (ν 1)) 24 8 (some o1))) fun σ3 => bV (pcall 43 [.ref 24] σ3) fun σ4 => C_42_38 o1 (.int x0) (.ref o1) (ι 0) σ4))
  (pcall 42 [.ref 24, .int x0, .ref o1] σ) := by
  show Le _ (den 42 0 0 [.ref 24, .int x0, .ref o1, .retAddr 0] [] σ)
  exact r_aload_n k_42_0 rfl rfl
    (r_iload_n k_42_1 rfl rfl
    (r_putI k_42_2 rfl po_42 rfl rfl rfl
    (r_aload_n k_42_5 rfl rfl
    (r_iconst k_42_6 rfl rfl
    (r_putI k_42_7 rfl po_42 rfl rfl rfl
    (r_aload_n k_42_10 rfl rfl
    (r_iconst k_42_11 rfl rfl
    (r_putI k_42_12 rfl po_42 rfl rfl rfl
    (r_aload_n k_42_15 rfl rfl
    (r_iconst k_42_16 rfl rfl
    (r_putI k_42_17 rfl po_42 rfl rfl rfl
    (r_aload_n k_42_20 rfl rfl
    (r_aload_n k_42_21 rfl rfl
    (r_gd fun L1 => r_putR k_42_22 rfl po_42 rfl rfl (Or.inl rfl) rfl
    (r_aload_n k_42_25 rfl rfl
    (r_getG k_42_26 rfl po_42 rfl rfl rfl rfl fun q2 hq2 => r_callV (q_virt (rest := []) (as := []) k_42_29 po_42 rfl rfl rfl (rcvO rfl rfl (kdP hq2)) rfl rfl) (lvq (j := 0) rfl (by decide +kernel)) rfl rfl (fun _ σ3 h3 => r_aload_n k_42_32 rfl rfl
    (r_callV (q_virt (rest := []) (as := []) k_42_33 po_42 rfl rfl rfl (rcvO rfl rfl rfl) rfl rfl) (lvq (j := 0) rfl (by decide +kernel)) rfl rfl (fun _ σ4 h4 => r_iconst k_42_36 rfl rfl
    (r_istore_n k_42_37 rfl rfl rfl
    (Le.rfl')))))))))))))))))))))
/-! ===== 43 HedgeWants.Reader.advance ===== -/
theorem k_43_0 : cd 43 0 = some (.aload_n 0, 1) := by decide +kernel
theorem k_43_1 : cd 43 1 = some (.getfield 39, 3) := by decide +kernel
theorem k_43_4 : cd 43 4 = some (.ifCond .eq 4, 3) := by decide +kernel
theorem k_43_7 : cd 43 7 = some (.return_, 1) := by decide +kernel
theorem k_43_8 : cd 43 8 = some (.aload_n 0, 1) := by decide +kernel
theorem k_43_9 : cd 43 9 = some (.aload_n 0, 1) := by decide +kernel
theorem k_43_10 : cd 43 10 = some (.aload_n 0, 1) := by decide +kernel
theorem k_43_11 : cd 43 11 = some (.getfield 36, 3) := by decide +kernel
theorem k_43_14 : cd 43 14 = some (.iconst 4, 1) := by decide +kernel
theorem k_43_15 : cd 43 15 = some (.invokevirtual 57, 3) := by decide +kernel
theorem k_43_18 : cd 43 18 = some (.putfield 54, 3) := by decide +kernel
theorem k_43_21 : cd 43 21 = some (.aload_n 0, 1) := by decide +kernel
theorem k_43_22 : cd 43 22 = some (.getfield 54, 3) := by decide +kernel
theorem k_43_25 : cd 43 25 = some (.ifCond .lt 26, 3) := by decide +kernel
theorem k_43_28 : cd 43 28 = some (.aload_n 0, 1) := by decide +kernel
theorem k_43_29 : cd 43 29 = some (.getfield 54, 3) := by decide +kernel
theorem k_43_32 : cd 43 32 = some (.aload_n 0, 1) := by decide +kernel
theorem k_43_33 : cd 43 33 = some (.getfield 33, 3) := by decide +kernel
theorem k_43_36 : cd 43 36 = some (.if_icmp .ge 15, 3) := by decide +kernel
theorem k_43_39 : cd 43 39 = some (.aload_n 0, 1) := by decide +kernel
theorem k_43_40 : cd 43 40 = some (.getfield 54, 3) := by decide +kernel
theorem k_43_43 : cd 43 43 = some (.aload_n 0, 1) := by decide +kernel
theorem k_43_44 : cd 43 44 = some (.getfield 9, 3) := by decide +kernel
theorem k_43_47 : cd 43 47 = some (.arraylength, 1) := by decide +kernel
theorem k_43_48 : cd 43 48 = some (.if_icmp .lt 25, 3) := by decide +kernel
theorem k_43_51 : cd 43 51 = some (.aload_n 0, 1) := by decide +kernel
theorem k_43_52 : cd 43 52 = some (.aload_n 0, 1) := by decide +kernel
theorem k_43_53 : cd 43 53 = some (.getfield 33, 3) := by decide +kernel
theorem k_43_56 : cd 43 56 = some (.putfield 54, 3) := by decide +kernel
theorem k_43_59 : cd 43 59 = some (.aload_n 0, 1) := by decide +kernel
theorem k_43_60 : cd 43 60 = some (.aload_n 0, 1) := by decide +kernel
theorem k_43_61 : cd 43 61 = some (.getfield 33, 3) := by decide +kernel
theorem k_43_64 : cd 43 64 = some (.putfield 36, 3) := by decide +kernel
theorem k_43_67 : cd 43 67 = some (.aload_n 0, 1) := by decide +kernel
theorem k_43_68 : cd 43 68 = some (.iconst 0, 1) := by decide +kernel
theorem k_43_69 : cd 43 69 = some (.putfield 48, 3) := by decide +kernel
theorem k_43_72 : cd 43 72 = some (.return_, 1) := by decide +kernel
theorem k_43_73 : cd 43 73 = some (.aload_n 0, 1) := by decide +kernel
theorem k_43_74 : cd 43 74 = some (.aload_n 0, 1) := by decide +kernel
theorem k_43_75 : cd 43 75 = some (.getfield 9, 3) := by decide +kernel
theorem k_43_78 : cd 43 78 = some (.aload_n 0, 1) := by decide +kernel
theorem k_43_79 : cd 43 79 = some (.getfield 54, 3) := by decide +kernel
theorem k_43_82 : cd 43 82 = some (.iaload, 1) := by decide +kernel
theorem k_43_83 : cd 43 83 = some (.invokestatic 61, 3) := by decide +kernel
theorem k_43_86 : cd 43 86 = some (.putfield 48, 3) := by decide +kernel
theorem k_43_89 : cd 43 89 = some (.aload_n 0, 1) := by decide +kernel
theorem k_43_90 : cd 43 90 = some (.aload_n 0, 1) := by decide +kernel
theorem k_43_91 : cd 43 91 = some (.getfield 9, 3) := by decide +kernel
theorem k_43_94 : cd 43 94 = some (.aload_n 0, 1) := by decide +kernel
theorem k_43_95 : cd 43 95 = some (.getfield 54, 3) := by decide +kernel
theorem k_43_98 : cd 43 98 = some (.iaload, 1) := by decide +kernel
theorem k_43_99 : cd 43 99 = some (.putfield 65, 3) := by decide +kernel
theorem k_43_102 : cd 43 102 = some (.aload_n 0, 1) := by decide +kernel
theorem k_43_103 : cd 43 103 = some (.aload_n 0, 1) := by decide +kernel
theorem k_43_104 : cd 43 104 = some (.getfield 48, 3) := by decide +kernel
theorem k_43_107 : cd 43 107 = some (.iconst 1, 1) := by decide +kernel
theorem k_43_108 : cd 43 108 = some (.if_icmp .eq 11, 3) := by decide +kernel
theorem k_43_111 : cd 43 111 = some (.aload_n 0, 1) := by decide +kernel
theorem k_43_112 : cd 43 112 = some (.getfield 48, 3) := by decide +kernel
theorem k_43_115 : cd 43 115 = some (.iconst 2, 1) := by decide +kernel
theorem k_43_116 : cd 43 116 = some (.if_icmp .ne 18, 3) := by decide +kernel
theorem k_43_119 : cd 43 119 = some (.aload_n 0, 1) := by decide +kernel
theorem k_43_120 : cd 43 120 = some (.aload_n 0, 1) := by decide +kernel
theorem k_43_121 : cd 43 121 = some (.getfield 54, 3) := by decide +kernel
theorem k_43_124 : cd 43 124 = some (.aload_n 0, 1) := by decide +kernel
theorem k_43_125 : cd 43 125 = some (.getfield 48, 3) := by decide +kernel
theorem k_43_128 : cd 43 128 = some (.invokevirtual 57, 3) := by decide +kernel
theorem k_43_131 : cd 43 131 = some (.goto 9, 3) := by decide +kernel
theorem k_43_134 : cd 43 134 = some (.aload_n 0, 1) := by decide +kernel
theorem k_43_135 : cd 43 135 = some (.getfield 54, 3) := by decide +kernel
theorem k_43_138 : cd 43 138 = some (.iconst 1, 1) := by decide +kernel
theorem k_43_139 : cd 43 139 = some (.iadd, 1) := by decide +kernel
theorem k_43_140 : cd 43 140 = some (.putfield 36, 3) := by decide +kernel
theorem k_43_143 : cd 43 143 = some (.aload_n 0, 1) := by decide +kernel
theorem k_43_144 : cd 43 144 = some (.getfield 48, 3) := by decide +kernel
theorem k_43_147 : cd 43 147 = some (.iconst 2, 1) := by decide +kernel
theorem k_43_148 : cd 43 148 = some (.if_icmp .ne 11, 3) := by decide +kernel
theorem k_43_151 : cd 43 151 = some (.aload_n 0, 1) := by decide +kernel
theorem k_43_152 : cd 43 152 = some (.aload_n 0, 1) := by decide +kernel
theorem k_43_153 : cd 43 153 = some (.invokevirtual 68, 3) := by decide +kernel
theorem k_43_156 : cd 43 156 = some (.putfield 65, 3) := by decide +kernel
theorem k_43_159 : cd 43 159 = some (.return_, 1) := by decide +kernel
theorem po_43 : po 43 = 6 := rfl
noncomputable def C_43_119   (σ : pS) : Option pZ := den 43 0 119 [.ref 24] [.ref 24] σ
theorem T_43_119    {σ : pS} {ρ : Nat → Nat → Option Nat} (e : gR σ = ρ) (hL : LayR ρ) : Le
  (bI (pcall 44 [.ref 24, .int (gI σ 24 2), .int (gI σ 24 4)] σ) fun r1 σ1 => if ¬ (gI (sI σ1 24 3 r1) 24 4) = (ι 2) then some (0, .null, (sI σ1 24 3 r1)) else bI (pcall 46 [.ref 24] (sI σ1 24 3 r1)) fun r2 σ2 => some (0, .null, (sI σ2 24 5 r2)))
  (C_43_119   σ) := by
  unfold C_43_119
  exact r_aload_n k_43_119 rfl rfl
    (r_aload_n k_43_120 rfl rfl
    (r_getI k_43_121 rfl po_43 rfl rfl rfl rfl
    (r_aload_n k_43_124 rfl rfl
    (r_getI k_43_125 rfl po_43 rfl rfl rfl rfl
    (r_callI (q_virt (rest := [.ref 24]) (as := [.int (gI σ 24 2), .int (gI σ 24 4)]) k_43_128 po_43 rfl rfl rfl (rcvO rfl rfl rfl) rfl rfl) (lvq (j := 0) rfl (by decide +kernel)) rfl rfl (fun r1 σ1 h1 => r_goto (tgt := 140) k_43_131 rfl (r_putI k_43_140 rfl po_43 rfl rfl rfl
    (r_aload_n k_43_143 rfl rfl
    (r_getI k_43_144 rfl po_43 rfl rfl rfl rfl
    (r_iconst k_43_147 rfl rfl
    (r_icmp (tgt := 159) k_43_148 rfl rfl cop_ne
    (r_retV k_43_159 rfl)
    (r_aload_n k_43_151 rfl rfl
    (r_aload_n k_43_152 rfl rfl
    (r_callI (q_virt (rest := [.ref 24]) (as := []) k_43_153 po_43 rfl rfl rfl (rcvO rfl rfl rfl) rfl rfl) (lvq (j := 0) rfl (by decide +kernel)) rfl rfl (fun r2 σ2 h2 => r_putI k_43_156 rfl po_43 rfl rfl rfl
    (r_retV k_43_159 rfl))))))))))))))))
theorem M_43   {σ : pS} {ρ : Nat → Nat → Option Nat} (e : gR σ = ρ) (hL : LayR ρ) : Le
  (if (gI σ 24 6) = (ι 0) then bI (pcall 44 [.ref 24, .int (gI σ 24 3), .int (ι 4)] σ) fun r1 σ1 => if (gI (sI σ1 24 2 r1) 24 2) < (ι 0) then some (0, .null, (sI (sI (sI (sI σ1 24 2 r1) 24 2 (gI (sI σ1 24 2 r1) 24 1)) 24 3 (gI (sI (sI σ1 24 2 r1) 24 2 (gI (sI σ1 24 2 r1) 24 1)) 24 1)) 24 4 (ι 0))) else if (gI (sI σ1 24 2 r1) 24 1) ≤ (gI (sI σ1 24 2 r1) 24 2) then some (0, .null, (sI (sI (sI (sI σ1 24 2 r1) 24 2 (gI (sI σ1 24 2 r1) 24 1)) 24 3 (gI (sI (sI σ1 24 2 r1) 24 2 (gI (sI σ1 24 2 r1) 24 1)) 24 1)) 24 4 (ι 0))) else if (gI (sI σ1 24 2 r1) 24 2) < (ι 700) then gd (inb (gI (sI σ1 24 2 r1) 24 2) 700) (bI (pcall 45 [.int (gI (sI σ1 24 2 r1) 1 (ix (gI (sI σ1 24 2 r1) 24 2)))] (sI σ1 24 2 r1)) fun r2 σ2 => gd (inb (gI (sI σ2 24 4 r2) 24 2) 700) (if (gI (sI (sI σ2 24 4 r2) 24 5 (gI (sI σ2 24 4 r2) 1 (ix (gI (sI σ2 24 4 r2) 24 2)))) 24 4) = (ι 1) then C_43_119 (sI (sI σ2 24 4 r2) 24 5 (gI (sI σ2 24 4 r2) 1 (ix (gI (sI σ2 24 4 r2) 24 2)))) else if ¬ (gI (sI (sI σ2 24 4 r2) 24 5 (gI (sI σ2 24 4 r2) 1 (ix (gI (sI σ2 24 4 r2) 24 2)))) 24 4) = (ι 2) then if ¬ (gI (sI (sI (sI σ2 24 4 r2) 24 5 (gI (sI σ2 24 4 r2) 1 (ix (gI (sI σ2 24 4 r2) 24 2)))) 24 3 ((gI (sI (sI σ2 24 4 r2) 24 5 (gI (sI σ2 24 4 r2) 1 (ix (gI (sI σ2 24 4 r2) 24 2)))) 24 2) + (ι 1))) 24 4) = (ι 2) then some (0, .null, (sI (sI (sI σ2 24 4 r2) 24 5 (gI (sI σ2 24 4 r2) 1 (ix (gI (sI σ2 24 4 r2) 24 2)))) 24 3 ((gI (sI (sI σ2 24 4 r2) 24 5 (gI (sI σ2 24 4 r2) 1 (ix (gI (sI σ2 24 4 r2) 24 2)))) 24 2) + (ι 1)))) else bI (pcall 46 [.ref 24] (sI (sI (sI σ2 24 4 r2) 24 5 (gI (sI σ2 24 4 r2) 1 (ix (gI (sI σ2 24 4 r2) 24 2)))) 24 3 ((gI (sI (sI σ2 24 4 r2) 24 5 (gI (sI σ2 24 4 r2) 1 (ix (gI (sI σ2 24 4 r2) 24 2)))) 24 2) + (ι 1)))) fun r3 σ3 => some (0, .null, (sI σ3 24 5 r3)) else C_43_119 (sI (sI σ2 24 4 r2) 24 5 (gI (sI σ2 24 4 r2) 1 (ix (gI (sI σ2 24 4 r2) 24 2)))))) else some (0, .null, (sI (sI (sI (sI σ1 24 2 r1) 24 2 (gI (sI σ1 24 2 r1) 24 1)) 24 3 (gI (sI (sI σ1 24 2 r1) 24 2 (gI (sI σ1 24 2 r1) 24 1)) 24 1)) 24 4 (ι 0))) else some (0, .null, σ))
  (pcall 43 [.ref 24] σ) := by
  show Le _ (den 43 0 0 [.ref 24] [] σ)
  exact r_aload_n k_43_0 rfl rfl
    (r_getI k_43_1 rfl po_43 rfl rfl rfl rfl
    (r_if (tgt := 8) k_43_4 rfl rfl cop_eq
    (r_aload_n k_43_8 rfl rfl
    (r_aload_n k_43_9 rfl rfl
    (r_aload_n k_43_10 rfl rfl
    (r_getI k_43_11 rfl po_43 rfl rfl rfl rfl
    (r_iconst k_43_14 rfl rfl
    (r_callI (q_virt (rest := [.ref 24]) (as := [.int (gI σ 24 3), .int (ι 4)]) k_43_15 po_43 rfl rfl rfl (rcvO rfl rfl rfl) rfl rfl) (lvq (j := 0) rfl (by decide +kernel)) rfl rfl (fun r1 σ1 h1 => r_putI k_43_18 rfl po_43 rfl rfl rfl
    (r_aload_n k_43_21 rfl rfl
    (r_getI k_43_22 rfl po_43 rfl rfl rfl rfl
    (r_if (tgt := 51) k_43_25 rfl rfl cop_lt
    (r_aload_n k_43_51 rfl rfl
    (r_aload_n k_43_52 rfl rfl
    (r_getI k_43_53 rfl po_43 rfl rfl rfl rfl
    (r_putI k_43_56 rfl po_43 rfl rfl rfl
    (r_aload_n k_43_59 rfl rfl
    (r_aload_n k_43_60 rfl rfl
    (r_getI k_43_61 rfl po_43 rfl rfl rfl rfl
    (r_putI k_43_64 rfl po_43 rfl rfl rfl
    (r_aload_n k_43_67 rfl rfl
    (r_iconst k_43_68 rfl rfl
    (r_putI k_43_69 rfl po_43 rfl rfl rfl
    (r_retV k_43_72 rfl))))))))))))
    (r_aload_n k_43_28 rfl rfl
    (r_getI k_43_29 rfl po_43 rfl rfl rfl rfl
    (r_aload_n k_43_32 rfl rfl
    (r_getI k_43_33 rfl po_43 rfl rfl rfl rfl
    (r_icmp (tgt := 51) k_43_36 rfl rfl cop_ge
    (r_aload_n k_43_51 rfl rfl
    (r_aload_n k_43_52 rfl rfl
    (r_getI k_43_53 rfl po_43 rfl rfl rfl rfl
    (r_putI k_43_56 rfl po_43 rfl rfl rfl
    (r_aload_n k_43_59 rfl rfl
    (r_aload_n k_43_60 rfl rfl
    (r_getI k_43_61 rfl po_43 rfl rfl rfl rfl
    (r_putI k_43_64 rfl po_43 rfl rfl rfl
    (r_aload_n k_43_67 rfl rfl
    (r_iconst k_43_68 rfl rfl
    (r_putI k_43_69 rfl po_43 rfl rfl rfl
    (r_retV k_43_72 rfl))))))))))))
    (r_aload_n k_43_39 rfl rfl
    (r_getI k_43_40 rfl po_43 rfl rfl rfl rfl
    (r_aload_n k_43_43 rfl rfl
    (r_getR k_43_44 rfl po_43 rfl rfl rfl rfl (gRat (eI (eC rfl h1 e)) (LayR.at hL (i := 29) rfl))
    (r_alenI k_43_47 rfl rfl rfl
    (r_icmp (tgt := 73) k_43_48 rfl rfl cop_lt
    (r_aload_n k_43_73 rfl rfl
    (r_aload_n k_43_74 rfl rfl
    (r_getR k_43_75 rfl po_43 rfl rfl rfl rfl (gRat (eI (eC rfl h1 e)) (LayR.at hL (i := 29) rfl))
    (r_aload_n k_43_78 rfl rfl
    (r_getI k_43_79 rfl po_43 rfl rfl rfl rfl
    (r_gd fun g => r_iald k_43_82 rfl rfl g
    (r_callI (q_stat (rest := [.ref 24]) (av := [.int (gI (sI σ1 24 2 r1) 1 (ix (gI (sI σ1 24 2 r1) 24 2)))]) k_43_83 po_43 rfl (by decide) rfl rfl rfl rfl) (lvq (j := 0) rfl (by decide +kernel)) rfl rfl (fun r2 σ2 h2 => r_putI k_43_86 rfl po_43 rfl rfl rfl
    (r_aload_n k_43_89 rfl rfl
    (r_aload_n k_43_90 rfl rfl
    (r_getR k_43_91 rfl po_43 rfl rfl rfl rfl (gRat (eI (eC rfl h2 (eI (eC rfl h1 e)))) (LayR.at hL (i := 29) rfl))
    (r_aload_n k_43_94 rfl rfl
    (r_getI k_43_95 rfl po_43 rfl rfl rfl rfl
    (r_gd fun g => r_iald k_43_98 rfl rfl g
    (r_putI k_43_99 rfl po_43 rfl rfl rfl
    (r_aload_n k_43_102 rfl rfl
    (r_aload_n k_43_103 rfl rfl
    (r_getI k_43_104 rfl po_43 rfl rfl rfl rfl
    (r_iconst k_43_107 rfl rfl
    (r_icmp (tgt := 119) k_43_108 rfl rfl cop_eq
    (Le.rfl')
    (r_aload_n k_43_111 rfl rfl
    (r_getI k_43_112 rfl po_43 rfl rfl rfl rfl
    (r_iconst k_43_115 rfl rfl
    (r_icmp (tgt := 134) k_43_116 rfl rfl cop_ne
    (r_aload_n k_43_134 rfl rfl
    (r_getI k_43_135 rfl po_43 rfl rfl rfl rfl
    (r_iconst k_43_138 rfl rfl
    (r_iadd k_43_139 rfl
    (r_putI k_43_140 rfl po_43 rfl rfl rfl
    (r_aload_n k_43_143 rfl rfl
    (r_getI k_43_144 rfl po_43 rfl rfl rfl rfl
    (r_iconst k_43_147 rfl rfl
    (r_icmp (tgt := 159) k_43_148 rfl rfl cop_ne
    (r_retV k_43_159 rfl)
    (r_aload_n k_43_151 rfl rfl
    (r_aload_n k_43_152 rfl rfl
    (r_callI (q_virt (rest := [.ref 24]) (as := []) k_43_153 po_43 rfl rfl rfl (rcvO rfl rfl rfl) rfl rfl) (lvq (j := 0) rfl (by decide +kernel)) rfl rfl (fun r3 σ3 h3 => r_putI k_43_156 rfl po_43 rfl rfl rfl
    (r_retV k_43_159 rfl))))))))))))))
    (Le.rfl')))))))))))))))))))))))))
    (r_aload_n k_43_51 rfl rfl
    (r_aload_n k_43_52 rfl rfl
    (r_getI k_43_53 rfl po_43 rfl rfl rfl rfl
    (r_putI k_43_56 rfl po_43 rfl rfl rfl
    (r_aload_n k_43_59 rfl rfl
    (r_aload_n k_43_60 rfl rfl
    (r_getI k_43_61 rfl po_43 rfl rfl rfl rfl
    (r_putI k_43_64 rfl po_43 rfl rfl rfl
    (r_aload_n k_43_67 rfl rfl
    (r_iconst k_43_68 rfl rfl
    (r_putI k_43_69 rfl po_43 rfl rfl rfl
    (r_retV k_43_72 rfl)))))))))))))))))))))))))))))))))
    (r_retV k_43_7 rfl)))
/-! ===== 44 HedgeWants.Reader.rowEnd ===== -/
theorem k_44_0 : cd 44 0 = some (.iload_n 1, 1) := by decide +kernel
theorem k_44_1 : cd 44 1 = some (.istore_n 3, 1) := by decide +kernel
theorem k_44_2 : cd 44 2 = some (.iload_n 3, 1) := by decide +kernel
theorem k_44_3 : cd 44 3 = some (.ifCond .lt 39, 3) := by decide +kernel
theorem k_44_6 : cd 44 6 = some (.iload_n 3, 1) := by decide +kernel
theorem k_44_7 : cd 44 7 = some (.aload_n 0, 1) := by decide +kernel
theorem k_44_8 : cd 44 8 = some (.getfield 33, 3) := by decide +kernel
theorem k_44_11 : cd 44 11 = some (.if_icmp .ge 31, 3) := by decide +kernel
theorem k_44_14 : cd 44 14 = some (.iload_n 3, 1) := by decide +kernel
theorem k_44_15 : cd 44 15 = some (.aload_n 0, 1) := by decide +kernel
theorem k_44_16 : cd 44 16 = some (.getfield 9, 3) := by decide +kernel
theorem k_44_19 : cd 44 19 = some (.arraylength, 1) := by decide +kernel
theorem k_44_20 : cd 44 20 = some (.if_icmp .ge 22, 3) := by decide +kernel
theorem k_44_23 : cd 44 23 = some (.aload_n 0, 1) := by decide +kernel
theorem k_44_24 : cd 44 24 = some (.getfield 9, 3) := by decide +kernel
theorem k_44_27 : cd 44 27 = some (.iload_n 3, 1) := by decide +kernel
theorem k_44_28 : cd 44 28 = some (.iaload, 1) := by decide +kernel
theorem k_44_29 : cd 44 29 = some (.invokestatic 61, 3) := by decide +kernel
theorem k_44_32 : cd 44 32 = some (.iload_n 2, 1) := by decide +kernel
theorem k_44_33 : cd 44 33 = some (.if_icmp .ne 9, 3) := by decide +kernel
theorem k_44_36 : cd 44 36 = some (.iinc 3 1, 3) := by decide +kernel
theorem k_44_39 : cd 44 39 = some (.goto (-37), 3) := by decide +kernel
theorem k_44_42 : cd 44 42 = some (.iload_n 3, 1) := by decide +kernel
theorem k_44_43 : cd 44 43 = some (.ireturn, 1) := by decide +kernel
theorem po_44 : po 44 = 6 := rfl
noncomputable def C_44_2  (v1 : Value) (x2 : Int32) (x3 : Int32) (σ : pS) : Option pZ := den 44 0 2 [.ref 24, v1, .int x2, .int x3] [] σ
theorem T_44_2  {v1 : Value} {x2 : Int32} {x3 : Int32}  {σ : pS} {ρ : Nat → Nat → Option Nat} (e : gR σ = ρ) (hL : LayR ρ) : Le
  (if x3 < (ι 0) then some (1, .int x3, σ) else if (gI σ 24 1) ≤ x3 then some (1, .int x3, σ) else if (ι 700) ≤ x3 then some (1, .int x3, σ) else gd (inb x3 700) (bI (pcall 45 [.int (gI σ 1 (ix x3))] σ) fun r1 σ1 => if ¬ r1 = x2 then some (1, .int x3, σ1) else C_44_2 v1 x2 (x3 + (ι 1)) σ1))
  (C_44_2  v1 x2 x3 σ) := by
  unfold C_44_2
  exact r_iload_n k_44_2 rfl rfl
    (r_if (tgt := 42) k_44_3 rfl rfl cop_lt
    (r_iload_n k_44_42 rfl rfl
    (r_ret k_44_43 rfl rfl))
    (r_iload_n k_44_6 rfl rfl
    (r_aload_n k_44_7 rfl rfl
    (r_getI k_44_8 rfl po_44 rfl rfl rfl rfl
    (r_icmp (tgt := 42) k_44_11 rfl rfl cop_ge
    (r_iload_n k_44_42 rfl rfl
    (r_ret k_44_43 rfl rfl))
    (r_iload_n k_44_14 rfl rfl
    (r_aload_n k_44_15 rfl rfl
    (r_getR k_44_16 rfl po_44 rfl rfl rfl rfl (gRat e (LayR.at hL (i := 29) rfl))
    (r_alenI k_44_19 rfl rfl rfl
    (r_icmp (tgt := 42) k_44_20 rfl rfl cop_ge
    (r_iload_n k_44_42 rfl rfl
    (r_ret k_44_43 rfl rfl))
    (r_aload_n k_44_23 rfl rfl
    (r_getR k_44_24 rfl po_44 rfl rfl rfl rfl (gRat e (LayR.at hL (i := 29) rfl))
    (r_iload_n k_44_27 rfl rfl
    (r_gd fun g => r_iald k_44_28 rfl rfl g
    (r_callI (q_stat (rest := []) (av := [.int (gI σ 1 (ix x3))]) k_44_29 po_44 rfl (by decide) rfl rfl rfl rfl) (lvq (j := 0) rfl (by decide +kernel)) rfl rfl (fun r1 σ1 h1 => r_iload_n k_44_32 rfl rfl
    (r_icmp (tgt := 42) k_44_33 rfl rfl cop_ne
    (r_iload_n k_44_42 rfl rfl
    (r_ret k_44_43 rfl rfl))
    (r_iinc k_44_36 rfl rfl rfl rfl
    (r_goto (tgt := 2) k_44_39 rfl (Le.rfl'))))))))))))))))))))
theorem M_44  {x0 : Int32} {x1 : Int32} {σ : pS} {ρ : Nat → Nat → Option Nat} (e : gR σ = ρ) (hL : LayR ρ) : Le
  (C_44_2 (.int x0) x1 x0 σ)
  (pcall 44 [.ref 24, .int x0, .int x1] σ) := by
  show Le _ (den 44 0 0 [.ref 24, .int x0, .int x1, .retAddr 0] [] σ)
  exact r_iload_n k_44_0 rfl rfl
    (r_istore_n k_44_1 rfl rfl rfl
    (Le.rfl'))
/-! ===== 45 HedgeWants.Reader.kindOf ===== -/
theorem k_45_0 : cd 45 0 = some (.iload_n 0, 1) := by decide +kernel
theorem k_45_1 : cd 45 1 = some (.bipush 97, 2) := by decide +kernel
theorem k_45_3 : cd 45 3 = some (.if_icmp .lt 11, 3) := by decide +kernel
theorem k_45_6 : cd 45 6 = some (.iload_n 0, 1) := by decide +kernel
theorem k_45_7 : cd 45 7 = some (.bipush 122, 2) := by decide +kernel
theorem k_45_9 : cd 45 9 = some (.if_icmp .gt 5, 3) := by decide +kernel
theorem k_45_12 : cd 45 12 = some (.iconst 1, 1) := by decide +kernel
theorem k_45_13 : cd 45 13 = some (.ireturn, 1) := by decide +kernel
theorem k_45_14 : cd 45 14 = some (.iload_n 0, 1) := by decide +kernel
theorem k_45_15 : cd 45 15 = some (.bipush 48, 2) := by decide +kernel
theorem k_45_17 : cd 45 17 = some (.if_icmp .lt 11, 3) := by decide +kernel
theorem k_45_20 : cd 45 20 = some (.iload_n 0, 1) := by decide +kernel
theorem k_45_21 : cd 45 21 = some (.bipush 57, 2) := by decide +kernel
theorem k_45_23 : cd 45 23 = some (.if_icmp .gt 5, 3) := by decide +kernel
theorem k_45_26 : cd 45 26 = some (.iconst 2, 1) := by decide +kernel
theorem k_45_27 : cd 45 27 = some (.ireturn, 1) := by decide +kernel
theorem k_45_28 : cd 45 28 = some (.iload_n 0, 1) := by decide +kernel
theorem k_45_29 : cd 45 29 = some (.lookupswitch 103 #[(10, 99), (32, 99), (40, 101), (41, 101), (42, 101), (43, 101), (45, 101), (47, 101), (59, 101), (60, 101), (61, 101)], 99) := by decide +kernel
theorem k_45_128 : cd 45 128 = some (.iconst 4, 1) := by decide +kernel
theorem k_45_129 : cd 45 129 = some (.ireturn, 1) := by decide +kernel
theorem k_45_130 : cd 45 130 = some (.iconst 3, 1) := by decide +kernel
theorem k_45_131 : cd 45 131 = some (.ireturn, 1) := by decide +kernel
theorem k_45_132 : cd 45 132 = some (.iconst 5, 1) := by decide +kernel
theorem k_45_133 : cd 45 133 = some (.ireturn, 1) := by decide +kernel
theorem po_45 : po 45 = 6 := rfl
noncomputable def C_45_14  (x0 : Int32) (σ : pS) : Option pZ := den 45 0 14 [.int x0] [] σ
theorem T_45_14  {x0 : Int32}  {σ : pS} {ρ : Nat → Nat → Option Nat} (e : gR σ = ρ) (hL : LayR ρ) : Le
  (if x0 < (ι 48) then if x0 = (ι 10) then some (1, .int (ι 4), σ) else if x0 = (ι 32) then some (1, .int (ι 4), σ) else if x0 = (ι 40) then some (1, .int (ι 3), σ) else if x0 = (ι 41) then some (1, .int (ι 3), σ) else if x0 = (ι 42) then some (1, .int (ι 3), σ) else if x0 = (ι 43) then some (1, .int (ι 3), σ) else if x0 = (ι 45) then some (1, .int (ι 3), σ) else if x0 = (ι 47) then some (1, .int (ι 3), σ) else if x0 = (ι 59) then some (1, .int (ι 3), σ) else if x0 = (ι 60) then some (1, .int (ι 3), σ) else if x0 = (ι 61) then some (1, .int (ι 3), σ) else some (1, .int (ι 5), σ) else if (ι 57) < x0 then if x0 = (ι 10) then some (1, .int (ι 4), σ) else if x0 = (ι 32) then some (1, .int (ι 4), σ) else if x0 = (ι 40) then some (1, .int (ι 3), σ) else if x0 = (ι 41) then some (1, .int (ι 3), σ) else if x0 = (ι 42) then some (1, .int (ι 3), σ) else if x0 = (ι 43) then some (1, .int (ι 3), σ) else if x0 = (ι 45) then some (1, .int (ι 3), σ) else if x0 = (ι 47) then some (1, .int (ι 3), σ) else if x0 = (ι 59) then some (1, .int (ι 3), σ) else if x0 = (ι 60) then some (1, .int (ι 3), σ) else if x0 = (ι 61) then some (1, .int (ι 3), σ) else some (1, .int (ι 5), σ) else some (1, .int (ι 2), σ))
  (C_45_14  x0 σ) := by
  unfold C_45_14
  exact r_iload_n k_45_14 rfl rfl
    (r_bipush k_45_15 rfl rfl
    (r_icmp (tgt := 28) k_45_17 rfl rfl cop_lt
    (r_iload_n k_45_28 rfl rfl
    (r_case (fun c1 => r_lookGo (off := 99) (tgt := 128) c1 k_45_29 (by decide) (by decide) rfl (r_iconst k_45_128 rfl rfl
    (r_ret k_45_129 rfl rfl)))
    (fun d1 => r_case (fun c2 => r_lookGo (off := 99) (tgt := 128) c2 k_45_29 (by decide) (by decide) rfl (r_iconst k_45_128 rfl rfl
    (r_ret k_45_129 rfl rfl)))
    (fun d2 => r_case (fun c3 => r_lookGo (off := 101) (tgt := 130) c3 k_45_29 (by decide) (by decide) rfl (r_iconst k_45_130 rfl rfl
    (r_ret k_45_131 rfl rfl)))
    (fun d3 => r_case (fun c4 => r_lookGo (off := 101) (tgt := 130) c4 k_45_29 (by decide) (by decide) rfl (r_iconst k_45_130 rfl rfl
    (r_ret k_45_131 rfl rfl)))
    (fun d4 => r_case (fun c5 => r_lookGo (off := 101) (tgt := 130) c5 k_45_29 (by decide) (by decide) rfl (r_iconst k_45_130 rfl rfl
    (r_ret k_45_131 rfl rfl)))
    (fun d5 => r_case (fun c6 => r_lookGo (off := 101) (tgt := 130) c6 k_45_29 (by decide) (by decide) rfl (r_iconst k_45_130 rfl rfl
    (r_ret k_45_131 rfl rfl)))
    (fun d6 => r_case (fun c7 => r_lookGo (off := 101) (tgt := 130) c7 k_45_29 (by decide) (by decide) rfl (r_iconst k_45_130 rfl rfl
    (r_ret k_45_131 rfl rfl)))
    (fun d7 => r_case (fun c8 => r_lookGo (off := 101) (tgt := 130) c8 k_45_29 (by decide) (by decide) rfl (r_iconst k_45_130 rfl rfl
    (r_ret k_45_131 rfl rfl)))
    (fun d8 => r_case (fun c9 => r_lookGo (off := 101) (tgt := 130) c9 k_45_29 (by decide) (by decide) rfl (r_iconst k_45_130 rfl rfl
    (r_ret k_45_131 rfl rfl)))
    (fun d9 => r_case (fun c10 => r_lookGo (off := 101) (tgt := 130) c10 k_45_29 (by decide) (by decide) rfl (r_iconst k_45_130 rfl rfl
    (r_ret k_45_131 rfl rfl)))
    (fun d10 => r_case (fun c11 => r_lookGo (off := 101) (tgt := 130) c11 k_45_29 (by decide) (by decide) rfl (r_iconst k_45_130 rfl rfl
    (r_ret k_45_131 rfl rfl)))
    (fun d11 => r_look (off := 103) (tgt := 132) k_45_29 (by decide) ((lv_osw d1 (by decide)).trans ((lv_osw d2 (by decide)).trans ((lv_osw d3 (by decide)).trans ((lv_osw d4 (by decide)).trans ((lv_osw d5 (by decide)).trans ((lv_osw d6 (by decide)).trans ((lv_osw d7 (by decide)).trans ((lv_osw d8 (by decide)).trans ((lv_osw d9 (by decide)).trans ((lv_osw d10 (by decide)).trans ((lv_osw d11 (by decide)).trans (rfl)))))))))))) rfl (r_iconst k_45_132 rfl rfl
    (r_ret k_45_133 rfl rfl)))))))))))))))
    (r_iload_n k_45_20 rfl rfl
    (r_bipush k_45_21 rfl rfl
    (r_icmp (tgt := 28) k_45_23 rfl rfl cop_gt
    (r_iload_n k_45_28 rfl rfl
    (r_case (fun c12 => r_lookGo (off := 99) (tgt := 128) c12 k_45_29 (by decide) (by decide) rfl (r_iconst k_45_128 rfl rfl
    (r_ret k_45_129 rfl rfl)))
    (fun d12 => r_case (fun c13 => r_lookGo (off := 99) (tgt := 128) c13 k_45_29 (by decide) (by decide) rfl (r_iconst k_45_128 rfl rfl
    (r_ret k_45_129 rfl rfl)))
    (fun d13 => r_case (fun c14 => r_lookGo (off := 101) (tgt := 130) c14 k_45_29 (by decide) (by decide) rfl (r_iconst k_45_130 rfl rfl
    (r_ret k_45_131 rfl rfl)))
    (fun d14 => r_case (fun c15 => r_lookGo (off := 101) (tgt := 130) c15 k_45_29 (by decide) (by decide) rfl (r_iconst k_45_130 rfl rfl
    (r_ret k_45_131 rfl rfl)))
    (fun d15 => r_case (fun c16 => r_lookGo (off := 101) (tgt := 130) c16 k_45_29 (by decide) (by decide) rfl (r_iconst k_45_130 rfl rfl
    (r_ret k_45_131 rfl rfl)))
    (fun d16 => r_case (fun c17 => r_lookGo (off := 101) (tgt := 130) c17 k_45_29 (by decide) (by decide) rfl (r_iconst k_45_130 rfl rfl
    (r_ret k_45_131 rfl rfl)))
    (fun d17 => r_case (fun c18 => r_lookGo (off := 101) (tgt := 130) c18 k_45_29 (by decide) (by decide) rfl (r_iconst k_45_130 rfl rfl
    (r_ret k_45_131 rfl rfl)))
    (fun d18 => r_case (fun c19 => r_lookGo (off := 101) (tgt := 130) c19 k_45_29 (by decide) (by decide) rfl (r_iconst k_45_130 rfl rfl
    (r_ret k_45_131 rfl rfl)))
    (fun d19 => r_case (fun c20 => r_lookGo (off := 101) (tgt := 130) c20 k_45_29 (by decide) (by decide) rfl (r_iconst k_45_130 rfl rfl
    (r_ret k_45_131 rfl rfl)))
    (fun d20 => r_case (fun c21 => r_lookGo (off := 101) (tgt := 130) c21 k_45_29 (by decide) (by decide) rfl (r_iconst k_45_130 rfl rfl
    (r_ret k_45_131 rfl rfl)))
    (fun d21 => r_case (fun c22 => r_lookGo (off := 101) (tgt := 130) c22 k_45_29 (by decide) (by decide) rfl (r_iconst k_45_130 rfl rfl
    (r_ret k_45_131 rfl rfl)))
    (fun d22 => r_look (off := 103) (tgt := 132) k_45_29 (by decide) ((lv_osw d12 (by decide)).trans ((lv_osw d13 (by decide)).trans ((lv_osw d14 (by decide)).trans ((lv_osw d15 (by decide)).trans ((lv_osw d16 (by decide)).trans ((lv_osw d17 (by decide)).trans ((lv_osw d18 (by decide)).trans ((lv_osw d19 (by decide)).trans ((lv_osw d20 (by decide)).trans ((lv_osw d21 (by decide)).trans ((lv_osw d22 (by decide)).trans (rfl)))))))))))) rfl (r_iconst k_45_132 rfl rfl
    (r_ret k_45_133 rfl rfl)))))))))))))))
    (r_iconst k_45_26 rfl rfl
    (r_ret k_45_27 rfl rfl)))))))
theorem M_45  {x0 : Int32} {σ : pS} {ρ : Nat → Nat → Option Nat} (e : gR σ = ρ) (hL : LayR ρ) : Le
  (if x0 < (ι 97) then C_45_14 x0 σ else if (ι 122) < x0 then C_45_14 x0 σ else some (1, .int (ι 1), σ))
  (pcall 45 [.int x0] σ) := by
  show Le _ (den 45 0 0 [.int x0] [] σ)
  exact r_iload_n k_45_0 rfl rfl
    (r_bipush k_45_1 rfl rfl
    (r_icmp (tgt := 14) k_45_3 rfl rfl cop_lt
    (Le.rfl')
    (r_iload_n k_45_6 rfl rfl
    (r_bipush k_45_7 rfl rfl
    (r_icmp (tgt := 14) k_45_9 rfl rfl cop_gt
    (Le.rfl')
    (r_iconst k_45_12 rfl rfl
    (r_ret k_45_13 rfl rfl)))))))
/-! ===== 46 HedgeWants.Reader.numberOf ===== -/
theorem k_46_0 : cd 46 0 = some (.iconst 0, 1) := by decide +kernel
theorem k_46_1 : cd 46 1 = some (.istore_n 1, 1) := by decide +kernel
theorem k_46_2 : cd 46 2 = some (.aload_n 0, 1) := by decide +kernel
theorem k_46_3 : cd 46 3 = some (.getfield 54, 3) := by decide +kernel
theorem k_46_6 : cd 46 6 = some (.istore_n 2, 1) := by decide +kernel
theorem k_46_7 : cd 46 7 = some (.iload_n 2, 1) := by decide +kernel
theorem k_46_8 : cd 46 8 = some (.ifCond .lt 51, 3) := by decide +kernel
theorem k_46_11 : cd 46 11 = some (.iload_n 2, 1) := by decide +kernel
theorem k_46_12 : cd 46 12 = some (.aload_n 0, 1) := by decide +kernel
theorem k_46_13 : cd 46 13 = some (.getfield 36, 3) := by decide +kernel
theorem k_46_16 : cd 46 16 = some (.if_icmp .ge 43, 3) := by decide +kernel
theorem k_46_19 : cd 46 19 = some (.iload_n 2, 1) := by decide +kernel
theorem k_46_20 : cd 46 20 = some (.aload_n 0, 1) := by decide +kernel
theorem k_46_21 : cd 46 21 = some (.getfield 9, 3) := by decide +kernel
theorem k_46_24 : cd 46 24 = some (.arraylength, 1) := by decide +kernel
theorem k_46_25 : cd 46 25 = some (.if_icmp .ge 34, 3) := by decide +kernel
theorem k_46_28 : cd 46 28 = some (.iload_n 2, 1) := by decide +kernel
theorem k_46_29 : cd 46 29 = some (.aload_n 0, 1) := by decide +kernel
theorem k_46_30 : cd 46 30 = some (.getfield 54, 3) := by decide +kernel
theorem k_46_33 : cd 46 33 = some (.iconst 4, 1) := by decide +kernel
theorem k_46_34 : cd 46 34 = some (.iadd, 1) := by decide +kernel
theorem k_46_35 : cd 46 35 = some (.if_icmp .ge 24, 3) := by decide +kernel
theorem k_46_38 : cd 46 38 = some (.iload_n 1, 1) := by decide +kernel
theorem k_46_39 : cd 46 39 = some (.bipush 10, 2) := by decide +kernel
theorem k_46_41 : cd 46 41 = some (.imul, 1) := by decide +kernel
theorem k_46_42 : cd 46 42 = some (.aload_n 0, 1) := by decide +kernel
theorem k_46_43 : cd 46 43 = some (.getfield 9, 3) := by decide +kernel
theorem k_46_46 : cd 46 46 = some (.iload_n 2, 1) := by decide +kernel
theorem k_46_47 : cd 46 47 = some (.iaload, 1) := by decide +kernel
theorem k_46_48 : cd 46 48 = some (.iadd, 1) := by decide +kernel
theorem k_46_49 : cd 46 49 = some (.bipush 48, 2) := by decide +kernel
theorem k_46_51 : cd 46 51 = some (.isub, 1) := by decide +kernel
theorem k_46_52 : cd 46 52 = some (.istore_n 1, 1) := by decide +kernel
theorem k_46_53 : cd 46 53 = some (.iinc 2 1, 3) := by decide +kernel
theorem k_46_56 : cd 46 56 = some (.goto (-49), 3) := by decide +kernel
theorem k_46_59 : cd 46 59 = some (.iload_n 1, 1) := by decide +kernel
theorem k_46_60 : cd 46 60 = some (.ireturn, 1) := by decide +kernel
theorem po_46 : po 46 = 6 := rfl
noncomputable def C_46_7  (x1 : Int32) (x2 : Int32) (σ : pS) : Option pZ := den 46 0 7 [.ref 24, .int x1, .int x2] [] σ
theorem T_46_7  {x1 : Int32} {x2 : Int32}  {σ : pS} {ρ : Nat → Nat → Option Nat} (e : gR σ = ρ) (hL : LayR ρ) : Le
  (if x2 < (ι 0) then some (1, .int x1, σ) else if (gI σ 24 3) ≤ x2 then some (1, .int x1, σ) else if (ι 700) ≤ x2 then some (1, .int x1, σ) else if ((gI σ 24 2) + (ι 4)) ≤ x2 then some (1, .int x1, σ) else gd (inb x2 700) (C_46_7 (((x1 * (ι 10)) + (gI σ 1 (ix x2))) - (ι 48)) (x2 + (ι 1)) σ))
  (C_46_7  x1 x2 σ) := by
  unfold C_46_7
  exact r_iload_n k_46_7 rfl rfl
    (r_if (tgt := 59) k_46_8 rfl rfl cop_lt
    (r_iload_n k_46_59 rfl rfl
    (r_ret k_46_60 rfl rfl))
    (r_iload_n k_46_11 rfl rfl
    (r_aload_n k_46_12 rfl rfl
    (r_getI k_46_13 rfl po_46 rfl rfl rfl rfl
    (r_icmp (tgt := 59) k_46_16 rfl rfl cop_ge
    (r_iload_n k_46_59 rfl rfl
    (r_ret k_46_60 rfl rfl))
    (r_iload_n k_46_19 rfl rfl
    (r_aload_n k_46_20 rfl rfl
    (r_getR k_46_21 rfl po_46 rfl rfl rfl rfl (gRat e (LayR.at hL (i := 29) rfl))
    (r_alenI k_46_24 rfl rfl rfl
    (r_icmp (tgt := 59) k_46_25 rfl rfl cop_ge
    (r_iload_n k_46_59 rfl rfl
    (r_ret k_46_60 rfl rfl))
    (r_iload_n k_46_28 rfl rfl
    (r_aload_n k_46_29 rfl rfl
    (r_getI k_46_30 rfl po_46 rfl rfl rfl rfl
    (r_iconst k_46_33 rfl rfl
    (r_iadd k_46_34 rfl
    (r_icmp (tgt := 59) k_46_35 rfl rfl cop_ge
    (r_iload_n k_46_59 rfl rfl
    (r_ret k_46_60 rfl rfl))
    (r_iload_n k_46_38 rfl rfl
    (r_bipush k_46_39 rfl rfl
    (r_imul k_46_41 rfl
    (r_aload_n k_46_42 rfl rfl
    (r_getR k_46_43 rfl po_46 rfl rfl rfl rfl (gRat e (LayR.at hL (i := 29) rfl))
    (r_iload_n k_46_46 rfl rfl
    (r_gd fun g => r_iald k_46_47 rfl rfl g
    (r_iadd k_46_48 rfl
    (r_bipush k_46_49 rfl rfl
    (r_isub k_46_51 rfl
    (r_istore_n k_46_52 rfl rfl rfl
    (r_iinc k_46_53 rfl rfl rfl rfl
    (r_goto (tgt := 7) k_46_56 rfl (Le.rfl'))))))))))))))))))))))))))))))
theorem M_46   {σ : pS} {ρ : Nat → Nat → Option Nat} (e : gR σ = ρ) (hL : LayR ρ) : Le
  (C_46_7 (ι 0) (gI σ 24 2) σ)
  (pcall 46 [.ref 24] σ) := by
  show Le _ (den 46 0 0 [.ref 24, .retAddr 0, .retAddr 0] [] σ)
  exact r_iconst k_46_0 rfl rfl
    (r_istore_n k_46_1 rfl rfl rfl
    (r_aload_n k_46_2 rfl rfl
    (r_getI k_46_3 rfl po_46 rfl rfl rfl rfl
    (r_istore_n k_46_6 rfl rfl rfl
    (Le.rfl')))))
/-! ===== 47 HedgeWants.Reader.readLine ===== -/
theorem k_47_0 : cd 47 0 = some (.aload_n 0, 1) := by decide +kernel
theorem k_47_1 : cd 47 1 = some (.ldc 80, 2) := by decide +kernel
theorem k_47_3 : cd 47 3 = some (.invokevirtual 82, 3) := by decide +kernel
theorem k_47_6 : cd 47 6 = some (.ifCond .eq 10, 3) := by decide +kernel
theorem k_47_9 : cd 47 9 = some (.aload_n 0, 1) := by decide +kernel
theorem k_47_10 : cd 47 10 = some (.invokevirtual 86, 3) := by decide +kernel
theorem k_47_13 : cd 47 13 = some (.goto 116, 3) := by decide +kernel
theorem k_47_16 : cd 47 16 = some (.aload_n 0, 1) := by decide +kernel
theorem k_47_17 : cd 47 17 = some (.ldc 89, 2) := by decide +kernel
theorem k_47_19 : cd 47 19 = some (.invokevirtual 82, 3) := by decide +kernel
theorem k_47_22 : cd 47 22 = some (.ifCond .eq 11, 3) := by decide +kernel
theorem k_47_25 : cd 47 25 = some (.aload_n 0, 1) := by decide +kernel
theorem k_47_26 : cd 47 26 = some (.iconst 0, 1) := by decide +kernel
theorem k_47_27 : cd 47 27 = some (.invokevirtual 91, 3) := by decide +kernel
theorem k_47_30 : cd 47 30 = some (.goto 99, 3) := by decide +kernel
theorem k_47_33 : cd 47 33 = some (.aload_n 0, 1) := by decide +kernel
theorem k_47_34 : cd 47 34 = some (.ldc 95, 2) := by decide +kernel
theorem k_47_36 : cd 47 36 = some (.invokevirtual 82, 3) := by decide +kernel
theorem k_47_39 : cd 47 39 = some (.ifCond .eq 11, 3) := by decide +kernel
theorem k_47_42 : cd 47 42 = some (.aload_n 0, 1) := by decide +kernel
theorem k_47_43 : cd 47 43 = some (.iconst 1, 1) := by decide +kernel
theorem k_47_44 : cd 47 44 = some (.invokevirtual 91, 3) := by decide +kernel
theorem k_47_47 : cd 47 47 = some (.goto 82, 3) := by decide +kernel
theorem k_47_50 : cd 47 50 = some (.aload_n 0, 1) := by decide +kernel
theorem k_47_51 : cd 47 51 = some (.ldc 97, 2) := by decide +kernel
theorem k_47_53 : cd 47 53 = some (.invokevirtual 82, 3) := by decide +kernel
theorem k_47_56 : cd 47 56 = some (.ifCond .eq 10, 3) := by decide +kernel
theorem k_47_59 : cd 47 59 = some (.aload_n 0, 1) := by decide +kernel
theorem k_47_60 : cd 47 60 = some (.invokevirtual 99, 3) := by decide +kernel
theorem k_47_63 : cd 47 63 = some (.goto 66, 3) := by decide +kernel
theorem k_47_66 : cd 47 66 = some (.aload_n 0, 1) := by decide +kernel
theorem k_47_67 : cd 47 67 = some (.ldc 102, 2) := by decide +kernel
theorem k_47_69 : cd 47 69 = some (.invokevirtual 82, 3) := by decide +kernel
theorem k_47_72 : cd 47 72 = some (.ifCond .eq 23, 3) := by decide +kernel
theorem k_47_75 : cd 47 75 = some (.aload_n 0, 1) := by decide +kernel
theorem k_47_76 : cd 47 76 = some (.aload_n 0, 1) := by decide +kernel
theorem k_47_77 : cd 47 77 = some (.getfield 19, 3) := by decide +kernel
theorem k_47_80 : cd 47 80 = some (.invokevirtual 23, 3) := by decide +kernel
theorem k_47_83 : cd 47 83 = some (.iconst 1, 1) := by decide +kernel
theorem k_47_84 : cd 47 84 = some (.invokevirtual 103, 3) := by decide +kernel
theorem k_47_87 : cd 47 87 = some (.aload_n 0, 1) := by decide +kernel
theorem k_47_88 : cd 47 88 = some (.iconst 0, 1) := by decide +kernel
theorem k_47_89 : cd 47 89 = some (.invokevirtual 107, 3) := by decide +kernel
theorem k_47_92 : cd 47 92 = some (.goto 37, 3) := by decide +kernel
theorem k_47_95 : cd 47 95 = some (.aload_n 0, 1) := by decide +kernel
theorem k_47_96 : cd 47 96 = some (.ldc 111, 2) := by decide +kernel
theorem k_47_98 : cd 47 98 = some (.invokevirtual 82, 3) := by decide +kernel
theorem k_47_101 : cd 47 101 = some (.ifCond .eq 23, 3) := by decide +kernel
theorem k_47_104 : cd 47 104 = some (.aload_n 0, 1) := by decide +kernel
theorem k_47_105 : cd 47 105 = some (.aload_n 0, 1) := by decide +kernel
theorem k_47_106 : cd 47 106 = some (.getfield 19, 3) := by decide +kernel
theorem k_47_109 : cd 47 109 = some (.invokevirtual 113, 3) := by decide +kernel
theorem k_47_112 : cd 47 112 = some (.iconst 0, 1) := by decide +kernel
theorem k_47_113 : cd 47 113 = some (.invokevirtual 103, 3) := by decide +kernel
theorem k_47_116 : cd 47 116 = some (.aload_n 0, 1) := by decide +kernel
theorem k_47_117 : cd 47 117 = some (.iconst 0, 1) := by decide +kernel
theorem k_47_118 : cd 47 118 = some (.invokevirtual 107, 3) := by decide +kernel
theorem k_47_121 : cd 47 121 = some (.goto 8, 3) := by decide +kernel
theorem k_47_124 : cd 47 124 = some (.aload_n 0, 1) := by decide +kernel
theorem k_47_125 : cd 47 125 = some (.iconst 1, 1) := by decide +kernel
theorem k_47_126 : cd 47 126 = some (.invokevirtual 115, 3) := by decide +kernel
theorem k_47_129 : cd 47 129 = some (.aload_n 0, 1) := by decide +kernel
theorem k_47_130 : cd 47 130 = some (.bipush 59, 2) := by decide +kernel
theorem k_47_132 : cd 47 132 = some (.invokevirtual 118, 3) := by decide +kernel
theorem k_47_135 : cd 47 135 = some (.return_, 1) := by decide +kernel
theorem po_47 : po 47 = 6 := rfl
theorem M_47   {σ : pS} {ρ : Nat → Nat → Option Nat} (e : gR σ = ρ) (hL : LayR ρ) : Le
  (bI (pcall 48 [.ref 24, .ref 1002] σ) fun r1 σ1 => if r1 = (ι 0) then bI (pcall 48 [.ref 24, .ref 1003] σ1) fun r2 σ2 => if r2 = (ι 0) then bI (pcall 48 [.ref 24, .ref 1004] σ2) fun r3 σ3 => if r3 = (ι 0) then bI (pcall 48 [.ref 24, .ref 1005] σ3) fun r4 σ4 => if r4 = (ι 0) then bI (pcall 48 [.ref 24, .ref 1006] σ4) fun r5 σ5 => if r5 = (ι 0) then bI (pcall 48 [.ref 24, .ref 1018] σ5) fun r6 σ6 => if r6 = (ι 0) then bV (pcall 50 [.ref 24, .int (ι 1)] σ6) fun σ7 => bV (pcall 66 [.ref 24, .int (ι 59)] σ7) fun σ8 => some (0, .null, σ8) else bG isP (gR σ6 24 8) fun q9 => bA (pcall 28 [.ref q9] σ6) fun r10 σ10 => gd (isU r10) (bV (pcall 56 [.ref 24, .ref r10, .int (ι 0)] σ10) fun σ11 => gd (LayR (gR σ11)) (bV (pcall 57 [.ref 24, .int (ι 0)] σ11) fun σ12 => bV (pcall 66 [.ref 24, .int (ι 59)] σ12) fun σ13 => some (0, .null, σ13))) else bG isP (gR σ5 24 8) fun q14 => bA (pcall 25 [.ref q14] σ5) fun r15 σ15 => gd (isU r15) (bV (pcall 56 [.ref 24, .ref r15, .int (ι 1)] σ15) fun σ16 => gd (LayR (gR σ16)) (bV (pcall 57 [.ref 24, .int (ι 0)] σ16) fun σ17 => bV (pcall 66 [.ref 24, .int (ι 59)] σ17) fun σ18 => some (0, .null, σ18))) else bV (pcall 55 [.ref 24] σ4) fun σ19 => bV (pcall 66 [.ref 24, .int (ι 59)] σ19) fun σ20 => some (0, .null, σ20) else bV (pcall 53 [.ref 24, .int (ι 1)] σ3) fun σ21 => bV (pcall 66 [.ref 24, .int (ι 59)] σ21) fun σ22 => some (0, .null, σ22) else bV (pcall 53 [.ref 24, .int (ι 0)] σ2) fun σ23 => bV (pcall 66 [.ref 24, .int (ι 59)] σ23) fun σ24 => some (0, .null, σ24) else bV (pcall 49 [.ref 24] σ1) fun σ25 => bV (pcall 66 [.ref 24, .int (ι 59)] σ25) fun σ26 => some (0, .null, σ26))
  (pcall 47 [.ref 24] σ) := by
  show Le _ (den 47 0 0 [.ref 24] [] σ)
  exact r_aload_n k_47_0 rfl rfl
    (r_ldcS k_47_1 rfl po_47 rfl rfl
    (r_callI (q_virt (rest := []) (as := [.ref 1002]) k_47_3 po_47 rfl rfl rfl (rcvO rfl rfl rfl) rfl rfl) (lvq (j := 0) rfl (by decide +kernel)) rfl rfl (fun r1 σ1 h1 => r_if (tgt := 16) k_47_6 rfl rfl cop_eq
    (r_aload_n k_47_16 rfl rfl
    (r_ldcS k_47_17 rfl po_47 rfl rfl
    (r_callI (q_virt (rest := []) (as := [.ref 1003]) k_47_19 po_47 rfl rfl rfl (rcvO rfl rfl rfl) rfl rfl) (lvq (j := 0) rfl (by decide +kernel)) rfl rfl (fun r2 σ2 h2 => r_if (tgt := 33) k_47_22 rfl rfl cop_eq
    (r_aload_n k_47_33 rfl rfl
    (r_ldcS k_47_34 rfl po_47 rfl rfl
    (r_callI (q_virt (rest := []) (as := [.ref 1004]) k_47_36 po_47 rfl rfl rfl (rcvO rfl rfl rfl) rfl rfl) (lvq (j := 0) rfl (by decide +kernel)) rfl rfl (fun r3 σ3 h3 => r_if (tgt := 50) k_47_39 rfl rfl cop_eq
    (r_aload_n k_47_50 rfl rfl
    (r_ldcS k_47_51 rfl po_47 rfl rfl
    (r_callI (q_virt (rest := []) (as := [.ref 1005]) k_47_53 po_47 rfl rfl rfl (rcvO rfl rfl rfl) rfl rfl) (lvq (j := 0) rfl (by decide +kernel)) rfl rfl (fun r4 σ4 h4 => r_if (tgt := 66) k_47_56 rfl rfl cop_eq
    (r_aload_n k_47_66 rfl rfl
    (r_ldcS k_47_67 rfl po_47 rfl rfl
    (r_callI (q_virt (rest := []) (as := [.ref 1006]) k_47_69 po_47 rfl rfl rfl (rcvO rfl rfl rfl) rfl rfl) (lvq (j := 0) rfl (by decide +kernel)) rfl rfl (fun r5 σ5 h5 => r_if (tgt := 95) k_47_72 rfl rfl cop_eq
    (r_aload_n k_47_95 rfl rfl
    (r_ldcS k_47_96 rfl po_47 rfl rfl
    (r_callI (q_virt (rest := []) (as := [.ref 1018]) k_47_98 po_47 rfl rfl rfl (rcvO rfl rfl rfl) rfl rfl) (lvq (j := 0) rfl (by decide +kernel)) rfl rfl (fun r6 σ6 h6 => r_if (tgt := 124) k_47_101 rfl rfl cop_eq
    (r_aload_n k_47_124 rfl rfl
    (r_iconst k_47_125 rfl rfl
    (r_callV (q_virt (rest := []) (as := [.int (ι 1)]) k_47_126 po_47 rfl rfl rfl (rcvO rfl rfl rfl) rfl rfl) (lvq (j := 0) rfl (by decide +kernel)) rfl rfl (fun _ σ7 h7 => r_aload_n k_47_129 rfl rfl
    (r_bipush k_47_130 rfl rfl
    (r_callV (q_virt (rest := []) (as := [.int (ι 59)]) k_47_132 po_47 rfl rfl rfl (rcvO rfl rfl rfl) rfl rfl) (lvq (j := 0) rfl (by decide +kernel)) rfl rfl (fun _ σ8 h8 => r_retV k_47_135 rfl)))))))
    (r_aload_n k_47_104 rfl rfl
    (r_aload_n k_47_105 rfl rfl
    (r_getG k_47_106 rfl po_47 rfl rfl rfl rfl fun q9 hq9 => r_callA (q_virt (rest := [.ref 24]) (as := []) k_47_109 po_47 rfl rfl rfl (rcvO rfl rfl (kdP hq9)) rfl rfl) (lvq (j := 0) rfl (by decide +kernel)) rfl rfl (fun r10 σ10 h10 => r_gd fun hr10 => r_iconst k_47_112 rfl rfl
    (r_callV (q_virt (rest := []) (as := [.ref r10, .int (ι 0)]) k_47_113 po_47 rfl rfl rfl (rcvO rfl rfl rfl) rfl rfl) (lvq (j := 0) rfl (by decide +kernel)) rfl rfl (fun _ σ11 h11 => r_gd fun L11 => r_aload_n k_47_116 rfl rfl
    (r_iconst k_47_117 rfl rfl
    (r_callV (q_virt (rest := []) (as := [.int (ι 0)]) k_47_118 po_47 rfl rfl rfl (rcvO rfl rfl rfl) rfl rfl) (lvq (j := 0) rfl (by decide +kernel)) rfl rfl (fun _ σ12 h12 => r_goto (tgt := 129) k_47_121 rfl (r_aload_n k_47_129 rfl rfl
    (r_bipush k_47_130 rfl rfl
    (r_callV (q_virt (rest := []) (as := [.int (ι 59)]) k_47_132 po_47 rfl rfl rfl (rcvO rfl rfl rfl) rfl rfl) (lvq (j := 0) rfl (by decide +kernel)) rfl rfl (fun _ σ13 h13 => r_retV k_47_135 rfl)))))))))))))))))
    (r_aload_n k_47_75 rfl rfl
    (r_aload_n k_47_76 rfl rfl
    (r_getG k_47_77 rfl po_47 rfl rfl rfl rfl fun q14 hq14 => r_callA (q_virt (rest := [.ref 24]) (as := []) k_47_80 po_47 rfl rfl rfl (rcvO rfl rfl (kdP hq14)) rfl rfl) (lvq (j := 0) rfl (by decide +kernel)) rfl rfl (fun r15 σ15 h15 => r_gd fun hr15 => r_iconst k_47_83 rfl rfl
    (r_callV (q_virt (rest := []) (as := [.ref r15, .int (ι 1)]) k_47_84 po_47 rfl rfl rfl (rcvO rfl rfl rfl) rfl rfl) (lvq (j := 0) rfl (by decide +kernel)) rfl rfl (fun _ σ16 h16 => r_gd fun L16 => r_aload_n k_47_87 rfl rfl
    (r_iconst k_47_88 rfl rfl
    (r_callV (q_virt (rest := []) (as := [.int (ι 0)]) k_47_89 po_47 rfl rfl rfl (rcvO rfl rfl rfl) rfl rfl) (lvq (j := 0) rfl (by decide +kernel)) rfl rfl (fun _ σ17 h17 => r_goto (tgt := 129) k_47_92 rfl (r_aload_n k_47_129 rfl rfl
    (r_bipush k_47_130 rfl rfl
    (r_callV (q_virt (rest := []) (as := [.int (ι 59)]) k_47_132 po_47 rfl rfl rfl (rcvO rfl rfl rfl) rfl rfl) (lvq (j := 0) rfl (by decide +kernel)) rfl rfl (fun _ σ18 h18 => r_retV k_47_135 rfl)))))))))))))))))
    (r_aload_n k_47_59 rfl rfl
    (r_callV (q_virt (rest := []) (as := []) k_47_60 po_47 rfl rfl rfl (rcvO rfl rfl rfl) rfl rfl) (lvq (j := 0) rfl (by decide +kernel)) rfl rfl (fun _ σ19 h19 => r_goto (tgt := 129) k_47_63 rfl (r_aload_n k_47_129 rfl rfl
    (r_bipush k_47_130 rfl rfl
    (r_callV (q_virt (rest := []) (as := [.int (ι 59)]) k_47_132 po_47 rfl rfl rfl (rcvO rfl rfl rfl) rfl rfl) (lvq (j := 0) rfl (by decide +kernel)) rfl rfl (fun _ σ20 h20 => r_retV k_47_135 rfl)))))))))))
    (r_aload_n k_47_42 rfl rfl
    (r_iconst k_47_43 rfl rfl
    (r_callV (q_virt (rest := []) (as := [.int (ι 1)]) k_47_44 po_47 rfl rfl rfl (rcvO rfl rfl rfl) rfl rfl) (lvq (j := 0) rfl (by decide +kernel)) rfl rfl (fun _ σ21 h21 => r_goto (tgt := 129) k_47_47 rfl (r_aload_n k_47_129 rfl rfl
    (r_bipush k_47_130 rfl rfl
    (r_callV (q_virt (rest := []) (as := [.int (ι 59)]) k_47_132 po_47 rfl rfl rfl (rcvO rfl rfl rfl) rfl rfl) (lvq (j := 0) rfl (by decide +kernel)) rfl rfl (fun _ σ22 h22 => r_retV k_47_135 rfl))))))))))))
    (r_aload_n k_47_25 rfl rfl
    (r_iconst k_47_26 rfl rfl
    (r_callV (q_virt (rest := []) (as := [.int (ι 0)]) k_47_27 po_47 rfl rfl rfl (rcvO rfl rfl rfl) rfl rfl) (lvq (j := 0) rfl (by decide +kernel)) rfl rfl (fun _ σ23 h23 => r_goto (tgt := 129) k_47_30 rfl (r_aload_n k_47_129 rfl rfl
    (r_bipush k_47_130 rfl rfl
    (r_callV (q_virt (rest := []) (as := [.int (ι 59)]) k_47_132 po_47 rfl rfl rfl (rcvO rfl rfl rfl) rfl rfl) (lvq (j := 0) rfl (by decide +kernel)) rfl rfl (fun _ σ24 h24 => r_retV k_47_135 rfl))))))))))))
    (r_aload_n k_47_9 rfl rfl
    (r_callV (q_virt (rest := []) (as := []) k_47_10 po_47 rfl rfl rfl (rcvO rfl rfl rfl) rfl rfl) (lvq (j := 0) rfl (by decide +kernel)) rfl rfl (fun _ σ25 h25 => r_goto (tgt := 129) k_47_13 rfl (r_aload_n k_47_129 rfl rfl
    (r_bipush k_47_130 rfl rfl
    (r_callV (q_virt (rest := []) (as := [.int (ι 59)]) k_47_132 po_47 rfl rfl rfl (rcvO rfl rfl rfl) rfl rfl) (lvq (j := 0) rfl (by decide +kernel)) rfl rfl (fun _ σ26 h26 => r_retV k_47_135 rfl))))))))))
/-! ===== 48 HedgeWants.Reader.isWord ===== -/
theorem k_48_0 : cd 48 0 = some (.aload_n 0, 1) := by decide +kernel
theorem k_48_1 : cd 48 1 = some (.getfield 48, 3) := by decide +kernel
theorem k_48_4 : cd 48 4 = some (.iconst 1, 1) := by decide +kernel
theorem k_48_5 : cd 48 5 = some (.if_icmp .ne 19, 3) := by decide +kernel
theorem k_48_8 : cd 48 8 = some (.aload_n 0, 1) := by decide +kernel
theorem k_48_9 : cd 48 9 = some (.getfield 36, 3) := by decide +kernel
theorem k_48_12 : cd 48 12 = some (.aload_n 0, 1) := by decide +kernel
theorem k_48_13 : cd 48 13 = some (.getfield 54, 3) := by decide +kernel
theorem k_48_16 : cd 48 16 = some (.isub, 1) := by decide +kernel
theorem k_48_17 : cd 48 17 = some (.aload_n 1, 1) := by decide +kernel
theorem k_48_18 : cd 48 18 = some (.invokevirtual 72, 3) := by decide +kernel
theorem k_48_21 : cd 48 21 = some (.if_icmp .eq 5, 3) := by decide +kernel
theorem k_48_24 : cd 48 24 = some (.iconst 0, 1) := by decide +kernel
theorem k_48_25 : cd 48 25 = some (.ireturn, 1) := by decide +kernel
theorem k_48_26 : cd 48 26 = some (.iconst 0, 1) := by decide +kernel
theorem k_48_27 : cd 48 27 = some (.istore_n 2, 1) := by decide +kernel
theorem k_48_28 : cd 48 28 = some (.iload_n 2, 1) := by decide +kernel
theorem k_48_29 : cd 48 29 = some (.aload_n 1, 1) := by decide +kernel
theorem k_48_30 : cd 48 30 = some (.invokevirtual 72, 3) := by decide +kernel
theorem k_48_33 : cd 48 33 = some (.if_icmp .ge 45, 3) := by decide +kernel
theorem k_48_36 : cd 48 36 = some (.aload_n 0, 1) := by decide +kernel
theorem k_48_37 : cd 48 37 = some (.getfield 54, 3) := by decide +kernel
theorem k_48_40 : cd 48 40 = some (.iload_n 2, 1) := by decide +kernel
theorem k_48_41 : cd 48 41 = some (.iadd, 1) := by decide +kernel
theorem k_48_42 : cd 48 42 = some (.istore_n 3, 1) := by decide +kernel
theorem k_48_43 : cd 48 43 = some (.iload_n 3, 1) := by decide +kernel
theorem k_48_44 : cd 48 44 = some (.ifCond .lt 26, 3) := by decide +kernel
theorem k_48_47 : cd 48 47 = some (.iload_n 3, 1) := by decide +kernel
theorem k_48_48 : cd 48 48 = some (.aload_n 0, 1) := by decide +kernel
theorem k_48_49 : cd 48 49 = some (.getfield 9, 3) := by decide +kernel
theorem k_48_52 : cd 48 52 = some (.arraylength, 1) := by decide +kernel
theorem k_48_53 : cd 48 53 = some (.if_icmp .ge 17, 3) := by decide +kernel
theorem k_48_56 : cd 48 56 = some (.aload_n 0, 1) := by decide +kernel
theorem k_48_57 : cd 48 57 = some (.getfield 9, 3) := by decide +kernel
theorem k_48_60 : cd 48 60 = some (.iload_n 3, 1) := by decide +kernel
theorem k_48_61 : cd 48 61 = some (.iaload, 1) := by decide +kernel
theorem k_48_62 : cd 48 62 = some (.aload_n 1, 1) := by decide +kernel
theorem k_48_63 : cd 48 63 = some (.iload_n 2, 1) := by decide +kernel
theorem k_48_64 : cd 48 64 = some (.invokevirtual 76, 3) := by decide +kernel
theorem k_48_67 : cd 48 67 = some (.if_icmp .eq 5, 3) := by decide +kernel
theorem k_48_70 : cd 48 70 = some (.iconst 0, 1) := by decide +kernel
theorem k_48_71 : cd 48 71 = some (.ireturn, 1) := by decide +kernel
theorem k_48_72 : cd 48 72 = some (.iinc 2 1, 3) := by decide +kernel
theorem k_48_75 : cd 48 75 = some (.goto (-47), 3) := by decide +kernel
theorem k_48_78 : cd 48 78 = some (.iconst 1, 1) := by decide +kernel
theorem k_48_79 : cd 48 79 = some (.ireturn, 1) := by decide +kernel
theorem po_48 : po 48 = 6 := rfl
noncomputable def C_48_28 (i1 : Nat) (x2 : Int32) (v3 : Value) (σ : pS) : Option pZ := den 48 0 28 [.ref 24, .ref (i1 + 1000), .int x2, v3] [] σ
theorem T_48_28 {i1 : Nat} (hi1 : i1 < 26) {x2 : Int32} {v3 : Value}  {σ : pS} {ρ : Nat → Nat → Option Nat} (e : gR σ = ρ) (hL : LayR ρ) : Le
  (bI (pcall 11 [.ref (i1 + 1000)] σ) fun r1 σ1 => if r1 ≤ x2 then some (1, .int (ι 1), σ1) else if ((gI σ1 24 2) + x2) < (ι 0) then some (1, .int (ι 0), σ1) else if (ι 700) ≤ ((gI σ1 24 2) + x2) then some (1, .int (ι 0), σ1) else gd (inb ((gI σ1 24 2) + x2) 700) (bI (pcall 13 [.ref (i1 + 1000), .int x2] σ1) fun r2 σ2 => if (gI σ1 1 (ix ((gI σ1 24 2) + x2))) = r2 then C_48_28 i1 (x2 + (ι 1)) (.int ((gI σ1 24 2) + x2)) σ2 else some (1, .int (ι 0), σ2)))
  (C_48_28 i1 x2 v3 σ) := by
  unfold C_48_28
  exact r_iload_n k_48_28 rfl rfl
    (r_aload_n k_48_29 rfl rfl
    (r_callI (q_virt (rest := [.int x2]) (as := []) k_48_30 po_48 rfl rfl rfl (rcvS (i := i1) rfl hi1) rfl rfl) (lvq (j := 0) rfl (by decide +kernel)) rfl rfl (fun r1 σ1 h1 => r_icmp (tgt := 78) k_48_33 rfl rfl cop_ge
    (r_iconst k_48_78 rfl rfl
    (r_ret k_48_79 rfl rfl))
    (r_aload_n k_48_36 rfl rfl
    (r_getI k_48_37 rfl po_48 rfl rfl rfl rfl
    (r_iload_n k_48_40 rfl rfl
    (r_iadd k_48_41 rfl
    (r_istore_n k_48_42 rfl rfl rfl
    (r_iload_n k_48_43 rfl rfl
    (r_if (tgt := 70) k_48_44 rfl rfl cop_lt
    (r_iconst k_48_70 rfl rfl
    (r_ret k_48_71 rfl rfl))
    (r_iload_n k_48_47 rfl rfl
    (r_aload_n k_48_48 rfl rfl
    (r_getR k_48_49 rfl po_48 rfl rfl rfl rfl (gRat (eC rfl h1 e) (LayR.at hL (i := 29) rfl))
    (r_alenI k_48_52 rfl rfl rfl
    (r_icmp (tgt := 70) k_48_53 rfl rfl cop_ge
    (r_iconst k_48_70 rfl rfl
    (r_ret k_48_71 rfl rfl))
    (r_aload_n k_48_56 rfl rfl
    (r_getR k_48_57 rfl po_48 rfl rfl rfl rfl (gRat (eC rfl h1 e) (LayR.at hL (i := 29) rfl))
    (r_iload_n k_48_60 rfl rfl
    (r_gd fun g => r_iald k_48_61 rfl rfl g
    (r_aload_n k_48_62 rfl rfl
    (r_iload_n k_48_63 rfl rfl
    (r_callI (q_virt (rest := [.int (gI σ1 1 (ix ((gI σ1 24 2) + x2)))]) (as := [.int x2]) k_48_64 po_48 rfl rfl rfl (rcvS (i := i1) rfl hi1) rfl rfl) (lvq (j := 0) rfl (by decide +kernel)) rfl rfl (fun r2 σ2 h2 => r_icmp (tgt := 72) k_48_67 rfl rfl cop_eq
    (r_iinc k_48_72 rfl rfl rfl rfl
    (r_goto (tgt := 28) k_48_75 rfl (Le.rfl')))
    (r_iconst k_48_70 rfl rfl
    (r_ret k_48_71 rfl rfl)))))))))))))))))))))))))
theorem M_48 {i1 : Nat} (hi1 : i1 < 26)  {σ : pS} {ρ : Nat → Nat → Option Nat} (e : gR σ = ρ) (hL : LayR ρ) : Le
  (if ¬ (gI σ 24 4) = (ι 1) then some (1, .int (ι 0), σ) else bI (pcall 11 [.ref (i1 + 1000)] σ) fun r1 σ1 => if ((gI σ 24 3) - (gI σ 24 2)) = r1 then C_48_28 i1 (ι 0) (.retAddr 0) σ1 else some (1, .int (ι 0), σ1))
  (pcall 48 [.ref 24, .ref (i1 + 1000)] σ) := by
  show Le _ (den 48 0 0 [.ref 24, .ref (i1 + 1000), .retAddr 0, .retAddr 0] [] σ)
  exact r_aload_n k_48_0 rfl rfl
    (r_getI k_48_1 rfl po_48 rfl rfl rfl rfl
    (r_iconst k_48_4 rfl rfl
    (r_icmp (tgt := 24) k_48_5 rfl rfl cop_ne
    (r_iconst k_48_24 rfl rfl
    (r_ret k_48_25 rfl rfl))
    (r_aload_n k_48_8 rfl rfl
    (r_getI k_48_9 rfl po_48 rfl rfl rfl rfl
    (r_aload_n k_48_12 rfl rfl
    (r_getI k_48_13 rfl po_48 rfl rfl rfl rfl
    (r_isub k_48_16 rfl
    (r_aload_n k_48_17 rfl rfl
    (r_callI (q_virt (rest := [.int ((gI σ 24 3) - (gI σ 24 2))]) (as := []) k_48_18 po_48 rfl rfl rfl (rcvS (i := i1) rfl hi1) rfl rfl) (lvq (j := 0) rfl (by decide +kernel)) rfl rfl (fun r1 σ1 h1 => r_icmp (tgt := 26) k_48_21 rfl rfl cop_eq
    (r_iconst k_48_26 rfl rfl
    (r_istore_n k_48_27 rfl rfl rfl
    (Le.rfl')))
    (r_iconst k_48_24 rfl rfl
    (r_ret k_48_25 rfl rfl)))))))))))))
/-! ===== 49 HedgeWants.Reader.readPerson ===== -/
theorem k_49_0 : cd 49 0 = some (.aload_n 0, 1) := by decide +kernel
theorem k_49_1 : cd 49 1 = some (.getfield 19, 3) := by decide +kernel
theorem k_49_4 : cd 49 4 = some (.invokevirtual 122, 3) := by decide +kernel
theorem k_49_7 : cd 49 7 = some (.bipush 8, 2) := by decide +kernel
theorem k_49_9 : cd 49 9 = some (.if_icmp .lt 11, 3) := by decide +kernel
theorem k_49_12 : cd 49 12 = some (.aload_n 0, 1) := by decide +kernel
theorem k_49_13 : cd 49 13 = some (.iconst 2, 1) := by decide +kernel
theorem k_49_14 : cd 49 14 = some (.invokevirtual 115, 3) := by decide +kernel
theorem k_49_17 : cd 49 17 = some (.goto 18, 3) := by decide +kernel
theorem k_49_20 : cd 49 20 = some (.aload_n 0, 1) := by decide +kernel
theorem k_49_21 : cd 49 21 = some (.getfield 19, 3) := by decide +kernel
theorem k_49_24 : cd 49 24 = some (.invokevirtual 125, 3) := by decide +kernel
theorem k_49_27 : cd 49 27 = some (.ifCond .le 8, 3) := by decide +kernel
theorem k_49_30 : cd 49 30 = some (.aload_n 0, 1) := by decide +kernel
theorem k_49_31 : cd 49 31 = some (.iconst 4, 1) := by decide +kernel
theorem k_49_32 : cd 49 32 = some (.invokevirtual 115, 3) := by decide +kernel
theorem k_49_35 : cd 49 35 = some (.aload_n 0, 1) := by decide +kernel
theorem k_49_36 : cd 49 36 = some (.invokevirtual 45, 3) := by decide +kernel
theorem k_49_39 : cd 49 39 = some (.aload_n 0, 1) := by decide +kernel
theorem k_49_40 : cd 49 40 = some (.getfield 19, 3) := by decide +kernel
theorem k_49_43 : cd 49 43 = some (.aload_n 0, 1) := by decide +kernel
theorem k_49_44 : cd 49 44 = some (.bipush 9, 2) := by decide +kernel
theorem k_49_46 : cd 49 46 = some (.invokevirtual 128, 3) := by decide +kernel
theorem k_49_49 : cd 49 49 = some (.invokevirtual 131, 3) := by decide +kernel
theorem k_49_52 : cd 49 52 = some (.return_, 1) := by decide +kernel
theorem po_49 : po 49 = 6 := rfl
theorem M_49   {σ : pS} {ρ : Nat → Nat → Option Nat} (e : gR σ = ρ) (hL : LayR ρ) : Le
  (bG isP (gR σ 24 8) fun q1 => bI (pcall 31 [.ref q1] σ) fun r2 σ2 => if r2 < (ι 8) then bG isP (gR σ2 24 8) fun q3 => bI (pcall 32 [.ref q3] σ2) fun r4 σ4 => if r4 ≤ (ι 0) then bV (pcall 43 [.ref 24] σ4) fun σ5 => bG isP (gR σ5 24 8) fun q6 => bI (pcall 51 [.ref 24, .int (ι 9)] σ5) fun r7 σ7 => bV (pcall 33 [.ref q6, .int r7] σ7) fun σ8 => some (0, .null, σ8) else bV (pcall 50 [.ref 24, .int (ι 4)] σ4) fun σ9 => bV (pcall 43 [.ref 24] σ9) fun σ10 => bG isP (gR σ10 24 8) fun q11 => bI (pcall 51 [.ref 24, .int (ι 9)] σ10) fun r12 σ12 => bV (pcall 33 [.ref q11, .int r12] σ12) fun σ13 => some (0, .null, σ13) else bV (pcall 50 [.ref 24, .int (ι 2)] σ2) fun σ14 => bV (pcall 43 [.ref 24] σ14) fun σ15 => bG isP (gR σ15 24 8) fun q16 => bI (pcall 51 [.ref 24, .int (ι 9)] σ15) fun r17 σ17 => bV (pcall 33 [.ref q16, .int r17] σ17) fun σ18 => some (0, .null, σ18))
  (pcall 49 [.ref 24] σ) := by
  show Le _ (den 49 0 0 [.ref 24] [] σ)
  exact r_aload_n k_49_0 rfl rfl
    (r_getG k_49_1 rfl po_49 rfl rfl rfl rfl fun q1 hq1 => r_callI (q_virt (rest := []) (as := []) k_49_4 po_49 rfl rfl rfl (rcvO rfl rfl (kdP hq1)) rfl rfl) (lvq (j := 0) rfl (by decide +kernel)) rfl rfl (fun r2 σ2 h2 => r_bipush k_49_7 rfl rfl
    (r_icmp (tgt := 20) k_49_9 rfl rfl cop_lt
    (r_aload_n k_49_20 rfl rfl
    (r_getG k_49_21 rfl po_49 rfl rfl rfl rfl fun q3 hq3 => r_callI (q_virt (rest := []) (as := []) k_49_24 po_49 rfl rfl rfl (rcvO rfl rfl (kdP hq3)) rfl rfl) (lvq (j := 0) rfl (by decide +kernel)) rfl rfl (fun r4 σ4 h4 => r_if (tgt := 35) k_49_27 rfl rfl cop_le
    (r_aload_n k_49_35 rfl rfl
    (r_callV (q_virt (rest := []) (as := []) k_49_36 po_49 rfl rfl rfl (rcvO rfl rfl rfl) rfl rfl) (lvq (j := 0) rfl (by decide +kernel)) rfl rfl (fun _ σ5 h5 => r_aload_n k_49_39 rfl rfl
    (r_getG k_49_40 rfl po_49 rfl rfl rfl rfl fun q6 hq6 => r_aload_n k_49_43 rfl rfl
    (r_bipush k_49_44 rfl rfl
    (r_callI (q_virt (rest := [.ref q6]) (as := [.int (ι 9)]) k_49_46 po_49 rfl rfl rfl (rcvO rfl rfl rfl) rfl rfl) (lvq (j := 0) rfl (by decide +kernel)) rfl rfl (fun r7 σ7 h7 => r_callV (q_virt (rest := []) (as := [.int r7]) k_49_49 po_49 rfl rfl rfl (rcvO rfl rfl (kdP hq6)) rfl rfl) (lvq (j := 0) rfl (by decide +kernel)) rfl rfl (fun _ σ8 h8 => r_retV k_49_52 rfl))))))))
    (r_aload_n k_49_30 rfl rfl
    (r_iconst k_49_31 rfl rfl
    (r_callV (q_virt (rest := []) (as := [.int (ι 4)]) k_49_32 po_49 rfl rfl rfl (rcvO rfl rfl rfl) rfl rfl) (lvq (j := 0) rfl (by decide +kernel)) rfl rfl (fun _ σ9 h9 => r_aload_n k_49_35 rfl rfl
    (r_callV (q_virt (rest := []) (as := []) k_49_36 po_49 rfl rfl rfl (rcvO rfl rfl rfl) rfl rfl) (lvq (j := 0) rfl (by decide +kernel)) rfl rfl (fun _ σ10 h10 => r_aload_n k_49_39 rfl rfl
    (r_getG k_49_40 rfl po_49 rfl rfl rfl rfl fun q11 hq11 => r_aload_n k_49_43 rfl rfl
    (r_bipush k_49_44 rfl rfl
    (r_callI (q_virt (rest := [.ref q11]) (as := [.int (ι 9)]) k_49_46 po_49 rfl rfl rfl (rcvO rfl rfl rfl) rfl rfl) (lvq (j := 0) rfl (by decide +kernel)) rfl rfl (fun r12 σ12 h12 => r_callV (q_virt (rest := []) (as := [.int r12]) k_49_49 po_49 rfl rfl rfl (rcvO rfl rfl (kdP hq11)) rfl rfl) (lvq (j := 0) rfl (by decide +kernel)) rfl rfl (fun _ σ13 h13 => r_retV k_49_52 rfl))))))))))))))
    (r_aload_n k_49_12 rfl rfl
    (r_iconst k_49_13 rfl rfl
    (r_callV (q_virt (rest := []) (as := [.int (ι 2)]) k_49_14 po_49 rfl rfl rfl (rcvO rfl rfl rfl) rfl rfl) (lvq (j := 0) rfl (by decide +kernel)) rfl rfl (fun _ σ14 h14 => r_goto (tgt := 35) k_49_17 rfl (r_aload_n k_49_35 rfl rfl
    (r_callV (q_virt (rest := []) (as := []) k_49_36 po_49 rfl rfl rfl (rcvO rfl rfl rfl) rfl rfl) (lvq (j := 0) rfl (by decide +kernel)) rfl rfl (fun _ σ15 h15 => r_aload_n k_49_39 rfl rfl
    (r_getG k_49_40 rfl po_49 rfl rfl rfl rfl fun q16 hq16 => r_aload_n k_49_43 rfl rfl
    (r_bipush k_49_44 rfl rfl
    (r_callI (q_virt (rest := [.ref q16]) (as := [.int (ι 9)]) k_49_46 po_49 rfl rfl rfl (rcvO rfl rfl rfl) rfl rfl) (lvq (j := 0) rfl (by decide +kernel)) rfl rfl (fun r17 σ17 h17 => r_callV (q_virt (rest := []) (as := [.int r17]) k_49_49 po_49 rfl rfl rfl (rcvO rfl rfl (kdP hq16)) rfl rfl) (lvq (j := 0) rfl (by decide +kernel)) rfl rfl (fun _ σ18 h18 => r_retV k_49_52 rfl)))))))))))))))
/-! ===== 50 HedgeWants.Reader.refuse ===== -/
theorem k_50_0 : cd 50 0 = some (.aload_n 0, 1) := by decide +kernel
theorem k_50_1 : cd 50 1 = some (.getfield 39, 3) := by decide +kernel
theorem k_50_4 : cd 50 4 = some (.ifCond .ne 16, 3) := by decide +kernel
theorem k_50_7 : cd 50 7 = some (.aload_n 0, 1) := by decide +kernel
theorem k_50_8 : cd 50 8 = some (.iload_n 1, 1) := by decide +kernel
theorem k_50_9 : cd 50 9 = some (.putfield 39, 3) := by decide +kernel
theorem k_50_12 : cd 50 12 = some (.aload_n 0, 1) := by decide +kernel
theorem k_50_13 : cd 50 13 = some (.aload_n 0, 1) := by decide +kernel
theorem k_50_14 : cd 50 14 = some (.getfield 54, 3) := by decide +kernel
theorem k_50_17 : cd 50 17 = some (.putfield 15, 3) := by decide +kernel
theorem k_50_20 : cd 50 20 = some (.aload_n 0, 1) := by decide +kernel
theorem k_50_21 : cd 50 21 = some (.iconst 0, 1) := by decide +kernel
theorem k_50_22 : cd 50 22 = some (.putfield 48, 3) := by decide +kernel
theorem k_50_25 : cd 50 25 = some (.return_, 1) := by decide +kernel
theorem po_50 : po 50 = 6 := rfl
theorem M_50  {x0 : Int32} {σ : pS} {ρ : Nat → Nat → Option Nat} (e : gR σ = ρ) (hL : LayR ρ) : Le
  (if ¬ (gI σ 24 6) = (ι 0) then some (0, .null, (sI σ 24 4 (ι 0))) else some (0, .null, (sI (sI (sI σ 24 6 x0) 24 7 (gI (sI σ 24 6 x0) 24 2)) 24 4 (ι 0))))
  (pcall 50 [.ref 24, .int x0] σ) := by
  show Le _ (den 50 0 0 [.ref 24, .int x0] [] σ)
  exact r_aload_n k_50_0 rfl rfl
    (r_getI k_50_1 rfl po_50 rfl rfl rfl rfl
    (r_if (tgt := 20) k_50_4 rfl rfl cop_ne
    (r_aload_n k_50_20 rfl rfl
    (r_iconst k_50_21 rfl rfl
    (r_putI k_50_22 rfl po_50 rfl rfl rfl
    (r_retV k_50_25 rfl))))
    (r_aload_n k_50_7 rfl rfl
    (r_iload_n k_50_8 rfl rfl
    (r_putI k_50_9 rfl po_50 rfl rfl rfl
    (r_aload_n k_50_12 rfl rfl
    (r_aload_n k_50_13 rfl rfl
    (r_getI k_50_14 rfl po_50 rfl rfl rfl rfl
    (r_putI k_50_17 rfl po_50 rfl rfl rfl
    (r_aload_n k_50_20 rfl rfl
    (r_iconst k_50_21 rfl rfl
    (r_putI k_50_22 rfl po_50 rfl rfl rfl
    (r_retV k_50_25 rfl)))))))))))))
/-! ===== 51 HedgeWants.Reader.readNumber ===== -/
theorem k_51_0 : cd 51 0 = some (.aload_n 0, 1) := by decide +kernel
theorem k_51_1 : cd 51 1 = some (.getfield 48, 3) := by decide +kernel
theorem k_51_4 : cd 51 4 = some (.iconst 2, 1) := by decide +kernel
theorem k_51_5 : cd 51 5 = some (.if_icmp .eq 11, 3) := by decide +kernel
theorem k_51_8 : cd 51 8 = some (.aload_n 0, 1) := by decide +kernel
theorem k_51_9 : cd 51 9 = some (.iconst 1, 1) := by decide +kernel
theorem k_51_10 : cd 51 10 = some (.invokevirtual 115, 3) := by decide +kernel
theorem k_51_13 : cd 51 13 = some (.goto 23, 3) := by decide +kernel
theorem k_51_16 : cd 51 16 = some (.aload_n 0, 1) := by decide +kernel
theorem k_51_17 : cd 51 17 = some (.invokevirtual 165, 3) := by decide +kernel
theorem k_51_20 : cd 51 20 = some (.ifCond .ne 11, 3) := by decide +kernel
theorem k_51_23 : cd 51 23 = some (.aload_n 0, 1) := by decide +kernel
theorem k_51_24 : cd 51 24 = some (.getfield 65, 3) := by decide +kernel
theorem k_51_27 : cd 51 27 = some (.iload_n 1, 1) := by decide +kernel
theorem k_51_28 : cd 51 28 = some (.if_icmp .le 8, 3) := by decide +kernel
theorem k_51_31 : cd 51 31 = some (.aload_n 0, 1) := by decide +kernel
theorem k_51_32 : cd 51 32 = some (.iconst 2, 1) := by decide +kernel
theorem k_51_33 : cd 51 33 = some (.invokevirtual 115, 3) := by decide +kernel
theorem k_51_36 : cd 51 36 = some (.aload_n 0, 1) := by decide +kernel
theorem k_51_37 : cd 51 37 = some (.getfield 65, 3) := by decide +kernel
theorem k_51_40 : cd 51 40 = some (.istore_n 2, 1) := by decide +kernel
theorem k_51_41 : cd 51 41 = some (.aload_n 0, 1) := by decide +kernel
theorem k_51_42 : cd 51 42 = some (.invokevirtual 45, 3) := by decide +kernel
theorem k_51_45 : cd 51 45 = some (.aload_n 0, 1) := by decide +kernel
theorem k_51_46 : cd 51 46 = some (.getfield 39, 3) := by decide +kernel
theorem k_51_49 : cd 51 49 = some (.ifCond .ne 7, 3) := by decide +kernel
theorem k_51_52 : cd 51 52 = some (.iload_n 2, 1) := by decide +kernel
theorem k_51_53 : cd 51 53 = some (.goto 4, 3) := by decide +kernel
theorem k_51_56 : cd 51 56 = some (.iconst 0, 1) := by decide +kernel
theorem k_51_57 : cd 51 57 = some (.ireturn, 1) := by decide +kernel
theorem po_51 : po 51 = 6 := rfl
noncomputable def C_51_31  (v1 : Value) (v2 : Value) (σ : pS) : Option pZ := den 51 0 31 [.ref 24, v1, v2] [] σ
theorem T_51_31  {v1 : Value} {v2 : Value}  {σ : pS} {ρ : Nat → Nat → Option Nat} (e : gR σ = ρ) (hL : LayR ρ) : Le
  (bV (pcall 50 [.ref 24, .int (ι 2)] σ) fun σ1 => bV (pcall 43 [.ref 24] σ1) fun σ2 => if ¬ (gI σ2 24 6) = (ι 0) then some (1, .int (ι 0), σ2) else some (1, .int (gI σ1 24 5), σ2))
  (C_51_31  v1 v2 σ) := by
  unfold C_51_31
  exact r_aload_n k_51_31 rfl rfl
    (r_iconst k_51_32 rfl rfl
    (r_callV (q_virt (rest := []) (as := [.int (ι 2)]) k_51_33 po_51 rfl rfl rfl (rcvO rfl rfl rfl) rfl rfl) (lvq (j := 0) rfl (by decide +kernel)) rfl rfl (fun _ σ1 h1 => r_aload_n k_51_36 rfl rfl
    (r_getI k_51_37 rfl po_51 rfl rfl rfl rfl
    (r_istore_n k_51_40 rfl rfl rfl
    (r_aload_n k_51_41 rfl rfl
    (r_callV (q_virt (rest := []) (as := []) k_51_42 po_51 rfl rfl rfl (rcvO rfl rfl rfl) rfl rfl) (lvq (j := 0) rfl (by decide +kernel)) rfl rfl (fun _ σ2 h2 => r_aload_n k_51_45 rfl rfl
    (r_getI k_51_46 rfl po_51 rfl rfl rfl rfl
    (r_if (tgt := 56) k_51_49 rfl rfl cop_ne
    (r_iconst k_51_56 rfl rfl
    (r_ret k_51_57 rfl rfl))
    (r_iload_n k_51_52 rfl rfl
    (r_goto (tgt := 57) k_51_53 rfl (r_ret k_51_57 rfl rfl)))))))))))))
theorem M_51  {x0 : Int32} {σ : pS} {ρ : Nat → Nat → Option Nat} (e : gR σ = ρ) (hL : LayR ρ) : Le
  (if (gI σ 24 4) = (ι 2) then bI (pcall 52 [.ref 24] σ) fun r1 σ1 => if ¬ r1 = (ι 0) then C_51_31 (.int x0) (.retAddr 0) σ1 else if (gI σ1 24 5) ≤ x0 then bV (pcall 43 [.ref 24] σ1) fun σ2 => if ¬ (gI σ2 24 6) = (ι 0) then some (1, .int (ι 0), σ2) else some (1, .int (gI σ1 24 5), σ2) else C_51_31 (.int x0) (.retAddr 0) σ1 else bV (pcall 50 [.ref 24, .int (ι 1)] σ) fun σ3 => bV (pcall 43 [.ref 24] σ3) fun σ4 => if ¬ (gI σ4 24 6) = (ι 0) then some (1, .int (ι 0), σ4) else some (1, .int (gI σ3 24 5), σ4))
  (pcall 51 [.ref 24, .int x0] σ) := by
  show Le _ (den 51 0 0 [.ref 24, .int x0, .retAddr 0] [] σ)
  exact r_aload_n k_51_0 rfl rfl
    (r_getI k_51_1 rfl po_51 rfl rfl rfl rfl
    (r_iconst k_51_4 rfl rfl
    (r_icmp (tgt := 16) k_51_5 rfl rfl cop_eq
    (r_aload_n k_51_16 rfl rfl
    (r_callI (q_virt (rest := []) (as := []) k_51_17 po_51 rfl rfl rfl (rcvO rfl rfl rfl) rfl rfl) (lvq (j := 0) rfl (by decide +kernel)) rfl rfl (fun r1 σ1 h1 => r_if (tgt := 31) k_51_20 rfl rfl cop_ne
    (Le.rfl')
    (r_aload_n k_51_23 rfl rfl
    (r_getI k_51_24 rfl po_51 rfl rfl rfl rfl
    (r_iload_n k_51_27 rfl rfl
    (r_icmp (tgt := 36) k_51_28 rfl rfl cop_le
    (r_aload_n k_51_36 rfl rfl
    (r_getI k_51_37 rfl po_51 rfl rfl rfl rfl
    (r_istore_n k_51_40 rfl rfl rfl
    (r_aload_n k_51_41 rfl rfl
    (r_callV (q_virt (rest := []) (as := []) k_51_42 po_51 rfl rfl rfl (rcvO rfl rfl rfl) rfl rfl) (lvq (j := 0) rfl (by decide +kernel)) rfl rfl (fun _ σ2 h2 => r_aload_n k_51_45 rfl rfl
    (r_getI k_51_46 rfl po_51 rfl rfl rfl rfl
    (r_if (tgt := 56) k_51_49 rfl rfl cop_ne
    (r_iconst k_51_56 rfl rfl
    (r_ret k_51_57 rfl rfl))
    (r_iload_n k_51_52 rfl rfl
    (r_goto (tgt := 57) k_51_53 rfl (r_ret k_51_57 rfl rfl)))))))))))
    (Le.rfl'))))))))
    (r_aload_n k_51_8 rfl rfl
    (r_iconst k_51_9 rfl rfl
    (r_callV (q_virt (rest := []) (as := [.int (ι 1)]) k_51_10 po_51 rfl rfl rfl (rcvO rfl rfl rfl) rfl rfl) (lvq (j := 0) rfl (by decide +kernel)) rfl rfl (fun _ σ3 h3 => r_goto (tgt := 36) k_51_13 rfl (r_aload_n k_51_36 rfl rfl
    (r_getI k_51_37 rfl po_51 rfl rfl rfl rfl
    (r_istore_n k_51_40 rfl rfl rfl
    (r_aload_n k_51_41 rfl rfl
    (r_callV (q_virt (rest := []) (as := []) k_51_42 po_51 rfl rfl rfl (rcvO rfl rfl rfl) rfl rfl) (lvq (j := 0) rfl (by decide +kernel)) rfl rfl (fun _ σ4 h4 => r_aload_n k_51_45 rfl rfl
    (r_getI k_51_46 rfl po_51 rfl rfl rfl rfl
    (r_if (tgt := 56) k_51_49 rfl rfl cop_ne
    (r_iconst k_51_56 rfl rfl
    (r_ret k_51_57 rfl rfl))
    (r_iload_n k_51_52 rfl rfl
    (r_goto (tgt := 57) k_51_53 rfl (r_ret k_51_57 rfl rfl))))))))))))))))))
/-! ===== 52 HedgeWants.Reader.isTooLong ===== -/
theorem k_52_0 : cd 52 0 = some (.aload_n 0, 1) := by decide +kernel
theorem k_52_1 : cd 52 1 = some (.getfield 36, 3) := by decide +kernel
theorem k_52_4 : cd 52 4 = some (.aload_n 0, 1) := by decide +kernel
theorem k_52_5 : cd 52 5 = some (.getfield 54, 3) := by decide +kernel
theorem k_52_8 : cd 52 8 = some (.isub, 1) := by decide +kernel
theorem k_52_9 : cd 52 9 = some (.iconst 4, 1) := by decide +kernel
theorem k_52_10 : cd 52 10 = some (.if_icmp .le 7, 3) := by decide +kernel
theorem k_52_13 : cd 52 13 = some (.iconst 1, 1) := by decide +kernel
theorem k_52_14 : cd 52 14 = some (.goto 4, 3) := by decide +kernel
theorem k_52_17 : cd 52 17 = some (.iconst 0, 1) := by decide +kernel
theorem k_52_18 : cd 52 18 = some (.ireturn, 1) := by decide +kernel
theorem po_52 : po 52 = 6 := rfl
theorem M_52   {σ : pS} {ρ : Nat → Nat → Option Nat} (e : gR σ = ρ) (hL : LayR ρ) : Le
  (if ((gI σ 24 3) - (gI σ 24 2)) ≤ (ι 4) then some (1, .int (ι 0), σ) else some (1, .int (ι 1), σ))
  (pcall 52 [.ref 24] σ) := by
  show Le _ (den 52 0 0 [.ref 24] [] σ)
  exact r_aload_n k_52_0 rfl rfl
    (r_getI k_52_1 rfl po_52 rfl rfl rfl rfl
    (r_aload_n k_52_4 rfl rfl
    (r_getI k_52_5 rfl po_52 rfl rfl rfl rfl
    (r_isub k_52_8 rfl
    (r_iconst k_52_9 rfl rfl
    (r_icmp (tgt := 17) k_52_10 rfl rfl cop_le
    (r_iconst k_52_17 rfl rfl
    (r_ret k_52_18 rfl rfl))
    (r_iconst k_52_13 rfl rfl
    (r_goto (tgt := 18) k_52_14 rfl (r_ret k_52_18 rfl rfl)))))))))
/-! ===== 53 HedgeWants.Reader.readThing ===== -/
theorem k_53_0 : cd 53 0 = some (.aload_n 0, 1) := by decide +kernel
theorem k_53_1 : cd 53 1 = some (.getfield 19, 3) := by decide +kernel
theorem k_53_4 : cd 53 4 = some (.invokevirtual 125, 3) := by decide +kernel
theorem k_53_7 : cd 53 7 = some (.bipush 12, 2) := by decide +kernel
theorem k_53_9 : cd 53 9 = some (.if_icmp .lt 8, 3) := by decide +kernel
theorem k_53_12 : cd 53 12 = some (.aload_n 0, 1) := by decide +kernel
theorem k_53_13 : cd 53 13 = some (.iconst 2, 1) := by decide +kernel
theorem k_53_14 : cd 53 14 = some (.invokevirtual 115, 3) := by decide +kernel
theorem k_53_17 : cd 53 17 = some (.aload_n 0, 1) := by decide +kernel
theorem k_53_18 : cd 53 18 = some (.invokevirtual 45, 3) := by decide +kernel
theorem k_53_21 : cd 53 21 = some (.aload_n 0, 1) := by decide +kernel
theorem k_53_22 : cd 53 22 = some (.getfield 19, 3) := by decide +kernel
theorem k_53_25 : cd 53 25 = some (.aload_n 0, 1) := by decide +kernel
theorem k_53_26 : cd 53 26 = some (.iconst (-1), 1) := by decide +kernel
theorem k_53_27 : cd 53 27 = some (.invokevirtual 134, 3) := by decide +kernel
theorem k_53_30 : cd 53 30 = some (.iload_n 1, 1) := by decide +kernel
theorem k_53_31 : cd 53 31 = some (.invokevirtual 137, 3) := by decide +kernel
theorem k_53_34 : cd 53 34 = some (.iconst 0, 1) := by decide +kernel
theorem k_53_35 : cd 53 35 = some (.istore_n 2, 1) := by decide +kernel
theorem k_53_36 : cd 53 36 = some (.iload_n 2, 1) := by decide +kernel
theorem k_53_37 : cd 53 37 = some (.aload_n 0, 1) := by decide +kernel
theorem k_53_38 : cd 53 38 = some (.getfield 19, 3) := by decide +kernel
theorem k_53_41 : cd 53 41 = some (.invokevirtual 122, 3) := by decide +kernel
theorem k_53_44 : cd 53 44 = some (.if_icmp .ge 29, 3) := by decide +kernel
theorem k_53_47 : cd 53 47 = some (.iload_n 2, 1) := by decide +kernel
theorem k_53_48 : cd 53 48 = some (.bipush 8, 2) := by decide +kernel
theorem k_53_50 : cd 53 50 = some (.if_icmp .ge 23, 3) := by decide +kernel
theorem k_53_53 : cd 53 53 = some (.aload_n 0, 1) := by decide +kernel
theorem k_53_54 : cd 53 54 = some (.getfield 19, 3) := by decide +kernel
theorem k_53_57 : cd 53 57 = some (.iload_n 2, 1) := by decide +kernel
theorem k_53_58 : cd 53 58 = some (.aload_n 0, 1) := by decide +kernel
theorem k_53_59 : cd 53 59 = some (.bipush 9, 2) := by decide +kernel
theorem k_53_61 : cd 53 61 = some (.invokevirtual 128, 3) := by decide +kernel
theorem k_53_64 : cd 53 64 = some (.invokevirtual 141, 3) := by decide +kernel
theorem k_53_67 : cd 53 67 = some (.iinc 2 1, 3) := by decide +kernel
theorem k_53_70 : cd 53 70 = some (.goto (-34), 3) := by decide +kernel
theorem k_53_73 : cd 53 73 = some (.return_, 1) := by decide +kernel
theorem po_53 : po 53 = 6 := rfl
noncomputable def C_53_36  (v1 : Value) (x2 : Int32) (σ : pS) : Option pZ := den 53 0 36 [.ref 24, v1, .int x2] [] σ
theorem T_53_36  {v1 : Value} {x2 : Int32}  {σ : pS} {ρ : Nat → Nat → Option Nat} (e : gR σ = ρ) (hL : LayR ρ) : Le
  (bG isP (gR σ 24 8) fun q1 => bI (pcall 31 [.ref q1] σ) fun r2 σ2 => if r2 ≤ x2 then some (0, .null, σ2) else if (ι 8) ≤ x2 then some (0, .null, σ2) else bG isP (gR σ2 24 8) fun q3 => bI (pcall 51 [.ref 24, .int (ι 9)] σ2) fun r4 σ4 => bV (pcall 36 [.ref q3, .int x2, .int r4] σ4) fun σ5 => C_53_36 v1 (x2 + (ι 1)) σ5)
  (C_53_36  v1 x2 σ) := by
  unfold C_53_36
  exact r_iload_n k_53_36 rfl rfl
    (r_aload_n k_53_37 rfl rfl
    (r_getG k_53_38 rfl po_53 rfl rfl rfl rfl fun q1 hq1 => r_callI (q_virt (rest := [.int x2]) (as := []) k_53_41 po_53 rfl rfl rfl (rcvO rfl rfl (kdP hq1)) rfl rfl) (lvq (j := 0) rfl (by decide +kernel)) rfl rfl (fun r2 σ2 h2 => r_icmp (tgt := 73) k_53_44 rfl rfl cop_ge
    (r_retV k_53_73 rfl)
    (r_iload_n k_53_47 rfl rfl
    (r_bipush k_53_48 rfl rfl
    (r_icmp (tgt := 73) k_53_50 rfl rfl cop_ge
    (r_retV k_53_73 rfl)
    (r_aload_n k_53_53 rfl rfl
    (r_getG k_53_54 rfl po_53 rfl rfl rfl rfl fun q3 hq3 => r_iload_n k_53_57 rfl rfl
    (r_aload_n k_53_58 rfl rfl
    (r_bipush k_53_59 rfl rfl
    (r_callI (q_virt (rest := [.int x2, .ref q3]) (as := [.int (ι 9)]) k_53_61 po_53 rfl rfl rfl (rcvO rfl rfl rfl) rfl rfl) (lvq (j := 0) rfl (by decide +kernel)) rfl rfl (fun r4 σ4 h4 => r_callV (q_virt (rest := []) (as := [.int x2, .int r4]) k_53_64 po_53 rfl rfl rfl (rcvO rfl rfl (kdP hq3)) rfl rfl) (lvq (j := 0) rfl (by decide +kernel)) rfl rfl (fun _ σ5 h5 => r_iinc k_53_67 rfl rfl rfl rfl
    (r_goto (tgt := 36) k_53_70 rfl (Le.rfl')))))))))))))))
theorem M_53  {x0 : Int32} {σ : pS} {ρ : Nat → Nat → Option Nat} (e : gR σ = ρ) (hL : LayR ρ) : Le
  (bG isP (gR σ 24 8) fun q1 => bI (pcall 32 [.ref q1] σ) fun r2 σ2 => if r2 < (ι 12) then bV (pcall 43 [.ref 24] σ2) fun σ3 => bG isP (gR σ3 24 8) fun q4 => bI (pcall 54 [.ref 24, .int (ν 1)] σ3) fun r5 σ5 => bV (pcall 35 [.ref q4, .int r5, .int x0] σ5) fun σ6 => C_53_36 (.int x0) (ι 0) σ6 else bV (pcall 50 [.ref 24, .int (ι 2)] σ2) fun σ7 => bV (pcall 43 [.ref 24] σ7) fun σ8 => bG isP (gR σ8 24 8) fun q9 => bI (pcall 54 [.ref 24, .int (ν 1)] σ8) fun r10 σ10 => bV (pcall 35 [.ref q9, .int r10, .int x0] σ10) fun σ11 => C_53_36 (.int x0) (ι 0) σ11)
  (pcall 53 [.ref 24, .int x0] σ) := by
  show Le _ (den 53 0 0 [.ref 24, .int x0, .retAddr 0] [] σ)
  exact r_aload_n k_53_0 rfl rfl
    (r_getG k_53_1 rfl po_53 rfl rfl rfl rfl fun q1 hq1 => r_callI (q_virt (rest := []) (as := []) k_53_4 po_53 rfl rfl rfl (rcvO rfl rfl (kdP hq1)) rfl rfl) (lvq (j := 0) rfl (by decide +kernel)) rfl rfl (fun r2 σ2 h2 => r_bipush k_53_7 rfl rfl
    (r_icmp (tgt := 17) k_53_9 rfl rfl cop_lt
    (r_aload_n k_53_17 rfl rfl
    (r_callV (q_virt (rest := []) (as := []) k_53_18 po_53 rfl rfl rfl (rcvO rfl rfl rfl) rfl rfl) (lvq (j := 0) rfl (by decide +kernel)) rfl rfl (fun _ σ3 h3 => r_aload_n k_53_21 rfl rfl
    (r_getG k_53_22 rfl po_53 rfl rfl rfl rfl fun q4 hq4 => r_aload_n k_53_25 rfl rfl
    (r_iconst k_53_26 rfl rfl
    (r_callI (q_virt (rest := [.ref q4]) (as := [.int (ν 1)]) k_53_27 po_53 rfl rfl rfl (rcvO rfl rfl rfl) rfl rfl) (lvq (j := 0) rfl (by decide +kernel)) rfl rfl (fun r5 σ5 h5 => r_iload_n k_53_30 rfl rfl
    (r_callV (q_virt (rest := []) (as := [.int r5, .int x0]) k_53_31 po_53 rfl rfl rfl (rcvO rfl rfl (kdP hq4)) rfl rfl) (lvq (j := 0) rfl (by decide +kernel)) rfl rfl (fun _ σ6 h6 => r_iconst k_53_34 rfl rfl
    (r_istore_n k_53_35 rfl rfl rfl
    (Le.rfl')))))))))))
    (r_aload_n k_53_12 rfl rfl
    (r_iconst k_53_13 rfl rfl
    (r_callV (q_virt (rest := []) (as := [.int (ι 2)]) k_53_14 po_53 rfl rfl rfl (rcvO rfl rfl rfl) rfl rfl) (lvq (j := 0) rfl (by decide +kernel)) rfl rfl (fun _ σ7 h7 => r_aload_n k_53_17 rfl rfl
    (r_callV (q_virt (rest := []) (as := []) k_53_18 po_53 rfl rfl rfl (rcvO rfl rfl rfl) rfl rfl) (lvq (j := 0) rfl (by decide +kernel)) rfl rfl (fun _ σ8 h8 => r_aload_n k_53_21 rfl rfl
    (r_getG k_53_22 rfl po_53 rfl rfl rfl rfl fun q9 hq9 => r_aload_n k_53_25 rfl rfl
    (r_iconst k_53_26 rfl rfl
    (r_callI (q_virt (rest := [.ref q9]) (as := [.int (ν 1)]) k_53_27 po_53 rfl rfl rfl (rcvO rfl rfl rfl) rfl rfl) (lvq (j := 0) rfl (by decide +kernel)) rfl rfl (fun r10 σ10 h10 => r_iload_n k_53_30 rfl rfl
    (r_callV (q_virt (rest := []) (as := [.int r10, .int x0]) k_53_31 po_53 rfl rfl rfl (rcvO rfl rfl (kdP hq9)) rfl rfl) (lvq (j := 0) rfl (by decide +kernel)) rfl rfl (fun _ σ11 h11 => r_iconst k_53_34 rfl rfl
    (r_istore_n k_53_35 rfl rfl rfl
    (Le.rfl')))))))))))))))))
/-! ===== 54 HedgeWants.Reader.readKnownPerson ===== -/
theorem k_54_0 : cd 54 0 = some (.aload_n 0, 1) := by decide +kernel
theorem k_54_1 : cd 54 1 = some (.getfield 48, 3) := by decide +kernel
theorem k_54_4 : cd 54 4 = some (.iconst 2, 1) := by decide +kernel
theorem k_54_5 : cd 54 5 = some (.if_icmp .eq 11, 3) := by decide +kernel
theorem k_54_8 : cd 54 8 = some (.aload_n 0, 1) := by decide +kernel
theorem k_54_9 : cd 54 9 = some (.iconst 1, 1) := by decide +kernel
theorem k_54_10 : cd 54 10 = some (.invokevirtual 115, 3) := by decide +kernel
theorem k_54_13 : cd 54 13 = some (.goto 68, 3) := by decide +kernel
theorem k_54_16 : cd 54 16 = some (.aload_n 0, 1) := by decide +kernel
theorem k_54_17 : cd 54 17 = some (.invokevirtual 165, 3) := by decide +kernel
theorem k_54_20 : cd 54 20 = some (.ifCond .eq 11, 3) := by decide +kernel
theorem k_54_23 : cd 54 23 = some (.aload_n 0, 1) := by decide +kernel
theorem k_54_24 : cd 54 24 = some (.iconst 2, 1) := by decide +kernel
theorem k_54_25 : cd 54 25 = some (.invokevirtual 115, 3) := by decide +kernel
theorem k_54_28 : cd 54 28 = some (.goto 53, 3) := by decide +kernel
theorem k_54_31 : cd 54 31 = some (.aload_n 0, 1) := by decide +kernel
theorem k_54_32 : cd 54 32 = some (.getfield 65, 3) := by decide +kernel
theorem k_54_35 : cd 54 35 = some (.aload_n 0, 1) := by decide +kernel
theorem k_54_36 : cd 54 36 = some (.getfield 19, 3) := by decide +kernel
theorem k_54_39 : cd 54 39 = some (.invokevirtual 122, 3) := by decide +kernel
theorem k_54_42 : cd 54 42 = some (.if_icmp .lt 11, 3) := by decide +kernel
theorem k_54_45 : cd 54 45 = some (.aload_n 0, 1) := by decide +kernel
theorem k_54_46 : cd 54 46 = some (.iconst 3, 1) := by decide +kernel
theorem k_54_47 : cd 54 47 = some (.invokevirtual 115, 3) := by decide +kernel
theorem k_54_50 : cd 54 50 = some (.goto 31, 3) := by decide +kernel
theorem k_54_53 : cd 54 53 = some (.aload_n 0, 1) := by decide +kernel
theorem k_54_54 : cd 54 54 = some (.getfield 65, 3) := by decide +kernel
theorem k_54_57 : cd 54 57 = some (.iload_n 1, 1) := by decide +kernel
theorem k_54_58 : cd 54 58 = some (.if_icmp .eq 18, 3) := by decide +kernel
theorem k_54_61 : cd 54 61 = some (.aload_n 0, 1) := by decide +kernel
theorem k_54_62 : cd 54 62 = some (.getfield 19, 3) := by decide +kernel
theorem k_54_65 : cd 54 65 = some (.iload_n 1, 1) := by decide +kernel
theorem k_54_66 : cd 54 66 = some (.aload_n 0, 1) := by decide +kernel
theorem k_54_67 : cd 54 67 = some (.getfield 65, 3) := by decide +kernel
theorem k_54_70 : cd 54 70 = some (.invokevirtual 168, 3) := by decide +kernel
theorem k_54_73 : cd 54 73 = some (.ifCond .eq 8, 3) := by decide +kernel
theorem k_54_76 : cd 54 76 = some (.aload_n 0, 1) := by decide +kernel
theorem k_54_77 : cd 54 77 = some (.iconst 4, 1) := by decide +kernel
theorem k_54_78 : cd 54 78 = some (.invokevirtual 115, 3) := by decide +kernel
theorem k_54_81 : cd 54 81 = some (.aload_n 0, 1) := by decide +kernel
theorem k_54_82 : cd 54 82 = some (.getfield 65, 3) := by decide +kernel
theorem k_54_85 : cd 54 85 = some (.istore_n 2, 1) := by decide +kernel
theorem k_54_86 : cd 54 86 = some (.aload_n 0, 1) := by decide +kernel
theorem k_54_87 : cd 54 87 = some (.invokevirtual 45, 3) := by decide +kernel
theorem k_54_90 : cd 54 90 = some (.aload_n 0, 1) := by decide +kernel
theorem k_54_91 : cd 54 91 = some (.getfield 39, 3) := by decide +kernel
theorem k_54_94 : cd 54 94 = some (.ifCond .ne 7, 3) := by decide +kernel
theorem k_54_97 : cd 54 97 = some (.iload_n 2, 1) := by decide +kernel
theorem k_54_98 : cd 54 98 = some (.goto 4, 3) := by decide +kernel
theorem k_54_101 : cd 54 101 = some (.iconst (-1), 1) := by decide +kernel
theorem k_54_102 : cd 54 102 = some (.ireturn, 1) := by decide +kernel
theorem po_54 : po 54 = 6 := rfl
noncomputable def C_54_76  (v1 : Value) (v2 : Value) (σ : pS) : Option pZ := den 54 0 76 [.ref 24, v1, v2] [] σ
theorem T_54_76  {v1 : Value} {v2 : Value}  {σ : pS} {ρ : Nat → Nat → Option Nat} (e : gR σ = ρ) (hL : LayR ρ) : Le
  (bV (pcall 50 [.ref 24, .int (ι 4)] σ) fun σ1 => bV (pcall 43 [.ref 24] σ1) fun σ2 => if ¬ (gI σ2 24 6) = (ι 0) then some (1, .int (ν 1), σ2) else some (1, .int (gI σ1 24 5), σ2))
  (C_54_76  v1 v2 σ) := by
  unfold C_54_76
  exact r_aload_n k_54_76 rfl rfl
    (r_iconst k_54_77 rfl rfl
    (r_callV (q_virt (rest := []) (as := [.int (ι 4)]) k_54_78 po_54 rfl rfl rfl (rcvO rfl rfl rfl) rfl rfl) (lvq (j := 0) rfl (by decide +kernel)) rfl rfl (fun _ σ1 h1 => r_aload_n k_54_81 rfl rfl
    (r_getI k_54_82 rfl po_54 rfl rfl rfl rfl
    (r_istore_n k_54_85 rfl rfl rfl
    (r_aload_n k_54_86 rfl rfl
    (r_callV (q_virt (rest := []) (as := []) k_54_87 po_54 rfl rfl rfl (rcvO rfl rfl rfl) rfl rfl) (lvq (j := 0) rfl (by decide +kernel)) rfl rfl (fun _ σ2 h2 => r_aload_n k_54_90 rfl rfl
    (r_getI k_54_91 rfl po_54 rfl rfl rfl rfl
    (r_if (tgt := 101) k_54_94 rfl rfl cop_ne
    (r_iconst k_54_101 rfl rfl
    (r_ret k_54_102 rfl rfl))
    (r_iload_n k_54_97 rfl rfl
    (r_goto (tgt := 102) k_54_98 rfl (r_ret k_54_102 rfl rfl)))))))))))))
theorem M_54  {x0 : Int32} {σ : pS} {ρ : Nat → Nat → Option Nat} (e : gR σ = ρ) (hL : LayR ρ) : Le
  (if (gI σ 24 4) = (ι 2) then bI (pcall 52 [.ref 24] σ) fun r1 σ1 => if r1 = (ι 0) then bG isP (gR σ1 24 8) fun q2 => bI (pcall 31 [.ref q2] σ1) fun r3 σ3 => if (gI σ1 24 5) < r3 then if (gI σ3 24 5) = x0 then C_54_76 (.int x0) (.retAddr 0) σ3 else bG isP (gR σ3 24 8) fun q4 => bI (pcall 34 [.ref q4, .int x0, .int (gI σ3 24 5)] σ3) fun r5 σ5 => if r5 = (ι 0) then bV (pcall 43 [.ref 24] σ5) fun σ6 => if ¬ (gI σ6 24 6) = (ι 0) then some (1, .int (ν 1), σ6) else some (1, .int (gI σ5 24 5), σ6) else C_54_76 (.int x0) (.retAddr 0) σ5 else bV (pcall 50 [.ref 24, .int (ι 3)] σ3) fun σ7 => bV (pcall 43 [.ref 24] σ7) fun σ8 => if ¬ (gI σ8 24 6) = (ι 0) then some (1, .int (ν 1), σ8) else some (1, .int (gI σ7 24 5), σ8) else bV (pcall 50 [.ref 24, .int (ι 2)] σ1) fun σ9 => bV (pcall 43 [.ref 24] σ9) fun σ10 => if ¬ (gI σ10 24 6) = (ι 0) then some (1, .int (ν 1), σ10) else some (1, .int (gI σ9 24 5), σ10) else bV (pcall 50 [.ref 24, .int (ι 1)] σ) fun σ11 => bV (pcall 43 [.ref 24] σ11) fun σ12 => if ¬ (gI σ12 24 6) = (ι 0) then some (1, .int (ν 1), σ12) else some (1, .int (gI σ11 24 5), σ12))
  (pcall 54 [.ref 24, .int x0] σ) := by
  show Le _ (den 54 0 0 [.ref 24, .int x0, .retAddr 0] [] σ)
  exact r_aload_n k_54_0 rfl rfl
    (r_getI k_54_1 rfl po_54 rfl rfl rfl rfl
    (r_iconst k_54_4 rfl rfl
    (r_icmp (tgt := 16) k_54_5 rfl rfl cop_eq
    (r_aload_n k_54_16 rfl rfl
    (r_callI (q_virt (rest := []) (as := []) k_54_17 po_54 rfl rfl rfl (rcvO rfl rfl rfl) rfl rfl) (lvq (j := 0) rfl (by decide +kernel)) rfl rfl (fun r1 σ1 h1 => r_if (tgt := 31) k_54_20 rfl rfl cop_eq
    (r_aload_n k_54_31 rfl rfl
    (r_getI k_54_32 rfl po_54 rfl rfl rfl rfl
    (r_aload_n k_54_35 rfl rfl
    (r_getG k_54_36 rfl po_54 rfl rfl rfl rfl fun q2 hq2 => r_callI (q_virt (rest := [.int (gI σ1 24 5)]) (as := []) k_54_39 po_54 rfl rfl rfl (rcvO rfl rfl (kdP hq2)) rfl rfl) (lvq (j := 0) rfl (by decide +kernel)) rfl rfl (fun r3 σ3 h3 => r_icmp (tgt := 53) k_54_42 rfl rfl cop_lt
    (r_aload_n k_54_53 rfl rfl
    (r_getI k_54_54 rfl po_54 rfl rfl rfl rfl
    (r_iload_n k_54_57 rfl rfl
    (r_icmp (tgt := 76) k_54_58 rfl rfl cop_eq
    (Le.rfl')
    (r_aload_n k_54_61 rfl rfl
    (r_getG k_54_62 rfl po_54 rfl rfl rfl rfl fun q4 hq4 => r_iload_n k_54_65 rfl rfl
    (r_aload_n k_54_66 rfl rfl
    (r_getI k_54_67 rfl po_54 rfl rfl rfl rfl
    (r_callI (q_virt (rest := []) (as := [.int x0, .int (gI σ3 24 5)]) k_54_70 po_54 rfl rfl rfl (rcvO rfl rfl (kdP hq4)) rfl rfl) (lvq (j := 0) rfl (by decide +kernel)) rfl rfl (fun r5 σ5 h5 => r_if (tgt := 81) k_54_73 rfl rfl cop_eq
    (r_aload_n k_54_81 rfl rfl
    (r_getI k_54_82 rfl po_54 rfl rfl rfl rfl
    (r_istore_n k_54_85 rfl rfl rfl
    (r_aload_n k_54_86 rfl rfl
    (r_callV (q_virt (rest := []) (as := []) k_54_87 po_54 rfl rfl rfl (rcvO rfl rfl rfl) rfl rfl) (lvq (j := 0) rfl (by decide +kernel)) rfl rfl (fun _ σ6 h6 => r_aload_n k_54_90 rfl rfl
    (r_getI k_54_91 rfl po_54 rfl rfl rfl rfl
    (r_if (tgt := 101) k_54_94 rfl rfl cop_ne
    (r_iconst k_54_101 rfl rfl
    (r_ret k_54_102 rfl rfl))
    (r_iload_n k_54_97 rfl rfl
    (r_goto (tgt := 102) k_54_98 rfl (r_ret k_54_102 rfl rfl)))))))))))
    (Le.rfl')))))))))))
    (r_aload_n k_54_45 rfl rfl
    (r_iconst k_54_46 rfl rfl
    (r_callV (q_virt (rest := []) (as := [.int (ι 3)]) k_54_47 po_54 rfl rfl rfl (rcvO rfl rfl rfl) rfl rfl) (lvq (j := 0) rfl (by decide +kernel)) rfl rfl (fun _ σ7 h7 => r_goto (tgt := 81) k_54_50 rfl (r_aload_n k_54_81 rfl rfl
    (r_getI k_54_82 rfl po_54 rfl rfl rfl rfl
    (r_istore_n k_54_85 rfl rfl rfl
    (r_aload_n k_54_86 rfl rfl
    (r_callV (q_virt (rest := []) (as := []) k_54_87 po_54 rfl rfl rfl (rcvO rfl rfl rfl) rfl rfl) (lvq (j := 0) rfl (by decide +kernel)) rfl rfl (fun _ σ8 h8 => r_aload_n k_54_90 rfl rfl
    (r_getI k_54_91 rfl po_54 rfl rfl rfl rfl
    (r_if (tgt := 101) k_54_94 rfl rfl cop_ne
    (r_iconst k_54_101 rfl rfl
    (r_ret k_54_102 rfl rfl))
    (r_iload_n k_54_97 rfl rfl
    (r_goto (tgt := 102) k_54_98 rfl (r_ret k_54_102 rfl rfl))))))))))))))))))))
    (r_aload_n k_54_23 rfl rfl
    (r_iconst k_54_24 rfl rfl
    (r_callV (q_virt (rest := []) (as := [.int (ι 2)]) k_54_25 po_54 rfl rfl rfl (rcvO rfl rfl rfl) rfl rfl) (lvq (j := 0) rfl (by decide +kernel)) rfl rfl (fun _ σ9 h9 => r_goto (tgt := 81) k_54_28 rfl (r_aload_n k_54_81 rfl rfl
    (r_getI k_54_82 rfl po_54 rfl rfl rfl rfl
    (r_istore_n k_54_85 rfl rfl rfl
    (r_aload_n k_54_86 rfl rfl
    (r_callV (q_virt (rest := []) (as := []) k_54_87 po_54 rfl rfl rfl (rcvO rfl rfl rfl) rfl rfl) (lvq (j := 0) rfl (by decide +kernel)) rfl rfl (fun _ σ10 h10 => r_aload_n k_54_90 rfl rfl
    (r_getI k_54_91 rfl po_54 rfl rfl rfl rfl
    (r_if (tgt := 101) k_54_94 rfl rfl cop_ne
    (r_iconst k_54_101 rfl rfl
    (r_ret k_54_102 rfl rfl))
    (r_iload_n k_54_97 rfl rfl
    (r_goto (tgt := 102) k_54_98 rfl (r_ret k_54_102 rfl rfl))))))))))))))))))
    (r_aload_n k_54_8 rfl rfl
    (r_iconst k_54_9 rfl rfl
    (r_callV (q_virt (rest := []) (as := [.int (ι 1)]) k_54_10 po_54 rfl rfl rfl (rcvO rfl rfl rfl) rfl rfl) (lvq (j := 0) rfl (by decide +kernel)) rfl rfl (fun _ σ11 h11 => r_goto (tgt := 81) k_54_13 rfl (r_aload_n k_54_81 rfl rfl
    (r_getI k_54_82 rfl po_54 rfl rfl rfl rfl
    (r_istore_n k_54_85 rfl rfl rfl
    (r_aload_n k_54_86 rfl rfl
    (r_callV (q_virt (rest := []) (as := []) k_54_87 po_54 rfl rfl rfl (rcvO rfl rfl rfl) rfl rfl) (lvq (j := 0) rfl (by decide +kernel)) rfl rfl (fun _ σ12 h12 => r_aload_n k_54_90 rfl rfl
    (r_getI k_54_91 rfl po_54 rfl rfl rfl rfl
    (r_if (tgt := 101) k_54_94 rfl rfl cop_ne
    (r_iconst k_54_101 rfl rfl
    (r_ret k_54_102 rfl rfl))
    (r_iload_n k_54_97 rfl rfl
    (r_goto (tgt := 102) k_54_98 rfl (r_ret k_54_102 rfl rfl))))))))))))))))))
/-! ===== 55 HedgeWants.Reader.readHedge ===== -/
theorem k_55_0 : cd 55 0 = some (.aload_n 0, 1) := by decide +kernel
theorem k_55_1 : cd 55 1 = some (.invokevirtual 45, 3) := by decide +kernel
theorem k_55_4 : cd 55 4 = some (.aload_n 0, 1) := by decide +kernel
theorem k_55_5 : cd 55 5 = some (.iconst (-1), 1) := by decide +kernel
theorem k_55_6 : cd 55 6 = some (.invokevirtual 134, 3) := by decide +kernel
theorem k_55_9 : cd 55 9 = some (.istore_n 1, 1) := by decide +kernel
theorem k_55_10 : cd 55 10 = some (.aload_n 0, 1) := by decide +kernel
theorem k_55_11 : cd 55 11 = some (.iload_n 1, 1) := by decide +kernel
theorem k_55_12 : cd 55 12 = some (.invokevirtual 134, 3) := by decide +kernel
theorem k_55_15 : cd 55 15 = some (.istore_n 2, 1) := by decide +kernel
theorem k_55_16 : cd 55 16 = some (.aload_n 0, 1) := by decide +kernel
theorem k_55_17 : cd 55 17 = some (.getfield 19, 3) := by decide +kernel
theorem k_55_20 : cd 55 20 = some (.iload_n 1, 1) := by decide +kernel
theorem k_55_21 : cd 55 21 = some (.iload_n 2, 1) := by decide +kernel
theorem k_55_22 : cd 55 22 = some (.invokevirtual 145, 3) := by decide +kernel
theorem k_55_25 : cd 55 25 = some (.return_, 1) := by decide +kernel
theorem po_55 : po 55 = 6 := rfl
theorem M_55   {σ : pS} {ρ : Nat → Nat → Option Nat} (e : gR σ = ρ) (hL : LayR ρ) : Le
  (bV (pcall 43 [.ref 24] σ) fun σ1 => bI (pcall 54 [.ref 24, .int (ν 1)] σ1) fun r2 σ2 => bI (pcall 54 [.ref 24, .int r2] σ2) fun r3 σ3 => bG isP (gR σ3 24 8) fun q4 => bV (pcall 37 [.ref q4, .int r2, .int r3] σ3) fun σ5 => some (0, .null, σ5))
  (pcall 55 [.ref 24] σ) := by
  show Le _ (den 55 0 0 [.ref 24, .retAddr 0, .retAddr 0] [] σ)
  exact r_aload_n k_55_0 rfl rfl
    (r_callV (q_virt (rest := []) (as := []) k_55_1 po_55 rfl rfl rfl (rcvO rfl rfl rfl) rfl rfl) (lvq (j := 0) rfl (by decide +kernel)) rfl rfl (fun _ σ1 h1 => r_aload_n k_55_4 rfl rfl
    (r_iconst k_55_5 rfl rfl
    (r_callI (q_virt (rest := []) (as := [.int (ν 1)]) k_55_6 po_55 rfl rfl rfl (rcvO rfl rfl rfl) rfl rfl) (lvq (j := 0) rfl (by decide +kernel)) rfl rfl (fun r2 σ2 h2 => r_istore_n k_55_9 rfl rfl rfl
    (r_aload_n k_55_10 rfl rfl
    (r_iload_n k_55_11 rfl rfl
    (r_callI (q_virt (rest := []) (as := [.int r2]) k_55_12 po_55 rfl rfl rfl (rcvO rfl rfl rfl) rfl rfl) (lvq (j := 0) rfl (by decide +kernel)) rfl rfl (fun r3 σ3 h3 => r_istore_n k_55_15 rfl rfl rfl
    (r_aload_n k_55_16 rfl rfl
    (r_getG k_55_17 rfl po_55 rfl rfl rfl rfl fun q4 hq4 => r_iload_n k_55_20 rfl rfl
    (r_iload_n k_55_21 rfl rfl
    (r_callV (q_virt (rest := []) (as := [.int r2, .int r3]) k_55_22 po_55 rfl rfl rfl (rcvO rfl rfl (kdP hq4)) rfl rfl) (lvq (j := 0) rfl (by decide +kernel)) rfl rfl (fun _ σ5 h5 => r_retV k_55_25 rfl))))))))))))))
/-! ===== 56 HedgeWants.Reader.beginRule ===== -/
theorem k_56_0 : cd 56 0 = some (.aload_n 1, 1) := by decide +kernel
theorem k_56_1 : cd 56 1 = some (.invokevirtual 148, 3) := by decide +kernel
theorem k_56_4 : cd 56 4 = some (.ifCond .eq 8, 3) := by decide +kernel
theorem k_56_7 : cd 56 7 = some (.aload_n 0, 1) := by decide +kernel
theorem k_56_8 : cd 56 8 = some (.iconst 5, 1) := by decide +kernel
theorem k_56_9 : cd 56 9 = some (.invokevirtual 115, 3) := by decide +kernel
theorem k_56_12 : cd 56 12 = some (.aload_n 0, 1) := by decide +kernel
theorem k_56_13 : cd 56 13 = some (.invokevirtual 45, 3) := by decide +kernel
theorem k_56_16 : cd 56 16 = some (.aload_n 1, 1) := by decide +kernel
theorem k_56_17 : cd 56 17 = some (.invokevirtual 154, 3) := by decide +kernel
theorem k_56_20 : cd 56 20 = some (.aload_n 0, 1) := by decide +kernel
theorem k_56_21 : cd 56 21 = some (.aload_n 1, 1) := by decide +kernel
theorem k_56_22 : cd 56 22 = some (.putfield 29, 3) := by decide +kernel
theorem k_56_25 : cd 56 25 = some (.aload_n 0, 1) := by decide +kernel
theorem k_56_26 : cd 56 26 = some (.iload_n 2, 1) := by decide +kernel
theorem k_56_27 : cd 56 27 = some (.putfield 157, 3) := by decide +kernel
theorem k_56_30 : cd 56 30 = some (.return_, 1) := by decide +kernel
theorem po_56 : po 56 = 6 := rfl
theorem M_56 {o0 : Nat} (ho0 : isU o0) {x1 : Int32} {σ : pS} {ρ : Nat → Nat → Option Nat} (e : gR σ = ρ) (hL : LayR ρ) : Le
  (bI (pcall 17 [.ref o0] σ) fun r1 σ1 => if r1 = (ι 0) then bV (pcall 43 [.ref 24] σ1) fun σ2 => bV (pcall 21 [.ref o0] σ2) fun σ3 => gd (LayR (gR (sR σ3 24 9 (some o0)))) (gd (x1 = ι 0 ∨ x1 = ι 1) (some (0, .null, (sI (sR σ3 24 9 (some o0)) 24 10 x1)))) else bV (pcall 50 [.ref 24, .int (ι 5)] σ1) fun σ5 => bV (pcall 43 [.ref 24] σ5) fun σ6 => bV (pcall 21 [.ref o0] σ6) fun σ7 => gd (LayR (gR (sR σ7 24 9 (some o0)))) (gd (x1 = ι 0 ∨ x1 = ι 1) (some (0, .null, (sI (sR σ7 24 9 (some o0)) 24 10 x1)))))
  (pcall 56 [.ref 24, .ref o0, .int x1] σ) := by
  show Le _ (den 56 0 0 [.ref 24, .ref o0, .int x1] [] σ)
  exact r_aload_n k_56_0 rfl rfl
    (r_callI (q_virt (rest := []) (as := []) k_56_1 po_56 rfl rfl rfl (rcvO rfl rfl (kdU ho0)) rfl rfl) (lvq (j := 0) rfl (by decide +kernel)) rfl rfl (fun r1 σ1 h1 => r_if (tgt := 12) k_56_4 rfl rfl cop_eq
    (r_aload_n k_56_12 rfl rfl
    (r_callV (q_virt (rest := []) (as := []) k_56_13 po_56 rfl rfl rfl (rcvO rfl rfl rfl) rfl rfl) (lvq (j := 0) rfl (by decide +kernel)) rfl rfl (fun _ σ2 h2 => r_aload_n k_56_16 rfl rfl
    (r_callV (q_virt (rest := []) (as := []) k_56_17 po_56 rfl rfl rfl (rcvO rfl rfl (kdU ho0)) rfl rfl) (lvq (j := 0) rfl (by decide +kernel)) rfl rfl (fun _ σ3 h3 => r_aload_n k_56_20 rfl rfl
    (r_aload_n k_56_21 rfl rfl
    (r_gd fun L4 => r_putR k_56_22 rfl po_56 rfl rfl (Or.inl rfl) rfl
    (r_aload_n k_56_25 rfl rfl
    (r_iload_n k_56_26 rfl rfl
    (r_gd fun g => r_putZ k_56_27 rfl po_56 rfl rfl rfl g
    (r_retV k_56_30 rfl)))))))))))
    (r_aload_n k_56_7 rfl rfl
    (r_iconst k_56_8 rfl rfl
    (r_callV (q_virt (rest := []) (as := [.int (ι 5)]) k_56_9 po_56 rfl rfl rfl (rcvO rfl rfl rfl) rfl rfl) (lvq (j := 0) rfl (by decide +kernel)) rfl rfl (fun _ σ5 h5 => r_aload_n k_56_12 rfl rfl
    (r_callV (q_virt (rest := []) (as := []) k_56_13 po_56 rfl rfl rfl (rcvO rfl rfl rfl) rfl rfl) (lvq (j := 0) rfl (by decide +kernel)) rfl rfl (fun _ σ6 h6 => r_aload_n k_56_16 rfl rfl
    (r_callV (q_virt (rest := []) (as := []) k_56_17 po_56 rfl rfl rfl (rcvO rfl rfl (kdU ho0)) rfl rfl) (lvq (j := 0) rfl (by decide +kernel)) rfl rfl (fun _ σ7 h7 => r_aload_n k_56_20 rfl rfl
    (r_aload_n k_56_21 rfl rfl
    (r_gd fun L8 => r_putR k_56_22 rfl po_56 rfl rfl (Or.inl rfl) rfl
    (r_aload_n k_56_25 rfl rfl
    (r_iload_n k_56_26 rfl rfl
    (r_gd fun g => r_putZ k_56_27 rfl po_56 rfl rfl rfl g
    (r_retV k_56_30 rfl))))))))))))))))
/-! ===== 57 HedgeWants.Reader.readExpr ===== -/
theorem k_57_0 : cd 57 0 = some (.iload_n 1, 1) := by decide +kernel
theorem k_57_1 : cd 57 1 = some (.iconst 5, 1) := by decide +kernel
theorem k_57_2 : cd 57 2 = some (.if_icmp .le 38, 3) := by decide +kernel
theorem k_57_5 : cd 57 5 = some (.aload_n 0, 1) := by decide +kernel
theorem k_57_6 : cd 57 6 = some (.aload_n 0, 1) := by decide +kernel
theorem k_57_7 : cd 57 7 = some (.getfield 48, 3) := by decide +kernel
theorem k_57_10 : cd 57 10 = some (.iconst 2, 1) := by decide +kernel
theorem k_57_11 : cd 57 11 = some (.if_icmp .eq 20, 3) := by decide +kernel
theorem k_57_14 : cd 57 14 = some (.aload_n 0, 1) := by decide +kernel
theorem k_57_15 : cd 57 15 = some (.getfield 48, 3) := by decide +kernel
theorem k_57_18 : cd 57 18 = some (.iconst 1, 1) := by decide +kernel
theorem k_57_19 : cd 57 19 = some (.if_icmp .eq 12, 3) := by decide +kernel
theorem k_57_22 : cd 57 22 = some (.aload_n 0, 1) := by decide +kernel
theorem k_57_23 : cd 57 23 = some (.bipush 40, 2) := by decide +kernel
theorem k_57_25 : cd 57 25 = some (.invokevirtual 161, 3) := by decide +kernel
theorem k_57_28 : cd 57 28 = some (.ifCond .eq 7, 3) := by decide +kernel
theorem k_57_31 : cd 57 31 = some (.iconst 2, 1) := by decide +kernel
theorem k_57_32 : cd 57 32 = some (.goto 4, 3) := by decide +kernel
theorem k_57_35 : cd 57 35 = some (.iconst 1, 1) := by decide +kernel
theorem k_57_36 : cd 57 36 = some (.invokevirtual 115, 3) := by decide +kernel
theorem k_57_39 : cd 57 39 = some (.return_, 1) := by decide +kernel
theorem k_57_40 : cd 57 40 = some (.aload_n 0, 1) := by decide +kernel
theorem k_57_41 : cd 57 41 = some (.iload_n 1, 1) := by decide +kernel
theorem k_57_42 : cd 57 42 = some (.invokevirtual 172, 3) := by decide +kernel
theorem k_57_45 : cd 57 45 = some (.iconst 0, 1) := by decide +kernel
theorem k_57_46 : cd 57 46 = some (.istore_n 2, 1) := by decide +kernel
theorem k_57_47 : cd 57 47 = some (.iload_n 2, 1) := by decide +kernel
theorem k_57_48 : cd 57 48 = some (.sipush 700, 3) := by decide +kernel
theorem k_57_51 : cd 57 51 = some (.if_icmp .ge 36, 3) := by decide +kernel
theorem k_57_54 : cd 57 54 = some (.aload_n 0, 1) := by decide +kernel
theorem k_57_55 : cd 57 55 = some (.ldc 175, 2) := by decide +kernel
theorem k_57_57 : cd 57 57 = some (.invokevirtual 82, 3) := by decide +kernel
theorem k_57_60 : cd 57 60 = some (.ifCond .eq 27, 3) := by decide +kernel
theorem k_57_63 : cd 57 63 = some (.aload_n 0, 1) := by decide +kernel
theorem k_57_64 : cd 57 64 = some (.invokevirtual 45, 3) := by decide +kernel
theorem k_57_67 : cd 57 67 = some (.aload_n 0, 1) := by decide +kernel
theorem k_57_68 : cd 57 68 = some (.iload_n 1, 1) := by decide +kernel
theorem k_57_69 : cd 57 69 = some (.invokevirtual 172, 3) := by decide +kernel
theorem k_57_72 : cd 57 72 = some (.aload_n 0, 1) := by decide +kernel
theorem k_57_73 : cd 57 73 = some (.getfield 29, 3) := by decide +kernel
theorem k_57_76 : cd 57 76 = some (.bipush (-20), 2) := by decide +kernel
theorem k_57_78 : cd 57 78 = some (.invokevirtual 177, 3) := by decide +kernel
theorem k_57_81 : cd 57 81 = some (.iinc 2 1, 3) := by decide +kernel
theorem k_57_84 : cd 57 84 = some (.goto (-37), 3) := by decide +kernel
theorem k_57_87 : cd 57 87 = some (.return_, 1) := by decide +kernel
theorem po_57 : po 57 = 6 := rfl
noncomputable def C_57_47  (k : Nat) (x1 : Int32) (x2 : Int32) (σ : pS) : Option pZ := den 57 k 47 [.ref 24, .int x1, .int x2] [] σ
theorem T_57_47  {k : Nat} {x1 : Int32} {x2 : Int32}  {σ : pS} {ρ : Nat → Nat → Option Nat} (e : gR σ = ρ) (hL : LayR ρ) : Le
  (if (ι 700) ≤ x2 then some (0, .null, σ) else gd (lv 48 (rk 48 [.ref 24, .ref 1017]) < lv 57 k) (bI (pcall 48 [.ref 24, .ref 1017] σ) fun r1 σ1 => if r1 = (ι 0) then some (0, .null, σ1) else gd (lv 43 (rk 43 [.ref 24]) < lv 57 k) (bV (pcall 43 [.ref 24] σ1) fun σ2 => gd (lv 59 (rk 59 [.ref 24, .int x1]) < lv 57 k) (bV (pcall 59 [.ref 24, .int x1] σ2) fun σ3 => bG isU (gR σ3 24 9) fun q4 => gd (lv 22 (rk 22 [.ref q4, .int (ν 20)]) < lv 57 k) (bV (pcall 22 [.ref q4, .int (ν 20)] σ3) fun σ5 => C_57_47 k x1 (x2 + (ι 1)) σ5)))))
  (C_57_47  k x1 x2 σ) := by
  unfold C_57_47
  exact r_iload_n k_57_47 rfl rfl
    (r_sipush k_57_48 rfl rfl
    (r_icmp (tgt := 87) k_57_51 rfl rfl cop_ge
    (r_retV k_57_87 rfl)
    (r_aload_n k_57_54 rfl rfl
    (r_ldcS k_57_55 rfl po_57 rfl rfl
    (r_gd fun g => r_callI (q_virt (rest := []) (as := [.ref 1017]) k_57_57 po_57 rfl rfl rfl (rcvO rfl rfl rfl) rfl rfl) g rfl rfl (fun r1 σ1 h1 => r_if (tgt := 87) k_57_60 rfl rfl cop_eq
    (r_retV k_57_87 rfl)
    (r_aload_n k_57_63 rfl rfl
    (r_gd fun g => r_callV (q_virt (rest := []) (as := []) k_57_64 po_57 rfl rfl rfl (rcvO rfl rfl rfl) rfl rfl) g rfl rfl (fun _ σ2 h2 => r_aload_n k_57_67 rfl rfl
    (r_iload_n k_57_68 rfl rfl
    (r_gd fun g => r_callV (q_virt (rest := []) (as := [.int x1]) k_57_69 po_57 rfl rfl rfl (rcvO rfl rfl rfl) rfl rfl) g rfl rfl (fun _ σ3 h3 => r_aload_n k_57_72 rfl rfl
    (r_getG k_57_73 rfl po_57 rfl rfl rfl rfl fun q4 hq4 => r_bipush k_57_76 rfl rfl
    (r_gd fun g => r_callV (q_virt (rest := []) (as := [.int (ν 20)]) k_57_78 po_57 rfl rfl rfl (rcvO rfl rfl (kdU hq4)) rfl rfl) g rfl rfl (fun _ σ5 h5 => r_iinc k_57_81 rfl rfl rfl rfl
    (r_goto (tgt := 47) k_57_84 rfl (Le.rfl')))))))))))))))))
theorem M_57  {x0 : Int32} {σ : pS} {ρ : Nat → Nat → Option Nat} (e : gR σ = ρ) (hL : LayR ρ) : Le
  (if x0 ≤ (ι 5) then gd (lv 59 (rk 59 [.ref 24, .int x0]) < lv 57 (rk 57 [.ref 24, .int x0])) (bV (pcall 59 [.ref 24, .int x0] σ) fun σ1 => C_57_47 (rk 57 [.ref 24, .int x0]) x0 (ι 0) σ1) else if (gI σ 24 4) = (ι 2) then gd (lv 50 (rk 50 [.ref 24, .int (ι 2)]) < lv 57 (rk 57 [.ref 24, .int x0])) (bV (pcall 50 [.ref 24, .int (ι 2)] σ) fun σ2 => some (0, .null, σ2)) else if (gI σ 24 4) = (ι 1) then gd (lv 50 (rk 50 [.ref 24, .int (ι 2)]) < lv 57 (rk 57 [.ref 24, .int x0])) (bV (pcall 50 [.ref 24, .int (ι 2)] σ) fun σ3 => some (0, .null, σ3)) else gd (lv 58 (rk 58 [.ref 24, .int (ι 40)]) < lv 57 (rk 57 [.ref 24, .int x0])) (bI (pcall 58 [.ref 24, .int (ι 40)] σ) fun r4 σ4 => if r4 = (ι 0) then gd (lv 50 (rk 50 [.ref 24, .int (ι 1)]) < lv 57 (rk 57 [.ref 24, .int x0])) (bV (pcall 50 [.ref 24, .int (ι 1)] σ4) fun σ5 => some (0, .null, σ5)) else gd (lv 50 (rk 50 [.ref 24, .int (ι 2)]) < lv 57 (rk 57 [.ref 24, .int x0])) (bV (pcall 50 [.ref 24, .int (ι 2)] σ4) fun σ6 => some (0, .null, σ6))))
  (pcall 57 [.ref 24, .int x0] σ) := by
  show Le _ (den 57 (rk 57 [.ref 24, .int x0]) 0 [.ref 24, .int x0, .retAddr 0] [] σ)
  exact r_iload_n k_57_0 rfl rfl
    (r_iconst k_57_1 rfl rfl
    (r_icmp (tgt := 40) k_57_2 rfl rfl cop_le
    (r_aload_n k_57_40 rfl rfl
    (r_iload_n k_57_41 rfl rfl
    (r_gd fun g => r_callV (q_virt (rest := []) (as := [.int x0]) k_57_42 po_57 rfl rfl rfl (rcvO rfl rfl rfl) rfl rfl) g rfl rfl (fun _ σ1 h1 => r_iconst k_57_45 rfl rfl
    (r_istore_n k_57_46 rfl rfl rfl
    (Le.rfl'))))))
    (r_aload_n k_57_5 rfl rfl
    (r_aload_n k_57_6 rfl rfl
    (r_getI k_57_7 rfl po_57 rfl rfl rfl rfl
    (r_iconst k_57_10 rfl rfl
    (r_icmp (tgt := 31) k_57_11 rfl rfl cop_eq
    (r_iconst k_57_31 rfl rfl
    (r_goto (tgt := 36) k_57_32 rfl (r_gd fun g => r_callV (q_virt (rest := []) (as := [.int (ι 2)]) k_57_36 po_57 rfl rfl rfl (rcvO rfl rfl rfl) rfl rfl) g rfl rfl (fun _ σ2 h2 => r_retV k_57_39 rfl))))
    (r_aload_n k_57_14 rfl rfl
    (r_getI k_57_15 rfl po_57 rfl rfl rfl rfl
    (r_iconst k_57_18 rfl rfl
    (r_icmp (tgt := 31) k_57_19 rfl rfl cop_eq
    (r_iconst k_57_31 rfl rfl
    (r_goto (tgt := 36) k_57_32 rfl (r_gd fun g => r_callV (q_virt (rest := []) (as := [.int (ι 2)]) k_57_36 po_57 rfl rfl rfl (rcvO rfl rfl rfl) rfl rfl) g rfl rfl (fun _ σ3 h3 => r_retV k_57_39 rfl))))
    (r_aload_n k_57_22 rfl rfl
    (r_bipush k_57_23 rfl rfl
    (r_gd fun g => r_callI (q_virt (rest := [.ref 24]) (as := [.int (ι 40)]) k_57_25 po_57 rfl rfl rfl (rcvO rfl rfl rfl) rfl rfl) g rfl rfl (fun r4 σ4 h4 => r_if (tgt := 35) k_57_28 rfl rfl cop_eq
    (r_iconst k_57_35 rfl rfl
    (r_gd fun g => r_callV (q_virt (rest := []) (as := [.int (ι 1)]) k_57_36 po_57 rfl rfl rfl (rcvO rfl rfl rfl) rfl rfl) g rfl rfl (fun _ σ5 h5 => r_retV k_57_39 rfl)))
    (r_iconst k_57_31 rfl rfl
    (r_goto (tgt := 36) k_57_32 rfl (r_gd fun g => r_callV (q_virt (rest := []) (as := [.int (ι 2)]) k_57_36 po_57 rfl rfl rfl (rcvO rfl rfl rfl) rfl rfl) g rfl rfl (fun _ σ6 h6 => r_retV k_57_39 rfl)))))))))))))))))))
/-! ===== 58 HedgeWants.Reader.isSign ===== -/
theorem k_58_0 : cd 58 0 = some (.aload_n 0, 1) := by decide +kernel
theorem k_58_1 : cd 58 1 = some (.getfield 48, 3) := by decide +kernel
theorem k_58_4 : cd 58 4 = some (.iconst 3, 1) := by decide +kernel
theorem k_58_5 : cd 58 5 = some (.if_icmp .ne 15, 3) := by decide +kernel
theorem k_58_8 : cd 58 8 = some (.aload_n 0, 1) := by decide +kernel
theorem k_58_9 : cd 58 9 = some (.getfield 65, 3) := by decide +kernel
theorem k_58_12 : cd 58 12 = some (.iload_n 1, 1) := by decide +kernel
theorem k_58_13 : cd 58 13 = some (.if_icmp .ne 7, 3) := by decide +kernel
theorem k_58_16 : cd 58 16 = some (.iconst 1, 1) := by decide +kernel
theorem k_58_17 : cd 58 17 = some (.goto 4, 3) := by decide +kernel
theorem k_58_20 : cd 58 20 = some (.iconst 0, 1) := by decide +kernel
theorem k_58_21 : cd 58 21 = some (.ireturn, 1) := by decide +kernel
theorem po_58 : po 58 = 6 := rfl
theorem M_58  {x0 : Int32} {σ : pS} {ρ : Nat → Nat → Option Nat} (e : gR σ = ρ) (hL : LayR ρ) : Le
  (if ¬ (gI σ 24 4) = (ι 3) then some (1, .int (ι 0), σ) else if ¬ (gI σ 24 5) = x0 then some (1, .int (ι 0), σ) else some (1, .int (ι 1), σ))
  (pcall 58 [.ref 24, .int x0] σ) := by
  show Le _ (den 58 0 0 [.ref 24, .int x0] [] σ)
  exact r_aload_n k_58_0 rfl rfl
    (r_getI k_58_1 rfl po_58 rfl rfl rfl rfl
    (r_iconst k_58_4 rfl rfl
    (r_icmp (tgt := 20) k_58_5 rfl rfl cop_ne
    (r_iconst k_58_20 rfl rfl
    (r_ret k_58_21 rfl rfl))
    (r_aload_n k_58_8 rfl rfl
    (r_getI k_58_9 rfl po_58 rfl rfl rfl rfl
    (r_iload_n k_58_12 rfl rfl
    (r_icmp (tgt := 20) k_58_13 rfl rfl cop_ne
    (r_iconst k_58_20 rfl rfl
    (r_ret k_58_21 rfl rfl))
    (r_iconst k_58_16 rfl rfl
    (r_goto (tgt := 21) k_58_17 rfl (r_ret k_58_21 rfl rfl))))))))))
/-! ===== 59 HedgeWants.Reader.readAnd ===== -/
theorem k_59_0 : cd 59 0 = some (.aload_n 0, 1) := by decide +kernel
theorem k_59_1 : cd 59 1 = some (.iload_n 1, 1) := by decide +kernel
theorem k_59_2 : cd 59 2 = some (.invokevirtual 180, 3) := by decide +kernel
theorem k_59_5 : cd 59 5 = some (.iconst 0, 1) := by decide +kernel
theorem k_59_6 : cd 59 6 = some (.istore_n 2, 1) := by decide +kernel
theorem k_59_7 : cd 59 7 = some (.iload_n 2, 1) := by decide +kernel
theorem k_59_8 : cd 59 8 = some (.sipush 700, 3) := by decide +kernel
theorem k_59_11 : cd 59 11 = some (.if_icmp .ge 36, 3) := by decide +kernel
theorem k_59_14 : cd 59 14 = some (.aload_n 0, 1) := by decide +kernel
theorem k_59_15 : cd 59 15 = some (.ldc 183, 2) := by decide +kernel
theorem k_59_17 : cd 59 17 = some (.invokevirtual 82, 3) := by decide +kernel
theorem k_59_20 : cd 59 20 = some (.ifCond .eq 27, 3) := by decide +kernel
theorem k_59_23 : cd 59 23 = some (.aload_n 0, 1) := by decide +kernel
theorem k_59_24 : cd 59 24 = some (.invokevirtual 45, 3) := by decide +kernel
theorem k_59_27 : cd 59 27 = some (.aload_n 0, 1) := by decide +kernel
theorem k_59_28 : cd 59 28 = some (.iload_n 1, 1) := by decide +kernel
theorem k_59_29 : cd 59 29 = some (.invokevirtual 180, 3) := by decide +kernel
theorem k_59_32 : cd 59 32 = some (.aload_n 0, 1) := by decide +kernel
theorem k_59_33 : cd 59 33 = some (.getfield 29, 3) := by decide +kernel
theorem k_59_36 : cd 59 36 = some (.bipush (-21), 2) := by decide +kernel
theorem k_59_38 : cd 59 38 = some (.invokevirtual 177, 3) := by decide +kernel
theorem k_59_41 : cd 59 41 = some (.iinc 2 1, 3) := by decide +kernel
theorem k_59_44 : cd 59 44 = some (.goto (-37), 3) := by decide +kernel
theorem k_59_47 : cd 59 47 = some (.return_, 1) := by decide +kernel
theorem po_59 : po 59 = 6 := rfl
noncomputable def C_59_7  (k : Nat) (x1 : Int32) (x2 : Int32) (σ : pS) : Option pZ := den 59 k 7 [.ref 24, .int x1, .int x2] [] σ
theorem T_59_7  {k : Nat} {x1 : Int32} {x2 : Int32}  {σ : pS} {ρ : Nat → Nat → Option Nat} (e : gR σ = ρ) (hL : LayR ρ) : Le
  (if (ι 700) ≤ x2 then some (0, .null, σ) else gd (lv 48 (rk 48 [.ref 24, .ref 1016]) < lv 59 k) (bI (pcall 48 [.ref 24, .ref 1016] σ) fun r1 σ1 => if r1 = (ι 0) then some (0, .null, σ1) else gd (lv 43 (rk 43 [.ref 24]) < lv 59 k) (bV (pcall 43 [.ref 24] σ1) fun σ2 => gd (lv 60 (rk 60 [.ref 24, .int x1]) < lv 59 k) (bV (pcall 60 [.ref 24, .int x1] σ2) fun σ3 => bG isU (gR σ3 24 9) fun q4 => gd (lv 22 (rk 22 [.ref q4, .int (ν 21)]) < lv 59 k) (bV (pcall 22 [.ref q4, .int (ν 21)] σ3) fun σ5 => C_59_7 k x1 (x2 + (ι 1)) σ5)))))
  (C_59_7  k x1 x2 σ) := by
  unfold C_59_7
  exact r_iload_n k_59_7 rfl rfl
    (r_sipush k_59_8 rfl rfl
    (r_icmp (tgt := 47) k_59_11 rfl rfl cop_ge
    (r_retV k_59_47 rfl)
    (r_aload_n k_59_14 rfl rfl
    (r_ldcS k_59_15 rfl po_59 rfl rfl
    (r_gd fun g => r_callI (q_virt (rest := []) (as := [.ref 1016]) k_59_17 po_59 rfl rfl rfl (rcvO rfl rfl rfl) rfl rfl) g rfl rfl (fun r1 σ1 h1 => r_if (tgt := 47) k_59_20 rfl rfl cop_eq
    (r_retV k_59_47 rfl)
    (r_aload_n k_59_23 rfl rfl
    (r_gd fun g => r_callV (q_virt (rest := []) (as := []) k_59_24 po_59 rfl rfl rfl (rcvO rfl rfl rfl) rfl rfl) g rfl rfl (fun _ σ2 h2 => r_aload_n k_59_27 rfl rfl
    (r_iload_n k_59_28 rfl rfl
    (r_gd fun g => r_callV (q_virt (rest := []) (as := [.int x1]) k_59_29 po_59 rfl rfl rfl (rcvO rfl rfl rfl) rfl rfl) g rfl rfl (fun _ σ3 h3 => r_aload_n k_59_32 rfl rfl
    (r_getG k_59_33 rfl po_59 rfl rfl rfl rfl fun q4 hq4 => r_bipush k_59_36 rfl rfl
    (r_gd fun g => r_callV (q_virt (rest := []) (as := [.int (ν 21)]) k_59_38 po_59 rfl rfl rfl (rcvO rfl rfl (kdU hq4)) rfl rfl) g rfl rfl (fun _ σ5 h5 => r_iinc k_59_41 rfl rfl rfl rfl
    (r_goto (tgt := 7) k_59_44 rfl (Le.rfl')))))))))))))))))
theorem M_59  {x0 : Int32} {σ : pS} {ρ : Nat → Nat → Option Nat} (e : gR σ = ρ) (hL : LayR ρ) : Le
  (gd (lv 60 (rk 60 [.ref 24, .int x0]) < lv 59 (rk 59 [.ref 24, .int x0])) (bV (pcall 60 [.ref 24, .int x0] σ) fun σ1 => C_59_7 (rk 59 [.ref 24, .int x0]) x0 (ι 0) σ1))
  (pcall 59 [.ref 24, .int x0] σ) := by
  show Le _ (den 59 (rk 59 [.ref 24, .int x0]) 0 [.ref 24, .int x0, .retAddr 0] [] σ)
  exact r_aload_n k_59_0 rfl rfl
    (r_iload_n k_59_1 rfl rfl
    (r_gd fun g => r_callV (q_virt (rest := []) (as := [.int x0]) k_59_2 po_59 rfl rfl rfl (rcvO rfl rfl rfl) rfl rfl) g rfl rfl (fun _ σ1 h1 => r_iconst k_59_5 rfl rfl
    (r_istore_n k_59_6 rfl rfl rfl
    (Le.rfl')))))
/-! ===== 60 HedgeWants.Reader.readNot ===== -/
theorem k_60_0 : cd 60 0 = some (.iconst 0, 1) := by decide +kernel
theorem k_60_1 : cd 60 1 = some (.istore_n 2, 1) := by decide +kernel
theorem k_60_2 : cd 60 2 = some (.iload_n 2, 1) := by decide +kernel
theorem k_60_3 : cd 60 3 = some (.bipush 6, 2) := by decide +kernel
theorem k_60_5 : cd 60 5 = some (.if_icmp .ge 22, 3) := by decide +kernel
theorem k_60_8 : cd 60 8 = some (.aload_n 0, 1) := by decide +kernel
theorem k_60_9 : cd 60 9 = some (.ldc 185, 2) := by decide +kernel
theorem k_60_11 : cd 60 11 = some (.invokevirtual 82, 3) := by decide +kernel
theorem k_60_14 : cd 60 14 = some (.ifCond .eq 13, 3) := by decide +kernel
theorem k_60_17 : cd 60 17 = some (.aload_n 0, 1) := by decide +kernel
theorem k_60_18 : cd 60 18 = some (.invokevirtual 45, 3) := by decide +kernel
theorem k_60_21 : cd 60 21 = some (.iinc 2 1, 3) := by decide +kernel
theorem k_60_24 : cd 60 24 = some (.goto (-22), 3) := by decide +kernel
theorem k_60_27 : cd 60 27 = some (.aload_n 0, 1) := by decide +kernel
theorem k_60_28 : cd 60 28 = some (.ldc 185, 2) := by decide +kernel
theorem k_60_30 : cd 60 30 = some (.invokevirtual 82, 3) := by decide +kernel
theorem k_60_33 : cd 60 33 = some (.ifCond .eq 8, 3) := by decide +kernel
theorem k_60_36 : cd 60 36 = some (.aload_n 0, 1) := by decide +kernel
theorem k_60_37 : cd 60 37 = some (.iconst 2, 1) := by decide +kernel
theorem k_60_38 : cd 60 38 = some (.invokevirtual 115, 3) := by decide +kernel
theorem k_60_41 : cd 60 41 = some (.aload_n 0, 1) := by decide +kernel
theorem k_60_42 : cd 60 42 = some (.iload_n 1, 1) := by decide +kernel
theorem k_60_43 : cd 60 43 = some (.invokevirtual 187, 3) := by decide +kernel
theorem k_60_46 : cd 60 46 = some (.iconst 0, 1) := by decide +kernel
theorem k_60_47 : cd 60 47 = some (.istore_n 3, 1) := by decide +kernel
theorem k_60_48 : cd 60 48 = some (.iload_n 3, 1) := by decide +kernel
theorem k_60_49 : cd 60 49 = some (.iload_n 2, 1) := by decide +kernel
theorem k_60_50 : cd 60 50 = some (.if_icmp .ge 18, 3) := by decide +kernel
theorem k_60_53 : cd 60 53 = some (.aload_n 0, 1) := by decide +kernel
theorem k_60_54 : cd 60 54 = some (.getfield 29, 3) := by decide +kernel
theorem k_60_57 : cd 60 57 = some (.bipush (-22), 2) := by decide +kernel
theorem k_60_59 : cd 60 59 = some (.invokevirtual 177, 3) := by decide +kernel
theorem k_60_62 : cd 60 62 = some (.iinc 3 1, 3) := by decide +kernel
theorem k_60_65 : cd 60 65 = some (.goto (-17), 3) := by decide +kernel
theorem k_60_68 : cd 60 68 = some (.return_, 1) := by decide +kernel
theorem po_60 : po 60 = 6 := rfl
noncomputable def C_60_2  (k : Nat) (x1 : Int32) (x2 : Int32) (v3 : Value) (σ : pS) : Option pZ := den 60 k 2 [.ref 24, .int x1, .int x2, v3] [] σ
noncomputable def C_60_48  (k : Nat) (v1 : Value) (x2 : Int32) (x3 : Int32) (σ : pS) : Option pZ := den 60 k 48 [.ref 24, v1, .int x2, .int x3] [] σ
theorem T_60_2  {k : Nat} {x1 : Int32} {x2 : Int32} {v3 : Value}  {σ : pS} {ρ : Nat → Nat → Option Nat} (e : gR σ = ρ) (hL : LayR ρ) : Le
  (if (ι 6) ≤ x2 then gd (lv 48 (rk 48 [.ref 24, .ref 1007]) < lv 60 k) (bI (pcall 48 [.ref 24, .ref 1007] σ) fun r1 σ1 => if r1 = (ι 0) then gd (lv 61 (rk 61 [.ref 24, .int x1]) < lv 60 k) (bV (pcall 61 [.ref 24, .int x1] σ1) fun σ2 => C_60_48 k (.int x1) x2 (ι 0) σ2) else gd (lv 50 (rk 50 [.ref 24, .int (ι 2)]) < lv 60 k) (bV (pcall 50 [.ref 24, .int (ι 2)] σ1) fun σ3 => gd (lv 61 (rk 61 [.ref 24, .int x1]) < lv 60 k) (bV (pcall 61 [.ref 24, .int x1] σ3) fun σ4 => C_60_48 k (.int x1) x2 (ι 0) σ4))) else gd (lv 48 (rk 48 [.ref 24, .ref 1007]) < lv 60 k) (bI (pcall 48 [.ref 24, .ref 1007] σ) fun r5 σ5 => if r5 = (ι 0) then gd (lv 48 (rk 48 [.ref 24, .ref 1007]) < lv 60 k) (bI (pcall 48 [.ref 24, .ref 1007] σ5) fun r6 σ6 => if r6 = (ι 0) then gd (lv 61 (rk 61 [.ref 24, .int x1]) < lv 60 k) (bV (pcall 61 [.ref 24, .int x1] σ6) fun σ7 => C_60_48 k (.int x1) x2 (ι 0) σ7) else gd (lv 50 (rk 50 [.ref 24, .int (ι 2)]) < lv 60 k) (bV (pcall 50 [.ref 24, .int (ι 2)] σ6) fun σ8 => gd (lv 61 (rk 61 [.ref 24, .int x1]) < lv 60 k) (bV (pcall 61 [.ref 24, .int x1] σ8) fun σ9 => C_60_48 k (.int x1) x2 (ι 0) σ9))) else gd (lv 43 (rk 43 [.ref 24]) < lv 60 k) (bV (pcall 43 [.ref 24] σ5) fun σ10 => C_60_2 k x1 (x2 + (ι 1)) v3 σ10)))
  (C_60_2  k x1 x2 v3 σ) := by
  unfold C_60_2
  exact r_iload_n k_60_2 rfl rfl
    (r_bipush k_60_3 rfl rfl
    (r_icmp (tgt := 27) k_60_5 rfl rfl cop_ge
    (r_aload_n k_60_27 rfl rfl
    (r_ldcS k_60_28 rfl po_60 rfl rfl
    (r_gd fun g => r_callI (q_virt (rest := []) (as := [.ref 1007]) k_60_30 po_60 rfl rfl rfl (rcvO rfl rfl rfl) rfl rfl) g rfl rfl (fun r1 σ1 h1 => r_if (tgt := 41) k_60_33 rfl rfl cop_eq
    (r_aload_n k_60_41 rfl rfl
    (r_iload_n k_60_42 rfl rfl
    (r_gd fun g => r_callV (q_virt (rest := []) (as := [.int x1]) k_60_43 po_60 rfl rfl rfl (rcvO rfl rfl rfl) rfl rfl) g rfl rfl (fun _ σ2 h2 => r_iconst k_60_46 rfl rfl
    (r_istore_n k_60_47 rfl rfl rfl
    (Le.rfl'))))))
    (r_aload_n k_60_36 rfl rfl
    (r_iconst k_60_37 rfl rfl
    (r_gd fun g => r_callV (q_virt (rest := []) (as := [.int (ι 2)]) k_60_38 po_60 rfl rfl rfl (rcvO rfl rfl rfl) rfl rfl) g rfl rfl (fun _ σ3 h3 => r_aload_n k_60_41 rfl rfl
    (r_iload_n k_60_42 rfl rfl
    (r_gd fun g => r_callV (q_virt (rest := []) (as := [.int x1]) k_60_43 po_60 rfl rfl rfl (rcvO rfl rfl rfl) rfl rfl) g rfl rfl (fun _ σ4 h4 => r_iconst k_60_46 rfl rfl
    (r_istore_n k_60_47 rfl rfl rfl
    (Le.rfl')))))))))))))
    (r_aload_n k_60_8 rfl rfl
    (r_ldcS k_60_9 rfl po_60 rfl rfl
    (r_gd fun g => r_callI (q_virt (rest := []) (as := [.ref 1007]) k_60_11 po_60 rfl rfl rfl (rcvO rfl rfl rfl) rfl rfl) g rfl rfl (fun r5 σ5 h5 => r_if (tgt := 27) k_60_14 rfl rfl cop_eq
    (r_aload_n k_60_27 rfl rfl
    (r_ldcS k_60_28 rfl po_60 rfl rfl
    (r_gd fun g => r_callI (q_virt (rest := []) (as := [.ref 1007]) k_60_30 po_60 rfl rfl rfl (rcvO rfl rfl rfl) rfl rfl) g rfl rfl (fun r6 σ6 h6 => r_if (tgt := 41) k_60_33 rfl rfl cop_eq
    (r_aload_n k_60_41 rfl rfl
    (r_iload_n k_60_42 rfl rfl
    (r_gd fun g => r_callV (q_virt (rest := []) (as := [.int x1]) k_60_43 po_60 rfl rfl rfl (rcvO rfl rfl rfl) rfl rfl) g rfl rfl (fun _ σ7 h7 => r_iconst k_60_46 rfl rfl
    (r_istore_n k_60_47 rfl rfl rfl
    (Le.rfl'))))))
    (r_aload_n k_60_36 rfl rfl
    (r_iconst k_60_37 rfl rfl
    (r_gd fun g => r_callV (q_virt (rest := []) (as := [.int (ι 2)]) k_60_38 po_60 rfl rfl rfl (rcvO rfl rfl rfl) rfl rfl) g rfl rfl (fun _ σ8 h8 => r_aload_n k_60_41 rfl rfl
    (r_iload_n k_60_42 rfl rfl
    (r_gd fun g => r_callV (q_virt (rest := []) (as := [.int x1]) k_60_43 po_60 rfl rfl rfl (rcvO rfl rfl rfl) rfl rfl) g rfl rfl (fun _ σ9 h9 => r_iconst k_60_46 rfl rfl
    (r_istore_n k_60_47 rfl rfl rfl
    (Le.rfl')))))))))))))
    (r_aload_n k_60_17 rfl rfl
    (r_gd fun g => r_callV (q_virt (rest := []) (as := []) k_60_18 po_60 rfl rfl rfl (rcvO rfl rfl rfl) rfl rfl) g rfl rfl (fun _ σ10 h10 => r_iinc k_60_21 rfl rfl rfl rfl
    (r_goto (tgt := 2) k_60_24 rfl (Le.rfl')))))))))))
theorem T_60_48  {k : Nat} {v1 : Value} {x2 : Int32} {x3 : Int32}  {σ : pS} {ρ : Nat → Nat → Option Nat} (e : gR σ = ρ) (hL : LayR ρ) : Le
  (if x2 ≤ x3 then some (0, .null, σ) else bG isU (gR σ 24 9) fun q1 => gd (lv 22 (rk 22 [.ref q1, .int (ν 22)]) < lv 60 k) (bV (pcall 22 [.ref q1, .int (ν 22)] σ) fun σ2 => C_60_48 k v1 x2 (x3 + (ι 1)) σ2))
  (C_60_48  k v1 x2 x3 σ) := by
  unfold C_60_48
  exact r_iload_n k_60_48 rfl rfl
    (r_iload_n k_60_49 rfl rfl
    (r_icmp (tgt := 68) k_60_50 rfl rfl cop_ge
    (r_retV k_60_68 rfl)
    (r_aload_n k_60_53 rfl rfl
    (r_getG k_60_54 rfl po_60 rfl rfl rfl rfl fun q1 hq1 => r_bipush k_60_57 rfl rfl
    (r_gd fun g => r_callV (q_virt (rest := []) (as := [.int (ν 22)]) k_60_59 po_60 rfl rfl rfl (rcvO rfl rfl (kdU hq1)) rfl rfl) g rfl rfl (fun _ σ2 h2 => r_iinc k_60_62 rfl rfl rfl rfl
    (r_goto (tgt := 48) k_60_65 rfl (Le.rfl'))))))))
theorem M_60  {x0 : Int32} {σ : pS} {ρ : Nat → Nat → Option Nat} (e : gR σ = ρ) (hL : LayR ρ) : Le
  (C_60_2 (rk 60 [.ref 24, .int x0]) x0 (ι 0) (.retAddr 0) σ)
  (pcall 60 [.ref 24, .int x0] σ) := by
  show Le _ (den 60 (rk 60 [.ref 24, .int x0]) 0 [.ref 24, .int x0, .retAddr 0, .retAddr 0] [] σ)
  exact r_iconst k_60_0 rfl rfl
    (r_istore_n k_60_1 rfl rfl rfl
    (Le.rfl'))
/-! ===== 61 HedgeWants.Reader.readTest ===== -/
theorem k_61_0 : cd 61 0 = some (.aload_n 0, 1) := by decide +kernel
theorem k_61_1 : cd 61 1 = some (.iload_n 1, 1) := by decide +kernel
theorem k_61_2 : cd 61 2 = some (.invokevirtual 190, 3) := by decide +kernel
theorem k_61_5 : cd 61 5 = some (.aload_n 0, 1) := by decide +kernel
theorem k_61_6 : cd 61 6 = some (.bipush 60, 2) := by decide +kernel
theorem k_61_8 : cd 61 8 = some (.invokevirtual 161, 3) := by decide +kernel
theorem k_61_11 : cd 61 11 = some (.ifCond .ne 12, 3) := by decide +kernel
theorem k_61_14 : cd 61 14 = some (.aload_n 0, 1) := by decide +kernel
theorem k_61_15 : cd 61 15 = some (.bipush 61, 2) := by decide +kernel
theorem k_61_17 : cd 61 17 = some (.invokevirtual 161, 3) := by decide +kernel
theorem k_61_20 : cd 61 20 = some (.ifCond .eq 37, 3) := by decide +kernel
theorem k_61_23 : cd 61 23 = some (.aload_n 0, 1) := by decide +kernel
theorem k_61_24 : cd 61 24 = some (.bipush 60, 2) := by decide +kernel
theorem k_61_26 : cd 61 26 = some (.invokevirtual 161, 3) := by decide +kernel
theorem k_61_29 : cd 61 29 = some (.ifCond .eq 8, 3) := by decide +kernel
theorem k_61_32 : cd 61 32 = some (.bipush (-23), 2) := by decide +kernel
theorem k_61_34 : cd 61 34 = some (.goto 5, 3) := by decide +kernel
theorem k_61_37 : cd 61 37 = some (.bipush (-24), 2) := by decide +kernel
theorem k_61_39 : cd 61 39 = some (.istore_n 2, 1) := by decide +kernel
theorem k_61_40 : cd 61 40 = some (.aload_n 0, 1) := by decide +kernel
theorem k_61_41 : cd 61 41 = some (.invokevirtual 45, 3) := by decide +kernel
theorem k_61_44 : cd 61 44 = some (.aload_n 0, 1) := by decide +kernel
theorem k_61_45 : cd 61 45 = some (.iload_n 1, 1) := by decide +kernel
theorem k_61_46 : cd 61 46 = some (.invokevirtual 190, 3) := by decide +kernel
theorem k_61_49 : cd 61 49 = some (.aload_n 0, 1) := by decide +kernel
theorem k_61_50 : cd 61 50 = some (.getfield 29, 3) := by decide +kernel
theorem k_61_53 : cd 61 53 = some (.iload_n 2, 1) := by decide +kernel
theorem k_61_54 : cd 61 54 = some (.invokevirtual 177, 3) := by decide +kernel
theorem k_61_57 : cd 61 57 = some (.return_, 1) := by decide +kernel
theorem po_61 : po 61 = 6 := rfl
noncomputable def C_61_23  (k : Nat) (x1 : Int32) (v2 : Value) (σ : pS) : Option pZ := den 61 k 23 [.ref 24, .int x1, v2] [] σ
theorem T_61_23  {k : Nat} {x1 : Int32} {v2 : Value}  {σ : pS} {ρ : Nat → Nat → Option Nat} (e : gR σ = ρ) (hL : LayR ρ) : Le
  (gd (lv 58 (rk 58 [.ref 24, .int (ι 60)]) < lv 61 k) (bI (pcall 58 [.ref 24, .int (ι 60)] σ) fun r1 σ1 => if r1 = (ι 0) then gd (lv 43 (rk 43 [.ref 24]) < lv 61 k) (bV (pcall 43 [.ref 24] σ1) fun σ2 => gd (lv 62 (rk 62 [.ref 24, .int x1]) < lv 61 k) (bV (pcall 62 [.ref 24, .int x1] σ2) fun σ3 => bG isU (gR σ3 24 9) fun q4 => gd (lv 22 (rk 22 [.ref q4, .int (ν 24)]) < lv 61 k) (bV (pcall 22 [.ref q4, .int (ν 24)] σ3) fun σ5 => some (0, .null, σ5)))) else gd (lv 43 (rk 43 [.ref 24]) < lv 61 k) (bV (pcall 43 [.ref 24] σ1) fun σ6 => gd (lv 62 (rk 62 [.ref 24, .int x1]) < lv 61 k) (bV (pcall 62 [.ref 24, .int x1] σ6) fun σ7 => bG isU (gR σ7 24 9) fun q8 => gd (lv 22 (rk 22 [.ref q8, .int (ν 23)]) < lv 61 k) (bV (pcall 22 [.ref q8, .int (ν 23)] σ7) fun σ9 => some (0, .null, σ9))))))
  (C_61_23  k x1 v2 σ) := by
  unfold C_61_23
  exact r_aload_n k_61_23 rfl rfl
    (r_bipush k_61_24 rfl rfl
    (r_gd fun g => r_callI (q_virt (rest := []) (as := [.int (ι 60)]) k_61_26 po_61 rfl rfl rfl (rcvO rfl rfl rfl) rfl rfl) g rfl rfl (fun r1 σ1 h1 => r_if (tgt := 37) k_61_29 rfl rfl cop_eq
    (r_bipush k_61_37 rfl rfl
    (r_istore_n k_61_39 rfl rfl rfl
    (r_aload_n k_61_40 rfl rfl
    (r_gd fun g => r_callV (q_virt (rest := []) (as := []) k_61_41 po_61 rfl rfl rfl (rcvO rfl rfl rfl) rfl rfl) g rfl rfl (fun _ σ2 h2 => r_aload_n k_61_44 rfl rfl
    (r_iload_n k_61_45 rfl rfl
    (r_gd fun g => r_callV (q_virt (rest := []) (as := [.int x1]) k_61_46 po_61 rfl rfl rfl (rcvO rfl rfl rfl) rfl rfl) g rfl rfl (fun _ σ3 h3 => r_aload_n k_61_49 rfl rfl
    (r_getG k_61_50 rfl po_61 rfl rfl rfl rfl fun q4 hq4 => r_iload_n k_61_53 rfl rfl
    (r_gd fun g => r_callV (q_virt (rest := []) (as := [.int (ν 24)]) k_61_54 po_61 rfl rfl rfl (rcvO rfl rfl (kdU hq4)) rfl rfl) g rfl rfl (fun _ σ5 h5 => r_retV k_61_57 rfl)))))))))))
    (r_bipush k_61_32 rfl rfl
    (r_goto (tgt := 39) k_61_34 rfl (r_istore_n k_61_39 rfl rfl rfl
    (r_aload_n k_61_40 rfl rfl
    (r_gd fun g => r_callV (q_virt (rest := []) (as := []) k_61_41 po_61 rfl rfl rfl (rcvO rfl rfl rfl) rfl rfl) g rfl rfl (fun _ σ6 h6 => r_aload_n k_61_44 rfl rfl
    (r_iload_n k_61_45 rfl rfl
    (r_gd fun g => r_callV (q_virt (rest := []) (as := [.int x1]) k_61_46 po_61 rfl rfl rfl (rcvO rfl rfl rfl) rfl rfl) g rfl rfl (fun _ σ7 h7 => r_aload_n k_61_49 rfl rfl
    (r_getG k_61_50 rfl po_61 rfl rfl rfl rfl fun q8 hq8 => r_iload_n k_61_53 rfl rfl
    (r_gd fun g => r_callV (q_virt (rest := []) (as := [.int (ν 23)]) k_61_54 po_61 rfl rfl rfl (rcvO rfl rfl (kdU hq8)) rfl rfl) g rfl rfl (fun _ σ9 h9 => r_retV k_61_57 rfl)))))))))))))))
theorem M_61  {x0 : Int32} {σ : pS} {ρ : Nat → Nat → Option Nat} (e : gR σ = ρ) (hL : LayR ρ) : Le
  (gd (lv 62 (rk 62 [.ref 24, .int x0]) < lv 61 (rk 61 [.ref 24, .int x0])) (bV (pcall 62 [.ref 24, .int x0] σ) fun σ1 => gd (lv 58 (rk 58 [.ref 24, .int (ι 60)]) < lv 61 (rk 61 [.ref 24, .int x0])) (bI (pcall 58 [.ref 24, .int (ι 60)] σ1) fun r2 σ2 => if ¬ r2 = (ι 0) then C_61_23 (rk 61 [.ref 24, .int x0]) x0 (.retAddr 0) σ2 else gd (lv 58 (rk 58 [.ref 24, .int (ι 61)]) < lv 61 (rk 61 [.ref 24, .int x0])) (bI (pcall 58 [.ref 24, .int (ι 61)] σ2) fun r3 σ3 => if r3 = (ι 0) then some (0, .null, σ3) else C_61_23 (rk 61 [.ref 24, .int x0]) x0 (.retAddr 0) σ3))))
  (pcall 61 [.ref 24, .int x0] σ) := by
  show Le _ (den 61 (rk 61 [.ref 24, .int x0]) 0 [.ref 24, .int x0, .retAddr 0] [] σ)
  exact r_aload_n k_61_0 rfl rfl
    (r_iload_n k_61_1 rfl rfl
    (r_gd fun g => r_callV (q_virt (rest := []) (as := [.int x0]) k_61_2 po_61 rfl rfl rfl (rcvO rfl rfl rfl) rfl rfl) g rfl rfl (fun _ σ1 h1 => r_aload_n k_61_5 rfl rfl
    (r_bipush k_61_6 rfl rfl
    (r_gd fun g => r_callI (q_virt (rest := []) (as := [.int (ι 60)]) k_61_8 po_61 rfl rfl rfl (rcvO rfl rfl rfl) rfl rfl) g rfl rfl (fun r2 σ2 h2 => r_if (tgt := 23) k_61_11 rfl rfl cop_ne
    (Le.rfl')
    (r_aload_n k_61_14 rfl rfl
    (r_bipush k_61_15 rfl rfl
    (r_gd fun g => r_callI (q_virt (rest := []) (as := [.int (ι 61)]) k_61_17 po_61 rfl rfl rfl (rcvO rfl rfl rfl) rfl rfl) g rfl rfl (fun r3 σ3 h3 => r_if (tgt := 57) k_61_20 rfl rfl cop_eq
    (r_retV k_61_57 rfl)
    (Le.rfl')))))))))))
/-! ===== 62 HedgeWants.Reader.readSum ===== -/
theorem k_62_0 : cd 62 0 = some (.aload_n 0, 1) := by decide +kernel
theorem k_62_1 : cd 62 1 = some (.iload_n 1, 1) := by decide +kernel
theorem k_62_2 : cd 62 2 = some (.invokevirtual 193, 3) := by decide +kernel
theorem k_62_5 : cd 62 5 = some (.iconst 0, 1) := by decide +kernel
theorem k_62_6 : cd 62 6 = some (.istore_n 2, 1) := by decide +kernel
theorem k_62_7 : cd 62 7 = some (.iload_n 2, 1) := by decide +kernel
theorem k_62_8 : cd 62 8 = some (.sipush 700, 3) := by decide +kernel
theorem k_62_11 : cd 62 11 = some (.if_icmp .ge 61, 3) := by decide +kernel
theorem k_62_14 : cd 62 14 = some (.aload_n 0, 1) := by decide +kernel
theorem k_62_15 : cd 62 15 = some (.bipush 43, 2) := by decide +kernel
theorem k_62_17 : cd 62 17 = some (.invokevirtual 161, 3) := by decide +kernel
theorem k_62_20 : cd 62 20 = some (.ifCond .ne 12, 3) := by decide +kernel
theorem k_62_23 : cd 62 23 = some (.aload_n 0, 1) := by decide +kernel
theorem k_62_24 : cd 62 24 = some (.bipush 45, 2) := by decide +kernel
theorem k_62_26 : cd 62 26 = some (.invokevirtual 161, 3) := by decide +kernel
theorem k_62_29 : cd 62 29 = some (.ifCond .eq 43, 3) := by decide +kernel
theorem k_62_32 : cd 62 32 = some (.aload_n 0, 1) := by decide +kernel
theorem k_62_33 : cd 62 33 = some (.bipush 43, 2) := by decide +kernel
theorem k_62_35 : cd 62 35 = some (.invokevirtual 161, 3) := by decide +kernel
theorem k_62_38 : cd 62 38 = some (.ifCond .eq 8, 3) := by decide +kernel
theorem k_62_41 : cd 62 41 = some (.bipush (-25), 2) := by decide +kernel
theorem k_62_43 : cd 62 43 = some (.goto 5, 3) := by decide +kernel
theorem k_62_46 : cd 62 46 = some (.bipush (-26), 2) := by decide +kernel
theorem k_62_48 : cd 62 48 = some (.istore_n 3, 1) := by decide +kernel
theorem k_62_49 : cd 62 49 = some (.aload_n 0, 1) := by decide +kernel
theorem k_62_50 : cd 62 50 = some (.invokevirtual 45, 3) := by decide +kernel
theorem k_62_53 : cd 62 53 = some (.aload_n 0, 1) := by decide +kernel
theorem k_62_54 : cd 62 54 = some (.iload_n 1, 1) := by decide +kernel
theorem k_62_55 : cd 62 55 = some (.invokevirtual 193, 3) := by decide +kernel
theorem k_62_58 : cd 62 58 = some (.aload_n 0, 1) := by decide +kernel
theorem k_62_59 : cd 62 59 = some (.getfield 29, 3) := by decide +kernel
theorem k_62_62 : cd 62 62 = some (.iload_n 3, 1) := by decide +kernel
theorem k_62_63 : cd 62 63 = some (.invokevirtual 177, 3) := by decide +kernel
theorem k_62_66 : cd 62 66 = some (.iinc 2 1, 3) := by decide +kernel
theorem k_62_69 : cd 62 69 = some (.goto (-62), 3) := by decide +kernel
theorem k_62_72 : cd 62 72 = some (.return_, 1) := by decide +kernel
theorem po_62 : po 62 = 6 := rfl
noncomputable def C_62_7  (k : Nat) (x1 : Int32) (x2 : Int32) (v3 : Value) (σ : pS) : Option pZ := den 62 k 7 [.ref 24, .int x1, .int x2, v3] [] σ
noncomputable def C_62_32  (k : Nat) (x1 : Int32) (x2 : Int32) (v3 : Value) (σ : pS) : Option pZ := den 62 k 32 [.ref 24, .int x1, .int x2, v3] [] σ
theorem T_62_7  {k : Nat} {x1 : Int32} {x2 : Int32} {v3 : Value}  {σ : pS} {ρ : Nat → Nat → Option Nat} (e : gR σ = ρ) (hL : LayR ρ) : Le
  (if (ι 700) ≤ x2 then some (0, .null, σ) else gd (lv 58 (rk 58 [.ref 24, .int (ι 43)]) < lv 62 k) (bI (pcall 58 [.ref 24, .int (ι 43)] σ) fun r1 σ1 => if ¬ r1 = (ι 0) then C_62_32 k x1 x2 v3 σ1 else gd (lv 58 (rk 58 [.ref 24, .int (ι 45)]) < lv 62 k) (bI (pcall 58 [.ref 24, .int (ι 45)] σ1) fun r2 σ2 => if r2 = (ι 0) then some (0, .null, σ2) else C_62_32 k x1 x2 v3 σ2)))
  (C_62_7  k x1 x2 v3 σ) := by
  unfold C_62_7
  exact r_iload_n k_62_7 rfl rfl
    (r_sipush k_62_8 rfl rfl
    (r_icmp (tgt := 72) k_62_11 rfl rfl cop_ge
    (r_retV k_62_72 rfl)
    (r_aload_n k_62_14 rfl rfl
    (r_bipush k_62_15 rfl rfl
    (r_gd fun g => r_callI (q_virt (rest := []) (as := [.int (ι 43)]) k_62_17 po_62 rfl rfl rfl (rcvO rfl rfl rfl) rfl rfl) g rfl rfl (fun r1 σ1 h1 => r_if (tgt := 32) k_62_20 rfl rfl cop_ne
    (Le.rfl')
    (r_aload_n k_62_23 rfl rfl
    (r_bipush k_62_24 rfl rfl
    (r_gd fun g => r_callI (q_virt (rest := []) (as := [.int (ι 45)]) k_62_26 po_62 rfl rfl rfl (rcvO rfl rfl rfl) rfl rfl) g rfl rfl (fun r2 σ2 h2 => r_if (tgt := 72) k_62_29 rfl rfl cop_eq
    (r_retV k_62_72 rfl)
    (Le.rfl')))))))))))
theorem T_62_32  {k : Nat} {x1 : Int32} {x2 : Int32} {v3 : Value}  {σ : pS} {ρ : Nat → Nat → Option Nat} (e : gR σ = ρ) (hL : LayR ρ) : Le
  (gd (lv 58 (rk 58 [.ref 24, .int (ι 43)]) < lv 62 k) (bI (pcall 58 [.ref 24, .int (ι 43)] σ) fun r1 σ1 => if r1 = (ι 0) then gd (lv 43 (rk 43 [.ref 24]) < lv 62 k) (bV (pcall 43 [.ref 24] σ1) fun σ2 => gd (lv 63 (rk 63 [.ref 24, .int x1]) < lv 62 k) (bV (pcall 63 [.ref 24, .int x1] σ2) fun σ3 => bG isU (gR σ3 24 9) fun q4 => gd (lv 22 (rk 22 [.ref q4, .int (ν 26)]) < lv 62 k) (bV (pcall 22 [.ref q4, .int (ν 26)] σ3) fun σ5 => C_62_7 k x1 (x2 + (ι 1)) (.int (ν 26)) σ5))) else gd (lv 43 (rk 43 [.ref 24]) < lv 62 k) (bV (pcall 43 [.ref 24] σ1) fun σ6 => gd (lv 63 (rk 63 [.ref 24, .int x1]) < lv 62 k) (bV (pcall 63 [.ref 24, .int x1] σ6) fun σ7 => bG isU (gR σ7 24 9) fun q8 => gd (lv 22 (rk 22 [.ref q8, .int (ν 25)]) < lv 62 k) (bV (pcall 22 [.ref q8, .int (ν 25)] σ7) fun σ9 => C_62_7 k x1 (x2 + (ι 1)) (.int (ν 25)) σ9)))))
  (C_62_32  k x1 x2 v3 σ) := by
  unfold C_62_32
  exact r_aload_n k_62_32 rfl rfl
    (r_bipush k_62_33 rfl rfl
    (r_gd fun g => r_callI (q_virt (rest := []) (as := [.int (ι 43)]) k_62_35 po_62 rfl rfl rfl (rcvO rfl rfl rfl) rfl rfl) g rfl rfl (fun r1 σ1 h1 => r_if (tgt := 46) k_62_38 rfl rfl cop_eq
    (r_bipush k_62_46 rfl rfl
    (r_istore_n k_62_48 rfl rfl rfl
    (r_aload_n k_62_49 rfl rfl
    (r_gd fun g => r_callV (q_virt (rest := []) (as := []) k_62_50 po_62 rfl rfl rfl (rcvO rfl rfl rfl) rfl rfl) g rfl rfl (fun _ σ2 h2 => r_aload_n k_62_53 rfl rfl
    (r_iload_n k_62_54 rfl rfl
    (r_gd fun g => r_callV (q_virt (rest := []) (as := [.int x1]) k_62_55 po_62 rfl rfl rfl (rcvO rfl rfl rfl) rfl rfl) g rfl rfl (fun _ σ3 h3 => r_aload_n k_62_58 rfl rfl
    (r_getG k_62_59 rfl po_62 rfl rfl rfl rfl fun q4 hq4 => r_iload_n k_62_62 rfl rfl
    (r_gd fun g => r_callV (q_virt (rest := []) (as := [.int (ν 26)]) k_62_63 po_62 rfl rfl rfl (rcvO rfl rfl (kdU hq4)) rfl rfl) g rfl rfl (fun _ σ5 h5 => r_iinc k_62_66 rfl rfl rfl rfl
    (r_goto (tgt := 7) k_62_69 rfl (Le.rfl')))))))))))))
    (r_bipush k_62_41 rfl rfl
    (r_goto (tgt := 48) k_62_43 rfl (r_istore_n k_62_48 rfl rfl rfl
    (r_aload_n k_62_49 rfl rfl
    (r_gd fun g => r_callV (q_virt (rest := []) (as := []) k_62_50 po_62 rfl rfl rfl (rcvO rfl rfl rfl) rfl rfl) g rfl rfl (fun _ σ6 h6 => r_aload_n k_62_53 rfl rfl
    (r_iload_n k_62_54 rfl rfl
    (r_gd fun g => r_callV (q_virt (rest := []) (as := [.int x1]) k_62_55 po_62 rfl rfl rfl (rcvO rfl rfl rfl) rfl rfl) g rfl rfl (fun _ σ7 h7 => r_aload_n k_62_58 rfl rfl
    (r_getG k_62_59 rfl po_62 rfl rfl rfl rfl fun q8 hq8 => r_iload_n k_62_62 rfl rfl
    (r_gd fun g => r_callV (q_virt (rest := []) (as := [.int (ν 25)]) k_62_63 po_62 rfl rfl rfl (rcvO rfl rfl (kdU hq8)) rfl rfl) g rfl rfl (fun _ σ9 h9 => r_iinc k_62_66 rfl rfl rfl rfl
    (r_goto (tgt := 7) k_62_69 rfl (Le.rfl')))))))))))))))))
theorem M_62  {x0 : Int32} {σ : pS} {ρ : Nat → Nat → Option Nat} (e : gR σ = ρ) (hL : LayR ρ) : Le
  (gd (lv 63 (rk 63 [.ref 24, .int x0]) < lv 62 (rk 62 [.ref 24, .int x0])) (bV (pcall 63 [.ref 24, .int x0] σ) fun σ1 => C_62_7 (rk 62 [.ref 24, .int x0]) x0 (ι 0) (.retAddr 0) σ1))
  (pcall 62 [.ref 24, .int x0] σ) := by
  show Le _ (den 62 (rk 62 [.ref 24, .int x0]) 0 [.ref 24, .int x0, .retAddr 0, .retAddr 0] [] σ)
  exact r_aload_n k_62_0 rfl rfl
    (r_iload_n k_62_1 rfl rfl
    (r_gd fun g => r_callV (q_virt (rest := []) (as := [.int x0]) k_62_2 po_62 rfl rfl rfl (rcvO rfl rfl rfl) rfl rfl) g rfl rfl (fun _ σ1 h1 => r_iconst k_62_5 rfl rfl
    (r_istore_n k_62_6 rfl rfl rfl
    (Le.rfl')))))
/-! ===== 63 HedgeWants.Reader.readProduct ===== -/
theorem k_63_0 : cd 63 0 = some (.aload_n 0, 1) := by decide +kernel
theorem k_63_1 : cd 63 1 = some (.iload_n 1, 1) := by decide +kernel
theorem k_63_2 : cd 63 2 = some (.invokevirtual 196, 3) := by decide +kernel
theorem k_63_5 : cd 63 5 = some (.iconst 0, 1) := by decide +kernel
theorem k_63_6 : cd 63 6 = some (.istore_n 2, 1) := by decide +kernel
theorem k_63_7 : cd 63 7 = some (.iload_n 2, 1) := by decide +kernel
theorem k_63_8 : cd 63 8 = some (.sipush 700, 3) := by decide +kernel
theorem k_63_11 : cd 63 11 = some (.if_icmp .ge 61, 3) := by decide +kernel
theorem k_63_14 : cd 63 14 = some (.aload_n 0, 1) := by decide +kernel
theorem k_63_15 : cd 63 15 = some (.bipush 42, 2) := by decide +kernel
theorem k_63_17 : cd 63 17 = some (.invokevirtual 161, 3) := by decide +kernel
theorem k_63_20 : cd 63 20 = some (.ifCond .ne 12, 3) := by decide +kernel
theorem k_63_23 : cd 63 23 = some (.aload_n 0, 1) := by decide +kernel
theorem k_63_24 : cd 63 24 = some (.bipush 47, 2) := by decide +kernel
theorem k_63_26 : cd 63 26 = some (.invokevirtual 161, 3) := by decide +kernel
theorem k_63_29 : cd 63 29 = some (.ifCond .eq 43, 3) := by decide +kernel
theorem k_63_32 : cd 63 32 = some (.aload_n 0, 1) := by decide +kernel
theorem k_63_33 : cd 63 33 = some (.bipush 42, 2) := by decide +kernel
theorem k_63_35 : cd 63 35 = some (.invokevirtual 161, 3) := by decide +kernel
theorem k_63_38 : cd 63 38 = some (.ifCond .eq 8, 3) := by decide +kernel
theorem k_63_41 : cd 63 41 = some (.bipush (-27), 2) := by decide +kernel
theorem k_63_43 : cd 63 43 = some (.goto 5, 3) := by decide +kernel
theorem k_63_46 : cd 63 46 = some (.bipush (-28), 2) := by decide +kernel
theorem k_63_48 : cd 63 48 = some (.istore_n 3, 1) := by decide +kernel
theorem k_63_49 : cd 63 49 = some (.aload_n 0, 1) := by decide +kernel
theorem k_63_50 : cd 63 50 = some (.invokevirtual 45, 3) := by decide +kernel
theorem k_63_53 : cd 63 53 = some (.aload_n 0, 1) := by decide +kernel
theorem k_63_54 : cd 63 54 = some (.iload_n 1, 1) := by decide +kernel
theorem k_63_55 : cd 63 55 = some (.invokevirtual 196, 3) := by decide +kernel
theorem k_63_58 : cd 63 58 = some (.aload_n 0, 1) := by decide +kernel
theorem k_63_59 : cd 63 59 = some (.getfield 29, 3) := by decide +kernel
theorem k_63_62 : cd 63 62 = some (.iload_n 3, 1) := by decide +kernel
theorem k_63_63 : cd 63 63 = some (.invokevirtual 177, 3) := by decide +kernel
theorem k_63_66 : cd 63 66 = some (.iinc 2 1, 3) := by decide +kernel
theorem k_63_69 : cd 63 69 = some (.goto (-62), 3) := by decide +kernel
theorem k_63_72 : cd 63 72 = some (.return_, 1) := by decide +kernel
theorem po_63 : po 63 = 6 := rfl
noncomputable def C_63_7  (k : Nat) (x1 : Int32) (x2 : Int32) (v3 : Value) (σ : pS) : Option pZ := den 63 k 7 [.ref 24, .int x1, .int x2, v3] [] σ
noncomputable def C_63_32  (k : Nat) (x1 : Int32) (x2 : Int32) (v3 : Value) (σ : pS) : Option pZ := den 63 k 32 [.ref 24, .int x1, .int x2, v3] [] σ
theorem T_63_7  {k : Nat} {x1 : Int32} {x2 : Int32} {v3 : Value}  {σ : pS} {ρ : Nat → Nat → Option Nat} (e : gR σ = ρ) (hL : LayR ρ) : Le
  (if (ι 700) ≤ x2 then some (0, .null, σ) else gd (lv 58 (rk 58 [.ref 24, .int (ι 42)]) < lv 63 k) (bI (pcall 58 [.ref 24, .int (ι 42)] σ) fun r1 σ1 => if ¬ r1 = (ι 0) then C_63_32 k x1 x2 v3 σ1 else gd (lv 58 (rk 58 [.ref 24, .int (ι 47)]) < lv 63 k) (bI (pcall 58 [.ref 24, .int (ι 47)] σ1) fun r2 σ2 => if r2 = (ι 0) then some (0, .null, σ2) else C_63_32 k x1 x2 v3 σ2)))
  (C_63_7  k x1 x2 v3 σ) := by
  unfold C_63_7
  exact r_iload_n k_63_7 rfl rfl
    (r_sipush k_63_8 rfl rfl
    (r_icmp (tgt := 72) k_63_11 rfl rfl cop_ge
    (r_retV k_63_72 rfl)
    (r_aload_n k_63_14 rfl rfl
    (r_bipush k_63_15 rfl rfl
    (r_gd fun g => r_callI (q_virt (rest := []) (as := [.int (ι 42)]) k_63_17 po_63 rfl rfl rfl (rcvO rfl rfl rfl) rfl rfl) g rfl rfl (fun r1 σ1 h1 => r_if (tgt := 32) k_63_20 rfl rfl cop_ne
    (Le.rfl')
    (r_aload_n k_63_23 rfl rfl
    (r_bipush k_63_24 rfl rfl
    (r_gd fun g => r_callI (q_virt (rest := []) (as := [.int (ι 47)]) k_63_26 po_63 rfl rfl rfl (rcvO rfl rfl rfl) rfl rfl) g rfl rfl (fun r2 σ2 h2 => r_if (tgt := 72) k_63_29 rfl rfl cop_eq
    (r_retV k_63_72 rfl)
    (Le.rfl')))))))))))
theorem T_63_32  {k : Nat} {x1 : Int32} {x2 : Int32} {v3 : Value}  {σ : pS} {ρ : Nat → Nat → Option Nat} (e : gR σ = ρ) (hL : LayR ρ) : Le
  (gd (lv 58 (rk 58 [.ref 24, .int (ι 42)]) < lv 63 k) (bI (pcall 58 [.ref 24, .int (ι 42)] σ) fun r1 σ1 => if r1 = (ι 0) then gd (lv 43 (rk 43 [.ref 24]) < lv 63 k) (bV (pcall 43 [.ref 24] σ1) fun σ2 => gd (lv 64 (rk 64 [.ref 24, .int x1]) < lv 63 k) (bV (pcall 64 [.ref 24, .int x1] σ2) fun σ3 => bG isU (gR σ3 24 9) fun q4 => gd (lv 22 (rk 22 [.ref q4, .int (ν 28)]) < lv 63 k) (bV (pcall 22 [.ref q4, .int (ν 28)] σ3) fun σ5 => C_63_7 k x1 (x2 + (ι 1)) (.int (ν 28)) σ5))) else gd (lv 43 (rk 43 [.ref 24]) < lv 63 k) (bV (pcall 43 [.ref 24] σ1) fun σ6 => gd (lv 64 (rk 64 [.ref 24, .int x1]) < lv 63 k) (bV (pcall 64 [.ref 24, .int x1] σ6) fun σ7 => bG isU (gR σ7 24 9) fun q8 => gd (lv 22 (rk 22 [.ref q8, .int (ν 27)]) < lv 63 k) (bV (pcall 22 [.ref q8, .int (ν 27)] σ7) fun σ9 => C_63_7 k x1 (x2 + (ι 1)) (.int (ν 27)) σ9)))))
  (C_63_32  k x1 x2 v3 σ) := by
  unfold C_63_32
  exact r_aload_n k_63_32 rfl rfl
    (r_bipush k_63_33 rfl rfl
    (r_gd fun g => r_callI (q_virt (rest := []) (as := [.int (ι 42)]) k_63_35 po_63 rfl rfl rfl (rcvO rfl rfl rfl) rfl rfl) g rfl rfl (fun r1 σ1 h1 => r_if (tgt := 46) k_63_38 rfl rfl cop_eq
    (r_bipush k_63_46 rfl rfl
    (r_istore_n k_63_48 rfl rfl rfl
    (r_aload_n k_63_49 rfl rfl
    (r_gd fun g => r_callV (q_virt (rest := []) (as := []) k_63_50 po_63 rfl rfl rfl (rcvO rfl rfl rfl) rfl rfl) g rfl rfl (fun _ σ2 h2 => r_aload_n k_63_53 rfl rfl
    (r_iload_n k_63_54 rfl rfl
    (r_gd fun g => r_callV (q_virt (rest := []) (as := [.int x1]) k_63_55 po_63 rfl rfl rfl (rcvO rfl rfl rfl) rfl rfl) g rfl rfl (fun _ σ3 h3 => r_aload_n k_63_58 rfl rfl
    (r_getG k_63_59 rfl po_63 rfl rfl rfl rfl fun q4 hq4 => r_iload_n k_63_62 rfl rfl
    (r_gd fun g => r_callV (q_virt (rest := []) (as := [.int (ν 28)]) k_63_63 po_63 rfl rfl rfl (rcvO rfl rfl (kdU hq4)) rfl rfl) g rfl rfl (fun _ σ5 h5 => r_iinc k_63_66 rfl rfl rfl rfl
    (r_goto (tgt := 7) k_63_69 rfl (Le.rfl')))))))))))))
    (r_bipush k_63_41 rfl rfl
    (r_goto (tgt := 48) k_63_43 rfl (r_istore_n k_63_48 rfl rfl rfl
    (r_aload_n k_63_49 rfl rfl
    (r_gd fun g => r_callV (q_virt (rest := []) (as := []) k_63_50 po_63 rfl rfl rfl (rcvO rfl rfl rfl) rfl rfl) g rfl rfl (fun _ σ6 h6 => r_aload_n k_63_53 rfl rfl
    (r_iload_n k_63_54 rfl rfl
    (r_gd fun g => r_callV (q_virt (rest := []) (as := [.int x1]) k_63_55 po_63 rfl rfl rfl (rcvO rfl rfl rfl) rfl rfl) g rfl rfl (fun _ σ7 h7 => r_aload_n k_63_58 rfl rfl
    (r_getG k_63_59 rfl po_63 rfl rfl rfl rfl fun q8 hq8 => r_iload_n k_63_62 rfl rfl
    (r_gd fun g => r_callV (q_virt (rest := []) (as := [.int (ν 27)]) k_63_63 po_63 rfl rfl rfl (rcvO rfl rfl (kdU hq8)) rfl rfl) g rfl rfl (fun _ σ9 h9 => r_iinc k_63_66 rfl rfl rfl rfl
    (r_goto (tgt := 7) k_63_69 rfl (Le.rfl')))))))))))))))))
theorem M_63  {x0 : Int32} {σ : pS} {ρ : Nat → Nat → Option Nat} (e : gR σ = ρ) (hL : LayR ρ) : Le
  (gd (lv 64 (rk 64 [.ref 24, .int x0]) < lv 63 (rk 63 [.ref 24, .int x0])) (bV (pcall 64 [.ref 24, .int x0] σ) fun σ1 => C_63_7 (rk 63 [.ref 24, .int x0]) x0 (ι 0) (.retAddr 0) σ1))
  (pcall 63 [.ref 24, .int x0] σ) := by
  show Le _ (den 63 (rk 63 [.ref 24, .int x0]) 0 [.ref 24, .int x0, .retAddr 0, .retAddr 0] [] σ)
  exact r_aload_n k_63_0 rfl rfl
    (r_iload_n k_63_1 rfl rfl
    (r_gd fun g => r_callV (q_virt (rest := []) (as := [.int x0]) k_63_2 po_63 rfl rfl rfl (rcvO rfl rfl rfl) rfl rfl) g rfl rfl (fun _ σ1 h1 => r_iconst k_63_5 rfl rfl
    (r_istore_n k_63_6 rfl rfl rfl
    (Le.rfl')))))
/-! ===== 64 HedgeWants.Reader.readPart ===== -/
theorem k_64_0 : cd 64 0 = some (.aload_n 0, 1) := by decide +kernel
theorem k_64_1 : cd 64 1 = some (.getfield 48, 3) := by decide +kernel
theorem k_64_4 : cd 64 4 = some (.iconst 2, 1) := by decide +kernel
theorem k_64_5 : cd 64 5 = some (.if_icmp .ne 33, 3) := by decide +kernel
theorem k_64_8 : cd 64 8 = some (.aload_n 0, 1) := by decide +kernel
theorem k_64_9 : cd 64 9 = some (.getfield 29, 3) := by decide +kernel
theorem k_64_12 : cd 64 12 = some (.aload_n 0, 1) := by decide +kernel
theorem k_64_13 : cd 64 13 = some (.getfield 65, 3) := by decide +kernel
theorem k_64_16 : cd 64 16 = some (.invokevirtual 177, 3) := by decide +kernel
theorem k_64_19 : cd 64 19 = some (.aload_n 0, 1) := by decide +kernel
theorem k_64_20 : cd 64 20 = some (.invokevirtual 165, 3) := by decide +kernel
theorem k_64_23 : cd 64 23 = some (.ifCond .eq 8, 3) := by decide +kernel
theorem k_64_26 : cd 64 26 = some (.aload_n 0, 1) := by decide +kernel
theorem k_64_27 : cd 64 27 = some (.iconst 2, 1) := by decide +kernel
theorem k_64_28 : cd 64 28 = some (.invokevirtual 115, 3) := by decide +kernel
theorem k_64_31 : cd 64 31 = some (.aload_n 0, 1) := by decide +kernel
theorem k_64_32 : cd 64 32 = some (.invokevirtual 45, 3) := by decide +kernel
theorem k_64_35 : cd 64 35 = some (.goto 78, 3) := by decide +kernel
theorem k_64_38 : cd 64 38 = some (.aload_n 0, 1) := by decide +kernel
theorem k_64_39 : cd 64 39 = some (.getfield 48, 3) := by decide +kernel
theorem k_64_42 : cd 64 42 = some (.iconst 1, 1) := by decide +kernel
theorem k_64_43 : cd 64 43 = some (.if_icmp .ne 36, 3) := by decide +kernel
theorem k_64_46 : cd 64 46 = some (.aload_n 0, 1) := by decide +kernel
theorem k_64_47 : cd 64 47 = some (.invokevirtual 199, 3) := by decide +kernel
theorem k_64_50 : cd 64 50 = some (.istore_n 2, 1) := by decide +kernel
theorem k_64_51 : cd 64 51 = some (.iload_n 2, 1) := by decide +kernel
theorem k_64_52 : cd 64 52 = some (.iconst (-1), 1) := by decide +kernel
theorem k_64_53 : cd 64 53 = some (.if_icmp .ne 11, 3) := by decide +kernel
theorem k_64_56 : cd 64 56 = some (.aload_n 0, 1) := by decide +kernel
theorem k_64_57 : cd 64 57 = some (.iconst 3, 1) := by decide +kernel
theorem k_64_58 : cd 64 58 = some (.invokevirtual 115, 3) := by decide +kernel
theorem k_64_61 : cd 64 61 = some (.goto 11, 3) := by decide +kernel
theorem k_64_64 : cd 64 64 = some (.aload_n 0, 1) := by decide +kernel
theorem k_64_65 : cd 64 65 = some (.getfield 29, 3) := by decide +kernel
theorem k_64_68 : cd 64 68 = some (.iload_n 2, 1) := by decide +kernel
theorem k_64_69 : cd 64 69 = some (.invokevirtual 202, 3) := by decide +kernel
theorem k_64_72 : cd 64 72 = some (.aload_n 0, 1) := by decide +kernel
theorem k_64_73 : cd 64 73 = some (.invokevirtual 45, 3) := by decide +kernel
theorem k_64_76 : cd 64 76 = some (.goto 37, 3) := by decide +kernel
theorem k_64_79 : cd 64 79 = some (.aload_n 0, 1) := by decide +kernel
theorem k_64_80 : cd 64 80 = some (.bipush 40, 2) := by decide +kernel
theorem k_64_82 : cd 64 82 = some (.invokevirtual 161, 3) := by decide +kernel
theorem k_64_85 : cd 64 85 = some (.ifCond .eq 23, 3) := by decide +kernel
theorem k_64_88 : cd 64 88 = some (.aload_n 0, 1) := by decide +kernel
theorem k_64_89 : cd 64 89 = some (.invokevirtual 45, 3) := by decide +kernel
theorem k_64_92 : cd 64 92 = some (.aload_n 0, 1) := by decide +kernel
theorem k_64_93 : cd 64 93 = some (.iload_n 1, 1) := by decide +kernel
theorem k_64_94 : cd 64 94 = some (.iconst 1, 1) := by decide +kernel
theorem k_64_95 : cd 64 95 = some (.iadd, 1) := by decide +kernel
theorem k_64_96 : cd 64 96 = some (.invokevirtual 107, 3) := by decide +kernel
theorem k_64_99 : cd 64 99 = some (.aload_n 0, 1) := by decide +kernel
theorem k_64_100 : cd 64 100 = some (.bipush 41, 2) := by decide +kernel
theorem k_64_102 : cd 64 102 = some (.invokevirtual 118, 3) := by decide +kernel
theorem k_64_105 : cd 64 105 = some (.goto 8, 3) := by decide +kernel
theorem k_64_108 : cd 64 108 = some (.aload_n 0, 1) := by decide +kernel
theorem k_64_109 : cd 64 109 = some (.iconst 1, 1) := by decide +kernel
theorem k_64_110 : cd 64 110 = some (.invokevirtual 115, 3) := by decide +kernel
theorem k_64_113 : cd 64 113 = some (.return_, 1) := by decide +kernel
theorem po_64 : po 64 = 6 := rfl
theorem M_64  {x0 : Int32} {σ : pS} {ρ : Nat → Nat → Option Nat} (e : gR σ = ρ) (hL : LayR ρ) : Le
  (if ¬ (gI σ 24 4) = (ι 2) then if ¬ (gI σ 24 4) = (ι 1) then gd (lv 58 (rk 58 [.ref 24, .int (ι 40)]) < lv 64 (rk 64 [.ref 24, .int x0])) (bI (pcall 58 [.ref 24, .int (ι 40)] σ) fun r1 σ1 => if r1 = (ι 0) then gd (lv 50 (rk 50 [.ref 24, .int (ι 1)]) < lv 64 (rk 64 [.ref 24, .int x0])) (bV (pcall 50 [.ref 24, .int (ι 1)] σ1) fun σ2 => some (0, .null, σ2)) else gd (lv 43 (rk 43 [.ref 24]) < lv 64 (rk 64 [.ref 24, .int x0])) (bV (pcall 43 [.ref 24] σ1) fun σ3 => gd (lv 57 (rk 57 [.ref 24, .int (x0 + (ι 1))]) < lv 64 (rk 64 [.ref 24, .int x0])) (bV (pcall 57 [.ref 24, .int (x0 + (ι 1))] σ3) fun σ4 => gd (lv 66 (rk 66 [.ref 24, .int (ι 41)]) < lv 64 (rk 64 [.ref 24, .int x0])) (bV (pcall 66 [.ref 24, .int (ι 41)] σ4) fun σ5 => some (0, .null, σ5))))) else gd (lv 65 (rk 65 [.ref 24]) < lv 64 (rk 64 [.ref 24, .int x0])) (bI (pcall 65 [.ref 24] σ) fun r6 σ6 => if ¬ r6 = (ν 1) then bG isU (gR σ6 24 9) fun q7 => gd (lv 23 (rk 23 [.ref q7, .int r6]) < lv 64 (rk 64 [.ref 24, .int x0])) (bV (pcall 23 [.ref q7, .int r6] σ6) fun σ8 => gd (lv 43 (rk 43 [.ref 24]) < lv 64 (rk 64 [.ref 24, .int x0])) (bV (pcall 43 [.ref 24] σ8) fun σ9 => some (0, .null, σ9))) else gd (lv 50 (rk 50 [.ref 24, .int (ι 3)]) < lv 64 (rk 64 [.ref 24, .int x0])) (bV (pcall 50 [.ref 24, .int (ι 3)] σ6) fun σ10 => gd (lv 43 (rk 43 [.ref 24]) < lv 64 (rk 64 [.ref 24, .int x0])) (bV (pcall 43 [.ref 24] σ10) fun σ11 => some (0, .null, σ11)))) else bG isU (gR σ 24 9) fun q12 => gd (lv 22 (rk 22 [.ref q12, .int (gI σ 24 5)]) < lv 64 (rk 64 [.ref 24, .int x0])) (bV (pcall 22 [.ref q12, .int (gI σ 24 5)] σ) fun σ13 => gd (lv 52 (rk 52 [.ref 24]) < lv 64 (rk 64 [.ref 24, .int x0])) (bI (pcall 52 [.ref 24] σ13) fun r14 σ14 => if r14 = (ι 0) then gd (lv 43 (rk 43 [.ref 24]) < lv 64 (rk 64 [.ref 24, .int x0])) (bV (pcall 43 [.ref 24] σ14) fun σ15 => some (0, .null, σ15)) else gd (lv 50 (rk 50 [.ref 24, .int (ι 2)]) < lv 64 (rk 64 [.ref 24, .int x0])) (bV (pcall 50 [.ref 24, .int (ι 2)] σ14) fun σ16 => gd (lv 43 (rk 43 [.ref 24]) < lv 64 (rk 64 [.ref 24, .int x0])) (bV (pcall 43 [.ref 24] σ16) fun σ17 => some (0, .null, σ17))))))
  (pcall 64 [.ref 24, .int x0] σ) := by
  show Le _ (den 64 (rk 64 [.ref 24, .int x0]) 0 [.ref 24, .int x0, .retAddr 0] [] σ)
  exact r_aload_n k_64_0 rfl rfl
    (r_getI k_64_1 rfl po_64 rfl rfl rfl rfl
    (r_iconst k_64_4 rfl rfl
    (r_icmp (tgt := 38) k_64_5 rfl rfl cop_ne
    (r_aload_n k_64_38 rfl rfl
    (r_getI k_64_39 rfl po_64 rfl rfl rfl rfl
    (r_iconst k_64_42 rfl rfl
    (r_icmp (tgt := 79) k_64_43 rfl rfl cop_ne
    (r_aload_n k_64_79 rfl rfl
    (r_bipush k_64_80 rfl rfl
    (r_gd fun g => r_callI (q_virt (rest := []) (as := [.int (ι 40)]) k_64_82 po_64 rfl rfl rfl (rcvO rfl rfl rfl) rfl rfl) g rfl rfl (fun r1 σ1 h1 => r_if (tgt := 108) k_64_85 rfl rfl cop_eq
    (r_aload_n k_64_108 rfl rfl
    (r_iconst k_64_109 rfl rfl
    (r_gd fun g => r_callV (q_virt (rest := []) (as := [.int (ι 1)]) k_64_110 po_64 rfl rfl rfl (rcvO rfl rfl rfl) rfl rfl) g rfl rfl (fun _ σ2 h2 => r_retV k_64_113 rfl))))
    (r_aload_n k_64_88 rfl rfl
    (r_gd fun g => r_callV (q_virt (rest := []) (as := []) k_64_89 po_64 rfl rfl rfl (rcvO rfl rfl rfl) rfl rfl) g rfl rfl (fun _ σ3 h3 => r_aload_n k_64_92 rfl rfl
    (r_iload_n k_64_93 rfl rfl
    (r_iconst k_64_94 rfl rfl
    (r_iadd k_64_95 rfl
    (r_gd fun g => r_callV (q_virt (rest := []) (as := [.int (x0 + (ι 1))]) k_64_96 po_64 rfl rfl rfl (rcvO rfl rfl rfl) rfl rfl) g rfl rfl (fun _ σ4 h4 => r_aload_n k_64_99 rfl rfl
    (r_bipush k_64_100 rfl rfl
    (r_gd fun g => r_callV (q_virt (rest := []) (as := [.int (ι 41)]) k_64_102 po_64 rfl rfl rfl (rcvO rfl rfl rfl) rfl rfl) g rfl rfl (fun _ σ5 h5 => r_goto (tgt := 113) k_64_105 rfl (r_retV k_64_113 rfl))))))))))))))))
    (r_aload_n k_64_46 rfl rfl
    (r_gd fun g => r_callI (q_virt (rest := []) (as := []) k_64_47 po_64 rfl rfl rfl (rcvO rfl rfl rfl) rfl rfl) g rfl rfl (fun r6 σ6 h6 => r_istore_n k_64_50 rfl rfl rfl
    (r_iload_n k_64_51 rfl rfl
    (r_iconst k_64_52 rfl rfl
    (r_icmp (tgt := 64) k_64_53 rfl rfl cop_ne
    (r_aload_n k_64_64 rfl rfl
    (r_getG k_64_65 rfl po_64 rfl rfl rfl rfl fun q7 hq7 => r_iload_n k_64_68 rfl rfl
    (r_gd fun g => r_callV (q_virt (rest := []) (as := [.int r6]) k_64_69 po_64 rfl rfl rfl (rcvO rfl rfl (kdU hq7)) rfl rfl) g rfl rfl (fun _ σ8 h8 => r_aload_n k_64_72 rfl rfl
    (r_gd fun g => r_callV (q_virt (rest := []) (as := []) k_64_73 po_64 rfl rfl rfl (rcvO rfl rfl rfl) rfl rfl) g rfl rfl (fun _ σ9 h9 => r_goto (tgt := 113) k_64_76 rfl (r_retV k_64_113 rfl)))))))
    (r_aload_n k_64_56 rfl rfl
    (r_iconst k_64_57 rfl rfl
    (r_gd fun g => r_callV (q_virt (rest := []) (as := [.int (ι 3)]) k_64_58 po_64 rfl rfl rfl (rcvO rfl rfl rfl) rfl rfl) g rfl rfl (fun _ σ10 h10 => r_goto (tgt := 72) k_64_61 rfl (r_aload_n k_64_72 rfl rfl
    (r_gd fun g => r_callV (q_virt (rest := []) (as := []) k_64_73 po_64 rfl rfl rfl (rcvO rfl rfl rfl) rfl rfl) g rfl rfl (fun _ σ11 h11 => r_goto (tgt := 113) k_64_76 rfl (r_retV k_64_113 rfl))))))))))))))))))
    (r_aload_n k_64_8 rfl rfl
    (r_getG k_64_9 rfl po_64 rfl rfl rfl rfl fun q12 hq12 => r_aload_n k_64_12 rfl rfl
    (r_getI k_64_13 rfl po_64 rfl rfl rfl rfl
    (r_gd fun g => r_callV (q_virt (rest := []) (as := [.int (gI σ 24 5)]) k_64_16 po_64 rfl rfl rfl (rcvO rfl rfl (kdU hq12)) rfl rfl) g rfl rfl (fun _ σ13 h13 => r_aload_n k_64_19 rfl rfl
    (r_gd fun g => r_callI (q_virt (rest := []) (as := []) k_64_20 po_64 rfl rfl rfl (rcvO rfl rfl rfl) rfl rfl) g rfl rfl (fun r14 σ14 h14 => r_if (tgt := 31) k_64_23 rfl rfl cop_eq
    (r_aload_n k_64_31 rfl rfl
    (r_gd fun g => r_callV (q_virt (rest := []) (as := []) k_64_32 po_64 rfl rfl rfl (rcvO rfl rfl rfl) rfl rfl) g rfl rfl (fun _ σ15 h15 => r_goto (tgt := 113) k_64_35 rfl (r_retV k_64_113 rfl))))
    (r_aload_n k_64_26 rfl rfl
    (r_iconst k_64_27 rfl rfl
    (r_gd fun g => r_callV (q_virt (rest := []) (as := [.int (ι 2)]) k_64_28 po_64 rfl rfl rfl (rcvO rfl rfl rfl) rfl rfl) g rfl rfl (fun _ σ16 h16 => r_aload_n k_64_31 rfl rfl
    (r_gd fun g => r_callV (q_virt (rest := []) (as := []) k_64_32 po_64 rfl rfl rfl (rcvO rfl rfl rfl) rfl rfl) g rfl rfl (fun _ σ17 h17 => r_goto (tgt := 113) k_64_35 rfl (r_retV k_64_113 rfl)))))))))))))))))
/-! ===== 65 HedgeWants.Reader.factOfWord ===== -/
theorem k_65_0 : cd 65 0 = some (.aload_n 0, 1) := by decide +kernel
theorem k_65_1 : cd 65 1 = some (.ldc 205, 2) := by decide +kernel
theorem k_65_3 : cd 65 3 = some (.invokevirtual 82, 3) := by decide +kernel
theorem k_65_6 : cd 65 6 = some (.ifCond .eq 5, 3) := by decide +kernel
theorem k_65_9 : cd 65 9 = some (.iconst 0, 1) := by decide +kernel
theorem k_65_10 : cd 65 10 = some (.ireturn, 1) := by decide +kernel
theorem k_65_11 : cd 65 11 = some (.aload_n 0, 1) := by decide +kernel
theorem k_65_12 : cd 65 12 = some (.ldc 207, 2) := by decide +kernel
theorem k_65_14 : cd 65 14 = some (.invokevirtual 82, 3) := by decide +kernel
theorem k_65_17 : cd 65 17 = some (.ifCond .eq 5, 3) := by decide +kernel
theorem k_65_20 : cd 65 20 = some (.iconst 1, 1) := by decide +kernel
theorem k_65_21 : cd 65 21 = some (.ireturn, 1) := by decide +kernel
theorem k_65_22 : cd 65 22 = some (.aload_n 0, 1) := by decide +kernel
theorem k_65_23 : cd 65 23 = some (.getfield 157, 3) := by decide +kernel
theorem k_65_26 : cd 65 26 = some (.ifCond .eq 57, 3) := by decide +kernel
theorem k_65_29 : cd 65 29 = some (.aload_n 0, 1) := by decide +kernel
theorem k_65_30 : cd 65 30 = some (.ldc 209, 2) := by decide +kernel
theorem k_65_32 : cd 65 32 = some (.invokevirtual 82, 3) := by decide +kernel
theorem k_65_35 : cd 65 35 = some (.ifCond .eq 7, 3) := by decide +kernel
theorem k_65_38 : cd 65 38 = some (.iconst 2, 1) := by decide +kernel
theorem k_65_39 : cd 65 39 = some (.goto 43, 3) := by decide +kernel
theorem k_65_42 : cd 65 42 = some (.aload_n 0, 1) := by decide +kernel
theorem k_65_43 : cd 65 43 = some (.ldc 211, 2) := by decide +kernel
theorem k_65_45 : cd 65 45 = some (.invokevirtual 82, 3) := by decide +kernel
theorem k_65_48 : cd 65 48 = some (.ifCond .eq 7, 3) := by decide +kernel
theorem k_65_51 : cd 65 51 = some (.iconst 3, 1) := by decide +kernel
theorem k_65_52 : cd 65 52 = some (.goto 30, 3) := by decide +kernel
theorem k_65_55 : cd 65 55 = some (.aload_n 0, 1) := by decide +kernel
theorem k_65_56 : cd 65 56 = some (.ldc 213, 2) := by decide +kernel
theorem k_65_58 : cd 65 58 = some (.invokevirtual 82, 3) := by decide +kernel
theorem k_65_61 : cd 65 61 = some (.ifCond .eq 7, 3) := by decide +kernel
theorem k_65_64 : cd 65 64 = some (.iconst 4, 1) := by decide +kernel
theorem k_65_65 : cd 65 65 = some (.goto 17, 3) := by decide +kernel
theorem k_65_68 : cd 65 68 = some (.aload_n 0, 1) := by decide +kernel
theorem k_65_69 : cd 65 69 = some (.ldc 215, 2) := by decide +kernel
theorem k_65_71 : cd 65 71 = some (.invokevirtual 82, 3) := by decide +kernel
theorem k_65_74 : cd 65 74 = some (.ifCond .eq 7, 3) := by decide +kernel
theorem k_65_77 : cd 65 77 = some (.iconst 5, 1) := by decide +kernel
theorem k_65_78 : cd 65 78 = some (.goto 4, 3) := by decide +kernel
theorem k_65_81 : cd 65 81 = some (.iconst (-1), 1) := by decide +kernel
theorem k_65_82 : cd 65 82 = some (.ireturn, 1) := by decide +kernel
theorem k_65_83 : cd 65 83 = some (.aload_n 0, 1) := by decide +kernel
theorem k_65_84 : cd 65 84 = some (.ldc 217, 2) := by decide +kernel
theorem k_65_86 : cd 65 86 = some (.invokevirtual 82, 3) := by decide +kernel
theorem k_65_89 : cd 65 89 = some (.ifCond .eq 8, 3) := by decide +kernel
theorem k_65_92 : cd 65 92 = some (.bipush 6, 2) := by decide +kernel
theorem k_65_94 : cd 65 94 = some (.goto 18, 3) := by decide +kernel
theorem k_65_97 : cd 65 97 = some (.aload_n 0, 1) := by decide +kernel
theorem k_65_98 : cd 65 98 = some (.ldc 219, 2) := by decide +kernel
theorem k_65_100 : cd 65 100 = some (.invokevirtual 82, 3) := by decide +kernel
theorem k_65_103 : cd 65 103 = some (.ifCond .eq 8, 3) := by decide +kernel
theorem k_65_106 : cd 65 106 = some (.bipush 7, 2) := by decide +kernel
theorem k_65_108 : cd 65 108 = some (.goto 4, 3) := by decide +kernel
theorem k_65_111 : cd 65 111 = some (.iconst (-1), 1) := by decide +kernel
theorem k_65_112 : cd 65 112 = some (.ireturn, 1) := by decide +kernel
theorem po_65 : po 65 = 6 := rfl
theorem M_65   {σ : pS} {ρ : Nat → Nat → Option Nat} (e : gR σ = ρ) (hL : LayR ρ) : Le
  (bI (pcall 48 [.ref 24, .ref 1008] σ) fun r1 σ1 => if r1 = (ι 0) then bI (pcall 48 [.ref 24, .ref 1009] σ1) fun r2 σ2 => if r2 = (ι 0) then if (gI σ2 24 10) = (ι 0) then bI (pcall 48 [.ref 24, .ref 1014] σ2) fun r3 σ3 => if r3 = (ι 0) then bI (pcall 48 [.ref 24, .ref 1015] σ3) fun r4 σ4 => if r4 = (ι 0) then some (1, .int (ν 1), σ4) else some (1, .int (ι 7), σ4) else some (1, .int (ι 6), σ3) else bI (pcall 48 [.ref 24, .ref 1010] σ2) fun r5 σ5 => if r5 = (ι 0) then bI (pcall 48 [.ref 24, .ref 1011] σ5) fun r6 σ6 => if r6 = (ι 0) then bI (pcall 48 [.ref 24, .ref 1012] σ6) fun r7 σ7 => if r7 = (ι 0) then bI (pcall 48 [.ref 24, .ref 1013] σ7) fun r8 σ8 => if r8 = (ι 0) then some (1, .int (ν 1), σ8) else some (1, .int (ι 5), σ8) else some (1, .int (ι 4), σ7) else some (1, .int (ι 3), σ6) else some (1, .int (ι 2), σ5) else some (1, .int (ι 1), σ2) else some (1, .int (ι 0), σ1))
  (pcall 65 [.ref 24] σ) := by
  show Le _ (den 65 0 0 [.ref 24] [] σ)
  exact r_aload_n k_65_0 rfl rfl
    (r_ldcS k_65_1 rfl po_65 rfl rfl
    (r_callI (q_virt (rest := []) (as := [.ref 1008]) k_65_3 po_65 rfl rfl rfl (rcvO rfl rfl rfl) rfl rfl) (lvq (j := 0) rfl (by decide +kernel)) rfl rfl (fun r1 σ1 h1 => r_if (tgt := 11) k_65_6 rfl rfl cop_eq
    (r_aload_n k_65_11 rfl rfl
    (r_ldcS k_65_12 rfl po_65 rfl rfl
    (r_callI (q_virt (rest := []) (as := [.ref 1009]) k_65_14 po_65 rfl rfl rfl (rcvO rfl rfl rfl) rfl rfl) (lvq (j := 0) rfl (by decide +kernel)) rfl rfl (fun r2 σ2 h2 => r_if (tgt := 22) k_65_17 rfl rfl cop_eq
    (r_aload_n k_65_22 rfl rfl
    (r_getI k_65_23 rfl po_65 rfl rfl rfl rfl
    (r_if (tgt := 83) k_65_26 rfl rfl cop_eq
    (r_aload_n k_65_83 rfl rfl
    (r_ldcS k_65_84 rfl po_65 rfl rfl
    (r_callI (q_virt (rest := []) (as := [.ref 1014]) k_65_86 po_65 rfl rfl rfl (rcvO rfl rfl rfl) rfl rfl) (lvq (j := 0) rfl (by decide +kernel)) rfl rfl (fun r3 σ3 h3 => r_if (tgt := 97) k_65_89 rfl rfl cop_eq
    (r_aload_n k_65_97 rfl rfl
    (r_ldcS k_65_98 rfl po_65 rfl rfl
    (r_callI (q_virt (rest := []) (as := [.ref 1015]) k_65_100 po_65 rfl rfl rfl (rcvO rfl rfl rfl) rfl rfl) (lvq (j := 0) rfl (by decide +kernel)) rfl rfl (fun r4 σ4 h4 => r_if (tgt := 111) k_65_103 rfl rfl cop_eq
    (r_iconst k_65_111 rfl rfl
    (r_ret k_65_112 rfl rfl))
    (r_bipush k_65_106 rfl rfl
    (r_goto (tgt := 112) k_65_108 rfl (r_ret k_65_112 rfl rfl)))))))
    (r_bipush k_65_92 rfl rfl
    (r_goto (tgt := 112) k_65_94 rfl (r_ret k_65_112 rfl rfl)))))))
    (r_aload_n k_65_29 rfl rfl
    (r_ldcS k_65_30 rfl po_65 rfl rfl
    (r_callI (q_virt (rest := []) (as := [.ref 1010]) k_65_32 po_65 rfl rfl rfl (rcvO rfl rfl rfl) rfl rfl) (lvq (j := 0) rfl (by decide +kernel)) rfl rfl (fun r5 σ5 h5 => r_if (tgt := 42) k_65_35 rfl rfl cop_eq
    (r_aload_n k_65_42 rfl rfl
    (r_ldcS k_65_43 rfl po_65 rfl rfl
    (r_callI (q_virt (rest := []) (as := [.ref 1011]) k_65_45 po_65 rfl rfl rfl (rcvO rfl rfl rfl) rfl rfl) (lvq (j := 0) rfl (by decide +kernel)) rfl rfl (fun r6 σ6 h6 => r_if (tgt := 55) k_65_48 rfl rfl cop_eq
    (r_aload_n k_65_55 rfl rfl
    (r_ldcS k_65_56 rfl po_65 rfl rfl
    (r_callI (q_virt (rest := []) (as := [.ref 1012]) k_65_58 po_65 rfl rfl rfl (rcvO rfl rfl rfl) rfl rfl) (lvq (j := 0) rfl (by decide +kernel)) rfl rfl (fun r7 σ7 h7 => r_if (tgt := 68) k_65_61 rfl rfl cop_eq
    (r_aload_n k_65_68 rfl rfl
    (r_ldcS k_65_69 rfl po_65 rfl rfl
    (r_callI (q_virt (rest := []) (as := [.ref 1013]) k_65_71 po_65 rfl rfl rfl (rcvO rfl rfl rfl) rfl rfl) (lvq (j := 0) rfl (by decide +kernel)) rfl rfl (fun r8 σ8 h8 => r_if (tgt := 81) k_65_74 rfl rfl cop_eq
    (r_iconst k_65_81 rfl rfl
    (r_ret k_65_82 rfl rfl))
    (r_iconst k_65_77 rfl rfl
    (r_goto (tgt := 82) k_65_78 rfl (r_ret k_65_82 rfl rfl)))))))
    (r_iconst k_65_64 rfl rfl
    (r_goto (tgt := 82) k_65_65 rfl (r_ret k_65_82 rfl rfl)))))))
    (r_iconst k_65_51 rfl rfl
    (r_goto (tgt := 82) k_65_52 rfl (r_ret k_65_82 rfl rfl)))))))
    (r_iconst k_65_38 rfl rfl
    (r_goto (tgt := 82) k_65_39 rfl (r_ret k_65_82 rfl rfl))))))))))
    (r_iconst k_65_20 rfl rfl
    (r_ret k_65_21 rfl rfl))))))
    (r_iconst k_65_9 rfl rfl
    (r_ret k_65_10 rfl rfl)))))
/-! ===== 66 HedgeWants.Reader.passSign ===== -/
theorem k_66_0 : cd 66 0 = some (.aload_n 0, 1) := by decide +kernel
theorem k_66_1 : cd 66 1 = some (.iload_n 1, 1) := by decide +kernel
theorem k_66_2 : cd 66 2 = some (.invokevirtual 161, 3) := by decide +kernel
theorem k_66_5 : cd 66 5 = some (.ifCond .ne 8, 3) := by decide +kernel
theorem k_66_8 : cd 66 8 = some (.aload_n 0, 1) := by decide +kernel
theorem k_66_9 : cd 66 9 = some (.iconst 1, 1) := by decide +kernel
theorem k_66_10 : cd 66 10 = some (.invokevirtual 115, 3) := by decide +kernel
theorem k_66_13 : cd 66 13 = some (.aload_n 0, 1) := by decide +kernel
theorem k_66_14 : cd 66 14 = some (.invokevirtual 45, 3) := by decide +kernel
theorem k_66_17 : cd 66 17 = some (.return_, 1) := by decide +kernel
theorem po_66 : po 66 = 6 := rfl
theorem M_66  {x0 : Int32} {σ : pS} {ρ : Nat → Nat → Option Nat} (e : gR σ = ρ) (hL : LayR ρ) : Le
  (bI (pcall 58 [.ref 24, .int x0] σ) fun r1 σ1 => if ¬ r1 = (ι 0) then bV (pcall 43 [.ref 24] σ1) fun σ2 => some (0, .null, σ2) else bV (pcall 50 [.ref 24, .int (ι 1)] σ1) fun σ3 => bV (pcall 43 [.ref 24] σ3) fun σ4 => some (0, .null, σ4))
  (pcall 66 [.ref 24, .int x0] σ) := by
  show Le _ (den 66 0 0 [.ref 24, .int x0] [] σ)
  exact r_aload_n k_66_0 rfl rfl
    (r_iload_n k_66_1 rfl rfl
    (r_callI (q_virt (rest := []) (as := [.int x0]) k_66_2 po_66 rfl rfl rfl (rcvO rfl rfl rfl) rfl rfl) (lvq (j := 0) rfl (by decide +kernel)) rfl rfl (fun r1 σ1 h1 => r_if (tgt := 13) k_66_5 rfl rfl cop_ne
    (r_aload_n k_66_13 rfl rfl
    (r_callV (q_virt (rest := []) (as := []) k_66_14 po_66 rfl rfl rfl (rcvO rfl rfl rfl) rfl rfl) (lvq (j := 0) rfl (by decide +kernel)) rfl rfl (fun _ σ2 h2 => r_retV k_66_17 rfl)))
    (r_aload_n k_66_8 rfl rfl
    (r_iconst k_66_9 rfl rfl
    (r_callV (q_virt (rest := []) (as := [.int (ι 1)]) k_66_10 po_66 rfl rfl rfl (rcvO rfl rfl rfl) rfl rfl) (lvq (j := 0) rfl (by decide +kernel)) rfl rfl (fun _ σ3 h3 => r_aload_n k_66_13 rfl rfl
    (r_callV (q_virt (rest := []) (as := []) k_66_14 po_66 rfl rfl rfl (rcvO rfl rfl rfl) rfl rfl) (lvq (j := 0) rfl (by decide +kernel)) rfl rfl (fun _ σ4 h4 => r_retV k_66_17 rfl)))))))))
/-! ===== 67 HedgeWants.Reader.faultPlace ===== -/
theorem k_67_0 : cd 67 0 = some (.aload_n 0, 1) := by decide +kernel
theorem k_67_1 : cd 67 1 = some (.getfield 15, 3) := by decide +kernel
theorem k_67_4 : cd 67 4 = some (.ireturn, 1) := by decide +kernel
theorem po_67 : po 67 = 6 := rfl
theorem M_67   {σ : pS} {ρ : Nat → Nat → Option Nat} (e : gR σ = ρ) (hL : LayR ρ) : Le
  (some (1, .int (gI σ 24 7), σ))
  (pcall 67 [.ref 24] σ) := by
  show Le _ (den 67 0 0 [.ref 24] [] σ)
  exact r_aload_n k_67_0 rfl rfl
    (r_getI k_67_1 rfl po_67 rfl rfl rfl rfl
    (r_ret k_67_4 rfl rfl))
end TREES
