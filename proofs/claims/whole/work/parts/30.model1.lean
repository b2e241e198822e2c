/-! ===== trees ===== -/
section TREES
def layT : List (Nat × Nat × Nat) := [(0, 0, 1), (0, 2, 24), (0, 6, 25), (0, 7, 32), (0, 8, 36), (0, 9, 43), (0, 11, 54), (0, 12, 57), (0, 13, 59), (2, 4, 3), (2, 5, 4), (2, 6, 5), (2, 7, 6), (2, 8, 7), (2, 9, 10), (7, 0, 8), (7, 4, 9), (10, 0, 11), (10, 4, 12), (13, 4, 14), (13, 5, 15), (13, 6, 16), (13, 7, 17), (13, 8, 18), (13, 9, 21), (18, 0, 19), (18, 4, 20), (21, 0, 22), (21, 4, 23), (24, 0, 1), (25, 4, 26), (25, 5, 27), (25, 6, 28), (25, 7, 29), (25, 8, 30), (25, 9, 31), (32, 0, 33), (32, 2, 34), (32, 4, 35), (36, 4, 37), (36, 5, 38), (36, 6, 39), (36, 7, 40), (36, 8, 41), (36, 9, 42), (43, 0, 44), (43, 2, 45), (43, 4, 46), (47, 4, 48), (47, 5, 49), (47, 6, 50), (47, 7, 51), (47, 8, 52), (47, 9, 53), (54, 0, 25), (54, 1, 47), (54, 3, 55), (54, 4, 56), (57, 0, 25), (57, 1, 32), (57, 2, 47), (57, 3, 58), (59, 0, 60), (61, 0, 62), (61, 1, 63), (61, 2, 64), (61, 5, 65), (61, 6, 66), (61, 7, 67), (61, 8, 68), (61, 9, 69), (61, 10, 70), (61, 11, 71), (61, 12, 72), (61, 13, 73), (61, 14, 74), (61, 26, 75), (61, 27, 76), (61, 28, 77), (61, 29, 78), (61, 30, 79), (61, 34, 80), (61, 35, 81), (61, 38, 82), (61, 39, 83), (61, 40, 84), (61, 41, 85), (61, 42, 86), (61, 43, 87), (61, 44, 88), (61, 45, 89), (61, 46, 90), (61, 48, 91), (61, 53, 92), (61, 54, 93), (61, 55, 94), (61, 56, 95), (61, 57, 96), (61, 58, 97)]
def LayR (ρ : Nat → Nat → Option Nat) : Prop := ∀ q ∈ layT, ρ q.1 q.2.1 = some q.2.2
theorem LayR.at {ρ : Nat → Nat → Option Nat} (h : LayR ρ) {i : Nat} {q : Nat × Nat × Nat} (hi : layT[i]? = some q) : ρ q.1 q.2.1 = some q.2.2 := h q (List.mem_of_getElem? hi)
theorem gRat {σ : pS} {ρ : Nat → Nat → Option Nat} {a f q : Nat} (e : gR σ = ρ) (h : ρ a f = some q) : gR σ a f = some q := by rw [e]; exact h
theorem eI {σ : pS} {ρ : Nat → Nat → Option Nat} {a i : Nat} {x : Int32} (e : gR σ = ρ) : gR (sI σ a i x) = ρ := e
theorem eJ {σ : pS} {ρ : Nat → Nat → Option Nat} {a i : Nat} {x : Int64} (e : gR σ = ρ) : gR (sJ σ a i x) = ρ := e
theorem lvq {b' j b k : Nat} {av : List Value} (h : rk b' av = j) (hl : lv b' j < lv b k) : lv b' (rk b' av) < lv b k := by rw [h]; exact hl
theorem eC {σ : pS} {ρ : Nat → Nat → Option Nat} {b : Nat} {av : List Value} {y : pZ} (hn : nR b = true) (h : pcall b av σ = some y) (e : gR σ = ρ) : gR y.2.2 = ρ := (pcall_gq hn h).1.trans e

/-! ===== 211 HedgeWantsModel.fail ===== -/
theorem k_211_0 : cd 211 0 = some (.aload_n 0, 1) := by decide +kernel
theorem k_211_1 : cd 211 1 = some (.iload_n 1, 1) := by decide +kernel
theorem k_211_2 : cd 211 2 = some (.putfield 145, 3) := by decide +kernel
theorem k_211_5 : cd 211 5 = some (.iconst 0, 1) := by decide +kernel
theorem k_211_6 : cd 211 6 = some (.ireturn, 1) := by decide +kernel
theorem po_211 : po 211 = 9 := rfl
theorem M_211 {x0 : Int32} {σ : pS} {ρ : Nat → Nat → Option Nat} (e : gR σ = ρ) (hL : LayR ρ) : Le
  (some (1, .int (0 : Int32), (sI σ 61 4 x0)))
  (pcall 211 [.ref 61, .int x0] σ) := by
  show Le _ (den 211 0 0 [.ref 61, .int x0] [] σ)
  exact r_aload_n k_211_0 rfl rfl
    (r_iload_n k_211_1 rfl rfl
    (r_putI k_211_2 rfl po_211 rfl rfl rfl
    (r_iconst k_211_5 rfl rfl
    (r_ret k_211_6 rfl rfl))))
/-! ===== 213 HedgeWantsModel.byteAt ===== -/
theorem k_213_0 : cd 213 0 = some (.iload_n 1, 1) := by decide +kernel
theorem k_213_1 : cd 213 1 = some (.aload_n 0, 1) := by decide +kernel
theorem k_213_2 : cd 213 2 = some (.getfield 155, 3) := by decide +kernel
theorem k_213_5 : cd 213 5 = some (.if_icmp .ge 12, 3) := by decide +kernel
theorem k_213_8 : cd 213 8 = some (.aload_n 0, 1) := by decide +kernel
theorem k_213_9 : cd 213 9 = some (.getfield 70, 3) := by decide +kernel
theorem k_213_12 : cd 213 12 = some (.iload_n 1, 1) := by decide +kernel
theorem k_213_13 : cd 213 13 = some (.iaload, 1) := by decide +kernel
theorem k_213_14 : cd 213 14 = some (.goto 4, 3) := by decide +kernel
theorem k_213_17 : cd 213 17 = some (.iconst (-1), 1) := by decide +kernel
theorem k_213_18 : cd 213 18 = some (.ireturn, 1) := by decide +kernel
theorem po_213 : po 213 = 9 := rfl
theorem M_213 {x0 : Int32} {σ : pS} {ρ : Nat → Nat → Option Nat} (e : gR σ = ρ) (hL : LayR ρ) : Le
  (if (gI σ 61 17) ≤ x0 then some (1, .int (-1 : Int32), σ) else gd (inb x0 700) (some (1, .int (gI σ 74 (ix x0)), σ)))
  (pcall 213 [.ref 61, .int x0] σ) := by
  show Le _ (den 213 0 0 [.ref 61, .int x0] [] σ)
  exact r_iload_n k_213_0 rfl rfl
    (r_aload_n k_213_1 rfl rfl
    (r_getI k_213_2 rfl po_213 rfl rfl rfl rfl
    (r_icmp (tgt := 17) k_213_5 rfl rfl cop_ge
    (r_iconst k_213_17 rfl rfl
    (r_ret k_213_18 rfl rfl))
    (r_aload_n k_213_8 rfl rfl
    (r_getR k_213_9 rfl po_213 rfl rfl rfl rfl (gRat e (hL.at (i := 75) rfl))
    (r_iload_n k_213_12 rfl rfl
    (r_gd fun g => r_iald k_213_13 rfl rfl g
    (r_goto (tgt := 18) k_213_14 rfl (r_ret k_213_18 rfl rfl)))))))))
/-! ===== 214 HedgeWantsModel.isLetter ===== -/
theorem k_214_0 : cd 214 0 = some (.iload_n 0, 1) := by decide +kernel
theorem k_214_1 : cd 214 1 = some (.bipush 97, 2) := by decide +kernel
theorem k_214_3 : cd 214 3 = some (.if_icmp .lt 13, 3) := by decide +kernel
theorem k_214_6 : cd 214 6 = some (.iload_n 0, 1) := by decide +kernel
theorem k_214_7 : cd 214 7 = some (.bipush 122, 2) := by decide +kernel
theorem k_214_9 : cd 214 9 = some (.if_icmp .gt 7, 3) := by decide +kernel
theorem k_214_12 : cd 214 12 = some (.iconst 1, 1) := by decide +kernel
theorem k_214_13 : cd 214 13 = some (.goto 4, 3) := by decide +kernel
theorem k_214_16 : cd 214 16 = some (.iconst 0, 1) := by decide +kernel
theorem k_214_17 : cd 214 17 = some (.ireturn, 1) := by decide +kernel
theorem po_214 : po 214 = 9 := rfl
theorem M_214 {x0 : Int32} {σ : pS} {ρ : Nat → Nat → Option Nat} (e : gR σ = ρ) (hL : LayR ρ) : Le
  (if x0 < (97 : Int32) then some (1, .int (0 : Int32), σ) else if (122 : Int32) < x0 then some (1, .int (0 : Int32), σ) else some (1, .int (1 : Int32), σ))
  (pcall 214 [.int x0] σ) := by
  show Le _ (den 214 0 0 [.int x0] [] σ)
  exact r_iload_n k_214_0 rfl rfl
    (r_bipush k_214_1 rfl rfl
    (r_icmp (tgt := 16) k_214_3 rfl rfl cop_lt
    (r_iconst k_214_16 rfl rfl
    (r_ret k_214_17 rfl rfl))
    (r_iload_n k_214_6 rfl rfl
    (r_bipush k_214_7 rfl rfl
    (r_icmp (tgt := 16) k_214_9 rfl rfl cop_gt
    (r_iconst k_214_16 rfl rfl
    (r_ret k_214_17 rfl rfl))
    (r_iconst k_214_12 rfl rfl
    (r_goto (tgt := 17) k_214_13 rfl (r_ret k_214_17 rfl rfl))))))))
/-! ===== 215 HedgeWantsModel.isDigit ===== -/
theorem k_215_0 : cd 215 0 = some (.iload_n 0, 1) := by decide +kernel
theorem k_215_1 : cd 215 1 = some (.bipush 48, 2) := by decide +kernel
theorem k_215_3 : cd 215 3 = some (.if_icmp .lt 13, 3) := by decide +kernel
theorem k_215_6 : cd 215 6 = some (.iload_n 0, 1) := by decide +kernel
theorem k_215_7 : cd 215 7 = some (.bipush 57, 2) := by decide +kernel
theorem k_215_9 : cd 215 9 = some (.if_icmp .gt 7, 3) := by decide +kernel
theorem k_215_12 : cd 215 12 = some (.iconst 1, 1) := by decide +kernel
theorem k_215_13 : cd 215 13 = some (.goto 4, 3) := by decide +kernel
theorem k_215_16 : cd 215 16 = some (.iconst 0, 1) := by decide +kernel
theorem k_215_17 : cd 215 17 = some (.ireturn, 1) := by decide +kernel
theorem po_215 : po 215 = 9 := rfl
theorem M_215 {x0 : Int32} {σ : pS} {ρ : Nat → Nat → Option Nat} (e : gR σ = ρ) (hL : LayR ρ) : Le
  (if x0 < (48 : Int32) then some (1, .int (0 : Int32), σ) else if (57 : Int32) < x0 then some (1, .int (0 : Int32), σ) else some (1, .int (1 : Int32), σ))
  (pcall 215 [.int x0] σ) := by
  show Le _ (den 215 0 0 [.int x0] [] σ)
  exact r_iload_n k_215_0 rfl rfl
    (r_bipush k_215_1 rfl rfl
    (r_icmp (tgt := 16) k_215_3 rfl rfl cop_lt
    (r_iconst k_215_16 rfl rfl
    (r_ret k_215_17 rfl rfl))
    (r_iload_n k_215_6 rfl rfl
    (r_bipush k_215_7 rfl rfl
    (r_icmp (tgt := 16) k_215_9 rfl rfl cop_gt
    (r_iconst k_215_16 rfl rfl
    (r_ret k_215_17 rfl rfl))
    (r_iconst k_215_12 rfl rfl
    (r_goto (tgt := 17) k_215_13 rfl (r_ret k_215_17 rfl rfl))))))))
/-! ===== 216 HedgeWantsModel.isMark ===== -/
theorem k_216_0 : cd 216 0 = some (.iload_n 0, 1) := by decide +kernel
theorem k_216_1 : cd 216 1 = some (.bipush 59, 2) := by decide +kernel
theorem k_216_3 : cd 216 3 = some (.if_icmp .eq 51, 3) := by decide +kernel
theorem k_216_6 : cd 216 6 = some (.iload_n 0, 1) := by decide +kernel
theorem k_216_7 : cd 216 7 = some (.bipush 40, 2) := by decide +kernel
theorem k_216_9 : cd 216 9 = some (.if_icmp .eq 45, 3) := by decide +kernel
theorem k_216_12 : cd 216 12 = some (.iload_n 0, 1) := by decide +kernel
theorem k_216_13 : cd 216 13 = some (.bipush 41, 2) := by decide +kernel
theorem k_216_15 : cd 216 15 = some (.if_icmp .eq 39, 3) := by decide +kernel
theorem k_216_18 : cd 216 18 = some (.iload_n 0, 1) := by decide +kernel
theorem k_216_19 : cd 216 19 = some (.bipush 43, 2) := by decide +kernel
theorem k_216_21 : cd 216 21 = some (.if_icmp .eq 33, 3) := by decide +kernel
theorem k_216_24 : cd 216 24 = some (.iload_n 0, 1) := by decide +kernel
theorem k_216_25 : cd 216 25 = some (.bipush 45, 2) := by decide +kernel
theorem k_216_27 : cd 216 27 = some (.if_icmp .eq 27, 3) := by decide +kernel
theorem k_216_30 : cd 216 30 = some (.iload_n 0, 1) := by decide +kernel
theorem k_216_31 : cd 216 31 = some (.bipush 42, 2) := by decide +kernel
theorem k_216_33 : cd 216 33 = some (.if_icmp .eq 21, 3) := by decide +kernel
theorem k_216_36 : cd 216 36 = some (.iload_n 0, 1) := by decide +kernel
theorem k_216_37 : cd 216 37 = some (.bipush 47, 2) := by decide +kernel
theorem k_216_39 : cd 216 39 = some (.if_icmp .eq 15, 3) := by decide +kernel
theorem k_216_42 : cd 216 42 = some (.iload_n 0, 1) := by decide +kernel
theorem k_216_43 : cd 216 43 = some (.bipush 60, 2) := by decide +kernel
theorem k_216_45 : cd 216 45 = some (.if_icmp .eq 9, 3) := by decide +kernel
theorem k_216_48 : cd 216 48 = some (.iload_n 0, 1) := by decide +kernel
theorem k_216_49 : cd 216 49 = some (.bipush 61, 2) := by decide +kernel
theorem k_216_51 : cd 216 51 = some (.if_icmp .ne 7, 3) := by decide +kernel
theorem k_216_54 : cd 216 54 = some (.iconst 1, 1) := by decide +kernel
theorem k_216_55 : cd 216 55 = some (.goto 4, 3) := by decide +kernel
theorem k_216_58 : cd 216 58 = some (.iconst 0, 1) := by decide +kernel
theorem k_216_59 : cd 216 59 = some (.ireturn, 1) := by decide +kernel
theorem po_216 : po 216 = 9 := rfl
theorem M_216 {x0 : Int32} {σ : pS} {ρ : Nat → Nat → Option Nat} (e : gR σ = ρ) (hL : LayR ρ) : Le
  (if x0 = (59 : Int32) then some (1, .int (1 : Int32), σ) else if x0 = (40 : Int32) then some (1, .int (1 : Int32), σ) else if x0 = (41 : Int32) then some (1, .int (1 : Int32), σ) else if x0 = (43 : Int32) then some (1, .int (1 : Int32), σ) else if x0 = (45 : Int32) then some (1, .int (1 : Int32), σ) else if x0 = (42 : Int32) then some (1, .int (1 : Int32), σ) else if x0 = (47 : Int32) then some (1, .int (1 : Int32), σ) else if x0 = (60 : Int32) then some (1, .int (1 : Int32), σ) else if ¬ x0 = (61 : Int32) then some (1, .int (0 : Int32), σ) else some (1, .int (1 : Int32), σ))
  (pcall 216 [.int x0] σ) := by
  show Le _ (den 216 0 0 [.int x0] [] σ)
  exact r_iload_n k_216_0 rfl rfl
    (r_bipush k_216_1 rfl rfl
    (r_icmp (tgt := 54) k_216_3 rfl rfl cop_eq
    (r_iconst k_216_54 rfl rfl
    (r_goto (tgt := 59) k_216_55 rfl (r_ret k_216_59 rfl rfl)))
    (r_iload_n k_216_6 rfl rfl
    (r_bipush k_216_7 rfl rfl
    (r_icmp (tgt := 54) k_216_9 rfl rfl cop_eq
    (r_iconst k_216_54 rfl rfl
    (r_goto (tgt := 59) k_216_55 rfl (r_ret k_216_59 rfl rfl)))
    (r_iload_n k_216_12 rfl rfl
    (r_bipush k_216_13 rfl rfl
    (r_icmp (tgt := 54) k_216_15 rfl rfl cop_eq
    (r_iconst k_216_54 rfl rfl
    (r_goto (tgt := 59) k_216_55 rfl (r_ret k_216_59 rfl rfl)))
    (r_iload_n k_216_18 rfl rfl
    (r_bipush k_216_19 rfl rfl
    (r_icmp (tgt := 54) k_216_21 rfl rfl cop_eq
    (r_iconst k_216_54 rfl rfl
    (r_goto (tgt := 59) k_216_55 rfl (r_ret k_216_59 rfl rfl)))
    (r_iload_n k_216_24 rfl rfl
    (r_bipush k_216_25 rfl rfl
    (r_icmp (tgt := 54) k_216_27 rfl rfl cop_eq
    (r_iconst k_216_54 rfl rfl
    (r_goto (tgt := 59) k_216_55 rfl (r_ret k_216_59 rfl rfl)))
    (r_iload_n k_216_30 rfl rfl
    (r_bipush k_216_31 rfl rfl
    (r_icmp (tgt := 54) k_216_33 rfl rfl cop_eq
    (r_iconst k_216_54 rfl rfl
    (r_goto (tgt := 59) k_216_55 rfl (r_ret k_216_59 rfl rfl)))
    (r_iload_n k_216_36 rfl rfl
    (r_bipush k_216_37 rfl rfl
    (r_icmp (tgt := 54) k_216_39 rfl rfl cop_eq
    (r_iconst k_216_54 rfl rfl
    (r_goto (tgt := 59) k_216_55 rfl (r_ret k_216_59 rfl rfl)))
    (r_iload_n k_216_42 rfl rfl
    (r_bipush k_216_43 rfl rfl
    (r_icmp (tgt := 54) k_216_45 rfl rfl cop_eq
    (r_iconst k_216_54 rfl rfl
    (r_goto (tgt := 59) k_216_55 rfl (r_ret k_216_59 rfl rfl)))
    (r_iload_n k_216_48 rfl rfl
    (r_bipush k_216_49 rfl rfl
    (r_icmp (tgt := 58) k_216_51 rfl rfl cop_ne
    (r_iconst k_216_58 rfl rfl
    (r_ret k_216_59 rfl rfl))
    (r_iconst k_216_54 rfl rfl
    (r_goto (tgt := 59) k_216_55 rfl (r_ret k_216_59 rfl rfl)))))))))))))))))))))))))))))
/-! ===== 239 HedgeWantsModel.fault ===== -/
theorem k_239_0 : cd 239 0 = some (.aload_n 0, 1) := by decide +kernel
theorem k_239_1 : cd 239 1 = some (.iconst 0, 1) := by decide +kernel
theorem k_239_2 : cd 239 2 = some (.putfield 145, 3) := by decide +kernel
theorem k_239_5 : cd 239 5 = some (.aload_n 0, 1) := by decide +kernel
theorem k_239_6 : cd 239 6 = some (.getfield 73, 3) := by decide +kernel
theorem k_239_9 : cd 239 9 = some (.ireturn, 1) := by decide +kernel
theorem po_239 : po 239 = 9 := rfl
theorem M_239  {σ : pS} {ρ : Nat → Nat → Option Nat} (e : gR σ = ρ) (hL : LayR ρ) : Le
  (some (1, .int (gI (sI σ 61 4 (0 : Int32)) 61 24), (sI σ 61 4 (0 : Int32))))
  (pcall 239 [.ref 61] σ) := by
  show Le _ (den 239 0 0 [.ref 61] [] σ)
  exact r_aload_n k_239_0 rfl rfl
    (r_iconst k_239_1 rfl rfl
    (r_putI k_239_2 rfl po_239 rfl rfl rfl
    (r_aload_n k_239_5 rfl rfl
    (r_getI k_239_6 rfl po_239 rfl rfl rfl rfl
    (r_ret k_239_9 rfl rfl)))))
/-! ===== 241 HedgeWantsModel.safeThings ===== -/
theorem k_241_0 : cd 241 0 = some (.iconst 0, 1) := by decide +kernel
theorem k_241_1 : cd 241 1 = some (.istore_n 1, 1) := by decide +kernel
theorem k_241_2 : cd 241 2 = some (.iconst 0, 1) := by decide +kernel
theorem k_241_3 : cd 241 3 = some (.istore_n 2, 1) := by decide +kernel
theorem k_241_4 : cd 241 4 = some (.iload_n 2, 1) := by decide +kernel
theorem k_241_5 : cd 241 5 = some (.aload_n 0, 1) := by decide +kernel
theorem k_241_6 : cd 241 6 = some (.getfield 44, 3) := by decide +kernel
theorem k_241_9 : cd 241 9 = some (.iconst 1, 1) := by decide +kernel
theorem k_241_10 : cd 241 10 = some (.iaload, 1) := by decide +kernel
theorem k_241_11 : cd 241 11 = some (.if_icmp .ge 27, 3) := by decide +kernel
theorem k_241_14 : cd 241 14 = some (.iload_n 1, 1) := by decide +kernel
theorem k_241_15 : cd 241 15 = some (.aload_n 0, 1) := by decide +kernel
theorem k_241_16 : cd 241 16 = some (.iload_n 2, 1) := by decide +kernel
theorem k_241_17 : cd 241 17 = some (.invokevirtual 344, 3) := by decide +kernel
theorem k_241_20 : cd 241 20 = some (.ifCond .ne 9, 3) := by decide +kernel
theorem k_241_23 : cd 241 23 = some (.iconst 1, 1) := by decide +kernel
theorem k_241_24 : cd 241 24 = some (.iload_n 2, 1) := by decide +kernel
theorem k_241_25 : cd 241 25 = some (.ishl, 1) := by decide +kernel
theorem k_241_26 : cd 241 26 = some (.goto 4, 3) := by decide +kernel
theorem k_241_29 : cd 241 29 = some (.iconst 0, 1) := by decide +kernel
theorem k_241_30 : cd 241 30 = some (.ior, 1) := by decide +kernel
theorem k_241_31 : cd 241 31 = some (.istore_n 1, 1) := by decide +kernel
theorem k_241_32 : cd 241 32 = some (.iinc 2 1, 3) := by decide +kernel
theorem k_241_35 : cd 241 35 = some (.goto (-31), 3) := by decide +kernel
theorem k_241_38 : cd 241 38 = some (.iload_n 1, 1) := by decide +kernel
theorem k_241_39 : cd 241 39 = some (.ireturn, 1) := by decide +kernel
theorem po_241 : po 241 = 9 := rfl
noncomputable def C_241_4 (x1 : Int32) (x2 : Int32) (σ : pS) : Option pZ := den 241 0 4 [.ref 61, .int x1, .int x2] [] σ
noncomputable def C_241_30 (v1 : Value) (x2 : Int32) (s0 : Int32) (s1 : Int32) (σ : pS) : Option pZ := den 241 0 30 [.ref 61, v1, .int x2] [.int s1, .int s0] σ
theorem T_241_4 {x1 : Int32} {x2 : Int32} {σ : pS} {ρ : Nat → Nat → Option Nat} (e : gR σ = ρ) (hL : LayR ρ) : Le
  (if (gI σ 65 (ix (1 : Int32))) ≤ x2 then some (1, .int x1, σ) else bI (pcall 242 [.ref 61, .int x2] σ) fun r1 σ1 => if ¬ r1 = 0 then C_241_30 (.int x1) x2 x1 (0 : Int32) σ1 else C_241_30 (.int x1) x2 x1 (shl' (1 : Int32) x2) σ1)
  (C_241_4 x1 x2 σ) := by
  unfold C_241_4
  exact r_iload_n k_241_4 rfl rfl
    (r_aload_n k_241_5 rfl rfl
    (r_getR k_241_6 rfl po_241 rfl rfl rfl rfl (gRat e (hL.at (i := 66) rfl))
    (r_iconst k_241_9 rfl rfl
    (r_iald k_241_10 rfl rfl (by decide)
    (r_icmp (tgt := 38) k_241_11 rfl rfl cop_ge
    (r_iload_n k_241_38 rfl rfl
    (r_ret k_241_39 rfl rfl))
    (r_iload_n k_241_14 rfl rfl
    (r_aload_n k_241_15 rfl rfl
    (r_iload_n k_241_16 rfl rfl
    (r_callI (q_virt (rest := [.int x1]) (as := [.int x2]) k_241_17 po_241 rfl rfl rfl (by decide +kernel) rfl rfl) (lvq (j := 0) rfl (by decide +kernel)) rfl rfl (fun r1 σ1 h1 => r_if (tgt := 29) k_241_20 rfl rfl cop_ne
    (r_iconst k_241_29 rfl rfl
    (Le.rfl'))
    (r_iconst k_241_23 rfl rfl
    (r_iload_n k_241_24 rfl rfl
    (r_ishl k_241_25 rfl
    (r_goto (tgt := 30) k_241_26 rfl (Le.rfl')))))))))))))))
theorem T_241_30 {v1 : Value} {x2 : Int32} {s0 : Int32} {s1 : Int32} {σ : pS} {ρ : Nat → Nat → Option Nat} (e : gR σ = ρ) (hL : LayR ρ) : Le
  (C_241_4 (s0 ||| s1) (x2 + 1) σ)
  (C_241_30 v1 x2 s0 s1 σ) := by
  unfold C_241_30
  exact r_ior k_241_30 rfl
    (r_istore_n k_241_31 rfl rfl rfl
    (r_iinc k_241_32 rfl rfl rfl rfl
    (r_goto (tgt := 4) k_241_35 rfl (Le.rfl'))))
theorem M_241  {σ : pS} {ρ : Nat → Nat → Option Nat} (e : gR σ = ρ) (hL : LayR ρ) : Le
  (C_241_4 (0 : Int32) (0 : Int32) σ)
  (pcall 241 [.ref 61] σ) := by
  show Le _ (den 241 0 0 [.ref 61, .retAddr 0, .retAddr 0] [] σ)
  exact r_iconst k_241_0 rfl rfl
    (r_istore_n k_241_1 rfl rfl rfl
    (r_iconst k_241_2 rfl rfl
    (r_istore_n k_241_3 rfl rfl rfl
    (Le.rfl'))))
/-! ===== 242 HedgeWantsModel.wantedBy ===== -/
theorem k_242_0 : cd 242 0 = some (.iconst 0, 1) := by decide +kernel
theorem k_242_1 : cd 242 1 = some (.istore_n 2, 1) := by decide +kernel
theorem k_242_2 : cd 242 2 = some (.iconst 0, 1) := by decide +kernel
theorem k_242_3 : cd 242 3 = some (.istore_n 3, 1) := by decide +kernel
theorem k_242_4 : cd 242 4 = some (.iload_n 3, 1) := by decide +kernel
theorem k_242_5 : cd 242 5 = some (.aload_n 0, 1) := by decide +kernel
theorem k_242_6 : cd 242 6 = some (.getfield 44, 3) := by decide +kernel
theorem k_242_9 : cd 242 9 = some (.iconst 0, 1) := by decide +kernel
theorem k_242_10 : cd 242 10 = some (.iaload, 1) := by decide +kernel
theorem k_242_11 : cd 242 11 = some (.if_icmp .ge 28, 3) := by decide +kernel
theorem k_242_14 : cd 242 14 = some (.iload_n 2, 1) := by decide +kernel
theorem k_242_15 : cd 242 15 = some (.aload_n 0, 1) := by decide +kernel
theorem k_242_16 : cd 242 16 = some (.iload_n 3, 1) := by decide +kernel
theorem k_242_17 : cd 242 17 = some (.iload_n 1, 1) := by decide +kernel
theorem k_242_18 : cd 242 18 = some (.invokevirtual 341, 3) := by decide +kernel
theorem k_242_21 : cd 242 21 = some (.ifCond .eq 9, 3) := by decide +kernel
theorem k_242_24 : cd 242 24 = some (.iconst 1, 1) := by decide +kernel
theorem k_242_25 : cd 242 25 = some (.iload_n 3, 1) := by decide +kernel
theorem k_242_26 : cd 242 26 = some (.ishl, 1) := by decide +kernel
theorem k_242_27 : cd 242 27 = some (.goto 4, 3) := by decide +kernel
theorem k_242_30 : cd 242 30 = some (.iconst 0, 1) := by decide +kernel
theorem k_242_31 : cd 242 31 = some (.ior, 1) := by decide +kernel
theorem k_242_32 : cd 242 32 = some (.istore_n 2, 1) := by decide +kernel
theorem k_242_33 : cd 242 33 = some (.iinc 3 1, 3) := by decide +kernel
theorem k_242_36 : cd 242 36 = some (.goto (-32), 3) := by decide +kernel
theorem k_242_39 : cd 242 39 = some (.iload_n 2, 1) := by decide +kernel
theorem k_242_40 : cd 242 40 = some (.ireturn, 1) := by decide +kernel
theorem po_242 : po 242 = 9 := rfl
noncomputable def C_242_4 (x1 : Int32) (x2 : Int32) (x3 : Int32) (σ : pS) : Option pZ := den 242 0 4 [.ref 61, .int x1, .int x2, .int x3] [] σ
noncomputable def C_242_31 (x1 : Int32) (v2 : Value) (x3 : Int32) (s0 : Int32) (s1 : Int32) (σ : pS) : Option pZ := den 242 0 31 [.ref 61, .int x1, v2, .int x3] [.int s1, .int s0] σ
theorem T_242_4 {x1 : Int32} {x2 : Int32} {x3 : Int32} {σ : pS} {ρ : Nat → Nat → Option Nat} (e : gR σ = ρ) (hL : LayR ρ) : Le
  (if (gI σ 65 (ix (0 : Int32))) ≤ x3 then some (1, .int x2, σ) else bI (pcall 243 [.ref 61, .int x3, .int x1] σ) fun r1 σ1 => if r1 = 0 then C_242_31 x1 (.int x2) x3 x2 (0 : Int32) σ1 else C_242_31 x1 (.int x2) x3 x2 (shl' (1 : Int32) x3) σ1)
  (C_242_4 x1 x2 x3 σ) := by
  unfold C_242_4
  exact r_iload_n k_242_4 rfl rfl
    (r_aload_n k_242_5 rfl rfl
    (r_getR k_242_6 rfl po_242 rfl rfl rfl rfl (gRat e (hL.at (i := 66) rfl))
    (r_iconst k_242_9 rfl rfl
    (r_iald k_242_10 rfl rfl (by decide)
    (r_icmp (tgt := 39) k_242_11 rfl rfl cop_ge
    (r_iload_n k_242_39 rfl rfl
    (r_ret k_242_40 rfl rfl))
    (r_iload_n k_242_14 rfl rfl
    (r_aload_n k_242_15 rfl rfl
    (r_iload_n k_242_16 rfl rfl
    (r_iload_n k_242_17 rfl rfl
    (r_callI (q_virt (rest := [.int x2]) (as := [.int x3, .int x1]) k_242_18 po_242 rfl rfl rfl (by decide +kernel) rfl rfl) (lvq (j := 0) rfl (by decide +kernel)) rfl rfl (fun r1 σ1 h1 => r_if (tgt := 30) k_242_21 rfl rfl cop_eq
    (r_iconst k_242_30 rfl rfl
    (Le.rfl'))
    (r_iconst k_242_24 rfl rfl
    (r_iload_n k_242_25 rfl rfl
    (r_ishl k_242_26 rfl
    (r_goto (tgt := 31) k_242_27 rfl (Le.rfl'))))))))))))))))
theorem T_242_31 {x1 : Int32} {v2 : Value} {x3 : Int32} {s0 : Int32} {s1 : Int32} {σ : pS} {ρ : Nat → Nat → Option Nat} (e : gR σ = ρ) (hL : LayR ρ) : Le
  (C_242_4 x1 (s0 ||| s1) (x3 + 1) σ)
  (C_242_31 x1 v2 x3 s0 s1 σ) := by
  unfold C_242_31
  exact r_ior k_242_31 rfl
    (r_istore_n k_242_32 rfl rfl rfl
    (r_iinc k_242_33 rfl rfl rfl rfl
    (r_goto (tgt := 4) k_242_36 rfl (Le.rfl'))))
theorem M_242 {x0 : Int32} {σ : pS} {ρ : Nat → Nat → Option Nat} (e : gR σ = ρ) (hL : LayR ρ) : Le
  (C_242_4 x0 (0 : Int32) (0 : Int32) σ)
  (pcall 242 [.ref 61, .int x0] σ) := by
  show Le _ (den 242 0 0 [.ref 61, .int x0, .retAddr 0, .retAddr 0] [] σ)
  exact r_iconst k_242_0 rfl rfl
    (r_istore_n k_242_1 rfl rfl rfl
    (r_iconst k_242_2 rfl rfl
    (r_istore_n k_242_3 rfl rfl rfl
    (Le.rfl'))))
/-! ===== 243 HedgeWantsModel.wantsIt ===== -/
theorem k_243_0 : cd 243 0 = some (.aload_n 0, 1) := by decide +kernel
theorem k_243_1 : cd 243 1 = some (.getfield 77, 3) := by decide +kernel
theorem k_243_4 : cd 243 4 = some (.iload_n 2, 1) := by decide +kernel
theorem k_243_5 : cd 243 5 = some (.iaload, 1) := by decide +kernel
theorem k_243_6 : cd 243 6 = some (.istore_n 3, 1) := by decide +kernel
theorem k_243_7 : cd 243 7 = some (.iload_n 1, 1) := by decide +kernel
theorem k_243_8 : cd 243 8 = some (.iload_n 3, 1) := by decide +kernel
theorem k_243_9 : cd 243 9 = some (.if_icmp .eq 27, 3) := by decide +kernel
theorem k_243_12 : cd 243 12 = some (.aload_n 0, 1) := by decide +kernel
theorem k_243_13 : cd 243 13 = some (.getfield 84, 3) := by decide +kernel
theorem k_243_16 : cd 243 16 = some (.iload_n 1, 1) := by decide +kernel
theorem k_243_17 : cd 243 17 = some (.iaload, 1) := by decide +kernel
theorem k_243_18 : cd 243 18 = some (.iload_n 3, 1) := by decide +kernel
theorem k_243_19 : cd 243 19 = some (.invokestatic 269, 3) := by decide +kernel
theorem k_243_22 : cd 243 22 = some (.ifCond .eq 14, 3) := by decide +kernel
theorem k_243_25 : cd 243 25 = some (.aload_n 0, 1) := by decide +kernel
theorem k_243_26 : cd 243 26 = some (.getfield 325, 3) := by decide +kernel
theorem k_243_29 : cd 243 29 = some (.iload_n 1, 1) := by decide +kernel
theorem k_243_30 : cd 243 30 = some (.invokestatic 269, 3) := by decide +kernel
theorem k_243_33 : cd 243 33 = some (.ifCond .eq 5, 3) := by decide +kernel
theorem k_243_36 : cd 243 36 = some (.iconst 0, 1) := by decide +kernel
theorem k_243_37 : cd 243 37 = some (.ireturn, 1) := by decide +kernel
theorem k_243_38 : cd 243 38 = some (.aload_n 0, 1) := by decide +kernel
theorem k_243_39 : cd 243 39 = some (.getfield 44, 3) := by decide +kernel
theorem k_243_42 : cd 243 42 = some (.iconst 3, 1) := by decide +kernel
theorem k_243_43 : cd 243 43 = some (.iaload, 1) := by decide +kernel
theorem k_243_44 : cd 243 44 = some (.ifCond .ne 19, 3) := by decide +kernel
theorem k_243_47 : cd 243 47 = some (.aload_n 0, 1) := by decide +kernel
theorem k_243_48 : cd 243 48 = some (.iload_n 1, 1) := by decide +kernel
theorem k_243_49 : cd 243 49 = some (.iload_n 2, 1) := by decide +kernel
theorem k_243_50 : cd 243 50 = some (.invokevirtual 328, 3) := by decide +kernel
theorem k_243_53 : cd 243 53 = some (.iconst 5, 1) := by decide +kernel
theorem k_243_54 : cd 243 54 = some (.if_icmp .lt 7, 3) := by decide +kernel
theorem k_243_57 : cd 243 57 = some (.iconst 1, 1) := by decide +kernel
theorem k_243_58 : cd 243 58 = some (.goto 4, 3) := by decide +kernel
theorem k_243_61 : cd 243 61 = some (.iconst 0, 1) := by decide +kernel
theorem k_243_62 : cd 243 62 = some (.ireturn, 1) := by decide +kernel
theorem k_243_63 : cd 243 63 = some (.aload_n 0, 1) := by decide +kernel
theorem k_243_64 : cd 243 64 = some (.getfield 90, 3) := by decide +kernel
theorem k_243_67 : cd 243 67 = some (.iconst 0, 1) := by decide +kernel
theorem k_243_68 : cd 243 68 = some (.aload_n 0, 1) := by decide +kernel
theorem k_243_69 : cd 243 69 = some (.getfield 80, 3) := by decide +kernel
theorem k_243_72 : cd 243 72 = some (.iload_n 2, 1) := by decide +kernel
theorem k_243_73 : cd 243 73 = some (.iaload, 1) := by decide +kernel
theorem k_243_74 : cd 243 74 = some (.iastore, 1) := by decide +kernel
theorem k_243_75 : cd 243 75 = some (.aload_n 0, 1) := by decide +kernel
theorem k_243_76 : cd 243 76 = some (.getfield 90, 3) := by decide +kernel
theorem k_243_79 : cd 243 79 = some (.iconst 1, 1) := by decide +kernel
theorem k_243_80 : cd 243 80 = some (.aload_n 0, 1) := by decide +kernel
theorem k_243_81 : cd 243 81 = some (.getfield 303, 3) := by decide +kernel
theorem k_243_84 : cd 243 84 = some (.iastore, 1) := by decide +kernel
theorem k_243_85 : cd 243 85 = some (.aload_n 0, 1) := by decide +kernel
theorem k_243_86 : cd 243 86 = some (.getfield 90, 3) := by decide +kernel
theorem k_243_89 : cd 243 89 = some (.iconst 2, 1) := by decide +kernel
theorem k_243_90 : cd 243 90 = some (.aload_n 0, 1) := by decide +kernel
theorem k_243_91 : cd 243 91 = some (.iload_n 1, 1) := by decide +kernel
theorem k_243_92 : cd 243 92 = some (.iload_n 2, 1) := by decide +kernel
theorem k_243_93 : cd 243 93 = some (.invokevirtual 328, 3) := by decide +kernel
theorem k_243_96 : cd 243 96 = some (.iastore, 1) := by decide +kernel
theorem k_243_97 : cd 243 97 = some (.aload_n 0, 1) := by decide +kernel
theorem k_243_98 : cd 243 98 = some (.getfield 90, 3) := by decide +kernel
theorem k_243_101 : cd 243 101 = some (.iconst 3, 1) := by decide +kernel
theorem k_243_102 : cd 243 102 = some (.aload_n 0, 1) := by decide +kernel
theorem k_243_103 : cd 243 103 = some (.getfield 48, 3) := by decide +kernel
theorem k_243_106 : cd 243 106 = some (.iload_n 1, 1) := by decide +kernel
theorem k_243_107 : cd 243 107 = some (.iaload, 1) := by decide +kernel
theorem k_243_108 : cd 243 108 = some (.iastore, 1) := by decide +kernel
theorem k_243_109 : cd 243 109 = some (.aload_n 0, 1) := by decide +kernel
theorem k_243_110 : cd 243 110 = some (.getfield 90, 3) := by decide +kernel
theorem k_243_113 : cd 243 113 = some (.iconst 4, 1) := by decide +kernel
theorem k_243_114 : cd 243 114 = some (.aload_n 0, 1) := by decide +kernel
theorem k_243_115 : cd 243 115 = some (.iload_n 1, 1) := by decide +kernel
theorem k_243_116 : cd 243 116 = some (.invokevirtual 331, 3) := by decide +kernel
theorem k_243_119 : cd 243 119 = some (.invokestatic 334, 3) := by decide +kernel
theorem k_243_122 : cd 243 122 = some (.iastore, 1) := by decide +kernel
theorem k_243_123 : cd 243 123 = some (.aload_n 0, 1) := by decide +kernel
theorem k_243_124 : cd 243 124 = some (.getfield 90, 3) := by decide +kernel
theorem k_243_127 : cd 243 127 = some (.iconst 5, 1) := by decide +kernel
theorem k_243_128 : cd 243 128 = some (.aload_n 0, 1) := by decide +kernel
theorem k_243_129 : cd 243 129 = some (.iload_n 3, 1) := by decide +kernel
theorem k_243_130 : cd 243 130 = some (.invokevirtual 331, 3) := by decide +kernel
theorem k_243_133 : cd 243 133 = some (.invokestatic 334, 3) := by decide +kernel
theorem k_243_136 : cd 243 136 = some (.iastore, 1) := by decide +kernel
theorem k_243_137 : cd 243 137 = some (.aload_n 0, 1) := by decide +kernel
theorem k_243_138 : cd 243 138 = some (.aload_n 0, 1) := by decide +kernel
theorem k_243_139 : cd 243 139 = some (.getfield 61, 3) := by decide +kernel
theorem k_243_142 : cd 243 142 = some (.aload_n 0, 1) := by decide +kernel
theorem k_243_143 : cd 243 143 = some (.getfield 44, 3) := by decide +kernel
theorem k_243_146 : cd 243 146 = some (.iconst 3, 1) := by decide +kernel
theorem k_243_147 : cd 243 147 = some (.iaload, 1) := by decide +kernel
theorem k_243_148 : cd 243 148 = some (.invokevirtual 337, 3) := by decide +kernel
theorem k_243_151 : cd 243 151 = some (.ifCond .le 7, 3) := by decide +kernel
theorem k_243_154 : cd 243 154 = some (.iconst 1, 1) := by decide +kernel
theorem k_243_155 : cd 243 155 = some (.goto 4, 3) := by decide +kernel
theorem k_243_158 : cd 243 158 = some (.iconst 0, 1) := by decide +kernel
theorem k_243_159 : cd 243 159 = some (.ireturn, 1) := by decide +kernel
theorem po_243 : po 243 = 9 := rfl
theorem M_243 {x0 : Int32} {x1 : Int32} {σ : pS} {ρ : Nat → Nat → Option Nat} (e : gR σ = ρ) (hL : LayR ρ) : Le
  (gd (inb x1 12) (if x0 = (gI σ 75 (ix x1)) then some (1, .int (0 : Int32), σ) else gd (inb x0 8) (bI (pcall 236 [.int (gI σ 78 (ix x0)), .int (gI σ 75 (ix x1))] σ) fun r1 σ1 => if r1 = 0 then some (1, .int (0 : Int32), σ1) else bI (pcall 236 [.int (gI σ1 61 36), .int x0] σ1) fun r2 σ2 => if r2 = 0 then if ¬ (gI σ2 65 (ix (3 : Int32))) = 0 then gd (inb x1 12) (bI (pcall 244 [.ref 61, .int x0, .int x1] (sI (sI σ2 80 (ix (0 : Int32)) (gI σ2 76 (ix x1))) 80 (ix (1 : Int32)) (gI (sI σ2 80 (ix (0 : Int32)) (gI σ2 76 (ix x1))) 61 31))) fun r3 σ3 => gd (inb x0 16) (bI (pcall 246 [.ref 61, .int x0] (sI (sI σ3 80 (ix (2 : Int32)) r3) 80 (ix (3 : Int32)) (gI (sI σ3 80 (ix (2 : Int32)) r3) 66 (ix x0)))) fun r4 σ4 => bI (pcall 247 [.int r4] σ4) fun r5 σ5 => bI (pcall 246 [.ref 61, .int (gI σ 75 (ix x1))] (sI σ5 80 (ix (4 : Int32)) r5)) fun r6 σ6 => bI (pcall 247 [.int r6] σ6) fun r7 σ7 => bI (pcall 248 [.ref 61, .ref 71, .int (gI (sI σ7 80 (ix (5 : Int32)) r7) 65 (ix (3 : Int32)))] (sI σ7 80 (ix (5 : Int32)) r7)) fun r8 σ8 => if r8 ≤ 0 then some (1, .int (0 : Int32), σ8) else some (1, .int (1 : Int32), σ8))) else bI (pcall 244 [.ref 61, .int x0, .int x1] σ2) fun r9 σ9 => if r9 < (5 : Int32) then some (1, .int (0 : Int32), σ9) else some (1, .int (1 : Int32), σ9) else some (1, .int (0 : Int32), σ2))))
  (pcall 243 [.ref 61, .int x0, .int x1] σ) := by
  show Le _ (den 243 0 0 [.ref 61, .int x0, .int x1, .retAddr 0] [] σ)
  exact r_aload_n k_243_0 rfl rfl
    (r_getR k_243_1 rfl po_243 rfl rfl rfl rfl (gRat e (hL.at (i := 76) rfl))
    (r_iload_n k_243_4 rfl rfl
    (r_gd fun g => r_iald k_243_5 rfl rfl g
    (r_istore_n k_243_6 rfl rfl rfl
    (r_iload_n k_243_7 rfl rfl
    (r_iload_n k_243_8 rfl rfl
    (r_icmp (tgt := 36) k_243_9 rfl rfl cop_eq
    (r_iconst k_243_36 rfl rfl
    (r_ret k_243_37 rfl rfl))
    (r_aload_n k_243_12 rfl rfl
    (r_getR k_243_13 rfl po_243 rfl rfl rfl rfl (gRat e (hL.at (i := 79) rfl))
    (r_iload_n k_243_16 rfl rfl
    (r_gd fun g => r_iald k_243_17 rfl rfl g
    (r_iload_n k_243_18 rfl rfl
    (r_callI (q_stat (rest := []) (av := [.int (gI σ 78 (ix x0)), .int (gI σ 75 (ix x1))]) k_243_19 po_243 rfl (by decide) rfl rfl rfl rfl) (lvq (j := 0) rfl (by decide +kernel)) rfl rfl (fun r1 σ1 h1 => r_if (tgt := 36) k_243_22 rfl rfl cop_eq
    (r_iconst k_243_36 rfl rfl
    (r_ret k_243_37 rfl rfl))
    (r_aload_n k_243_25 rfl rfl
    (r_getI k_243_26 rfl po_243 rfl rfl rfl rfl
    (r_iload_n k_243_29 rfl rfl
    (r_callI (q_stat (rest := []) (av := [.int (gI σ1 61 36), .int x0]) k_243_30 po_243 rfl (by decide) rfl rfl rfl rfl) (lvq (j := 0) rfl (by decide +kernel)) rfl rfl (fun r2 σ2 h2 => r_if (tgt := 38) k_243_33 rfl rfl cop_eq
    (r_aload_n k_243_38 rfl rfl
    (r_getR k_243_39 rfl po_243 rfl rfl rfl rfl (gRat (eC rfl h2 (eC rfl h1 e)) (hL.at (i := 66) rfl))
    (r_iconst k_243_42 rfl rfl
    (r_iald k_243_43 rfl rfl (by decide)
    (r_if (tgt := 63) k_243_44 rfl rfl cop_ne
    (r_aload_n k_243_63 rfl rfl
    (r_getR k_243_64 rfl po_243 rfl rfl rfl rfl (gRat (eC rfl h2 (eC rfl h1 e)) (hL.at (i := 81) rfl))
    (r_iconst k_243_67 rfl rfl
    (r_aload_n k_243_68 rfl rfl
    (r_getR k_243_69 rfl po_243 rfl rfl rfl rfl (gRat (eC rfl h2 (eC rfl h1 e)) (hL.at (i := 77) rfl))
    (r_iload_n k_243_72 rfl rfl
    (r_gd fun g => r_iald k_243_73 rfl rfl g
    (r_iast k_243_74 rfl rfl (by decide)
    (r_aload_n k_243_75 rfl rfl
    (r_getR k_243_76 rfl po_243 rfl rfl rfl rfl (gRat (eI (eC rfl h2 (eC rfl h1 e))) (hL.at (i := 81) rfl))
    (r_iconst k_243_79 rfl rfl
    (r_aload_n k_243_80 rfl rfl
    (r_getI k_243_81 rfl po_243 rfl rfl rfl rfl
    (r_iast k_243_84 rfl rfl (by decide)
    (r_aload_n k_243_85 rfl rfl
    (r_getR k_243_86 rfl po_243 rfl rfl rfl rfl (gRat (eI (eI (eC rfl h2 (eC rfl h1 e)))) (hL.at (i := 81) rfl))
    (r_iconst k_243_89 rfl rfl
    (r_aload_n k_243_90 rfl rfl
    (r_iload_n k_243_91 rfl rfl
    (r_iload_n k_243_92 rfl rfl
    (r_callI (q_virt (rest := [.int (2 : Int32), .ref 80]) (as := [.int x0, .int x1]) k_243_93 po_243 rfl rfl rfl (by decide +kernel) rfl rfl) (lvq (j := 0) rfl (by decide +kernel)) rfl rfl (fun r3 σ3 h3 => r_iast k_243_96 rfl rfl (by decide)
    (r_aload_n k_243_97 rfl rfl
    (r_getR k_243_98 rfl po_243 rfl rfl rfl rfl (gRat (eI (eC rfl h3 (eI (eI (eC rfl h2 (eC rfl h1 e)))))) (hL.at (i := 81) rfl))
    (r_iconst k_243_101 rfl rfl
    (r_aload_n k_243_102 rfl rfl
    (r_getR k_243_103 rfl po_243 rfl rfl rfl rfl (gRat (eI (eC rfl h3 (eI (eI (eC rfl h2 (eC rfl h1 e)))))) (hL.at (i := 67) rfl))
    (r_iload_n k_243_106 rfl rfl
    (r_gd fun g => r_iald k_243_107 rfl rfl g
    (r_iast k_243_108 rfl rfl (by decide)
    (r_aload_n k_243_109 rfl rfl
    (r_getR k_243_110 rfl po_243 rfl rfl rfl rfl (gRat (eI (eI (eC rfl h3 (eI (eI (eC rfl h2 (eC rfl h1 e))))))) (hL.at (i := 81) rfl))
    (r_iconst k_243_113 rfl rfl
    (r_aload_n k_243_114 rfl rfl
    (r_iload_n k_243_115 rfl rfl
    (r_callI (q_virt (rest := [.int (4 : Int32), .ref 80]) (as := [.int x0]) k_243_116 po_243 rfl rfl rfl (by decide +kernel) rfl rfl) (lvq (j := 0) rfl (by decide +kernel)) rfl rfl (fun r4 σ4 h4 => r_callI (q_stat (rest := [.int (4 : Int32), .ref 80]) (av := [.int r4]) k_243_119 po_243 rfl (by decide) rfl rfl rfl rfl) (lvq (j := 0) rfl (by decide +kernel)) rfl rfl (fun r5 σ5 h5 => r_iast k_243_122 rfl rfl (by decide)
    (r_aload_n k_243_123 rfl rfl
    (r_getR k_243_124 rfl po_243 rfl rfl rfl rfl (gRat (eI (eC rfl h5 (eC rfl h4 (eI (eI (eC rfl h3 (eI (eI (eC rfl h2 (eC rfl h1 e)))))))))) (hL.at (i := 81) rfl))
    (r_iconst k_243_127 rfl rfl
    (r_aload_n k_243_128 rfl rfl
    (r_iload_n k_243_129 rfl rfl
    (r_callI (q_virt (rest := [.int (5 : Int32), .ref 80]) (as := [.int (gI σ 75 (ix x1))]) k_243_130 po_243 rfl rfl rfl (by decide +kernel) rfl rfl) (lvq (j := 0) rfl (by decide +kernel)) rfl rfl (fun r6 σ6 h6 => r_callI (q_stat (rest := [.int (5 : Int32), .ref 80]) (av := [.int r6]) k_243_133 po_243 rfl (by decide) rfl rfl rfl rfl) (lvq (j := 0) rfl (by decide +kernel)) rfl rfl (fun r7 σ7 h7 => r_iast k_243_136 rfl rfl (by decide)
    (r_aload_n k_243_137 rfl rfl
    (r_aload_n k_243_138 rfl rfl
    (r_getR k_243_139 rfl po_243 rfl rfl rfl rfl (gRat (eI (eC rfl h7 (eC rfl h6 (eI (eC rfl h5 (eC rfl h4 (eI (eI (eC rfl h3 (eI (eI (eC rfl h2 (eC rfl h1 e))))))))))))) (hL.at (i := 72) rfl))
    (r_aload_n k_243_142 rfl rfl
    (r_getR k_243_143 rfl po_243 rfl rfl rfl rfl (gRat (eI (eC rfl h7 (eC rfl h6 (eI (eC rfl h5 (eC rfl h4 (eI (eI (eC rfl h3 (eI (eI (eC rfl h2 (eC rfl h1 e))))))))))))) (hL.at (i := 66) rfl))
    (r_iconst k_243_146 rfl rfl
    (r_iald k_243_147 rfl rfl (by decide)
    (r_callI (q_virt (rest := []) (as := [.ref 71, .int (gI (sI σ7 80 (ix (5 : Int32)) r7) 65 (ix (3 : Int32)))]) k_243_148 po_243 rfl rfl rfl (by decide +kernel) rfl rfl) (lvq (j := 0) rfl (by decide +kernel)) rfl rfl (fun r8 σ8 h8 => r_if (tgt := 158) k_243_151 rfl rfl cop_le
    (r_iconst k_243_158 rfl rfl
    (r_ret k_243_159 rfl rfl))
    (r_iconst k_243_154 rfl rfl
    (r_goto (tgt := 159) k_243_155 rfl (r_ret k_243_159 rfl rfl))))))))))))))))))))))))))))))))))))))))))))))))))))))))))
    (r_aload_n k_243_47 rfl rfl
    (r_iload_n k_243_48 rfl rfl
    (r_iload_n k_243_49 rfl rfl
    (r_callI (q_virt (rest := []) (as := [.int x0, .int x1]) k_243_50 po_243 rfl rfl rfl (by decide +kernel) rfl rfl) (lvq (j := 0) rfl (by decide +kernel)) rfl rfl (fun r9 σ9 h9 => r_iconst k_243_53 rfl rfl
    (r_icmp (tgt := 61) k_243_54 rfl rfl cop_lt
    (r_iconst k_243_61 rfl rfl
    (r_ret k_243_62 rfl rfl))
    (r_iconst k_243_57 rfl rfl
    (r_goto (tgt := 62) k_243_58 rfl (r_ret k_243_62 rfl rfl))))))))))))))
    (r_iconst k_243_36 rfl rfl
    (r_ret k_243_37 rfl rfl)))))))))))))))))))))
end TREES
