section TREES
/-! ===== 323 HedgeWantsLaw.province ===== -/
theorem k_323_0 : cd 323 0 = some (.aload_n 2, 1) := by decide +kernel
theorem k_323_1 : cd 323 1 = some (.iconst 0, 1) := by decide +kernel
theorem k_323_2 : cd 323 2 = some (.aload_n 0, 1) := by decide +kernel
theorem k_323_3 : cd 323 3 = some (.iload_n 1, 1) := by decide +kernel
theorem k_323_4 : cd 323 4 = some (.invokevirtual 7, 3) := by decide +kernel
theorem k_323_7 : cd 323 7 = some (.i2l, 1) := by decide +kernel
theorem k_323_8 : cd 323 8 = some (.lastore, 1) := by decide +kernel
theorem k_323_9 : cd 323 9 = some (.goto 6, 3) := by decide +kernel
theorem k_323_12 : cd 323 12 = some (.astore_n 3, 1) := by decide +kernel
theorem k_323_13 : cd 323 13 = some (.iconst 1, 1) := by decide +kernel
theorem k_323_14 : cd 323 14 = some (.ireturn, 1) := by decide +kernel
theorem k_323_15 : cd 323 15 = some (.iconst 0, 1) := by decide +kernel
theorem k_323_16 : cd 323 16 = some (.ireturn, 1) := by decide +kernel
theorem po_323 : po 323 = 12 := rfl
theorem M_323  {x1 : Int32} {σ : pS} {ρ : Nat → Nat → Option Nat} (e : gR σ = ρ) (hL : LayR ρ) : Le
  (bIh (pcall 173 [.ref 0, .int x1] σ) (fun r1 σ1 => gd (LayR (gR σ1)) (some (1, .int (ι 0), (sJ σ1 98 0 r1.toInt64)))) (fun j σ1 => if j = 0 then gd (LayR (gR σ1)) (some (1, .int (ι 1), σ1)) else if j = 1 then some (3, .null, σ1) else none))
  (pcall 323 [.ref 0, .int x1, .ref 98] σ) := by
  show Le _ (den 323 0 0 [.ref 0, .int x1, .ref 98, .retAddr 0] [] σ)
  exact r_aload_n k_323_0 rfl rfl
    (r_iconst k_323_1 rfl rfl
    (r_aload_n k_323_2 rfl rfl
    (r_iload_n k_323_3 rfl rfl
    (r_callIH (q_virt (rest := [.int (ι 0), .ref 98]) (as := [.int x1]) k_323_4 po_323 rfl rfl rfl (rcvO rfl rfl rfl) rfl rfl) (lvq (j := 0) rfl (by decide +kernel)) rfl (fun r1 σ1 h1 => r_gd fun L1 => r_i2l k_323_7 rfl
    (r_last k_323_8 rfl rfl (by decide)
    (r_goto (tgt := 15) k_323_9 rfl (r_iconst k_323_15 rfl rfl
    (r_ret k_323_16 rfl rfl))))) (fun j _ σ1 h1 => g_two (g_hnd_n (by decide +kernel) k_323_12 rfl rfl rfl (r_gd fun L1 => r_iconst k_323_13 rfl rfl
    (r_ret k_323_14 rfl rfl))) (g_thru (by decide +kernel)))))))
/-! ===== 324 HedgeWantsLaw.count ===== -/
theorem k_324_0 : cd 324 0 = some (.aload_n 2, 1) := by decide +kernel
theorem k_324_1 : cd 324 1 = some (.iconst 0, 1) := by decide +kernel
theorem k_324_2 : cd 324 2 = some (.aload_n 0, 1) := by decide +kernel
theorem k_324_3 : cd 324 3 = some (.iload_n 1, 1) := by decide +kernel
theorem k_324_4 : cd 324 4 = some (.invokevirtual 15, 3) := by decide +kernel
theorem k_324_7 : cd 324 7 = some (.i2l, 1) := by decide +kernel
theorem k_324_8 : cd 324 8 = some (.lastore, 1) := by decide +kernel
theorem k_324_9 : cd 324 9 = some (.goto 6, 3) := by decide +kernel
theorem k_324_12 : cd 324 12 = some (.astore_n 3, 1) := by decide +kernel
theorem k_324_13 : cd 324 13 = some (.iconst 1, 1) := by decide +kernel
theorem k_324_14 : cd 324 14 = some (.ireturn, 1) := by decide +kernel
theorem k_324_15 : cd 324 15 = some (.iconst 0, 1) := by decide +kernel
theorem k_324_16 : cd 324 16 = some (.ireturn, 1) := by decide +kernel
theorem po_324 : po 324 = 12 := rfl
theorem M_324  {x1 : Int32} {σ : pS} {ρ : Nat → Nat → Option Nat} (e : gR σ = ρ) (hL : LayR ρ) : Le
  (bIh (pcall 174 [.ref 0, .int x1] σ) (fun r1 σ1 => some (1, .int (ι 0), (sJ σ1 98 0 r1.toInt64))) (fun j σ1 => if j = 0 then some (2, .null, σ1) else if j = 1 then some (1, .int (ι 1), σ1) else none))
  (pcall 324 [.ref 0, .int x1, .ref 98] σ) := by
  show Le _ (den 324 0 0 [.ref 0, .int x1, .ref 98, .retAddr 0] [] σ)
  exact r_aload_n k_324_0 rfl rfl
    (r_iconst k_324_1 rfl rfl
    (r_aload_n k_324_2 rfl rfl
    (r_iload_n k_324_3 rfl rfl
    (r_callIH (q_virt (rest := [.int (ι 0), .ref 98]) (as := [.int x1]) k_324_4 po_324 rfl rfl rfl (rcvO rfl rfl rfl) rfl rfl) (lvq (j := 0) rfl (by decide +kernel)) rfl (fun r1 σ1 h1 => r_i2l k_324_7 rfl
    (r_last k_324_8 rfl rfl (by decide)
    (r_goto (tgt := 15) k_324_9 rfl (r_iconst k_324_15 rfl rfl
    (r_ret k_324_16 rfl rfl))))) (fun j _ σ1 h1 => g_two (g_thru (by decide +kernel)) (g_hnd_n (by decide +kernel) k_324_12 rfl rfl rfl (r_iconst k_324_13 rfl rfl
    (r_ret k_324_14 rfl rfl))))))))
/-! ===== 325 HedgeWantsLaw.person ===== -/
theorem k_325_0 : cd 325 0 = some (.aload_n 3, 1) := by decide +kernel
theorem k_325_1 : cd 325 1 = some (.iconst 0, 1) := by decide +kernel
theorem k_325_2 : cd 325 2 = some (.aload_n 0, 1) := by decide +kernel
theorem k_325_3 : cd 325 3 = some (.iload_n 1, 1) := by decide +kernel
theorem k_325_4 : cd 325 4 = some (.iload_n 2, 1) := by decide +kernel
theorem k_325_5 : cd 325 5 = some (.invokevirtual 20, 3) := by decide +kernel
theorem k_325_8 : cd 325 8 = some (.i2l, 1) := by decide +kernel
theorem k_325_9 : cd 325 9 = some (.lastore, 1) := by decide +kernel
theorem k_325_10 : cd 325 10 = some (.goto 7, 3) := by decide +kernel
theorem k_325_13 : cd 325 13 = some (.astore 4, 2) := by decide +kernel
theorem k_325_15 : cd 325 15 = some (.iconst 1, 1) := by decide +kernel
theorem k_325_16 : cd 325 16 = some (.ireturn, 1) := by decide +kernel
theorem k_325_17 : cd 325 17 = some (.iconst 0, 1) := by decide +kernel
theorem k_325_18 : cd 325 18 = some (.ireturn, 1) := by decide +kernel
theorem po_325 : po 325 = 12 := rfl
theorem M_325  {x1 : Int32} {x2 : Int32} {σ : pS} {ρ : Nat → Nat → Option Nat} (e : gR σ = ρ) (hL : LayR ρ) : Le
  (bIh (pcall 175 [.ref 0, .int x1, .int x2] σ) (fun r1 σ1 => some (1, .int (ι 0), (sJ σ1 98 0 r1.toInt64))) (fun j σ1 => if j = 0 then some (2, .null, σ1) else if j = 1 then some (1, .int (ι 1), σ1) else none))
  (pcall 325 [.ref 0, .int x1, .int x2, .ref 98] σ) := by
  show Le _ (den 325 0 0 [.ref 0, .int x1, .int x2, .ref 98, .retAddr 0] [] σ)
  exact r_aload_n k_325_0 rfl rfl
    (r_iconst k_325_1 rfl rfl
    (r_aload_n k_325_2 rfl rfl
    (r_iload_n k_325_3 rfl rfl
    (r_iload_n k_325_4 rfl rfl
    (r_callIH (q_virt (rest := [.int (ι 0), .ref 98]) (as := [.int x1, .int x2]) k_325_5 po_325 rfl rfl rfl (rcvO rfl rfl rfl) rfl rfl) (lvq (j := 0) rfl (by decide +kernel)) rfl (fun r1 σ1 h1 => r_i2l k_325_8 rfl
    (r_last k_325_9 rfl rfl (by decide)
    (r_goto (tgt := 17) k_325_10 rfl (r_iconst k_325_17 rfl rfl
    (r_ret k_325_18 rfl rfl))))) (fun j _ σ1 h1 => g_two (g_thru (by decide +kernel)) (g_hnd (by decide +kernel) k_325_13 rfl rfl rfl (r_iconst k_325_15 rfl rfl
    (r_ret k_325_16 rfl rfl)))))))))
/-! ===== 326 HedgeWantsLaw.thing ===== -/
theorem k_326_0 : cd 326 0 = some (.aload_n 3, 1) := by decide +kernel
theorem k_326_1 : cd 326 1 = some (.iconst 0, 1) := by decide +kernel
theorem k_326_2 : cd 326 2 = some (.aload_n 0, 1) := by decide +kernel
theorem k_326_3 : cd 326 3 = some (.iload_n 1, 1) := by decide +kernel
theorem k_326_4 : cd 326 4 = some (.iload_n 2, 1) := by decide +kernel
theorem k_326_5 : cd 326 5 = some (.invokevirtual 24, 3) := by decide +kernel
theorem k_326_8 : cd 326 8 = some (.i2l, 1) := by decide +kernel
theorem k_326_9 : cd 326 9 = some (.lastore, 1) := by decide +kernel
theorem k_326_10 : cd 326 10 = some (.goto 7, 3) := by decide +kernel
theorem k_326_13 : cd 326 13 = some (.astore 4, 2) := by decide +kernel
theorem k_326_15 : cd 326 15 = some (.iconst 1, 1) := by decide +kernel
theorem k_326_16 : cd 326 16 = some (.ireturn, 1) := by decide +kernel
theorem k_326_17 : cd 326 17 = some (.iconst 0, 1) := by decide +kernel
theorem k_326_18 : cd 326 18 = some (.ireturn, 1) := by decide +kernel
theorem po_326 : po 326 = 12 := rfl
theorem M_326  {x1 : Int32} {x2 : Int32} {σ : pS} {ρ : Nat → Nat → Option Nat} (e : gR σ = ρ) (hL : LayR ρ) : Le
  (bIh (pcall 177 [.ref 0, .int x1, .int x2] σ) (fun r1 σ1 => gd (LayR (gR σ1)) (some (1, .int (ι 0), (sJ σ1 98 0 r1.toInt64)))) (fun j σ1 => if j = 0 then some (2, .null, σ1) else if j = 1 then gd (LayR (gR σ1)) (some (1, .int (ι 1), σ1)) else none))
  (pcall 326 [.ref 0, .int x1, .int x2, .ref 98] σ) := by
  show Le _ (den 326 0 0 [.ref 0, .int x1, .int x2, .ref 98, .retAddr 0] [] σ)
  exact r_aload_n k_326_0 rfl rfl
    (r_iconst k_326_1 rfl rfl
    (r_aload_n k_326_2 rfl rfl
    (r_iload_n k_326_3 rfl rfl
    (r_iload_n k_326_4 rfl rfl
    (r_callIH (q_virt (rest := [.int (ι 0), .ref 98]) (as := [.int x1, .int x2]) k_326_5 po_326 rfl rfl rfl (rcvO rfl rfl rfl) rfl rfl) (lvq (j := 0) rfl (by decide +kernel)) rfl (fun r1 σ1 h1 => r_gd fun L1 => r_i2l k_326_8 rfl
    (r_last k_326_9 rfl rfl (by decide)
    (r_goto (tgt := 17) k_326_10 rfl (r_iconst k_326_17 rfl rfl
    (r_ret k_326_18 rfl rfl))))) (fun j _ σ1 h1 => g_two (g_thru (by decide +kernel)) (g_hnd (by decide +kernel) k_326_13 rfl rfl rfl (r_gd fun L1 => r_iconst k_326_15 rfl rfl
    (r_ret k_326_16 rfl rfl)))))))))
/-! ===== 327 HedgeWantsLaw.look ===== -/
theorem k_327_0 : cd 327 0 = some (.aload 4, 2) := by decide +kernel
theorem k_327_2 : cd 327 2 = some (.iconst 0, 1) := by decide +kernel
theorem k_327_3 : cd 327 3 = some (.aload_n 0, 1) := by decide +kernel
theorem k_327_4 : cd 327 4 = some (.iload_n 1, 1) := by decide +kernel
theorem k_327_5 : cd 327 5 = some (.iload_n 2, 1) := by decide +kernel
theorem k_327_6 : cd 327 6 = some (.iload_n 3, 1) := by decide +kernel
theorem k_327_7 : cd 327 7 = some (.invokevirtual 27, 3) := by decide +kernel
theorem k_327_10 : cd 327 10 = some (.i2l, 1) := by decide +kernel
theorem k_327_11 : cd 327 11 = some (.lastore, 1) := by decide +kernel
theorem k_327_12 : cd 327 12 = some (.goto 7, 3) := by decide +kernel
theorem k_327_15 : cd 327 15 = some (.astore 5, 2) := by decide +kernel
theorem k_327_17 : cd 327 17 = some (.iconst 1, 1) := by decide +kernel
theorem k_327_18 : cd 327 18 = some (.ireturn, 1) := by decide +kernel
theorem k_327_19 : cd 327 19 = some (.iconst 0, 1) := by decide +kernel
theorem k_327_20 : cd 327 20 = some (.ireturn, 1) := by decide +kernel
theorem po_327 : po 327 = 12 := rfl
theorem M_327  {x1 : Int32} {x2 : Int32} {x3 : Int32} {σ : pS} {ρ : Nat → Nat → Option Nat} (e : gR σ = ρ) (hL : LayR ρ) : Le
  (bIh (pcall 179 [.ref 0, .int x1, .int x2, .int x3] σ) (fun r1 σ1 => some (1, .int (ι 0), (sJ σ1 98 0 r1.toInt64))) (fun j σ1 => if j = 0 then some (2, .null, σ1) else if j = 1 then some (1, .int (ι 1), σ1) else none))
  (pcall 327 [.ref 0, .int x1, .int x2, .int x3, .ref 98] σ) := by
  show Le _ (den 327 0 0 [.ref 0, .int x1, .int x2, .int x3, .ref 98, .retAddr 0] [] σ)
  exact r_aload k_327_0 rfl rfl
    (r_iconst k_327_2 rfl rfl
    (r_aload_n k_327_3 rfl rfl
    (r_iload_n k_327_4 rfl rfl
    (r_iload_n k_327_5 rfl rfl
    (r_iload_n k_327_6 rfl rfl
    (r_callIH (q_virt (rest := [.int (ι 0), .ref 98]) (as := [.int x1, .int x2, .int x3]) k_327_7 po_327 rfl rfl rfl (rcvO rfl rfl rfl) rfl rfl) (lvq (j := 0) rfl (by decide +kernel)) rfl (fun r1 σ1 h1 => r_i2l k_327_10 rfl
    (r_last k_327_11 rfl rfl (by decide)
    (r_goto (tgt := 19) k_327_12 rfl (r_iconst k_327_19 rfl rfl
    (r_ret k_327_20 rfl rfl))))) (fun j _ σ1 h1 => g_two (g_thru (by decide +kernel)) (g_hnd (by decide +kernel) k_327_15 rfl rfl rfl (r_iconst k_327_17 rfl rfl
    (r_ret k_327_18 rfl rfl))))))))))
/-! ===== 328 HedgeWantsLaw.ask ===== -/
theorem k_328_0 : cd 328 0 = some (.aload_n 3, 1) := by decide +kernel
theorem k_328_1 : cd 328 1 = some (.iconst 0, 1) := by decide +kernel
theorem k_328_2 : cd 328 2 = some (.aload_n 0, 1) := by decide +kernel
theorem k_328_3 : cd 328 3 = some (.iload_n 1, 1) := by decide +kernel
theorem k_328_4 : cd 328 4 = some (.iload_n 2, 1) := by decide +kernel
theorem k_328_5 : cd 328 5 = some (.invokevirtual 31, 3) := by decide +kernel
theorem k_328_8 : cd 328 8 = some (.i2l, 1) := by decide +kernel
theorem k_328_9 : cd 328 9 = some (.lastore, 1) := by decide +kernel
theorem k_328_10 : cd 328 10 = some (.goto 7, 3) := by decide +kernel
theorem k_328_13 : cd 328 13 = some (.astore 4, 2) := by decide +kernel
theorem k_328_15 : cd 328 15 = some (.iconst 1, 1) := by decide +kernel
theorem k_328_16 : cd 328 16 = some (.ireturn, 1) := by decide +kernel
theorem k_328_17 : cd 328 17 = some (.iconst 0, 1) := by decide +kernel
theorem k_328_18 : cd 328 18 = some (.ireturn, 1) := by decide +kernel
theorem po_328 : po 328 = 12 := rfl
theorem M_328  {x1 : Int32} {x2 : Int32} {σ : pS} {ρ : Nat → Nat → Option Nat} (e : gR σ = ρ) (hL : LayR ρ) : Le
  (bIh (pcall 181 [.ref 0, .int x1, .int x2] σ) (fun r1 σ1 => some (1, .int (ι 0), (sJ σ1 98 0 r1.toInt64))) (fun j σ1 => if j = 0 then some (2, .null, σ1) else if j = 1 then some (1, .int (ι 1), σ1) else none))
  (pcall 328 [.ref 0, .int x1, .int x2, .ref 98] σ) := by
  show Le _ (den 328 0 0 [.ref 0, .int x1, .int x2, .ref 98, .retAddr 0] [] σ)
  exact r_aload_n k_328_0 rfl rfl
    (r_iconst k_328_1 rfl rfl
    (r_aload_n k_328_2 rfl rfl
    (r_iload_n k_328_3 rfl rfl
    (r_iload_n k_328_4 rfl rfl
    (r_callIH (q_virt (rest := [.int (ι 0), .ref 98]) (as := [.int x1, .int x2]) k_328_5 po_328 rfl rfl rfl (rcvO rfl rfl rfl) rfl rfl) (lvq (j := 0) rfl (by decide +kernel)) rfl (fun r1 σ1 h1 => r_i2l k_328_8 rfl
    (r_last k_328_9 rfl rfl (by decide)
    (r_goto (tgt := 17) k_328_10 rfl (r_iconst k_328_17 rfl rfl
    (r_ret k_328_18 rfl rfl))))) (fun j _ σ1 h1 => g_two (g_thru (by decide +kernel)) (g_hnd (by decide +kernel) k_328_13 rfl rfl rfl (r_iconst k_328_15 rfl rfl
    (r_ret k_328_16 rfl rfl)))))))))
/-! ===== 329 HedgeWantsLaw.spoil ===== -/
theorem k_329_0 : cd 329 0 = some (.aload_n 2, 1) := by decide +kernel
theorem k_329_1 : cd 329 1 = some (.iconst 0, 1) := by decide +kernel
theorem k_329_2 : cd 329 2 = some (.aload_n 0, 1) := by decide +kernel
theorem k_329_3 : cd 329 3 = some (.iload_n 1, 1) := by decide +kernel
theorem k_329_4 : cd 329 4 = some (.invokevirtual 34, 3) := by decide +kernel
theorem k_329_7 : cd 329 7 = some (.i2l, 1) := by decide +kernel
theorem k_329_8 : cd 329 8 = some (.lastore, 1) := by decide +kernel
theorem k_329_9 : cd 329 9 = some (.goto 6, 3) := by decide +kernel
theorem k_329_12 : cd 329 12 = some (.astore_n 3, 1) := by decide +kernel
theorem k_329_13 : cd 329 13 = some (.iconst 1, 1) := by decide +kernel
theorem k_329_14 : cd 329 14 = some (.ireturn, 1) := by decide +kernel
theorem k_329_15 : cd 329 15 = some (.iconst 0, 1) := by decide +kernel
theorem k_329_16 : cd 329 16 = some (.ireturn, 1) := by decide +kernel
theorem po_329 : po 329 = 12 := rfl
theorem M_329  {x1 : Int32} {σ : pS} {ρ : Nat → Nat → Option Nat} (e : gR σ = ρ) (hL : LayR ρ) : Le
  (bIh (pcall 182 [.ref 0, .int x1] σ) (fun r1 σ1 => some (1, .int (ι 0), (sJ σ1 98 0 r1.toInt64))) (fun j σ1 => if j = 0 then some (2, .null, σ1) else if j = 1 then some (1, .int (ι 1), σ1) else none))
  (pcall 329 [.ref 0, .int x1, .ref 98] σ) := by
  show Le _ (den 329 0 0 [.ref 0, .int x1, .ref 98, .retAddr 0] [] σ)
  exact r_aload_n k_329_0 rfl rfl
    (r_iconst k_329_1 rfl rfl
    (r_aload_n k_329_2 rfl rfl
    (r_iload_n k_329_3 rfl rfl
    (r_callIH (q_virt (rest := [.int (ι 0), .ref 98]) (as := [.int x1]) k_329_4 po_329 rfl rfl rfl (rcvO rfl rfl rfl) rfl rfl) (lvq (j := 0) rfl (by decide +kernel)) rfl (fun r1 σ1 h1 => r_i2l k_329_7 rfl
    (r_last k_329_8 rfl rfl (by decide)
    (r_goto (tgt := 15) k_329_9 rfl (r_iconst k_329_15 rfl rfl
    (r_ret k_329_16 rfl rfl))))) (fun j _ σ1 h1 => g_two (g_thru (by decide +kernel)) (g_hnd_n (by decide +kernel) k_329_12 rfl rfl rfl (r_iconst k_329_13 rfl rfl
    (r_ret k_329_14 rfl rfl))))))))
/-! ===== 330 HedgeWantsLaw.mend ===== -/
theorem k_330_0 : cd 330 0 = some (.aload_n 2, 1) := by decide +kernel
theorem k_330_1 : cd 330 1 = some (.iconst 0, 1) := by decide +kernel
theorem k_330_2 : cd 330 2 = some (.aload_n 0, 1) := by decide +kernel
theorem k_330_3 : cd 330 3 = some (.iload_n 1, 1) := by decide +kernel
theorem k_330_4 : cd 330 4 = some (.invokevirtual 37, 3) := by decide +kernel
theorem k_330_7 : cd 330 7 = some (.i2l, 1) := by decide +kernel
theorem k_330_8 : cd 330 8 = some (.lastore, 1) := by decide +kernel
theorem k_330_9 : cd 330 9 = some (.goto 6, 3) := by decide +kernel
theorem k_330_12 : cd 330 12 = some (.astore_n 3, 1) := by decide +kernel
theorem k_330_13 : cd 330 13 = some (.iconst 1, 1) := by decide +kernel
theorem k_330_14 : cd 330 14 = some (.ireturn, 1) := by decide +kernel
theorem k_330_15 : cd 330 15 = some (.iconst 0, 1) := by decide +kernel
theorem k_330_16 : cd 330 16 = some (.ireturn, 1) := by decide +kernel
theorem po_330 : po 330 = 12 := rfl
theorem M_330  {x1 : Int32} {σ : pS} {ρ : Nat → Nat → Option Nat} (e : gR σ = ρ) (hL : LayR ρ) : Le
  (bIh (pcall 183 [.ref 0, .int x1] σ) (fun r1 σ1 => some (1, .int (ι 0), (sJ σ1 98 0 r1.toInt64))) (fun j σ1 => if j = 0 then some (2, .null, σ1) else if j = 1 then some (1, .int (ι 1), σ1) else none))
  (pcall 330 [.ref 0, .int x1, .ref 98] σ) := by
  show Le _ (den 330 0 0 [.ref 0, .int x1, .ref 98, .retAddr 0] [] σ)
  exact r_aload_n k_330_0 rfl rfl
    (r_iconst k_330_1 rfl rfl
    (r_aload_n k_330_2 rfl rfl
    (r_iload_n k_330_3 rfl rfl
    (r_callIH (q_virt (rest := [.int (ι 0), .ref 98]) (as := [.int x1]) k_330_4 po_330 rfl rfl rfl (rcvO rfl rfl rfl) rfl rfl) (lvq (j := 0) rfl (by decide +kernel)) rfl (fun r1 σ1 h1 => r_i2l k_330_7 rfl
    (r_last k_330_8 rfl rfl (by decide)
    (r_goto (tgt := 15) k_330_9 rfl (r_iconst k_330_15 rfl rfl
    (r_ret k_330_16 rfl rfl))))) (fun j _ σ1 h1 => g_two (g_thru (by decide +kernel)) (g_hnd_n (by decide +kernel) k_330_12 rfl rfl rfl (r_iconst k_330_13 rfl rfl
    (r_ret k_330_14 rfl rfl))))))))
/-! ===== 331 HedgeWantsLaw.give ===== -/
theorem k_331_0 : cd 331 0 = some (.aload_n 3, 1) := by decide +kernel
theorem k_331_1 : cd 331 1 = some (.iconst 0, 1) := by decide +kernel
theorem k_331_2 : cd 331 2 = some (.aload_n 0, 1) := by decide +kernel
theorem k_331_3 : cd 331 3 = some (.iload_n 1, 1) := by decide +kernel
theorem k_331_4 : cd 331 4 = some (.iload_n 2, 1) := by decide +kernel
theorem k_331_5 : cd 331 5 = some (.invokevirtual 40, 3) := by decide +kernel
theorem k_331_8 : cd 331 8 = some (.i2l, 1) := by decide +kernel
theorem k_331_9 : cd 331 9 = some (.lastore, 1) := by decide +kernel
theorem k_331_10 : cd 331 10 = some (.goto 7, 3) := by decide +kernel
theorem k_331_13 : cd 331 13 = some (.astore 4, 2) := by decide +kernel
theorem k_331_15 : cd 331 15 = some (.iconst 1, 1) := by decide +kernel
theorem k_331_16 : cd 331 16 = some (.ireturn, 1) := by decide +kernel
theorem k_331_17 : cd 331 17 = some (.iconst 0, 1) := by decide +kernel
theorem k_331_18 : cd 331 18 = some (.ireturn, 1) := by decide +kernel
theorem po_331 : po 331 = 12 := rfl
theorem M_331  {x1 : Int32} {x2 : Int32} {σ : pS} {ρ : Nat → Nat → Option Nat} (e : gR σ = ρ) (hL : LayR ρ) : Le
  (bIh (pcall 184 [.ref 0, .int x1, .int x2] σ) (fun r1 σ1 => some (1, .int (ι 0), (sJ σ1 98 0 r1.toInt64))) (fun j σ1 => if j = 0 then some (2, .null, σ1) else if j = 1 then some (1, .int (ι 1), σ1) else none))
  (pcall 331 [.ref 0, .int x1, .int x2, .ref 98] σ) := by
  show Le _ (den 331 0 0 [.ref 0, .int x1, .int x2, .ref 98, .retAddr 0] [] σ)
  exact r_aload_n k_331_0 rfl rfl
    (r_iconst k_331_1 rfl rfl
    (r_aload_n k_331_2 rfl rfl
    (r_iload_n k_331_3 rfl rfl
    (r_iload_n k_331_4 rfl rfl
    (r_callIH (q_virt (rest := [.int (ι 0), .ref 98]) (as := [.int x1, .int x2]) k_331_5 po_331 rfl rfl rfl (rcvO rfl rfl rfl) rfl rfl) (lvq (j := 0) rfl (by decide +kernel)) rfl (fun r1 σ1 h1 => r_i2l k_331_8 rfl
    (r_last k_331_9 rfl rfl (by decide)
    (r_goto (tgt := 17) k_331_10 rfl (r_iconst k_331_17 rfl rfl
    (r_ret k_331_18 rfl rfl))))) (fun j _ σ1 h1 => g_two (g_thru (by decide +kernel)) (g_hnd (by decide +kernel) k_331_13 rfl rfl rfl (r_iconst k_331_15 rfl rfl
    (r_ret k_331_16 rfl rfl)))))))))
/-! ===== 332 HedgeWantsLaw.taste ===== -/
theorem k_332_0 : cd 332 0 = some (.aload 4, 2) := by decide +kernel
theorem k_332_2 : cd 332 2 = some (.iconst 0, 1) := by decide +kernel
theorem k_332_3 : cd 332 3 = some (.aload_n 0, 1) := by decide +kernel
theorem k_332_4 : cd 332 4 = some (.iload_n 1, 1) := by decide +kernel
theorem k_332_5 : cd 332 5 = some (.iload_n 2, 1) := by decide +kernel
theorem k_332_6 : cd 332 6 = some (.iload_n 3, 1) := by decide +kernel
theorem k_332_7 : cd 332 7 = some (.invokevirtual 43, 3) := by decide +kernel
theorem k_332_10 : cd 332 10 = some (.i2l, 1) := by decide +kernel
theorem k_332_11 : cd 332 11 = some (.lastore, 1) := by decide +kernel
theorem k_332_12 : cd 332 12 = some (.goto 7, 3) := by decide +kernel
theorem k_332_15 : cd 332 15 = some (.astore 5, 2) := by decide +kernel
theorem k_332_17 : cd 332 17 = some (.iconst 1, 1) := by decide +kernel
theorem k_332_18 : cd 332 18 = some (.ireturn, 1) := by decide +kernel
theorem k_332_19 : cd 332 19 = some (.iconst 0, 1) := by decide +kernel
theorem k_332_20 : cd 332 20 = some (.ireturn, 1) := by decide +kernel
theorem po_332 : po 332 = 12 := rfl
theorem M_332  {x1 : Int32} {x2 : Int32} {x3 : Int32} {σ : pS} {ρ : Nat → Nat → Option Nat} (e : gR σ = ρ) (hL : LayR ρ) : Le
  (bIh (pcall 185 [.ref 0, .int x1, .int x2, .int x3] σ) (fun r1 σ1 => some (1, .int (ι 0), (sJ σ1 98 0 r1.toInt64))) (fun j σ1 => if j = 0 then some (2, .null, σ1) else if j = 1 then some (1, .int (ι 1), σ1) else none))
  (pcall 332 [.ref 0, .int x1, .int x2, .int x3, .ref 98] σ) := by
  show Le _ (den 332 0 0 [.ref 0, .int x1, .int x2, .int x3, .ref 98, .retAddr 0] [] σ)
  exact r_aload k_332_0 rfl rfl
    (r_iconst k_332_2 rfl rfl
    (r_aload_n k_332_3 rfl rfl
    (r_iload_n k_332_4 rfl rfl
    (r_iload_n k_332_5 rfl rfl
    (r_iload_n k_332_6 rfl rfl
    (r_callIH (q_virt (rest := [.int (ι 0), .ref 98]) (as := [.int x1, .int x2, .int x3]) k_332_7 po_332 rfl rfl rfl (rcvO rfl rfl rfl) rfl rfl) (lvq (j := 0) rfl (by decide +kernel)) rfl (fun r1 σ1 h1 => r_i2l k_332_10 rfl
    (r_last k_332_11 rfl rfl (by decide)
    (r_goto (tgt := 19) k_332_12 rfl (r_iconst k_332_19 rfl rfl
    (r_ret k_332_20 rfl rfl))))) (fun j _ σ1 h1 => g_two (g_thru (by decide +kernel)) (g_hnd (by decide +kernel) k_332_15 rfl rfl rfl (r_iconst k_332_17 rfl rfl
    (r_ret k_332_18 rfl rfl))))))))))
/-! ===== 333 HedgeWantsLaw.hedge ===== -/
theorem k_333_0 : cd 333 0 = some (.aload 4, 2) := by decide +kernel
theorem k_333_2 : cd 333 2 = some (.iconst 0, 1) := by decide +kernel
theorem k_333_3 : cd 333 3 = some (.aload_n 0, 1) := by decide +kernel
theorem k_333_4 : cd 333 4 = some (.iload_n 1, 1) := by decide +kernel
theorem k_333_5 : cd 333 5 = some (.iload_n 2, 1) := by decide +kernel
theorem k_333_6 : cd 333 6 = some (.iload_n 3, 1) := by decide +kernel
theorem k_333_7 : cd 333 7 = some (.invokevirtual 46, 3) := by decide +kernel
theorem k_333_10 : cd 333 10 = some (.ifCond .eq 7, 3) := by decide +kernel
theorem k_333_13 : cd 333 13 = some (.lconst 1, 1) := by decide +kernel
theorem k_333_14 : cd 333 14 = some (.goto 4, 3) := by decide +kernel
theorem k_333_17 : cd 333 17 = some (.lconst 0, 1) := by decide +kernel
theorem k_333_18 : cd 333 18 = some (.lastore, 1) := by decide +kernel
theorem k_333_19 : cd 333 19 = some (.goto 7, 3) := by decide +kernel
theorem k_333_22 : cd 333 22 = some (.astore 5, 2) := by decide +kernel
theorem k_333_24 : cd 333 24 = some (.iconst 1, 1) := by decide +kernel
theorem k_333_25 : cd 333 25 = some (.ireturn, 1) := by decide +kernel
theorem k_333_26 : cd 333 26 = some (.iconst 0, 1) := by decide +kernel
theorem k_333_27 : cd 333 27 = some (.ireturn, 1) := by decide +kernel
theorem po_333 : po 333 = 12 := rfl
theorem M_333  {x1 : Int32} {x2 : Int32} {x3 : Int32} {σ : pS} {ρ : Nat → Nat → Option Nat} (e : gR σ = ρ) (hL : LayR ρ) : Le
  (bIh (pcall 186 [.ref 0, .int x1, .int x2, .int x3] σ) (fun r1 σ1 => if r1 = (ι 0) then some (1, .int (ι 0), (sJ σ1 98 0 (0 : Int64))) else some (1, .int (ι 0), (sJ σ1 98 0 (1 : Int64)))) (fun j σ1 => if j = 0 then some (2, .null, σ1) else if j = 1 then some (1, .int (ι 1), σ1) else none))
  (pcall 333 [.ref 0, .int x1, .int x2, .int x3, .ref 98] σ) := by
  show Le _ (den 333 0 0 [.ref 0, .int x1, .int x2, .int x3, .ref 98, .retAddr 0] [] σ)
  exact r_aload k_333_0 rfl rfl
    (r_iconst k_333_2 rfl rfl
    (r_aload_n k_333_3 rfl rfl
    (r_iload_n k_333_4 rfl rfl
    (r_iload_n k_333_5 rfl rfl
    (r_iload_n k_333_6 rfl rfl
    (r_callIH (q_virt (rest := [.int (ι 0), .ref 98]) (as := [.int x1, .int x2, .int x3]) k_333_7 po_333 rfl rfl rfl (rcvO rfl rfl rfl) rfl rfl) (lvq (j := 0) rfl (by decide +kernel)) rfl (fun r1 σ1 h1 => r_if (tgt := 17) k_333_10 rfl rfl cop_eq
    (r_lconst k_333_17 rfl rfl
    (r_last k_333_18 rfl rfl (by decide)
    (r_goto (tgt := 26) k_333_19 rfl (r_iconst k_333_26 rfl rfl
    (r_ret k_333_27 rfl rfl)))))
    (r_lconst k_333_13 rfl rfl
    (r_goto (tgt := 18) k_333_14 rfl (r_last k_333_18 rfl rfl (by decide)
    (r_goto (tgt := 26) k_333_19 rfl (r_iconst k_333_26 rfl rfl
    (r_ret k_333_27 rfl rfl))))))) (fun j _ σ1 h1 => g_two (g_thru (by decide +kernel)) (g_hnd (by decide +kernel) k_333_22 rfl rfl rfl (r_iconst k_333_24 rfl rfl
    (r_ret k_333_25 rfl rfl))))))))))
/-! ===== 334 HedgeWantsLaw.then ===== -/
theorem k_334_0 : cd 334 0 = some (.aload 4, 2) := by decide +kernel
theorem k_334_2 : cd 334 2 = some (.iconst 0, 1) := by decide +kernel
theorem k_334_3 : cd 334 3 = some (.aload_n 0, 1) := by decide +kernel
theorem k_334_4 : cd 334 4 = some (.iload_n 1, 1) := by decide +kernel
theorem k_334_5 : cd 334 5 = some (.iload_n 2, 1) := by decide +kernel
theorem k_334_6 : cd 334 6 = some (.iload_n 3, 1) := by decide +kernel
theorem k_334_7 : cd 334 7 = some (.invokevirtual 50, 3) := by decide +kernel
theorem k_334_10 : cd 334 10 = some (.i2l, 1) := by decide +kernel
theorem k_334_11 : cd 334 11 = some (.lastore, 1) := by decide +kernel
theorem k_334_12 : cd 334 12 = some (.goto 11, 3) := by decide +kernel
theorem k_334_15 : cd 334 15 = some (.astore 5, 2) := by decide +kernel
theorem k_334_17 : cd 334 17 = some (.iconst 1, 1) := by decide +kernel
theorem k_334_18 : cd 334 18 = some (.ireturn, 1) := by decide +kernel
theorem k_334_19 : cd 334 19 = some (.astore 5, 2) := by decide +kernel
theorem k_334_21 : cd 334 21 = some (.iconst 2, 1) := by decide +kernel
theorem k_334_22 : cd 334 22 = some (.ireturn, 1) := by decide +kernel
theorem k_334_23 : cd 334 23 = some (.iconst 0, 1) := by decide +kernel
theorem k_334_24 : cd 334 24 = some (.ireturn, 1) := by decide +kernel
theorem po_334 : po 334 = 12 := rfl
theorem M_334  {x1 : Int32} {x2 : Int32} {x3 : Int32} {σ : pS} {ρ : Nat → Nat → Option Nat} (e : gR σ = ρ) (hL : LayR ρ) : Le
  (bIh (pcall 187 [.ref 0, .int x1, .int x2, .int x3] σ) (fun r1 σ1 => gd (LayR (gR σ1)) (some (1, .int (ι 0), (sJ σ1 98 0 r1.toInt64)))) (fun j σ1 => if j = 0 then gd (LayR (gR σ1)) (some (1, .int (ι 2), σ1)) else if j = 1 then gd (LayR (gR σ1)) (some (1, .int (ι 1), σ1)) else none))
  (pcall 334 [.ref 0, .int x1, .int x2, .int x3, .ref 98] σ) := by
  show Le _ (den 334 0 0 [.ref 0, .int x1, .int x2, .int x3, .ref 98, .retAddr 0] [] σ)
  exact r_aload k_334_0 rfl rfl
    (r_iconst k_334_2 rfl rfl
    (r_aload_n k_334_3 rfl rfl
    (r_iload_n k_334_4 rfl rfl
    (r_iload_n k_334_5 rfl rfl
    (r_iload_n k_334_6 rfl rfl
    (r_callIH (q_virt (rest := [.int (ι 0), .ref 98]) (as := [.int x1, .int x2, .int x3]) k_334_7 po_334 rfl rfl rfl (rcvO rfl rfl rfl) rfl rfl) (lvq (j := 0) rfl (by decide +kernel)) rfl (fun r1 σ1 h1 => r_gd fun L1 => r_i2l k_334_10 rfl
    (r_last k_334_11 rfl rfl (by decide)
    (r_goto (tgt := 23) k_334_12 rfl (r_iconst k_334_23 rfl rfl
    (r_ret k_334_24 rfl rfl))))) (fun j _ σ1 h1 => g_two (g_hnd (by decide +kernel) k_334_19 rfl rfl rfl (r_gd fun L1 => r_iconst k_334_21 rfl rfl
    (r_ret k_334_22 rfl rfl))) (g_hnd (by decide +kernel) k_334_15 rfl rfl rfl (r_gd fun L1 => r_iconst k_334_17 rfl rfl
    (r_ret k_334_18 rfl rfl))))))))))
/-! ===== 335 HedgeWantsLaw.has ===== -/
theorem k_335_0 : cd 335 0 = some (.aload 4, 2) := by decide +kernel
theorem k_335_2 : cd 335 2 = some (.iconst 0, 1) := by decide +kernel
theorem k_335_3 : cd 335 3 = some (.aload_n 0, 1) := by decide +kernel
theorem k_335_4 : cd 335 4 = some (.iload_n 1, 1) := by decide +kernel
theorem k_335_5 : cd 335 5 = some (.iload_n 2, 1) := by decide +kernel
theorem k_335_6 : cd 335 6 = some (.iload_n 3, 1) := by decide +kernel
theorem k_335_7 : cd 335 7 = some (.invokevirtual 53, 3) := by decide +kernel
theorem k_335_10 : cd 335 10 = some (.i2l, 1) := by decide +kernel
theorem k_335_11 : cd 335 11 = some (.lastore, 1) := by decide +kernel
theorem k_335_12 : cd 335 12 = some (.goto 11, 3) := by decide +kernel
theorem k_335_15 : cd 335 15 = some (.astore 5, 2) := by decide +kernel
theorem k_335_17 : cd 335 17 = some (.iconst 1, 1) := by decide +kernel
theorem k_335_18 : cd 335 18 = some (.ireturn, 1) := by decide +kernel
theorem k_335_19 : cd 335 19 = some (.astore 5, 2) := by decide +kernel
theorem k_335_21 : cd 335 21 = some (.iconst 2, 1) := by decide +kernel
theorem k_335_22 : cd 335 22 = some (.ireturn, 1) := by decide +kernel
theorem k_335_23 : cd 335 23 = some (.iconst 0, 1) := by decide +kernel
theorem k_335_24 : cd 335 24 = some (.ireturn, 1) := by decide +kernel
theorem po_335 : po 335 = 12 := rfl
theorem M_335  {x1 : Int32} {x2 : Int32} {x3 : Int32} {σ : pS} {ρ : Nat → Nat → Option Nat} (e : gR σ = ρ) (hL : LayR ρ) : Le
  (bIh (pcall 189 [.ref 0, .int x1, .int x2, .int x3] σ) (fun r1 σ1 => gd (LayR (gR σ1)) (some (1, .int (ι 0), (sJ σ1 98 0 r1.toInt64)))) (fun j σ1 => if j = 0 then gd (LayR (gR σ1)) (some (1, .int (ι 2), σ1)) else if j = 1 then gd (LayR (gR σ1)) (some (1, .int (ι 1), σ1)) else none))
  (pcall 335 [.ref 0, .int x1, .int x2, .int x3, .ref 98] σ) := by
  show Le _ (den 335 0 0 [.ref 0, .int x1, .int x2, .int x3, .ref 98, .retAddr 0] [] σ)
  exact r_aload k_335_0 rfl rfl
    (r_iconst k_335_2 rfl rfl
    (r_aload_n k_335_3 rfl rfl
    (r_iload_n k_335_4 rfl rfl
    (r_iload_n k_335_5 rfl rfl
    (r_iload_n k_335_6 rfl rfl
    (r_callIH (q_virt (rest := [.int (ι 0), .ref 98]) (as := [.int x1, .int x2, .int x3]) k_335_7 po_335 rfl rfl rfl (rcvO rfl rfl rfl) rfl rfl) (lvq (j := 0) rfl (by decide +kernel)) rfl (fun r1 σ1 h1 => r_gd fun L1 => r_i2l k_335_10 rfl
    (r_last k_335_11 rfl rfl (by decide)
    (r_goto (tgt := 23) k_335_12 rfl (r_iconst k_335_23 rfl rfl
    (r_ret k_335_24 rfl rfl))))) (fun j _ σ1 h1 => g_two (g_hnd (by decide +kernel) k_335_19 rfl rfl rfl (r_gd fun L1 => r_iconst k_335_21 rfl rfl
    (r_ret k_335_22 rfl rfl))) (g_hnd (by decide +kernel) k_335_15 rfl rfl rfl (r_gd fun L1 => r_iconst k_335_17 rfl rfl
    (r_ret k_335_18 rfl rfl))))))))))
/-! ===== 336 HedgeWantsLaw.kept ===== -/
theorem k_336_0 : cd 336 0 = some (.aload_n 2, 1) := by decide +kernel
theorem k_336_1 : cd 336 1 = some (.iconst 0, 1) := by decide +kernel
theorem k_336_2 : cd 336 2 = some (.aload_n 0, 1) := by decide +kernel
theorem k_336_3 : cd 336 3 = some (.iload_n 1, 1) := by decide +kernel
theorem k_336_4 : cd 336 4 = some (.invokevirtual 56, 3) := by decide +kernel
theorem k_336_7 : cd 336 7 = some (.i2l, 1) := by decide +kernel
theorem k_336_8 : cd 336 8 = some (.lastore, 1) := by decide +kernel
theorem k_336_9 : cd 336 9 = some (.goto 6, 3) := by decide +kernel
theorem k_336_12 : cd 336 12 = some (.astore_n 3, 1) := by decide +kernel
theorem k_336_13 : cd 336 13 = some (.iconst 1, 1) := by decide +kernel
theorem k_336_14 : cd 336 14 = some (.ireturn, 1) := by decide +kernel
theorem k_336_15 : cd 336 15 = some (.iconst 0, 1) := by decide +kernel
theorem k_336_16 : cd 336 16 = some (.ireturn, 1) := by decide +kernel
theorem po_336 : po 336 = 12 := rfl
theorem M_336  {x1 : Int32} {σ : pS} {ρ : Nat → Nat → Option Nat} (e : gR σ = ρ) (hL : LayR ρ) : Le
  (bIh (pcall 190 [.ref 0, .int x1] σ) (fun r1 σ1 => gd (LayR (gR σ1)) (some (1, .int (ι 0), (sJ σ1 98 0 r1.toInt64)))) (fun j σ1 => if j = 0 then some (2, .null, σ1) else if j = 1 then gd (LayR (gR σ1)) (some (1, .int (ι 1), σ1)) else none))
  (pcall 336 [.ref 0, .int x1, .ref 98] σ) := by
  show Le _ (den 336 0 0 [.ref 0, .int x1, .ref 98, .retAddr 0] [] σ)
  exact r_aload_n k_336_0 rfl rfl
    (r_iconst k_336_1 rfl rfl
    (r_aload_n k_336_2 rfl rfl
    (r_iload_n k_336_3 rfl rfl
    (r_callIH (q_virt (rest := [.int (ι 0), .ref 98]) (as := [.int x1]) k_336_4 po_336 rfl rfl rfl (rcvO rfl rfl rfl) rfl rfl) (lvq (j := 0) rfl (by decide +kernel)) rfl (fun r1 σ1 h1 => r_gd fun L1 => r_i2l k_336_7 rfl
    (r_last k_336_8 rfl rfl (by decide)
    (r_goto (tgt := 15) k_336_9 rfl (r_iconst k_336_15 rfl rfl
    (r_ret k_336_16 rfl rfl))))) (fun j _ σ1 h1 => g_two (g_thru (by decide +kernel)) (g_hnd_n (by decide +kernel) k_336_12 rfl rfl rfl (r_gd fun L1 => r_iconst k_336_13 rfl rfl
    (r_ret k_336_14 rfl rfl))))))))
/-! ===== 337 HedgeWantsLaw.held ===== -/
theorem k_337_0 : cd 337 0 = some (.aload 4, 2) := by decide +kernel
theorem k_337_2 : cd 337 2 = some (.iconst 0, 1) := by decide +kernel
theorem k_337_3 : cd 337 3 = some (.aload_n 0, 1) := by decide +kernel
theorem k_337_4 : cd 337 4 = some (.iload_n 1, 1) := by decide +kernel
theorem k_337_5 : cd 337 5 = some (.iload_n 2, 1) := by decide +kernel
theorem k_337_6 : cd 337 6 = some (.iload_n 3, 1) := by decide +kernel
theorem k_337_7 : cd 337 7 = some (.invokevirtual 59, 3) := by decide +kernel
theorem k_337_10 : cd 337 10 = some (.i2l, 1) := by decide +kernel
theorem k_337_11 : cd 337 11 = some (.lastore, 1) := by decide +kernel
theorem k_337_12 : cd 337 12 = some (.goto 11, 3) := by decide +kernel
theorem k_337_15 : cd 337 15 = some (.astore 5, 2) := by decide +kernel
theorem k_337_17 : cd 337 17 = some (.iconst 1, 1) := by decide +kernel
theorem k_337_18 : cd 337 18 = some (.ireturn, 1) := by decide +kernel
theorem k_337_19 : cd 337 19 = some (.astore 5, 2) := by decide +kernel
theorem k_337_21 : cd 337 21 = some (.iconst 2, 1) := by decide +kernel
theorem k_337_22 : cd 337 22 = some (.ireturn, 1) := by decide +kernel
theorem k_337_23 : cd 337 23 = some (.iconst 0, 1) := by decide +kernel
theorem k_337_24 : cd 337 24 = some (.ireturn, 1) := by decide +kernel
theorem po_337 : po 337 = 12 := rfl
theorem M_337  {x1 : Int32} {x2 : Int32} {x3 : Int32} {σ : pS} {ρ : Nat → Nat → Option Nat} (e : gR σ = ρ) (hL : LayR ρ) : Le
  (bIh (pcall 191 [.ref 0, .int x1, .int x2, .int x3] σ) (fun r1 σ1 => gd (LayR (gR σ1)) (some (1, .int (ι 0), (sJ σ1 98 0 r1.toInt64)))) (fun j σ1 => if j = 0 then gd (LayR (gR σ1)) (some (1, .int (ι 2), σ1)) else if j = 1 then gd (LayR (gR σ1)) (some (1, .int (ι 1), σ1)) else none))
  (pcall 337 [.ref 0, .int x1, .int x2, .int x3, .ref 98] σ) := by
  show Le _ (den 337 0 0 [.ref 0, .int x1, .int x2, .int x3, .ref 98, .retAddr 0] [] σ)
  exact r_aload k_337_0 rfl rfl
    (r_iconst k_337_2 rfl rfl
    (r_aload_n k_337_3 rfl rfl
    (r_iload_n k_337_4 rfl rfl
    (r_iload_n k_337_5 rfl rfl
    (r_iload_n k_337_6 rfl rfl
    (r_callIH (q_virt (rest := [.int (ι 0), .ref 98]) (as := [.int x1, .int x2, .int x3]) k_337_7 po_337 rfl rfl rfl (rcvO rfl rfl rfl) rfl rfl) (lvq (j := 0) rfl (by decide +kernel)) rfl (fun r1 σ1 h1 => r_gd fun L1 => r_i2l k_337_10 rfl
    (r_last k_337_11 rfl rfl (by decide)
    (r_goto (tgt := 23) k_337_12 rfl (r_iconst k_337_23 rfl rfl
    (r_ret k_337_24 rfl rfl))))) (fun j _ σ1 h1 => g_two (g_hnd (by decide +kernel) k_337_19 rfl rfl rfl (r_gd fun L1 => r_iconst k_337_21 rfl rfl
    (r_ret k_337_22 rfl rfl))) (g_hnd (by decide +kernel) k_337_15 rfl rfl rfl (r_gd fun L1 => r_iconst k_337_17 rfl rfl
    (r_ret k_337_18 rfl rfl))))))))))
/-! ===== 338 HedgeWantsLaw.taken ===== -/
theorem k_338_0 : cd 338 0 = some (.aload_n 3, 1) := by decide +kernel
theorem k_338_1 : cd 338 1 = some (.iconst 0, 1) := by decide +kernel
theorem k_338_2 : cd 338 2 = some (.aload_n 0, 1) := by decide +kernel
theorem k_338_3 : cd 338 3 = some (.iload_n 1, 1) := by decide +kernel
theorem k_338_4 : cd 338 4 = some (.iload_n 2, 1) := by decide +kernel
theorem k_338_5 : cd 338 5 = some (.invokevirtual 62, 3) := by decide +kernel
theorem k_338_8 : cd 338 8 = some (.i2l, 1) := by decide +kernel
theorem k_338_9 : cd 338 9 = some (.lastore, 1) := by decide +kernel
theorem k_338_10 : cd 338 10 = some (.goto 11, 3) := by decide +kernel
theorem k_338_13 : cd 338 13 = some (.astore 4, 2) := by decide +kernel
theorem k_338_15 : cd 338 15 = some (.iconst 1, 1) := by decide +kernel
theorem k_338_16 : cd 338 16 = some (.ireturn, 1) := by decide +kernel
theorem k_338_17 : cd 338 17 = some (.astore 4, 2) := by decide +kernel
theorem k_338_19 : cd 338 19 = some (.iconst 2, 1) := by decide +kernel
theorem k_338_20 : cd 338 20 = some (.ireturn, 1) := by decide +kernel
theorem k_338_21 : cd 338 21 = some (.iconst 0, 1) := by decide +kernel
theorem k_338_22 : cd 338 22 = some (.ireturn, 1) := by decide +kernel
theorem po_338 : po 338 = 12 := rfl
theorem M_338  {x1 : Int32} {x2 : Int32} {σ : pS} {ρ : Nat → Nat → Option Nat} (e : gR σ = ρ) (hL : LayR ρ) : Le
  (bIh (pcall 192 [.ref 0, .int x1, .int x2] σ) (fun r1 σ1 => gd (LayR (gR σ1)) (some (1, .int (ι 0), (sJ σ1 98 0 r1.toInt64)))) (fun j σ1 => if j = 0 then gd (LayR (gR σ1)) (some (1, .int (ι 2), σ1)) else if j = 1 then gd (LayR (gR σ1)) (some (1, .int (ι 1), σ1)) else none))
  (pcall 338 [.ref 0, .int x1, .int x2, .ref 98] σ) := by
  show Le _ (den 338 0 0 [.ref 0, .int x1, .int x2, .ref 98, .retAddr 0] [] σ)
  exact r_aload_n k_338_0 rfl rfl
    (r_iconst k_338_1 rfl rfl
    (r_aload_n k_338_2 rfl rfl
    (r_iload_n k_338_3 rfl rfl
    (r_iload_n k_338_4 rfl rfl
    (r_callIH (q_virt (rest := [.int (ι 0), .ref 98]) (as := [.int x1, .int x2]) k_338_5 po_338 rfl rfl rfl (rcvO rfl rfl rfl) rfl rfl) (lvq (j := 0) rfl (by decide +kernel)) rfl (fun r1 σ1 h1 => r_gd fun L1 => r_i2l k_338_8 rfl
    (r_last k_338_9 rfl rfl (by decide)
    (r_goto (tgt := 21) k_338_10 rfl (r_iconst k_338_21 rfl rfl
    (r_ret k_338_22 rfl rfl))))) (fun j _ σ1 h1 => g_two (g_hnd (by decide +kernel) k_338_17 rfl rfl rfl (r_gd fun L1 => r_iconst k_338_19 rfl rfl
    (r_ret k_338_20 rfl rfl))) (g_hnd (by decide +kernel) k_338_13 rfl rfl rfl (r_gd fun L1 => r_iconst k_338_15 rfl rfl
    (r_ret k_338_16 rfl rfl)))))))))
/-! ===== 339 HedgeWantsLaw.later ===== -/
theorem k_339_0 : cd 339 0 = some (.aload_n 3, 1) := by decide +kernel
theorem k_339_1 : cd 339 1 = some (.iconst 0, 1) := by decide +kernel
theorem k_339_2 : cd 339 2 = some (.aload_n 0, 1) := by decide +kernel
theorem k_339_3 : cd 339 3 = some (.iload_n 1, 1) := by decide +kernel
theorem k_339_4 : cd 339 4 = some (.iload_n 2, 1) := by decide +kernel
theorem k_339_5 : cd 339 5 = some (.invokevirtual 65, 3) := by decide +kernel
theorem k_339_8 : cd 339 8 = some (.i2l, 1) := by decide +kernel
theorem k_339_9 : cd 339 9 = some (.lastore, 1) := by decide +kernel
theorem k_339_10 : cd 339 10 = some (.goto 11, 3) := by decide +kernel
theorem k_339_13 : cd 339 13 = some (.astore 4, 2) := by decide +kernel
theorem k_339_15 : cd 339 15 = some (.iconst 1, 1) := by decide +kernel
theorem k_339_16 : cd 339 16 = some (.ireturn, 1) := by decide +kernel
theorem k_339_17 : cd 339 17 = some (.astore 4, 2) := by decide +kernel
theorem k_339_19 : cd 339 19 = some (.iconst 2, 1) := by decide +kernel
theorem k_339_20 : cd 339 20 = some (.ireturn, 1) := by decide +kernel
theorem k_339_21 : cd 339 21 = some (.iconst 0, 1) := by decide +kernel
theorem k_339_22 : cd 339 22 = some (.ireturn, 1) := by decide +kernel
theorem po_339 : po 339 = 12 := rfl
theorem M_339  {x1 : Int32} {x2 : Int32} {σ : pS} {ρ : Nat → Nat → Option Nat} (e : gR σ = ρ) (hL : LayR ρ) : Le
  (bIh (pcall 193 [.ref 0, .int x1, .int x2] σ) (fun r1 σ1 => gd (LayR (gR σ1)) (some (1, .int (ι 0), (sJ σ1 98 0 r1.toInt64)))) (fun j σ1 => if j = 0 then gd (LayR (gR σ1)) (some (1, .int (ι 2), σ1)) else if j = 1 then gd (LayR (gR σ1)) (some (1, .int (ι 1), σ1)) else none))
  (pcall 339 [.ref 0, .int x1, .int x2, .ref 98] σ) := by
  show Le _ (den 339 0 0 [.ref 0, .int x1, .int x2, .ref 98, .retAddr 0] [] σ)
  exact r_aload_n k_339_0 rfl rfl
    (r_iconst k_339_1 rfl rfl
    (r_aload_n k_339_2 rfl rfl
    (r_iload_n k_339_3 rfl rfl
    (r_iload_n k_339_4 rfl rfl
    (r_callIH (q_virt (rest := [.int (ι 0), .ref 98]) (as := [.int x1, .int x2]) k_339_5 po_339 rfl rfl rfl (rcvO rfl rfl rfl) rfl rfl) (lvq (j := 0) rfl (by decide +kernel)) rfl (fun r1 σ1 h1 => r_gd fun L1 => r_i2l k_339_8 rfl
    (r_last k_339_9 rfl rfl (by decide)
    (r_goto (tgt := 21) k_339_10 rfl (r_iconst k_339_21 rfl rfl
    (r_ret k_339_22 rfl rfl))))) (fun j _ σ1 h1 => g_two (g_hnd (by decide +kernel) k_339_17 rfl rfl rfl (r_gd fun L1 => r_iconst k_339_19 rfl rfl
    (r_ret k_339_20 rfl rfl))) (g_hnd (by decide +kernel) k_339_13 rfl rfl rfl (r_gd fun L1 => r_iconst k_339_15 rfl rfl
    (r_ret k_339_16 rfl rfl)))))))))
/-! ===== 340 HedgeWantsLaw.rests ===== -/
theorem k_340_0 : cd 340 0 = some (.aload_n 2, 1) := by decide +kernel
theorem k_340_1 : cd 340 1 = some (.iconst 0, 1) := by decide +kernel
theorem k_340_2 : cd 340 2 = some (.aload_n 0, 1) := by decide +kernel
theorem k_340_3 : cd 340 3 = some (.iload_n 1, 1) := by decide +kernel
theorem k_340_4 : cd 340 4 = some (.invokevirtual 68, 3) := by decide +kernel
theorem k_340_7 : cd 340 7 = some (.i2l, 1) := by decide +kernel
theorem k_340_8 : cd 340 8 = some (.lastore, 1) := by decide +kernel
theorem k_340_9 : cd 340 9 = some (.goto 6, 3) := by decide +kernel
theorem k_340_12 : cd 340 12 = some (.astore_n 3, 1) := by decide +kernel
theorem k_340_13 : cd 340 13 = some (.iconst 1, 1) := by decide +kernel
theorem k_340_14 : cd 340 14 = some (.ireturn, 1) := by decide +kernel
theorem k_340_15 : cd 340 15 = some (.iconst 0, 1) := by decide +kernel
theorem k_340_16 : cd 340 16 = some (.ireturn, 1) := by decide +kernel
theorem po_340 : po 340 = 12 := rfl
theorem M_340  {x1 : Int32} {σ : pS} {ρ : Nat → Nat → Option Nat} (e : gR σ = ρ) (hL : LayR ρ) : Le
  (bIh (pcall 194 [.ref 0, .int x1] σ) (fun r1 σ1 => gd (LayR (gR σ1)) (some (1, .int (ι 0), (sJ σ1 98 0 r1.toInt64)))) (fun j σ1 => if j = 0 then some (2, .null, σ1) else if j = 1 then gd (LayR (gR σ1)) (some (1, .int (ι 1), σ1)) else none))
  (pcall 340 [.ref 0, .int x1, .ref 98] σ) := by
  show Le _ (den 340 0 0 [.ref 0, .int x1, .ref 98, .retAddr 0] [] σ)
  exact r_aload_n k_340_0 rfl rfl
    (r_iconst k_340_1 rfl rfl
    (r_aload_n k_340_2 rfl rfl
    (r_iload_n k_340_3 rfl rfl
    (r_callIH (q_virt (rest := [.int (ι 0), .ref 98]) (as := [.int x1]) k_340_4 po_340 rfl rfl rfl (rcvO rfl rfl rfl) rfl rfl) (lvq (j := 0) rfl (by decide +kernel)) rfl (fun r1 σ1 h1 => r_gd fun L1 => r_i2l k_340_7 rfl
    (r_last k_340_8 rfl rfl (by decide)
    (r_goto (tgt := 15) k_340_9 rfl (r_iconst k_340_15 rfl rfl
    (r_ret k_340_16 rfl rfl))))) (fun j _ σ1 h1 => g_two (g_thru (by decide +kernel)) (g_hnd_n (by decide +kernel) k_340_12 rfl rfl rfl (r_gd fun L1 => r_iconst k_340_13 rfl rfl
    (r_ret k_340_14 rfl rfl))))))))
/-! ===== 341 HedgeWantsLaw.envies ===== -/
theorem k_341_0 : cd 341 0 = some (.aload_n 3, 1) := by decide +kernel
theorem k_341_1 : cd 341 1 = some (.iconst 0, 1) := by decide +kernel
theorem k_341_2 : cd 341 2 = some (.aload_n 0, 1) := by decide +kernel
theorem k_341_3 : cd 341 3 = some (.iload_n 1, 1) := by decide +kernel
theorem k_341_4 : cd 341 4 = some (.iload_n 2, 1) := by decide +kernel
theorem k_341_5 : cd 341 5 = some (.invokevirtual 71, 3) := by decide +kernel
theorem k_341_8 : cd 341 8 = some (.ifCond .eq 7, 3) := by decide +kernel
theorem k_341_11 : cd 341 11 = some (.lconst 1, 1) := by decide +kernel
theorem k_341_12 : cd 341 12 = some (.goto 4, 3) := by decide +kernel
theorem k_341_15 : cd 341 15 = some (.lconst 0, 1) := by decide +kernel
theorem k_341_16 : cd 341 16 = some (.lastore, 1) := by decide +kernel
theorem k_341_17 : cd 341 17 = some (.goto 7, 3) := by decide +kernel
theorem k_341_20 : cd 341 20 = some (.astore 4, 2) := by decide +kernel
theorem k_341_22 : cd 341 22 = some (.iconst 1, 1) := by decide +kernel
theorem k_341_23 : cd 341 23 = some (.ireturn, 1) := by decide +kernel
theorem k_341_24 : cd 341 24 = some (.iconst 0, 1) := by decide +kernel
theorem k_341_25 : cd 341 25 = some (.ireturn, 1) := by decide +kernel
theorem po_341 : po 341 = 12 := rfl
theorem M_341  {x1 : Int32} {x2 : Int32} {σ : pS} {ρ : Nat → Nat → Option Nat} (e : gR σ = ρ) (hL : LayR ρ) : Le
  (bIh (pcall 195 [.ref 0, .int x1, .int x2] σ) (fun r1 σ1 => if r1 = (ι 0) then some (1, .int (ι 0), (sJ σ1 98 0 (0 : Int64))) else some (1, .int (ι 0), (sJ σ1 98 0 (1 : Int64)))) (fun j σ1 => if j = 0 then some (2, .null, σ1) else if j = 1 then some (1, .int (ι 1), σ1) else none))
  (pcall 341 [.ref 0, .int x1, .int x2, .ref 98] σ) := by
  show Le _ (den 341 0 0 [.ref 0, .int x1, .int x2, .ref 98, .retAddr 0] [] σ)
  exact r_aload_n k_341_0 rfl rfl
    (r_iconst k_341_1 rfl rfl
    (r_aload_n k_341_2 rfl rfl
    (r_iload_n k_341_3 rfl rfl
    (r_iload_n k_341_4 rfl rfl
    (r_callIH (q_virt (rest := [.int (ι 0), .ref 98]) (as := [.int x1, .int x2]) k_341_5 po_341 rfl rfl rfl (rcvO rfl rfl rfl) rfl rfl) (lvq (j := 0) rfl (by decide +kernel)) rfl (fun r1 σ1 h1 => r_if (tgt := 15) k_341_8 rfl rfl cop_eq
    (r_lconst k_341_15 rfl rfl
    (r_last k_341_16 rfl rfl (by decide)
    (r_goto (tgt := 24) k_341_17 rfl (r_iconst k_341_24 rfl rfl
    (r_ret k_341_25 rfl rfl)))))
    (r_lconst k_341_11 rfl rfl
    (r_goto (tgt := 16) k_341_12 rfl (r_last k_341_16 rfl rfl (by decide)
    (r_goto (tgt := 24) k_341_17 rfl (r_iconst k_341_24 rfl rfl
    (r_ret k_341_25 rfl rfl))))))) (fun j _ σ1 h1 => g_two (g_thru (by decide +kernel)) (g_hnd (by decide +kernel) k_341_20 rfl rfl rfl (r_iconst k_341_22 rfl rfl
    (r_ret k_341_23 rfl rfl)))))))))
/-! ===== 342 HedgeWantsLaw.each ===== -/
theorem k_342_0 : cd 342 0 = some (.aload_n 2, 1) := by decide +kernel
theorem k_342_1 : cd 342 1 = some (.iconst 0, 1) := by decide +kernel
theorem k_342_2 : cd 342 2 = some (.aload_n 0, 1) := by decide +kernel
theorem k_342_3 : cd 342 3 = some (.iload_n 1, 1) := by decide +kernel
theorem k_342_4 : cd 342 4 = some (.invokevirtual 75, 3) := by decide +kernel
theorem k_342_7 : cd 342 7 = some (.i2l, 1) := by decide +kernel
theorem k_342_8 : cd 342 8 = some (.lastore, 1) := by decide +kernel
theorem k_342_9 : cd 342 9 = some (.goto 6, 3) := by decide +kernel
theorem k_342_12 : cd 342 12 = some (.astore_n 3, 1) := by decide +kernel
theorem k_342_13 : cd 342 13 = some (.iconst 1, 1) := by decide +kernel
theorem k_342_14 : cd 342 14 = some (.ireturn, 1) := by decide +kernel
theorem k_342_15 : cd 342 15 = some (.iconst 0, 1) := by decide +kernel
theorem k_342_16 : cd 342 16 = some (.ireturn, 1) := by decide +kernel
theorem po_342 : po 342 = 12 := rfl
theorem M_342  {x1 : Int32} {σ : pS} {ρ : Nat → Nat → Option Nat} (e : gR σ = ρ) (hL : LayR ρ) : Le
  (bIh (pcall 196 [.ref 0, .int x1] σ) (fun r1 σ1 => some (1, .int (ι 0), (sJ σ1 98 0 r1.toInt64))) (fun j σ1 => if j = 0 then some (2, .null, σ1) else if j = 1 then some (1, .int (ι 1), σ1) else none))
  (pcall 342 [.ref 0, .int x1, .ref 98] σ) := by
  show Le _ (den 342 0 0 [.ref 0, .int x1, .ref 98, .retAddr 0] [] σ)
  exact r_aload_n k_342_0 rfl rfl
    (r_iconst k_342_1 rfl rfl
    (r_aload_n k_342_2 rfl rfl
    (r_iload_n k_342_3 rfl rfl
    (r_callIH (q_virt (rest := [.int (ι 0), .ref 98]) (as := [.int x1]) k_342_4 po_342 rfl rfl rfl (rcvO rfl rfl rfl) rfl rfl) (lvq (j := 0) rfl (by decide +kernel)) rfl (fun r1 σ1 h1 => r_i2l k_342_7 rfl
    (r_last k_342_8 rfl rfl (by decide)
    (r_goto (tgt := 15) k_342_9 rfl (r_iconst k_342_15 rfl rfl
    (r_ret k_342_16 rfl rfl))))) (fun j _ σ1 h1 => g_two (g_thru (by decide +kernel)) (g_hnd_n (by decide +kernel) k_342_12 rfl rfl rfl (r_iconst k_342_13 rfl rfl
    (r_ret k_342_14 rfl rfl))))))))
/-! ===== 343 HedgeWantsLaw.far ===== -/
theorem k_343_0 : cd 343 0 = some (.aload_n 3, 1) := by decide +kernel
theorem k_343_1 : cd 343 1 = some (.iconst 0, 1) := by decide +kernel
theorem k_343_2 : cd 343 2 = some (.aload_n 0, 1) := by decide +kernel
theorem k_343_3 : cd 343 3 = some (.iload_n 1, 1) := by decide +kernel
theorem k_343_4 : cd 343 4 = some (.iload_n 2, 1) := by decide +kernel
theorem k_343_5 : cd 343 5 = some (.invokevirtual 78, 3) := by decide +kernel
theorem k_343_8 : cd 343 8 = some (.i2l, 1) := by decide +kernel
theorem k_343_9 : cd 343 9 = some (.lastore, 1) := by decide +kernel
theorem k_343_10 : cd 343 10 = some (.goto 7, 3) := by decide +kernel
theorem k_343_13 : cd 343 13 = some (.astore 4, 2) := by decide +kernel
theorem k_343_15 : cd 343 15 = some (.iconst 1, 1) := by decide +kernel
theorem k_343_16 : cd 343 16 = some (.ireturn, 1) := by decide +kernel
theorem k_343_17 : cd 343 17 = some (.iconst 0, 1) := by decide +kernel
theorem k_343_18 : cd 343 18 = some (.ireturn, 1) := by decide +kernel
theorem po_343 : po 343 = 12 := rfl
theorem M_343  {x1 : Int32} {x2 : Int32} {σ : pS} {ρ : Nat → Nat → Option Nat} (e : gR σ = ρ) (hL : LayR ρ) : Le
  (bIh (pcall 197 [.ref 0, .int x1, .int x2] σ) (fun r1 σ1 => some (1, .int (ι 0), (sJ σ1 98 0 r1.toInt64))) (fun j σ1 => if j = 0 then some (2, .null, σ1) else if j = 1 then some (1, .int (ι 1), σ1) else none))
  (pcall 343 [.ref 0, .int x1, .int x2, .ref 98] σ) := by
  show Le _ (den 343 0 0 [.ref 0, .int x1, .int x2, .ref 98, .retAddr 0] [] σ)
  exact r_aload_n k_343_0 rfl rfl
    (r_iconst k_343_1 rfl rfl
    (r_aload_n k_343_2 rfl rfl
    (r_iload_n k_343_3 rfl rfl
    (r_iload_n k_343_4 rfl rfl
    (r_callIH (q_virt (rest := [.int (ι 0), .ref 98]) (as := [.int x1, .int x2]) k_343_5 po_343 rfl rfl rfl (rcvO rfl rfl rfl) rfl rfl) (lvq (j := 0) rfl (by decide +kernel)) rfl (fun r1 σ1 h1 => r_i2l k_343_8 rfl
    (r_last k_343_9 rfl rfl (by decide)
    (r_goto (tgt := 17) k_343_10 rfl (r_iconst k_343_17 rfl rfl
    (r_ret k_343_18 rfl rfl))))) (fun j _ σ1 h1 => g_two (g_thru (by decide +kernel)) (g_hnd (by decide +kernel) k_343_13 rfl rfl rfl (r_iconst k_343_15 rfl rfl
    (r_ret k_343_16 rfl rfl)))))))))
/-! ===== 344 HedgeWantsLaw.away ===== -/
theorem k_344_0 : cd 344 0 = some (.aload_n 3, 1) := by decide +kernel
theorem k_344_1 : cd 344 1 = some (.iconst 0, 1) := by decide +kernel
theorem k_344_2 : cd 344 2 = some (.aload_n 0, 1) := by decide +kernel
theorem k_344_3 : cd 344 3 = some (.iload_n 1, 1) := by decide +kernel
theorem k_344_4 : cd 344 4 = some (.iload_n 2, 1) := by decide +kernel
theorem k_344_5 : cd 344 5 = some (.invokevirtual 81, 3) := by decide +kernel
theorem k_344_8 : cd 344 8 = some (.i2l, 1) := by decide +kernel
theorem k_344_9 : cd 344 9 = some (.lastore, 1) := by decide +kernel
theorem k_344_10 : cd 344 10 = some (.goto 7, 3) := by decide +kernel
theorem k_344_13 : cd 344 13 = some (.astore 4, 2) := by decide +kernel
theorem k_344_15 : cd 344 15 = some (.iconst 1, 1) := by decide +kernel
theorem k_344_16 : cd 344 16 = some (.ireturn, 1) := by decide +kernel
theorem k_344_17 : cd 344 17 = some (.iconst 0, 1) := by decide +kernel
theorem k_344_18 : cd 344 18 = some (.ireturn, 1) := by decide +kernel
theorem po_344 : po 344 = 12 := rfl
theorem M_344  {x1 : Int32} {x2 : Int32} {σ : pS} {ρ : Nat → Nat → Option Nat} (e : gR σ = ρ) (hL : LayR ρ) : Le
  (bIh (pcall 198 [.ref 0, .int x1, .int x2] σ) (fun r1 σ1 => some (1, .int (ι 0), (sJ σ1 98 0 r1.toInt64))) (fun j σ1 => if j = 0 then some (2, .null, σ1) else if j = 1 then some (1, .int (ι 1), σ1) else none))
  (pcall 344 [.ref 0, .int x1, .int x2, .ref 98] σ) := by
  show Le _ (den 344 0 0 [.ref 0, .int x1, .int x2, .ref 98, .retAddr 0] [] σ)
  exact r_aload_n k_344_0 rfl rfl
    (r_iconst k_344_1 rfl rfl
    (r_aload_n k_344_2 rfl rfl
    (r_iload_n k_344_3 rfl rfl
    (r_iload_n k_344_4 rfl rfl
    (r_callIH (q_virt (rest := [.int (ι 0), .ref 98]) (as := [.int x1, .int x2]) k_344_5 po_344 rfl rfl rfl (rcvO rfl rfl rfl) rfl rfl) (lvq (j := 0) rfl (by decide +kernel)) rfl (fun r1 σ1 h1 => r_i2l k_344_8 rfl
    (r_last k_344_9 rfl rfl (by decide)
    (r_goto (tgt := 17) k_344_10 rfl (r_iconst k_344_17 rfl rfl
    (r_ret k_344_18 rfl rfl))))) (fun j _ σ1 h1 => g_two (g_thru (by decide +kernel)) (g_hnd (by decide +kernel) k_344_13 rfl rfl rfl (r_iconst k_344_15 rfl rfl
    (r_ret k_344_16 rfl rfl)))))))))
/-! ===== 345 HedgeWantsLaw.toAsk ===== -/
theorem k_345_0 : cd 345 0 = some (.aload_n 3, 1) := by decide +kernel
theorem k_345_1 : cd 345 1 = some (.iconst 0, 1) := by decide +kernel
theorem k_345_2 : cd 345 2 = some (.aload_n 0, 1) := by decide +kernel
theorem k_345_3 : cd 345 3 = some (.iload_n 1, 1) := by decide +kernel
theorem k_345_4 : cd 345 4 = some (.iload_n 2, 1) := by decide +kernel
theorem k_345_5 : cd 345 5 = some (.invokevirtual 84, 3) := by decide +kernel
theorem k_345_8 : cd 345 8 = some (.i2l, 1) := by decide +kernel
theorem k_345_9 : cd 345 9 = some (.lastore, 1) := by decide +kernel
theorem k_345_10 : cd 345 10 = some (.goto 11, 3) := by decide +kernel
theorem k_345_13 : cd 345 13 = some (.astore 4, 2) := by decide +kernel
theorem k_345_15 : cd 345 15 = some (.iconst 1, 1) := by decide +kernel
theorem k_345_16 : cd 345 16 = some (.ireturn, 1) := by decide +kernel
theorem k_345_17 : cd 345 17 = some (.astore 4, 2) := by decide +kernel
theorem k_345_19 : cd 345 19 = some (.iconst 2, 1) := by decide +kernel
theorem k_345_20 : cd 345 20 = some (.ireturn, 1) := by decide +kernel
theorem k_345_21 : cd 345 21 = some (.iconst 0, 1) := by decide +kernel
theorem k_345_22 : cd 345 22 = some (.ireturn, 1) := by decide +kernel
theorem po_345 : po 345 = 12 := rfl
theorem M_345  {x1 : Int32} {x2 : Int32} {σ : pS} {ρ : Nat → Nat → Option Nat} (e : gR σ = ρ) (hL : LayR ρ) : Le
  (bIh (pcall 199 [.ref 0, .int x1, .int x2] σ) (fun r1 σ1 => gd (LayR (gR σ1)) (some (1, .int (ι 0), (sJ σ1 98 0 r1.toInt64)))) (fun j σ1 => if j = 0 then gd (LayR (gR σ1)) (some (1, .int (ι 2), σ1)) else if j = 1 then gd (LayR (gR σ1)) (some (1, .int (ι 1), σ1)) else none))
  (pcall 345 [.ref 0, .int x1, .int x2, .ref 98] σ) := by
  show Le _ (den 345 0 0 [.ref 0, .int x1, .int x2, .ref 98, .retAddr 0] [] σ)
  exact r_aload_n k_345_0 rfl rfl
    (r_iconst k_345_1 rfl rfl
    (r_aload_n k_345_2 rfl rfl
    (r_iload_n k_345_3 rfl rfl
    (r_iload_n k_345_4 rfl rfl
    (r_callIH (q_virt (rest := [.int (ι 0), .ref 98]) (as := [.int x1, .int x2]) k_345_5 po_345 rfl rfl rfl (rcvO rfl rfl rfl) rfl rfl) (lvq (j := 0) rfl (by decide +kernel)) rfl (fun r1 σ1 h1 => r_gd fun L1 => r_i2l k_345_8 rfl
    (r_last k_345_9 rfl rfl (by decide)
    (r_goto (tgt := 21) k_345_10 rfl (r_iconst k_345_21 rfl rfl
    (r_ret k_345_22 rfl rfl))))) (fun j _ σ1 h1 => g_two (g_hnd (by decide +kernel) k_345_17 rfl rfl rfl (r_gd fun L1 => r_iconst k_345_19 rfl rfl
    (r_ret k_345_20 rfl rfl))) (g_hnd (by decide +kernel) k_345_13 rfl rfl rfl (r_gd fun L1 => r_iconst k_345_15 rfl rfl
    (r_ret k_345_16 rfl rfl)))))))))
/-! ===== 346 HedgeWantsLaw.toGive ===== -/
theorem k_346_0 : cd 346 0 = some (.aload_n 2, 1) := by decide +kernel
theorem k_346_1 : cd 346 1 = some (.iconst 0, 1) := by decide +kernel
theorem k_346_2 : cd 346 2 = some (.aload_n 0, 1) := by decide +kernel
theorem k_346_3 : cd 346 3 = some (.iload_n 1, 1) := by decide +kernel
theorem k_346_4 : cd 346 4 = some (.invokevirtual 87, 3) := by decide +kernel
theorem k_346_7 : cd 346 7 = some (.i2l, 1) := by decide +kernel
theorem k_346_8 : cd 346 8 = some (.lastore, 1) := by decide +kernel
theorem k_346_9 : cd 346 9 = some (.goto 6, 3) := by decide +kernel
theorem k_346_12 : cd 346 12 = some (.astore_n 3, 1) := by decide +kernel
theorem k_346_13 : cd 346 13 = some (.iconst 1, 1) := by decide +kernel
theorem k_346_14 : cd 346 14 = some (.ireturn, 1) := by decide +kernel
theorem k_346_15 : cd 346 15 = some (.iconst 0, 1) := by decide +kernel
theorem k_346_16 : cd 346 16 = some (.ireturn, 1) := by decide +kernel
theorem po_346 : po 346 = 12 := rfl
theorem M_346  {x1 : Int32} {σ : pS} {ρ : Nat → Nat → Option Nat} (e : gR σ = ρ) (hL : LayR ρ) : Le
  (bIh (pcall 200 [.ref 0, .int x1] σ) (fun r1 σ1 => gd (LayR (gR σ1)) (some (1, .int (ι 0), (sJ σ1 98 0 r1.toInt64)))) (fun j σ1 => if j = 0 then some (2, .null, σ1) else if j = 1 then gd (LayR (gR σ1)) (some (1, .int (ι 1), σ1)) else none))
  (pcall 346 [.ref 0, .int x1, .ref 98] σ) := by
  show Le _ (den 346 0 0 [.ref 0, .int x1, .ref 98, .retAddr 0] [] σ)
  exact r_aload_n k_346_0 rfl rfl
    (r_iconst k_346_1 rfl rfl
    (r_aload_n k_346_2 rfl rfl
    (r_iload_n k_346_3 rfl rfl
    (r_callIH (q_virt (rest := [.int (ι 0), .ref 98]) (as := [.int x1]) k_346_4 po_346 rfl rfl rfl (rcvO rfl rfl rfl) rfl rfl) (lvq (j := 0) rfl (by decide +kernel)) rfl (fun r1 σ1 h1 => r_gd fun L1 => r_i2l k_346_7 rfl
    (r_last k_346_8 rfl rfl (by decide)
    (r_goto (tgt := 15) k_346_9 rfl (r_iconst k_346_15 rfl rfl
    (r_ret k_346_16 rfl rfl))))) (fun j _ σ1 h1 => g_two (g_thru (by decide +kernel)) (g_hnd_n (by decide +kernel) k_346_12 rfl rfl rfl (r_gd fun L1 => r_iconst k_346_13 rfl rfl
    (r_ret k_346_14 rfl rfl))))))))
/-! ===== 347 HedgeWantsLaw.see ===== -/
theorem k_347_0 : cd 347 0 = some (.aload 4, 2) := by decide +kernel
theorem k_347_2 : cd 347 2 = some (.iconst 0, 1) := by decide +kernel
theorem k_347_3 : cd 347 3 = some (.aload_n 0, 1) := by decide +kernel
theorem k_347_4 : cd 347 4 = some (.iload_n 1, 1) := by decide +kernel
theorem k_347_5 : cd 347 5 = some (.iload_n 2, 1) := by decide +kernel
theorem k_347_6 : cd 347 6 = some (.iload_n 3, 1) := by decide +kernel
theorem k_347_7 : cd 347 7 = some (.invokevirtual 90, 3) := by decide +kernel
theorem k_347_10 : cd 347 10 = some (.i2l, 1) := by decide +kernel
theorem k_347_11 : cd 347 11 = some (.lastore, 1) := by decide +kernel
theorem k_347_12 : cd 347 12 = some (.goto 7, 3) := by decide +kernel
theorem k_347_15 : cd 347 15 = some (.astore 5, 2) := by decide +kernel
theorem k_347_17 : cd 347 17 = some (.iconst 1, 1) := by decide +kernel
theorem k_347_18 : cd 347 18 = some (.ireturn, 1) := by decide +kernel
theorem k_347_19 : cd 347 19 = some (.iconst 0, 1) := by decide +kernel
theorem k_347_20 : cd 347 20 = some (.ireturn, 1) := by decide +kernel
theorem po_347 : po 347 = 12 := rfl
theorem M_347  {x1 : Int32} {x2 : Int32} {x3 : Int32} {σ : pS} {ρ : Nat → Nat → Option Nat} (e : gR σ = ρ) (hL : LayR ρ) : Le
  (bIh (pcall 201 [.ref 0, .int x1, .int x2, .int x3] σ) (fun r1 σ1 => some (1, .int (ι 0), (sJ σ1 98 0 r1.toInt64))) (fun j σ1 => if j = 0 then some (2, .null, σ1) else if j = 1 then some (1, .int (ι 1), σ1) else none))
  (pcall 347 [.ref 0, .int x1, .int x2, .int x3, .ref 98] σ) := by
  show Le _ (den 347 0 0 [.ref 0, .int x1, .int x2, .int x3, .ref 98, .retAddr 0] [] σ)
  exact r_aload k_347_0 rfl rfl
    (r_iconst k_347_2 rfl rfl
    (r_aload_n k_347_3 rfl rfl
    (r_iload_n k_347_4 rfl rfl
    (r_iload_n k_347_5 rfl rfl
    (r_iload_n k_347_6 rfl rfl
    (r_callIH (q_virt (rest := [.int (ι 0), .ref 98]) (as := [.int x1, .int x2, .int x3]) k_347_7 po_347 rfl rfl rfl (rcvO rfl rfl rfl) rfl rfl) (lvq (j := 0) rfl (by decide +kernel)) rfl (fun r1 σ1 h1 => r_i2l k_347_10 rfl
    (r_last k_347_11 rfl rfl (by decide)
    (r_goto (tgt := 19) k_347_12 rfl (r_iconst k_347_19 rfl rfl
    (r_ret k_347_20 rfl rfl))))) (fun j _ σ1 h1 => g_two (g_thru (by decide +kernel)) (g_hnd (by decide +kernel) k_347_15 rfl rfl rfl (r_iconst k_347_17 rfl rfl
    (r_ret k_347_18 rfl rfl))))))))))
/-! ===== 348 HedgeWantsLaw.tastes ===== -/
theorem k_348_0 : cd 348 0 = some (.aload_n 2, 1) := by decide +kernel
theorem k_348_1 : cd 348 1 = some (.iconst 0, 1) := by decide +kernel
theorem k_348_2 : cd 348 2 = some (.aload_n 0, 1) := by decide +kernel
theorem k_348_3 : cd 348 3 = some (.iload_n 1, 1) := by decide +kernel
theorem k_348_4 : cd 348 4 = some (.invokevirtual 93, 3) := by decide +kernel
theorem k_348_7 : cd 348 7 = some (.i2l, 1) := by decide +kernel
theorem k_348_8 : cd 348 8 = some (.lastore, 1) := by decide +kernel
theorem k_348_9 : cd 348 9 = some (.goto 6, 3) := by decide +kernel
theorem k_348_12 : cd 348 12 = some (.astore_n 3, 1) := by decide +kernel
theorem k_348_13 : cd 348 13 = some (.iconst 1, 1) := by decide +kernel
theorem k_348_14 : cd 348 14 = some (.ireturn, 1) := by decide +kernel
theorem k_348_15 : cd 348 15 = some (.iconst 0, 1) := by decide +kernel
theorem k_348_16 : cd 348 16 = some (.ireturn, 1) := by decide +kernel
theorem po_348 : po 348 = 12 := rfl
theorem M_348  {x1 : Int32} {σ : pS} {ρ : Nat → Nat → Option Nat} (e : gR σ = ρ) (hL : LayR ρ) : Le
  (bIh (pcall 202 [.ref 0, .int x1] σ) (fun r1 σ1 => gd (LayR (gR σ1)) (some (1, .int (ι 0), (sJ σ1 98 0 r1.toInt64)))) (fun j σ1 => if j = 0 then some (2, .null, σ1) else if j = 1 then gd (LayR (gR σ1)) (some (1, .int (ι 1), σ1)) else none))
  (pcall 348 [.ref 0, .int x1, .ref 98] σ) := by
  show Le _ (den 348 0 0 [.ref 0, .int x1, .ref 98, .retAddr 0] [] σ)
  exact r_aload_n k_348_0 rfl rfl
    (r_iconst k_348_1 rfl rfl
    (r_aload_n k_348_2 rfl rfl
    (r_iload_n k_348_3 rfl rfl
    (r_callIH (q_virt (rest := [.int (ι 0), .ref 98]) (as := [.int x1]) k_348_4 po_348 rfl rfl rfl (rcvO rfl rfl rfl) rfl rfl) (lvq (j := 0) rfl (by decide +kernel)) rfl (fun r1 σ1 h1 => r_gd fun L1 => r_i2l k_348_7 rfl
    (r_last k_348_8 rfl rfl (by decide)
    (r_goto (tgt := 15) k_348_9 rfl (r_iconst k_348_15 rfl rfl
    (r_ret k_348_16 rfl rfl))))) (fun j _ σ1 h1 => g_two (g_thru (by decide +kernel)) (g_hnd_n (by decide +kernel) k_348_12 rfl rfl rfl (r_gd fun L1 => r_iconst k_348_13 rfl rfl
    (r_ret k_348_14 rfl rfl))))))))
/-! ===== 349 HedgeWantsLaw.next ===== -/
theorem k_349_0 : cd 349 0 = some (.aload_n 2, 1) := by decide +kernel
theorem k_349_1 : cd 349 1 = some (.iconst 0, 1) := by decide +kernel
theorem k_349_2 : cd 349 2 = some (.aload_n 0, 1) := by decide +kernel
theorem k_349_3 : cd 349 3 = some (.iload_n 1, 1) := by decide +kernel
theorem k_349_4 : cd 349 4 = some (.invokevirtual 96, 3) := by decide +kernel
theorem k_349_7 : cd 349 7 = some (.i2l, 1) := by decide +kernel
theorem k_349_8 : cd 349 8 = some (.lastore, 1) := by decide +kernel
theorem k_349_9 : cd 349 9 = some (.goto 6, 3) := by decide +kernel
theorem k_349_12 : cd 349 12 = some (.astore_n 3, 1) := by decide +kernel
theorem k_349_13 : cd 349 13 = some (.iconst 1, 1) := by decide +kernel
theorem k_349_14 : cd 349 14 = some (.ireturn, 1) := by decide +kernel
theorem k_349_15 : cd 349 15 = some (.iconst 0, 1) := by decide +kernel
theorem k_349_16 : cd 349 16 = some (.ireturn, 1) := by decide +kernel
theorem po_349 : po 349 = 12 := rfl
theorem M_349  {x1 : Int32} {σ : pS} {ρ : Nat → Nat → Option Nat} (e : gR σ = ρ) (hL : LayR ρ) : Le
  (bIh (pcall 203 [.ref 0, .int x1] σ) (fun r1 σ1 => gd (LayR (gR σ1)) (some (1, .int (ι 0), (sJ σ1 98 0 r1.toInt64)))) (fun j σ1 => if j = 0 then some (2, .null, σ1) else if j = 1 then gd (LayR (gR σ1)) (some (1, .int (ι 1), σ1)) else none))
  (pcall 349 [.ref 0, .int x1, .ref 98] σ) := by
  show Le _ (den 349 0 0 [.ref 0, .int x1, .ref 98, .retAddr 0] [] σ)
  exact r_aload_n k_349_0 rfl rfl
    (r_iconst k_349_1 rfl rfl
    (r_aload_n k_349_2 rfl rfl
    (r_iload_n k_349_3 rfl rfl
    (r_callIH (q_virt (rest := [.int (ι 0), .ref 98]) (as := [.int x1]) k_349_4 po_349 rfl rfl rfl (rcvO rfl rfl rfl) rfl rfl) (lvq (j := 0) rfl (by decide +kernel)) rfl (fun r1 σ1 h1 => r_gd fun L1 => r_i2l k_349_7 rfl
    (r_last k_349_8 rfl rfl (by decide)
    (r_goto (tgt := 15) k_349_9 rfl (r_iconst k_349_15 rfl rfl
    (r_ret k_349_16 rfl rfl))))) (fun j _ σ1 h1 => g_two (g_thru (by decide +kernel)) (g_hnd_n (by decide +kernel) k_349_12 rfl rfl rfl (r_gd fun L1 => r_iconst k_349_13 rfl rfl
    (r_ret k_349_14 rfl rfl))))))))
/-! ===== 350 HedgeWantsLaw.shy ===== -/
theorem k_350_0 : cd 350 0 = some (.aload 4, 2) := by decide +kernel
theorem k_350_2 : cd 350 2 = some (.iconst 0, 1) := by decide +kernel
theorem k_350_3 : cd 350 3 = some (.aload_n 0, 1) := by decide +kernel
theorem k_350_4 : cd 350 4 = some (.iload_n 1, 1) := by decide +kernel
theorem k_350_5 : cd 350 5 = some (.iload_n 2, 1) := by decide +kernel
theorem k_350_6 : cd 350 6 = some (.iload_n 3, 1) := by decide +kernel
theorem k_350_7 : cd 350 7 = some (.invokevirtual 99, 3) := by decide +kernel
theorem k_350_10 : cd 350 10 = some (.i2l, 1) := by decide +kernel
theorem k_350_11 : cd 350 11 = some (.lastore, 1) := by decide +kernel
theorem k_350_12 : cd 350 12 = some (.goto 11, 3) := by decide +kernel
theorem k_350_15 : cd 350 15 = some (.astore 5, 2) := by decide +kernel
theorem k_350_17 : cd 350 17 = some (.iconst 1, 1) := by decide +kernel
theorem k_350_18 : cd 350 18 = some (.ireturn, 1) := by decide +kernel
theorem k_350_19 : cd 350 19 = some (.astore 5, 2) := by decide +kernel
theorem k_350_21 : cd 350 21 = some (.iconst 2, 1) := by decide +kernel
theorem k_350_22 : cd 350 22 = some (.ireturn, 1) := by decide +kernel
theorem k_350_23 : cd 350 23 = some (.iconst 0, 1) := by decide +kernel
theorem k_350_24 : cd 350 24 = some (.ireturn, 1) := by decide +kernel
theorem po_350 : po 350 = 12 := rfl
theorem M_350  {x1 : Int32} {x2 : Int32} {x3 : Int32} {σ : pS} {ρ : Nat → Nat → Option Nat} (e : gR σ = ρ) (hL : LayR ρ) : Le
  (bIh (pcall 204 [.ref 0, .int x1, .int x2, .int x3] σ) (fun r1 σ1 => gd (LayR (gR σ1)) (some (1, .int (ι 0), (sJ σ1 98 0 r1.toInt64)))) (fun j σ1 => if j = 0 then gd (LayR (gR σ1)) (some (1, .int (ι 2), σ1)) else if j = 1 then gd (LayR (gR σ1)) (some (1, .int (ι 1), σ1)) else none))
  (pcall 350 [.ref 0, .int x1, .int x2, .int x3, .ref 98] σ) := by
  show Le _ (den 350 0 0 [.ref 0, .int x1, .int x2, .int x3, .ref 98, .retAddr 0] [] σ)
  exact r_aload k_350_0 rfl rfl
    (r_iconst k_350_2 rfl rfl
    (r_aload_n k_350_3 rfl rfl
    (r_iload_n k_350_4 rfl rfl
    (r_iload_n k_350_5 rfl rfl
    (r_iload_n k_350_6 rfl rfl
    (r_callIH (q_virt (rest := [.int (ι 0), .ref 98]) (as := [.int x1, .int x2, .int x3]) k_350_7 po_350 rfl rfl rfl (rcvO rfl rfl rfl) rfl rfl) (lvq (j := 0) rfl (by decide +kernel)) rfl (fun r1 σ1 h1 => r_gd fun L1 => r_i2l k_350_10 rfl
    (r_last k_350_11 rfl rfl (by decide)
    (r_goto (tgt := 23) k_350_12 rfl (r_iconst k_350_23 rfl rfl
    (r_ret k_350_24 rfl rfl))))) (fun j _ σ1 h1 => g_two (g_hnd (by decide +kernel) k_350_19 rfl rfl rfl (r_gd fun L1 => r_iconst k_350_21 rfl rfl
    (r_ret k_350_22 rfl rfl))) (g_hnd (by decide +kernel) k_350_15 rfl rfl rfl (r_gd fun L1 => r_iconst k_350_17 rfl rfl
    (r_ret k_350_18 rfl rfl))))))))))
/-! ===== 351 HedgeWantsLaw.game ===== -/
theorem k_351_0 : cd 351 0 = some (.aload 4, 2) := by decide +kernel
theorem k_351_2 : cd 351 2 = some (.iconst 0, 1) := by decide +kernel
theorem k_351_3 : cd 351 3 = some (.aload_n 0, 1) := by decide +kernel
theorem k_351_4 : cd 351 4 = some (.iload_n 1, 1) := by decide +kernel
theorem k_351_5 : cd 351 5 = some (.iload_n 2, 1) := by decide +kernel
theorem k_351_6 : cd 351 6 = some (.iload_n 3, 1) := by decide +kernel
theorem k_351_7 : cd 351 7 = some (.invokevirtual 102, 3) := by decide +kernel
theorem k_351_10 : cd 351 10 = some (.i2l, 1) := by decide +kernel
theorem k_351_11 : cd 351 11 = some (.lastore, 1) := by decide +kernel
theorem k_351_12 : cd 351 12 = some (.goto 11, 3) := by decide +kernel
theorem k_351_15 : cd 351 15 = some (.astore 5, 2) := by decide +kernel
theorem k_351_17 : cd 351 17 = some (.iconst 1, 1) := by decide +kernel
theorem k_351_18 : cd 351 18 = some (.ireturn, 1) := by decide +kernel
theorem k_351_19 : cd 351 19 = some (.astore 5, 2) := by decide +kernel
theorem k_351_21 : cd 351 21 = some (.iconst 2, 1) := by decide +kernel
theorem k_351_22 : cd 351 22 = some (.ireturn, 1) := by decide +kernel
theorem k_351_23 : cd 351 23 = some (.iconst 0, 1) := by decide +kernel
theorem k_351_24 : cd 351 24 = some (.ireturn, 1) := by decide +kernel
theorem po_351 : po 351 = 12 := rfl
theorem M_351  {x1 : Int32} {x2 : Int32} {x3 : Int32} {σ : pS} {ρ : Nat → Nat → Option Nat} (e : gR σ = ρ) (hL : LayR ρ) : Le
  (bIh (pcall 205 [.ref 0, .int x1, .int x2, .int x3] σ) (fun r1 σ1 => gd (LayR (gR σ1)) (some (1, .int (ι 0), (sJ σ1 98 0 r1.toInt64)))) (fun j σ1 => if j = 0 then gd (LayR (gR σ1)) (some (1, .int (ι 2), σ1)) else if j = 1 then gd (LayR (gR σ1)) (some (1, .int (ι 1), σ1)) else none))
  (pcall 351 [.ref 0, .int x1, .int x2, .int x3, .ref 98] σ) := by
  show Le _ (den 351 0 0 [.ref 0, .int x1, .int x2, .int x3, .ref 98, .retAddr 0] [] σ)
  exact r_aload k_351_0 rfl rfl
    (r_iconst k_351_2 rfl rfl
    (r_aload_n k_351_3 rfl rfl
    (r_iload_n k_351_4 rfl rfl
    (r_iload_n k_351_5 rfl rfl
    (r_iload_n k_351_6 rfl rfl
    (r_callIH (q_virt (rest := [.int (ι 0), .ref 98]) (as := [.int x1, .int x2, .int x3]) k_351_7 po_351 rfl rfl rfl (rcvO rfl rfl rfl) rfl rfl) (lvq (j := 0) rfl (by decide +kernel)) rfl (fun r1 σ1 h1 => r_gd fun L1 => r_i2l k_351_10 rfl
    (r_last k_351_11 rfl rfl (by decide)
    (r_goto (tgt := 23) k_351_12 rfl (r_iconst k_351_23 rfl rfl
    (r_ret k_351_24 rfl rfl))))) (fun j _ σ1 h1 => g_two (g_hnd (by decide +kernel) k_351_19 rfl rfl rfl (r_gd fun L1 => r_iconst k_351_21 rfl rfl
    (r_ret k_351_22 rfl rfl))) (g_hnd (by decide +kernel) k_351_15 rfl rfl rfl (r_gd fun L1 => r_iconst k_351_17 rfl rfl
    (r_ret k_351_18 rfl rfl))))))))))
/-! ===== 352 HedgeWantsLaw.years ===== -/
theorem k_352_0 : cd 352 0 = some (.aload 4, 2) := by decide +kernel
theorem k_352_2 : cd 352 2 = some (.iconst 0, 1) := by decide +kernel
theorem k_352_3 : cd 352 3 = some (.aload_n 0, 1) := by decide +kernel
theorem k_352_4 : cd 352 4 = some (.iload_n 1, 1) := by decide +kernel
theorem k_352_5 : cd 352 5 = some (.iload_n 2, 1) := by decide +kernel
theorem k_352_6 : cd 352 6 = some (.iload_n 3, 1) := by decide +kernel
theorem k_352_7 : cd 352 7 = some (.invokevirtual 105, 3) := by decide +kernel
theorem k_352_10 : cd 352 10 = some (.i2l, 1) := by decide +kernel
theorem k_352_11 : cd 352 11 = some (.lastore, 1) := by decide +kernel
theorem k_352_12 : cd 352 12 = some (.goto 11, 3) := by decide +kernel
theorem k_352_15 : cd 352 15 = some (.astore 5, 2) := by decide +kernel
theorem k_352_17 : cd 352 17 = some (.iconst 1, 1) := by decide +kernel
theorem k_352_18 : cd 352 18 = some (.ireturn, 1) := by decide +kernel
theorem k_352_19 : cd 352 19 = some (.astore 5, 2) := by decide +kernel
theorem k_352_21 : cd 352 21 = some (.iconst 2, 1) := by decide +kernel
theorem k_352_22 : cd 352 22 = some (.ireturn, 1) := by decide +kernel
theorem k_352_23 : cd 352 23 = some (.iconst 0, 1) := by decide +kernel
theorem k_352_24 : cd 352 24 = some (.ireturn, 1) := by decide +kernel
theorem po_352 : po 352 = 12 := rfl
theorem M_352  {x1 : Int32} {x2 : Int32} {x3 : Int32} {σ : pS} {ρ : Nat → Nat → Option Nat} (e : gR σ = ρ) (hL : LayR ρ) : Le
  (bIh (pcall 206 [.ref 0, .int x1, .int x2, .int x3] σ) (fun r1 σ1 => gd (LayR (gR σ1)) (some (1, .int (ι 0), (sJ σ1 98 0 r1.toInt64)))) (fun j σ1 => if j = 0 then gd (LayR (gR σ1)) (some (1, .int (ι 2), σ1)) else if j = 1 then gd (LayR (gR σ1)) (some (1, .int (ι 1), σ1)) else none))
  (pcall 352 [.ref 0, .int x1, .int x2, .int x3, .ref 98] σ) := by
  show Le _ (den 352 0 0 [.ref 0, .int x1, .int x2, .int x3, .ref 98, .retAddr 0] [] σ)
  exact r_aload k_352_0 rfl rfl
    (r_iconst k_352_2 rfl rfl
    (r_aload_n k_352_3 rfl rfl
    (r_iload_n k_352_4 rfl rfl
    (r_iload_n k_352_5 rfl rfl
    (r_iload_n k_352_6 rfl rfl
    (r_callIH (q_virt (rest := [.int (ι 0), .ref 98]) (as := [.int x1, .int x2, .int x3]) k_352_7 po_352 rfl rfl rfl (rcvO rfl rfl rfl) rfl rfl) (lvq (j := 0) rfl (by decide +kernel)) rfl (fun r1 σ1 h1 => r_gd fun L1 => r_i2l k_352_10 rfl
    (r_last k_352_11 rfl rfl (by decide)
    (r_goto (tgt := 23) k_352_12 rfl (r_iconst k_352_23 rfl rfl
    (r_ret k_352_24 rfl rfl))))) (fun j _ σ1 h1 => g_two (g_hnd (by decide +kernel) k_352_19 rfl rfl rfl (r_gd fun L1 => r_iconst k_352_21 rfl rfl
    (r_ret k_352_22 rfl rfl))) (g_hnd (by decide +kernel) k_352_15 rfl rfl rfl (r_gd fun L1 => r_iconst k_352_17 rfl rfl
    (r_ret k_352_18 rfl rfl))))))))))
/-! ===== 353 HedgeWantsLaw.law ===== -/
theorem k_353_23 : cd 353 23 = some (.iload 4, 2) := by decide +kernel
theorem k_353_25 : cd 353 25 = some (.aload_n 0, 1) := by decide +kernel
theorem k_353_26 : cd 353 26 = some (.arraylength, 1) := by decide +kernel
theorem k_353_27 : cd 353 27 = some (.bipush 6, 2) := by decide +kernel
theorem k_353_29 : cd 353 29 = some (.isub, 1) := by decide +kernel
theorem k_353_30 : cd 353 30 = some (.if_icmp .gt 2409, 3) := by decide +kernel
theorem k_353_33 : cd 353 33 = some (.aload_n 0, 1) := by decide +kernel
theorem k_353_34 : cd 353 34 = some (.iload 4, 2) := by decide +kernel
theorem k_353_36 : cd 353 36 = some (.iaload, 1) := by decide +kernel
theorem k_353_37 : cd 353 37 = some (.bipush 63, 2) := by decide +kernel
theorem k_353_39 : cd 353 39 = some (.iand, 1) := by decide +kernel
theorem k_353_40 : cd 353 40 = some (.tableswitch 2393 0 36 #[164, 237, 293, 306, 362, 430, 498, 578, 603, 671, 727, 783, 851, 931, 1034, 1047, 1127, 1207, 1263, 1343, 1411, 1479, 1535, 1610, 1666, 1734, 1802, 1870, 1926, 2006, 2062, 2118, 2129, 2209, 2289, 2369, 2380], 164) := by decide +kernel
theorem k_353_204 : cd 353 204 = some (.aload_n 1, 1) := by decide +kernel
theorem k_353_205 : cd 353 205 = some (.aload_n 0, 1) := by decide +kernel
theorem k_353_206 : cd 353 206 = some (.iload 4, 2) := by decide +kernel
theorem k_353_208 : cd 353 208 = some (.iconst 1, 1) := by decide +kernel
theorem k_353_209 : cd 353 209 = some (.iadd, 1) := by decide +kernel
theorem k_353_210 : cd 353 210 = some (.iaload, 1) := by decide +kernel
theorem k_353_211 : cd 353 211 = some (.aload_n 0, 1) := by decide +kernel
theorem k_353_212 : cd 353 212 = some (.iload 4, 2) := by decide +kernel
theorem k_353_214 : cd 353 214 = some (.iconst 2, 1) := by decide +kernel
theorem k_353_215 : cd 353 215 = some (.iadd, 1) := by decide +kernel
theorem k_353_216 : cd 353 216 = some (.iaload, 1) := by decide +kernel
theorem k_353_217 : cd 353 217 = some (.aload_n 0, 1) := by decide +kernel
theorem k_353_218 : cd 353 218 = some (.iload 4, 2) := by decide +kernel
theorem k_353_220 : cd 353 220 = some (.iconst 3, 1) := by decide +kernel
theorem k_353_221 : cd 353 221 = some (.iadd, 1) := by decide +kernel
theorem k_353_222 : cd 353 222 = some (.iaload, 1) := by decide +kernel
theorem k_353_223 : cd 353 223 = some (.aload_n 0, 1) := by decide +kernel
theorem k_353_224 : cd 353 224 = some (.iload 4, 2) := by decide +kernel
theorem k_353_226 : cd 353 226 = some (.iconst 4, 1) := by decide +kernel
theorem k_353_227 : cd 353 227 = some (.iadd, 1) := by decide +kernel
theorem k_353_228 : cd 353 228 = some (.iaload, 1) := by decide +kernel
theorem k_353_229 : cd 353 229 = some (.aload_n 0, 1) := by decide +kernel
theorem k_353_230 : cd 353 230 = some (.iload 4, 2) := by decide +kernel
theorem k_353_232 : cd 353 232 = some (.iconst 5, 1) := by decide +kernel
theorem k_353_233 : cd 353 233 = some (.iadd, 1) := by decide +kernel
theorem k_353_234 : cd 353 234 = some (.iaload, 1) := by decide +kernel
theorem k_353_235 : cd 353 235 = some (.invokevirtual 112, 3) := by decide +kernel
theorem k_353_238 : cd 353 238 = some (.aload_n 2, 1) := by decide +kernel
theorem k_353_239 : cd 353 239 = some (.aload_n 0, 1) := by decide +kernel
theorem k_353_240 : cd 353 240 = some (.iload 4, 2) := by decide +kernel
theorem k_353_242 : cd 353 242 = some (.iconst 1, 1) := by decide +kernel
theorem k_353_243 : cd 353 243 = some (.iadd, 1) := by decide +kernel
theorem k_353_244 : cd 353 244 = some (.iaload, 1) := by decide +kernel
theorem k_353_245 : cd 353 245 = some (.aload_n 0, 1) := by decide +kernel
theorem k_353_246 : cd 353 246 = some (.iload 4, 2) := by decide +kernel
theorem k_353_248 : cd 353 248 = some (.iconst 2, 1) := by decide +kernel
theorem k_353_249 : cd 353 249 = some (.iadd, 1) := by decide +kernel
theorem k_353_250 : cd 353 250 = some (.iaload, 1) := by decide +kernel
theorem k_353_251 : cd 353 251 = some (.aload_n 0, 1) := by decide +kernel
theorem k_353_252 : cd 353 252 = some (.iload 4, 2) := by decide +kernel
theorem k_353_254 : cd 353 254 = some (.iconst 3, 1) := by decide +kernel
theorem k_353_255 : cd 353 255 = some (.iadd, 1) := by decide +kernel
theorem k_353_256 : cd 353 256 = some (.iaload, 1) := by decide +kernel
theorem k_353_257 : cd 353 257 = some (.aload_n 0, 1) := by decide +kernel
theorem k_353_258 : cd 353 258 = some (.iload 4, 2) := by decide +kernel
theorem k_353_260 : cd 353 260 = some (.iconst 4, 1) := by decide +kernel
theorem k_353_261 : cd 353 261 = some (.iadd, 1) := by decide +kernel
theorem k_353_262 : cd 353 262 = some (.iaload, 1) := by decide +kernel
theorem k_353_263 : cd 353 263 = some (.aload_n 0, 1) := by decide +kernel
theorem k_353_264 : cd 353 264 = some (.iload 4, 2) := by decide +kernel
theorem k_353_266 : cd 353 266 = some (.iconst 5, 1) := by decide +kernel
theorem k_353_267 : cd 353 267 = some (.iadd, 1) := by decide +kernel
theorem k_353_268 : cd 353 268 = some (.iaload, 1) := by decide +kernel
theorem k_353_269 : cd 353 269 = some (.invokevirtual 116, 3) := by decide +kernel
theorem k_353_272 : cd 353 272 = some (.if_icmp .eq 2161, 3) := by decide +kernel
theorem k_353_275 : cd 353 275 = some (.iconst 0, 1) := by decide +kernel
theorem k_353_276 : cd 353 276 = some (.ireturn, 1) := by decide +kernel
theorem k_353_277 : cd 353 277 = some (.aload_n 1, 1) := by decide +kernel
theorem k_353_278 : cd 353 278 = some (.aload_n 0, 1) := by decide +kernel
theorem k_353_279 : cd 353 279 = some (.iload 4, 2) := by decide +kernel
theorem k_353_281 : cd 353 281 = some (.iconst 1, 1) := by decide +kernel
theorem k_353_282 : cd 353 282 = some (.iadd, 1) := by decide +kernel
theorem k_353_283 : cd 353 283 = some (.iaload, 1) := by decide +kernel
theorem k_353_284 : cd 353 284 = some (.aload_n 3, 1) := by decide +kernel
theorem k_353_285 : cd 353 285 = some (.invokestatic 117, 3) := by decide +kernel
theorem k_353_288 : cd 353 288 = some (.istore 5, 2) := by decide +kernel
theorem k_353_290 : cd 353 290 = some (.aload_n 2, 1) := by decide +kernel
theorem k_353_291 : cd 353 291 = some (.aload_n 0, 1) := by decide +kernel
theorem k_353_292 : cd 353 292 = some (.iload 4, 2) := by decide +kernel
theorem k_353_294 : cd 353 294 = some (.iconst 1, 1) := by decide +kernel
theorem k_353_295 : cd 353 295 = some (.iadd, 1) := by decide +kernel
theorem k_353_296 : cd 353 296 = some (.iaload, 1) := by decide +kernel
theorem k_353_297 : cd 353 297 = some (.invokevirtual 122, 3) := by decide +kernel
theorem k_353_300 : cd 353 300 = some (.istore 6, 2) := by decide +kernel
theorem k_353_302 : cd 353 302 = some (.aload_n 2, 1) := by decide +kernel
theorem k_353_303 : cd 353 303 = some (.invokevirtual 123, 3) := by decide +kernel
theorem k_353_306 : cd 353 306 = some (.iload 5, 2) := by decide +kernel
theorem k_353_308 : cd 353 308 = some (.if_icmp .eq 5, 3) := by decide +kernel
theorem k_353_311 : cd 353 311 = some (.iconst 0, 1) := by decide +kernel
theorem k_353_312 : cd 353 312 = some (.ireturn, 1) := by decide +kernel
theorem k_353_313 : cd 353 313 = some (.iload 5, 2) := by decide +kernel
theorem k_353_315 : cd 353 315 = some (.ifCond .ne 15, 3) := by decide +kernel
theorem k_353_318 : cd 353 318 = some (.aload_n 3, 1) := by decide +kernel
theorem k_353_319 : cd 353 319 = some (.iconst 0, 1) := by decide +kernel
theorem k_353_320 : cd 353 320 = some (.laload, 1) := by decide +kernel
theorem k_353_321 : cd 353 321 = some (.iload 6, 2) := by decide +kernel
theorem k_353_323 : cd 353 323 = some (.i2l, 1) := by decide +kernel
theorem k_353_324 : cd 353 324 = some (.lcmp, 1) := by decide +kernel
theorem k_353_325 : cd 353 325 = some (.ifCond .eq 5, 3) := by decide +kernel
theorem k_353_328 : cd 353 328 = some (.iconst 0, 1) := by decide +kernel
theorem k_353_329 : cd 353 329 = some (.ireturn, 1) := by decide +kernel
theorem k_353_330 : cd 353 330 = some (.goto 2103, 3) := by decide +kernel
theorem k_353_333 : cd 353 333 = some (.aload_n 1, 1) := by decide +kernel
theorem k_353_334 : cd 353 334 = some (.invokevirtual 127, 3) := by decide +kernel
theorem k_353_337 : cd 353 337 = some (.aload_n 2, 1) := by decide +kernel
theorem k_353_338 : cd 353 338 = some (.invokevirtual 130, 3) := by decide +kernel
theorem k_353_341 : cd 353 341 = some (.if_icmp .eq 2092, 3) := by decide +kernel
theorem k_353_344 : cd 353 344 = some (.iconst 0, 1) := by decide +kernel
theorem k_353_345 : cd 353 345 = some (.ireturn, 1) := by decide +kernel
theorem k_353_346 : cd 353 346 = some (.aload_n 1, 1) := by decide +kernel
theorem k_353_347 : cd 353 347 = some (.aload_n 0, 1) := by decide +kernel
theorem k_353_348 : cd 353 348 = some (.iload 4, 2) := by decide +kernel
theorem k_353_350 : cd 353 350 = some (.iconst 1, 1) := by decide +kernel
theorem k_353_351 : cd 353 351 = some (.iadd, 1) := by decide +kernel
theorem k_353_352 : cd 353 352 = some (.iaload, 1) := by decide +kernel
theorem k_353_353 : cd 353 353 = some (.aload_n 3, 1) := by decide +kernel
theorem k_353_354 : cd 353 354 = some (.invokestatic 131, 3) := by decide +kernel
theorem k_353_357 : cd 353 357 = some (.istore 5, 2) := by decide +kernel
theorem k_353_359 : cd 353 359 = some (.aload_n 2, 1) := by decide +kernel
theorem k_353_360 : cd 353 360 = some (.aload_n 0, 1) := by decide +kernel
theorem k_353_361 : cd 353 361 = some (.iload 4, 2) := by decide +kernel
theorem k_353_363 : cd 353 363 = some (.iconst 1, 1) := by decide +kernel
theorem k_353_364 : cd 353 364 = some (.iadd, 1) := by decide +kernel
theorem k_353_365 : cd 353 365 = some (.iaload, 1) := by decide +kernel
theorem k_353_366 : cd 353 366 = some (.invokevirtual 133, 3) := by decide +kernel
theorem k_353_369 : cd 353 369 = some (.istore 6, 2) := by decide +kernel
theorem k_353_371 : cd 353 371 = some (.aload_n 2, 1) := by decide +kernel
theorem k_353_372 : cd 353 372 = some (.invokevirtual 123, 3) := by decide +kernel
theorem k_353_375 : cd 353 375 = some (.iload 5, 2) := by decide +kernel
theorem k_353_377 : cd 353 377 = some (.if_icmp .eq 5, 3) := by decide +kernel
theorem k_353_380 : cd 353 380 = some (.iconst 0, 1) := by decide +kernel
theorem k_353_381 : cd 353 381 = some (.ireturn, 1) := by decide +kernel
theorem k_353_382 : cd 353 382 = some (.iload 5, 2) := by decide +kernel
theorem k_353_384 : cd 353 384 = some (.ifCond .ne 15, 3) := by decide +kernel
theorem k_353_387 : cd 353 387 = some (.aload_n 3, 1) := by decide +kernel
theorem k_353_388 : cd 353 388 = some (.iconst 0, 1) := by decide +kernel
theorem k_353_389 : cd 353 389 = some (.laload, 1) := by decide +kernel
theorem k_353_390 : cd 353 390 = some (.iload 6, 2) := by decide +kernel
theorem k_353_392 : cd 353 392 = some (.i2l, 1) := by decide +kernel
theorem k_353_393 : cd 353 393 = some (.lcmp, 1) := by decide +kernel
theorem k_353_394 : cd 353 394 = some (.ifCond .eq 5, 3) := by decide +kernel
theorem k_353_397 : cd 353 397 = some (.iconst 0, 1) := by decide +kernel
theorem k_353_398 : cd 353 398 = some (.ireturn, 1) := by decide +kernel
theorem k_353_399 : cd 353 399 = some (.goto 2034, 3) := by decide +kernel
theorem k_353_402 : cd 353 402 = some (.aload_n 1, 1) := by decide +kernel
theorem k_353_403 : cd 353 403 = some (.aload_n 0, 1) := by decide +kernel
theorem k_353_404 : cd 353 404 = some (.iload 4, 2) := by decide +kernel
theorem k_353_406 : cd 353 406 = some (.iconst 1, 1) := by decide +kernel
theorem k_353_407 : cd 353 407 = some (.iadd, 1) := by decide +kernel
theorem k_353_408 : cd 353 408 = some (.iaload, 1) := by decide +kernel
theorem k_353_409 : cd 353 409 = some (.aload_n 0, 1) := by decide +kernel
theorem k_353_410 : cd 353 410 = some (.iload 4, 2) := by decide +kernel
theorem k_353_412 : cd 353 412 = some (.iconst 2, 1) := by decide +kernel
theorem k_353_413 : cd 353 413 = some (.iadd, 1) := by decide +kernel
theorem k_353_414 : cd 353 414 = some (.iaload, 1) := by decide +kernel
theorem k_353_415 : cd 353 415 = some (.aload_n 3, 1) := by decide +kernel
theorem k_353_416 : cd 353 416 = some (.invokestatic 134, 3) := by decide +kernel
theorem k_353_419 : cd 353 419 = some (.istore 5, 2) := by decide +kernel
theorem k_353_421 : cd 353 421 = some (.aload_n 2, 1) := by decide +kernel
theorem k_353_422 : cd 353 422 = some (.aload_n 0, 1) := by decide +kernel
theorem k_353_423 : cd 353 423 = some (.iload 4, 2) := by decide +kernel
theorem k_353_425 : cd 353 425 = some (.iconst 1, 1) := by decide +kernel
theorem k_353_426 : cd 353 426 = some (.iadd, 1) := by decide +kernel
theorem k_353_427 : cd 353 427 = some (.iaload, 1) := by decide +kernel
theorem k_353_428 : cd 353 428 = some (.aload_n 0, 1) := by decide +kernel
theorem k_353_429 : cd 353 429 = some (.iload 4, 2) := by decide +kernel
theorem k_353_431 : cd 353 431 = some (.iconst 2, 1) := by decide +kernel
theorem k_353_432 : cd 353 432 = some (.iadd, 1) := by decide +kernel
theorem k_353_433 : cd 353 433 = some (.iaload, 1) := by decide +kernel
theorem k_353_434 : cd 353 434 = some (.invokevirtual 137, 3) := by decide +kernel
theorem k_353_437 : cd 353 437 = some (.istore 6, 2) := by decide +kernel
theorem k_353_439 : cd 353 439 = some (.aload_n 2, 1) := by decide +kernel
theorem k_353_440 : cd 353 440 = some (.invokevirtual 123, 3) := by decide +kernel
theorem k_353_443 : cd 353 443 = some (.iload 5, 2) := by decide +kernel
theorem k_353_445 : cd 353 445 = some (.if_icmp .eq 5, 3) := by decide +kernel
theorem k_353_448 : cd 353 448 = some (.iconst 0, 1) := by decide +kernel
theorem k_353_449 : cd 353 449 = some (.ireturn, 1) := by decide +kernel
theorem k_353_450 : cd 353 450 = some (.iload 5, 2) := by decide +kernel
theorem k_353_452 : cd 353 452 = some (.ifCond .ne 15, 3) := by decide +kernel
theorem k_353_455 : cd 353 455 = some (.aload_n 3, 1) := by decide +kernel
theorem k_353_456 : cd 353 456 = some (.iconst 0, 1) := by decide +kernel
theorem k_353_457 : cd 353 457 = some (.laload, 1) := by decide +kernel
theorem k_353_458 : cd 353 458 = some (.iload 6, 2) := by decide +kernel
theorem k_353_460 : cd 353 460 = some (.i2l, 1) := by decide +kernel
theorem k_353_461 : cd 353 461 = some (.lcmp, 1) := by decide +kernel
theorem k_353_462 : cd 353 462 = some (.ifCond .eq 5, 3) := by decide +kernel
theorem k_353_465 : cd 353 465 = some (.iconst 0, 1) := by decide +kernel
theorem k_353_466 : cd 353 466 = some (.ireturn, 1) := by decide +kernel
theorem k_353_467 : cd 353 467 = some (.goto 1966, 3) := by decide +kernel
theorem k_353_470 : cd 353 470 = some (.aload_n 1, 1) := by decide +kernel
theorem k_353_471 : cd 353 471 = some (.aload_n 0, 1) := by decide +kernel
theorem k_353_472 : cd 353 472 = some (.iload 4, 2) := by decide +kernel
theorem k_353_474 : cd 353 474 = some (.iconst 1, 1) := by decide +kernel
theorem k_353_475 : cd 353 475 = some (.iadd, 1) := by decide +kernel
theorem k_353_476 : cd 353 476 = some (.iaload, 1) := by decide +kernel
theorem k_353_477 : cd 353 477 = some (.aload_n 0, 1) := by decide +kernel
theorem k_353_478 : cd 353 478 = some (.iload 4, 2) := by decide +kernel
theorem k_353_480 : cd 353 480 = some (.iconst 2, 1) := by decide +kernel
theorem k_353_481 : cd 353 481 = some (.iadd, 1) := by decide +kernel
theorem k_353_482 : cd 353 482 = some (.iaload, 1) := by decide +kernel
theorem k_353_483 : cd 353 483 = some (.aload_n 3, 1) := by decide +kernel
theorem k_353_484 : cd 353 484 = some (.invokestatic 138, 3) := by decide +kernel
theorem k_353_487 : cd 353 487 = some (.istore 5, 2) := by decide +kernel
theorem k_353_489 : cd 353 489 = some (.aload_n 2, 1) := by decide +kernel
theorem k_353_490 : cd 353 490 = some (.aload_n 0, 1) := by decide +kernel
theorem k_353_491 : cd 353 491 = some (.iload 4, 2) := by decide +kernel
theorem k_353_493 : cd 353 493 = some (.iconst 1, 1) := by decide +kernel
theorem k_353_494 : cd 353 494 = some (.iadd, 1) := by decide +kernel
theorem k_353_495 : cd 353 495 = some (.iaload, 1) := by decide +kernel
theorem k_353_496 : cd 353 496 = some (.aload_n 0, 1) := by decide +kernel
theorem k_353_497 : cd 353 497 = some (.iload 4, 2) := by decide +kernel
theorem k_353_499 : cd 353 499 = some (.iconst 2, 1) := by decide +kernel
theorem k_353_500 : cd 353 500 = some (.iadd, 1) := by decide +kernel
theorem k_353_501 : cd 353 501 = some (.iaload, 1) := by decide +kernel
theorem k_353_502 : cd 353 502 = some (.invokevirtual 140, 3) := by decide +kernel
theorem k_353_505 : cd 353 505 = some (.istore 6, 2) := by decide +kernel
theorem k_353_507 : cd 353 507 = some (.aload_n 2, 1) := by decide +kernel
theorem k_353_508 : cd 353 508 = some (.invokevirtual 123, 3) := by decide +kernel
theorem k_353_511 : cd 353 511 = some (.iload 5, 2) := by decide +kernel
theorem k_353_513 : cd 353 513 = some (.if_icmp .eq 5, 3) := by decide +kernel
theorem k_353_516 : cd 353 516 = some (.iconst 0, 1) := by decide +kernel
theorem k_353_517 : cd 353 517 = some (.ireturn, 1) := by decide +kernel
theorem k_353_518 : cd 353 518 = some (.iload 5, 2) := by decide +kernel
theorem k_353_520 : cd 353 520 = some (.ifCond .ne 15, 3) := by decide +kernel
theorem k_353_523 : cd 353 523 = some (.aload_n 3, 1) := by decide +kernel
theorem k_353_524 : cd 353 524 = some (.iconst 0, 1) := by decide +kernel
theorem k_353_525 : cd 353 525 = some (.laload, 1) := by decide +kernel
theorem k_353_526 : cd 353 526 = some (.iload 6, 2) := by decide +kernel
theorem k_353_528 : cd 353 528 = some (.i2l, 1) := by decide +kernel
theorem k_353_529 : cd 353 529 = some (.lcmp, 1) := by decide +kernel
theorem k_353_530 : cd 353 530 = some (.ifCond .eq 5, 3) := by decide +kernel
theorem k_353_533 : cd 353 533 = some (.iconst 0, 1) := by decide +kernel
theorem k_353_534 : cd 353 534 = some (.ireturn, 1) := by decide +kernel
theorem k_353_535 : cd 353 535 = some (.goto 1898, 3) := by decide +kernel
theorem k_353_538 : cd 353 538 = some (.aload_n 1, 1) := by decide +kernel
theorem k_353_539 : cd 353 539 = some (.aload_n 0, 1) := by decide +kernel
theorem k_353_540 : cd 353 540 = some (.iload 4, 2) := by decide +kernel
theorem k_353_542 : cd 353 542 = some (.iconst 1, 1) := by decide +kernel
theorem k_353_543 : cd 353 543 = some (.iadd, 1) := by decide +kernel
theorem k_353_544 : cd 353 544 = some (.iaload, 1) := by decide +kernel
theorem k_353_545 : cd 353 545 = some (.aload_n 0, 1) := by decide +kernel
theorem k_353_546 : cd 353 546 = some (.iload 4, 2) := by decide +kernel
theorem k_353_548 : cd 353 548 = some (.iconst 2, 1) := by decide +kernel
theorem k_353_549 : cd 353 549 = some (.iadd, 1) := by decide +kernel
theorem k_353_550 : cd 353 550 = some (.iaload, 1) := by decide +kernel
theorem k_353_551 : cd 353 551 = some (.aload_n 0, 1) := by decide +kernel
theorem k_353_552 : cd 353 552 = some (.iload 4, 2) := by decide +kernel
theorem k_353_554 : cd 353 554 = some (.iconst 3, 1) := by decide +kernel
theorem k_353_555 : cd 353 555 = some (.iadd, 1) := by decide +kernel
theorem k_353_556 : cd 353 556 = some (.iaload, 1) := by decide +kernel
theorem k_353_557 : cd 353 557 = some (.aload_n 3, 1) := by decide +kernel
theorem k_353_558 : cd 353 558 = some (.invokestatic 141, 3) := by decide +kernel
theorem k_353_561 : cd 353 561 = some (.istore 5, 2) := by decide +kernel
theorem k_353_563 : cd 353 563 = some (.aload_n 2, 1) := by decide +kernel
theorem k_353_564 : cd 353 564 = some (.aload_n 0, 1) := by decide +kernel
theorem k_353_565 : cd 353 565 = some (.iload 4, 2) := by decide +kernel
theorem k_353_567 : cd 353 567 = some (.iconst 1, 1) := by decide +kernel
theorem k_353_568 : cd 353 568 = some (.iadd, 1) := by decide +kernel
theorem k_353_569 : cd 353 569 = some (.iaload, 1) := by decide +kernel
theorem k_353_570 : cd 353 570 = some (.aload_n 0, 1) := by decide +kernel
theorem k_353_571 : cd 353 571 = some (.iload 4, 2) := by decide +kernel
theorem k_353_573 : cd 353 573 = some (.iconst 2, 1) := by decide +kernel
theorem k_353_574 : cd 353 574 = some (.iadd, 1) := by decide +kernel
theorem k_353_575 : cd 353 575 = some (.iaload, 1) := by decide +kernel
theorem k_353_576 : cd 353 576 = some (.aload_n 0, 1) := by decide +kernel
theorem k_353_577 : cd 353 577 = some (.iload 4, 2) := by decide +kernel
theorem k_353_579 : cd 353 579 = some (.iconst 3, 1) := by decide +kernel
theorem k_353_580 : cd 353 580 = some (.iadd, 1) := by decide +kernel
theorem k_353_581 : cd 353 581 = some (.iaload, 1) := by decide +kernel
theorem k_353_582 : cd 353 582 = some (.invokevirtual 144, 3) := by decide +kernel
theorem k_353_585 : cd 353 585 = some (.istore 6, 2) := by decide +kernel
theorem k_353_587 : cd 353 587 = some (.aload_n 2, 1) := by decide +kernel
theorem k_353_588 : cd 353 588 = some (.invokevirtual 123, 3) := by decide +kernel
theorem k_353_591 : cd 353 591 = some (.iload 5, 2) := by decide +kernel
theorem k_353_593 : cd 353 593 = some (.if_icmp .eq 5, 3) := by decide +kernel
theorem k_353_596 : cd 353 596 = some (.iconst 0, 1) := by decide +kernel
theorem k_353_597 : cd 353 597 = some (.ireturn, 1) := by decide +kernel
theorem k_353_598 : cd 353 598 = some (.iload 5, 2) := by decide +kernel
theorem k_353_600 : cd 353 600 = some (.ifCond .ne 15, 3) := by decide +kernel
theorem k_353_603 : cd 353 603 = some (.aload_n 3, 1) := by decide +kernel
theorem k_353_604 : cd 353 604 = some (.iconst 0, 1) := by decide +kernel
theorem k_353_605 : cd 353 605 = some (.laload, 1) := by decide +kernel
theorem k_353_606 : cd 353 606 = some (.iload 6, 2) := by decide +kernel
theorem k_353_608 : cd 353 608 = some (.i2l, 1) := by decide +kernel
theorem k_353_609 : cd 353 609 = some (.lcmp, 1) := by decide +kernel
theorem k_353_610 : cd 353 610 = some (.ifCond .eq 5, 3) := by decide +kernel
theorem k_353_613 : cd 353 613 = some (.iconst 0, 1) := by decide +kernel
theorem k_353_614 : cd 353 614 = some (.ireturn, 1) := by decide +kernel
theorem k_353_615 : cd 353 615 = some (.goto 1818, 3) := by decide +kernel
theorem k_353_618 : cd 353 618 = some (.aload_n 1, 1) := by decide +kernel
theorem k_353_619 : cd 353 619 = some (.aload_n 0, 1) := by decide +kernel
theorem k_353_620 : cd 353 620 = some (.iload 4, 2) := by decide +kernel
theorem k_353_622 : cd 353 622 = some (.iconst 1, 1) := by decide +kernel
theorem k_353_623 : cd 353 623 = some (.iadd, 1) := by decide +kernel
theorem k_353_624 : cd 353 624 = some (.iaload, 1) := by decide +kernel
theorem k_353_625 : cd 353 625 = some (.invokevirtual 145, 3) := by decide +kernel
theorem k_353_628 : cd 353 628 = some (.aload_n 2, 1) := by decide +kernel
theorem k_353_629 : cd 353 629 = some (.aload_n 0, 1) := by decide +kernel
theorem k_353_630 : cd 353 630 = some (.iload 4, 2) := by decide +kernel
theorem k_353_632 : cd 353 632 = some (.iconst 1, 1) := by decide +kernel
theorem k_353_633 : cd 353 633 = some (.iadd, 1) := by decide +kernel
theorem k_353_634 : cd 353 634 = some (.iaload, 1) := by decide +kernel
theorem k_353_635 : cd 353 635 = some (.invokevirtual 148, 3) := by decide +kernel
theorem k_353_638 : cd 353 638 = some (.if_icmp .eq 1795, 3) := by decide +kernel
theorem k_353_641 : cd 353 641 = some (.iconst 0, 1) := by decide +kernel
theorem k_353_642 : cd 353 642 = some (.ireturn, 1) := by decide +kernel
theorem k_353_643 : cd 353 643 = some (.aload_n 1, 1) := by decide +kernel
theorem k_353_644 : cd 353 644 = some (.aload_n 0, 1) := by decide +kernel
theorem k_353_645 : cd 353 645 = some (.iload 4, 2) := by decide +kernel
theorem k_353_647 : cd 353 647 = some (.iconst 1, 1) := by decide +kernel
theorem k_353_648 : cd 353 648 = some (.iadd, 1) := by decide +kernel
theorem k_353_649 : cd 353 649 = some (.iaload, 1) := by decide +kernel
theorem k_353_650 : cd 353 650 = some (.aload_n 0, 1) := by decide +kernel
theorem k_353_651 : cd 353 651 = some (.iload 4, 2) := by decide +kernel
theorem k_353_653 : cd 353 653 = some (.iconst 2, 1) := by decide +kernel
theorem k_353_654 : cd 353 654 = some (.iadd, 1) := by decide +kernel
theorem k_353_655 : cd 353 655 = some (.iaload, 1) := by decide +kernel
theorem k_353_656 : cd 353 656 = some (.aload_n 3, 1) := by decide +kernel
theorem k_353_657 : cd 353 657 = some (.invokestatic 149, 3) := by decide +kernel
theorem k_353_660 : cd 353 660 = some (.istore 5, 2) := by decide +kernel
theorem k_353_662 : cd 353 662 = some (.aload_n 2, 1) := by decide +kernel
theorem k_353_663 : cd 353 663 = some (.aload_n 0, 1) := by decide +kernel
theorem k_353_664 : cd 353 664 = some (.iload 4, 2) := by decide +kernel
theorem k_353_666 : cd 353 666 = some (.iconst 1, 1) := by decide +kernel
theorem k_353_667 : cd 353 667 = some (.iadd, 1) := by decide +kernel
theorem k_353_668 : cd 353 668 = some (.iaload, 1) := by decide +kernel
theorem k_353_669 : cd 353 669 = some (.aload_n 0, 1) := by decide +kernel
theorem k_353_670 : cd 353 670 = some (.iload 4, 2) := by decide +kernel
theorem k_353_672 : cd 353 672 = some (.iconst 2, 1) := by decide +kernel
theorem k_353_673 : cd 353 673 = some (.iadd, 1) := by decide +kernel
theorem k_353_674 : cd 353 674 = some (.iaload, 1) := by decide +kernel
theorem k_353_675 : cd 353 675 = some (.invokevirtual 151, 3) := by decide +kernel
theorem k_353_678 : cd 353 678 = some (.istore 6, 2) := by decide +kernel
theorem k_353_680 : cd 353 680 = some (.aload_n 2, 1) := by decide +kernel
theorem k_353_681 : cd 353 681 = some (.invokevirtual 123, 3) := by decide +kernel
theorem k_353_684 : cd 353 684 = some (.iload 5, 2) := by decide +kernel
theorem k_353_686 : cd 353 686 = some (.if_icmp .eq 5, 3) := by decide +kernel
theorem k_353_689 : cd 353 689 = some (.iconst 0, 1) := by decide +kernel
theorem k_353_690 : cd 353 690 = some (.ireturn, 1) := by decide +kernel
theorem k_353_691 : cd 353 691 = some (.iload 5, 2) := by decide +kernel
theorem k_353_693 : cd 353 693 = some (.ifCond .ne 15, 3) := by decide +kernel
theorem k_353_696 : cd 353 696 = some (.aload_n 3, 1) := by decide +kernel
theorem k_353_697 : cd 353 697 = some (.iconst 0, 1) := by decide +kernel
theorem k_353_698 : cd 353 698 = some (.laload, 1) := by decide +kernel
theorem k_353_699 : cd 353 699 = some (.iload 6, 2) := by decide +kernel
theorem k_353_701 : cd 353 701 = some (.i2l, 1) := by decide +kernel
theorem k_353_702 : cd 353 702 = some (.lcmp, 1) := by decide +kernel
theorem k_353_703 : cd 353 703 = some (.ifCond .eq 5, 3) := by decide +kernel
theorem k_353_706 : cd 353 706 = some (.iconst 0, 1) := by decide +kernel
theorem k_353_707 : cd 353 707 = some (.ireturn, 1) := by decide +kernel
theorem k_353_708 : cd 353 708 = some (.goto 1725, 3) := by decide +kernel
theorem k_353_711 : cd 353 711 = some (.aload_n 1, 1) := by decide +kernel
theorem k_353_712 : cd 353 712 = some (.aload_n 0, 1) := by decide +kernel
theorem k_353_713 : cd 353 713 = some (.iload 4, 2) := by decide +kernel
theorem k_353_715 : cd 353 715 = some (.iconst 1, 1) := by decide +kernel
theorem k_353_716 : cd 353 716 = some (.iadd, 1) := by decide +kernel
theorem k_353_717 : cd 353 717 = some (.iaload, 1) := by decide +kernel
theorem k_353_718 : cd 353 718 = some (.aload_n 3, 1) := by decide +kernel
theorem k_353_719 : cd 353 719 = some (.invokestatic 152, 3) := by decide +kernel
theorem k_353_722 : cd 353 722 = some (.istore 5, 2) := by decide +kernel
theorem k_353_724 : cd 353 724 = some (.aload_n 2, 1) := by decide +kernel
theorem k_353_725 : cd 353 725 = some (.aload_n 0, 1) := by decide +kernel
theorem k_353_726 : cd 353 726 = some (.iload 4, 2) := by decide +kernel
theorem k_353_728 : cd 353 728 = some (.iconst 1, 1) := by decide +kernel
theorem k_353_729 : cd 353 729 = some (.iadd, 1) := by decide +kernel
theorem k_353_730 : cd 353 730 = some (.iaload, 1) := by decide +kernel
theorem k_353_731 : cd 353 731 = some (.invokevirtual 154, 3) := by decide +kernel
theorem k_353_734 : cd 353 734 = some (.istore 6, 2) := by decide +kernel
theorem k_353_736 : cd 353 736 = some (.aload_n 2, 1) := by decide +kernel
theorem k_353_737 : cd 353 737 = some (.invokevirtual 123, 3) := by decide +kernel
theorem k_353_740 : cd 353 740 = some (.iload 5, 2) := by decide +kernel
theorem k_353_742 : cd 353 742 = some (.if_icmp .eq 5, 3) := by decide +kernel
theorem k_353_745 : cd 353 745 = some (.iconst 0, 1) := by decide +kernel
theorem k_353_746 : cd 353 746 = some (.ireturn, 1) := by decide +kernel
theorem k_353_747 : cd 353 747 = some (.iload 5, 2) := by decide +kernel
theorem k_353_749 : cd 353 749 = some (.ifCond .ne 15, 3) := by decide +kernel
theorem k_353_752 : cd 353 752 = some (.aload_n 3, 1) := by decide +kernel
theorem k_353_753 : cd 353 753 = some (.iconst 0, 1) := by decide +kernel
theorem k_353_754 : cd 353 754 = some (.laload, 1) := by decide +kernel
theorem k_353_755 : cd 353 755 = some (.iload 6, 2) := by decide +kernel
theorem k_353_757 : cd 353 757 = some (.i2l, 1) := by decide +kernel
theorem k_353_758 : cd 353 758 = some (.lcmp, 1) := by decide +kernel
theorem k_353_759 : cd 353 759 = some (.ifCond .eq 5, 3) := by decide +kernel
theorem k_353_762 : cd 353 762 = some (.iconst 0, 1) := by decide +kernel
theorem k_353_763 : cd 353 763 = some (.ireturn, 1) := by decide +kernel
theorem k_353_764 : cd 353 764 = some (.goto 1669, 3) := by decide +kernel
theorem k_353_767 : cd 353 767 = some (.aload_n 1, 1) := by decide +kernel
theorem k_353_768 : cd 353 768 = some (.aload_n 0, 1) := by decide +kernel
theorem k_353_769 : cd 353 769 = some (.iload 4, 2) := by decide +kernel
theorem k_353_771 : cd 353 771 = some (.iconst 1, 1) := by decide +kernel
theorem k_353_772 : cd 353 772 = some (.iadd, 1) := by decide +kernel
theorem k_353_773 : cd 353 773 = some (.iaload, 1) := by decide +kernel
theorem k_353_774 : cd 353 774 = some (.aload_n 3, 1) := by decide +kernel
theorem k_353_775 : cd 353 775 = some (.invokestatic 155, 3) := by decide +kernel
theorem k_353_778 : cd 353 778 = some (.istore 5, 2) := by decide +kernel
theorem k_353_780 : cd 353 780 = some (.aload_n 2, 1) := by decide +kernel
theorem k_353_781 : cd 353 781 = some (.aload_n 0, 1) := by decide +kernel
theorem k_353_782 : cd 353 782 = some (.iload 4, 2) := by decide +kernel
theorem k_353_784 : cd 353 784 = some (.iconst 1, 1) := by decide +kernel
theorem k_353_785 : cd 353 785 = some (.iadd, 1) := by decide +kernel
theorem k_353_786 : cd 353 786 = some (.iaload, 1) := by decide +kernel
theorem k_353_787 : cd 353 787 = some (.invokevirtual 157, 3) := by decide +kernel
theorem k_353_790 : cd 353 790 = some (.istore 6, 2) := by decide +kernel
theorem k_353_792 : cd 353 792 = some (.aload_n 2, 1) := by decide +kernel
theorem k_353_793 : cd 353 793 = some (.invokevirtual 123, 3) := by decide +kernel
theorem k_353_796 : cd 353 796 = some (.iload 5, 2) := by decide +kernel
theorem k_353_798 : cd 353 798 = some (.if_icmp .eq 5, 3) := by decide +kernel
theorem k_353_801 : cd 353 801 = some (.iconst 0, 1) := by decide +kernel
theorem k_353_802 : cd 353 802 = some (.ireturn, 1) := by decide +kernel
theorem k_353_803 : cd 353 803 = some (.iload 5, 2) := by decide +kernel
theorem k_353_805 : cd 353 805 = some (.ifCond .ne 15, 3) := by decide +kernel
theorem k_353_808 : cd 353 808 = some (.aload_n 3, 1) := by decide +kernel
theorem k_353_809 : cd 353 809 = some (.iconst 0, 1) := by decide +kernel
theorem k_353_810 : cd 353 810 = some (.laload, 1) := by decide +kernel
theorem k_353_811 : cd 353 811 = some (.iload 6, 2) := by decide +kernel
theorem k_353_813 : cd 353 813 = some (.i2l, 1) := by decide +kernel
theorem k_353_814 : cd 353 814 = some (.lcmp, 1) := by decide +kernel
theorem k_353_815 : cd 353 815 = some (.ifCond .eq 5, 3) := by decide +kernel
theorem k_353_818 : cd 353 818 = some (.iconst 0, 1) := by decide +kernel
theorem k_353_819 : cd 353 819 = some (.ireturn, 1) := by decide +kernel
theorem k_353_820 : cd 353 820 = some (.goto 1613, 3) := by decide +kernel
theorem k_353_823 : cd 353 823 = some (.aload_n 1, 1) := by decide +kernel
theorem k_353_824 : cd 353 824 = some (.aload_n 0, 1) := by decide +kernel
theorem k_353_825 : cd 353 825 = some (.iload 4, 2) := by decide +kernel
theorem k_353_827 : cd 353 827 = some (.iconst 1, 1) := by decide +kernel
theorem k_353_828 : cd 353 828 = some (.iadd, 1) := by decide +kernel
theorem k_353_829 : cd 353 829 = some (.iaload, 1) := by decide +kernel
theorem k_353_830 : cd 353 830 = some (.aload_n 0, 1) := by decide +kernel
theorem k_353_831 : cd 353 831 = some (.iload 4, 2) := by decide +kernel
theorem k_353_833 : cd 353 833 = some (.iconst 2, 1) := by decide +kernel
theorem k_353_834 : cd 353 834 = some (.iadd, 1) := by decide +kernel
theorem k_353_835 : cd 353 835 = some (.iaload, 1) := by decide +kernel
theorem k_353_836 : cd 353 836 = some (.aload_n 3, 1) := by decide +kernel
theorem k_353_837 : cd 353 837 = some (.invokestatic 158, 3) := by decide +kernel
theorem k_353_840 : cd 353 840 = some (.istore 5, 2) := by decide +kernel
theorem k_353_842 : cd 353 842 = some (.aload_n 2, 1) := by decide +kernel
theorem k_353_843 : cd 353 843 = some (.aload_n 0, 1) := by decide +kernel
theorem k_353_844 : cd 353 844 = some (.iload 4, 2) := by decide +kernel
theorem k_353_846 : cd 353 846 = some (.iconst 1, 1) := by decide +kernel
theorem k_353_847 : cd 353 847 = some (.iadd, 1) := by decide +kernel
theorem k_353_848 : cd 353 848 = some (.iaload, 1) := by decide +kernel
theorem k_353_849 : cd 353 849 = some (.aload_n 0, 1) := by decide +kernel
theorem k_353_850 : cd 353 850 = some (.iload 4, 2) := by decide +kernel
theorem k_353_852 : cd 353 852 = some (.iconst 2, 1) := by decide +kernel
theorem k_353_853 : cd 353 853 = some (.iadd, 1) := by decide +kernel
theorem k_353_854 : cd 353 854 = some (.iaload, 1) := by decide +kernel
theorem k_353_855 : cd 353 855 = some (.invokevirtual 160, 3) := by decide +kernel
theorem k_353_858 : cd 353 858 = some (.istore 6, 2) := by decide +kernel
theorem k_353_860 : cd 353 860 = some (.aload_n 2, 1) := by decide +kernel
theorem k_353_861 : cd 353 861 = some (.invokevirtual 123, 3) := by decide +kernel
theorem k_353_864 : cd 353 864 = some (.iload 5, 2) := by decide +kernel
theorem k_353_866 : cd 353 866 = some (.if_icmp .eq 5, 3) := by decide +kernel
theorem k_353_869 : cd 353 869 = some (.iconst 0, 1) := by decide +kernel
theorem k_353_870 : cd 353 870 = some (.ireturn, 1) := by decide +kernel
theorem k_353_871 : cd 353 871 = some (.iload 5, 2) := by decide +kernel
theorem k_353_873 : cd 353 873 = some (.ifCond .ne 15, 3) := by decide +kernel
theorem k_353_876 : cd 353 876 = some (.aload_n 3, 1) := by decide +kernel
theorem k_353_877 : cd 353 877 = some (.iconst 0, 1) := by decide +kernel
theorem k_353_878 : cd 353 878 = some (.laload, 1) := by decide +kernel
theorem k_353_879 : cd 353 879 = some (.iload 6, 2) := by decide +kernel
theorem k_353_881 : cd 353 881 = some (.i2l, 1) := by decide +kernel
theorem k_353_882 : cd 353 882 = some (.lcmp, 1) := by decide +kernel
theorem k_353_883 : cd 353 883 = some (.ifCond .eq 5, 3) := by decide +kernel
theorem k_353_886 : cd 353 886 = some (.iconst 0, 1) := by decide +kernel
theorem k_353_887 : cd 353 887 = some (.ireturn, 1) := by decide +kernel
theorem k_353_888 : cd 353 888 = some (.goto 1545, 3) := by decide +kernel
theorem k_353_891 : cd 353 891 = some (.aload_n 1, 1) := by decide +kernel
theorem k_353_892 : cd 353 892 = some (.aload_n 0, 1) := by decide +kernel
theorem k_353_893 : cd 353 893 = some (.iload 4, 2) := by decide +kernel
theorem k_353_895 : cd 353 895 = some (.iconst 1, 1) := by decide +kernel
theorem k_353_896 : cd 353 896 = some (.iadd, 1) := by decide +kernel
theorem k_353_897 : cd 353 897 = some (.iaload, 1) := by decide +kernel
theorem k_353_898 : cd 353 898 = some (.aload_n 0, 1) := by decide +kernel
theorem k_353_899 : cd 353 899 = some (.iload 4, 2) := by decide +kernel
theorem k_353_901 : cd 353 901 = some (.iconst 2, 1) := by decide +kernel
theorem k_353_902 : cd 353 902 = some (.iadd, 1) := by decide +kernel
theorem k_353_903 : cd 353 903 = some (.iaload, 1) := by decide +kernel
theorem k_353_904 : cd 353 904 = some (.aload_n 0, 1) := by decide +kernel
theorem k_353_905 : cd 353 905 = some (.iload 4, 2) := by decide +kernel
theorem k_353_907 : cd 353 907 = some (.iconst 3, 1) := by decide +kernel
theorem k_353_908 : cd 353 908 = some (.iadd, 1) := by decide +kernel
theorem k_353_909 : cd 353 909 = some (.iaload, 1) := by decide +kernel
theorem k_353_910 : cd 353 910 = some (.aload_n 3, 1) := by decide +kernel
theorem k_353_911 : cd 353 911 = some (.invokestatic 161, 3) := by decide +kernel
theorem k_353_914 : cd 353 914 = some (.istore 5, 2) := by decide +kernel
theorem k_353_916 : cd 353 916 = some (.aload_n 2, 1) := by decide +kernel
theorem k_353_917 : cd 353 917 = some (.aload_n 0, 1) := by decide +kernel
theorem k_353_918 : cd 353 918 = some (.iload 4, 2) := by decide +kernel
theorem k_353_920 : cd 353 920 = some (.iconst 1, 1) := by decide +kernel
theorem k_353_921 : cd 353 921 = some (.iadd, 1) := by decide +kernel
theorem k_353_922 : cd 353 922 = some (.iaload, 1) := by decide +kernel
theorem k_353_923 : cd 353 923 = some (.aload_n 0, 1) := by decide +kernel
theorem k_353_924 : cd 353 924 = some (.iload 4, 2) := by decide +kernel
theorem k_353_926 : cd 353 926 = some (.iconst 2, 1) := by decide +kernel
theorem k_353_927 : cd 353 927 = some (.iadd, 1) := by decide +kernel
theorem k_353_928 : cd 353 928 = some (.iaload, 1) := by decide +kernel
theorem k_353_929 : cd 353 929 = some (.aload_n 0, 1) := by decide +kernel
theorem k_353_930 : cd 353 930 = some (.iload 4, 2) := by decide +kernel
theorem k_353_932 : cd 353 932 = some (.iconst 3, 1) := by decide +kernel
theorem k_353_933 : cd 353 933 = some (.iadd, 1) := by decide +kernel
theorem k_353_934 : cd 353 934 = some (.iaload, 1) := by decide +kernel
theorem k_353_935 : cd 353 935 = some (.invokevirtual 163, 3) := by decide +kernel
theorem k_353_938 : cd 353 938 = some (.istore 6, 2) := by decide +kernel
theorem k_353_940 : cd 353 940 = some (.aload_n 2, 1) := by decide +kernel
theorem k_353_941 : cd 353 941 = some (.invokevirtual 123, 3) := by decide +kernel
theorem k_353_944 : cd 353 944 = some (.iload 5, 2) := by decide +kernel
theorem k_353_946 : cd 353 946 = some (.if_icmp .eq 5, 3) := by decide +kernel
theorem k_353_949 : cd 353 949 = some (.iconst 0, 1) := by decide +kernel
theorem k_353_950 : cd 353 950 = some (.ireturn, 1) := by decide +kernel
theorem k_353_951 : cd 353 951 = some (.iload 5, 2) := by decide +kernel
theorem k_353_953 : cd 353 953 = some (.ifCond .ne 15, 3) := by decide +kernel
theorem k_353_956 : cd 353 956 = some (.aload_n 3, 1) := by decide +kernel
theorem k_353_957 : cd 353 957 = some (.iconst 0, 1) := by decide +kernel
theorem k_353_958 : cd 353 958 = some (.laload, 1) := by decide +kernel
theorem k_353_959 : cd 353 959 = some (.iload 6, 2) := by decide +kernel
theorem k_353_961 : cd 353 961 = some (.i2l, 1) := by decide +kernel
theorem k_353_962 : cd 353 962 = some (.lcmp, 1) := by decide +kernel
theorem k_353_963 : cd 353 963 = some (.ifCond .eq 5, 3) := by decide +kernel
theorem k_353_966 : cd 353 966 = some (.iconst 0, 1) := by decide +kernel
theorem k_353_967 : cd 353 967 = some (.ireturn, 1) := by decide +kernel
theorem k_353_968 : cd 353 968 = some (.goto 1465, 3) := by decide +kernel
theorem k_353_971 : cd 353 971 = some (.aload_n 1, 1) := by decide +kernel
theorem k_353_972 : cd 353 972 = some (.aload_n 0, 1) := by decide +kernel
theorem k_353_973 : cd 353 973 = some (.iload 4, 2) := by decide +kernel
theorem k_353_975 : cd 353 975 = some (.iconst 1, 1) := by decide +kernel
theorem k_353_976 : cd 353 976 = some (.iadd, 1) := by decide +kernel
theorem k_353_977 : cd 353 977 = some (.iaload, 1) := by decide +kernel
theorem k_353_978 : cd 353 978 = some (.aload_n 0, 1) := by decide +kernel
theorem k_353_979 : cd 353 979 = some (.iload 4, 2) := by decide +kernel
theorem k_353_981 : cd 353 981 = some (.iconst 2, 1) := by decide +kernel
theorem k_353_982 : cd 353 982 = some (.iadd, 1) := by decide +kernel
theorem k_353_983 : cd 353 983 = some (.iaload, 1) := by decide +kernel
theorem k_353_984 : cd 353 984 = some (.aload_n 0, 1) := by decide +kernel
theorem k_353_985 : cd 353 985 = some (.iload 4, 2) := by decide +kernel
theorem k_353_987 : cd 353 987 = some (.iconst 3, 1) := by decide +kernel
theorem k_353_988 : cd 353 988 = some (.iadd, 1) := by decide +kernel
theorem k_353_989 : cd 353 989 = some (.iaload, 1) := by decide +kernel
theorem k_353_990 : cd 353 990 = some (.ifCond .eq 7, 3) := by decide +kernel
theorem k_353_993 : cd 353 993 = some (.iconst 1, 1) := by decide +kernel
theorem k_353_994 : cd 353 994 = some (.goto 4, 3) := by decide +kernel
theorem k_353_997 : cd 353 997 = some (.iconst 0, 1) := by decide +kernel
theorem k_353_998 : cd 353 998 = some (.aload_n 3, 1) := by decide +kernel
theorem k_353_999 : cd 353 999 = some (.invokestatic 164, 3) := by decide +kernel
theorem k_353_1002 : cd 353 1002 = some (.istore 5, 2) := by decide +kernel
theorem k_353_1004 : cd 353 1004 = some (.aload_n 2, 1) := by decide +kernel
theorem k_353_1005 : cd 353 1005 = some (.aload_n 0, 1) := by decide +kernel
theorem k_353_1006 : cd 353 1006 = some (.iload 4, 2) := by decide +kernel
theorem k_353_1008 : cd 353 1008 = some (.iconst 1, 1) := by decide +kernel
theorem k_353_1009 : cd 353 1009 = some (.iadd, 1) := by decide +kernel
theorem k_353_1010 : cd 353 1010 = some (.iaload, 1) := by decide +kernel
theorem k_353_1011 : cd 353 1011 = some (.aload_n 0, 1) := by decide +kernel
theorem k_353_1012 : cd 353 1012 = some (.iload 4, 2) := by decide +kernel
theorem k_353_1014 : cd 353 1014 = some (.iconst 2, 1) := by decide +kernel
theorem k_353_1015 : cd 353 1015 = some (.iadd, 1) := by decide +kernel
theorem k_353_1016 : cd 353 1016 = some (.iaload, 1) := by decide +kernel
theorem k_353_1017 : cd 353 1017 = some (.aload_n 0, 1) := by decide +kernel
theorem k_353_1018 : cd 353 1018 = some (.iload 4, 2) := by decide +kernel
theorem k_353_1020 : cd 353 1020 = some (.iconst 3, 1) := by decide +kernel
theorem k_353_1021 : cd 353 1021 = some (.iadd, 1) := by decide +kernel
theorem k_353_1022 : cd 353 1022 = some (.iaload, 1) := by decide +kernel
theorem k_353_1023 : cd 353 1023 = some (.ifCond .eq 7, 3) := by decide +kernel
theorem k_353_1026 : cd 353 1026 = some (.iconst 1, 1) := by decide +kernel
theorem k_353_1027 : cd 353 1027 = some (.goto 4, 3) := by decide +kernel
theorem k_353_1030 : cd 353 1030 = some (.iconst 0, 1) := by decide +kernel
theorem k_353_1031 : cd 353 1031 = some (.invokevirtual 167, 3) := by decide +kernel
theorem k_353_1034 : cd 353 1034 = some (.istore 6, 2) := by decide +kernel
theorem k_353_1036 : cd 353 1036 = some (.aload_n 2, 1) := by decide +kernel
theorem k_353_1037 : cd 353 1037 = some (.invokevirtual 123, 3) := by decide +kernel
theorem k_353_1040 : cd 353 1040 = some (.iload 5, 2) := by decide +kernel
theorem k_353_1042 : cd 353 1042 = some (.if_icmp .eq 5, 3) := by decide +kernel
theorem k_353_1045 : cd 353 1045 = some (.iconst 0, 1) := by decide +kernel
theorem k_353_1046 : cd 353 1046 = some (.ireturn, 1) := by decide +kernel
theorem k_353_1047 : cd 353 1047 = some (.iload 5, 2) := by decide +kernel
theorem k_353_1049 : cd 353 1049 = some (.ifCond .ne 22, 3) := by decide +kernel
theorem k_353_1052 : cd 353 1052 = some (.aload_n 3, 1) := by decide +kernel
theorem k_353_1053 : cd 353 1053 = some (.iconst 0, 1) := by decide +kernel
theorem k_353_1054 : cd 353 1054 = some (.laload, 1) := by decide +kernel
theorem k_353_1055 : cd 353 1055 = some (.iload 6, 2) := by decide +kernel
theorem k_353_1057 : cd 353 1057 = some (.ifCond .eq 7, 3) := by decide +kernel
theorem k_353_1060 : cd 353 1060 = some (.lconst 1, 1) := by decide +kernel
theorem k_353_1061 : cd 353 1061 = some (.goto 4, 3) := by decide +kernel
theorem k_353_1064 : cd 353 1064 = some (.lconst 0, 1) := by decide +kernel
theorem k_353_1065 : cd 353 1065 = some (.lcmp, 1) := by decide +kernel
theorem k_353_1066 : cd 353 1066 = some (.ifCond .eq 5, 3) := by decide +kernel
theorem k_353_1069 : cd 353 1069 = some (.iconst 0, 1) := by decide +kernel
theorem k_353_1070 : cd 353 1070 = some (.ireturn, 1) := by decide +kernel
theorem k_353_1071 : cd 353 1071 = some (.goto 1362, 3) := by decide +kernel
theorem k_353_1074 : cd 353 1074 = some (.aload_n 1, 1) := by decide +kernel
theorem k_353_1075 : cd 353 1075 = some (.invokevirtual 168, 3) := by decide +kernel
theorem k_353_1078 : cd 353 1078 = some (.aload_n 2, 1) := by decide +kernel
theorem k_353_1079 : cd 353 1079 = some (.invokevirtual 171, 3) := by decide +kernel
theorem k_353_1082 : cd 353 1082 = some (.if_icmp .eq 1351, 3) := by decide +kernel
theorem k_353_1085 : cd 353 1085 = some (.iconst 0, 1) := by decide +kernel
theorem k_353_1086 : cd 353 1086 = some (.ireturn, 1) := by decide +kernel
theorem k_353_1087 : cd 353 1087 = some (.aload_n 1, 1) := by decide +kernel
theorem k_353_1088 : cd 353 1088 = some (.aload_n 0, 1) := by decide +kernel
theorem k_353_1089 : cd 353 1089 = some (.iload 4, 2) := by decide +kernel
theorem k_353_1091 : cd 353 1091 = some (.iconst 1, 1) := by decide +kernel
theorem k_353_1092 : cd 353 1092 = some (.iadd, 1) := by decide +kernel
theorem k_353_1093 : cd 353 1093 = some (.iaload, 1) := by decide +kernel
theorem k_353_1094 : cd 353 1094 = some (.aload_n 0, 1) := by decide +kernel
theorem k_353_1095 : cd 353 1095 = some (.iload 4, 2) := by decide +kernel
theorem k_353_1097 : cd 353 1097 = some (.iconst 2, 1) := by decide +kernel
theorem k_353_1098 : cd 353 1098 = some (.iadd, 1) := by decide +kernel
theorem k_353_1099 : cd 353 1099 = some (.iaload, 1) := by decide +kernel
theorem k_353_1100 : cd 353 1100 = some (.aload_n 0, 1) := by decide +kernel
theorem k_353_1101 : cd 353 1101 = some (.iload 4, 2) := by decide +kernel
theorem k_353_1103 : cd 353 1103 = some (.iconst 3, 1) := by decide +kernel
theorem k_353_1104 : cd 353 1104 = some (.iadd, 1) := by decide +kernel
theorem k_353_1105 : cd 353 1105 = some (.iaload, 1) := by decide +kernel
theorem k_353_1106 : cd 353 1106 = some (.aload_n 3, 1) := by decide +kernel
theorem k_353_1107 : cd 353 1107 = some (.invokestatic 172, 3) := by decide +kernel
theorem k_353_1110 : cd 353 1110 = some (.istore 5, 2) := by decide +kernel
theorem k_353_1112 : cd 353 1112 = some (.aload_n 2, 1) := by decide +kernel
theorem k_353_1113 : cd 353 1113 = some (.aload_n 0, 1) := by decide +kernel
theorem k_353_1114 : cd 353 1114 = some (.iload 4, 2) := by decide +kernel
theorem k_353_1116 : cd 353 1116 = some (.iconst 1, 1) := by decide +kernel
theorem k_353_1117 : cd 353 1117 = some (.iadd, 1) := by decide +kernel
theorem k_353_1118 : cd 353 1118 = some (.iaload, 1) := by decide +kernel
theorem k_353_1119 : cd 353 1119 = some (.aload_n 0, 1) := by decide +kernel
theorem k_353_1120 : cd 353 1120 = some (.iload 4, 2) := by decide +kernel
theorem k_353_1122 : cd 353 1122 = some (.iconst 2, 1) := by decide +kernel
theorem k_353_1123 : cd 353 1123 = some (.iadd, 1) := by decide +kernel
theorem k_353_1124 : cd 353 1124 = some (.iaload, 1) := by decide +kernel
theorem k_353_1125 : cd 353 1125 = some (.aload_n 0, 1) := by decide +kernel
theorem k_353_1126 : cd 353 1126 = some (.iload 4, 2) := by decide +kernel
theorem k_353_1128 : cd 353 1128 = some (.iconst 3, 1) := by decide +kernel
theorem k_353_1129 : cd 353 1129 = some (.iadd, 1) := by decide +kernel
theorem k_353_1130 : cd 353 1130 = some (.iaload, 1) := by decide +kernel
theorem k_353_1131 : cd 353 1131 = some (.invokevirtual 174, 3) := by decide +kernel
theorem k_353_1134 : cd 353 1134 = some (.istore 6, 2) := by decide +kernel
theorem k_353_1136 : cd 353 1136 = some (.aload_n 2, 1) := by decide +kernel
theorem k_353_1137 : cd 353 1137 = some (.invokevirtual 123, 3) := by decide +kernel
theorem k_353_1140 : cd 353 1140 = some (.iload 5, 2) := by decide +kernel
theorem k_353_1142 : cd 353 1142 = some (.if_icmp .eq 5, 3) := by decide +kernel
theorem k_353_1145 : cd 353 1145 = some (.iconst 0, 1) := by decide +kernel
theorem k_353_1146 : cd 353 1146 = some (.ireturn, 1) := by decide +kernel
theorem k_353_1147 : cd 353 1147 = some (.iload 5, 2) := by decide +kernel
theorem k_353_1149 : cd 353 1149 = some (.ifCond .ne 15, 3) := by decide +kernel
theorem k_353_1152 : cd 353 1152 = some (.aload_n 3, 1) := by decide +kernel
theorem k_353_1153 : cd 353 1153 = some (.iconst 0, 1) := by decide +kernel
theorem k_353_1154 : cd 353 1154 = some (.laload, 1) := by decide +kernel
theorem k_353_1155 : cd 353 1155 = some (.iload 6, 2) := by decide +kernel
theorem k_353_1157 : cd 353 1157 = some (.i2l, 1) := by decide +kernel
theorem k_353_1158 : cd 353 1158 = some (.lcmp, 1) := by decide +kernel
theorem k_353_1159 : cd 353 1159 = some (.ifCond .eq 5, 3) := by decide +kernel
theorem k_353_1162 : cd 353 1162 = some (.iconst 0, 1) := by decide +kernel
theorem k_353_1163 : cd 353 1163 = some (.ireturn, 1) := by decide +kernel
theorem k_353_1164 : cd 353 1164 = some (.goto 1269, 3) := by decide +kernel
theorem k_353_1167 : cd 353 1167 = some (.aload_n 1, 1) := by decide +kernel
theorem k_353_1168 : cd 353 1168 = some (.aload_n 0, 1) := by decide +kernel
theorem k_353_1169 : cd 353 1169 = some (.iload 4, 2) := by decide +kernel
theorem k_353_1171 : cd 353 1171 = some (.iconst 1, 1) := by decide +kernel
theorem k_353_1172 : cd 353 1172 = some (.iadd, 1) := by decide +kernel
theorem k_353_1173 : cd 353 1173 = some (.iaload, 1) := by decide +kernel
theorem k_353_1174 : cd 353 1174 = some (.aload_n 0, 1) := by decide +kernel
theorem k_353_1175 : cd 353 1175 = some (.iload 4, 2) := by decide +kernel
theorem k_353_1177 : cd 353 1177 = some (.iconst 2, 1) := by decide +kernel
theorem k_353_1178 : cd 353 1178 = some (.iadd, 1) := by decide +kernel
theorem k_353_1179 : cd 353 1179 = some (.iaload, 1) := by decide +kernel
theorem k_353_1180 : cd 353 1180 = some (.aload_n 0, 1) := by decide +kernel
theorem k_353_1181 : cd 353 1181 = some (.iload 4, 2) := by decide +kernel
theorem k_353_1183 : cd 353 1183 = some (.iconst 3, 1) := by decide +kernel
theorem k_353_1184 : cd 353 1184 = some (.iadd, 1) := by decide +kernel
theorem k_353_1185 : cd 353 1185 = some (.iaload, 1) := by decide +kernel
theorem k_353_1186 : cd 353 1186 = some (.aload_n 3, 1) := by decide +kernel
theorem k_353_1187 : cd 353 1187 = some (.invokestatic 175, 3) := by decide +kernel
theorem k_353_1190 : cd 353 1190 = some (.istore 5, 2) := by decide +kernel
theorem k_353_1192 : cd 353 1192 = some (.aload_n 2, 1) := by decide +kernel
theorem k_353_1193 : cd 353 1193 = some (.aload_n 0, 1) := by decide +kernel
theorem k_353_1194 : cd 353 1194 = some (.iload 4, 2) := by decide +kernel
theorem k_353_1196 : cd 353 1196 = some (.iconst 1, 1) := by decide +kernel
theorem k_353_1197 : cd 353 1197 = some (.iadd, 1) := by decide +kernel
theorem k_353_1198 : cd 353 1198 = some (.iaload, 1) := by decide +kernel
theorem k_353_1199 : cd 353 1199 = some (.aload_n 0, 1) := by decide +kernel
theorem k_353_1200 : cd 353 1200 = some (.iload 4, 2) := by decide +kernel
theorem k_353_1202 : cd 353 1202 = some (.iconst 2, 1) := by decide +kernel
theorem k_353_1203 : cd 353 1203 = some (.iadd, 1) := by decide +kernel
theorem k_353_1204 : cd 353 1204 = some (.iaload, 1) := by decide +kernel
theorem k_353_1205 : cd 353 1205 = some (.aload_n 0, 1) := by decide +kernel
theorem k_353_1206 : cd 353 1206 = some (.iload 4, 2) := by decide +kernel
theorem k_353_1208 : cd 353 1208 = some (.iconst 3, 1) := by decide +kernel
theorem k_353_1209 : cd 353 1209 = some (.iadd, 1) := by decide +kernel
theorem k_353_1210 : cd 353 1210 = some (.iaload, 1) := by decide +kernel
theorem k_353_1211 : cd 353 1211 = some (.invokevirtual 177, 3) := by decide +kernel
theorem k_353_1214 : cd 353 1214 = some (.istore 6, 2) := by decide +kernel
theorem k_353_1216 : cd 353 1216 = some (.aload_n 2, 1) := by decide +kernel
theorem k_353_1217 : cd 353 1217 = some (.invokevirtual 123, 3) := by decide +kernel
theorem k_353_1220 : cd 353 1220 = some (.iload 5, 2) := by decide +kernel
theorem k_353_1222 : cd 353 1222 = some (.if_icmp .eq 5, 3) := by decide +kernel
theorem k_353_1225 : cd 353 1225 = some (.iconst 0, 1) := by decide +kernel
theorem k_353_1226 : cd 353 1226 = some (.ireturn, 1) := by decide +kernel
theorem k_353_1227 : cd 353 1227 = some (.iload 5, 2) := by decide +kernel
theorem k_353_1229 : cd 353 1229 = some (.ifCond .ne 15, 3) := by decide +kernel
theorem k_353_1232 : cd 353 1232 = some (.aload_n 3, 1) := by decide +kernel
theorem k_353_1233 : cd 353 1233 = some (.iconst 0, 1) := by decide +kernel
theorem k_353_1234 : cd 353 1234 = some (.laload, 1) := by decide +kernel
theorem k_353_1235 : cd 353 1235 = some (.iload 6, 2) := by decide +kernel
theorem k_353_1237 : cd 353 1237 = some (.i2l, 1) := by decide +kernel
theorem k_353_1238 : cd 353 1238 = some (.lcmp, 1) := by decide +kernel
theorem k_353_1239 : cd 353 1239 = some (.ifCond .eq 5, 3) := by decide +kernel
theorem k_353_1242 : cd 353 1242 = some (.iconst 0, 1) := by decide +kernel
theorem k_353_1243 : cd 353 1243 = some (.ireturn, 1) := by decide +kernel
theorem k_353_1244 : cd 353 1244 = some (.goto 1189, 3) := by decide +kernel
theorem k_353_1247 : cd 353 1247 = some (.aload_n 1, 1) := by decide +kernel
theorem k_353_1248 : cd 353 1248 = some (.aload_n 0, 1) := by decide +kernel
theorem k_353_1249 : cd 353 1249 = some (.iload 4, 2) := by decide +kernel
theorem k_353_1251 : cd 353 1251 = some (.iconst 1, 1) := by decide +kernel
theorem k_353_1252 : cd 353 1252 = some (.iadd, 1) := by decide +kernel
theorem k_353_1253 : cd 353 1253 = some (.iaload, 1) := by decide +kernel
theorem k_353_1254 : cd 353 1254 = some (.aload_n 3, 1) := by decide +kernel
theorem k_353_1255 : cd 353 1255 = some (.invokestatic 178, 3) := by decide +kernel
theorem k_353_1258 : cd 353 1258 = some (.istore 5, 2) := by decide +kernel
theorem k_353_1260 : cd 353 1260 = some (.aload_n 2, 1) := by decide +kernel
theorem k_353_1261 : cd 353 1261 = some (.aload_n 0, 1) := by decide +kernel
theorem k_353_1262 : cd 353 1262 = some (.iload 4, 2) := by decide +kernel
theorem k_353_1264 : cd 353 1264 = some (.iconst 1, 1) := by decide +kernel
theorem k_353_1265 : cd 353 1265 = some (.iadd, 1) := by decide +kernel
theorem k_353_1266 : cd 353 1266 = some (.iaload, 1) := by decide +kernel
theorem k_353_1267 : cd 353 1267 = some (.invokevirtual 180, 3) := by decide +kernel
theorem k_353_1270 : cd 353 1270 = some (.istore 6, 2) := by decide +kernel
theorem k_353_1272 : cd 353 1272 = some (.aload_n 2, 1) := by decide +kernel
theorem k_353_1273 : cd 353 1273 = some (.invokevirtual 123, 3) := by decide +kernel
theorem k_353_1276 : cd 353 1276 = some (.iload 5, 2) := by decide +kernel
theorem k_353_1278 : cd 353 1278 = some (.if_icmp .eq 5, 3) := by decide +kernel
theorem k_353_1281 : cd 353 1281 = some (.iconst 0, 1) := by decide +kernel
theorem k_353_1282 : cd 353 1282 = some (.ireturn, 1) := by decide +kernel
theorem k_353_1283 : cd 353 1283 = some (.iload 5, 2) := by decide +kernel
theorem k_353_1285 : cd 353 1285 = some (.ifCond .ne 15, 3) := by decide +kernel
theorem k_353_1288 : cd 353 1288 = some (.aload_n 3, 1) := by decide +kernel
theorem k_353_1289 : cd 353 1289 = some (.iconst 0, 1) := by decide +kernel
theorem k_353_1290 : cd 353 1290 = some (.laload, 1) := by decide +kernel
theorem k_353_1291 : cd 353 1291 = some (.iload 6, 2) := by decide +kernel
theorem k_353_1293 : cd 353 1293 = some (.i2l, 1) := by decide +kernel
theorem k_353_1294 : cd 353 1294 = some (.lcmp, 1) := by decide +kernel
theorem k_353_1295 : cd 353 1295 = some (.ifCond .eq 5, 3) := by decide +kernel
theorem k_353_1298 : cd 353 1298 = some (.iconst 0, 1) := by decide +kernel
theorem k_353_1299 : cd 353 1299 = some (.ireturn, 1) := by decide +kernel
theorem k_353_1300 : cd 353 1300 = some (.goto 1133, 3) := by decide +kernel
theorem k_353_1303 : cd 353 1303 = some (.aload_n 1, 1) := by decide +kernel
theorem k_353_1304 : cd 353 1304 = some (.aload_n 0, 1) := by decide +kernel
theorem k_353_1305 : cd 353 1305 = some (.iload 4, 2) := by decide +kernel
theorem k_353_1307 : cd 353 1307 = some (.iconst 1, 1) := by decide +kernel
theorem k_353_1308 : cd 353 1308 = some (.iadd, 1) := by decide +kernel
theorem k_353_1309 : cd 353 1309 = some (.iaload, 1) := by decide +kernel
theorem k_353_1310 : cd 353 1310 = some (.aload_n 0, 1) := by decide +kernel
theorem k_353_1311 : cd 353 1311 = some (.iload 4, 2) := by decide +kernel
theorem k_353_1313 : cd 353 1313 = some (.iconst 2, 1) := by decide +kernel
theorem k_353_1314 : cd 353 1314 = some (.iadd, 1) := by decide +kernel
theorem k_353_1315 : cd 353 1315 = some (.iaload, 1) := by decide +kernel
theorem k_353_1316 : cd 353 1316 = some (.aload_n 0, 1) := by decide +kernel
theorem k_353_1317 : cd 353 1317 = some (.iload 4, 2) := by decide +kernel
theorem k_353_1319 : cd 353 1319 = some (.iconst 3, 1) := by decide +kernel
theorem k_353_1320 : cd 353 1320 = some (.iadd, 1) := by decide +kernel
theorem k_353_1321 : cd 353 1321 = some (.iaload, 1) := by decide +kernel
theorem k_353_1322 : cd 353 1322 = some (.aload_n 3, 1) := by decide +kernel
theorem k_353_1323 : cd 353 1323 = some (.invokestatic 181, 3) := by decide +kernel
theorem k_353_1326 : cd 353 1326 = some (.istore 5, 2) := by decide +kernel
theorem k_353_1328 : cd 353 1328 = some (.aload_n 2, 1) := by decide +kernel
theorem k_353_1329 : cd 353 1329 = some (.aload_n 0, 1) := by decide +kernel
theorem k_353_1330 : cd 353 1330 = some (.iload 4, 2) := by decide +kernel
theorem k_353_1332 : cd 353 1332 = some (.iconst 1, 1) := by decide +kernel
theorem k_353_1333 : cd 353 1333 = some (.iadd, 1) := by decide +kernel
theorem k_353_1334 : cd 353 1334 = some (.iaload, 1) := by decide +kernel
theorem k_353_1335 : cd 353 1335 = some (.aload_n 0, 1) := by decide +kernel
theorem k_353_1336 : cd 353 1336 = some (.iload 4, 2) := by decide +kernel
theorem k_353_1338 : cd 353 1338 = some (.iconst 2, 1) := by decide +kernel
theorem k_353_1339 : cd 353 1339 = some (.iadd, 1) := by decide +kernel
theorem k_353_1340 : cd 353 1340 = some (.iaload, 1) := by decide +kernel
theorem k_353_1341 : cd 353 1341 = some (.aload_n 0, 1) := by decide +kernel
theorem k_353_1342 : cd 353 1342 = some (.iload 4, 2) := by decide +kernel
theorem k_353_1344 : cd 353 1344 = some (.iconst 3, 1) := by decide +kernel
theorem k_353_1345 : cd 353 1345 = some (.iadd, 1) := by decide +kernel
theorem k_353_1346 : cd 353 1346 = some (.iaload, 1) := by decide +kernel
theorem k_353_1347 : cd 353 1347 = some (.invokevirtual 183, 3) := by decide +kernel
theorem k_353_1350 : cd 353 1350 = some (.istore 6, 2) := by decide +kernel
theorem k_353_1352 : cd 353 1352 = some (.aload_n 2, 1) := by decide +kernel
theorem k_353_1353 : cd 353 1353 = some (.invokevirtual 123, 3) := by decide +kernel
theorem k_353_1356 : cd 353 1356 = some (.iload 5, 2) := by decide +kernel
theorem k_353_1358 : cd 353 1358 = some (.if_icmp .eq 5, 3) := by decide +kernel
theorem k_353_1361 : cd 353 1361 = some (.iconst 0, 1) := by decide +kernel
theorem k_353_1362 : cd 353 1362 = some (.ireturn, 1) := by decide +kernel
theorem k_353_1363 : cd 353 1363 = some (.iload 5, 2) := by decide +kernel
theorem k_353_1365 : cd 353 1365 = some (.ifCond .ne 15, 3) := by decide +kernel
theorem k_353_1368 : cd 353 1368 = some (.aload_n 3, 1) := by decide +kernel
theorem k_353_1369 : cd 353 1369 = some (.iconst 0, 1) := by decide +kernel
theorem k_353_1370 : cd 353 1370 = some (.laload, 1) := by decide +kernel
theorem k_353_1371 : cd 353 1371 = some (.iload 6, 2) := by decide +kernel
theorem k_353_1373 : cd 353 1373 = some (.i2l, 1) := by decide +kernel
theorem k_353_1374 : cd 353 1374 = some (.lcmp, 1) := by decide +kernel
theorem k_353_1375 : cd 353 1375 = some (.ifCond .eq 5, 3) := by decide +kernel
theorem k_353_1378 : cd 353 1378 = some (.iconst 0, 1) := by decide +kernel
theorem k_353_1379 : cd 353 1379 = some (.ireturn, 1) := by decide +kernel
theorem k_353_1380 : cd 353 1380 = some (.goto 1053, 3) := by decide +kernel
theorem k_353_1383 : cd 353 1383 = some (.aload_n 1, 1) := by decide +kernel
theorem k_353_1384 : cd 353 1384 = some (.aload_n 0, 1) := by decide +kernel
theorem k_353_1385 : cd 353 1385 = some (.iload 4, 2) := by decide +kernel
theorem k_353_1387 : cd 353 1387 = some (.iconst 1, 1) := by decide +kernel
theorem k_353_1388 : cd 353 1388 = some (.iadd, 1) := by decide +kernel
theorem k_353_1389 : cd 353 1389 = some (.iaload, 1) := by decide +kernel
theorem k_353_1390 : cd 353 1390 = some (.aload_n 0, 1) := by decide +kernel
theorem k_353_1391 : cd 353 1391 = some (.iload 4, 2) := by decide +kernel
theorem k_353_1393 : cd 353 1393 = some (.iconst 2, 1) := by decide +kernel
theorem k_353_1394 : cd 353 1394 = some (.iadd, 1) := by decide +kernel
theorem k_353_1395 : cd 353 1395 = some (.iaload, 1) := by decide +kernel
theorem k_353_1396 : cd 353 1396 = some (.aload_n 3, 1) := by decide +kernel
theorem k_353_1397 : cd 353 1397 = some (.invokestatic 184, 3) := by decide +kernel
theorem k_353_1400 : cd 353 1400 = some (.istore 5, 2) := by decide +kernel
theorem k_353_1402 : cd 353 1402 = some (.aload_n 2, 1) := by decide +kernel
theorem k_353_1403 : cd 353 1403 = some (.aload_n 0, 1) := by decide +kernel
theorem k_353_1404 : cd 353 1404 = some (.iload 4, 2) := by decide +kernel
theorem k_353_1406 : cd 353 1406 = some (.iconst 1, 1) := by decide +kernel
theorem k_353_1407 : cd 353 1407 = some (.iadd, 1) := by decide +kernel
theorem k_353_1408 : cd 353 1408 = some (.iaload, 1) := by decide +kernel
theorem k_353_1409 : cd 353 1409 = some (.aload_n 0, 1) := by decide +kernel
theorem k_353_1410 : cd 353 1410 = some (.iload 4, 2) := by decide +kernel
theorem k_353_1412 : cd 353 1412 = some (.iconst 2, 1) := by decide +kernel
theorem k_353_1413 : cd 353 1413 = some (.iadd, 1) := by decide +kernel
theorem k_353_1414 : cd 353 1414 = some (.iaload, 1) := by decide +kernel
theorem k_353_1415 : cd 353 1415 = some (.invokevirtual 186, 3) := by decide +kernel
theorem k_353_1418 : cd 353 1418 = some (.istore 6, 2) := by decide +kernel
theorem k_353_1420 : cd 353 1420 = some (.aload_n 2, 1) := by decide +kernel
theorem k_353_1421 : cd 353 1421 = some (.invokevirtual 123, 3) := by decide +kernel
theorem k_353_1424 : cd 353 1424 = some (.iload 5, 2) := by decide +kernel
theorem k_353_1426 : cd 353 1426 = some (.if_icmp .eq 5, 3) := by decide +kernel
theorem k_353_1429 : cd 353 1429 = some (.iconst 0, 1) := by decide +kernel
theorem k_353_1430 : cd 353 1430 = some (.ireturn, 1) := by decide +kernel
theorem k_353_1431 : cd 353 1431 = some (.iload 5, 2) := by decide +kernel
theorem k_353_1433 : cd 353 1433 = some (.ifCond .ne 15, 3) := by decide +kernel
theorem k_353_1436 : cd 353 1436 = some (.aload_n 3, 1) := by decide +kernel
theorem k_353_1437 : cd 353 1437 = some (.iconst 0, 1) := by decide +kernel
theorem k_353_1438 : cd 353 1438 = some (.laload, 1) := by decide +kernel
theorem k_353_1439 : cd 353 1439 = some (.iload 6, 2) := by decide +kernel
theorem k_353_1441 : cd 353 1441 = some (.i2l, 1) := by decide +kernel
theorem k_353_1442 : cd 353 1442 = some (.lcmp, 1) := by decide +kernel
theorem k_353_1443 : cd 353 1443 = some (.ifCond .eq 5, 3) := by decide +kernel
theorem k_353_1446 : cd 353 1446 = some (.iconst 0, 1) := by decide +kernel
theorem k_353_1447 : cd 353 1447 = some (.ireturn, 1) := by decide +kernel
theorem k_353_1448 : cd 353 1448 = some (.goto 985, 3) := by decide +kernel
theorem k_353_1451 : cd 353 1451 = some (.aload_n 1, 1) := by decide +kernel
theorem k_353_1452 : cd 353 1452 = some (.aload_n 0, 1) := by decide +kernel
theorem k_353_1453 : cd 353 1453 = some (.iload 4, 2) := by decide +kernel
theorem k_353_1455 : cd 353 1455 = some (.iconst 1, 1) := by decide +kernel
theorem k_353_1456 : cd 353 1456 = some (.iadd, 1) := by decide +kernel
theorem k_353_1457 : cd 353 1457 = some (.iaload, 1) := by decide +kernel
theorem k_353_1458 : cd 353 1458 = some (.aload_n 0, 1) := by decide +kernel
theorem k_353_1459 : cd 353 1459 = some (.iload 4, 2) := by decide +kernel
theorem k_353_1461 : cd 353 1461 = some (.iconst 2, 1) := by decide +kernel
theorem k_353_1462 : cd 353 1462 = some (.iadd, 1) := by decide +kernel
theorem k_353_1463 : cd 353 1463 = some (.iaload, 1) := by decide +kernel
theorem k_353_1464 : cd 353 1464 = some (.aload_n 3, 1) := by decide +kernel
theorem k_353_1465 : cd 353 1465 = some (.invokestatic 187, 3) := by decide +kernel
theorem k_353_1468 : cd 353 1468 = some (.istore 5, 2) := by decide +kernel
theorem k_353_1470 : cd 353 1470 = some (.aload_n 2, 1) := by decide +kernel
theorem k_353_1471 : cd 353 1471 = some (.aload_n 0, 1) := by decide +kernel
theorem k_353_1472 : cd 353 1472 = some (.iload 4, 2) := by decide +kernel
theorem k_353_1474 : cd 353 1474 = some (.iconst 1, 1) := by decide +kernel
theorem k_353_1475 : cd 353 1475 = some (.iadd, 1) := by decide +kernel
theorem k_353_1476 : cd 353 1476 = some (.iaload, 1) := by decide +kernel
theorem k_353_1477 : cd 353 1477 = some (.aload_n 0, 1) := by decide +kernel
theorem k_353_1478 : cd 353 1478 = some (.iload 4, 2) := by decide +kernel
theorem k_353_1480 : cd 353 1480 = some (.iconst 2, 1) := by decide +kernel
theorem k_353_1481 : cd 353 1481 = some (.iadd, 1) := by decide +kernel
theorem k_353_1482 : cd 353 1482 = some (.iaload, 1) := by decide +kernel
theorem k_353_1483 : cd 353 1483 = some (.invokevirtual 189, 3) := by decide +kernel
theorem k_353_1486 : cd 353 1486 = some (.istore 6, 2) := by decide +kernel
theorem k_353_1488 : cd 353 1488 = some (.aload_n 2, 1) := by decide +kernel
theorem k_353_1489 : cd 353 1489 = some (.invokevirtual 123, 3) := by decide +kernel
theorem k_353_1492 : cd 353 1492 = some (.iload 5, 2) := by decide +kernel
theorem k_353_1494 : cd 353 1494 = some (.if_icmp .eq 5, 3) := by decide +kernel
theorem k_353_1497 : cd 353 1497 = some (.iconst 0, 1) := by decide +kernel
theorem k_353_1498 : cd 353 1498 = some (.ireturn, 1) := by decide +kernel
theorem k_353_1499 : cd 353 1499 = some (.iload 5, 2) := by decide +kernel
theorem k_353_1501 : cd 353 1501 = some (.ifCond .ne 15, 3) := by decide +kernel
theorem k_353_1504 : cd 353 1504 = some (.aload_n 3, 1) := by decide +kernel
theorem k_353_1505 : cd 353 1505 = some (.iconst 0, 1) := by decide +kernel
theorem k_353_1506 : cd 353 1506 = some (.laload, 1) := by decide +kernel
theorem k_353_1507 : cd 353 1507 = some (.iload 6, 2) := by decide +kernel
theorem k_353_1509 : cd 353 1509 = some (.i2l, 1) := by decide +kernel
theorem k_353_1510 : cd 353 1510 = some (.lcmp, 1) := by decide +kernel
theorem k_353_1511 : cd 353 1511 = some (.ifCond .eq 5, 3) := by decide +kernel
theorem k_353_1514 : cd 353 1514 = some (.iconst 0, 1) := by decide +kernel
theorem k_353_1515 : cd 353 1515 = some (.ireturn, 1) := by decide +kernel
theorem k_353_1516 : cd 353 1516 = some (.goto 917, 3) := by decide +kernel
theorem k_353_1519 : cd 353 1519 = some (.aload_n 1, 1) := by decide +kernel
theorem k_353_1520 : cd 353 1520 = some (.aload_n 0, 1) := by decide +kernel
theorem k_353_1521 : cd 353 1521 = some (.iload 4, 2) := by decide +kernel
theorem k_353_1523 : cd 353 1523 = some (.iconst 1, 1) := by decide +kernel
theorem k_353_1524 : cd 353 1524 = some (.iadd, 1) := by decide +kernel
theorem k_353_1525 : cd 353 1525 = some (.iaload, 1) := by decide +kernel
theorem k_353_1526 : cd 353 1526 = some (.aload_n 3, 1) := by decide +kernel
theorem k_353_1527 : cd 353 1527 = some (.invokestatic 190, 3) := by decide +kernel
theorem k_353_1530 : cd 353 1530 = some (.istore 5, 2) := by decide +kernel
theorem k_353_1532 : cd 353 1532 = some (.aload_n 2, 1) := by decide +kernel
theorem k_353_1533 : cd 353 1533 = some (.aload_n 0, 1) := by decide +kernel
theorem k_353_1534 : cd 353 1534 = some (.iload 4, 2) := by decide +kernel
theorem k_353_1536 : cd 353 1536 = some (.iconst 1, 1) := by decide +kernel
theorem k_353_1537 : cd 353 1537 = some (.iadd, 1) := by decide +kernel
theorem k_353_1538 : cd 353 1538 = some (.iaload, 1) := by decide +kernel
theorem k_353_1539 : cd 353 1539 = some (.invokevirtual 192, 3) := by decide +kernel
theorem k_353_1542 : cd 353 1542 = some (.istore 6, 2) := by decide +kernel
theorem k_353_1544 : cd 353 1544 = some (.aload_n 2, 1) := by decide +kernel
theorem k_353_1545 : cd 353 1545 = some (.invokevirtual 123, 3) := by decide +kernel
theorem k_353_1548 : cd 353 1548 = some (.iload 5, 2) := by decide +kernel
theorem k_353_1550 : cd 353 1550 = some (.if_icmp .eq 5, 3) := by decide +kernel
theorem k_353_1553 : cd 353 1553 = some (.iconst 0, 1) := by decide +kernel
theorem k_353_1554 : cd 353 1554 = some (.ireturn, 1) := by decide +kernel
theorem k_353_1555 : cd 353 1555 = some (.iload 5, 2) := by decide +kernel
theorem k_353_1557 : cd 353 1557 = some (.ifCond .ne 15, 3) := by decide +kernel
theorem k_353_1560 : cd 353 1560 = some (.aload_n 3, 1) := by decide +kernel
theorem k_353_1561 : cd 353 1561 = some (.iconst 0, 1) := by decide +kernel
theorem k_353_1562 : cd 353 1562 = some (.laload, 1) := by decide +kernel
theorem k_353_1563 : cd 353 1563 = some (.iload 6, 2) := by decide +kernel
theorem k_353_1565 : cd 353 1565 = some (.i2l, 1) := by decide +kernel
theorem k_353_1566 : cd 353 1566 = some (.lcmp, 1) := by decide +kernel
theorem k_353_1567 : cd 353 1567 = some (.ifCond .eq 5, 3) := by decide +kernel
theorem k_353_1570 : cd 353 1570 = some (.iconst 0, 1) := by decide +kernel
theorem k_353_1571 : cd 353 1571 = some (.ireturn, 1) := by decide +kernel
theorem k_353_1572 : cd 353 1572 = some (.goto 861, 3) := by decide +kernel
theorem k_353_1575 : cd 353 1575 = some (.aload_n 1, 1) := by decide +kernel
theorem k_353_1576 : cd 353 1576 = some (.aload_n 0, 1) := by decide +kernel
theorem k_353_1577 : cd 353 1577 = some (.iload 4, 2) := by decide +kernel
theorem k_353_1579 : cd 353 1579 = some (.iconst 1, 1) := by decide +kernel
theorem k_353_1580 : cd 353 1580 = some (.iadd, 1) := by decide +kernel
theorem k_353_1581 : cd 353 1581 = some (.iaload, 1) := by decide +kernel
theorem k_353_1582 : cd 353 1582 = some (.aload_n 0, 1) := by decide +kernel
theorem k_353_1583 : cd 353 1583 = some (.iload 4, 2) := by decide +kernel
theorem k_353_1585 : cd 353 1585 = some (.iconst 2, 1) := by decide +kernel
theorem k_353_1586 : cd 353 1586 = some (.iadd, 1) := by decide +kernel
theorem k_353_1587 : cd 353 1587 = some (.iaload, 1) := by decide +kernel
theorem k_353_1588 : cd 353 1588 = some (.aload_n 3, 1) := by decide +kernel
theorem k_353_1589 : cd 353 1589 = some (.invokestatic 193, 3) := by decide +kernel
theorem k_353_1592 : cd 353 1592 = some (.istore 5, 2) := by decide +kernel
theorem k_353_1594 : cd 353 1594 = some (.aload_n 2, 1) := by decide +kernel
theorem k_353_1595 : cd 353 1595 = some (.aload_n 0, 1) := by decide +kernel
theorem k_353_1596 : cd 353 1596 = some (.iload 4, 2) := by decide +kernel
theorem k_353_1598 : cd 353 1598 = some (.iconst 1, 1) := by decide +kernel
theorem k_353_1599 : cd 353 1599 = some (.iadd, 1) := by decide +kernel
theorem k_353_1600 : cd 353 1600 = some (.iaload, 1) := by decide +kernel
theorem k_353_1601 : cd 353 1601 = some (.aload_n 0, 1) := by decide +kernel
theorem k_353_1602 : cd 353 1602 = some (.iload 4, 2) := by decide +kernel
theorem k_353_1604 : cd 353 1604 = some (.iconst 2, 1) := by decide +kernel
theorem k_353_1605 : cd 353 1605 = some (.iadd, 1) := by decide +kernel
theorem k_353_1606 : cd 353 1606 = some (.iaload, 1) := by decide +kernel
theorem k_353_1607 : cd 353 1607 = some (.invokevirtual 195, 3) := by decide +kernel
theorem k_353_1610 : cd 353 1610 = some (.istore 6, 2) := by decide +kernel
theorem k_353_1612 : cd 353 1612 = some (.aload_n 2, 1) := by decide +kernel
theorem k_353_1613 : cd 353 1613 = some (.invokevirtual 123, 3) := by decide +kernel
theorem k_353_1616 : cd 353 1616 = some (.iload 5, 2) := by decide +kernel
theorem k_353_1618 : cd 353 1618 = some (.if_icmp .eq 5, 3) := by decide +kernel
theorem k_353_1621 : cd 353 1621 = some (.iconst 0, 1) := by decide +kernel
theorem k_353_1622 : cd 353 1622 = some (.ireturn, 1) := by decide +kernel
theorem k_353_1623 : cd 353 1623 = some (.iload 5, 2) := by decide +kernel
theorem k_353_1625 : cd 353 1625 = some (.ifCond .ne 22, 3) := by decide +kernel
theorem k_353_1628 : cd 353 1628 = some (.aload_n 3, 1) := by decide +kernel
theorem k_353_1629 : cd 353 1629 = some (.iconst 0, 1) := by decide +kernel
theorem k_353_1630 : cd 353 1630 = some (.laload, 1) := by decide +kernel
theorem k_353_1631 : cd 353 1631 = some (.iload 6, 2) := by decide +kernel
theorem k_353_1633 : cd 353 1633 = some (.ifCond .eq 7, 3) := by decide +kernel
theorem k_353_1636 : cd 353 1636 = some (.lconst 1, 1) := by decide +kernel
theorem k_353_1637 : cd 353 1637 = some (.goto 4, 3) := by decide +kernel
theorem k_353_1640 : cd 353 1640 = some (.lconst 0, 1) := by decide +kernel
theorem k_353_1641 : cd 353 1641 = some (.lcmp, 1) := by decide +kernel
theorem k_353_1642 : cd 353 1642 = some (.ifCond .eq 5, 3) := by decide +kernel
theorem k_353_1645 : cd 353 1645 = some (.iconst 0, 1) := by decide +kernel
theorem k_353_1646 : cd 353 1646 = some (.ireturn, 1) := by decide +kernel
theorem k_353_1647 : cd 353 1647 = some (.goto 786, 3) := by decide +kernel
theorem k_353_1650 : cd 353 1650 = some (.aload_n 1, 1) := by decide +kernel
theorem k_353_1651 : cd 353 1651 = some (.aload_n 0, 1) := by decide +kernel
theorem k_353_1652 : cd 353 1652 = some (.iload 4, 2) := by decide +kernel
theorem k_353_1654 : cd 353 1654 = some (.iconst 1, 1) := by decide +kernel
theorem k_353_1655 : cd 353 1655 = some (.iadd, 1) := by decide +kernel
theorem k_353_1656 : cd 353 1656 = some (.iaload, 1) := by decide +kernel
theorem k_353_1657 : cd 353 1657 = some (.aload_n 3, 1) := by decide +kernel
theorem k_353_1658 : cd 353 1658 = some (.invokestatic 196, 3) := by decide +kernel
theorem k_353_1661 : cd 353 1661 = some (.istore 5, 2) := by decide +kernel
theorem k_353_1663 : cd 353 1663 = some (.aload_n 2, 1) := by decide +kernel
theorem k_353_1664 : cd 353 1664 = some (.aload_n 0, 1) := by decide +kernel
theorem k_353_1665 : cd 353 1665 = some (.iload 4, 2) := by decide +kernel
theorem k_353_1667 : cd 353 1667 = some (.iconst 1, 1) := by decide +kernel
theorem k_353_1668 : cd 353 1668 = some (.iadd, 1) := by decide +kernel
theorem k_353_1669 : cd 353 1669 = some (.iaload, 1) := by decide +kernel
theorem k_353_1670 : cd 353 1670 = some (.invokevirtual 198, 3) := by decide +kernel
theorem k_353_1673 : cd 353 1673 = some (.istore 6, 2) := by decide +kernel
theorem k_353_1675 : cd 353 1675 = some (.aload_n 2, 1) := by decide +kernel
theorem k_353_1676 : cd 353 1676 = some (.invokevirtual 123, 3) := by decide +kernel
theorem k_353_1679 : cd 353 1679 = some (.iload 5, 2) := by decide +kernel
theorem k_353_1681 : cd 353 1681 = some (.if_icmp .eq 5, 3) := by decide +kernel
theorem k_353_1684 : cd 353 1684 = some (.iconst 0, 1) := by decide +kernel
theorem k_353_1685 : cd 353 1685 = some (.ireturn, 1) := by decide +kernel
theorem k_353_1686 : cd 353 1686 = some (.iload 5, 2) := by decide +kernel
theorem k_353_1688 : cd 353 1688 = some (.ifCond .ne 15, 3) := by decide +kernel
theorem k_353_1691 : cd 353 1691 = some (.aload_n 3, 1) := by decide +kernel
theorem k_353_1692 : cd 353 1692 = some (.iconst 0, 1) := by decide +kernel
theorem k_353_1693 : cd 353 1693 = some (.laload, 1) := by decide +kernel
theorem k_353_1694 : cd 353 1694 = some (.iload 6, 2) := by decide +kernel
theorem k_353_1696 : cd 353 1696 = some (.i2l, 1) := by decide +kernel
theorem k_353_1697 : cd 353 1697 = some (.lcmp, 1) := by decide +kernel
theorem k_353_1698 : cd 353 1698 = some (.ifCond .eq 5, 3) := by decide +kernel
theorem k_353_1701 : cd 353 1701 = some (.iconst 0, 1) := by decide +kernel
theorem k_353_1702 : cd 353 1702 = some (.ireturn, 1) := by decide +kernel
theorem k_353_1703 : cd 353 1703 = some (.goto 730, 3) := by decide +kernel
theorem k_353_1706 : cd 353 1706 = some (.aload_n 1, 1) := by decide +kernel
theorem k_353_1707 : cd 353 1707 = some (.aload_n 0, 1) := by decide +kernel
theorem k_353_1708 : cd 353 1708 = some (.iload 4, 2) := by decide +kernel
theorem k_353_1710 : cd 353 1710 = some (.iconst 1, 1) := by decide +kernel
theorem k_353_1711 : cd 353 1711 = some (.iadd, 1) := by decide +kernel
theorem k_353_1712 : cd 353 1712 = some (.iaload, 1) := by decide +kernel
theorem k_353_1713 : cd 353 1713 = some (.aload_n 0, 1) := by decide +kernel
theorem k_353_1714 : cd 353 1714 = some (.iload 4, 2) := by decide +kernel
theorem k_353_1716 : cd 353 1716 = some (.iconst 2, 1) := by decide +kernel
theorem k_353_1717 : cd 353 1717 = some (.iadd, 1) := by decide +kernel
theorem k_353_1718 : cd 353 1718 = some (.iaload, 1) := by decide +kernel
theorem k_353_1719 : cd 353 1719 = some (.aload_n 3, 1) := by decide +kernel
theorem k_353_1720 : cd 353 1720 = some (.invokestatic 199, 3) := by decide +kernel
theorem k_353_1723 : cd 353 1723 = some (.istore 5, 2) := by decide +kernel
theorem k_353_1725 : cd 353 1725 = some (.aload_n 2, 1) := by decide +kernel
theorem k_353_1726 : cd 353 1726 = some (.aload_n 0, 1) := by decide +kernel
theorem k_353_1727 : cd 353 1727 = some (.iload 4, 2) := by decide +kernel
theorem k_353_1729 : cd 353 1729 = some (.iconst 1, 1) := by decide +kernel
theorem k_353_1730 : cd 353 1730 = some (.iadd, 1) := by decide +kernel
theorem k_353_1731 : cd 353 1731 = some (.iaload, 1) := by decide +kernel
theorem k_353_1732 : cd 353 1732 = some (.aload_n 0, 1) := by decide +kernel
theorem k_353_1733 : cd 353 1733 = some (.iload 4, 2) := by decide +kernel
theorem k_353_1735 : cd 353 1735 = some (.iconst 2, 1) := by decide +kernel
theorem k_353_1736 : cd 353 1736 = some (.iadd, 1) := by decide +kernel
theorem k_353_1737 : cd 353 1737 = some (.iaload, 1) := by decide +kernel
theorem k_353_1738 : cd 353 1738 = some (.invokevirtual 201, 3) := by decide +kernel
theorem k_353_1741 : cd 353 1741 = some (.istore 6, 2) := by decide +kernel
theorem k_353_1743 : cd 353 1743 = some (.aload_n 2, 1) := by decide +kernel
theorem k_353_1744 : cd 353 1744 = some (.invokevirtual 123, 3) := by decide +kernel
theorem k_353_1747 : cd 353 1747 = some (.iload 5, 2) := by decide +kernel
theorem k_353_1749 : cd 353 1749 = some (.if_icmp .eq 5, 3) := by decide +kernel
theorem k_353_1752 : cd 353 1752 = some (.iconst 0, 1) := by decide +kernel
theorem k_353_1753 : cd 353 1753 = some (.ireturn, 1) := by decide +kernel
theorem k_353_1754 : cd 353 1754 = some (.iload 5, 2) := by decide +kernel
theorem k_353_1756 : cd 353 1756 = some (.ifCond .ne 15, 3) := by decide +kernel
theorem k_353_1759 : cd 353 1759 = some (.aload_n 3, 1) := by decide +kernel
theorem k_353_1760 : cd 353 1760 = some (.iconst 0, 1) := by decide +kernel
theorem k_353_1761 : cd 353 1761 = some (.laload, 1) := by decide +kernel
theorem k_353_1762 : cd 353 1762 = some (.iload 6, 2) := by decide +kernel
theorem k_353_1764 : cd 353 1764 = some (.i2l, 1) := by decide +kernel
theorem k_353_1765 : cd 353 1765 = some (.lcmp, 1) := by decide +kernel
theorem k_353_1766 : cd 353 1766 = some (.ifCond .eq 5, 3) := by decide +kernel
theorem k_353_1769 : cd 353 1769 = some (.iconst 0, 1) := by decide +kernel
theorem k_353_1770 : cd 353 1770 = some (.ireturn, 1) := by decide +kernel
theorem k_353_1771 : cd 353 1771 = some (.goto 662, 3) := by decide +kernel
theorem k_353_1774 : cd 353 1774 = some (.aload_n 1, 1) := by decide +kernel
theorem k_353_1775 : cd 353 1775 = some (.aload_n 0, 1) := by decide +kernel
theorem k_353_1776 : cd 353 1776 = some (.iload 4, 2) := by decide +kernel
theorem k_353_1778 : cd 353 1778 = some (.iconst 1, 1) := by decide +kernel
theorem k_353_1779 : cd 353 1779 = some (.iadd, 1) := by decide +kernel
theorem k_353_1780 : cd 353 1780 = some (.iaload, 1) := by decide +kernel
theorem k_353_1781 : cd 353 1781 = some (.aload_n 0, 1) := by decide +kernel
theorem k_353_1782 : cd 353 1782 = some (.iload 4, 2) := by decide +kernel
theorem k_353_1784 : cd 353 1784 = some (.iconst 2, 1) := by decide +kernel
theorem k_353_1785 : cd 353 1785 = some (.iadd, 1) := by decide +kernel
theorem k_353_1786 : cd 353 1786 = some (.iaload, 1) := by decide +kernel
theorem k_353_1787 : cd 353 1787 = some (.aload_n 3, 1) := by decide +kernel
theorem k_353_1788 : cd 353 1788 = some (.invokestatic 202, 3) := by decide +kernel
theorem k_353_1791 : cd 353 1791 = some (.istore 5, 2) := by decide +kernel
theorem k_353_1793 : cd 353 1793 = some (.aload_n 2, 1) := by decide +kernel
theorem k_353_1794 : cd 353 1794 = some (.aload_n 0, 1) := by decide +kernel
theorem k_353_1795 : cd 353 1795 = some (.iload 4, 2) := by decide +kernel
theorem k_353_1797 : cd 353 1797 = some (.iconst 1, 1) := by decide +kernel
theorem k_353_1798 : cd 353 1798 = some (.iadd, 1) := by decide +kernel
theorem k_353_1799 : cd 353 1799 = some (.iaload, 1) := by decide +kernel
theorem k_353_1800 : cd 353 1800 = some (.aload_n 0, 1) := by decide +kernel
theorem k_353_1801 : cd 353 1801 = some (.iload 4, 2) := by decide +kernel
theorem k_353_1803 : cd 353 1803 = some (.iconst 2, 1) := by decide +kernel
theorem k_353_1804 : cd 353 1804 = some (.iadd, 1) := by decide +kernel
theorem k_353_1805 : cd 353 1805 = some (.iaload, 1) := by decide +kernel
theorem k_353_1806 : cd 353 1806 = some (.invokevirtual 204, 3) := by decide +kernel
theorem k_353_1809 : cd 353 1809 = some (.istore 6, 2) := by decide +kernel
theorem k_353_1811 : cd 353 1811 = some (.aload_n 2, 1) := by decide +kernel
theorem k_353_1812 : cd 353 1812 = some (.invokevirtual 123, 3) := by decide +kernel
theorem k_353_1815 : cd 353 1815 = some (.iload 5, 2) := by decide +kernel
theorem k_353_1817 : cd 353 1817 = some (.if_icmp .eq 5, 3) := by decide +kernel
theorem k_353_1820 : cd 353 1820 = some (.iconst 0, 1) := by decide +kernel
theorem k_353_1821 : cd 353 1821 = some (.ireturn, 1) := by decide +kernel
theorem k_353_1822 : cd 353 1822 = some (.iload 5, 2) := by decide +kernel
theorem k_353_1824 : cd 353 1824 = some (.ifCond .ne 15, 3) := by decide +kernel
theorem k_353_1827 : cd 353 1827 = some (.aload_n 3, 1) := by decide +kernel
theorem k_353_1828 : cd 353 1828 = some (.iconst 0, 1) := by decide +kernel
theorem k_353_1829 : cd 353 1829 = some (.laload, 1) := by decide +kernel
theorem k_353_1830 : cd 353 1830 = some (.iload 6, 2) := by decide +kernel
theorem k_353_1832 : cd 353 1832 = some (.i2l, 1) := by decide +kernel
theorem k_353_1833 : cd 353 1833 = some (.lcmp, 1) := by decide +kernel
theorem k_353_1834 : cd 353 1834 = some (.ifCond .eq 5, 3) := by decide +kernel
theorem k_353_1837 : cd 353 1837 = some (.iconst 0, 1) := by decide +kernel
theorem k_353_1838 : cd 353 1838 = some (.ireturn, 1) := by decide +kernel
theorem k_353_1839 : cd 353 1839 = some (.goto 594, 3) := by decide +kernel
theorem k_353_1842 : cd 353 1842 = some (.aload_n 1, 1) := by decide +kernel
theorem k_353_1843 : cd 353 1843 = some (.aload_n 0, 1) := by decide +kernel
theorem k_353_1844 : cd 353 1844 = some (.iload 4, 2) := by decide +kernel
theorem k_353_1846 : cd 353 1846 = some (.iconst 1, 1) := by decide +kernel
theorem k_353_1847 : cd 353 1847 = some (.iadd, 1) := by decide +kernel
theorem k_353_1848 : cd 353 1848 = some (.iaload, 1) := by decide +kernel
theorem k_353_1849 : cd 353 1849 = some (.aload_n 0, 1) := by decide +kernel
theorem k_353_1850 : cd 353 1850 = some (.iload 4, 2) := by decide +kernel
theorem k_353_1852 : cd 353 1852 = some (.iconst 2, 1) := by decide +kernel
theorem k_353_1853 : cd 353 1853 = some (.iadd, 1) := by decide +kernel
theorem k_353_1854 : cd 353 1854 = some (.iaload, 1) := by decide +kernel
theorem k_353_1855 : cd 353 1855 = some (.aload_n 3, 1) := by decide +kernel
theorem k_353_1856 : cd 353 1856 = some (.invokestatic 205, 3) := by decide +kernel
theorem k_353_1859 : cd 353 1859 = some (.istore 5, 2) := by decide +kernel
theorem k_353_1861 : cd 353 1861 = some (.aload_n 2, 1) := by decide +kernel
theorem k_353_1862 : cd 353 1862 = some (.aload_n 0, 1) := by decide +kernel
theorem k_353_1863 : cd 353 1863 = some (.iload 4, 2) := by decide +kernel
theorem k_353_1865 : cd 353 1865 = some (.iconst 1, 1) := by decide +kernel
theorem k_353_1866 : cd 353 1866 = some (.iadd, 1) := by decide +kernel
theorem k_353_1867 : cd 353 1867 = some (.iaload, 1) := by decide +kernel
theorem k_353_1868 : cd 353 1868 = some (.aload_n 0, 1) := by decide +kernel
theorem k_353_1869 : cd 353 1869 = some (.iload 4, 2) := by decide +kernel
theorem k_353_1871 : cd 353 1871 = some (.iconst 2, 1) := by decide +kernel
theorem k_353_1872 : cd 353 1872 = some (.iadd, 1) := by decide +kernel
theorem k_353_1873 : cd 353 1873 = some (.iaload, 1) := by decide +kernel
theorem k_353_1874 : cd 353 1874 = some (.invokevirtual 207, 3) := by decide +kernel
theorem k_353_1877 : cd 353 1877 = some (.istore 6, 2) := by decide +kernel
theorem k_353_1879 : cd 353 1879 = some (.aload_n 2, 1) := by decide +kernel
theorem k_353_1880 : cd 353 1880 = some (.invokevirtual 123, 3) := by decide +kernel
theorem k_353_1883 : cd 353 1883 = some (.iload 5, 2) := by decide +kernel
theorem k_353_1885 : cd 353 1885 = some (.if_icmp .eq 5, 3) := by decide +kernel
theorem k_353_1888 : cd 353 1888 = some (.iconst 0, 1) := by decide +kernel
theorem k_353_1889 : cd 353 1889 = some (.ireturn, 1) := by decide +kernel
theorem k_353_1890 : cd 353 1890 = some (.iload 5, 2) := by decide +kernel
theorem k_353_1892 : cd 353 1892 = some (.ifCond .ne 15, 3) := by decide +kernel
theorem k_353_1895 : cd 353 1895 = some (.aload_n 3, 1) := by decide +kernel
theorem k_353_1896 : cd 353 1896 = some (.iconst 0, 1) := by decide +kernel
theorem k_353_1897 : cd 353 1897 = some (.laload, 1) := by decide +kernel
theorem k_353_1898 : cd 353 1898 = some (.iload 6, 2) := by decide +kernel
theorem k_353_1900 : cd 353 1900 = some (.i2l, 1) := by decide +kernel
theorem k_353_1901 : cd 353 1901 = some (.lcmp, 1) := by decide +kernel
theorem k_353_1902 : cd 353 1902 = some (.ifCond .eq 5, 3) := by decide +kernel
theorem k_353_1905 : cd 353 1905 = some (.iconst 0, 1) := by decide +kernel
theorem k_353_1906 : cd 353 1906 = some (.ireturn, 1) := by decide +kernel
theorem k_353_1907 : cd 353 1907 = some (.goto 526, 3) := by decide +kernel
theorem k_353_1910 : cd 353 1910 = some (.aload_n 1, 1) := by decide +kernel
theorem k_353_1911 : cd 353 1911 = some (.aload_n 0, 1) := by decide +kernel
theorem k_353_1912 : cd 353 1912 = some (.iload 4, 2) := by decide +kernel
theorem k_353_1914 : cd 353 1914 = some (.iconst 1, 1) := by decide +kernel
theorem k_353_1915 : cd 353 1915 = some (.iadd, 1) := by decide +kernel
theorem k_353_1916 : cd 353 1916 = some (.iaload, 1) := by decide +kernel
theorem k_353_1917 : cd 353 1917 = some (.aload_n 3, 1) := by decide +kernel
theorem k_353_1918 : cd 353 1918 = some (.invokestatic 208, 3) := by decide +kernel
theorem k_353_1921 : cd 353 1921 = some (.istore 5, 2) := by decide +kernel
theorem k_353_1923 : cd 353 1923 = some (.aload_n 2, 1) := by decide +kernel
theorem k_353_1924 : cd 353 1924 = some (.aload_n 0, 1) := by decide +kernel
theorem k_353_1925 : cd 353 1925 = some (.iload 4, 2) := by decide +kernel
theorem k_353_1927 : cd 353 1927 = some (.iconst 1, 1) := by decide +kernel
theorem k_353_1928 : cd 353 1928 = some (.iadd, 1) := by decide +kernel
theorem k_353_1929 : cd 353 1929 = some (.iaload, 1) := by decide +kernel
theorem k_353_1930 : cd 353 1930 = some (.invokevirtual 210, 3) := by decide +kernel
theorem k_353_1933 : cd 353 1933 = some (.istore 6, 2) := by decide +kernel
theorem k_353_1935 : cd 353 1935 = some (.aload_n 2, 1) := by decide +kernel
theorem k_353_1936 : cd 353 1936 = some (.invokevirtual 123, 3) := by decide +kernel
theorem k_353_1939 : cd 353 1939 = some (.iload 5, 2) := by decide +kernel
theorem k_353_1941 : cd 353 1941 = some (.if_icmp .eq 5, 3) := by decide +kernel
theorem k_353_1944 : cd 353 1944 = some (.iconst 0, 1) := by decide +kernel
theorem k_353_1945 : cd 353 1945 = some (.ireturn, 1) := by decide +kernel
theorem k_353_1946 : cd 353 1946 = some (.iload 5, 2) := by decide +kernel
theorem k_353_1948 : cd 353 1948 = some (.ifCond .ne 15, 3) := by decide +kernel
theorem k_353_1951 : cd 353 1951 = some (.aload_n 3, 1) := by decide +kernel
theorem k_353_1952 : cd 353 1952 = some (.iconst 0, 1) := by decide +kernel
theorem k_353_1953 : cd 353 1953 = some (.laload, 1) := by decide +kernel
theorem k_353_1954 : cd 353 1954 = some (.iload 6, 2) := by decide +kernel
theorem k_353_1956 : cd 353 1956 = some (.i2l, 1) := by decide +kernel
theorem k_353_1957 : cd 353 1957 = some (.lcmp, 1) := by decide +kernel
theorem k_353_1958 : cd 353 1958 = some (.ifCond .eq 5, 3) := by decide +kernel
theorem k_353_1961 : cd 353 1961 = some (.iconst 0, 1) := by decide +kernel
theorem k_353_1962 : cd 353 1962 = some (.ireturn, 1) := by decide +kernel
theorem k_353_1963 : cd 353 1963 = some (.goto 470, 3) := by decide +kernel
theorem k_353_1966 : cd 353 1966 = some (.aload_n 1, 1) := by decide +kernel
theorem k_353_1967 : cd 353 1967 = some (.aload_n 0, 1) := by decide +kernel
theorem k_353_1968 : cd 353 1968 = some (.iload 4, 2) := by decide +kernel
theorem k_353_1970 : cd 353 1970 = some (.iconst 1, 1) := by decide +kernel
theorem k_353_1971 : cd 353 1971 = some (.iadd, 1) := by decide +kernel
theorem k_353_1972 : cd 353 1972 = some (.iaload, 1) := by decide +kernel
theorem k_353_1973 : cd 353 1973 = some (.aload_n 0, 1) := by decide +kernel
theorem k_353_1974 : cd 353 1974 = some (.iload 4, 2) := by decide +kernel
theorem k_353_1976 : cd 353 1976 = some (.iconst 2, 1) := by decide +kernel
theorem k_353_1977 : cd 353 1977 = some (.iadd, 1) := by decide +kernel
theorem k_353_1978 : cd 353 1978 = some (.iaload, 1) := by decide +kernel
theorem k_353_1979 : cd 353 1979 = some (.aload_n 0, 1) := by decide +kernel
theorem k_353_1980 : cd 353 1980 = some (.iload 4, 2) := by decide +kernel
theorem k_353_1982 : cd 353 1982 = some (.iconst 3, 1) := by decide +kernel
theorem k_353_1983 : cd 353 1983 = some (.iadd, 1) := by decide +kernel
theorem k_353_1984 : cd 353 1984 = some (.iaload, 1) := by decide +kernel
theorem k_353_1985 : cd 353 1985 = some (.aload_n 3, 1) := by decide +kernel
theorem k_353_1986 : cd 353 1986 = some (.invokestatic 211, 3) := by decide +kernel
theorem k_353_1989 : cd 353 1989 = some (.istore 5, 2) := by decide +kernel
theorem k_353_1991 : cd 353 1991 = some (.aload_n 2, 1) := by decide +kernel
theorem k_353_1992 : cd 353 1992 = some (.aload_n 0, 1) := by decide +kernel
theorem k_353_1993 : cd 353 1993 = some (.iload 4, 2) := by decide +kernel
theorem k_353_1995 : cd 353 1995 = some (.iconst 1, 1) := by decide +kernel
theorem k_353_1996 : cd 353 1996 = some (.iadd, 1) := by decide +kernel
theorem k_353_1997 : cd 353 1997 = some (.iaload, 1) := by decide +kernel
theorem k_353_1998 : cd 353 1998 = some (.aload_n 0, 1) := by decide +kernel
theorem k_353_1999 : cd 353 1999 = some (.iload 4, 2) := by decide +kernel
theorem k_353_2001 : cd 353 2001 = some (.iconst 2, 1) := by decide +kernel
theorem k_353_2002 : cd 353 2002 = some (.iadd, 1) := by decide +kernel
theorem k_353_2003 : cd 353 2003 = some (.iaload, 1) := by decide +kernel
theorem k_353_2004 : cd 353 2004 = some (.aload_n 0, 1) := by decide +kernel
theorem k_353_2005 : cd 353 2005 = some (.iload 4, 2) := by decide +kernel
theorem k_353_2007 : cd 353 2007 = some (.iconst 3, 1) := by decide +kernel
theorem k_353_2008 : cd 353 2008 = some (.iadd, 1) := by decide +kernel
theorem k_353_2009 : cd 353 2009 = some (.iaload, 1) := by decide +kernel
theorem k_353_2010 : cd 353 2010 = some (.invokevirtual 213, 3) := by decide +kernel
theorem k_353_2013 : cd 353 2013 = some (.istore 6, 2) := by decide +kernel
theorem k_353_2015 : cd 353 2015 = some (.aload_n 2, 1) := by decide +kernel
theorem k_353_2016 : cd 353 2016 = some (.invokevirtual 123, 3) := by decide +kernel
theorem k_353_2019 : cd 353 2019 = some (.iload 5, 2) := by decide +kernel
theorem k_353_2021 : cd 353 2021 = some (.if_icmp .eq 5, 3) := by decide +kernel
theorem k_353_2024 : cd 353 2024 = some (.iconst 0, 1) := by decide +kernel
theorem k_353_2025 : cd 353 2025 = some (.ireturn, 1) := by decide +kernel
theorem k_353_2026 : cd 353 2026 = some (.iload 5, 2) := by decide +kernel
theorem k_353_2028 : cd 353 2028 = some (.ifCond .ne 15, 3) := by decide +kernel
theorem k_353_2031 : cd 353 2031 = some (.aload_n 3, 1) := by decide +kernel
theorem k_353_2032 : cd 353 2032 = some (.iconst 0, 1) := by decide +kernel
theorem k_353_2033 : cd 353 2033 = some (.laload, 1) := by decide +kernel
theorem k_353_2034 : cd 353 2034 = some (.iload 6, 2) := by decide +kernel
theorem k_353_2036 : cd 353 2036 = some (.i2l, 1) := by decide +kernel
theorem k_353_2037 : cd 353 2037 = some (.lcmp, 1) := by decide +kernel
theorem k_353_2038 : cd 353 2038 = some (.ifCond .eq 5, 3) := by decide +kernel
theorem k_353_2041 : cd 353 2041 = some (.iconst 0, 1) := by decide +kernel
theorem k_353_2042 : cd 353 2042 = some (.ireturn, 1) := by decide +kernel
theorem k_353_2043 : cd 353 2043 = some (.goto 390, 3) := by decide +kernel
theorem k_353_2046 : cd 353 2046 = some (.aload_n 1, 1) := by decide +kernel
theorem k_353_2047 : cd 353 2047 = some (.aload_n 0, 1) := by decide +kernel
theorem k_353_2048 : cd 353 2048 = some (.iload 4, 2) := by decide +kernel
theorem k_353_2050 : cd 353 2050 = some (.iconst 1, 1) := by decide +kernel
theorem k_353_2051 : cd 353 2051 = some (.iadd, 1) := by decide +kernel
theorem k_353_2052 : cd 353 2052 = some (.iaload, 1) := by decide +kernel
theorem k_353_2053 : cd 353 2053 = some (.aload_n 3, 1) := by decide +kernel
theorem k_353_2054 : cd 353 2054 = some (.invokestatic 214, 3) := by decide +kernel
theorem k_353_2057 : cd 353 2057 = some (.istore 5, 2) := by decide +kernel
theorem k_353_2059 : cd 353 2059 = some (.aload_n 2, 1) := by decide +kernel
theorem k_353_2060 : cd 353 2060 = some (.aload_n 0, 1) := by decide +kernel
theorem k_353_2061 : cd 353 2061 = some (.iload 4, 2) := by decide +kernel
theorem k_353_2063 : cd 353 2063 = some (.iconst 1, 1) := by decide +kernel
theorem k_353_2064 : cd 353 2064 = some (.iadd, 1) := by decide +kernel
theorem k_353_2065 : cd 353 2065 = some (.iaload, 1) := by decide +kernel
theorem k_353_2066 : cd 353 2066 = some (.invokevirtual 216, 3) := by decide +kernel
theorem k_353_2069 : cd 353 2069 = some (.istore 6, 2) := by decide +kernel
theorem k_353_2071 : cd 353 2071 = some (.aload_n 2, 1) := by decide +kernel
theorem k_353_2072 : cd 353 2072 = some (.invokevirtual 123, 3) := by decide +kernel
theorem k_353_2075 : cd 353 2075 = some (.iload 5, 2) := by decide +kernel
theorem k_353_2077 : cd 353 2077 = some (.if_icmp .eq 5, 3) := by decide +kernel
theorem k_353_2080 : cd 353 2080 = some (.iconst 0, 1) := by decide +kernel
theorem k_353_2081 : cd 353 2081 = some (.ireturn, 1) := by decide +kernel
theorem k_353_2082 : cd 353 2082 = some (.iload 5, 2) := by decide +kernel
theorem k_353_2084 : cd 353 2084 = some (.ifCond .ne 15, 3) := by decide +kernel
theorem k_353_2087 : cd 353 2087 = some (.aload_n 3, 1) := by decide +kernel
theorem k_353_2088 : cd 353 2088 = some (.iconst 0, 1) := by decide +kernel
theorem k_353_2089 : cd 353 2089 = some (.laload, 1) := by decide +kernel
theorem k_353_2090 : cd 353 2090 = some (.iload 6, 2) := by decide +kernel
theorem k_353_2092 : cd 353 2092 = some (.i2l, 1) := by decide +kernel
theorem k_353_2093 : cd 353 2093 = some (.lcmp, 1) := by decide +kernel
theorem k_353_2094 : cd 353 2094 = some (.ifCond .eq 5, 3) := by decide +kernel
theorem k_353_2097 : cd 353 2097 = some (.iconst 0, 1) := by decide +kernel
theorem k_353_2098 : cd 353 2098 = some (.ireturn, 1) := by decide +kernel
theorem k_353_2099 : cd 353 2099 = some (.goto 334, 3) := by decide +kernel
theorem k_353_2102 : cd 353 2102 = some (.aload_n 1, 1) := by decide +kernel
theorem k_353_2103 : cd 353 2103 = some (.aload_n 0, 1) := by decide +kernel
theorem k_353_2104 : cd 353 2104 = some (.iload 4, 2) := by decide +kernel
theorem k_353_2106 : cd 353 2106 = some (.iconst 1, 1) := by decide +kernel
theorem k_353_2107 : cd 353 2107 = some (.iadd, 1) := by decide +kernel
theorem k_353_2108 : cd 353 2108 = some (.iaload, 1) := by decide +kernel
theorem k_353_2109 : cd 353 2109 = some (.aload_n 3, 1) := by decide +kernel
theorem k_353_2110 : cd 353 2110 = some (.invokestatic 217, 3) := by decide +kernel
theorem k_353_2113 : cd 353 2113 = some (.istore 5, 2) := by decide +kernel
theorem k_353_2115 : cd 353 2115 = some (.aload_n 2, 1) := by decide +kernel
theorem k_353_2116 : cd 353 2116 = some (.aload_n 0, 1) := by decide +kernel
theorem k_353_2117 : cd 353 2117 = some (.iload 4, 2) := by decide +kernel
theorem k_353_2119 : cd 353 2119 = some (.iconst 1, 1) := by decide +kernel
theorem k_353_2120 : cd 353 2120 = some (.iadd, 1) := by decide +kernel
theorem k_353_2121 : cd 353 2121 = some (.iaload, 1) := by decide +kernel
theorem k_353_2122 : cd 353 2122 = some (.invokevirtual 219, 3) := by decide +kernel
theorem k_353_2125 : cd 353 2125 = some (.istore 6, 2) := by decide +kernel
theorem k_353_2127 : cd 353 2127 = some (.aload_n 2, 1) := by decide +kernel
theorem k_353_2128 : cd 353 2128 = some (.invokevirtual 123, 3) := by decide +kernel
theorem k_353_2131 : cd 353 2131 = some (.iload 5, 2) := by decide +kernel
theorem k_353_2133 : cd 353 2133 = some (.if_icmp .eq 5, 3) := by decide +kernel
theorem k_353_2136 : cd 353 2136 = some (.iconst 0, 1) := by decide +kernel
theorem k_353_2137 : cd 353 2137 = some (.ireturn, 1) := by decide +kernel
theorem k_353_2138 : cd 353 2138 = some (.iload 5, 2) := by decide +kernel
theorem k_353_2140 : cd 353 2140 = some (.ifCond .ne 15, 3) := by decide +kernel
theorem k_353_2143 : cd 353 2143 = some (.aload_n 3, 1) := by decide +kernel
theorem k_353_2144 : cd 353 2144 = some (.iconst 0, 1) := by decide +kernel
theorem k_353_2145 : cd 353 2145 = some (.laload, 1) := by decide +kernel
theorem k_353_2146 : cd 353 2146 = some (.iload 6, 2) := by decide +kernel
theorem k_353_2148 : cd 353 2148 = some (.i2l, 1) := by decide +kernel
theorem k_353_2149 : cd 353 2149 = some (.lcmp, 1) := by decide +kernel
theorem k_353_2150 : cd 353 2150 = some (.ifCond .eq 5, 3) := by decide +kernel
theorem k_353_2153 : cd 353 2153 = some (.iconst 0, 1) := by decide +kernel
theorem k_353_2154 : cd 353 2154 = some (.ireturn, 1) := by decide +kernel
theorem k_353_2155 : cd 353 2155 = some (.goto 278, 3) := by decide +kernel
theorem k_353_2158 : cd 353 2158 = some (.aload_n 1, 1) := by decide +kernel
theorem k_353_2159 : cd 353 2159 = some (.invokevirtual 220, 3) := by decide +kernel
theorem k_353_2162 : cd 353 2162 = some (.aload_n 2, 1) := by decide +kernel
theorem k_353_2163 : cd 353 2163 = some (.invokevirtual 223, 3) := by decide +kernel
theorem k_353_2166 : cd 353 2166 = some (.goto 267, 3) := by decide +kernel
theorem k_353_2169 : cd 353 2169 = some (.aload_n 1, 1) := by decide +kernel
theorem k_353_2170 : cd 353 2170 = some (.aload_n 0, 1) := by decide +kernel
theorem k_353_2171 : cd 353 2171 = some (.iload 4, 2) := by decide +kernel
theorem k_353_2173 : cd 353 2173 = some (.iconst 1, 1) := by decide +kernel
theorem k_353_2174 : cd 353 2174 = some (.iadd, 1) := by decide +kernel
theorem k_353_2175 : cd 353 2175 = some (.iaload, 1) := by decide +kernel
theorem k_353_2176 : cd 353 2176 = some (.aload_n 0, 1) := by decide +kernel
theorem k_353_2177 : cd 353 2177 = some (.iload 4, 2) := by decide +kernel
theorem k_353_2179 : cd 353 2179 = some (.iconst 2, 1) := by decide +kernel
theorem k_353_2180 : cd 353 2180 = some (.iadd, 1) := by decide +kernel
theorem k_353_2181 : cd 353 2181 = some (.iaload, 1) := by decide +kernel
theorem k_353_2182 : cd 353 2182 = some (.aload_n 0, 1) := by decide +kernel
theorem k_353_2183 : cd 353 2183 = some (.iload 4, 2) := by decide +kernel
theorem k_353_2185 : cd 353 2185 = some (.iconst 3, 1) := by decide +kernel
theorem k_353_2186 : cd 353 2186 = some (.iadd, 1) := by decide +kernel
theorem k_353_2187 : cd 353 2187 = some (.iaload, 1) := by decide +kernel
theorem k_353_2188 : cd 353 2188 = some (.aload_n 3, 1) := by decide +kernel
theorem k_353_2189 : cd 353 2189 = some (.invokestatic 224, 3) := by decide +kernel
theorem k_353_2192 : cd 353 2192 = some (.istore 5, 2) := by decide +kernel
theorem k_353_2194 : cd 353 2194 = some (.aload_n 2, 1) := by decide +kernel
theorem k_353_2195 : cd 353 2195 = some (.aload_n 0, 1) := by decide +kernel
theorem k_353_2196 : cd 353 2196 = some (.iload 4, 2) := by decide +kernel
theorem k_353_2198 : cd 353 2198 = some (.iconst 1, 1) := by decide +kernel
theorem k_353_2199 : cd 353 2199 = some (.iadd, 1) := by decide +kernel
theorem k_353_2200 : cd 353 2200 = some (.iaload, 1) := by decide +kernel
theorem k_353_2201 : cd 353 2201 = some (.aload_n 0, 1) := by decide +kernel
theorem k_353_2202 : cd 353 2202 = some (.iload 4, 2) := by decide +kernel
theorem k_353_2204 : cd 353 2204 = some (.iconst 2, 1) := by decide +kernel
theorem k_353_2205 : cd 353 2205 = some (.iadd, 1) := by decide +kernel
theorem k_353_2206 : cd 353 2206 = some (.iaload, 1) := by decide +kernel
theorem k_353_2207 : cd 353 2207 = some (.aload_n 0, 1) := by decide +kernel
theorem k_353_2208 : cd 353 2208 = some (.iload 4, 2) := by decide +kernel
theorem k_353_2210 : cd 353 2210 = some (.iconst 3, 1) := by decide +kernel
theorem k_353_2211 : cd 353 2211 = some (.iadd, 1) := by decide +kernel
theorem k_353_2212 : cd 353 2212 = some (.iaload, 1) := by decide +kernel
theorem k_353_2213 : cd 353 2213 = some (.invokevirtual 226, 3) := by decide +kernel
theorem k_353_2216 : cd 353 2216 = some (.istore 6, 2) := by decide +kernel
theorem k_353_2218 : cd 353 2218 = some (.aload_n 2, 1) := by decide +kernel
theorem k_353_2219 : cd 353 2219 = some (.invokevirtual 123, 3) := by decide +kernel
theorem k_353_2222 : cd 353 2222 = some (.iload 5, 2) := by decide +kernel
theorem k_353_2224 : cd 353 2224 = some (.if_icmp .eq 5, 3) := by decide +kernel
theorem k_353_2227 : cd 353 2227 = some (.iconst 0, 1) := by decide +kernel
theorem k_353_2228 : cd 353 2228 = some (.ireturn, 1) := by decide +kernel
theorem k_353_2229 : cd 353 2229 = some (.iload 5, 2) := by decide +kernel
theorem k_353_2231 : cd 353 2231 = some (.ifCond .ne 15, 3) := by decide +kernel
theorem k_353_2234 : cd 353 2234 = some (.aload_n 3, 1) := by decide +kernel
theorem k_353_2235 : cd 353 2235 = some (.iconst 0, 1) := by decide +kernel
theorem k_353_2236 : cd 353 2236 = some (.laload, 1) := by decide +kernel
theorem k_353_2237 : cd 353 2237 = some (.iload 6, 2) := by decide +kernel
theorem k_353_2239 : cd 353 2239 = some (.i2l, 1) := by decide +kernel
theorem k_353_2240 : cd 353 2240 = some (.lcmp, 1) := by decide +kernel
theorem k_353_2241 : cd 353 2241 = some (.ifCond .eq 5, 3) := by decide +kernel
theorem k_353_2244 : cd 353 2244 = some (.iconst 0, 1) := by decide +kernel
theorem k_353_2245 : cd 353 2245 = some (.ireturn, 1) := by decide +kernel
theorem k_353_2246 : cd 353 2246 = some (.goto 187, 3) := by decide +kernel
theorem k_353_2249 : cd 353 2249 = some (.aload_n 1, 1) := by decide +kernel
theorem k_353_2250 : cd 353 2250 = some (.aload_n 0, 1) := by decide +kernel
theorem k_353_2251 : cd 353 2251 = some (.iload 4, 2) := by decide +kernel
theorem k_353_2253 : cd 353 2253 = some (.iconst 1, 1) := by decide +kernel
theorem k_353_2254 : cd 353 2254 = some (.iadd, 1) := by decide +kernel
theorem k_353_2255 : cd 353 2255 = some (.iaload, 1) := by decide +kernel
theorem k_353_2256 : cd 353 2256 = some (.aload_n 0, 1) := by decide +kernel
theorem k_353_2257 : cd 353 2257 = some (.iload 4, 2) := by decide +kernel
theorem k_353_2259 : cd 353 2259 = some (.iconst 2, 1) := by decide +kernel
theorem k_353_2260 : cd 353 2260 = some (.iadd, 1) := by decide +kernel
theorem k_353_2261 : cd 353 2261 = some (.iaload, 1) := by decide +kernel
theorem k_353_2262 : cd 353 2262 = some (.aload_n 0, 1) := by decide +kernel
theorem k_353_2263 : cd 353 2263 = some (.iload 4, 2) := by decide +kernel
theorem k_353_2265 : cd 353 2265 = some (.iconst 3, 1) := by decide +kernel
theorem k_353_2266 : cd 353 2266 = some (.iadd, 1) := by decide +kernel
theorem k_353_2267 : cd 353 2267 = some (.iaload, 1) := by decide +kernel
theorem k_353_2268 : cd 353 2268 = some (.aload_n 3, 1) := by decide +kernel
theorem k_353_2269 : cd 353 2269 = some (.invokestatic 227, 3) := by decide +kernel
theorem k_353_2272 : cd 353 2272 = some (.istore 5, 2) := by decide +kernel
theorem k_353_2274 : cd 353 2274 = some (.aload_n 2, 1) := by decide +kernel
theorem k_353_2275 : cd 353 2275 = some (.aload_n 0, 1) := by decide +kernel
theorem k_353_2276 : cd 353 2276 = some (.iload 4, 2) := by decide +kernel
theorem k_353_2278 : cd 353 2278 = some (.iconst 1, 1) := by decide +kernel
theorem k_353_2279 : cd 353 2279 = some (.iadd, 1) := by decide +kernel
theorem k_353_2280 : cd 353 2280 = some (.iaload, 1) := by decide +kernel
theorem k_353_2281 : cd 353 2281 = some (.aload_n 0, 1) := by decide +kernel
theorem k_353_2282 : cd 353 2282 = some (.iload 4, 2) := by decide +kernel
theorem k_353_2284 : cd 353 2284 = some (.iconst 2, 1) := by decide +kernel
theorem k_353_2285 : cd 353 2285 = some (.iadd, 1) := by decide +kernel
theorem k_353_2286 : cd 353 2286 = some (.iaload, 1) := by decide +kernel
theorem k_353_2287 : cd 353 2287 = some (.aload_n 0, 1) := by decide +kernel
theorem k_353_2288 : cd 353 2288 = some (.iload 4, 2) := by decide +kernel
theorem k_353_2290 : cd 353 2290 = some (.iconst 3, 1) := by decide +kernel
theorem k_353_2291 : cd 353 2291 = some (.iadd, 1) := by decide +kernel
theorem k_353_2292 : cd 353 2292 = some (.iaload, 1) := by decide +kernel
theorem k_353_2293 : cd 353 2293 = some (.invokevirtual 229, 3) := by decide +kernel
theorem k_353_2296 : cd 353 2296 = some (.istore 6, 2) := by decide +kernel
theorem k_353_2298 : cd 353 2298 = some (.aload_n 2, 1) := by decide +kernel
theorem k_353_2299 : cd 353 2299 = some (.invokevirtual 123, 3) := by decide +kernel
theorem k_353_2302 : cd 353 2302 = some (.iload 5, 2) := by decide +kernel
theorem k_353_2304 : cd 353 2304 = some (.if_icmp .eq 5, 3) := by decide +kernel
theorem k_353_2307 : cd 353 2307 = some (.iconst 0, 1) := by decide +kernel
theorem k_353_2308 : cd 353 2308 = some (.ireturn, 1) := by decide +kernel
theorem k_353_2309 : cd 353 2309 = some (.iload 5, 2) := by decide +kernel
theorem k_353_2311 : cd 353 2311 = some (.ifCond .ne 15, 3) := by decide +kernel
theorem k_353_2314 : cd 353 2314 = some (.aload_n 3, 1) := by decide +kernel
theorem k_353_2315 : cd 353 2315 = some (.iconst 0, 1) := by decide +kernel
theorem k_353_2316 : cd 353 2316 = some (.laload, 1) := by decide +kernel
theorem k_353_2317 : cd 353 2317 = some (.iload 6, 2) := by decide +kernel
theorem k_353_2319 : cd 353 2319 = some (.i2l, 1) := by decide +kernel
theorem k_353_2320 : cd 353 2320 = some (.lcmp, 1) := by decide +kernel
theorem k_353_2321 : cd 353 2321 = some (.ifCond .eq 5, 3) := by decide +kernel
theorem k_353_2324 : cd 353 2324 = some (.iconst 0, 1) := by decide +kernel
theorem k_353_2325 : cd 353 2325 = some (.ireturn, 1) := by decide +kernel
theorem k_353_2326 : cd 353 2326 = some (.goto 107, 3) := by decide +kernel
theorem k_353_2329 : cd 353 2329 = some (.aload_n 1, 1) := by decide +kernel
theorem k_353_2330 : cd 353 2330 = some (.aload_n 0, 1) := by decide +kernel
theorem k_353_2331 : cd 353 2331 = some (.iload 4, 2) := by decide +kernel
theorem k_353_2333 : cd 353 2333 = some (.iconst 1, 1) := by decide +kernel
theorem k_353_2334 : cd 353 2334 = some (.iadd, 1) := by decide +kernel
theorem k_353_2335 : cd 353 2335 = some (.iaload, 1) := by decide +kernel
theorem k_353_2336 : cd 353 2336 = some (.aload_n 0, 1) := by decide +kernel
theorem k_353_2337 : cd 353 2337 = some (.iload 4, 2) := by decide +kernel
theorem k_353_2339 : cd 353 2339 = some (.iconst 2, 1) := by decide +kernel
theorem k_353_2340 : cd 353 2340 = some (.iadd, 1) := by decide +kernel
theorem k_353_2341 : cd 353 2341 = some (.iaload, 1) := by decide +kernel
theorem k_353_2342 : cd 353 2342 = some (.aload_n 0, 1) := by decide +kernel
theorem k_353_2343 : cd 353 2343 = some (.iload 4, 2) := by decide +kernel
theorem k_353_2345 : cd 353 2345 = some (.iconst 3, 1) := by decide +kernel
theorem k_353_2346 : cd 353 2346 = some (.iadd, 1) := by decide +kernel
theorem k_353_2347 : cd 353 2347 = some (.iaload, 1) := by decide +kernel
theorem k_353_2348 : cd 353 2348 = some (.aload_n 3, 1) := by decide +kernel
theorem k_353_2349 : cd 353 2349 = some (.invokestatic 230, 3) := by decide +kernel
theorem k_353_2352 : cd 353 2352 = some (.istore 5, 2) := by decide +kernel
theorem k_353_2354 : cd 353 2354 = some (.aload_n 2, 1) := by decide +kernel
theorem k_353_2355 : cd 353 2355 = some (.aload_n 0, 1) := by decide +kernel
theorem k_353_2356 : cd 353 2356 = some (.iload 4, 2) := by decide +kernel
theorem k_353_2358 : cd 353 2358 = some (.iconst 1, 1) := by decide +kernel
theorem k_353_2359 : cd 353 2359 = some (.iadd, 1) := by decide +kernel
theorem k_353_2360 : cd 353 2360 = some (.iaload, 1) := by decide +kernel
theorem k_353_2361 : cd 353 2361 = some (.aload_n 0, 1) := by decide +kernel
theorem k_353_2362 : cd 353 2362 = some (.iload 4, 2) := by decide +kernel
theorem k_353_2364 : cd 353 2364 = some (.iconst 2, 1) := by decide +kernel
theorem k_353_2365 : cd 353 2365 = some (.iadd, 1) := by decide +kernel
theorem k_353_2366 : cd 353 2366 = some (.iaload, 1) := by decide +kernel
theorem k_353_2367 : cd 353 2367 = some (.aload_n 0, 1) := by decide +kernel
theorem k_353_2368 : cd 353 2368 = some (.iload 4, 2) := by decide +kernel
theorem k_353_2370 : cd 353 2370 = some (.iconst 3, 1) := by decide +kernel
theorem k_353_2371 : cd 353 2371 = some (.iadd, 1) := by decide +kernel
theorem k_353_2372 : cd 353 2372 = some (.iaload, 1) := by decide +kernel
theorem k_353_2373 : cd 353 2373 = some (.invokevirtual 232, 3) := by decide +kernel
theorem k_353_2376 : cd 353 2376 = some (.istore 6, 2) := by decide +kernel
theorem k_353_2378 : cd 353 2378 = some (.aload_n 2, 1) := by decide +kernel
theorem k_353_2379 : cd 353 2379 = some (.invokevirtual 123, 3) := by decide +kernel
theorem k_353_2382 : cd 353 2382 = some (.iload 5, 2) := by decide +kernel
theorem k_353_2384 : cd 353 2384 = some (.if_icmp .eq 5, 3) := by decide +kernel
theorem k_353_2387 : cd 353 2387 = some (.iconst 0, 1) := by decide +kernel
theorem k_353_2388 : cd 353 2388 = some (.ireturn, 1) := by decide +kernel
theorem k_353_2389 : cd 353 2389 = some (.iload 5, 2) := by decide +kernel
theorem k_353_2391 : cd 353 2391 = some (.ifCond .ne 15, 3) := by decide +kernel
theorem k_353_2394 : cd 353 2394 = some (.aload_n 3, 1) := by decide +kernel
theorem k_353_2395 : cd 353 2395 = some (.iconst 0, 1) := by decide +kernel
theorem k_353_2396 : cd 353 2396 = some (.laload, 1) := by decide +kernel
theorem k_353_2397 : cd 353 2397 = some (.iload 6, 2) := by decide +kernel
theorem k_353_2399 : cd 353 2399 = some (.i2l, 1) := by decide +kernel
theorem k_353_2400 : cd 353 2400 = some (.lcmp, 1) := by decide +kernel
theorem k_353_2401 : cd 353 2401 = some (.ifCond .eq 5, 3) := by decide +kernel
theorem k_353_2404 : cd 353 2404 = some (.iconst 0, 1) := by decide +kernel
theorem k_353_2405 : cd 353 2405 = some (.ireturn, 1) := by decide +kernel
theorem k_353_2406 : cd 353 2406 = some (.goto 27, 3) := by decide +kernel
theorem k_353_2409 : cd 353 2409 = some (.aload_n 1, 1) := by decide +kernel
theorem k_353_2410 : cd 353 2410 = some (.invokevirtual 233, 3) := by decide +kernel
theorem k_353_2413 : cd 353 2413 = some (.aload_n 2, 1) := by decide +kernel
theorem k_353_2414 : cd 353 2414 = some (.invokevirtual 236, 3) := by decide +kernel
theorem k_353_2417 : cd 353 2417 = some (.goto 16, 3) := by decide +kernel
theorem k_353_2420 : cd 353 2420 = some (.aload_n 1, 1) := by decide +kernel
theorem k_353_2421 : cd 353 2421 = some (.invokevirtual 237, 3) := by decide +kernel
theorem k_353_2424 : cd 353 2424 = some (.aload_n 2, 1) := by decide +kernel
theorem k_353_2425 : cd 353 2425 = some (.invokevirtual 241, 3) := by decide +kernel
theorem k_353_2428 : cd 353 2428 = some (.if_icmp .eq 5, 3) := by decide +kernel
theorem k_353_2431 : cd 353 2431 = some (.iconst 0, 1) := by decide +kernel
theorem k_353_2432 : cd 353 2432 = some (.ireturn, 1) := by decide +kernel
theorem k_353_2433 : cd 353 2433 = some (.iinc 4 6, 3) := by decide +kernel
theorem k_353_2436 : cd 353 2436 = some (.goto (-2413), 3) := by decide +kernel
theorem k_353_2439 : cd 353 2439 = some (.iconst 1, 1) := by decide +kernel
theorem k_353_2440 : cd 353 2440 = some (.ireturn, 1) := by decide +kernel
theorem po_353 : po 353 = 12 := rfl
noncomputable def C_353_23  (x4 : Int32) (v5 : Value) (v6 : Value) (σ : pS) : Option pZ := den 353 0 23 [.ref 3000, .ref 0, .ref 61, .ref 98, .int x4, v5, v6] [] σ
noncomputable def C_353_204  (x4 : Int32) (v5 : Value) (v6 : Value) (σ : pS) : Option pZ := den 353 0 204 [.ref 3000, .ref 0, .ref 61, .ref 98, .int x4, v5, v6] [] σ
noncomputable def C_353_277  (x4 : Int32) (v5 : Value) (v6 : Value) (σ : pS) : Option pZ := den 353 0 277 [.ref 3000, .ref 0, .ref 61, .ref 98, .int x4, v5, v6] [] σ
noncomputable def C_353_333  (x4 : Int32) (v5 : Value) (v6 : Value) (σ : pS) : Option pZ := den 353 0 333 [.ref 3000, .ref 0, .ref 61, .ref 98, .int x4, v5, v6] [] σ
noncomputable def C_353_346  (x4 : Int32) (v5 : Value) (v6 : Value) (σ : pS) : Option pZ := den 353 0 346 [.ref 3000, .ref 0, .ref 61, .ref 98, .int x4, v5, v6] [] σ
noncomputable def C_353_402  (x4 : Int32) (v5 : Value) (v6 : Value) (σ : pS) : Option pZ := den 353 0 402 [.ref 3000, .ref 0, .ref 61, .ref 98, .int x4, v5, v6] [] σ
noncomputable def C_353_470  (x4 : Int32) (v5 : Value) (v6 : Value) (σ : pS) : Option pZ := den 353 0 470 [.ref 3000, .ref 0, .ref 61, .ref 98, .int x4, v5, v6] [] σ
noncomputable def C_353_538  (x4 : Int32) (v5 : Value) (v6 : Value) (σ : pS) : Option pZ := den 353 0 538 [.ref 3000, .ref 0, .ref 61, .ref 98, .int x4, v5, v6] [] σ
noncomputable def C_353_618  (x4 : Int32) (v5 : Value) (v6 : Value) (σ : pS) : Option pZ := den 353 0 618 [.ref 3000, .ref 0, .ref 61, .ref 98, .int x4, v5, v6] [] σ
noncomputable def C_353_643  (x4 : Int32) (v5 : Value) (v6 : Value) (σ : pS) : Option pZ := den 353 0 643 [.ref 3000, .ref 0, .ref 61, .ref 98, .int x4, v5, v6] [] σ
noncomputable def C_353_711  (x4 : Int32) (v5 : Value) (v6 : Value) (σ : pS) : Option pZ := den 353 0 711 [.ref 3000, .ref 0, .ref 61, .ref 98, .int x4, v5, v6] [] σ
noncomputable def C_353_767  (x4 : Int32) (v5 : Value) (v6 : Value) (σ : pS) : Option pZ := den 353 0 767 [.ref 3000, .ref 0, .ref 61, .ref 98, .int x4, v5, v6] [] σ
noncomputable def C_353_823  (x4 : Int32) (v5 : Value) (v6 : Value) (σ : pS) : Option pZ := den 353 0 823 [.ref 3000, .ref 0, .ref 61, .ref 98, .int x4, v5, v6] [] σ
noncomputable def C_353_891  (x4 : Int32) (v5 : Value) (v6 : Value) (σ : pS) : Option pZ := den 353 0 891 [.ref 3000, .ref 0, .ref 61, .ref 98, .int x4, v5, v6] [] σ
noncomputable def C_353_971  (x4 : Int32) (v5 : Value) (v6 : Value) (σ : pS) : Option pZ := den 353 0 971 [.ref 3000, .ref 0, .ref 61, .ref 98, .int x4, v5, v6] [] σ
noncomputable def C_353_998  (x4 : Int32) (v5 : Value) (v6 : Value) (s1 : Int32) (s2 : Int32) (s3 : Int32) (σ : pS) : Option pZ := den 353 0 998 [.ref 3000, .ref 0, .ref 61, .ref 98, .int x4, v5, v6] [.int s3, .int s2, .int s1, .ref 0] σ
noncomputable def C_353_1031  (x4 : Int32) (x5 : Int32) (v6 : Value) (s1 : Int32) (s2 : Int32) (s3 : Int32) (σ : pS) : Option pZ := den 353 0 1031 [.ref 3000, .ref 0, .ref 61, .ref 98, .int x4, .int x5, v6] [.int s3, .int s2, .int s1, .ref 61] σ
noncomputable def C_353_1074  (x4 : Int32) (v5 : Value) (v6 : Value) (σ : pS) : Option pZ := den 353 0 1074 [.ref 3000, .ref 0, .ref 61, .ref 98, .int x4, v5, v6] [] σ
noncomputable def C_353_1087  (x4 : Int32) (v5 : Value) (v6 : Value) (σ : pS) : Option pZ := den 353 0 1087 [.ref 3000, .ref 0, .ref 61, .ref 98, .int x4, v5, v6] [] σ
noncomputable def C_353_1167  (x4 : Int32) (v5 : Value) (v6 : Value) (σ : pS) : Option pZ := den 353 0 1167 [.ref 3000, .ref 0, .ref 61, .ref 98, .int x4, v5, v6] [] σ
noncomputable def C_353_1247  (x4 : Int32) (v5 : Value) (v6 : Value) (σ : pS) : Option pZ := den 353 0 1247 [.ref 3000, .ref 0, .ref 61, .ref 98, .int x4, v5, v6] [] σ
noncomputable def C_353_1303  (x4 : Int32) (v5 : Value) (v6 : Value) (σ : pS) : Option pZ := den 353 0 1303 [.ref 3000, .ref 0, .ref 61, .ref 98, .int x4, v5, v6] [] σ
noncomputable def C_353_1383  (x4 : Int32) (v5 : Value) (v6 : Value) (σ : pS) : Option pZ := den 353 0 1383 [.ref 3000, .ref 0, .ref 61, .ref 98, .int x4, v5, v6] [] σ
noncomputable def C_353_1451  (x4 : Int32) (v5 : Value) (v6 : Value) (σ : pS) : Option pZ := den 353 0 1451 [.ref 3000, .ref 0, .ref 61, .ref 98, .int x4, v5, v6] [] σ
noncomputable def C_353_1519  (x4 : Int32) (v5 : Value) (v6 : Value) (σ : pS) : Option pZ := den 353 0 1519 [.ref 3000, .ref 0, .ref 61, .ref 98, .int x4, v5, v6] [] σ
noncomputable def C_353_1575  (x4 : Int32) (v5 : Value) (v6 : Value) (σ : pS) : Option pZ := den 353 0 1575 [.ref 3000, .ref 0, .ref 61, .ref 98, .int x4, v5, v6] [] σ
noncomputable def C_353_1650  (x4 : Int32) (v5 : Value) (v6 : Value) (σ : pS) : Option pZ := den 353 0 1650 [.ref 3000, .ref 0, .ref 61, .ref 98, .int x4, v5, v6] [] σ
noncomputable def C_353_1706  (x4 : Int32) (v5 : Value) (v6 : Value) (σ : pS) : Option pZ := den 353 0 1706 [.ref 3000, .ref 0, .ref 61, .ref 98, .int x4, v5, v6] [] σ
noncomputable def C_353_1774  (x4 : Int32) (v5 : Value) (v6 : Value) (σ : pS) : Option pZ := den 353 0 1774 [.ref 3000, .ref 0, .ref 61, .ref 98, .int x4, v5, v6] [] σ
noncomputable def C_353_1842  (x4 : Int32) (v5 : Value) (v6 : Value) (σ : pS) : Option pZ := den 353 0 1842 [.ref 3000, .ref 0, .ref 61, .ref 98, .int x4, v5, v6] [] σ
noncomputable def C_353_1910  (x4 : Int32) (v5 : Value) (v6 : Value) (σ : pS) : Option pZ := den 353 0 1910 [.ref 3000, .ref 0, .ref 61, .ref 98, .int x4, v5, v6] [] σ
noncomputable def C_353_1966  (x4 : Int32) (v5 : Value) (v6 : Value) (σ : pS) : Option pZ := den 353 0 1966 [.ref 3000, .ref 0, .ref 61, .ref 98, .int x4, v5, v6] [] σ
noncomputable def C_353_2046  (x4 : Int32) (v5 : Value) (v6 : Value) (σ : pS) : Option pZ := den 353 0 2046 [.ref 3000, .ref 0, .ref 61, .ref 98, .int x4, v5, v6] [] σ
noncomputable def C_353_2102  (x4 : Int32) (v5 : Value) (v6 : Value) (σ : pS) : Option pZ := den 353 0 2102 [.ref 3000, .ref 0, .ref 61, .ref 98, .int x4, v5, v6] [] σ
noncomputable def C_353_2158  (x4 : Int32) (v5 : Value) (v6 : Value) (σ : pS) : Option pZ := den 353 0 2158 [.ref 3000, .ref 0, .ref 61, .ref 98, .int x4, v5, v6] [] σ
noncomputable def C_353_2169  (x4 : Int32) (v5 : Value) (v6 : Value) (σ : pS) : Option pZ := den 353 0 2169 [.ref 3000, .ref 0, .ref 61, .ref 98, .int x4, v5, v6] [] σ
noncomputable def C_353_2249  (x4 : Int32) (v5 : Value) (v6 : Value) (σ : pS) : Option pZ := den 353 0 2249 [.ref 3000, .ref 0, .ref 61, .ref 98, .int x4, v5, v6] [] σ
noncomputable def C_353_2329  (x4 : Int32) (v5 : Value) (v6 : Value) (σ : pS) : Option pZ := den 353 0 2329 [.ref 3000, .ref 0, .ref 61, .ref 98, .int x4, v5, v6] [] σ
noncomputable def C_353_2409  (x4 : Int32) (v5 : Value) (v6 : Value) (σ : pS) : Option pZ := den 353 0 2409 [.ref 3000, .ref 0, .ref 61, .ref 98, .int x4, v5, v6] [] σ
noncomputable def C_353_2420  (x4 : Int32) (v5 : Value) (v6 : Value) (σ : pS) : Option pZ := den 353 0 2420 [.ref 3000, .ref 0, .ref 61, .ref 98, .int x4, v5, v6] [] σ
noncomputable def C_353_2433  (x4 : Int32) (v5 : Value) (v6 : Value) (σ : pS) : Option pZ := den 353 0 2433 [.ref 3000, .ref 0, .ref 61, .ref 98, .int x4, v5, v6] [] σ
set_option maxRecDepth 100000 in
theorem T_353_23  {x4 : Int32} {v5 : Value} {v6 : Value}  {σ : pS} {ρ : Nat → Nat → Option Nat} (e : gR σ = ρ) (hL : LayR ρ) : Le
  (if ((ι (psc σ).1) - (ι 6)) < x4 then some (1, .int (ι 1), σ) else gd (inb x4 (psc σ).1) (if (((psc σ).2 (ix x4)) &&& (ι 63)) = (ι 0) then C_353_204 x4 v5 v6 σ else if (((psc σ).2 (ix x4)) &&& (ι 63)) = (ι 1) then C_353_277 x4 v5 v6 σ else if (((psc σ).2 (ix x4)) &&& (ι 63)) = (ι 2) then C_353_333 x4 v5 v6 σ else if (((psc σ).2 (ix x4)) &&& (ι 63)) = (ι 3) then C_353_346 x4 v5 v6 σ else if (((psc σ).2 (ix x4)) &&& (ι 63)) = (ι 4) then C_353_402 x4 v5 v6 σ else if (((psc σ).2 (ix x4)) &&& (ι 63)) = (ι 5) then C_353_470 x4 v5 v6 σ else if (((psc σ).2 (ix x4)) &&& (ι 63)) = (ι 6) then C_353_538 x4 v5 v6 σ else if (((psc σ).2 (ix x4)) &&& (ι 63)) = (ι 7) then C_353_618 x4 v5 v6 σ else if (((psc σ).2 (ix x4)) &&& (ι 63)) = (ι 8) then C_353_643 x4 v5 v6 σ else if (((psc σ).2 (ix x4)) &&& (ι 63)) = (ι 9) then C_353_711 x4 v5 v6 σ else if (((psc σ).2 (ix x4)) &&& (ι 63)) = (ι 10) then C_353_767 x4 v5 v6 σ else if (((psc σ).2 (ix x4)) &&& (ι 63)) = (ι 11) then C_353_823 x4 v5 v6 σ else if (((psc σ).2 (ix x4)) &&& (ι 63)) = (ι 12) then C_353_891 x4 v5 v6 σ else if (((psc σ).2 (ix x4)) &&& (ι 63)) = (ι 13) then C_353_971 x4 v5 v6 σ else if (((psc σ).2 (ix x4)) &&& (ι 63)) = (ι 14) then C_353_1074 x4 v5 v6 σ else if (((psc σ).2 (ix x4)) &&& (ι 63)) = (ι 15) then C_353_1087 x4 v5 v6 σ else if (((psc σ).2 (ix x4)) &&& (ι 63)) = (ι 16) then C_353_1167 x4 v5 v6 σ else if (((psc σ).2 (ix x4)) &&& (ι 63)) = (ι 17) then C_353_1247 x4 v5 v6 σ else if (((psc σ).2 (ix x4)) &&& (ι 63)) = (ι 18) then C_353_1303 x4 v5 v6 σ else if (((psc σ).2 (ix x4)) &&& (ι 63)) = (ι 19) then C_353_1383 x4 v5 v6 σ else if (((psc σ).2 (ix x4)) &&& (ι 63)) = (ι 20) then C_353_1451 x4 v5 v6 σ else if (((psc σ).2 (ix x4)) &&& (ι 63)) = (ι 21) then C_353_1519 x4 v5 v6 σ else if (((psc σ).2 (ix x4)) &&& (ι 63)) = (ι 22) then C_353_1575 x4 v5 v6 σ else if (((psc σ).2 (ix x4)) &&& (ι 63)) = (ι 23) then C_353_1650 x4 v5 v6 σ else if (((psc σ).2 (ix x4)) &&& (ι 63)) = (ι 24) then C_353_1706 x4 v5 v6 σ else if (((psc σ).2 (ix x4)) &&& (ι 63)) = (ι 25) then C_353_1774 x4 v5 v6 σ else if (((psc σ).2 (ix x4)) &&& (ι 63)) = (ι 26) then C_353_1842 x4 v5 v6 σ else if (((psc σ).2 (ix x4)) &&& (ι 63)) = (ι 27) then C_353_1910 x4 v5 v6 σ else if (((psc σ).2 (ix x4)) &&& (ι 63)) = (ι 28) then C_353_1966 x4 v5 v6 σ else if (((psc σ).2 (ix x4)) &&& (ι 63)) = (ι 29) then C_353_2046 x4 v5 v6 σ else if (((psc σ).2 (ix x4)) &&& (ι 63)) = (ι 30) then C_353_2102 x4 v5 v6 σ else if (((psc σ).2 (ix x4)) &&& (ι 63)) = (ι 31) then C_353_2158 x4 v5 v6 σ else if (((psc σ).2 (ix x4)) &&& (ι 63)) = (ι 32) then C_353_2169 x4 v5 v6 σ else if (((psc σ).2 (ix x4)) &&& (ι 63)) = (ι 33) then C_353_2249 x4 v5 v6 σ else if (((psc σ).2 (ix x4)) &&& (ι 63)) = (ι 34) then C_353_2329 x4 v5 v6 σ else if (((psc σ).2 (ix x4)) &&& (ι 63)) = (ι 35) then C_353_2409 x4 v5 v6 σ else if (((psc σ).2 (ix x4)) &&& (ι 63)) = (ι 36) then C_353_2420 x4 v5 v6 σ else gd ((((psc σ).2 (ix x4)) &&& (ι 63)).toInt < 0 ∨ 36 < (((psc σ).2 (ix x4)) &&& (ι 63)).toInt) (C_353_2433 x4 v5 v6 σ)))
  (C_353_23  x4 v5 v6 σ) := by
  unfold C_353_23
  exact r_iload k_353_23 rfl rfl
    (r_aload_n k_353_25 rfl rfl
    (r_alenS k_353_26 rfl
    (r_bipush k_353_27 rfl rfl
    (r_isub k_353_29 rfl
    (r_icmp (tgt := 2439) k_353_30 rfl rfl cop_gt
    (r_iconst k_353_2439 rfl rfl
    (r_ret k_353_2440 rfl rfl))
    (r_aload_n k_353_33 rfl rfl
    (r_iload k_353_34 rfl rfl
    (r_gd fun g => r_ialdS k_353_36 rfl g
    (r_bipush k_353_37 rfl rfl
    (r_iand k_353_39 rfl
    (r_case (fun c37 => r_tabGo (off := 164) (tgt := 204) c37 k_353_40 (by decide) (by decide) rfl (Le.rfl')) (fun _ => r_case (fun c36 => r_tabGo (off := 237) (tgt := 277) c36 k_353_40 (by decide) (by decide) rfl (Le.rfl')) (fun _ => r_case (fun c35 => r_tabGo (off := 293) (tgt := 333) c35 k_353_40 (by decide) (by decide) rfl (Le.rfl')) (fun _ => r_case (fun c34 => r_tabGo (off := 306) (tgt := 346) c34 k_353_40 (by decide) (by decide) rfl (Le.rfl')) (fun _ => r_case (fun c33 => r_tabGo (off := 362) (tgt := 402) c33 k_353_40 (by decide) (by decide) rfl (Le.rfl')) (fun _ => r_case (fun c32 => r_tabGo (off := 430) (tgt := 470) c32 k_353_40 (by decide) (by decide) rfl (Le.rfl')) (fun _ => r_case (fun c31 => r_tabGo (off := 498) (tgt := 538) c31 k_353_40 (by decide) (by decide) rfl (Le.rfl')) (fun _ => r_case (fun c30 => r_tabGo (off := 578) (tgt := 618) c30 k_353_40 (by decide) (by decide) rfl (Le.rfl')) (fun _ => r_case (fun c29 => r_tabGo (off := 603) (tgt := 643) c29 k_353_40 (by decide) (by decide) rfl (Le.rfl')) (fun _ => r_case (fun c28 => r_tabGo (off := 671) (tgt := 711) c28 k_353_40 (by decide) (by decide) rfl (Le.rfl')) (fun _ => r_case (fun c27 => r_tabGo (off := 727) (tgt := 767) c27 k_353_40 (by decide) (by decide) rfl (Le.rfl')) (fun _ => r_case (fun c26 => r_tabGo (off := 783) (tgt := 823) c26 k_353_40 (by decide) (by decide) rfl (Le.rfl')) (fun _ => r_case (fun c25 => r_tabGo (off := 851) (tgt := 891) c25 k_353_40 (by decide) (by decide) rfl (Le.rfl')) (fun _ => r_case (fun c24 => r_tabGo (off := 931) (tgt := 971) c24 k_353_40 (by decide) (by decide) rfl (Le.rfl')) (fun _ => r_case (fun c23 => r_tabGo (off := 1034) (tgt := 1074) c23 k_353_40 (by decide) (by decide) rfl (Le.rfl')) (fun _ => r_case (fun c22 => r_tabGo (off := 1047) (tgt := 1087) c22 k_353_40 (by decide) (by decide) rfl (Le.rfl')) (fun _ => r_case (fun c21 => r_tabGo (off := 1127) (tgt := 1167) c21 k_353_40 (by decide) (by decide) rfl (Le.rfl')) (fun _ => r_case (fun c20 => r_tabGo (off := 1207) (tgt := 1247) c20 k_353_40 (by decide) (by decide) rfl (Le.rfl')) (fun _ => r_case (fun c19 => r_tabGo (off := 1263) (tgt := 1303) c19 k_353_40 (by decide) (by decide) rfl (Le.rfl')) (fun _ => r_case (fun c18 => r_tabGo (off := 1343) (tgt := 1383) c18 k_353_40 (by decide) (by decide) rfl (Le.rfl')) (fun _ => r_case (fun c17 => r_tabGo (off := 1411) (tgt := 1451) c17 k_353_40 (by decide) (by decide) rfl (Le.rfl')) (fun _ => r_case (fun c16 => r_tabGo (off := 1479) (tgt := 1519) c16 k_353_40 (by decide) (by decide) rfl (Le.rfl')) (fun _ => r_case (fun c15 => r_tabGo (off := 1535) (tgt := 1575) c15 k_353_40 (by decide) (by decide) rfl (Le.rfl')) (fun _ => r_case (fun c14 => r_tabGo (off := 1610) (tgt := 1650) c14 k_353_40 (by decide) (by decide) rfl (Le.rfl')) (fun _ => r_case (fun c13 => r_tabGo (off := 1666) (tgt := 1706) c13 k_353_40 (by decide) (by decide) rfl (Le.rfl')) (fun _ => r_case (fun c12 => r_tabGo (off := 1734) (tgt := 1774) c12 k_353_40 (by decide) (by decide) rfl (Le.rfl')) (fun _ => r_case (fun c11 => r_tabGo (off := 1802) (tgt := 1842) c11 k_353_40 (by decide) (by decide) rfl (Le.rfl')) (fun _ => r_case (fun c10 => r_tabGo (off := 1870) (tgt := 1910) c10 k_353_40 (by decide) (by decide) rfl (Le.rfl')) (fun _ => r_case (fun c9 => r_tabGo (off := 1926) (tgt := 1966) c9 k_353_40 (by decide) (by decide) rfl (Le.rfl')) (fun _ => r_case (fun c8 => r_tabGo (off := 2006) (tgt := 2046) c8 k_353_40 (by decide) (by decide) rfl (Le.rfl')) (fun _ => r_case (fun c7 => r_tabGo (off := 2062) (tgt := 2102) c7 k_353_40 (by decide) (by decide) rfl (Le.rfl')) (fun _ => r_case (fun c6 => r_tabGo (off := 2118) (tgt := 2158) c6 k_353_40 (by decide) (by decide) rfl (Le.rfl')) (fun _ => r_case (fun c5 => r_tabGo (off := 2129) (tgt := 2169) c5 k_353_40 (by decide) (by decide) rfl (Le.rfl')) (fun _ => r_case (fun c4 => r_tabGo (off := 2209) (tgt := 2249) c4 k_353_40 (by decide) (by decide) rfl (Le.rfl')) (fun _ => r_case (fun c3 => r_tabGo (off := 2289) (tgt := 2329) c3 k_353_40 (by decide) (by decide) rfl (Le.rfl')) (fun _ => r_case (fun c2 => r_tabGo (off := 2369) (tgt := 2409) c2 k_353_40 (by decide) (by decide) rfl (Le.rfl')) (fun _ => r_case (fun c1 => r_tabGo (off := 2380) (tgt := 2420) c1 k_353_40 (by decide) (by decide) rfl (Le.rfl')) (fun _ => r_gd fun g => r_tabOut (tgt := 2433) k_353_40 g rfl (Le.rfl')))))))))))))))))))))))))))))))))))))))))))))))))
set_option maxRecDepth 100000 in
theorem T_353_204  {x4 : Int32} {v5 : Value} {v6 : Value}  {σ : pS} {ρ : Nat → Nat → Option Nat} (e : gR σ = ρ) (hL : LayR ρ) : Le
  (gd (inb (x4 + (ι 1)) (psc σ).1) (gd (inb (x4 + (ι 2)) (psc σ).1) (gd (inb (x4 + (ι 3)) (psc σ).1) (gd (inb (x4 + (ι 4)) (psc σ).1) (gd (inb (x4 + (ι 5)) (psc σ).1) (bI (pcall 164 [.ref 0, .int ((psc σ).2 (ix (x4 + (ι 1)))), .int ((psc σ).2 (ix (x4 + (ι 2)))), .int ((psc σ).2 (ix (x4 + (ι 3)))), .int ((psc σ).2 (ix (x4 + (ι 4)))), .int ((psc σ).2 (ix (x4 + (ι 5))))] σ) fun r1 σ1 => gd (inb (x4 + (ι 1)) (psc σ1).1) (gd (inb (x4 + (ι 2)) (psc σ1).1) (gd (inb (x4 + (ι 3)) (psc σ1).1) (gd (inb (x4 + (ι 4)) (psc σ1).1) (gd (inb (x4 + (ι 5)) (psc σ1).1) (bI (pcall 209 [.ref 61, .int ((psc σ1).2 (ix (x4 + (ι 1)))), .int ((psc σ1).2 (ix (x4 + (ι 2)))), .int ((psc σ1).2 (ix (x4 + (ι 3)))), .int ((psc σ1).2 (ix (x4 + (ι 4)))), .int ((psc σ1).2 (ix (x4 + (ι 5))))] σ1) fun r2 σ2 => if r1 = r2 then C_353_2433 x4 v5 v6 σ2 else some (1, .int (ι 0), σ2))))))))))))
  (C_353_204  x4 v5 v6 σ) := by
  unfold C_353_204
  exact r_aload_n k_353_204 rfl rfl
    (r_aload_n k_353_205 rfl rfl
    (r_iload k_353_206 rfl rfl
    (r_iconst k_353_208 rfl rfl
    (r_iadd k_353_209 rfl
    (r_gd fun g => r_ialdS k_353_210 rfl g
    (r_aload_n k_353_211 rfl rfl
    (r_iload k_353_212 rfl rfl
    (r_iconst k_353_214 rfl rfl
    (r_iadd k_353_215 rfl
    (r_gd fun g => r_ialdS k_353_216 rfl g
    (r_aload_n k_353_217 rfl rfl
    (r_iload k_353_218 rfl rfl
    (r_iconst k_353_220 rfl rfl
    (r_iadd k_353_221 rfl
    (r_gd fun g => r_ialdS k_353_222 rfl g
    (r_aload_n k_353_223 rfl rfl
    (r_iload k_353_224 rfl rfl
    (r_iconst k_353_226 rfl rfl
    (r_iadd k_353_227 rfl
    (r_gd fun g => r_ialdS k_353_228 rfl g
    (r_aload_n k_353_229 rfl rfl
    (r_iload k_353_230 rfl rfl
    (r_iconst k_353_232 rfl rfl
    (r_iadd k_353_233 rfl
    (r_gd fun g => r_ialdS k_353_234 rfl g
    (r_callI (q_virt (rest := []) (as := [.int ((psc σ).2 (ix (x4 + (ι 1)))), .int ((psc σ).2 (ix (x4 + (ι 2)))), .int ((psc σ).2 (ix (x4 + (ι 3)))), .int ((psc σ).2 (ix (x4 + (ι 4)))), .int ((psc σ).2 (ix (x4 + (ι 5))))]) k_353_235 po_353 rfl rfl rfl (rcvO rfl rfl rfl) rfl rfl) (lvq (j := 0) rfl (by decide +kernel)) rfl rfl (fun r1 σ1 h1 => r_aload_n k_353_238 rfl rfl
    (r_aload_n k_353_239 rfl rfl
    (r_iload k_353_240 rfl rfl
    (r_iconst k_353_242 rfl rfl
    (r_iadd k_353_243 rfl
    (r_gd fun g => r_ialdS k_353_244 rfl g
    (r_aload_n k_353_245 rfl rfl
    (r_iload k_353_246 rfl rfl
    (r_iconst k_353_248 rfl rfl
    (r_iadd k_353_249 rfl
    (r_gd fun g => r_ialdS k_353_250 rfl g
    (r_aload_n k_353_251 rfl rfl
    (r_iload k_353_252 rfl rfl
    (r_iconst k_353_254 rfl rfl
    (r_iadd k_353_255 rfl
    (r_gd fun g => r_ialdS k_353_256 rfl g
    (r_aload_n k_353_257 rfl rfl
    (r_iload k_353_258 rfl rfl
    (r_iconst k_353_260 rfl rfl
    (r_iadd k_353_261 rfl
    (r_gd fun g => r_ialdS k_353_262 rfl g
    (r_aload_n k_353_263 rfl rfl
    (r_iload k_353_264 rfl rfl
    (r_iconst k_353_266 rfl rfl
    (r_iadd k_353_267 rfl
    (r_gd fun g => r_ialdS k_353_268 rfl g
    (r_callI (q_virt (rest := [.int r1]) (as := [.int ((psc σ1).2 (ix (x4 + (ι 1)))), .int ((psc σ1).2 (ix (x4 + (ι 2)))), .int ((psc σ1).2 (ix (x4 + (ι 3)))), .int ((psc σ1).2 (ix (x4 + (ι 4)))), .int ((psc σ1).2 (ix (x4 + (ι 5))))]) k_353_269 po_353 rfl rfl rfl (rcvO rfl rfl rfl) rfl rfl) (lvq (j := 0) rfl (by decide +kernel)) rfl rfl (fun r2 σ2 h2 => r_icmp (tgt := 2433) k_353_272 rfl rfl cop_eq
    (Le.rfl')
    (r_iconst k_353_275 rfl rfl
    (r_ret k_353_276 rfl rfl))))))))))))))))))))))))))))))))))))))))))))))))))))))))
set_option maxRecDepth 100000 in
theorem T_353_277  {x4 : Int32} {v5 : Value} {v6 : Value}  {σ : pS} {ρ : Nat → Nat → Option Nat} (e : gR σ = ρ) (hL : LayR ρ) : Le
  (gd (inb (x4 + (ι 1)) (psc σ).1) (bI (pcall 323 [.ref 0, .int ((psc σ).2 (ix (x4 + (ι 1)))), .ref 98] σ) fun r1 σ1 => gd (LayR (gR σ1)) (gd (inb (x4 + (ι 1)) (psc σ1).1) (bI (pcall 210 [.ref 61, .int ((psc σ1).2 (ix (x4 + (ι 1))))] σ1) fun r2 σ2 => gd (LayR (gR σ2)) (bI (pcall 208 [.ref 61] σ2) fun r3 σ3 => if r3 = r1 then if ¬ r1 = (ι 0) then C_353_2433 x4 (.int r1) (.int r2) σ3 else if (lg_cmp (gJ σ3 98 0) r2.toInt64) = (ι 0) then C_353_2433 x4 (.int r1) (.int r2) σ3 else some (1, .int (ι 0), σ3) else some (1, .int (ι 0), σ3))))))
  (C_353_277  x4 v5 v6 σ) := by
  unfold C_353_277
  exact r_aload_n k_353_277 rfl rfl
    (r_aload_n k_353_278 rfl rfl
    (r_iload k_353_279 rfl rfl
    (r_iconst k_353_281 rfl rfl
    (r_iadd k_353_282 rfl
    (r_gd fun g => r_ialdS k_353_283 rfl g
    (r_aload_n k_353_284 rfl rfl
    (r_callI (q_stat (rest := []) (av := [.ref 0, .int ((psc σ).2 (ix (x4 + (ι 1)))), .ref 98]) k_353_285 po_353 rfl (by decide) rfl rfl rfl rfl) (lvq (j := 0) rfl (by decide +kernel)) rfl rfl (fun r1 σ1 h1 => r_gd fun L1 => r_istore k_353_288 rfl rfl rfl
    (r_aload_n k_353_290 rfl rfl
    (r_aload_n k_353_291 rfl rfl
    (r_iload k_353_292 rfl rfl
    (r_iconst k_353_294 rfl rfl
    (r_iadd k_353_295 rfl
    (r_gd fun g => r_ialdS k_353_296 rfl g
    (r_callI (q_virt (rest := []) (as := [.int ((psc σ1).2 (ix (x4 + (ι 1))))]) k_353_297 po_353 rfl rfl rfl (rcvO rfl rfl rfl) rfl rfl) (lvq (j := 0) rfl (by decide +kernel)) rfl rfl (fun r2 σ2 h2 => r_gd fun L2 => r_istore k_353_300 rfl rfl rfl
    (r_aload_n k_353_302 rfl rfl
    (r_callI (q_virt (rest := []) (as := []) k_353_303 po_353 rfl rfl rfl (rcvO rfl rfl rfl) rfl rfl) (lvq (j := 0) rfl (by decide +kernel)) rfl rfl (fun r3 σ3 h3 => r_iload k_353_306 rfl rfl
    (r_icmp (tgt := 313) k_353_308 rfl rfl cop_eq
    (r_iload k_353_313 rfl rfl
    (r_if (tgt := 330) k_353_315 rfl rfl cop_ne
    (r_goto (tgt := 2433) k_353_330 rfl (Le.rfl'))
    (r_aload_n k_353_318 rfl rfl
    (r_iconst k_353_319 rfl rfl
    (r_lald k_353_320 rfl rfl (by decide)
    (r_iload k_353_321 rfl rfl
    (r_i2l k_353_323 rfl
    (r_lcmp k_353_324 rfl
    (r_if (tgt := 330) k_353_325 rfl rfl cop_eq
    (r_goto (tgt := 2433) k_353_330 rfl (Le.rfl'))
    (r_iconst k_353_328 rfl rfl
    (r_ret k_353_329 rfl rfl)))))))))))
    (r_iconst k_353_311 rfl rfl
    (r_ret k_353_312 rfl rfl))))))))))))))))))))))
set_option maxRecDepth 100000 in
theorem T_353_333  {x4 : Int32} {v5 : Value} {v6 : Value}  {σ : pS} {ρ : Nat → Nat → Option Nat} (e : gR σ = ρ) (hL : LayR ρ) : Le
  (bI (pcall 166 [.ref 0] σ) fun r1 σ1 => bI (pcall 239 [.ref 61] σ1) fun r2 σ2 => if r1 = r2 then C_353_2433 x4 v5 v6 σ2 else some (1, .int (ι 0), σ2))
  (C_353_333  x4 v5 v6 σ) := by
  unfold C_353_333
  exact r_aload_n k_353_333 rfl rfl
    (r_callI (q_virt (rest := []) (as := []) k_353_334 po_353 rfl rfl rfl (rcvO rfl rfl rfl) rfl rfl) (lvq (j := 0) rfl (by decide +kernel)) rfl rfl (fun r1 σ1 h1 => r_aload_n k_353_337 rfl rfl
    (r_callI (q_virt (rest := [.int r1]) (as := []) k_353_338 po_353 rfl rfl rfl (rcvO rfl rfl rfl) rfl rfl) (lvq (j := 0) rfl (by decide +kernel)) rfl rfl (fun r2 σ2 h2 => r_icmp (tgt := 2433) k_353_341 rfl rfl cop_eq
    (Le.rfl')
    (r_iconst k_353_344 rfl rfl
    (r_ret k_353_345 rfl rfl))))))
set_option maxRecDepth 100000 in
theorem T_353_346  {x4 : Int32} {v5 : Value} {v6 : Value}  {σ : pS} {ρ : Nat → Nat → Option Nat} (e : gR σ = ρ) (hL : LayR ρ) : Le
  (gd (inb (x4 + (ι 1)) (psc σ).1) (bI (pcall 324 [.ref 0, .int ((psc σ).2 (ix (x4 + (ι 1)))), .ref 98] σ) fun r1 σ1 => gd (inb (x4 + (ι 1)) (psc σ1).1) (bI (pcall 240 [.ref 61, .int ((psc σ1).2 (ix (x4 + (ι 1))))] σ1) fun r2 σ2 => bI (pcall 208 [.ref 61] σ2) fun r3 σ3 => if r3 = r1 then if ¬ r1 = (ι 0) then C_353_2433 x4 (.int r1) (.int r2) σ3 else if (lg_cmp (gJ σ3 98 0) r2.toInt64) = (ι 0) then C_353_2433 x4 (.int r1) (.int r2) σ3 else some (1, .int (ι 0), σ3) else some (1, .int (ι 0), σ3))))
  (C_353_346  x4 v5 v6 σ) := by
  unfold C_353_346
  exact r_aload_n k_353_346 rfl rfl
    (r_aload_n k_353_347 rfl rfl
    (r_iload k_353_348 rfl rfl
    (r_iconst k_353_350 rfl rfl
    (r_iadd k_353_351 rfl
    (r_gd fun g => r_ialdS k_353_352 rfl g
    (r_aload_n k_353_353 rfl rfl
    (r_callI (q_stat (rest := []) (av := [.ref 0, .int ((psc σ).2 (ix (x4 + (ι 1)))), .ref 98]) k_353_354 po_353 rfl (by decide) rfl rfl rfl rfl) (lvq (j := 0) rfl (by decide +kernel)) rfl rfl (fun r1 σ1 h1 => r_istore k_353_357 rfl rfl rfl
    (r_aload_n k_353_359 rfl rfl
    (r_aload_n k_353_360 rfl rfl
    (r_iload k_353_361 rfl rfl
    (r_iconst k_353_363 rfl rfl
    (r_iadd k_353_364 rfl
    (r_gd fun g => r_ialdS k_353_365 rfl g
    (r_callI (q_virt (rest := []) (as := [.int ((psc σ1).2 (ix (x4 + (ι 1))))]) k_353_366 po_353 rfl rfl rfl (rcvO rfl rfl rfl) rfl rfl) (lvq (j := 0) rfl (by decide +kernel)) rfl rfl (fun r2 σ2 h2 => r_istore k_353_369 rfl rfl rfl
    (r_aload_n k_353_371 rfl rfl
    (r_callI (q_virt (rest := []) (as := []) k_353_372 po_353 rfl rfl rfl (rcvO rfl rfl rfl) rfl rfl) (lvq (j := 0) rfl (by decide +kernel)) rfl rfl (fun r3 σ3 h3 => r_iload k_353_375 rfl rfl
    (r_icmp (tgt := 382) k_353_377 rfl rfl cop_eq
    (r_iload k_353_382 rfl rfl
    (r_if (tgt := 399) k_353_384 rfl rfl cop_ne
    (r_goto (tgt := 2433) k_353_399 rfl (Le.rfl'))
    (r_aload_n k_353_387 rfl rfl
    (r_iconst k_353_388 rfl rfl
    (r_lald k_353_389 rfl rfl (by decide)
    (r_iload k_353_390 rfl rfl
    (r_i2l k_353_392 rfl
    (r_lcmp k_353_393 rfl
    (r_if (tgt := 399) k_353_394 rfl rfl cop_eq
    (r_goto (tgt := 2433) k_353_399 rfl (Le.rfl'))
    (r_iconst k_353_397 rfl rfl
    (r_ret k_353_398 rfl rfl)))))))))))
    (r_iconst k_353_380 rfl rfl
    (r_ret k_353_381 rfl rfl))))))))))))))))))))))
set_option maxRecDepth 100000 in
theorem T_353_402  {x4 : Int32} {v5 : Value} {v6 : Value}  {σ : pS} {ρ : Nat → Nat → Option Nat} (e : gR σ = ρ) (hL : LayR ρ) : Le
  (gd (inb (x4 + (ι 1)) (psc σ).1) (gd (inb (x4 + (ι 2)) (psc σ).1) (bI (pcall 325 [.ref 0, .int ((psc σ).2 (ix (x4 + (ι 1)))), .int ((psc σ).2 (ix (x4 + (ι 2)))), .ref 98] σ) fun r1 σ1 => gd (inb (x4 + (ι 1)) (psc σ1).1) (gd (inb (x4 + (ι 2)) (psc σ1).1) (bI (pcall 259 [.ref 61, .int ((psc σ1).2 (ix (x4 + (ι 1)))), .int ((psc σ1).2 (ix (x4 + (ι 2))))] σ1) fun r2 σ2 => bI (pcall 208 [.ref 61] σ2) fun r3 σ3 => if r3 = r1 then if ¬ r1 = (ι 0) then C_353_2433 x4 (.int r1) (.int r2) σ3 else if (lg_cmp (gJ σ3 98 0) r2.toInt64) = (ι 0) then C_353_2433 x4 (.int r1) (.int r2) σ3 else some (1, .int (ι 0), σ3) else some (1, .int (ι 0), σ3))))))
  (C_353_402  x4 v5 v6 σ) := by
  unfold C_353_402
  exact r_aload_n k_353_402 rfl rfl
    (r_aload_n k_353_403 rfl rfl
    (r_iload k_353_404 rfl rfl
    (r_iconst k_353_406 rfl rfl
    (r_iadd k_353_407 rfl
    (r_gd fun g => r_ialdS k_353_408 rfl g
    (r_aload_n k_353_409 rfl rfl
    (r_iload k_353_410 rfl rfl
    (r_iconst k_353_412 rfl rfl
    (r_iadd k_353_413 rfl
    (r_gd fun g => r_ialdS k_353_414 rfl g
    (r_aload_n k_353_415 rfl rfl
    (r_callI (q_stat (rest := []) (av := [.ref 0, .int ((psc σ).2 (ix (x4 + (ι 1)))), .int ((psc σ).2 (ix (x4 + (ι 2)))), .ref 98]) k_353_416 po_353 rfl (by decide) rfl rfl rfl rfl) (lvq (j := 0) rfl (by decide +kernel)) rfl rfl (fun r1 σ1 h1 => r_istore k_353_419 rfl rfl rfl
    (r_aload_n k_353_421 rfl rfl
    (r_aload_n k_353_422 rfl rfl
    (r_iload k_353_423 rfl rfl
    (r_iconst k_353_425 rfl rfl
    (r_iadd k_353_426 rfl
    (r_gd fun g => r_ialdS k_353_427 rfl g
    (r_aload_n k_353_428 rfl rfl
    (r_iload k_353_429 rfl rfl
    (r_iconst k_353_431 rfl rfl
    (r_iadd k_353_432 rfl
    (r_gd fun g => r_ialdS k_353_433 rfl g
    (r_callI (q_virt (rest := []) (as := [.int ((psc σ1).2 (ix (x4 + (ι 1)))), .int ((psc σ1).2 (ix (x4 + (ι 2))))]) k_353_434 po_353 rfl rfl rfl (rcvO rfl rfl rfl) rfl rfl) (lvq (j := 0) rfl (by decide +kernel)) rfl rfl (fun r2 σ2 h2 => r_istore k_353_437 rfl rfl rfl
    (r_aload_n k_353_439 rfl rfl
    (r_callI (q_virt (rest := []) (as := []) k_353_440 po_353 rfl rfl rfl (rcvO rfl rfl rfl) rfl rfl) (lvq (j := 0) rfl (by decide +kernel)) rfl rfl (fun r3 σ3 h3 => r_iload k_353_443 rfl rfl
    (r_icmp (tgt := 450) k_353_445 rfl rfl cop_eq
    (r_iload k_353_450 rfl rfl
    (r_if (tgt := 467) k_353_452 rfl rfl cop_ne
    (r_goto (tgt := 2433) k_353_467 rfl (Le.rfl'))
    (r_aload_n k_353_455 rfl rfl
    (r_iconst k_353_456 rfl rfl
    (r_lald k_353_457 rfl rfl (by decide)
    (r_iload k_353_458 rfl rfl
    (r_i2l k_353_460 rfl
    (r_lcmp k_353_461 rfl
    (r_if (tgt := 467) k_353_462 rfl rfl cop_eq
    (r_goto (tgt := 2433) k_353_467 rfl (Le.rfl'))
    (r_iconst k_353_465 rfl rfl
    (r_ret k_353_466 rfl rfl)))))))))))
    (r_iconst k_353_448 rfl rfl
    (r_ret k_353_449 rfl rfl))))))))))))))))))))))))))))))))
set_option maxRecDepth 100000 in
theorem T_353_470  {x4 : Int32} {v5 : Value} {v6 : Value}  {σ : pS} {ρ : Nat → Nat → Option Nat} (e : gR σ = ρ) (hL : LayR ρ) : Le
  (gd (inb (x4 + (ι 1)) (psc σ).1) (gd (inb (x4 + (ι 2)) (psc σ).1) (bI (pcall 326 [.ref 0, .int ((psc σ).2 (ix (x4 + (ι 1)))), .int ((psc σ).2 (ix (x4 + (ι 2)))), .ref 98] σ) fun r1 σ1 => gd (LayR (gR σ1)) (gd (inb (x4 + (ι 1)) (psc σ1).1) (gd (inb (x4 + (ι 2)) (psc σ1).1) (bI (pcall 263 [.ref 61, .int ((psc σ1).2 (ix (x4 + (ι 1)))), .int ((psc σ1).2 (ix (x4 + (ι 2))))] σ1) fun r2 σ2 => bI (pcall 208 [.ref 61] σ2) fun r3 σ3 => if r3 = r1 then if ¬ r1 = (ι 0) then C_353_2433 x4 (.int r1) (.int r2) σ3 else if (lg_cmp (gJ σ3 98 0) r2.toInt64) = (ι 0) then C_353_2433 x4 (.int r1) (.int r2) σ3 else some (1, .int (ι 0), σ3) else some (1, .int (ι 0), σ3)))))))
  (C_353_470  x4 v5 v6 σ) := by
  unfold C_353_470
  exact r_aload_n k_353_470 rfl rfl
    (r_aload_n k_353_471 rfl rfl
    (r_iload k_353_472 rfl rfl
    (r_iconst k_353_474 rfl rfl
    (r_iadd k_353_475 rfl
    (r_gd fun g => r_ialdS k_353_476 rfl g
    (r_aload_n k_353_477 rfl rfl
    (r_iload k_353_478 rfl rfl
    (r_iconst k_353_480 rfl rfl
    (r_iadd k_353_481 rfl
    (r_gd fun g => r_ialdS k_353_482 rfl g
    (r_aload_n k_353_483 rfl rfl
    (r_callI (q_stat (rest := []) (av := [.ref 0, .int ((psc σ).2 (ix (x4 + (ι 1)))), .int ((psc σ).2 (ix (x4 + (ι 2)))), .ref 98]) k_353_484 po_353 rfl (by decide) rfl rfl rfl rfl) (lvq (j := 0) rfl (by decide +kernel)) rfl rfl (fun r1 σ1 h1 => r_gd fun L1 => r_istore k_353_487 rfl rfl rfl
    (r_aload_n k_353_489 rfl rfl
    (r_aload_n k_353_490 rfl rfl
    (r_iload k_353_491 rfl rfl
    (r_iconst k_353_493 rfl rfl
    (r_iadd k_353_494 rfl
    (r_gd fun g => r_ialdS k_353_495 rfl g
    (r_aload_n k_353_496 rfl rfl
    (r_iload k_353_497 rfl rfl
    (r_iconst k_353_499 rfl rfl
    (r_iadd k_353_500 rfl
    (r_gd fun g => r_ialdS k_353_501 rfl g
    (r_callI (q_virt (rest := []) (as := [.int ((psc σ1).2 (ix (x4 + (ι 1)))), .int ((psc σ1).2 (ix (x4 + (ι 2))))]) k_353_502 po_353 rfl rfl rfl (rcvO rfl rfl rfl) rfl rfl) (lvq (j := 0) rfl (by decide +kernel)) rfl rfl (fun r2 σ2 h2 => r_istore k_353_505 rfl rfl rfl
    (r_aload_n k_353_507 rfl rfl
    (r_callI (q_virt (rest := []) (as := []) k_353_508 po_353 rfl rfl rfl (rcvO rfl rfl rfl) rfl rfl) (lvq (j := 0) rfl (by decide +kernel)) rfl rfl (fun r3 σ3 h3 => r_iload k_353_511 rfl rfl
    (r_icmp (tgt := 518) k_353_513 rfl rfl cop_eq
    (r_iload k_353_518 rfl rfl
    (r_if (tgt := 535) k_353_520 rfl rfl cop_ne
    (r_goto (tgt := 2433) k_353_535 rfl (Le.rfl'))
    (r_aload_n k_353_523 rfl rfl
    (r_iconst k_353_524 rfl rfl
    (r_lald k_353_525 rfl rfl (by decide)
    (r_iload k_353_526 rfl rfl
    (r_i2l k_353_528 rfl
    (r_lcmp k_353_529 rfl
    (r_if (tgt := 535) k_353_530 rfl rfl cop_eq
    (r_goto (tgt := 2433) k_353_535 rfl (Le.rfl'))
    (r_iconst k_353_533 rfl rfl
    (r_ret k_353_534 rfl rfl)))))))))))
    (r_iconst k_353_516 rfl rfl
    (r_ret k_353_517 rfl rfl))))))))))))))))))))))))))))))))
set_option maxRecDepth 100000 in
theorem T_353_538  {x4 : Int32} {v5 : Value} {v6 : Value}  {σ : pS} {ρ : Nat → Nat → Option Nat} (e : gR σ = ρ) (hL : LayR ρ) : Le
  (gd (inb (x4 + (ι 1)) (psc σ).1) (gd (inb (x4 + (ι 2)) (psc σ).1) (gd (inb (x4 + (ι 3)) (psc σ).1) (bI (pcall 327 [.ref 0, .int ((psc σ).2 (ix (x4 + (ι 1)))), .int ((psc σ).2 (ix (x4 + (ι 2)))), .int ((psc σ).2 (ix (x4 + (ι 3)))), .ref 98] σ) fun r1 σ1 => gd (inb (x4 + (ι 1)) (psc σ1).1) (gd (inb (x4 + (ι 2)) (psc σ1).1) (gd (inb (x4 + (ι 3)) (psc σ1).1) (bI (pcall 267 [.ref 61, .int ((psc σ1).2 (ix (x4 + (ι 1)))), .int ((psc σ1).2 (ix (x4 + (ι 2)))), .int ((psc σ1).2 (ix (x4 + (ι 3))))] σ1) fun r2 σ2 => bI (pcall 208 [.ref 61] σ2) fun r3 σ3 => if r3 = r1 then if ¬ r1 = (ι 0) then C_353_2433 x4 (.int r1) (.int r2) σ3 else if (lg_cmp (gJ σ3 98 0) r2.toInt64) = (ι 0) then C_353_2433 x4 (.int r1) (.int r2) σ3 else some (1, .int (ι 0), σ3) else some (1, .int (ι 0), σ3))))))))
  (C_353_538  x4 v5 v6 σ) := by
  unfold C_353_538
  exact r_aload_n k_353_538 rfl rfl
    (r_aload_n k_353_539 rfl rfl
    (r_iload k_353_540 rfl rfl
    (r_iconst k_353_542 rfl rfl
    (r_iadd k_353_543 rfl
    (r_gd fun g => r_ialdS k_353_544 rfl g
    (r_aload_n k_353_545 rfl rfl
    (r_iload k_353_546 rfl rfl
    (r_iconst k_353_548 rfl rfl
    (r_iadd k_353_549 rfl
    (r_gd fun g => r_ialdS k_353_550 rfl g
    (r_aload_n k_353_551 rfl rfl
    (r_iload k_353_552 rfl rfl
    (r_iconst k_353_554 rfl rfl
    (r_iadd k_353_555 rfl
    (r_gd fun g => r_ialdS k_353_556 rfl g
    (r_aload_n k_353_557 rfl rfl
    (r_callI (q_stat (rest := []) (av := [.ref 0, .int ((psc σ).2 (ix (x4 + (ι 1)))), .int ((psc σ).2 (ix (x4 + (ι 2)))), .int ((psc σ).2 (ix (x4 + (ι 3)))), .ref 98]) k_353_558 po_353 rfl (by decide) rfl rfl rfl rfl) (lvq (j := 0) rfl (by decide +kernel)) rfl rfl (fun r1 σ1 h1 => r_istore k_353_561 rfl rfl rfl
    (r_aload_n k_353_563 rfl rfl
    (r_aload_n k_353_564 rfl rfl
    (r_iload k_353_565 rfl rfl
    (r_iconst k_353_567 rfl rfl
    (r_iadd k_353_568 rfl
    (r_gd fun g => r_ialdS k_353_569 rfl g
    (r_aload_n k_353_570 rfl rfl
    (r_iload k_353_571 rfl rfl
    (r_iconst k_353_573 rfl rfl
    (r_iadd k_353_574 rfl
    (r_gd fun g => r_ialdS k_353_575 rfl g
    (r_aload_n k_353_576 rfl rfl
    (r_iload k_353_577 rfl rfl
    (r_iconst k_353_579 rfl rfl
    (r_iadd k_353_580 rfl
    (r_gd fun g => r_ialdS k_353_581 rfl g
    (r_callI (q_virt (rest := []) (as := [.int ((psc σ1).2 (ix (x4 + (ι 1)))), .int ((psc σ1).2 (ix (x4 + (ι 2)))), .int ((psc σ1).2 (ix (x4 + (ι 3))))]) k_353_582 po_353 rfl rfl rfl (rcvO rfl rfl rfl) rfl rfl) (lvq (j := 0) rfl (by decide +kernel)) rfl rfl (fun r2 σ2 h2 => r_istore k_353_585 rfl rfl rfl
    (r_aload_n k_353_587 rfl rfl
    (r_callI (q_virt (rest := []) (as := []) k_353_588 po_353 rfl rfl rfl (rcvO rfl rfl rfl) rfl rfl) (lvq (j := 0) rfl (by decide +kernel)) rfl rfl (fun r3 σ3 h3 => r_iload k_353_591 rfl rfl
    (r_icmp (tgt := 598) k_353_593 rfl rfl cop_eq
    (r_iload k_353_598 rfl rfl
    (r_if (tgt := 615) k_353_600 rfl rfl cop_ne
    (r_goto (tgt := 2433) k_353_615 rfl (Le.rfl'))
    (r_aload_n k_353_603 rfl rfl
    (r_iconst k_353_604 rfl rfl
    (r_lald k_353_605 rfl rfl (by decide)
    (r_iload k_353_606 rfl rfl
    (r_i2l k_353_608 rfl
    (r_lcmp k_353_609 rfl
    (r_if (tgt := 615) k_353_610 rfl rfl cop_eq
    (r_goto (tgt := 2433) k_353_615 rfl (Le.rfl'))
    (r_iconst k_353_613 rfl rfl
    (r_ret k_353_614 rfl rfl)))))))))))
    (r_iconst k_353_596 rfl rfl
    (r_ret k_353_597 rfl rfl))))))))))))))))))))))))))))))))))))))))))
set_option maxRecDepth 100000 in
theorem T_353_618  {x4 : Int32} {v5 : Value} {v6 : Value}  {σ : pS} {ρ : Nat → Nat → Option Nat} (e : gR σ = ρ) (hL : LayR ρ) : Le
  (gd (inb (x4 + (ι 1)) (psc σ).1) (bI (pcall 167 [.ref 0, .int ((psc σ).2 (ix (x4 + (ι 1))))] σ) fun r1 σ1 => gd (inb (x4 + (ι 1)) (psc σ1).1) (bI (pcall 268 [.ref 61, .int ((psc σ1).2 (ix (x4 + (ι 1))))] σ1) fun r2 σ2 => if r1 = r2 then C_353_2433 x4 v5 v6 σ2 else some (1, .int (ι 0), σ2))))
  (C_353_618  x4 v5 v6 σ) := by
  unfold C_353_618
  exact r_aload_n k_353_618 rfl rfl
    (r_aload_n k_353_619 rfl rfl
    (r_iload k_353_620 rfl rfl
    (r_iconst k_353_622 rfl rfl
    (r_iadd k_353_623 rfl
    (r_gd fun g => r_ialdS k_353_624 rfl g
    (r_callI (q_virt (rest := []) (as := [.int ((psc σ).2 (ix (x4 + (ι 1))))]) k_353_625 po_353 rfl rfl rfl (rcvO rfl rfl rfl) rfl rfl) (lvq (j := 0) rfl (by decide +kernel)) rfl rfl (fun r1 σ1 h1 => r_aload_n k_353_628 rfl rfl
    (r_aload_n k_353_629 rfl rfl
    (r_iload k_353_630 rfl rfl
    (r_iconst k_353_632 rfl rfl
    (r_iadd k_353_633 rfl
    (r_gd fun g => r_ialdS k_353_634 rfl g
    (r_callI (q_virt (rest := [.int r1]) (as := [.int ((psc σ1).2 (ix (x4 + (ι 1))))]) k_353_635 po_353 rfl rfl rfl (rcvO rfl rfl rfl) rfl rfl) (lvq (j := 0) rfl (by decide +kernel)) rfl rfl (fun r2 σ2 h2 => r_icmp (tgt := 2433) k_353_638 rfl rfl cop_eq
    (Le.rfl')
    (r_iconst k_353_641 rfl rfl
    (r_ret k_353_642 rfl rfl))))))))))))))))
set_option maxRecDepth 100000 in
theorem T_353_643  {x4 : Int32} {v5 : Value} {v6 : Value}  {σ : pS} {ρ : Nat → Nat → Option Nat} (e : gR σ = ρ) (hL : LayR ρ) : Le
  (gd (inb (x4 + (ι 1)) (psc σ).1) (gd (inb (x4 + (ι 2)) (psc σ).1) (bI (pcall 328 [.ref 0, .int ((psc σ).2 (ix (x4 + (ι 1)))), .int ((psc σ).2 (ix (x4 + (ι 2)))), .ref 98] σ) fun r1 σ1 => gd (inb (x4 + (ι 1)) (psc σ1).1) (gd (inb (x4 + (ι 2)) (psc σ1).1) (bI (pcall 275 [.ref 61, .int ((psc σ1).2 (ix (x4 + (ι 1)))), .int ((psc σ1).2 (ix (x4 + (ι 2))))] σ1) fun r2 σ2 => bI (pcall 208 [.ref 61] σ2) fun r3 σ3 => if r3 = r1 then if ¬ r1 = (ι 0) then C_353_2433 x4 (.int r1) (.int r2) σ3 else if (lg_cmp (gJ σ3 98 0) r2.toInt64) = (ι 0) then C_353_2433 x4 (.int r1) (.int r2) σ3 else some (1, .int (ι 0), σ3) else some (1, .int (ι 0), σ3))))))
  (C_353_643  x4 v5 v6 σ) := by
  unfold C_353_643
  exact r_aload_n k_353_643 rfl rfl
    (r_aload_n k_353_644 rfl rfl
    (r_iload k_353_645 rfl rfl
    (r_iconst k_353_647 rfl rfl
    (r_iadd k_353_648 rfl
    (r_gd fun g => r_ialdS k_353_649 rfl g
    (r_aload_n k_353_650 rfl rfl
    (r_iload k_353_651 rfl rfl
    (r_iconst k_353_653 rfl rfl
    (r_iadd k_353_654 rfl
    (r_gd fun g => r_ialdS k_353_655 rfl g
    (r_aload_n k_353_656 rfl rfl
    (r_callI (q_stat (rest := []) (av := [.ref 0, .int ((psc σ).2 (ix (x4 + (ι 1)))), .int ((psc σ).2 (ix (x4 + (ι 2)))), .ref 98]) k_353_657 po_353 rfl (by decide) rfl rfl rfl rfl) (lvq (j := 0) rfl (by decide +kernel)) rfl rfl (fun r1 σ1 h1 => r_istore k_353_660 rfl rfl rfl
    (r_aload_n k_353_662 rfl rfl
    (r_aload_n k_353_663 rfl rfl
    (r_iload k_353_664 rfl rfl
    (r_iconst k_353_666 rfl rfl
    (r_iadd k_353_667 rfl
    (r_gd fun g => r_ialdS k_353_668 rfl g
    (r_aload_n k_353_669 rfl rfl
    (r_iload k_353_670 rfl rfl
    (r_iconst k_353_672 rfl rfl
    (r_iadd k_353_673 rfl
    (r_gd fun g => r_ialdS k_353_674 rfl g
    (r_callI (q_virt (rest := []) (as := [.int ((psc σ1).2 (ix (x4 + (ι 1)))), .int ((psc σ1).2 (ix (x4 + (ι 2))))]) k_353_675 po_353 rfl rfl rfl (rcvO rfl rfl rfl) rfl rfl) (lvq (j := 0) rfl (by decide +kernel)) rfl rfl (fun r2 σ2 h2 => r_istore k_353_678 rfl rfl rfl
    (r_aload_n k_353_680 rfl rfl
    (r_callI (q_virt (rest := []) (as := []) k_353_681 po_353 rfl rfl rfl (rcvO rfl rfl rfl) rfl rfl) (lvq (j := 0) rfl (by decide +kernel)) rfl rfl (fun r3 σ3 h3 => r_iload k_353_684 rfl rfl
    (r_icmp (tgt := 691) k_353_686 rfl rfl cop_eq
    (r_iload k_353_691 rfl rfl
    (r_if (tgt := 708) k_353_693 rfl rfl cop_ne
    (r_goto (tgt := 2433) k_353_708 rfl (Le.rfl'))
    (r_aload_n k_353_696 rfl rfl
    (r_iconst k_353_697 rfl rfl
    (r_lald k_353_698 rfl rfl (by decide)
    (r_iload k_353_699 rfl rfl
    (r_i2l k_353_701 rfl
    (r_lcmp k_353_702 rfl
    (r_if (tgt := 708) k_353_703 rfl rfl cop_eq
    (r_goto (tgt := 2433) k_353_708 rfl (Le.rfl'))
    (r_iconst k_353_706 rfl rfl
    (r_ret k_353_707 rfl rfl)))))))))))
    (r_iconst k_353_689 rfl rfl
    (r_ret k_353_690 rfl rfl))))))))))))))))))))))))))))))))
set_option maxRecDepth 100000 in
theorem T_353_711  {x4 : Int32} {v5 : Value} {v6 : Value}  {σ : pS} {ρ : Nat → Nat → Option Nat} (e : gR σ = ρ) (hL : LayR ρ) : Le
  (gd (inb (x4 + (ι 1)) (psc σ).1) (bI (pcall 329 [.ref 0, .int ((psc σ).2 (ix (x4 + (ι 1)))), .ref 98] σ) fun r1 σ1 => gd (inb (x4 + (ι 1)) (psc σ1).1) (bI (pcall 277 [.ref 61, .int ((psc σ1).2 (ix (x4 + (ι 1))))] σ1) fun r2 σ2 => bI (pcall 208 [.ref 61] σ2) fun r3 σ3 => if r3 = r1 then if ¬ r1 = (ι 0) then C_353_2433 x4 (.int r1) (.int r2) σ3 else if (lg_cmp (gJ σ3 98 0) r2.toInt64) = (ι 0) then C_353_2433 x4 (.int r1) (.int r2) σ3 else some (1, .int (ι 0), σ3) else some (1, .int (ι 0), σ3))))
  (C_353_711  x4 v5 v6 σ) := by
  unfold C_353_711
  exact r_aload_n k_353_711 rfl rfl
    (r_aload_n k_353_712 rfl rfl
    (r_iload k_353_713 rfl rfl
    (r_iconst k_353_715 rfl rfl
    (r_iadd k_353_716 rfl
    (r_gd fun g => r_ialdS k_353_717 rfl g
    (r_aload_n k_353_718 rfl rfl
    (r_callI (q_stat (rest := []) (av := [.ref 0, .int ((psc σ).2 (ix (x4 + (ι 1)))), .ref 98]) k_353_719 po_353 rfl (by decide) rfl rfl rfl rfl) (lvq (j := 0) rfl (by decide +kernel)) rfl rfl (fun r1 σ1 h1 => r_istore k_353_722 rfl rfl rfl
    (r_aload_n k_353_724 rfl rfl
    (r_aload_n k_353_725 rfl rfl
    (r_iload k_353_726 rfl rfl
    (r_iconst k_353_728 rfl rfl
    (r_iadd k_353_729 rfl
    (r_gd fun g => r_ialdS k_353_730 rfl g
    (r_callI (q_virt (rest := []) (as := [.int ((psc σ1).2 (ix (x4 + (ι 1))))]) k_353_731 po_353 rfl rfl rfl (rcvO rfl rfl rfl) rfl rfl) (lvq (j := 0) rfl (by decide +kernel)) rfl rfl (fun r2 σ2 h2 => r_istore k_353_734 rfl rfl rfl
    (r_aload_n k_353_736 rfl rfl
    (r_callI (q_virt (rest := []) (as := []) k_353_737 po_353 rfl rfl rfl (rcvO rfl rfl rfl) rfl rfl) (lvq (j := 0) rfl (by decide +kernel)) rfl rfl (fun r3 σ3 h3 => r_iload k_353_740 rfl rfl
    (r_icmp (tgt := 747) k_353_742 rfl rfl cop_eq
    (r_iload k_353_747 rfl rfl
    (r_if (tgt := 764) k_353_749 rfl rfl cop_ne
    (r_goto (tgt := 2433) k_353_764 rfl (Le.rfl'))
    (r_aload_n k_353_752 rfl rfl
    (r_iconst k_353_753 rfl rfl
    (r_lald k_353_754 rfl rfl (by decide)
    (r_iload k_353_755 rfl rfl
    (r_i2l k_353_757 rfl
    (r_lcmp k_353_758 rfl
    (r_if (tgt := 764) k_353_759 rfl rfl cop_eq
    (r_goto (tgt := 2433) k_353_764 rfl (Le.rfl'))
    (r_iconst k_353_762 rfl rfl
    (r_ret k_353_763 rfl rfl)))))))))))
    (r_iconst k_353_745 rfl rfl
    (r_ret k_353_746 rfl rfl))))))))))))))))))))))
set_option maxRecDepth 100000 in
theorem T_353_767  {x4 : Int32} {v5 : Value} {v6 : Value}  {σ : pS} {ρ : Nat → Nat → Option Nat} (e : gR σ = ρ) (hL : LayR ρ) : Le
  (gd (inb (x4 + (ι 1)) (psc σ).1) (bI (pcall 330 [.ref 0, .int ((psc σ).2 (ix (x4 + (ι 1)))), .ref 98] σ) fun r1 σ1 => gd (inb (x4 + (ι 1)) (psc σ1).1) (bI (pcall 278 [.ref 61, .int ((psc σ1).2 (ix (x4 + (ι 1))))] σ1) fun r2 σ2 => bI (pcall 208 [.ref 61] σ2) fun r3 σ3 => if r3 = r1 then if ¬ r1 = (ι 0) then C_353_2433 x4 (.int r1) (.int r2) σ3 else if (lg_cmp (gJ σ3 98 0) r2.toInt64) = (ι 0) then C_353_2433 x4 (.int r1) (.int r2) σ3 else some (1, .int (ι 0), σ3) else some (1, .int (ι 0), σ3))))
  (C_353_767  x4 v5 v6 σ) := by
  unfold C_353_767
  exact r_aload_n k_353_767 rfl rfl
    (r_aload_n k_353_768 rfl rfl
    (r_iload k_353_769 rfl rfl
    (r_iconst k_353_771 rfl rfl
    (r_iadd k_353_772 rfl
    (r_gd fun g => r_ialdS k_353_773 rfl g
    (r_aload_n k_353_774 rfl rfl
    (r_callI (q_stat (rest := []) (av := [.ref 0, .int ((psc σ).2 (ix (x4 + (ι 1)))), .ref 98]) k_353_775 po_353 rfl (by decide) rfl rfl rfl rfl) (lvq (j := 0) rfl (by decide +kernel)) rfl rfl (fun r1 σ1 h1 => r_istore k_353_778 rfl rfl rfl
    (r_aload_n k_353_780 rfl rfl
    (r_aload_n k_353_781 rfl rfl
    (r_iload k_353_782 rfl rfl
    (r_iconst k_353_784 rfl rfl
    (r_iadd k_353_785 rfl
    (r_gd fun g => r_ialdS k_353_786 rfl g
    (r_callI (q_virt (rest := []) (as := [.int ((psc σ1).2 (ix (x4 + (ι 1))))]) k_353_787 po_353 rfl rfl rfl (rcvO rfl rfl rfl) rfl rfl) (lvq (j := 0) rfl (by decide +kernel)) rfl rfl (fun r2 σ2 h2 => r_istore k_353_790 rfl rfl rfl
    (r_aload_n k_353_792 rfl rfl
    (r_callI (q_virt (rest := []) (as := []) k_353_793 po_353 rfl rfl rfl (rcvO rfl rfl rfl) rfl rfl) (lvq (j := 0) rfl (by decide +kernel)) rfl rfl (fun r3 σ3 h3 => r_iload k_353_796 rfl rfl
    (r_icmp (tgt := 803) k_353_798 rfl rfl cop_eq
    (r_iload k_353_803 rfl rfl
    (r_if (tgt := 820) k_353_805 rfl rfl cop_ne
    (r_goto (tgt := 2433) k_353_820 rfl (Le.rfl'))
    (r_aload_n k_353_808 rfl rfl
    (r_iconst k_353_809 rfl rfl
    (r_lald k_353_810 rfl rfl (by decide)
    (r_iload k_353_811 rfl rfl
    (r_i2l k_353_813 rfl
    (r_lcmp k_353_814 rfl
    (r_if (tgt := 820) k_353_815 rfl rfl cop_eq
    (r_goto (tgt := 2433) k_353_820 rfl (Le.rfl'))
    (r_iconst k_353_818 rfl rfl
    (r_ret k_353_819 rfl rfl)))))))))))
    (r_iconst k_353_801 rfl rfl
    (r_ret k_353_802 rfl rfl))))))))))))))))))))))
set_option maxRecDepth 100000 in
theorem T_353_823  {x4 : Int32} {v5 : Value} {v6 : Value}  {σ : pS} {ρ : Nat → Nat → Option Nat} (e : gR σ = ρ) (hL : LayR ρ) : Le
  (gd (inb (x4 + (ι 1)) (psc σ).1) (gd (inb (x4 + (ι 2)) (psc σ).1) (bI (pcall 331 [.ref 0, .int ((psc σ).2 (ix (x4 + (ι 1)))), .int ((psc σ).2 (ix (x4 + (ι 2)))), .ref 98] σ) fun r1 σ1 => gd (inb (x4 + (ι 1)) (psc σ1).1) (gd (inb (x4 + (ι 2)) (psc σ1).1) (bI (pcall 279 [.ref 61, .int ((psc σ1).2 (ix (x4 + (ι 1)))), .int ((psc σ1).2 (ix (x4 + (ι 2))))] σ1) fun r2 σ2 => bI (pcall 208 [.ref 61] σ2) fun r3 σ3 => if r3 = r1 then if ¬ r1 = (ι 0) then C_353_2433 x4 (.int r1) (.int r2) σ3 else if (lg_cmp (gJ σ3 98 0) r2.toInt64) = (ι 0) then C_353_2433 x4 (.int r1) (.int r2) σ3 else some (1, .int (ι 0), σ3) else some (1, .int (ι 0), σ3))))))
  (C_353_823  x4 v5 v6 σ) := by
  unfold C_353_823
  exact r_aload_n k_353_823 rfl rfl
    (r_aload_n k_353_824 rfl rfl
    (r_iload k_353_825 rfl rfl
    (r_iconst k_353_827 rfl rfl
    (r_iadd k_353_828 rfl
    (r_gd fun g => r_ialdS k_353_829 rfl g
    (r_aload_n k_353_830 rfl rfl
    (r_iload k_353_831 rfl rfl
    (r_iconst k_353_833 rfl rfl
    (r_iadd k_353_834 rfl
    (r_gd fun g => r_ialdS k_353_835 rfl g
    (r_aload_n k_353_836 rfl rfl
    (r_callI (q_stat (rest := []) (av := [.ref 0, .int ((psc σ).2 (ix (x4 + (ι 1)))), .int ((psc σ).2 (ix (x4 + (ι 2)))), .ref 98]) k_353_837 po_353 rfl (by decide) rfl rfl rfl rfl) (lvq (j := 0) rfl (by decide +kernel)) rfl rfl (fun r1 σ1 h1 => r_istore k_353_840 rfl rfl rfl
    (r_aload_n k_353_842 rfl rfl
    (r_aload_n k_353_843 rfl rfl
    (r_iload k_353_844 rfl rfl
    (r_iconst k_353_846 rfl rfl
    (r_iadd k_353_847 rfl
    (r_gd fun g => r_ialdS k_353_848 rfl g
    (r_aload_n k_353_849 rfl rfl
    (r_iload k_353_850 rfl rfl
    (r_iconst k_353_852 rfl rfl
    (r_iadd k_353_853 rfl
    (r_gd fun g => r_ialdS k_353_854 rfl g
    (r_callI (q_virt (rest := []) (as := [.int ((psc σ1).2 (ix (x4 + (ι 1)))), .int ((psc σ1).2 (ix (x4 + (ι 2))))]) k_353_855 po_353 rfl rfl rfl (rcvO rfl rfl rfl) rfl rfl) (lvq (j := 0) rfl (by decide +kernel)) rfl rfl (fun r2 σ2 h2 => r_istore k_353_858 rfl rfl rfl
    (r_aload_n k_353_860 rfl rfl
    (r_callI (q_virt (rest := []) (as := []) k_353_861 po_353 rfl rfl rfl (rcvO rfl rfl rfl) rfl rfl) (lvq (j := 0) rfl (by decide +kernel)) rfl rfl (fun r3 σ3 h3 => r_iload k_353_864 rfl rfl
    (r_icmp (tgt := 871) k_353_866 rfl rfl cop_eq
    (r_iload k_353_871 rfl rfl
    (r_if (tgt := 888) k_353_873 rfl rfl cop_ne
    (r_goto (tgt := 2433) k_353_888 rfl (Le.rfl'))
    (r_aload_n k_353_876 rfl rfl
    (r_iconst k_353_877 rfl rfl
    (r_lald k_353_878 rfl rfl (by decide)
    (r_iload k_353_879 rfl rfl
    (r_i2l k_353_881 rfl
    (r_lcmp k_353_882 rfl
    (r_if (tgt := 888) k_353_883 rfl rfl cop_eq
    (r_goto (tgt := 2433) k_353_888 rfl (Le.rfl'))
    (r_iconst k_353_886 rfl rfl
    (r_ret k_353_887 rfl rfl)))))))))))
    (r_iconst k_353_869 rfl rfl
    (r_ret k_353_870 rfl rfl))))))))))))))))))))))))))))))))
set_option maxRecDepth 100000 in
theorem T_353_891  {x4 : Int32} {v5 : Value} {v6 : Value}  {σ : pS} {ρ : Nat → Nat → Option Nat} (e : gR σ = ρ) (hL : LayR ρ) : Le
  (gd (inb (x4 + (ι 1)) (psc σ).1) (gd (inb (x4 + (ι 2)) (psc σ).1) (gd (inb (x4 + (ι 3)) (psc σ).1) (bI (pcall 332 [.ref 0, .int ((psc σ).2 (ix (x4 + (ι 1)))), .int ((psc σ).2 (ix (x4 + (ι 2)))), .int ((psc σ).2 (ix (x4 + (ι 3)))), .ref 98] σ) fun r1 σ1 => gd (inb (x4 + (ι 1)) (psc σ1).1) (gd (inb (x4 + (ι 2)) (psc σ1).1) (gd (inb (x4 + (ι 3)) (psc σ1).1) (bI (pcall 280 [.ref 61, .int ((psc σ1).2 (ix (x4 + (ι 1)))), .int ((psc σ1).2 (ix (x4 + (ι 2)))), .int ((psc σ1).2 (ix (x4 + (ι 3))))] σ1) fun r2 σ2 => bI (pcall 208 [.ref 61] σ2) fun r3 σ3 => if r3 = r1 then if ¬ r1 = (ι 0) then C_353_2433 x4 (.int r1) (.int r2) σ3 else if (lg_cmp (gJ σ3 98 0) r2.toInt64) = (ι 0) then C_353_2433 x4 (.int r1) (.int r2) σ3 else some (1, .int (ι 0), σ3) else some (1, .int (ι 0), σ3))))))))
  (C_353_891  x4 v5 v6 σ) := by
  unfold C_353_891
  exact r_aload_n k_353_891 rfl rfl
    (r_aload_n k_353_892 rfl rfl
    (r_iload k_353_893 rfl rfl
    (r_iconst k_353_895 rfl rfl
    (r_iadd k_353_896 rfl
    (r_gd fun g => r_ialdS k_353_897 rfl g
    (r_aload_n k_353_898 rfl rfl
    (r_iload k_353_899 rfl rfl
    (r_iconst k_353_901 rfl rfl
    (r_iadd k_353_902 rfl
    (r_gd fun g => r_ialdS k_353_903 rfl g
    (r_aload_n k_353_904 rfl rfl
    (r_iload k_353_905 rfl rfl
    (r_iconst k_353_907 rfl rfl
    (r_iadd k_353_908 rfl
    (r_gd fun g => r_ialdS k_353_909 rfl g
    (r_aload_n k_353_910 rfl rfl
    (r_callI (q_stat (rest := []) (av := [.ref 0, .int ((psc σ).2 (ix (x4 + (ι 1)))), .int ((psc σ).2 (ix (x4 + (ι 2)))), .int ((psc σ).2 (ix (x4 + (ι 3)))), .ref 98]) k_353_911 po_353 rfl (by decide) rfl rfl rfl rfl) (lvq (j := 0) rfl (by decide +kernel)) rfl rfl (fun r1 σ1 h1 => r_istore k_353_914 rfl rfl rfl
    (r_aload_n k_353_916 rfl rfl
    (r_aload_n k_353_917 rfl rfl
    (r_iload k_353_918 rfl rfl
    (r_iconst k_353_920 rfl rfl
    (r_iadd k_353_921 rfl
    (r_gd fun g => r_ialdS k_353_922 rfl g
    (r_aload_n k_353_923 rfl rfl
    (r_iload k_353_924 rfl rfl
    (r_iconst k_353_926 rfl rfl
    (r_iadd k_353_927 rfl
    (r_gd fun g => r_ialdS k_353_928 rfl g
    (r_aload_n k_353_929 rfl rfl
    (r_iload k_353_930 rfl rfl
    (r_iconst k_353_932 rfl rfl
    (r_iadd k_353_933 rfl
    (r_gd fun g => r_ialdS k_353_934 rfl g
    (r_callI (q_virt (rest := []) (as := [.int ((psc σ1).2 (ix (x4 + (ι 1)))), .int ((psc σ1).2 (ix (x4 + (ι 2)))), .int ((psc σ1).2 (ix (x4 + (ι 3))))]) k_353_935 po_353 rfl rfl rfl (rcvO rfl rfl rfl) rfl rfl) (lvq (j := 0) rfl (by decide +kernel)) rfl rfl (fun r2 σ2 h2 => r_istore k_353_938 rfl rfl rfl
    (r_aload_n k_353_940 rfl rfl
    (r_callI (q_virt (rest := []) (as := []) k_353_941 po_353 rfl rfl rfl (rcvO rfl rfl rfl) rfl rfl) (lvq (j := 0) rfl (by decide +kernel)) rfl rfl (fun r3 σ3 h3 => r_iload k_353_944 rfl rfl
    (r_icmp (tgt := 951) k_353_946 rfl rfl cop_eq
    (r_iload k_353_951 rfl rfl
    (r_if (tgt := 968) k_353_953 rfl rfl cop_ne
    (r_goto (tgt := 2433) k_353_968 rfl (Le.rfl'))
    (r_aload_n k_353_956 rfl rfl
    (r_iconst k_353_957 rfl rfl
    (r_lald k_353_958 rfl rfl (by decide)
    (r_iload k_353_959 rfl rfl
    (r_i2l k_353_961 rfl
    (r_lcmp k_353_962 rfl
    (r_if (tgt := 968) k_353_963 rfl rfl cop_eq
    (r_goto (tgt := 2433) k_353_968 rfl (Le.rfl'))
    (r_iconst k_353_966 rfl rfl
    (r_ret k_353_967 rfl rfl)))))))))))
    (r_iconst k_353_949 rfl rfl
    (r_ret k_353_950 rfl rfl))))))))))))))))))))))))))))))))))))))))))
set_option maxRecDepth 100000 in
theorem T_353_971  {x4 : Int32} {v5 : Value} {v6 : Value}  {σ : pS} {ρ : Nat → Nat → Option Nat} (e : gR σ = ρ) (hL : LayR ρ) : Le
  (gd (inb (x4 + (ι 1)) (psc σ).1) (gd (inb (x4 + (ι 2)) (psc σ).1) (gd (inb (x4 + (ι 3)) (psc σ).1) (if ((psc σ).2 (ix (x4 + (ι 3)))) = (ι 0) then C_353_998 x4 v5 v6 ((psc σ).2 (ix (x4 + (ι 1)))) ((psc σ).2 (ix (x4 + (ι 2)))) (ι 0) σ else C_353_998 x4 v5 v6 ((psc σ).2 (ix (x4 + (ι 1)))) ((psc σ).2 (ix (x4 + (ι 2)))) (ι 1) σ))))
  (C_353_971  x4 v5 v6 σ) := by
  unfold C_353_971
  exact r_aload_n k_353_971 rfl rfl
    (r_aload_n k_353_972 rfl rfl
    (r_iload k_353_973 rfl rfl
    (r_iconst k_353_975 rfl rfl
    (r_iadd k_353_976 rfl
    (r_gd fun g => r_ialdS k_353_977 rfl g
    (r_aload_n k_353_978 rfl rfl
    (r_iload k_353_979 rfl rfl
    (r_iconst k_353_981 rfl rfl
    (r_iadd k_353_982 rfl
    (r_gd fun g => r_ialdS k_353_983 rfl g
    (r_aload_n k_353_984 rfl rfl
    (r_iload k_353_985 rfl rfl
    (r_iconst k_353_987 rfl rfl
    (r_iadd k_353_988 rfl
    (r_gd fun g => r_ialdS k_353_989 rfl g
    (r_if (tgt := 997) k_353_990 rfl rfl cop_eq
    (r_iconst k_353_997 rfl rfl
    (Le.rfl'))
    (r_iconst k_353_993 rfl rfl
    (r_goto (tgt := 998) k_353_994 rfl (Le.rfl')))))))))))))))))))
set_option maxRecDepth 100000 in
theorem T_353_998  {x4 : Int32} {v5 : Value} {v6 : Value} {s1 : Int32} {s2 : Int32} {s3 : Int32}  {σ : pS} {ρ : Nat → Nat → Option Nat} (e : gR σ = ρ) (hL : LayR ρ) : Le
  (bI (pcall 333 [.ref 0, .int s1, .int s2, .int s3, .ref 98] σ) fun r1 σ1 => gd (inb (x4 + (ι 1)) (psc σ1).1) (gd (inb (x4 + (ι 2)) (psc σ1).1) (gd (inb (x4 + (ι 3)) (psc σ1).1) (if ((psc σ1).2 (ix (x4 + (ι 3)))) = (ι 0) then C_353_1031 x4 r1 v6 ((psc σ1).2 (ix (x4 + (ι 1)))) ((psc σ1).2 (ix (x4 + (ι 2)))) (ι 0) σ1 else C_353_1031 x4 r1 v6 ((psc σ1).2 (ix (x4 + (ι 1)))) ((psc σ1).2 (ix (x4 + (ι 2)))) (ι 1) σ1))))
  (C_353_998  x4 v5 v6 s1 s2 s3 σ) := by
  unfold C_353_998
  exact r_aload_n k_353_998 rfl rfl
    (r_callI (q_stat (rest := []) (av := [.ref 0, .int s1, .int s2, .int s3, .ref 98]) k_353_999 po_353 rfl (by decide) rfl rfl rfl rfl) (lvq (j := 0) rfl (by decide +kernel)) rfl rfl (fun r1 σ1 h1 => r_istore k_353_1002 rfl rfl rfl
    (r_aload_n k_353_1004 rfl rfl
    (r_aload_n k_353_1005 rfl rfl
    (r_iload k_353_1006 rfl rfl
    (r_iconst k_353_1008 rfl rfl
    (r_iadd k_353_1009 rfl
    (r_gd fun g => r_ialdS k_353_1010 rfl g
    (r_aload_n k_353_1011 rfl rfl
    (r_iload k_353_1012 rfl rfl
    (r_iconst k_353_1014 rfl rfl
    (r_iadd k_353_1015 rfl
    (r_gd fun g => r_ialdS k_353_1016 rfl g
    (r_aload_n k_353_1017 rfl rfl
    (r_iload k_353_1018 rfl rfl
    (r_iconst k_353_1020 rfl rfl
    (r_iadd k_353_1021 rfl
    (r_gd fun g => r_ialdS k_353_1022 rfl g
    (r_if (tgt := 1030) k_353_1023 rfl rfl cop_eq
    (r_iconst k_353_1030 rfl rfl
    (Le.rfl'))
    (r_iconst k_353_1026 rfl rfl
    (r_goto (tgt := 1031) k_353_1027 rfl (Le.rfl'))))))))))))))))))))))
set_option maxRecDepth 100000 in
theorem T_353_1031  {x4 : Int32} {x5 : Int32} {v6 : Value} {s1 : Int32} {s2 : Int32} {s3 : Int32}  {σ : pS} {ρ : Nat → Nat → Option Nat} (e : gR σ = ρ) (hL : LayR ρ) : Le
  (bI (pcall 281 [.ref 61, .int s1, .int s2, .int s3] σ) fun r1 σ1 => bI (pcall 208 [.ref 61] σ1) fun r2 σ2 => if r2 = x5 then if ¬ x5 = (ι 0) then C_353_2433 x4 (.int x5) (.int r1) σ2 else if r1 = (ι 0) then if (lg_cmp (gJ σ2 98 0) (0 : Int64)) = (ι 0) then C_353_2433 x4 (.int x5) (.int r1) σ2 else some (1, .int (ι 0), σ2) else if (lg_cmp (gJ σ2 98 0) (1 : Int64)) = (ι 0) then C_353_2433 x4 (.int x5) (.int r1) σ2 else some (1, .int (ι 0), σ2) else some (1, .int (ι 0), σ2))
  (C_353_1031  x4 x5 v6 s1 s2 s3 σ) := by
  unfold C_353_1031
  exact r_callI (q_virt (rest := []) (as := [.int s1, .int s2, .int s3]) k_353_1031 po_353 rfl rfl rfl (rcvO rfl rfl rfl) rfl rfl) (lvq (j := 0) rfl (by decide +kernel)) rfl rfl (fun r1 σ1 h1 => r_istore k_353_1034 rfl rfl rfl
    (r_aload_n k_353_1036 rfl rfl
    (r_callI (q_virt (rest := []) (as := []) k_353_1037 po_353 rfl rfl rfl (rcvO rfl rfl rfl) rfl rfl) (lvq (j := 0) rfl (by decide +kernel)) rfl rfl (fun r2 σ2 h2 => r_iload k_353_1040 rfl rfl
    (r_icmp (tgt := 1047) k_353_1042 rfl rfl cop_eq
    (r_iload k_353_1047 rfl rfl
    (r_if (tgt := 1071) k_353_1049 rfl rfl cop_ne
    (r_goto (tgt := 2433) k_353_1071 rfl (Le.rfl'))
    (r_aload_n k_353_1052 rfl rfl
    (r_iconst k_353_1053 rfl rfl
    (r_lald k_353_1054 rfl rfl (by decide)
    (r_iload k_353_1055 rfl rfl
    (r_if (tgt := 1064) k_353_1057 rfl rfl cop_eq
    (r_lconst k_353_1064 rfl rfl
    (r_lcmp k_353_1065 rfl
    (r_if (tgt := 1071) k_353_1066 rfl rfl cop_eq
    (r_goto (tgt := 2433) k_353_1071 rfl (Le.rfl'))
    (r_iconst k_353_1069 rfl rfl
    (r_ret k_353_1070 rfl rfl)))))
    (r_lconst k_353_1060 rfl rfl
    (r_goto (tgt := 1065) k_353_1061 rfl (r_lcmp k_353_1065 rfl
    (r_if (tgt := 1071) k_353_1066 rfl rfl cop_eq
    (r_goto (tgt := 2433) k_353_1071 rfl (Le.rfl'))
    (r_iconst k_353_1069 rfl rfl
    (r_ret k_353_1070 rfl rfl)))))))))))))
    (r_iconst k_353_1045 rfl rfl
    (r_ret k_353_1046 rfl rfl)))))))
set_option maxRecDepth 100000 in
theorem T_353_1074  {x4 : Int32} {v5 : Value} {v6 : Value}  {σ : pS} {ρ : Nat → Nat → Option Nat} (e : gR σ = ρ) (hL : LayR ρ) : Le
  (bI (pcall 169 [.ref 0] σ) fun r1 σ1 => bI (pcall 283 [.ref 61] σ1) fun r2 σ2 => if r1 = r2 then C_353_2433 x4 v5 v6 σ2 else some (1, .int (ι 0), σ2))
  (C_353_1074  x4 v5 v6 σ) := by
  unfold C_353_1074
  exact r_aload_n k_353_1074 rfl rfl
    (r_callI (q_virt (rest := []) (as := []) k_353_1075 po_353 rfl rfl rfl (rcvO rfl rfl rfl) rfl rfl) (lvq (j := 0) rfl (by decide +kernel)) rfl rfl (fun r1 σ1 h1 => r_aload_n k_353_1078 rfl rfl
    (r_callI (q_virt (rest := [.int r1]) (as := []) k_353_1079 po_353 rfl rfl rfl (rcvO rfl rfl rfl) rfl rfl) (lvq (j := 0) rfl (by decide +kernel)) rfl rfl (fun r2 σ2 h2 => r_icmp (tgt := 2433) k_353_1082 rfl rfl cop_eq
    (Le.rfl')
    (r_iconst k_353_1085 rfl rfl
    (r_ret k_353_1086 rfl rfl))))))
set_option maxRecDepth 100000 in
theorem T_353_1087  {x4 : Int32} {v5 : Value} {v6 : Value}  {σ : pS} {ρ : Nat → Nat → Option Nat} (e : gR σ = ρ) (hL : LayR ρ) : Le
  (gd (inb (x4 + (ι 1)) (psc σ).1) (gd (inb (x4 + (ι 2)) (psc σ).1) (gd (inb (x4 + (ι 3)) (psc σ).1) (bI (pcall 334 [.ref 0, .int ((psc σ).2 (ix (x4 + (ι 1)))), .int ((psc σ).2 (ix (x4 + (ι 2)))), .int ((psc σ).2 (ix (x4 + (ι 3)))), .ref 98] σ) fun r1 σ1 => gd (LayR (gR σ1)) (gd (inb (x4 + (ι 1)) (psc σ1).1) (gd (inb (x4 + (ι 2)) (psc σ1).1) (gd (inb (x4 + (ι 3)) (psc σ1).1) (bI (pcall 285 [.ref 61, .int ((psc σ1).2 (ix (x4 + (ι 1)))), .int ((psc σ1).2 (ix (x4 + (ι 2)))), .int ((psc σ1).2 (ix (x4 + (ι 3))))] σ1) fun r2 σ2 => bI (pcall 208 [.ref 61] σ2) fun r3 σ3 => if r3 = r1 then if ¬ r1 = (ι 0) then C_353_2433 x4 (.int r1) (.int r2) σ3 else if (lg_cmp (gJ σ3 98 0) r2.toInt64) = (ι 0) then C_353_2433 x4 (.int r1) (.int r2) σ3 else some (1, .int (ι 0), σ3) else some (1, .int (ι 0), σ3)))))))))
  (C_353_1087  x4 v5 v6 σ) := by
  unfold C_353_1087
  exact r_aload_n k_353_1087 rfl rfl
    (r_aload_n k_353_1088 rfl rfl
    (r_iload k_353_1089 rfl rfl
    (r_iconst k_353_1091 rfl rfl
    (r_iadd k_353_1092 rfl
    (r_gd fun g => r_ialdS k_353_1093 rfl g
    (r_aload_n k_353_1094 rfl rfl
    (r_iload k_353_1095 rfl rfl
    (r_iconst k_353_1097 rfl rfl
    (r_iadd k_353_1098 rfl
    (r_gd fun g => r_ialdS k_353_1099 rfl g
    (r_aload_n k_353_1100 rfl rfl
    (r_iload k_353_1101 rfl rfl
    (r_iconst k_353_1103 rfl rfl
    (r_iadd k_353_1104 rfl
    (r_gd fun g => r_ialdS k_353_1105 rfl g
    (r_aload_n k_353_1106 rfl rfl
    (r_callI (q_stat (rest := []) (av := [.ref 0, .int ((psc σ).2 (ix (x4 + (ι 1)))), .int ((psc σ).2 (ix (x4 + (ι 2)))), .int ((psc σ).2 (ix (x4 + (ι 3)))), .ref 98]) k_353_1107 po_353 rfl (by decide) rfl rfl rfl rfl) (lvq (j := 0) rfl (by decide +kernel)) rfl rfl (fun r1 σ1 h1 => r_gd fun L1 => r_istore k_353_1110 rfl rfl rfl
    (r_aload_n k_353_1112 rfl rfl
    (r_aload_n k_353_1113 rfl rfl
    (r_iload k_353_1114 rfl rfl
    (r_iconst k_353_1116 rfl rfl
    (r_iadd k_353_1117 rfl
    (r_gd fun g => r_ialdS k_353_1118 rfl g
    (r_aload_n k_353_1119 rfl rfl
    (r_iload k_353_1120 rfl rfl
    (r_iconst k_353_1122 rfl rfl
    (r_iadd k_353_1123 rfl
    (r_gd fun g => r_ialdS k_353_1124 rfl g
    (r_aload_n k_353_1125 rfl rfl
    (r_iload k_353_1126 rfl rfl
    (r_iconst k_353_1128 rfl rfl
    (r_iadd k_353_1129 rfl
    (r_gd fun g => r_ialdS k_353_1130 rfl g
    (r_callI (q_virt (rest := []) (as := [.int ((psc σ1).2 (ix (x4 + (ι 1)))), .int ((psc σ1).2 (ix (x4 + (ι 2)))), .int ((psc σ1).2 (ix (x4 + (ι 3))))]) k_353_1131 po_353 rfl rfl rfl (rcvO rfl rfl rfl) rfl rfl) (lvq (j := 0) rfl (by decide +kernel)) rfl rfl (fun r2 σ2 h2 => r_istore k_353_1134 rfl rfl rfl
    (r_aload_n k_353_1136 rfl rfl
    (r_callI (q_virt (rest := []) (as := []) k_353_1137 po_353 rfl rfl rfl (rcvO rfl rfl rfl) rfl rfl) (lvq (j := 0) rfl (by decide +kernel)) rfl rfl (fun r3 σ3 h3 => r_iload k_353_1140 rfl rfl
    (r_icmp (tgt := 1147) k_353_1142 rfl rfl cop_eq
    (r_iload k_353_1147 rfl rfl
    (r_if (tgt := 1164) k_353_1149 rfl rfl cop_ne
    (r_goto (tgt := 2433) k_353_1164 rfl (Le.rfl'))
    (r_aload_n k_353_1152 rfl rfl
    (r_iconst k_353_1153 rfl rfl
    (r_lald k_353_1154 rfl rfl (by decide)
    (r_iload k_353_1155 rfl rfl
    (r_i2l k_353_1157 rfl
    (r_lcmp k_353_1158 rfl
    (r_if (tgt := 1164) k_353_1159 rfl rfl cop_eq
    (r_goto (tgt := 2433) k_353_1164 rfl (Le.rfl'))
    (r_iconst k_353_1162 rfl rfl
    (r_ret k_353_1163 rfl rfl)))))))))))
    (r_iconst k_353_1145 rfl rfl
    (r_ret k_353_1146 rfl rfl))))))))))))))))))))))))))))))))))))))))))
set_option maxRecDepth 100000 in
theorem T_353_1167  {x4 : Int32} {v5 : Value} {v6 : Value}  {σ : pS} {ρ : Nat → Nat → Option Nat} (e : gR σ = ρ) (hL : LayR ρ) : Le
  (gd (inb (x4 + (ι 1)) (psc σ).1) (gd (inb (x4 + (ι 2)) (psc σ).1) (gd (inb (x4 + (ι 3)) (psc σ).1) (bI (pcall 335 [.ref 0, .int ((psc σ).2 (ix (x4 + (ι 1)))), .int ((psc σ).2 (ix (x4 + (ι 2)))), .int ((psc σ).2 (ix (x4 + (ι 3)))), .ref 98] σ) fun r1 σ1 => gd (LayR (gR σ1)) (gd (inb (x4 + (ι 1)) (psc σ1).1) (gd (inb (x4 + (ι 2)) (psc σ1).1) (gd (inb (x4 + (ι 3)) (psc σ1).1) (bI (pcall 286 [.ref 61, .int ((psc σ1).2 (ix (x4 + (ι 1)))), .int ((psc σ1).2 (ix (x4 + (ι 2)))), .int ((psc σ1).2 (ix (x4 + (ι 3))))] σ1) fun r2 σ2 => bI (pcall 208 [.ref 61] σ2) fun r3 σ3 => if r3 = r1 then if ¬ r1 = (ι 0) then C_353_2433 x4 (.int r1) (.int r2) σ3 else if (lg_cmp (gJ σ3 98 0) r2.toInt64) = (ι 0) then C_353_2433 x4 (.int r1) (.int r2) σ3 else some (1, .int (ι 0), σ3) else some (1, .int (ι 0), σ3)))))))))
  (C_353_1167  x4 v5 v6 σ) := by
  unfold C_353_1167
  exact r_aload_n k_353_1167 rfl rfl
    (r_aload_n k_353_1168 rfl rfl
    (r_iload k_353_1169 rfl rfl
    (r_iconst k_353_1171 rfl rfl
    (r_iadd k_353_1172 rfl
    (r_gd fun g => r_ialdS k_353_1173 rfl g
    (r_aload_n k_353_1174 rfl rfl
    (r_iload k_353_1175 rfl rfl
    (r_iconst k_353_1177 rfl rfl
    (r_iadd k_353_1178 rfl
    (r_gd fun g => r_ialdS k_353_1179 rfl g
    (r_aload_n k_353_1180 rfl rfl
    (r_iload k_353_1181 rfl rfl
    (r_iconst k_353_1183 rfl rfl
    (r_iadd k_353_1184 rfl
    (r_gd fun g => r_ialdS k_353_1185 rfl g
    (r_aload_n k_353_1186 rfl rfl
    (r_callI (q_stat (rest := []) (av := [.ref 0, .int ((psc σ).2 (ix (x4 + (ι 1)))), .int ((psc σ).2 (ix (x4 + (ι 2)))), .int ((psc σ).2 (ix (x4 + (ι 3)))), .ref 98]) k_353_1187 po_353 rfl (by decide) rfl rfl rfl rfl) (lvq (j := 0) rfl (by decide +kernel)) rfl rfl (fun r1 σ1 h1 => r_gd fun L1 => r_istore k_353_1190 rfl rfl rfl
    (r_aload_n k_353_1192 rfl rfl
    (r_aload_n k_353_1193 rfl rfl
    (r_iload k_353_1194 rfl rfl
    (r_iconst k_353_1196 rfl rfl
    (r_iadd k_353_1197 rfl
    (r_gd fun g => r_ialdS k_353_1198 rfl g
    (r_aload_n k_353_1199 rfl rfl
    (r_iload k_353_1200 rfl rfl
    (r_iconst k_353_1202 rfl rfl
    (r_iadd k_353_1203 rfl
    (r_gd fun g => r_ialdS k_353_1204 rfl g
    (r_aload_n k_353_1205 rfl rfl
    (r_iload k_353_1206 rfl rfl
    (r_iconst k_353_1208 rfl rfl
    (r_iadd k_353_1209 rfl
    (r_gd fun g => r_ialdS k_353_1210 rfl g
    (r_callI (q_virt (rest := []) (as := [.int ((psc σ1).2 (ix (x4 + (ι 1)))), .int ((psc σ1).2 (ix (x4 + (ι 2)))), .int ((psc σ1).2 (ix (x4 + (ι 3))))]) k_353_1211 po_353 rfl rfl rfl (rcvO rfl rfl rfl) rfl rfl) (lvq (j := 0) rfl (by decide +kernel)) rfl rfl (fun r2 σ2 h2 => r_istore k_353_1214 rfl rfl rfl
    (r_aload_n k_353_1216 rfl rfl
    (r_callI (q_virt (rest := []) (as := []) k_353_1217 po_353 rfl rfl rfl (rcvO rfl rfl rfl) rfl rfl) (lvq (j := 0) rfl (by decide +kernel)) rfl rfl (fun r3 σ3 h3 => r_iload k_353_1220 rfl rfl
    (r_icmp (tgt := 1227) k_353_1222 rfl rfl cop_eq
    (r_iload k_353_1227 rfl rfl
    (r_if (tgt := 1244) k_353_1229 rfl rfl cop_ne
    (r_goto (tgt := 2433) k_353_1244 rfl (Le.rfl'))
    (r_aload_n k_353_1232 rfl rfl
    (r_iconst k_353_1233 rfl rfl
    (r_lald k_353_1234 rfl rfl (by decide)
    (r_iload k_353_1235 rfl rfl
    (r_i2l k_353_1237 rfl
    (r_lcmp k_353_1238 rfl
    (r_if (tgt := 1244) k_353_1239 rfl rfl cop_eq
    (r_goto (tgt := 2433) k_353_1244 rfl (Le.rfl'))
    (r_iconst k_353_1242 rfl rfl
    (r_ret k_353_1243 rfl rfl)))))))))))
    (r_iconst k_353_1225 rfl rfl
    (r_ret k_353_1226 rfl rfl))))))))))))))))))))))))))))))))))))))))))
set_option maxRecDepth 100000 in
theorem T_353_1247  {x4 : Int32} {v5 : Value} {v6 : Value}  {σ : pS} {ρ : Nat → Nat → Option Nat} (e : gR σ = ρ) (hL : LayR ρ) : Le
  (gd (inb (x4 + (ι 1)) (psc σ).1) (bI (pcall 336 [.ref 0, .int ((psc σ).2 (ix (x4 + (ι 1)))), .ref 98] σ) fun r1 σ1 => gd (LayR (gR σ1)) (gd (inb (x4 + (ι 1)) (psc σ1).1) (bI (pcall 287 [.ref 61, .int ((psc σ1).2 (ix (x4 + (ι 1))))] σ1) fun r2 σ2 => bI (pcall 208 [.ref 61] σ2) fun r3 σ3 => if r3 = r1 then if ¬ r1 = (ι 0) then C_353_2433 x4 (.int r1) (.int r2) σ3 else if (lg_cmp (gJ σ3 98 0) r2.toInt64) = (ι 0) then C_353_2433 x4 (.int r1) (.int r2) σ3 else some (1, .int (ι 0), σ3) else some (1, .int (ι 0), σ3)))))
  (C_353_1247  x4 v5 v6 σ) := by
  unfold C_353_1247
  exact r_aload_n k_353_1247 rfl rfl
    (r_aload_n k_353_1248 rfl rfl
    (r_iload k_353_1249 rfl rfl
    (r_iconst k_353_1251 rfl rfl
    (r_iadd k_353_1252 rfl
    (r_gd fun g => r_ialdS k_353_1253 rfl g
    (r_aload_n k_353_1254 rfl rfl
    (r_callI (q_stat (rest := []) (av := [.ref 0, .int ((psc σ).2 (ix (x4 + (ι 1)))), .ref 98]) k_353_1255 po_353 rfl (by decide) rfl rfl rfl rfl) (lvq (j := 0) rfl (by decide +kernel)) rfl rfl (fun r1 σ1 h1 => r_gd fun L1 => r_istore k_353_1258 rfl rfl rfl
    (r_aload_n k_353_1260 rfl rfl
    (r_aload_n k_353_1261 rfl rfl
    (r_iload k_353_1262 rfl rfl
    (r_iconst k_353_1264 rfl rfl
    (r_iadd k_353_1265 rfl
    (r_gd fun g => r_ialdS k_353_1266 rfl g
    (r_callI (q_virt (rest := []) (as := [.int ((psc σ1).2 (ix (x4 + (ι 1))))]) k_353_1267 po_353 rfl rfl rfl (rcvO rfl rfl rfl) rfl rfl) (lvq (j := 0) rfl (by decide +kernel)) rfl rfl (fun r2 σ2 h2 => r_istore k_353_1270 rfl rfl rfl
    (r_aload_n k_353_1272 rfl rfl
    (r_callI (q_virt (rest := []) (as := []) k_353_1273 po_353 rfl rfl rfl (rcvO rfl rfl rfl) rfl rfl) (lvq (j := 0) rfl (by decide +kernel)) rfl rfl (fun r3 σ3 h3 => r_iload k_353_1276 rfl rfl
    (r_icmp (tgt := 1283) k_353_1278 rfl rfl cop_eq
    (r_iload k_353_1283 rfl rfl
    (r_if (tgt := 1300) k_353_1285 rfl rfl cop_ne
    (r_goto (tgt := 2433) k_353_1300 rfl (Le.rfl'))
    (r_aload_n k_353_1288 rfl rfl
    (r_iconst k_353_1289 rfl rfl
    (r_lald k_353_1290 rfl rfl (by decide)
    (r_iload k_353_1291 rfl rfl
    (r_i2l k_353_1293 rfl
    (r_lcmp k_353_1294 rfl
    (r_if (tgt := 1300) k_353_1295 rfl rfl cop_eq
    (r_goto (tgt := 2433) k_353_1300 rfl (Le.rfl'))
    (r_iconst k_353_1298 rfl rfl
    (r_ret k_353_1299 rfl rfl)))))))))))
    (r_iconst k_353_1281 rfl rfl
    (r_ret k_353_1282 rfl rfl))))))))))))))))))))))
set_option maxRecDepth 100000 in
theorem T_353_1303  {x4 : Int32} {v5 : Value} {v6 : Value}  {σ : pS} {ρ : Nat → Nat → Option Nat} (e : gR σ = ρ) (hL : LayR ρ) : Le
  (gd (inb (x4 + (ι 1)) (psc σ).1) (gd (inb (x4 + (ι 2)) (psc σ).1) (gd (inb (x4 + (ι 3)) (psc σ).1) (bI (pcall 337 [.ref 0, .int ((psc σ).2 (ix (x4 + (ι 1)))), .int ((psc σ).2 (ix (x4 + (ι 2)))), .int ((psc σ).2 (ix (x4 + (ι 3)))), .ref 98] σ) fun r1 σ1 => gd (LayR (gR σ1)) (gd (inb (x4 + (ι 1)) (psc σ1).1) (gd (inb (x4 + (ι 2)) (psc σ1).1) (gd (inb (x4 + (ι 3)) (psc σ1).1) (bI (pcall 289 [.ref 61, .int ((psc σ1).2 (ix (x4 + (ι 1)))), .int ((psc σ1).2 (ix (x4 + (ι 2)))), .int ((psc σ1).2 (ix (x4 + (ι 3))))] σ1) fun r2 σ2 => bI (pcall 208 [.ref 61] σ2) fun r3 σ3 => if r3 = r1 then if ¬ r1 = (ι 0) then C_353_2433 x4 (.int r1) (.int r2) σ3 else if (lg_cmp (gJ σ3 98 0) r2.toInt64) = (ι 0) then C_353_2433 x4 (.int r1) (.int r2) σ3 else some (1, .int (ι 0), σ3) else some (1, .int (ι 0), σ3)))))))))
  (C_353_1303  x4 v5 v6 σ) := by
  unfold C_353_1303
  exact r_aload_n k_353_1303 rfl rfl
    (r_aload_n k_353_1304 rfl rfl
    (r_iload k_353_1305 rfl rfl
    (r_iconst k_353_1307 rfl rfl
    (r_iadd k_353_1308 rfl
    (r_gd fun g => r_ialdS k_353_1309 rfl g
    (r_aload_n k_353_1310 rfl rfl
    (r_iload k_353_1311 rfl rfl
    (r_iconst k_353_1313 rfl rfl
    (r_iadd k_353_1314 rfl
    (r_gd fun g => r_ialdS k_353_1315 rfl g
    (r_aload_n k_353_1316 rfl rfl
    (r_iload k_353_1317 rfl rfl
    (r_iconst k_353_1319 rfl rfl
    (r_iadd k_353_1320 rfl
    (r_gd fun g => r_ialdS k_353_1321 rfl g
    (r_aload_n k_353_1322 rfl rfl
    (r_callI (q_stat (rest := []) (av := [.ref 0, .int ((psc σ).2 (ix (x4 + (ι 1)))), .int ((psc σ).2 (ix (x4 + (ι 2)))), .int ((psc σ).2 (ix (x4 + (ι 3)))), .ref 98]) k_353_1323 po_353 rfl (by decide) rfl rfl rfl rfl) (lvq (j := 0) rfl (by decide +kernel)) rfl rfl (fun r1 σ1 h1 => r_gd fun L1 => r_istore k_353_1326 rfl rfl rfl
    (r_aload_n k_353_1328 rfl rfl
    (r_aload_n k_353_1329 rfl rfl
    (r_iload k_353_1330 rfl rfl
    (r_iconst k_353_1332 rfl rfl
    (r_iadd k_353_1333 rfl
    (r_gd fun g => r_ialdS k_353_1334 rfl g
    (r_aload_n k_353_1335 rfl rfl
    (r_iload k_353_1336 rfl rfl
    (r_iconst k_353_1338 rfl rfl
    (r_iadd k_353_1339 rfl
    (r_gd fun g => r_ialdS k_353_1340 rfl g
    (r_aload_n k_353_1341 rfl rfl
    (r_iload k_353_1342 rfl rfl
    (r_iconst k_353_1344 rfl rfl
    (r_iadd k_353_1345 rfl
    (r_gd fun g => r_ialdS k_353_1346 rfl g
    (r_callI (q_virt (rest := []) (as := [.int ((psc σ1).2 (ix (x4 + (ι 1)))), .int ((psc σ1).2 (ix (x4 + (ι 2)))), .int ((psc σ1).2 (ix (x4 + (ι 3))))]) k_353_1347 po_353 rfl rfl rfl (rcvO rfl rfl rfl) rfl rfl) (lvq (j := 0) rfl (by decide +kernel)) rfl rfl (fun r2 σ2 h2 => r_istore k_353_1350 rfl rfl rfl
    (r_aload_n k_353_1352 rfl rfl
    (r_callI (q_virt (rest := []) (as := []) k_353_1353 po_353 rfl rfl rfl (rcvO rfl rfl rfl) rfl rfl) (lvq (j := 0) rfl (by decide +kernel)) rfl rfl (fun r3 σ3 h3 => r_iload k_353_1356 rfl rfl
    (r_icmp (tgt := 1363) k_353_1358 rfl rfl cop_eq
    (r_iload k_353_1363 rfl rfl
    (r_if (tgt := 1380) k_353_1365 rfl rfl cop_ne
    (r_goto (tgt := 2433) k_353_1380 rfl (Le.rfl'))
    (r_aload_n k_353_1368 rfl rfl
    (r_iconst k_353_1369 rfl rfl
    (r_lald k_353_1370 rfl rfl (by decide)
    (r_iload k_353_1371 rfl rfl
    (r_i2l k_353_1373 rfl
    (r_lcmp k_353_1374 rfl
    (r_if (tgt := 1380) k_353_1375 rfl rfl cop_eq
    (r_goto (tgt := 2433) k_353_1380 rfl (Le.rfl'))
    (r_iconst k_353_1378 rfl rfl
    (r_ret k_353_1379 rfl rfl)))))))))))
    (r_iconst k_353_1361 rfl rfl
    (r_ret k_353_1362 rfl rfl))))))))))))))))))))))))))))))))))))))))))
set_option maxRecDepth 100000 in
theorem T_353_1383  {x4 : Int32} {v5 : Value} {v6 : Value}  {σ : pS} {ρ : Nat → Nat → Option Nat} (e : gR σ = ρ) (hL : LayR ρ) : Le
  (gd (inb (x4 + (ι 1)) (psc σ).1) (gd (inb (x4 + (ι 2)) (psc σ).1) (bI (pcall 338 [.ref 0, .int ((psc σ).2 (ix (x4 + (ι 1)))), .int ((psc σ).2 (ix (x4 + (ι 2)))), .ref 98] σ) fun r1 σ1 => gd (LayR (gR σ1)) (gd (inb (x4 + (ι 1)) (psc σ1).1) (gd (inb (x4 + (ι 2)) (psc σ1).1) (bI (pcall 290 [.ref 61, .int ((psc σ1).2 (ix (x4 + (ι 1)))), .int ((psc σ1).2 (ix (x4 + (ι 2))))] σ1) fun r2 σ2 => bI (pcall 208 [.ref 61] σ2) fun r3 σ3 => if r3 = r1 then if ¬ r1 = (ι 0) then C_353_2433 x4 (.int r1) (.int r2) σ3 else if (lg_cmp (gJ σ3 98 0) r2.toInt64) = (ι 0) then C_353_2433 x4 (.int r1) (.int r2) σ3 else some (1, .int (ι 0), σ3) else some (1, .int (ι 0), σ3)))))))
  (C_353_1383  x4 v5 v6 σ) := by
  unfold C_353_1383
  exact r_aload_n k_353_1383 rfl rfl
    (r_aload_n k_353_1384 rfl rfl
    (r_iload k_353_1385 rfl rfl
    (r_iconst k_353_1387 rfl rfl
    (r_iadd k_353_1388 rfl
    (r_gd fun g => r_ialdS k_353_1389 rfl g
    (r_aload_n k_353_1390 rfl rfl
    (r_iload k_353_1391 rfl rfl
    (r_iconst k_353_1393 rfl rfl
    (r_iadd k_353_1394 rfl
    (r_gd fun g => r_ialdS k_353_1395 rfl g
    (r_aload_n k_353_1396 rfl rfl
    (r_callI (q_stat (rest := []) (av := [.ref 0, .int ((psc σ).2 (ix (x4 + (ι 1)))), .int ((psc σ).2 (ix (x4 + (ι 2)))), .ref 98]) k_353_1397 po_353 rfl (by decide) rfl rfl rfl rfl) (lvq (j := 0) rfl (by decide +kernel)) rfl rfl (fun r1 σ1 h1 => r_gd fun L1 => r_istore k_353_1400 rfl rfl rfl
    (r_aload_n k_353_1402 rfl rfl
    (r_aload_n k_353_1403 rfl rfl
    (r_iload k_353_1404 rfl rfl
    (r_iconst k_353_1406 rfl rfl
    (r_iadd k_353_1407 rfl
    (r_gd fun g => r_ialdS k_353_1408 rfl g
    (r_aload_n k_353_1409 rfl rfl
    (r_iload k_353_1410 rfl rfl
    (r_iconst k_353_1412 rfl rfl
    (r_iadd k_353_1413 rfl
    (r_gd fun g => r_ialdS k_353_1414 rfl g
    (r_callI (q_virt (rest := []) (as := [.int ((psc σ1).2 (ix (x4 + (ι 1)))), .int ((psc σ1).2 (ix (x4 + (ι 2))))]) k_353_1415 po_353 rfl rfl rfl (rcvO rfl rfl rfl) rfl rfl) (lvq (j := 0) rfl (by decide +kernel)) rfl rfl (fun r2 σ2 h2 => r_istore k_353_1418 rfl rfl rfl
    (r_aload_n k_353_1420 rfl rfl
    (r_callI (q_virt (rest := []) (as := []) k_353_1421 po_353 rfl rfl rfl (rcvO rfl rfl rfl) rfl rfl) (lvq (j := 0) rfl (by decide +kernel)) rfl rfl (fun r3 σ3 h3 => r_iload k_353_1424 rfl rfl
    (r_icmp (tgt := 1431) k_353_1426 rfl rfl cop_eq
    (r_iload k_353_1431 rfl rfl
    (r_if (tgt := 1448) k_353_1433 rfl rfl cop_ne
    (r_goto (tgt := 2433) k_353_1448 rfl (Le.rfl'))
    (r_aload_n k_353_1436 rfl rfl
    (r_iconst k_353_1437 rfl rfl
    (r_lald k_353_1438 rfl rfl (by decide)
    (r_iload k_353_1439 rfl rfl
    (r_i2l k_353_1441 rfl
    (r_lcmp k_353_1442 rfl
    (r_if (tgt := 1448) k_353_1443 rfl rfl cop_eq
    (r_goto (tgt := 2433) k_353_1448 rfl (Le.rfl'))
    (r_iconst k_353_1446 rfl rfl
    (r_ret k_353_1447 rfl rfl)))))))))))
    (r_iconst k_353_1429 rfl rfl
    (r_ret k_353_1430 rfl rfl))))))))))))))))))))))))))))))))
set_option maxRecDepth 100000 in
theorem T_353_1451  {x4 : Int32} {v5 : Value} {v6 : Value}  {σ : pS} {ρ : Nat → Nat → Option Nat} (e : gR σ = ρ) (hL : LayR ρ) : Le
  (gd (inb (x4 + (ι 1)) (psc σ).1) (gd (inb (x4 + (ι 2)) (psc σ).1) (bI (pcall 339 [.ref 0, .int ((psc σ).2 (ix (x4 + (ι 1)))), .int ((psc σ).2 (ix (x4 + (ι 2)))), .ref 98] σ) fun r1 σ1 => gd (LayR (gR σ1)) (gd (inb (x4 + (ι 1)) (psc σ1).1) (gd (inb (x4 + (ι 2)) (psc σ1).1) (bI (pcall 292 [.ref 61, .int ((psc σ1).2 (ix (x4 + (ι 1)))), .int ((psc σ1).2 (ix (x4 + (ι 2))))] σ1) fun r2 σ2 => bI (pcall 208 [.ref 61] σ2) fun r3 σ3 => if r3 = r1 then if ¬ r1 = (ι 0) then C_353_2433 x4 (.int r1) (.int r2) σ3 else if (lg_cmp (gJ σ3 98 0) r2.toInt64) = (ι 0) then C_353_2433 x4 (.int r1) (.int r2) σ3 else some (1, .int (ι 0), σ3) else some (1, .int (ι 0), σ3)))))))
  (C_353_1451  x4 v5 v6 σ) := by
  unfold C_353_1451
  exact r_aload_n k_353_1451 rfl rfl
    (r_aload_n k_353_1452 rfl rfl
    (r_iload k_353_1453 rfl rfl
    (r_iconst k_353_1455 rfl rfl
    (r_iadd k_353_1456 rfl
    (r_gd fun g => r_ialdS k_353_1457 rfl g
    (r_aload_n k_353_1458 rfl rfl
    (r_iload k_353_1459 rfl rfl
    (r_iconst k_353_1461 rfl rfl
    (r_iadd k_353_1462 rfl
    (r_gd fun g => r_ialdS k_353_1463 rfl g
    (r_aload_n k_353_1464 rfl rfl
    (r_callI (q_stat (rest := []) (av := [.ref 0, .int ((psc σ).2 (ix (x4 + (ι 1)))), .int ((psc σ).2 (ix (x4 + (ι 2)))), .ref 98]) k_353_1465 po_353 rfl (by decide) rfl rfl rfl rfl) (lvq (j := 0) rfl (by decide +kernel)) rfl rfl (fun r1 σ1 h1 => r_gd fun L1 => r_istore k_353_1468 rfl rfl rfl
    (r_aload_n k_353_1470 rfl rfl
    (r_aload_n k_353_1471 rfl rfl
    (r_iload k_353_1472 rfl rfl
    (r_iconst k_353_1474 rfl rfl
    (r_iadd k_353_1475 rfl
    (r_gd fun g => r_ialdS k_353_1476 rfl g
    (r_aload_n k_353_1477 rfl rfl
    (r_iload k_353_1478 rfl rfl
    (r_iconst k_353_1480 rfl rfl
    (r_iadd k_353_1481 rfl
    (r_gd fun g => r_ialdS k_353_1482 rfl g
    (r_callI (q_virt (rest := []) (as := [.int ((psc σ1).2 (ix (x4 + (ι 1)))), .int ((psc σ1).2 (ix (x4 + (ι 2))))]) k_353_1483 po_353 rfl rfl rfl (rcvO rfl rfl rfl) rfl rfl) (lvq (j := 0) rfl (by decide +kernel)) rfl rfl (fun r2 σ2 h2 => r_istore k_353_1486 rfl rfl rfl
    (r_aload_n k_353_1488 rfl rfl
    (r_callI (q_virt (rest := []) (as := []) k_353_1489 po_353 rfl rfl rfl (rcvO rfl rfl rfl) rfl rfl) (lvq (j := 0) rfl (by decide +kernel)) rfl rfl (fun r3 σ3 h3 => r_iload k_353_1492 rfl rfl
    (r_icmp (tgt := 1499) k_353_1494 rfl rfl cop_eq
    (r_iload k_353_1499 rfl rfl
    (r_if (tgt := 1516) k_353_1501 rfl rfl cop_ne
    (r_goto (tgt := 2433) k_353_1516 rfl (Le.rfl'))
    (r_aload_n k_353_1504 rfl rfl
    (r_iconst k_353_1505 rfl rfl
    (r_lald k_353_1506 rfl rfl (by decide)
    (r_iload k_353_1507 rfl rfl
    (r_i2l k_353_1509 rfl
    (r_lcmp k_353_1510 rfl
    (r_if (tgt := 1516) k_353_1511 rfl rfl cop_eq
    (r_goto (tgt := 2433) k_353_1516 rfl (Le.rfl'))
    (r_iconst k_353_1514 rfl rfl
    (r_ret k_353_1515 rfl rfl)))))))))))
    (r_iconst k_353_1497 rfl rfl
    (r_ret k_353_1498 rfl rfl))))))))))))))))))))))))))))))))
set_option maxRecDepth 100000 in
theorem T_353_1519  {x4 : Int32} {v5 : Value} {v6 : Value}  {σ : pS} {ρ : Nat → Nat → Option Nat} (e : gR σ = ρ) (hL : LayR ρ) : Le
  (gd (inb (x4 + (ι 1)) (psc σ).1) (bI (pcall 340 [.ref 0, .int ((psc σ).2 (ix (x4 + (ι 1)))), .ref 98] σ) fun r1 σ1 => gd (LayR (gR σ1)) (gd (inb (x4 + (ι 1)) (psc σ1).1) (bI (pcall 297 [.ref 61, .int ((psc σ1).2 (ix (x4 + (ι 1))))] σ1) fun r2 σ2 => bI (pcall 208 [.ref 61] σ2) fun r3 σ3 => if r3 = r1 then if ¬ r1 = (ι 0) then C_353_2433 x4 (.int r1) (.int r2) σ3 else if (lg_cmp (gJ σ3 98 0) r2.toInt64) = (ι 0) then C_353_2433 x4 (.int r1) (.int r2) σ3 else some (1, .int (ι 0), σ3) else some (1, .int (ι 0), σ3)))))
  (C_353_1519  x4 v5 v6 σ) := by
  unfold C_353_1519
  exact r_aload_n k_353_1519 rfl rfl
    (r_aload_n k_353_1520 rfl rfl
    (r_iload k_353_1521 rfl rfl
    (r_iconst k_353_1523 rfl rfl
    (r_iadd k_353_1524 rfl
    (r_gd fun g => r_ialdS k_353_1525 rfl g
    (r_aload_n k_353_1526 rfl rfl
    (r_callI (q_stat (rest := []) (av := [.ref 0, .int ((psc σ).2 (ix (x4 + (ι 1)))), .ref 98]) k_353_1527 po_353 rfl (by decide) rfl rfl rfl rfl) (lvq (j := 0) rfl (by decide +kernel)) rfl rfl (fun r1 σ1 h1 => r_gd fun L1 => r_istore k_353_1530 rfl rfl rfl
    (r_aload_n k_353_1532 rfl rfl
    (r_aload_n k_353_1533 rfl rfl
    (r_iload k_353_1534 rfl rfl
    (r_iconst k_353_1536 rfl rfl
    (r_iadd k_353_1537 rfl
    (r_gd fun g => r_ialdS k_353_1538 rfl g
    (r_callI (q_virt (rest := []) (as := [.int ((psc σ1).2 (ix (x4 + (ι 1))))]) k_353_1539 po_353 rfl rfl rfl (rcvO rfl rfl rfl) rfl rfl) (lvq (j := 0) rfl (by decide +kernel)) rfl rfl (fun r2 σ2 h2 => r_istore k_353_1542 rfl rfl rfl
    (r_aload_n k_353_1544 rfl rfl
    (r_callI (q_virt (rest := []) (as := []) k_353_1545 po_353 rfl rfl rfl (rcvO rfl rfl rfl) rfl rfl) (lvq (j := 0) rfl (by decide +kernel)) rfl rfl (fun r3 σ3 h3 => r_iload k_353_1548 rfl rfl
    (r_icmp (tgt := 1555) k_353_1550 rfl rfl cop_eq
    (r_iload k_353_1555 rfl rfl
    (r_if (tgt := 1572) k_353_1557 rfl rfl cop_ne
    (r_goto (tgt := 2433) k_353_1572 rfl (Le.rfl'))
    (r_aload_n k_353_1560 rfl rfl
    (r_iconst k_353_1561 rfl rfl
    (r_lald k_353_1562 rfl rfl (by decide)
    (r_iload k_353_1563 rfl rfl
    (r_i2l k_353_1565 rfl
    (r_lcmp k_353_1566 rfl
    (r_if (tgt := 1572) k_353_1567 rfl rfl cop_eq
    (r_goto (tgt := 2433) k_353_1572 rfl (Le.rfl'))
    (r_iconst k_353_1570 rfl rfl
    (r_ret k_353_1571 rfl rfl)))))))))))
    (r_iconst k_353_1553 rfl rfl
    (r_ret k_353_1554 rfl rfl))))))))))))))))))))))
set_option maxRecDepth 100000 in
theorem T_353_1575  {x4 : Int32} {v5 : Value} {v6 : Value}  {σ : pS} {ρ : Nat → Nat → Option Nat} (e : gR σ = ρ) (hL : LayR ρ) : Le
  (gd (inb (x4 + (ι 1)) (psc σ).1) (gd (inb (x4 + (ι 2)) (psc σ).1) (bI (pcall 341 [.ref 0, .int ((psc σ).2 (ix (x4 + (ι 1)))), .int ((psc σ).2 (ix (x4 + (ι 2)))), .ref 98] σ) fun r1 σ1 => gd (inb (x4 + (ι 1)) (psc σ1).1) (gd (inb (x4 + (ι 2)) (psc σ1).1) (bI (pcall 300 [.ref 61, .int ((psc σ1).2 (ix (x4 + (ι 1)))), .int ((psc σ1).2 (ix (x4 + (ι 2))))] σ1) fun r2 σ2 => bI (pcall 208 [.ref 61] σ2) fun r3 σ3 => if r3 = r1 then if ¬ r1 = (ι 0) then C_353_2433 x4 (.int r1) (.int r2) σ3 else if r2 = (ι 0) then if (lg_cmp (gJ σ3 98 0) (0 : Int64)) = (ι 0) then C_353_2433 x4 (.int r1) (.int r2) σ3 else some (1, .int (ι 0), σ3) else if (lg_cmp (gJ σ3 98 0) (1 : Int64)) = (ι 0) then C_353_2433 x4 (.int r1) (.int r2) σ3 else some (1, .int (ι 0), σ3) else some (1, .int (ι 0), σ3))))))
  (C_353_1575  x4 v5 v6 σ) := by
  unfold C_353_1575
  exact r_aload_n k_353_1575 rfl rfl
    (r_aload_n k_353_1576 rfl rfl
    (r_iload k_353_1577 rfl rfl
    (r_iconst k_353_1579 rfl rfl
    (r_iadd k_353_1580 rfl
    (r_gd fun g => r_ialdS k_353_1581 rfl g
    (r_aload_n k_353_1582 rfl rfl
    (r_iload k_353_1583 rfl rfl
    (r_iconst k_353_1585 rfl rfl
    (r_iadd k_353_1586 rfl
    (r_gd fun g => r_ialdS k_353_1587 rfl g
    (r_aload_n k_353_1588 rfl rfl
    (r_callI (q_stat (rest := []) (av := [.ref 0, .int ((psc σ).2 (ix (x4 + (ι 1)))), .int ((psc σ).2 (ix (x4 + (ι 2)))), .ref 98]) k_353_1589 po_353 rfl (by decide) rfl rfl rfl rfl) (lvq (j := 0) rfl (by decide +kernel)) rfl rfl (fun r1 σ1 h1 => r_istore k_353_1592 rfl rfl rfl
    (r_aload_n k_353_1594 rfl rfl
    (r_aload_n k_353_1595 rfl rfl
    (r_iload k_353_1596 rfl rfl
    (r_iconst k_353_1598 rfl rfl
    (r_iadd k_353_1599 rfl
    (r_gd fun g => r_ialdS k_353_1600 rfl g
    (r_aload_n k_353_1601 rfl rfl
    (r_iload k_353_1602 rfl rfl
    (r_iconst k_353_1604 rfl rfl
    (r_iadd k_353_1605 rfl
    (r_gd fun g => r_ialdS k_353_1606 rfl g
    (r_callI (q_virt (rest := []) (as := [.int ((psc σ1).2 (ix (x4 + (ι 1)))), .int ((psc σ1).2 (ix (x4 + (ι 2))))]) k_353_1607 po_353 rfl rfl rfl (rcvO rfl rfl rfl) rfl rfl) (lvq (j := 0) rfl (by decide +kernel)) rfl rfl (fun r2 σ2 h2 => r_istore k_353_1610 rfl rfl rfl
    (r_aload_n k_353_1612 rfl rfl
    (r_callI (q_virt (rest := []) (as := []) k_353_1613 po_353 rfl rfl rfl (rcvO rfl rfl rfl) rfl rfl) (lvq (j := 0) rfl (by decide +kernel)) rfl rfl (fun r3 σ3 h3 => r_iload k_353_1616 rfl rfl
    (r_icmp (tgt := 1623) k_353_1618 rfl rfl cop_eq
    (r_iload k_353_1623 rfl rfl
    (r_if (tgt := 1647) k_353_1625 rfl rfl cop_ne
    (r_goto (tgt := 2433) k_353_1647 rfl (Le.rfl'))
    (r_aload_n k_353_1628 rfl rfl
    (r_iconst k_353_1629 rfl rfl
    (r_lald k_353_1630 rfl rfl (by decide)
    (r_iload k_353_1631 rfl rfl
    (r_if (tgt := 1640) k_353_1633 rfl rfl cop_eq
    (r_lconst k_353_1640 rfl rfl
    (r_lcmp k_353_1641 rfl
    (r_if (tgt := 1647) k_353_1642 rfl rfl cop_eq
    (r_goto (tgt := 2433) k_353_1647 rfl (Le.rfl'))
    (r_iconst k_353_1645 rfl rfl
    (r_ret k_353_1646 rfl rfl)))))
    (r_lconst k_353_1636 rfl rfl
    (r_goto (tgt := 1641) k_353_1637 rfl (r_lcmp k_353_1641 rfl
    (r_if (tgt := 1647) k_353_1642 rfl rfl cop_eq
    (r_goto (tgt := 2433) k_353_1647 rfl (Le.rfl'))
    (r_iconst k_353_1645 rfl rfl
    (r_ret k_353_1646 rfl rfl)))))))))))))
    (r_iconst k_353_1621 rfl rfl
    (r_ret k_353_1622 rfl rfl))))))))))))))))))))))))))))))))
set_option maxRecDepth 100000 in
theorem T_353_1650  {x4 : Int32} {v5 : Value} {v6 : Value}  {σ : pS} {ρ : Nat → Nat → Option Nat} (e : gR σ = ρ) (hL : LayR ρ) : Le
  (gd (inb (x4 + (ι 1)) (psc σ).1) (bI (pcall 342 [.ref 0, .int ((psc σ).2 (ix (x4 + (ι 1)))), .ref 98] σ) fun r1 σ1 => gd (inb (x4 + (ι 1)) (psc σ1).1) (bI (pcall 301 [.ref 61, .int ((psc σ1).2 (ix (x4 + (ι 1))))] σ1) fun r2 σ2 => bI (pcall 208 [.ref 61] σ2) fun r3 σ3 => if r3 = r1 then if ¬ r1 = (ι 0) then C_353_2433 x4 (.int r1) (.int r2) σ3 else if (lg_cmp (gJ σ3 98 0) r2.toInt64) = (ι 0) then C_353_2433 x4 (.int r1) (.int r2) σ3 else some (1, .int (ι 0), σ3) else some (1, .int (ι 0), σ3))))
  (C_353_1650  x4 v5 v6 σ) := by
  unfold C_353_1650
  exact r_aload_n k_353_1650 rfl rfl
    (r_aload_n k_353_1651 rfl rfl
    (r_iload k_353_1652 rfl rfl
    (r_iconst k_353_1654 rfl rfl
    (r_iadd k_353_1655 rfl
    (r_gd fun g => r_ialdS k_353_1656 rfl g
    (r_aload_n k_353_1657 rfl rfl
    (r_callI (q_stat (rest := []) (av := [.ref 0, .int ((psc σ).2 (ix (x4 + (ι 1)))), .ref 98]) k_353_1658 po_353 rfl (by decide) rfl rfl rfl rfl) (lvq (j := 0) rfl (by decide +kernel)) rfl rfl (fun r1 σ1 h1 => r_istore k_353_1661 rfl rfl rfl
    (r_aload_n k_353_1663 rfl rfl
    (r_aload_n k_353_1664 rfl rfl
    (r_iload k_353_1665 rfl rfl
    (r_iconst k_353_1667 rfl rfl
    (r_iadd k_353_1668 rfl
    (r_gd fun g => r_ialdS k_353_1669 rfl g
    (r_callI (q_virt (rest := []) (as := [.int ((psc σ1).2 (ix (x4 + (ι 1))))]) k_353_1670 po_353 rfl rfl rfl (rcvO rfl rfl rfl) rfl rfl) (lvq (j := 0) rfl (by decide +kernel)) rfl rfl (fun r2 σ2 h2 => r_istore k_353_1673 rfl rfl rfl
    (r_aload_n k_353_1675 rfl rfl
    (r_callI (q_virt (rest := []) (as := []) k_353_1676 po_353 rfl rfl rfl (rcvO rfl rfl rfl) rfl rfl) (lvq (j := 0) rfl (by decide +kernel)) rfl rfl (fun r3 σ3 h3 => r_iload k_353_1679 rfl rfl
    (r_icmp (tgt := 1686) k_353_1681 rfl rfl cop_eq
    (r_iload k_353_1686 rfl rfl
    (r_if (tgt := 1703) k_353_1688 rfl rfl cop_ne
    (r_goto (tgt := 2433) k_353_1703 rfl (Le.rfl'))
    (r_aload_n k_353_1691 rfl rfl
    (r_iconst k_353_1692 rfl rfl
    (r_lald k_353_1693 rfl rfl (by decide)
    (r_iload k_353_1694 rfl rfl
    (r_i2l k_353_1696 rfl
    (r_lcmp k_353_1697 rfl
    (r_if (tgt := 1703) k_353_1698 rfl rfl cop_eq
    (r_goto (tgt := 2433) k_353_1703 rfl (Le.rfl'))
    (r_iconst k_353_1701 rfl rfl
    (r_ret k_353_1702 rfl rfl)))))))))))
    (r_iconst k_353_1684 rfl rfl
    (r_ret k_353_1685 rfl rfl))))))))))))))))))))))
set_option maxRecDepth 100000 in
theorem T_353_1706  {x4 : Int32} {v5 : Value} {v6 : Value}  {σ : pS} {ρ : Nat → Nat → Option Nat} (e : gR σ = ρ) (hL : LayR ρ) : Le
  (gd (inb (x4 + (ι 1)) (psc σ).1) (gd (inb (x4 + (ι 2)) (psc σ).1) (bI (pcall 343 [.ref 0, .int ((psc σ).2 (ix (x4 + (ι 1)))), .int ((psc σ).2 (ix (x4 + (ι 2)))), .ref 98] σ) fun r1 σ1 => gd (inb (x4 + (ι 1)) (psc σ1).1) (gd (inb (x4 + (ι 2)) (psc σ1).1) (bI (pcall 304 [.ref 61, .int ((psc σ1).2 (ix (x4 + (ι 1)))), .int ((psc σ1).2 (ix (x4 + (ι 2))))] σ1) fun r2 σ2 => bI (pcall 208 [.ref 61] σ2) fun r3 σ3 => if r3 = r1 then if ¬ r1 = (ι 0) then C_353_2433 x4 (.int r1) (.int r2) σ3 else if (lg_cmp (gJ σ3 98 0) r2.toInt64) = (ι 0) then C_353_2433 x4 (.int r1) (.int r2) σ3 else some (1, .int (ι 0), σ3) else some (1, .int (ι 0), σ3))))))
  (C_353_1706  x4 v5 v6 σ) := by
  unfold C_353_1706
  exact r_aload_n k_353_1706 rfl rfl
    (r_aload_n k_353_1707 rfl rfl
    (r_iload k_353_1708 rfl rfl
    (r_iconst k_353_1710 rfl rfl
    (r_iadd k_353_1711 rfl
    (r_gd fun g => r_ialdS k_353_1712 rfl g
    (r_aload_n k_353_1713 rfl rfl
    (r_iload k_353_1714 rfl rfl
    (r_iconst k_353_1716 rfl rfl
    (r_iadd k_353_1717 rfl
    (r_gd fun g => r_ialdS k_353_1718 rfl g
    (r_aload_n k_353_1719 rfl rfl
    (r_callI (q_stat (rest := []) (av := [.ref 0, .int ((psc σ).2 (ix (x4 + (ι 1)))), .int ((psc σ).2 (ix (x4 + (ι 2)))), .ref 98]) k_353_1720 po_353 rfl (by decide) rfl rfl rfl rfl) (lvq (j := 0) rfl (by decide +kernel)) rfl rfl (fun r1 σ1 h1 => r_istore k_353_1723 rfl rfl rfl
    (r_aload_n k_353_1725 rfl rfl
    (r_aload_n k_353_1726 rfl rfl
    (r_iload k_353_1727 rfl rfl
    (r_iconst k_353_1729 rfl rfl
    (r_iadd k_353_1730 rfl
    (r_gd fun g => r_ialdS k_353_1731 rfl g
    (r_aload_n k_353_1732 rfl rfl
    (r_iload k_353_1733 rfl rfl
    (r_iconst k_353_1735 rfl rfl
    (r_iadd k_353_1736 rfl
    (r_gd fun g => r_ialdS k_353_1737 rfl g
    (r_callI (q_virt (rest := []) (as := [.int ((psc σ1).2 (ix (x4 + (ι 1)))), .int ((psc σ1).2 (ix (x4 + (ι 2))))]) k_353_1738 po_353 rfl rfl rfl (rcvO rfl rfl rfl) rfl rfl) (lvq (j := 0) rfl (by decide +kernel)) rfl rfl (fun r2 σ2 h2 => r_istore k_353_1741 rfl rfl rfl
    (r_aload_n k_353_1743 rfl rfl
    (r_callI (q_virt (rest := []) (as := []) k_353_1744 po_353 rfl rfl rfl (rcvO rfl rfl rfl) rfl rfl) (lvq (j := 0) rfl (by decide +kernel)) rfl rfl (fun r3 σ3 h3 => r_iload k_353_1747 rfl rfl
    (r_icmp (tgt := 1754) k_353_1749 rfl rfl cop_eq
    (r_iload k_353_1754 rfl rfl
    (r_if (tgt := 1771) k_353_1756 rfl rfl cop_ne
    (r_goto (tgt := 2433) k_353_1771 rfl (Le.rfl'))
    (r_aload_n k_353_1759 rfl rfl
    (r_iconst k_353_1760 rfl rfl
    (r_lald k_353_1761 rfl rfl (by decide)
    (r_iload k_353_1762 rfl rfl
    (r_i2l k_353_1764 rfl
    (r_lcmp k_353_1765 rfl
    (r_if (tgt := 1771) k_353_1766 rfl rfl cop_eq
    (r_goto (tgt := 2433) k_353_1771 rfl (Le.rfl'))
    (r_iconst k_353_1769 rfl rfl
    (r_ret k_353_1770 rfl rfl)))))))))))
    (r_iconst k_353_1752 rfl rfl
    (r_ret k_353_1753 rfl rfl))))))))))))))))))))))))))))))))
set_option maxRecDepth 100000 in
theorem T_353_1774  {x4 : Int32} {v5 : Value} {v6 : Value}  {σ : pS} {ρ : Nat → Nat → Option Nat} (e : gR σ = ρ) (hL : LayR ρ) : Le
  (gd (inb (x4 + (ι 1)) (psc σ).1) (gd (inb (x4 + (ι 2)) (psc σ).1) (bI (pcall 344 [.ref 0, .int ((psc σ).2 (ix (x4 + (ι 1)))), .int ((psc σ).2 (ix (x4 + (ι 2)))), .ref 98] σ) fun r1 σ1 => gd (inb (x4 + (ι 1)) (psc σ1).1) (gd (inb (x4 + (ι 2)) (psc σ1).1) (bI (pcall 305 [.ref 61, .int ((psc σ1).2 (ix (x4 + (ι 1)))), .int ((psc σ1).2 (ix (x4 + (ι 2))))] σ1) fun r2 σ2 => bI (pcall 208 [.ref 61] σ2) fun r3 σ3 => if r3 = r1 then if ¬ r1 = (ι 0) then C_353_2433 x4 (.int r1) (.int r2) σ3 else if (lg_cmp (gJ σ3 98 0) r2.toInt64) = (ι 0) then C_353_2433 x4 (.int r1) (.int r2) σ3 else some (1, .int (ι 0), σ3) else some (1, .int (ι 0), σ3))))))
  (C_353_1774  x4 v5 v6 σ) := by
  unfold C_353_1774
  exact r_aload_n k_353_1774 rfl rfl
    (r_aload_n k_353_1775 rfl rfl
    (r_iload k_353_1776 rfl rfl
    (r_iconst k_353_1778 rfl rfl
    (r_iadd k_353_1779 rfl
    (r_gd fun g => r_ialdS k_353_1780 rfl g
    (r_aload_n k_353_1781 rfl rfl
    (r_iload k_353_1782 rfl rfl
    (r_iconst k_353_1784 rfl rfl
    (r_iadd k_353_1785 rfl
    (r_gd fun g => r_ialdS k_353_1786 rfl g
    (r_aload_n k_353_1787 rfl rfl
    (r_callI (q_stat (rest := []) (av := [.ref 0, .int ((psc σ).2 (ix (x4 + (ι 1)))), .int ((psc σ).2 (ix (x4 + (ι 2)))), .ref 98]) k_353_1788 po_353 rfl (by decide) rfl rfl rfl rfl) (lvq (j := 0) rfl (by decide +kernel)) rfl rfl (fun r1 σ1 h1 => r_istore k_353_1791 rfl rfl rfl
    (r_aload_n k_353_1793 rfl rfl
    (r_aload_n k_353_1794 rfl rfl
    (r_iload k_353_1795 rfl rfl
    (r_iconst k_353_1797 rfl rfl
    (r_iadd k_353_1798 rfl
    (r_gd fun g => r_ialdS k_353_1799 rfl g
    (r_aload_n k_353_1800 rfl rfl
    (r_iload k_353_1801 rfl rfl
    (r_iconst k_353_1803 rfl rfl
    (r_iadd k_353_1804 rfl
    (r_gd fun g => r_ialdS k_353_1805 rfl g
    (r_callI (q_virt (rest := []) (as := [.int ((psc σ1).2 (ix (x4 + (ι 1)))), .int ((psc σ1).2 (ix (x4 + (ι 2))))]) k_353_1806 po_353 rfl rfl rfl (rcvO rfl rfl rfl) rfl rfl) (lvq (j := 0) rfl (by decide +kernel)) rfl rfl (fun r2 σ2 h2 => r_istore k_353_1809 rfl rfl rfl
    (r_aload_n k_353_1811 rfl rfl
    (r_callI (q_virt (rest := []) (as := []) k_353_1812 po_353 rfl rfl rfl (rcvO rfl rfl rfl) rfl rfl) (lvq (j := 0) rfl (by decide +kernel)) rfl rfl (fun r3 σ3 h3 => r_iload k_353_1815 rfl rfl
    (r_icmp (tgt := 1822) k_353_1817 rfl rfl cop_eq
    (r_iload k_353_1822 rfl rfl
    (r_if (tgt := 1839) k_353_1824 rfl rfl cop_ne
    (r_goto (tgt := 2433) k_353_1839 rfl (Le.rfl'))
    (r_aload_n k_353_1827 rfl rfl
    (r_iconst k_353_1828 rfl rfl
    (r_lald k_353_1829 rfl rfl (by decide)
    (r_iload k_353_1830 rfl rfl
    (r_i2l k_353_1832 rfl
    (r_lcmp k_353_1833 rfl
    (r_if (tgt := 1839) k_353_1834 rfl rfl cop_eq
    (r_goto (tgt := 2433) k_353_1839 rfl (Le.rfl'))
    (r_iconst k_353_1837 rfl rfl
    (r_ret k_353_1838 rfl rfl)))))))))))
    (r_iconst k_353_1820 rfl rfl
    (r_ret k_353_1821 rfl rfl))))))))))))))))))))))))))))))))
set_option maxRecDepth 100000 in
theorem T_353_1842  {x4 : Int32} {v5 : Value} {v6 : Value}  {σ : pS} {ρ : Nat → Nat → Option Nat} (e : gR σ = ρ) (hL : LayR ρ) : Le
  (gd (inb (x4 + (ι 1)) (psc σ).1) (gd (inb (x4 + (ι 2)) (psc σ).1) (bI (pcall 345 [.ref 0, .int ((psc σ).2 (ix (x4 + (ι 1)))), .int ((psc σ).2 (ix (x4 + (ι 2)))), .ref 98] σ) fun r1 σ1 => gd (LayR (gR σ1)) (gd (inb (x4 + (ι 1)) (psc σ1).1) (gd (inb (x4 + (ι 2)) (psc σ1).1) (bI (pcall 306 [.ref 61, .int ((psc σ1).2 (ix (x4 + (ι 1)))), .int ((psc σ1).2 (ix (x4 + (ι 2))))] σ1) fun r2 σ2 => bI (pcall 208 [.ref 61] σ2) fun r3 σ3 => if r3 = r1 then if ¬ r1 = (ι 0) then C_353_2433 x4 (.int r1) (.int r2) σ3 else if (lg_cmp (gJ σ3 98 0) r2.toInt64) = (ι 0) then C_353_2433 x4 (.int r1) (.int r2) σ3 else some (1, .int (ι 0), σ3) else some (1, .int (ι 0), σ3)))))))
  (C_353_1842  x4 v5 v6 σ) := by
  unfold C_353_1842
  exact r_aload_n k_353_1842 rfl rfl
    (r_aload_n k_353_1843 rfl rfl
    (r_iload k_353_1844 rfl rfl
    (r_iconst k_353_1846 rfl rfl
    (r_iadd k_353_1847 rfl
    (r_gd fun g => r_ialdS k_353_1848 rfl g
    (r_aload_n k_353_1849 rfl rfl
    (r_iload k_353_1850 rfl rfl
    (r_iconst k_353_1852 rfl rfl
    (r_iadd k_353_1853 rfl
    (r_gd fun g => r_ialdS k_353_1854 rfl g
    (r_aload_n k_353_1855 rfl rfl
    (r_callI (q_stat (rest := []) (av := [.ref 0, .int ((psc σ).2 (ix (x4 + (ι 1)))), .int ((psc σ).2 (ix (x4 + (ι 2)))), .ref 98]) k_353_1856 po_353 rfl (by decide) rfl rfl rfl rfl) (lvq (j := 0) rfl (by decide +kernel)) rfl rfl (fun r1 σ1 h1 => r_gd fun L1 => r_istore k_353_1859 rfl rfl rfl
    (r_aload_n k_353_1861 rfl rfl
    (r_aload_n k_353_1862 rfl rfl
    (r_iload k_353_1863 rfl rfl
    (r_iconst k_353_1865 rfl rfl
    (r_iadd k_353_1866 rfl
    (r_gd fun g => r_ialdS k_353_1867 rfl g
    (r_aload_n k_353_1868 rfl rfl
    (r_iload k_353_1869 rfl rfl
    (r_iconst k_353_1871 rfl rfl
    (r_iadd k_353_1872 rfl
    (r_gd fun g => r_ialdS k_353_1873 rfl g
    (r_callI (q_virt (rest := []) (as := [.int ((psc σ1).2 (ix (x4 + (ι 1)))), .int ((psc σ1).2 (ix (x4 + (ι 2))))]) k_353_1874 po_353 rfl rfl rfl (rcvO rfl rfl rfl) rfl rfl) (lvq (j := 0) rfl (by decide +kernel)) rfl rfl (fun r2 σ2 h2 => r_istore k_353_1877 rfl rfl rfl
    (r_aload_n k_353_1879 rfl rfl
    (r_callI (q_virt (rest := []) (as := []) k_353_1880 po_353 rfl rfl rfl (rcvO rfl rfl rfl) rfl rfl) (lvq (j := 0) rfl (by decide +kernel)) rfl rfl (fun r3 σ3 h3 => r_iload k_353_1883 rfl rfl
    (r_icmp (tgt := 1890) k_353_1885 rfl rfl cop_eq
    (r_iload k_353_1890 rfl rfl
    (r_if (tgt := 1907) k_353_1892 rfl rfl cop_ne
    (r_goto (tgt := 2433) k_353_1907 rfl (Le.rfl'))
    (r_aload_n k_353_1895 rfl rfl
    (r_iconst k_353_1896 rfl rfl
    (r_lald k_353_1897 rfl rfl (by decide)
    (r_iload k_353_1898 rfl rfl
    (r_i2l k_353_1900 rfl
    (r_lcmp k_353_1901 rfl
    (r_if (tgt := 1907) k_353_1902 rfl rfl cop_eq
    (r_goto (tgt := 2433) k_353_1907 rfl (Le.rfl'))
    (r_iconst k_353_1905 rfl rfl
    (r_ret k_353_1906 rfl rfl)))))))))))
    (r_iconst k_353_1888 rfl rfl
    (r_ret k_353_1889 rfl rfl))))))))))))))))))))))))))))))))
set_option maxRecDepth 100000 in
theorem T_353_1910  {x4 : Int32} {v5 : Value} {v6 : Value}  {σ : pS} {ρ : Nat → Nat → Option Nat} (e : gR σ = ρ) (hL : LayR ρ) : Le
  (gd (inb (x4 + (ι 1)) (psc σ).1) (bI (pcall 346 [.ref 0, .int ((psc σ).2 (ix (x4 + (ι 1)))), .ref 98] σ) fun r1 σ1 => gd (LayR (gR σ1)) (gd (inb (x4 + (ι 1)) (psc σ1).1) (bI (pcall 307 [.ref 61, .int ((psc σ1).2 (ix (x4 + (ι 1))))] σ1) fun r2 σ2 => bI (pcall 208 [.ref 61] σ2) fun r3 σ3 => if r3 = r1 then if ¬ r1 = (ι 0) then C_353_2433 x4 (.int r1) (.int r2) σ3 else if (lg_cmp (gJ σ3 98 0) r2.toInt64) = (ι 0) then C_353_2433 x4 (.int r1) (.int r2) σ3 else some (1, .int (ι 0), σ3) else some (1, .int (ι 0), σ3)))))
  (C_353_1910  x4 v5 v6 σ) := by
  unfold C_353_1910
  exact r_aload_n k_353_1910 rfl rfl
    (r_aload_n k_353_1911 rfl rfl
    (r_iload k_353_1912 rfl rfl
    (r_iconst k_353_1914 rfl rfl
    (r_iadd k_353_1915 rfl
    (r_gd fun g => r_ialdS k_353_1916 rfl g
    (r_aload_n k_353_1917 rfl rfl
    (r_callI (q_stat (rest := []) (av := [.ref 0, .int ((psc σ).2 (ix (x4 + (ι 1)))), .ref 98]) k_353_1918 po_353 rfl (by decide) rfl rfl rfl rfl) (lvq (j := 0) rfl (by decide +kernel)) rfl rfl (fun r1 σ1 h1 => r_gd fun L1 => r_istore k_353_1921 rfl rfl rfl
    (r_aload_n k_353_1923 rfl rfl
    (r_aload_n k_353_1924 rfl rfl
    (r_iload k_353_1925 rfl rfl
    (r_iconst k_353_1927 rfl rfl
    (r_iadd k_353_1928 rfl
    (r_gd fun g => r_ialdS k_353_1929 rfl g
    (r_callI (q_virt (rest := []) (as := [.int ((psc σ1).2 (ix (x4 + (ι 1))))]) k_353_1930 po_353 rfl rfl rfl (rcvO rfl rfl rfl) rfl rfl) (lvq (j := 0) rfl (by decide +kernel)) rfl rfl (fun r2 σ2 h2 => r_istore k_353_1933 rfl rfl rfl
    (r_aload_n k_353_1935 rfl rfl
    (r_callI (q_virt (rest := []) (as := []) k_353_1936 po_353 rfl rfl rfl (rcvO rfl rfl rfl) rfl rfl) (lvq (j := 0) rfl (by decide +kernel)) rfl rfl (fun r3 σ3 h3 => r_iload k_353_1939 rfl rfl
    (r_icmp (tgt := 1946) k_353_1941 rfl rfl cop_eq
    (r_iload k_353_1946 rfl rfl
    (r_if (tgt := 1963) k_353_1948 rfl rfl cop_ne
    (r_goto (tgt := 2433) k_353_1963 rfl (Le.rfl'))
    (r_aload_n k_353_1951 rfl rfl
    (r_iconst k_353_1952 rfl rfl
    (r_lald k_353_1953 rfl rfl (by decide)
    (r_iload k_353_1954 rfl rfl
    (r_i2l k_353_1956 rfl
    (r_lcmp k_353_1957 rfl
    (r_if (tgt := 1963) k_353_1958 rfl rfl cop_eq
    (r_goto (tgt := 2433) k_353_1963 rfl (Le.rfl'))
    (r_iconst k_353_1961 rfl rfl
    (r_ret k_353_1962 rfl rfl)))))))))))
    (r_iconst k_353_1944 rfl rfl
    (r_ret k_353_1945 rfl rfl))))))))))))))))))))))
set_option maxRecDepth 100000 in
theorem T_353_1966  {x4 : Int32} {v5 : Value} {v6 : Value}  {σ : pS} {ρ : Nat → Nat → Option Nat} (e : gR σ = ρ) (hL : LayR ρ) : Le
  (gd (inb (x4 + (ι 1)) (psc σ).1) (gd (inb (x4 + (ι 2)) (psc σ).1) (gd (inb (x4 + (ι 3)) (psc σ).1) (bI (pcall 347 [.ref 0, .int ((psc σ).2 (ix (x4 + (ι 1)))), .int ((psc σ).2 (ix (x4 + (ι 2)))), .int ((psc σ).2 (ix (x4 + (ι 3)))), .ref 98] σ) fun r1 σ1 => gd (inb (x4 + (ι 1)) (psc σ1).1) (gd (inb (x4 + (ι 2)) (psc σ1).1) (gd (inb (x4 + (ι 3)) (psc σ1).1) (bI (pcall 308 [.ref 61, .int ((psc σ1).2 (ix (x4 + (ι 1)))), .int ((psc σ1).2 (ix (x4 + (ι 2)))), .int ((psc σ1).2 (ix (x4 + (ι 3))))] σ1) fun r2 σ2 => bI (pcall 208 [.ref 61] σ2) fun r3 σ3 => if r3 = r1 then if ¬ r1 = (ι 0) then C_353_2433 x4 (.int r1) (.int r2) σ3 else if (lg_cmp (gJ σ3 98 0) r2.toInt64) = (ι 0) then C_353_2433 x4 (.int r1) (.int r2) σ3 else some (1, .int (ι 0), σ3) else some (1, .int (ι 0), σ3))))))))
  (C_353_1966  x4 v5 v6 σ) := by
  unfold C_353_1966
  exact r_aload_n k_353_1966 rfl rfl
    (r_aload_n k_353_1967 rfl rfl
    (r_iload k_353_1968 rfl rfl
    (r_iconst k_353_1970 rfl rfl
    (r_iadd k_353_1971 rfl
    (r_gd fun g => r_ialdS k_353_1972 rfl g
    (r_aload_n k_353_1973 rfl rfl
    (r_iload k_353_1974 rfl rfl
    (r_iconst k_353_1976 rfl rfl
    (r_iadd k_353_1977 rfl
    (r_gd fun g => r_ialdS k_353_1978 rfl g
    (r_aload_n k_353_1979 rfl rfl
    (r_iload k_353_1980 rfl rfl
    (r_iconst k_353_1982 rfl rfl
    (r_iadd k_353_1983 rfl
    (r_gd fun g => r_ialdS k_353_1984 rfl g
    (r_aload_n k_353_1985 rfl rfl
    (r_callI (q_stat (rest := []) (av := [.ref 0, .int ((psc σ).2 (ix (x4 + (ι 1)))), .int ((psc σ).2 (ix (x4 + (ι 2)))), .int ((psc σ).2 (ix (x4 + (ι 3)))), .ref 98]) k_353_1986 po_353 rfl (by decide) rfl rfl rfl rfl) (lvq (j := 0) rfl (by decide +kernel)) rfl rfl (fun r1 σ1 h1 => r_istore k_353_1989 rfl rfl rfl
    (r_aload_n k_353_1991 rfl rfl
    (r_aload_n k_353_1992 rfl rfl
    (r_iload k_353_1993 rfl rfl
    (r_iconst k_353_1995 rfl rfl
    (r_iadd k_353_1996 rfl
    (r_gd fun g => r_ialdS k_353_1997 rfl g
    (r_aload_n k_353_1998 rfl rfl
    (r_iload k_353_1999 rfl rfl
    (r_iconst k_353_2001 rfl rfl
    (r_iadd k_353_2002 rfl
    (r_gd fun g => r_ialdS k_353_2003 rfl g
    (r_aload_n k_353_2004 rfl rfl
    (r_iload k_353_2005 rfl rfl
    (r_iconst k_353_2007 rfl rfl
    (r_iadd k_353_2008 rfl
    (r_gd fun g => r_ialdS k_353_2009 rfl g
    (r_callI (q_virt (rest := []) (as := [.int ((psc σ1).2 (ix (x4 + (ι 1)))), .int ((psc σ1).2 (ix (x4 + (ι 2)))), .int ((psc σ1).2 (ix (x4 + (ι 3))))]) k_353_2010 po_353 rfl rfl rfl (rcvO rfl rfl rfl) rfl rfl) (lvq (j := 0) rfl (by decide +kernel)) rfl rfl (fun r2 σ2 h2 => r_istore k_353_2013 rfl rfl rfl
    (r_aload_n k_353_2015 rfl rfl
    (r_callI (q_virt (rest := []) (as := []) k_353_2016 po_353 rfl rfl rfl (rcvO rfl rfl rfl) rfl rfl) (lvq (j := 0) rfl (by decide +kernel)) rfl rfl (fun r3 σ3 h3 => r_iload k_353_2019 rfl rfl
    (r_icmp (tgt := 2026) k_353_2021 rfl rfl cop_eq
    (r_iload k_353_2026 rfl rfl
    (r_if (tgt := 2043) k_353_2028 rfl rfl cop_ne
    (r_goto (tgt := 2433) k_353_2043 rfl (Le.rfl'))
    (r_aload_n k_353_2031 rfl rfl
    (r_iconst k_353_2032 rfl rfl
    (r_lald k_353_2033 rfl rfl (by decide)
    (r_iload k_353_2034 rfl rfl
    (r_i2l k_353_2036 rfl
    (r_lcmp k_353_2037 rfl
    (r_if (tgt := 2043) k_353_2038 rfl rfl cop_eq
    (r_goto (tgt := 2433) k_353_2043 rfl (Le.rfl'))
    (r_iconst k_353_2041 rfl rfl
    (r_ret k_353_2042 rfl rfl)))))))))))
    (r_iconst k_353_2024 rfl rfl
    (r_ret k_353_2025 rfl rfl))))))))))))))))))))))))))))))))))))))))))
set_option maxRecDepth 100000 in
theorem T_353_2046  {x4 : Int32} {v5 : Value} {v6 : Value}  {σ : pS} {ρ : Nat → Nat → Option Nat} (e : gR σ = ρ) (hL : LayR ρ) : Le
  (gd (inb (x4 + (ι 1)) (psc σ).1) (bI (pcall 348 [.ref 0, .int ((psc σ).2 (ix (x4 + (ι 1)))), .ref 98] σ) fun r1 σ1 => gd (LayR (gR σ1)) (gd (inb (x4 + (ι 1)) (psc σ1).1) (bI (pcall 309 [.ref 61, .int ((psc σ1).2 (ix (x4 + (ι 1))))] σ1) fun r2 σ2 => bI (pcall 208 [.ref 61] σ2) fun r3 σ3 => if r3 = r1 then if ¬ r1 = (ι 0) then C_353_2433 x4 (.int r1) (.int r2) σ3 else if (lg_cmp (gJ σ3 98 0) r2.toInt64) = (ι 0) then C_353_2433 x4 (.int r1) (.int r2) σ3 else some (1, .int (ι 0), σ3) else some (1, .int (ι 0), σ3)))))
  (C_353_2046  x4 v5 v6 σ) := by
  unfold C_353_2046
  exact r_aload_n k_353_2046 rfl rfl
    (r_aload_n k_353_2047 rfl rfl
    (r_iload k_353_2048 rfl rfl
    (r_iconst k_353_2050 rfl rfl
    (r_iadd k_353_2051 rfl
    (r_gd fun g => r_ialdS k_353_2052 rfl g
    (r_aload_n k_353_2053 rfl rfl
    (r_callI (q_stat (rest := []) (av := [.ref 0, .int ((psc σ).2 (ix (x4 + (ι 1)))), .ref 98]) k_353_2054 po_353 rfl (by decide) rfl rfl rfl rfl) (lvq (j := 0) rfl (by decide +kernel)) rfl rfl (fun r1 σ1 h1 => r_gd fun L1 => r_istore k_353_2057 rfl rfl rfl
    (r_aload_n k_353_2059 rfl rfl
    (r_aload_n k_353_2060 rfl rfl
    (r_iload k_353_2061 rfl rfl
    (r_iconst k_353_2063 rfl rfl
    (r_iadd k_353_2064 rfl
    (r_gd fun g => r_ialdS k_353_2065 rfl g
    (r_callI (q_virt (rest := []) (as := [.int ((psc σ1).2 (ix (x4 + (ι 1))))]) k_353_2066 po_353 rfl rfl rfl (rcvO rfl rfl rfl) rfl rfl) (lvq (j := 0) rfl (by decide +kernel)) rfl rfl (fun r2 σ2 h2 => r_istore k_353_2069 rfl rfl rfl
    (r_aload_n k_353_2071 rfl rfl
    (r_callI (q_virt (rest := []) (as := []) k_353_2072 po_353 rfl rfl rfl (rcvO rfl rfl rfl) rfl rfl) (lvq (j := 0) rfl (by decide +kernel)) rfl rfl (fun r3 σ3 h3 => r_iload k_353_2075 rfl rfl
    (r_icmp (tgt := 2082) k_353_2077 rfl rfl cop_eq
    (r_iload k_353_2082 rfl rfl
    (r_if (tgt := 2099) k_353_2084 rfl rfl cop_ne
    (r_goto (tgt := 2433) k_353_2099 rfl (Le.rfl'))
    (r_aload_n k_353_2087 rfl rfl
    (r_iconst k_353_2088 rfl rfl
    (r_lald k_353_2089 rfl rfl (by decide)
    (r_iload k_353_2090 rfl rfl
    (r_i2l k_353_2092 rfl
    (r_lcmp k_353_2093 rfl
    (r_if (tgt := 2099) k_353_2094 rfl rfl cop_eq
    (r_goto (tgt := 2433) k_353_2099 rfl (Le.rfl'))
    (r_iconst k_353_2097 rfl rfl
    (r_ret k_353_2098 rfl rfl)))))))))))
    (r_iconst k_353_2080 rfl rfl
    (r_ret k_353_2081 rfl rfl))))))))))))))))))))))
set_option maxRecDepth 100000 in
theorem T_353_2102  {x4 : Int32} {v5 : Value} {v6 : Value}  {σ : pS} {ρ : Nat → Nat → Option Nat} (e : gR σ = ρ) (hL : LayR ρ) : Le
  (gd (inb (x4 + (ι 1)) (psc σ).1) (bI (pcall 349 [.ref 0, .int ((psc σ).2 (ix (x4 + (ι 1)))), .ref 98] σ) fun r1 σ1 => gd (LayR (gR σ1)) (gd (inb (x4 + (ι 1)) (psc σ1).1) (bI (pcall 312 [.ref 61, .int ((psc σ1).2 (ix (x4 + (ι 1))))] σ1) fun r2 σ2 => bI (pcall 208 [.ref 61] σ2) fun r3 σ3 => if r3 = r1 then if ¬ r1 = (ι 0) then C_353_2433 x4 (.int r1) (.int r2) σ3 else if (lg_cmp (gJ σ3 98 0) r2.toInt64) = (ι 0) then C_353_2433 x4 (.int r1) (.int r2) σ3 else some (1, .int (ι 0), σ3) else some (1, .int (ι 0), σ3)))))
  (C_353_2102  x4 v5 v6 σ) := by
  unfold C_353_2102
  exact r_aload_n k_353_2102 rfl rfl
    (r_aload_n k_353_2103 rfl rfl
    (r_iload k_353_2104 rfl rfl
    (r_iconst k_353_2106 rfl rfl
    (r_iadd k_353_2107 rfl
    (r_gd fun g => r_ialdS k_353_2108 rfl g
    (r_aload_n k_353_2109 rfl rfl
    (r_callI (q_stat (rest := []) (av := [.ref 0, .int ((psc σ).2 (ix (x4 + (ι 1)))), .ref 98]) k_353_2110 po_353 rfl (by decide) rfl rfl rfl rfl) (lvq (j := 0) rfl (by decide +kernel)) rfl rfl (fun r1 σ1 h1 => r_gd fun L1 => r_istore k_353_2113 rfl rfl rfl
    (r_aload_n k_353_2115 rfl rfl
    (r_aload_n k_353_2116 rfl rfl
    (r_iload k_353_2117 rfl rfl
    (r_iconst k_353_2119 rfl rfl
    (r_iadd k_353_2120 rfl
    (r_gd fun g => r_ialdS k_353_2121 rfl g
    (r_callI (q_virt (rest := []) (as := [.int ((psc σ1).2 (ix (x4 + (ι 1))))]) k_353_2122 po_353 rfl rfl rfl (rcvO rfl rfl rfl) rfl rfl) (lvq (j := 0) rfl (by decide +kernel)) rfl rfl (fun r2 σ2 h2 => r_istore k_353_2125 rfl rfl rfl
    (r_aload_n k_353_2127 rfl rfl
    (r_callI (q_virt (rest := []) (as := []) k_353_2128 po_353 rfl rfl rfl (rcvO rfl rfl rfl) rfl rfl) (lvq (j := 0) rfl (by decide +kernel)) rfl rfl (fun r3 σ3 h3 => r_iload k_353_2131 rfl rfl
    (r_icmp (tgt := 2138) k_353_2133 rfl rfl cop_eq
    (r_iload k_353_2138 rfl rfl
    (r_if (tgt := 2155) k_353_2140 rfl rfl cop_ne
    (r_goto (tgt := 2433) k_353_2155 rfl (Le.rfl'))
    (r_aload_n k_353_2143 rfl rfl
    (r_iconst k_353_2144 rfl rfl
    (r_lald k_353_2145 rfl rfl (by decide)
    (r_iload k_353_2146 rfl rfl
    (r_i2l k_353_2148 rfl
    (r_lcmp k_353_2149 rfl
    (r_if (tgt := 2155) k_353_2150 rfl rfl cop_eq
    (r_goto (tgt := 2433) k_353_2155 rfl (Le.rfl'))
    (r_iconst k_353_2153 rfl rfl
    (r_ret k_353_2154 rfl rfl)))))))))))
    (r_iconst k_353_2136 rfl rfl
    (r_ret k_353_2137 rfl rfl))))))))))))))))))))))
set_option maxRecDepth 100000 in
theorem T_353_2158  {x4 : Int32} {v5 : Value} {v6 : Value}  {σ : pS} {ρ : Nat → Nat → Option Nat} (e : gR σ = ρ) (hL : LayR ρ) : Le
  (bV (pcall 170 [.ref 0] σ) fun σ1 => bV (pcall 313 [.ref 61] σ1) fun σ2 => C_353_2433 x4 v5 v6 σ2)
  (C_353_2158  x4 v5 v6 σ) := by
  unfold C_353_2158
  exact r_aload_n k_353_2158 rfl rfl
    (r_callV (q_virt (rest := []) (as := []) k_353_2159 po_353 rfl rfl rfl (rcvO rfl rfl rfl) rfl rfl) (lvq (j := 0) rfl (by decide +kernel)) rfl rfl (fun _ σ1 h1 => r_aload_n k_353_2162 rfl rfl
    (r_callV (q_virt (rest := []) (as := []) k_353_2163 po_353 rfl rfl rfl (rcvO rfl rfl rfl) rfl rfl) (lvq (j := 0) rfl (by decide +kernel)) rfl rfl (fun _ σ2 h2 => r_goto (tgt := 2433) k_353_2166 rfl (Le.rfl')))))
set_option maxRecDepth 100000 in
theorem T_353_2169  {x4 : Int32} {v5 : Value} {v6 : Value}  {σ : pS} {ρ : Nat → Nat → Option Nat} (e : gR σ = ρ) (hL : LayR ρ) : Le
  (gd (inb (x4 + (ι 1)) (psc σ).1) (gd (inb (x4 + (ι 2)) (psc σ).1) (gd (inb (x4 + (ι 3)) (psc σ).1) (bI (pcall 350 [.ref 0, .int ((psc σ).2 (ix (x4 + (ι 1)))), .int ((psc σ).2 (ix (x4 + (ι 2)))), .int ((psc σ).2 (ix (x4 + (ι 3)))), .ref 98] σ) fun r1 σ1 => gd (LayR (gR σ1)) (gd (inb (x4 + (ι 1)) (psc σ1).1) (gd (inb (x4 + (ι 2)) (psc σ1).1) (gd (inb (x4 + (ι 3)) (psc σ1).1) (bI (pcall 314 [.ref 61, .int ((psc σ1).2 (ix (x4 + (ι 1)))), .int ((psc σ1).2 (ix (x4 + (ι 2)))), .int ((psc σ1).2 (ix (x4 + (ι 3))))] σ1) fun r2 σ2 => bI (pcall 208 [.ref 61] σ2) fun r3 σ3 => if r3 = r1 then if ¬ r1 = (ι 0) then C_353_2433 x4 (.int r1) (.int r2) σ3 else if (lg_cmp (gJ σ3 98 0) r2.toInt64) = (ι 0) then C_353_2433 x4 (.int r1) (.int r2) σ3 else some (1, .int (ι 0), σ3) else some (1, .int (ι 0), σ3)))))))))
  (C_353_2169  x4 v5 v6 σ) := by
  unfold C_353_2169
  exact r_aload_n k_353_2169 rfl rfl
    (r_aload_n k_353_2170 rfl rfl
    (r_iload k_353_2171 rfl rfl
    (r_iconst k_353_2173 rfl rfl
    (r_iadd k_353_2174 rfl
    (r_gd fun g => r_ialdS k_353_2175 rfl g
    (r_aload_n k_353_2176 rfl rfl
    (r_iload k_353_2177 rfl rfl
    (r_iconst k_353_2179 rfl rfl
    (r_iadd k_353_2180 rfl
    (r_gd fun g => r_ialdS k_353_2181 rfl g
    (r_aload_n k_353_2182 rfl rfl
    (r_iload k_353_2183 rfl rfl
    (r_iconst k_353_2185 rfl rfl
    (r_iadd k_353_2186 rfl
    (r_gd fun g => r_ialdS k_353_2187 rfl g
    (r_aload_n k_353_2188 rfl rfl
    (r_callI (q_stat (rest := []) (av := [.ref 0, .int ((psc σ).2 (ix (x4 + (ι 1)))), .int ((psc σ).2 (ix (x4 + (ι 2)))), .int ((psc σ).2 (ix (x4 + (ι 3)))), .ref 98]) k_353_2189 po_353 rfl (by decide) rfl rfl rfl rfl) (lvq (j := 0) rfl (by decide +kernel)) rfl rfl (fun r1 σ1 h1 => r_gd fun L1 => r_istore k_353_2192 rfl rfl rfl
    (r_aload_n k_353_2194 rfl rfl
    (r_aload_n k_353_2195 rfl rfl
    (r_iload k_353_2196 rfl rfl
    (r_iconst k_353_2198 rfl rfl
    (r_iadd k_353_2199 rfl
    (r_gd fun g => r_ialdS k_353_2200 rfl g
    (r_aload_n k_353_2201 rfl rfl
    (r_iload k_353_2202 rfl rfl
    (r_iconst k_353_2204 rfl rfl
    (r_iadd k_353_2205 rfl
    (r_gd fun g => r_ialdS k_353_2206 rfl g
    (r_aload_n k_353_2207 rfl rfl
    (r_iload k_353_2208 rfl rfl
    (r_iconst k_353_2210 rfl rfl
    (r_iadd k_353_2211 rfl
    (r_gd fun g => r_ialdS k_353_2212 rfl g
    (r_callI (q_virt (rest := []) (as := [.int ((psc σ1).2 (ix (x4 + (ι 1)))), .int ((psc σ1).2 (ix (x4 + (ι 2)))), .int ((psc σ1).2 (ix (x4 + (ι 3))))]) k_353_2213 po_353 rfl rfl rfl (rcvO rfl rfl rfl) rfl rfl) (lvq (j := 0) rfl (by decide +kernel)) rfl rfl (fun r2 σ2 h2 => r_istore k_353_2216 rfl rfl rfl
    (r_aload_n k_353_2218 rfl rfl
    (r_callI (q_virt (rest := []) (as := []) k_353_2219 po_353 rfl rfl rfl (rcvO rfl rfl rfl) rfl rfl) (lvq (j := 0) rfl (by decide +kernel)) rfl rfl (fun r3 σ3 h3 => r_iload k_353_2222 rfl rfl
    (r_icmp (tgt := 2229) k_353_2224 rfl rfl cop_eq
    (r_iload k_353_2229 rfl rfl
    (r_if (tgt := 2246) k_353_2231 rfl rfl cop_ne
    (r_goto (tgt := 2433) k_353_2246 rfl (Le.rfl'))
    (r_aload_n k_353_2234 rfl rfl
    (r_iconst k_353_2235 rfl rfl
    (r_lald k_353_2236 rfl rfl (by decide)
    (r_iload k_353_2237 rfl rfl
    (r_i2l k_353_2239 rfl
    (r_lcmp k_353_2240 rfl
    (r_if (tgt := 2246) k_353_2241 rfl rfl cop_eq
    (r_goto (tgt := 2433) k_353_2246 rfl (Le.rfl'))
    (r_iconst k_353_2244 rfl rfl
    (r_ret k_353_2245 rfl rfl)))))))))))
    (r_iconst k_353_2227 rfl rfl
    (r_ret k_353_2228 rfl rfl))))))))))))))))))))))))))))))))))))))))))
set_option maxRecDepth 100000 in
theorem T_353_2249  {x4 : Int32} {v5 : Value} {v6 : Value}  {σ : pS} {ρ : Nat → Nat → Option Nat} (e : gR σ = ρ) (hL : LayR ρ) : Le
  (gd (inb (x4 + (ι 1)) (psc σ).1) (gd (inb (x4 + (ι 2)) (psc σ).1) (gd (inb (x4 + (ι 3)) (psc σ).1) (bI (pcall 351 [.ref 0, .int ((psc σ).2 (ix (x4 + (ι 1)))), .int ((psc σ).2 (ix (x4 + (ι 2)))), .int ((psc σ).2 (ix (x4 + (ι 3)))), .ref 98] σ) fun r1 σ1 => gd (LayR (gR σ1)) (gd (inb (x4 + (ι 1)) (psc σ1).1) (gd (inb (x4 + (ι 2)) (psc σ1).1) (gd (inb (x4 + (ι 3)) (psc σ1).1) (bI (pcall 315 [.ref 61, .int ((psc σ1).2 (ix (x4 + (ι 1)))), .int ((psc σ1).2 (ix (x4 + (ι 2)))), .int ((psc σ1).2 (ix (x4 + (ι 3))))] σ1) fun r2 σ2 => bI (pcall 208 [.ref 61] σ2) fun r3 σ3 => if r3 = r1 then if ¬ r1 = (ι 0) then C_353_2433 x4 (.int r1) (.int r2) σ3 else if (lg_cmp (gJ σ3 98 0) r2.toInt64) = (ι 0) then C_353_2433 x4 (.int r1) (.int r2) σ3 else some (1, .int (ι 0), σ3) else some (1, .int (ι 0), σ3)))))))))
  (C_353_2249  x4 v5 v6 σ) := by
  unfold C_353_2249
  exact r_aload_n k_353_2249 rfl rfl
    (r_aload_n k_353_2250 rfl rfl
    (r_iload k_353_2251 rfl rfl
    (r_iconst k_353_2253 rfl rfl
    (r_iadd k_353_2254 rfl
    (r_gd fun g => r_ialdS k_353_2255 rfl g
    (r_aload_n k_353_2256 rfl rfl
    (r_iload k_353_2257 rfl rfl
    (r_iconst k_353_2259 rfl rfl
    (r_iadd k_353_2260 rfl
    (r_gd fun g => r_ialdS k_353_2261 rfl g
    (r_aload_n k_353_2262 rfl rfl
    (r_iload k_353_2263 rfl rfl
    (r_iconst k_353_2265 rfl rfl
    (r_iadd k_353_2266 rfl
    (r_gd fun g => r_ialdS k_353_2267 rfl g
    (r_aload_n k_353_2268 rfl rfl
    (r_callI (q_stat (rest := []) (av := [.ref 0, .int ((psc σ).2 (ix (x4 + (ι 1)))), .int ((psc σ).2 (ix (x4 + (ι 2)))), .int ((psc σ).2 (ix (x4 + (ι 3)))), .ref 98]) k_353_2269 po_353 rfl (by decide) rfl rfl rfl rfl) (lvq (j := 0) rfl (by decide +kernel)) rfl rfl (fun r1 σ1 h1 => r_gd fun L1 => r_istore k_353_2272 rfl rfl rfl
    (r_aload_n k_353_2274 rfl rfl
    (r_aload_n k_353_2275 rfl rfl
    (r_iload k_353_2276 rfl rfl
    (r_iconst k_353_2278 rfl rfl
    (r_iadd k_353_2279 rfl
    (r_gd fun g => r_ialdS k_353_2280 rfl g
    (r_aload_n k_353_2281 rfl rfl
    (r_iload k_353_2282 rfl rfl
    (r_iconst k_353_2284 rfl rfl
    (r_iadd k_353_2285 rfl
    (r_gd fun g => r_ialdS k_353_2286 rfl g
    (r_aload_n k_353_2287 rfl rfl
    (r_iload k_353_2288 rfl rfl
    (r_iconst k_353_2290 rfl rfl
    (r_iadd k_353_2291 rfl
    (r_gd fun g => r_ialdS k_353_2292 rfl g
    (r_callI (q_virt (rest := []) (as := [.int ((psc σ1).2 (ix (x4 + (ι 1)))), .int ((psc σ1).2 (ix (x4 + (ι 2)))), .int ((psc σ1).2 (ix (x4 + (ι 3))))]) k_353_2293 po_353 rfl rfl rfl (rcvO rfl rfl rfl) rfl rfl) (lvq (j := 0) rfl (by decide +kernel)) rfl rfl (fun r2 σ2 h2 => r_istore k_353_2296 rfl rfl rfl
    (r_aload_n k_353_2298 rfl rfl
    (r_callI (q_virt (rest := []) (as := []) k_353_2299 po_353 rfl rfl rfl (rcvO rfl rfl rfl) rfl rfl) (lvq (j := 0) rfl (by decide +kernel)) rfl rfl (fun r3 σ3 h3 => r_iload k_353_2302 rfl rfl
    (r_icmp (tgt := 2309) k_353_2304 rfl rfl cop_eq
    (r_iload k_353_2309 rfl rfl
    (r_if (tgt := 2326) k_353_2311 rfl rfl cop_ne
    (r_goto (tgt := 2433) k_353_2326 rfl (Le.rfl'))
    (r_aload_n k_353_2314 rfl rfl
    (r_iconst k_353_2315 rfl rfl
    (r_lald k_353_2316 rfl rfl (by decide)
    (r_iload k_353_2317 rfl rfl
    (r_i2l k_353_2319 rfl
    (r_lcmp k_353_2320 rfl
    (r_if (tgt := 2326) k_353_2321 rfl rfl cop_eq
    (r_goto (tgt := 2433) k_353_2326 rfl (Le.rfl'))
    (r_iconst k_353_2324 rfl rfl
    (r_ret k_353_2325 rfl rfl)))))))))))
    (r_iconst k_353_2307 rfl rfl
    (r_ret k_353_2308 rfl rfl))))))))))))))))))))))))))))))))))))))))))
set_option maxRecDepth 100000 in
theorem T_353_2329  {x4 : Int32} {v5 : Value} {v6 : Value}  {σ : pS} {ρ : Nat → Nat → Option Nat} (e : gR σ = ρ) (hL : LayR ρ) : Le
  (gd (inb (x4 + (ι 1)) (psc σ).1) (gd (inb (x4 + (ι 2)) (psc σ).1) (gd (inb (x4 + (ι 3)) (psc σ).1) (bI (pcall 352 [.ref 0, .int ((psc σ).2 (ix (x4 + (ι 1)))), .int ((psc σ).2 (ix (x4 + (ι 2)))), .int ((psc σ).2 (ix (x4 + (ι 3)))), .ref 98] σ) fun r1 σ1 => gd (LayR (gR σ1)) (gd (inb (x4 + (ι 1)) (psc σ1).1) (gd (inb (x4 + (ι 2)) (psc σ1).1) (gd (inb (x4 + (ι 3)) (psc σ1).1) (bI (pcall 317 [.ref 61, .int ((psc σ1).2 (ix (x4 + (ι 1)))), .int ((psc σ1).2 (ix (x4 + (ι 2)))), .int ((psc σ1).2 (ix (x4 + (ι 3))))] σ1) fun r2 σ2 => bI (pcall 208 [.ref 61] σ2) fun r3 σ3 => if r3 = r1 then if ¬ r1 = (ι 0) then C_353_2433 x4 (.int r1) (.int r2) σ3 else if (lg_cmp (gJ σ3 98 0) r2.toInt64) = (ι 0) then C_353_2433 x4 (.int r1) (.int r2) σ3 else some (1, .int (ι 0), σ3) else some (1, .int (ι 0), σ3)))))))))
  (C_353_2329  x4 v5 v6 σ) := by
  unfold C_353_2329
  exact r_aload_n k_353_2329 rfl rfl
    (r_aload_n k_353_2330 rfl rfl
    (r_iload k_353_2331 rfl rfl
    (r_iconst k_353_2333 rfl rfl
    (r_iadd k_353_2334 rfl
    (r_gd fun g => r_ialdS k_353_2335 rfl g
    (r_aload_n k_353_2336 rfl rfl
    (r_iload k_353_2337 rfl rfl
    (r_iconst k_353_2339 rfl rfl
    (r_iadd k_353_2340 rfl
    (r_gd fun g => r_ialdS k_353_2341 rfl g
    (r_aload_n k_353_2342 rfl rfl
    (r_iload k_353_2343 rfl rfl
    (r_iconst k_353_2345 rfl rfl
    (r_iadd k_353_2346 rfl
    (r_gd fun g => r_ialdS k_353_2347 rfl g
    (r_aload_n k_353_2348 rfl rfl
    (r_callI (q_stat (rest := []) (av := [.ref 0, .int ((psc σ).2 (ix (x4 + (ι 1)))), .int ((psc σ).2 (ix (x4 + (ι 2)))), .int ((psc σ).2 (ix (x4 + (ι 3)))), .ref 98]) k_353_2349 po_353 rfl (by decide) rfl rfl rfl rfl) (lvq (j := 0) rfl (by decide +kernel)) rfl rfl (fun r1 σ1 h1 => r_gd fun L1 => r_istore k_353_2352 rfl rfl rfl
    (r_aload_n k_353_2354 rfl rfl
    (r_aload_n k_353_2355 rfl rfl
    (r_iload k_353_2356 rfl rfl
    (r_iconst k_353_2358 rfl rfl
    (r_iadd k_353_2359 rfl
    (r_gd fun g => r_ialdS k_353_2360 rfl g
    (r_aload_n k_353_2361 rfl rfl
    (r_iload k_353_2362 rfl rfl
    (r_iconst k_353_2364 rfl rfl
    (r_iadd k_353_2365 rfl
    (r_gd fun g => r_ialdS k_353_2366 rfl g
    (r_aload_n k_353_2367 rfl rfl
    (r_iload k_353_2368 rfl rfl
    (r_iconst k_353_2370 rfl rfl
    (r_iadd k_353_2371 rfl
    (r_gd fun g => r_ialdS k_353_2372 rfl g
    (r_callI (q_virt (rest := []) (as := [.int ((psc σ1).2 (ix (x4 + (ι 1)))), .int ((psc σ1).2 (ix (x4 + (ι 2)))), .int ((psc σ1).2 (ix (x4 + (ι 3))))]) k_353_2373 po_353 rfl rfl rfl (rcvO rfl rfl rfl) rfl rfl) (lvq (j := 0) rfl (by decide +kernel)) rfl rfl (fun r2 σ2 h2 => r_istore k_353_2376 rfl rfl rfl
    (r_aload_n k_353_2378 rfl rfl
    (r_callI (q_virt (rest := []) (as := []) k_353_2379 po_353 rfl rfl rfl (rcvO rfl rfl rfl) rfl rfl) (lvq (j := 0) rfl (by decide +kernel)) rfl rfl (fun r3 σ3 h3 => r_iload k_353_2382 rfl rfl
    (r_icmp (tgt := 2389) k_353_2384 rfl rfl cop_eq
    (r_iload k_353_2389 rfl rfl
    (r_if (tgt := 2406) k_353_2391 rfl rfl cop_ne
    (r_goto (tgt := 2433) k_353_2406 rfl (Le.rfl'))
    (r_aload_n k_353_2394 rfl rfl
    (r_iconst k_353_2395 rfl rfl
    (r_lald k_353_2396 rfl rfl (by decide)
    (r_iload k_353_2397 rfl rfl
    (r_i2l k_353_2399 rfl
    (r_lcmp k_353_2400 rfl
    (r_if (tgt := 2406) k_353_2401 rfl rfl cop_eq
    (r_goto (tgt := 2433) k_353_2406 rfl (Le.rfl'))
    (r_iconst k_353_2404 rfl rfl
    (r_ret k_353_2405 rfl rfl)))))))))))
    (r_iconst k_353_2387 rfl rfl
    (r_ret k_353_2388 rfl rfl))))))))))))))))))))))))))))))))))))))))))
set_option maxRecDepth 100000 in
theorem T_353_2409  {x4 : Int32} {v5 : Value} {v6 : Value}  {σ : pS} {ρ : Nat → Nat → Option Nat} (e : gR σ = ρ) (hL : LayR ρ) : Le
  (bV (pcall 171 [.ref 0] σ) fun σ1 => gd (LayR (gR σ1)) (bV (pcall 320 [.ref 61] σ1) fun σ2 => C_353_2433 x4 v5 v6 σ2))
  (C_353_2409  x4 v5 v6 σ) := by
  unfold C_353_2409
  exact r_aload_n k_353_2409 rfl rfl
    (r_callV (q_virt (rest := []) (as := []) k_353_2410 po_353 rfl rfl rfl (rcvO rfl rfl rfl) rfl rfl) (lvq (j := 0) rfl (by decide +kernel)) rfl rfl (fun _ σ1 h1 => r_gd fun L1 => r_aload_n k_353_2413 rfl rfl
    (r_callV (q_virt (rest := []) (as := []) k_353_2414 po_353 rfl rfl rfl (rcvO rfl rfl rfl) rfl rfl) (lvq (j := 0) rfl (by decide +kernel)) rfl rfl (fun _ σ2 h2 => r_goto (tgt := 2433) k_353_2417 rfl (Le.rfl')))))
set_option maxRecDepth 100000 in
theorem T_353_2420  {x4 : Int32} {v5 : Value} {v6 : Value}  {σ : pS} {ρ : Nat → Nat → Option Nat} (e : gR σ = ρ) (hL : LayR ρ) : Le
  (bI (pcall 172 [.ref 0] σ) fun r1 σ1 => gd (LayR (gR σ1)) (bI (pcall 322 [.ref 61] σ1) fun r2 σ2 => if r1 = r2 then C_353_2433 x4 v5 v6 σ2 else some (1, .int (ι 0), σ2)))
  (C_353_2420  x4 v5 v6 σ) := by
  unfold C_353_2420
  exact r_aload_n k_353_2420 rfl rfl
    (r_callI (q_virt (rest := []) (as := []) k_353_2421 po_353 rfl rfl rfl (rcvO rfl rfl rfl) rfl rfl) (lvq (j := 0) rfl (by decide +kernel)) rfl rfl (fun r1 σ1 h1 => r_gd fun L1 => r_aload_n k_353_2424 rfl rfl
    (r_callI (q_virt (rest := [.int r1]) (as := []) k_353_2425 po_353 rfl rfl rfl (rcvO rfl rfl rfl) rfl rfl) (lvq (j := 0) rfl (by decide +kernel)) rfl rfl (fun r2 σ2 h2 => r_icmp (tgt := 2433) k_353_2428 rfl rfl cop_eq
    (Le.rfl')
    (r_iconst k_353_2431 rfl rfl
    (r_ret k_353_2432 rfl rfl))))))
set_option maxRecDepth 100000 in
theorem T_353_2433  {x4 : Int32} {v5 : Value} {v6 : Value}  {σ : pS} {ρ : Nat → Nat → Option Nat} (e : gR σ = ρ) (hL : LayR ρ) : Le
  (C_353_23 (x4 + (ι 6)) v5 v6 σ)
  (C_353_2433  x4 v5 v6 σ) := by
  unfold C_353_2433
  exact r_iinc k_353_2433 rfl rfl rfl rfl
    (r_goto (tgt := 23) k_353_2436 rfl (Le.rfl'))
end TREES
