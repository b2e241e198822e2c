/-! ===== the law's loop ===== -/
section LOOP
variable {σ τ υ μ σ1 σ2 : pS} {n k i j B c L K0 S0 : Nat} {e : Nat → Nat} {xs : Nat → Int32} {dC dM : pS → Option pZ} {o : Om} {d w : Option pZ} {v5 v6 : Value} {x0 x1 x2 x3 : Int32} {Q : pZ → Prop}
def lng (y : Int32) : Int64 := y.toInt64
def lnb (y : Int32) : Int64 := if y = ι 0 then 0 else 1
theorem wr1 (M : Le (bIh d (fun r1 σ1 => some (1, .int (ι 0), (sJ σ1 98 0 r1.toInt64))) (fun j σ1 => if j = 0 then some (2, .null, σ1) else if j = 1 then some (1, .int (ι 1), σ1) else none)) w) : Wr lng id 1 d w :=
  ⟨fun y τ e hL => M.eq (by rw [e]; rfl), fun k τ h1 h2 e hL => by
    obtain rfl : k = 1 := by omega
    have e : d = some (3, .null, τ) := e
    exact M.eq (by rw [e]; rfl)⟩
theorem wr2 (M : Le (bIh d (fun r1 σ1 => gd (LayR (gR σ1)) (some (1, .int (ι 0), (sJ σ1 98 0 r1.toInt64)))) (fun j σ1 => if j = 0 then some (2, .null, σ1) else if j = 1 then gd (LayR (gR σ1)) (some (1, .int (ι 1), σ1)) else none)) w) : Wr lng id 1 d w :=
  ⟨fun y τ e hL => M.eq (by rw [e]; exact gd_pos hL), fun k τ h1 h2 e hL => by
    obtain rfl : k = 1 := by omega
    have e : d = some (3, .null, τ) := e
    exact M.eq (by rw [e]; exact gd_pos hL)⟩
theorem wr3 (M : Le (bIh d (fun r1 σ1 => gd (LayR (gR σ1)) (some (1, .int (ι 0), (sJ σ1 98 0 r1.toInt64)))) (fun j σ1 => if j = 0 then gd (LayR (gR σ1)) (some (1, .int (ι 2), σ1)) else if j = 1 then gd (LayR (gR σ1)) (some (1, .int (ι 1), σ1)) else none)) w) : Wr lng id 2 d w :=
  ⟨fun y τ e hL => M.eq (by rw [e]; exact gd_pos hL), fun k τ h1 h2 e hL => by
    have hk : k = 1 ∨ k = 2 := by omega
    rcases hk with rfl | rfl
    · have e : d = some (3, .null, τ) := e
      exact M.eq (by rw [e]; exact gd_pos hL)
    · have e : d = some (2, .null, τ) := e
      exact M.eq (by rw [e]; exact gd_pos hL)⟩
theorem wrp (M : Le (bIh d (fun r1 σ1 => gd (LayR (gR σ1)) (some (1, .int (ι 0), (sJ σ1 98 0 r1.toInt64)))) (fun j σ1 => if j = 0 then gd (LayR (gR σ1)) (some (1, .int (ι 1), σ1)) else if j = 1 then some (3, .null, σ1) else none)) w) : Wr lng e12 1 d w :=
  ⟨fun y τ e hL => M.eq (by rw [e]; exact gd_pos hL), fun k τ h1 h2 e hL => by
    obtain rfl : k = 1 := by omega
    have e : d = some (2, .null, τ) := e
    exact M.eq (by rw [e]; exact gd_pos hL)⟩
theorem wrb (M : Le (bIh d (fun r1 σ1 => if r1 = (ι 0) then some (1, .int (ι 0), (sJ σ1 98 0 (0 : Int64))) else some (1, .int (ι 0), (sJ σ1 98 0 (1 : Int64)))) (fun j σ1 => if j = 0 then some (2, .null, σ1) else if j = 1 then some (1, .int (ι 1), σ1) else none)) w) : Wr lnb id 1 d w :=
  ⟨fun y τ e hL => M.eq (by
      rw [e]
      show (if y = ι 0 then some (1, Value.int (ι 0), (sJ τ 98 0 (0 : Int64))) else some (1, Value.int (ι 0), (sJ τ 98 0 (1 : Int64)))) = some (1, Value.int (ι 0), sJ τ 98 0 (if y = ι 0 then 0 else 1))
      by_cases g : y = ι 0
      · rw [if_pos g, if_pos g]
      · rw [if_neg g, if_neg g]), fun k τ h1 h2 e hL => by
    obtain rfl : k = 1 := by omega
    have e : d = some (3, .null, τ) := e
    exact M.eq (by rw [e]; rfl)⟩
theorem lcmp0 (x : Int64) : lg_cmp x x = ι 0 := by unfold lg_cmp; rw [if_neg (Int64.lt_irrefl), if_pos rfl]; rfl
theorem lp2433 {x : Int32} (hL : LayR (gR σ)) (w : ∀ v5 v6, Wp (C_353_23 (x + ι 6) v5 v6 σ) Q) : ∀ v5 v6, Wp (C_353_2433 x v5 v6 σ) Q := fun v5 v6 => Wp.le (T_353_2433 rfl hL) (w v5 v6)
theorem tail_std {x v : Int32} {r2 : Value} (hL : LayR (gR σ)) (hk : k ≤ 2) (e4 : gI σ 61 4 = ι k) (hj : k = 0 → gJ σ 98 0 = lng v) (w : ∀ v5 v6, Wp (C_353_2433 x v5 v6 σ) Q) : Wp (bI (pcall 208 [.ref 61] σ) fun r3 σ3 => if r3 = ι k then if ¬ ι k = (ι 0) then C_353_2433 x (.int (ι k)) (.int v) σ3 else if (lg_cmp (gJ σ3 98 0) v.toInt64) = (ι 0) then C_353_2433 x (.int (ι k)) (.int v) σ3 else some (1, .int (ι 0), σ3) else some (1, .int (ι 0), σ3)) Q := by
  rw [(M_208 rfl hL).eq rfl, bI_ret, e4, if_pos rfl]
  by_cases e : k = 0
  · subst e
    rw [if_neg (fun g => g rfl), hj rfl, if_pos (show lg_cmp (lng v) v.toInt64 = ι 0 from lcmp0 _)]; exact w _ _
  · rw [if_pos (by rw [ι_eq (by omega) (by omega)]; exact e)]; exact w _ _
theorem tail_b {x v : Int32} (hL : LayR (gR σ)) (hk : k ≤ 2) (e4 : gI σ 61 4 = ι k) (hj : k = 0 → gJ σ 98 0 = lnb v) (w : ∀ v5 v6, Wp (C_353_2433 x v5 v6 σ) Q) : Wp (bI (pcall 208 [.ref 61] σ) fun r3 σ3 => if r3 = ι k then if ¬ ι k = (ι 0) then C_353_2433 x (.int (ι k)) (.int v) σ3 else if v = (ι 0) then if (lg_cmp (gJ σ3 98 0) (0 : Int64)) = (ι 0) then C_353_2433 x (.int (ι k)) (.int v) σ3 else some (1, .int (ι 0), σ3) else if (lg_cmp (gJ σ3 98 0) (1 : Int64)) = (ι 0) then C_353_2433 x (.int (ι k)) (.int v) σ3 else some (1, .int (ι 0), σ3) else some (1, .int (ι 0), σ3)) Q := by
  rw [(M_208 rfl hL).eq rfl, bI_ret, e4, if_pos rfl]
  by_cases e : k = 0
  · subst e
    rw [if_neg (fun g => g rfl), hj rfl]
    unfold lnb
    by_cases g : v = ι 0
    · rw [if_pos g, if_pos g, if_pos (lcmp0 _)]; exact w _ _
    · rw [if_neg g, if_neg g, if_pos (lcmp0 _)]; exact w _ _
  · rw [if_pos (by rw [ι_eq (by omega) (by omega)]; exact e)]; exact w _ _
/-- where the law stands, what it goes on to -/
def GO (K0 S0 L : Nat) (xs : Nat → Int32) (i : Nat) (Q : pZ → Prop) : Prop := ∀ σ, LI K0 S0 L xs (i + 1) σ → ∀ v5 v6, Wp (C_353_2433 (ι (6 * i)) v5 v6 σ) Q
theorem g_in (j : Nat) (hj : j < 6) (hi : 6 * i + 6 ≤ L) (hL : L ≤ 3072) {t : Option pZ} : gd (inb (ι (6 * i) + ι j) L) t = t := gd_pos (by rw [ι_add, ι_inb (by omega)]; omega)

theorem s_346 (hi : 6 * i + 6 ≤ L) (hL : L ≤ 3072) (h : LI K0 S0 L xs i σ) (go : GO K0 S0 L xs i Q) : Wp (C_353_346 (ι (6 * i)) v5 v6 σ) Q := by
  have g1 := @g_in i L 1 (by omega) hi hL
  have g2 := @g_in i L 2 (by omega) hi hL
  have g3 := @g_in i L 3 (by omega) hi hL
  refine Wp.le (T_353_346 rfl h.lay) ?_
  simp only [h.ps, g1, g2, g3]
  obtain ⟨k, σ1, v, σ2, hk, ew, L1, p1, em, e4, hj, hl⟩ := pair_run (wr := fun σ => pcall 324 [.ref 0, .int (xs (ix (ι (6 * i) + ι 1))), .ref 98] σ) (J_324 (x0 := xs (ix (ι (6 * i) + ι 1)))) (okE_id (by omega)) (wr1 (M_324 rfl h.lay)) h
  simp only [ew, bI_ret, gd_pos L1, p1, g1, g2, g3, em]
  exact tail_std (r2 := .null) hl.lay (by omega) e4 hj (go σ2 hl)
theorem s_402 (hi : 6 * i + 6 ≤ L) (hL : L ≤ 3072) (h : LI K0 S0 L xs i σ) (go : GO K0 S0 L xs i Q) : Wp (C_353_402 (ι (6 * i)) v5 v6 σ) Q := by
  have g1 := @g_in i L 1 (by omega) hi hL
  have g2 := @g_in i L 2 (by omega) hi hL
  have g3 := @g_in i L 3 (by omega) hi hL
  refine Wp.le (T_353_402 rfl h.lay) ?_
  simp only [h.ps, g1, g2, g3]
  obtain ⟨k, σ1, v, σ2, hk, ew, L1, p1, em, e4, hj, hl⟩ := pair_run (wr := fun σ => pcall 325 [.ref 0, .int (xs (ix (ι (6 * i) + ι 1))), .int (xs (ix (ι (6 * i) + ι 2))), .ref 98] σ) (J_325 (x0 := xs (ix (ι (6 * i) + ι 1))) (x1 := xs (ix (ι (6 * i) + ι 2)))) (okE_id (by omega)) (wr1 (M_325 rfl h.lay)) h
  simp only [ew, bI_ret, gd_pos L1, p1, g1, g2, g3, em]
  exact tail_std (r2 := .null) hl.lay (by omega) e4 hj (go σ2 hl)
theorem s_470 (hi : 6 * i + 6 ≤ L) (hL : L ≤ 3072) (h : LI K0 S0 L xs i σ) (go : GO K0 S0 L xs i Q) : Wp (C_353_470 (ι (6 * i)) v5 v6 σ) Q := by
  have g1 := @g_in i L 1 (by omega) hi hL
  have g2 := @g_in i L 2 (by omega) hi hL
  have g3 := @g_in i L 3 (by omega) hi hL
  refine Wp.le (T_353_470 rfl h.lay) ?_
  simp only [h.ps, g1, g2, g3]
  obtain ⟨k, σ1, v, σ2, hk, ew, L1, p1, em, e4, hj, hl⟩ := pair_run (wr := fun σ => pcall 326 [.ref 0, .int (xs (ix (ι (6 * i) + ι 1))), .int (xs (ix (ι (6 * i) + ι 2))), .ref 98] σ) (J_326 (x0 := xs (ix (ι (6 * i) + ι 1))) (x1 := xs (ix (ι (6 * i) + ι 2)))) (okE_id (by omega)) (wr2 (M_326 rfl h.lay)) h
  simp only [ew, bI_ret, gd_pos L1, p1, g1, g2, g3, em]
  exact tail_std (r2 := .null) hl.lay (by omega) e4 hj (go σ2 hl)
theorem s_538 (hi : 6 * i + 6 ≤ L) (hL : L ≤ 3072) (h : LI K0 S0 L xs i σ) (go : GO K0 S0 L xs i Q) : Wp (C_353_538 (ι (6 * i)) v5 v6 σ) Q := by
  have g1 := @g_in i L 1 (by omega) hi hL
  have g2 := @g_in i L 2 (by omega) hi hL
  have g3 := @g_in i L 3 (by omega) hi hL
  refine Wp.le (T_353_538 rfl h.lay) ?_
  simp only [h.ps, g1, g2, g3]
  obtain ⟨k, σ1, v, σ2, hk, ew, L1, p1, em, e4, hj, hl⟩ := pair_run (wr := fun σ => pcall 327 [.ref 0, .int (xs (ix (ι (6 * i) + ι 1))), .int (xs (ix (ι (6 * i) + ι 2))), .int (xs (ix (ι (6 * i) + ι 3))), .ref 98] σ) (J_327 (x0 := xs (ix (ι (6 * i) + ι 1))) (x1 := xs (ix (ι (6 * i) + ι 2))) (x2 := xs (ix (ι (6 * i) + ι 3)))) (okE_id (by omega)) (wr1 (M_327 rfl h.lay)) h
  simp only [ew, bI_ret, gd_pos L1, p1, g1, g2, g3, em]
  exact tail_std (r2 := .null) hl.lay (by omega) e4 hj (go σ2 hl)
theorem s_643 (hi : 6 * i + 6 ≤ L) (hL : L ≤ 3072) (h : LI K0 S0 L xs i σ) (go : GO K0 S0 L xs i Q) : Wp (C_353_643 (ι (6 * i)) v5 v6 σ) Q := by
  have g1 := @g_in i L 1 (by omega) hi hL
  have g2 := @g_in i L 2 (by omega) hi hL
  have g3 := @g_in i L 3 (by omega) hi hL
  refine Wp.le (T_353_643 rfl h.lay) ?_
  simp only [h.ps, g1, g2, g3]
  obtain ⟨k, σ1, v, σ2, hk, ew, L1, p1, em, e4, hj, hl⟩ := pair_run (wr := fun σ => pcall 328 [.ref 0, .int (xs (ix (ι (6 * i) + ι 1))), .int (xs (ix (ι (6 * i) + ι 2))), .ref 98] σ) (J_328 (x0 := xs (ix (ι (6 * i) + ι 1))) (x1 := xs (ix (ι (6 * i) + ι 2)))) (okE_id (by omega)) (wr1 (M_328 rfl h.lay)) h
  simp only [ew, bI_ret, gd_pos L1, p1, g1, g2, g3, em]
  exact tail_std (r2 := .null) hl.lay (by omega) e4 hj (go σ2 hl)
theorem s_711 (hi : 6 * i + 6 ≤ L) (hL : L ≤ 3072) (h : LI K0 S0 L xs i σ) (go : GO K0 S0 L xs i Q) : Wp (C_353_711 (ι (6 * i)) v5 v6 σ) Q := by
  have g1 := @g_in i L 1 (by omega) hi hL
  have g2 := @g_in i L 2 (by omega) hi hL
  have g3 := @g_in i L 3 (by omega) hi hL
  refine Wp.le (T_353_711 rfl h.lay) ?_
  simp only [h.ps, g1, g2, g3]
  obtain ⟨k, σ1, v, σ2, hk, ew, L1, p1, em, e4, hj, hl⟩ := pair_run (wr := fun σ => pcall 329 [.ref 0, .int (xs (ix (ι (6 * i) + ι 1))), .ref 98] σ) (J_329 (x0 := xs (ix (ι (6 * i) + ι 1)))) (okE_id (by omega)) (wr1 (M_329 rfl h.lay)) h
  simp only [ew, bI_ret, gd_pos L1, p1, g1, g2, g3, em]
  exact tail_std (r2 := .null) hl.lay (by omega) e4 hj (go σ2 hl)
theorem s_767 (hi : 6 * i + 6 ≤ L) (hL : L ≤ 3072) (h : LI K0 S0 L xs i σ) (go : GO K0 S0 L xs i Q) : Wp (C_353_767 (ι (6 * i)) v5 v6 σ) Q := by
  have g1 := @g_in i L 1 (by omega) hi hL
  have g2 := @g_in i L 2 (by omega) hi hL
  have g3 := @g_in i L 3 (by omega) hi hL
  refine Wp.le (T_353_767 rfl h.lay) ?_
  simp only [h.ps, g1, g2, g3]
  obtain ⟨k, σ1, v, σ2, hk, ew, L1, p1, em, e4, hj, hl⟩ := pair_run (wr := fun σ => pcall 330 [.ref 0, .int (xs (ix (ι (6 * i) + ι 1))), .ref 98] σ) (J_330 (x0 := xs (ix (ι (6 * i) + ι 1)))) (okE_id (by omega)) (wr1 (M_330 rfl h.lay)) h
  simp only [ew, bI_ret, gd_pos L1, p1, g1, g2, g3, em]
  exact tail_std (r2 := .null) hl.lay (by omega) e4 hj (go σ2 hl)
theorem s_823 (hi : 6 * i + 6 ≤ L) (hL : L ≤ 3072) (h : LI K0 S0 L xs i σ) (go : GO K0 S0 L xs i Q) : Wp (C_353_823 (ι (6 * i)) v5 v6 σ) Q := by
  have g1 := @g_in i L 1 (by omega) hi hL
  have g2 := @g_in i L 2 (by omega) hi hL
  have g3 := @g_in i L 3 (by omega) hi hL
  refine Wp.le (T_353_823 rfl h.lay) ?_
  simp only [h.ps, g1, g2, g3]
  obtain ⟨k, σ1, v, σ2, hk, ew, L1, p1, em, e4, hj, hl⟩ := pair_run (wr := fun σ => pcall 331 [.ref 0, .int (xs (ix (ι (6 * i) + ι 1))), .int (xs (ix (ι (6 * i) + ι 2))), .ref 98] σ) (J_331 (x0 := xs (ix (ι (6 * i) + ι 1))) (x1 := xs (ix (ι (6 * i) + ι 2)))) (okE_id (by omega)) (wr1 (M_331 rfl h.lay)) h
  simp only [ew, bI_ret, gd_pos L1, p1, g1, g2, g3, em]
  exact tail_std (r2 := .null) hl.lay (by omega) e4 hj (go σ2 hl)
theorem s_891 (hi : 6 * i + 6 ≤ L) (hL : L ≤ 3072) (h : LI K0 S0 L xs i σ) (go : GO K0 S0 L xs i Q) : Wp (C_353_891 (ι (6 * i)) v5 v6 σ) Q := by
  have g1 := @g_in i L 1 (by omega) hi hL
  have g2 := @g_in i L 2 (by omega) hi hL
  have g3 := @g_in i L 3 (by omega) hi hL
  refine Wp.le (T_353_891 rfl h.lay) ?_
  simp only [h.ps, g1, g2, g3]
  obtain ⟨k, σ1, v, σ2, hk, ew, L1, p1, em, e4, hj, hl⟩ := pair_run (wr := fun σ => pcall 332 [.ref 0, .int (xs (ix (ι (6 * i) + ι 1))), .int (xs (ix (ι (6 * i) + ι 2))), .int (xs (ix (ι (6 * i) + ι 3))), .ref 98] σ) (J_332 (x0 := xs (ix (ι (6 * i) + ι 1))) (x1 := xs (ix (ι (6 * i) + ι 2))) (x2 := xs (ix (ι (6 * i) + ι 3)))) (okE_id (by omega)) (wr1 (M_332 rfl h.lay)) h
  simp only [ew, bI_ret, gd_pos L1, p1, g1, g2, g3, em]
  exact tail_std (r2 := .null) hl.lay (by omega) e4 hj (go σ2 hl)
theorem s_1087 (hi : 6 * i + 6 ≤ L) (hL : L ≤ 3072) (h : LI K0 S0 L xs i σ) (go : GO K0 S0 L xs i Q) : Wp (C_353_1087 (ι (6 * i)) v5 v6 σ) Q := by
  have g1 := @g_in i L 1 (by omega) hi hL
  have g2 := @g_in i L 2 (by omega) hi hL
  have g3 := @g_in i L 3 (by omega) hi hL
  refine Wp.le (T_353_1087 rfl h.lay) ?_
  simp only [h.ps, g1, g2, g3]
  obtain ⟨k, σ1, v, σ2, hk, ew, L1, p1, em, e4, hj, hl⟩ := pair_run (wr := fun σ => pcall 334 [.ref 0, .int (xs (ix (ι (6 * i) + ι 1))), .int (xs (ix (ι (6 * i) + ι 2))), .int (xs (ix (ι (6 * i) + ι 3))), .ref 98] σ) (J_334 (x0 := xs (ix (ι (6 * i) + ι 1))) (x1 := xs (ix (ι (6 * i) + ι 2))) (x2 := xs (ix (ι (6 * i) + ι 3)))) (okE_id (by omega)) (wr3 (M_334 rfl h.lay)) h
  simp only [ew, bI_ret, gd_pos L1, p1, g1, g2, g3, em]
  exact tail_std (r2 := .null) hl.lay (by omega) e4 hj (go σ2 hl)
theorem s_1167 (hi : 6 * i + 6 ≤ L) (hL : L ≤ 3072) (h : LI K0 S0 L xs i σ) (go : GO K0 S0 L xs i Q) : Wp (C_353_1167 (ι (6 * i)) v5 v6 σ) Q := by
  have g1 := @g_in i L 1 (by omega) hi hL
  have g2 := @g_in i L 2 (by omega) hi hL
  have g3 := @g_in i L 3 (by omega) hi hL
  refine Wp.le (T_353_1167 rfl h.lay) ?_
  simp only [h.ps, g1, g2, g3]
  obtain ⟨k, σ1, v, σ2, hk, ew, L1, p1, em, e4, hj, hl⟩ := pair_run (wr := fun σ => pcall 335 [.ref 0, .int (xs (ix (ι (6 * i) + ι 1))), .int (xs (ix (ι (6 * i) + ι 2))), .int (xs (ix (ι (6 * i) + ι 3))), .ref 98] σ) (J_335 (x0 := xs (ix (ι (6 * i) + ι 1))) (x1 := xs (ix (ι (6 * i) + ι 2))) (x2 := xs (ix (ι (6 * i) + ι 3)))) (okE_id (by omega)) (wr3 (M_335 rfl h.lay)) h
  simp only [ew, bI_ret, gd_pos L1, p1, g1, g2, g3, em]
  exact tail_std (r2 := .null) hl.lay (by omega) e4 hj (go σ2 hl)
theorem s_1247 (hi : 6 * i + 6 ≤ L) (hL : L ≤ 3072) (h : LI K0 S0 L xs i σ) (go : GO K0 S0 L xs i Q) : Wp (C_353_1247 (ι (6 * i)) v5 v6 σ) Q := by
  have g1 := @g_in i L 1 (by omega) hi hL
  have g2 := @g_in i L 2 (by omega) hi hL
  have g3 := @g_in i L 3 (by omega) hi hL
  refine Wp.le (T_353_1247 rfl h.lay) ?_
  simp only [h.ps, g1, g2, g3]
  obtain ⟨k, σ1, v, σ2, hk, ew, L1, p1, em, e4, hj, hl⟩ := pair_run (wr := fun σ => pcall 336 [.ref 0, .int (xs (ix (ι (6 * i) + ι 1))), .ref 98] σ) (J_336 (x0 := xs (ix (ι (6 * i) + ι 1)))) (okE_id (by omega)) (wr2 (M_336 rfl h.lay)) h
  simp only [ew, bI_ret, gd_pos L1, p1, g1, g2, g3, em]
  exact tail_std (r2 := .null) hl.lay (by omega) e4 hj (go σ2 hl)
theorem s_1303 (hi : 6 * i + 6 ≤ L) (hL : L ≤ 3072) (h : LI K0 S0 L xs i σ) (go : GO K0 S0 L xs i Q) : Wp (C_353_1303 (ι (6 * i)) v5 v6 σ) Q := by
  have g1 := @g_in i L 1 (by omega) hi hL
  have g2 := @g_in i L 2 (by omega) hi hL
  have g3 := @g_in i L 3 (by omega) hi hL
  refine Wp.le (T_353_1303 rfl h.lay) ?_
  simp only [h.ps, g1, g2, g3]
  obtain ⟨k, σ1, v, σ2, hk, ew, L1, p1, em, e4, hj, hl⟩ := pair_run (wr := fun σ => pcall 337 [.ref 0, .int (xs (ix (ι (6 * i) + ι 1))), .int (xs (ix (ι (6 * i) + ι 2))), .int (xs (ix (ι (6 * i) + ι 3))), .ref 98] σ) (J_337 (x0 := xs (ix (ι (6 * i) + ι 1))) (x1 := xs (ix (ι (6 * i) + ι 2))) (x2 := xs (ix (ι (6 * i) + ι 3)))) (okE_id (by omega)) (wr3 (M_337 rfl h.lay)) h
  simp only [ew, bI_ret, gd_pos L1, p1, g1, g2, g3, em]
  exact tail_std (r2 := .null) hl.lay (by omega) e4 hj (go σ2 hl)
theorem s_1383 (hi : 6 * i + 6 ≤ L) (hL : L ≤ 3072) (h : LI K0 S0 L xs i σ) (go : GO K0 S0 L xs i Q) : Wp (C_353_1383 (ι (6 * i)) v5 v6 σ) Q := by
  have g1 := @g_in i L 1 (by omega) hi hL
  have g2 := @g_in i L 2 (by omega) hi hL
  have g3 := @g_in i L 3 (by omega) hi hL
  refine Wp.le (T_353_1383 rfl h.lay) ?_
  simp only [h.ps, g1, g2, g3]
  obtain ⟨k, σ1, v, σ2, hk, ew, L1, p1, em, e4, hj, hl⟩ := pair_run (wr := fun σ => pcall 338 [.ref 0, .int (xs (ix (ι (6 * i) + ι 1))), .int (xs (ix (ι (6 * i) + ι 2))), .ref 98] σ) (J_338 (x0 := xs (ix (ι (6 * i) + ι 1))) (x1 := xs (ix (ι (6 * i) + ι 2)))) (okE_id (by omega)) (wr3 (M_338 rfl h.lay)) h
  simp only [ew, bI_ret, gd_pos L1, p1, g1, g2, g3, em]
  exact tail_std (r2 := .null) hl.lay (by omega) e4 hj (go σ2 hl)
theorem s_1451 (hi : 6 * i + 6 ≤ L) (hL : L ≤ 3072) (h : LI K0 S0 L xs i σ) (go : GO K0 S0 L xs i Q) : Wp (C_353_1451 (ι (6 * i)) v5 v6 σ) Q := by
  have g1 := @g_in i L 1 (by omega) hi hL
  have g2 := @g_in i L 2 (by omega) hi hL
  have g3 := @g_in i L 3 (by omega) hi hL
  refine Wp.le (T_353_1451 rfl h.lay) ?_
  simp only [h.ps, g1, g2, g3]
  obtain ⟨k, σ1, v, σ2, hk, ew, L1, p1, em, e4, hj, hl⟩ := pair_run (wr := fun σ => pcall 339 [.ref 0, .int (xs (ix (ι (6 * i) + ι 1))), .int (xs (ix (ι (6 * i) + ι 2))), .ref 98] σ) (J_339 (x0 := xs (ix (ι (6 * i) + ι 1))) (x1 := xs (ix (ι (6 * i) + ι 2)))) (okE_id (by omega)) (wr3 (M_339 rfl h.lay)) h
  simp only [ew, bI_ret, gd_pos L1, p1, g1, g2, g3, em]
  exact tail_std (r2 := .null) hl.lay (by omega) e4 hj (go σ2 hl)
theorem s_1519 (hi : 6 * i + 6 ≤ L) (hL : L ≤ 3072) (h : LI K0 S0 L xs i σ) (go : GO K0 S0 L xs i Q) : Wp (C_353_1519 (ι (6 * i)) v5 v6 σ) Q := by
  have g1 := @g_in i L 1 (by omega) hi hL
  have g2 := @g_in i L 2 (by omega) hi hL
  have g3 := @g_in i L 3 (by omega) hi hL
  refine Wp.le (T_353_1519 rfl h.lay) ?_
  simp only [h.ps, g1, g2, g3]
  obtain ⟨k, σ1, v, σ2, hk, ew, L1, p1, em, e4, hj, hl⟩ := pair_run (wr := fun σ => pcall 340 [.ref 0, .int (xs (ix (ι (6 * i) + ι 1))), .ref 98] σ) (J_340 (x0 := xs (ix (ι (6 * i) + ι 1)))) (okE_id (by omega)) (wr2 (M_340 rfl h.lay)) h
  simp only [ew, bI_ret, gd_pos L1, p1, g1, g2, g3, em]
  exact tail_std (r2 := .null) hl.lay (by omega) e4 hj (go σ2 hl)
theorem s_1650 (hi : 6 * i + 6 ≤ L) (hL : L ≤ 3072) (h : LI K0 S0 L xs i σ) (go : GO K0 S0 L xs i Q) : Wp (C_353_1650 (ι (6 * i)) v5 v6 σ) Q := by
  have g1 := @g_in i L 1 (by omega) hi hL
  have g2 := @g_in i L 2 (by omega) hi hL
  have g3 := @g_in i L 3 (by omega) hi hL
  refine Wp.le (T_353_1650 rfl h.lay) ?_
  simp only [h.ps, g1, g2, g3]
  obtain ⟨k, σ1, v, σ2, hk, ew, L1, p1, em, e4, hj, hl⟩ := pair_run (wr := fun σ => pcall 342 [.ref 0, .int (xs (ix (ι (6 * i) + ι 1))), .ref 98] σ) (J_342 (x0 := xs (ix (ι (6 * i) + ι 1)))) (okE_id (by omega)) (wr1 (M_342 rfl h.lay)) h
  simp only [ew, bI_ret, gd_pos L1, p1, g1, g2, g3, em]
  exact tail_std (r2 := .null) hl.lay (by omega) e4 hj (go σ2 hl)
theorem s_1706 (hi : 6 * i + 6 ≤ L) (hL : L ≤ 3072) (h : LI K0 S0 L xs i σ) (go : GO K0 S0 L xs i Q) : Wp (C_353_1706 (ι (6 * i)) v5 v6 σ) Q := by
  have g1 := @g_in i L 1 (by omega) hi hL
  have g2 := @g_in i L 2 (by omega) hi hL
  have g3 := @g_in i L 3 (by omega) hi hL
  refine Wp.le (T_353_1706 rfl h.lay) ?_
  simp only [h.ps, g1, g2, g3]
  obtain ⟨k, σ1, v, σ2, hk, ew, L1, p1, em, e4, hj, hl⟩ := pair_run (wr := fun σ => pcall 343 [.ref 0, .int (xs (ix (ι (6 * i) + ι 1))), .int (xs (ix (ι (6 * i) + ι 2))), .ref 98] σ) (J_343 (x0 := xs (ix (ι (6 * i) + ι 1))) (x1 := xs (ix (ι (6 * i) + ι 2)))) (okE_id (by omega)) (wr1 (M_343 rfl h.lay)) h
  simp only [ew, bI_ret, gd_pos L1, p1, g1, g2, g3, em]
  exact tail_std (r2 := .null) hl.lay (by omega) e4 hj (go σ2 hl)
theorem s_1774 (hi : 6 * i + 6 ≤ L) (hL : L ≤ 3072) (h : LI K0 S0 L xs i σ) (go : GO K0 S0 L xs i Q) : Wp (C_353_1774 (ι (6 * i)) v5 v6 σ) Q := by
  have g1 := @g_in i L 1 (by omega) hi hL
  have g2 := @g_in i L 2 (by omega) hi hL
  have g3 := @g_in i L 3 (by omega) hi hL
  refine Wp.le (T_353_1774 rfl h.lay) ?_
  simp only [h.ps, g1, g2, g3]
  obtain ⟨k, σ1, v, σ2, hk, ew, L1, p1, em, e4, hj, hl⟩ := pair_run (wr := fun σ => pcall 344 [.ref 0, .int (xs (ix (ι (6 * i) + ι 1))), .int (xs (ix (ι (6 * i) + ι 2))), .ref 98] σ) (J_344 (x0 := xs (ix (ι (6 * i) + ι 1))) (x1 := xs (ix (ι (6 * i) + ι 2)))) (okE_id (by omega)) (wr1 (M_344 rfl h.lay)) h
  simp only [ew, bI_ret, gd_pos L1, p1, g1, g2, g3, em]
  exact tail_std (r2 := .null) hl.lay (by omega) e4 hj (go σ2 hl)
theorem s_1842 (hi : 6 * i + 6 ≤ L) (hL : L ≤ 3072) (h : LI K0 S0 L xs i σ) (go : GO K0 S0 L xs i Q) : Wp (C_353_1842 (ι (6 * i)) v5 v6 σ) Q := by
  have g1 := @g_in i L 1 (by omega) hi hL
  have g2 := @g_in i L 2 (by omega) hi hL
  have g3 := @g_in i L 3 (by omega) hi hL
  refine Wp.le (T_353_1842 rfl h.lay) ?_
  simp only [h.ps, g1, g2, g3]
  obtain ⟨k, σ1, v, σ2, hk, ew, L1, p1, em, e4, hj, hl⟩ := pair_run (wr := fun σ => pcall 345 [.ref 0, .int (xs (ix (ι (6 * i) + ι 1))), .int (xs (ix (ι (6 * i) + ι 2))), .ref 98] σ) (J_345 (x0 := xs (ix (ι (6 * i) + ι 1))) (x1 := xs (ix (ι (6 * i) + ι 2)))) (okE_id (by omega)) (wr3 (M_345 rfl h.lay)) h
  simp only [ew, bI_ret, gd_pos L1, p1, g1, g2, g3, em]
  exact tail_std (r2 := .null) hl.lay (by omega) e4 hj (go σ2 hl)
theorem s_1910 (hi : 6 * i + 6 ≤ L) (hL : L ≤ 3072) (h : LI K0 S0 L xs i σ) (go : GO K0 S0 L xs i Q) : Wp (C_353_1910 (ι (6 * i)) v5 v6 σ) Q := by
  have g1 := @g_in i L 1 (by omega) hi hL
  have g2 := @g_in i L 2 (by omega) hi hL
  have g3 := @g_in i L 3 (by omega) hi hL
  refine Wp.le (T_353_1910 rfl h.lay) ?_
  simp only [h.ps, g1, g2, g3]
  obtain ⟨k, σ1, v, σ2, hk, ew, L1, p1, em, e4, hj, hl⟩ := pair_run (wr := fun σ => pcall 346 [.ref 0, .int (xs (ix (ι (6 * i) + ι 1))), .ref 98] σ) (J_346 (x0 := xs (ix (ι (6 * i) + ι 1)))) (okE_id (by omega)) (wr2 (M_346 rfl h.lay)) h
  simp only [ew, bI_ret, gd_pos L1, p1, g1, g2, g3, em]
  exact tail_std (r2 := .null) hl.lay (by omega) e4 hj (go σ2 hl)
theorem s_1966 (hi : 6 * i + 6 ≤ L) (hL : L ≤ 3072) (h : LI K0 S0 L xs i σ) (go : GO K0 S0 L xs i Q) : Wp (C_353_1966 (ι (6 * i)) v5 v6 σ) Q := by
  have g1 := @g_in i L 1 (by omega) hi hL
  have g2 := @g_in i L 2 (by omega) hi hL
  have g3 := @g_in i L 3 (by omega) hi hL
  refine Wp.le (T_353_1966 rfl h.lay) ?_
  simp only [h.ps, g1, g2, g3]
  obtain ⟨k, σ1, v, σ2, hk, ew, L1, p1, em, e4, hj, hl⟩ := pair_run (wr := fun σ => pcall 347 [.ref 0, .int (xs (ix (ι (6 * i) + ι 1))), .int (xs (ix (ι (6 * i) + ι 2))), .int (xs (ix (ι (6 * i) + ι 3))), .ref 98] σ) (J_347 (x0 := xs (ix (ι (6 * i) + ι 1))) (x1 := xs (ix (ι (6 * i) + ι 2))) (x2 := xs (ix (ι (6 * i) + ι 3)))) (okE_id (by omega)) (wr1 (M_347 rfl h.lay)) h
  simp only [ew, bI_ret, gd_pos L1, p1, g1, g2, g3, em]
  exact tail_std (r2 := .null) hl.lay (by omega) e4 hj (go σ2 hl)
theorem s_2046 (hi : 6 * i + 6 ≤ L) (hL : L ≤ 3072) (h : LI K0 S0 L xs i σ) (go : GO K0 S0 L xs i Q) : Wp (C_353_2046 (ι (6 * i)) v5 v6 σ) Q := by
  have g1 := @g_in i L 1 (by omega) hi hL
  have g2 := @g_in i L 2 (by omega) hi hL
  have g3 := @g_in i L 3 (by omega) hi hL
  refine Wp.le (T_353_2046 rfl h.lay) ?_
  simp only [h.ps, g1, g2, g3]
  obtain ⟨k, σ1, v, σ2, hk, ew, L1, p1, em, e4, hj, hl⟩ := pair_run (wr := fun σ => pcall 348 [.ref 0, .int (xs (ix (ι (6 * i) + ι 1))), .ref 98] σ) (J_348 (x0 := xs (ix (ι (6 * i) + ι 1)))) (okE_id (by omega)) (wr2 (M_348 rfl h.lay)) h
  simp only [ew, bI_ret, gd_pos L1, p1, g1, g2, g3, em]
  exact tail_std (r2 := .null) hl.lay (by omega) e4 hj (go σ2 hl)
theorem s_2102 (hi : 6 * i + 6 ≤ L) (hL : L ≤ 3072) (h : LI K0 S0 L xs i σ) (go : GO K0 S0 L xs i Q) : Wp (C_353_2102 (ι (6 * i)) v5 v6 σ) Q := by
  have g1 := @g_in i L 1 (by omega) hi hL
  have g2 := @g_in i L 2 (by omega) hi hL
  have g3 := @g_in i L 3 (by omega) hi hL
  refine Wp.le (T_353_2102 rfl h.lay) ?_
  simp only [h.ps, g1, g2, g3]
  obtain ⟨k, σ1, v, σ2, hk, ew, L1, p1, em, e4, hj, hl⟩ := pair_run (wr := fun σ => pcall 349 [.ref 0, .int (xs (ix (ι (6 * i) + ι 1))), .ref 98] σ) (J_349 (x0 := xs (ix (ι (6 * i) + ι 1)))) (okE_id (by omega)) (wr2 (M_349 rfl h.lay)) h
  simp only [ew, bI_ret, gd_pos L1, p1, g1, g2, g3, em]
  exact tail_std (r2 := .null) hl.lay (by omega) e4 hj (go σ2 hl)
theorem s_2169 (hi : 6 * i + 6 ≤ L) (hL : L ≤ 3072) (h : LI K0 S0 L xs i σ) (go : GO K0 S0 L xs i Q) : Wp (C_353_2169 (ι (6 * i)) v5 v6 σ) Q := by
  have g1 := @g_in i L 1 (by omega) hi hL
  have g2 := @g_in i L 2 (by omega) hi hL
  have g3 := @g_in i L 3 (by omega) hi hL
  refine Wp.le (T_353_2169 rfl h.lay) ?_
  simp only [h.ps, g1, g2, g3]
  obtain ⟨k, σ1, v, σ2, hk, ew, L1, p1, em, e4, hj, hl⟩ := pair_run (wr := fun σ => pcall 350 [.ref 0, .int (xs (ix (ι (6 * i) + ι 1))), .int (xs (ix (ι (6 * i) + ι 2))), .int (xs (ix (ι (6 * i) + ι 3))), .ref 98] σ) (J_350 (x0 := xs (ix (ι (6 * i) + ι 1))) (x1 := xs (ix (ι (6 * i) + ι 2))) (x2 := xs (ix (ι (6 * i) + ι 3)))) (okE_id (by omega)) (wr3 (M_350 rfl h.lay)) h
  simp only [ew, bI_ret, gd_pos L1, p1, g1, g2, g3, em]
  exact tail_std (r2 := .null) hl.lay (by omega) e4 hj (go σ2 hl)
theorem s_2249 (hi : 6 * i + 6 ≤ L) (hL : L ≤ 3072) (h : LI K0 S0 L xs i σ) (go : GO K0 S0 L xs i Q) : Wp (C_353_2249 (ι (6 * i)) v5 v6 σ) Q := by
  have g1 := @g_in i L 1 (by omega) hi hL
  have g2 := @g_in i L 2 (by omega) hi hL
  have g3 := @g_in i L 3 (by omega) hi hL
  refine Wp.le (T_353_2249 rfl h.lay) ?_
  simp only [h.ps, g1, g2, g3]
  obtain ⟨k, σ1, v, σ2, hk, ew, L1, p1, em, e4, hj, hl⟩ := pair_run (wr := fun σ => pcall 351 [.ref 0, .int (xs (ix (ι (6 * i) + ι 1))), .int (xs (ix (ι (6 * i) + ι 2))), .int (xs (ix (ι (6 * i) + ι 3))), .ref 98] σ) (J_351 (x0 := xs (ix (ι (6 * i) + ι 1))) (x1 := xs (ix (ι (6 * i) + ι 2))) (x2 := xs (ix (ι (6 * i) + ι 3)))) (okE_id (by omega)) (wr3 (M_351 rfl h.lay)) h
  simp only [ew, bI_ret, gd_pos L1, p1, g1, g2, g3, em]
  exact tail_std (r2 := .null) hl.lay (by omega) e4 hj (go σ2 hl)
theorem s_2329 (hi : 6 * i + 6 ≤ L) (hL : L ≤ 3072) (h : LI K0 S0 L xs i σ) (go : GO K0 S0 L xs i Q) : Wp (C_353_2329 (ι (6 * i)) v5 v6 σ) Q := by
  have g1 := @g_in i L 1 (by omega) hi hL
  have g2 := @g_in i L 2 (by omega) hi hL
  have g3 := @g_in i L 3 (by omega) hi hL
  refine Wp.le (T_353_2329 rfl h.lay) ?_
  simp only [h.ps, g1, g2, g3]
  obtain ⟨k, σ1, v, σ2, hk, ew, L1, p1, em, e4, hj, hl⟩ := pair_run (wr := fun σ => pcall 352 [.ref 0, .int (xs (ix (ι (6 * i) + ι 1))), .int (xs (ix (ι (6 * i) + ι 2))), .int (xs (ix (ι (6 * i) + ι 3))), .ref 98] σ) (J_352 (x0 := xs (ix (ι (6 * i) + ι 1))) (x1 := xs (ix (ι (6 * i) + ι 2))) (x2 := xs (ix (ι (6 * i) + ι 3)))) (okE_id (by omega)) (wr3 (M_352 rfl h.lay)) h
  simp only [ew, bI_ret, gd_pos L1, p1, g1, g2, g3, em]
  exact tail_std (r2 := .null) hl.lay (by omega) e4 hj (go σ2 hl)
end LOOP
