/-! ===== the law's loop: the other cases ===== -/
section LOOP2
variable {σ τ υ μ σ1 σ2 : pS} {n k i j B c L K0 S0 : Nat} {e : Nat → Nat} {xs : Nat → Int32} {dC dM : pS → Option pZ} {o : Om} {d w : Option pZ} {v5 v6 : Value} {x0 x1 x2 x3 : Int32} {Q : pZ → Prop}
theorem s_277 (hi : 6 * i + 6 ≤ L) (hL : L ≤ 3072) (h : LI K0 S0 L xs i σ) (go : GO K0 S0 L xs i Q) : Wp (C_353_277 (ι (6 * i)) v5 v6 σ) Q := by
  have g1 := @g_in i L 1 (by omega) hi hL
  refine Wp.le (T_353_277 rfl h.lay) ?_
  simp only [h.ps, g1]
  obtain ⟨k, σ1, v, σ2, hk, ew, L1, p1, em, e4, hj, hl⟩ := pair_run (wr := fun σ => pcall 323 [.ref 0, .int (xs (ix (ι (6 * i) + ι 1))), .ref 98] σ) (J_prov (x0 := xs (ix (ι (6 * i) + ι 1)))) okE_12 (wrp (M_323 rfl h.lay)) h
  simp only [ew, bI_ret, gd_pos L1, p1, g1, em, gd_pos hl.lay]
  exact tail_std (r2 := .null) hl.lay (by omega) e4 hj (go σ2 hl)
theorem s_1575 (hi : 6 * i + 6 ≤ L) (hL : L ≤ 3072) (h : LI K0 S0 L xs i σ) (go : GO K0 S0 L xs i Q) : Wp (C_353_1575 (ι (6 * i)) v5 v6 σ) Q := by
  have g1 := @g_in i L 1 (by omega) hi hL
  have g2 := @g_in i L 2 (by omega) hi hL
  refine Wp.le (T_353_1575 rfl h.lay) ?_
  simp only [h.ps, g1, g2]
  obtain ⟨k, σ1, v, σ2, hk, ew, L1, p1, em, e4, hj, hl⟩ := pair_run (wr := fun σ => pcall 341 [.ref 0, .int (xs (ix (ι (6 * i) + ι 1))), .int (xs (ix (ι (6 * i) + ι 2))), .ref 98] σ) (J_341 (x0 := xs (ix (ι (6 * i) + ι 1))) (x1 := xs (ix (ι (6 * i) + ι 2)))) (okE_id (by omega)) (wrb (M_341 rfl h.lay)) h
  simp only [ew, bI_ret, p1, g1, g2, em]
  exact tail_b hl.lay (by omega) e4 hj (go σ2 hl)
theorem s_998 {b : Bool} (hb : (xs (ix (ι (6 * i) + ι 3)) = ι 0) = (b = false)) (hi : 6 * i + 6 ≤ L) (hL : L ≤ 3072) (h : LI K0 S0 L xs i σ) (go : GO K0 S0 L xs i Q) : Wp (C_353_998 (ι (6 * i)) v5 v6 (xs (ix (ι (6 * i) + ι 1))) (xs (ix (ι (6 * i) + ι 2))) (bz b) σ) Q := by
  have g1 := @g_in i L 1 (by omega) hi hL
  have g2 := @g_in i L 2 (by omega) hi hL
  have g3 := @g_in i L 3 (by omega) hi hL
  refine Wp.le (T_353_998 rfl h.lay) ?_
  obtain ⟨k, σ1, v, σ2, hk, ew, L1, p1, em, e4, hj, hl⟩ := pair_run (wr := fun σ => pcall 333 [.ref 0, .int (xs (ix (ι (6 * i) + ι 1))), .int (xs (ix (ι (6 * i) + ι 2))), .int (bz b), .ref 98] σ) (J_333 (x0 := xs (ix (ι (6 * i) + ι 1))) (x1 := xs (ix (ι (6 * i) + ι 2))) (b := b)) (okE_id (by omega)) (wrb (M_333 rfl h.lay)) h
  have w : Wp (C_353_1031 (ι (6 * i)) (ι k) v6 (xs (ix (ι (6 * i) + ι 1))) (xs (ix (ι (6 * i) + ι 2))) (bz b) σ1) Q := by
    refine Wp.le (T_353_1031 rfl L1) ?_
    simp only [em, bI_ret]
    exact tail_b hl.lay (by omega) e4 hj (go σ2 hl)
  simp only [ew, bI_ret, p1, g1, g2, g3]
  by_cases g : xs (ix (ι (6 * i) + ι 3)) = ι 0
  · rw [if_pos g]
    rw [hb] at g; subst g; exact w
  · rw [if_neg g]
    rw [hb] at g
    have : b = true := by cases b; exact absurd rfl g; rfl
    subst this; exact w
theorem s_971 (hi : 6 * i + 6 ≤ L) (hL : L ≤ 3072) (h : LI K0 S0 L xs i σ) (go : GO K0 S0 L xs i Q) : Wp (C_353_971 (ι (6 * i)) v5 v6 σ) Q := by
  have g1 := @g_in i L 1 (by omega) hi hL
  have g2 := @g_in i L 2 (by omega) hi hL
  have g3 := @g_in i L 3 (by omega) hi hL
  refine Wp.le (T_353_971 rfl h.lay) ?_
  simp only [h.ps, g1, g2, g3]
  by_cases g : xs (ix (ι (6 * i) + ι 3)) = ι 0
  · rw [if_pos g]; exact s_998 (b := false) (by rw [eq_true g]; simp) hi hL h go
  · rw [if_neg g]; exact s_998 (b := true) (by rw [eq_false g]; simp) hi hL h go
theorem s_204 (hi : 6 * i + 6 ≤ L) (hL : L ≤ 3072) (h : LI K0 S0 L xs i σ) (go : GO K0 S0 L xs i Q) : Wp (C_353_204 (ι (6 * i)) v5 v6 σ) Q := by
  have g1 := @g_in i L 1 (by omega) hi hL
  have g2 := @g_in i L 2 (by omega) hi hL
  have g3 := @g_in i L 3 (by omega) hi hL
  have g4 := @g_in i L 4 (by omega) hi hL
  have g5 := @g_in i L 5 (by omega) hi hL
  refine Wp.le (T_353_204 rfl h.lay) ?_
  simp only [h.ps, g1, g2, g3, g4, g5]
  obtain ⟨w, σ1, σ2, ec, L1, p1, em, hl⟩ := pair0_run (J_feed (x0 := xs (ix (ι (6 * i) + ι 1))) (x1 := xs (ix (ι (6 * i) + ι 2))) (x2 := xs (ix (ι (6 * i) + ι 3))) (x3 := xs (ix (ι (6 * i) + ι 4))) (x4 := xs (ix (ι (6 * i) + ι 5)))) h
  simp only [ec, bI_ret, p1, g1, g2, g3, g4, g5, em, if_true]
  exact go σ2 hl _ _
theorem s_333 (h : LI K0 S0 L xs i σ) (go : GO K0 S0 L xs i Q) : Wp (C_353_333 (ι (6 * i)) v5 v6 σ) Q := by
  refine Wp.le (T_353_333 rfl h.lay) ?_
  obtain ⟨w, σ1, σ2, ec, L1, p1, em, hl⟩ := pair0_run J_f h
  simp only [ec, bI_ret, em, if_true]
  exact go σ2 hl _ _
theorem s_618 (hi : 6 * i + 6 ≤ L) (hL : L ≤ 3072) (h : LI K0 S0 L xs i σ) (go : GO K0 S0 L xs i Q) : Wp (C_353_618 (ι (6 * i)) v5 v6 σ) Q := by
  have g1 := @g_in i L 1 (by omega) hi hL
  refine Wp.le (T_353_618 rfl h.lay) ?_
  simp only [h.ps, g1]
  obtain ⟨w, σ1, σ2, ec, L1, p1, em, hl⟩ := pair0_run (J_d (x0 := xs (ix (ι (6 * i) + ι 1)))) h
  simp only [ec, bI_ret, p1, g1, em, if_true]
  exact go σ2 hl _ _
theorem s_1074 (h : LI K0 S0 L xs i σ) (go : GO K0 S0 L xs i Q) : Wp (C_353_1074 (ι (6 * i)) v5 v6 σ) Q := by
  refine Wp.le (T_353_1074 rfl h.lay) ?_
  obtain ⟨w, σ1, σ2, ec, L1, p1, em, hl⟩ := pair0_run J_u h
  simp only [ec, bI_ret, em, if_true]
  exact go σ2 hl _ _
theorem s_2420 (h : LI K0 S0 L xs i σ) (go : GO K0 S0 L xs i Q) : Wp (C_353_2420 (ι (6 * i)) v5 v6 σ) Q := by
  refine Wp.le (T_353_2420 rfl h.lay) ?_
  obtain ⟨w, σ1, σ2, ec, L1, p1, em, hl⟩ := pair0_run J_r h
  simp only [ec, bI_ret, gd_pos L1, em, if_true]
  exact go σ2 hl _ _
theorem pairV_run (hP : ∀ o, ∃ o', (∀ σ, IC o σ → Wp (dC σ) (vC σ (IC o'))) ∧ ∀ μ, IM o μ → Wp (dM μ) (vM μ (IM o'))) (h : LI K0 S0 L xs c σ) : ∃ v1 v2 σ1 σ2, dC σ = some (0, v1, σ1) ∧ LayR (gR σ1) ∧ dM σ1 = some (0, v2, σ2) ∧ LI K0 S0 L xs (c + 1) σ2 := by
  obtain ⟨o, hC, hM, sm, hn, hp, h1, h2⟩ := h
  obtain ⟨o', w1, w2⟩ := hP o
  obtain ⟨zc, ec, v1, τ, rfl, hI, f⟩ := w1 σ hC
  obtain ⟨zm, em, v2, τ2, rfl, hM2, f2⟩ := w2 τ (MI.ca hM f)
  exact ⟨v1, v2, τ, τ2, ec, (CI.cnw hI).1.lay, em, fin_LI (σ0 := σ) hI hM2 (sm.fq f (fun a i v => v.no)) f2 (by rw [f.2.1]; exact hn) (by rw [f.2.2.2.2.1]; exact hp) (by rw [f.2.2.1]; omega) (by rw [f.2.2.2.1]; omega)⟩
theorem s_2158 (h : LI K0 S0 L xs i σ) (go : GO K0 S0 L xs i Q) : Wp (C_353_2158 (ι (6 * i)) v5 v6 σ) Q := by
  refine Wp.le (T_353_2158 rfl h.lay) ?_
  obtain ⟨v1, v2, σ1, σ2, ec, L1, em, hl⟩ := pairV_run (dC := fun σ => pcall 170 [.ref 0] σ) (dM := fun σ => pcall 313 [.ref 61] σ) (by
    rintro ⟨⟨P, T, W, R⟩, A, m, im, tp, fp, q⟩
    exact ⟨((P, T, W, R), A, forS m, im, tp, fp, q), fun σ hC => o170 (P := P) (T := T) (W := W) (R := R) (A := A) (m := m) (im := im) (tp := tp) (fp := fp) (q := q) hC, fun μ hM => o313 (P := P) (T := T) (W := W) (R := R) (A := A) (m := m) (im := im) (tp := tp) (fp := fp) hM⟩) h
  simp only [ec, bV_ret, em]
  exact go σ2 hl _ _
theorem s_2409 (h : LI K0 S0 L xs i σ) (go : GO K0 S0 L xs i Q) : Wp (C_353_2409 (ι (6 * i)) v5 v6 σ) Q := by
  refine Wp.le (T_353_2409 rfl h.lay) ?_
  obtain ⟨v1, v2, σ1, σ2, ec, L1, em, hl⟩ := pairV_run (dC := fun σ => pcall 171 [.ref 0] σ) (dM := fun σ => pcall 320 [.ref 61] σ) (by
    rintro ⟨⟨P, T, W, R⟩, A, m, im, tp, fp, q⟩
    exact ⟨((P, T, W, R), A, m, some (A, m), tp, fp, q), fun σ hC => o171 (P := P) (T := T) (W := W) (R := R) (A := A) (m := m) (im := im) (tp := tp) (fp := fp) (q := q) hC, fun μ hM => o320 (P := P) (T := T) (W := W) (R := R) (A := A) (m := m) (im := im) (tp := tp) (fp := fp) hM⟩) h
  simp only [ec, bV_ret, gd_pos L1, em]
  exact go σ2 hl _ _
theorem and63 (x : Int32) : ∃ n, n < 64 ∧ x &&& ι 63 = ι n := by
  refine ⟨x.toBitVec.toNat % 64, Nat.mod_lt _ (by omega), ?_⟩
  rw [← Int32.toBitVec_inj, Int32.toBitVec_and]
  apply BitVec.eq_of_toNat_eq
  rw [BitVec.toNat_and]
  show x.toBitVec.toNat &&& (BitVec.ofNat 32 63).toNat = (BitVec.ofNat 32 (x.toBitVec.toNat % 64)).toNat
  rw [BitVec.toNat_ofNat, BitVec.toNat_ofNat, Nat.mod_eq_of_lt (show 63 < 2 ^ 32 by omega), Nat.mod_eq_of_lt (show x.toBitVec.toNat % 64 < 2 ^ 32 by omega)]
  exact Nat.and_two_pow_sub_one_eq_mod _ 6
theorem op_gt : ∀ n, n < 64 → (∀ k, k < 37 → ι n ≠ ι k) → 36 < (ι n).toInt := by
  intro n hn h
  have h2 : 37 ≤ n := by
    rcases Nat.lt_or_ge n 37 with g | g
    · exact absurd rfl (h n g)
    · exact g
  revert h2 hn; clear h; revert n
  decide
theorem lim_eq (hL : L ≤ 3072) (hi : i ≤ 513) : (ι L - ι 6 < ι (6 * i)) = (L < 6 * i + 6) := by
  by_cases h6 : 6 ≤ L
  · rw [ι_sub h6, ι_lt (by omega) (by omega)]; exact propext (by omega)
  · have : ι L - ι 6 < ι 0 := by
      have : ∀ L, L < 6 → ι L - ι 6 < ι 0 := by decide
      exact this L (by omega)
    have h2 : ι 0 ≤ ι (6 * i) := by rw [ι_le (by omega) (by omega)]; omega
    rw [eq_true (Int32.lt_of_lt_of_le this h2), eq_true (show L < 6 * i + 6 by omega)]
theorem law_op (hi : 6 * i + 6 ≤ L) (hL : L ≤ 3072) (h : LI K0 S0 L xs i σ) (go : GO K0 S0 L xs i Q) : Wp (C_353_23 (ι (6 * i)) v5 v6 σ) Q := by
  refine Wp.le (T_353_23 rfl h.lay) ?_
  obtain ⟨n, hn, en⟩ := and63 (xs (ix (ι (6 * i))))
  have g0 : ∀ {t : Option pZ}, gd (inb (ι (6 * i)) L) t = t := fun {t} => gd_inb (by omega) (by omega)
  simp only [h.ps, g0, en]
  rw [if_neg (by rw [lim_eq hL (by omega)]; omega)]
  by_cases c0 : ι n = ι 0
  · rw [if_pos c0]; exact s_204 hi hL h go
  rw [if_neg c0]
  by_cases c1 : ι n = ι 1
  · rw [if_pos c1]; exact s_277 hi hL h go
  rw [if_neg c1]
  by_cases c2 : ι n = ι 2
  · rw [if_pos c2]; exact s_333 h go
  rw [if_neg c2]
  by_cases c3 : ι n = ι 3
  · rw [if_pos c3]; exact s_346 hi hL h go
  rw [if_neg c3]
  by_cases c4 : ι n = ι 4
  · rw [if_pos c4]; exact s_402 hi hL h go
  rw [if_neg c4]
  by_cases c5 : ι n = ι 5
  · rw [if_pos c5]; exact s_470 hi hL h go
  rw [if_neg c5]
  by_cases c6 : ι n = ι 6
  · rw [if_pos c6]; exact s_538 hi hL h go
  rw [if_neg c6]
  by_cases c7 : ι n = ι 7
  · rw [if_pos c7]; exact s_618 hi hL h go
  rw [if_neg c7]
  by_cases c8 : ι n = ι 8
  · rw [if_pos c8]; exact s_643 hi hL h go
  rw [if_neg c8]
  by_cases c9 : ι n = ι 9
  · rw [if_pos c9]; exact s_711 hi hL h go
  rw [if_neg c9]
  by_cases c10 : ι n = ι 10
  · rw [if_pos c10]; exact s_767 hi hL h go
  rw [if_neg c10]
  by_cases c11 : ι n = ι 11
  · rw [if_pos c11]; exact s_823 hi hL h go
  rw [if_neg c11]
  by_cases c12 : ι n = ι 12
  · rw [if_pos c12]; exact s_891 hi hL h go
  rw [if_neg c12]
  by_cases c13 : ι n = ι 13
  · rw [if_pos c13]; exact s_971 hi hL h go
  rw [if_neg c13]
  by_cases c14 : ι n = ι 14
  · rw [if_pos c14]; exact s_1074 h go
  rw [if_neg c14]
  by_cases c15 : ι n = ι 15
  · rw [if_pos c15]; exact s_1087 hi hL h go
  rw [if_neg c15]
  by_cases c16 : ι n = ι 16
  · rw [if_pos c16]; exact s_1167 hi hL h go
  rw [if_neg c16]
  by_cases c17 : ι n = ι 17
  · rw [if_pos c17]; exact s_1247 hi hL h go
  rw [if_neg c17]
  by_cases c18 : ι n = ι 18
  · rw [if_pos c18]; exact s_1303 hi hL h go
  rw [if_neg c18]
  by_cases c19 : ι n = ι 19
  · rw [if_pos c19]; exact s_1383 hi hL h go
  rw [if_neg c19]
  by_cases c20 : ι n = ι 20
  · rw [if_pos c20]; exact s_1451 hi hL h go
  rw [if_neg c20]
  by_cases c21 : ι n = ι 21
  · rw [if_pos c21]; exact s_1519 hi hL h go
  rw [if_neg c21]
  by_cases c22 : ι n = ι 22
  · rw [if_pos c22]; exact s_1575 hi hL h go
  rw [if_neg c22]
  by_cases c23 : ι n = ι 23
  · rw [if_pos c23]; exact s_1650 hi hL h go
  rw [if_neg c23]
  by_cases c24 : ι n = ι 24
  · rw [if_pos c24]; exact s_1706 hi hL h go
  rw [if_neg c24]
  by_cases c25 : ι n = ι 25
  · rw [if_pos c25]; exact s_1774 hi hL h go
  rw [if_neg c25]
  by_cases c26 : ι n = ι 26
  · rw [if_pos c26]; exact s_1842 hi hL h go
  rw [if_neg c26]
  by_cases c27 : ι n = ι 27
  · rw [if_pos c27]; exact s_1910 hi hL h go
  rw [if_neg c27]
  by_cases c28 : ι n = ι 28
  · rw [if_pos c28]; exact s_1966 hi hL h go
  rw [if_neg c28]
  by_cases c29 : ι n = ι 29
  · rw [if_pos c29]; exact s_2046 hi hL h go
  rw [if_neg c29]
  by_cases c30 : ι n = ι 30
  · rw [if_pos c30]; exact s_2102 hi hL h go
  rw [if_neg c30]
  by_cases c31 : ι n = ι 31
  · rw [if_pos c31]; exact s_2158 h go
  rw [if_neg c31]
  by_cases c32 : ι n = ι 32
  · rw [if_pos c32]; exact s_2169 hi hL h go
  rw [if_neg c32]
  by_cases c33 : ι n = ι 33
  · rw [if_pos c33]; exact s_2249 hi hL h go
  rw [if_neg c33]
  by_cases c34 : ι n = ι 34
  · rw [if_pos c34]; exact s_2329 hi hL h go
  rw [if_neg c34]
  by_cases c35 : ι n = ι 35
  · rw [if_pos c35]; exact s_2409 h go
  rw [if_neg c35]
  by_cases c36 : ι n = ι 36
  · rw [if_pos c36]; exact s_2420 h go
  rw [if_neg c36]
  rw [gd_pos (Or.inr (op_gt n hn (fun k hk g => by
    have : k = 0 ∨ k = 1 ∨ k = 2 ∨ k = 3 ∨ k = 4 ∨ k = 5 ∨ k = 6 ∨ k = 7 ∨ k = 8 ∨ k = 9 ∨ k = 10 ∨ k = 11 ∨ k = 12 ∨ k = 13 ∨ k = 14 ∨ k = 15 ∨ k = 16 ∨ k = 17 ∨ k = 18 ∨ k = 19 ∨ k = 20 ∨ k = 21 ∨ k = 22 ∨ k = 23 ∨ k = 24 ∨ k = 25 ∨ k = 26 ∨ k = 27 ∨ k = 28 ∨ k = 29 ∨ k = 30 ∨ k = 31 ∨ k = 32 ∨ k = 33 ∨ k = 34 ∨ k = 35 ∨ k = 36 := by omega
    rcases this with rfl | rfl | rfl | rfl | rfl | rfl | rfl | rfl | rfl | rfl | rfl | rfl | rfl | rfl | rfl | rfl | rfl | rfl | rfl | rfl | rfl | rfl | rfl | rfl | rfl | rfl | rfl | rfl | rfl | rfl | rfl | rfl | rfl | rfl | rfl | rfl | rfl <;> contradiction)))]
  obtain ⟨o, h1, h2, h3, h4, h5, h6, h7⟩ := h
  exact go σ ⟨o, h1, h2, h3, h4, h5, by omega, by omega⟩ _ _
theorem law_lp (hL : L ≤ 3072) : ∀ m i v5 v6 σ, L < 6 * i + 6 + 6 * m → i ≤ 512 → LI K0 S0 L xs i σ → Wp (C_353_23 (ι (6 * i)) v5 v6 σ) (fun z => ∃ τ, z = (1, .int (ι 1), τ) ∧ pcl τ ≤ K0 + 520 ∧ psl τ ≤ S0 + 3120) := by
  have fin : ∀ i v5 v6 σ, L < 6 * i + 6 → i ≤ 512 → LI K0 S0 L xs i σ → Wp (C_353_23 (ι (6 * i)) v5 v6 σ) (fun z => ∃ τ, z = (1, .int (ι 1), τ) ∧ pcl τ ≤ K0 + 520 ∧ psl τ ≤ S0 + 3120) := by
    intro i v5 v6 σ hi hb h
    refine Wp.le (T_353_23 rfl h.lay) ?_
    simp only [h.ps]
    rw [if_pos (by rw [lim_eq hL (by omega)]; exact hi)]
    obtain ⟨o, h1, h2, h3, h4, h5, h6, h7⟩ := h
    exact .ret ⟨σ, rfl, by omega, by omega⟩
  intro m
  induction m with
  | zero => intro i v5 v6 σ hi hb h; exact fin i v5 v6 σ (by omega) hb h
  | succ m ih =>
    intro i v5 v6 σ hi hb h
    by_cases e : L < 6 * i + 6
    · exact fin i v5 v6 σ e hb h
    · refine law_op (by omega) hL h fun τ ht v5 v6 => lp2433 ht.lay (fun v5 v6 => ?_) v5 v6
      have := ih (i + 1) v5 v6 τ (by omega) (by omega) ht
      rw [ι_add]; exact this
end LOOP2
