/-! ===== a day of both ===== -/
section DAY2
variable {P T : Nat} {W R : Rl} {A B : Wd} {σ τ υ : pS} {w q t o r : Nat}
def tkc (n : Nat) (g : Nat → Int32) : Nat := fd (fun j s => s + if g j = ι 1 then 1 else 0) n 0
theorem tkc_le (n : Nat) (g : Nat → Int32) : tkc n g ≤ n := by
  induction n with
  | zero => exact Nat.le_refl 0
  | succ n ih =>
    show tkc n g + (if g n = ι 1 then 1 else 0) ≤ n + 1
    split <;> omega
theorem tkc_0 (n : Nat) : tkc n (fun _ => ι 0) = 0 := by
  induction n with
  | zero => rfl
  | succ n ih =>
    show tkc n (fun _ => ι 0) + (if ι 0 = ι 1 then 1 else 0) = 0
    rw [ih, if_neg (by decide)]
theorem tkc_st {n k : Nat} (g : Nat → Int32) (x : Int32) (h : n ≤ k) : tkc n (st1 g k x) = tkc n g := by
  refine fd_congr (fun j a hj => ?_) 0
  show a + (if (if j = k then x else g j) = ι 1 then 1 else 0) = _
  rw [if_neg (show ¬ j = k by omega)]
theorem taks_s (n : Nat) (B : Wd) : takS P T W (n + 1) B = if (takeS P T W (takS P T W n B).1 n).1 = ν 1 then takS P T W n B else (up (up (takS P T W n B).1 1 n (takeS P T W (takS P T W n B).1 n).1) 2 n (ι 0), st1 (takS P T W n B).2 n (ι 1)) := rfl
theorem tkc_zero {n : Nat} (h : tkc n (takS P T W n B).2 = 0) : takS P T W n B = (B, fun _ => ι 0) ∧ ∀ t, t < n → (takeS P T W B t).1 = ν 1 := by
  induction n with
  | zero => exact ⟨rfl, fun t ht => absurd ht (Nat.not_lt_zero t)⟩
  | succ n ih =>
    rw [taks_s] at h ⊢
    by_cases e : (takeS P T W (takS P T W n B).1 n).1 = ν 1
    · rw [if_pos e] at h ⊢
      have h2 : tkc n (takS P T W n B).2 = 0 := by
        have : tkc n (takS P T W n B).2 + (if (takS P T W n B).2 n = ι 1 then 1 else 0) = 0 := h
        omega
      obtain ⟨a, b⟩ := ih h2
      rw [a] at e
      refine ⟨a, fun t ht => ?_⟩
      by_cases e2 : t = n
      · rw [e2]; exact e
      · exact b t (by omega)
    · rw [if_neg e] at h
      exfalso
      have : tkc n (st1 (takS P T W n B).2 n (ι 1)) + (if st1 (takS P T W n B).2 n (ι 1) n = ι 1 then 1 else 0) = 0 := h
      have e9 : st1 (takS P T W n B).2 n (ι 1) n = ι 1 := if_pos rfl
      rw [if_pos e9] at this
      omega
theorem p26 (hq : isP q) (hL : LayR (gR σ)) : pcall 26 [.ref q] σ = some (1, .int (bz (tb (gI σ (q + 5) 3) 1 || tb (gI σ (q + 8) 3) 1)), σ) := by
  refine (M_26 hq rfl hL).eq ?_
  rw [p16 (isU_p5 hq) hL (by omega), bI_ret]
  by_cases e : tb (gI σ (q + 5) 3) 1 = true
  · rw [e, bz_t, if_pos (by decide)]; rfl
  · have e' : tb (gI σ (q + 5) 3) 1 = false := by simpa using e
    rw [e', bz_f, if_neg (fun g => g rfl), p16 (isU_p8 hq) hL (by omega), bI_ret]
    by_cases e2 : tb (gI σ (q + 8) 3) 1 = true
    · rw [e2, bz_t, if_neg (by decide)]; rfl
    · have e2' : tb (gI σ (q + 8) 3) 1 = false := by simpa using e2
      rw [e2', bz_f, if_pos rfl]; rfl
theorem CW.day' (h : CW P T W R A σ w q) {x : Int32} : CW P T W R (up A 0 0 x) (sI σ w 3 x) w q := by
  refine h.mk' h.1.up00 (Fr.refl.mI Wc.w0) (fun _ => rfl) (fun _ => rfl) ?_ ?_ ?_ ?_ ?_ ?_ ?_ ?_
  · simp [gI_sI]
  · simp [gI_sI]
  · simp [gI_sI, up]
  · simp [gI_sI, up, h.sil]
  · intro t ht; simp [gI_sI, up, h.own ht]
  · intro t ht; simp [gI_sI, up, h.run ht]
  · intro t ht; simp [gI_sI, up, h.see ht]
  · intro p hp t ht; simp [gI_sI, up, h.wor hp ht]
theorem CW.sil' (h : CW P T W R A σ w q) {m : Nat} (hm : m < 256) : CW P T W R (up A 0 1 (ι m)) (sI σ w 10 (ι m)) w q := by
  refine h.mk' (h.1.up01 hm) (Fr.refl.mI Wc.w0) (fun _ => rfl) (fun _ => rfl) ?_ ?_ ?_ ?_ ?_ ?_ ?_ ?_
  · simp [gI_sI]
  · simp [gI_sI]
  · simp [gI_sI, up, h.day]
  · simp [gI_sI, up]
  · intro t ht; simp [gI_sI, up, h.own ht]
  · intro t ht; simp [gI_sI, up, h.run ht]
  · intro t ht; simp [gI_sI, up, h.see ht]
  · intro p hp t ht; simp [gI_sI, up, h.wor hp ht]
/-- a field that the world doesn't tell -/
theorem CW.any (h : CW P T W R A σ w q) {i : Nat} {x : Int32} (h1 : i ≠ 1) (h2 : i ≠ 2) (h3 : i ≠ 3) (h10 : i ≠ 10) : CW P T W R A (sI σ w i x) w q := by
  refine h.mk' h.1 (Fr.refl.mI Wc.w0) (fun _ => rfl) (fun _ => rfl) ?_ ?_ ?_ ?_ ?_ ?_ ?_ ?_
  · simp [gI_sI, h1.symm]
  · simp [gI_sI, h2.symm]
  · simp [gI_sI, h3.symm, h.day]
  · simp [gI_sI, h10.symm, h.sil]
  · intro t ht; simp [gI_sI, h.own ht]
  · intro t ht; simp [gI_sI, h.run ht]
  · intro t ht; simp [gI_sI, h.see ht]
  · intro p hp t ht; simp [gI_sI, h.wor hp ht]
theorem CW.tak (h : CW P T W R A σ w q) {i : Nat} {x : Int32} : CW P T W R A (sI σ (w + 5) i x) w q := by
  refine h.mk' h.1 (Fr.refl.mI (Wc.ww (by omega))) (fun _ => rfl) (fun _ => rfl) ?_ ?_ ?_ ?_ ?_ ?_ ?_ ?_
  · simp [gI_sI]
  · simp [gI_sI]
  · simp [gI_sI, h.day]
  · simp [gI_sI, h.sil]
  · intro t ht; simp [gI_sI, h.own ht]
  · intro t ht; simp [gI_sI, h.run ht]
  · intro t ht; simp [gI_sI, h.see ht]
  · intro p hp t ht; simp [gI_sI, h.wor hp ht]
theorem CW.own' (h : CW P T W R A σ w q) (ho : o < P) : CW P T W R (up A 1 t (ι o)) (sI σ (w + 1) t (ι o)) w q := by
  refine h.mk' (h.1.up1 ho) (Fr.refl.mI (Wc.ww (by omega))) (fun _ => rfl) (fun _ => rfl) ?_ ?_ ?_ ?_ ?_ ?_ ?_ ?_
  · simp [gI_sI]
  · simp [gI_sI]
  · simp [gI_sI, up, h.day]
  · simp [gI_sI, up, h.sil]
  · intro s hs; by_cases e : s = t <;> simp [gI_sI, up, h.own hs, e]
  · intro t ht; simp [gI_sI, up, h.run ht]
  · intro t ht; simp [gI_sI, up, h.see ht]
  · intro p hp t ht; simp [gI_sI, up, h.wor hp ht]
theorem CW.run' (h : CW P T W R A σ w q) (hr : r ≤ 9) : CW P T W R (up A 2 t (ι r)) (sI σ (w + 2) t (ι r)) w q := by
  refine h.mk' (h.1.up2 hr) (Fr.refl.mI (Wc.ww (by omega))) (fun _ => rfl) (fun _ => rfl) ?_ ?_ ?_ ?_ ?_ ?_ ?_ ?_
  · simp [gI_sI]
  · simp [gI_sI]
  · simp [gI_sI, up, h.day]
  · simp [gI_sI, up, h.sil]
  · intro t ht; simp [gI_sI, up, h.own ht]
  · intro s hs; by_cases e : s = t <;> simp [gI_sI, up, h.run hs, e]
  · intro t ht; simp [gI_sI, up, h.see ht]
  · intro p hp t ht; simp [gI_sI, up, h.wor hp ht]
theorem Fr.sc {S : Nat → Prop} (h : Fr Sc σ τ) (hs : ∀ a, Sc a → S a) : Fr S σ τ := h.mono hs
/-- what c71 says -/
def dayR (P T : Nat) (W R : Rl) (B : Wd) (σ : pS) (w q : Nat) (τ : pS) : Prop := CW P T W R (dayS P T W R B).1 τ w q ∧ STL P T W R (dayS P T W R B).1 τ w ∧ Fr (Wc w) σ τ ∧ ∀ j, j < T → gI τ (w + 5) j = gI σ (w + 5) j + (dayS P T W R B).2 j
theorem imin_more {a m : Nat} (ha : a < 9) (hm : m ≤ 3) : ι a + imin (ι m) (ι (9 - a)) = ι (if a + m ≤ 9 then a + m else 9) ∧ ∃ k, k ≤ 3 ∧ imin (ι m) (ι (9 - a)) = ι k ∧ (k = 0 → m = 0) := by
  have : ∀ a, a < 9 → ∀ m, m ≤ 3 → ι a + imin (ι m) (ι (9 - a)) = ι (if a + m ≤ 9 then a + m else 9) ∧ ∃ k, k ≤ 3 ∧ imin (ι m) (ι (9 - a)) = ι k ∧ (k = 0 → m = 0) := by
    intro a ha m hm
    have h1 : ∀ a, a < 9 → ∀ m, m ≤ 3 → ι a + imin (ι m) (ι (9 - a)) = ι (if a + m ≤ 9 then a + m else 9) := by decide
    have h2 : ∀ a, a < 9 → ∀ m, m ≤ 3 → imin (ι m) (ι (9 - a)) = ι (if m ≤ 9 - a then m else 9 - a) := by decide
    refine ⟨h1 a ha m hm, if m ≤ 9 - a then m else 9 - a, ?_, h2 a ha m hm, ?_⟩
    · split <;> omega
    · split <;> omega
  exact this a ha m hm
set_option maxHeartbeats 4000000 in
theorem c71 (h : CW P T W R A σ w q) (hS : STL P T W R A σ w) (h0 : A 0 1 = ι 0) {m : Nat} (hm : m < 256) : Wp (pcall 71 [.ref w, .int (ι m)] σ) (RI (ι (tkc T (dayS P T W R (up A 0 1 (ι m))).2)) (dayR P T W R (up A 0 1 (ι m)) σ w q)) := by
  have hT := h.1.T
  refine Wp.le (M_71 h.isw rfl h.lay) ?_
  generalize hB : up A 0 1 (ι m) = B
  have fw : ∀ {a b : pS}, Fr Sc a b → Fr (Wc w) a b := fun f => f.mono (fun _ s => Or.inl s)
  -- phase 2
  have ph2 : ∀ τ v5 v6, CW P T W R (takS P T W T B).1 τ w q → Fr (Wc w) σ τ → (∀ j, j < T → gI τ (w + 5) j = gI σ (w + 5) j + (takS P T W T B).2 j) → Wp (C_71_109 w (ι m) (ι (tkc T (takS P T W T B).2)) (ι 0) (ι 0) v5 v6 τ) (RI (ι (tkc T (dayS P T W R B).2)) (dayR P T W R B σ w q)) := by
    intro τ0 v5 v6 g0 fr0 tk0
    have hc := tkc_le T (takS P T W T B).2
    refine Wp.loop (α := Nat × Value × Value × pS) T (fun t x => C_71_109 w (ι m) (ι (tkc T (takS P T W T B).2)) (ι x.1) (ι t) x.2.1 x.2.2.1 x.2.2.2)
      (fun t x => x.1 ≤ 3 * t ∧ CW P T W R (wrnS P T W R t (takS P T W T B).1) x.2.2.2 w q ∧ Fr (Wc w) σ x.2.2.2 ∧ (∀ j, j < T → gI x.2.2.2 (w + 5) j = gI σ (w + 5) j + (takS P T W T B).2 j) ∧ (x.1 = 0 → ∀ j, j < t → imin (ι 9) ((takS P T W T B).1 2 j + wearS P T W R (takS P T W T B).1 j) = (takS P T W T B).1 2 j))
      ?_ ?_ (t := 0) (a := (0, v5, v6, τ0)) (Nat.zero_le _) ⟨Nat.le_refl _, g0, fr0, tk0, fun _ j hj => absurd hj (Nat.not_lt_zero j)⟩
    · rintro t ⟨n, v5, v6, τ⟩ ht ⟨hn, g, fr, tk, st⟩ k
      dsimp only at hn g fr tk st k ⊢
      refine Wp.le (T_71_109 h.isw rfl g.lay) ?_
      obtain ⟨a, ha, e1⟩ := g.1.run ht
      obtain ⟨d, hd, e2⟩ := wear_le (W := W) (R := R) g.1 ht
      rw [g.T, c76 g ht, e1]
      simp (disch := omega) only [ι_lt_t, ι_lt_f, ι_le_t, ι_le_f, ι_eq_f, ι_m1, ι_add, ι_mul, ι_pm, ι_sub, ix_ι, gd_inb, gd_t, eq_self, if_true, if_false, not_true_eq_false, not_false_eq_true, ite_self, bI_ret, bJ_ret, bA_ret, bV_ret, bI_thr, bV_thr, bA_thr, ]
      have enx : wrnS P T W R (t + 1) (takS P T W T B).1 = up (wrnS P T W R t (takS P T W T B).1) 2 t (ι (if a + d ≤ 9 then a + d else 9)) := by
        rw [wrns_s, e1, e2, wrn_one ha hd]
      have stl : n = 0 → imin (ι 9) (ι a + ι d) = ι a → ∀ j, j < t + 1 → imin (ι 9) ((takS P T W T B).1 2 j + wearS P T W R (takS P T W T B).1 j) = (takS P T W T B).1 2 j := by
        intro h1 h2 j hj
        by_cases e : j = t
        · subst e
          have h3 := wrns_still (st h1)
          rw [h3] at e1 e2
          rw [e1, e2, h2]
        · exact st h1 j (by omega)
      by_cases h9 : a = 9
      · subst h9
        simp (disch := omega) only [ι_lt_t, ι_lt_f, ι_le_t, ι_le_f, ι_eq_f, ι_m1, ι_add, ι_mul, ι_pm, ι_sub, ix_ι, gd_inb, gd_t, eq_self, if_true, if_false, not_true_eq_false, not_false_eq_true, ite_self, Nat.add_zero]
        rw [p81 h.isw g.lay (by omega), bV_ret]
        refine k (n, .int (ι 9), .int (ι 0), sI (sI τ (w + 2) t (ι 9)) w 11 (ι 0)) ⟨by dsimp only; omega, ?_, (fr.mI (Wc.ww (by omega))).mI Wc.w0, ?_, ?_⟩
        · rw [enx]
          have e9 : (if 9 + d ≤ 9 then 9 + d else 9) = 9 := by split <;> omega
          rw [e9]
          exact (g.run' (by omega)).any (by omega) (by omega) (by omega) (by omega)
        · intro j hj
          simp only [gI_sI, if_neg (show ¬ w + 5 = w by omega), if_neg (show ¬ w + 5 = w + 2 by omega)]
          exact tk j hj
        · intro h1
          refine stl h1 ?_
          rw [wrn_one (by omega) hd]; congr 1; split <;> omega
      · obtain ⟨i1, k3, hk3, i2, i3⟩ := imin_more (show a < 9 by omega) hd
        simp (disch := omega) only [ι_lt_t, ι_lt_f, ι_le_t, ι_le_f, ι_eq_f, ι_m1, ι_add, ι_mul, ι_pm, ι_sub, ix_ι, gd_inb, gd_t, eq_self, if_true, if_false, not_true_eq_false, not_false_eq_true, ite_self, ]
        refine Wp.cI (c82 g ht) fun τ1 f1 => ?_
        have g1 := g.sc f1
        rw [e2, i1, i2, p81 h.isw g1.lay (by omega), bV_ret, ι_add]
        refine k (n + k3, .int (ι a), .int (ι k3), sI (sI τ1 (w + 2) t (ι (if a + d ≤ 9 then a + d else 9))) w 11 (ι 0)) ⟨by dsimp only; omega, ?_, ((fr.trans (fw f1)).mI (Wc.ww (by omega))).mI Wc.w0, ?_, ?_⟩
        · rw [enx]
          exact (g1.run' (by split <;> omega)).any (by omega) (by omega) (by omega) (by omega)
        · intro j hj
          simp only [gI_sI, if_neg (show ¬ w + 5 = w by omega), if_neg (show ¬ w + 5 = w + 2 by omega)]
          rw [f1.i (Sc.w h.isw (by omega))]
          exact tk j hj
        · intro h1
          have h1' : n + k3 = 0 := h1
          refine stl (by omega) ?_
          have hd0 : d = 0 := i3 (by omega)
          rw [wrn_one (by omega) hd]; congr 1; split <;> omega
    · rintro ⟨n, v5, v6, τ⟩ ⟨hn, g, fr, tk, st⟩
      dsimp only at hn g fr tk st ⊢
      refine Wp.le (T_71_109 h.isw rfl g.lay) ?_
      rw [g.T]
      simp (disch := omega) only [ι_lt_t, ι_lt_f, ι_le_t, ι_le_f, ι_eq_f, ι_m1, ι_add, ι_mul, ι_pm, ι_sub, ix_ι, gd_inb, gd_t, eq_self, if_true, if_false, not_true_eq_false, not_false_eq_true, ite_self, ]
      have hday : dayS P T W R B = (up (up (wrnS P T W R T (takS P T W T B).1) 0 1 (ι 0)) 0 0 (wrnS P T W R T (takS P T W T B).1 0 0 + ι 1), (takS P T W T B).2) := rfl
      have gen : ∀ s, (s = ι 0 ∨ s = ι 1 ∧ m = 0 ∧ tkc T (takS P T W T B).2 = 0 ∧ n = 0) → Wp (some (1, Value.int (ι (tkc T (takS P T W T B).2)), sI (sI (sI τ w 10 (ι 0)) w 11 s) w 3 (gI (sI (sI τ w 10 (ι 0)) w 11 s) w 3 + ι 1))) (RI (ι (tkc T (dayS P T W R B).2)) (dayR P T W R B σ w q)) := by
        intro s hs
        rw [hday]
        refine Wp.retI ?_
        have e3 : gI (sI (sI τ w 10 (ι 0)) w 11 s) w 3 = wrnS P T W R T (takS P T W T B).1 0 0 := by simp [gI_sI, g.day]
        rw [e3]
        refine ⟨?_, ?_, ((fr.mI Wc.w0).mI Wc.w0).mI Wc.w0, ?_⟩
        · rw [hday]
          exact ((g.sil' (m := 0) (by omega)).any (by omega) (by omega) (by omega) (by omega)).day'
        · rw [hday]
          rcases hs with rfl | ⟨rfl, hm0, hc0, hn0⟩
          · left; simp [gI_sI]
          · right
            refine ⟨by simp [gI_sI], fun hu hv => ?_⟩
            have hBA : B = A := by rw [← hB, hm0]; exact up_eq h0
            obtain ⟨z1, z2⟩ := tkc_zero hc0
            have z3 := st hn0
            rw [z1] at z3
            dsimp only at z3
            rw [z1]
            dsimp only
            rw [wrns_still z3, hBA, up_eq h0]
            rw [hBA] at z2 z3
            exact still_day h.wr.1 h.rr.1 hu hv ⟨h0, z2, z3⟩
        · intro j hj
          rw [hday]
          simp only [gI_sI, if_neg (show ¬ w + 5 = w by omega)]
          exact tk j hj
      by_cases hm0 : m = 0
      · rw [if_neg (by rw [hm0]; exact fun g => g rfl)]
        by_cases hc0 : tkc T (takS P T W T B).2 = 0
        · rw [if_neg (by rw [hc0]; exact fun g => g rfl)]
          by_cases hn0 : n = 0
          · rw [if_neg (by rw [hn0]; exact fun g => g rfl)]
            exact gen _ (Or.inr ⟨rfl, hm0, hc0, hn0⟩)
          · rw [if_pos (by rw [ι_eq (by omega) (by omega)]; exact hn0)]
            exact gen _ (Or.inl rfl)
        · rw [if_pos (by rw [ι_eq (by omega) (by omega)]; exact hc0)]
          exact gen _ (Or.inl rfl)
      · rw [if_pos (by rw [ι_eq (by omega) (by omega)]; exact hm0)]
        exact gen _ (Or.inl rfl)
  -- phase 1
  have ph1 : Wp (C_71_42 w (ι m) (ι 0) (ι 0) (.retAddr 0) (.retAddr 0) (.retAddr 0) (sI σ w 10 (ι m))) (RI (ι (tkc T (dayS P T W R B).2)) (dayR P T W R B σ w q)) := by
    have g0 := h.sil' hm
    rw [hB] at g0
    refine Wp.loop (α := Nat × Value × pS) T (fun t x => C_71_42 w (ι m) (ι x.1) (ι t) x.2.1 (.retAddr 0) (.retAddr 0) x.2.2)
      (fun t x => x.1 = tkc t (takS P T W t B).2 ∧ CW P T W R (takS P T W t B).1 x.2.2 w q ∧ Fr (Wc w) σ x.2.2 ∧ (∀ j, j < T → gI x.2.2 (w + 5) j = gI σ (w + 5) j + (takS P T W t B).2 j))
      ?_ ?_ (t := 0) (a := (0, .retAddr 0, sI σ w 10 (ι m))) (Nat.zero_le _) ⟨rfl, g0, Fr.refl.mI Wc.w0, fun j hj => ?_⟩
    · rintro t ⟨n, v4, τ⟩ ht ⟨hn, g, fr, tk⟩ k
      dsimp only at hn g fr tk k ⊢
      have hP := g.1.P
      refine Wp.le (T_71_42 h.isw rfl g.lay) ?_
      rw [g.T]
      simp (disch := omega) only [ι_lt_t, ι_lt_f, ι_le_t, ι_le_f, ι_eq_f, ι_m1, ι_add, ι_mul, ι_pm, ι_sub, ix_ι, gd_inb, gd_t, eq_self, if_true, if_false, not_true_eq_false, not_false_eq_true, ite_self, ]
      refine Wp.cI (c72 g ht) fun τ1 f1 => ?_
      have g1 := g.sc f1
      have tk1 : ∀ j, j < T → gI τ1 (w + 5) j = gI σ (w + 5) j + (takS P T W t B).2 j := fun j hj => by rw [f1.i (Sc.w h.isw (by omega))]; exact tk j hj
      have hs := taks_s (P := P) (T := T) (W := W) t B
      by_cases e : (takeS P T W (takS P T W t B).1 t).1 = ν 1
      · rw [if_pos e]
        rw [if_pos e] at hs
        refine k (n, _, τ1) ⟨?_, ?_, fr.trans (fw f1), ?_⟩
        · rw [hs]
          show n = tkc t (takS P T W t B).2 + (if (takS P T W t B).2 t = ι 1 then 1 else 0)
          have z := (taks_len (W := W) (by rw [← hB]; exact h.1.up01 hm : okW P T B) (show t ≤ T by omega)).2.2 t (Nat.le_refl t)
          rw [z, if_neg (by decide)]; exact hn
        · rw [hs]; exact g1
        · rw [hs]; exact tk1
      · rw [if_neg e]
        rw [if_neg e] at hs
        rcases take_inv (A := (takS P T W t B).1) (T := T) (W := W) (t := t) (n := P) (by omega) with h2 | ⟨p, hp, h2⟩
        · exact absurd (congrArg Prod.fst h2) e
        · have h3 : (takeS P T W (takS P T W t B).1 t).1 = ι p := congrArg Prod.fst h2
          rw [h3] at hs ⊢
          rw [p80 h.isw g1.lay (by omega), bV_ret, p81 h.isw (by exact g1.lay) (by omega), bV_ret]
          have n1 : ¬ w + 5 = w := by omega
          have n2 : ¬ w + 5 = w + 1 := by omega
          have n3 : ¬ w + 5 = w + 2 := by omega
          generalize hσ3 : sI (sI (sI (sI τ1 (w + 1) t (ι p)) w 11 (ι 0)) (w + 2) t (ι 0)) w 11 (ι 0) = σ3
          have g3 : CW P T W R (up (up (takS P T W t B).1 1 t (ι p)) 2 t (ι 0)) σ3 w q := by
            rw [← hσ3]
            exact ((((g1.own' hp).any (by omega) (by omega) (by omega) (by omega)).run' (r := 0) (by omega)).any (by omega) (by omega) (by omega) (by omega))
          have f3 : Fr (Wc w) σ σ3 := by
            rw [← hσ3]
            exact ((((fr.trans (fw f1)).mI (Wc.ww (by omega))).mI Wc.w0).mI (Wc.ww (by omega))).mI Wc.w0
          have t3 : ∀ j, gI σ3 (w + 5) j = gI τ1 (w + 5) j := by
            intro j
            rw [← hσ3]
            simp only [gI_sI, if_neg n1, if_neg n2, if_neg n3]
          refine k (n + 1, .int (ι p), sI σ3 (w + 5) t (gI σ3 (w + 5) t + ι 1)) ⟨?_, ?_, f3.mI (Wc.ww (by omega)), ?_⟩
          · rw [hs]
            show n + 1 = tkc t (st1 (takS P T W t B).2 t (ι 1)) + (if st1 (takS P T W t B).2 t (ι 1) t = ι 1 then 1 else 0)
            rw [tkc_st _ _ (Nat.le_refl t), if_pos (show st1 _ t (ι 1) t = ι 1 from if_pos rfl), ← hn]
          · rw [hs]
            exact g3.tak
          · intro j hj
            rw [hs]
            rw [gI_sI, if_pos rfl]
            show _ = _ + (if j = t then ι 1 else _)
            by_cases ej : j = t
            · subst ej
              have z := (taks_len (W := W) (by rw [← hB]; exact h.1.up01 hm : okW P T B) (show j ≤ T by omega)).2.2 j (Nat.le_refl j)
              rw [if_pos rfl, if_pos rfl, t3, tk1 j hj, z]
              rw [show (ι 0 : Int32) = 0 from rfl, Int32.add_zero]
            · rw [if_neg ej, if_neg ej, t3]; exact tk1 j hj
    · rintro ⟨n, v4, τ⟩ ⟨hn, g, fr, tk⟩
      dsimp only at hn g fr tk ⊢
      refine Wp.le (T_71_42 h.isw rfl g.lay) ?_
      rw [g.T]
      simp (disch := omega) only [ι_lt_t, ι_lt_f, ι_le_t, ι_le_f, ι_eq_f, ι_m1, ι_add, ι_mul, ι_pm, ι_sub, ix_ι, gd_inb, gd_t, eq_self, if_true, if_false, not_true_eq_false, not_false_eq_true, ite_self, ]
      rw [hn]
      exact ph2 τ _ _ g fr tk
    · dsimp only
      simp only [gI_sI]
      rw [if_neg (show ¬ w + 5 = w by omega)]
      show _ = _ + ι 0
      rw [show (ι 0 : Int32) = 0 from rfl, Int32.add_zero]
  rcases hS with e | ⟨e, hst⟩
  · rw [e, if_pos rfl]; exact ph1
  · rw [e, if_neg (by decide)]
    by_cases hm0 : m = 0
    · subst hm0
      rw [if_neg (fun g => g rfl), bG_some h.told h.isp, p26 h.isp h.lay, bI_ret]
      by_cases hd : (tb (gI σ (q + 5) 3) 1 || tb (gI σ (q + 8) 3) 1) = true
      · rw [hd, bz_t, if_pos (by decide)]; exact ph1
      · have hd' : (tb (gI σ (q + 5) 3) 1 || tb (gI σ (q + 8) 3) 1) = false := by simpa using hd
        rw [hd', bz_f, if_neg (fun g => g rfl)]
        have hBA : B = A := by rw [← hB]; exact up_eq h0
        simp only [Bool.or_eq_false_iff] at hd'
        have hu : ¬ usesD W := fun g => by have := (h.wr.2.2.2.2 1 (by omega)).mpr g; rw [hd'.1] at this; cases this
        have hv : ¬ usesD R := fun g => by have := (h.rr.2.2.2.2 1 (by omega)).mpr g; rw [hd'.2] at this; cases this
        have hs := hst hu hv
        have hday := day_still hs
        rw [hBA, h.day]
        refine Wp.retI' ?_ ⟨?_, ?_, Fr.refl.mI Wc.w0, ?_⟩
        · rw [hday, tkc_0]
        · rw [hday]; exact h.day'
        · right
          rw [hday]
          exact ⟨by simp [gI_sI, e], fun _ _ => still_day h.wr.1 h.rr.1 hu hv hs⟩
        · intro j hj
          rw [hday]
          simp only [gI_sI]
          rw [if_neg (show ¬ w + 5 = w by omega)]
          rw [show (ι 0 : Int32) = 0 from rfl, Int32.add_zero]
    · rw [if_pos (by rw [ι_eq (by omega) (by omega)]; exact hm0)]
      exact ph1
end DAY2
