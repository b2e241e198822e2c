/-! ===== the reference: rules, who wants what ===== -/
section MODEL2
variable {P T : Nat} {W R : Rl} {A : Wd} {σ τ : pS} {p t a0 : Nat}
set_option maxHeartbeats 2000000 in
theorem m248 {ok : Nat → Bool} {V : Rl} {tf : Int32 → Int32} {fm : Nat → Nat} {f : Nat → Int32} (hL : LayR (gR σ)) (ha : kd a0 = (100, 1400)) (hn : a0 ≠ 81) (hw : wfr ok V) (hW : 0 < V.1) (hst : ∀ i, i < V.1 → gI σ a0 i = tf (V.2 i))
    (t1 : ∀ n, n < 10000 → tf (ι n) = ι n) (t2 : ∀ k, k < 8 → ok k = true → tf (ν 1 - ι k) = ν 1 - ι (fm k) ∧ fm k < 6) (t3 : ∀ k, k < 9 → tf (ν 20 - ι k) = trS (ν 20 - ι k)) (hf : ∀ k, k < 8 → ok k = true → f k = gI σ 80 (fm k)) :
    Wp (pcall 248 [.ref 61, .ref a0, .int (ι V.1)] σ) (RI (valS V f) (Fr (fun a => a = 81) σ)) := by
  have h700 := hw.1
  refine Wp.le (M_248 ha rfl hL) ?_
  have u80 : ¬ 80 = 81 := by omega
  refine Wp.loop (α := Value × pS) (Q := RI (valS V f) (Fr (fun a => a = 81) σ)) V.1 (fun t x => C_248_5 a0 1400 (ι V.1) (ι (dpt V.2 t)) (ι t) x.1 x.2) (fun t x => Fr (fun a => a = 81) σ x.2 ∧ onS x.2 81 (rrun V.2 f t)) ?_ ?_ (t := 0) (a := (.retAddr 0, σ)) (Nat.zero_le _) ⟨Fr.refl, fun j hj => absurd hj (Nat.not_lt_zero j)⟩
  · rintro t ⟨v5, τ⟩ ht ⟨hfr, ho⟩ k
    have hL' : LayR (gR τ) := by rw [hfr.r]; exact hL
    have e2 : gI τ a0 t = tf (V.2 t) := by rw [hfr.i hn]; exact hst t ht
    refine Wp.le (T_248_5 ha rfl hL') ?_
    have hdd : ∀ j, j < dpt V.2 t → gI τ 81 j = (rrun V.2 f t).2 j := fun j hj => ho j (by rw [rrun_1]; exact hj)
    rcases wf_at hw ht with ⟨n, hn1, e, hs, hd, hd1⟩ | ⟨n, hn1, hok, e, hs, hd, hd1⟩ | ⟨e, hs, hd, hd1⟩ | ⟨e, hs, hd, hd1⟩
    · obtain ⟨x1, x2, x3⟩ := num_m1 n hn1
      simp (disch := omega) only [ι_lt_t, ι_lt_f, ι_le_t, ι_le_f, ι_eq_f, ι_m1, ι_add, ι_mul, ι_pm, ι_sub, ix_ι, gd_inb, gd_t, eq_self, if_true, if_false, not_true_eq_false, not_false_eq_true, ite_self, e2, e, t1 n hn1, x3]
      have := k (.int (ι n), sI τ 81 (dpt V.2 t) (ι n)) ⟨hfr.mI rfl, onS_st ho (wpl_0 hs).symm (by rw [wvl_0 hs, e]; simp (disch := omega) only [ι_lt_t, ι_lt_f, ι_le_t, ι_le_f, ι_eq_f, ι_m1, ι_add, ι_mul, ι_pm, ι_sub, ix_ι, gd_inb, gd_t, eq_self, if_true, if_false, not_true_eq_false, not_false_eq_true, ite_self, ]) (by rw [wpl_0 hs, hd1]; intro j; omega)⟩
      simp only [hd1] at this
      exact this
    · obtain ⟨q1, q2⟩ := t2 n hn1 hok
      obtain ⟨x1, x2, x3, x4⟩ := fact_m1 n hn1
      obtain ⟨y1, y2, y3, y4⟩ := fact_m1 (fm n) (by omega)
      have e9 : gI τ 80 (fm n) = f n := by rw [hfr.i u80, hf n hn1 hok]
      simp (disch := omega) only [ι_lt_t, ι_lt_f, ι_le_t, ι_le_f, ι_eq_f, ι_m1, ι_add, ι_mul, ι_pm, ι_sub, ix_ι, gd_inb, gd_t, eq_self, if_true, if_false, not_true_eq_false, not_false_eq_true, ite_self, e2, e, q1, y4, y3, y1, e9]
      have := k (.int (ν 1 - ι (fm n)), sI τ 81 (dpt V.2 t) (f n)) ⟨hfr.mI rfl, onS_st ho (wpl_0 hs).symm (by rw [wvl_0 hs, e, if_pos x3, x1, ix_ι (by omega)]) (by rw [wpl_0 hs, hd1]; intro j; omega)⟩
      simp only [hd1] at this
      exact this
    · have hd64 : dpt V.2 t ≤ 64 := by rcases hw.2.2.2 t with h | h <;> omega
      have q1 : tf (V.2 t) = ν 28 := by rw [e]; exact (t3 2 (by omega)).trans (by decide)
      have x1 : (ν 28 ≤ ν 20) := by decide
      simp (disch := omega) only [ι_lt_t, ι_lt_f, ι_le_t, ι_le_f, ι_eq_f, ι_m1, ι_add, ι_mul, ι_pm, ι_sub, ix_ι, gd_inb, gd_t, eq_self, if_true, if_false, not_true_eq_false, not_false_eq_true, ite_self, e2, q1, x1]
      rw [hdd _ (by omega)]
      have h1 := onS_st (k := dpt V.2 t - 1) (x := if (rrun V.2 f t).2 (dpt V.2 t - 1) = ι 0 then ι 1 else ι 0) ho (wpl_1 hs).symm (wvl_1 hs).symm (by rw [wpl_1 hs, hd1]; intro j; omega)
      by_cases hz : (rrun V.2 f t).2 (dpt V.2 t - 1) = ι 0
      · rw [if_pos hz] at h1
        simp (disch := omega) only [ι_lt_t, ι_lt_f, ι_le_t, ι_le_f, ι_eq_f, ι_m1, ι_add, ι_mul, ι_pm, ι_sub, ix_ι, gd_inb, gd_t, eq_self, if_true, if_false, not_true_eq_false, not_false_eq_true, ite_self, hz]
        have := k (.int (ν 28), _) ⟨hfr.mI rfl, h1⟩
        simp only [hd1] at this
        exact this
      · rw [if_neg hz] at h1
        simp (disch := omega) only [ι_lt_t, ι_lt_f, ι_le_t, ι_le_f, ι_eq_f, ι_m1, ι_add, ι_mul, ι_pm, ι_sub, ix_ι, gd_inb, gd_t, eq_self, if_true, if_false, not_true_eq_false, not_false_eq_true, ite_self, hz]
        have := k (.int (ν 28), _) ⟨hfr.mI rfl, h1⟩
        simp only [hd1] at this
        exact this
    · have hd64 : dpt V.2 t ≤ 64 := by rcases hw.2.2.2 t with h | h <;> omega
      have q1 : tf (V.2 t) = trS (V.2 t) := by
        rcases e with e | e | e | e | e | e | e | e <;> rw [e]
        · exact t3 0 (by omega)
        · exact t3 1 (by omega)
        · exact t3 3 (by omega)
        · exact t3 4 (by omega)
        · exact t3 5 (by omega)
        · exact t3 6 (by omega)
        · exact t3 7 (by omega)
        · exact t3 8 (by omega)
      have x1 : (trS (V.2 t) ≤ ν 20) ∧ ¬ (trS (V.2 t) = ν 28) := by rcases e with e | e | e | e | e | e | e | e <;> rw [e] <;> decide
      have hsub : dpt V.2 t - 1 - 1 = dpt V.2 t - 2 := by omega
      simp (disch := omega) only [ι_lt_t, ι_lt_f, ι_le_t, ι_le_f, ι_eq_f, ι_m1, ι_add, ι_mul, ι_pm, ι_sub, ix_ι, gd_inb, gd_t, eq_self, if_true, if_false, not_true_eq_false, not_false_eq_true, ite_self, e2, q1, x1.1, x1.2, hsub]
      rw [hdd _ (by omega), hdd _ (by omega), p249 hL' e]
      simp (disch := omega) only [ι_lt_t, ι_lt_f, ι_le_t, ι_le_f, ι_eq_f, ι_m1, ι_add, ι_mul, ι_pm, ι_sub, ix_ι, gd_inb, gd_t, eq_self, if_true, if_false, not_true_eq_false, not_false_eq_true, ite_self, bI_ret, bJ_ret, bA_ret, bV_ret, bI_thr, bV_thr, bA_thr, hsub]
      have := k (.int (trS (V.2 t)), sI τ 81 (dpt V.2 t - 2) (joinS (V.2 t) ((rrun V.2 f t).2 (dpt V.2 t - 2)) ((rrun V.2 f t).2 (dpt V.2 t - 1)))) ⟨hfr.mI rfl, onS_st ho (wpl_2 hs).symm (wvl_2 hs).symm (by rw [wpl_2 hs, hd1]; intro j; omega)⟩
      simp only [hd1] at this
      exact this
  · rintro ⟨v5, τ⟩ ⟨hfr, ho⟩
    have hL' : LayR (gR τ) := by rw [hfr.r]; exact hL
    have hd1 := hw.2.2.1 hW
    refine Wp.le (T_248_5 ha rfl hL') ?_
    simp (disch := omega) only [ι_lt_t, ι_lt_f, ι_le_t, ι_le_f, ι_eq_f, ι_m1, ι_add, ι_mul, ι_pm, ι_sub, ix_ι, gd_inb, gd_t, eq_self, if_true, if_false, not_true_eq_false, not_false_eq_true, ite_self, ]
    refine Wp.retI' ?_ hfr
    exact ho 0 (by rw [rrun_1, hd1]; omega)
theorem trS_num (n : Nat) (h : n < 10000) : trS (ι n) = ι n ∧ trR (ι n) = ι n := by
  have h0 : ¬ ι n < ι 0 := by rw [ι_lt_f (by omega) (by omega)]; exact id
  have key : ∀ m : Int32, m < ι 0 → ¬ ι n = m := fun m hm e => h0 (e ▸ hm)
  have e1 : trS (ι n) = ι n := by
    unfold trS
    rw [if_neg (key _ (by decide)), if_neg (key _ (by decide)), if_neg (key _ (by decide)), if_neg (key _ (by decide)), if_neg (key _ (by decide)), if_neg (key _ (by decide)), if_neg (key _ (by decide)), if_neg (key _ (by decide)), if_neg (key _ (by decide))]
  refine ⟨e1, ?_⟩
  unfold trR
  rw [if_neg (key _ (by decide)), if_neg (key _ (by decide)), e1]
theorem trS_fact : ∀ k, k < 8 → okWf k = true → trS (ν 1 - ι k) = ν 1 - ι k ∧ k < 6 := by decide
theorem trR_fact : ∀ k, k < 8 → okRf k = true → trR (ν 1 - ι k) = ν 1 - ι (if k = 6 then 2 else if k = 7 then 3 else k) ∧ (if k = 6 then 2 else if k = 7 then 3 else k) < 6 := by decide
theorem trR_op : ∀ k, k < 9 → trR (ν 20 - ι k) = trS (ν 20 - ι k) := by decide
theorem how_pc (hT : T ≤ 12) (o : Int32) : ∃ m, m < 4096 ∧ thgS T A o = ι m ∧ ι (pc m) = howS T A o := by
  refine ⟨mk (fun t => decide (A 1 t = o)) T, ?_, ?_, ?_⟩
  · have := mk_lt (fun t => decide (A 1 t = o)) T
    have h2 : 2 ^ T ≤ 2 ^ 12 := Nat.pow_le_pow_right (by omega) hT
    omega
  · rw [← mk_or hT]
    unfold thgS
    simp only [decide_eq_true_eq]
  · rw [mk_pc hT]
    unfold howS
    simp only [decide_eq_true_eq]
set_option maxHeartbeats 2000000 in
theorem m243 (h : CM P T W R A σ) (hp : p < P) (ht : t < T) : Wp (pcall 243 [.ref 61, .int (ι p), .int (ι t)] σ) (RI (bz (wantsS T W A p t)) (Fr Sc σ)) := by
  have hT := h.ok.T
  have hP := h.ok.P
  obtain ⟨o, ho, e1⟩ := h.ok.own ht
  refine Wp.le (M_243 rfl h.lay) ?_
  unfold wantsS
  rw [e1, ix_ι (show o < 2147483648 by omega)]
  simp (disch := omega) only [ι_lt_t, ι_lt_f, ι_le_t, ι_le_f, ι_eq_f, ι_m1, ι_add, ι_mul, ι_pm, ι_sub, ix_ι, gd_inb, gd_t, eq_self, if_true, if_false, not_true_eq_false, not_false_eq_true, ite_self, h.own t ht, h.run t ht, e1]
  by_cases hpo : p = o
  · subst hpo
    rw [if_pos rfl, if_neg (by rw [h.ok.irr hp]; simp)]
    exact Wp.retI Fr.refl
  rw [if_neg (by rw [ι_eq (by omega) (by omega)]; exact hpo), h.see p hp, p236 h.lay (by omega), bI_ret, h.ok.sym hp ho]
  by_cases hs : tb (A 3 o) p = true
  rotate_left
  · have hs' : tb (A 3 o) p = false := by simpa using hs
    rw [hs', if_pos bz_f, if_neg (by simp)]
    exact Wp.retI Fr.refl
  rw [hs, bz_t, if_neg (by decide), h.sil, p236 h.lay (by omega), bI_ret]
  by_cases hq : tb (A 0 1) p = false
  rotate_left
  · have hq' : tb (A 0 1) p = true := by simpa using hq
    rw [hq', bz_t, if_neg (by decide), if_neg (by simp)]
    exact Wp.retI Fr.refl
  rw [hq, bz_f, if_pos rfl, if_pos (And.intro rfl rfl), h.w3]
  have hwl := h.ww.1
  by_cases hw : W.1 = 0
  · rw [if_pos hw, hw, if_neg (fun g => g rfl), m244 h hp ht, bI_ret]
    by_cases hl : lookS A p t < ι 5
    · rw [if_pos hl]; exact Wp.retI' (by simp [hl, bz]) Fr.refl
    · rw [if_neg hl]; exact Wp.retI' (by simp [hl, bz]) Fr.refl
  rw [if_neg hw, if_pos (by rw [ι_eq (by omega) (by omega)]; exact hw)]
  have s80 : Sc 80 := by unfold Sc; omega
  rw [h.run t ht]
  generalize hσ1 : sI (sI σ 80 0 (A 2 t)) 80 1 (gI (sI σ 80 0 (A 2 t)) 61 31) = σ1
  have f1 : Fr Sc σ σ1 := by rw [← hσ1]; exact (Fr.refl.mI s80).mI s80
  have h1 := h.sc f1
  have v0 : gI σ1 80 0 = A 2 t := by rw [← hσ1]; simp [gI_sI]
  have v1 : gI σ1 80 1 = A 0 0 := by rw [← hσ1]; simp [gI_sI, h.day]
  rw [m244 h1 hp ht, bI_ret]
  generalize hσ2 : sI (sI σ1 80 2 (lookS A p t)) 80 3 (gI (sI σ1 80 2 (lookS A p t)) 66 p) = σ2
  have f2 : Fr Sc σ σ2 := by rw [← hσ2]; exact (f1.mI s80).mI s80
  have h2 := h.sc f2
  have w0 : gI σ2 80 0 = A 2 t := by rw [← hσ2, gI_sI, if_pos rfl, if_neg (by decide), gI_sI, if_pos rfl, if_neg (by decide)]; exact v0
  have w1 : gI σ2 80 1 = A 0 0 := by rw [← hσ2, gI_sI, if_pos rfl, if_neg (by decide), gI_sI, if_pos rfl, if_neg (by decide)]; exact v1
  have w2 : gI σ2 80 2 = lookS A p t := by rw [← hσ2, gI_sI, if_pos rfl, if_neg (by decide), gI_sI, if_pos rfl, if_pos rfl]
  have w3 : gI σ2 80 3 = A 6 p := by rw [← hσ2, gI_sI, if_pos rfl, if_pos rfl, gI_sI, if_neg (by decide)]; exact h1.bold p hp
  obtain ⟨m1, l1, a1, b1⟩ := how_pc (A := A) hT (ι p)
  obtain ⟨m2, l2, a2, b2⟩ := how_pc (A := A) hT (ι o)
  rw [m246 h2, bI_ret, a1, p247 h2.lay l1, bI_ret, b1]
  generalize hσ3 : sI σ2 80 4 (howS T A (ι p)) = σ3
  have f3 : Fr Sc σ σ3 := by rw [← hσ3]; exact f2.mI s80
  have h3 := h.sc f3
  rw [m246 h3, bI_ret, a2, p247 h3.lay l2, bI_ret, b2]
  generalize hσ4 : sI σ3 80 5 (howS T A (ι o)) = σ4
  have f4 : Fr Sc σ σ4 := by rw [← hσ4]; exact f3.mI s80
  have h4 := h.sc f4
  rw [h4.w3]
  refine Wp.cI (m248 (ok := okWf) (V := W) (tf := trS) (fm := fun k => k) (f := fWS T A p t) h4.lay rfl (by decide) h4.ww (by omega) h4.ws (fun n hn => (trS_num n hn).1) trS_fact (fun k hk => rfl) ?_) ?_
  · intro k hk hok
    have hk6 : k < 6 := by unfold okWf at hok; exact Nat.blt_eq.mp hok
    rcases (by omega : k = 0 ∨ k = 1 ∨ k = 2 ∨ k = 3 ∨ k = 4 ∨ k = 5) with rfl | rfl | rfl | rfl | rfl | rfl
    · show A 2 t = gI σ4 80 _
      rw [← hσ4, gI_sI, if_pos rfl, if_neg (by decide), ← hσ3, gI_sI, if_pos rfl, if_neg (by decide)]; exact w0.symm
    · show A 0 0 = gI σ4 80 _
      rw [← hσ4, gI_sI, if_pos rfl, if_neg (by decide), ← hσ3, gI_sI, if_pos rfl, if_neg (by decide)]; exact w1.symm
    · show lookS A p t = gI σ4 80 _
      rw [← hσ4, gI_sI, if_pos rfl, if_neg (by decide), ← hσ3, gI_sI, if_pos rfl, if_neg (by decide)]; exact w2.symm
    · show A 6 p = gI σ4 80 _
      rw [← hσ4, gI_sI, if_pos rfl, if_neg (by decide), ← hσ3, gI_sI, if_pos rfl, if_neg (by decide)]; exact w3.symm
    · show howS T A (ι p) = gI σ4 80 _
      rw [← hσ4, gI_sI, if_pos rfl, if_neg (by decide), ← hσ3, gI_sI, if_pos rfl, if_pos rfl]
    · show howS T A (A 1 t) = gI σ4 80 _
      rw [← hσ4, gI_sI, if_pos rfl, if_pos rfl, e1]
  · intro τ' hτ
    have f' : Fr Sc σ τ' := f4.trans (hτ.mono (fun a e => by rw [e]; unfold Sc; omega))
    by_cases hz : ι 0 < valS W (fWS T A p t)
    · rw [if_neg (by rw [le_iff]; exact fun g => g hz)]; exact Wp.retI' (by simp [hz, bz]) f'
    · rw [if_pos (by rw [le_iff]; exact hz)]; exact Wp.retI' (by simp [hz, bz]) f'
theorem m242 (h : CM P T W R A σ) (ht : t < T) : Wp (pcall 242 [.ref 61, .int (ι t)] σ) (RI (wbS P T W A t) (Fr Sc σ)) := by
  have hP := h.ok.P
  refine Wp.le (M_242 rfl h.lay) ?_
  refine Wp.fdl (n := P) (f := fun p s => s ||| if wantsS T W A p t = true then bit p else ι 0) (C := fun p b σ => C_242_4 (ι t) b (ι p) σ) (I := Fr Sc σ) ?_ ?_ Fr.refl
  · rintro p τ b hp hf - k
    have h' := h.sc hf
    refine Wp.le (T_242_4 rfl h'.lay) ?_
    rw [h'.P]
    simp (disch := omega) only [ι_lt_t, ι_lt_f, ι_le_t, ι_le_f, ι_eq_f, ι_m1, ι_add, ι_mul, ι_pm, ι_sub, ix_ι, gd_inb, gd_t, eq_self, if_true, if_false, not_true_eq_false, not_false_eq_true, ite_self, ]
    refine Wp.cI (m243 h' hp ht) fun τ' f' => ?_
    have k := k τ' (hf.trans f')
    by_cases e : wantsS T W A p t = true <;> simp (disch := omega) only [ι_lt_t, ι_lt_f, ι_le_t, ι_le_f, ι_eq_f, ι_m1, ι_add, ι_mul, ι_pm, ι_sub, ix_ι, gd_inb, gd_t, eq_self, if_true, if_false, not_true_eq_false, not_false_eq_true, ite_self, bI_ret, bJ_ret, bA_ret, bV_ret, bI_thr, bV_thr, bA_thr, e, bz_0] at k ⊢ <;> exact k
  · intro τ hf
    have h' := h.sc hf
    refine Wp.le (T_242_4 rfl h'.lay) ?_
    rw [h'.P]
    simp (disch := omega) only [ι_lt_t, ι_lt_f, ι_le_t, ι_le_f, ι_eq_f, ι_m1, ι_add, ι_mul, ι_pm, ι_sub, ix_ι, gd_inb, gd_t, eq_self, if_true, if_false, not_true_eq_false, not_false_eq_true, ite_self, ]
    exact Wp.retI hf
theorem m262 (h : CM P T W R A σ) (hp : p < P) : Wp (pcall 262 [.ref 61, .int (ι p)] σ) (RI (wishS T W A p) (Fr Sc σ)) := by
  have hT := h.ok.T
  refine Wp.le (M_262 rfl h.lay) ?_
  refine Wp.fdl (n := T) (f := fun t s => s ||| if wantsS T W A p t = true then bit t else ι 0) (C := fun t b σ => C_262_4 (ι p) b (ι t) σ) (I := Fr Sc σ) ?_ ?_ Fr.refl
  · rintro t τ b ht hf - k
    have h' := h.sc hf
    refine Wp.le (T_262_4 rfl h'.lay) ?_
    rw [h'.T]
    simp (disch := omega) only [ι_lt_t, ι_lt_f, ι_le_t, ι_le_f, ι_eq_f, ι_m1, ι_add, ι_mul, ι_pm, ι_sub, ix_ι, gd_inb, gd_t, eq_self, if_true, if_false, not_true_eq_false, not_false_eq_true, ite_self, ]
    refine Wp.cI (m243 h' hp ht) fun τ' f' => ?_
    have k := k τ' (hf.trans f')
    by_cases e : wantsS T W A p t = true <;> simp (disch := omega) only [ι_lt_t, ι_lt_f, ι_le_t, ι_le_f, ι_eq_f, ι_m1, ι_add, ι_mul, ι_pm, ι_sub, ix_ι, gd_inb, gd_t, eq_self, if_true, if_false, not_true_eq_false, not_false_eq_true, ite_self, bI_ret, bJ_ret, bA_ret, bV_ret, bI_thr, bV_thr, bA_thr, e, bz_0] at k ⊢ <;> exact k
  · intro τ hf
    have h' := h.sc hf
    refine Wp.le (T_262_4 rfl h'.lay) ?_
    rw [h'.T]
    simp (disch := omega) only [ι_lt_t, ι_lt_f, ι_le_t, ι_le_f, ι_eq_f, ι_m1, ι_add, ι_mul, ι_pm, ι_sub, ix_ι, gd_inb, gd_t, eq_self, if_true, if_false, not_true_eq_false, not_false_eq_true, ite_self, ]
    exact Wp.retI hf
theorem m241 (h : CM P T W R A σ) : Wp (pcall 241 [.ref 61] σ) (RI (safeS P T W A) (Fr Sc σ)) := by
  have hT := h.ok.T
  refine Wp.le (M_241 rfl h.lay) ?_
  refine Wp.fdl (n := T) (f := fun t s => s ||| if wbS P T W A t = ι 0 then bit t else ι 0) (C := fun t b σ => C_241_4 b (ι t) σ) (I := Fr Sc σ) ?_ ?_ Fr.refl
  · rintro t τ b ht hf - k
    have h' := h.sc hf
    refine Wp.le (T_241_4 rfl h'.lay) ?_
    rw [h'.T]
    simp (disch := omega) only [ι_lt_t, ι_lt_f, ι_le_t, ι_le_f, ι_eq_f, ι_m1, ι_add, ι_mul, ι_pm, ι_sub, ix_ι, gd_inb, gd_t, eq_self, if_true, if_false, not_true_eq_false, not_false_eq_true, ite_self, ]
    refine Wp.cI (m242 h' ht) fun τ' f' => ?_
    have k := k τ' (hf.trans f')
    by_cases e : wbS P T W A t = ι 0 <;> simp (disch := omega) only [ι_lt_t, ι_lt_f, ι_le_t, ι_le_f, ι_eq_f, ι_m1, ι_add, ι_mul, ι_pm, ι_sub, ix_ι, gd_inb, gd_t, eq_self, if_true, if_false, not_true_eq_false, not_false_eq_true, ite_self, bI_ret, bJ_ret, bA_ret, bV_ret, bI_thr, bV_thr, bA_thr, e] at k ⊢ <;> exact k
  · intro τ hf
    have h' := h.sc hf
    refine Wp.le (T_241_4 rfl h'.lay) ?_
    rw [h'.T]
    simp (disch := omega) only [ι_lt_t, ι_lt_f, ι_le_t, ι_le_f, ι_eq_f, ι_m1, ι_add, ι_mul, ι_pm, ι_sub, ix_ι, gd_inb, gd_t, eq_self, if_true, if_false, not_true_eq_false, not_false_eq_true, ite_self, ]
    exact Wp.retI hf
theorem wb_mk (hP : P ≤ 8) : wbS P T W A t = ι (mk (fun p => wantsS T W A p t) P) := by
  rw [← mk_or (by omega)]; rfl
theorem take_inv {n : Nat} (n0 : n < 2147483648) : fd (fun p (s : Int32 × Int32) => if s.2 < lookS A p t ∧ wantsS T W A p t = true then (ι p, lookS A p t) else s) n (ν 1, ν 1) = (ν 1, ν 1) ∨ ∃ k, k < n ∧ fd (fun p (s : Int32 × Int32) => if s.2 < lookS A p t ∧ wantsS T W A p t = true then (ι p, lookS A p t) else s) n (ν 1, ν 1) = (ι k, lookS A k t) := by
  induction n with
  | zero => left; rfl
  | succ n ih =>
    have ih := ih (by omega)
    show (if (fd _ n (ν 1, ν 1)).2 < lookS A n t ∧ wantsS T W A n t = true then (ι n, lookS A n t) else fd _ n (ν 1, ν 1)) = _ ∨ _
    by_cases e : (fd (fun p (s : Int32 × Int32) => if s.2 < lookS A p t ∧ wantsS T W A p t = true then (ι p, lookS A p t) else s) n (ν 1, ν 1)).2 < lookS A n t ∧ wantsS T W A n t = true
    · right
      refine ⟨n, by omega, ?_⟩
      show (if (fd _ n (ν 1, ν 1)).2 < lookS A n t ∧ wantsS T W A n t = true then (ι n, lookS A n t) else fd _ n (ν 1, ν 1)) = _
      rw [if_pos e]
    · rw [if_neg e]
      rcases ih with h | ⟨k, hk, h⟩
      · left; exact h
      · right
        refine ⟨k, by omega, ?_⟩
        show (if (fd _ n (ν 1, ν 1)).2 < lookS A n t ∧ wantsS T W A n t = true then (ι n, lookS A n t) else fd _ n (ν 1, ν 1)) = _
        rw [if_neg e]; exact h
theorem look_nn (h : okW P T A) (hp : p < P) (ht : t < T) : ∃ n, n ≤ 9 ∧ lookS A p t = ι n := by
  obtain ⟨v, hv, e1⟩ := h.wor hp ht
  obtain ⟨r, hr, e2⟩ := h.run ht
  unfold lookS
  rw [e1, e2]
  by_cases e : A 1 t = ι p
  · rw [if_pos e]; exact ⟨v, hv, rfl⟩
  · rw [if_neg e]
    have : ∀ v, v ≤ 9 → ∀ r, r ≤ 9 → imax (ι 0) (ι v - ι r) = ι (v - r) := by decide
    exact ⟨v - r, by omega, this v hv r hr⟩
theorem m265 (h : CM P T W R A σ) (ht : t < T) : Wp (pcall 265 [.ref 61, .int (ι t)] σ) (RI (takeS P T W A t).1 (Fr Sc σ)) := by
  have hP := h.ok.P
  refine Wp.le (M_265 rfl h.lay) ?_
  refine Wp.cI (m242 h ht) fun σ1 f1 => ?_
  have h1 := h.sc f1
  refine Wp.fdl (n := P) (b0 := (ν 1, ν 1)) (f := fun p s => if s.2 < lookS A p t ∧ wantsS T W A p t = true then (ι p, lookS A p t) else s) (C := fun p b σ => C_265_11 (ι t) (wbS P T W A t) b.1 (ι p) σ) (I := fun τ => τ = σ1) ?_ ?_ rfl
  · rintro p τ b hp rfl hb k
    refine Wp.le (T_265_11 rfl h1.lay) ?_
    have k := k τ rfl
    have hw : tb (wbS P T W A t) p = wantsS T W A p t := by
      rw [wb_mk hP, tb_mk (by omega) (by omega)]
      simp [hp]
    rw [h1.P, p236 h1.lay (by omega), bI_ret, hw]
    have hi := take_inv (n := p) (A := A) (T := T) (W := W) (t := t) (by omega)
    rw [← hb] at hi
    by_cases e : wantsS T W A p t = true
    · rcases hi with rfl | ⟨j, hj, rfl⟩
      · obtain ⟨n, hn, e2⟩ := look_nn h.ok hp ht
        have e3 : ν 1 < lookS A p t := by
          rw [e2]
          have h9 : ¬ ι n < ι 0 := by rw [ι_lt_f (by omega) (by omega)]; exact id
          exact Int32.lt_of_lt_of_le (show ν 1 < ι 0 by decide) (Int32.not_lt.mp h9)
        simp (disch := omega) only [ι_lt_t, ι_lt_f, ι_le_t, ι_le_f, ι_eq_f, ι_m1, ι_add, ι_mul, ι_pm, ι_sub, ix_ι, gd_inb, gd_t, eq_self, if_true, if_false, not_true_eq_false, not_false_eq_true, ite_self, bI_ret, bJ_ret, bA_ret, bV_ret, bI_thr, bV_thr, bA_thr, e, bz_0, e3, and_self] at k ⊢
        exact k
      · rw [m244 h1 hp ht, bI_ret, m244 h1 (show j < P by omega) ht, bI_ret]
        by_cases e4 : lookS A j t < lookS A p t <;> simp (disch := omega) only [ι_lt_t, ι_lt_f, ι_le_t, ι_le_f, ι_eq_f, ι_m1, ι_add, ι_mul, ι_pm, ι_sub, ix_ι, gd_inb, gd_t, eq_self, if_true, if_false, not_true_eq_false, not_false_eq_true, ite_self, bI_ret, bJ_ret, bA_ret, bV_ret, bI_thr, bV_thr, bA_thr, e, bz_0, e4, le_iff, and_self, false_and, and_true] at k ⊢ <;> exact k
    · simp (disch := omega) only [ι_lt_t, ι_lt_f, ι_le_t, ι_le_f, ι_eq_f, ι_m1, ι_add, ι_mul, ι_pm, ι_sub, ix_ι, gd_inb, gd_t, eq_self, if_true, if_false, not_true_eq_false, not_false_eq_true, ite_self, bI_ret, bJ_ret, bA_ret, bV_ret, bI_thr, bV_thr, bA_thr, e, bz_0, and_false, Bool.false_eq_true] at k ⊢
      exact k
  · rintro τ rfl
    refine Wp.le (T_265_11 rfl h1.lay) ?_
    rw [h1.P]
    simp (disch := omega) only [ι_lt_t, ι_lt_f, ι_le_t, ι_le_f, ι_eq_f, ι_m1, ι_add, ι_mul, ι_pm, ι_sub, ix_ι, gd_inb, gd_t, eq_self, if_true, if_false, not_true_eq_false, not_false_eq_true, ite_self, ]
    exact Wp.retI f1
end MODEL2
