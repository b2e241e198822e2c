/-! ===== the class's worlds: who wants what, sums over things and people ===== -/
section WORLD2
variable {P T : Nat} {W R : Rl} {A : Wd} {σ : pS} {w q u p t : Nat}
theorem Wp.fdg {β γ : Type} {n : Nat} {f : Nat → β → β} {b0 : β} {C : Nat → β → γ → pS → Option pZ} {I : pS → Prop} {Q : pZ → Prop} {σ : pS} {g0 : γ}
    (step : ∀ t σ b g, t < n → I σ → b = fd f t b0 → (∀ g' σ', I σ' → Wp (C (t + 1) (f t b) g' σ') Q) → Wp (C t b g σ) Q)
    (exit : ∀ g σ, I σ → Wp (C n (fd f n b0) g σ) Q) (h : I σ) : Wp (C 0 b0 g0 σ) Q := by
  have := Wp.loop (α := β × γ × pS) (Q := Q) n (fun t a => C t a.1 a.2.1 a.2.2) (fun t a => I a.2.2 ∧ a.1 = fd f t b0)
    (fun t a ht hi k => step t a.2.2 a.1 a.2.1 ht hi.1 hi.2 (fun g' σ' hs => k (f t a.1, g', σ') ⟨hs, by show f t a.1 = f t (fd f t b0); rw [hi.2]⟩))
    (fun a hi => by obtain ⟨b, g, s⟩ := a; obtain ⟨h1, rfl⟩ := hi; exact exit g s h1) (t := 0) (a := (b0, g0, σ)) (Nat.zero_le _) ⟨h, rfl⟩
  exact this
theorem c93 (h : CW P T W R A σ w q) (o : Int32) : pcall 93 [.ref w, .int o] σ = some (1, .int (thgS T A o), σ) := by
  have hT := h.1.T
  refine Wp.eqI (Wp.le (M_93 h.isw rfl h.lay) ?_)
  refine Wp.fdl (n := T) (f := fun t s => s ||| if A 1 t = o then bit t else ι 0) (C := fun t b σ => C_93_4 w o b (ι t) σ) (I := fun τ => τ = σ) ?_ ?_ rfl
  · rintro t τ b ht rfl - k
    refine Wp.le (T_93_4 h.isw rfl h.lay) ?_
    have k := k τ rfl
    rw [h.T, c75 h ht]
    by_cases e : A 1 t = o <;> simp (disch := omega) only [ι_lt_t, ι_lt_f, ι_le_t, ι_le_f, ι_eq_f, ι_m1, ι_add, ι_mul, ι_pm, ι_sub, ix_ι, gd_inb, gd_t, eq_self, if_true, if_false, not_true_eq_false, not_false_eq_true, ite_self, bI_ret, bJ_ret, bA_ret, bV_ret, bI_thr, bV_thr, bA_thr, e] at k ⊢ <;> exact k
  · rintro τ rfl
    refine Wp.le (T_93_4 h.isw rfl h.lay) ?_
    rw [h.T]
    simp (disch := omega) only [ι_lt_t, ι_lt_f, ι_le_t, ι_le_f, ι_eq_f, ι_m1, ι_add, ι_mul, ι_pm, ι_sub, ix_ι, gd_inb, gd_t, eq_self, if_true, if_false, not_true_eq_false, not_false_eq_true, ite_self, ]
    exact Wp.retI rfl
theorem c90 (h : CW P T W R A σ w q) (hp : p < P) : pcall 90 [.ref w, .int (ι p)] σ = some (1, .int (welS T A p), σ) := by
  have hT := h.1.T
  refine Wp.eqI (Wp.le (M_90 h.isw rfl h.lay) ?_)
  refine Wp.fdl (n := T) (f := fun t s => s + if A 1 t = ι p then A 4 (12 * p + t) else ι 0) (C := fun t b σ => C_90_4 w (ι p) b (ι t) σ) (I := fun τ => τ = σ) ?_ ?_ rfl
  · rintro t τ b ht rfl - k
    refine Wp.le (T_90_4 h.isw rfl h.lay) ?_
    have k := k τ rfl
    rw [h.T, c75 h ht, bI_ret, c74 h hp ht]
    by_cases e : A 1 t = ι p <;> simp (disch := omega) only [ι_lt_t, ι_lt_f, ι_le_t, ι_le_f, ι_eq_f, ι_m1, ι_add, ι_mul, ι_pm, ι_sub, ix_ι, gd_inb, gd_t, eq_self, if_true, if_false, not_true_eq_false, not_false_eq_true, ite_self, bI_ret, bJ_ret, bA_ret, bV_ret, bI_thr, bV_thr, bA_thr, e] at k ⊢ <;> exact k
  · rintro τ rfl
    refine Wp.le (T_90_4 h.isw rfl h.lay) ?_
    rw [h.T]
    simp (disch := omega) only [ι_lt_t, ι_lt_f, ι_le_t, ι_le_f, ι_eq_f, ι_m1, ι_add, ι_mul, ι_pm, ι_sub, ix_ι, gd_inb, gd_t, eq_self, if_true, if_false, not_true_eq_false, not_false_eq_true, ite_self, ]
    exact Wp.retI rfl
theorem c92 (h : CW P T W R A σ w q) : pcall 92 [.ref w] σ = some (1, .int (allrS T A), σ) := by
  have hT := h.1.T
  refine Wp.eqI (Wp.le (M_92 h.isw rfl h.lay) ?_)
  refine Wp.fdl (n := T) (f := fun t s => s + A 2 t) (C := fun t b σ => C_92_4 w b (ι t) σ) (I := fun τ => τ = σ) ?_ ?_ rfl
  · rintro t τ b ht rfl - k
    refine Wp.le (T_92_4 h.isw rfl h.lay) ?_
    have k := k τ rfl
    rw [h.T, c76 h ht]
    simp (disch := omega) only [ι_lt_t, ι_lt_f, ι_le_t, ι_le_f, ι_eq_f, ι_m1, ι_add, ι_mul, ι_pm, ι_sub, ix_ι, gd_inb, gd_t, eq_self, if_true, if_false, not_true_eq_false, not_false_eq_true, ite_self, bI_ret, bJ_ret, bA_ret, bV_ret, bI_thr, bV_thr, bA_thr, ] at k ⊢
    exact k
  · rintro τ rfl
    refine Wp.le (T_92_4 h.isw rfl h.lay) ?_
    rw [h.T]
    simp (disch := omega) only [ι_lt_t, ι_lt_f, ι_le_t, ι_le_f, ι_eq_f, ι_m1, ι_add, ι_mul, ι_pm, ι_sub, ix_ι, gd_inb, gd_t, eq_self, if_true, if_false, not_true_eq_false, not_false_eq_true, ite_self, ]
    exact Wp.retI rfl
theorem c98 (h : CW P T W R A σ w q) : pcall 98 [.ref w] σ = some (1, .int (fd (fun t s => s + gI σ (w + 5) t) T (ι 0)), σ) := by
  have hT := h.1.T
  refine Wp.eqI (Wp.le (M_98 h.isw rfl h.lay) ?_)
  refine Wp.fdl (n := T) (f := fun t s => s + gI σ (w + 5) t) (C := fun t b σ => C_98_4 w b (ι t) σ) (I := fun τ => τ = σ) ?_ ?_ rfl
  · rintro t τ b ht rfl - k
    refine Wp.le (T_98_4 h.isw rfl h.lay) ?_
    have k := k τ rfl
    rw [h.T, p97 h.isw h.lay (show t < 12 by omega)]
    simp (disch := omega) only [ι_lt_t, ι_lt_f, ι_le_t, ι_le_f, ι_eq_f, ι_m1, ι_add, ι_mul, ι_pm, ι_sub, ix_ι, gd_inb, gd_t, eq_self, if_true, if_false, not_true_eq_false, not_false_eq_true, ite_self, bI_ret, bJ_ret, bA_ret, bV_ret, bI_thr, bV_thr, bA_thr, ] at k ⊢
    exact k
  · rintro τ rfl
    refine Wp.le (T_98_4 h.isw rfl h.lay) ?_
    rw [h.T]
    simp (disch := omega) only [ι_lt_t, ι_lt_f, ι_le_t, ι_le_f, ι_eq_f, ι_m1, ι_add, ι_mul, ι_pm, ι_sub, ix_ι, gd_inb, gd_t, eq_self, if_true, if_false, not_true_eq_false, not_false_eq_true, ite_self, ]
    exact Wp.retI rfl
/-- the first of the most -/
def mostF (n : Nat) (g : Nat → Int32) : Int32 × Int32 := fd (fun t s => if s.2 < g t then (ι t, g t) else s) n (ν 1, ι 0)
theorem c99 (h : CW P T W R A σ w q) : pcall 99 [.ref w] σ = some (1, .int (mostF T (gI σ (w + 5))).1, σ) := by
  have hT := h.1.T
  refine Wp.eqI (Wp.le (M_99 h.isw rfl h.lay) ?_)
  refine Wp.fdl (n := T) (b0 := (ν 1, ι 0)) (f := fun t s => if s.2 < gI σ (w + 5) t then (ι t, gI σ (w + 5) t) else s) (C := fun t b σ => C_99_6 w b.1 b.2 (ι t) σ) (I := fun τ => τ = σ) ?_ ?_ rfl
  · rintro t τ b ht rfl - k
    refine Wp.le (T_99_6 h.isw rfl h.lay) ?_
    have k := k τ rfl
    have p97' := p97 h.isw h.lay (show t < 12 by omega)
    rw [h.T, p97']
    by_cases e : b.2 < gI τ (w + 5) t
    · have e2 : ¬ gI τ (w + 5) t ≤ b.2 := Int32.not_le.mpr e
      simp (disch := omega) only [ι_lt_t, ι_lt_f, ι_le_t, ι_le_f, ι_eq_f, ι_m1, ι_add, ι_mul, ι_pm, ι_sub, ix_ι, gd_inb, gd_t, eq_self, if_true, if_false, not_true_eq_false, not_false_eq_true, ite_self, bI_ret, bJ_ret, bA_ret, bV_ret, bI_thr, bV_thr, bA_thr, e, e2, p97'] at k ⊢
      exact k
    · have e2 : gI τ (w + 5) t ≤ b.2 := Int32.not_lt.mp e
      simp (disch := omega) only [ι_lt_t, ι_lt_f, ι_le_t, ι_le_f, ι_eq_f, ι_m1, ι_add, ι_mul, ι_pm, ι_sub, ix_ι, gd_inb, gd_t, eq_self, if_true, if_false, not_true_eq_false, not_false_eq_true, ite_self, bI_ret, bJ_ret, bA_ret, bV_ret, bI_thr, bV_thr, bA_thr, e, e2] at k ⊢
      exact k
  · rintro τ rfl
    refine Wp.le (T_99_6 h.isw rfl h.lay) ?_
    rw [h.T]
    simp (disch := omega) only [ι_lt_t, ι_lt_f, ι_le_t, ι_le_f, ι_eq_f, ι_m1, ι_add, ι_mul, ι_pm, ι_sub, ix_ι, gd_inb, gd_t, eq_self, if_true, if_false, not_true_eq_false, not_false_eq_true, ite_self, ]
    exact Wp.retI rfl
theorem c100 (h : CW P T W R A σ w q) : pcall 100 [.ref w] σ = some (1, .int (richS P T A).1, σ) := by
  have hP := h.1.P
  refine Wp.eqI (Wp.le (M_100 h.isw rfl h.lay) ?_)
  refine Wp.fdg (n := P) (b0 := (ν 1, ν 1)) (f := fun p s => if s.2 < welS T A p then (ι p, welS T A p) else s) (C := fun t b g σ => C_100_6 w b.1 b.2 (ι t) g σ) (I := fun τ => τ = σ) ?_ ?_ rfl
  · rintro t τ b g ht rfl - k
    refine Wp.le (T_100_6 h.isw rfl h.lay) ?_
    have k := fun g' => k g' τ rfl
    rw [h.P, c90 h ht]
    by_cases e : b.2 < welS T A t
    · have e2 : ¬ welS T A t ≤ b.2 := Int32.not_le.mpr e
      simp (disch := omega) only [ι_lt_t, ι_lt_f, ι_le_t, ι_le_f, ι_eq_f, ι_m1, ι_add, ι_mul, ι_pm, ι_sub, ix_ι, gd_inb, gd_t, eq_self, if_true, if_false, not_true_eq_false, not_false_eq_true, ite_self, bI_ret, bJ_ret, bA_ret, bV_ret, bI_thr, bV_thr, bA_thr, e, e2] at k ⊢
      exact k _
    · have e2 : welS T A t ≤ b.2 := Int32.not_lt.mp e
      simp (disch := omega) only [ι_lt_t, ι_lt_f, ι_le_t, ι_le_f, ι_eq_f, ι_m1, ι_add, ι_mul, ι_pm, ι_sub, ix_ι, gd_inb, gd_t, eq_self, if_true, if_false, not_true_eq_false, not_false_eq_true, ite_self, bI_ret, bJ_ret, bA_ret, bV_ret, bI_thr, bV_thr, bA_thr, e, e2] at k ⊢
      exact k _
  · rintro g τ rfl
    refine Wp.le (T_100_6 h.isw rfl h.lay) ?_
    rw [h.P]
    simp (disch := omega) only [ι_lt_t, ι_lt_f, ι_le_t, ι_le_f, ι_eq_f, ι_m1, ι_add, ι_mul, ι_pm, ι_sub, ix_ι, gd_inb, gd_t, eq_self, if_true, if_false, not_true_eq_false, not_false_eq_true, ite_self, ]
    exact Wp.retI rfl
theorem c101 (h : CW P T W R A σ w q) : pcall 101 [.ref w] σ = some (1, .int (nothS P T A), σ) := by
  have hP := h.1.P
  refine Wp.eqI (Wp.le (M_101 h.isw rfl h.lay) ?_)
  refine Wp.fdl (n := P) (f := fun p s => s ||| if thgS T A (ι p) = ι 0 then bit p else ι 0) (C := fun t b σ => C_101_4 w b (ι t) σ) (I := fun τ => τ = σ) ?_ ?_ rfl
  · rintro t τ b ht rfl - k
    refine Wp.le (T_101_4 h.isw rfl h.lay) ?_
    have k := k τ rfl
    rw [h.P, c93 h]
    by_cases e : thgS T A (ι t) = ι 0 <;> simp (disch := omega) only [ι_lt_t, ι_lt_f, ι_le_t, ι_le_f, ι_eq_f, ι_m1, ι_add, ι_mul, ι_pm, ι_sub, ix_ι, gd_inb, gd_t, eq_self, if_true, if_false, not_true_eq_false, not_false_eq_true, ite_self, bI_ret, bJ_ret, bA_ret, bV_ret, bI_thr, bV_thr, bA_thr, e] at k ⊢ <;> exact k
  · rintro τ rfl
    refine Wp.le (T_101_4 h.isw rfl h.lay) ?_
    rw [h.P]
    simp (disch := omega) only [ι_lt_t, ι_lt_f, ι_le_t, ι_le_f, ι_eq_f, ι_m1, ι_add, ι_mul, ι_pm, ι_sub, ix_ι, gd_inb, gd_t, eq_self, if_true, if_false, not_true_eq_false, not_false_eq_true, ite_self, ]
    exact Wp.retI rfl
/-- facts that count alike give alike -/
theorem valS_congr {ok : Nat → Bool} {V : Rl} (hw : wfr ok V) {f g : Nat → Int32} (hfg : ∀ k, k < 8 → ok k = true → (∃ i, i < V.1 ∧ V.2 i = ν 1 - ι k) → f k = g k) : valS V f = valS V g := by
  unfold valS
  rw [rrun_congr (f := f) (g := g)]
  intro i hi hn hs
  rcases wf_at hw hi with ⟨n, hn1, e, -⟩ | ⟨k, hk, ho, e, -⟩ | ⟨e, hs2, -⟩ | ⟨e, hs2, -⟩
  · rw [e, ι_lt_f (by omega) (by omega)] at hn; exact hn.elim
  · rw [e, (fact_m1 k hk).1, ix_ι (by omega)]
    exact hfg k hk ho ⟨i, hi, e⟩
  · rw [hs2] at hs; cases hs
  · rw [hs2] at hs; cases hs
theorem le_iff {x y : Int32} : (x ≤ y) = ¬ y < x := propext Int32.not_lt.symm
set_option maxHeartbeats 2000000 in
theorem c77 (h : CW P T W R A σ w q) (hp : p < P) (ht : t < T) : Wp (pcall 77 [.ref w, .int (ι t), .int (ι p)] σ) (RI (bz (wantsS T W A p t)) (Fr Sc σ)) := by
  have hT := h.1.T
  have hP := h.1.P
  obtain ⟨o, ho, e1⟩ := h.1.own ht
  refine Wp.le (M_77 h.isw rfl h.lay) ?_
  rw [c75 h ht, bI_ret, e1, c78 h ho, bI_ret, p168 h.lay (by omega), bI_ret]
  unfold wantsS
  rw [e1, ix_ι (show o < 2147483648 by omega)]
  by_cases hs : tb (A 3 o) p = true
  rotate_left
  · have hs' : tb (A 3 o) p = false := by simpa using hs
    rw [hs', if_pos bz_f, if_neg (by simp)]
    exact Wp.retI Fr.refl
  rw [hs, bz_t, if_neg (by decide), h.sil, p168 h.lay (by omega), bI_ret]
  by_cases hq : tb (A 0 1) p = false
  rotate_left
  · have hq' : tb (A 0 1) p = true := by simpa using hq
    rw [hq', bz_t, if_neg (by decide), if_neg (by simp)]
    exact Wp.retI Fr.refl
  rw [hq, bz_f, if_pos rfl, if_pos (And.intro rfl rfl), c73 h hp ht, bI_ret, bG_some h.told h.isp, p25 h.isp h.lay, bA_ret]
  have hu : isU (q + 5) := isU_p5 h.isp
  have hR := h.wr
  refine Wp.g hu ?_
  rw [p17 hu h.lay hR.2.2.1, bI_ret]
  by_cases hw : W.1 = 0
  · rw [if_pos hw]
    have : decide (0 < W.1) = false := by simp [hw]
    rw [this, bz_f, if_neg (fun g => g rfl)]
    by_cases hl : lookS A p t < ι 5
    · rw [if_pos hl]; exact Wp.retI' (by simp [hl, bz]) Fr.refl
    · rw [if_neg hl]; exact Wp.retI' (by simp [hl, bz]) Fr.refl
  rw [if_neg hw]
  have : decide (0 < W.1) = true := by simp; omega
  rw [this, bz_t, if_pos (by decide), c76 h ht, bI_ret]
  have w6 := Sc.w6 h.isw
  generalize hσ1 : sI (sI (sI σ (w + 6) 0 (A 2 t)) (w + 6) 1 (gI (sI σ (w + 6) 0 (A 2 t)) w 3)) (w + 6) 2 (lookS A p t) = σ1
  have f1 : Fr Sc σ σ1 := by rw [← hσ1]; exact ((Fr.refl.mI w6).mI w6).mI w6
  have h1 := h.sc f1
  have hw6 : ¬ w = w + 6 := by omega
  have v0 : gI σ1 (w + 6) 0 = A 2 t := by rw [← hσ1]; simp [gI_sI]
  have v1 : gI σ1 (w + 6) 1 = A 0 0 := by rw [← hσ1]; simp [gI_sI, h.day]
  have v2 : gI σ1 (w + 6) 2 = lookS A p t := by rw [← hσ1]; simp [gI_sI]
  rw [bG_some h1.told h1.isp, p27 h1.isp h1.lay (by omega), bI_ret, h1.bold hp]
  generalize hσ2 : sI σ1 (w + 6) 3 (A 6 p) = σ2
  have f2 : Fr Sc σ σ2 := by rw [← hσ2]; exact f1.mI w6
  have h2 := h.sc f2
  have v3 : gI σ2 (w + 6) 3 = A 6 p := by rw [← hσ2]; simp [gI_sI]
  have v0' : gI σ2 (w + 6) 0 = A 2 t := by rw [← hσ2]; simp [gI_sI, v0]
  have v1' : gI σ2 (w + 6) 1 = A 0 0 := by rw [← hσ2]; simp [gI_sI, v1]
  have v2' : gI σ2 (w + 6) 2 = lookS A p t := by rw [← hσ2]; simp [gI_sI, v2]
  -- the value, whatever stands at the facts that aren't named
  have fin : ∀ τ, Fr Sc σ τ → gI τ (w + 6) 0 = A 2 t → gI τ (w + 6) 1 = A 0 0 → gI τ (w + 6) 2 = lookS A p t → gI τ (w + 6) 3 = A 6 p → (tb (gI τ (q + 5) 3) 4 = true → gI τ (w + 6) 4 = howS T A (ι p)) → (tb (gI τ (q + 5) 3) 5 = true → gI τ (w + 6) 5 = howS T A (ι o)) → Wp (bI (pcall 18 [.ref (q + 5), .ref (w + 6)] τ) fun r τ' => if r ≤ ι 0 then some (1, .int (ι 0), τ') else some (1, .int (ι 1), τ')) (RI (bz (decide (ι 0 < valS W (fWS T A p t)))) (Fr Sc σ)) := by
    intro τ f a0 a1 a2 a3 a4 a5
    have h9 := h.sc f
    have hne : w + 6 ≠ q + 5 + 2 := by
      rcases h.isw with rfl | rfl | rfl <;> rcases h.isp with rfl | rfl <;> decide
    refine Wp.cI (c18 hu h9.lay h9.wr (by omega) (kdW_6 h.isw) hne) ?_
    intro τ' hτ
    have hv : valS W (gI τ (w + 6)) = valS W (fWS T A p t) := by
      refine valS_congr h9.wr.1 ?_
      intro k hk hok hex
      have hk6 : k < 6 := by unfold okWf at hok; exact Nat.blt_eq.mp hok
      have hb := (h9.wr.2.2.2.2 k hk).mpr hex
      unfold fWS
      rcases (by omega : k = 0 ∨ k = 1 ∨ k = 2 ∨ k = 3 ∨ k = 4 ∨ k = 5) with rfl | rfl | rfl | rfl | rfl | rfl
      · simpa using a0
      · simpa using a1
      · simpa using a2
      · simpa using a3
      · simpa using a4 hb
      · simpa [e1] using a5 hb
    rw [hv]
    have f' : Fr Sc σ τ' := f.trans (hτ.mono (fun a e => by rw [e]; exact Sc.u2 hu))
    by_cases hz : ι 0 < valS W (fWS T A p t)
    · rw [if_neg (by rw [le_iff]; exact fun g => g hz)]; exact Wp.retI' (by simp [hz, bz]) f'
    · rw [if_pos (by rw [le_iff]; exact hz)]; exact Wp.retI' (by simp [hz, bz]) f'
  -- the fact of what the owner has
  have last : ∀ v vv1 vv2 vv4, (tb (gI σ2 (q + 5) 3) 4 = true → v = howS T A (ι p)) → Wp (C_77_134 w vv1 vv2 (ι o) vv4 (q + 5) (ι 4) v σ2) (RI (bz (decide (ι 0 < valS W (fWS T A p t)))) (Fr Sc σ)) := by
    intro v vv1 vv2 vv4 hv
    refine Wp.le (T_77_134 h.isw hu rfl h2.lay) ?_
    have f3 : Fr Sc σ (sI σ2 (w + 6) 4 v) := f2.mI w6
    have h3 := h.sc f3
    have hqw : ¬ q + 5 = w + 6 := by rcases h.isw with rfl | rfl | rfl <;> rcases h.isp with rfl | rfl <;> decide
    simp (disch := omega) only [ι_lt_t, ι_lt_f, ι_le_t, ι_le_f, ι_eq_f, ι_m1, ι_add, ι_mul, ι_pm, ι_sub, ix_ι, gd_inb, gd_t, eq_self, if_true, if_false, not_true_eq_false, not_false_eq_true, ite_self, ]
    rw [p16 hu h3.lay (by omega), bI_ret]
    by_cases hb : tb (gI (sI σ2 (w + 6) 4 v) (q + 5) 3) 5 = true
    · rw [hb, bz_t, if_neg (by decide), c79 h3, bI_ret]
      refine fin _ (f3.mI w6) ?_ ?_ ?_ ?_ ?_ ?_
      all_goals simp [gI_sI, v0', v1', v2', v3, hqw]
      exact hv
    · have hb' : tb (gI (sI σ2 (w + 6) 4 v) (q + 5) 3) 5 = false := by simpa using hb
      rw [hb', bz_f, if_pos rfl]
      refine fin _ (f3.mI w6) ?_ ?_ ?_ ?_ ?_ ?_
      all_goals simp [gI_sI, v0', v1', v2', v3, hqw]
      · exact hv
      · intro g
        simp [gI_sI, hqw] at hb
        rw [hb] at g; cases g
  rw [p16 hu h2.lay (by omega), bI_ret]
  by_cases hb : tb (gI σ2 (q + 5) 3) 4 = true
  · rw [hb, bz_t, if_neg (by decide), c79 h2, bI_ret]
    exact last _ _ _ _ (fun _ => rfl)
  · have hb' : tb (gI σ2 (q + 5) 3) 4 = false := by simpa using hb
    rw [hb', bz_f, if_pos rfl]
    exact last _ _ _ _ (fun g => absurd g hb)
theorem c89 (h : CW P T W R A σ w q) (ht : t < T) : Wp (pcall 89 [.ref w, .int (ι t)] σ) (RI (wbS P T W A t) (Fr Sc σ)) := by
  have hP := h.1.P
  refine Wp.le (M_89 h.isw rfl h.lay) ?_
  refine Wp.fdl (n := P) (f := fun p s => s ||| if wantsS T W A p t = true then bit p else ι 0) (C := fun p b σ => C_89_4 w (ι t) b (ι p) σ) (I := Fr Sc σ) ?_ ?_ Fr.refl
  · rintro p τ b hp hf - k
    have h' := h.sc hf
    refine Wp.le (T_89_4 h.isw rfl h'.lay) ?_
    rw [h'.P]
    simp (disch := omega) only [ι_lt_t, ι_lt_f, ι_le_t, ι_le_f, ι_eq_f, ι_m1, ι_add, ι_mul, ι_pm, ι_sub, ix_ι, gd_inb, gd_t, eq_self, if_true, if_false, not_true_eq_false, not_false_eq_true, ite_self, ]
    refine Wp.cI (c77 h' hp ht) fun τ' f' => ?_
    have k := k τ' (hf.trans f')
    by_cases e : wantsS T W A p t = true <;> simp (disch := omega) only [ι_lt_t, ι_lt_f, ι_le_t, ι_le_f, ι_eq_f, ι_m1, ι_add, ι_mul, ι_pm, ι_sub, ix_ι, gd_inb, gd_t, eq_self, if_true, if_false, not_true_eq_false, not_false_eq_true, ite_self, bI_ret, bJ_ret, bA_ret, bV_ret, bI_thr, bV_thr, bA_thr, e, bz_0] at k ⊢ <;> exact k
  · intro τ hf
    have h' := h.sc hf
    refine Wp.le (T_89_4 h.isw rfl h'.lay) ?_
    rw [h'.P]
    simp (disch := omega) only [ι_lt_t, ι_lt_f, ι_le_t, ι_le_f, ι_eq_f, ι_m1, ι_add, ι_mul, ι_pm, ι_sub, ix_ι, gd_inb, gd_t, eq_self, if_true, if_false, not_true_eq_false, not_false_eq_true, ite_self, ]
    exact Wp.retI hf
theorem c94 (h : CW P T W R A σ w q) (hp : p < P) : Wp (pcall 94 [.ref w, .int (ι p)] σ) (RI (wishS T W A p) (Fr Sc σ)) := by
  have hT := h.1.T
  refine Wp.le (M_94 h.isw rfl h.lay) ?_
  refine Wp.fdl (n := T) (f := fun t s => s ||| if wantsS T W A p t = true then bit t else ι 0) (C := fun t b σ => C_94_4 w (ι p) b (ι t) σ) (I := Fr Sc σ) ?_ ?_ Fr.refl
  · rintro t τ b ht hf - k
    have h' := h.sc hf
    refine Wp.le (T_94_4 h.isw rfl h'.lay) ?_
    rw [h'.T]
    simp (disch := omega) only [ι_lt_t, ι_lt_f, ι_le_t, ι_le_f, ι_eq_f, ι_m1, ι_add, ι_mul, ι_pm, ι_sub, ix_ι, gd_inb, gd_t, eq_self, if_true, if_false, not_true_eq_false, not_false_eq_true, ite_self, ]
    refine Wp.cI (c77 h' hp ht) fun τ' f' => ?_
    have k := k τ' (hf.trans f')
    by_cases e : wantsS T W A p t = true <;> simp (disch := omega) only [ι_lt_t, ι_lt_f, ι_le_t, ι_le_f, ι_eq_f, ι_m1, ι_add, ι_mul, ι_pm, ι_sub, ix_ι, gd_inb, gd_t, eq_self, if_true, if_false, not_true_eq_false, not_false_eq_true, ite_self, bI_ret, bJ_ret, bA_ret, bV_ret, bI_thr, bV_thr, bA_thr, e, bz_0] at k ⊢ <;> exact k
  · intro τ hf
    have h' := h.sc hf
    refine Wp.le (T_94_4 h.isw rfl h'.lay) ?_
    rw [h'.T]
    simp (disch := omega) only [ι_lt_t, ι_lt_f, ι_le_t, ι_le_f, ι_eq_f, ι_m1, ι_add, ι_mul, ι_pm, ι_sub, ix_ι, gd_inb, gd_t, eq_self, if_true, if_false, not_true_eq_false, not_false_eq_true, ite_self, ]
    exact Wp.retI hf
theorem c88 (h : CW P T W R A σ w q) : Wp (pcall 88 [.ref w] σ) (RI (safeS P T W A) (Fr Sc σ)) := by
  have hT := h.1.T
  refine Wp.le (M_88 h.isw rfl h.lay) ?_
  refine Wp.fdl (n := T) (f := fun t s => s ||| if wbS P T W A t = ι 0 then bit t else ι 0) (C := fun t b σ => C_88_4 w b (ι t) σ) (I := Fr Sc σ) ?_ ?_ Fr.refl
  · rintro t τ b ht hf - k
    have h' := h.sc hf
    refine Wp.le (T_88_4 h.isw rfl h'.lay) ?_
    rw [h'.T]
    simp (disch := omega) only [ι_lt_t, ι_lt_f, ι_le_t, ι_le_f, ι_eq_f, ι_m1, ι_add, ι_mul, ι_pm, ι_sub, ix_ι, gd_inb, gd_t, eq_self, if_true, if_false, not_true_eq_false, not_false_eq_true, ite_self, ]
    refine Wp.cI (c89 h' ht) fun τ' f' => ?_
    have k := k τ' (hf.trans f')
    by_cases e : wbS P T W A t = ι 0 <;> simp (disch := omega) only [ι_lt_t, ι_lt_f, ι_le_t, ι_le_f, ι_eq_f, ι_m1, ι_add, ι_mul, ι_pm, ι_sub, ix_ι, gd_inb, gd_t, eq_self, if_true, if_false, not_true_eq_false, not_false_eq_true, ite_self, bI_ret, bJ_ret, bA_ret, bV_ret, bI_thr, bV_thr, bA_thr, e] at k ⊢ <;> exact k
  · intro τ hf
    have h' := h.sc hf
    refine Wp.le (T_88_4 h.isw rfl h'.lay) ?_
    rw [h'.T]
    simp (disch := omega) only [ι_lt_t, ι_lt_f, ι_le_t, ι_le_f, ι_eq_f, ι_m1, ι_add, ι_mul, ι_pm, ι_sub, ix_ι, gd_inb, gd_t, eq_self, if_true, if_false, not_true_eq_false, not_false_eq_true, ite_self, ]
    exact Wp.retI hf
theorem c72 (h : CW P T W R A σ w q) (ht : t < T) : Wp (pcall 72 [.ref w, .int (ι t)] σ) (RI (takeS P T W A t).1 (Fr Sc σ)) := by
  have hP := h.1.P
  refine Wp.le (M_72 h.isw rfl h.lay) ?_
  refine Wp.fdg (n := P) (b0 := (ν 1, ν 1)) (f := fun p s => if s.2 < lookS A p t ∧ wantsS T W A p t = true then (ι p, lookS A p t) else s) (C := fun p b g σ => C_72_7 w (ι t) b.1 b.2 (ι p) g σ) (I := Fr Sc σ) ?_ ?_ Fr.refl
  · rintro p τ b g hp hf - k
    have h' := h.sc hf
    refine Wp.le (T_72_7 h.isw rfl h'.lay) ?_
    rw [h'.P, c73 h' hp ht]
    by_cases e : b.2 < lookS A p t
    · have e2 : ¬ lookS A p t ≤ b.2 := Int32.not_le.mpr e
      simp (disch := omega) only [ι_lt_t, ι_lt_f, ι_le_t, ι_le_f, ι_eq_f, ι_m1, ι_add, ι_mul, ι_pm, ι_sub, ix_ι, gd_inb, gd_t, eq_self, if_true, if_false, not_true_eq_false, not_false_eq_true, ite_self, bI_ret, bJ_ret, bA_ret, bV_ret, bI_thr, bV_thr, bA_thr, e2]
      refine Wp.cI (c77 h' hp ht) fun τ' f' => ?_
      have k := fun g' => k g' τ' (hf.trans f')
      by_cases e3 : wantsS T W A p t = true <;> simp (disch := omega) only [ι_lt_t, ι_lt_f, ι_le_t, ι_le_f, ι_eq_f, ι_m1, ι_add, ι_mul, ι_pm, ι_sub, ix_ι, gd_inb, gd_t, eq_self, if_true, if_false, not_true_eq_false, not_false_eq_true, ite_self, bI_ret, bJ_ret, bA_ret, bV_ret, bI_thr, bV_thr, bA_thr, e, e3, bz_0, and_self, and_false] at k ⊢ <;> exact k _
    · have e2 : lookS A p t ≤ b.2 := Int32.not_lt.mp e
      have k := fun g' => k g' τ hf
      simp (disch := omega) only [ι_lt_t, ι_lt_f, ι_le_t, ι_le_f, ι_eq_f, ι_m1, ι_add, ι_mul, ι_pm, ι_sub, ix_ι, gd_inb, gd_t, eq_self, if_true, if_false, not_true_eq_false, not_false_eq_true, ite_self, bI_ret, bJ_ret, bA_ret, bV_ret, bI_thr, bV_thr, bA_thr, e, e2, false_and] at k ⊢
      exact k _
  · intro g τ hf
    have h' := h.sc hf
    refine Wp.le (T_72_7 h.isw rfl h'.lay) ?_
    rw [h'.P]
    simp (disch := omega) only [ι_lt_t, ι_lt_f, ι_le_t, ι_le_f, ι_eq_f, ι_m1, ι_add, ι_mul, ι_pm, ι_sub, ix_ι, gd_inb, gd_t, eq_self, if_true, if_false, not_true_eq_false, not_false_eq_true, ite_self, ]
    exact Wp.retI hf
end WORLD2
