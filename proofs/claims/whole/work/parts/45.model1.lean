/-! ===== the reference: what it holds, what is read of it ===== -/
section MODEL1
def trR (s : Int32) : Int32 := if s = ν 7 then ν 3 else if s = ν 8 then ν 4 else trS s
def CM (P T : Nat) (W R : Rl) (A : Wd) (σ : pS) : Prop :=
  (okW P T A)
  ∧ (LayR (gR σ))
  ∧ (gI σ 65 0 = ι P)
  ∧ (gI σ 65 1 = ι T)
  ∧ (gI σ 65 3 = ι W.1)
  ∧ (gI σ 65 4 = ι R.1)
  ∧ (wfr okWf W)
  ∧ (wfr okRf R)
  ∧ (∀ i, i < W.1 → gI σ 71 i = trS (W.2 i))
  ∧ (∀ i, i < R.1 → gI σ 72 i = trR (R.2 i))
  ∧ (gI σ 61 31 = A 0 0)
  ∧ (gI σ 61 36 = A 0 1)
  ∧ (∀ t, t < T → gI σ 75 t = A 1 t)
  ∧ (∀ t, t < T → gI σ 76 t = A 2 t)
  ∧ (∀ p, p < P → ∀ t, t < T → gI σ 77 (12 * p + t) = A 4 (12 * p + t))
  ∧ (∀ p, p < P → gI σ 78 p = A 3 p)
  ∧ (∀ p, p < P → gI σ 66 p = A 6 p)
  ∧ (∀ t, t < T → gI σ 67 t = A 7 t)
theorem CM.ok {P T : Nat} {W R : Rl} {A : Wd} {σ : pS} (h : CM P T W R A σ) : okW P T A := h.1
theorem CM.lay {P T : Nat} {W R : Rl} {A : Wd} {σ : pS} (h : CM P T W R A σ) : LayR (gR σ) := h.2.1
theorem CM.P {P T : Nat} {W R : Rl} {A : Wd} {σ : pS} (h : CM P T W R A σ) : gI σ 65 0 = ι P := h.2.2.1
theorem CM.T {P T : Nat} {W R : Rl} {A : Wd} {σ : pS} (h : CM P T W R A σ) : gI σ 65 1 = ι T := h.2.2.2.1
theorem CM.w3 {P T : Nat} {W R : Rl} {A : Wd} {σ : pS} (h : CM P T W R A σ) : gI σ 65 3 = ι W.1 := h.2.2.2.2.1
theorem CM.r4 {P T : Nat} {W R : Rl} {A : Wd} {σ : pS} (h : CM P T W R A σ) : gI σ 65 4 = ι R.1 := h.2.2.2.2.2.1
theorem CM.ww {P T : Nat} {W R : Rl} {A : Wd} {σ : pS} (h : CM P T W R A σ) : wfr okWf W := h.2.2.2.2.2.2.1
theorem CM.wr {P T : Nat} {W R : Rl} {A : Wd} {σ : pS} (h : CM P T W R A σ) : wfr okRf R := h.2.2.2.2.2.2.2.1
theorem CM.ws {P T : Nat} {W R : Rl} {A : Wd} {σ : pS} (h : CM P T W R A σ) : ∀ i, i < W.1 → gI σ 71 i = trS (W.2 i) := h.2.2.2.2.2.2.2.2.1
theorem CM.rs {P T : Nat} {W R : Rl} {A : Wd} {σ : pS} (h : CM P T W R A σ) : ∀ i, i < R.1 → gI σ 72 i = trR (R.2 i) := h.2.2.2.2.2.2.2.2.2.1
theorem CM.day {P T : Nat} {W R : Rl} {A : Wd} {σ : pS} (h : CM P T W R A σ) : gI σ 61 31 = A 0 0 := h.2.2.2.2.2.2.2.2.2.2.1
theorem CM.sil {P T : Nat} {W R : Rl} {A : Wd} {σ : pS} (h : CM P T W R A σ) : gI σ 61 36 = A 0 1 := h.2.2.2.2.2.2.2.2.2.2.2.1
theorem CM.own {P T : Nat} {W R : Rl} {A : Wd} {σ : pS} (h : CM P T W R A σ) : ∀ t, t < T → gI σ 75 t = A 1 t := h.2.2.2.2.2.2.2.2.2.2.2.2.1
theorem CM.run {P T : Nat} {W R : Rl} {A : Wd} {σ : pS} (h : CM P T W R A σ) : ∀ t, t < T → gI σ 76 t = A 2 t := h.2.2.2.2.2.2.2.2.2.2.2.2.2.1
theorem CM.wor {P T : Nat} {W R : Rl} {A : Wd} {σ : pS} (h : CM P T W R A σ) : ∀ p, p < P → ∀ t, t < T → gI σ 77 (12 * p + t) = A 4 (12 * p + t) := h.2.2.2.2.2.2.2.2.2.2.2.2.2.2.1
theorem CM.see {P T : Nat} {W R : Rl} {A : Wd} {σ : pS} (h : CM P T W R A σ) : ∀ p, p < P → gI σ 78 p = A 3 p := h.2.2.2.2.2.2.2.2.2.2.2.2.2.2.2.1
theorem CM.bold {P T : Nat} {W R : Rl} {A : Wd} {σ : pS} (h : CM P T W R A σ) : ∀ p, p < P → gI σ 66 p = A 6 p := h.2.2.2.2.2.2.2.2.2.2.2.2.2.2.2.2.1
theorem CM.firm {P T : Nat} {W R : Rl} {A : Wd} {σ : pS} (h : CM P T W R A σ) : ∀ t, t < T → gI σ 67 t = A 7 t := h.2.2.2.2.2.2.2.2.2.2.2.2.2.2.2.2.2
variable {P T : Nat} {W R : Rl} {A : Wd} {σ τ : pS} {p t : Nat}
theorem CM.fr {S : Nat → Prop} (h : CM P T W R A σ) (f : Fr S σ τ) (h61 : ¬ S 61) (h65 : ¬ S 65) (h66 : ¬ S 66) (h67 : ¬ S 67) (h71 : ¬ S 71) (h72 : ¬ S 72) (h75 : ¬ S 75) (h76 : ¬ S 76) (h77 : ¬ S 77) (h78 : ¬ S 78) : CM P T W R A τ := by
  obtain ⟨a1, a2, a3, a4, a5, a6, a7, a8, a9, a10, a11, a12, a13, a14, a15, a16, a17, a18⟩ := h
  exact ⟨a1, by rw [f.r]; exact a2, by rw [f.i h65]; exact a3, by rw [f.i h65]; exact a4, by rw [f.i h65]; exact a5, by rw [f.i h65]; exact a6, a7, a8, fun i hi => by rw [f.i h71]; exact a9 i hi, fun i hi => by rw [f.i h72]; exact a10 i hi, by rw [f.i h61]; exact a11, by rw [f.i h61]; exact a12, fun i hi => by rw [f.i h75]; exact a13 i hi, fun i hi => by rw [f.i h76]; exact a14 i hi, fun i hi j hj => by rw [f.i h77]; exact a15 i hi j hj, fun i hi => by rw [f.i h78]; exact a16 i hi, fun i hi => by rw [f.i h66]; exact a17 i hi, fun i hi => by rw [f.i h67]; exact a18 i hi⟩
theorem CM.sc (h : CM P T W R A σ) (f : Fr Sc σ τ) : CM P T W R A τ := by
  refine h.fr f ?_ ?_ ?_ ?_ ?_ ?_ ?_ ?_ ?_ ?_ <;> (unfold Sc; omega)
theorem m245 (h : CM P T W R A σ) (hp : p < P) (ht : t < T) : pcall 245 [.ref 61, .int (ι p), .int (ι t)] σ = some (1, .int (A 4 (12 * p + t)), σ) := by
  have hT := h.ok.T; have hP := h.ok.P
  refine (M_245 rfl h.lay).eq ?_
  simp (disch := omega) only [ι_lt_t, ι_lt_f, ι_le_t, ι_le_f, ι_eq_f, ι_m1, ι_add, ι_mul, ι_pm, ι_sub, ix_ι, gd_inb, gd_t, eq_self, if_true, if_false, not_true_eq_false, not_false_eq_true, ite_self, h.wor p hp t ht]
theorem m244 (h : CM P T W R A σ) (hp : p < P) (ht : t < T) : pcall 244 [.ref 61, .int (ι p), .int (ι t)] σ = some (1, .int (lookS A p t), σ) := by
  have hT := h.ok.T; have hP := h.ok.P
  refine (M_244 rfl h.lay).eq ?_
  rw [m245 h hp ht]
  unfold lookS
  simp (disch := omega) only [ι_lt_t, ι_lt_f, ι_le_t, ι_le_f, ι_eq_f, ι_m1, ι_add, ι_mul, ι_pm, ι_sub, ix_ι, gd_inb, gd_t, eq_self, if_true, if_false, not_true_eq_false, not_false_eq_true, ite_self, bI_ret, bJ_ret, bA_ret, bV_ret, bI_thr, bV_thr, bA_thr, h.own t ht, h.run t ht]
  by_cases e : A 1 t = ι p
  · rw [if_neg (fun g => g e), if_pos e]
  · rw [if_pos e, if_neg e]
theorem m246 (h : CM P T W R A σ) (o : Int32) : pcall 246 [.ref 61, .int o] σ = some (1, .int (thgS T A o), σ) := by
  have hT := h.ok.T
  refine Wp.eqI (Wp.le (M_246 rfl h.lay) ?_)
  refine Wp.fdl (n := T) (f := fun t s => s ||| if A 1 t = o then bit t else ι 0) (C := fun t b σ => C_246_4 o b (ι t) σ) (I := fun τ => τ = σ) ?_ ?_ rfl
  · rintro t τ b ht rfl - k
    refine Wp.le (T_246_4 rfl h.lay) ?_
    have k := k τ rfl
    rw [h.T]
    by_cases e : A 1 t = o <;> simp (disch := omega) only [ι_lt_t, ι_lt_f, ι_le_t, ι_le_f, ι_eq_f, ι_m1, ι_add, ι_mul, ι_pm, ι_sub, ix_ι, gd_inb, gd_t, eq_self, if_true, if_false, not_true_eq_false, not_false_eq_true, ite_self, bI_ret, bJ_ret, bA_ret, bV_ret, bI_thr, bV_thr, bA_thr, e, h.own t ht] at k ⊢ <;> exact k
  · rintro τ rfl
    refine Wp.le (T_246_4 rfl h.lay) ?_
    rw [h.T]
    simp (disch := omega) only [ι_lt_t, ι_lt_f, ι_le_t, ι_le_f, ι_eq_f, ι_m1, ι_add, ι_mul, ι_pm, ι_sub, ix_ι, gd_inb, gd_t, eq_self, if_true, if_false, not_true_eq_false, not_false_eq_true, ite_self, ]
    exact Wp.retI rfl
theorem m252 (h : CM P T W R A σ) (hp : p < P) : pcall 252 [.ref 61, .int (ι p)] σ = some (1, .int (welS T A p), σ) := by
  have hT := h.ok.T
  refine Wp.eqI (Wp.le (M_252 rfl h.lay) ?_)
  refine Wp.fdl (n := T) (f := fun t s => s + if A 1 t = ι p then A 4 (12 * p + t) else ι 0) (C := fun t b σ => C_252_4 (ι p) b (ι t) σ) (I := fun τ => τ = σ) ?_ ?_ rfl
  · rintro t τ b ht rfl - k
    refine Wp.le (T_252_4 rfl h.lay) ?_
    have k := k τ rfl
    rw [h.T, m245 h hp ht]
    by_cases e : A 1 t = ι p <;> simp (disch := omega) only [ι_lt_t, ι_lt_f, ι_le_t, ι_le_f, ι_eq_f, ι_m1, ι_add, ι_mul, ι_pm, ι_sub, ix_ι, gd_inb, gd_t, eq_self, if_true, if_false, not_true_eq_false, not_false_eq_true, ite_self, bI_ret, bJ_ret, bA_ret, bV_ret, bI_thr, bV_thr, bA_thr, e, h.own t ht] at k ⊢ <;> exact k
  · rintro τ rfl
    refine Wp.le (T_252_4 rfl h.lay) ?_
    rw [h.T]
    simp (disch := omega) only [ι_lt_t, ι_lt_f, ι_le_t, ι_le_f, ι_eq_f, ι_m1, ι_add, ι_mul, ι_pm, ι_sub, ix_ι, gd_inb, gd_t, eq_self, if_true, if_false, not_true_eq_false, not_false_eq_true, ite_self, ]
    exact Wp.retI rfl
theorem m258 (h : CM P T W R A σ) : pcall 258 [.ref 61] σ = some (1, .int (allrS T A), σ) := by
  have hT := h.ok.T
  refine Wp.eqI (Wp.le (M_258 rfl h.lay) ?_)
  refine Wp.fdl (n := T) (f := fun t s => s + A 2 t) (C := fun t b σ => C_258_4 b (ι t) σ) (I := fun τ => τ = σ) ?_ ?_ rfl
  · rintro t τ b ht rfl - k
    refine Wp.le (T_258_4 rfl h.lay) ?_
    have k := k τ rfl
    rw [h.T]
    simp (disch := omega) only [ι_lt_t, ι_lt_f, ι_le_t, ι_le_f, ι_eq_f, ι_m1, ι_add, ι_mul, ι_pm, ι_sub, ix_ι, gd_inb, gd_t, eq_self, if_true, if_false, not_true_eq_false, not_false_eq_true, ite_self, bI_ret, bJ_ret, bA_ret, bV_ret, bI_thr, bV_thr, bA_thr, h.run t ht] at k ⊢
    exact k
  · rintro τ rfl
    refine Wp.le (T_258_4 rfl h.lay) ?_
    rw [h.T]
    simp (disch := omega) only [ι_lt_t, ι_lt_f, ι_le_t, ι_le_f, ι_eq_f, ι_m1, ι_add, ι_mul, ι_pm, ι_sub, ix_ι, gd_inb, gd_t, eq_self, if_true, if_false, not_true_eq_false, not_false_eq_true, ite_self, ]
    exact Wp.retI rfl
theorem m293 (h : CM P T W R A σ) : pcall 293 [.ref 61] σ = some (1, .int (fd (fun t s => s + gI σ 82 t) T (ι 0)), σ) := by
  have hT := h.ok.T
  refine Wp.eqI (Wp.le (M_293 rfl h.lay) ?_)
  refine Wp.fdl (n := T) (f := fun t s => s + gI σ 82 t) (C := fun t b σ => C_293_4 b (ι t) σ) (I := fun τ => τ = σ) ?_ ?_ rfl
  · rintro t τ b ht rfl - k
    refine Wp.le (T_293_4 rfl h.lay) ?_
    have k := k τ rfl
    rw [h.T]
    simp (disch := omega) only [ι_lt_t, ι_lt_f, ι_le_t, ι_le_f, ι_eq_f, ι_m1, ι_add, ι_mul, ι_pm, ι_sub, ix_ι, gd_inb, gd_t, eq_self, if_true, if_false, not_true_eq_false, not_false_eq_true, ite_self, bI_ret, bJ_ret, bA_ret, bV_ret, bI_thr, bV_thr, bA_thr, ] at k ⊢
    exact k
  · rintro τ rfl
    refine Wp.le (T_293_4 rfl h.lay) ?_
    rw [h.T]
    simp (disch := omega) only [ι_lt_t, ι_lt_f, ι_le_t, ι_le_f, ι_eq_f, ι_m1, ι_add, ι_mul, ι_pm, ι_sub, ix_ι, gd_inb, gd_t, eq_self, if_true, if_false, not_true_eq_false, not_false_eq_true, ite_self, ]
    exact Wp.retI rfl
theorem m296 (h : CM P T W R A σ) : pcall 296 [.ref 61] σ = some (1, .int (nothS P T A), σ) := by
  have hP := h.ok.P
  refine Wp.eqI (Wp.le (M_296 rfl h.lay) ?_)
  refine Wp.fdl (n := P) (f := fun p s => s ||| if thgS T A (ι p) = ι 0 then bit p else ι 0) (C := fun t b σ => C_296_4 b (ι t) σ) (I := fun τ => τ = σ) ?_ ?_ rfl
  · rintro t τ b ht rfl - k
    refine Wp.le (T_296_4 rfl h.lay) ?_
    have k := k τ rfl
    rw [h.P, m246 h]
    by_cases e : thgS T A (ι t) = ι 0 <;> simp (disch := omega) only [ι_lt_t, ι_lt_f, ι_le_t, ι_le_f, ι_eq_f, ι_m1, ι_add, ι_mul, ι_pm, ι_sub, ix_ι, gd_inb, gd_t, eq_self, if_true, if_false, not_true_eq_false, not_false_eq_true, ite_self, bI_ret, bJ_ret, bA_ret, bV_ret, bI_thr, bV_thr, bA_thr, e] at k ⊢ <;> exact k
  · rintro τ rfl
    refine Wp.le (T_296_4 rfl h.lay) ?_
    rw [h.P]
    simp (disch := omega) only [ι_lt_t, ι_lt_f, ι_le_t, ι_le_f, ι_eq_f, ι_m1, ι_add, ι_mul, ι_pm, ι_sub, ix_ι, gd_inb, gd_t, eq_self, if_true, if_false, not_true_eq_false, not_false_eq_true, ite_self, ]
    exact Wp.retI rfl
/-- the first of the most is kept with how much it is -/
theorem most_inv {n : Nat} {g : Nat → Int32} {s0 : Int32} (n0 : n < 2147483648) : (fd (fun t s => if s.2 < g t then (ι t, g t) else s) n (ν 1, s0)) = (ν 1, s0) ∨ ∃ k, k < n ∧ (fd (fun t s => if s.2 < g t then (ι t, g t) else s) n (ν 1, s0)) = (ι k, g k) := by
  induction n with
  | zero => left; rfl
  | succ n ih =>
    have ih := ih (by omega)
    show (if (fd _ n (ν 1, s0)).2 < g n then (ι n, g n) else fd _ n (ν 1, s0)) = _ ∨ _
    by_cases e : (fd (fun t s => if s.2 < g t then (ι t, g t) else s) n (ν 1, s0)).2 < g n
    · right
      refine ⟨n, by omega, ?_⟩
      show (if (fd _ n (ν 1, s0)).2 < g n then (ι n, g n) else fd _ n (ν 1, s0)) = _
      rw [if_pos e]
    · rw [if_neg e]
      rcases ih with h | ⟨k, hk, h⟩
      · left; exact h
      · right
        refine ⟨k, by omega, ?_⟩
        show (if (fd _ n (ν 1, s0)).2 < g n then (ι n, g n) else fd _ n (ν 1, s0)) = _
        rw [if_neg e]; exact h
theorem ν_ι {k : Nat} (h : k < 2147483648) : (ι k = ν 1) = False := ι_m1 h
theorem m294 (h : CM P T W R A σ) : pcall 294 [.ref 61] σ = some (1, .int (mostF T (gI σ 82)).1, σ) := by
  have hT := h.ok.T
  refine Wp.eqI (Wp.le (M_294 rfl h.lay) ?_)
  refine Wp.fdl (n := T) (b0 := (ν 1, ι 0)) (f := fun t s => if s.2 < gI σ 82 t then (ι t, gI σ 82 t) else s) (C := fun t b σ => C_294_4 b.1 (ι t) σ) (I := fun τ => τ = σ) ?_ ?_ rfl
  · rintro t τ b ht rfl hb k
    refine Wp.le (T_294_4 rfl h.lay) ?_
    have k := k τ rfl
    rw [h.T]
    have hi := most_inv (n := t) (g := gI τ 82) (s0 := ι 0) (by omega)
    rw [← hb] at hi
    rcases hi with rfl | ⟨j, hj, rfl⟩
    · by_cases e : ι 0 < gI τ 82 t <;> simp (disch := omega) only [ι_lt_t, ι_lt_f, ι_le_t, ι_le_f, ι_eq_f, ι_m1, ι_add, ι_mul, ι_pm, ι_sub, ix_ι, gd_inb, gd_t, eq_self, if_true, if_false, not_true_eq_false, not_false_eq_true, ite_self, bI_ret, bJ_ret, bA_ret, bV_ret, bI_thr, bV_thr, bA_thr, e, le_iff] at k ⊢ <;> exact k
    · by_cases e : gI τ 82 j < gI τ 82 t <;> simp (disch := omega) only [ι_lt_t, ι_lt_f, ι_le_t, ι_le_f, ι_eq_f, ι_m1, ι_add, ι_mul, ι_pm, ι_sub, ix_ι, gd_inb, gd_t, eq_self, if_true, if_false, not_true_eq_false, not_false_eq_true, ite_self, bI_ret, bJ_ret, bA_ret, bV_ret, bI_thr, bV_thr, bA_thr, e, le_iff] at k ⊢ <;> exact k
  · rintro τ rfl
    refine Wp.le (T_294_4 rfl h.lay) ?_
    rw [h.T]
    simp (disch := omega) only [ι_lt_t, ι_lt_f, ι_le_t, ι_le_f, ι_eq_f, ι_m1, ι_add, ι_mul, ι_pm, ι_sub, ix_ι, gd_inb, gd_t, eq_self, if_true, if_false, not_true_eq_false, not_false_eq_true, ite_self, ]
    exact Wp.retI rfl
theorem wel_nn (h : okW P T A) (hp : p < P) : ∃ n, n ≤ 9 * T ∧ welS T A p = ι n := by
  have hT := h.T
  have key : ∀ k, k ≤ T → ∃ n, n ≤ 9 * k ∧ fd (fun t s => s + if A 1 t = ι p then A 4 (12 * p + t) else ι 0) k (ι 0) = ι n := by
    intro k
    induction k with
    | zero => intro _; exact ⟨0, by omega, rfl⟩
    | succ k ih =>
      intro hk
      obtain ⟨n, h1, h2⟩ := ih (by omega)
      show ∃ n, n ≤ _ ∧ (fd _ k (ι 0) + if A 1 k = ι p then A 4 (12 * p + k) else ι 0) = ι n
      rw [h2]
      obtain ⟨v, hv, e⟩ := h.wor hp (show k < T by omega)
      by_cases e9 : A 1 k = ι p
      · rw [if_pos e9, e, ι_add]; exact ⟨n + v, by omega, rfl⟩
      · rw [if_neg e9, ι_add]; exact ⟨n + 0, by omega, rfl⟩
  exact key T (Nat.le_refl _)
theorem m295 (h : CM P T W R A σ) : pcall 295 [.ref 61] σ = some (1, .int (richS P T A).1, σ) := by
  have hP := h.ok.P
  have hT := h.ok.T
  refine Wp.eqI (Wp.le (M_295 rfl h.lay) ?_)
  refine Wp.fdl (n := P) (b0 := (ν 1, ν 1)) (f := fun p s => if s.2 < welS T A p then (ι p, welS T A p) else s) (C := fun t b σ => C_295_4 b.1 (ι t) σ) (I := fun τ => τ = σ) ?_ ?_ rfl
  · rintro t τ b ht rfl hb k
    refine Wp.le (T_295_4 rfl h.lay) ?_
    have k := k τ rfl
    rw [h.P]
    have hi := most_inv (n := t) (g := welS T A) (s0 := ν 1) (by omega)
    rw [← hb] at hi
    rcases hi with rfl | ⟨j, hj, rfl⟩
    · obtain ⟨n, hn, e⟩ := wel_nn h.ok ht
      have e2 : ν 1 < welS T A t := by
        rw [e]
        have h1 : ¬ ι n < ι 0 := by rw [ι_lt_f (by omega) (by omega)]; exact id
        exact Int32.lt_of_lt_of_le (show ν 1 < ι 0 by decide) (Int32.not_lt.mp h1)
      simp (disch := omega) only [ι_lt_t, ι_lt_f, ι_le_t, ι_le_f, ι_eq_f, ι_m1, ι_add, ι_mul, ι_pm, ι_sub, ix_ι, gd_inb, gd_t, eq_self, if_true, if_false, not_true_eq_false, not_false_eq_true, ite_self, bI_ret, bJ_ret, bA_ret, bV_ret, bI_thr, bV_thr, bA_thr, e2] at k ⊢
      exact k
    · rw [m252 h ht, bI_ret, m252 h (show j < P by omega), bI_ret]
      by_cases e : welS T A j < welS T A t <;> simp (disch := omega) only [ι_lt_t, ι_lt_f, ι_le_t, ι_le_f, ι_eq_f, ι_m1, ι_add, ι_mul, ι_pm, ι_sub, ix_ι, gd_inb, gd_t, eq_self, if_true, if_false, not_true_eq_false, not_false_eq_true, ite_self, bI_ret, bJ_ret, bA_ret, bV_ret, bI_thr, bV_thr, bA_thr, e, le_iff] at k ⊢ <;> exact k
  · rintro τ rfl
    refine Wp.le (T_295_4 rfl h.lay) ?_
    rw [h.P]
    simp (disch := omega) only [ι_lt_t, ι_lt_f, ι_le_t, ι_le_f, ι_eq_f, ι_m1, ι_add, ι_mul, ι_pm, ι_sub, ix_ι, gd_inb, gd_t, eq_self, if_true, if_false, not_true_eq_false, not_false_eq_true, ite_self, ]
    exact Wp.retI rfl
end MODEL1
