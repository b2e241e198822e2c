/-! ===== swaps: how many, the first; hedges: how many: both sides ===== -/
section SWAPS
variable {P T : Nat} {W R : Rl} {A B : Wd} {σ τ υ σ0 : pS} {t p o u n q : Nat}
theorem fd_skip {α : Type} {f : Nat → α → α} {n : Nat} {a : α} (h : ∀ i, i < n → f i a = a) : fd f n a = a := by
  induction n with
  | zero => rfl
  | succ n ih =>
    show f n (fd f n a) = a
    rw [ih (fun i hi => h i (by omega)), h n (by omega)]
def swI (A : Wd) (t u : Nat) (s : Nat) : Nat := s + if decide (t < u) && betS A t u = true then 1 else 0
def swN (T : Nat) (A : Wd) : Nat := fd (fun t s => fd (swI A t) T s) T 0
theorem swI_0 {s : Nat} : fd (swI A t) (t + 1) s = s := by
  refine fd_skip fun i hi => ?_
  unfold swI
  have : decide (t < i) = false := by simp; omega
  rw [this, Bool.false_and, if_neg (by decide)]; rfl
theorem swI_s {s : Nat} (h : t < u) : swI A t u s = s + if betS A t u = true then 1 else 0 := by
  unfold swI
  have : decide (t < u) = true := by simp; omega
  rw [this, Bool.true_and]
  simp only [decide_eq_true_eq]
theorem c118 (h : CW P T W R A σ 25 q) : pcall 118 [.ref 25] σ = some (1, .int (ι (swN T A)), σ) := by
  have hT := h.1.T
  refine Wp.eqI (Wp.le (M_118 (by decide) rfl h.lay) ?_)
  refine Wp.fdg (n := T) (b0 := 0) (f := fun t s => fd (swI A t) T s) (C := fun t b g σ => C_118_4 25 (ι b) (ι t) g σ) (I := fun τ => τ = σ) ?_ ?_ rfl
  · rintro t τ b g ht rfl - k
    refine Wp.le (T_118_4 (by decide) rfl h.lay) ?_
    rw [c87 h, bI_ret]
    simp (disch := omega) only [ι_lt_t, ι_lt_f, ι_le_t, ι_le_f, ι_eq_f, ι_m1, ι_add, ι_mul, ι_pm, ι_sub, ix_ι, gd_inb, gd_t, eq_self, if_true, if_false, not_true_eq_false, not_false_eq_true, ite_self, ]
    refine Wp.loop (α := Nat) T (fun u c => C_118_16 25 (ι c) (ι t) (ι u) τ) (fun u c => t < u ∧ c = fd (swI A t) u b) ?_ ?_ (t := t + 1) (a := b) (by omega) ⟨by omega, swI_0.symm⟩
    · rintro u c hu ⟨htu, hc⟩ k2
      refine Wp.le (T_118_16 (by decide) rfl h.lay) ?_
      rw [c87 h, bI_ret]
      simp (disch := omega) only [ι_lt_t, ι_lt_f, ι_le_t, ι_le_f, ι_eq_f, ι_m1, ι_add, ι_mul, ι_pm, ι_sub, ix_ι, gd_inb, gd_t, eq_self, if_true, if_false, not_true_eq_false, not_false_eq_true, ite_self, ]
      rw [c119 h ht hu, bI_ret]
      have k2 := k2 (swI A t u c) ⟨by omega, by rw [hc]; rfl⟩
      rw [swI_s htu] at k2
      by_cases e : betS A t u = true
      · simp (disch := omega) only [ι_lt_t, ι_lt_f, ι_le_t, ι_le_f, ι_eq_f, ι_m1, ι_add, ι_mul, ι_pm, ι_sub, ix_ι, gd_inb, gd_t, eq_self, if_true, if_false, not_true_eq_false, not_false_eq_true, ite_self, e, bz_t] at k2 ⊢; exact k2
      · have e' : betS A t u = false := by simpa using e
        simp (disch := omega) only [ι_lt_t, ι_lt_f, ι_le_t, ι_le_f, ι_eq_f, ι_m1, ι_add, ι_mul, ι_pm, ι_sub, ix_ι, gd_inb, gd_t, eq_self, if_true, if_false, not_true_eq_false, not_false_eq_true, ite_self, e', bz_f, Bool.false_eq_true] at k2 ⊢; exact k2
    · rintro c ⟨_, hc⟩
      refine Wp.le (T_118_16 (by decide) rfl h.lay) ?_
      rw [c87 h, bI_ret]
      simp (disch := omega) only [ι_lt_t, ι_lt_f, ι_le_t, ι_le_f, ι_eq_f, ι_m1, ι_add, ι_mul, ι_pm, ι_sub, ix_ι, gd_inb, gd_t, eq_self, if_true, if_false, not_true_eq_false, not_false_eq_true, ite_self, ]
      rw [hc]
      exact k _ _ rfl
  · rintro g τ rfl
    refine Wp.le (T_118_4 (by decide) rfl h.lay) ?_
    rw [c87 h, bI_ret]
    simp (disch := omega) only [ι_lt_t, ι_lt_f, ι_le_t, ι_le_f, ι_eq_f, ι_m1, ι_add, ι_mul, ι_pm, ι_sub, ix_ι, gd_inb, gd_t, eq_self, if_true, if_false, not_true_eq_false, not_false_eq_true, ite_self, ]
    exact Wp.retI rfl
/-- the first u of k from u on -/
def swS (A : Wd) (t : Nat) : Nat → Nat → Int32 → Int32
  | 0, _, d => d
  | k + 1, u, d => if betS A t u = true then ι (100 * t + u) else swS A t k (u + 1) d
def swF (T : Nat) (A : Wd) : Nat → Nat → Int32
  | 0, _ => ν 1
  | k + 1, t => swS A t (T - (t + 1)) (t + 1) (swF T A k (t + 1))
theorem c120 (h : CW P T W R A σ 25 q) : pcall 120 [.ref 25] σ = some (1, .int (swF T A T 0), σ) := by
  have hT := h.1.T
  refine Wp.eqI (Wp.le (M_120 (by decide) rfl h.lay) ?_)
  have key : ∀ k t g, t + k = T → Wp (C_120_2 25 (ι t) g σ) (RI (swF T A k t) (fun τ => τ = σ)) := by
    intro k
    induction k with
    | zero =>
      intro t g ht
      refine Wp.le (T_120_2 (by decide) rfl h.lay) ?_
      rw [c87 h, bI_ret]
      simp (disch := omega) only [ι_lt_t, ι_lt_f, ι_le_t, ι_le_f, ι_eq_f, ι_m1, ι_add, ι_mul, ι_pm, ι_sub, ix_ι, gd_inb, gd_t, eq_self, if_true, if_false, not_true_eq_false, not_false_eq_true, ite_self, ]
      exact Wp.retI rfl
    | succ k ih =>
      intro t g ht
      refine Wp.le (T_120_2 (by decide) rfl h.lay) ?_
      rw [c87 h, bI_ret]
      simp (disch := omega) only [ι_lt_t, ι_lt_f, ι_le_t, ι_le_f, ι_eq_f, ι_m1, ι_add, ι_mul, ι_pm, ι_sub, ix_ι, gd_inb, gd_t, eq_self, if_true, if_false, not_true_eq_false, not_false_eq_true, ite_self, ]
      have key2 : ∀ j u, u + j = T → Wp (C_120_14 25 (ι t) (ι u) σ) (RI (swS A t j u (swF T A k (t + 1))) (fun τ => τ = σ)) := by
        intro j
        induction j with
        | zero =>
          intro u hu
          refine Wp.le (T_120_14 (by decide) rfl h.lay) ?_
          rw [c87 h, bI_ret]
          simp (disch := omega) only [ι_lt_t, ι_lt_f, ι_le_t, ι_le_f, ι_eq_f, ι_m1, ι_add, ι_mul, ι_pm, ι_sub, ix_ι, gd_inb, gd_t, eq_self, if_true, if_false, not_true_eq_false, not_false_eq_true, ite_self, ]
          exact ih (t + 1) _ (by omega)
        | succ j ih2 =>
          intro u hu
          refine Wp.le (T_120_14 (by decide) rfl h.lay) ?_
          rw [c87 h, bI_ret]
          simp (disch := omega) only [ι_lt_t, ι_lt_f, ι_le_t, ι_le_f, ι_eq_f, ι_m1, ι_add, ι_mul, ι_pm, ι_sub, ix_ι, gd_inb, gd_t, eq_self, if_true, if_false, not_true_eq_false, not_false_eq_true, ite_self, ]
          rw [c119 h (by omega) (by omega), bI_ret]
          unfold swS
          by_cases e : betS A t u = true
          · rw [e, bz_t, if_neg (by decide), if_pos rfl]; exact Wp.retI rfl
          · have e' : betS A t u = false := by simpa using e
            rw [e', bz_f, if_pos rfl, if_neg (by decide)]
            exact ih2 (u + 1) (by omega)
      exact key2 (T - (t + 1)) (t + 1) (by omega)
  exact key T 0 _ (by omega)
theorem m253n (h : CM P T W R A σ) : pcall 253 [.ref 61, .int (ι 0)] σ = some (1, .int (ι (swN T A)), σ) := by
  have hT := h.ok.T
  refine Wp.eqI (Wp.le (M_253 rfl h.lay) ?_)
  refine Wp.fdg (n := T) (b0 := 0) (f := fun t s => fd (swI A t) T s) (C := fun t b g σ => C_253_4 (ι 0) (ι b) (ι t) g σ) (I := fun τ => τ = σ) ?_ ?_ rfl
  · rintro t τ b g ht rfl - k
    refine Wp.le (T_253_4 rfl h.lay) ?_
    rw [h.T]
    simp (disch := omega) only [ι_lt_t, ι_lt_f, ι_le_t, ι_le_f, ι_eq_f, ι_m1, ι_add, ι_mul, ι_pm, ι_sub, ix_ι, gd_inb, gd_t, eq_self, if_true, if_false, not_true_eq_false, not_false_eq_true, ite_self, ]
    refine Wp.loop (α := Nat) T (fun u c => C_253_19 (ι 0) (ι c) (ι t) (ι u) τ) (fun u c => t < u ∧ c = fd (swI A t) u b) ?_ ?_ (t := t + 1) (a := b) (by omega) ⟨by omega, swI_0.symm⟩
    · rintro u c hu ⟨htu, hc⟩ k2
      refine Wp.le (T_253_19 rfl h.lay) ?_
      rw [h.T]
      simp (disch := omega) only [ι_lt_t, ι_lt_f, ι_le_t, ι_le_f, ι_eq_f, ι_m1, ι_add, ι_mul, ι_pm, ι_sub, ix_ι, gd_inb, gd_t, eq_self, if_true, if_false, not_true_eq_false, not_false_eq_true, ite_self, ]
      rw [m254 h ht hu, bI_ret]
      have k2 := k2 (swI A t u c) ⟨by omega, by rw [hc]; rfl⟩
      rw [swI_s htu] at k2
      by_cases e : betS A t u = true
      · simp (disch := omega) only [ι_lt_t, ι_lt_f, ι_le_t, ι_le_f, ι_eq_f, ι_m1, ι_add, ι_mul, ι_pm, ι_sub, ix_ι, gd_inb, gd_t, eq_self, if_true, if_false, not_true_eq_false, not_false_eq_true, ite_self, e, bz_t] at k2 ⊢; exact k2
      · have e' : betS A t u = false := by simpa using e
        simp (disch := omega) only [ι_lt_t, ι_lt_f, ι_le_t, ι_le_f, ι_eq_f, ι_m1, ι_add, ι_mul, ι_pm, ι_sub, ix_ι, gd_inb, gd_t, eq_self, if_true, if_false, not_true_eq_false, not_false_eq_true, ite_self, e', bz_f, Bool.false_eq_true] at k2 ⊢; exact k2
    · rintro c ⟨_, hc⟩
      refine Wp.le (T_253_19 rfl h.lay) ?_
      rw [h.T]
      simp (disch := omega) only [ι_lt_t, ι_lt_f, ι_le_t, ι_le_f, ι_eq_f, ι_m1, ι_add, ι_mul, ι_pm, ι_sub, ix_ι, gd_inb, gd_t, eq_self, if_true, if_false, not_true_eq_false, not_false_eq_true, ite_self, ]
      rw [hc]
      exact k _ _ rfl
  · rintro g τ rfl
    refine Wp.le (T_253_4 rfl h.lay) ?_
    rw [h.T]
    simp (disch := omega) only [ι_lt_t, ι_lt_f, ι_le_t, ι_le_f, ι_eq_f, ι_m1, ι_add, ι_mul, ι_pm, ι_sub, ix_ι, gd_inb, gd_t, eq_self, if_true, if_false, not_true_eq_false, not_false_eq_true, ite_self, ]
    exact Wp.retI rfl
theorem m253f (h : CM P T W R A σ) : pcall 253 [.ref 61, .int (ι 1)] σ = some (1, .int (swF T A T 0), σ) := by
  have hT := h.ok.T
  refine Wp.eqI (Wp.le (M_253 rfl h.lay) ?_)
  have key : ∀ k t c g, t + k = T → Wp (C_253_4 (ι 1) c (ι t) g σ) (RI (swF T A k t) (fun τ => τ = σ)) := by
    intro k
    induction k with
    | zero =>
      intro t c g ht
      refine Wp.le (T_253_4 rfl h.lay) ?_
      rw [h.T]
      simp (disch := omega) only [ι_lt_t, ι_lt_f, ι_le_t, ι_le_f, ι_eq_f, ι_m1, ι_add, ι_mul, ι_pm, ι_sub, ix_ι, gd_inb, gd_t, eq_self, if_true, if_false, not_true_eq_false, not_false_eq_true, ite_self, ]
      exact Wp.retI rfl
    | succ k ih =>
      intro t c g ht
      refine Wp.le (T_253_4 rfl h.lay) ?_
      rw [h.T]
      simp (disch := omega) only [ι_lt_t, ι_lt_f, ι_le_t, ι_le_f, ι_eq_f, ι_m1, ι_add, ι_mul, ι_pm, ι_sub, ix_ι, gd_inb, gd_t, eq_self, if_true, if_false, not_true_eq_false, not_false_eq_true, ite_self, ]
      have key2 : ∀ j u, u + j = T → Wp (C_253_19 (ι 1) c (ι t) (ι u) σ) (RI (swS A t j u (swF T A k (t + 1))) (fun τ => τ = σ)) := by
        intro j
        induction j with
        | zero =>
          intro u hu
          refine Wp.le (T_253_19 rfl h.lay) ?_
          rw [h.T]
          simp (disch := omega) only [ι_lt_t, ι_lt_f, ι_le_t, ι_le_f, ι_eq_f, ι_m1, ι_add, ι_mul, ι_pm, ι_sub, ix_ι, gd_inb, gd_t, eq_self, if_true, if_false, not_true_eq_false, not_false_eq_true, ite_self, ]
          exact ih (t + 1) _ _ (by omega)
        | succ j ih2 =>
          intro u hu
          refine Wp.le (T_253_19 rfl h.lay) ?_
          rw [h.T]
          simp (disch := omega) only [ι_lt_t, ι_lt_f, ι_le_t, ι_le_f, ι_eq_f, ι_m1, ι_add, ι_mul, ι_pm, ι_sub, ix_ι, gd_inb, gd_t, eq_self, if_true, if_false, not_true_eq_false, not_false_eq_true, ite_self, ]
          rw [m254 h (by omega) (by omega), bI_ret]
          unfold swS
          by_cases e : betS A t u = true
          · simp (disch := omega) only [ι_lt_t, ι_lt_f, ι_le_t, ι_le_f, ι_eq_f, ι_m1, ι_add, ι_mul, ι_pm, ι_sub, ix_ι, gd_inb, gd_t, eq_self, if_true, if_false, not_true_eq_false, not_false_eq_true, ite_self, e, bz_t]; exact Wp.retI rfl
          · have e' : betS A t u = false := by simpa using e
            simp (disch := omega) only [ι_lt_t, ι_lt_f, ι_le_t, ι_le_f, ι_eq_f, ι_m1, ι_add, ι_mul, ι_pm, ι_sub, ix_ι, gd_inb, gd_t, eq_self, if_true, if_false, not_true_eq_false, not_false_eq_true, ite_self, e', bz_f, Bool.false_eq_true]
            exact ih2 (u + 1) (by omega)
      exact key2 (T - (t + 1)) (t + 1) (by omega)
  exact key T 0 _ _ (by omega)
/-- whom one sees, as a number -/
def seeN (A : Wd) (p : Nat) : Nat := ix (A 3 p)
theorem see_n (h : okW P T A) (hp : p < P) : A 3 p = ι (seeN A p) ∧ seeN A p < 2 ^ P ∧ seeN A p < 256 := by
  obtain ⟨m, hm, e⟩ := h.see hp
  have hP := h.P
  have h2 : 2 ^ P ≤ 2 ^ 8 := Nat.pow_le_pow_right (by omega) hP
  unfold seeN
  rw [e, ix_ι (by omega)]
  exact ⟨rfl, hm, by omega⟩
def hdgN (P : Nat) (A : Wd) : Nat := fd (fun p s => s + pc (seeN A p)) P 0
theorem pc_le (m : Nat) : pc m ≤ 12 := by
  unfold pc
  exact fd_le 12 (fun k => m.testBit k)
theorem hdg_le (n : Nat) : fd (fun p s => s + pc (seeN A p)) n 0 ≤ 12 * n := by
  induction n with
  | zero => exact Nat.le_refl _
  | succ n ih =>
    show fd _ n 0 + pc _ ≤ _
    have := pc_le (seeN A n)
    omega
theorem c125 (h : CW P T W R A σ 25 q) : pcall 125 [.ref 25] σ = some (1, .int (ι (hdgN P A / 2)), σ) := by
  have hP := h.1.P
  refine Wp.eqI (Wp.le (M_125 (by decide) rfl h.lay) ?_)
  refine Wp.fdl (n := P) (b0 := 0) (f := fun p s => s + pc (seeN A p)) (C := fun t b σ => C_125_4 25 (ι b) (ι t) σ) (I := fun τ => τ = σ) ?_ ?_ rfl
  · rintro p τ b hp rfl - k
    refine Wp.le (T_125_4 (by decide) rfl h.lay) ?_
    have k := k τ rfl
    obtain ⟨e1, _, e2⟩ := see_n h.1 hp
    rw [c86 h, bI_ret]
    simp (disch := omega) only [ι_lt_t, ι_lt_f, ι_le_t, ι_le_f, ι_eq_f, ι_m1, ι_add, ι_mul, ι_pm, ι_sub, ix_ι, gd_inb, gd_t, eq_self, if_true, if_false, not_true_eq_false, not_false_eq_true, ite_self, ]
    rw [c78 h hp, bI_ret, e1, p0 h.lay (by omega), bI_ret, ι_add]
    exact k
  · rintro τ rfl
    have hl := hdg_le (A := A) P
    refine Wp.le (T_125_4 (by decide) rfl h.lay) ?_
    rw [c86 h, bI_ret]
    simp (disch := omega) only [ι_lt_t, ι_lt_f, ι_le_t, ι_le_f, ι_eq_f, ι_m1, ι_add, ι_mul, ι_pm, ι_sub, ix_ι, gd_inb, gd_t, eq_self, if_true, if_false, not_true_eq_false, not_false_eq_true, ite_self, ]
    rw [ι_div (by omega) (by omega)]
    exact Wp.retI rfl
theorem m257 (h : CM P T W R A σ) : pcall 257 [.ref 61] σ = some (1, .int (ι (hdgN P A / 2)), σ) := by
  have hP := h.ok.P
  refine Wp.eqI (Wp.le (M_257 rfl h.lay) ?_)
  refine Wp.fdl (n := P) (b0 := 0) (f := fun p s => s + pc (seeN A p)) (C := fun t b σ => C_257_4 (ι b) (ι t) σ) (I := fun τ => τ = σ) ?_ ?_ rfl
  · rintro p τ b hp rfl - k
    refine Wp.le (T_257_4 rfl h.lay) ?_
    have k := k τ rfl
    obtain ⟨e1, _, e2⟩ := see_n h.ok hp
    rw [h.P]
    simp (disch := omega) only [ι_lt_t, ι_lt_f, ι_le_t, ι_le_f, ι_eq_f, ι_m1, ι_add, ι_mul, ι_pm, ι_sub, ix_ι, gd_inb, gd_t, eq_self, if_true, if_false, not_true_eq_false, not_false_eq_true, ite_self, h.see p hp, e1]
    rw [p247 h.lay (by omega), bI_ret, ι_add]
    exact k
  · rintro τ rfl
    have hl := hdg_le (A := A) P
    refine Wp.le (T_257_4 rfl h.lay) ?_
    rw [h.P]
    simp (disch := omega) only [ι_lt_t, ι_lt_f, ι_le_t, ι_le_f, ι_eq_f, ι_m1, ι_add, ι_mul, ι_pm, ι_sub, ix_ι, gd_inb, gd_t, eq_self, if_true, if_false, not_true_eq_false, not_false_eq_true, ite_self, ]
    rw [ι_div (by omega) (by omega)]
    exact Wp.retI rfl
end SWAPS
