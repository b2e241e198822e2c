/-! ===== who envies whom, swaps: both sides ===== -/
section ENVY
variable {P T : Nat} {W R : Rl} {A B : Wd} {σ τ υ σ0 : pS} {t p o u n q : Nat} {x0 x1 x2 : Int32}
theorem Wp.eqI2 {d : Option pZ} {v : Int32} {σ : pS} (h : d = some (1, .int v, σ)) : Wp d (RI v (fun τ => τ = σ)) := .of h ⟨σ, rfl, rfl⟩
def theS (T : Nat) (A : Wd) (p o : Nat) : Int32 := fd (fun t s => s + if A 1 t = ι o then lookS A p t else ι 0) T (ι 0)
def envS (T : Nat) (A : Wd) (p o : Nat) : Bool := decide (p ≠ o ∧ welS T A p < theS T A p o)
theorem c117 (h : CW P T W R A σ 25 q) (hp : p < P) (ho : o < P) : pcall 117 [.ref 25, .int (ι p), .int (ι o)] σ = some (1, .int (bz (envS T A p o)), σ) := by
  have hT := h.1.T; have hP := h.1.P
  refine Wp.eqI (Wp.le (M_117 (by decide) rfl h.lay) ?_)
  refine Wp.fdl (n := T) (f := fun t s => s + if A 1 t = ι o then lookS A p t else ι 0) (C := fun t b σ => C_117_5 25 (ι p) (ι o) b (ι t) σ) (I := fun τ => τ = σ) ?_ ?_ rfl
  · rintro t τ b ht rfl - k
    refine Wp.le (T_117_5 (by decide) rfl h.lay) ?_
    have k := k τ rfl
    rw [c87 h, bI_ret]
    simp (disch := omega) only [ι_lt_t, ι_lt_f, ι_le_t, ι_le_f, ι_eq_f, ι_m1, ι_add, ι_mul, ι_pm, ι_sub, ix_ι, gd_inb, gd_t, eq_self, if_true, if_false, not_true_eq_false, not_false_eq_true, ite_self, ]
    rw [c75 h ht, bI_ret, c73 h hp ht]
    by_cases e : A 1 t = ι o <;> simp (disch := omega) only [ι_lt_t, ι_lt_f, ι_le_t, ι_le_f, ι_eq_f, ι_m1, ι_add, ι_mul, ι_pm, ι_sub, ix_ι, gd_inb, gd_t, eq_self, if_true, if_false, not_true_eq_false, not_false_eq_true, ite_self, bI_ret, bJ_ret, bA_ret, bV_ret, bI_thr, bV_thr, bA_thr, e] at k ⊢ <;> exact k
  · rintro τ rfl
    refine Wp.le (T_117_5 (by decide) rfl h.lay) ?_
    rw [c87 h, bI_ret]
    simp (disch := omega) only [ι_lt_t, ι_lt_f, ι_le_t, ι_le_f, ι_eq_f, ι_m1, ι_add, ι_mul, ι_pm, ι_sub, ix_ι, gd_inb, gd_t, eq_self, if_true, if_false, not_true_eq_false, not_false_eq_true, ite_self, ]
    unfold envS
    by_cases e : p = o
    · subst e
      rw [if_pos rfl]; exact Wp.retI' (by simp [bz]) rfl
    · rw [if_neg (by rw [ι_eq (by omega) (by omega)]; exact e), c90 h hp, bI_ret]
      by_cases e2 : welS T A p < theS T A p o
      · have e3 : ¬ fd (fun t s => s + if A 1 t = ι o then lookS A p t else ι 0) T (ι 0) ≤ welS T A p := Int32.not_le.mpr e2
        rw [if_neg e3]; exact Wp.retI' (by simp [bz, e, e2]) rfl
      · have e3 : fd (fun t s => s + if A 1 t = ι o then lookS A p t else ι 0) T (ι 0) ≤ welS T A p := Int32.not_lt.mp e2
        rw [if_pos e3]; exact Wp.retI' (by simp [bz, e, e2]) rfl
theorem m251 (h : CM P T W R A σ) (hp : p < P) (ho : o < P) : pcall 251 [.ref 61, .int (ι p), .int (ι o)] σ = some (1, .int (bz (envS T A p o)), σ) := by
  have hT := h.ok.T; have hP := h.ok.P
  refine Wp.eqI (Wp.le (M_251 rfl h.lay) ?_)
  refine Wp.fdl (n := T) (f := fun t s => s + if A 1 t = ι o then lookS A p t else ι 0) (C := fun t b σ => C_251_5 (ι p) (ι o) b (ι t) σ) (I := fun τ => τ = σ) ?_ ?_ rfl
  · rintro t τ b ht rfl - k
    refine Wp.le (T_251_5 rfl h.lay) ?_
    have k := k τ rfl
    rw [h.T, m244 h hp ht]
    by_cases e : A 1 t = ι o <;> simp (disch := omega) only [ι_lt_t, ι_lt_f, ι_le_t, ι_le_f, ι_eq_f, ι_m1, ι_add, ι_mul, ι_pm, ι_sub, ix_ι, gd_inb, gd_t, eq_self, if_true, if_false, not_true_eq_false, not_false_eq_true, ite_self, bI_ret, bJ_ret, bA_ret, bV_ret, bI_thr, bV_thr, bA_thr, e, h.own t ht] at k ⊢ <;> exact k
  · rintro τ rfl
    refine Wp.le (T_251_5 rfl h.lay) ?_
    rw [h.T]
    simp (disch := omega) only [ι_lt_t, ι_lt_f, ι_le_t, ι_le_f, ι_eq_f, ι_m1, ι_add, ι_mul, ι_pm, ι_sub, ix_ι, gd_inb, gd_t, eq_self, if_true, if_false, not_true_eq_false, not_false_eq_true, ite_self, ]
    unfold envS
    by_cases e : p = o
    · subst e
      rw [if_pos rfl]; exact Wp.retI' (by simp [bz]) rfl
    · rw [if_neg (by rw [ι_eq (by omega) (by omega)]; exact e), m252 h hp, bI_ret]
      by_cases e2 : welS T A p < theS T A p o
      · have e3 : ¬ fd (fun t s => s + if A 1 t = ι o then lookS A p t else ι 0) T (ι 0) ≤ welS T A p := Int32.not_le.mpr e2
        rw [if_neg e3]; exact Wp.retI' (by simp [bz, e, e2]) rfl
      · have e3 : fd (fun t s => s + if A 1 t = ι o then lookS A p t else ι 0) T (ι 0) ≤ welS T A p := Int32.not_lt.mp e2
        rw [if_pos e3]; exact Wp.retI' (by simp [bz, e, e2]) rfl
/-- how many couples -/
def cpl (P : Nat) (f : Nat → Nat → Bool) : Nat := fd (fun p s => fd (fun o s => s + if f p o = true then 1 else 0) P s) P 0
theorem fd_add (P : Nat) (g : Nat → Bool) (s : Nat) : fd (fun o s => s + if g o = true then 1 else 0) P s = s + fd (fun o s => s + if g o = true then 1 else 0) P 0 := by
  induction P with
  | zero => rfl
  | succ P ih =>
    show fd _ P s + _ = s + (fd _ P 0 + _)
    rw [ih, Nat.add_assoc]
theorem fd_le (P : Nat) (g : Nat → Bool) : fd (fun o s => s + if g o = true then 1 else 0) P 0 ≤ P := by
  induction P with
  | zero => exact Nat.le_refl _
  | succ P ih =>
    show fd _ P 0 + (if g P = true then 1 else 0) ≤ P + 1
    split <;> omega
theorem fd_0 (P : Nat) (g : Nat → Bool) : fd (fun o s => s + if g o = true then 1 else 0) P 0 = 0 ↔ ∀ o, o < P → g o = false := by
  induction P with
  | zero => exact ⟨fun _ j hj => absurd hj (Nat.not_lt_zero j), fun _ => rfl⟩
  | succ P ih =>
    show fd _ P 0 + (if g P = true then 1 else 0) = 0 ↔ _
    constructor
    · intro h o ho
      by_cases e : o = P
      · subst e
        cases e2 : g o with
        | false => rfl
        | true => rw [e2, if_pos rfl] at h; omega
      · exact ih.mp (by omega) o (by omega)
    · intro h
      rw [ih.mpr (fun j hj => h j (by omega)), h P (by omega), if_neg (by decide)]
theorem cpl_n (n : Nat) (f : Nat → Nat → Bool) : fd (fun p s => fd (fun o s => s + if f p o = true then 1 else 0) P s) n 0 ≤ n * P ∧ (fd (fun p s => fd (fun o s => s + if f p o = true then 1 else 0) P s) n 0 = 0 ↔ ∀ p, p < n → ∀ o, o < P → f p o = false) := by
  induction n with
  | zero => exact ⟨Nat.zero_le _, fun _ j hj => absurd hj (Nat.not_lt_zero j), fun _ => rfl⟩
  | succ n ih =>
    have e : fd (fun p s => fd (fun o s => s + if f p o = true then 1 else 0) P s) (n + 1) 0 = fd (fun p s => fd (fun o s => s + if f p o = true then 1 else 0) P s) n 0 + fd (fun o s => s + if f n o = true then 1 else 0) P 0 := fd_add P (f n) _
    rw [e]
    have h1 := fd_le P (f n)
    have h2 := fd_0 P (f n)
    refine ⟨by rw [Nat.add_mul]; omega, ?_, ?_⟩
    · intro h p hp
      by_cases e2 : p = n
      · subst e2; exact h2.mp (by omega)
      · exact ih.2.mp (by omega) p (by omega)
    · intro h
      rw [ih.2.mpr (fun p hp => h p (by omega)), h2.mpr (h n (by omega))]
theorem cpl_0 (f : Nat → Nat → Bool) : cpl P f = 0 ↔ ∀ p, p < P → ∀ o, o < P → f p o = false := (cpl_n P f).2
theorem cpl_le (hP : P ≤ 8) (f : Nat → Nat → Bool) : cpl P f ≤ 64 := by
  have := (cpl_n (P := P) P f).1
  have h2 : P * P ≤ 8 * 8 := Nat.mul_le_mul hP hP
  unfold cpl; omega
theorem c116 (h : CW P T W R A σ 25 q) : pcall 116 [.ref 25] σ = some (1, .int (ι (cpl P (envS T A))), σ) := by
  have hP := h.1.P
  refine Wp.eqI (Wp.le (M_116 (by decide) rfl h.lay) ?_)
  refine Wp.fdg (n := P) (b0 := 0) (f := fun p s => fd (fun o s => s + if envS T A p o = true then 1 else 0) P s) (C := fun p b g σ => C_116_4 25 (ι b) (ι p) g σ) (I := fun τ => τ = σ) ?_ ?_ rfl
  · rintro p τ b g hp rfl - k
    refine Wp.le (T_116_4 (by decide) rfl h.lay) ?_
    rw [c86 h, bI_ret]
    simp (disch := omega) only [ι_lt_t, ι_lt_f, ι_le_t, ι_le_f, ι_eq_f, ι_m1, ι_add, ι_mul, ι_pm, ι_sub, ix_ι, gd_inb, gd_t, eq_self, if_true, if_false, not_true_eq_false, not_false_eq_true, ite_self, ]
    refine Wp.fdl (n := P) (b0 := b) (f := fun o s => s + if envS T A p o = true then 1 else 0) (C := fun o b σ => C_116_14 25 (ι b) (ι p) (ι o) σ) (I := fun υ => υ = τ) ?_ ?_ rfl
    · rintro o υ c ho rfl - k2
      refine Wp.le (T_116_14 (by decide) rfl h.lay) ?_
      have k2 := k2 υ rfl
      rw [c86 h, bI_ret]
      simp (disch := omega) only [ι_lt_t, ι_lt_f, ι_le_t, ι_le_f, ι_eq_f, ι_m1, ι_add, ι_mul, ι_pm, ι_sub, ix_ι, gd_inb, gd_t, eq_self, if_true, if_false, not_true_eq_false, not_false_eq_true, ite_self, ]
      rw [c117 h hp ho, bI_ret]
      by_cases e : envS T A p o = true
      · simp (disch := omega) only [ι_lt_t, ι_lt_f, ι_le_t, ι_le_f, ι_eq_f, ι_m1, ι_add, ι_mul, ι_pm, ι_sub, ix_ι, gd_inb, gd_t, eq_self, if_true, if_false, not_true_eq_false, not_false_eq_true, ite_self, e, bz_t] at k2 ⊢; exact k2
      · have e' : envS T A p o = false := by simpa using e
        simp (disch := omega) only [ι_lt_t, ι_lt_f, ι_le_t, ι_le_f, ι_eq_f, ι_m1, ι_add, ι_mul, ι_pm, ι_sub, ix_ι, gd_inb, gd_t, eq_self, if_true, if_false, not_true_eq_false, not_false_eq_true, ite_self, e', bz_f, Bool.false_eq_true] at k2 ⊢; exact k2
    · rintro υ rfl
      refine Wp.le (T_116_14 (by decide) rfl h.lay) ?_
      rw [c86 h, bI_ret]
      simp (disch := omega) only [ι_lt_t, ι_lt_f, ι_le_t, ι_le_f, ι_eq_f, ι_m1, ι_add, ι_mul, ι_pm, ι_sub, ix_ι, gd_inb, gd_t, eq_self, if_true, if_false, not_true_eq_false, not_false_eq_true, ite_self, ]
      exact k _ _ rfl
  · rintro g τ rfl
    refine Wp.le (T_116_4 (by decide) rfl h.lay) ?_
    rw [c86 h, bI_ret]
    simp (disch := omega) only [ι_lt_t, ι_lt_f, ι_le_t, ι_le_f, ι_eq_f, ι_m1, ι_add, ι_mul, ι_pm, ι_sub, ix_ι, gd_inb, gd_t, eq_self, if_true, if_false, not_true_eq_false, not_false_eq_true, ite_self, ]
    exact Wp.retI rfl
/-- envy of one whom one sees -/
def envN (T : Nat) (A : Wd) (p o : Nat) : Bool := envS T A p o && tb (A 3 p) o
theorem c121 (h : CW P T W R A σ 25 q) : pcall 121 [.ref 25] σ = some (1, .int (bz (decide (cpl P (envN T A) = 0))), σ) := by
  have hP := h.1.P
  refine Wp.eqI (Wp.le (M_121 (by decide) rfl h.lay) ?_)
  refine Wp.loop (α := Value) P (fun p g => C_121_2 25 (ι p) g σ) (fun p _ => ∀ s, s < p → ∀ o, o < P → envN T A s o = false) ?_ ?_ (t := 0) (a := .retAddr 0) (Nat.zero_le _) (fun s hs => absurd hs (Nat.not_lt_zero s))
  · rintro p g hp hi k
    refine Wp.le (T_121_2 (by decide) rfl h.lay) ?_
    rw [c86 h, bI_ret]
    simp (disch := omega) only [ι_lt_t, ι_lt_f, ι_le_t, ι_le_f, ι_eq_f, ι_m1, ι_add, ι_mul, ι_pm, ι_sub, ix_ι, gd_inb, gd_t, eq_self, if_true, if_false, not_true_eq_false, not_false_eq_true, ite_self, ]
    refine Wp.loop (α := Unit) P (fun o _ => C_121_12 25 (ι p) (ι o) σ) (fun o _ => ∀ s, s < o → envN T A p s = false) ?_ ?_ (t := 0) (a := ()) (Nat.zero_le _) (fun s hs => absurd hs (Nat.not_lt_zero s))
    · rintro o _ ho hi2 k2
      refine Wp.le (T_121_12 (by decide) rfl h.lay) ?_
      rw [c86 h, bI_ret]
      simp (disch := omega) only [ι_lt_t, ι_lt_f, ι_le_t, ι_le_f, ι_eq_f, ι_m1, ι_add, ι_mul, ι_pm, ι_sub, ix_ι, gd_inb, gd_t, eq_self, if_true, if_false, not_true_eq_false, not_false_eq_true, ite_self, ]
      rw [p91 (by decide) h.lay (by omega) (by omega), bI_ret, h.see hp]
      have nx : envN T A p o = false → ∀ s, s < o + 1 → envN T A p s = false := fun e s hs => by
        by_cases e2 : s = o
        · rw [e2]; exact e
        · exact hi2 s (by omega)
      by_cases e1 : tb (A 3 p) o = true
      · rw [e1, bz_t, if_neg (by decide), c117 h hp ho, bI_ret]
        by_cases e : envS T A p o = true
        · rw [e, bz_t, if_neg (by decide)]
          refine Wp.retI' ?_ rfl
          have : ¬ cpl P (envN T A) = 0 := fun g => by
            have := (cpl_0 _).mp g p hp o ho
            unfold envN at this
            rw [e, e1] at this; cases this
          simp [this, bz]
        · have e' : envS T A p o = false := by simpa using e
          rw [e', bz_f, if_pos rfl]
          exact k2 () (nx (by unfold envN; rw [e']; rfl))
      · have e1' : tb (A 3 p) o = false := by simpa using e1
        rw [e1', bz_f, if_pos rfl]
        exact k2 () (nx (by unfold envN; rw [e1', Bool.and_false]))
    · rintro _ hi2
      refine Wp.le (T_121_12 (by decide) rfl h.lay) ?_
      rw [c86 h, bI_ret]
      simp (disch := omega) only [ι_lt_t, ι_lt_f, ι_le_t, ι_le_f, ι_eq_f, ι_m1, ι_add, ι_mul, ι_pm, ι_sub, ix_ι, gd_inb, gd_t, eq_self, if_true, if_false, not_true_eq_false, not_false_eq_true, ite_self, ]
      exact k _ (fun s hs => by
        by_cases e2 : s = p
        · rw [e2]; exact hi2
        · exact hi s (by omega))
  · rintro g hi
    refine Wp.le (T_121_2 (by decide) rfl h.lay) ?_
    rw [c86 h, bI_ret]
    simp (disch := omega) only [ι_lt_t, ι_lt_f, ι_le_t, ι_le_f, ι_eq_f, ι_m1, ι_add, ι_mul, ι_pm, ι_sub, ix_ι, gd_inb, gd_t, eq_self, if_true, if_false, not_true_eq_false, not_false_eq_true, ite_self, ]
    refine Wp.retI' ?_ rfl
    rw [(cpl_0 (envN T A)).mpr hi]; rfl
theorem m250 (h : CM P T W R A σ) {b : Bool} : pcall 250 [.ref 61, .int (bz b)] σ = some (1, .int (ι (cpl P (if b = true then envN T A else envS T A))), σ) := by
  have hP := h.ok.P
  refine Wp.eqI (Wp.le (M_250 rfl h.lay) ?_)
  refine Wp.fdg (n := P) (b0 := 0) (f := fun p s => fd (fun o s => s + if (if b = true then envN T A else envS T A) p o = true then 1 else 0) P s) (C := fun p c g σ => C_250_4 (bz b) (ι c) (ι p) g σ) (I := fun τ => τ = σ) ?_ ?_ rfl
  · rintro p τ c g hp rfl - k
    refine Wp.le (T_250_4 rfl h.lay) ?_
    rw [h.P]
    simp (disch := omega) only [ι_lt_t, ι_lt_f, ι_le_t, ι_le_f, ι_eq_f, ι_m1, ι_add, ι_mul, ι_pm, ι_sub, ix_ι, gd_inb, gd_t, eq_self, if_true, if_false, not_true_eq_false, not_false_eq_true, ite_self, ]
    refine Wp.fdl (n := P) (b0 := c) (f := fun o s => s + if (if b = true then envN T A else envS T A) p o = true then 1 else 0) (C := fun o c σ => C_250_17 (bz b) (ι c) (ι p) (ι o) σ) (I := fun υ => υ = τ) ?_ ?_ rfl
    · rintro o υ c ho rfl - k2
      refine Wp.le (T_250_17 rfl h.lay) ?_
      have k2 := k2 υ rfl
      rw [h.P]
      simp (disch := omega) only [ι_lt_t, ι_lt_f, ι_le_t, ι_le_f, ι_eq_f, ι_m1, ι_add, ι_mul, ι_pm, ι_sub, ix_ι, gd_inb, gd_t, eq_self, if_true, if_false, not_true_eq_false, not_false_eq_true, ite_self, ]
      rw [m251 h hp ho, bI_ret]
      by_cases e : envS T A p o = true
      · rw [e, bz_t, if_neg (by decide)]
        cases b with
        | false =>
          rw [bz_f, if_pos rfl]
          simp (disch := omega) only [ι_lt_t, ι_lt_f, ι_le_t, ι_le_f, ι_eq_f, ι_m1, ι_add, ι_mul, ι_pm, ι_sub, ix_ι, gd_inb, gd_t, eq_self, if_true, if_false, not_true_eq_false, not_false_eq_true, ite_self, e, Bool.false_eq_true, bz_f] at k2 ⊢; exact k2
        | true =>
          rw [bz_t, if_neg (by decide), h.see p hp, p236 h.lay (by omega), bI_ret]
          unfold envN at k2
          by_cases e1 : tb (A 3 p) o = true
          · simp (disch := omega) only [ι_lt_t, ι_lt_f, ι_le_t, ι_le_f, ι_eq_f, ι_m1, ι_add, ι_mul, ι_pm, ι_sub, ix_ι, gd_inb, gd_t, eq_self, if_true, if_false, not_true_eq_false, not_false_eq_true, ite_self, e, e1, bz_t, Bool.and_self] at k2 ⊢; exact k2
          · have e1' : tb (A 3 p) o = false := by simpa using e1
            simp (disch := omega) only [ι_lt_t, ι_lt_f, ι_le_t, ι_le_f, ι_eq_f, ι_m1, ι_add, ι_mul, ι_pm, ι_sub, ix_ι, gd_inb, gd_t, eq_self, if_true, if_false, not_true_eq_false, not_false_eq_true, ite_self, e, e1', bz_f, bz_t, Bool.and_false, Bool.false_eq_true] at k2 ⊢; exact k2
      · have e' : envS T A p o = false := by simpa using e
        rw [e', bz_f, if_pos rfl]
        cases b with
        | false => simp (disch := omega) only [ι_lt_t, ι_lt_f, ι_le_t, ι_le_f, ι_eq_f, ι_m1, ι_add, ι_mul, ι_pm, ι_sub, ix_ι, gd_inb, gd_t, eq_self, if_true, if_false, not_true_eq_false, not_false_eq_true, ite_self, e', Bool.false_eq_true, bz_f] at k2 ⊢; exact k2
        | true =>
          unfold envN at k2
          simp (disch := omega) only [ι_lt_t, ι_lt_f, ι_le_t, ι_le_f, ι_eq_f, ι_m1, ι_add, ι_mul, ι_pm, ι_sub, ix_ι, gd_inb, gd_t, eq_self, if_true, if_false, not_true_eq_false, not_false_eq_true, ite_self, e', Bool.false_and, Bool.false_eq_true, bz_t] at k2 ⊢; exact k2
    · rintro υ rfl
      refine Wp.le (T_250_17 rfl h.lay) ?_
      rw [h.P]
      simp (disch := omega) only [ι_lt_t, ι_lt_f, ι_le_t, ι_le_f, ι_eq_f, ι_m1, ι_add, ι_mul, ι_pm, ι_sub, ix_ι, gd_inb, gd_t, eq_self, if_true, if_false, not_true_eq_false, not_false_eq_true, ite_self, ]
      exact k _ _ rfl
  · rintro g τ rfl
    refine Wp.le (T_250_4 rfl h.lay) ?_
    rw [h.P]
    simp (disch := omega) only [ι_lt_t, ι_lt_f, ι_le_t, ι_le_f, ι_eq_f, ι_m1, ι_add, ι_mul, ι_pm, ι_sub, ix_ι, gd_inb, gd_t, eq_self, if_true, if_false, not_true_eq_false, not_false_eq_true, ite_self, ]
    exact Wp.retI rfl
/-- both gain -/
def betS (A : Wd) (t u : Nat) : Bool := decide (¬ A 1 t = A 1 u ∧ A 4 (12 * ix (A 1 t) + t) < lookS A (ix (A 1 t)) u ∧ A 4 (12 * ix (A 1 u) + u) < lookS A (ix (A 1 u)) t)
theorem c119 (h : CW P T W R A σ 25 q) (ht : t < T) (hu : u < T) : pcall 119 [.ref 25, .int (ι t), .int (ι u)] σ = some (1, .int (bz (betS A t u)), σ) := by
  have hP := h.1.P
  obtain ⟨a, ha, e1⟩ := h.1.own ht
  obtain ⟨b, hb, e2⟩ := h.1.own hu
  refine (M_119 (by decide) rfl h.lay).eq ?_
  unfold betS
  rw [c75 h ht, bI_ret, c75 h hu, bI_ret, e1, e2, c73 h ha hu, bI_ret, c74 h ha ht, bI_ret, c73 h hb ht, bI_ret, c74 h hb hu, bI_ret, ix_ι (by omega), ix_ι (by omega)]
  by_cases x1 : ι a = ι b
  · simp [x1, bz]
  · by_cases x2 : A 4 (12 * a + t) < lookS A a u
    · have y2 : ¬ lookS A a u ≤ A 4 (12 * a + t) := Int32.not_le.mpr x2
      by_cases x3 : A 4 (12 * b + u) < lookS A b t
      · have y3 : ¬ lookS A b t ≤ A 4 (12 * b + u) := Int32.not_le.mpr x3
        rw [if_neg x1, if_neg y2, if_neg y3]; simp [x1, x2, x3, bz]
      · have y3 : lookS A b t ≤ A 4 (12 * b + u) := Int32.not_lt.mp x3
        rw [if_neg x1, if_neg y2, if_pos y3]; simp [x3, bz]
    · have y2 : lookS A a u ≤ A 4 (12 * a + t) := Int32.not_lt.mp x2
      rw [if_neg x1, if_pos y2]; simp [x2, bz]
theorem m254 (h : CM P T W R A σ) (ht : t < T) (hu : u < T) : pcall 254 [.ref 61, .int (ι t), .int (ι u)] σ = some (1, .int (bz (betS A t u)), σ) := by
  have hP := h.ok.P; have hT := h.ok.T
  obtain ⟨a, ha, e1⟩ := h.ok.own ht
  obtain ⟨b, hb, e2⟩ := h.ok.own hu
  refine (M_254 rfl h.lay).eq ?_
  unfold betS
  simp (disch := omega) only [ι_lt_t, ι_lt_f, ι_le_t, ι_le_f, ι_eq_f, ι_m1, ι_add, ι_mul, ι_pm, ι_sub, ix_ι, gd_inb, gd_t, eq_self, if_true, if_false, not_true_eq_false, not_false_eq_true, ite_self, h.own t ht, h.own u hu, e1, e2]
  rw [m244 h ha hu, bI_ret, m245 h ha ht, bI_ret, m244 h hb ht, bI_ret, m245 h hb hu, bI_ret]
  by_cases x1 : ι a = ι b
  · simp [x1, bz]
  · by_cases x2 : A 4 (12 * a + t) < lookS A a u
    · have y2 : ¬ lookS A a u ≤ A 4 (12 * a + t) := Int32.not_le.mpr x2
      by_cases x3 : A 4 (12 * b + u) < lookS A b t
      · have y3 : ¬ lookS A b t ≤ A 4 (12 * b + u) := Int32.not_le.mpr x3
        rw [if_neg x1, if_neg y2, if_neg y3]; simp [x1, x2, x3, bz]
      · have y3 : lookS A b t ≤ A 4 (12 * b + u) := Int32.not_lt.mp x3
        rw [if_neg x1, if_neg y2, if_pos y3]; simp [x3, bz]
    · have y2 : lookS A a u ≤ A 4 (12 * a + t) := Int32.not_lt.mp x2
      rw [if_neg x1, if_pos y2]; simp [x2, bz]
end ENVY
