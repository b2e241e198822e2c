/-! ===== the class's worlds, provinces, rules: what is read, what is put ===== -/
section WORLD1
variable {P T : Nat} {W R : Rl} {A : Wd} {σ : pS} {w q u p t : Nat}
theorem gd_nb {b : Bool} {t : Option pZ} : gd (narrow .boolean (.int (bz b)) = .int (bz b)) t = t := gd_pos (narrow_bz b)
theorem p75 (hw : isW w) (hL : LayR (gR σ)) (ht : t < 12) : pcall 75 [.ref w, .int (ι t)] σ = some (1, .int (gI σ (w + 1) t), σ) := by
  refine (M_75 hw rfl hL).eq ?_
  simp (disch := omega) only [ι_lt_t, ι_lt_f, ι_le_t, ι_le_f, ι_eq_f, ι_m1, ι_add, ι_mul, ι_pm, ι_sub, ix_ι, gd_inb, gd_t, eq_self, if_true, if_false, not_true_eq_false, not_false_eq_true, ite_self, bI_ret, bJ_ret, bA_ret, bV_ret, bI_thr, bV_thr, bA_thr, ite_self]
theorem p76 (hw : isW w) (hL : LayR (gR σ)) (ht : t < 12) : pcall 76 [.ref w, .int (ι t)] σ = some (1, .int (gI σ (w + 2) t), σ) := by
  refine (M_76 hw rfl hL).eq ?_
  simp (disch := omega) only [ι_lt_t, ι_lt_f, ι_le_t, ι_le_f, ι_eq_f, ι_m1, ι_add, ι_mul, ι_pm, ι_sub, ix_ι, gd_inb, gd_t, eq_self, if_true, if_false, not_true_eq_false, not_false_eq_true, ite_self, bI_ret, bJ_ret, bA_ret, bV_ret, bI_thr, bV_thr, bA_thr, ite_self]
theorem p97 (hw : isW w) (hL : LayR (gR σ)) (ht : t < 12) : pcall 97 [.ref w, .int (ι t)] σ = some (1, .int (gI σ (w + 5) t), σ) := by
  refine (M_97 hw rfl hL).eq ?_
  simp (disch := omega) only [ι_lt_t, ι_lt_f, ι_le_t, ι_le_f, ι_eq_f, ι_m1, ι_add, ι_mul, ι_pm, ι_sub, ix_ι, gd_inb, gd_t, eq_self, if_true, if_false, not_true_eq_false, not_false_eq_true, ite_self, bI_ret, bJ_ret, bA_ret, bV_ret, bI_thr, bV_thr, bA_thr, ite_self]
theorem p78 (hw : isW w) (hL : LayR (gR σ)) (ht : p < 8) : pcall 78 [.ref w, .int (ι p)] σ = some (1, .int (gI σ (w + 3) p), σ) := by
  refine (M_78 hw rfl hL).eq ?_
  simp (disch := omega) only [ι_lt_t, ι_lt_f, ι_le_t, ι_le_f, ι_eq_f, ι_m1, ι_add, ι_mul, ι_pm, ι_sub, ix_ι, gd_inb, gd_t, eq_self, if_true, if_false, not_true_eq_false, not_false_eq_true, ite_self, bI_ret, bJ_ret, bA_ret, bV_ret, bI_thr, bV_thr, bA_thr, ite_self]
theorem p74 (hw : isW w) (hL : LayR (gR σ)) (hp : p < 8) (ht : t < 12) : pcall 74 [.ref w, .int (ι p), .int (ι t)] σ = some (1, .int (gI σ (w + 4) (12 * p + t)), σ) := by
  refine (M_74 hw rfl hL).eq ?_
  simp (disch := omega) only [ι_lt_t, ι_lt_f, ι_le_t, ι_le_f, ι_eq_f, ι_m1, ι_add, ι_mul, ι_pm, ι_sub, ix_ι, gd_inb, gd_t, eq_self, if_true, if_false, not_true_eq_false, not_false_eq_true, ite_self, bI_ret, bJ_ret, bA_ret, bV_ret, bI_thr, bV_thr, bA_thr, ite_self, Nat.mul_comm p 12]
theorem p80 (hw : isW w) (hL : LayR (gR σ)) (ht : t < 12) (x : Int32) : pcall 80 [.ref w, .int (ι t), .int x] σ = some (0, .null, sI (sI σ (w + 1) t x) w 11 (ι 0)) := by
  refine (M_80 hw rfl hL).eq ?_
  simp (disch := omega) only [ι_lt_t, ι_lt_f, ι_le_t, ι_le_f, ι_eq_f, ι_m1, ι_add, ι_mul, ι_pm, ι_sub, ix_ι, gd_inb, gd_t, eq_self, if_true, if_false, not_true_eq_false, not_false_eq_true, ite_self, bI_ret, bJ_ret, bA_ret, bV_ret, bI_thr, bV_thr, bA_thr, ite_self]
theorem p81 (hw : isW w) (hL : LayR (gR σ)) (ht : t < 12) (x : Int32) : pcall 81 [.ref w, .int (ι t), .int x] σ = some (0, .null, sI (sI σ (w + 2) t x) w 11 (ι 0)) := by
  refine (M_81 hw rfl hL).eq ?_
  simp (disch := omega) only [ι_lt_t, ι_lt_f, ι_le_t, ι_le_f, ι_eq_f, ι_m1, ι_add, ι_mul, ι_pm, ι_sub, ix_ι, gd_inb, gd_t, eq_self, if_true, if_false, not_true_eq_false, not_false_eq_true, ite_self, bI_ret, bJ_ret, bA_ret, bV_ret, bI_thr, bV_thr, bA_thr, ite_self]
theorem p95 (hw : isW w) (hL : LayR (gR σ)) (hp : p < 8) (ht : t < 12) (x : Int32) : pcall 95 [.ref w, .int (ι p), .int (ι t), .int x] σ = some (0, .null, sI (sI σ (w + 4) (12 * p + t) x) w 11 (ι 0)) := by
  refine (M_95 hw rfl hL).eq ?_
  simp (disch := omega) only [ι_lt_t, ι_lt_f, ι_le_t, ι_le_f, ι_eq_f, ι_m1, ι_add, ι_mul, ι_pm, ι_sub, ix_ι, gd_inb, gd_t, eq_self, if_true, if_false, not_true_eq_false, not_false_eq_true, ite_self, bI_ret, bJ_ret, bA_ret, bV_ret, bI_thr, bV_thr, bA_thr, ite_self, Nat.mul_comm p 12]
theorem p69 (hw : isW w) (hL : LayR (gR σ)) : pcall 69 [.ref w] σ = some (1, .int (gI σ w 3), σ) := (M_69 hw rfl hL).eq rfl
theorem p86 (hw : isW w) (hL : LayR (gR σ)) : pcall 86 [.ref w] σ = some (1, .int (gI σ w 1), σ) := (M_86 hw rfl hL).eq rfl
theorem p87 (hw : isW w) (hL : LayR (gR σ)) : pcall 87 [.ref w] σ = some (1, .int (gI σ w 2), σ) := (M_87 hw rfl hL).eq rfl
theorem p25 (hq : isP q) (hL : LayR (gR σ)) : pcall 25 [.ref q] σ = some (1, .ref (q + 5), σ) := (M_25 hq rfl hL).eq rfl
theorem p28 (hq : isP q) (hL : LayR (gR σ)) : pcall 28 [.ref q] σ = some (1, .ref (q + 8), σ) := (M_28 hq rfl hL).eq rfl
theorem p27 (hq : isP q) (hL : LayR (gR σ)) (hp : p < 8) : pcall 27 [.ref q, .int (ι p)] σ = some (1, .int (gI σ (q + 1) p), σ) := by
  refine (M_27 hq rfl hL).eq ?_
  simp (disch := omega) only [ι_lt_t, ι_lt_f, ι_le_t, ι_le_f, ι_eq_f, ι_m1, ι_add, ι_mul, ι_pm, ι_sub, ix_ι, gd_inb, gd_t, eq_self, if_true, if_false, not_true_eq_false, not_false_eq_true, ite_self, bI_ret, bJ_ret, bA_ret, bV_ret, bI_thr, bV_thr, bA_thr, ite_self]
theorem p29 (hq : isP q) (hL : LayR (gR σ)) (ht : t < 12) : pcall 29 [.ref q, .int (ι t)] σ = some (1, .int (bz (tb (gI σ q 2) t)), σ) := by
  refine (M_29 hq rfl hL).eq ?_
  rw [p168 hL (by omega), bI_ret, gd_nb]
theorem p16 (hu : isU u) (hL : LayR (gR σ)) {k : Nat} (hk : k < 8) : pcall 16 [.ref u, .int (ι k)] σ = some (1, .int (bz (tb (gI σ u 3) k)), σ) := by
  refine (M_16 hu rfl hL).eq ?_
  rw [p168 hL (by omega), bI_ret, gd_nb]
theorem p17 (hu : isU u) (hL : LayR (gR σ)) {b : Bool} (h : gI σ u 2 = bz b) : pcall 17 [.ref u] σ = some (1, .int (bz b), σ) := by
  refine (M_17 hu rfl hL).eq ?_
  rw [h, gd_nb]
theorem p91 (hw : isW w) (hL : LayR (gR σ)) (hp : p < 8) (hq : q < 8) : pcall 91 [.ref w, .int (ι p), .int (ι q)] σ = some (1, .int (bz (tb (gI σ (w + 3) p) q)), σ) := by
  refine (M_91 hw rfl hL).eq ?_
  rw [p78 hw hL hp, bI_ret, p168 hL (by omega), bI_ret, gd_nb]
/-! of a world that holds A -/
theorem c75 (h : CW P T W R A σ w q) (ht : t < T) : pcall 75 [.ref w, .int (ι t)] σ = some (1, .int (A 1 t), σ) := by
  have := h.1.T
  rw [p75 h.isw h.lay (by omega), h.own ht]
theorem c76 (h : CW P T W R A σ w q) (ht : t < T) : pcall 76 [.ref w, .int (ι t)] σ = some (1, .int (A 2 t), σ) := by
  have := h.1.T
  rw [p76 h.isw h.lay (by omega), h.run ht]
theorem c78 (h : CW P T W R A σ w q) (hp : p < P) : pcall 78 [.ref w, .int (ι p)] σ = some (1, .int (A 3 p), σ) := by
  have := h.1.P
  rw [p78 h.isw h.lay (by omega), h.see hp]
theorem c74 (h : CW P T W R A σ w q) (hp : p < P) (ht : t < T) : pcall 74 [.ref w, .int (ι p), .int (ι t)] σ = some (1, .int (A 4 (12 * p + t)), σ) := by
  have := h.1.P; have := h.1.T
  rw [p74 h.isw h.lay (by omega) (by omega), h.wor hp ht]
theorem c73 (h : CW P T W R A σ w q) (hp : p < P) (ht : t < T) : pcall 73 [.ref w, .int (ι p), .int (ι t)] σ = some (1, .int (lookS A p t), σ) := by
  refine (M_73 h.isw rfl h.lay).eq ?_
  rw [c74 h hp ht, bI_ret, c75 h ht, bI_ret, c76 h ht, bI_ret]
  unfold lookS
  by_cases e : A 1 t = ι p
  · rw [if_neg (fun g => g e), if_pos e]
  · rw [if_pos e, if_neg e]
theorem Wp.fdl {β : Type} {n : Nat} {f : Nat → β → β} {b0 : β} {C : Nat → β → pS → Option pZ} {I : pS → Prop} {Q : pZ → Prop} {σ : pS}
    (step : ∀ t σ b, t < n → I σ → b = fd f t b0 → (∀ σ', I σ' → Wp (C (t + 1) (f t b) σ') Q) → Wp (C t b σ) Q)
    (exit : ∀ σ, I σ → Wp (C n (fd f n b0) σ) Q) (h : I σ) : Wp (C 0 b0 σ) Q := by
  have := Wp.loop (α := β × pS) (Q := Q) n (fun t a => C t a.1 a.2) (fun t a => I a.2 ∧ a.1 = fd f t b0)
    (fun t a ht hi k => step t a.2 a.1 ht hi.1 hi.2 (fun σ' hs => k (f t a.1, σ') ⟨hs, by show f t a.1 = f t (fd f t b0); rw [hi.2]⟩))
    (fun a hi => by obtain ⟨b, s⟩ := a; obtain ⟨h1, rfl⟩ := hi; exact exit s h1) (t := 0) (a := (b0, σ)) (Nat.zero_le _) ⟨h, rfl⟩
  exact this
theorem Wp.eqI {d : Option pZ} {v : Int32} {σ : pS} (h : Wp d (RI v (fun τ => τ = σ))) : d = some (1, .int v, σ) := by
  obtain ⟨z, rfl, τ, rfl, rfl⟩ := h; rfl
theorem c79 (h : CW P T W R A σ w q) (o : Int32) : pcall 79 [.ref w, .int o] σ = some (1, .int (howS T A o), σ) := by
  have hT := h.1.T
  refine Wp.eqI (Wp.le (M_79 h.isw rfl h.lay) ?_)
  refine Wp.fdl (n := T) (f := fun t s => s + if A 1 t = o then ι 1 else ι 0) (C := fun t b σ => C_79_4 w o b (ι t) σ) (I := fun τ => τ = σ) ?_ ?_ rfl
  · rintro t τ b ht rfl - k
    refine Wp.le (T_79_4 h.isw rfl h.lay) ?_
    have k := k τ rfl
    rw [h.T]
    by_cases e : A 1 t = o <;> simp (disch := omega) only [ι_lt_t, ι_lt_f, ι_le_t, ι_le_f, ι_eq_f, ι_m1, ι_add, ι_mul, ι_pm, ι_sub, ix_ι, gd_inb, gd_t, eq_self, if_true, if_false, not_true_eq_false, not_false_eq_true, ite_self, bI_ret, bJ_ret, bA_ret, bV_ret, bI_thr, bV_thr, bA_thr, h.own ht, e] at k ⊢ <;> exact k
  · rintro τ rfl
    refine Wp.le (T_79_4 h.isw rfl h.lay) ?_
    rw [h.T]
    simp (disch := omega) only [ι_lt_t, ι_lt_f, ι_le_t, ι_le_f, ι_eq_f, ι_m1, ι_add, ι_mul, ι_pm, ι_sub, ix_ι, gd_inb, gd_t, eq_self, if_true, if_false, not_true_eq_false, not_false_eq_true, ite_self, bI_ret, bJ_ret, bA_ret, bV_ret, bI_thr, bV_thr, bA_thr, ]
    exact Wp.retI rfl
end WORLD1
