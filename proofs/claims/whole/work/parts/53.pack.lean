/-! ===== the reference: what is asked of a number, rows that are kept ===== -/
section PACK
variable {P T : Nat} {W R : Rl} {A B : Wd} {σ τ υ σ0 : pS} {q t o p m n a0 n0 off : Nat}
theorem p261 {x a b : Int32} (hL : LayR (gR σ)) : pcall 261 [.long x.toInt64, .long a.toInt64, .long b.toInt64] σ = some (1, .int (bz (decide (¬ x < a ∧ ¬ b < x))), σ) := by
  refine (M_261 rfl hL).eq ?_
  have h1 : (lg_cmp x.toInt64 a.toInt64 < ι 0) ↔ x < a := (lg_cmp_lt _ _).trans Int32.toInt64_lt
  have h2 : (ι 0 < lg_cmp x.toInt64 b.toInt64) ↔ b < x := (lg_cmp_gt _ _).trans Int32.toInt64_lt
  by_cases e1 : x < a
  · rw [if_pos (h1.mpr e1)]; simp [e1, bz]
  · rw [if_neg (fun g => e1 (h1.mp g))]
    by_cases e2 : b < x
    · rw [if_pos (h2.mpr e2)]; simp [e2, bz]
    · rw [if_neg (fun g => e2 (h2.mp g))]; simp [e1, e2, bz]
/-- whether x is one of the numbers below n -/
def inb' (n : Nat) (x : Int32) : Bool := decide (¬ x < ι 0 ∧ x < ι n)
theorem inb'_t (hn : n < 2147483648) {x : Int32} (h : inb' n x = true) : ∃ k, k < n ∧ x = ι k := by
  have := of_decide_eq_true h
  exact ι_of this.1 this.2 hn
theorem inb'_ι {k : Nat} (hk : k < n) (hn : n < 2147483648) : inb' n (ι k) = true := by
  refine decide_eq_true ⟨?_, ?_⟩
  · rw [ι_lt_f (by omega) (by omega)]; exact id
  · rw [ι_lt_t hk hn]; trivial
theorem inb'_p (hn : n < 100) (x : Int32) : decide (¬ x < ι 0 ∧ ¬ (ι n - ι 1) < x) = inb' n x := by
  unfold inb'
  by_cases e : x < ι 0
  · simp [e]
  · obtain ⟨k, hk⟩ : ∃ k, k < 2147483648 ∧ x = ι k := by
      have h2 : (0 : Int32) ≤ x := Int32.not_lt.mp e
      exact ⟨x.toNatClampNeg, by have := Int32.toNatClampNeg_lt x; omega, (Int32.ofNat_toNatClampNeg x h2).symm⟩
    obtain ⟨hk, rfl⟩ := hk
    by_cases h0 : n = 0
    · subst h0
      have e1 : (ι 0 - ι 1) < ι k := Int32.lt_of_lt_of_le (show ι 0 - ι 1 < ι 0 by decide) (Int32.not_lt.mp e)
      have e2 : ¬ ι k < ι 0 := e
      simp [e1, e2]
    · rw [ι_sub (by omega)]
      by_cases h1 : k < n
      · have e1 : ¬ ι (n - 1) < ι k := by rw [ι_lt_f (by omega) (by omega)]; exact id
        have e2 : ι k < ι n := by rw [ι_lt_t h1 (by omega)]; trivial
        simp [e1, e2, e]
      · have e1 : ι (n - 1) < ι k := by rw [ι_lt_t (by omega) (by omega)]; trivial
        have e2 : ¬ ι k < ι n := by rw [ι_lt_f (by omega) (by omega)]; exact id
        simp [e1, e2]
theorem m260 (hL : LayR (gR σ)) (hP : gI σ 65 0 = ι P) (h8 : P ≤ 8) (x : Int32) : pcall 260 [.ref 61, .int x] σ = some (1, .int (bz (inb' P x)), σ) := by
  refine (M_260 rfl hL).eq ?_
  have e0 : (0 : Int64) = (ι 0).toInt64 := by decide
  rw [hP, e0, p261 hL, bI_ret, inb'_p (by omega), gd_nb]
theorem m264 (hL : LayR (gR σ)) (hT : gI σ 65 1 = ι T) (h12 : T ≤ 12) (x : Int32) : pcall 264 [.ref 61, .int x] σ = some (1, .int (bz (inb' T x)), σ) := by
  refine (M_264 rfl hL).eq ?_
  have e0 : (0 : Int64) = (ι 0).toInt64 := by decide
  rw [hT, e0, p261 hL, bI_ret, inb'_p (by omega), gd_nb]
/-- whether x lies between a and b -/
def btw (a b : Int32) (x : Int32) : Bool := decide (¬ x < a ∧ ¬ b < x)
/-- the row that pack writes -/
def rowF (σ : pS) (i : Nat) : Int32 := if i = 0 then gI σ 61 31 else if i < 13 then gI σ 75 (i - 1) else if i < 25 then gI σ 76 (i - 13) else if i < 121 then gI σ 77 (i - 25) else gI σ 78 (i - 121)
def PkI (σ : pS) (a0 off : Nat) (D : Nat → Prop) (τ : pS) : Prop := Fr (fun a => a = a0) σ τ ∧ (∀ i, i < off ∨ off + 129 ≤ i → gI τ a0 i = gI σ a0 i) ∧ ∀ i, i < 129 → D i → gI τ a0 (off + i) = rowF σ i
theorem PkI.put {D E : Nat → Prop} (h : PkI σ a0 off D τ) {j : Nat} {x : Int32} (hj : j < 129) (hx : x = rowF σ j) (hE : ∀ i, i < 129 → E i → i = j ∨ D i) : PkI σ a0 off E (sI τ a0 (off + j) x) := by
  refine ⟨h.1.mI rfl, fun i hi => ?_, fun i hi e => ?_⟩
  · rw [gI_n (by omega)]; exact h.2.1 i hi
  · by_cases e2 : i = j
    · subst e2; rw [gI_s]; exact hx
    · rw [gI_n (by omega)]
      rcases hE i hi e with e3 | e3
      · exact absurd e3 e2
      · exact h.2.2 i hi e3
theorem PkI.mono {D E : Nat → Prop} (h : PkI σ a0 off D τ) (hE : ∀ i, i < 129 → E i → D i) : PkI σ a0 off E τ := ⟨h.1, h.2.1, fun i hi e => h.2.2 i hi (hE i hi e)⟩
def nPk (a : Nat) : Prop := a ≠ 61 ∧ a ≠ 75 ∧ a ≠ 76 ∧ a ≠ 77 ∧ a ≠ 78
set_option maxHeartbeats 1000000 in
theorem m271 (hL : LayR (gR σ)) (ha : kd a0 = (100, n0)) (hn : n0 < 100000) (ho : off + 129 ≤ n0) (hne : nPk a0) : Wp (pcall 271 [.ref 61, .ref a0, .int (ι off)] σ) (RV (PkI σ a0 off (fun _ => True))) := by
  obtain ⟨h61, h75, h76, h77, h78⟩ := hne
  refine Wp.le (M_271 ha rfl hL) ?_
  simp (disch := omega) only [ι_lt_t, ι_lt_f, ι_le_t, ι_le_f, ι_eq_f, ι_m1, ι_add, ι_mul, ι_pm, ι_sub, ix_ι, gd_inb, gd_t, eq_self, if_true, if_false, not_true_eq_false, not_false_eq_true, ite_self, ]
  have l3 : ∀ τ, PkI σ a0 off (fun i => i < 121) τ → Wp (C_271_82 a0 n0 (ι off) (ι 0) τ) (RV (PkI σ a0 off (fun _ => True))) := by
    intro τ0 h0
    refine Wp.loop (α := pS) 8 (fun t y => C_271_82 a0 n0 (ι off) (ι t) y) (fun t y => PkI σ a0 off (fun i => i < 121 + t) y) ?_ ?_ (t := 0) (a := τ0) (Nat.zero_le _) h0
    · intro t τ ht h k
      refine Wp.le (T_271_82 ha rfl (by rw [h.1.r]; exact hL)) ?_
      simp (disch := omega) only [ι_lt_t, ι_lt_f, ι_le_t, ι_le_f, ι_eq_f, ι_m1, ι_add, ι_mul, ι_pm, ι_sub, ix_ι, gd_inb, gd_t, eq_self, if_true, if_false, not_true_eq_false, not_false_eq_true, ite_self, ]
      refine k _ ?_
      rw [show off + 1 + 24 + 96 + t = off + (121 + t) by omega]
      refine h.put (by omega) ?_ (fun i hi e => by omega)
      rw [h.1.i (fun g => h78 g.symm)]
      unfold rowF
      rw [if_neg (by omega), if_neg (by omega), if_neg (by omega), if_neg (by omega), show 121 + t - 121 = t by omega]
    · intro τ h
      refine Wp.le (T_271_82 ha rfl (by rw [h.1.r]; exact hL)) ?_
      simp (disch := omega) only [ι_lt_t, ι_lt_f, ι_le_t, ι_le_f, ι_eq_f, ι_m1, ι_add, ι_mul, ι_pm, ι_sub, ix_ι, gd_inb, gd_t, eq_self, if_true, if_false, not_true_eq_false, not_false_eq_true, ite_self, ]
      exact Wp.retV (h.mono fun i hi _ => by omega)
  have l2 : ∀ τ, PkI σ a0 off (fun i => i < 25) τ → Wp (C_271_52 a0 n0 (ι off) (ι 0) τ) (RV (PkI σ a0 off (fun _ => True))) := by
    intro τ0 h0
    refine Wp.loop (α := pS) 96 (fun t y => C_271_52 a0 n0 (ι off) (ι t) y) (fun t y => PkI σ a0 off (fun i => i < 25 + t) y) ?_ ?_ (t := 0) (a := τ0) (Nat.zero_le _) h0
    · intro t τ ht h k
      refine Wp.le (T_271_52 ha rfl (by rw [h.1.r]; exact hL)) ?_
      simp (disch := omega) only [ι_lt_t, ι_lt_f, ι_le_t, ι_le_f, ι_eq_f, ι_m1, ι_add, ι_mul, ι_pm, ι_sub, ix_ι, gd_inb, gd_t, eq_self, if_true, if_false, not_true_eq_false, not_false_eq_true, ite_self, ]
      refine k _ ?_
      rw [show off + 1 + 24 + t = off + (25 + t) by omega]
      refine h.put (by omega) ?_ (fun i hi e => by omega)
      rw [h.1.i (fun g => h77 g.symm)]
      unfold rowF
      rw [if_neg (by omega), if_neg (by omega), if_neg (by omega), if_pos (by omega), show 25 + t - 25 = t by omega]
    · intro τ h
      refine Wp.le (T_271_52 ha rfl (by rw [h.1.r]; exact hL)) ?_
      simp (disch := omega) only [ι_lt_t, ι_lt_f, ι_le_t, ι_le_f, ι_eq_f, ι_m1, ι_add, ι_mul, ι_pm, ι_sub, ix_ι, gd_inb, gd_t, eq_self, if_true, if_false, not_true_eq_false, not_false_eq_true, ite_self, ]
      exact l3 τ h
  refine Wp.loop (α := pS) 12 (fun t y => C_271_9 a0 n0 (ι off) (ι t) y) (fun t y => PkI σ a0 off (fun i => i < 1 + t ∨ (13 ≤ i ∧ i < 13 + t)) y) ?_ ?_ (t := 0) (a := sI σ a0 off (gI σ 61 31)) (Nat.zero_le _) ?_
  · intro t τ ht h k
    refine Wp.le (T_271_9 ha rfl (by rw [h.1.r]; exact hL)) ?_
    simp (disch := omega) only [ι_lt_t, ι_lt_f, ι_le_t, ι_le_f, ι_eq_f, ι_m1, ι_add, ι_mul, ι_pm, ι_sub, ix_ι, gd_inb, gd_t, eq_self, if_true, if_false, not_true_eq_false, not_false_eq_true, ite_self, ]
    refine k _ ?_
    rw [show off + 1 + 12 + t = off + (13 + t) by omega, show off + 1 + t = off + (1 + t) by omega]
    have e75 : gI τ 75 t = rowF σ (1 + t) := by
      rw [h.1.i (fun g => h75 g.symm)]
      unfold rowF
      rw [if_neg (by omega), if_pos (by omega), show 1 + t - 1 = t by omega]
    have h2 : PkI σ a0 off (fun i => i < 2 + t ∨ (13 ≤ i ∧ i < 13 + t)) (sI τ a0 (off + (1 + t)) (gI τ 75 t)) := h.put (by omega) e75 (fun i hi e => by omega)
    refine h2.put (by omega) ?_ (fun i hi e => by omega)
    rw [h2.1.i (fun g => h76 g.symm)]
    unfold rowF
    rw [if_neg (by omega), if_neg (by omega), if_pos (by omega), show 13 + t - 13 = t by omega]
  · intro τ h
    refine Wp.le (T_271_9 ha rfl (by rw [h.1.r]; exact hL)) ?_
    simp (disch := omega) only [ι_lt_t, ι_lt_f, ι_le_t, ι_le_f, ι_eq_f, ι_m1, ι_add, ι_mul, ι_pm, ι_sub, ix_ι, gd_inb, gd_t, eq_self, if_true, if_false, not_true_eq_false, not_false_eq_true, ite_self, ]
    exact l2 τ (h.mono fun i hi e => by omega)
  · have h0 : PkI σ a0 off (fun _ => False) σ := ⟨Fr.refl, fun _ _ => rfl, fun _ _ e => e.elim⟩
    have := h0.put (E := fun i => i < 1 + 0 ∨ (13 ≤ i ∧ i < 13 + 0)) (j := 0) (x := gI σ 61 31) (by omega) rfl (fun i hi e => by omega)
    exact this
/-- a row that holds a world -/
def RowA (P T : Nat) (A : Wd) (σ : pS) (a0 off : Nat) : Prop := gI σ a0 off = A 0 0 ∧ (∀ t, t < T → gI σ a0 (off + (1 + t)) = A 1 t) ∧ (∀ t, t < T → gI σ a0 (off + (13 + t)) = A 2 t) ∧ (∀ p, p < P → ∀ t, t < T → gI σ a0 (off + (25 + (12 * p + t))) = A 4 (12 * p + t)) ∧ ∀ p, p < P → gI σ a0 (off + (121 + p)) = A 3 p
theorem RowA.eq (h : RowA P T A σ a0 off) (e : ∀ i, off ≤ i → i < off + 129 → gI τ a0 i = gI σ a0 i) (hP : P ≤ 8) (hT : T ≤ 12) : RowA P T A τ a0 off := by
  obtain ⟨h1, h2, h3, h4, h5⟩ := h
  refine ⟨?_, fun t ht => ?_, fun t ht => ?_, fun p hp t ht => ?_, fun p hp => ?_⟩
  · rw [e _ (by omega) (by omega)]; exact h1
  · rw [e _ (by omega) (by omega)]; exact h2 t ht
  · rw [e _ (by omega) (by omega)]; exact h3 t ht
  · rw [e _ (by omega) (by omega)]; exact h4 p hp t ht
  · rw [e _ (by omega) (by omega)]; exact h5 p hp
theorem PkI.row (h : CM P T W R A σ) (k : PkI σ a0 off (fun _ => True) τ) : RowA P T A τ a0 off := by
  have hP := h.ok.P; have hT := h.ok.T
  have e := fun i hi => k.2.2 i hi trivial
  refine ⟨?_, fun t ht => ?_, fun t ht => ?_, fun p hp t ht => ?_, fun p hp => ?_⟩
  · have := e 0 (by omega)
    rw [Nat.add_zero] at this
    rw [this]; exact h.day
  · rw [e _ (by omega)]; unfold rowF
    rw [if_neg (by omega), if_pos (by omega), show 1 + t - 1 = t by omega]; exact h.own t ht
  · rw [e _ (by omega)]; unfold rowF
    rw [if_neg (by omega), if_neg (by omega), if_pos (by omega), show 13 + t - 13 = t by omega]; exact h.run t ht
  · rw [e _ (by omega)]; unfold rowF
    rw [if_neg (by omega), if_neg (by omega), if_neg (by omega), if_pos (by omega), show 25 + (12 * p + t) - 25 = 12 * p + t by omega]; exact h.wor p hp t ht
  · rw [e _ (by omega)]; unfold rowF
    rw [if_neg (by omega), if_neg (by omega), if_neg (by omega), if_neg (by omega), show 121 + p - 121 = p by omega]; exact h.see p hp
end PACK
