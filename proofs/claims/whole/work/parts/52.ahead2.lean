/-! ===== what comes, in the class: advice, shy days, the game ===== -/
section AHEAD2
variable {P T : Nat} {W R : Rl} {A B : Wd} {σ τ υ σ0 : pS} {q t o p m n : Nat} {x : Wd × (Nat → Int32)}
theorem c86 (h : CW P T W R A σ 25 q) : pcall 86 [.ref 25] σ = some (1, .int (ι P), σ) := by rw [p86 h.isw h.lay, h.P]
theorem c87 (h : CW P T W R A σ 25 q) : pcall 87 [.ref 25] σ = some (1, .int (ι T), σ) := by rw [p87 h.isw h.lay, h.T]
/-- what is had behind n days, if p asks for t now -/
def askV (P T : Nat) (W R : Rl) (A : Wd) (p n t : Nat) : Int32 := welS T (gof P T W R n (up (up A 1 t (ι p)) 2 t (ι 0), fun _ => ι 0)).1 p
def askS (P T : Nat) (W R : Rl) (A : Wd) (p n : Nat) : Int32 × Int32 := fd (fun t s => if wantsS T W A p t = true ∧ s.2 < askV P T W R A p n t then (ι t, askV P T W R A p n t) else s) T (ν 1, welS T (gof P T W R n (A, fun _ => ι 0)).1 p)
set_option maxHeartbeats 1000000 in
theorem a142 (h : CN P T W R A σ0 q) (f : CQ σ0 σ) (hp : p < P) (hn : n < 2147483648) : Wp (pcall 142 [.ref 54, .int (ι p), .int (ι n)] σ) (RI (askS P T W R A p n).1 (CQ σ0)) := by
  have hT := h.1.1.T
  refine Wp.le (M_142 rfl (h.cq f).1.lay) ?_
  refine Wp.cV (a84 h f) fun τ s => ?_
  refine Wp.g s.lay ?_
  refine Wp.cV (a136 s hn) fun τ s => ?_
  rw [c90 s.2.1 hp, bI_ret]
  refine Wp.fdg (n := T) (b0 := (ν 1, welS T (gof P T W R n (A, fun _ => ι 0)).1 p)) (f := fun t s => if wantsS T W A p t = true ∧ s.2 < askV P T W R A p n t then (ι t, askV P T W R A p n t) else s) (C := fun t b g σ => C_142_31 (ι p) (ι n) b.1 b.2 (ι t) g σ) (I := CQ σ0) ?_ ?_ s.cq
  · rintro t τ b g ht hf - k
    have h' := h.cq hf
    refine Wp.le (T_142_31 rfl h'.1.lay) ?_
    rw [c87 h'.1, bI_ret]
    simp (disch := omega) only [ι_lt_t, ι_lt_f, ι_le_t, ι_le_f, ι_eq_f, ι_m1, ι_add, ι_mul, ι_pm, ι_sub, ix_ι, gd_inb, gd_t, eq_self, if_true, if_false, not_true_eq_false, not_false_eq_true, ite_self, ]
    refine Wp.cI (c77 h'.1 hp ht) fun τ1 f1 => ?_
    have q1 := hf.sc f1
    by_cases e : wantsS T W A p t = true
    · rw [e, bz_t, if_neg (by decide)]
      refine Wp.cV (a84 h q1) fun τ2 s2 => ?_
      refine Wp.g s2.lay ?_
      rw [p80 (by decide) s2.lay (by omega), bV_ret]
      have s3 := s2.anyo hp ht
      rw [p81 (by decide) s3.lay (by omega), bV_ret]
      have s4 := s3.any (o := 0) (by omega) ht
      refine Wp.cV (a136 s4 hn) fun τ5 s5 => ?_
      rw [c90 s5.2.1 hp, bI_ret]
      have k := fun g' => k g' τ5 s5.cq
      have ev : welS T (gof P T W R n (up (up A 1 t (ι p)) 2 t (ι 0), fun _ => ι 0)).1 p = askV P T W R A p n t := rfl
      dsimp only at ev ⊢
      rw [ev]
      by_cases e2 : b.2 < askV P T W R A p n t
      · rw [if_neg (by rw [le_iff]; exact fun g => g e2)]
        simp (disch := omega) only [ι_lt_t, ι_lt_f, ι_le_t, ι_le_f, ι_eq_f, ι_m1, ι_add, ι_mul, ι_pm, ι_sub, ix_ι, gd_inb, gd_t, eq_self, if_true, if_false, not_true_eq_false, not_false_eq_true, ite_self, e, e2, and_self] at k
        unfold imax
        rw [if_pos e2]
        exact k _
      · rw [if_pos (by rw [le_iff]; exact e2)]
        simp (disch := omega) only [ι_lt_t, ι_lt_f, ι_le_t, ι_le_f, ι_eq_f, ι_m1, ι_add, ι_mul, ι_pm, ι_sub, ix_ι, gd_inb, gd_t, eq_self, if_true, if_false, not_true_eq_false, not_false_eq_true, ite_self, e, e2, and_false] at k
        unfold imax
        rw [if_neg e2]
        exact k _
    · have e' : wantsS T W A p t = false := by simpa using e
      rw [e', bz_f, if_pos rfl]
      have k := fun g' => k g' τ1 q1
      simp (disch := omega) only [ι_lt_t, ι_lt_f, ι_le_t, ι_le_f, ι_eq_f, ι_m1, ι_add, ι_mul, ι_pm, ι_sub, ix_ι, gd_inb, gd_t, eq_self, if_true, if_false, not_true_eq_false, not_false_eq_true, ite_self, e', Bool.false_eq_true, false_and] at k
      exact k _
  · intro g τ hf
    have h' := h.cq hf
    refine Wp.le (T_142_31 rfl h'.1.lay) ?_
    rw [c87 h'.1, bI_ret]
    simp (disch := omega) only [ι_lt_t, ι_lt_f, ι_le_t, ι_le_f, ι_eq_f, ι_m1, ι_add, ι_mul, ι_pm, ι_sub, ix_ι, gd_inb, gd_t, eq_self, if_true, if_false, not_true_eq_false, not_false_eq_true, ite_self, ]
    exact Wp.retI hf
/-- behind how many days t is taken first; 61: not within 60 -/
def dtS (P T : Nat) (W R : Rl) (A : Wd) (t : Nat) : Nat := fst1 (fun n => decide (ι 0 < (gof P T W R n (A, fun _ => ι 0)).2 t)) 60 1
theorem dt_le : dtS P T W R A t ≤ 61 := fst1_le _ 60 1
def givS (P T : Nat) (W R : Rl) (A : Wd) (t : Nat) : Int32 × Nat := fd (fun p s => if ¬ A 1 t = ι p ∧ dtS P T W R (up A 1 t (ι p)) t < s.2 then (ι p, dtS P T W R (up A 1 t (ι p)) t) else s) P (ν 1, dtS P T W R A t)
theorem giv_le (n : Nat) : (fd (fun p (s : Int32 × Nat) => if ¬ A 1 t = ι p ∧ dtS P T W R (up A 1 t (ι p)) t < s.2 then (ι p, dtS P T W R (up A 1 t (ι p)) t) else s) n (ν 1, dtS P T W R A t)).2 ≤ 61 := by
  induction n with
  | zero => exact dt_le
  | succ n ih =>
    show (if _ then _ else _ : Int32 × Nat).2 ≤ 61
    split
    · exact dt_le
    · exact ih
set_option maxHeartbeats 1000000 in
theorem a143 (h : CN P T W R A σ0 q) (f : CQ σ0 σ) (ht : t < T) : Wp (pcall 143 [.ref 54, .int (ι t)] σ) (RI (givS P T W R A t).1 (CQ σ0)) := by
  have hT := h.1.1.T
  have hP := h.1.1.P
  refine Wp.le (M_143 rfl (h.cq f).1.lay) ?_
  refine Wp.cV (a84 h f) fun τ s => ?_
  refine Wp.g s.lay ?_
  refine Wp.cI (a138 s ht) fun τ f1 => ?_
  refine Wp.fdg (n := P) (b0 := (ν 1, dtS P T W R A t)) (f := fun p s => if ¬ A 1 t = ι p ∧ dtS P T W R (up A 1 t (ι p)) t < s.2 then (ι p, dtS P T W R (up A 1 t (ι p)) t) else s) (C := fun p b g σ => C_143_22 (ι t) b.1 (ι b.2) (ι p) g σ) (I := CQ σ0) ?_ ?_ f1
  · rintro p τ b g hp hf hb k
    have hl : b.2 ≤ 61 := by rw [hb]; exact giv_le p
    have h' := h.cq hf
    refine Wp.le (T_143_22 rfl h'.1.lay) ?_
    rw [c86 h'.1, bI_ret]
    simp (disch := omega) only [ι_lt_t, ι_lt_f, ι_le_t, ι_le_f, ι_eq_f, ι_m1, ι_add, ι_mul, ι_pm, ι_sub, ix_ι, gd_inb, gd_t, eq_self, if_true, if_false, not_true_eq_false, not_false_eq_true, ite_self, ]
    rw [c75 h'.1 ht, bI_ret]
    by_cases e : ι p = A 1 t
    · rw [if_pos e]
      have k := fun g' => k g' τ hf
      simp (disch := omega) only [ι_lt_t, ι_lt_f, ι_le_t, ι_le_f, ι_eq_f, ι_m1, ι_add, ι_mul, ι_pm, ι_sub, ix_ι, gd_inb, gd_t, eq_self, if_true, if_false, not_true_eq_false, not_false_eq_true, ite_self, e, false_and] at k
      exact k _
    · rw [if_neg e]
      have e' : ¬ A 1 t = ι p := fun g => e g.symm
      refine Wp.cV (a84 h hf) fun τ2 s2 => ?_
      refine Wp.g s2.lay ?_
      rw [p80 (by decide) s2.lay (by omega), bV_ret]
      have s3 := s2.anyo hp ht
      refine Wp.cI (a138 s3 ht) fun τ4 f4 => ?_
      have k := fun g' => k g' τ4 f4
      have ev : fst1 (fun n => decide (ι 0 < (gof P T W R n (up A 1 t (ι p), fun _ => ι 0)).2 t)) 60 1 = dtS P T W R (up A 1 t (ι p)) t := rfl
      dsimp only at ev ⊢
      rw [ev]
      have hd := dt_le (P := P) (T := T) (W := W) (R := R) (A := up A 1 t (ι p)) (t := t)
      unfold imin
      by_cases e2 : dtS P T W R (up A 1 t (ι p)) t < b.2
      · simp (disch := omega) only [ι_lt_t, ι_lt_f, ι_le_t, ι_le_f, ι_eq_f, ι_m1, ι_add, ι_mul, ι_pm, ι_sub, ix_ι, gd_inb, gd_t, eq_self, if_true, if_false, not_true_eq_false, not_false_eq_true, ite_self, e', e2, and_self] at k ⊢
        exact k _
      · simp (disch := omega) only [ι_lt_t, ι_lt_f, ι_le_t, ι_le_f, ι_eq_f, ι_m1, ι_add, ι_mul, ι_pm, ι_sub, ix_ι, gd_inb, gd_t, eq_self, if_true, if_false, not_true_eq_false, not_false_eq_true, ite_self, e', e2, and_false] at k ⊢
        exact k _
  · intro g τ hf
    have h' := h.cq hf
    refine Wp.le (T_143_22 rfl h'.1.lay) ?_
    rw [c86 h'.1, bI_ret]
    simp (disch := omega) only [ι_lt_t, ι_lt_f, ι_le_t, ι_le_f, ι_eq_f, ι_m1, ι_add, ι_mul, ι_pm, ι_sub, ix_ι, gd_inb, gd_t, eq_self, if_true, if_false, not_true_eq_false, not_false_eq_true, ite_self, ]
    exact Wp.retI hf
/-- a day that is shy or not -/
def shF (P T : Nat) (W R : Rl) (b : Bool) (x : Wd × (Nat → Int32)) : Wd × (Nat → Int32) := if b = true then dayF P T W R (up x.1 0 1 (ι 255), x.2) else dayF P T W R x
def shG (P T : Nat) (W R : Rl) (A : Wd) (m n : Nat) : Wd × (Nat → Int32) := fd (fun i x => shF P T W R (m.testBit i) x) n (A, fun _ => ι 0)
theorem a145 (h : CN P T W R A σ0 q) (f : CQ σ0 σ) (hm : m < 32) (hn : n ≤ 5) : Wp (pcall 145 [.ref 54, .int (ι m), .int (ι n)] σ) (RV (Sp P T W R σ0 q (shG P T W R A m n))) := by
  refine Wp.le (M_145 rfl (h.cq f).1.lay) ?_
  refine Wp.cV (a84 h f) fun τ s => ?_
  refine Wp.g s.lay ?_
  refine Wp.loop (α := pS) n (fun i x => C_145_13 (ι m) (ι n) (ι i) x) (fun i y => Sp P T W R σ0 q (shG P T W R A m i) y) ?_ ?_ (t := 0) (a := τ) (Nat.zero_le _) s
  · intro i τ hi s k
    refine Wp.le (T_145_13 rfl s.lay) ?_
    rw [p168 s.lay (by omega), tb_ι (by omega) (by omega)]
    simp (disch := omega) only [ι_lt_t, ι_lt_f, ι_le_t, ι_le_f, ι_eq_f, ι_m1, ι_add, ι_mul, ι_pm, ι_sub, ix_ι, gd_inb, gd_t, eq_self, if_true, if_false, not_true_eq_false, not_false_eq_true, ite_self, bI_ret, bJ_ret, bA_ret, bV_ret, bI_thr, bV_thr, bA_thr, ]
    have e : shG P T W R A m (i + 1) = shF P T W R (m.testBit i) (shG P T W R A m i) := rfl
    rw [e] at k
    unfold shF at k
    by_cases e2 : m.testBit i = true
    · rw [if_pos e2] at k
      rw [e2, bz_t, if_neg (by decide)]
      exact Wp.cI (a71 s (by omega)) fun υ s' => k υ s'
    · rw [if_neg e2] at k
      have e3 : m.testBit i = false := by simpa using e2
      rw [e3, bz_f, if_pos rfl]
      exact Wp.cI (a71' s) fun υ s' => k υ s'
  · intro τ s
    refine Wp.le (T_145_13 rfl s.lay) ?_
    simp (disch := omega) only [ι_lt_t, ι_lt_f, ι_le_t, ι_le_f, ι_eq_f, ι_m1, ι_add, ι_mul, ι_pm, ι_sub, ix_ι, gd_inb, gd_t, eq_self, if_true, if_false, not_true_eq_false, not_false_eq_true, ite_self, ]
    exact Wp.retV s
/-- how much a row of shy days weighs -/
def shW (m n v : Nat) : Nat := fd (fun i s => s * if m.testBit i = true then v else 10 - v) n 1
theorem shW_le (m n v : Nat) (hv : v ≤ 10) : shW m n v ≤ 10 ^ n := by
  induction n with
  | zero => exact Nat.le_refl _
  | succ n ih =>
    show shW m n v * (if m.testBit n = true then v else 10 - v) ≤ 10 ^ (n + 1)
    rw [Nat.pow_succ]
    exact Nat.mul_le_mul ih (by split <;> omega)
def shyS (P T : Nat) (W R : Rl) (A : Wd) (t n v : Nat) : Int32 := fd (fun m s => s + if (shG P T W R A m n).1 1 t = A 1 t then ι (shW m n v) else ι 0) (2 ^ n) (ι 0)
theorem shl_pow : ∀ n, n ≤ 5 → shl' (ι 1) (ι n) = ι (2 ^ n) := by decide
theorem ι_add0 (y : Int32) : y + ι 0 = y := by rw [show (ι 0 : Int32) = 0 from rfl, Int32.add_zero]
set_option maxHeartbeats 1000000 in
theorem a144 (h : CN P T W R A σ0 q) (f : CQ σ0 σ) (ht : t < T) (hn : n ≤ 5) {v : Nat} (hv : v ≤ 10) : Wp (pcall 144 [.ref 54, .int (ι t), .int (ι n), .int (ι v)] σ) (RI (shyS P T W R A t n v) (CQ σ0)) := by
  have h2n : 2 ^ n ≤ 2 ^ 5 := Nat.pow_le_pow_right (by omega) hn
  have h10 : 10 ^ n ≤ 10 ^ 5 := Nat.pow_le_pow_right (by omega) hn
  refine Wp.le (M_144 rfl (h.cq f).1.lay) ?_
  refine Wp.fdg (γ := Value × Value) (g0 := (.retAddr 0, .retAddr 0)) (n := 2 ^ n) (b0 := ι 0) (f := fun m s => s + if (shG P T W R A m n).1 1 t = A 1 t then ι (shW m n v) else ι 0) (C := fun m b g σ => C_144_6 (ι t) (ι n) (ι v) b (ι m) g.1 g.2 σ) (I := CQ σ0) ?_ ?_ f
  · rintro m τ b ⟨g1, g2⟩ hm hf - k
    have h' := h.cq hf
    refine Wp.le (T_144_6 rfl h'.1.lay) ?_
    rw [shl_pow n hn]
    simp (disch := omega) only [ι_lt_t, ι_lt_f, ι_le_t, ι_le_f, ι_eq_f, ι_m1, ι_add, ι_mul, ι_pm, ι_sub, ix_ι, gd_inb, gd_t, eq_self, if_true, if_false, not_true_eq_false, not_false_eq_true, ite_self, ]
    refine Wp.loop (α := Unit) n (fun i _ => C_144_20 (ι t) (ι n) (ι v) b (ι m) (ι (shW m i v)) (ι i) τ) (fun _ _ => True) ?_ ?_ (t := 0) (a := ()) (Nat.zero_le _) trivial
    · intro i _ hi _ k2
      refine Wp.le (T_144_20 rfl h'.1.lay) ?_
      rw [p168 h'.1.lay (by omega), tb_ι (by omega) (by omega)]
      have k2 := k2 () trivial
      have e : shW m (i + 1) v = shW m i v * if m.testBit i = true then v else 10 - v := rfl
      rw [e] at k2
      by_cases e2 : m.testBit i = true
      · simp (disch := omega) only [ι_lt_t, ι_lt_f, ι_le_t, ι_le_f, ι_eq_f, ι_m1, ι_add, ι_mul, ι_pm, ι_sub, ix_ι, gd_inb, gd_t, eq_self, if_true, if_false, not_true_eq_false, not_false_eq_true, ite_self, bI_ret, bJ_ret, bA_ret, bV_ret, bI_thr, bV_thr, bA_thr, e2, bz_t] at k2 ⊢
        exact k2
      · have e3 : m.testBit i = false := by simpa using e2
        simp (disch := omega) only [ι_lt_t, ι_lt_f, ι_le_t, ι_le_f, ι_eq_f, ι_m1, ι_add, ι_mul, ι_pm, ι_sub, ix_ι, gd_inb, gd_t, eq_self, if_true, if_false, not_true_eq_false, not_false_eq_true, ite_self, bI_ret, bJ_ret, bA_ret, bV_ret, bI_thr, bV_thr, bA_thr, e3, bz_f, Bool.false_eq_true] at k2 ⊢
        exact k2
    · intro _ _
      have hw := shW_le m n v hv
      refine Wp.le (T_144_20 rfl h'.1.lay) ?_
      simp (disch := omega) only [ι_lt_t, ι_lt_f, ι_le_t, ι_le_f, ι_eq_f, ι_m1, ι_add, ι_mul, ι_pm, ι_sub, ix_ι, gd_inb, gd_t, eq_self, if_true, if_false, not_true_eq_false, not_false_eq_true, ite_self, ]
      by_cases e0 : shW m n v = 0
      · rw [e0, if_pos (Int32.le_refl _)]
        have k := fun g' => k g' τ hf
        rw [e0] at k
        simp only [ite_self, ι_add0] at k
        exact k (_, _)
      · rw [if_neg (by rw [ι_le_f (by omega) (by omega)]; exact id)]
        refine Wp.cV (a145 h hf (by omega) hn) fun τ2 s2 => ?_
        refine Wp.g s2.lay ?_
        rw [c75 s2.2.1 ht, bI_ret, c75 (h.cq s2.cq).1 ht, bI_ret]
        have k := fun g' => k g' τ2 s2.cq
        by_cases e3 : (shG P T W R A m n).1 1 t = A 1 t
        · rw [if_neg (fun g => g e3)]
          simp only [e3, if_true] at k
          exact k (_, _)
        · rw [if_pos e3]
          simp only [e3, if_false] at k
          exact k (_, _)
  · rintro ⟨g1, g2⟩ τ hf
    have h' := h.cq hf
    refine Wp.le (T_144_6 rfl h'.1.lay) ?_
    rw [shl_pow n hn]
    simp (disch := omega) only [ι_lt_t, ι_lt_f, ι_le_t, ι_le_f, ι_eq_f, ι_m1, ι_add, ι_mul, ι_pm, ι_sub, ix_ι, gd_inb, gd_t, eq_self, if_true, if_false, not_true_eq_false, not_false_eq_true, ite_self, ]
    exact Wp.retI hf
end AHEAD2
