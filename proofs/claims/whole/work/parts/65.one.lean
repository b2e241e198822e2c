/-! ===== of one person, of one thing: both sides ===== -/
section ONE
variable {P T : Nat} {W R : Rl} {A B : Wd} {σ τ υ σ0 : pS} {q t p o n r : Nat} {x0 x1 x2 : Int32}
def q_person (P T : Nat) (W : Rl) (A : Wd) (x0 x1 : Int32) : Nat × Int32 := if inb' P x0 = true then (if x1 = ι 0 then (0, A 6 (ix x0)) else if x1 = ι 1 then (0, thgS T A x0) else if x1 = ι 2 then (0, welS T A (ix x0)) else if x1 = ι 3 then (0, A 3 (ix x0)) else if x1 = ι 4 then (0, wishS T W A (ix x0)) else (1, ι 0)) else (1, ι 0)
theorem sw4 (e0 : ¬ x1 = ι 0) (e1 : ¬ x1 = ι 1) (e2 : ¬ x1 = ι 2) (e3 : ¬ x1 = ι 3) (e4 : ¬ x1 = ι 4) : x1.toInt < 0 ∨ 4 < x1.toInt :=
  sw_out (k := 4) (by omega) (fun i hi => by
    rcases (by omega : i = 0 ∨ i = 1 ∨ i = 2 ∨ i = 3 ∨ i = 4) with rfl | rfl | rfl | rfl | rfl
    · exact e0
    · exact e1
    · exact e2
    · exact e3
    · exact e4)
theorem sw5 (e0 : ¬ x1 = ι 0) (e1 : ¬ x1 = ι 1) (e2 : ¬ x1 = ι 2) (e3 : ¬ x1 = ι 3) (e4 : ¬ x1 = ι 4) (e5 : ¬ x1 = ι 5) : x1.toInt < 0 ∨ 5 < x1.toInt :=
  sw_out (k := 5) (by omega) (fun i hi => by
    rcases (by omega : i = 0 ∨ i = 1 ∨ i = 2 ∨ i = 3 ∨ i = 4 ∨ i = 5) with rfl | rfl | rfl | rfl | rfl | rfl
    · exact e0
    · exact e1
    · exact e2
    · exact e3
    · exact e4
    · exact e5)
theorem q175 (h : CN P T W R A σ q) (h4 : gR σ 0 4 = some q) : Wp (pcall 175 [.ref 0, .int x0, .int x1] σ) (qC σ (q_person P T W A x0 x1)) := by
  have hP := h.1.1.P
  refine Wp.le (M_175 rfl h.1.lay) ?_
  unfold q_person
  rw [k176 h.1]
  by_cases e0 : inb' P x0 = true
  · obtain ⟨p, hp, rfl⟩ := inb'_t (by omega) e0
    rw [if_pos e0, bV_ret, if_pos e0, ix_ι (by omega)]
    by_cases z0 : x1 = ι 0
    · rw [if_pos z0, if_pos z0, bG_some h4 h.1.isp, p27 h.1.isp h.1.lay (by omega), bI_ret]; exact qC.r (h.1.bold hp) h.rf
    rw [if_neg z0, if_neg z0]
    by_cases z1 : x1 = ι 1
    · rw [if_pos z1, if_pos z1, c93 h.1, bI_ret]; exact qC.r rfl h.rf
    rw [if_neg z1, if_neg z1]
    by_cases z2 : x1 = ι 2
    · rw [if_pos z2, if_pos z2, c90 h.1 hp, bI_ret]; exact qC.r rfl h.rf
    rw [if_neg z2, if_neg z2]
    by_cases z3 : x1 = ι 3
    · rw [if_pos z3, if_pos z3, c78 h.1 hp, bI_ret]; exact qC.r rfl h.rf
    rw [if_neg z3, if_neg z3]
    by_cases z4 : x1 = ι 4
    · rw [if_pos z4, if_pos z4]
      exact Wp.cI (c94 h.1 hp) fun τ f => qC.r rfl (h.rf.sc f)
    rw [if_neg z4, if_neg z4]
    exact Wp.g (sw4 z0 z1 z2 z3 z4) qC.n
  · rw [if_neg e0, bV_3, if_neg e0]; exact qC.n
theorem n259 (h : CM P T W R A σ) : Wp (pcall 259 [.ref 61, .int x0, .int x1] σ) (qM P T W R A σ (q_person P T W A x0 x1)) := by
  have hT := h.ok.T; have hP := h.ok.P
  have hc : CM P T W R A (sC σ) := h.c0
  refine Wp.le (M_259 rfl h.lay) ?_
  unfold q_person
  rw [m260 hc.lay hc.P hP, bI_ret]
  by_cases e0 : inb' P x0 = true
  · obtain ⟨p, hp, rfl⟩ := inb'_t (by omega) e0
    rw [e0, bz_t, if_pos (by decide), if_pos rfl, ix_ι (by omega)]
    by_cases z0 : x1 = ι 0
    · rw [if_pos z0, if_pos z0]; simp (disch := omega) only [ι_lt_t, ι_lt_f, ι_le_t, ι_le_f, ι_eq_f, ι_m1, ι_add, ι_mul, ι_pm, ι_sub, ix_ι, gd_inb, gd_t, eq_self, if_true, if_false, not_true_eq_false, not_false_eq_true, ite_self, ]; exact qM.r' (hc.bold p hp) hc QN.rf
    rw [if_neg z0, if_neg z0]
    by_cases z1 : x1 = ι 1
    · rw [if_pos z1, if_pos z1, m246 hc, bI_ret]; exact qM.r' rfl hc QN.rf
    rw [if_neg z1, if_neg z1]
    by_cases z2 : x1 = ι 2
    · rw [if_pos z2, if_pos z2, m252 hc hp, bI_ret]; exact qM.r' rfl hc QN.rf
    rw [if_neg z2, if_neg z2]
    by_cases z3 : x1 = ι 3
    · rw [if_pos z3, if_pos z3]; simp (disch := omega) only [ι_lt_t, ι_lt_f, ι_le_t, ι_le_f, ι_eq_f, ι_m1, ι_add, ι_mul, ι_pm, ι_sub, ix_ι, gd_inb, gd_t, eq_self, if_true, if_false, not_true_eq_false, not_false_eq_true, ite_self, ]; exact qM.r' (hc.see p hp) hc QN.rf
    rw [if_neg z3, if_neg z3]
    by_cases z4 : x1 = ι 4
    · rw [if_pos z4, if_pos z4]
      exact Wp.cI (m262 hc hp) fun τ f => qM.r' rfl (hc.sc f) (QN.rf.sc f)
    rw [if_neg z4, if_neg z4]
    exact Wp.g (sw4 z0 z1 z2 z3 z4) (qM.f (by omega) h)
  · have e0' : inb' P x0 = false := by simpa using e0
    rw [e0', bz_f, if_neg (fun g => g rfl), if_neg (by decide)]; exact qM.f (by omega) h

def q_thing (P T : Nat) (W : Rl) (A : Wd) (x0 x1 : Int32) : Nat × Int32 := if inb' T x0 = true then (if x1 = ι 0 then (0, A 1 (ix x0)) else if x1 = ι 1 then (0, A 2 (ix x0)) else if x1 = ι 2 then (0, wbS P T W A (ix x0)) else if x1 = ι 3 then (0, (takeS P T W A (ix x0)).1) else if x1 = ι 4 then (0, A 7 (ix x0)) else if x1 = ι 5 then (0, spoS P T W A (ix x0) (ix (A 2 (ix x0))) (10 - ix (A 2 (ix x0))) 0) else (1, ι 0)) else (1, ι 0)
theorem q177 (h : CN P T W R A σ q) (h4 : gR σ 0 4 = some q) : Wp (pcall 177 [.ref 0, .int x0, .int x1] σ) (qC σ (q_thing P T W A x0 x1)) := by
  have hT := h.1.1.T
  refine Wp.le (M_177 rfl h.1.lay) ?_
  unfold q_thing
  rw [k178 h.1]
  by_cases e0 : inb' T x0 = true
  · obtain ⟨t, ht, rfl⟩ := inb'_t (by omega) e0
    rw [if_pos e0, bV_ret, if_pos e0, ix_ι (show t < 2147483648 by omega)]
    by_cases z0 : x1 = ι 0
    · rw [if_pos z0, if_pos z0, c75 h.1 ht, bI_ret]; exact qC.r rfl h.rf
    rw [if_neg z0, if_neg z0]
    by_cases z1 : x1 = ι 1
    · rw [if_pos z1, if_pos z1, c76 h.1 ht, bI_ret]; exact qC.r rfl h.rf
    rw [if_neg z1, if_neg z1]
    by_cases z2 : x1 = ι 2
    · rw [if_pos z2, if_pos z2]
      exact Wp.cI (c89 h.1 ht) fun τ f => qC.r rfl (h.rf.sc f)
    rw [if_neg z2, if_neg z2]
    by_cases z3 : x1 = ι 3
    · rw [if_pos z3, if_pos z3]
      exact Wp.cI (c72 h.1 ht) fun τ f => qC.r rfl (h.rf.sc f)
    rw [if_neg z3, if_neg z3]
    by_cases z4 : x1 = ι 4
    · rw [if_pos z4, if_pos z4, bG_some h4 h.1.isp, p29 h.1.isp h.1.lay (by omega), bI_ret, h.1.firm ht]
      rcases h.1.1.frm ht with e | e
      · have e' : decide (A 7 t = ι 1) = false := by rw [e]; decide
        rw [e', bz_f, if_pos rfl]; exact qC.r e.symm h.rf
      · have e' : decide (A 7 t = ι 1) = true := by rw [e]; decide
        rw [e', bz_t, if_neg (by decide)]; exact qC.r e.symm h.rf
    rw [if_neg z4, if_neg z4]
    by_cases z5 : x1 = ι 5
    · rw [if_pos z5, if_pos z5]
      obtain ⟨r, hr, er⟩ := h.1.1.run ht
      rw [er, ix_ι (show r < 2147483648 by omega)]
      exact Wp.cI (a134 h h.rf ht er hr) fun τ f => Wp.g (h.cq f).1.lay (qC.r rfl f)
    rw [if_neg z5, if_neg z5]
    exact Wp.g (sw5 z0 z1 z2 z3 z4 z5) qC.n
  · rw [if_neg e0, bV_3, if_neg e0]; exact qC.n
theorem n266 (h : CM P T W R A σ0) (ht : t < T) (hr : A 2 t = ι r) (h9 : r ≤ 9) : Wp (pcall 266 [.ref 61, .int (ι t)] σ0) (RI (spoS P T W A t r (10 - r) 0) (fun τ => CM P T W R A τ ∧ QN σ0 τ)) := by
  have hT := h.ok.T
  refine Wp.le (M_266 rfl h.lay) ?_
  simp (disch := omega) only [ι_lt_t, ι_lt_f, ι_le_t, ι_le_f, ι_eq_f, ι_m1, ι_add, ι_mul, ι_pm, ι_sub, ix_ι, gd_inb, gd_t, eq_self, if_true, if_false, not_true_eq_false, not_false_eq_true, ite_self, h.run t ht, hr]
  have fin : ∀ τ B, (∀ y, up B 2 t y = up A 2 t y) → CM P T W R B τ → QN σ0 τ → CM P T W R A (sI τ 76 t (ι r)) ∧ QN σ0 (sI τ 76 t (ι r)) := by
    intro τ B hB s f
    have s2 := s.run' (t := t) h9
    rw [hB, up_eq hr] at s2
    exact ⟨s2, f.trans ⟨Fr.refl.mI (by unfold Qq Mq; omega), fun i _ => gI_c (by decide)⟩⟩
  have key : ∀ k v τ B, v + k = 10 - r → (∀ y, up B 2 t y = up A 2 t y) → CM P T W R B τ → QN σ0 τ → Wp (C_266_12 (ι t) (ι r) (ν 1) (ι (r + v)) τ) (RI (spoS P T W A t r k v) (fun τ => CM P T W R A τ ∧ QN σ0 τ)) := by
    intro k
    induction k with
    | zero =>
      intro v τ B hv hB s f
      refine Wp.le (T_266_12 rfl s.lay) ?_
      rw [if_pos (by rw [ι_lt (by omega) (by omega)]; omega)]
      simp (disch := omega) only [ι_lt_t, ι_lt_f, ι_le_t, ι_le_f, ι_eq_f, ι_m1, ι_add, ι_mul, ι_pm, ι_sub, ix_ι, gd_inb, gd_t, eq_self, if_true, if_false, not_true_eq_false, not_false_eq_true, ite_self, ]
      exact Wp.retI (fin τ B hB s f)
    | succ k ih =>
      intro v τ B hv hB s f
      refine Wp.le (T_266_12 rfl s.lay) ?_
      rw [if_neg (by rw [ι_lt (by omega) (by omega)]; omega), if_neg (fun g => g rfl)]
      have s2 := s.run' (t := t) (show r + v ≤ 9 by omega)
      rw [hB] at s2
      have f2 : QN σ0 (sI τ 76 t (ι (r + v))) := f.trans ⟨Fr.refl.mI (by unfold Qq Mq; omega), fun i _ => gI_c (by decide)⟩
      simp (disch := omega) only [ι_lt_t, ι_lt_f, ι_le_t, ι_le_f, ι_eq_f, ι_m1, ι_add, ι_mul, ι_pm, ι_sub, ix_ι, gd_inb, gd_t, eq_self, if_true, if_false, not_true_eq_false, not_false_eq_true, ite_self, ]
      refine Wp.cI (m242 s2 ht) fun υ f3 => ?_
      have s3 := s2.sc f3
      have f4 := f2.sc f3
      unfold spoS
      by_cases e : wbS P T W (up A 2 t (ι (r + v))) t = ι 0
      · rw [if_neg (fun g => g e), if_pos e]
        have e3 : r + v - r = v := by omega
        rw [e3]
        refine Wp.le (T_266_12 rfl s3.lay) ?_
        have e4 : ¬ ι v = ν 1 := by rw [ν_ι (by omega)]; exact id
        rw [if_pos e4]
        simp (disch := omega) only [ι_lt_t, ι_lt_f, ι_le_t, ι_le_f, ι_eq_f, ι_m1, ι_add, ι_mul, ι_pm, ι_sub, ix_ι, gd_inb, gd_t, eq_self, if_true, if_false, not_true_eq_false, not_false_eq_true, ite_self, ]
        exact Wp.retI (fin υ _ (fun y => up_up) s3 f4)
      · rw [if_pos e, if_neg e, Nat.add_assoc]
        exact ih (v + 1) υ _ (by omega) (fun y => up_up) s3 f4
  have := key (10 - r) 0 σ0 A (by omega) (fun _ => rfl) h QN.rf
  exact this
theorem n263 (h : CM P T W R A σ) : Wp (pcall 263 [.ref 61, .int x0, .int x1] σ) (qM P T W R A σ (q_thing P T W A x0 x1)) := by
  have hT := h.ok.T; have hP := h.ok.P
  have hc : CM P T W R A (sC σ) := h.c0
  refine Wp.le (M_263 rfl h.lay) ?_
  unfold q_thing
  rw [m264 hc.lay hc.T hT, bI_ret]
  by_cases e0 : inb' T x0 = true
  · obtain ⟨t, ht, rfl⟩ := inb'_t (by omega) e0
    rw [e0, bz_t, if_pos (by decide), if_pos rfl, ix_ι (show t < 2147483648 by omega)]
    by_cases z0 : x1 = ι 0
    · rw [if_pos z0, if_pos z0]; simp (disch := omega) only [ι_lt_t, ι_lt_f, ι_le_t, ι_le_f, ι_eq_f, ι_m1, ι_add, ι_mul, ι_pm, ι_sub, ix_ι, gd_inb, gd_t, eq_self, if_true, if_false, not_true_eq_false, not_false_eq_true, ite_self, ]; exact qM.r' (hc.own t ht) hc QN.rf
    rw [if_neg z0, if_neg z0]
    by_cases z1 : x1 = ι 1
    · rw [if_pos z1, if_pos z1]; simp (disch := omega) only [ι_lt_t, ι_lt_f, ι_le_t, ι_le_f, ι_eq_f, ι_m1, ι_add, ι_mul, ι_pm, ι_sub, ix_ι, gd_inb, gd_t, eq_self, if_true, if_false, not_true_eq_false, not_false_eq_true, ite_self, ]; exact qM.r' (hc.run t ht) hc QN.rf
    rw [if_neg z1, if_neg z1]
    by_cases z2 : x1 = ι 2
    · rw [if_pos z2, if_pos z2]
      exact Wp.cI (m242 hc ht) fun τ f => qM.r' rfl (hc.sc f) (QN.rf.sc f)
    rw [if_neg z2, if_neg z2]
    by_cases z3 : x1 = ι 3
    · rw [if_pos z3, if_pos z3]
      exact Wp.cI (m265 hc ht) fun τ f => qM.r' rfl (hc.sc f) (QN.rf.sc f)
    rw [if_neg z3, if_neg z3]
    by_cases z4 : x1 = ι 4
    · rw [if_pos z4, if_pos z4]; simp (disch := omega) only [ι_lt_t, ι_lt_f, ι_le_t, ι_le_f, ι_eq_f, ι_m1, ι_add, ι_mul, ι_pm, ι_sub, ix_ι, gd_inb, gd_t, eq_self, if_true, if_false, not_true_eq_false, not_false_eq_true, ite_self, ]; exact qM.r' (hc.firm t ht) hc QN.rf
    rw [if_neg z4, if_neg z4]
    by_cases z5 : x1 = ι 5
    · rw [if_pos z5, if_pos z5]
      obtain ⟨r, hr, er⟩ := hc.ok.run ht
      rw [er, ix_ι (show r < 2147483648 by omega)]
      exact Wp.cI (n266 hc ht er hr) fun τ f => qM.r' rfl f.1 f.2
    rw [if_neg z5, if_neg z5]
    exact Wp.g (sw5 z0 z1 z2 z3 z4 z5) (qM.f (by omega) h)
  · have e0' : inb' T x0 = false := by simpa using e0
    rw [e0', bz_f, if_neg (fun g => g rfl), if_neg (by decide)]; exact qM.f (by omega) h
theorem p282 (hL : LayR (gR σ)) {y : Int32} : pcall 282 [.ref 61, .int y] σ = some (1, .int (ι 0), sI σ 61 4 y) := (M_282 rfl hL).eq rfl
theorem nb_bz {b : Bool} : narrow .boolean (.int (bz b)) = .int (bz b) := by cases b <;> rfl
def q_envies (P T : Nat) (A : Wd) (x0 x1 : Int32) : Nat × Int32 := if inb' P x0 = true then (if inb' P x1 = true then (0, bz (envS T A (ix x0) (ix x1))) else (1, ι 0)) else (1, ι 0)
theorem q195 (h : CN P T W R A σ q) : Wp (pcall 195 [.ref 0, .int x0, .int x1] σ) (qC σ (q_envies P T A x0 x1)) := by
  have hP := h.1.1.P
  refine Wp.le (M_195 rfl h.1.lay) ?_
  unfold q_envies
  rw [k176 h.1]
  by_cases e0 : inb' P x0 = true
  · obtain ⟨p, hp, rfl⟩ := inb'_t (by omega) e0
    rw [if_pos e0, bV_ret, if_pos e0, k176 h.1]
    by_cases e1 : inb' P x1 = true
    · obtain ⟨o, ho, rfl⟩ := inb'_t (by omega) e1
      rw [if_pos e1, bV_ret, if_pos e1, ix_ι (by omega), ix_ι (by omega), c117 h.1 hp ho, bI_ret]
      exact Wp.g nb_bz (qC.r rfl h.rf)
    · rw [if_neg e1, bV_3, if_neg e1]; exact qC.n
  · rw [if_neg e0, bV_3, if_neg e0]; exact qC.n
theorem qM.b {k : Nat} {w : Int32} (hk : ¬ k = 0) (h : CM P T W R A σ) : Wp (bI (pcall 282 [.ref 61, .int (ι k)] (sC σ)) fun r τ => gd (narrow .boolean (.int r) = .int r) (some (1, .int r, τ))) (qM P T W R A σ (k, w)) := by
  have m := qM.f (w := w) hk h
  rw [p211 h.c0.lay, bI_ret] at m
  rw [p282 h.c0.lay, bI_ret]
  exact Wp.g rfl m
theorem n300 (h : CM P T W R A σ) : Wp (pcall 300 [.ref 61, .int x0, .int x1] σ) (qM P T W R A σ (q_envies P T A x0 x1)) := by
  have hP := h.ok.P
  have hc : CM P T W R A (sC σ) := h.c0
  refine Wp.le (M_300 rfl h.lay) ?_
  unfold q_envies
  rw [m260 hc.lay hc.P hP, bI_ret]
  by_cases e0 : inb' P x0 = true
  · obtain ⟨p, hp, rfl⟩ := inb'_t (by omega) e0
    rw [e0, bz_t, if_neg (by decide), if_pos rfl, m260 hc.lay hc.P hP, bI_ret]
    by_cases e1 : inb' P x1 = true
    · obtain ⟨o, ho, rfl⟩ := inb'_t (by omega) e1
      rw [e1, bz_t, if_neg (by decide), if_pos rfl, ix_ι (by omega), ix_ι (by omega), m251 hc hp ho, bI_ret]
      exact Wp.g nb_bz (qM.r' rfl hc QN.rf)
    · have e1' : inb' P x1 = false := by simpa using e1
      rw [e1', bz_f, if_pos rfl, if_neg (by decide)]; exact qM.b (by omega) h
  · have e0' : inb' P x0 = false := by simpa using e0
    rw [e0', bz_f, if_pos rfl, if_neg (by decide)]; exact qM.b (by omega) h
end ONE
