/-! ===== drawn days: the reference ===== -/
section YEARS3
variable {P T : Nat} {W R : Rl} {A B : Wd} {σ τ υ σ0 σ1 : pS} {q t p o n m k : Nat} {x : Wd × (Nat → Int32)} {x0 x1 x2 y s : Int32}
/-- the reference behind drawn days: the world, the frame, the row it comes back to, what was counted -/
def Yp (P T : Nat) (W R : Rl) (A : Wd) (σ0 : pS) (x : Wd × (Nat → Int32)) (τ : pS) : Prop := CM P T W R x.1 τ ∧ QN σ0 τ ∧ RowA P T A τ 83 0 ∧ ∀ j, j < T → gI τ 82 j = x.2 j
theorem Yp.m49 (h : Yp P T W R A σ0 x τ) (hP : P ≤ 8) (hT : T ≤ 12) : Yp P T W R A σ0 x (sI τ 61 49 y) :=
  ⟨h.1.any (by omega), h.2.1.f (by unfold Qf; omega), h.2.2.1.eq (fun i _ _ => gI_c (by decide)) hP hT, fun j hj => by rw [gI_c (by decide)]; exact h.2.2.2 j hj⟩
theorem Yp.mw (h : Yp P T W R A σ0 x τ) (hP : P ≤ 8) (hT : T ≤ 12) {a i : Nat} (ha : a = 75 ∨ a = 76 ∨ a = 77) (c : CM P T W R B (sI τ a i y)) : Yp P T W R A σ0 (B, x.2) (sI τ a i y) := by
  have q : QM τ (sI τ a i y) := QM.refl.mI (by unfold Mq; omega) (by omega)
  exact ⟨c, h.2.1.qm q, q.row h.2.2.1 hP hT, fun j hj => by rw [gI_c (by omega)]; exact h.2.2.2 j hj⟩
theorem m318 (s : Yp P T W R A σ0 x τ) {sd : Int32} (e : gI τ 61 49 = sd) : Wp (pcall 318 [.ref 61] τ) (RV (fun υ => Yp P T W R A σ0 ((smtS P T sd x.1).2, x.2) υ ∧ gI υ 61 49 = (smtS P T sd x.1).1)) := by
  have hT := s.1.ok.T; have hP := s.1.ok.P
  refine Wp.le (M_318 rfl s.1.lay) ?_
  rw [m319 s.1.lay (by omega) (by omega), bI_ret, e]
  have s1 := s.m49 (y := drF sd) hP hT
  obtain ⟨r, hr, er⟩ := dr_ok sd (n := 6) (by omega) (by omega)
  unfold smtS
  rw [er]
  by_cases hz : T = 0
  · rw [if_pos hz]
    by_cases h2 : ι 2 < ι r
    · rw [if_pos h2]; exact ⟨_, rfl, _, _, rfl, s1, gI_s⟩
    · rw [if_neg h2, s1.1.T, hz, if_neg (fun g => g rfl)]; exact ⟨_, rfl, _, _, rfl, by rw [hz] at s1; exact s1, gI_s⟩
  rw [if_neg hz]
  have hP0 : 0 < P := by obtain ⟨o, ho, -⟩ := s.1.ok.own (t := 0) (by omega); omega
  by_cases h2 : ι 2 < ι r
  · rw [if_pos h2, if_pos h2]; exact ⟨_, rfl, _, _, rfl, s1, gI_s⟩
  rw [if_neg h2, if_neg h2, s1.1.T, if_pos (by rw [ι_eq (by omega) (by omega)]; exact hz), m319 s1.1.lay (by omega) (by omega), bI_ret, gI_s]
  have s2 := s1.m49 (y := drF (drF sd)) hP hT
  obtain ⟨t, ht, et⟩ := dr_ok (drF sd) (n := T) (by omega) (by omega)
  rw [et, ix_ι (show t < 2147483648 by omega)]
  rw [ι_lt (by omega) (by omega)] at h2
  rcases (by omega : r = 0 ∨ r = 1 ∨ r = 2) with rfl | rfl | rfl
  · rw [if_neg (fun g => g rfl), if_pos rfl, s2.1.P, m319 s2.1.lay hP0 (by omega), bI_ret, gI_s]
    have s3 := s2.m49 (y := drF (drF (drF sd))) hP hT
    rw [m319 s3.1.lay (by omega) (by omega), bI_ret, gI_s]
    have s4 := s3.m49 (y := drF (drF (drF (drF sd)))) hP hT
    obtain ⟨p, hp, ep⟩ := dr_ok (drF (drF sd)) hP0 (by omega)
    obtain ⟨v, hv, ev⟩ := dr_ok (drF (drF (drF sd))) (n := 10) (by omega) (by omega)
    rw [ep, ev, ix_ι (show p < 2147483648 by omega), ι_mul, ι_add, gd_inb (by omega) (by omega), ix_ι (by omega)]
    have s5 := s4.mw hP hT (by omega) (s4.1.wor' (m := 12 * p + t) (r := v) (by omega))
    refine Wp.le (T_318_65 rfl s5.1.lay) ?_
    rw [if_pos (by decide), if_pos (by decide)]
    exact ⟨_, rfl, _, _, rfl, s5, by rw [gI_c (by decide), gI_s]⟩
  · rw [if_pos (by decide), if_neg (by decide), if_pos rfl]
    refine Wp.le (T_318_65 rfl s2.1.lay) ?_
    have s5 := s2.mw hP hT (by omega) (s2.1.run' (t := t) (r := 0) (by omega))
    rw [if_neg (by decide), gd_inb (by omega) (by omega), if_pos (by decide), ix_ι (by omega)]
    exact ⟨_, rfl, _, _, rfl, s5, by rw [gI_c (by decide), gI_s]⟩
  · rw [if_pos (by decide), if_neg (by decide), if_neg (by decide)]
    refine Wp.le (T_318_65 rfl s2.1.lay) ?_
    rw [if_pos (by decide), if_neg (by decide), s2.1.P, m319 s2.1.lay hP0 (by omega), bI_ret, gI_s]
    have s3 := s2.m49 (y := drF (drF (drF sd))) hP hT
    obtain ⟨p, hp, ep⟩ := dr_ok (drF (drF sd)) hP0 (by omega)
    have s5 := s3.mw hP hT (by omega) (s3.1.own' (t := t) hp)
    rw [ep, gd_inb (by omega) (by omega), ix_ι (by omega)]
    exact ⟨_, rfl, _, _, rfl, s5, by rw [gI_c (by decide), gI_s]⟩
end YEARS3
section YEARS4
variable {P T : Nat} {W R : Rl} {A B : Wd} {σ τ υ σ0 σ1 : pS} {q t p o n m k r i : Nat} {x : Wd × (Nat → Int32)} {x0 x1 x2 y s : Int32}
theorem like_up (hr : r = 1 ∨ r = 2 ∨ r = 4) : like A (up A r i y) := by
  rcases hr with rfl | rfl | rfl <;> exact ⟨fun p => by simp [up], fun t => by simp [up], by simp [up]⟩
theorem smt_ok (h : okW P T A) (sd : Int32) : okW P T (smtS P T sd A).2 ∧ like A (smtS P T sd A).2 := by
  have hT := h.T; have hP := h.P
  unfold smtS
  dsimp only
  obtain ⟨v, hv, ev⟩ := dr_ok (drF (drF (drF sd))) (n := 10) (by omega) (by omega)
  rw [ev]
  generalize drV sd 6 = r
  generalize drV (drF sd) T = t
  by_cases hz : T = 0
  · rw [if_pos hz]; exact ⟨h, like.rf⟩
  rw [if_neg hz]
  have hP0 : 0 < P := by obtain ⟨o, ho, -⟩ := h.own (t := 0) (by omega); omega
  obtain ⟨p, hp, ep⟩ := dr_ok (drF (drF sd)) hP0 (by omega)
  rw [ep]
  by_cases h2 : ι 2 < r
  · rw [if_pos h2]; exact ⟨h, like.rf⟩
  rw [if_neg h2]
  by_cases h0 : r = ι 0
  · rw [if_pos h0]; exact ⟨h.up4 (by omega), like_up (by omega)⟩
  rw [if_neg h0]
  by_cases h1 : r = ι 1
  · rw [if_pos h1]; exact ⟨h.up2 (r := 0) (by omega), like_up (by omega)⟩
  · rw [if_neg h1]; exact ⟨h.up1 hp, like_up (by omega)⟩
theorem yr_ok (h : okW P T A) (h0 : A 0 1 = ι 0) (sd : Int32) (n : Nat) : okW P T (yrG P T W R A sd n).2.1 ∧ like A (yrG P T W R A sd n).2.1 := by
  induction n with
  | zero => exact ⟨h, like.rf⟩
  | succ n ih =>
    have e : (yrG P T W R A sd (n + 1)).2.1 = (dayS P T W R (smtS P T (yrG P T W R A sd n).1 (yrG P T W R A sd n).2.1).2).1 := rfl
    rw [e]
    generalize yrG P T W R A sd n = z at ih
    have g := smt_ok ih.1 z.1
    generalize smtS P T z.1 z.2.1 = w at g
    have l := ih.2.trans g.2
    exact ⟨day_ok g.1, l.trans (day_like g.1 (by rw [l.2.2]; exact h0))⟩
theorem n317 (h : CM P T W R A σ) (h0 : A 0 1 = ι 0) : Wp (pcall 317 [.ref 61, .int x0, .int x1, .int x2] σ) (qM P T W R A σ (q_years P T W R A x0 x1 x2)) := by
  have hT := h.ok.T; have hP := h.ok.P
  have hc : CM P T W R A (sC σ) := h.c0
  refine Wp.le (M_317 rfl h.lay) ?_
  unfold q_years
  rw [j0, j2, p261b hc.lay, bI_ret]
  by_cases e2 : btw (ι 0) (ι 2) x2 = true
  · rw [e2, bz_t, if_pos (by decide), if_pos rfl, j60, p261b hc.lay, bI_ret]
    by_cases e1 : btw (ι 0) (ι 60) x1 = true
    · obtain ⟨n, _, hn, rfl⟩ := btw_ι (by omega) (by omega) e1
      rw [e1, bz_t, if_pos (by decide), if_pos rfl, ix_ι (by omega)]
      refine Wp.cV (b271 hc QN.rf) fun τ hn1 => ?_
      refine Wp.cV (b291 hn1.1) fun τ1 hn2 => ?_
      obtain ⟨nw, z⟩ := hn2
      have s0 : Yp P T W R A (sC σ) (A, fun _ => ι 0) τ1 := ⟨nw.1, nw.2.1, nw.2.2, fun j hj => z j (by omega)⟩
      refine Wp.loop (α := pS) n (fun k y => C_317_62 (.int x0) (ι n) x2 (ι k) y) (fun k y => Yp P T W R A (sC σ) (yrG P T W R A x0 k).2 y ∧ gI y 61 49 = (yrG P T W R A x0 k).1) ?_ ?_ (t := 0) (a := sI τ1 61 49 x0) (Nat.zero_le _) ⟨s0.m49 hP hT, gI_s⟩
      · rintro k τ hk ⟨s, e⟩ c
        have eg : yrG P T W R A x0 (k + 1) = yrF P T W R (yrG P T W R A x0 k) := rfl
        rw [eg] at c
        generalize yrG P T W R A x0 k = z at s e c
        refine Wp.le (T_317_62 rfl s.1.lay) ?_
        simp (disch := omega) only [ι_lt_t, ι_lt_f, ι_le_t, ι_le_f, ι_eq_f, ι_m1, ι_add, ι_mul, ι_pm, ι_sub, ix_ι, gd_inb, gd_t, eq_self, if_true, if_false, not_true_eq_false, not_false_eq_true, ite_self, ]
        refine Wp.cV (m318 s e) fun υ hu => ?_
        obtain ⟨s1, e1⟩ := hu
        have m : Mp P T W R υ ((smtS P T z.1 z.2.1).2, z.2.2) υ := ⟨s1.1, QM.refl, s1.2.2.2⟩
        refine Wp.cV (m273' m) fun υ2 hu2 => ?_
        obtain ⟨s2, -⟩ := hu2
        refine c υ2 ⟨⟨s2.1, s1.2.1.qm s2.2.1, s2.2.1.row s1.2.2.1 hP hT, s2.2.2⟩, ?_⟩
        show gI υ2 61 49 = (smtS P T z.1 z.2.1).1
        rw [s2.2.1.2 49 (by unfold Mf; omega), e1]
      · rintro τ ⟨s, e⟩
        refine Wp.le (T_317_62 rfl s.1.lay) ?_
        simp (disch := omega) only [ι_lt_t, ι_lt_f, ι_le_t, ι_le_f, ι_eq_f, ι_m1, ι_add, ι_mul, ι_pm, ι_sub, ix_ι, gd_inb, gd_t, eq_self, if_true, if_false, not_true_eq_false, not_false_eq_true, ite_self, ]
        have lk := (yr_ok (W := W) (R := R) h.ok h0 x0 n).2
        generalize yrG P T W R A x0 n = z at s e lk ⊢
        have fin : ∀ {υ v w}, Yp P T W R A (sC σ) z.2 υ → v = w → Wp (bV (pcall 284 [.ref 61, .ref 83, .int (ι 0)] υ) fun σ' => some (1, .int v, σ')) (qM P T W R A σ (0, w)) := by
          intro υ v w s e
          exact Wp.cV (b284 s.1 s.2.1 s.2.2.1 h.ok lk) fun υ' hu => qM.r e hu.1
        by_cases z0 : x2 = ι 0
        · rw [if_neg (fun g => g z0), if_pos z0, m293 s.1, bI_ret]; exact fin s (sum_congr s.2.2.2)
        by_cases z1 : x2 = ι 1
        · rw [if_pos z0, if_neg (fun g => g z1), if_neg z0, if_pos z1, m296 s.1, bI_ret, (noth_n hP).1, p247 s.1.lay (noth_n hP).2, bI_ret]; exact fin s rfl
        · rw [if_pos z0, if_pos z1, if_neg z0, if_neg z1, m258 s.1, bI_ret]; exact fin s rfl
    · have e1' : btw (ι 0) (ι 60) x1 = false := by simpa using e1
      rw [e1', bz_f, if_neg (fun g => g rfl), if_neg (by decide)]; exact qM.f (by omega) h
  · have e2' : btw (ι 0) (ι 2) x2 = false := by simpa using e2
    rw [e2', bz_f, if_neg (fun g => g rfl), if_neg (by decide)]; exact qM.f (by omega) h
end YEARS4
