/-! ===== the reference: to whom to give, shy days ===== -/
section ASKS5
variable {P T : Nat} {W R : Rl} {A B : Wd} {σ τ υ σ0 : pS} {t p n m : Nat} {x : Wd × (Nat → Int32)} {x0 x1 x2 : Int32}
theorem up_at1 {t : Nat} {a b : Int32} : up (up A 1 t a) 1 t b = up A 1 t b := up_up
set_option maxHeartbeats 1000000 in
theorem n307 (h : CM P T W R A σ) (h0 : A 0 1 = ι 0) : Wp (pcall 307 [.ref 61, .int x0] σ) (qM P T W R A σ (q_toGive P T W R A x0)) := by
  have hT := h.ok.T; have hP := h.ok.P
  have hc : CM P T W R A (sC σ) := h.c0
  refine Wp.le (M_307 rfl h.lay) ?_
  unfold q_toGive
  rw [m264 hc.lay hc.T hT, bI_ret]
  by_cases e0 : inb' T x0 = true
  · obtain ⟨t, ht, rfl⟩ := inb'_t (by omega) e0
    rw [e0, bz_t, if_pos (by decide), if_pos rfl, ix_ι (by omega)]
    refine Wp.cV (b271 hc QN.rf) fun τ hn1 => ?_
    obtain ⟨nw, -⟩ := hn1
    simp (disch := omega) only [ι_lt_t, ι_lt_f, ι_le_t, ι_le_f, ι_eq_f, ι_m1, ι_add, ι_mul, ι_pm, ι_sub, ix_ι, gd_inb, gd_t, eq_self, if_true, if_false, not_true_eq_false, not_false_eq_true, ite_self, nw.1.own t ht]
    refine Wp.cI (m288 ⟨trivial, nw.2⟩ nw.1 h.ok like.rf h0 ht) fun τ2 nw2 => ?_
    refine Wp.fdg (n := P) (b0 := (ν 1, dtS P T W R A t)) (f := fun p s => if ¬ A 1 t = ι p ∧ dtS P T W R (up A 1 t (ι p)) t < s.2 then (ι p, dtS P T W R (up A 1 t (ι p)) t) else s) (C := fun p b g σ => C_307_47 (ι t) (A 1 t) (if b.2 = 61 then ν 1 else ι b.2) b.1 (ι p) g σ) (I := Nw P T W R A (sC σ)) ?_ ?_ nw2
    · rintro p τ3 b g hp hf hb k
      have hl : b.2 ≤ 61 := by rw [hb]; exact giv_le p
      refine Wp.le (T_307_47 rfl hf.1.lay) ?_
      rw [hf.1.P]
      simp (disch := omega) only [ι_lt_t, ι_lt_f, ι_le_t, ι_le_f, ι_eq_f, ι_m1, ι_add, ι_mul, ι_pm, ι_sub, ix_ι, gd_inb, gd_t, eq_self, if_true, if_false, not_true_eq_false, not_false_eq_true, ite_self, ]
      by_cases e : ι p = A 1 t
      · rw [if_neg (fun g => g e)]
        have k := fun g' => k g' τ3 hf
        simp (disch := omega) only [ι_lt_t, ι_lt_f, ι_le_t, ι_le_f, ι_eq_f, ι_m1, ι_add, ι_mul, ι_pm, ι_sub, ix_ι, gd_inb, gd_t, eq_self, if_true, if_false, not_true_eq_false, not_false_eq_true, ite_self, e, false_and] at k
        exact k _
      · rw [if_pos e]
        have e' : ¬ A 1 t = ι p := fun g => e g.symm
        have g2 : CM P T W R (up A 1 t (ι p)) (sI τ3 75 t (ι p)) := hf.1.own' hp
        have q2 : QM τ3 (sI τ3 75 t (ι p)) := QM.refl.mI (by unfold Mq; omega) (by omega)
        refine Wp.cI (m288 ⟨trivial, hf.2.1.qm q2, q2.row hf.2.2 hP hT⟩ g2 h.ok ⟨fun _ => rfl, fun _ => rfl, rfl⟩ h0 ht) fun τ4 nw4 => ?_
        have k := fun g' => k g' τ4 nw4
        have hd := dt_le (P := P) (T := T) (W := W) (R := R) (A := up A 1 t (ι p)) (t := t)
        unfold takIn
        by_cases e61 : dtS P T W R (up A 1 t (ι p)) t = 61
        · rw [e61] at k ⊢
          have e2 : ¬ 61 < b.2 := by omega
          simp (disch := omega) only [ι_lt_t, ι_lt_f, ι_le_t, ι_le_f, ι_eq_f, ι_m1, ι_add, ι_mul, ι_pm, ι_sub, ix_ι, gd_inb, gd_t, eq_self, if_true, if_false, not_true_eq_false, not_false_eq_true, ite_self, e', e2, and_false] at k ⊢
          exact k _
        · have em : ¬ ι (dtS P T W R (up A 1 t (ι p)) t) = ν 1 := by rw [ι_m1 (by omega)]; exact id
          simp only [if_neg e61]
          rw [if_neg em]
          by_cases b61 : b.2 = 61
          · have e2 : dtS P T W R (up A 1 t (ι p)) t < b.2 := by omega
            simp only [b61, if_true]
            simp only [e', e2, and_self, if_true, not_false_eq_true] at k
            simp only [if_neg e61] at k
            exact k _
          · simp only [if_neg b61]
            rw [if_neg (by rw [ι_m1 (by omega)]; exact id)]
            by_cases e2 : dtS P T W R (up A 1 t (ι p)) t < b.2
            · rw [if_pos (by rw [ι_lt_t e2 (by omega)]; trivial)]
              simp only [e', e2, and_self, if_true, not_false_eq_true, if_neg e61] at k
              exact k _
            · rw [if_neg (by rw [ι_lt_f (by omega) (by omega)]; exact id)]
              simp only [e2, and_false, if_false, if_neg b61] at k
              exact k _
    · intro g τ3 hf
      refine Wp.le (T_307_47 rfl hf.1.lay) ?_
      rw [hf.1.P]
      simp (disch := omega) only [ι_lt_t, ι_lt_f, ι_le_t, ι_le_f, ι_eq_f, ι_m1, ι_add, ι_mul, ι_pm, ι_sub, ix_ι, gd_inb, gd_t, eq_self, if_true, if_false, not_true_eq_false, not_false_eq_true, ite_self, ]
      exact qM.r rfl hf
  · have e0' : inb' T x0 = false := by simpa using e0
    rw [e0', bz_f, if_neg (fun g => g rfl), if_neg (by decide)]; exact qM.f (by omega) h
theorem sh_ok (h : okW P T A) (h0 : A 0 1 = ι 0) (m n : Nat) : okW P T (shG P T W R A m n).1 ∧ like A (shG P T W R A m n).1 := by
  induction n with
  | zero => exact ⟨h, like.rf⟩
  | succ n ih =>
    show okW P T (shF P T W R (m.testBit n) (shG P T W R A m n)).1 ∧ like A (shF P T W R (m.testBit n) (shG P T W R A m n)).1
    unfold shF
    by_cases e : m.testBit n = true
    · rw [if_pos e]
      have o2 := ih.1.up01 (m := 255) (by omega)
      have l1 := taks_len (W := W) o2 (Nat.le_refl T)
      have l2 := wrns_ok (W := W) (R := R) l1.1 (Nat.le_refl T)
      refine ⟨day_ok o2, fun p => ?_, fun t => ?_, h0.symm⟩
      · show wrnS P T W R T (takS P T W T (up (shG P T W R A m n).1 0 1 (ι 255))).1 6 p = _
        rw [l2.2.1 6 p (by omega), l1.2.1 6 p (by omega) (by omega)]
        exact ih.2.1 p
      · show wrnS P T W R T (takS P T W T (up (shG P T W R A m n).1 0 1 (ι 255))).1 7 t = _
        rw [l2.2.1 7 t (by omega), l1.2.1 7 t (by omega) (by omega)]
        exact ih.2.2.1 t
    · rw [if_neg e]
      exact ⟨day_ok ih.1, ih.2.trans (day_like ih.1 (by rw [ih.2.2.2]; exact h0))⟩
theorem shF_w {b : Bool} {x y : Wd × (Nat → Int32)} (e : x.1 = y.1) : (shF P T W R b x).1 = (shF P T W R b y).1 := by
  unfold shF
  cases b with
  | false => show (dayS P T W R x.1).1 = (dayS P T W R y.1).1; rw [e]
  | true => show (dayS P T W R (up x.1 0 1 (ι 255))).1 = (dayS P T W R (up y.1 0 1 (ι 255))).1; rw [e]
theorem sh_w {g : Nat → Int32} (n : Nat) : (fd (fun i x => shF P T W R (m.testBit i) x) n (A, g)).1 = (shG P T W R A m n).1 := by
  induction n with
  | zero => rfl
  | succ n ih => exact shF_w (b := m.testBit n) ih
set_option maxHeartbeats 2000000 in
theorem n314 (h : CM P T W R A σ) (h0 : A 0 1 = ι 0) : Wp (pcall 314 [.ref 61, .int x0, .int x1, .int x2] σ) (qM P T W R A σ (q_shy P T W R A x0 x1 x2)) := by
  have hT := h.ok.T; have hP := h.ok.P
  have hc : CM P T W R A (sC σ) := h.c0
  refine Wp.le (M_314 rfl h.lay) ?_
  unfold q_shy
  rw [m264 hc.lay hc.T hT, bI_ret]
  by_cases e0 : inb' T x0 = true
  · obtain ⟨t, ht, rfl⟩ := inb'_t (by omega) e0
    rw [e0, bz_t, if_pos (by decide), if_pos rfl, j1, j5, p261b hc.lay, bI_ret]
    by_cases e1 : btw (ι 1) (ι 5) x1 = true
    · obtain ⟨n, _, hn, rfl⟩ := btw_ι (by omega) (by omega) e1
      rw [e1, bz_t, if_neg (by decide), if_pos rfl, j0, j10, p261b hc.lay, bI_ret]
      by_cases e2 : btw (ι 0) (ι 10) x2 = true
      · obtain ⟨v, _, hv, rfl⟩ := btw_ι (by omega) (by omega) e2
        rw [e2, bz_t, if_pos (by decide), if_pos rfl, ix_ι (by omega), ix_ι (by omega), ix_ι (by omega)]
        have h2n : 2 ^ n ≤ 2 ^ 5 := Nat.pow_le_pow_right (by omega) hn
        simp (disch := omega) only [ι_lt_t, ι_lt_f, ι_le_t, ι_le_f, ι_eq_f, ι_m1, ι_add, ι_mul, ι_pm, ι_sub, ix_ι, gd_inb, gd_t, eq_self, if_true, if_false, not_true_eq_false, not_false_eq_true, ite_self, hc.own t ht]
        refine Wp.cV (b271 hc QN.rf) fun τ hn1 => ?_
        obtain ⟨nw, -⟩ := hn1
        refine Wp.fdg (γ := Value × Value) (g0 := (.retAddr 0, .retAddr 0)) (n := 2 ^ n) (b0 := ι 0) (f := fun m s => s + if (shG P T W R A m n).1 1 t = A 1 t then ι (shW m n v) else ι 0) (C := fun m b g σ => C_314_72 (ι t) (ι n) (ι v) b (A 1 t) (ι m) g.1 g.2 σ) (I := Nw P T W R A (sC σ)) ?_ ?_ nw
        · rintro m τ1 b ⟨g1, g2⟩ hm hf - k
          refine Wp.le (T_314_72 rfl hf.1.lay) ?_
          rw [shl_pow n hn]
          simp (disch := omega) only [ι_lt_t, ι_lt_f, ι_le_t, ι_le_f, ι_eq_f, ι_m1, ι_add, ι_mul, ι_pm, ι_sub, ix_ι, gd_inb, gd_t, eq_self, if_true, if_false, not_true_eq_false, not_false_eq_true, ite_self, ]
          refine Wp.loop (α := pS) n (fun i y => C_314_86 (ι t) (ι n) (ι v) b (A 1 t) (ι m) (ι (shW m i v)) (ι i) y) (fun i y => Mp P T W R τ1 (fd (fun i x => shF P T W R (m.testBit i) x) i (A, gI τ1 82)) y) ?_ ?_ (t := 0) (a := τ1) (Nat.zero_le _) (Mp.start hf.1)
          · intro i τ2 hi s k2
            refine Wp.le (T_314_86 rfl s.1.lay) ?_
            have es : fd (fun i x => shF P T W R (m.testBit i) x) (i + 1) (A, gI τ1 82) = shF P T W R (m.testBit i) (fd (fun i x => shF P T W R (m.testBit i) x) i (A, gI τ1 82)) := rfl
            have ew : shW m (i + 1) v = shW m i v * if m.testBit i = true then v else 10 - v := rfl
            have hb : pcall 236 [.int (ι m), .int (ι i)] τ2 = some (1, .int (bz (m.testBit i)), τ2) := by rw [p236 s.1.lay (by omega), tb_ι (by omega) (by omega)]
            rw [hb]
            have hsil : (fd (fun i x => shF P T W R (m.testBit i) x) i (A, gI τ1 82)).1 0 1 = ι 0 := by
              rw [sh_w]
              rw [(sh_ok (W := W) (R := R) h.ok h0 m i).2.2.2]; exact h0
            by_cases e3 : m.testBit i = true
            · rw [es] at k2
              unfold shF at k2
              rw [if_pos e3] at k2
              simp (disch := omega) only [ι_lt_t, ι_lt_f, ι_le_t, ι_le_f, ι_eq_f, ι_m1, ι_add, ι_mul, ι_pm, ι_sub, ix_ι, gd_inb, gd_t, eq_self, if_true, if_false, not_true_eq_false, not_false_eq_true, ite_self, bI_ret, bJ_ret, bA_ret, bV_ret, bI_thr, bV_thr, bA_thr, e3, bz_t]
              refine Wp.le (T_314_112 rfl s.1.lay) ?_
              rw [hb]
              simp (disch := omega) only [ι_lt_t, ι_lt_f, ι_le_t, ι_le_f, ι_eq_f, ι_m1, ι_add, ι_mul, ι_pm, ι_sub, ix_ι, gd_inb, gd_t, eq_self, if_true, if_false, not_true_eq_false, not_false_eq_true, ite_self, bI_ret, bJ_ret, bA_ret, bV_ret, bI_thr, bV_thr, bA_thr, e3, bz_t]
              have s2 : Mp P T W R τ1 (up (fd (fun i x => shF P T W R (m.testBit i) x) i (A, gI τ1 82)).1 0 1 (ι 255), (fd (fun i x => shF P T W R (m.testBit i) x) i (A, gI τ1 82)).2) (sI τ2 61 36 (ι 255)) := ⟨s.1.sil' (by omega), s.2.1.mI (by unfold Mq; omega) (fun _ => by unfold Mf; omega), fun j hj => by rw [gI_c (by decide)]; exact s.2.2 j hj⟩
              refine Wp.cV (m273' s2) fun υ hu => ?_
              have k2 := k2 υ hu.1
              rw [ew, if_pos e3] at k2
              exact k2
            · have e4 : m.testBit i = false := by simpa using e3
              rw [es] at k2
              unfold shF at k2
              rw [if_neg e3] at k2
              simp (disch := omega) only [ι_lt_t, ι_lt_f, ι_le_t, ι_le_f, ι_eq_f, ι_m1, ι_add, ι_mul, ι_pm, ι_sub, ix_ι, gd_inb, gd_t, eq_self, if_true, if_false, not_true_eq_false, not_false_eq_true, ite_self, bI_ret, bJ_ret, bA_ret, bV_ret, bI_thr, bV_thr, bA_thr, e4, bz_f]
              refine Wp.le (T_314_112 rfl s.1.lay) ?_
              rw [hb]
              simp (disch := omega) only [ι_lt_t, ι_lt_f, ι_le_t, ι_le_f, ι_eq_f, ι_m1, ι_add, ι_mul, ι_pm, ι_sub, ix_ι, gd_inb, gd_t, eq_self, if_true, if_false, not_true_eq_false, not_false_eq_true, ite_self, bI_ret, bJ_ret, bA_ret, bV_ret, bI_thr, bV_thr, bA_thr, e4, bz_f]
              have s2 : Mp P T W R τ1 (fd (fun i x => shF P T W R (m.testBit i) x) i (A, gI τ1 82)) (sI τ2 61 36 (ι 0)) := by
                have c := s.1.sil' (m := 0) (by omega)
                rw [up_eq hsil] at c
                exact ⟨c, s.2.1.mI (by unfold Mq; omega) (fun _ => by unfold Mf; omega), fun j hj => by rw [gI_c (by decide)]; exact s.2.2 j hj⟩
              refine Wp.cV (m273' s2) fun υ hu => ?_
              have k2 := k2 υ hu.1
              rw [ew, if_neg e3] at k2
              exact k2
          · intro τ2 s
            refine Wp.le (T_314_86 rfl s.1.lay) ?_
            simp (disch := omega) only [ι_lt_t, ι_lt_f, ι_le_t, ι_le_f, ι_eq_f, ι_m1, ι_add, ι_mul, ι_pm, ι_sub, ix_ι, gd_inb, gd_t, eq_self, if_true, if_false, not_true_eq_false, not_false_eq_true, ite_self, s.1.own t ht]
            rw [sh_w]
            have lk : like A (fd (fun i x => shF P T W R (m.testBit i) x) n (A, gI τ1 82)).1 := by rw [sh_w]; exact (sh_ok (W := W) (R := R) h.ok h0 m n).2
            by_cases e3 : (shG P T W R A m n).1 1 t = A 1 t
            · rw [if_neg (fun g => g e3)]
              refine Wp.cV (b284' s hf.2.1 hf.2.2 h.ok lk) fun τ3 hu => ?_
              have k := fun g' => k g' τ3 hu.1
              simp only [e3, if_true] at k
              exact k (_, _)
            · rw [if_pos e3]
              refine Wp.cV (b284' s hf.2.1 hf.2.2 h.ok lk) fun τ3 hu => ?_
              have k := fun g' => k g' τ3 hu.1
              simp only [e3, if_false] at k
              exact k (_, _)
        · rintro ⟨g1, g2⟩ τ1 hf
          refine Wp.le (T_314_72 rfl hf.1.lay) ?_
          rw [shl_pow n hn]
          simp (disch := omega) only [ι_lt_t, ι_lt_f, ι_le_t, ι_le_f, ι_eq_f, ι_m1, ι_add, ι_mul, ι_pm, ι_sub, ix_ι, gd_inb, gd_t, eq_self, if_true, if_false, not_true_eq_false, not_false_eq_true, ite_self, ]
          exact qM.r rfl hf
      · have e2' : btw (ι 0) (ι 10) x2 = false := by simpa using e2
        rw [e2', bz_f, if_neg (fun g => g rfl), if_neg (by decide)]; exact qM.f (by omega) h
    · have e1' : btw (ι 1) (ι 5) x1 = false := by simpa using e1
      rw [e1', bz_f, if_pos rfl, if_neg (by decide)]; exact qM.f (by omega) h
  · have e0' : inb' T x0 = false := by simpa using e0
    rw [e0', bz_f, if_neg (fun g => g rfl), if_neg (by decide)]; exact qM.f (by omega) h
end ASKS5
