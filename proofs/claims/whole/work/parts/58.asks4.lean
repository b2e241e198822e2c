/-! ===== the reference: rests, advice, shy days ===== -/
section ASKS4
variable {P T : Nat} {W R : Rl} {A B : Wd} {σ τ υ σ0 : pS} {t p n : Nat} {x : Wd × (Nat → Int32)} {x0 x1 x2 : Int32}
theorem mk_zero {f : Nat → Bool} {n : Nat} : mk f n = 0 ↔ ∀ j, j < n → f j = false := by
  induction n with
  | zero => exact ⟨fun _ j hj => absurd hj (Nat.not_lt_zero j), fun _ => rfl⟩
  | succ n ih =>
    show mk f n + (if f n = true then 2 ^ n else 0) = 0 ↔ _
    have h2 : 0 < 2 ^ n := Nat.pos_of_ne_zero (by simp)
    constructor
    · intro h j hj
      have h3 : mk f n = 0 := by omega
      by_cases e : j = n
      · subst e
        cases e2 : f j with
        | false => rfl
        | true => rw [e2, if_pos rfl] at h; omega
      · exact ih.mp h3 j (by omega)
    · intro h
      rw [ih.mpr (fun j hj => h j (by omega)), h n (by omega), if_neg (by decide)]
theorem tkc_iff {n : Nat} {g : Nat → Int32} : tkc n g = 0 ↔ ∀ j, j < n → ¬ g j = ι 1 := by
  induction n with
  | zero => exact ⟨fun _ j hj => absurd hj (Nat.not_lt_zero j), fun _ => rfl⟩
  | succ n ih =>
    show tkc n g + (if g n = ι 1 then 1 else 0) = 0 ↔ _
    constructor
    · intro h j hj
      by_cases e : j = n
      · subst e
        intro e2
        rw [if_pos e2] at h; omega
      · exact ih.mp (by omega) j (by omega)
    · intro h
      rw [ih.mpr (fun j hj => h j (by omega)), if_neg (h n (by omega))]
theorem taken_iff (hT : T ≤ 12) {g : Nat → Int32} : (ι (mk (fun j => decide (g j = ι 1)) T) = ι 0) ↔ tkc T g = 0 := by
  have h1 := mk_lt (fun j => decide (g j = ι 1)) T
  have h2 : 2 ^ T ≤ 2 ^ 12 := Nat.pow_le_pow_right (by omega) hT
  rw [ι_eq (by omega) (by omega), mk_zero, tkc_iff]
  simp
theorem m298 (h : Nw P T W R A σ0 σ) : Wp (pcall 298 [.ref 61] σ) (RI (if calmS P T W R A 60 = 60 then ν 1 else ι (calmS P T W R A 60)) (Mp P T W R σ (gof P T W R 60 (A, gI σ 82)))) := by
  have hT := h.1.ok.T
  refine Wp.le (M_298 rfl h.1.lay) ?_
  refine Wp.loop (α := pS) 60 (fun d x => C_298_4 (ι (calmS P T W R A d)) (ι (d + 1)) x) (fun d y => Mp P T W R σ (gof P T W R d (A, gI σ 82)) y) ?_ ?_ (t := 0) (a := σ) (Nat.zero_le _) (Mp.start h.1)
  · intro d τ hd s k
    refine Wp.le (T_298_4 rfl s.1.lay) ?_
    simp (disch := omega) only [ι_lt_t, ι_lt_f, ι_le_t, ι_le_f, ι_eq_f, ι_m1, ι_add, ι_mul, ι_pm, ι_sub, ix_ι, gd_inb, gd_t, eq_self, if_true, if_false, not_true_eq_false, not_false_eq_true, ite_self, ]
    refine Wp.cV (m273' s) fun υ hu => ?_
    obtain ⟨s', e37⟩ := hu
    have k := k υ s'
    rw [calm_s] at k
    rw [e37]
    have ew : (gof P T W R d (A, gI σ 82)).1 = (gof P T W R d (A, fun _ => ι 0)).1 := gof_w d
    rw [ew]
    by_cases e2 : tkc T (dayS P T W R (gof P T W R d (A, fun _ => ι 0)).1).2 = 0
    · rw [if_pos e2] at k
      rw [if_pos ((taken_iff hT).mpr e2)]; exact k
    · rw [if_neg e2] at k
      rw [if_neg (fun g => e2 ((taken_iff hT).mp g))]; exact k
  · intro τ s
    have hl := calm_le (P := P) (T := T) (W := W) (R := R) (A := A) 60
    refine Wp.le (T_298_4 rfl s.1.lay) ?_
    simp (disch := omega) only [ι_lt_t, ι_lt_f, ι_le_t, ι_le_f, ι_eq_f, ι_m1, ι_add, ι_mul, ι_pm, ι_sub, ix_ι, gd_inb, gd_t, eq_self, if_true, if_false, not_true_eq_false, not_false_eq_true, ite_self, ]
    by_cases e : calmS P T W R A 60 = 60
    · rw [e, if_neg (fun g => g rfl), if_pos rfl]; exact Wp.retI s
    · rw [if_pos (by rw [ι_eq (by omega) (by omega)]; exact e), if_neg e]; exact Wp.retI s
theorem same_bd {b : Bool} {n : Nat} {B : Wd} (f : Nat → Bool) : fd (fun t s => s && f t) n b = (b && fd (fun t s => s && f t) n true) := by
  induction n with
  | zero => simp [fd]
  | succ n ih =>
    show (fd _ n b && f n) = (b && (fd _ n true && f n))
    rw [ih, Bool.and_assoc]
set_option maxHeartbeats 1000000 in
theorem m299 (h : Nw P T W R A σ0 σ) : Wp (pcall 299 [.ref 61] σ) (RI (rouS P T W R A 60 1 false) (fun τ => ∃ n, Mp P T W R σ (gof P T W R n (A, gI σ 82)) τ)) := by
  have hT := h.1.ok.T
  refine Wp.le (M_299 rfl h.1.lay) ?_
  have key : ∀ k n τ l v w, n + k = 61 → 1 ≤ n → Mp P T W R σ (gof P T W R (n - 1) (A, gI σ 82)) τ → Wp (C_299_4 (bz l) (ι n) v w τ) (RI (rouS P T W R A k n l) (fun τ => ∃ n, Mp P T W R σ (gof P T W R n (A, gI σ 82)) τ)) := by
    intro k
    induction k with
    | zero =>
      intro n τ l v w hn h1 s
      refine Wp.le (T_299_4 rfl s.1.lay) ?_
      have : n = 61 := by omega
      subst this
      simp (disch := omega) only [ι_lt_t, ι_lt_f, ι_le_t, ι_le_f, ι_eq_f, ι_m1, ι_add, ι_mul, ι_pm, ι_sub, ix_ι, gd_inb, gd_t, eq_self, if_true, if_false, not_true_eq_false, not_false_eq_true, ite_self, ]
      exact Wp.retI ⟨_, s⟩
    | succ k ih =>
      intro n τ l v w hn h1 s
      refine Wp.le (T_299_4 rfl s.1.lay) ?_
      simp (disch := omega) only [ι_lt_t, ι_lt_f, ι_le_t, ι_le_f, ι_eq_f, ι_m1, ι_add, ι_mul, ι_pm, ι_sub, ix_ι, gd_inb, gd_t, eq_self, if_true, if_false, not_true_eq_false, not_false_eq_true, ite_self, ]
      refine Wp.cV (m273' s) fun υ hu => ?_
      obtain ⟨s', -⟩ := hu
      have e : dayF P T W R (gof P T W R (n - 1) (A, gI σ 82)) = gof P T W R n (A, gI σ 82) := by rw [← gof_s]; congr 1; omega
      rw [e] at s'
      have hrow := s'.2.1.row h.2.2 h.1.ok.P hT
      -- the comparing loop
      refine Wp.loop (α := Unit) T (fun t _ => C_299_19 (bz l) (ι n) (bz (fd (fun t s => s && decide ((gof P T W R n (A, fun _ => ι 0)).1 1 t = A 1 t)) t true)) (ι t) υ) (fun _ _ => True) ?_ ?_ (t := 0) (a := ()) (Nat.zero_le _) trivial
      · intro t _ ht _ k2
        have k2 := k2 () trivial
        refine Wp.le (T_299_19 rfl s'.1.lay) ?_
        have e2 : fd (fun t s => s && decide ((gof P T W R n (A, fun _ => ι 0)).1 1 t = A 1 t)) (t + 1) true = (fd (fun t s => s && decide ((gof P T W R n (A, fun _ => ι 0)).1 1 t = A 1 t)) t true && decide ((gof P T W R n (A, fun _ => ι 0)).1 1 t = A 1 t)) := rfl
        rw [e2] at k2
        have e75 : gI υ 75 t = (gof P T W R n (A, fun _ => ι 0)).1 1 t := by rw [s'.1.own t ht]; exact congrFun (congrFun (gof_w n) 1) t
        have e83 : gI υ 83 (1 + t) = A 1 t := by have := hrow.2.1 t ht; rwa [Nat.zero_add] at this
        rw [s'.1.T]
        cases hb : fd (fun t s => s && decide ((gof P T W R n (A, fun _ => ι 0)).1 1 t = A 1 t)) t true with
        | false =>
          rw [hb, Bool.false_and] at k2
          simp (disch := omega) only [ι_lt_t, ι_lt_f, ι_le_t, ι_le_f, ι_eq_f, ι_m1, ι_add, ι_mul, ι_pm, ι_sub, ix_ι, gd_inb, gd_t, eq_self, if_true, if_false, not_true_eq_false, not_false_eq_true, ite_self, bz_f] at k2 ⊢
          exact k2
        | true =>
          rw [hb, Bool.true_and] at k2
          by_cases e3 : (gof P T W R n (A, fun _ => ι 0)).1 1 t = A 1 t
          · simp (disch := omega) only [ι_lt_t, ι_lt_f, ι_le_t, ι_le_f, ι_eq_f, ι_m1, ι_add, ι_mul, ι_pm, ι_sub, ix_ι, gd_inb, gd_t, eq_self, if_true, if_false, not_true_eq_false, not_false_eq_true, ite_self, bz_t, e75, e83, e3, decide_true] at k2 ⊢
            exact k2
          · simp (disch := omega) only [ι_lt_t, ι_lt_f, ι_le_t, ι_le_f, ι_eq_f, ι_m1, ι_add, ι_mul, ι_pm, ι_sub, ix_ι, gd_inb, gd_t, eq_self, if_true, if_false, not_true_eq_false, not_false_eq_true, ite_self, bz_t, bz_f, e75, e83, e3, decide_false] at k2 ⊢
            exact k2
      · intro _ _
        refine Wp.le (T_299_19 rfl s'.1.lay) ?_
        rw [s'.1.T]
        simp (disch := omega) only [ι_lt_t, ι_lt_f, ι_le_t, ι_le_f, ι_eq_f, ι_m1, ι_add, ι_mul, ι_pm, ι_sub, ix_ι, gd_inb, gd_t, eq_self, if_true, if_false, not_true_eq_false, not_false_eq_true, ite_self, ]
        show Wp _ (RI (rouS P T W R A (k + 1) n l) _)
        have es : fd (fun t s => s && decide ((gof P T W R n (A, fun _ => ι 0)).1 1 t = A 1 t)) T true = sameO T A (gof P T W R n (A, fun _ => ι 0)).1 := rfl
        rw [es]
        unfold rouS
        cases hs : sameO T A (gof P T W R n (A, fun _ => ι 0)).1 with
        | false =>
          cases l with
          | false =>
            simp (disch := omega) only [ι_lt_t, ι_lt_f, ι_le_t, ι_le_f, ι_eq_f, ι_m1, ι_add, ι_mul, ι_pm, ι_sub, ix_ι, gd_inb, gd_t, eq_self, if_true, if_false, not_true_eq_false, not_false_eq_true, ite_self, bz_0, bz_f, Bool.false_eq_true, false_and, Bool.not_false, Bool.or_true, bz_t, show (ι 1 = ι 0) = False by decide]
            exact ih (n + 1) υ true _ _ (by omega) (by omega) s'
          | true =>
            simp (disch := omega) only [ι_lt_t, ι_lt_f, ι_le_t, ι_le_f, ι_eq_f, ι_m1, ι_add, ι_mul, ι_pm, ι_sub, ix_ι, gd_inb, gd_t, eq_self, if_true, if_false, not_true_eq_false, not_false_eq_true, ite_self, bz_0, bz_f, Bool.false_eq_true, false_and, Bool.not_false, Bool.or_true, bz_t, show (ι 1 = ι 0) = False by decide]
            exact ih (n + 1) υ true _ _ (by omega) (by omega) s'
        | true =>
          cases l with
          | false =>
            simp (disch := omega) only [ι_lt_t, ι_lt_f, ι_le_t, ι_le_f, ι_eq_f, ι_m1, ι_add, ι_mul, ι_pm, ι_sub, ix_ι, gd_inb, gd_t, eq_self, if_true, if_false, not_true_eq_false, not_false_eq_true, ite_self, bz_0, bz_f, Bool.false_eq_true, and_false, Bool.not_true, Bool.or_false, bz_t, show (ι 1 = ι 0) = False by decide]
            exact ih (n + 1) υ false _ _ (by omega) (by omega) s'
          | true =>
            simp (disch := omega) only [ι_lt_t, ι_lt_f, ι_le_t, ι_le_f, ι_eq_f, ι_m1, ι_add, ι_mul, ι_pm, ι_sub, ix_ι, gd_inb, gd_t, eq_self, if_true, if_false, not_true_eq_false, not_false_eq_true, ite_self, bz_0, bz_f, Bool.false_eq_true, and_self, bz_t, show (ι 1 = ι 0) = False by decide]
            exact Wp.retI ⟨_, s'⟩
  exact key 60 1 σ false _ _ (by omega) (by omega) (Mp.start h.1)
theorem n297 (h : CM P T W R A σ) (h0 : A 0 1 = ι 0) : Wp (pcall 297 [.ref 61, .int x0] σ) (qM P T W R A σ (q_rests P T W R A x0)) := by
  have hT := h.ok.T; have hP := h.ok.P
  have hc : CM P T W R A (sC σ) := h.c0
  refine Wp.le (M_297 rfl h.lay) ?_
  unfold q_rests
  rw [j0, j1, p261b hc.lay, bI_ret]
  by_cases e2 : btw (ι 0) (ι 1) x0 = true
  · rw [e2, bz_t, if_pos (by decide), if_pos rfl]
    refine Wp.cV (b271 hc QN.rf) fun τ hn1 => ?_
    obtain ⟨nw, -⟩ := hn1
    by_cases z0 : x0 = ι 0
    · rw [if_neg (fun g => g z0), if_pos z0]
      refine Wp.cI (m298 nw) fun τ2 s => ?_
      have lk := (gof_ok (W := W) (R := R) h.ok h0 (g := gI τ 82) 60).2
      exact Wp.cV (b284' s nw.2.1 nw.2.2 h.ok lk) fun υ' hu => qM.r rfl hu.1
    · rw [if_pos z0, if_neg z0]
      refine Wp.cI (m299 nw) fun τ2 hs => ?_
      obtain ⟨n, s⟩ := hs
      have lk := (gof_ok (W := W) (R := R) h.ok h0 (g := gI τ 82) n).2
      exact Wp.cV (b284' s nw.2.1 nw.2.2 h.ok lk) fun υ' hu => qM.r rfl hu.1
  · have e2' : btw (ι 0) (ι 1) x0 = false := by simpa using e2
    rw [e2', bz_f, if_neg (fun g => g rfl), if_neg (by decide)]; exact qM.f (by omega) h
theorem m276 (h : CM P T W R A σ) (hp : p < P) (ht : t < T) : pcall 276 [.ref 61, .int (ι p), .int (ι t)] σ = some (0, .null, sI (sI σ 75 t (ι p)) 76 t (ι 0)) := by
  have hT := h.ok.T
  refine (M_276 rfl h.lay).eq ?_
  simp (disch := omega) only [ι_lt_t, ι_lt_f, ι_le_t, ι_le_f, ι_eq_f, ι_m1, ι_add, ι_mul, ι_pm, ι_sub, ix_ι, gd_inb, gd_t, eq_self, if_true, if_false, not_true_eq_false, not_false_eq_true, ite_self, ]
set_option maxHeartbeats 1000000 in
theorem n306 (h : CM P T W R A σ) (h0 : A 0 1 = ι 0) : Wp (pcall 306 [.ref 61, .int x0, .int x1] σ) (qM P T W R A σ (q_toAsk P T W R A x0 x1)) := by
  have hT := h.ok.T; have hP := h.ok.P
  have hc : CM P T W R A (sC σ) := h.c0
  refine Wp.le (M_306 rfl h.lay) ?_
  unfold q_toAsk
  rw [m260 hc.lay hc.P hP, bI_ret]
  by_cases e0 : inb' P x0 = true
  · obtain ⟨p, hp, rfl⟩ := inb'_t (by omega) e0
    rw [e0, bz_t, if_pos (by decide), if_pos rfl, j1, j60, p261b hc.lay, bI_ret]
    by_cases e1 : btw (ι 1) (ι 60) x1 = true
    · obtain ⟨n, _, hn, rfl⟩ := btw_ι (by omega) (by omega) e1
      rw [e1, bz_t, if_pos (by decide), if_pos rfl, ix_ι (by omega), ix_ι (by omega)]
      refine Wp.cV (b271 hc QN.rf) fun τ hn1 => ?_
      obtain ⟨nw, -⟩ := hn1
      refine Wp.cV (m272 (Mp.start nw.1) (show n < 2147483648 by omega)) fun τ2 s => ?_
      have lk := (gof_ok (W := W) (R := R) h.ok h0 (g := gI τ 82) n).2
      rw [m252 s.1 hp, bI_ret, bhd_w]
      refine Wp.cV (b284' s nw.2.1 nw.2.2 h.ok lk) fun τ3 hu => ?_
      refine Wp.cI (m262 hu.1.1 hp) fun τ4 f4 => ?_
      have nw4 : Nw P T W R A (sC σ) τ4 := ⟨hu.1.1.sc f4, hu.1.2.1.sc f4, hu.1.2.2.eq (fun i _ _ => f4.i (by unfold Sc; omega) i) hP hT⟩
      have hwish : wishS T W A p = ι (mk (fun t => wantsS T W A p t) T) := by rw [← mk_or hT]; rfl
      refine Wp.fdg (n := T) (b0 := (ν 1, welS T (gof P T W R n (A, fun _ => ι 0)).1 p)) (f := fun t s => if wantsS T W A p t = true ∧ s.2 < askV P T W R A p n t then (ι t, askV P T W R A p n t) else s) (C := fun t b g σ => C_306_79 (ι p) (ι n) b.2 b.1 (wishS T W A p) (ι t) g σ) (I := Nw P T W R A (sC σ)) ?_ ?_ nw4
      · rintro t τ5 b g ht hf - k
        refine Wp.le (T_306_79 rfl hf.1.lay) ?_
        rw [hf.1.T, hwish, p236 hf.1.lay (by omega), bI_ret, tb_mk hT (by omega), ← hwish]
        have e9 : (decide (t < T) && wantsS T W A p t) = wantsS T W A p t := by simp [ht]
        rw [e9]
        by_cases e : wantsS T W A p t = true
        · simp (disch := omega) only [ι_lt_t, ι_lt_f, ι_le_t, ι_le_f, ι_eq_f, ι_m1, ι_add, ι_mul, ι_pm, ι_sub, ix_ι, gd_inb, gd_t, eq_self, if_true, if_false, not_true_eq_false, not_false_eq_true, ite_self, e, bz_t]
          rw [m276 hf.1 hp ht, bV_ret]
          have g2 : CM P T W R (up (up A 1 t (ι p)) 2 t (ι 0)) (sI (sI τ5 75 t (ι p)) 76 t (ι 0)) := (hf.1.own' hp).run' (r := 0) (by omega)
          have q2 : QM τ5 (sI (sI τ5 75 t (ι p)) 76 t (ι 0)) := (QM.refl.mI (by unfold Mq; omega) (by omega)).mI (by unfold Mq; omega) (by omega)
          refine Wp.cV (m272 (Mp.startB g2) (show n < 2147483648 by omega)) fun τ6 s6 => ?_
          rw [m252 s6.1 hp, bI_ret]
          have lk2 : like A (gof P T W R n (up (up A 1 t (ι p)) 2 t (ι 0), gI (sI (sI τ5 75 t (ι p)) 76 t (ι 0)) 82)).1 := (show like A (up (up A 1 t (ι p)) 2 t (ι 0)) from ⟨fun _ => rfl, fun _ => rfl, rfl⟩).trans (gof_ok g2.ok h0 n).2
          have ev : welS T (gof P T W R n (up (up A 1 t (ι p)) 2 t (ι 0), gI (sI (sI τ5 75 t (ι p)) 76 t (ι 0)) 82)).1 p = askV P T W R A p n t := by rw [gof_w (g' := fun _ => ι 0)]; rfl
          rw [ev]
          refine Wp.cV (b284' s6 (hf.2.1.qm q2) (q2.row hf.2.2 hP hT) h.ok lk2) fun τ7 hu7 => ?_
          have k := fun g' => k g' τ7 hu7.1
          by_cases e2 : b.2 < askV P T W R A p n t
          · simp (disch := omega) only [ι_lt_t, ι_lt_f, ι_le_t, ι_le_f, ι_eq_f, ι_m1, ι_add, ι_mul, ι_pm, ι_sub, ix_ι, gd_inb, gd_t, eq_self, if_true, if_false, not_true_eq_false, not_false_eq_true, ite_self, e, e2, and_self] at k ⊢
            exact k _
          · simp (disch := omega) only [ι_lt_t, ι_lt_f, ι_le_t, ι_le_f, ι_eq_f, ι_m1, ι_add, ι_mul, ι_pm, ι_sub, ix_ι, gd_inb, gd_t, eq_self, if_true, if_false, not_true_eq_false, not_false_eq_true, ite_self, e, e2, and_false] at k ⊢
            exact k _
        · have e' : wantsS T W A p t = false := by simpa using e
          have k := fun g' => k g' τ5 hf
          simp (disch := omega) only [ι_lt_t, ι_lt_f, ι_le_t, ι_le_f, ι_eq_f, ι_m1, ι_add, ι_mul, ι_pm, ι_sub, ix_ι, gd_inb, gd_t, eq_self, if_true, if_false, not_true_eq_false, not_false_eq_true, ite_self, e', bz_f, Bool.false_eq_true, false_and] at k ⊢
          exact k _
      · intro g τ5 hf
        refine Wp.le (T_306_79 rfl hf.1.lay) ?_
        rw [hf.1.T]
        simp (disch := omega) only [ι_lt_t, ι_lt_f, ι_le_t, ι_le_f, ι_eq_f, ι_m1, ι_add, ι_mul, ι_pm, ι_sub, ix_ι, gd_inb, gd_t, eq_self, if_true, if_false, not_true_eq_false, not_false_eq_true, ite_self, ]
        exact qM.r rfl hf
    · have e1' : btw (ι 1) (ι 60) x1 = false := by simpa using e1
      rw [e1', bz_f, if_neg (fun g => g rfl), if_neg (by decide)]; exact qM.f (by omega) h
  · have e0' : inb' P x0 = false := by simpa using e0
    rw [e0', bz_f, if_neg (fun g => g rfl), if_neg (by decide)]; exact qM.f (by omega) h
end ASKS4
