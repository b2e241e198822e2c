/-! ===== the reference: what comes if only days go by, its public questions ===== -/
section ASKS3
variable {P T : Nat} {W R : Rl} {A B : Wd} {σ τ υ σ0 : pS} {t p n : Nat} {x : Wd × (Nat → Int32)} {x0 x1 x2 : Int32}
theorem p261b {x a b : Int32} (hL : LayR (gR σ)) : pcall 261 [.long x.toInt64, .long a.toInt64, .long b.toInt64] σ = some (1, .int (bz (btw a b x)), σ) := p261 hL
theorem j0 : (0 : Int64) = (ι 0).toInt64 := by decide
theorem j1 : (1 : Int64) = (ι 1).toInt64 := by decide
theorem j2 : (2 : Int64) = (ι 2).toInt64 := by decide
theorem j3 : (3 : Int64) = (ι 3).toInt64 := by decide
theorem j5 : (5 : Int64) = (ι 5).toInt64 := by decide
theorem j9 : (9 : Int64) = (ι 9).toInt64 := by decide
theorem j10 : (10 : Int64) = (ι 10).toInt64 := by decide
theorem j20 : (20 : Int64) = (ι 20).toInt64 := by decide
theorem j60 : (60 : Int64) = (ι 60).toInt64 := by decide
/-- what a question comes to in the reference -/
def qM (P T : Nat) (W R : Rl) (A : Wd) (σ : pS) (r : Nat × Int32) (z : pZ) : Prop := ∃ v τ, z = (1, .int v, τ) ∧ (r.1 = 0 → v = r.2) ∧ CM P T W R A τ ∧ QN (sI σ 61 4 (ι r.1)) τ
abbrev sC (σ : pS) : pS := sI σ 61 4 (ι 0)
theorem CM.c0 (h : CM P T W R A σ) {y : Int32} : CM P T W R A (sI σ 61 4 y) := h.any (by omega)
theorem qM.r {v w : Int32} (e : v = w) (h : Nw P T W R A (sC σ) τ) : Wp (some (1, .int v, τ)) (qM P T W R A σ (0, w)) := .ret ⟨v, τ, rfl, fun _ => e, h.1, h.2.1⟩
theorem qM.r' {v w : Int32} (e : v = w) (h : CM P T W R A τ) (f : QN (sC σ) τ) : Wp (some (1, .int v, τ)) (qM P T W R A σ (0, w)) := .ret ⟨v, τ, rfl, fun _ => e, h, f⟩
theorem qM.f {k : Nat} {w : Int32} (hk : ¬ k = 0) (h : CM P T W R A σ) : Wp (bI (pcall 211 [.ref 61, .int (ι k)] (sC σ)) fun r τ => some (1, .int r, τ)) (qM P T W R A σ (k, w)) := by
  rw [p211 h.c0.lay, bI_ret]
  refine .ret ⟨_, _, rfl, fun g => absurd g hk, h.c0.c0, ⟨⟨rfl, rfl, rfl, rfl, rfl, fun a ha => ⟨fun i => ?_, fun _ => rfl⟩⟩, fun i hi => ?_⟩⟩
  · have : a ≠ 61 := fun e => ha (by rw [e]; unfold Qq Mq; omega)
    rw [gI_c this, gI_c this, gI_c this]
  · by_cases e : i = 4
    · rw [e, gI_s, gI_s]
    · rw [gI_n e, gI_n e, gI_n e]
theorem Mp.sc (s : Mp P T W R σ0 x τ) (f : Fr Sc τ υ) : Mp P T W R σ0 x υ := ⟨s.1.sc f, s.2.1.trans (QM.sc f), fun j hj => by rw [f.i (by unfold Sc; omega)]; exact s.2.2 j hj⟩
theorem bhd_w {g : Nat → Int32} : (gof P T W R n (A, g)).1 = (bhd P T W R A n).1 := gof_w n
theorem n285 (h : CM P T W R A σ) (h0 : A 0 1 = ι 0) : Wp (pcall 285 [.ref 61, .int x0, .int x1, .int x2] σ) (qM P T W R A σ (q_then P T W R A x0 x1 x2)) := by
  have hT := h.ok.T; have hP := h.ok.P
  have hc : CM P T W R A (sC σ) := h.c0
  refine Wp.le (M_285 rfl h.lay) ?_
  unfold q_then
  rw [m264 hc.lay hc.T hT, bI_ret]
  by_cases e0 : inb' T x0 = true
  · obtain ⟨t, ht, rfl⟩ := inb'_t (by omega) e0
    rw [e0, bz_t, if_neg (by decide), if_pos rfl, j0, j2, p261b hc.lay, bI_ret]
    by_cases e2 : btw (ι 0) (ι 2) x2 = true
    · rw [e2, bz_t, if_pos (by decide), if_pos rfl, j60, p261b hc.lay, bI_ret]
      by_cases e1 : btw (ι 0) (ι 60) x1 = true
      · obtain ⟨n, _, hn, rfl⟩ := btw_ι (by omega) (by omega) e1
        rw [e1, bz_t, if_pos (by decide), if_pos rfl, ix_ι (by omega), ix_ι (by omega)]
        refine Wp.cV (b271 hc QN.rf) fun τ hn1 => ?_
        obtain ⟨nw, -⟩ := hn1
        refine Wp.cV (m272 (Mp.start nw.1) (show n < 2147483648 by omega)) fun τ2 s => ?_
        have lk := (gof_ok (W := W) (R := R) h.ok h0 (g := gI τ 82) n).2
        have fin : ∀ {υ v w}, Mp P T W R τ (gof P T W R n (A, gI τ 82)) υ → v = w → Wp (bV (pcall 284 [.ref 61, .ref 83, .int (ι 0)] υ) fun σ' => some (1, .int v, σ')) (qM P T W R A σ (0, w)) := by
          intro υ v w s e
          exact Wp.cV (b284' s nw.2.1 nw.2.2 h.ok lk) fun υ' hu => qM.r e hu.1
        by_cases z0 : x2 = ι 0
        · rw [if_neg (fun g => g z0), if_pos z0]
          simp (disch := omega) only [ι_lt_t, ι_lt_f, ι_le_t, ι_le_f, ι_eq_f, ι_m1, ι_add, ι_mul, ι_pm, ι_sub, ix_ι, gd_inb, gd_t, eq_self, if_true, if_false, not_true_eq_false, not_false_eq_true, ite_self, s.1.own t ht]
          exact fin s (by rw [bhd_w])
        · rw [if_pos z0, if_neg z0]
          by_cases z1 : x2 = ι 1
          · rw [if_neg (fun g => g z1), if_pos z1]
            simp (disch := omega) only [ι_lt_t, ι_lt_f, ι_le_t, ι_le_f, ι_eq_f, ι_m1, ι_add, ι_mul, ι_pm, ι_sub, ix_ι, gd_inb, gd_t, eq_self, if_true, if_false, not_true_eq_false, not_false_eq_true, ite_self, s.1.run t ht]
            exact fin s (by rw [bhd_w])
          · rw [if_pos z1, if_neg z1]
            refine Wp.cI (m242 s.1 ht) fun υ f => ?_
            have s' := s.sc f
            obtain ⟨m, hm, w1, w2⟩ := wb_pc (T := T) (W := W) hP (gof P T W R n (A, gI τ 82)).1 t
            rw [w1, p247 s'.1.lay hm, bI_ret]
            exact fin s' (by rw [w2, bhd_w])
      · have e1' : btw (ι 0) (ι 60) x1 = false := by simpa using e1
        rw [e1', bz_f, if_neg (fun g => g rfl), if_neg (by decide)]; exact qM.f (by omega) h
    · have e2' : btw (ι 0) (ι 2) x2 = false := by simpa using e2
      rw [e2', bz_f, if_neg (fun g => g rfl), if_neg (by decide)]; exact qM.f (by omega) h
  · have e0' : inb' T x0 = false := by simpa using e0
    rw [e0', bz_f, if_pos rfl, if_neg (by decide)]; exact qM.f (by omega) h
theorem n286 (h : CM P T W R A σ) (h0 : A 0 1 = ι 0) : Wp (pcall 286 [.ref 61, .int x0, .int x1, .int x2] σ) (qM P T W R A σ (q_has P T W R A x0 x1 x2)) := by
  have hT := h.ok.T; have hP := h.ok.P
  have hc : CM P T W R A (sC σ) := h.c0
  refine Wp.le (M_286 rfl h.lay) ?_
  unfold q_has
  rw [m260 hc.lay hc.P hP, bI_ret]
  by_cases e0 : inb' P x0 = true
  · obtain ⟨p, hp, rfl⟩ := inb'_t (by omega) e0
    rw [e0, bz_t, if_neg (by decide), if_pos rfl, j0, j1, p261b hc.lay, bI_ret]
    by_cases e2 : btw (ι 0) (ι 1) x2 = true
    · rw [e2, bz_t, if_pos (by decide), if_pos rfl, j60, p261b hc.lay, bI_ret]
      by_cases e1 : btw (ι 0) (ι 60) x1 = true
      · obtain ⟨n, _, hn, rfl⟩ := btw_ι (by omega) (by omega) e1
        rw [e1, bz_t, if_pos (by decide), if_pos rfl, ix_ι (by omega), ix_ι (by omega)]
        refine Wp.cV (b271 hc QN.rf) fun τ hn1 => ?_
        obtain ⟨nw, -⟩ := hn1
        refine Wp.cV (m272 (Mp.start nw.1) (show n < 2147483648 by omega)) fun τ2 s => ?_
        have lk := (gof_ok (W := W) (R := R) h.ok h0 (g := gI τ 82) n).2
        have fin : ∀ {υ v w}, Mp P T W R τ (gof P T W R n (A, gI τ 82)) υ → v = w → Wp (bV (pcall 284 [.ref 61, .ref 83, .int (ι 0)] υ) fun σ' => some (1, .int v, σ')) (qM P T W R A σ (0, w)) := by
          intro υ v w s e
          exact Wp.cV (b284' s nw.2.1 nw.2.2 h.ok lk) fun υ' hu => qM.r e hu.1
        by_cases z0 : x2 = ι 0
        · obtain ⟨m, hm, w1, w2⟩ := how_pc (A := (gof P T W R n (A, gI τ 82)).1) hT (ι p)
          rw [if_neg (fun g => g z0), if_pos z0, m246 s.1, bI_ret, w1, p247 s.1.lay hm, bI_ret]
          exact fin s (by rw [w2, bhd_w])
        · rw [if_pos z0, if_neg z0, m252 s.1 hp, bI_ret]
          exact fin s (by rw [bhd_w])
      · have e1' : btw (ι 0) (ι 60) x1 = false := by simpa using e1
        rw [e1', bz_f, if_neg (fun g => g rfl), if_neg (by decide)]; exact qM.f (by omega) h
    · have e2' : btw (ι 0) (ι 1) x2 = false := by simpa using e2
      rw [e2', bz_f, if_neg (fun g => g rfl), if_neg (by decide)]; exact qM.f (by omega) h
  · have e0' : inb' P x0 = false := by simpa using e0
    rw [e0', bz_f, if_pos rfl, if_neg (by decide)]; exact qM.f (by omega) h
theorem n287 (h : CM P T W R A σ) (h0 : A 0 1 = ι 0) : Wp (pcall 287 [.ref 61, .int x0] σ) (qM P T W R A σ (q_kept P T W R A x0)) := by
  have hT := h.ok.T
  have hc : CM P T W R A (sC σ) := h.c0
  refine Wp.le (M_287 rfl h.lay) ?_
  unfold q_kept
  rw [m264 hc.lay hc.T hT, bI_ret]
  by_cases e0 : inb' T x0 = true
  · obtain ⟨t, ht, rfl⟩ := inb'_t (by omega) e0
    rw [e0, bz_t, if_pos (by decide), if_pos rfl, ix_ι (by omega)]
    refine Wp.cV (b271 hc QN.rf) fun τ hn1 => ?_
    refine Wp.cI (m288 ⟨trivial, hn1.1.2⟩ hn1.1.1 h.ok like.rf h0 ht) fun υ hu => ?_
    exact qM.r rfl hu
  · have e0' : inb' T x0 = false := by simpa using e0
    rw [e0', bz_f, if_neg (fun g => g rfl), if_neg (by decide)]; exact qM.f (by omega) h
theorem n289 (h : CM P T W R A σ) (h0 : A 0 1 = ι 0) : Wp (pcall 289 [.ref 61, .int x0, .int x1, .int x2] σ) (qM P T W R A σ (q_held P T W R A x0 x1 x2)) := by
  have hT := h.ok.T; have hP := h.ok.P
  have hc : CM P T W R A (sC σ) := h.c0
  refine Wp.le (M_289 rfl h.lay) ?_
  unfold q_held
  rw [m260 hc.lay hc.P hP, bI_ret]
  by_cases e0 : inb' P x0 = true
  · obtain ⟨p, hp, rfl⟩ := inb'_t (by omega) e0
    rw [e0, bz_t, if_neg (by decide), if_pos rfl, m264 hc.lay hc.T hT, bI_ret]
    by_cases e2 : inb' T x1 = true
    · obtain ⟨t, ht, rfl⟩ := inb'_t (by omega) e2
      rw [e2, bz_t, if_pos (by decide), if_pos rfl, j1, j60, p261b hc.lay, bI_ret]
      by_cases e1 : btw (ι 1) (ι 60) x2 = true
      · obtain ⟨n, _, hn, rfl⟩ := btw_ι (by omega) (by omega) e1
        rw [e1, bz_t, if_pos (by decide), if_pos rfl, ix_ι (by omega), ix_ι (by omega)]
        refine Wp.cV (b271 hc QN.rf) fun τ hn1 => ?_
        obtain ⟨nw, -⟩ := hn1
        refine Wp.loop (α := Int32 × pS) n (fun d y => C_289_60 (ι p) (ι t) (ι n) y.1 (ι d) y.2) (fun d y => y.1 = fd (fun d s => s + if (bhd P T W R A (d + 1)).1 1 t = ι p then ι 1 else ι 0) d (ι 0) ∧ Mp P T W R τ (gof P T W R d (A, gI τ 82)) y.2) ?_ ?_ (t := 0) (a := (ι 0, τ)) (Nat.zero_le _) ⟨rfl, Mp.start nw.1⟩
        · rintro d ⟨b, τ1⟩ hd ⟨hb, s⟩ k
          dsimp only at hb s k ⊢
          refine Wp.le (T_289_60 rfl s.1.lay) ?_
          simp (disch := omega) only [ι_lt_t, ι_lt_f, ι_le_t, ι_le_f, ι_eq_f, ι_m1, ι_add, ι_mul, ι_pm, ι_sub, ix_ι, gd_inb, gd_t, eq_self, if_true, if_false, not_true_eq_false, not_false_eq_true, ite_self, ]
          refine Wp.cV (m273' s) fun υ hu => ?_
          obtain ⟨s', -⟩ := hu
          rw [← gof_s] at s'
          have k := k (b + if (bhd P T W R A (d + 1)).1 1 t = ι p then ι 1 else ι 0, υ) ⟨by rw [hb]; rfl, s'⟩
          have ew : gI υ 75 t = (bhd P T W R A (d + 1)).1 1 t := by rw [s'.1.own t ht, bhd_w]
          rw [ew]
          by_cases e : (bhd P T W R A (d + 1)).1 1 t = ι p
          · rw [if_pos e] at k
            rw [if_neg (fun g => g e)]; exact k
          · rw [if_neg e] at k
            rw [if_pos e]; exact k
        · rintro ⟨b, τ1⟩ ⟨hb, s⟩
          dsimp only at hb s ⊢
          refine Wp.le (T_289_60 rfl s.1.lay) ?_
          simp (disch := omega) only [ι_lt_t, ι_lt_f, ι_le_t, ι_le_f, ι_eq_f, ι_m1, ι_add, ι_mul, ι_pm, ι_sub, ix_ι, gd_inb, gd_t, eq_self, if_true, if_false, not_true_eq_false, not_false_eq_true, ite_self, ]
          have lk := (gof_ok (W := W) (R := R) h.ok h0 (g := gI τ 82) n).2
          exact Wp.cV (b284' s nw.2.1 nw.2.2 h.ok lk) fun υ' hu => qM.r hb hu.1
      · have e1' : btw (ι 1) (ι 60) x2 = false := by simpa using e1
        rw [e1', bz_f, if_neg (fun g => g rfl), if_neg (by decide)]; exact qM.f (by omega) h
    · have e2' : inb' T x1 = false := by simpa using e2
      rw [e2', bz_f, if_neg (fun g => g rfl), if_neg (by decide)]; exact qM.f (by omega) h
  · have e0' : inb' P x0 = false := by simpa using e0
    rw [e0', bz_f, if_pos rfl, if_neg (by decide)]; exact qM.f (by omega) h
/-- nothing has been counted yet -/
theorem b291 (h : Nw P T W R A σ0 σ) : Wp (pcall 291 [.ref 61] σ) (RV (fun τ => Nw P T W R A σ0 τ ∧ ∀ j, j < 12 → gI τ 82 j = ι 0)) := by
  refine (m291 h.1.lay).mono ?_
  rintro z ⟨v, τ, rfl, f, e⟩
  refine ⟨v, τ, rfl, ⟨?_, h.2.1.fr f (by unfold Qq Mq; omega) (by omega), h.2.2.eq (fun i _ _ => f.i (by omega) i) h.1.ok.P h.1.ok.T⟩, e⟩
  exact h.1.fr f (by omega) (by omega) (by omega) (by omega) (by omega) (by omega) (by omega) (by omega) (by omega) (by omega)
theorem Mp.zero (h : CM P T W R A σ) (e : ∀ j, j < 12 → gI σ 82 j = ι 0) : Mp P T W R σ (A, fun _ => ι 0) σ := ⟨h, QM.refl, fun j hj => e j (by have := h.ok.T; omega)⟩
theorem n290 (h : CM P T W R A σ) (h0 : A 0 1 = ι 0) : Wp (pcall 290 [.ref 61, .int x0, .int x1] σ) (qM P T W R A σ (q_taken P T W R A x0 x1)) := by
  have hT := h.ok.T; have hP := h.ok.P
  have hc : CM P T W R A (sC σ) := h.c0
  refine Wp.le (M_290 rfl h.lay) ?_
  unfold q_taken
  rw [m264 hc.lay hc.T hT, bI_ret]
  by_cases e0 : inb' T x0 = true
  · obtain ⟨t, ht, rfl⟩ := inb'_t (by omega) e0
    rw [e0, bz_t, if_pos (by decide), if_pos rfl, j0, j60, p261b hc.lay, bI_ret]
    by_cases e1 : btw (ι 0) (ι 60) x1 = true
    · obtain ⟨n, _, hn, rfl⟩ := btw_ι (by omega) (by omega) e1
      rw [e1, bz_t, if_pos (by decide), if_pos rfl, ix_ι (by omega), ix_ι (by omega)]
      refine Wp.cV (b271 hc QN.rf) fun τ hn1 => ?_
      refine Wp.cV (b291 hn1.1) fun τ1 hn2 => ?_
      obtain ⟨nw, z⟩ := hn2
      refine Wp.cV (m272 (Mp.zero nw.1 z) (show n < 2147483648 by omega)) fun τ2 s => ?_
      have lk := (gof_ok (W := W) (R := R) h.ok h0 (g := fun _ => ι 0) n).2
      refine Wp.cV (b284' s nw.2.1 nw.2.2 h.ok lk) fun υ' hu => ?_
      simp (disch := omega) only [ι_lt_t, ι_lt_f, ι_le_t, ι_le_f, ι_eq_f, ι_m1, ι_add, ι_mul, ι_pm, ι_sub, ix_ι, gd_inb, gd_t, eq_self, if_true, if_false, not_true_eq_false, not_false_eq_true, ite_self, ]
      exact qM.r (by rw [hu.2 t]; exact s.2.2 t ht) hu.1
    · have e1' : btw (ι 0) (ι 60) x1 = false := by simpa using e1
      rw [e1', bz_f, if_neg (fun g => g rfl), if_neg (by decide)]; exact qM.f (by omega) h
  · have e0' : inb' T x0 = false := by simpa using e0
    rw [e0', bz_f, if_neg (fun g => g rfl), if_neg (by decide)]; exact qM.f (by omega) h
theorem n292 (h : CM P T W R A σ) (h0 : A 0 1 = ι 0) : Wp (pcall 292 [.ref 61, .int x0, .int x1] σ) (qM P T W R A σ (q_later P T W R A x0 x1)) := by
  have hT := h.ok.T; have hP := h.ok.P
  have hc : CM P T W R A (sC σ) := h.c0
  refine Wp.le (M_292 rfl h.lay) ?_
  unfold q_later
  rw [j0, j3, p261b hc.lay, bI_ret]
  by_cases e2 : btw (ι 0) (ι 3) x1 = true
  · rw [e2, bz_t, if_pos (by decide), if_pos rfl, j60, p261b hc.lay, bI_ret]
    by_cases e1 : btw (ι 0) (ι 60) x0 = true
    · obtain ⟨n, _, hn, rfl⟩ := btw_ι (by omega) (by omega) e1
      rw [e1, bz_t, if_pos (by decide), if_pos rfl, ix_ι (by omega)]
      refine Wp.cV (b271 hc QN.rf) fun τ hn1 => ?_
      refine Wp.cV (b291 hn1.1) fun τ1 hn2 => ?_
      obtain ⟨nw, z⟩ := hn2
      refine Wp.cV (m272 (Mp.zero nw.1 z) (show n < 2147483648 by omega)) fun τ2 s => ?_
      have lk := (gof_ok (W := W) (R := R) h.ok h0 (g := fun _ => ι 0) n).2
      have fin : ∀ {υ v w}, Mp P T W R τ1 (gof P T W R n (A, fun _ => ι 0)) υ → v = w → Wp (bV (pcall 284 [.ref 61, .ref 83, .int (ι 0)] υ) fun σ' => some (1, .int v, σ')) (qM P T W R A σ (0, w)) := by
        intro υ v w s e
        exact Wp.cV (b284' s nw.2.1 nw.2.2 h.ok lk) fun υ' hu => qM.r e hu.1
      obtain ⟨k, _, hk, rfl⟩ := btw_ι (by omega) (by omega) e2
      rcases (by omega : k = 0 ∨ k = 1 ∨ k = 2 ∨ k = 3) with rfl | rfl | rfl | rfl
      · rw [if_neg (by decide), if_pos rfl, m293 s.1, bI_ret]
        exact fin s (sum_congr s.2.2)
      · rw [if_pos (by decide), if_neg (by decide), if_neg (by decide), if_pos rfl, m294 s.1, bI_ret]
        exact fin s (by rw [show mostF T (gI τ2 82) = mostF T (bhd P T W R A n).2 from most_congr s.2.2])
      · rw [if_pos (by decide), if_pos (by decide), if_neg (by decide), if_neg (by decide), if_neg (by decide), if_pos rfl, m295 s.1, bI_ret]
        exact fin s rfl
      · rw [if_pos (by decide), if_pos (by decide), if_pos (by decide), if_neg (by decide), if_neg (by decide), if_neg (by decide), m296 s.1, bI_ret]
        exact fin s rfl
    · have e1' : btw (ι 0) (ι 60) x0 = false := by simpa using e1
      rw [e1', bz_f, if_neg (fun g => g rfl), if_neg (by decide)]; exact qM.f (by omega) h
  · have e2' : btw (ι 0) (ι 3) x1 = false := by simpa using e2
    rw [e2', bz_f, if_neg (fun g => g rfl), if_neg (by decide)]; exact qM.f (by omega) h
end ASKS3
