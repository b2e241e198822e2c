/-! ===== acts: the reference ===== -/
section ACTS2
variable {P T : Nat} {W R : Rl} {A A' B : Wd} {σ τ υ σ0 : pS} {q c c' n k i j p o t r : Nat} {m m2 : Me} {y x0 x1 x2 v w : Int32} {im : Option (Wd × Me)} {tp : Nat × (Nat → Int32)} {fp : Int32} {b : Bool}
theorem oM.ret {I : pS → Prop} (e : v = w) (hI : I τ) (h4 : gI τ 61 4 = ι 0) (f : Fq MA VM σ τ) : Wp (some (1, .int v, τ)) (oM σ I (0, w)) := .ret ⟨v, τ, rfl, fun _ => e, h4, hI, f⟩
theorem oM.fl (hk : ¬ k = 0) (h : MI P T W R A m im tp fp σ) : Wp (bI (pcall 211 [.ref 61, .int (ι k)] (sC σ)) fun r τ => some (1, .int r, τ)) (oM σ (fun τ => MI P T W R A m im tp fp τ) (k, w)) := oM.qry h (qM.f hk h.cmw)
theorem oM.bb (hk : ¬ k = 0) (h : MI P T W R A m im tp fp σ) : Wp (bI (pcall 282 [.ref 61, .int (ι k)] (sC σ)) fun r τ => gd (narrow .boolean (.int r) = .int r) (some (1, .int r, τ))) (oM σ (fun τ => MI P T W R A m im tp fp τ) (k, w)) := oM.qry h (qM.b hk h.cmw)
theorem MI.rf (h : MI P T W R A m im tp fp σ) (hi : i < 3) : MI P T W R A (refS m i) im tp fp (sI σ 73 i (gI σ 73 i + ι 1)) := by
  have k : ∀ a, a ≠ 73 → ∀ j, gI (sI σ 73 i (gI σ 73 i + ι 1)) a j = gI σ a j := fun a h1 j => gI_c h1
  have hP := h.cmw.ok.P; have hT := h.cmw.ok.T
  obtain ⟨h1, h2, h3, h4, h5⟩ := h.mem
  refine h.st (h.cmw.any (by omega)) like.rf h.mok.rf ⟨by rw [k _ (by omega)]; exact h1, fun k' hk' => (h2 k' hk').mv hP hT (fun i' _ => k _ (by omega) _), by rw [k _ (by omega)]; exact h3, fun k' hk' => by rw [k _ (by omega), k _ (by omega), k _ (by omega)]; exact h4 k' hk', fun j hj => ?_⟩ (fun i => k _ (by omega) i) (fun i _ => k _ (by omega) i) (fun a ha i => k _ (by omega) i)
  show gI _ 73 j = if j = i then m.2.2 i + ι 1 else m.2.2 j
  by_cases e : j = i
  · rw [e, gI_s, if_pos rfl, h5 i hi]
  · rw [gI_n e, if_neg e]; exact h5 j hj
theorem QN.f4 (f : QN (sC σ) τ) : gI τ 61 4 = ι 0 := by rw [f.2 4 (by unfold Qf Mf; omega), gI_s]
theorem oM.rf' (h : MI P T W R A m im tp fp σ) (cm : CM P T W R A υ) (f : QN (sC σ) υ) (hi : i < 3) (e : v = w) : Wp (some (1, .int v, sI υ 73 i (gI υ 73 i + ι 1))) (oM σ (fun τ => MI P T W R A (refS m i) im tp fp τ) (0, w)) :=
  oM.ret e ((h.qn cm f).rf hi) (by rw [gI_c (by omega)]; exact f.f4) ((MA.qn f).mI (Or.inl (by omega)))
theorem oM.rf (h : MI P T W R A m im tp fp σ) (cm : CM P T W R A υ) (f : QN (sC σ) υ) (hi : i < 3) : Wp (bI (pcall 269 [.ref 61, .int (ι i)] υ) fun r τ => some (1, .int r, τ)) (oM σ (fun τ => MI P T W R A (refS m i) im tp fp τ) (0, ν 1)) := by
  rw [m269 cm.lay hi, bI_ret]
  exact oM.rf' h cm f hi rfl
/-- behind an act's being kept -/
theorem MI.ke (h : MI P T W R A m im tp fp σ) (cm : CM P T W R A υ) (f : QN (sC σ) υ) : Wp (pcall 270 [.ref 61] υ) (RV (fun τ => CM P T W R A τ ∧ KeM P T A m υ τ)) := by
  refine (m270 cm (h.qn cm f).mem h.mok).mono ?_
  rintro z ⟨v, τ, rfl, K⟩
  exact ⟨v, τ, rfl, cm.f79 K.1 K.2.1, K⟩
theorem oM.act {τ' : pS} (h : MI P T W R A m im tp fp σ) (f : QN (sC σ) υ) (K : KeM P T A m υ τ) (g : QM τ τ') (cm : CM P T W R A' τ') (l : like A A') (e : v = w) : Wp (some (1, .int v, τ')) (oM σ (fun τ => MI P T W R A' (keS A m) im tp fp τ) (0, w)) := by
  have hP := cm.ok.P; have hT := cm.ok.T
  have k61 : ∀ i, ¬ Qf i → i ≠ 32 → gI τ' 61 i = gI (sC σ) 61 i := fun i hi h2 => by rw [g.2 i (fun g => hi (Or.inl g)), K.2.1 i h2, f.2 i hi]
  have kx : ∀ a, ¬ Qq a → a ≠ 79 → ∀ i, gI τ' a i = gI (sC σ) a i := fun a h1 h2 i => by rw [g.1.i (fun g => h1 (Or.inl g)), K.1.i (by rintro (e | e); exact h1 (by rw [e]; unfold Qq Mq; omega); exact h2 e), f.1.i h1]
  refine oM.ret e (h.st cm l ((h.mok.ke h.cmw.ok).lk l) (K.2.2.mv (A := A) (h.mok.ke h.cmw.ok) hP hT (g.2 32 (by unfold Mf; omega)) (g.2 33 (by unfold Mf; omega)) (fun i _ => g.1.i (by unfold Mq Sc; omega) i) (fun i _ => g.1.i (by unfold Mq Sc; omega) i) (fun i _ => g.1.i (by unfold Mq Sc; omega) i) (fun i _ => g.1.i (by unfold Mq Sc; omega) i) (fun i _ => g.1.i (by unfold Mq Sc; omega) i)) (fun i => by rw [kx 74 (by unfold Qq Mq Sc; omega) (by omega), gI_c (by omega)]) (fun i hi => by rw [k61 i (by unfold Qf Mf; omega) (by omega), gI_n (by omega)]) (fun a ha i => by rw [kx a (by unfold Qq Mq Sc; omega) (by omega), gI_c (by omega)])) (by rw [k61 4 (by unfold Qf Mf; omega) (by omega), gI_s]) ?_
  exact ((MA.qn f).trans (Fq.of K.1 (fun a s => by unfold MA; omega))).trans (Fq.of g.1 (fun a s => by unfold Mq Sc at s; unfold MA Sc; omega))
theorem QM.m75 {a i : Nat} (ha : 75 ≤ a ∧ a ≤ 78) : QM σ (sI σ a i y) := QM.refl.mI (by unfold Mq; omega) (by omega)
theorem o268 (h : MI P T W R A m im tp fp σ) : Wp (pcall 268 [.ref 61, .int x0] σ) (oM σ (fun τ => MI P T W R (a_days P T W R A m x0).2.1 (a_days P T W R A m x0).2.2 im tp fp τ) (a_days P T W R A m x0).1) := by
  have hP := h.cmw.ok.P; have hT := h.cmw.ok.T
  have hc : CM P T W R A (sC σ) := h.cmw.c0
  refine Wp.le (M_268 rfl h.cmw.lay) ?_
  unfold a_days
  rw [j1, j20, p261b hc.lay, bI_ret]
  by_cases e : btw (ι 1) (ι 20) x0 = true
  · obtain ⟨n, _, hn, rfl⟩ := btw_ι (by omega) (by omega) e
    rw [e, bz_t, if_neg (by decide), if_pos rfl, hc.day, ix_ι (by omega)]
    by_cases e3 : A 0 0 + ι n ≤ ι 999
    · rw [if_pos e3, if_pos e3]
      refine Wp.cV (h.ke hc QN.rf) fun τ hτ => ?_
      obtain ⟨cm, K⟩ := hτ
      refine Wp.cV (m272 (Mp.start cm) (show n < 2147483648 by omega)) fun υ s => ?_
      have ew : (gof P T W R n (A, gI τ 82)).1 = (bhd P T W R A n).1 := gof_w n
      have cm2 := s.1
      rw [ew] at cm2
      exact oM.act h QN.rf K s.2.1 cm2 (gof_ok h.cmw.ok h.sl0 n).2 cm2.day
    · rw [if_neg e3, if_neg e3]; exact oM.rf h hc QN.rf (by omega)
  · have e' : btw (ι 1) (ι 20) x0 = false := by simpa using e
    rw [e', bz_f, if_pos rfl, if_neg (by decide)]; exact oM.rf h hc QN.rf (by omega)
theorem o275 (h : MI P T W R A m im tp fp σ) : Wp (pcall 275 [.ref 61, .int x0, .int x1] σ) (oM σ (fun τ => MI P T W R (a_ask P T W A m x0 x1).2.1 (a_ask P T W A m x0 x1).2.2 im tp fp τ) (a_ask P T W A m x0 x1).1) := by
  have hP := h.cmw.ok.P; have hT := h.cmw.ok.T
  have hc : CM P T W R A (sC σ) := h.cmw.c0
  refine Wp.le (M_275 rfl h.cmw.lay) ?_
  unfold a_ask
  rw [m260 hc.lay hc.P hP, bI_ret]
  by_cases e0 : inb' P x0 = true
  · obtain ⟨p, hp, rfl⟩ := inb'_t (by omega) e0
    rw [e0, bz_t, if_neg (by decide), if_pos rfl, m264 hc.lay hc.T hT, bI_ret]
    by_cases e1 : inb' T x1 = true
    · obtain ⟨t, ht, rfl⟩ := inb'_t (by omega) e1
      rw [e1, bz_t, if_pos (by decide), if_pos rfl, ix_ι (by omega), ix_ι (by omega)]
      refine Wp.cI (m243 hc hp ht) fun υ f => ?_
      have cu := hc.sc f
      have fu : QN (sC σ) υ := QN.rf.sc f
      by_cases e : wantsS T W A p t = true
      · rw [e, bz_t, if_pos (by decide), if_pos rfl]
        refine Wp.cV (h.ke cu fu) fun τ hτ => ?_
        obtain ⟨cm, K⟩ := hτ
        rw [gd_inb (by omega) (by omega), m276 cm hp ht, bV_ret, cm.own t ht]
        have cm2 := (cm.own' (t := t) hp).run' (t := t) (r := 0) (by omega)
        exact oM.act h fu K ((QM.m75 (by omega)).trans (QM.m75 (by omega))) cm2 ((like_up (by omega)).trans (like_up (by omega))) rfl
      · have e' : wantsS T W A p t = false := by simpa using e
        rw [e', bz_f, if_neg (fun g => g rfl), if_neg (by decide)]; exact oM.rf h cu fu (by omega)
    · have e1' : inb' T x1 = false := by simpa using e1
      rw [e1', bz_f, if_neg (fun g => g rfl), if_neg (by decide)]; exact oM.fl (by omega) h
  · have e0' : inb' P x0 = false := by simpa using e0
    rw [e0', bz_f, if_pos rfl, if_neg (by decide)]; exact oM.fl (by omega) h
theorem o277 (h : MI P T W R A m im tp fp σ) : Wp (pcall 277 [.ref 61, .int x0] σ) (oM σ (fun τ => MI P T W R (a_spoil T A m x0).2.1 (a_spoil T A m x0).2.2 im tp fp τ) (a_spoil T A m x0).1) := by
  have hP := h.cmw.ok.P; have hT := h.cmw.ok.T
  have hc : CM P T W R A (sC σ) := h.cmw.c0
  refine Wp.le (M_277 rfl h.cmw.lay) ?_
  unfold a_spoil
  rw [m264 hc.lay hc.T hT, bI_ret]
  by_cases e0 : inb' T x0 = true
  · obtain ⟨t, ht, rfl⟩ := inb'_t (by omega) e0
    obtain ⟨r, hr, er⟩ := h.cmw.ok.run ht
    rw [e0, bz_t, if_pos (by decide), if_pos rfl, gd_inb (by omega) (by omega), ix_ι (by omega), hc.run t ht, er]
    by_cases e : r = 9
    · rw [e, if_neg (fun g => g rfl), if_pos rfl]; exact oM.rf h hc QN.rf (by omega)
    · rw [if_pos (by rw [ι_eq (by omega) (by omega)]; exact e), if_neg (by rw [ι_eq (by omega) (by omega)]; exact e)]
      refine Wp.cV (h.ke hc QN.rf) fun τ hτ => ?_
      obtain ⟨cm, K⟩ := hτ
      rw [gd_inb (by omega) (by omega), gd_inb (by omega) (by omega), gd_inb (by omega) (by omega), gI_s, cm.run t ht, er, ι_add]
      exact oM.act h QN.rf K (QM.m75 (by omega)) (cm.run' (t := t) (r := r + 1) (by omega)) (like_up (by omega)) rfl
  · have e0' : inb' T x0 = false := by simpa using e0
    rw [e0', bz_f, if_neg (fun g => g rfl), if_neg (by decide)]; exact oM.fl (by omega) h
theorem o278 (h : MI P T W R A m im tp fp σ) : Wp (pcall 278 [.ref 61, .int x0] σ) (oM σ (fun τ => MI P T W R (a_mend T A m x0).2.1 (a_mend T A m x0).2.2 im tp fp τ) (a_mend T A m x0).1) := by
  have hP := h.cmw.ok.P; have hT := h.cmw.ok.T
  have hc : CM P T W R A (sC σ) := h.cmw.c0
  refine Wp.le (M_278 rfl h.cmw.lay) ?_
  unfold a_mend
  rw [m264 hc.lay hc.T hT, bI_ret]
  by_cases e0 : inb' T x0 = true
  · obtain ⟨t, ht, rfl⟩ := inb'_t (by omega) e0
    rw [e0, bz_t, if_pos (by decide), if_pos rfl, gd_inb (by omega) (by omega), ix_ι (by omega), hc.run t ht]
    by_cases e : A 2 t = ι 0
    · rw [if_neg (fun g => g e), if_pos e]; exact oM.rf h hc QN.rf (by omega)
    · rw [if_pos e, if_neg e]
      refine Wp.cV (h.ke hc QN.rf) fun τ hτ => ?_
      obtain ⟨cm, K⟩ := hτ
      rw [gd_inb (by omega) (by omega)]
      exact oM.act h QN.rf K (QM.m75 (by omega)) (cm.run' (t := t) (r := 0) (by omega)) (like_up (by omega)) rfl
  · have e0' : inb' T x0 = false := by simpa using e0
    rw [e0', bz_f, if_neg (fun g => g rfl), if_neg (by decide)]; exact oM.fl (by omega) h
theorem o279 (h : MI P T W R A m im tp fp σ) : Wp (pcall 279 [.ref 61, .int x0, .int x1] σ) (oM σ (fun τ => MI P T W R (a_give P T A m x0 x1).2.1 (a_give P T A m x0 x1).2.2 im tp fp τ) (a_give P T A m x0 x1).1) := by
  have hP := h.cmw.ok.P; have hT := h.cmw.ok.T
  have hc : CM P T W R A (sC σ) := h.cmw.c0
  refine Wp.le (M_279 rfl h.cmw.lay) ?_
  unfold a_give
  rw [m264 hc.lay hc.T hT, bI_ret]
  by_cases e0 : inb' T x0 = true
  · obtain ⟨t, ht, rfl⟩ := inb'_t (by omega) e0
    rw [e0, bz_t, if_neg (by decide), if_pos rfl, m260 hc.lay hc.P hP, bI_ret]
    by_cases e1 : inb' P x1 = true
    · obtain ⟨p, hp, rfl⟩ := inb'_t (by omega) e1
      rw [e1, bz_t, if_pos (by decide), if_pos rfl, gd_inb (by omega) (by omega), ix_ι (by omega), hc.own t ht]
      by_cases e : A 1 t = ι p
      · rw [if_neg (fun g => g e), if_pos e]; exact oM.rf h hc QN.rf (by omega)
      · rw [if_pos e, if_neg e]
        refine Wp.cV (h.ke hc QN.rf) fun τ hτ => ?_
        obtain ⟨cm, K⟩ := hτ
        rw [gd_inb (by omega) (by omega)]
        exact oM.act h QN.rf K (QM.m75 (by omega)) (cm.own' (t := t) hp) (like_up (by omega)) rfl
    · have e1' : inb' P x1 = false := by simpa using e1
      rw [e1', bz_f, if_neg (fun g => g rfl), if_neg (by decide)]; exact oM.fl (by omega) h
  · have e0' : inb' T x0 = false := by simpa using e0
    rw [e0', bz_f, if_pos rfl, if_neg (by decide)]; exact oM.fl (by omega) h
theorem o280 (h : MI P T W R A m im tp fp σ) : Wp (pcall 280 [.ref 61, .int x0, .int x1, .int x2] σ) (oM σ (fun τ => MI P T W R (a_taste P T A m x0 x1 x2).2.1 (a_taste P T A m x0 x1 x2).2.2 im tp fp τ) (a_taste P T A m x0 x1 x2).1) := by
  have hP := h.cmw.ok.P; have hT := h.cmw.ok.T
  have hc : CM P T W R A (sC σ) := h.cmw.c0
  refine Wp.le (M_280 rfl h.cmw.lay) ?_
  unfold a_taste
  rw [m260 hc.lay hc.P hP, bI_ret]
  by_cases e0 : inb' P x0 = true
  · obtain ⟨p, hp, rfl⟩ := inb'_t (by omega) e0
    rw [e0, bz_t, if_neg (by decide), if_pos rfl, m264 hc.lay hc.T hT, bI_ret]
    by_cases e1 : inb' T x1 = true
    · obtain ⟨t, ht, rfl⟩ := inb'_t (by omega) e1
      rw [e1, bz_t, if_pos (by decide), if_pos rfl, ix_ι (by omega), ix_ι (by omega), m245 hc hp ht, bI_ret, j0, j9, p261b hc.lay, bI_ret]
      by_cases e2 : btw (ι 0) (ι 9) x2 = true
      · obtain ⟨v, _, hv, rfl⟩ := btw_ι (by omega) (by omega) e2
        rw [e2, bz_t, if_neg (by decide), if_pos rfl]
        by_cases e : ι v = A 4 (12 * p + t)
        · rw [if_neg (fun g => g e), if_pos e]; exact oM.rf h hc QN.rf (by omega)
        · rw [if_pos e, if_neg e]
          refine Wp.cV (h.ke hc QN.rf) fun τ hτ => ?_
          obtain ⟨cm, K⟩ := hτ
          rw [ι_mul, ι_add, gd_inb (by omega) (by omega), ix_ι (by omega)]
          exact oM.act h QN.rf K (QM.m75 (by omega)) (cm.wor' (m := 12 * p + t) (r := v) (by omega)) (like_up (by omega)) rfl
      · have e2' : btw (ι 0) (ι 9) x2 = false := by simpa using e2
        rw [e2', bz_f, if_pos rfl, if_neg (by decide)]; exact oM.rf h hc QN.rf (by omega)
    · have e1' : inb' T x1 = false := by simpa using e1
      rw [e1', bz_f, if_neg (fun g => g rfl), if_neg (by decide)]; exact oM.fl (by omega) h
  · have e0' : inb' P x0 = false := by simpa using e0
    rw [e0', bz_f, if_pos rfl, if_neg (by decide)]; exact oM.fl (by omega) h
theorem o281 (h : MI P T W R A m im tp fp σ) : Wp (pcall 281 [.ref 61, .int x0, .int x1, .int (bz b)] σ) (oM σ (fun τ => MI P T W R (a_hedge P A m x0 x1 b).2.1 (a_hedge P A m x0 x1 b).2.2 im tp fp τ) (a_hedge P A m x0 x1 b).1) := by
  have hP := h.cmw.ok.P; have hT := h.cmw.ok.T
  have hc : CM P T W R A (sC σ) := h.cmw.c0
  refine Wp.le (M_281 rfl h.cmw.lay) ?_
  unfold a_hedge
  rw [m260 hc.lay hc.P hP, bI_ret]
  by_cases e0 : inb' P x0 = true
  · obtain ⟨p, hp, rfl⟩ := inb'_t (by omega) e0
    rw [e0, bz_t, if_neg (by decide), if_pos rfl, m260 hc.lay hc.P hP, bI_ret]
    by_cases e1 : inb' P x1 = true
    · obtain ⟨o, ho, rfl⟩ := inb'_t (by omega) e1
      rw [e1, bz_t, if_pos (by decide), if_pos rfl, ix_ι (by omega), ix_ι (by omega)]
      by_cases e2 : ι p = ι o
      · rw [if_pos e2, if_pos e2]; exact oM.rf' h hc QN.rf (by omega) rfl
      · have hne : p ≠ o := fun g => e2 (by rw [g])
        rw [if_neg e2, if_neg e2, gd_inb (by omega) (by omega), hc.see p hp, p236 hc.lay (by omega), bI_ret]
        by_cases e : tb (A 3 p) o = b
        · rw [if_neg (fun g => g (by rw [e])), if_pos e]; exact oM.rf' h hc QN.rf (by omega) rfl
        · rw [if_pos (by rw [bz_ne]; exact e), if_neg e]
          refine Wp.cV (h.ke hc QN.rf) fun τ hτ => ?_
          obtain ⟨cm, K⟩ := hτ
          obtain ⟨p1, p2, p3⟩ := see_n h.cmw.ok hp
          obtain ⟨o1, o2, o3⟩ := see_n h.cmw.ok ho
          rw [gd_inb (by omega) (by omega), gd_inb (by omega) (by omega), gd_inb (by omega) (by omega), gd_inb (by omega) (by omega), cm.see p hp, p1, (hdg_dec _ p3 o (by omega)).2.2, gI_n (fun g => hne g.symm), cm.see o ho, o1, (hdg_dec _ o3 p (by omega)).2.2]
          have qm : QM τ (sI (sI τ 78 p (ι (seeN A p ^^^ 2 ^ o))) 78 o (ι (seeN A o ^^^ 2 ^ p))) := (QM.m75 (by omega)).trans (QM.m75 (by omega))
          have kx : ∀ a, a ≠ 78 → ∀ i, gI (sI (sI τ 78 p (ι (seeN A p ^^^ 2 ^ o))) 78 o (ι (seeN A o ^^^ 2 ^ p))) a i = gI τ a i := fun a h1 i => by rw [gI_c h1, gI_c h1]
          refine oM.act h QN.rf K qm (cm.mk' (hd_ok h.cmw.ok hp ho hne).1 qm (fun _ => rfl) (fun _ => rfl) (by rw [kx _ (by omega)]; exact cm.day) (by rw [kx _ (by omega)]; exact cm.sil) (fun t ht => by rw [kx _ (by omega)]; exact cm.own t ht) (fun t ht => by rw [kx _ (by omega)]; exact cm.run t ht) (fun p' hp' t ht => by rw [kx _ (by omega)]; exact cm.wor p' hp' t ht) (fun r hr => ?_)) (hd_ok h.cmw.ok hp ho hne).2 rfl
          unfold hdS
          by_cases e1 : r = o
          · rw [e1, gI_s]; simp [up]
          · rw [gI_n e1]
            by_cases e2 : r = p
            · rw [e2, gI_s]; simp [up, hne]
            · rw [gI_n e2, cm.see r hr]; simp [up, e1, e2]
    · have e1' : inb' P x1 = false := by simpa using e1
      rw [e1', bz_f, if_neg (fun g => g rfl), if_neg (by decide)]; exact oM.bb (by omega) h
  · have e0' : inb' P x0 = false := by simpa using e0
    rw [e0', bz_f, if_pos rfl, if_neg (by decide)]; exact oM.bb (by omega) h
theorem o283 (h : MI P T W R A m im tp fp σ) : Wp (pcall 283 [.ref 61] σ) (oM σ (fun τ => MI P T W R (a_undo A m).2.1 (a_undo A m).2.2 im tp fp τ) (a_undo A m).1) := by
  have hP := h.cmw.ok.P; have hT := h.cmw.ok.T
  have h40 := h.mok.1
  have hc : CM P T W R A (sC σ) := h.cmw.c0
  refine Wp.le (M_283 rfl h.cmw.lay) ?_
  unfold a_undo
  rw [gI_n (show 32 ≠ 4 by omega), h.mem.1]
  by_cases e : m.1.1 = 0
  · rw [e, if_neg (fun g => g rfl), if_pos rfl]
    exact oM.ret rfl (h.qn hc QN.rf) QN.rf.f4 (MA.qn QN.rf)
  · rw [if_pos (by rw [ι_eq (by omega) (by omega)]; exact e), if_neg e]
    obtain ⟨n, hn⟩ : ∃ n, m.1.1 = n + 1 := ⟨m.1.1 - 1, by omega⟩
    have hn1 : m.1.1 - 1 = n := by omega
    have hr := h.mem.2.1 n (by omega)
    obtain ⟨ok, l⟩ := h.mok.2.1 n (by omega)
    rw [hn, ι_sub (by omega), Nat.add_sub_cancel, gI_s, ι_mul]
    have cm2 : CM P T W R A (sI (sC σ) 61 32 (ι n)) := hc.any (by omega)
    obtain ⟨z, hz, v, τ, rfl, hk⟩ := m284 (a0 := 79) (off := 129 * n) (n0 := 5160) cm2.lay rfl (by omega) (by omega) (by unfold nPk; omega)
    rw [hz, bV_ret]
    have r2 : RowA P T (m.1.2 n) (sI (sC σ) 61 32 (ι n)) 79 (129 * n) := hr.mv hP hT (fun i _ => by rw [gI_c (by omega), gI_c (by omega)])
    have k61 : ∀ i, i ≠ 31 → i ≠ 32 → i ≠ 4 → gI τ 61 i = gI σ 61 i := fun i h1 h2 h3 => by rw [hk.2.1 i h1, gI_n h2, gI_n h3]
    have kx : ∀ a, ¬ Uc a → ∀ i, gI τ a i = gI σ a i := fun a h1 i => by rw [hk.1.i h1, gI_c (by unfold Uc at h1; omega), gI_c (by unfold Uc at h1; omega)]
    have k32 : gI τ 61 32 = ι n := by rw [hk.2.1 32 (by omega), gI_s]
    have k4 : gI τ 61 4 = ι 0 := by rw [hk.2.1 4 (by omega), gI_n (by omega), gI_s]
    refine oM.ret k32 (h.st (A' := m.1.2 n) (hk.cm cm2 r2 ok l) l (by have := h.mok.un e; rw [hn1] at this; exact this) ⟨by rw [k32]; show ι n = ι (m.1.1 - 1); rw [hn1], fun k hk2 => (h.mem.2.1 k (by have : k < m.1.1 - 1 := hk2; omega)).mv hP hT (fun i _ => kx 79 (by unfold Uc; omega) _), by rw [k61 33 (by omega) (by omega) (by omega)]; exact h.mem.2.2.1, fun k hk2 => by rw [kx 85 (by unfold Uc; omega), kx 86 (by unfold Uc; omega), kx 87 (by unfold Uc; omega)]; exact h.mem.2.2.2.1 k hk2, fun i hi => by rw [kx 73 (by unfold Uc; omega)]; exact h.mem.2.2.2.2 i hi⟩ (fun i => kx 74 (by unfold Uc; omega) i) (fun i hi => k61 i (by omega) (by omega) (by omega)) (fun a ha i => kx a (by unfold Uc; omega) i)) k4 ?_
    exact ((Fq.refl.mI (Or.inl (by omega))).mI (Or.inl (by omega))).trans (Fq.of hk.1 (fun a s => by unfold Uc at s; unfold MA; omega))
set_option maxHeartbeats 1000000 in
theorem o308 (h : MI P T W R A m im tp fp σ) : Wp (pcall 308 [.ref 61, .int x0, .int x1, .int x2] σ) (oM σ (fun τ => MI P T W R (a_see P T A m x0 x1 x2).2.1 (a_see P T A m x0 x1 x2).2.2 im tp fp τ) (a_see P T A m x0 x1 x2).1) := by
  have hP := h.cmw.ok.P; have hT := h.cmw.ok.T
  have h8 := h.mok.2.2.1
  have hc : CM P T W R A (sC σ) := h.cmw.c0
  refine Wp.le (M_308 rfl h.cmw.lay) ?_
  unfold a_see
  rw [m264 hc.lay hc.T hT, bI_ret]
  by_cases e0 : inb' T x0 = true
  · obtain ⟨t, ht, rfl⟩ := inb'_t (by omega) e0
    rw [e0, bz_t, if_neg (by decide), if_pos rfl, m260 hc.lay hc.P hP, bI_ret]
    by_cases e1 : inb' P x2 = true
    · obtain ⟨p, hp, rfl⟩ := inb'_t (by omega) e1
      have e33 : gI (sC σ) 61 33 = ι m.2.1.1 := by rw [gI_n (by omega)]; exact h.mem.2.2.1
      rw [e1, bz_t, if_pos (by decide), if_pos rfl, ix_ι (by omega), ix_ι (by omega), e33]
      by_cases e8 : m.2.1.1 = 8
      · rw [e8, if_pos rfl, if_pos rfl]; exact oM.rf h hc QN.rf (by omega)
      · rw [if_neg (by rw [ι_eq (by omega) (by omega)]; exact e8), if_neg e8, j0, j20, p261b hc.lay, bI_ret]
        by_cases e2 : btw (ι 0) (ι 20) x1 = true
        · obtain ⟨d, _, hd, rfl⟩ := btw_ι (by omega) (by omega) e2
          rw [e2, bz_t, if_pos (by decide), if_pos rfl, ix_ι (by omega)]
          simp only [e33, gI_c (show 61 ≠ 85 by omega), gI_c (show 61 ≠ 86 by omega), gI_c (show 61 ≠ 87 by omega), gI_s]
          rw [gd_inb (by omega) (by omega), gd_inb (by omega) (by omega), gd_inb (by omega) (by omega), ix_ι (by omega), ι_add]
          generalize hs : sI (sI (sI (sI (sC σ) 85 m.2.1.1 (ι t)) 86 m.2.1.1 (ι d)) 87 m.2.1.1 (ι p)) 61 33 (ι (m.2.1.1 + 1)) = s
          have k33 : gI s 61 33 = ι (m.2.1.1 + 1) := by rw [← hs, gI_s]
          have k61 : ∀ i, i ≠ 33 → gI s 61 i = gI (sC σ) 61 i := fun i hi => by rw [← hs, gI_n hi, gI_c (by omega), gI_c (by omega), gI_c (by omega)]
          have kx : ∀ a, a ≠ 61 → a ≠ 85 → a ≠ 86 → a ≠ 87 → ∀ i, gI s a i = gI σ a i := fun a h1 h2 h3 h4 i => by rw [← hs, gI_c h1, gI_c h4, gI_c h3, gI_c h2, gI_c h1]
          have k85 : ∀ i, gI s 85 i = if i = m.2.1.1 then ι t else gI σ 85 i := fun i => by rw [← hs, gI_c (by omega), gI_c (by omega), gI_c (by omega), gI_sI, if_pos rfl, gI_c (by omega)]
          have k86 : ∀ i, gI s 86 i = if i = m.2.1.1 then ι d else gI σ 86 i := fun i => by rw [← hs, gI_c (by omega), gI_c (by omega), gI_sI, if_pos rfl, gI_c (by omega), gI_c (by omega)]
          have k87 : ∀ i, gI s 87 i = if i = m.2.1.1 then ι p else gI σ 87 i := fun i => by rw [← hs, gI_c (by omega), gI_sI, if_pos rfl, gI_c (by omega), gI_c (by omega), gI_c (by omega)]
          have cm : CM P T W R A s := by rw [← hs]; exact (((hc.any (by omega)).any (by omega)).any (by omega)).any (by omega)
          have f : Fq MA VM σ s := by rw [← hs]; exact ((((Fq.refl.mI (Or.inl (by omega))).mI (Or.inl (by omega))).mI (Or.inl (by omega))).mI (Or.inl (by omega))).mI (Or.inl (by omega))
          refine oM.ret rfl (h.st cm like.rf (h.mok.se e8 ht hd hp) ⟨by rw [k61 32 (by omega), gI_n (by omega)]; exact h.mem.1, fun k hk => (h.mem.2.1 k hk).mv hP hT (fun i _ => kx 79 (by omega) (by omega) (by omega) (by omega) _), k33, fun k hk => ?_, fun i hi => by rw [kx 73 (by omega) (by omega) (by omega) (by omega)]; exact h.mem.2.2.2.2 i hi⟩ (fun i => kx 74 (by omega) (by omega) (by omega) (by omega) i) (fun i hi => by rw [k61 i (by omega), gI_n (by omega)]) (fun a ha i => kx a (by omega) (by omega) (by omega) (by omega) i)) (by rw [k61 4 (by omega), gI_s]) f
          have hk : k < m.2.1.1 + 1 := hk
          show gI s 85 k = ι (if k = m.2.1.1 then (t, d, p) else m.2.1.2 k).1 ∧ gI s 86 k = ι (if k = m.2.1.1 then (t, d, p) else m.2.1.2 k).2.1 ∧ gI s 87 k = ι (if k = m.2.1.1 then (t, d, p) else m.2.1.2 k).2.2
          rw [k85, k86, k87]
          by_cases e : k = m.2.1.1
          · rw [if_pos e, if_pos e, if_pos e, if_pos e]; exact ⟨rfl, rfl, rfl⟩
          · rw [if_neg e, if_neg e, if_neg e, if_neg e]; exact h.mem.2.2.2.1 k (by omega)
        · have e2' : btw (ι 0) (ι 20) x1 = false := by simpa using e2
          rw [e2', bz_f, if_neg (fun g => g rfl), if_neg (by decide)]; exact oM.rf h hc QN.rf (by omega)
    · have e1' : inb' P x2 = false := by simpa using e1
      rw [e1', bz_f, if_neg (fun g => g rfl), if_neg (by decide)]; exact oM.fl (by omega) h
  · have e0' : inb' T x0 = false := by simpa using e0
    rw [e0', bz_f, if_pos rfl, if_neg (by decide)]; exact oM.fl (by omega) h
end ACTS2
