/-! ===== lines: a thing's, a hedge's ===== -/
section LINE3
variable {σ τ υ σ0 μ ν0 μ0 : pS} {a n k b e i j c w q pl v : Nat} {x : Nat → Nat} {tk : Nat × Nat × Nat} {g f : Bool} {L : Rl} {s y : Int32} {d : Dx} {z : Zx}
theorem DM.w9 (h : DM d σ) (hi : ∀ p, p < d.1.1 → ∀ u, u < d.1.2.1 → i ≠ 96 + (12 * p + u)) : DM d (sI σ 69 i y) := by
  refine ⟨?_, ?_, ?_, ?_, ?_, fun i hi => ?_, fun i hi => ?_, fun i hi => ?_, fun i hi => ?_, fun i' h1 j hj => ?_, fun i hi => ?_, fun i hi => ?_⟩
  · simp (disch := omega) only [gI_s, gI_n, gI_c, uq_s, uq_n, uq_c]; exact h.pp
  · simp (disch := omega) only [gI_s, gI_n, gI_c, uq_s, uq_n, uq_c]; exact h.tt
  · simp (disch := omega) only [gI_s, gI_n, gI_c, uq_s, uq_n, uq_c]; exact h.hh
  · simp (disch := omega) only [gI_s, gI_n, gI_c, uq_s, uq_n, uq_c]; exact h.w8
  · simp (disch := omega) only [gI_s, gI_n, gI_c, uq_s, uq_n, uq_c]; exact h.r9
  · simp (disch := omega) only [gI_s, gI_n, gI_c, uq_s, uq_n, uq_c]; exact h.bo i hi
  · simp (disch := omega) only [gI_s, gI_n, gI_c, uq_s, uq_n, uq_c]; exact h.fi i hi
  · simp (disch := omega) only [gI_s, gI_n, gI_c, uq_s, uq_n, uq_c]; exact h.hg i hi
  · simp (disch := omega) only [gI_s, gI_n, gI_c, uq_s, uq_n, uq_c]; exact h.ow i hi
  · rw [gI_n (fun g => hi i' h1 j hj g.symm)]; exact h.wo i' h1 j hj
  · simp (disch := omega) only [gI_s, gI_n, gI_c, uq_s, uq_n, uq_c]; exact h.ws i hi
  · simp (disch := omega) only [gI_s, gI_n, gI_c, uq_s, uq_n, uq_c]; exact h.rs i hi
theorem wloop {v1 v1' : Value} (hq : isP q) (t : Txt n x) (od : okDx d) (hT : d.1.2.1 < 12) (hy : y = ι 0 ∨ y = ι 1) (hs : ∃ o, o < d.1.1 ∧ s = ι o) : ∀ m i tk w σ μ, i + m = d.1.1 → okTk n x tk → b ≤ tk.2.1 → PL n x q (dT d y s w) tk σ0 σ → ML n x d tk μ0 μ → gI μ 68 (12 + d.1.2.1) = s → gI μ 67 (12 + d.1.2.1) = y → (∀ p, p < i → gI μ 69 (96 + (12 * p + d.1.2.1)) = w p) → (∀ p, p < i → ∃ v, v ≤ 9 ∧ w p = ι v) → R2 (C_53_36 v1 (ι i) σ) (C_232_73 v1' (ι d.1.2.1) (ι i) μ) (LRs n x q b d.1.2.2 (fl2 d) σ0 μ0) := by
  have hP := od.1
  intro m
  induction m with
  | zero =>
    intro i tk w σ μ hi ok hb h1 h2 e1 e7 ew wv
    obtain rfl : i = d.1.1 := by omega
    refine R2.lee (T_53_36 rfl h1.lay) (T_232_73 rfl h2.lay) ?_
    have e31 : pcall 31 [.ref q] σ = some (1, .int (gI σ q 0), σ) := (M_31 hq rfl h1.lay).eq rfl
    rw [h1.u8 hq, e31, bI_ret, if_pos (by rw [h1.1.2.2.2.2.pp]; exact Int32.le_refl _), if_pos (by rw [h2.1.2.2.2.1.pp]; exact Int32.le_refl _), h2.1.2.2.2.1.tt, ι_add]
    refine ⟨_, _, rfl, rfl, Or.inl ⟨dT d y s w, tk, ok, hb, od.at hT hy hs wv, Nat.le_refl _, rfl, ⟨_, _, rfl, h1⟩, _, _, rfl, ?_⟩⟩
    exact h2.dr (HL.rf.m (by omega)) (fun i => by simp (disch := omega) only [gI_s, gI_n, gI_c, uq_s, uq_n, uq_c]) (fun i => by simp (disch := omega) only [gI_s, gI_n, gI_c, uq_s, uq_n, uq_c]) rfl (h2.1.2.2.2.1.at hT e1 e7 ew)
  | succ m ih =>
    intro i tk w σ μ hi ok hb h1 h2 e1 e7 ew wv
    refine R2.lee (T_53_36 rfl h1.lay) (T_232_73 rfl h2.lay) ?_
    have e31 : pcall 31 [.ref q] σ = some (1, .int (gI σ q 0), σ) := (M_31 hq rfl h1.lay).eq rfl
    have pp : gI σ q 0 = ι d.1.1 := h1.1.2.2.2.2.pp
    rw [h1.u8 hq, e31, bI_ret, pp, if_neg (by rw [ι_le (by omega) (by omega)]; omega), if_neg (by rw [ι_le (by omega) (by omega)]; omega), h1.u8 hq, h2.1.2.2.2.1.pp, if_neg (by rw [ι_le (by omega) (by omega)]; omega), if_neg (fun g => g h2.1.2.1)]
    obtain ⟨zc, zm, ec, em, hQ⟩ := num_ok hq t ok h1 h2
    rw [ec, em]
    rcases hQ with ⟨v, hv, k2, ⟨τ3, rfl, p3⟩, τ4, rfl, p4, km⟩ | ⟨c, pl, ⟨τ3, rfl, p3⟩, τ4, rfl, p4, k4⟩
    · rw [bI_ret, bI_ret]
      have e36 : pcall 36 [.ref q, .int (ι i), .int (ι v)] τ3 = some (0, .null, sI τ3 (q + 4) (12 * i + d.1.2.1) (ι v)) := by
        refine (M_36 hq rfl p3.lay).eq ?_
        have e : ι i * ι 12 + gI τ3 q 1 - ι 1 = ι (12 * i + d.1.2.1) := by
          rw [p3.1.2.2.2.2.tt, ι_mul]; show ι (i * 12) + ι (d.1.2.1 + 1) - ι 1 = _
          rw [ι_add, ι_sub (by omega)]; congr 1; omega
        rw [e, if_neg (by rw [ι_lt (by omega) (by omega)]; omega), if_neg (by rw [ι_le (by omega) (by omega)]; omega), gd_inb (by omega) (by omega), ix_ι (by omega)]
      have e69 : ι 96 + ι 12 * ι i + ι d.1.2.1 = ι (96 + (12 * i + d.1.2.1)) := by rw [ι_mul, ι_add, ι_add]; congr 1; omega
      rw [e36, bV_ret, e69, gd_inb (by omega) (by omega), ix_ι (by omega), ι_add]
      obtain ⟨nk, nb⟩ := nxt_ok t ok
      have := ok.1
      have hD : DC (dT d y s (fun p => if p = i then ι v else w p)) q (sI τ3 (q + 4) (12 * i + d.1.2.1) (ι v)) := by
        have h := p3.1.2.2.2.2
        refine ⟨?_, ?_, ?_, fun i' hi => ?_, fun i' hi => ?_, fun i' h1 h2 => ?_, fun i' hi => ?_, fun i' h1 h2 => ?_, fun i' hi => ?_, fun i' hi j hj => ?_, ?_, ?_⟩
        · simp (disch := omega) only [gI_s, gI_n, gI_c, uq_s, uq_n, uq_c]; exact h.pp
        · simp (disch := omega) only [gI_s, gI_n, gI_c, uq_s, uq_n, uq_c]; exact h.tt
        · simp (disch := omega) only [gI_s, gI_n, gI_c, uq_s, uq_n, uq_c]; exact h.hh
        · simp (disch := omega) only [gI_s, gI_n, gI_c, uq_s, uq_n, uq_c]; exact h.bo i' hi
        · simp (disch := omega) only [gI_s, gI_n, gI_c, uq_s, uq_n, uq_c]; exact h.f1 i' hi
        · simp (disch := omega) only [gI_s, gI_n, gI_c, uq_s, uq_n, uq_c]; exact h.f0 i' h1 h2
        · simp (disch := omega) only [gI_s, gI_n, gI_c, uq_s, uq_n, uq_c]; exact h.hg i' hi
        · simp (disch := omega) only [gI_s, gI_n, gI_c, uq_s, uq_n, uq_c]; exact h.h0 i' h1 h2
        · simp (disch := omega) only [gI_s, gI_n, gI_c, uq_s, uq_n, uq_c]; exact h.ow i' hi
        · have hj : j < d.1.2.1 + 1 := hj
          have hi : i' < d.1.1 := hi
          have hw := h.wo i' hi j hj
          by_cases e2 : j = d.1.2.1
          · subst e2
            rw [dT_t hT] at hw ⊢
            by_cases e3 : i' = i
            · subst e3; rw [if_pos rfl]; simp (disch := omega) only [gI_s, gI_n, gI_c, uq_s, uq_n, uq_c]
            · rw [if_neg e3]; simp (disch := omega) only [gI_s, gI_n, gI_c, uq_s, uq_n, uq_c]; exact hw
          · rw [dT_4 e2 (by omega) hT] at hw ⊢
            rw [gI_n (by omega)]; exact hw
        · exact h.wr.fr (fun i => by simp (disch := omega) only [gI_s, gI_n, gI_c, uq_s, uq_n, uq_c]) (fun i => by simp (disch := omega) only [gI_s, gI_n, gI_c, uq_s, uq_n, uq_c])
        · exact h.rr.fr (fun i => by simp (disch := omega) only [gI_s, gI_n, gI_c, uq_s, uq_n, uq_c]) (fun i => by simp (disch := omega) only [gI_s, gI_n, gI_c, uq_s, uq_n, uq_c])
      refine ih (i + 1) _ _ _ _ (by omega) nk (by omega) (p3.dr (GL.rf.m (by omega) hq) (fun i => gI_c (q24 hq (by omega))) (fun i => gI_c (q1 hq (by omega))) rfl hD) (p4.dr (HL.rf.m (by omega)) (fun i => by simp (disch := omega) only [gI_s, gI_n, gI_c, uq_s, uq_n, uq_c]) (fun i => by simp (disch := omega) only [gI_s, gI_n, gI_c, uq_s, uq_n, uq_c]) rfl (p4.1.2.2.2.1.w9 (fun p hp u hu => by omega))) ?_ ?_ (fun p hp => ?_) (fun p hp => ?_)
      · simp (disch := omega) only [gI_s, gI_n, gI_c, uq_s, uq_n, uq_c]; rw [km 68 (by omega)]; exact e1
      · simp (disch := omega) only [gI_s, gI_n, gI_c, uq_s, uq_n, uq_c]; rw [km 67 (by omega)]; exact e7
      · by_cases e3 : p = i
        · subst e3; rw [if_pos rfl]; simp (disch := omega) only [gI_s, gI_n, gI_c, uq_s, uq_n, uq_c]
        · rw [if_neg e3]; simp (disch := omega) only [gI_s, gI_n, gI_c, uq_s, uq_n, uq_c]; rw [km 69 (by omega)]; exact ew p (by omega)
      · by_cases e3 : p = i
        · subst e3; rw [if_pos rfl]; exact ⟨v, hv, rfl⟩
        · rw [if_neg e3]; exact wv p (by omega)
    · rw [bI_ret, bI_ret]
      have e69 : ι 96 + ι 12 * ι i + ι d.1.2.1 = ι (96 + (12 * i + d.1.2.1)) := by rw [ι_mul, ι_add, ι_add]; congr 1; omega
      rw [e69, gd_inb (by omega) (by omega), ix_ι (by omega)]
      refine LRs.bad (c := c) (pl := pl) (Wp.cV (g36 hq p3) fun τ h => ?_) (Wp.le (T_232_73 rfl p4.lay) ?_)
      · rw [ι_add]; exact g53l hq (8 - (i + 1)) (i + 1) τ (by omega) h
      · have p5 : FML c pl μ0 (sI τ4 69 (96 + (12 * i + d.1.2.1)) (ι 0)) := p4.m (by omega)
        by_cases e : gI (sI τ4 69 (96 + (12 * i + d.1.2.1)) (ι 0)) 65 5 ≤ ι i + ι 1
        · rw [if_pos e]; exact Wp.retV (p5.m (by omega))
        · rw [if_neg e, if_pos p5.n22]; exact Wp.retV (p5.m (by omega))
theorem line_thing (hq : isP q) (t : Txt n x) (ok : okTk n x tk) (od : okDx d) (hy : y = ι 0 ∨ y = ι 1) (h1 : PL n x q d tk σ0 σ) (h2 : ML n x d tk μ0 μ) : R2 (pcall 53 [.ref 24, .int y] σ) (pcall 232 [.ref 61, .int y] μ) (LRs n x q tk.2.2 d.1.2.2 (fl2 d) σ0 μ0) := by
  have hP := od.1
  have hTT := od.2.1
  refine R2.lee (M_53 rfl h1.lay) (M_232 rfl h2.lay) ?_
  have e32 : pcall 32 [.ref q] σ = some (1, .int (gI σ q 1), σ) := (M_32 hq rfl h1.lay).eq rfl
  have et : (gI μ 65 6 = ι 12) = (d.1.2.1 = 12) := by rw [h2.1.2.2.2.1.tt, ι_eq (by omega) (by omega)]
  rw [h1.u8 hq, e32, bI_ret, h1.1.2.2.2.2.tt]
  have g53 : ∀ {c pl τ}, FTL q c pl σ0 τ → Wp (C_53_36 (.int y) (ι 0) τ) (RV (FTL q c pl σ0)) := fun f => g53l hq 8 0 _ (by omega) f
  by_cases e12 : d.1.2.1 = 12
  · rw [if_neg (by rw [ι_lt (by omega) (by omega)]; omega), if_neg (by rw [et]; exact fun g => g e12)]
    refine LRs.bad (c := 2) (pl := tk.2.1) (Wp.cV (l50 h1 (by omega) (by omega)) fun τ f => ?_) (Wp.cV (l220 h2 (by omega) (by omega)) fun τ f => Wp.le (T_232_17 rfl f.lay) ?_)
    · rw [g43 f, bV_ret, f.u8 hq]
      refine Wp.cI (g54 f) fun τ f => ?_
      exact Wp.cV (g35 hq f) fun τ f => g53 f
    · rw [if_neg f.n22]; exact Wp.retV f
  have hT : d.1.2.1 < 12 := by omega
  rw [if_pos (by rw [ι_lt (by omega) (by omega)]; omega), if_pos (by rw [et]; exact e12)]
  obtain ⟨nk, nb⟩ := nxt_ok t ok
  obtain ⟨a1, ea1, v1, τ1, rfl, p1⟩ := l43 hq t ok h1
  refine R2.le2 (T_232_17 rfl h2.lay) ?_
  obtain ⟨a2, ea2, v2, τ2, rfl, p2⟩ := l212 t ok h2
  rw [if_pos h2.1.2.1, ea1, bV_ret, ea2, bV_ret, p1.u8 hq, p2.1.2.2.2.1.tt, ι_add, gd_inb (by omega) (by omega), ix_ι (by omega)]
  have hw9 : DM d (sI τ2 67 (12 + d.1.2.1) y) := by
    have h := p2.1.2.2.2.1
    exact ⟨by simp (disch := omega) only [gI_s, gI_n, gI_c, uq_s, uq_n, uq_c]; exact h.pp, by simp (disch := omega) only [gI_s, gI_n, gI_c, uq_s, uq_n, uq_c]; exact h.tt, by simp (disch := omega) only [gI_s, gI_n, gI_c, uq_s, uq_n, uq_c]; exact h.hh, by simp (disch := omega) only [gI_s, gI_n, gI_c, uq_s, uq_n, uq_c]; exact h.w8, by simp (disch := omega) only [gI_s, gI_n, gI_c, uq_s, uq_n, uq_c]; exact h.r9, fun i hi => by simp (disch := omega) only [gI_s, gI_n, gI_c, uq_s, uq_n, uq_c]; exact h.bo i hi, fun i hi => by simp (disch := omega) only [gI_s, gI_n, gI_c, uq_s, uq_n, uq_c]; exact h.fi i hi, fun i hi => by simp (disch := omega) only [gI_s, gI_n, gI_c, uq_s, uq_n, uq_c]; exact h.hg i hi, fun i hi => by simp (disch := omega) only [gI_s, gI_n, gI_c, uq_s, uq_n, uq_c]; exact h.ow i hi, fun i hi j hj => by simp (disch := omega) only [gI_s, gI_n, gI_c, uq_s, uq_n, uq_c]; exact h.wo i hi j hj, fun i hi => by simp (disch := omega) only [gI_s, gI_n, gI_c, uq_s, uq_n, uq_c]; exact h.ws i hi, fun i hi => by simp (disch := omega) only [gI_s, gI_n, gI_c, uq_s, uq_n, uq_c]; exact h.rs i hi⟩
  have p3 : ML n x d (tkS n x tk.2.2) μ0 (sI τ2 67 (12 + d.1.2.1) y) := p2.dr (HL.rf.m (by omega)) (fun i => by simp (disch := omega) only [gI_s, gI_n, gI_c, uq_s, uq_n, uq_c]) (fun i => by simp (disch := omega) only [gI_s, gI_n, gI_c, uq_s, uq_n, uq_c]) rfl hw9
  obtain ⟨k1, k2⟩ := l54 hq t nk hP p1 none (fun a e => by cases e)
  obtain ⟨k3, k4⟩ := l233 t nk hP p3
  by_cases e0 : kpF x d (tkS n x tk.2.2) none = 0
  · obtain ⟨hv, w1⟩ := k1 e0
    have e233 := k3 e0
    obtain ⟨a3, ea3, τ3, rfl, p4⟩ := w1
    have ea3 : pcall 54 [.ref 24, .int (ν 1)] τ1 = _ := ea3
    rw [ea3, bI_ret, e233, bI_ret, gd_inb (by omega) (by omega)]
    have hw8 : DM d (sI (sI τ2 67 (12 + d.1.2.1) y) 68 (12 + d.1.2.1) (ι (numV x (tkS n x tk.2.2)))) := by
      have h := hw9
      exact ⟨by rw [gI_c (by omega)]; exact h.pp, by rw [gI_c (by omega)]; exact h.tt, by rw [gI_c (by omega)]; exact h.hh, by rw [gI_c (by omega)]; exact h.w8, by rw [gI_c (by omega)]; exact h.r9, fun i hi => by rw [gI_c (by omega)]; exact h.bo i hi, fun i hi => by rw [gI_c (by omega)]; exact h.fi i hi, fun i hi => by rw [gI_c (by omega)]; exact h.hg i hi, fun i hi => by rw [gI_n (by omega)]; exact h.ow i hi, fun i hi j hj => by rw [gI_c (by omega)]; exact h.wo i hi j hj, fun i hi => by rw [gI_c (by omega)]; exact h.ws i hi, fun i hi => by rw [gI_c (by omega)]; exact h.rs i hi⟩
    have p5 : ML n x d (tkS n x tk.2.2) μ0 (sI (sI τ2 67 (12 + d.1.2.1) y) 68 (12 + d.1.2.1) (ι (numV x (tkS n x tk.2.2)))) := p3.dr (HL.rf.m (by omega)) (fun i => gI_c (by omega)) (fun i => gI_c (by omega)) rfl hw8
    rw [if_neg (fun g => g p5.1.2.1)]
    obtain ⟨a6, ea6, v6, τ6, rfl, p6, km⟩ := l212k t nk p5
    rw [ea6, bV_ret]
    have e35 : pcall 35 [.ref q, .int (ι (numV x (tkS n x tk.2.2))), .int y] τ3 = some (0, .null, sI (sI (sI τ3 (q + 3) d.1.2.1 (ι (numV x (tkS n x tk.2.2)))) q 2 (gI τ3 q 2 ||| (if y = ι 0 then ι 0 else shl' (ι 1) (ι d.1.2.1)))) q 1 (ι (d.1.2.1 + 1))) := by
      refine (M_35 hq rfl p4.lay).eq ?_
      have tt := p4.1.2.2.2.2.tt
      simp only [gI_n (show 1 ≠ 2 by omega), gI_c (show q ≠ q + 3 by omega)]
      rw [tt, if_neg (by rw [ι_lt (by omega) (by omega)]; omega), if_neg (by rw [ι_le (by omega) (by omega)]; omega), gd_inb (by omega) (by omega), ix_ι (by omega), ι_add]
      by_cases e : y = ι 0
      · rw [if_pos e, if_pos e]
      · rw [if_neg e, if_neg e]
    rw [e35, bV_ret]
    obtain ⟨nk2, nb2⟩ := nxt_ok t nk
    have := nk.1
    refine wloop hq t od hT hy ⟨_, hv, rfl⟩ d.1.1 0 _ _ _ _ (by omega) nk2 (by omega) (p4.dr (((GL.rf.m (by omega) hq).m (by omega) hq).m (by omega) hq) (fun i => by rw [gI_c (q24 hq (by omega)), gI_c (q24 hq (by omega)), gI_c (q24 hq (by omega))]) (fun i => by rw [gI_c (q1 hq (by omega)), gI_c (q1 hq (by omega)), gI_c (q1 hq (by omega))]) rfl (p4.1.2.2.2.2.at hT hy)) p6 ?_ ?_ (fun p hp => absurd hp (by omega)) (fun p hp => absurd hp (by omega))
    · rw [km 68 (by omega), gI_s]
    · rw [km 67 (by omega), gI_c (by omega), gI_s]
  · have w1 := k2 e0
    have w2 := k4 e0
    refine LRs.bad (Wp.cI w1 fun τ f => Wp.cV (g35 hq f) fun τ f => g53 f) (Wp.cI w2 fun τ f => ?_)
    rw [gd_inb (by omega) (by omega)]
    have f2 : FML (kpF x d (tkS n x tk.2.2) none) (tkS n x tk.2.2).2.1 μ0 (sI τ 68 (12 + d.1.2.1) (ι 0)) := f.m (by omega)
    rw [if_pos f2.n22]
    refine Wp.le (T_232_73 rfl f2.lay) ?_
    by_cases e : gI (sI τ 68 (12 + d.1.2.1) (ι 0)) 65 5 ≤ ι 0
    · rw [if_pos e]; exact Wp.retV (f2.m (by omega))
    · rw [if_neg e, if_pos f2.n22]; exact Wp.retV (f2.m (by omega))
/-! a hedge -/
/-- a hedge more -/
def dH (d : Dx) (a b : Nat) : Dx := ((d.1.1, d.1.2.1, d.1.2.2 + 1), uq (uq d.2.1 3 a (d.2.1 3 a ||| shl' (ι 1) (ι b))) 3 b (d.2.1 3 b ||| shl' (ι 1) (ι a)), d.2.2)
theorem dH_3 (hab : a ≠ b) {r k : Nat} (ha : a < 8) (hb : b < 8) (hk : k < 8) : tb ((dH d a b).2.1 3 r) k = (tb (d.2.1 3 r) k || decide (r = a ∧ k = b ∨ r = b ∧ k = a)) := by
  unfold dH; dsimp only
  by_cases e : r = b
  · subst e; rw [uq_s, tb_or _ _ _ (by omega), tb_shl _ ha _ hk]
    congr 1; exact decide_eq_decide.mpr (by omega)
  · rw [uq_n e]
    by_cases e2 : r = a
    · subst e2; rw [uq_s, tb_or _ _ _ (by omega), tb_shl _ hb _ hk]
      congr 1; exact decide_eq_decide.mpr (by omega)
    · rw [uq_n e2, decide_eq_false (by omega), Bool.or_false]
theorem or_sh : ∀ m, m < 256 → ∀ r, r < 8 → ι m ||| shl' (ι 1) (ι r) = ι (m ||| 2 ^ r) := by decide +kernel
theorem okDx.ah (h : okDx d) (ha : a < d.1.1) (hb : b < d.1.1) (hab : a ≠ b) : okDx (dH d a b) := by
  obtain ⟨a1, a2, a3, a4, a5, a6, a7, a8, a9, a10⟩ := h
  have c : ∀ k j, k ≠ 3 → (dH d a b).2.1 k j = d.2.1 k j := fun k j hk => by unfold dH; dsimp only; rw [uq_c hk, uq_c hk]
  have m8 : ∀ m, m < 2 ^ d.1.1 → m < 256 := fun m hm => by have : 2 ^ d.1.1 ≤ 2 ^ 8 := Nat.pow_le_pow_right (by omega) a1; omega
  have mr : ∀ p, p < d.1.1 → ∀ r, r < d.1.1 → ∃ m, m < 2 ^ d.1.1 ∧ d.2.1 3 p ||| shl' (ι 1) (ι r) = ι m := fun p hp r hr => by
    obtain ⟨m, hm, em⟩ := a5 p hp
    exact ⟨m ||| 2 ^ r, Nat.or_lt_two_pow hm (Nat.pow_lt_pow_right (by omega) hr), by rw [em, or_sh m (m8 m hm) r (by omega)]⟩
  refine ⟨a1, a2, fun u hu => by rw [c 1 u (by omega)]; exact a3 u hu, fun p hp u hu => by rw [c 4 _ (by omega)]; exact a4 p hp u hu, fun p hp => ?_, fun p hp r hr => ?_, fun p hp => ?_, fun u hu => by rw [c 7 u (by omega)]; exact a8 u hu, a9, a10⟩
  · have hp : p < d.1.1 := hp
    show ∃ m, m < 2 ^ d.1.1 ∧ uq (uq d.2.1 3 a (d.2.1 3 a ||| shl' (ι 1) (ι b))) 3 b (d.2.1 3 b ||| shl' (ι 1) (ι a)) 3 p = ι m
    by_cases e : p = b
    · subst e; rw [uq_s]; exact mr _ hp a ha
    · rw [uq_n e]
      by_cases e2 : p = a
      · subst e2; rw [uq_s]; exact mr _ hp b hb
      · rw [uq_n e2]; exact a5 p hp
  · have hp : p < d.1.1 := hp
    have hr : r < d.1.1 := hr
    rw [dH_3 hab (by omega) (by omega) (by omega), dH_3 hab (by omega) (by omega) (by omega), a6 p hp r hr]
    congr 1; exact decide_eq_decide.mpr (by omega)
  · have hp : p < d.1.1 := hp
    rw [dH_3 hab (by omega) (by omega) (by omega), a7 p hp, decide_eq_false (by omega)]; rfl
end LINE3
