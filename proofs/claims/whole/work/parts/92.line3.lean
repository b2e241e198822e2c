/-! ===== lines: a thing's, a hedge's ===== -/
section LINE3
variable {σ τ υ σ0 μ ν0 μ0 : pS} {a n k b e i j c w q pl v : Nat} {x : Nat → Nat} {tk : Nat × Nat × Nat} {g f : Bool} {L : Rl} {s y : Int32} {d : Dx} {z : Zx}
theorem DM.w9 (h : DM d σ) (hi : ∀ p, p < d.1.1 → ∀ u, u < d.1.2.1 → i ≠ 96 + (12 * p + u)) : DM d (sI σ 69 i y) := by
  refine ⟨?_, ?_, ?_, ?_, ?_, fun i hi => ?_, fun i hi => ?_, fun i hi => ?_, fun i hi => ?_, fun i' h1 j hj => ?_, fun i hi => ?_, fun i hi => ?_⟩
  · simp (disch := omega) only [gI_s, gI_n, gI_c, uq_s, uq_n, uq_c]; exact h.pp
  · simp (disch := omega) only [gI_s, gI_n, gI_c, uq_s, uq_n, uq_c]; exact h.tt
  · simp (disch := omega) only [gI_s, gI_n, gI_c, uq_s, uq_n, uq_c]; exact h.hh
  · simp (disch := omega) only [gI_s, gI_n, gI_c, uq_s, uq_n, uq_c]; exact h.w8
  · simp (disch := omega) only [gI_s, gI_n, gI_c, uq_s, uq_n, uq_c]; exact h.r9
  · simp (disch := omega) only [gI_s, gI_n, gI_c, uq_s, uq_n, uq_c]; exact h.bo i hi
  · simp (disch := omega) only [gI_s, gI_n, gI_c, uq_s, uq_n, uq_c]; exact h.fi i hi
  · simp (disch := omega) only [gI_s, gI_n, gI_c, uq_s, uq_n, uq_c]; exact h.hg i hi
  · simp (disch := omega) only [gI_s, gI_n, gI_c, uq_s, uq_n, uq_c]; exact h.ow i hi
  · rw [gI_n (fun g => hi i' h1 j hj g.symm)]; exact h.wo i' h1 j hj
  · simp (disch := omega) only [gI_s, gI_n, gI_c, uq_s, uq_n, uq_c]; exact h.ws i hi
  · simp (disch := omega) only [gI_s, gI_n, gI_c, uq_s, uq_n, uq_c]; exact h.rs i hi
theorem wloop {v1 v1' : Value} (hq : isP q) (t : Txt n x) (od : okDx d) (hT : d.1.2.1 < 12) (hy : y = ι 0 ∨ y = ι 1) (hs : ∃ o, o < d.1.1 ∧ s = ι o) : ∀ m i tk w σ μ, i + m = d.1.1 → okTk n x tk → b ≤ tk.2.1 → PL n x q (dT d y s w) tk σ0 σ → ML n x d tk μ0 μ → gI μ 68 (12 + d.1.2.1) = s → gI μ 67 (12 + d.1.2.1) = y → (∀ p, p < i → gI μ 69 (96 + (12 * p + d.1.2.1)) = w p) → (∀ p, p < i → ∃ v, v ≤ 9 ∧ w p = ι v) → R2 (C_53_36 v1 (ι i) σ) (C_232_73 v1' (ι d.1.2.1) (ι i) μ) (LRs n x q b d.1.2.2 d.2.2 σ0 μ0) := by
  have hP := od.1
  intro m
  induction m with
  | zero =>
    intro i tk w σ μ hi ok hb h1 h2 e1 e7 ew wv
    obtain rfl : i = d.1.1 := by omega
    refine R2.lee (T_53_36 rfl h1.lay) (T_232_73 rfl h2.lay) ?_
    have e31 : pcall 31 [.ref q] σ = some (1, .int (gI σ q 0), σ) := (M_31 hq rfl h1.lay).eq rfl
    rw [h1.u8 hq, e31, bI_ret, if_pos (by rw [h1.1.2.2.2.2.pp]; exact Int32.le_refl _), if_pos (by rw [h2.1.2.2.2.1.pp]; exact Int32.le_refl _), h2.1.2.2.2.1.tt, ι_add]
    refine ⟨_, _, rfl, rfl, Or.inl ⟨dT d y s w, tk, ok, hb, od.at hT hy hs wv, Nat.le_refl _, rfl, ⟨_, _, rfl, h1⟩, _, _, rfl, ?_⟩⟩
    exact h2.dr (HL.rf.m (by omega)) (fun i => by simp (disch := omega) only [gI_s, gI_n, gI_c, uq_s, uq_n, uq_c]) (fun i => by simp (disch := omega) only [gI_s, gI_n, gI_c, uq_s, uq_n, uq_c]) rfl (h2.1.2.2.2.1.at hT e1 e7 ew)
  | succ m ih =>
    intro i tk w σ μ hi ok hb h1 h2 e1 e7 ew wv
    refine R2.lee (T_53_36 rfl h1.lay) (T_232_73 rfl h2.lay) ?_
    have e31 : pcall 31 [.ref q] σ = some (1, .int (gI σ q 0), σ) := (M_31 hq rfl h1.lay).eq rfl
    have pp : gI σ q 0 = ι d.1.1 := h1.1.2.2.2.2.pp
    rw [h1.u8 hq, e31, bI_ret, pp, if_neg (by rw [ι_le (by omega) (by omega)]; omega), if_neg (by rw [ι_le (by omega) (by omega)]; omega), h1.u8 hq, h2.1.2.2.2.1.pp, if_neg (by rw [ι_le (by omega) (by omega)]; omega), if_neg (fun g => g h2.1.2.1)]
    obtain ⟨zc, zm, ec, em, hQ⟩ := num_ok hq t ok h1 h2
    rw [ec, em]
    rcases hQ with ⟨v, hv, k2, ⟨τ3, rfl, p3⟩, τ4, rfl, p4, km⟩ | ⟨c, pl, ⟨τ3, rfl, p3⟩, τ4, rfl, p4, k4⟩
    · rw [bI_ret, bI_ret]
      have e36 : pcall 36 [.ref q, .int (ι i), .int (ι v)] τ3 = some (0, .null, sI τ3 (q + 4) (12 * i + d.1.2.1) (ι v)) := by
        refine (M_36 hq rfl p3.lay).eq ?_
        have e : ι i * ι 12 + gI τ3 q 1 - ι 1 = ι (12 * i + d.1.2.1) := by
          rw [p3.1.2.2.2.2.tt, ι_mul]; show ι (i * 12) + ι (d.1.2.1 + 1) - ι 1 = _
          rw [ι_add, ι_sub (by omega)]; congr 1; omega
        rw [e, if_neg (by rw [ι_lt (by omega) (by omega)]; omega), if_neg (by rw [ι_le (by omega) (by omega)]; omega), gd_inb (by omega) (by omega), ix_ι (by omega)]
      have e69 : ι 96 + ι 12 * ι i + ι d.1.2.1 = ι (96 + (12 * i + d.1.2.1)) := by rw [ι_mul, ι_add, ι_add]; congr 1; omega
      rw [e36, bV_ret, e69, gd_inb (by omega) (by omega), ix_ι (by omega), ι_add]
      obtain ⟨nk, nb⟩ := nxt_ok t ok
      have := ok.1
      have hD : DC (dT d y s (fun p => if p = i then ι v else w p)) q (sI τ3 (q + 4) (12 * i + d.1.2.1) (ι v)) := by
        have h := p3.1.2.2.2.2
        refine ⟨?_, ?_, ?_, fun i' hi => ?_, fun i' hi => ?_, fun i' h1 h2 => ?_, fun i' hi => ?_, fun i' h1 h2 => ?_, fun i' hi => ?_, fun i' hi j hj => ?_, ?_, ?_⟩
        · simp (disch := omega) only [gI_s, gI_n, gI_c, uq_s, uq_n, uq_c]; exact h.pp
        · simp (disch := omega) only [gI_s, gI_n, gI_c, uq_s, uq_n, uq_c]; exact h.tt
        · simp (disch := omega) only [gI_s, gI_n, gI_c, uq_s, uq_n, uq_c]; exact h.hh
        · simp (disch := omega) only [gI_s, gI_n, gI_c, uq_s, uq_n, uq_c]; exact h.bo i' hi
        · simp (disch := omega) only [gI_s, gI_n, gI_c, uq_s, uq_n, uq_c]; exact h.f1 i' hi
        · simp (disch := omega) only [gI_s, gI_n, gI_c, uq_s, uq_n, uq_c]; exact h.f0 i' h1 h2
        · simp (disch := omega) only [gI_s, gI_n, gI_c, uq_s, uq_n, uq_c]; exact h.hg i' hi
        · simp (disch := omega) only [gI_s, gI_n, gI_c, uq_s, uq_n, uq_c]; exact h.h0 i' h1 h2
        · simp (disch := omega) only [gI_s, gI_n, gI_c, uq_s, uq_n, uq_c]; exact h.ow i' hi
        · have hj : j < d.1.2.1 + 1 := hj
          have hi : i' < d.1.1 := hi
          have hw := h.wo i' hi j hj
          by_cases e2 : j = d.1.2.1
          · subst e2
            rw [dT_t hT] at hw ⊢
            by_cases e3 : i' = i
            · subst e3; rw [if_pos rfl]; simp (disch := omega) only [gI_s, gI_n, gI_c, uq_s, uq_n, uq_c]
            · rw [if_neg e3]; simp (disch := omega) only [gI_s, gI_n, gI_c, uq_s, uq_n, uq_c]; exact hw
          · rw [dT_4 e2 (by omega) hT] at hw ⊢
            rw [gI_n (by omega)]; exact hw
        · exact h.wr.fr (fun i => by simp (disch := omega) only [gI_s, gI_n, gI_c, uq_s, uq_n, uq_c]) (fun i => by simp (disch := omega) only [gI_s, gI_n, gI_c, uq_s, uq_n, uq_c])
        · exact h.rr.fr (fun i => by simp (disch := omega) only [gI_s, gI_n, gI_c, uq_s, uq_n, uq_c]) (fun i => by simp (disch := omega) only [gI_s, gI_n, gI_c, uq_s, uq_n, uq_c])
      refine ih (i + 1) _ _ _ _ (by omega) nk (by omega) (p3.dr (GL.rf.m (by omega) hq) (fun i => gI_c (q24 hq (by omega))) (fun i => gI_c (q1 hq (by omega))) rfl hD) (p4.dr (HL.rf.m (by omega)) (fun i => by simp (disch := omega) only [gI_s, gI_n, gI_c, uq_s, uq_n, uq_c]) (fun i => by simp (disch := omega) only [gI_s, gI_n, gI_c, uq_s, uq_n, uq_c]) rfl (p4.1.2.2.2.1.w9 (fun p hp u hu => by omega))) ?_ ?_ (fun p hp => ?_) (fun p hp => ?_)
      · simp (disch := omega) only [gI_s, gI_n, gI_c, uq_s, uq_n, uq_c]; rw [km 68 (by omega)]; exact e1
      · simp (disch := omega) only [gI_s, gI_n, gI_c, uq_s, uq_n, uq_c]; rw [km 67 (by omega)]; exact e7
      · by_cases e3 : p = i
        · subst e3; rw [if_pos rfl]; simp (disch := omega) only [gI_s, gI_n, gI_c, uq_s, uq_n, uq_c]
        · rw [if_neg e3]; simp (disch := omega) only [gI_s, gI_n, gI_c, uq_s, uq_n, uq_c]; rw [km 69 (by omega)]; exact ew p (by omega)
      · by_cases e3 : p = i
        · subst e3; rw [if_pos rfl]; exact ⟨v, hv, rfl⟩
        · rw [if_neg e3]; exact wv p (by omega)
    · rw [bI_ret, bI_ret]
      have e69 : ι 96 + ι 12 * ι i + ι d.1.2.1 = ι (96 + (12 * i + d.1.2.1)) := by rw [ι_mul, ι_add, ι_add]; congr 1; omega
      rw [e69, gd_inb (by omega) (by omega), ix_ι (by omega)]
      refine LRs.bad (c := c) (pl := pl) (Wp.cV (g36 hq p3) fun τ h => ?_) (Wp.le (T_232_73 rfl p4.lay) ?_)
      · rw [ι_add]; exact g53l hq (8 - (i + 1)) (i + 1) τ (by omega) h
      · have p5 : FML c pl μ0 (sI τ4 69 (96 + (12 * i + d.1.2.1)) (ι 0)) := p4.m (by omega)
        by_cases e : gI (sI τ4 69 (96 + (12 * i + d.1.2.1)) (ι 0)) 65 5 ≤ ι i + ι 1
        · rw [if_pos e]; exact Wp.retV (p5.m (by omega))
        · rw [if_neg e, if_pos p5.n22]; exact Wp.retV (p5.m (by omega))
end LINE3
