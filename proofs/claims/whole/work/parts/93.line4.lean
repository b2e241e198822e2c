/-! ===== lines: a hedge's, a rule's ===== -/
section LINE4
variable {σ τ υ σ0 μ ν0 μ0 : pS} {a n k b e i j c w q pl v : Nat} {x : Nat → Nat} {tk : Nat × Nat × Nat} {g f : Bool} {L : Rl} {s y : Int32} {d : Dx} {z : Zx}
theorem DC.ah (h : DC d q σ) (ha : a < d.1.1) (hb : b < d.1.1) (hab : a ≠ b) : DC (dH d a b) q (sI (sI (sI σ (q + 2) a (d.2.1 3 a ||| shl' (ι 1) (ι b))) (q + 2) b (d.2.1 3 b ||| shl' (ι 1) (ι a))) q 3 (ι 1)) := by
  refine ⟨?_, ?_, ?_, fun i hi => ?_, fun i hi => ?_, fun i h1 h2 => ?_, fun i hi => ?_, fun i h1 h2 => ?_, fun i hi => ?_, fun i hi j hj => ?_, ?_, ?_⟩ <;> dsimp only [dH] at *
  · simp (disch := omega) only [gI_s, gI_n, gI_c, uq_s, uq_n, uq_c]; exact h.pp
  · simp (disch := omega) only [gI_s, gI_n, gI_c, uq_s, uq_n, uq_c]; exact h.tt
  · simp (disch := omega) only [gI_s, gI_n, gI_c, uq_s, uq_n, uq_c]; show ι 1 = bz (decide (0 < d.1.2.2 + 1)); rw [decide_eq_true (Nat.succ_pos _)]; rfl
  · simp (disch := omega) only [gI_s, gI_n, gI_c, uq_s, uq_n, uq_c]; exact h.bo i hi
  · simp (disch := omega) only [gI_s, gI_n, gI_c, uq_s, uq_n, uq_c]; exact h.f1 i hi
  · simp (disch := omega) only [gI_s, gI_n, gI_c, uq_s, uq_n, uq_c]; exact h.f0 i h1 h2
  · by_cases e : i = b
    · subst e; simp (disch := omega) only [gI_s, gI_n, gI_c, uq_s, uq_n, uq_c]
    · by_cases e2 : i = a
      · subst e2; simp (disch := omega) only [gI_s, gI_n, gI_c, uq_s, uq_n, uq_c]
      · simp (disch := omega) only [gI_s, gI_n, gI_c, uq_s, uq_n, uq_c]; exact h.hg i hi
  · simp (disch := omega) only [gI_s, gI_n, gI_c, uq_s, uq_n, uq_c]; exact h.h0 i h1 h2
  · simp (disch := omega) only [gI_s, gI_n, gI_c, uq_s, uq_n, uq_c]; exact h.ow i hi
  · simp (disch := omega) only [gI_s, gI_n, gI_c, uq_s, uq_n, uq_c]; exact h.wo i hi j hj
  · exact h.wr.fr (fun i => by simp (disch := omega) only [gI_s, gI_n, gI_c, uq_s, uq_n, uq_c]) (fun i => by simp (disch := omega) only [gI_s, gI_n, gI_c, uq_s, uq_n, uq_c])
  · exact h.rr.fr (fun i => by simp (disch := omega) only [gI_s, gI_n, gI_c, uq_s, uq_n, uq_c]) (fun i => by simp (disch := omega) only [gI_s, gI_n, gI_c, uq_s, uq_n, uq_c])
theorem DM.ah (h : DM d σ) (ha : a < d.1.1) (hb : b < d.1.1) (hab : a ≠ b) : DM (dH d a b) (sI (sI (sI σ 70 (8 + a) (d.2.1 3 a ||| shl' (ι 1) (ι b))) 70 (8 + b) (d.2.1 3 b ||| shl' (ι 1) (ι a))) 65 7 (ι (d.1.2.2 + 1))) := by
  refine ⟨?_, ?_, ?_, ?_, ?_, fun i hi => ?_, fun i hi => ?_, fun i hi => ?_, fun i hi => ?_, fun i hi j hj => ?_, fun i hi => ?_, fun i hi => ?_⟩ <;> dsimp only [dH] at *
  · simp (disch := omega) only [gI_s, gI_n, gI_c, uq_s, uq_n, uq_c]; exact h.pp
  · simp (disch := omega) only [gI_s, gI_n, gI_c, uq_s, uq_n, uq_c]; exact h.tt
  · simp (disch := omega) only [gI_s, gI_n, gI_c, uq_s, uq_n, uq_c]
  · simp (disch := omega) only [gI_s, gI_n, gI_c, uq_s, uq_n, uq_c]; exact h.w8
  · simp (disch := omega) only [gI_s, gI_n, gI_c, uq_s, uq_n, uq_c]; exact h.r9
  · simp (disch := omega) only [gI_s, gI_n, gI_c, uq_s, uq_n, uq_c]; exact h.bo i hi
  · simp (disch := omega) only [gI_s, gI_n, gI_c, uq_s, uq_n, uq_c]; exact h.fi i hi
  · by_cases e : i = b
    · subst e; simp (disch := omega) only [gI_s, gI_n, gI_c, uq_s, uq_n, uq_c]
    · by_cases e2 : i = a
      · subst e2; simp (disch := omega) only [gI_s, gI_n, gI_c, uq_s, uq_n, uq_c]
      · simp (disch := omega) only [gI_s, gI_n, gI_c, uq_s, uq_n, uq_c]; exact h.hg i hi
  · simp (disch := omega) only [gI_s, gI_n, gI_c, uq_s, uq_n, uq_c]; exact h.ow i hi
  · simp (disch := omega) only [gI_s, gI_n, gI_c, uq_s, uq_n, uq_c]; exact h.wo i hi j hj
  · simp (disch := omega) only [gI_s, gI_n, gI_c, uq_s, uq_n, uq_c]; exact h.ws i hi
  · simp (disch := omega) only [gI_s, gI_n, gI_c, uq_s, uq_n, uq_c]; exact h.rs i hi
theorem m58f (h : FML c pl μ0 μ) : Wp (C_235_58 s y μ) (RV (FML c pl μ0)) := Wp.le (T_235_58 rfl h.lay) (by rw [if_neg h.n22]; exact Wp.retV h)
theorem m20f {v : Value} (h : FML c pl μ0 μ) : Wp (C_235_20 s v μ) (RV (FML c pl μ0)) := Wp.le (T_235_20 rfl h.lay) (by rw [gm233 h, bI_ret, if_pos h.n22]; exact m58f h)
theorem line_hedge (hq : isP q) (t : Txt n x) (ok : okTk n x tk) (od : okDx d) (h1 : PL n x q d tk σ0 σ) (h2 : ML n x d tk μ0 μ) : R2 (pcall 55 [.ref 24] σ) (pcall 235 [.ref 61] μ) (LRs n x q tk.2.2 (d.1.2.2 + 1) (fl2 d) σ0 μ0) := by
  have hP := od.1
  refine R2.lee (M_55 rfl h1.lay) (M_235 rfl h2.lay) ?_
  obtain ⟨nk, nb⟩ := nxt_ok t ok
  obtain ⟨a1, ea1, v1, τ1, rfl, p1⟩ := l43 hq t ok h1
  obtain ⟨a2, ea2, v2, τ2, rfl, p2⟩ := l212 t ok h2
  rw [ea1, bV_ret, ea2, bV_ret]
  have cf : ∀ {c pl r2 τ}, FTL q c pl σ0 τ → Wp (bI (pcall 54 [.ref 24, .int r2] τ) fun r3 σ3 => bG isP (gR σ3 24 8) fun q4 => bV (pcall 37 [.ref q4, .int r2, .int r3] σ3) fun σ5 => some (0, .null, σ5)) (RV (FTL q c pl σ0)) := fun f => Wp.cI (g54 f) fun τ f => by
    rw [f.u8 hq]; exact Wp.cV (g37 hq f) fun τ f => Wp.retV f
  obtain ⟨k1, k2⟩ := l54 hq t nk hP p1 none (fun a e => by cases e)
  obtain ⟨k3, k4⟩ := l233 t nk hP p2
  by_cases e0 : kpF x d (tkS n x tk.2.2) none = 0
  · obtain ⟨ha, w1⟩ := k1 e0
    have e233 := k3 e0
    obtain ⟨a3, ea3, τ3, rfl, p3⟩ := w1
    have ea3 : pcall 54 [.ref 24, .int (ν 1)] τ1 = _ := ea3
    rw [ea3, bI_ret, e233, bI_ret, if_neg (fun g => g p2.1.2.1)]
    generalize numV x (tkS n x tk.2.2) = A at *
    obtain ⟨nk2, nb2⟩ := nxt_ok t nk
    obtain ⟨a4, ea4, v4, τ4, rfl, p4⟩ := l212 t nk p2
    rw [ea4, bV_ret]
    refine R2.le2 (T_235_20 rfl p4.lay) ?_
    obtain ⟨k5, k6⟩ := l54 hq t nk2 hP p3 (some A) (fun a e => by cases e; exact ha)
    obtain ⟨k7, k8⟩ := l233 t nk2 hP p4
    have hd := nk.1
    have hd2 := nk2.1
    by_cases e1 : kpF x d (tkS n x (tkS n x tk.2.2).2.2) none = 0
    · have e233b := k7 e1
      rw [e233b, bI_ret, if_neg (fun g => g p4.1.2.1)]
      by_cases e2 : kpF x d (tkS n x (tkS n x tk.2.2).2.2) (some A) = 0
      · obtain ⟨hb, w5⟩ := k5 e2
        obtain ⟨a5, ea5, τ5, rfl, p5⟩ := w5
        have ea5 : pcall 54 [.ref 24, .int (ι A)] τ3 = _ := ea5
        have hne : numV x (tkS n x (tkS n x tk.2.2).2.2) ≠ A ∧ tb (d.2.1 3 A) (numV x (tkS n x (tkS n x tk.2.2).2.2)) = false := by
          by_cases a1 : (tkS n x (tkS n x tk.2.2).2.2).1 = 2
          · by_cases a2 : 4 < (tkS n x (tkS n x tk.2.2).2.2).2.2 - (tkS n x (tkS n x tk.2.2).2.2).2.1
            · rw [kp2 a1 a2] at e2; omega
            · rw [kps a1 a2 hb] at e2
              by_cases a3 : numV x (tkS n x (tkS n x tk.2.2).2.2) = A
              · rw [if_pos a3] at e2; omega
              · rw [if_neg a3] at e2
                refine ⟨a3, ?_⟩
                cases a4 : tb (d.2.1 3 A) (numV x (tkS n x (tkS n x tk.2.2).2.2)) with
                | false => rfl
                | true => rw [a4, if_pos rfl] at e2; omega
          · rw [kp1 a1] at e2; omega
        rw [ea5, bI_ret, p5.u8 hq]
        generalize numV x (tkS n x (tkS n x tk.2.2).2.2) = B at *
        rw [if_neg (by rw [ι_eq (by omega) (by omega)]; exact fun g => hne.1 g.symm), ι_add, gd_inb (by omega) (by omega), ix_ι (by omega), p4.1.2.2.2.1.hg A ha, p236 p4.lay (by omega), bI_ret, hne.2, if_pos (show bz false = ι 0 from rfl)]
        refine R2.le2 (T_235_58 rfl p4.lay) ?_
        obtain ⟨a6, ea6, v6, τ6, rfl, p6⟩ := l212 t nk2 p4
        have e37 : pcall 37 [.ref q, .int (ι A), .int (ι B)] τ5 = some (0, .null, sI (sI (sI τ5 (q + 2) A (d.2.1 3 A ||| shl' (ι 1) (ι B))) (q + 2) B (d.2.1 3 B ||| shl' (ι 1) (ι A))) q 3 (ι 1)) := by
          refine (M_37 hq rfl p5.lay).eq ?_
          rw [if_neg (by rw [ι_lt (by omega) (by omega)]; omega), if_neg (by rw [ι_le (by omega) (by omega)]; omega), if_neg (by rw [ι_lt (by omega) (by omega)]; omega), if_neg (by rw [ι_le (by omega) (by omega)]; omega), gd_inb (by omega) (by omega), gd_inb (by omega) (by omega), gd_inb (by omega) (by omega), gd_inb (by omega) (by omega), ix_ι (by omega), ix_ι (by omega), p5.1.2.2.2.2.hg A ha, gI_n hne.1, p5.1.2.2.2.2.hg B hb]
        obtain ⟨nk3, nb3⟩ := nxt_ok t nk2
        rw [e37, bV_ret, if_pos p4.1.2.1, ea6, bV_ret]
        simp only [ι_add, gd_inb (show 8 + A < 16 by omega) (show 8 + A < 2147483648 by omega), gd_inb (show 8 + B < 16 by omega) (show 8 + B < 2147483648 by omega), ix_ι (show 8 + A < 2147483648 by omega), ix_ι (show 8 + B < 2147483648 by omega), gI_n (show 8 + B ≠ 8 + A by omega), p6.1.2.2.2.1.hg A ha, p6.1.2.2.2.1.hg B hb, gI_c (show 65 ≠ 70 by omega), p6.1.2.2.2.1.hh]
        refine ⟨_, _, rfl, rfl, Or.inl ⟨dH d A B, _, nk3, by omega, od.ah ha hb (fun g => hne.1 g.symm), Nat.le_refl _, rfl, ⟨_, _, rfl, ?_⟩, _, _, rfl, ?_⟩⟩
        · exact p5.dr (((GL.rf.m (by omega) hq).m (by omega) hq).m (by omega) hq) (fun i => by rw [gI_c (q24 hq (by omega)), gI_c (q24 hq (by omega)), gI_c (q24 hq (by omega))]) (fun i => by rw [gI_c (q1 hq (by omega)), gI_c (q1 hq (by omega)), gI_c (q1 hq (by omega))]) rfl (p5.1.2.2.2.2.ah ha hb (fun g => hne.1 g.symm))
        · exact p6.dr (((HL.rf.m (by omega)).m (by omega)).m (by omega)) (fun i => by simp (disch := omega) only [gI_s, gI_n, gI_c, uq_s, uq_n, uq_c]) (fun i => by simp (disch := omega) only [gI_s, gI_n, gI_c, uq_s, uq_n, uq_c]) rfl (p6.1.2.2.2.1.ah ha hb (fun g => hne.1 g.symm))
      · have w5 := k6 e2
        have hb : (tkS n x (tkS n x tk.2.2).2.2).1 = 2 ∧ numV x (tkS n x (tkS n x tk.2.2).2.2) < d.1.1 ∧ ¬ 4 < (tkS n x (tkS n x tk.2.2).2.2).2.2 - (tkS n x (tkS n x tk.2.2).2.2).2.1 := by
          by_cases a1 : (tkS n x (tkS n x tk.2.2).2.2).1 = 2
          · by_cases a2 : 4 < (tkS n x (tkS n x tk.2.2).2.2).2.2 - (tkS n x (tkS n x tk.2.2).2.2).2.1
            · rw [kp2 a1 a2] at e1; omega
            · by_cases a3 : numV x (tkS n x (tkS n x tk.2.2).2.2) < d.1.1
              · exact ⟨a1, a3, a2⟩
              · rw [kp3 a1 a2 a3] at e1; omega
          · rw [kp1 a1] at e1; omega
        have e4 : kpF x d (tkS n x (tkS n x tk.2.2).2.2) (some A) = 4 := by
          rw [kps hb.1 hb.2.2 hb.2.1] at e2 ⊢
          split
          · rfl
          · split
            · rfl
            · rename_i u1 u2; rw [if_neg u1, if_neg u2] at e2; exact absurd rfl e2
        have hh := e2
        rw [kps hb.1 hb.2.2 hb.2.1] at hh
        rw [e4] at w5
        refine LRs.bad (c := 4) (pl := (tkS n x (tkS n x tk.2.2).2.2).2.1) (Wp.cI w5 fun τ f => ?_) ?_
        · rw [f.u8 hq]; exact Wp.cV (g37 hq f) fun τ f => Wp.retV f
        · have w220 := l220 p4 (c := 4) (by omega) (by omega)
          by_cases a3 : numV x (tkS n x (tkS n x tk.2.2).2.2) = A
          · rw [if_pos (by rw [a3])]
            exact Wp.cV w220 fun τ f => m58f f
          · rw [if_neg a3] at hh
            have a4 : tb (d.2.1 3 A) (numV x (tkS n x (tkS n x tk.2.2).2.2)) = true := by
              cases a4 : tb (d.2.1 3 A) (numV x (tkS n x (tkS n x tk.2.2).2.2)) with
              | true => rfl
              | false => rw [a4] at hh; exact absurd rfl hh
            rw [if_neg (by rw [ι_eq (by omega) (by omega)]; exact fun g => a3 g.symm), ι_add, gd_inb (by omega) (by omega), ix_ι (by omega), p4.1.2.2.2.1.hg A ha, p236 p4.lay (by omega), bI_ret, a4, if_neg (by decide)]
            exact Wp.cV w220 fun τ f => m58f f
    · have e2 : kpF x d (tkS n x (tkS n x tk.2.2).2.2) (some A) = kpF x d (tkS n x (tkS n x tk.2.2).2.2) none := by
        by_cases a1 : (tkS n x (tkS n x tk.2.2).2.2).1 = 2
        · by_cases a2 : 4 < (tkS n x (tkS n x tk.2.2).2.2).2.2 - (tkS n x (tkS n x tk.2.2).2.2).2.1
          · rw [kp2 a1 a2, kp2 a1 a2]
          · by_cases a3 : numV x (tkS n x (tkS n x tk.2.2).2.2) < d.1.1
            · exact absurd (kpn a1 a2 a3) e1
            · rw [kp3 a1 a2 a3, kp3 a1 a2 a3]
        · rw [kp1 a1, kp1 a1]
      have w5 := k6 (by rw [e2]; exact e1)
      rw [e2] at w5
      refine LRs.bad (c := kpF x d (tkS n x (tkS n x tk.2.2).2.2) none) (pl := (tkS n x (tkS n x tk.2.2).2.2).2.1) (Wp.cI w5 fun τ f => ?_) (Wp.cI (k8 e1) fun τ f => ?_)
      · rw [f.u8 hq]; exact Wp.cV (g37 hq f) fun τ f => Wp.retV f
      · rw [if_pos f.n22]; exact m58f f
  · refine LRs.bad (c := kpF x d (tkS n x tk.2.2) none) (pl := (tkS n x tk.2.2).2.1) (Wp.cI (k2 e0) fun τ f => cf f) (Wp.cI (k4 e0) fun τ f => ?_)
    rw [if_pos f.n22]; exact m20f f
end LINE4
