/-! ===== lines: a known person, a thing ===== -/
section LINE2
variable {σ τ υ σ0 μ ν0 μ0 : pS} {a n k b e i j c w q pl v : Nat} {x : Nat → Nat} {tk : Nat × Nat × Nat} {g f : Bool} {L : Rl} {s y : Int32} {d : Dx} {z : Zx}
/-- the fault of a person named, or 0 -/
def kpF (x : Nat → Nat) (d : Dx) (tk : Nat × Nat × Nat) (oa : Option Nat) : Nat := if tk.1 ≠ 2 then 1 else if 4 < tk.2.2 - tk.2.1 then 2 else if ¬ numV x tk < d.1.1 then 3 else match oa with
  | none => 0
  | some a => if numV x tk = a then 4 else if tb (d.2.1 3 a) (numV x tk) = true then 4 else 0
def yv (oa : Option Nat) : Int32 := match oa with
  | none => ν 1
  | some a => ι a
theorem kpF_le (oa : Option Nat) : kpF x d tk oa ≤ 5 := by
  unfold kpF
  cases oa with
  | none => (repeat' split) <;> omega
  | some a => dsimp only; (repeat' split) <;> omega
theorem kp1 {oa : Option Nat} (h : tk.1 ≠ 2) : kpF x d tk oa = 1 := if_pos h
theorem kp2 {oa : Option Nat} (h : tk.1 = 2) (h2 : 4 < tk.2.2 - tk.2.1) : kpF x d tk oa = 2 := by unfold kpF; rw [if_neg (fun g => g h), if_pos h2]
theorem kp3 {oa : Option Nat} (h : tk.1 = 2) (h2 : ¬ 4 < tk.2.2 - tk.2.1) (h3 : ¬ numV x tk < d.1.1) : kpF x d tk oa = 3 := by unfold kpF; rw [if_neg (fun g => g h), if_neg h2, if_pos h3]
theorem kpn (h : tk.1 = 2) (h2 : ¬ 4 < tk.2.2 - tk.2.1) (h3 : numV x tk < d.1.1) : kpF x d tk none = 0 := by unfold kpF; rw [if_neg (fun g => g h), if_neg h2, if_neg (fun g => g h3)]
theorem kps (h : tk.1 = 2) (h2 : ¬ 4 < tk.2.2 - tk.2.1) (h3 : numV x tk < d.1.1) : kpF x d tk (some a) = if numV x tk = a then 4 else if tb (d.2.1 3 a) (numV x tk) = true then 4 else 0 := by unfold kpF; rw [if_neg (fun g => g h), if_neg h2, if_neg (fun g => g h3)]
theorem l54 (hq : isP q) (t : Txt n x) (ok : okTk n x tk) (hP : d.1.1 ≤ 8) (h : PL n x q d tk σ0 σ) (oa : Option Nat) (ho : ∀ a, oa = some a → a < d.1.1) : (kpF x d tk oa = 0 → numV x tk < d.1.1 ∧ Wp (pcall 54 [.ref 24, .int (yv oa)] σ) (RI (ι (numV x tk)) (PL n x q d (tkS n x tk.2.2) σ0))) ∧ (kpF x d tk oa ≠ 0 → Wp (pcall 54 [.ref 24, .int (yv oa)] σ) (RI (ν 1) (FTL q (kpF x d tk oa) tk.2.1 σ0))) := by
  have h7 := t.1
  have o1 := ok.1; have o2 := ok.2.1; have o6 := ok.2.2.2.2.2.1
  have ek : (gI σ 24 4 = ι 2) = (tk.1 = 2) := by rw [h.1.2.2.1.1, ι_eq (by omega) (by omega)]
  have e31 : pcall 31 [.ref q] σ = some (1, .int (gI σ q 0), σ) := (M_31 hq rfl h.lay).eq rfl
  have cb : ∀ c, c ≠ 0 → c ≤ 5 → Wp (bV (pcall 50 [.ref 24, .int (ι c)] σ) fun σ11 => bV (pcall 43 [.ref 24] σ11) fun σ12 => if ¬ gI σ12 24 6 = ι 0 then some (1, .int (ν 1), σ12) else some (1, .int (gI σ11 24 5), σ12)) (RI (ν 1) (FTL q c tk.2.1 σ0)) := fun c a b => Wp.cV (l50 h a b) fun τ f => by
    rw [g43 f, bV_ret, if_pos f.n6]; exact Wp.retI f
  have le := kpF_le (x := x) (d := d) (tk := tk) oa
  by_cases e2 : tk.1 = 2
  · have hn := lnum t ok e2
    have e5 : gI σ 24 5 = ι (numV x tk) := h.1.2.2.1.2.2.2.2 e2
    have hnn : numV x tk < 10000 := hn
    by_cases el : 4 < tk.2.2 - tk.2.1
    · have w : Wp (pcall 54 [.ref 24, .int (yv oa)] σ) (RI (ν 1) (FTL q 2 tk.2.1 σ0)) := by
        refine Wp.le (M_54 rfl h.lay) ?_
        rw [if_pos (by rw [ek]; exact e2), l52 t ok h, bI_ret, if1, if_pos (decide_eq_true el)]
        exact cb 2 (by omega) (by omega)
      rw [kp2 e2 el]
      exact ⟨fun g => absurd g (by omega), fun _ => w⟩
    by_cases ev : numV x tk < d.1.1
    · have e34 : ∀ a, a < d.1.1 → pcall 34 [.ref q, .int (ι a), .int (ι (numV x tk))] σ = some (1, .int (bz (tb (d.2.1 3 a) (numV x tk))), σ) := by
        intro a ha
        refine (M_34 hq rfl h.lay).eq ?_
        rw [if_neg (by rw [ι_lt (by omega) (by omega)]; omega), if_neg (by rw [ι_le (by omega) (by omega)]; omega), gd_inb (by omega) (by omega), ix_ι (by omega), p168 h.lay (by omega), bI_ret, if1, h.1.2.2.2.2.hg a ha]
        cases tb (d.2.1 3 a) (numV x tk) <;> rfl
      have good : Wp (bV (pcall 43 [.ref 24] σ) fun σ6 => if ¬ gI σ6 24 6 = ι 0 then some (1, .int (ν 1), σ6) else some (1, .int (gI σ 24 5), σ6)) (RI (ι (numV x tk)) (PL n x q d (tkS n x tk.2.2) σ0)) := Wp.cV (l43 hq t ok h) fun τ p => by
        rw [if_neg (fun g => g p.1.2.1), e5]; exact Wp.retI p
      have c54 : ∀ v1 v2, Wp (C_54_76 v1 v2 σ) (RI (ν 1) (FTL q 4 tk.2.1 σ0)) := fun v1 v2 => Wp.le (T_54_76 rfl h.lay) (cb 4 (by omega) (by omega))
      have M := @M_54 (yv oa) σ _ rfl h.lay
      rw [if_pos (by rw [ek]; exact e2), l52 t ok h, bI_ret, if1, if_neg (by rw [decide_eq_false el]; decide), h.u8 hq, e31, bI_ret, if_pos (by rw [e5, h.1.2.2.2.2.pp, ι_lt (by omega) (by omega)]; exact ev), h.u8 hq] at M
      cases oa with
      | none =>
        rw [kpn e2 el ev]
        have e34n : pcall 34 [.ref q, .int (ν 1), .int (gI σ 24 5)] σ = some (1, .int (ι 0), σ) := (M_34 hq rfl h.lay).eq (if_pos (by decide))
        refine ⟨fun _ => ⟨ev, ?_⟩, fun g => absurd rfl g⟩
        refine Wp.le M ?_
        rw [if_neg (by rw [e5]; show ¬ ι _ = ν 1; rw [ι_m1 (by omega)]; exact id), show yv none = ν 1 from rfl, e34n, bI_ret, if_pos rfl]
        exact good
      | some a =>
        have ha := ho a rfl
        rw [kps e2 el ev]
        have M : Le _ (pcall 54 [.ref 24, .int (ι a)] σ) := M
        rw [show yv (some a) = ι a from rfl] at M ⊢
        rw [e5, e34 a ha, bI_ret, if1] at M
        by_cases e3 : numV x tk = a
        · rw [if_pos e3]
          refine ⟨fun g => absurd g (by omega), fun _ => Wp.le M ?_⟩
          rw [if_pos (by rw [e3])]; exact c54 _ _
        · rw [if_neg e3]
          rw [if_neg (by rw [ι_eq (by omega) (by omega)]; exact e3)] at M
          cases e4 : tb (d.2.1 3 a) (numV x tk) with
          | true =>
            rw [if_pos rfl]
            refine ⟨fun g => absurd g (by omega), fun _ => Wp.le M ?_⟩
            rw [e4, if_pos rfl]; exact c54 _ _
          | false =>
            rw [if_neg (by decide)]
            refine ⟨fun _ => ⟨ev, Wp.le M ?_⟩, fun g => absurd rfl g⟩
            rw [e4, if_neg (by decide)]
            exact good
    · rw [kp3 e2 el ev]
      refine ⟨fun g => absurd g (by omega), fun _ => Wp.le (M_54 rfl h.lay) ?_⟩
      rw [if_pos (by rw [ek]; exact e2), l52 t ok h, bI_ret, if1, if_neg (by rw [decide_eq_false el]; decide), h.u8 hq, e31, bI_ret, if_neg (by rw [e5, h.1.2.2.2.2.pp, ι_lt (by omega) (by omega)]; exact ev)]
      exact cb 3 (by omega) (by omega)
  · rw [kp1 e2]
    refine ⟨fun g => absurd g (by omega), fun _ => Wp.le (M_54 rfl h.lay) ?_⟩
    rw [if_neg (by rw [ek]; exact e2)]
    exact cb 1 (by omega) (by omega)
theorem l233 (t : Txt n x) (ok : okTk n x tk) (hP : d.1.1 ≤ 8) (h : ML n x d tk μ0 μ) : (kpF x d tk none = 0 → pcall 233 [.ref 61] μ = some (1, .int (ι (numV x tk)), μ)) ∧ (kpF x d tk none ≠ 0 → Wp (pcall 233 [.ref 61] μ) (RI (ι 0) (FML (kpF x d tk none) tk.2.1 μ0))) := by
  have h7 := t.1
  obtain ⟨m1, m2, m3⟩ := l229 (m := 9999) (by omega) t ok h
  have bad : ∀ c, Wp (pcall 229 [.ref 61, .int (ι 0), .int (ι 9999)] μ) (RI (ι 0) (FMK c tk.2.1 μ0 μ)) → Wp (pcall 233 [.ref 61] μ) (RI (ι 0) (FML c tk.2.1 μ0)) := fun c w => by
    refine Wp.le (M_233 rfl h.lay) ?_
    exact Wp.cI w fun τ f => by rw [if_pos f.1.n22, if_pos f.1.n22]; exact Wp.retI f.1
  by_cases e2 : tk.1 = 2
  · have hn : numV x tk < 10000 := lnum t ok e2
    by_cases el : 4 < tk.2.2 - tk.2.1
    · rw [kp2 e2 el]
      exact ⟨fun g => absurd g (by omega), fun _ => bad 2 (m2 ⟨e2, Or.inl el⟩)⟩
    by_cases ev : numV x tk < d.1.1
    · rw [kpn e2 el ev]
      refine ⟨fun _ => (M_233 rfl h.lay).eq ?_, fun g => absurd rfl g⟩
      rw [m1 ⟨e2, el, by omega⟩, bI_ret, if_neg (fun g => g h.1.2.1), if_pos (by rw [h.1.2.2.2.1.pp, ι_lt (by omega) (by omega)]; exact ev), if_neg (fun g => g h.1.2.1)]
    · rw [kp3 e2 el ev]
      refine ⟨fun g => absurd g (by omega), fun _ => Wp.le (M_233 rfl h.lay) ?_⟩
      rw [m1 ⟨e2, el, by omega⟩, bI_ret, if_neg (fun g => g h.1.2.1), if_neg (by rw [h.1.2.2.2.1.pp, ι_lt (by omega) (by omega)]; exact ev)]
      exact Wp.cV (l220 h (by omega) (by omega)) fun τ f => by rw [if_pos f.n22]; exact Wp.retI f
  · rw [kp1 e2]
    exact ⟨fun g => absurd g (by omega), fun _ => bad 1 (m3 e2)⟩
/-- a thing more: firm, owner, its worths -/
def dT (d : Dx) (y s : Int32) (w : Nat → Int32) : Dx := ((d.1.1, d.1.2.1 + 1, d.1.2.2), (fun b j => if b = 4 then (if j % 12 = d.1.2.1 then w (j / 12) else d.2.1 4 j) else uq (uq d.2.1 7 d.1.2.1 y) 1 d.1.2.1 s b j), d.2.2)
theorem dT_c {w : Nat → Int32} (h : b ≠ 4) : (dT d y s w).2.1 b j = uq (uq d.2.1 7 d.1.2.1 y) 1 d.1.2.1 s b j := if_neg h
theorem dT_44 {w : Nat → Int32} : (dT d y s w).2.1 4 j = if j % 12 = d.1.2.1 then w (j / 12) else d.2.1 4 j := by unfold dT; dsimp only; rw [if_pos rfl]
theorem dT_4 {w : Nat → Int32} {p u : Nat} (h : u ≠ d.1.2.1) (hu : u < 12) (hT : d.1.2.1 < 12) : (dT d y s w).2.1 4 (12 * p + u) = d.2.1 4 (12 * p + u) := by
  rw [dT_44, if_neg (by omega)]
theorem dT_t {w : Nat → Int32} {p : Nat} (hT : d.1.2.1 < 12) : (dT d y s w).2.1 4 (12 * p + d.1.2.1) = w p := by
  rw [dT_44, if_pos (by omega), show (12 * p + d.1.2.1) / 12 = p by omega]
theorem tb_shm : ∀ f, f < 12 → ∀ k, k < 32 → tb (shl' (ι 1) (ι f)) k = decide (k = f) := by decide +kernel
theorem DC.at (h : DC d q σ) (hT : d.1.2.1 < 12) (hy : y = ι 0 ∨ y = ι 1) : DC (dT d y s (fun p => gI σ (q + 4) (12 * p + d.1.2.1))) q (sI (sI (sI σ (q + 3) d.1.2.1 s) q 2 (gI σ q 2 ||| (if y = ι 0 then ι 0 else shl' (ι 1) (ι d.1.2.1)))) q 1 (ι (d.1.2.1 + 1))) := by
  have tbn : ∀ i, i < 32 → tb (gI σ q 2 ||| (if y = ι 0 then ι 0 else shl' (ι 1) (ι d.1.2.1))) i = (tb (gI σ q 2) i || (!decide (y = ι 0) && decide (i = d.1.2.1))) := fun i hi => by
    rw [tb_or _ _ _ hi]
    by_cases e : y = ι 0
    · rw [if_pos e, tb_0, decide_eq_true e]; rfl
    · rw [if_neg e, tb_shm _ hT _ hi, decide_eq_false e]; rfl
  refine ⟨?_, ?_, ?_, fun i hi => ?_, fun i hi => ?_, fun i h1 h2 => ?_, fun i hi => ?_, fun i h1 h2 => ?_, fun i hi => ?_, fun i hi j hj => ?_, ?_, ?_⟩ <;> (try rw [dT_c (by omega)]) <;> simp only [show ∀ w, (dT d y s w).1 = (d.1.1, d.1.2.1 + 1, d.1.2.2) from fun _ => rfl, show ∀ w, (dT d y s w).2.2 = d.2.2 from fun _ => rfl] at *
  · simp (disch := omega) only [gI_s, gI_n, gI_c, uq_s, uq_n, uq_c]; exact h.pp
  · simp (disch := omega) only [gI_s, gI_n, gI_c, uq_s, uq_n, uq_c]
  · simp (disch := omega) only [gI_s, gI_n, gI_c, uq_s, uq_n, uq_c]; exact h.hh
  · simp (disch := omega) only [gI_s, gI_n, gI_c, uq_s, uq_n, uq_c]; exact h.bo i hi
  · simp (disch := omega) only [gI_s, gI_n, gI_c, uq_s, uq_n, uq_c]
    rw [tbn i (by omega)]
    by_cases e : i = d.1.2.1
    · subst e; simp (disch := omega) only [gI_s, gI_n, gI_c, uq_s, uq_n, uq_c]; rw [h.f0 _ (Nat.le_refl _) (by omega)]
      rcases hy with rfl | rfl <;> decide +revert
    · simp (disch := omega) only [gI_s, gI_n, gI_c, uq_s, uq_n, uq_c]; rw [h.f1 i (by omega), decide_eq_false e, Bool.and_false, Bool.or_false]
  · simp (disch := omega) only [gI_s, gI_n, gI_c, uq_s, uq_n, uq_c]
    rw [tbn i h2, h.f0 i (by omega) h2, decide_eq_false (show ¬ i = d.1.2.1 by omega), Bool.and_false]; rfl
  · simp (disch := omega) only [gI_s, gI_n, gI_c, uq_s, uq_n, uq_c]; exact h.hg i hi
  · simp (disch := omega) only [gI_s, gI_n, gI_c, uq_s, uq_n, uq_c]; exact h.h0 i h1 h2
  · by_cases e : i = d.1.2.1
    · subst e; simp (disch := omega) only [gI_s, gI_n, gI_c, uq_s, uq_n, uq_c]
    · simp (disch := omega) only [gI_s, gI_n, gI_c, uq_s, uq_n, uq_c]; exact h.ow i (by omega)
  · simp (disch := omega) only [gI_s, gI_n, gI_c, uq_s, uq_n, uq_c]
    by_cases e : j = d.1.2.1
    · subst e; rw [dT_t hT]
    · rw [dT_4 e (by omega) hT]; exact h.wo i hi j (by omega)
  · exact h.wr.fr (fun i => by simp (disch := omega) only [gI_s, gI_n, gI_c, uq_s, uq_n, uq_c]) (fun i => by simp (disch := omega) only [gI_s, gI_n, gI_c, uq_s, uq_n, uq_c])
  · exact h.rr.fr (fun i => by simp (disch := omega) only [gI_s, gI_n, gI_c, uq_s, uq_n, uq_c]) (fun i => by simp (disch := omega) only [gI_s, gI_n, gI_c, uq_s, uq_n, uq_c])
theorem DM.at {w : Nat → Int32} (h : DM d σ) (hT : d.1.2.1 < 12) (e1 : gI σ 68 (12 + d.1.2.1) = s) (e7 : gI σ 67 (12 + d.1.2.1) = y) (ew : ∀ p, p < d.1.1 → gI σ 69 (96 + (12 * p + d.1.2.1)) = w p) : DM (dT d y s w) (sI σ 65 6 (ι (d.1.2.1 + 1))) := by
  refine ⟨?_, ?_, ?_, ?_, ?_, fun i hi => ?_, fun i hi => ?_, fun i hi => ?_, fun i hi => ?_, fun i hi j hj => ?_, fun i hi => ?_, fun i hi => ?_⟩ <;> (try rw [dT_c (by omega)]) <;> simp only [show (dT d y s w).1 = (d.1.1, d.1.2.1 + 1, d.1.2.2) from rfl, show (dT d y s w).2.2 = d.2.2 from rfl] at *
  · simp (disch := omega) only [gI_s, gI_n, gI_c, uq_s, uq_n, uq_c]; exact h.pp
  · simp (disch := omega) only [gI_s, gI_n, gI_c, uq_s, uq_n, uq_c]
  · simp (disch := omega) only [gI_s, gI_n, gI_c, uq_s, uq_n, uq_c]; exact h.hh
  · simp (disch := omega) only [gI_s, gI_n, gI_c, uq_s, uq_n, uq_c]; exact h.w8
  · simp (disch := omega) only [gI_s, gI_n, gI_c, uq_s, uq_n, uq_c]; exact h.r9
  · simp (disch := omega) only [gI_s, gI_n, gI_c, uq_s, uq_n, uq_c]; exact h.bo i hi
  · by_cases e : i = d.1.2.1
    · subst e; simp (disch := omega) only [gI_s, gI_n, gI_c, uq_s, uq_n, uq_c]; exact e7
    · simp (disch := omega) only [gI_s, gI_n, gI_c, uq_s, uq_n, uq_c]; exact h.fi i (by omega)
  · simp (disch := omega) only [gI_s, gI_n, gI_c, uq_s, uq_n, uq_c]; exact h.hg i hi
  · by_cases e : i = d.1.2.1
    · subst e; simp (disch := omega) only [gI_s, gI_n, gI_c, uq_s, uq_n, uq_c]; exact e1
    · simp (disch := omega) only [gI_s, gI_n, gI_c, uq_s, uq_n, uq_c]; exact h.ow i (by omega)
  · simp (disch := omega) only [gI_s, gI_n, gI_c, uq_s, uq_n, uq_c]
    by_cases e : j = d.1.2.1
    · subst e; rw [dT_t hT]; exact ew i hi
    · rw [dT_4 e (by omega) hT]; exact h.wo i hi j (by omega)
  · simp (disch := omega) only [gI_s, gI_n, gI_c, uq_s, uq_n, uq_c]; exact h.ws i hi
  · simp (disch := omega) only [gI_s, gI_n, gI_c, uq_s, uq_n, uq_c]; exact h.rs i hi
theorem okDx.at {w : Nat → Int32} (h : okDx d) (hT : d.1.2.1 < 12) (hy : y = ι 0 ∨ y = ι 1) (hs : ∃ o, o < d.1.1 ∧ s = ι o) (hw : ∀ p, p < d.1.1 → ∃ v, v ≤ 9 ∧ w p = ι v) : okDx (dT d y s w) := by
  obtain ⟨a1, a2, a3, a4, a5, a6, a7, a8, a9, a10⟩ := h
  have r3 : ∀ p, (dT d y s w).2.1 3 p = d.2.1 3 p := fun p => by rw [dT_c (by omega)]; simp (disch := omega) only [gI_s, gI_n, gI_c, uq_s, uq_n, uq_c]
  refine ⟨a1, hT, fun u hu => ?_, fun p hp u hu => ?_, fun p hp => ?_, fun p hp r hr => ?_, fun p hp => ?_, fun u hu => ?_, a9, a10⟩
  · have hu : u < d.1.2.1 + 1 := hu
    rw [dT_c (by omega)]
    by_cases e : u = d.1.2.1
    · subst e; simp (disch := omega) only [gI_s, gI_n, gI_c, uq_s, uq_n, uq_c]; exact hs
    · simp (disch := omega) only [gI_s, gI_n, gI_c, uq_s, uq_n, uq_c]; exact a3 u (by omega)
  · have hu : u < d.1.2.1 + 1 := hu
    by_cases e : u = d.1.2.1
    · subst e; rw [dT_t hT]; exact hw p hp
    · rw [dT_4 e (by omega) hT]; exact a4 p hp u (by omega)
  · rw [r3]; exact a5 p hp
  · rw [r3, r3]; exact a6 p hp r hr
  · rw [r3]; exact a7 p hp
  · have hu : u < d.1.2.1 + 1 := hu
    rw [dT_c (by omega)]
    by_cases e : u = d.1.2.1
    · subst e; simp (disch := omega) only [gI_s, gI_n, gI_c, uq_s, uq_n, uq_c]; exact hy
    · simp (disch := omega) only [gI_s, gI_n, gI_c, uq_s, uq_n, uq_c]; exact a8 u (by omega)
end LINE2
