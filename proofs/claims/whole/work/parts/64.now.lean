/-! ===== what is so now: both sides' count, person, look, envies ===== -/
section NOW
variable {P T : Nat} {W R : Rl} {A B : Wd} {σ τ υ σ0 : pS} {q t p o n : Nat} {x0 x1 x2 : Int32}
theorem sw_out {x : Int32} {k : Nat} (hk : k < 1000) (h : ∀ i, i ≤ k → ¬ x = ι i) : x.toInt < 0 ∨ (k : Int) < x.toInt := by
  by_cases h1 : x.toInt < 0
  · exact Or.inl h1
  · right
    by_cases h2 : (k : Int) < x.toInt
    · exact h2
    · exfalso
      have e0 : (ι 0).toInt = 0 := by decide
      have e1 : (ι (k + 1)).toInt = ((k + 1 : Nat) : Int) := Int32.toInt_ofNat_of_lt (by omega)
      have h3 : ¬ x < ι 0 := by rw [Int32.lt_iff_toInt_lt, e0]; exact h1
      have h4 : x < ι (k + 1) := by rw [Int32.lt_iff_toInt_lt, e1]; omega
      obtain ⟨i, hi, e⟩ := ι_of h3 h4 (by omega)
      exact h i (by omega) e
theorem k107 (hL : LayR (gR σ)) : pcall 107 [.ref 32] σ = some (1, .int (gI σ 32 1), σ) := (M_107 (by decide) rfl hL).eq rfl
theorem k111 (hL : LayR (gR σ)) : pcall 111 [.ref 32] σ = some (1, .int (gI σ 32 3), σ) := (M_111 (by decide) rfl hL).eq rfl
theorem k112 (hL : LayR (gR σ)) (hn : n < 3) : pcall 112 [.ref 32, .int (ι n)] σ = some (1, .int (gI σ 35 n), σ) := by
  refine (M_112 (by decide) rfl hL).eq ?_
  simp (disch := omega) only [ι_lt_t, ι_lt_f, ι_le_t, ι_le_f, ι_eq_f, ι_m1, ι_add, ι_mul, ι_pm, ι_sub, ix_ι, gd_inb, gd_t, eq_self, if_true, if_false, not_true_eq_false, not_false_eq_true, ite_self, ]
/-- numbers that count outside a world: acts kept, seen, bytes of the tape, status -/
def nums (ka ks tn : Int32) (st : Nat → Int32) (i : Nat) : Int32 := if i = 11 then ka else if i = 12 then ks else if i = 13 then tn else st (i - 14)

def q_count (P T : Nat) (W : Rl) (A : Wd) (ka ks tn : Int32) (st : Nat → Int32) (x0 : Int32) : Nat × Int32 :=
  if x0 = ι 0 then (0, ι P) else if x0 = ι 1 then (0, ι T) else if x0 = ι 2 then (0, A 0 0) else if x0 = ι 3 then (0, safeS P T W A) else if x0 = ι 4 then (0, ι (cpl P (envS T A))) else if x0 = ι 5 then (0, ι (swN T A)) else if x0 = ι 6 then (0, swF T A T 0) else if x0 = ι 7 then (0, bz (decide (cpl P (envN T A) = 0))) else if x0 = ι 8 then (0, ι (parS P A P).1) else if x0 = ι 9 then (0, ι (hdgN P A / 2)) else if x0 = ι 10 then (0, allrS T A) else if x0 = ι 11 then (0, ka) else if x0 = ι 12 then (0, ks) else if x0 = ι 13 then (0, tn) else if x0 = ι 14 then (0, st 0) else if x0 = ι 15 then (0, st 1) else if x0 = ι 16 then (0, st 2) else (1, ι 0)
set_option maxHeartbeats 4000000 in
theorem q174 (h : CN P T W R A σ q) {ka ks tn : Int32} {st : Nat → Int32} (ha : gI σ 32 1 = ka) (hs : gI σ 32 3 = ks) (ht : gI σ 0 1 = tn) (hst : ∀ i, i < 3 → gI σ 35 i = st i) : Wp (pcall 174 [.ref 0, .int x0] σ) (qC σ (q_count P T W A ka ks tn st x0)) := by
  have hP := h.1.1.P
  refine Wp.le (M_174 rfl h.1.lay) ?_
  unfold q_count
  by_cases e0 : x0 = ι 0
  · rw [if_pos e0, if_pos e0]
    rw [c86 h.1, bI_ret]; exact qC.r rfl h.rf
  rw [if_neg e0, if_neg e0]
  by_cases e1 : x0 = ι 1
  · rw [if_pos e1, if_pos e1]
    rw [c87 h.1, bI_ret]; exact qC.r rfl h.rf
  rw [if_neg e1, if_neg e1]
  by_cases e2 : x0 = ι 2
  · rw [if_pos e2, if_pos e2]
    rw [p69 (by decide) h.1.lay, bI_ret]; exact qC.r h.1.day h.rf
  rw [if_neg e2, if_neg e2]
  by_cases e3 : x0 = ι 3
  · rw [if_pos e3, if_pos e3]
    exact Wp.cI (c88 h.1) fun τ f => qC.r rfl (h.rf.sc f)
  rw [if_neg e3, if_neg e3]
  by_cases e4 : x0 = ι 4
  · rw [if_pos e4, if_pos e4]
    rw [c116 h.1, bI_ret]; exact qC.r rfl h.rf
  rw [if_neg e4, if_neg e4]
  by_cases e5 : x0 = ι 5
  · rw [if_pos e5, if_pos e5]
    rw [c118 h.1, bI_ret]; exact qC.r rfl h.rf
  rw [if_neg e5, if_neg e5]
  by_cases e6 : x0 = ι 6
  · rw [if_pos e6, if_pos e6]
    rw [c120 h.1, bI_ret]; exact qC.r rfl h.rf
  rw [if_neg e6, if_neg e6]
  by_cases e7 : x0 = ι 7
  · rw [if_pos e7, if_pos e7]
    rw [c121 h.1, bI_ret]
    by_cases e : cpl P (envN T A) = 0
    · have e2 : bz (decide (cpl P (envN T A) = 0)) = ι 1 := by simp [e, bz]
      rw [e2, if_neg (by decide)]; exact qC.r rfl h.rf
    · have e2 : bz (decide (cpl P (envN T A) = 0)) = ι 0 := by simp [e, bz]
      rw [e2, if_pos rfl]; exact qC.r rfl h.rf
  rw [if_neg e7, if_neg e7]
  by_cases e8 : x0 = ι 8
  · rw [if_pos e8, if_pos e8]
    rw [c122 h.1, bI_ret]; exact qC.r rfl h.rf
  rw [if_neg e8, if_neg e8]
  by_cases e9 : x0 = ι 9
  · rw [if_pos e9, if_pos e9]
    rw [c125 h.1, bI_ret]; exact qC.r rfl h.rf
  rw [if_neg e9, if_neg e9]
  by_cases e10 : x0 = ι 10
  · rw [if_pos e10, if_pos e10]
    rw [c92 h.1, bI_ret]; exact qC.r rfl h.rf
  rw [if_neg e10, if_neg e10]
  by_cases e11 : x0 = ι 11
  · rw [if_pos e11, if_pos e11]
    rw [k107 h.1.lay, bI_ret]; exact qC.r ha h.rf
  rw [if_neg e11, if_neg e11]
  by_cases e12 : x0 = ι 12
  · rw [if_pos e12, if_pos e12]
    rw [k111 h.1.lay, bI_ret]; exact qC.r hs h.rf
  rw [if_neg e12, if_neg e12]
  by_cases e13 : x0 = ι 13
  · rw [if_pos e13, if_pos e13]
    exact qC.r ht h.rf
  rw [if_neg e13, if_neg e13]
  by_cases e14 : x0 = ι 14
  · rw [if_pos e14, if_pos e14]
    rw [k112 h.1.lay (by omega), bI_ret]; exact qC.r (hst 0 (by omega)) h.rf
  rw [if_neg e14, if_neg e14]
  by_cases e15 : x0 = ι 15
  · rw [if_pos e15, if_pos e15]
    rw [k112 h.1.lay (by omega), bI_ret]; exact qC.r (hst 1 (by omega)) h.rf
  rw [if_neg e15, if_neg e15]
  by_cases e16 : x0 = ι 16
  · rw [if_pos e16, if_pos e16]
    rw [k112 h.1.lay (by omega), bI_ret]; exact qC.r (hst 2 (by omega)) h.rf
  rw [if_neg e16, if_neg e16]
  have ho := sw_out (x := x0) (k := 16) (by omega) (fun i hi => by
    rcases (by omega : i = 0 ∨ i = 1 ∨ i = 2 ∨ i = 3 ∨ i = 4 ∨ i = 5 ∨ i = 6 ∨ i = 7 ∨ i = 8 ∨ i = 9 ∨ i = 10 ∨ i = 11 ∨ i = 12 ∨ i = 13 ∨ i = 14 ∨ i = 15 ∨ i = 16) with rfl | rfl | rfl | rfl | rfl | rfl | rfl | rfl | rfl | rfl | rfl | rfl | rfl | rfl | rfl | rfl | rfl
    · exact e0
    · exact e1
    · exact e2
    · exact e3
    · exact e4
    · exact e5
    · exact e6
    · exact e7
    · exact e8
    · exact e9
    · exact e10
    · exact e11
    · exact e12
    · exact e13
    · exact e14
    · exact e15
    · exact e16
    )
  exact Wp.g ho qC.n
set_option maxHeartbeats 4000000 in
theorem n240 (h : CM P T W R A σ) {ka ks tn : Int32} {st : Nat → Int32} (ha : gI σ 61 32 = ka) (hs : gI σ 61 33 = ks) (ht : gI σ 61 15 = tn) (hst : ∀ i, i < 3 → gI σ 73 i = st i) : Wp (pcall 240 [.ref 61, .int x0] σ) (qM P T W R A σ (q_count P T W A ka ks tn st x0)) := by
  have hP := h.ok.P
  have hc : CM P T W R A (sC σ) := h.c0
  refine Wp.le (M_240 rfl h.lay) ?_
  unfold q_count
  by_cases e0 : x0 = ι 0
  · rw [if_pos e0, if_pos e0]
    rw [e0]; simp (disch := omega) only [ι_lt_t, ι_lt_f, ι_le_t, ι_le_f, ι_eq_f, ι_m1, ι_add, ι_mul, ι_pm, ι_sub, ix_ι, gd_inb, gd_t, eq_self, if_true, if_false, not_true_eq_false, not_false_eq_true, ite_self, ]; exact qM.r' hc.P hc QN.rf
  rw [if_neg e0, if_neg e0]
  by_cases e1 : x0 = ι 1
  · rw [if_pos e1, if_pos e1]
    rw [e1]; simp (disch := omega) only [ι_lt_t, ι_lt_f, ι_le_t, ι_le_f, ι_eq_f, ι_m1, ι_add, ι_mul, ι_pm, ι_sub, ix_ι, gd_inb, gd_t, eq_self, if_true, if_false, not_true_eq_false, not_false_eq_true, ite_self, ]; exact qM.r' hc.T hc QN.rf
  rw [if_neg e1, if_neg e1]
  by_cases e2 : x0 = ι 2
  · rw [if_pos e2, if_pos e2]
    exact qM.r' hc.day hc QN.rf
  rw [if_neg e2, if_neg e2]
  by_cases e3 : x0 = ι 3
  · rw [if_pos e3, if_pos e3]
    exact Wp.cI (m241 hc) fun τ f => qM.r' rfl (hc.sc f) (QN.rf.sc f)
  rw [if_neg e3, if_neg e3]
  by_cases e4 : x0 = ι 4
  · rw [if_pos e4, if_pos e4]
    have m := m250 hc (b := false)
    rw [bz_f] at m
    rw [m, bI_ret]; exact qM.r' rfl hc QN.rf
  rw [if_neg e4, if_neg e4]
  by_cases e5 : x0 = ι 5
  · rw [if_pos e5, if_pos e5]
    rw [if_pos (by rw [e5]; decide), m253n hc, bI_ret]; exact qM.r' rfl hc QN.rf
  rw [if_neg e5, if_neg e5]
  by_cases e6 : x0 = ι 6
  · rw [if_pos e6, if_pos e6]
    rw [if_neg (fun g => g e6), m253f hc, bI_ret]; exact qM.r' rfl hc QN.rf
  rw [if_neg e6, if_neg e6]
  by_cases e7 : x0 = ι 7
  · rw [if_pos e7, if_pos e7]
    have m := m250 hc (b := true)
    rw [bz_t] at m
    rw [m, bI_ret]
    show Wp (if ¬ ι (cpl P (envN T A)) = ι 0 then _ else _) _
    have hl := cpl_le (f := envN T A) hP
    by_cases e : cpl P (envN T A) = 0
    · rw [e, if_neg (fun g => g rfl)]; exact qM.r' (by simp [bz]) hc QN.rf
    · rw [if_pos (by rw [ι_eq (by omega) (by omega)]; exact e)]; exact qM.r' (by simp [e, bz]) hc QN.rf
  rw [if_neg e7, if_neg e7]
  by_cases e8 : x0 = ι 8
  · rw [if_pos e8, if_pos e8]
    rw [m255 hc, bI_ret]; exact qM.r' rfl hc QN.rf
  rw [if_neg e8, if_neg e8]
  by_cases e9 : x0 = ι 9
  · rw [if_pos e9, if_pos e9]
    rw [m257 hc, bI_ret]; exact qM.r' rfl hc QN.rf
  rw [if_neg e9, if_neg e9]
  by_cases e10 : x0 = ι 10
  · rw [if_pos e10, if_pos e10]
    rw [m258 hc, bI_ret]; exact qM.r' rfl hc QN.rf
  rw [if_neg e10, if_neg e10]
  by_cases e11 : x0 = ι 11
  · rw [if_pos e11, if_pos e11]
    exact qM.r' (by rw [gI_n (by decide)]; exact ha) hc QN.rf
  rw [if_neg e11, if_neg e11]
  by_cases e12 : x0 = ι 12
  · rw [if_pos e12, if_pos e12]
    exact qM.r' (by rw [gI_n (by decide)]; exact hs) hc QN.rf
  rw [if_neg e12, if_neg e12]
  by_cases e13 : x0 = ι 13
  · rw [if_pos e13, if_pos e13]
    exact qM.r' (by rw [gI_n (by decide)]; exact ht) hc QN.rf
  rw [if_neg e13, if_neg e13]
  by_cases e14 : x0 = ι 14
  · rw [if_pos e14, if_pos e14]
    rw [e14]; simp (disch := omega) only [ι_lt_t, ι_lt_f, ι_le_t, ι_le_f, ι_eq_f, ι_m1, ι_add, ι_mul, ι_pm, ι_sub, ix_ι, gd_inb, gd_t, eq_self, if_true, if_false, not_true_eq_false, not_false_eq_true, ite_self, ]; exact qM.r' (by rw [gI_c (by decide)]; exact hst 0 (by omega)) hc QN.rf
  rw [if_neg e14, if_neg e14]
  by_cases e15 : x0 = ι 15
  · rw [if_pos e15, if_pos e15]
    rw [e15]; simp (disch := omega) only [ι_lt_t, ι_lt_f, ι_le_t, ι_le_f, ι_eq_f, ι_m1, ι_add, ι_mul, ι_pm, ι_sub, ix_ι, gd_inb, gd_t, eq_self, if_true, if_false, not_true_eq_false, not_false_eq_true, ite_self, ]; exact qM.r' (by rw [gI_c (by decide)]; exact hst 1 (by omega)) hc QN.rf
  rw [if_neg e15, if_neg e15]
  by_cases e16 : x0 = ι 16
  · rw [if_pos e16, if_pos e16]
    rw [e16]; simp (disch := omega) only [ι_lt_t, ι_lt_f, ι_le_t, ι_le_f, ι_eq_f, ι_m1, ι_add, ι_mul, ι_pm, ι_sub, ix_ι, gd_inb, gd_t, eq_self, if_true, if_false, not_true_eq_false, not_false_eq_true, ite_self, ]; exact qM.r' (by rw [gI_c (by decide)]; exact hst 2 (by omega)) hc QN.rf
  rw [if_neg e16, if_neg e16]
  have ho := sw_out (x := x0) (k := 16) (by omega) (fun i hi => by
    rcases (by omega : i = 0 ∨ i = 1 ∨ i = 2 ∨ i = 3 ∨ i = 4 ∨ i = 5 ∨ i = 6 ∨ i = 7 ∨ i = 8 ∨ i = 9 ∨ i = 10 ∨ i = 11 ∨ i = 12 ∨ i = 13 ∨ i = 14 ∨ i = 15 ∨ i = 16) with rfl | rfl | rfl | rfl | rfl | rfl | rfl | rfl | rfl | rfl | rfl | rfl | rfl | rfl | rfl | rfl | rfl
    · exact e0
    · exact e1
    · exact e2
    · exact e3
    · exact e4
    · exact e5
    · exact e6
    · exact e7
    · exact e8
    · exact e9
    · exact e10
    · exact e11
    · exact e12
    · exact e13
    · exact e14
    · exact e15
    · exact e16
    )
  exact Wp.g ho (qM.f (by omega) h)
def q_look (P T : Nat) (A : Wd) (x0 x1 x2 : Int32) : Nat × Int32 := if inb' P x0 = true then if inb' T x1 = true then if btw (ι 0) (ι 1) x2 = true then (0, if x2 = ι 0 then A 4 (12 * ix x0 + ix x1) else lookS A (ix x0) (ix x1)) else (1, ι 0) else (1, ι 0) else (1, ι 0)
theorem q179 (h : CN P T W R A σ q) : Wp (pcall 179 [.ref 0, .int x0, .int x1, .int x2] σ) (qC σ (q_look P T A x0 x1 x2)) := by
  have hT := h.1.1.T; have hP := h.1.1.P
  refine Wp.le (M_179 rfl h.1.lay) ?_
  unfold q_look
  rw [k176 h.1]
  by_cases e0 : inb' P x0 = true
  · obtain ⟨p, hp, rfl⟩ := inb'_t (by omega) e0
    rw [if_pos e0, bV_ret, if_pos e0, k178 h.1]
    by_cases e1 : inb' T x1 = true
    · obtain ⟨t, ht, rfl⟩ := inb'_t (by omega) e1
      rw [if_pos e1, bV_ret, if_pos e1, k180 h.1.lay]
      by_cases e2 : btw (ι 0) (ι 1) x2 = true
      · rw [if_pos e2, bV_ret, if_pos e2, ix_ι (by omega), ix_ι (by omega)]
        by_cases z : x2 = ι 0
        · rw [if_neg (fun g => g z), if_pos z, c74 h.1 hp ht, bI_ret]; exact qC.r rfl h.rf
        · rw [if_pos z, if_neg z, c73 h.1 hp ht, bI_ret]; exact qC.r rfl h.rf
      · rw [if_neg e2, bV_3, if_neg e2]; exact qC.n
    · rw [if_neg e1, bV_3, if_neg e1]; exact qC.n
  · rw [if_neg e0, bV_3, if_neg e0]; exact qC.n
theorem n267 (h : CM P T W R A σ) : Wp (pcall 267 [.ref 61, .int x0, .int x1, .int x2] σ) (qM P T W R A σ (q_look P T A x0 x1 x2)) := by
  have hT := h.ok.T; have hP := h.ok.P
  have hc : CM P T W R A (sC σ) := h.c0
  refine Wp.le (M_267 rfl h.lay) ?_
  unfold q_look
  rw [m260 hc.lay hc.P hP, bI_ret]
  by_cases e0 : inb' P x0 = true
  · obtain ⟨p, hp, rfl⟩ := inb'_t (by omega) e0
    rw [e0, bz_t, if_neg (by decide), if_pos rfl, m264 hc.lay hc.T hT, bI_ret]
    by_cases e1 : inb' T x1 = true
    · obtain ⟨t, ht, rfl⟩ := inb'_t (by omega) e1
      rw [e1, bz_t, if_neg (by decide), if_pos rfl, j0, j1, p261b hc.lay, bI_ret]
      by_cases e2 : btw (ι 0) (ι 1) x2 = true
      · rw [e2, bz_t, if_pos (by decide), if_pos rfl, ix_ι (by omega), ix_ι (by omega)]
        by_cases z : x2 = ι 0
        · rw [if_neg (fun g => g z), if_pos z, m245 hc hp ht, bI_ret]; exact qM.r' rfl hc QN.rf
        · rw [if_pos z, if_neg z, m244 hc hp ht, bI_ret]; exact qM.r' rfl hc QN.rf
      · have e2' : btw (ι 0) (ι 1) x2 = false := by simpa using e2
        rw [e2', bz_f, if_neg (fun g => g rfl), if_neg (by decide)]; exact qM.f (by omega) h
    · have e1' : inb' T x1 = false := by simpa using e1
      rw [e1', bz_f, if_pos rfl, if_neg (by decide)]; exact qM.f (by omega) h
  · have e0' : inb' P x0 = false := by simpa using e0
    rw [e0', bz_f, if_pos rfl, if_neg (by decide)]; exact qM.f (by omega) h
end NOW
