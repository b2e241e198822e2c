/-! ===== the class: checks, and what comes if only days go by ===== -/
section ASKS2
variable {P T : Nat} {W R : Rl} {A B : Wd} {σ τ υ σ0 : pS} {q : Nat} {x0 x1 x2 : Int32}
theorem btw_ι {a b : Nat} (ha : a < 1000) (hb : b < 1000) {x : Int32} (h : btw (ι a) (ι b) x = true) : ∃ k, a ≤ k ∧ k ≤ b ∧ x = ι k := by
  obtain ⟨h1, h2⟩ := of_decide_eq_true h
  have h0 : ¬ x < ι 0 := fun g => h1 (Int32.lt_of_lt_of_le g (by rw [ι_le_t (by omega) (by omega)]; trivial))
  have h3 : x < ι (b + 1) := Int32.lt_of_le_of_lt (Int32.not_lt.mp h2) (by rw [ι_lt_t (by omega) (by omega)]; trivial)
  obtain ⟨k, hk, rfl⟩ := ι_of h0 h3 (by omega)
  refine ⟨k, ?_, by omega, rfl⟩
  by_cases e : a ≤ k
  · exact e
  · exact absurd (show ι k < ι a by rw [ι_lt_t (by omega) (by omega)]; trivial) h1
theorem k176 (h : CW P T W R A σ 25 q) (x : Int32) : pcall 176 [.ref 0, .int x] σ = if inb' P x = true then some (0, .null, σ) else some (3, .null, sX σ) := by
  by_cases e : inb' P x = true
  · rw [if_pos e]
    refine (M_176 rfl h.lay).eq ?_
    obtain ⟨h1, h2⟩ := of_decide_eq_true e
    rw [c86 h, bI_ret, if_neg h1, if_pos h2]
  · rw [if_neg e]
    refine (M_176 rfl h.lay).eq ?_
    rw [c86 h, bI_ret]
    by_cases h1 : x < ι 0
    · rw [if_pos h1]
    · rw [if_neg h1, if_neg (fun h2 => e (decide_eq_true ⟨h1, h2⟩))]
theorem k178 (h : CW P T W R A σ 25 q) (x : Int32) : pcall 178 [.ref 0, .int x] σ = if inb' T x = true then some (0, .null, σ) else some (3, .null, sX σ) := by
  by_cases e : inb' T x = true
  · rw [if_pos e]
    refine (M_178 rfl h.lay).eq ?_
    obtain ⟨h1, h2⟩ := of_decide_eq_true e
    rw [c87 h, bI_ret, if_neg h1, if_pos h2]
  · rw [if_neg e]
    refine (M_178 rfl h.lay).eq ?_
    rw [c87 h, bI_ret]
    by_cases h1 : x < ι 0
    · rw [if_pos h1]
    · rw [if_neg h1, if_neg (fun h2 => e (decide_eq_true ⟨h1, h2⟩))]
theorem k180 (hL : LayR (gR σ)) (x m : Int32) : pcall 180 [.int x, .int m] σ = if btw (ι 0) m x = true then some (0, .null, σ) else some (3, .null, sX σ) := by
  by_cases e : btw (ι 0) m x = true
  · rw [if_pos e]
    refine (M_180 rfl hL).eq ?_
    obtain ⟨h1, h2⟩ := of_decide_eq_true e
    rw [if_neg h1, if_pos (Int32.not_lt.mp h2)]
  · rw [if_neg e]
    refine (M_180 rfl hL).eq ?_
    by_cases h1 : x < ι 0
    · rw [if_pos h1]
    · rw [if_neg h1, if_neg (fun h2 => e (decide_eq_true ⟨h1, Int32.not_lt.mpr h2⟩))]
theorem k188 (hL : LayR (gR σ)) (x a m : Int32) : pcall 188 [.int x, .int a, .int m] σ = if btw a m x = true then some (0, .null, σ) else some (2, .null, sX σ) := by
  by_cases e : btw (a) m x = true
  · rw [if_pos e]
    refine (M_188 rfl hL).eq ?_
    obtain ⟨h1, h2⟩ := of_decide_eq_true e
    rw [if_neg h1, if_pos (Int32.not_lt.mp h2)]
  · rw [if_neg e]
    refine (M_188 rfl hL).eq ?_
    by_cases h1 : x < a
    · rw [if_pos h1]
    · rw [if_neg h1, if_neg (fun h2 => e (decide_eq_true ⟨h1, Int32.not_lt.mpr h2⟩))]
/-- what a question comes to in the class: an answer, or one of two exceptions -/
def qC (σ : pS) (r : Nat × Int32) (z : pZ) : Prop := (r.1 = 0 ∧ RI r.2 (CQ σ) z) ∨ (r.1 = 1 ∧ z = (3, .null, sX σ)) ∨ (r.1 = 2 ∧ z = (2, .null, sX σ))
theorem qC.a {v : Int32} {d : Option pZ} (h : Wp d (RI v (CQ σ))) : Wp d (qC σ (0, v)) := h.mono fun z hz => Or.inl ⟨rfl, hz⟩
theorem qC.r {v w : Int32} (e : v = w) (h : CQ σ τ) : Wp (some (1, .int v, τ)) (qC σ (0, w)) := by subst e; exact qC.a (Wp.retI h)
theorem qC.n {v : Int32} : Wp (some (3, .null, sX σ)) (qC σ (1, v)) := .ret (Or.inr (Or.inl ⟨rfl, rfl⟩))
theorem qC.i {v : Int32} : Wp (some (2, .null, sX σ)) (qC σ (2, v)) := .ret (Or.inr (Or.inr ⟨rfl, rfl⟩))
theorem bV_3 {f : pS → Option pZ} : bV (some (3, .null, σ)) f = some (3, .null, σ) := rfl
theorem bV_2 {f : pS → Option pZ} : bV (some (2, .null, σ)) f = some (2, .null, σ) := rfl
abbrev bhd (P T : Nat) (W R : Rl) (A : Wd) (n : Nat) : Wd × (Nat → Int32) := gof P T W R n (A, fun _ => ι 0)
/-- then -/
def q_then (P T : Nat) (W R : Rl) (A : Wd) (x0 x1 x2 : Int32) : Nat × Int32 :=
  if inb' T x0 = true then if btw (ι 0) (ι 2) x2 = true then if btw (ι 0) (ι 60) x1 = true then
    (0, if x2 = ι 0 then (bhd P T W R A (ix x1)).1 1 (ix x0) else if x2 = ι 1 then (bhd P T W R A (ix x1)).1 2 (ix x0) else cntS P T W (bhd P T W R A (ix x1)).1 (ix x0))
    else (2, ι 0) else (1, ι 0) else (1, ι 0)
theorem wb_pc (hP : P ≤ 8) (B : Wd) (t : Nat) : ∃ m, m < 4096 ∧ wbS P T W B t = ι m ∧ ι (pc m) = cntS P T W B t := by
  refine ⟨mk (fun p => wantsS T W B p t) P, ?_, wb_mk hP, ?_⟩
  · have := mk_lt (fun p => wantsS T W B p t) P
    have h2 : 2 ^ P ≤ 2 ^ 8 := Nat.pow_le_pow_right (by omega) hP
    omega
  · rw [mk_pc (by omega)]; rfl
theorem q187 (h : CN P T W R A σ q) : Wp (pcall 187 [.ref 0, .int x0, .int x1, .int x2] σ) (qC σ (q_then P T W R A x0 x1 x2)) := by
  have hT := h.1.1.T; have hP := h.1.1.P
  refine Wp.le (M_187 rfl h.1.lay) ?_
  unfold q_then
  rw [k178 h.1]
  by_cases e0 : inb' T x0 = true
  · obtain ⟨t, ht, rfl⟩ := inb'_t (by omega) e0
    rw [if_pos e0, bV_ret, if_pos e0, k180 h.1.lay]
    by_cases e2 : btw (ι 0) (ι 2) x2 = true
    · rw [if_pos e2, bV_ret, if_pos e2, k188 h.1.lay]
      by_cases e1 : btw (ι 0) (ι 60) x1 = true
      · obtain ⟨n, _, hn, rfl⟩ := btw_ι (by omega) (by omega) e1
        rw [if_pos e1, bV_ret, if_pos e1, ix_ι (by omega), ix_ι (by omega)]
        refine Wp.cA (a135 h h.rf (by omega)) fun τ s => ?_
        refine Wp.g (by decide) (Wp.g s.lay ?_)
        by_cases z0 : x2 = ι 0
        · rw [if_neg (fun g => g z0), if_pos z0, c75 s.2.1 ht, bI_ret]; exact qC.r rfl s.cq
        · rw [if_pos z0, if_neg z0]
          by_cases z1 : x2 = ι 1
          · rw [if_neg (fun g => g z1), if_pos z1, c76 s.2.1 ht, bI_ret]; exact qC.r rfl s.cq
          · rw [if_pos z1, if_neg z1]
            refine Wp.cI (c89 s.2.1 ht) fun υ f => ?_
            have s' := s.sc f
            obtain ⟨m, hm, w1, w2⟩ := wb_pc (T := T) (W := W) hP (bhd P T W R A n).1 t
            rw [show wbS P T W (gof P T W R n (A, fun _ => ι 0)).1 t = ι m from w1, p0 s'.lay hm, bI_ret]
            exact qC.r w2 s'.cq
      · rw [if_neg e1, bV_2, if_neg e1]; exact qC.i
    · rw [if_neg e2, bV_3, if_neg e2]; exact qC.n
  · rw [if_neg e0, bV_3, if_neg e0]; exact qC.n
/-- has -/
def q_has (P T : Nat) (W R : Rl) (A : Wd) (x0 x1 x2 : Int32) : Nat × Int32 :=
  if inb' P x0 = true then if btw (ι 0) (ι 1) x2 = true then if btw (ι 0) (ι 60) x1 = true then
    (0, if x2 = ι 0 then howS T (bhd P T W R A (ix x1)).1 x0 else welS T (bhd P T W R A (ix x1)).1 (ix x0))
    else (2, ι 0) else (1, ι 0) else (1, ι 0)
theorem q189 (h : CN P T W R A σ q) : Wp (pcall 189 [.ref 0, .int x0, .int x1, .int x2] σ) (qC σ (q_has P T W R A x0 x1 x2)) := by
  have hT := h.1.1.T; have hP := h.1.1.P
  refine Wp.le (M_189 rfl h.1.lay) ?_
  unfold q_has
  rw [k176 h.1]
  by_cases e0 : inb' P x0 = true
  · obtain ⟨p, hp, rfl⟩ := inb'_t (by omega) e0
    rw [if_pos e0, bV_ret, if_pos e0, k180 h.1.lay]
    by_cases e2 : btw (ι 0) (ι 1) x2 = true
    · rw [if_pos e2, bV_ret, if_pos e2, k188 h.1.lay]
      by_cases e1 : btw (ι 0) (ι 60) x1 = true
      · obtain ⟨n, _, hn, rfl⟩ := btw_ι (by omega) (by omega) e1
        rw [if_pos e1, bV_ret, if_pos e1, ix_ι (by omega), ix_ι (by omega)]
        refine Wp.cA (a135 h h.rf (by omega)) fun τ s => ?_
        refine Wp.g (by decide) (Wp.g s.lay ?_)
        by_cases z0 : x2 = ι 0
        · obtain ⟨m, hm, w1, w2⟩ := how_pc (A := (bhd P T W R A n).1) hT (ι p)
          rw [if_neg (fun g => g z0), if_pos z0, c93 s.2.1, bI_ret, show thgS T (gof P T W R n (A, fun _ => ι 0)).1 (ι p) = ι m from w1, p0 s.lay hm, bI_ret]
          exact qC.r w2 s.cq
        · rw [if_pos z0, if_neg z0, c90 s.2.1 hp, bI_ret]; exact qC.r rfl s.cq
      · rw [if_neg e1, bV_2, if_neg e1]; exact qC.i
    · rw [if_neg e2, bV_3, if_neg e2]; exact qC.n
  · rw [if_neg e0, bV_3, if_neg e0]; exact qC.n
/-- kept -/
def q_kept (P T : Nat) (W R : Rl) (A : Wd) (x0 : Int32) : Nat × Int32 := if inb' T x0 = true then (0, takIn P T W R A (ix x0)) else (1, ι 0)
theorem q190 (h : CN P T W R A σ q) : Wp (pcall 190 [.ref 0, .int x0] σ) (qC σ (q_kept P T W R A x0)) := by
  have hT := h.1.1.T
  refine Wp.le (M_190 rfl h.1.lay) ?_
  unfold q_kept
  rw [k178 h.1]
  by_cases e0 : inb' T x0 = true
  · obtain ⟨t, ht, rfl⟩ := inb'_t (by omega) e0
    rw [if_pos e0, bV_ret, if_pos e0, ix_ι (by omega)]
    refine Wp.cI (a137 h h.rf ht) fun τ f => ?_
    exact Wp.g (h.cq f).1.lay (qC.r rfl f)
  · rw [if_neg e0, bV_3, if_neg e0]; exact qC.n
/-- held -/
def q_held (P T : Nat) (W R : Rl) (A : Wd) (x0 x1 x2 : Int32) : Nat × Int32 :=
  if inb' P x0 = true then if inb' T x1 = true then if btw (ι 1) (ι 60) x2 = true then
    (0, fd (fun d s => s + if (bhd P T W R A (d + 1)).1 1 (ix x1) = x0 then ι 1 else ι 0) (ix x2) (ι 0))
    else (2, ι 0) else (1, ι 0) else (1, ι 0)
theorem q191 (h : CN P T W R A σ q) : Wp (pcall 191 [.ref 0, .int x0, .int x1, .int x2] σ) (qC σ (q_held P T W R A x0 x1 x2)) := by
  have hT := h.1.1.T; have hP := h.1.1.P
  refine Wp.le (M_191 rfl h.1.lay) ?_
  unfold q_held
  rw [k176 h.1]
  by_cases e0 : inb' P x0 = true
  · obtain ⟨p, hp, rfl⟩ := inb'_t (by omega) e0
    rw [if_pos e0, bV_ret, if_pos e0, k178 h.1]
    by_cases e2 : inb' T x1 = true
    · obtain ⟨t, ht, rfl⟩ := inb'_t (by omega) e2
      rw [if_pos e2, bV_ret, if_pos e2, k188 h.1.lay]
      by_cases e1 : btw (ι 1) (ι 60) x2 = true
      · obtain ⟨n, _, hn, rfl⟩ := btw_ι (by omega) (by omega) e1
        rw [if_pos e1, bV_ret, if_pos e1, ix_ι (by omega), ix_ι (by omega)]
        refine Wp.cI (a139 h h.rf ht (by omega)) fun τ f => ?_
        exact Wp.g (h.cq f).1.lay (qC.r rfl f)
      · rw [if_neg e1, bV_2, if_neg e1]; exact qC.i
    · rw [if_neg e2, bV_3, if_neg e2]; exact qC.n
  · rw [if_neg e0, bV_3, if_neg e0]; exact qC.n
/-- taken -/
def q_taken (P T : Nat) (W R : Rl) (A : Wd) (x0 x1 : Int32) : Nat × Int32 :=
  if inb' T x0 = true then if btw (ι 0) (ι 60) x1 = true then (0, (bhd P T W R A (ix x1)).2 (ix x0)) else (2, ι 0) else (1, ι 0)
theorem q192 (h : CN P T W R A σ q) : Wp (pcall 192 [.ref 0, .int x0, .int x1] σ) (qC σ (q_taken P T W R A x0 x1)) := by
  have hT := h.1.1.T; have hP := h.1.1.P
  refine Wp.le (M_192 rfl h.1.lay) ?_
  unfold q_taken
  rw [k178 h.1]
  by_cases e0 : inb' T x0 = true
  · obtain ⟨t, ht, rfl⟩ := inb'_t (by omega) e0
    rw [if_pos e0, bV_ret, if_pos e0, k188 h.1.lay]
    by_cases e1 : btw (ι 0) (ι 60) x1 = true
    · obtain ⟨n, _, hn, rfl⟩ := btw_ι (by omega) (by omega) e1
      rw [if_pos e1, bV_ret, if_pos e1, ix_ι (by omega), ix_ι (by omega)]
      refine Wp.cA (a135 h h.rf (by omega)) fun τ s => ?_
      refine Wp.g (by decide) (Wp.g s.lay ?_)
      rw [p97 (by decide) s.lay (by omega), bI_ret]
      exact qC.r (s.2.2.2.2 t ht) s.cq
    · rw [if_neg e1, bV_2, if_neg e1]; exact qC.i
  · rw [if_neg e0, bV_3, if_neg e0]; exact qC.n
theorem most_congr {n : Nat} {f g : Nat → Int32} (h : ∀ j, j < n → f j = g j) : mostF n f = mostF n g := fd_congr (fun t a ht => by rw [h t ht]) _
theorem sum_congr {n : Nat} {f g : Nat → Int32} (h : ∀ j, j < n → f j = g j) : fd (fun t s => s + f t) n (ι 0) = fd (fun t s => s + g t) n (ι 0) := fd_congr (fun t a ht => by rw [h t ht]) _
/-- later -/
def q_later (P T : Nat) (W R : Rl) (A : Wd) (x0 x1 : Int32) : Nat × Int32 :=
  if btw (ι 0) (ι 3) x1 = true then if btw (ι 0) (ι 60) x0 = true then
    (0, if x1 = ι 0 then fd (fun t s => s + (bhd P T W R A (ix x0)).2 t) T (ι 0) else if x1 = ι 1 then (mostF T (bhd P T W R A (ix x0)).2).1 else if x1 = ι 2 then (richS P T (bhd P T W R A (ix x0)).1).1 else nothS P T (bhd P T W R A (ix x0)).1)
    else (2, ι 0) else (1, ι 0)
theorem q193 (h : CN P T W R A σ q) : Wp (pcall 193 [.ref 0, .int x0, .int x1] σ) (qC σ (q_later P T W R A x0 x1)) := by
  have hT := h.1.1.T; have hP := h.1.1.P
  refine Wp.le (M_193 rfl h.1.lay) ?_
  unfold q_later
  rw [k180 h.1.lay]
  by_cases e2 : btw (ι 0) (ι 3) x1 = true
  · rw [if_pos e2, bV_ret, if_pos e2, k188 h.1.lay]
    by_cases e1 : btw (ι 0) (ι 60) x0 = true
    · obtain ⟨n, _, hn, rfl⟩ := btw_ι (by omega) (by omega) e1
      rw [if_pos e1, bV_ret, if_pos e1, ix_ι (by omega)]
      refine Wp.cA (a135 h h.rf (by omega)) fun τ s => ?_
      refine Wp.g (by decide) (Wp.g s.lay ?_)
      obtain ⟨k, _, hk, rfl⟩ := btw_ι (by omega) (by omega) e2
      rcases (by omega : k = 0 ∨ k = 1 ∨ k = 2 ∨ k = 3) with rfl | rfl | rfl | rfl
      · rw [if_pos rfl, if_pos rfl, c98 s.2.1, bI_ret]; exact qC.r (sum_congr s.2.2.2.2) s.cq
      · rw [if_neg (by decide), if_pos rfl, if_neg (by decide), if_pos rfl, c99 s.2.1, bI_ret]
        exact qC.r (by rw [show mostF T (gI τ (47 + 5)) = mostF T (bhd P T W R A n).2 from most_congr s.2.2.2.2]) s.cq
      · rw [if_neg (by decide), if_neg (by decide), if_pos rfl, if_neg (by decide), if_neg (by decide), if_pos rfl, c100 s.2.1, bI_ret]; exact qC.r rfl s.cq
      · rw [if_neg (by decide), if_neg (by decide), if_neg (by decide), if_neg (by decide), if_neg (by decide), if_neg (by decide)]
        refine Wp.g (by decide) ?_
        rw [c101 s.2.1, bI_ret]; exact qC.r rfl s.cq
    · rw [if_neg e1, bV_2, if_neg e1]; exact qC.i
  · rw [if_neg e2, bV_3, if_neg e2]; exact qC.n
/-- rests -/
def q_rests (P T : Nat) (W R : Rl) (A : Wd) (x0 : Int32) : Nat × Int32 :=
  if btw (ι 0) (ι 1) x0 = true then (0, if x0 = ι 0 then (if calmS P T W R A 60 = 60 then ν 1 else ι (calmS P T W R A 60)) else rouS P T W R A 60 1 false) else (1, ι 0)
theorem q194 (h : CN P T W R A σ q) : Wp (pcall 194 [.ref 0, .int x0] σ) (qC σ (q_rests P T W R A x0)) := by
  refine Wp.le (M_194 rfl h.1.lay) ?_
  unfold q_rests
  rw [k180 h.1.lay]
  by_cases e2 : btw (ι 0) (ι 1) x0 = true
  · rw [if_pos e2, bV_ret, if_pos e2]
    by_cases z0 : x0 = ι 0
    · rw [if_neg (fun g => g z0), if_pos z0]
      refine Wp.cI (a140 h h.rf) fun τ f => ?_
      exact Wp.g (h.cq f).1.lay (qC.r rfl f)
    · rw [if_pos z0, if_neg z0]
      refine Wp.cI (a141 h h.rf) fun τ f => ?_
      exact Wp.g (h.cq f).1.lay (qC.r rfl f)
  · rw [if_neg e2, bV_3, if_neg e2]; exact qC.n
/-- toAsk -/
def q_toAsk (P T : Nat) (W R : Rl) (A : Wd) (x0 x1 : Int32) : Nat × Int32 :=
  if inb' P x0 = true then if btw (ι 1) (ι 60) x1 = true then (0, (askS P T W R A (ix x0) (ix x1)).1) else (2, ι 0) else (1, ι 0)
theorem q199 (h : CN P T W R A σ q) : Wp (pcall 199 [.ref 0, .int x0, .int x1] σ) (qC σ (q_toAsk P T W R A x0 x1)) := by
  have hT := h.1.1.T; have hP := h.1.1.P
  refine Wp.le (M_199 rfl h.1.lay) ?_
  unfold q_toAsk
  rw [k176 h.1]
  by_cases e0 : inb' P x0 = true
  · obtain ⟨p, hp, rfl⟩ := inb'_t (by omega) e0
    rw [if_pos e0, bV_ret, if_pos e0, k188 h.1.lay]
    by_cases e1 : btw (ι 1) (ι 60) x1 = true
    · obtain ⟨n, _, hn, rfl⟩ := btw_ι (by omega) (by omega) e1
      rw [if_pos e1, bV_ret, if_pos e1, ix_ι (by omega), ix_ι (by omega)]
      refine Wp.cI (a142 h h.rf hp (by omega)) fun τ f => ?_
      exact Wp.g (h.cq f).1.lay (qC.r rfl f)
    · rw [if_neg e1, bV_2, if_neg e1]; exact qC.i
  · rw [if_neg e0, bV_3, if_neg e0]; exact qC.n
/-- toGive -/
def q_toGive (P T : Nat) (W R : Rl) (A : Wd) (x0 : Int32) : Nat × Int32 := if inb' T x0 = true then (0, (givS P T W R A (ix x0)).1) else (1, ι 0)
theorem q200 (h : CN P T W R A σ q) : Wp (pcall 200 [.ref 0, .int x0] σ) (qC σ (q_toGive P T W R A x0)) := by
  have hT := h.1.1.T
  refine Wp.le (M_200 rfl h.1.lay) ?_
  unfold q_toGive
  rw [k178 h.1]
  by_cases e0 : inb' T x0 = true
  · obtain ⟨t, ht, rfl⟩ := inb'_t (by omega) e0
    rw [if_pos e0, bV_ret, if_pos e0, ix_ι (by omega)]
    refine Wp.cI (a143 h h.rf ht) fun τ f => ?_
    exact Wp.g (h.cq f).1.lay (qC.r rfl f)
  · rw [if_neg e0, bV_3, if_neg e0]; exact qC.n
/-- shy -/
def q_shy (P T : Nat) (W R : Rl) (A : Wd) (x0 x1 x2 : Int32) : Nat × Int32 :=
  if inb' T x0 = true then if btw (ι 1) (ι 5) x1 = true then if btw (ι 0) (ι 10) x2 = true then (0, shyS P T W R A (ix x0) (ix x1) (ix x2)) else (2, ι 0) else (2, ι 0) else (1, ι 0)
theorem q204 (h : CN P T W R A σ q) : Wp (pcall 204 [.ref 0, .int x0, .int x1, .int x2] σ) (qC σ (q_shy P T W R A x0 x1 x2)) := by
  have hT := h.1.1.T; have hP := h.1.1.P
  refine Wp.le (M_204 rfl h.1.lay) ?_
  unfold q_shy
  rw [k178 h.1]
  by_cases e0 : inb' T x0 = true
  · obtain ⟨t, ht, rfl⟩ := inb'_t (by omega) e0
    rw [if_pos e0, bV_ret, if_pos e0, k188 h.1.lay]
    by_cases e1 : btw (ι 1) (ι 5) x1 = true
    · obtain ⟨n, _, hn, rfl⟩ := btw_ι (by omega) (by omega) e1
      rw [if_pos e1, bV_ret, if_pos e1, k188 h.1.lay]
      by_cases e2 : btw (ι 0) (ι 10) x2 = true
      · obtain ⟨v, _, hv, rfl⟩ := btw_ι (by omega) (by omega) e2
        rw [if_pos e2, bV_ret, if_pos e2, ix_ι (by omega), ix_ι (by omega), ix_ι (by omega)]
        refine Wp.cI (a144 h h.rf ht hn hv) fun τ f => ?_
        exact Wp.g (h.cq f).1.lay (qC.r rfl f)
      · rw [if_neg e2, bV_2, if_neg e2]; exact qC.i
    · rw [if_neg e1, bV_2, if_neg e1]; exact qC.i
  · rw [if_neg e0, bV_3, if_neg e0]; exact qC.n
end ASKS2
