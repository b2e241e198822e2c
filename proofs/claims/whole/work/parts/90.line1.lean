/-! ===== lines: a person, a thing, a hedge ===== -/
section LINE1
variable {σ τ υ σ0 μ ν0 μ0 : pS} {a n k b e i j c w q pl v : Nat} {x : Nat → Nat} {tk : Nat × Nat × Nat} {g f : Bool} {L : Rl} {s y : Int32} {d : Dx} {z : Zx}
/-- one cell of a world set -/
def uq (A : Wd) (a i : Nat) (y : Int32) : Wd := fun b j => if b = a ∧ j = i then y else A b j
theorem uq_s {A : Wd} {a i : Nat} : uq A a i y a i = y := if_pos ⟨rfl, rfl⟩
theorem uq_n {A : Wd} {a i j : Nat} (h : j ≠ i) : uq A a i y a j = A a j := if_neg (fun g => h g.2)
theorem uq_c {A : Wd} {a b i j : Nat} (h : b ≠ a) : uq A a i y b j = A b j := if_neg (fun g => h g.1)
/-- a person more -/
def dP (d : Dx) (v : Nat) : Dx := ((d.1.1 + 1, d.1.2.1, d.1.2.2), uq (uq d.2.1 6 d.1.1 (ι v)) 3 d.1.1 (ι 0), d.2.2)
theorem DC.ap (h : DC d q σ) (h8 : d.1.1 < 8) (h0 : d.1.2.1 = 0) : DC (dP d v) q (sI (sI σ (q + 1) d.1.1 (ι v)) q 0 (ι (d.1.1 + 1))) := by
  refine ⟨?_, ?_, ?_, fun i hi => ?_, fun i hi => ?_, fun i h1 h2 => ?_, fun i hi => ?_, fun i h1 h2 => ?_, fun i hi => ?_, fun i hi j hj => ?_, ?_, ?_⟩ <;> dsimp only [dP] at *
  · simp (disch := omega) only [gI_s, gI_n, gI_c, uq_s, uq_n, uq_c]
  · simp (disch := omega) only [gI_s, gI_n, gI_c, uq_s, uq_n, uq_c]; exact h.tt
  · simp (disch := omega) only [gI_s, gI_n, gI_c, uq_s, uq_n, uq_c]; exact h.hh
  · by_cases e : i = d.1.1
    · subst e; simp (disch := omega) only [gI_s, gI_n, gI_c, uq_s, uq_n, uq_c]
    · simp (disch := omega) only [gI_s, gI_n, gI_c, uq_s, uq_n, uq_c]; exact h.bo i (by omega)
  · omega
  · simp (disch := omega) only [gI_s, gI_n, gI_c, uq_s, uq_n, uq_c]; exact h.f0 i h1 h2
  · by_cases e : i = d.1.1
    · subst e; simp (disch := omega) only [gI_s, gI_n, gI_c, uq_s, uq_n, uq_c]; exact h.h0 _ (Nat.le_refl _) h8
    · simp (disch := omega) only [gI_s, gI_n, gI_c, uq_s, uq_n, uq_c]; exact h.hg i (by omega)
  · simp (disch := omega) only [gI_s, gI_n, gI_c, uq_s, uq_n, uq_c]; exact h.h0 i (by omega) h2
  · omega
  · omega
  · exact h.wr.fr (fun i => by simp (disch := omega) only [gI_s, gI_n, gI_c, uq_s, uq_n, uq_c]) (fun i => by simp (disch := omega) only [gI_s, gI_n, gI_c, uq_s, uq_n, uq_c])
  · exact h.rr.fr (fun i => by simp (disch := omega) only [gI_s, gI_n, gI_c, uq_s, uq_n, uq_c]) (fun i => by simp (disch := omega) only [gI_s, gI_n, gI_c, uq_s, uq_n, uq_c])
theorem DM.ap (h : DM d σ) (h0 : d.1.2.1 = 0) : DM (dP d v) (sI (sI (sI σ 66 (8 + d.1.1) (ι v)) 70 (8 + d.1.1) (ι 0)) 65 5 (ι (d.1.1 + 1))) := by
  refine ⟨?_, ?_, ?_, ?_, ?_, fun i hi => ?_, fun i hi => ?_, fun i hi => ?_, fun i hi => ?_, fun i hi j hj => ?_, fun i hi => ?_, fun i hi => ?_⟩ <;> dsimp only [dP] at *
  · simp (disch := omega) only [gI_s, gI_n, gI_c, uq_s, uq_n, uq_c]
  · simp (disch := omega) only [gI_s, gI_n, gI_c, uq_s, uq_n, uq_c]; exact h.tt
  · simp (disch := omega) only [gI_s, gI_n, gI_c, uq_s, uq_n, uq_c]; exact h.hh
  · simp (disch := omega) only [gI_s, gI_n, gI_c, uq_s, uq_n, uq_c]; exact h.w8
  · simp (disch := omega) only [gI_s, gI_n, gI_c, uq_s, uq_n, uq_c]; exact h.r9
  · by_cases e : i = d.1.1
    · subst e; simp (disch := omega) only [gI_s, gI_n, gI_c, uq_s, uq_n, uq_c]
    · simp (disch := omega) only [gI_s, gI_n, gI_c, uq_s, uq_n, uq_c]; exact h.bo i (by omega)
  · omega
  · by_cases e : i = d.1.1
    · subst e; simp (disch := omega) only [gI_s, gI_n, gI_c, uq_s, uq_n, uq_c]
    · simp (disch := omega) only [gI_s, gI_n, gI_c, uq_s, uq_n, uq_c]; exact h.hg i (by omega)
  · omega
  · omega
  · simp (disch := omega) only [gI_s, gI_n, gI_c, uq_s, uq_n, uq_c]; exact h.ws i hi
  · simp (disch := omega) only [gI_s, gI_n, gI_c, uq_s, uq_n, uq_c]; exact h.rs i hi
theorem tb_0 {r : Nat} : tb (ι 0) r = false := by unfold tb; show (BitVec.ofNat 32 0).getLsbD r = false; simp
theorem tb_hi {m r P : Nat} (hm : m < 2 ^ P) (hP : P ≤ 8) (hr : P ≤ r) (h8 : r < 32) : tb (ι m) r = false := by
  have : 2 ^ P ≤ 2 ^ 8 := Nat.pow_le_pow_right (by omega) hP
  have h2 : 2 ^ P ≤ 2 ^ r := Nat.pow_le_pow_right (by omega) hr
  rw [tb_ι (by omega) h8]
  exact Nat.testBit_lt_two_pow (by omega)
theorem okDx.ap (h : okDx d) (h8 : d.1.1 < 8) (h0 : d.1.2.1 = 0) : okDx (dP d v) := by
  obtain ⟨a1, a2, a3, a4, a5, a6, a7, a8, a9, a10⟩ := h
  have up : ∀ p, p < d.1.1 → tb (d.2.1 3 p) d.1.1 = false := fun p hp => by
    obtain ⟨m, hm, em⟩ := a5 p hp
    rw [em]; exact tb_hi hm (by omega) (Nat.le_refl _) (by omega)
  refine ⟨?_, ?_, fun t ht => ?_, fun p hp t ht => ?_, fun p hp => ?_, fun p hp r hr => ?_, fun p hp => ?_, fun t ht => ?_, a9, a10⟩ <;> dsimp only [dP] at *
  · omega
  · omega
  · omega
  · omega
  · by_cases e : p = d.1.1
    · subst e; simp (disch := omega) only [gI_s, gI_n, gI_c, uq_s, uq_n, uq_c]; exact ⟨0, Nat.two_pow_pos _, rfl⟩
    · simp (disch := omega) only [gI_s, gI_n, gI_c, uq_s, uq_n, uq_c]
      obtain ⟨m, hm, em⟩ := a5 p (by omega)
      exact ⟨m, by rw [Nat.pow_succ]; omega, em⟩
  · by_cases e : p = d.1.1
    · subst e
      by_cases e2 : r = d.1.1
      · subst e2; rfl
      · simp (disch := omega) only [gI_s, gI_n, gI_c, uq_s, uq_n, uq_c]; rw [up r (by omega)]; exact tb_0
    · by_cases e2 : r = d.1.1
      · subst e2; simp (disch := omega) only [gI_s, gI_n, gI_c, uq_s, uq_n, uq_c]; rw [up p (by omega)]; exact tb_0.symm
      · simp (disch := omega) only [gI_s, gI_n, gI_c, uq_s, uq_n, uq_c]; exact a6 p (by omega) r (by omega)
  · by_cases e : p = d.1.1
    · subst e; simp (disch := omega) only [gI_s, gI_n, gI_c, uq_s, uq_n, uq_c]; exact tb_0
    · simp (disch := omega) only [gI_s, gI_n, gI_c, uq_s, uq_n, uq_c]; exact a7 p (by omega)
  · omega
theorem PL.dr {d' : Dx} (h : PL n x q d tk σ0 σ) (hg : GL q σ τ) (e24 : ∀ i, gI τ 24 i = gI σ 24 i) (e1 : ∀ i, gI τ 1 i = gI σ 1 i) (hr : gR τ = gR σ) (hd : DC d' q τ) : PL n x q d' tk σ0 τ :=
  ⟨⟨⟨by rw [hr]; exact h.1.1.1, by rw [e24]; exact h.1.1.2.1, fun i hi => by rw [e1]; exact h.1.1.2.2.1 i hi, by rw [e24]; exact h.1.1.2.2.2⟩, by rw [e24]; exact h.1.2.1, ⟨by rw [e24]; exact h.1.2.2.1.1, by rw [e24]; exact h.1.2.2.1.2.1, by rw [e24]; exact h.1.2.2.1.2.2.1, fun g => by rw [e24]; exact h.1.2.2.1.2.2.2.1 g, fun g => by rw [e24]; exact h.1.2.2.1.2.2.2.2 g⟩, by rw [hr]; exact h.1.2.2.2.1, hd⟩, h.2.trans hg⟩
theorem ML.dr {d' : Dx} (h : ML n x d tk μ0 μ) (hg : HL μ τ) (e61 : ∀ i, gI τ 61 i = gI μ 61 i) (e74 : ∀ i, gI τ 74 i = gI μ 74 i) (hr : gR τ = gR μ) (hd : DM d' τ) : ML n x d' tk μ0 τ :=
  ⟨⟨⟨by rw [hr]; exact h.1.1.1, by rw [e61]; exact h.1.1.2.1, fun i hi => by rw [e74]; exact h.1.1.2.2 i hi⟩, by rw [e61]; exact h.1.2.1, ⟨by rw [e61]; exact h.1.2.2.1.1, by rw [e61]; exact h.1.2.2.1.2.1, by rw [e61]; exact h.1.2.2.1.2.2.1, by rw [e61]; exact h.1.2.2.1.2.2.2.1, fun g g' => by rw [e61]; exact h.1.2.2.1.2.2.2.2 g g'⟩, hd, by unfold SMr; rw [hr]; exact h.1.2.2.2.2⟩, h.2.trans hg⟩
theorem q24 (hq : isP q) (ha : q ≤ a ∧ a ≤ q + 9) : 24 ≠ a := by rcases hq with rfl | rfl <;> omega
theorem q1 (hq : isP q) (ha : q ≤ a ∧ a ≤ q + 9) : 1 ≠ a := by rcases hq with rfl | rfl <;> omega
theorem FML.m {a : Nat} (h : FML c pl μ0 μ) (ha : a = 65 ∧ 5 ≤ i ∨ (a = 66 ∨ a = 70) ∧ 8 ≤ i ∨ (a = 67 ∨ a = 68) ∧ 12 ≤ i ∨ a = 69 ∧ 96 ≤ i ∨ (a = 71 ∨ a = 72) ∧ 700 ≤ i) : FML c pl μ0 (sI μ a i y) :=
  ⟨⟨h.lay, h.1.2.1, h.1.2.2.1, by rw [gI_c (by omega)]; exact h.1.2.2.2.1, by rw [gI_c (by omega)]; exact h.1.2.2.2.2⟩, h.2.m ha⟩
/-- behind a part of a line, on both sides -/
abbrev fl2 (d : Dx) : Bool × Bool := (d.2.2.1.2, d.2.2.2.2)
def LRs (n : Nat) (x : Nat → Nat) (q b hm : Nat) (R : Bool × Bool) (σ0 μ0 : pS) (zc zm : pZ) : Prop := (∃ d' tk', okTk n x tk' ∧ b ≤ tk'.2.1 ∧ okDx d' ∧ d'.1.2.2 ≤ hm ∧ fl2 d' = R ∧ RV (PL n x q d' tk' σ0) zc ∧ RV (ML n x d' tk' μ0) zm) ∨ ∃ c pl, RV (FTL q c pl σ0) zc ∧ RV (FML c pl μ0) zm
theorem LRs.bad {hm : Nat} {R : Bool × Bool} {d1 d2 : Option pZ} (w1 : Wp d1 (RV (FTL q c pl σ0))) (w2 : Wp d2 (RV (FML c pl μ0))) : R2 d1 d2 (LRs n x q b hm R σ0 μ0) := by
  obtain ⟨a, ea, ha⟩ := w1
  obtain ⟨b, eb, hb⟩ := w2
  exact ⟨a, b, ea, eb, Or.inr ⟨c, pl, ha, hb⟩⟩
theorem line_person (hq : isP q) (t : Txt n x) (ok : okTk n x tk) (od : okDx d) (h1 : PL n x q d tk σ0 σ) (h2 : ML n x d tk μ0 μ) : R2 (pcall 49 [.ref 24] σ) (pcall 234 [.ref 61] μ) (LRs n x q tk.2.2 d.1.2.2 (fl2 d) σ0 μ0) := by
  have hP := od.1
  have hT := od.2.1
  refine R2.lee (M_49 rfl h1.lay) (M_234 rfl h2.lay) ?_
  have e31 : pcall 31 [.ref q] σ = some (1, .int (gI σ q 0), σ) := (M_31 hq rfl h1.lay).eq rfl
  have e32 : pcall 32 [.ref q] σ = some (1, .int (gI σ q 1), σ) := (M_32 hq rfl h1.lay).eq rfl
  have cb : ∀ c, c ≠ 0 → c ≤ 5 → Wp (bV (pcall 50 [.ref 24, .int (ι c)] σ) fun σ9 => bV (pcall 43 [.ref 24] σ9) fun σ10 => bG isP (gR σ10 24 8) fun q11 => bI (pcall 51 [.ref 24, .int (ι 9)] σ10) fun r12 σ12 => bV (pcall 33 [.ref q11, .int r12] σ12) fun σ13 => some (0, .null, σ13)) (RV (FTL q c tk.2.1 σ0)) := fun c a b => Wp.cV (l50 h1 a b) fun τ f => by
    rw [g43 f, bV_ret, f.u8 hq]
    refine Wp.cI (g51 f) fun τ f => ?_
    exact Wp.cV (g33 hq f) fun τ f => Wp.retV f
  have mb : ∀ {c pl τ}, FML c pl μ0 τ → Wp (C_234_31 τ) (RV (FML c pl μ0)) := fun f => Wp.le (T_234_31 rfl f.lay) (by rw [if_neg f.n22]; exact Wp.retV f)
  have ep : (gI μ 65 5 = ι 8) = (d.1.1 = 8) := by rw [h2.1.2.2.2.1.pp, ι_eq (by omega) (by omega)]
  have et : (gI μ 65 6 ≤ ι 0) = (d.1.2.1 = 0) := by rw [h2.1.2.2.2.1.tt, ι_le (by omega) (by omega)]; exact propext (by omega)
  rw [h1.u8 hq, e31, bI_ret, h1.1.2.2.2.2.pp]
  by_cases e8 : d.1.1 = 8
  · rw [if_neg (by rw [ι_lt (by omega) (by omega)]; omega), if_neg (by rw [ep]; exact fun g => g e8)]
    refine LRs.bad (cb 2 (by omega) (by omega)) (Wp.cV (l220 h2 (by omega) (by omega)) fun τ f => ?_)
    by_cases e : gI τ 65 6 ≤ ι 0
    · rw [if_pos e]; exact mb f
    · rw [if_neg e, gm220 f, bV_ret]; exact mb f
  rw [if_pos (by rw [ι_lt (by omega) (by omega)]; omega), if_pos (by rw [ep]; exact e8), h1.u8 hq, e32, bI_ret, h1.1.2.2.2.2.tt]
  by_cases e0 : d.1.2.1 = 0
  · rw [if_pos (by rw [e0]; exact Int32.le_refl _), if_pos (by rw [et]; exact e0)]
    obtain ⟨nk, nb⟩ := nxt_ok t ok
    obtain ⟨a1, ea1, v1, τ1, rfl, p1⟩ := l43 hq t ok h1
    refine R2.le2 (T_234_31 rfl h2.lay) ?_
    obtain ⟨a2, ea2, v2, τ2, rfl, p2⟩ := l212 t ok h2
    rw [if_pos h2.1.2.1, ea1, bV_ret, ea2, bV_ret, p1.u8 hq]
    obtain ⟨zc, zm, ec, em, hQ⟩ := num_ok hq t nk p1 p2
    rw [ec, em]
    rw [p2.1.2.2.2.1.pp, ι_add]
    rcases hQ with ⟨v, hv, k2, ⟨τ3, rfl, p3⟩, τ4, rfl, p4, -⟩ | ⟨c, pl, ⟨τ3, rfl, p3⟩, τ4, rfl, p4, k4⟩
    · rw [bI_ret, bI_ret]
      have e33 : pcall 33 [.ref q, .int (ι v)] τ3 = some (0, .null, sI (sI τ3 (q + 1) d.1.1 (ι v)) q 0 (ι (d.1.1 + 1))) := by
        refine (M_33 hq rfl p3.lay).eq ?_
        rw [gI_c (show q ≠ q + 1 by omega), p3.1.2.2.2.2.pp, if_neg (by rw [ι_lt (by omega) (by omega)]; omega), if_neg (by rw [ι_le (by omega) (by omega)]; omega), gd_inb (by omega) (by omega), ix_ι (by omega), ι_add]
      rw [e33, bV_ret, gd_inb (by omega) (by omega), ix_ι (by omega), gI_c (show 65 ≠ 66 by omega), p4.1.2.2.2.1.pp, ι_add, gd_inb (by omega) (by omega), ix_ι (by omega), gI_c (show 65 ≠ 70 by omega), gI_c (show 65 ≠ 66 by omega), p4.1.2.2.2.1.pp, ι_add]
      obtain ⟨nk2, nb2⟩ := nxt_ok t nk
      have := nk.1
      refine ⟨_, _, rfl, rfl, Or.inl ⟨dP d v, _, nk2, by omega, od.ap (by omega) e0, Nat.le_refl _, rfl, ⟨_, _, rfl, ?_⟩, _, _, rfl, ?_⟩⟩
      · exact p3.dr ((GL.rf.m (by omega) hq).m (by omega) hq) (fun i => by rw [gI_c (q24 hq (by omega)), gI_c (q24 hq (by omega))]) (fun i => by rw [gI_c (q1 hq (by omega)), gI_c (q1 hq (by omega))]) rfl (p3.1.2.2.2.2.ap (by omega) e0)
      · exact p4.dr (((HL.rf.m (by omega)).m (by omega)).m (by omega)) (fun i => by simp (disch := omega) only [gI_s, gI_n, gI_c, uq_s, uq_n, uq_c]) (fun i => by simp (disch := omega) only [gI_s, gI_n, gI_c, uq_s, uq_n, uq_c]) rfl (p4.1.2.2.2.1.ap e0)
    · rw [bI_ret, bI_ret]
      have e5 : gI τ4 65 5 = ι d.1.1 := k4.trans p2.1.2.2.2.1.pp
      obtain ⟨za, ea, v3, τ3', rfl, f3⟩ := g33 (y := ι 0) hq p3
      rw [ea, bV_ret, gd_inb (by omega) (by omega), ix_ι (by omega), gI_c (show 65 ≠ 66 by omega), e5, ι_add, gd_inb (by omega) (by omega)]
      exact ⟨_, _, rfl, rfl, Or.inr ⟨c, pl, ⟨_, _, rfl, f3⟩, _, _, rfl, (((p4.m (by omega)).m (by rw [ix_ι (by omega)]; omega)).m (by omega))⟩⟩
  · rw [if_neg (by rw [ι_le (by omega) (by omega)]; omega), if_neg (by rw [et]; exact e0)]
    exact LRs.bad (cb 4 (by omega) (by omega)) (Wp.cV (l220 h2 (by omega) (by omega)) fun τ f => mb f)
end LINE1
