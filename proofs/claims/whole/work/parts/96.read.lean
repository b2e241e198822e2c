/-! ===== a text is read, on both sides ===== -/
section READ
variable {σ τ υ σ0 μ ν0 μ0 : pS} {a n k b e i j c w q pl : Nat} {x : Nat → Nat} {tk : Nat × Nat × Nat} {g f : Bool} {L : Rl} {s y r : Int32} {d : Dx} {v v1 v2 : Value} {Q : pZ → pZ → Prop}
theorem read_lp (hq : isP q) (t : Txt n x) (okc : ∀ d' tk' σ μ v', okDx d' → d'.1.2.2 ≤ 700 → PL n x q d' tk' σ0 σ → ML n x d' tk' μ0 μ → R2 (some (1, .int (ι 0), σ)) (C_210_99 v v' μ) Q) (bad : ∀ c pl σ μ v', FTL q c pl σ0 σ → FML c pl μ0 μ → R2 (some (1, .int (ι c), σ)) (C_210_99 v v' μ) Q) : ∀ f i d tk σ μ, n - tk.2.1 ≤ f → i ≤ tk.2.1 → d.1.2.2 ≤ i → okTk n x tk → okDx d → PL n x q d tk σ0 σ → ML n x d tk μ0 μ → R2 (C_42_38 q v1 v2 (ι i) σ) (C_210_76 v (bts (fl2 d)) μ) Q := by
  have h7 := t.1
  have fin : ∀ i d tk σ μ, okTk n x tk → i ≤ tk.2.1 → d.1.2.2 ≤ i → tk.1 = 0 → okDx d → PL n x q d tk σ0 σ → ML n x d tk μ0 μ → R2 (C_42_38 q v1 v2 (ι i) σ) (C_210_76 v (bts (fl2 d)) μ) Q := by
    intro i d tk σ μ ok hi hh h0 od h1 h2
    have o1 := ok.1; have o2 := ok.2.1
    refine R2.lee (T_42_38 hq rfl h1.lay) (T_210_76 rfl h2.lay) ?_
    rw [if_neg (show ¬ ¬ gI μ 61 22 = ι 0 from fun g => g h2.1.2.1), if_pos (show gI μ 61 18 = ι 0 by rw [h2.1.2.2.1.1, h0]; rfl), h1.1.2.2.1.1, h0, if_pos (show ι 0 = ι 0 from rfl), h1.1.2.1]
    have := okc d tk σ μ (.int (bts (fl2 d))) od (by omega) h1 h2
    by_cases e : ι 700 ≤ ι i
    · rw [if_pos e]; exact this
    · rw [if_neg e]; exact this
  intro f
  induction f with
  | zero =>
    intro i d tk σ μ hf hi hh ok od h1 h2
    refine fin i d tk σ μ ok hi hh ?_ od h1 h2
    by_cases e : tk.1 = 0
    · exact e
    · have := ok.2.2.2.1 e; have := ok.2.1; omega
  | succ f ih =>
    intro i d tk σ μ hf hi hh ok od h1 h2
    by_cases h0 : tk.1 = 0
    · exact fin i d tk σ μ ok hi hh h0 od h1 h2
    have o4 := ok.2.2.2.1 h0; have o2 := ok.2.1; have o6 := ok.2.2.2.2.2.1
    refine R2.lee (T_42_38 hq rfl h1.lay) (T_210_76 rfl h2.lay) ?_
    rw [if_neg (show ¬ ι 700 ≤ ι i by rw [ι_le (by omega) (by omega)]; omega), if_neg (show ¬ gI σ 24 4 = ι 0 by rw [h1.1.2.2.1.1, ι_eq (by omega) (by omega)]; exact h0), if_neg (show ¬ ¬ gI μ 61 22 = ι 0 from fun g => g h2.1.2.1), if_neg (show ¬ gI μ 61 18 = ι 0 by rw [h2.1.2.2.1.1, ι_eq (by split <;> omega) (by omega)]; split <;> omega)]
    obtain ⟨zc, zm, ec, em, hQ⟩ := line_ok hq t ok od h1 h2
    rw [ec, em]
    rcases hQ with ⟨d', tk', ok', hb, od', hm, ⟨v3, τ, rfl, p1⟩, ν, rfl, p2⟩ | ⟨c, pl, r, ⟨v3, τ, rfl, p1⟩, ν, rfl, p2⟩
    · rw [bV_ret, bI_ret, gd_pos p1.lay, gd_pos p2.lay, ι_add]
      exact ih (i + 1) d' tk' τ ν (by omega) (by omega) (by omega) ok' od' p1 p2
    · rw [bV_ret, bI_ret, gd_pos p1.lay, gd_pos p2.lay, ι_add]
      refine R2.lee (T_42_38 hq rfl p1.lay) (T_210_76 rfl p2.lay) ?_
      rw [if_pos p2.n22, p1.1.2.2.2.2.2.1, if_pos (show ι 0 = ι 0 from rfl), p1.1.2.2.2.1]
      have := bad c pl τ ν (.int r) p1 p2
      by_cases e : ι 700 ≤ ι (i + 1)
      · rw [if_pos e]; exact this
      · rw [if_neg e]; exact this
/-- nothing told -/
def d00 : Dx := ((0, 0, 0), fun _ _ => ι 0, ((0, fun _ => ι 0), false), ((0, fun _ => ι 0), false))
theorem ok_d00 : okDx d00 := ⟨Nat.zero_le _, Nat.zero_le _, fun _ h => absurd h (Nat.not_lt_zero _), fun _ h => absurd h (Nat.not_lt_zero _), fun _ h => absurd h (Nat.not_lt_zero _), fun _ h => absurd h (Nat.not_lt_zero _), fun _ h => absurd h (Nat.not_lt_zero _), fun _ h => absurd h (Nat.not_lt_zero _), ⟨wfp0, fun h => (by cases h), fun _ => rfl⟩, ⟨wfp0, fun h => (by cases h), fun _ => rfl⟩⟩
theorem kd_q2 (hq : isP q) : kd (q + 2) = (100, 8) := by rcases hq with rfl | rfl <;> rfl
theorem Fr.m4 {S : Nat → Prop} (ha : S a) {i1 i2 i3 i4 : Nat} {y1 y2 y3 y4 : Int32} : Fr S σ (sI (sI (sI (sI σ a i1 y1) a i2 y2) a i3 y3) a i4 y4) := (((Fr.refl.mI ha).mI ha).mI ha).mI ha
theorem p30 (hq : isP q) (hL : LayR (gR σ)) : Wp (pcall 30 [.ref q] σ) (RV (fun τ => Fr (fun a => q ≤ a ∧ a ≤ q + 9) σ τ ∧ DC d00 q τ)) := by
  have hU5 : isU (q + 5) := uG_U (g := false) hq
  have hU8 : isU (q + 8) := uG_U (g := true) hq
  refine Wp.le (M_30 hq rfl hL) ?_
  obtain ⟨z, ez, v, τ, rfl, f1, f2⟩ := p1 (σ := sI (sI (sI (sI σ q 0 (ι 0)) q 1 (ι 0)) q 2 (ι 0)) q 3 (ι 0)) (x := ι 0) (kd_q2 hq) hL (by omega)
  have L1 : LayR (gR τ) := by rw [f1.r]; exact hL
  rw [ez, bV_ret, (M_20 hU5 rfl L1).eq rfl, bV_ret, (M_20 hU8 (σ := sI (sI (sI τ (q + 5) 1 (ι 0)) (q + 5) 2 (ι 0)) (q + 5) 3 (ι 0)) rfl L1).eq rfl, bV_ret]
  have k : ∀ j, gI τ q j = gI (sI (sI (sI (sI σ q 0 (ι 0)) q 1 (ι 0)) q 2 (ι 0)) q 3 (ι 0)) q j := fun j => f1.i (by omega) j
  have ru : ∀ {υ u}, gI υ u 1 = ι 0 → gI υ u 2 = ι 0 → gI υ u 3 = ι 0 → RuC (0, fun _ => ι 0) false u υ := fun e1 e2 e3 => ⟨e1, e2, fun i hi => absurd hi (Nat.not_lt_zero i), fun k hk => by
    rw [e3, tb_0]
    exact ⟨fun g => (by cases g), fun ⟨i, hi, _⟩ => absurd hi (Nat.not_lt_zero i)⟩⟩
  refine Wp.retV ⟨?_, ?_, ?_, ?_, fun i hi => absurd hi (Nat.not_lt_zero i), fun i hi => absurd hi (Nat.not_lt_zero i), fun i h1 h2 => ?_, fun i hi => absurd hi (Nat.not_lt_zero i), fun i h1 h2 => ?_, fun i hi => absurd hi (Nat.not_lt_zero i), fun i hi => absurd hi (Nat.not_lt_zero i), ?_, ?_⟩
  · have F1 : Fr (fun a => q ≤ a ∧ a ≤ q + 9) σ τ := (Fr.m4 (S := fun a => q ≤ a ∧ a ≤ q + 9) (a := q) (by omega)).trans (f1.mono fun a s => by omega)
    exact (((((F1.mI (by omega)).mI (by omega)).mI (by omega)).mI (by omega)).mI (by omega)).mI (by omega)
  · simp (disch := omega) only [gI_s, gI_n, gI_c, k]; rfl
  · simp (disch := omega) only [gI_s, gI_n, gI_c, k]; rfl
  · simp (disch := omega) only [gI_s, gI_n, gI_c, k]; rfl
  · simp (disch := omega) only [gI_s, gI_n, gI_c, k]; exact tb_0
  · simp (disch := omega) only [gI_s, gI_n, gI_c]; exact f2 i h2
  · exact ru (by simp (disch := omega) only [gI_s, gI_n, gI_c, uq_s, uq_n, uq_c]) (by simp (disch := omega) only [gI_s, gI_n, gI_c, uq_s, uq_n, uq_c]) (by simp (disch := omega) only [gI_s, gI_n, gI_c, uq_s, uq_n, uq_c])
  · exact ru (by simp (disch := omega) only [gI_s, gI_n, gI_c, uq_s, uq_n, uq_c]) (by simp (disch := omega) only [gI_s, gI_n, gI_c, uq_s, uq_n, uq_c]) (by simp (disch := omega) only [gI_s, gI_n, gI_c, uq_s, uq_n, uq_c])
abbrev sS (n q : Nat) (σ : pS) : pS := sR (sI (sI (sI (sI σ 24 1 (ι n)) 24 3 (ι 0)) 24 6 (ι 0)) 24 7 (ν 1)) 24 8 (some q)
abbrev sZ (μ : pS) : pS := sI (sI (sI (sI (sI μ 65 5 (ι 0)) 65 6 (ι 0)) 65 7 (ι 0)) 65 8 (ι 0)) 65 9 (ι 0)
theorem mov8 : mov 24 8 := by unfold mov; omega
theorem read_ok (hq : isP q) (t : Txt n x) (hL : LayR (gR σ)) (hM : LayR (gR μ)) (hb : ∀ i, i < n → gI σ 1 i = ι (x i)) (hb' : ∀ i, i < n → gI μ 74 i = ι (x i)) (h17 : gI μ 61 17 = ι n) (h16 : gI μ 61 16 = ι 0) (h22 : gI μ 61 22 = ι 0) (sm : SMr μ)
    (okc : ∀ d' tk' τ ν v', okDx d' → d'.1.2.2 ≤ 700 → PL n x q d' tk' (sS n q σ) τ → ML n x d' tk' (sZ μ) ν → R2 (some (1, .int (ι 0), τ)) (C_210_99 v v' ν) Q) (bad : ∀ c pl τ ν v', FTL q c pl (sS n q σ) τ → FML c pl (sZ μ) ν → R2 (some (1, .int (ι c), τ)) (C_210_99 v v' ν) Q) : R2 (pcall 42 [.ref 24, .int (ι n), .ref q] σ) (C_210_50 v (ι 0) μ) Q := by
  have hL1 : LayR (gR (sS n q σ)) := lay_sR hL mov8
  have r8 : gR (sS n q σ) 24 8 = some q := by rw [gR_sR, if_pos rfl, if_pos rfl]
  have st : ∀ k τ, k < 5 → LayR (gR τ) → Le (C_210_50 v (ι (k + 1)) (sI τ 65 (5 + k) (ι 0))) (C_210_50 v (ι k) τ) := fun k τ hk hL => by
    refine Le.tr ?_ (T_210_50 rfl hL)
    rw [if_neg (by rw [ι_le (by omega) (by omega)]; omega), ι_add, ι_add, gd_inb (by omega) (by omega), ix_ι (by omega)]; exact Le.rfl'
  have C : Le (C_210_50 v (ι 5) (sZ μ)) (C_210_50 v (ι 0) μ) := ((((st 4 (sI (sI (sI (sI μ 65 5 (ι 0)) 65 6 (ι 0)) 65 7 (ι 0)) 65 8 (ι 0)) (by omega) hM).tr (st 3 (sI (sI (sI μ 65 5 (ι 0)) 65 6 (ι 0)) 65 7 (ι 0)) (by omega) hM)).tr (st 2 (sI (sI μ 65 5 (ι 0)) 65 6 (ι 0)) (by omega) hM)).tr (st 1 (sI μ 65 5 (ι 0)) (by omega) hM)).tr (st 0 μ (by omega) hM)
  refine R2.lee (M_42 hq rfl hL) ((T_210_50 (σ := sZ μ) rfl hM).tr C) ?_
  rw [gd_pos hL1, bG_some r8 hq, if_pos (Int32.le_refl _)]
  obtain ⟨z, ez, v3, τ, rfl, f1, d1⟩ := p30 hq hL1
  have hq24 : ¬ (q ≤ 24 ∧ 24 ≤ q + 9) := fun g => q24 hq g rfl
  have hq1 : ¬ (q ≤ 1 ∧ 1 ≤ q + 9) := fun g => q1 hq g rfl
  have L2 : LayR (gR τ) := by rw [f1.r]; exact hL1
  have k24 : ∀ i, gI τ 24 i = gI (sS n q σ) 24 i := fun i => f1.i hq24 i
  have tx : TxC n x τ := ⟨L2, by rw [k24, gI_sR]; simp (disch := omega) only [gI_s, gI_n, gI_c, uq_s, uq_n, uq_c], fun i hi => by rw [f1.i hq1, gI_sR]; simp (disch := omega) only [gI_s, gI_n, gI_c, uq_s, uq_n, uq_c]; exact hb i hi, by rw [k24, gI_sR]; simp (disch := omega) only [gI_s, gI_n, gI_c, uq_s, uq_n, uq_c]⟩
  obtain ⟨z, ez2, v4, τ2, rfl, tk1, F1⟩ := c43 (e := 0) t tx (by rw [k24, gI_sR]; simp (disch := omega) only [gI_s, gI_n, gI_c, uq_s, uq_n, uq_c]) (by rw [k24, gI_sR]; simp (disch := omega) only [gI_s, gI_n, gI_c, uq_s, uq_n, uq_c]) (Nat.zero_le _)
  rw [ez, bV_ret, ez2, bV_ret]
  have tm : TxM n x (sZ μ) := ⟨hM, by simp (disch := omega) only [gI_s, gI_n, gI_c, uq_s, uq_n, uq_c]; exact h17, fun i hi => by simp (disch := omega) only [gI_s, gI_n, gI_c, uq_s, uq_n, uq_c]; exact hb' i hi⟩
  obtain ⟨z, ez3, v5, μ2, rfl, tk2, F2⟩ := m212 (e := 0) t tm (by simp (disch := omega) only [gI_s, gI_n, gI_c, uq_s, uq_n, uq_c]; exact h16) (Nat.zero_le _)
  rw [ez3, bV_ret]
  obtain ⟨ok0, -⟩ := tkS_ok t (Nat.zero_le n)
  have G0 : GL q (sS n q σ) τ2 := ⟨(Fq.of f1 (fun a s => Or.inr s)).trans (Fq.of F1.1 (fun a s => Or.inl s)), by rw [F1.2 1 (by omega), k24]⟩
  have D0 : DC d00 q τ2 := d1.fr fun a h1 h2 i => F1.1.i (fun g => q24 hq ⟨h1, h2⟩ g.symm) i
  have P0 : PL n x q d00 (tkS n x 0) (sS n q σ) τ2 := ⟨⟨tx.f F1, by rw [F1.2 6 (by omega), k24, gI_sR]; simp (disch := omega) only [gI_s, gI_n, gI_c, uq_s, uq_n, uq_c], tk1, by rw [F1.1.r, f1.r]; exact r8, D0⟩, G0⟩
  have M0 : DM d00 (sZ μ) := ⟨by simp (disch := omega) only [gI_s, gI_n, gI_c, uq_s, uq_n, uq_c]; rfl, by simp (disch := omega) only [gI_s, gI_n, gI_c, uq_s, uq_n, uq_c]; rfl, by simp (disch := omega) only [gI_s, gI_n, gI_c, uq_s, uq_n, uq_c]; rfl, by simp (disch := omega) only [gI_s, gI_n, gI_c, uq_s, uq_n, uq_c]; rfl, by simp (disch := omega) only [gI_s, gI_n, gI_c, uq_s, uq_n, uq_c]; rfl, fun i hi => absurd hi (Nat.not_lt_zero i), fun i hi => absurd hi (Nat.not_lt_zero i), fun i hi => absurd hi (Nat.not_lt_zero i), fun i hi => absurd hi (Nat.not_lt_zero i), fun i hi => absurd hi (Nat.not_lt_zero i), fun i hi => absurd hi (Nat.not_lt_zero i), fun i hi => absurd hi (Nat.not_lt_zero i)⟩
  have N0 : ML n x d00 (tkS n x 0) (sZ μ) μ2 := ⟨⟨tm.f F2, by rw [F2.2 22 (by omega)]; simp (disch := omega) only [gI_s, gI_n, gI_c, uq_s, uq_n, uq_c]; exact h22, tk2, M0.fr fun a h1 h2 i => F2.1.i (by omega) i, by unfold SMr; rw [F2.1.r]; exact sm⟩, HL.rf.f61 F2⟩
  exact read_lp hq t okc bad n 0 d00 _ _ _ (by omega) (Nat.zero_le _) (Nat.le_refl _) ok0 ok_d00 P0 N0
end READ
