/-! ===== a world begins, on both sides ===== -/
section BEGIN
variable {σ τ υ σ0 μ ν0 μ0 : pS} {a n k b e i j c w q pl : Nat} {g f : Bool} {L : Rl} {s y r : Int32} {d : Dx} {v v1 v2 : Value} {Q : pZ → Prop}
def bgW (d : Dx) : Wd := fun b j => if b = 0 ∨ b = 2 then ι 0 else if b = 3 then (if d.1.2.2 = 0 then (shl' (ι 1) (ι d.1.1) - ι 1) &&& (shl' (ι 1) (ι j) ^^^ ν 1) else d.2.1 3 j) else d.2.1 b j
theorem bgW_0 (h : b = 0 ∨ b = 2) : bgW d b j = ι 0 := if_pos h
theorem bgW_3 : bgW d 3 j = if d.1.2.2 = 0 then (shl' (ι 1) (ι d.1.1) - ι 1) &&& (shl' (ι 1) (ι j) ^^^ ν 1) else d.2.1 3 j := by
  unfold bgW; rw [if_neg (by omega), if_pos rfl]
theorem bgW_o (h : b = 1 ∨ 4 ≤ b) : bgW d b j = d.2.1 b j := by
  unfold bgW; rw [if_neg (by omega), if_neg (by omega)]
theorem see_m : ∀ P, P < 9 → ∀ p, p < P → (shl' (ι 1) (ι P) - ι 1) &&& (shl' (ι 1) (ι p) ^^^ ν 1) = ι (2 ^ P - 1 - 2 ^ p) := by decide +kernel
theorem see_t : ∀ P, P < 9 → ∀ p, p < P → ∀ r, r < P → tb ((shl' (ι 1) (ι P) - ι 1) &&& (shl' (ι 1) (ι p) ^^^ ν 1)) r = decide (r ≠ p) := by decide +kernel
theorem okDx.wld (h : okDx d) : okW d.1.1 d.1.2.1 (bgW d) := by
  obtain ⟨a1, a2, a3, a4, a5, a6, a7, a8, a9, a10⟩ := h
  refine ⟨a1, a2, fun t ht => by rw [bgW_o (by omega)]; exact a3 t ht, fun t ht => ⟨0, by omega, bgW_0 (by omega)⟩, fun p hp t ht => by rw [bgW_o (by omega)]; exact a4 p hp t ht, fun p hp => ?_, fun p hp q hq => ?_, fun p hp => ?_, ⟨0, by omega, bgW_0 (by omega)⟩, fun t ht => by rw [bgW_o (by omega)]; exact a8 t ht⟩
  · rw [bgW_3]
    by_cases e : d.1.2.2 = 0
    · rw [if_pos e]; exact ⟨2 ^ d.1.1 - 1 - 2 ^ p, Nat.lt_of_le_of_lt (Nat.sub_le _ _) (Nat.sub_lt (Nat.two_pow_pos _) (by omega)), see_m _ (by omega) p hp⟩
    · rw [if_neg e]; exact a5 p hp
  · rw [bgW_3, bgW_3]
    by_cases e : d.1.2.2 = 0
    · rw [if_pos e, if_pos e, see_t _ (by omega) p hp q hq, see_t _ (by omega) q hq p hp]; exact decide_eq_decide.mpr (by omega)
    · rw [if_neg e, if_neg e]; exact a6 p hp q hq
  · rw [bgW_3]
    by_cases e : d.1.2.2 = 0
    · rw [if_pos e, see_t _ (by omega) p hp p hp]; exact decide_eq_false (by omega)
    · rw [if_neg e]; exact a7 p hp
theorem okRu.wf {g : Bool} (h : okRu g L f) : wfr (okG g) L := by
  obtain ⟨⟨h1, h2, h3⟩, h4, h5⟩ := h
  refine ⟨h1, h2, fun hp => ?_, fun i => ?_⟩
  · cases f with
    | true => exact (h4 rfl).2
    | false => have := h5 rfl; omega
  · by_cases e : i ≤ L.1
    · exact Or.inl (h3 i e)
    · exact Or.inr (by omega)
theorem okRu.fl {g : Bool} (h : okRu g L f) : f = decide (0 < L.1) := by
  obtain ⟨-, h4, h5⟩ := h
  cases f with
  | true => exact (decide_eq_true (h4 rfl).1).symm
  | false => exact (decide_eq_false (by have := h5 rfl; omega)).symm
theorem DC.has (h : DC d q σ) (hq : isP q) (hL : LayR (gR σ)) (od : okDx d) : hasP d.1.1 d.1.2.1 d.2.2.1.1 d.2.2.2.1 (bgW d) σ q := by
  have o := od
  obtain ⟨-, -, -, -, -, -, -, -, a9, a10⟩ := o
  refine ⟨hq, hL, fun p hp => by rw [bgW_o (by omega)]; exact h.bo p hp, fun t ht => by rw [bgW_o (by omega)]; exact h.f1 t ht, ⟨okRu.wf a9, h.wr.1, by rw [h.wr.2.1, okRu.fl a9], h.wr.2.2.1, h.wr.2.2.2⟩, ⟨okRu.wf a10, h.rr.1, by rw [h.rr.2.1, okRu.fl a10], h.rr.2.2.1, h.rr.2.2.2⟩⟩
theorem begin_ok (h : DC d q σ) (hq : isP q) (hL : LayR (gR σ)) (od : okDx d) (h10 : gI σ 25 10 = ι 0) : Wp (pcall 85 [.ref 25, .ref q] σ) (RV (fun τ => CW d.1.1 d.1.2.1 d.2.2.1.1 d.2.2.2.1 (bgW d) τ 25 q ∧ gI τ 25 11 = ι 0 ∧ Fq (fun a => 25 ≤ a ∧ a ≤ 30) (fun a f => a = 25 ∧ f = 0) σ τ)) := by
  have hP := od.1; have hT := od.2.1
  have m25 : mov 25 0 := by unfold mov; exact Or.inl ⟨by decide, rfl⟩
  have hqw : ∀ a, q ≤ a → a ≤ q + 9 → ¬ (25 ≤ a ∧ a ≤ 30) := fun a h1 h2 => by rcases hq with rfl | rfl <;> omega
  have hL1 : LayR (gR (sR σ 25 0 (some q))) := lay_sR hL m25
  refine Wp.le (M_85 (w := 25) (by decide) hq rfl hL) ?_
  have e31 : pcall 31 [.ref q] (sR σ 25 0 (some q)) = some (1, .int (gI (sR σ 25 0 (some q)) q 0), sR σ 25 0 (some q)) := (M_31 hq rfl hL1).eq rfl
  have e32 : pcall 32 [.ref q] (sI (sR σ 25 0 (some q)) 25 1 (ι d.1.1)) = some (1, .int (gI (sI (sR σ 25 0 (some q)) 25 1 (ι d.1.1)) q 1), sI (sR σ 25 0 (some q)) 25 1 (ι d.1.1)) := (M_32 hq (σ := sI (sR σ 25 0 (some q)) 25 1 (ι d.1.1)) rfl hL1).eq rfl
  have hq25 : q ≠ 25 := by rcases hq with rfl | rfl <;> omega
  rw [gd_pos hL1, e31, bI_ret, gI_sR, h.pp, e32, bI_ret, gI_c hq25, gI_sR, h.tt]
  refine Wp.lt (f := fun s => C_85_33 25 q (ι 0) s) fun s1 es => ?_
  have F1 : Fq (fun a => 25 ≤ a ∧ a ≤ 30) (fun a f => a = 25 ∧ f = 0) σ s1 := by
    rw [es]; exact ((((Fq.refl.mR ⟨rfl, rfl⟩).mI ⟨by omega, by omega⟩).mI ⟨by omega, by omega⟩).mI ⟨by omega, by omega⟩).mI ⟨by omega, by omega⟩
  have r1 : gR s1 25 0 = some q := by rw [es, gR_sI, gR_sI, gR_sI, gR_sI, gR_sR, if_pos rfl, if_pos rfl]
  have c1 : gI s1 25 1 = ι d.1.1 ∧ gI s1 25 2 = ι d.1.2.1 ∧ gI s1 25 3 = ι 0 ∧ gI s1 25 10 = ι 0 ∧ gI s1 25 11 = ι 0 := by
    rw [es]; refine ⟨by simp (disch := omega) only [gI_s, gI_n, gI_c, uq_s, uq_n, uq_c], by simp (disch := omega) only [gI_s, gI_n, gI_c, uq_s, uq_n, uq_c], by simp (disch := omega) only [gI_s, gI_n, gI_c, uq_s, uq_n, uq_c], by simp (disch := omega) only [gI_s, gI_n, gI_c, uq_s, uq_n, uq_c]; rw [gI_sR]; exact h10, by simp (disch := omega) only [gI_s, gI_n, gI_c, uq_s, uq_n, uq_c]⟩
  have L1 : LayR (gR s1) := F1.lay (fun a f v => by rw [v.1, v.2]; exact m25) hL
  have D1 : DC d q s1 := h.fr fun a h1 h2 i => F1.i (hqw a h1 h2) i
  clear es
  refine Wp.loop (α := pS) 12 (fun t τ => C_85_33 25 q (ι t) τ) (fun t τ => Fr (fun a => a = 26 ∨ a = 27) s1 τ ∧ ∀ i, i < t → gI τ 26 i = gI s1 (q + 3) i ∧ gI τ 27 i = ι 0) ?_ ?_ (t := 0) (a := s1) (Nat.zero_le _) ⟨Fr.refl, fun i hi => absurd hi (Nat.not_lt_zero i)⟩
  · rintro t τ ht ⟨fr, hx⟩ k
    have Lt : LayR (gR τ) := by rw [fr.r]; exact L1
    refine Wp.le (T_85_33 (w := 25) (by decide) hq rfl Lt) ?_
    have e38 : pcall 38 [.ref q, .int (ι t)] τ = some (1, .int (gI s1 (q + 3) t), τ) := by
      refine (M_38 hq rfl Lt).eq ?_
      rw [if_neg (by rw [ι_lt (by omega) (by omega)]; omega), if_neg (by rw [ι_le (by omega) (by omega)]; omega), gd_inb (by omega) (by omega), ix_ι (by omega), fr.i (by rcases hq with rfl | rfl <;> omega)]
    rw [if_neg (by rw [ι_le (by omega) (by omega)]; omega), if_neg (by rw [ι_le (by omega) (by omega)]; omega), e38, bI_ret, gd_inb (by omega) (by omega), gd_inb (by omega) (by omega), ix_ι (by omega), ι_add]
    refine k _ ⟨(fr.mI (Or.inl rfl)).mI (Or.inr rfl), fun i hi => ?_⟩
    by_cases e : i = t
    · subst e; exact ⟨by simp (disch := omega) only [gI_s, gI_n, gI_c, uq_s, uq_n, uq_c], by simp (disch := omega) only [gI_s, gI_n, gI_c, uq_s, uq_n, uq_c]⟩
    · exact ⟨by simp (disch := omega) only [gI_s, gI_n, gI_c, uq_s, uq_n, uq_c]; exact (hx i (by omega)).1, by simp (disch := omega) only [gI_s, gI_n, gI_c, uq_s, uq_n, uq_c]; exact (hx i (by omega)).2⟩
  rintro τ1 ⟨f2, hx⟩
  have L2 : LayR (gR τ1) := by rw [f2.r]; exact L1
  have D2 : DC d q τ1 := D1.fr fun a h1 h2 i => f2.i (by have := hqw a h1 h2; omega) i
  refine Wp.le (T_85_33 (w := 25) (by decide) hq rfl L2) ?_
  rw [if_pos (Int32.le_refl _)]
  refine Wp.loop (α := pS) 8 (fun t τ => C_85_77 25 q (ι t) τ) (fun t τ => Fr (fun a => a = 28) τ1 τ ∧ ∀ i, i < t → i < d.1.1 → gI τ 28 i = bgW d 3 i) ?_ ?_ (t := 0) (a := τ1) (Nat.zero_le _) ⟨Fr.refl, fun i hi => absurd hi (Nat.not_lt_zero i)⟩
  · rintro t τ ht ⟨fr, hx⟩ k
    have Lt : LayR (gR τ) := by rw [fr.r]; exact L2
    have Dt : DC d q τ := D2.fr fun a h1 h2 i => fr.i (by have := hqw a h1 h2; omega) i
    refine Wp.le (T_85_77 (w := 25) (by decide) hq rfl Lt) ?_
    have e39 : pcall 39 [.ref q, .int (ι t)] τ = some (1, .int (if t < d.1.1 then bgW d 3 t else ι 0), τ) := by
      refine (M_39 hq rfl Lt).eq ?_
      rw [if_neg (by rw [ι_lt (by omega) (by omega)]; omega), Dt.pp]
      by_cases e : t < d.1.1
      · rw [if_neg (by rw [ι_le (by omega) (by omega)]; omega), if_pos (by rw [ι_lt (by omega) (by omega)]; omega), if_pos e, bgW_3, Dt.hh]
        by_cases e2 : d.1.2.2 = 0
        · rw [if_pos (by rw [decide_eq_false (by omega)]; rfl), if_pos e2]
        · rw [if_neg (by rw [decide_eq_true (by omega)]; decide), if_neg e2, gd_inb (by omega) (by omega), ix_ι (by omega), Dt.hg t e]
      · rw [if_pos (by rw [ι_le (by omega) (by omega)]; omega), if_neg e]
    rw [if_neg (by rw [ι_le (by omega) (by omega)]; omega), e39, bI_ret, gd_inb (by omega) (by omega), ix_ι (by omega), ι_add]
    refine k _ ⟨fr.mI rfl, fun i hi hp => ?_⟩
    by_cases e : i = t
    · subst e; rw [gI_s, if_pos hp]
    · rw [gI_n e]; exact hx i (by omega) hp
  rintro τ2 ⟨f3, hy⟩
  have L3 : LayR (gR τ2) := by rw [f3.r]; exact L2
  have D3 : DC d q τ2 := D2.fr fun a h1 h2 i => f3.i (by have := hqw a h1 h2; omega) i
  refine Wp.le (T_85_77 (w := 25) (by decide) hq rfl L3) ?_
  have e40 : pcall 40 [.ref q, .ref 29] τ2 = some (0, .null, sA τ2 29 (va_cpy (gI τ2 (q + 4)) (gI τ2 29) 0 0 96)) := by
    refine (M_40 hq (a0 := 29) (n0 := 96) rfl rfl L3).eq ?_
    rw [if_neg (by decide), gd_pos (cp_ok (a := 0) (b := 0) (c := 96) (ns := 96) (nd := 96) (by omega) (by omega) (by omega) (by omega))]
  rw [if_pos (Int32.le_refl _), e40, bV_ret]
  obtain ⟨z, ez, v3, τ3, rfl, f4, -⟩ := p1 (σ := sA τ2 29 (va_cpy (gI τ2 (q + 4)) (gI τ2 29) 0 0 96)) (a0 := 30) (n0 := 12) (x := ι 0) rfl L3 (by omega)
  rw [ez, bV_ret]
  have k25 : ∀ i, gI τ3 25 i = gI s1 25 i := fun i => by rw [f4.i (by omega), gI_cn (by omega), f3.i (by omega), f2.i (by omega)]
  have FF : Fq (fun a => 25 ≤ a ∧ a ≤ 30) (fun a f => a = 25 ∧ f = 0) s1 τ3 := (((Fq.of f2 (fun a s => by omega)).trans (Fq.of f3 (fun a s => by omega))).mA ⟨by omega, by omega⟩).trans (Fq.of f4 (fun a s => by omega))
  have L4 : LayR (gR τ3) := by rw [f4.r]; exact L3
  have D4 : DC d q τ3 := D1.fr fun a h1 h2 i => FF.i (hqw a h1 h2) i
  refine Wp.retV ⟨⟨od.wld, D4.has hq L4 od, by decide, ?_, ?_, ?_, ?_, ?_, fun t ht => ?_, fun t ht => ?_, fun p hp => ?_, fun p hp t ht => ?_⟩, ?_, F1.trans FF⟩
  · rw [f4.r]; show gR τ2 25 0 = _; rw [f3.r, f2.r]; exact r1
  · rw [k25]; exact c1.1
  · rw [k25]; exact c1.2.1
  · rw [k25, bgW_0 (by omega)]; exact c1.2.2.1
  · rw [k25, bgW_0 (by omega)]; exact c1.2.2.2.1
  · rw [f4.i (by omega), gI_cn (by omega), f3.i (by omega), (hx t (by omega)).1, bgW_o (by omega)]; exact D1.ow t ht
  · rw [f4.i (by omega), gI_cn (by omega), f3.i (by omega), (hx t (by omega)).2, bgW_0 (by omega)]
  · rw [f4.i (by omega), gI_cn (by omega)]; exact hy p (by omega) hp
  · rw [f4.i (by omega), gI_cp2, if_pos (by omega), bgW_o (by omega), Nat.zero_add]; exact D3.wo p hp t ht
  · rw [k25]; exact c1.2.2.2.2
end BEGIN
