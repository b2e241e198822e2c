/-! ===== expressions: both sides read them alike ===== -/
section EXPR2
variable {σ τ υ σ0 μ μ0 : pS} {n k b e i j c w q pl D d : Nat} {x : Nat → Nat} {tk : Nat × Nat × Nat} {g : Bool} {L : Rl} {s y : Int32} {z z0 z1 z2 : Zx}
theorem R2.bad (hm : mayT x z.1 = false → c = 1 ∧ pl = z.1.2.1) {d1 d2 : Option pZ} (w1 : Wp d1 (RV (FT g q c pl σ0))) (w2 : Wp d2 (RV (FM g c pl μ0))) : R2 d1 d2 (XR n x g q z D σ0 μ0) := by
  obtain ⟨a, ea, ha⟩ := w1
  obtain ⟨b, eb, hb⟩ := w2
  exact ⟨a, b, ea, eb, Or.inr ⟨c, pl, hm, ha, hb⟩⟩
theorem R2.good {v v' : Value} (gd : goodZ n x g z z1 D) (hm : mayT x z.1 = true) (h1 : PT n x g q z1 σ0 σ) (h2 : MT n x g z1 μ0 μ) : R2 (some (0, v, σ)) (some (0, v', μ)) (XR n x g q z D σ0 μ0) :=
  ⟨_, _, rfl, rfl, Or.inl ⟨z1, gd, hm, ⟨_, _, rfl, h1⟩, ⟨_, _, rfl, h2⟩⟩⟩
theorem nx_ok (t : Txt n x) (h : okTk n x z.1) : okTk n x (nxZ n x z).1 ∧ z.1.2.2 ≤ (nxZ n x z).1.2.1 := tkS_ok t h.2.1
theorem Ivx.nx (t : Txt n x) (h : Ivx n x g z) : Ivx n x g (nxZ n x z) := ⟨(nx_ok t h.1).1, h.2.1, by have := (nx_ok t h.1).2; have := h.1.1; have := h.2.2; show z.2.1 ≤ _; omega⟩
theorem goodZ.tr (h1 : goodZ n x g z z1 D) (h2 : goodZ n x g z1 z2 e) : goodZ n x g z z2 (D + e) := ⟨h2.1, by have := h1.2.1; have := h2.2.1; omega, by have := h1.2.2.1; have := h2.2.2.1; omega, by have := h1.2.2.2; have := h2.2.2.2; omega⟩
theorem okst_num (h : c < 10000) : okst (okG g) (ι c) := Or.inl ⟨c, h, rfl⟩
theorem okst_op (h : c < 9) : okst (okG g) (ν 20 - ι c) := Or.inr (Or.inr ⟨c, h, rfl⟩)
theorem stk_num (h : c < 10000) : stk (ι c) = 0 := by
  have h1 : ¬ ι c < ν 8 := (num_m1 c h).2.1
  unfold stk; rw [if_neg h1]
theorem nofact_num (h : c < 10000) : ∀ k, k < 8 → ¬ ι c = ν 1 - ι k := by
  intro k hk e
  have h1 : ¬ ι c < ι 0 := by rw [ι_lt (by omega) (by omega)]; omega
  have key : ∀ k, k < 8 → (ν 1 - ι k : Int32) < ι 0 := by decide
  rw [e] at h1
  exact h1 (key k hk)
theorem nofact_op : ∀ c, c < 9 → ∀ k, k < 8 → ¬ (ν 20 - ι c : Int32) = ν 1 - ι k := by decide
theorem trG_num (h : c < 10000) : trG g (ι c) = ι c := by cases g; exact (trS_num c h).1; exact (trS_num c h).2
/-- which fact a word is: the class's number, the reference's place -/
def fcO (x : Nat → Nat) (tk : Nat × Nat × Nat) (g : Bool) : Nat × Nat :=
  if wdS x tk 1008 = true then (0, 0) else if wdS x tk 1009 = true then (1, 1) else if g = true then (if wdS x tk 1014 = true then (6, 2) else if wdS x tk 1015 = true then (7, 3) else (8, 8)) else
    (if wdS x tk 1010 = true then (2, 2) else if wdS x tk 1011 = true then (3, 3) else if wdS x tk 1012 = true then (4, 4) else if wdS x tk 1013 = true then (5, 5) else (8, 8))
theorem fcO_t : fcO x tk true = if wdS x tk 1008 = true then (0, 0) else if wdS x tk 1009 = true then (1, 1) else if wdS x tk 1014 = true then (6, 2) else if wdS x tk 1015 = true then (7, 3) else (8, 8) := rfl
theorem fcO_f : fcO x tk false = if wdS x tk 1008 = true then (0, 0) else if wdS x tk 1009 = true then (1, 1) else if wdS x tk 1010 = true then (2, 2) else if wdS x tk 1011 = true then (3, 3) else if wdS x tk 1012 = true then (4, 4) else if wdS x tk 1013 = true then (5, 5) else (8, 8) := rfl
theorem if1 {b : Bool} {t e : Option pZ} : (if bz b = ι 0 then t else e) = if b = true then e else t := by cases b; rw [bz_f, if_pos rfl, if_neg (by decide)]; rw [bz_t, if_neg (by decide), if_pos rfl]
theorem if2 {b : Bool} {t e : Option pZ} : (if ¬ bz b = ι 0 then t else e) = if b = true then t else e := by cases b; rw [bz_f, if_neg (fun g => g rfl), if_neg (by decide)]; rw [bz_t, if_pos (by decide), if_pos rfl]
theorem fcO_or : fcO x tk g = (8, 8) ∨ (fcO x tk g).1 < 8 ∧ okG g (fcO x tk g).1 = true ∧ trG g (ν 1 - ι (fcO x tk g).1) = ν 1 - ι (fcO x tk g).2 ∧ (fcO x tk g).2 < 6 := by
  unfold fcO
  cases g
  · split
    · right; decide
    split
    · right; decide
    rw [if_neg (by decide)]
    repeat' (split; (right; decide))
    left; rfl
  · split
    · right; decide
    split
    · right; decide
    rw [if_pos rfl]
    repeat' (split; (right; decide))
    left; rfl
theorem e65 (t : Txt n x) (ok : okTk n x z.1) (h : PT n x g q z σ0 σ) : pcall 65 [.ref 24] σ = some (1, .int (if (fcO x z.1 g).1 = 8 then ν 1 else ι (fcO x z.1 g).1), σ) := by
  have h10 : gI σ 24 10 = bz (!g) := h.1.2.2.2.2.2.2.2
  refine (M_65 rfl h.lay).eq ?_
  have w : ∀ w, 1000 ≤ w → w < 1026 → pcall 48 [.ref 24, .ref w] σ = some (1, .int (bz (wdS x z.1 w)), σ) := fun w a b => e48 t ok h a b
  have w1008 := w 1008 (by decide) (by decide)
  have w1009 := w 1009 (by decide) (by decide)
  have w1010 := w 1010 (by decide) (by decide)
  have w1011 := w 1011 (by decide) (by decide)
  have w1012 := w 1012 (by decide) (by decide)
  have w1013 := w 1013 (by decide) (by decide)
  have w1014 := w 1014 (by decide) (by decide)
  have w1015 := w 1015 (by decide) (by decide)
  cases g with
  | true =>
    rw [fcO_t]
    simp only [w1008, w1009, w1014, w1015, bI_ret, if1, h10]
    cases wdS x z.1 1008 <;> cases wdS x z.1 1009 <;> cases wdS x z.1 1014 <;> cases wdS x z.1 1015 <;> rfl
  | false =>
    rw [fcO_f]
    simp only [w1008, w1009, w1010, w1011, w1012, w1013, bI_ret, if1, h10]
    cases wdS x z.1 1008 <;> cases wdS x z.1 1009 <;> cases wdS x z.1 1010 <;> cases wdS x z.1 1011 <;> cases wdS x z.1 1012 <;> cases wdS x z.1 1013 <;> rfl
theorem st218 {a0 n0 i w : Nat} {r : Int32} (t : Txt n x) (ok : okTk n x z.1) (h : MT n x g z μ0 μ) (ha : kd a0 = (102, n0)) (hn : n0 < 100) (hi : i < n0) (hr : gR μ a0 i = some w) (hw : 1000 ≤ w) (hw2 : w < 1026) (rest : wdS x z.1 w = false → Wp (C_218_2 a0 n0 (ι (i + 1)) μ) (RI r (fun τ => τ = μ))) (hit : wdS x z.1 w = true → r = ι i) : Wp (C_218_2 a0 n0 (ι i) μ) (RI r (fun τ => τ = μ)) := by
  refine Wp.le (T_218_2 ha rfl h.lay) ?_
  rw [if_neg (by rw [ι_le (by omega) (by omega)]; omega), gd_inb hi (by omega), ix_ι (by omega), bG_some hr ⟨hw, by omega⟩, e219 t ok h hw hw2, bI_ret, if1, ι_add]
  cases e : wdS x z.1 w with
  | true => rw [if_pos rfl, hit e]; exact Wp.retI rfl
  | false => rw [if_neg (by decide)]; exact rest e
theorem en218 {a0 n0 : Nat} (h : MT n x g z μ0 μ) (ha : kd a0 = (102, n0)) : Wp (C_218_2 a0 n0 (ι n0) μ) (RI (ν 1) (fun τ => τ = μ)) := by
  refine Wp.le (T_218_2 ha rfl h.lay) ?_
  rw [if_pos (Int32.le_refl _)]; exact Wp.retI rfl
theorem e218 (t : Txt n x) (ok : okTk n x z.1) (h : MT n x g z μ0 μ) : pcall 218 [.ref 61, .ref (if g then 64 else 63)] μ = some (1, .int (if (fcO x z.1 g).1 = 8 then ν 1 else ι (fcO x z.1 g).2), μ) := by
  obtain ⟨-, -, s0, s1, s2, s3, s4, s5, r0, r1, r2, r3⟩ := h.1.2.2.2.2.2.2.2
  cases g with
  | true =>
    rw [fcO_t]
    refine Wp.eqI (Wp.le (M_218 (a0 := 64) (n0 := 4) rfl rfl h.lay) ?_)
    refine st218 t ok h rfl (by omega) (by omega) r0 (by omega) (by omega) (fun a0 => ?_) (fun a0 => by rw [a0]; rfl)
    refine st218 t ok h rfl (by omega) (by omega) r1 (by omega) (by omega) (fun a1 => ?_) (fun a1 => by rw [a0, a1]; rfl)
    refine st218 t ok h rfl (by omega) (by omega) r2 (by omega) (by omega) (fun a2 => ?_) (fun a2 => by rw [a0, a1, a2]; rfl)
    refine st218 t ok h rfl (by omega) (by omega) r3 (by omega) (by omega) (fun a3 => ?_) (fun a3 => by rw [a0, a1, a2, a3]; rfl)
    rw [a0, a1, a2, a3]
    exact en218 h rfl
  | false =>
    rw [fcO_f]
    refine Wp.eqI (Wp.le (M_218 (a0 := 63) (n0 := 6) rfl rfl h.lay) ?_)
    refine st218 t ok h rfl (by omega) (by omega) s0 (by omega) (by omega) (fun a0 => ?_) (fun a0 => by rw [a0]; rfl)
    refine st218 t ok h rfl (by omega) (by omega) s1 (by omega) (by omega) (fun a1 => ?_) (fun a1 => by rw [a0, a1]; rfl)
    refine st218 t ok h rfl (by omega) (by omega) s2 (by omega) (by omega) (fun a2 => ?_) (fun a2 => by rw [a0, a1, a2]; rfl)
    refine st218 t ok h rfl (by omega) (by omega) s3 (by omega) (by omega) (fun a3 => ?_) (fun a3 => by rw [a0, a1, a2, a3]; rfl)
    refine st218 t ok h rfl (by omega) (by omega) s4 (by omega) (by omega) (fun a4 => ?_) (fun a4 => by rw [a0, a1, a2, a3, a4]; rfl)
    refine st218 t ok h rfl (by omega) (by omega) s5 (by omega) (by omega) (fun a5 => ?_) (fun a5 => by rw [a0, a1, a2, a3, a4, a5]; rfl)
    rw [a0, a1, a2, a3, a4, a5]
    exact en218 h rfl
/-- a sign that must stand there -/
theorem mark_y (hq : isP q) (t : Txt n x) (ok : okTk n x z.1) (h : PT n x g q z σ0 σ) (hc : c < 256) (hs : sgS x z.1 c = true) : Wp (pcall 66 [.ref 24, .int (ι c)] σ) (RV (PT n x g q (nxZ n x z) σ0)) := by
  refine Wp.le (M_66 rfl h.lay) ?_
  rw [e58 t ok h hc, bI_ret, if2, if_pos hs]
  exact Wp.cV (e43 hq t ok h) fun τ h => Wp.retV h
theorem mark_n (hq : isP q) (t : Txt n x) (ok : okTk n x z.1) (h : PT n x g q z σ0 σ) (hc : c < 256) (hs : sgS x z.1 c = false) : Wp (pcall 66 [.ref 24, .int (ι c)] σ) (RV (FT g q 1 z.1.2.1 σ0)) := by
  refine Wp.le (M_66 rfl h.lay) ?_
  rw [e58 t ok h hc, bI_ret, if2, hs, if_neg (by decide)]
  refine Wp.cV (e50 hq h (by omega) (by omega)) fun τ h => ?_
  rw [f43 h, bV_ret]; exact Wp.retV h
theorem markm_y (t : Txt n x) (ok : okTk n x z.1) (h : MT n x g z μ0 μ) (hc : c < 256) (hs : sgS x z.1 c = true) : Wp (pcall 231 [.ref 61, .int (ι c)] μ) (RV (MT n x g (nxZ n x z) μ0)) := by
  refine Wp.le (M_231 rfl h.lay) ?_
  rw [h.1.2.1, if_neg (fun g => g rfl), e222 t ok h hc, bI_ret, if2, if_pos hs, h.1.2.1, if_neg (fun g => g rfl)]
  exact Wp.cV (e212 t ok h) fun τ h => Wp.retV h
theorem markm_n (t : Txt n x) (ok : okTk n x z.1) (h : MT n x g z μ0 μ) (hc : c < 256) (hs : sgS x z.1 c = false) : Wp (pcall 231 [.ref 61, .int (ι c)] μ) (RV (FM g 1 z.1.2.1 μ0)) := by
  refine Wp.le (M_231 rfl h.lay) ?_
  rw [h.1.2.1, if_neg (fun g => g rfl), e222 t ok h hc, bI_ret, if2, hs, if_neg (by decide)]
  refine Wp.cV (e220 h (by omega) (by omega)) fun τ h => ?_
  rw [if_pos h.n22]; exact Wp.retV h
theorem num_at (t : Txt n x) (ok : okTk n x z.1) (hk : z.1.1 = 2) : nuS x z.1.2.1 (min (z.1.2.2 - z.1.2.1) 4) < 10000 := by
  have h := nuS_lt (x := x) (b := z.1.2.1) (k := min (z.1.2.2 - z.1.2.1) 4) t (fun j a c => ⟨by have := ok.2.1; omega, ok.2.2.2.2.1 hk j a (by omega)⟩)
  have hp : 10 ^ (min (z.1.2.2 - z.1.2.1) 4) ≤ 10 ^ 4 := Nat.pow_le_pow_right (by omega) (by omega)
  omega
theorem e52 (h : PT n x g q z σ0 σ) (t : Txt n x) (ok : okTk n x z.1) : pcall 52 [.ref 24] σ = some (1, .int (bz (decide (4 < z.1.2.2 - z.1.2.1))), σ) := by
  have h7 := t.1; have h2 := ok.2.1
  refine (M_52 rfl h.lay).eq ?_
  rw [h.1.2.2.1.2.1, h.1.2.2.1.2.2.1, ι_sub ok.1]
  by_cases e : 4 < z.1.2.2 - z.1.2.1
  · rw [if_neg (by rw [ι_le (by omega) (by omega)]; omega), decide_eq_true e]; rfl
  · rw [if_pos (by rw [ι_le (by omega) (by omega)]; omega), decide_eq_false e]; rfl
theorem tk5 (ok : okTk n x z.1) (h : MT n x g z μ0 μ) (hc : c = 1 ∨ c = 2 ∨ c = 3 ∨ c = 0) : (gI μ 61 18 = ι c) = (z.1.1 = c) := by
  obtain ⟨o1, o2, o3, o4, o5, o6, o7⟩ := ok
  rw [h.1.2.2.1.1, ι_eq (by split <;> omega) (by omega)]
  apply propext
  split <;> omega
theorem tc5 (ok : okTk n x z.1) (h : PT n x g q z σ0 σ) (hc : c < 10) : (gI σ 24 4 = ι c) = (z.1.1 = c) := by
  obtain ⟨o1, o2, o3, o4, o5, o6, o7⟩ := ok
  rw [h.1.2.2.1.1, ι_eq (by omega) (by omega)]
/-- what expressions one level in come to -/
def ExOK (n : Nat) (x : Nat → Nat) (g : Bool) (q k : Nat) (σ0 μ0 : pS) : Prop := ∀ (z : Zx) (σ μ : pS), Ivx n x g z → dpt z.2.2 z.2.1 ≤ 5 * k → PT n x g q z σ0 σ → MT n x g z μ0 μ → R2 (pcall 57 [.ref 24, .int (ι k)] σ) (pcall 221 [.ref 61, .int (ι k)] μ) (XR n x g q z 1 σ0 μ0)
theorem may_f (h : mayT x tk = false) : tk.1 ≠ 2 ∧ tk.1 ≠ 1 ∧ sgS x tk 40 = false := by
  unfold mayT at h
  simp only [Bool.or_eq_false_iff, decide_eq_false_iff_not] at h
  exact ⟨h.1.1, h.1.2, h.2⟩
theorem part_ok (hq : isP q) (t : Txt n x) (hk : k ≤ 5) (ex : ExOK n x g q (k + 1) σ0 μ0) (iv : Ivx n x g z) (hd : dpt z.2.2 z.2.1 ≤ 5 * k + 5) (h1 : PT n x g q z σ0 σ) (h2 : MT n x g z μ0 μ) : R2 (pcall 64 [.ref 24, .int (ι k)] σ) (pcall 227 [.ref 61, .int (ι k)] μ) (XR n x g q z 1 σ0 μ0) := by
  have h7 := t.1
  have ok := iv.1
  obtain ⟨o1, o2, o3, o4, o5, o6, o7⟩ := ok
  obtain ⟨nx1, nx2⟩ := nx_ok t iv.1
  refine R2.lee (M_64 rfl h1.lay) (M_227 rfl h2.lay) ?_
  simp (disch := (simp (disch := omega) only [lv_22, lv_23, lv_43, lv_48, lv_50, lv_52, lv_57, lv_58, lv_59, lv_60, lv_61, lv_62, lv_63, lv_64, lv_65, lv_66, lv_212, lv_218, lv_219, lv_220, lv_221, lv_222, lv_223, lv_224, lv_225, lv_226, lv_227, lv_228, lv_230, lv_231, rk_57, rk_59, rk_60, rk_61, rk_62, rk_63, rk_64, rk_221, rk_223, rk_224, rk_225, rk_226, rk_227, ι_add] <;> omega)) only [gd_pos]
  simp only [tc5 iv.1 h1 (show 2 < 10 by omega), tc5 iv.1 h1 (show 1 < 10 by omega), tk5 iv.1 h2 (show 2 = 1 ∨ 2 = 2 ∨ 2 = 3 ∨ 2 = 0 by omega), tk5 iv.1 h2 (show 1 = 1 ∨ 1 = 2 ∨ 1 = 3 ∨ 1 = 0 by omega)]
  rw [if_pos h2.1.2.1]
  by_cases e2 : z.1.1 = 2
  · have hb := o4 (by omega)
    have hmay : mayT x z.1 = true := by unfold mayT; rw [decide_eq_true e2]; rfl
    have hn := num_at t iv.1 e2
    have L7 : z.2.1 < 700 := by have := iv.2.2; omega
    rw [if_neg (fun g => g e2), if_neg (fun g => g e2), h1.u9 hq, h1.1.2.2.1.2.2.2.2 e2]
    obtain ⟨a1, ea1, v1, τ1, rfl, p1⟩ := e22 hq h1 L7 (nofact_num hn)
    rw [ea1, bV_ret, e52 p1 t iv.1, bI_ret, if1]
    have e229 : ∀ {Q}, Wp (if ι 4 < gI μ 61 21 - gI μ 61 20 then bV (pcall 220 [.ref 61, .int (ι 2)] μ) fun σ1 => if ¬ gI σ1 61 22 = ι 0 then some (1, .int (ι 0), σ1) else some (1, .int (gI σ1 61 19), σ1) else if gI μ 61 19 < ι 0 then bV (pcall 220 [.ref 61, .int (ι 2)] μ) fun σ2 => if ¬ gI σ2 61 22 = ι 0 then some (1, .int (ι 0), σ2) else some (1, .int (gI σ2 61 19), σ2) else if gI μ 61 19 ≤ ι 9999 then if ¬ gI μ 61 22 = ι 0 then some (1, .int (ι 0), μ) else some (1, .int (gI μ 61 19), μ) else bV (pcall 220 [.ref 61, .int (ι 2)] μ) fun σ3 => if ¬ gI σ3 61 22 = ι 0 then some (1, .int (ι 0), σ3) else some (1, .int (gI σ3 61 19), σ3)) Q → Wp (pcall 229 [.ref 61, .int (ι 0), .int (ι 9999)] μ) Q := by
      intro Q w
      refine Wp.le (M_229 rfl h2.lay) ?_
      rw [if_pos h2.1.2.1, if_pos (by rw [tk5 iv.1 h2 (by omega)]; exact e2)]
      exact w
    have esub : gI μ 61 21 - gI μ 61 20 = ι (z.1.2.2 - z.1.2.1) := by rw [h2.1.2.2.1.2.1, h2.1.2.2.1.2.2.1, ι_sub o1]
    by_cases el : 4 < z.1.2.2 - z.1.2.1
    · rw [decide_eq_true el, if_pos rfl]
      refine R2.bad (c := 2) (pl := z.1.2.1) (fun g => by rw [hmay] at g; cases g) ?_ ?_
      · refine Wp.cV (e50 hq p1 (by omega) (by omega)) fun τ f => ?_
        rw [f43 f, bV_ret]; exact Wp.retV f
      · have w : Wp (pcall 228 [.ref 61, .int (ι 0), .int (ι 9999)] μ) (RI (ι 0) (FM g 2 z.1.2.1 μ0)) := by
          refine Wp.le (M_228 rfl h2.lay) ?_
          have w9 : Wp (pcall 229 [.ref 61, .int (ι 0), .int (ι 9999)] μ) (RI (ι 0) (FM g 2 z.1.2.1 μ0)) := e229 (by
            rw [esub, if_pos (by rw [ι_lt (by omega) (by omega)]; exact el)]
            refine Wp.cV (e220 h2 (by omega) (by omega)) fun τ f => ?_
            rw [if_pos f.n22]; exact Wp.retI f)
          refine Wp.cI w9 fun τ f => ?_
          rw [if_pos f.n22]; exact Wp.retI f
        refine Wp.cI w fun τ f => ?_
        rw [fm230 f, bV_ret]; exact Wp.retV f
    · rw [decide_eq_false el, if_neg (by decide)]
      have e19 : gI μ 61 19 = ι (nuS x z.1.2.1 (min (z.1.2.2 - z.1.2.1) 4)) := by rw [h2.1.2.2.1.2.2.2.2 e2 (by omega)]; congr 2; omega
      obtain ⟨a2, ea2, v2, τ2, rfl, p2⟩ := e43 hq t (z := (z.1, psh z.2 (ι (nuS x z.1.2.1 (min (z.1.2.2 - z.1.2.1) 4))))) iv.1 p1
      rw [ea2, bV_ret]
      have w : Wp (pcall 228 [.ref 61, .int (ι 0), .int (ι 9999)] μ) (RI (ι (nuS x z.1.2.1 (min (z.1.2.2 - z.1.2.1) 4))) (MT n x g (nxZ n x z) μ0)) := by
        refine Wp.le (M_228 rfl h2.lay) ?_
        have w9 : Wp (pcall 229 [.ref 61, .int (ι 0), .int (ι 9999)] μ) (RI (ι (nuS x z.1.2.1 (min (z.1.2.2 - z.1.2.1) 4))) (fun τ => τ = μ)) := e229 (by
          rw [esub, if_neg (by rw [ι_lt (by omega) (by omega)]; exact el), e19, if_neg (by rw [ι_lt (by omega) (by omega)]; omega), if_pos (by rw [ι_le (by omega) (by omega)]; omega), h2.1.2.1, if_neg (fun g => g rfl)]
          exact Wp.retI rfl)
        refine Wp.cI w9 fun τ f => ?_
        subst f
        rw [h2.1.2.1, if_neg (fun g => g rfl)]
        exact Wp.cV (e212 t iv.1 h2) fun τ f => Wp.retI f
      obtain ⟨a3, ea3, τ3, rfl, p3⟩ := w
      rw [ea3, bI_ret]
      obtain ⟨a4, ea4, v4, τ4, rfl, p4⟩ := e230 (s := ι (nuS x z.1.2.1 (min (z.1.2.2 - z.1.2.1) 4))) p3 L7 (trG_num hn).symm
      rw [ea4, bV_ret]
      have hw := wfp_psh (g := g) (d' := dpt z.2.2 z.2.1 + 1) iv.2.1 L7 (okst_num hn) (by rw [stk_num hn]; exact ⟨by omega, rfl⟩)
      refine R2.good (z1 := ((nxZ n x z).1, psh z.2 (ι (nuS x z.1.2.1 (min (z.1.2.2 - z.1.2.1) 4))))) ⟨⟨nx1, hw.1, ?_⟩, hw.2, ?_, ?_⟩ hmay p2 p4
      · show z.2.1 + 1 ≤ (nxZ n x z).1.2.1; have := iv.2.2; omega
      · show z.2.1 + 1 + z.1.2.1 ≤ z.2.1 + (nxZ n x z).1.2.1; omega
      · show z.1.2.1 ≤ (nxZ n x z).1.2.1; omega
  rw [if_pos e2, if_pos e2]
  by_cases e1 : z.1.1 = 1
  · have hb := o4 (by omega)
    have hmay : mayT x z.1 = true := by unfold mayT; rw [decide_eq_true e1, Bool.or_true]; rfl
    have L7 : z.2.1 < 700 := by have := iv.2.2; omega
    rw [if_neg (fun g => g e1), if_neg (fun g => g e1), e65 t iv.1 h1, bI_ret, bG_some h2.1.2.2.2.2.2.1 (by cases g <;> decide), e218 t iv.1 h2, bI_ret]
    rcases fcO_or (x := x) (tk := z.1) (g := g) with e8 | ⟨f1, f2, f3, f4⟩
    · have c1 : (if (fcO x z.1 g).1 = 8 then ν 1 else ι (fcO x z.1 g).1) = ν 1 := by rw [e8]; rfl
      have c2 : (if (fcO x z.1 g).1 = 8 then ν 1 else ι (fcO x z.1 g).2) = ν 1 := by rw [e8]; rfl
      rw [c1, c2, if_neg (fun g => g rfl), if_neg (fun g => g rfl)]
      refine R2.bad (c := 3) (pl := z.1.2.1) (fun g => by rw [hmay] at g; cases g) ?_ ?_
      · skip
        refine Wp.cV (e50 hq h1 (by omega) (by omega)) fun τ f => ?_
        rw [f43 f, bV_ret]; exact Wp.retV f
      · skip
        refine Wp.cV (e220 h2 (by omega) (by omega)) fun τ f => ?_
        rw [fm230 f, bV_ret, if_pos f.n22]; exact Wp.retV f
    · generalize fcO x z.1 g = r at f1 f2 f3 f4
      have c1 : (if r.1 = 8 then ν 1 else ι r.1) = ι r.1 := if_neg (by omega)
      have c2 : (if r.1 = 8 then ν 1 else ι r.2) = ι r.2 := if_neg (by omega)
      rw [c1, c2, if_pos (by rw [ι_m1 (by omega)]; exact id), if_pos (by rw [ι_m1 (by omega)]; exact id), h1.u9 hq]
      obtain ⟨a1, ea1, v1, τ1, rfl, p1⟩ := e23 hq h1 L7 f1
      obtain ⟨a3, ea3, v3, τ3, rfl, p3⟩ := e230 (s := ν 1 - ι r.1) h2 L7 f3.symm
      rw [ea1, bV_ret, ea3, bV_ret, p3.1.2.1, if_neg (fun g => g rfl)]
      obtain ⟨a2, ea2, v2, τ2, rfl, p2⟩ := e43 hq t (z := (z.1, psh z.2 (ν 1 - ι r.1))) iv.1 p1
      obtain ⟨a4, ea4, v4, τ4, rfl, p4⟩ := e212 t (z := (z.1, psh z.2 (ν 1 - ι r.1))) iv.1 p3
      rw [ea2, bV_ret, ea4, bV_ret]
      have es : stk (ν 1 - ι r.1) = 0 := by
        have h8 : ¬ (ν 1 - ι r.1 : Int32) < ν 8 := (fact_m1 r.1 f1).2.1
        unfold stk; rw [if_neg h8]
      have hw := wfp_psh (g := g) (d' := dpt z.2.2 z.2.1 + 1) iv.2.1 L7 (Or.inr (Or.inl ⟨r.1, f1, f2, rfl⟩)) (by rw [es]; exact ⟨by omega, rfl⟩)
      refine R2.good (z1 := ((nxZ n x z).1, psh z.2 (ν 1 - ι r.1))) ⟨⟨nx1, hw.1, ?_⟩, hw.2, ?_, ?_⟩ hmay p2 p4
      · show z.2.1 + 1 ≤ (nxZ n x z).1.2.1; have := iv.2.2; omega
      · show z.2.1 + 1 + z.1.2.1 ≤ z.2.1 + (nxZ n x z).1.2.1; omega
      · show z.1.2.1 ≤ (nxZ n x z).1.2.1; omega
  rw [if_pos e1, if_pos e1, e58 t iv.1 h1 (by omega), bI_ret, if1]
  cases es : sgS x z.1 40 with
  | false =>
    rw [if_neg (by decide)]
    refine R2.bad (c := 1) (pl := z.1.2.1) (fun _ => ⟨rfl, rfl⟩) ?_ ?_
    · skip
      exact Wp.cV (e50 hq h1 (by omega) (by omega)) fun τ f => Wp.retV f
    · refine Wp.cV (markm_n t iv.1 h2 (by omega) es) fun τ f => ?_
      rw [ι_add, fm221 f, bV_ret]
      rw [fm231 f, bV_ret]; exact Wp.retV f
  | true =>
    have hmay : mayT x z.1 = true := by unfold mayT; rw [es, Bool.or_true]
    have h3 : z.1.1 = 3 := by unfold sgS at es; simp only [Bool.and_eq_true, decide_eq_true_eq] at es; exact es.1
    have hb := o4 (by omega)
    rw [if_pos rfl]
    obtain ⟨a1, ea1, v1, τ1, rfl, p1⟩ := e43 hq t iv.1 h1
    obtain ⟨a2, ea2, v2, τ2, rfl, p2⟩ := markm_y t iv.1 h2 (by omega) es
    rw [ea1, bV_ret, ea2, bV_ret, ι_add]
    obtain ⟨zc, zm, ec, em, hQ⟩ := ex (nxZ n x z) τ1 τ2 (iv.nx t) (by show dpt z.2.2 z.2.1 ≤ _; omega) p1 p2
    rw [ec, em]
    rcases hQ with ⟨z1, g1, -, ⟨v, τ, rfl, q1⟩, ⟨v', μ', rfl, q2⟩⟩ | ⟨c, pl, -, ⟨v, τ, rfl, f1⟩, ⟨v', μ', rfl, f2⟩⟩
    · rw [bV_ret, bV_ret]
      obtain ⟨mx1, mx2⟩ := nx_ok t g1.1.1
      cases et : sgS x z1.1 41 with
      | true =>
        obtain ⟨b1, eb1, w1, υ1, rfl, r1⟩ := mark_y hq t g1.1.1 q1 (by omega) et
        obtain ⟨b2, eb2, w2, υ2, rfl, r2⟩ := markm_y t g1.1.1 q2 (by omega) et
        rw [eb1, bV_ret, eb2, bV_ret]
        refine R2.good (z1 := nxZ n x z1) ⟨g1.1.nx t, g1.2.1, ?_, ?_⟩ hmay r1 r2
        · have c1 : z1.2.1 + (nxZ n x z).1.2.1 ≤ z.2.1 + z1.1.2.1 := g1.2.2.1
          have := g1.1.1.1
          show z1.2.1 + z.1.2.1 ≤ z.2.1 + (nxZ n x z1).1.2.1; omega
        · have c1 : (nxZ n x z).1.2.1 ≤ z1.1.2.1 := g1.2.2.2
          have := g1.1.1.1
          show z.1.2.1 ≤ (nxZ n x z1).1.2.1; omega
      | false =>
        refine R2.bad (c := 1) (pl := z1.1.2.1) (fun g => by rw [hmay] at g; cases g) ?_ ?_
        · exact Wp.cV (mark_n hq t g1.1.1 q1 (by omega) et) fun τ f => Wp.retV f
        · exact Wp.cV (markm_n t g1.1.1 q2 (by omega) et) fun τ f => Wp.retV f
    · rw [bV_ret, bV_ret]
      refine R2.bad (c := c) (pl := pl) (fun g => by rw [hmay] at g; cases g) ?_ ?_
      · skip
        exact Wp.cV (f66 f1) fun τ f => Wp.retV f
      · skip
        rw [fm231 f2, bV_ret]; exact Wp.retV f2
theorem stk_op : ∀ c, c < 9 → c ≠ 2 → stk (ν 20 - ι c) = 2 := by decide
/-- a step that joins two is laid on both sides -/
theorem lay2 (hq : isP q) (t : Txt n x) (iv0 : Ivx n x g z) (h1 : PT n x g q z1 σ0 σ) (h2 : MT n x g z1 μ0 μ) (hi : c < 9) (hc2 : c ≠ 2) (es : s = ν 20 - ι c) (ey : y = trG g s) (g1 : Ivx n x g z1) (hd : dpt z1.2.2 z1.2.1 = dpt z.2.2 z.2.1 + 2) (hlt : z1.2.1 + z.1.2.1 + 1 ≤ z.2.1 + z1.1.2.1) (hb : z.1.2.1 ≤ z1.1.2.1) : Wp (pcall 22 [.ref (uG g q), .int s] σ) (RV (PT n x g q (z1.1, psh z1.2 s) σ0)) ∧ Wp (pcall 230 [.ref 61, .int y] μ) (RV (MT n x g (z1.1, psh z1.2 s) μ0)) ∧ goodZ n x g z (z1.1, psh z1.2 s) 1 := by
  have h7 := t.1
  have L7 : z1.2.1 < 700 := by have := iv0.2.2; have := g1.1.1; have := g1.1.2.1; omega
  subst es
  have hw := wfp_psh (g := g) (s := ν 20 - ι c) (d' := dpt z.2.2 z.2.1 + 1) g1.2.1 L7 (okst_op hi) (by rw [stk_op c hi hc2]; exact ⟨by omega, by omega⟩)
  refine ⟨e22 hq h1 L7 (nofact_op c hi), e230 h2 L7 ey, ⟨⟨g1.1, hw.1, ?_⟩, hw.2, ?_, hb⟩⟩
  · show z1.2.1 + 1 ≤ z1.1.2.1; have := iv0.2.2; omega
  · show z1.2.1 + 1 + z.1.2.1 ≤ z.2.1 + z1.1.2.1; omega
/-- what joins, and what it joins -/
theorem opstep {b1 b2 : Nat} {F G : pS → Option pZ} (hq : isP q) (t : Txt n x) (iv0 : Ivx n x g z0) (gz : goodZ n x g z0 z 1) (h0 : z.1.1 ≠ 0) (h1 : PT n x g q z σ0 σ) (h2 : MT n x g z μ0 μ)
    (sub : ∀ σ μ, PT n x g q (nxZ n x z) σ0 σ → MT n x g (nxZ n x z) μ0 μ → R2 (pcall b1 [.ref 24, .int (ι k)] σ) (pcall b2 [.ref 61, .int (ι k)] μ) (XR n x g q (nxZ n x z) 1 σ0 μ0))
    (hc : c < 9) (hc2 : c ≠ 2) (es : s = ν 20 - ι c) (ey : y = trG g s)
    {Q : pZ → pZ → Prop}
    (ok : ∀ z' σ μ, goodZ n x g z0 z' 1 → z.1.2.1 < z'.1.2.1 → PT n x g q z' σ0 σ → MT n x g z' μ0 μ → R2 (F σ) (G μ) Q)
    (bad : ∀ c pl σ μ, FT g q c pl σ0 σ → FM g c pl μ0 μ → R2 (F σ) (G μ) Q) :
    R2 (bV (pcall 43 [.ref 24] σ) fun σ6 => bV (pcall b1 [.ref 24, .int (ι k)] σ6) fun σ7 => bG isU (gR σ7 24 9) fun q8 => bV (pcall 22 [.ref q8, .int s] σ7) F) (bV (pcall 212 [.ref 61] μ) fun σ5 => bV (pcall b2 [.ref 61, .int (ι k)] σ5) fun σ6 => bV (pcall 230 [.ref 61, .int y] σ6) G) Q := by
  obtain ⟨a1, ea1, v1, τ1, rfl, p1⟩ := e43 hq t gz.1.1 h1
  obtain ⟨a2, ea2, v2, τ2, rfl, p2⟩ := e212 t gz.1.1 h2
  rw [ea1, bV_ret, ea2, bV_ret]
  obtain ⟨zc, zm, ec, em, hQ⟩ := sub τ1 τ2 p1 p2
  rw [ec, em]
  have hbe := gz.1.1.2.2.2.1 h0
  have hnx := (nx_ok t gz.1.1).2
  rcases hQ with ⟨z1, g1, -, ⟨v, τ, rfl, q1⟩, ⟨v', μ', rfl, q2⟩⟩ | ⟨c', pl, -, ⟨v, τ, rfl, f1⟩, ⟨v', μ', rfl, f2⟩⟩
  · rw [bV_ret, bV_ret, q1.u9 hq]
    have c1 : z1.2.1 + (nxZ n x z).1.2.1 ≤ z.2.1 + z1.1.2.1 := g1.2.2.1
    have c2 : (nxZ n x z).1.2.1 ≤ z1.1.2.1 := g1.2.2.2
    have c3 := gz.2.2.1
    have c4 := gz.2.2.2
    have c5 : dpt z1.2.2 z1.2.1 = dpt z.2.2 z.2.1 + 1 := g1.2.1
    have c6 := gz.2.1
    obtain ⟨w1, w2, w3⟩ := lay2 hq t iv0 q1 q2 hc hc2 es ey g1.1 (by omega) (by omega) (by omega)
    obtain ⟨b1, eb1, u1, υ1, rfl, r1⟩ := w1
    obtain ⟨b2, eb2, u2, υ2, rfl, r2⟩ := w2
    rw [eb1, bV_ret, eb2, bV_ret]
    exact ok _ _ _ w3 (by show z.1.2.1 < z1.1.2.1; omega) r1 r2
  · rw [bV_ret, bV_ret, f1.u9 hq, fm230 f2, bV_ret]
    obtain ⟨b1, eb1, u1, υ1, rfl, r1⟩ := f22 (y := s) hq f1
    rw [eb1, bV_ret]
    exact bad c' pl _ _ r1 f2
theorem sg_3 (h : sgS x tk c = true) : tk.1 = 3 := by unfold sgS at h; simp only [Bool.and_eq_true, decide_eq_true_eq] at h; exact h.1
theorem wd_1 (h : wdS x tk w = true) : tk.1 = 1 := by unfold wdS at h; simp only [Bool.and_eq_true, decide_eq_true_eq] at h; exact h.1.1
theorem goodZ.rf (iv : Ivx n x g z) (hd : D = 0) : goodZ n x g z z D := ⟨iv, by omega, by omega, Nat.le_refl _⟩
theorem lp63 (hq : isP q) (t : Txt n x) (hk : k ≤ 5) (ex : ExOK n x g q (k + 1) σ0 μ0) (iv0 : Ivx n x g z0) (hm : mayT x z0.1 = true) (hd : dpt z0.2.2 z0.2.1 ≤ 5 * k + 4) : ∀ f (z : Zx) σ μ i v v', n - z.1.2.1 ≤ f → i ≤ z.1.2.1 → goodZ n x g z0 z 1 → PT n x g q z σ0 σ → MT n x g z μ0 μ → R2 (C_63_7 k (ι k) (ι i) v σ) (C_226_5 k (ι k) v' μ) (XR n x g q z0 1 σ0 μ0) := by
  have h7 := t.1
  intro f
  induction f with
  | zero =>
    intro z σ μ i v v' hf hi gz h1 h2
    have hok := gz.1.1
    have hs : ∀ c, sgS x z.1 c = false := fun c => by
      cases e : sgS x z.1 c with
      | false => rfl
      | true => have := hok.2.2.2.1 (by rw [sg_3 e]; omega); have := hok.2.1; omega
    refine R2.lee (T_63_7 rfl h1.lay) (T_226_5 rfl h2.lay) ?_
    simp (disch := (simp (disch := omega) only [lv_22, lv_23, lv_43, lv_48, lv_50, lv_52, lv_57, lv_58, lv_59, lv_60, lv_61, lv_62, lv_63, lv_64, lv_65, lv_66, lv_212, lv_218, lv_219, lv_220, lv_221, lv_222, lv_223, lv_224, lv_225, lv_226, lv_227, lv_228, lv_230, lv_231, rk_57, rk_59, rk_60, rk_61, rk_62, rk_63, rk_64, rk_221, rk_223, rk_224, rk_225, rk_226, rk_227, ι_add] <;> omega)) only [gd_pos]
    simp only [e58 t hok h1 (show 42 < 256 by omega), e58 t hok h1 (show 47 < 256 by omega), e222 t hok h2 (show 42 < 256 by omega), e222 t hok h2 (show 47 < 256 by omega), bI_ret, if1, if2, hs, Bool.false_eq_true, if_false, ite_self]
    exact R2.good gz hm h1 h2
  | succ f ih =>
    intro z σ μ i v v' hf hi gz h1 h2
    have hok := gz.1.1
    have go : ∀ σ6, (sgS x z.1 42 = true ∨ sgS x z.1 47 = true) → σ6 = σ → R2 (C_63_32 k (ι k) (ι i) v σ) (C_226_23 k (ι k) v' μ) (XR n x g q z0 1 σ0 μ0) := by
      intro σ6 hs _
      have h0 : z.1.1 ≠ 0 := by rcases hs with e | e <;> (rw [sg_3 e]; omega)
      have hsub : ∀ σ μ, PT n x g q (nxZ n x z) σ0 σ → MT n x g (nxZ n x z) μ0 μ → R2 (pcall 64 [.ref 24, .int (ι k)] σ) (pcall 227 [.ref 61, .int (ι k)] μ) (XR n x g q (nxZ n x z) 1 σ0 μ0) := fun σ μ p1 p2 => part_ok hq t hk ex (gz.1.nx t) (by show dpt z.2.2 z.2.1 ≤ _; have := gz.2.1; omega) p1 p2
      have hbad : ∀ w c pl σ μ, FT g q c pl σ0 σ → FM g c pl μ0 μ → ∀ v', R2 (C_63_7 k (ι k) (ι i + ι 1) w σ) (C_226_5 k (ι k) v' μ) (XR n x g q z0 1 σ0 μ0) := fun w c pl σ μ f1 f2 v' => R2.bad (c := c) (pl := pl) (fun g => by rw [hm] at g; cases g) (f63b hq (by omega) f1) (Wp.of (fm226b (by omega) f2) ⟨_, _, rfl, f2⟩)
      have hgood : ∀ w v' z' σ μ, goodZ n x g z0 z' 1 → z.1.2.1 < z'.1.2.1 → PT n x g q z' σ0 σ → MT n x g z' μ0 μ → R2 (C_63_7 k (ι k) (ι i + ι 1) w σ) (C_226_5 k (ι k) v' μ) (XR n x g q z0 1 σ0 μ0) := fun w v' z' σ μ g1 lt p1 p2 => by
        have := g1.1.1.1; have := g1.1.1.2.1; have := hok.2.2.2.1 h0; have := hok.2.1
        rw [ι_add]; exact ih z' σ μ (i + 1) w v' (by omega) (by omega) g1 p1 p2
      refine R2.lee (T_63_32 rfl h1.lay) (T_226_23 rfl h2.lay) ?_
      simp (disch := (simp (disch := omega) only [lv_22, lv_23, lv_43, lv_48, lv_50, lv_52, lv_57, lv_58, lv_59, lv_60, lv_61, lv_62, lv_63, lv_64, lv_65, lv_66, lv_212, lv_218, lv_219, lv_220, lv_221, lv_222, lv_223, lv_224, lv_225, lv_226, lv_227, lv_228, lv_230, lv_231, rk_57, rk_59, rk_60, rk_61, rk_62, rk_63, rk_64, rk_221, rk_223, rk_224, rk_225, rk_226, rk_227, ι_add] <;> omega)) only [gd_pos]
      rw [e58 t hok h1 (by omega), bI_ret, if1, e222 t hok h2 (by omega), bI_ret, if1]
      cases e1 : sgS x z.1 42 with
      | true =>
        rw [if_pos rfl, if_pos rfl]
        exact opstep hq t iv0 gz h0 h1 h2 hsub (c := 7) (by omega) (by omega) (by decide) (by cases g <;> decide) (fun z' σ μ a b c d => hgood _ _ z' σ μ a b c d) (fun c pl σ μ a b => hbad _ c pl σ μ a b _)
      | false =>
        rw [if_neg (by decide), if_neg (by decide)]
        exact opstep hq t iv0 gz h0 h1 h2 hsub (c := 8) (by omega) (by omega) (by decide) (by cases g <;> decide) (fun z' σ μ a b c d => hgood _ _ z' σ μ a b c d) (fun c pl σ μ a b => hbad _ c pl σ μ a b _)
    refine R2.lee (T_63_7 rfl h1.lay) (T_226_5 rfl h2.lay) ?_
    simp (disch := (simp (disch := omega) only [lv_22, lv_23, lv_43, lv_48, lv_50, lv_52, lv_57, lv_58, lv_59, lv_60, lv_61, lv_62, lv_63, lv_64, lv_65, lv_66, lv_212, lv_218, lv_219, lv_220, lv_221, lv_222, lv_223, lv_224, lv_225, lv_226, lv_227, lv_228, lv_230, lv_231, rk_57, rk_59, rk_60, rk_61, rk_62, rk_63, rk_64, rk_221, rk_223, rk_224, rk_225, rk_226, rk_227, ι_add] <;> omega)) only [gd_pos]
    simp only [e58 t hok h1 (show 42 < 256 by omega), e58 t hok h1 (show 47 < 256 by omega), e222 t hok h2 (show 42 < 256 by omega), e222 t hok h2 (show 47 < 256 by omega), bI_ret, if1, if2]
    cases e1 : sgS x z.1 42 with
    | true =>
      have hb := hok.2.2.2.1 (by rw [sg_3 e1]; omega)
      have he := hok.2.1
      rw [if_neg (by rw [ι_le (by omega) (by omega)]; omega), if_pos rfl, if_pos rfl]
      exact go σ (Or.inl e1) rfl
    | false =>
      cases e2 : sgS x z.1 47 with
      | true =>
        have hb := hok.2.2.2.1 (by rw [sg_3 e2]; omega)
        have he := hok.2.1
        rw [if_neg (by rw [ι_le (by omega) (by omega)]; omega)]
        simp only [Bool.false_eq_true, if_false, if_true]
        exact go σ (Or.inr e2) rfl
      | false =>
        simp only [Bool.false_eq_true, if_false, ite_self]
        exact R2.good gz hm h1 h2
theorem prod_ok (hq : isP q) (t : Txt n x) (hk : k ≤ 5) (ex : ExOK n x g q (k + 1) σ0 μ0) (iv : Ivx n x g z) (hd : dpt z.2.2 z.2.1 ≤ 5 * k + 4) (h1 : PT n x g q z σ0 σ) (h2 : MT n x g z μ0 μ) : R2 (pcall 63 [.ref 24, .int (ι k)] σ) (pcall 226 [.ref 61, .int (ι k)] μ) (XR n x g q z 1 σ0 μ0) := by
  refine R2.lee (M_63 rfl h1.lay) (M_226 rfl h2.lay) ?_
  simp (disch := (simp (disch := omega) only [lv_22, lv_23, lv_43, lv_48, lv_50, lv_52, lv_57, lv_58, lv_59, lv_60, lv_61, lv_62, lv_63, lv_64, lv_65, lv_66, lv_212, lv_218, lv_219, lv_220, lv_221, lv_222, lv_223, lv_224, lv_225, lv_226, lv_227, lv_228, lv_230, lv_231, rk_57, rk_59, rk_60, rk_61, rk_62, rk_63, rk_64, rk_221, rk_223, rk_224, rk_225, rk_226, rk_227, ι_add] <;> omega)) only [gd_pos]
  rw [rk_63 (by omega), rk_226 (by omega)]
  obtain ⟨zc, zm, ec, em, hQ⟩ := part_ok hq t hk ex iv (by omega) h1 h2
  rw [ec, em]
  rcases hQ with ⟨z1, g1, hm, ⟨v, τ, rfl, q1⟩, ⟨v', μ', rfl, q2⟩⟩ | ⟨c, pl, hm, ⟨v, τ, rfl, f1⟩, ⟨v', μ', rfl, f2⟩⟩
  · rw [bV_ret, bV_ret]
    exact lp63 hq t hk ex iv hm hd (n - z1.1.2.1) z1 τ μ' 0 _ _ (Nat.le_refl _) (Nat.zero_le _) g1 q1 q2
  · rw [bV_ret, bV_ret]
    exact R2.bad (c := c) (pl := pl) hm (f63b hq (by omega) f1) (Wp.of (fm226b (by omega) f2) ⟨_, _, rfl, f2⟩)
theorem lp62 (hq : isP q) (t : Txt n x) (hk : k ≤ 5) (ex : ExOK n x g q (k + 1) σ0 μ0) (iv0 : Ivx n x g z0) (hm : mayT x z0.1 = true) (hd : dpt z0.2.2 z0.2.1 ≤ 5 * k + 3) : ∀ f (z : Zx) σ μ i v v', n - z.1.2.1 ≤ f → i ≤ z.1.2.1 → goodZ n x g z0 z 1 → PT n x g q z σ0 σ → MT n x g z μ0 μ → R2 (C_62_7 k (ι k) (ι i) v σ) (C_225_5 k (ι k) v' μ) (XR n x g q z0 1 σ0 μ0) := by
  have h7 := t.1
  intro f
  induction f with
  | zero =>
    intro z σ μ i v v' hf hi gz h1 h2
    have hok := gz.1.1
    have hs : ∀ c, sgS x z.1 c = false := fun c => by
      cases e : sgS x z.1 c with
      | false => rfl
      | true => have := hok.2.2.2.1 (by rw [sg_3 e]; omega); have := hok.2.1; omega
    refine R2.lee (T_62_7 rfl h1.lay) (T_225_5 rfl h2.lay) ?_
    simp (disch := (simp (disch := omega) only [lv_22, lv_23, lv_43, lv_48, lv_50, lv_52, lv_57, lv_58, lv_59, lv_60, lv_61, lv_62, lv_63, lv_64, lv_65, lv_66, lv_212, lv_218, lv_219, lv_220, lv_221, lv_222, lv_223, lv_224, lv_225, lv_226, lv_227, lv_228, lv_230, lv_231, rk_57, rk_59, rk_60, rk_61, rk_62, rk_63, rk_64, rk_221, rk_223, rk_224, rk_225, rk_226, rk_227, ι_add] <;> omega)) only [gd_pos]
    simp only [e58 t hok h1 (show 43 < 256 by omega), e58 t hok h1 (show 45 < 256 by omega), e222 t hok h2 (show 43 < 256 by omega), e222 t hok h2 (show 45 < 256 by omega), bI_ret, if1, if2, hs, Bool.false_eq_true, if_false, ite_self]
    exact R2.good gz hm h1 h2
  | succ f ih =>
    intro z σ μ i v v' hf hi gz h1 h2
    have hok := gz.1.1
    have go : ∀ σ6, (sgS x z.1 43 = true ∨ sgS x z.1 45 = true) → σ6 = σ → R2 (C_62_32 k (ι k) (ι i) v σ) (C_225_23 k (ι k) v' μ) (XR n x g q z0 1 σ0 μ0) := by
      intro σ6 hs _
      have h0 : z.1.1 ≠ 0 := by rcases hs with e | e <;> (rw [sg_3 e]; omega)
      have hsub : ∀ σ μ, PT n x g q (nxZ n x z) σ0 σ → MT n x g (nxZ n x z) μ0 μ → R2 (pcall 63 [.ref 24, .int (ι k)] σ) (pcall 226 [.ref 61, .int (ι k)] μ) (XR n x g q (nxZ n x z) 1 σ0 μ0) := fun σ μ p1 p2 => prod_ok hq t hk ex (gz.1.nx t) (by show dpt z.2.2 z.2.1 ≤ _; have := gz.2.1; omega) p1 p2
      have hbad : ∀ w c pl σ μ, FT g q c pl σ0 σ → FM g c pl μ0 μ → ∀ v', R2 (C_62_7 k (ι k) (ι i + ι 1) w σ) (C_225_5 k (ι k) v' μ) (XR n x g q z0 1 σ0 μ0) := fun w c pl σ μ f1 f2 v' => R2.bad (c := c) (pl := pl) (fun g => by rw [hm] at g; cases g) (f62b hq (by omega) f1) (Wp.of (fm225b (by omega) f2) ⟨_, _, rfl, f2⟩)
      have hgood : ∀ w v' z' σ μ, goodZ n x g z0 z' 1 → z.1.2.1 < z'.1.2.1 → PT n x g q z' σ0 σ → MT n x g z' μ0 μ → R2 (C_62_7 k (ι k) (ι i + ι 1) w σ) (C_225_5 k (ι k) v' μ) (XR n x g q z0 1 σ0 μ0) := fun w v' z' σ μ g1 lt p1 p2 => by
        have := g1.1.1.1; have := g1.1.1.2.1; have := hok.2.2.2.1 h0; have := hok.2.1
        rw [ι_add]; exact ih z' σ μ (i + 1) w v' (by omega) (by omega) g1 p1 p2
      refine R2.lee (T_62_32 rfl h1.lay) (T_225_23 rfl h2.lay) ?_
      simp (disch := (simp (disch := omega) only [lv_22, lv_23, lv_43, lv_48, lv_50, lv_52, lv_57, lv_58, lv_59, lv_60, lv_61, lv_62, lv_63, lv_64, lv_65, lv_66, lv_212, lv_218, lv_219, lv_220, lv_221, lv_222, lv_223, lv_224, lv_225, lv_226, lv_227, lv_228, lv_230, lv_231, rk_57, rk_59, rk_60, rk_61, rk_62, rk_63, rk_64, rk_221, rk_223, rk_224, rk_225, rk_226, rk_227, ι_add] <;> omega)) only [gd_pos]
      rw [e58 t hok h1 (by omega), bI_ret, if1, e222 t hok h2 (by omega), bI_ret, if1]
      cases e1 : sgS x z.1 43 with
      | true =>
        rw [if_pos rfl, if_pos rfl]
        exact opstep hq t iv0 gz h0 h1 h2 hsub (c := 5) (by omega) (by omega) (by decide) (by cases g <;> decide) (fun z' σ μ a b c d => hgood _ _ z' σ μ a b c d) (fun c pl σ μ a b => hbad _ c pl σ μ a b _)
      | false =>
        rw [if_neg (by decide), if_neg (by decide)]
        exact opstep hq t iv0 gz h0 h1 h2 hsub (c := 6) (by omega) (by omega) (by decide) (by cases g <;> decide) (fun z' σ μ a b c d => hgood _ _ z' σ μ a b c d) (fun c pl σ μ a b => hbad _ c pl σ μ a b _)
    refine R2.lee (T_62_7 rfl h1.lay) (T_225_5 rfl h2.lay) ?_
    simp (disch := (simp (disch := omega) only [lv_22, lv_23, lv_43, lv_48, lv_50, lv_52, lv_57, lv_58, lv_59, lv_60, lv_61, lv_62, lv_63, lv_64, lv_65, lv_66, lv_212, lv_218, lv_219, lv_220, lv_221, lv_222, lv_223, lv_224, lv_225, lv_226, lv_227, lv_228, lv_230, lv_231, rk_57, rk_59, rk_60, rk_61, rk_62, rk_63, rk_64, rk_221, rk_223, rk_224, rk_225, rk_226, rk_227, ι_add] <;> omega)) only [gd_pos]
    simp only [e58 t hok h1 (show 43 < 256 by omega), e58 t hok h1 (show 45 < 256 by omega), e222 t hok h2 (show 43 < 256 by omega), e222 t hok h2 (show 45 < 256 by omega), bI_ret, if1, if2]
    cases e1 : sgS x z.1 43 with
    | true =>
      have hb := hok.2.2.2.1 (by rw [sg_3 e1]; omega)
      have he := hok.2.1
      rw [if_neg (by rw [ι_le (by omega) (by omega)]; omega), if_pos rfl, if_pos rfl]
      exact go σ (Or.inl e1) rfl
    | false =>
      cases e2 : sgS x z.1 45 with
      | true =>
        have hb := hok.2.2.2.1 (by rw [sg_3 e2]; omega)
        have he := hok.2.1
        rw [if_neg (by rw [ι_le (by omega) (by omega)]; omega)]
        simp only [Bool.false_eq_true, if_false, if_true]
        exact go σ (Or.inr e2) rfl
      | false =>
        simp only [Bool.false_eq_true, if_false, ite_self]
        exact R2.good gz hm h1 h2
theorem sum_ok (hq : isP q) (t : Txt n x) (hk : k ≤ 5) (ex : ExOK n x g q (k + 1) σ0 μ0) (iv : Ivx n x g z) (hd : dpt z.2.2 z.2.1 ≤ 5 * k + 3) (h1 : PT n x g q z σ0 σ) (h2 : MT n x g z μ0 μ) : R2 (pcall 62 [.ref 24, .int (ι k)] σ) (pcall 225 [.ref 61, .int (ι k)] μ) (XR n x g q z 1 σ0 μ0) := by
  refine R2.lee (M_62 rfl h1.lay) (M_225 rfl h2.lay) ?_
  simp (disch := (simp (disch := omega) only [lv_22, lv_23, lv_43, lv_48, lv_50, lv_52, lv_57, lv_58, lv_59, lv_60, lv_61, lv_62, lv_63, lv_64, lv_65, lv_66, lv_212, lv_218, lv_219, lv_220, lv_221, lv_222, lv_223, lv_224, lv_225, lv_226, lv_227, lv_228, lv_230, lv_231, rk_57, rk_59, rk_60, rk_61, rk_62, rk_63, rk_64, rk_221, rk_223, rk_224, rk_225, rk_226, rk_227, ι_add] <;> omega)) only [gd_pos]
  rw [rk_62 (by omega), rk_225 (by omega)]
  obtain ⟨zc, zm, ec, em, hQ⟩ := prod_ok hq t hk ex iv (by omega) h1 h2
  rw [ec, em]
  rcases hQ with ⟨z1, g1, hm, ⟨v, τ, rfl, q1⟩, ⟨v', μ', rfl, q2⟩⟩ | ⟨c, pl, hm, ⟨v, τ, rfl, f1⟩, ⟨v', μ', rfl, f2⟩⟩
  · rw [bV_ret, bV_ret]
    exact lp62 hq t hk ex iv hm hd (n - z1.1.2.1) z1 τ μ' 0 _ _ (Nat.le_refl _) (Nat.zero_le _) g1 q1 q2
  · rw [bV_ret, bV_ret]
    exact R2.bad (c := c) (pl := pl) hm (f62b hq (by omega) f1) (Wp.of (fm225b (by omega) f2) ⟨_, _, rfl, f2⟩)
end EXPR2
