/-! ===== what a rule gives: both stacks do what rrun says ===== -/
section RULEV
variable {σ : pS} {u a0 : Nat}
theorem op_lit {k : Nat} (hk : k < 9) : (ν 20 - ι k : Int32) = ν 20 ∧ k = 0 ∨ (ν 20 - ι k : Int32) = ν 21 ∧ k = 1 ∨ (ν 20 - ι k : Int32) = ν 22 ∧ k = 2 ∨ (ν 20 - ι k : Int32) = ν 23 ∧ k = 3 ∨ (ν 20 - ι k : Int32) = ν 24 ∧ k = 4 ∨ (ν 20 - ι k : Int32) = ν 25 ∧ k = 5 ∨ (ν 20 - ι k : Int32) = ν 26 ∧ k = 6 ∨ (ν 20 - ι k : Int32) = ν 27 ∧ k = 7 ∨ (ν 20 - ι k : Int32) = ν 28 ∧ k = 8 := by
  revert k
  decide
theorem p19 (hL : LayR (gR σ)) {s : Int32} (hs : s = ν 20 ∨ s = ν 21 ∨ s = ν 23 ∨ s = ν 24 ∨ s = ν 25 ∨ s = ν 26 ∨ s = ν 27 ∨ s = ν 28) (a b : Int32) : pcall 19 [.int s, .int a, .int b] σ = some (1, .int (joinS s a b), σ) := by
  refine (M_19 rfl hL).eq ?_
  unfold joinS
  rcases hs with rfl | rfl | rfl | rfl | rfl | rfl | rfl | rfl
  · simp (decide := true) only [if_true, if_false]
    by_cases h2 : a = ι 0 <;> by_cases h3 : b = ι 0 <;> simp [h2, h3, bz]
  · simp (decide := true) only [if_true, if_false]
    by_cases h2 : a = ι 0 <;> by_cases h3 : b = ι 0 <;> simp [h2, h3, bz]
  · simp (decide := true) only [if_true, if_false]
    by_cases h2 : a < b
    · rw [if_neg (Int32.not_le.mpr h2)]; simp [h2, bz]
    · rw [if_pos (Int32.not_lt.mp h2)]; simp [h2, bz]
  · simp (decide := true) only [if_true, if_false]
    by_cases h2 : a = b <;> simp [h2, bz]
  · simp (decide := true) only [if_true, if_false]
  · simp (decide := true) only [if_true, if_false]
  · simp (decide := true) only [if_true, if_false]
  · simp (decide := true) only [if_true, if_false]
    rw [gd_pos (by decide)]
    by_cases h3 : b = ι 0 <;> simp [h3, gd]
/-- the reference's sign of a step -/
def trS (s : Int32) : Int32 := if s = ν 20 then ν 27 else if s = ν 21 then ν 26 else if s = ν 22 then ν 28 else if s = ν 23 then ν 24 else if s = ν 24 then ν 25 else if s = ν 25 then ν 20 else if s = ν 26 then ν 21 else if s = ν 27 then ν 22 else if s = ν 28 then ν 23 else s
theorem p249 (hL : LayR (gR σ)) {s : Int32} (hs : s = ν 20 ∨ s = ν 21 ∨ s = ν 23 ∨ s = ν 24 ∨ s = ν 25 ∨ s = ν 26 ∨ s = ν 27 ∨ s = ν 28) (a b : Int32) : pcall 249 [.int (trS s), .int a, .int b] σ = some (1, .int (joinS s a b), σ) := by
  refine (M_249 rfl hL).eq ?_
  unfold joinS trS
  rcases hs with rfl | rfl | rfl | rfl | rfl | rfl | rfl | rfl
  · simp (decide := true) only [if_true, if_false]
    rw [gd_pos (by decide)]
    by_cases h2 : a = ι 0 <;> by_cases h3 : b = ι 0 <;> simp [h2, h3, bz]
  · simp (decide := true) only [if_true, if_false]
    by_cases h2 : a = ι 0 <;> by_cases h3 : b = ι 0 <;> simp [h2, h3, bz]
  · simp (decide := true) only [if_true, if_false]
    by_cases h2 : a < b
    · rw [if_neg (Int32.not_le.mpr h2)]; simp [h2, bz]
    · rw [if_pos (Int32.not_lt.mp h2)]; simp [h2, bz]
  · simp (decide := true) only [if_true, if_false]
    by_cases h2 : a = b <;> simp [h2, bz]
  · simp (decide := true) only [if_true, if_false]
  · simp (decide := true) only [if_true, if_false]
  · simp (decide := true) only [if_true, if_false]
  · simp (decide := true) only [if_true, if_false]
    by_cases h3 : b = ι 0 <;> simp [h3, gd]
theorem num_m1 (n : Nat) (h : n < 10000) : (ν 1 - ι n : Int32) < ι 0 ∧ ¬ (ι n < ν 8) ∧ ¬ (ι n ≤ ν 20) := by
  refine ⟨?_, fun g => ?_, fun g => ?_⟩
  · rw [Int32.lt_iff_toInt_lt, Int32.toInt_sub, show (ι n).toInt = (n : Int) from Int32.toInt_ofNat_of_lt (by omega), show (ν 1).toInt = -1 by decide, show (ι 0).toInt = 0 by decide]
    rw [Int.bmod_eq_of_le (by simp [Int32.size]; omega) (by simp [Int32.size]; omega)]
    omega
  · have h1 := Int32.lt_trans g (show ν 8 < ι 0 by decide)
    rw [ι_lt_f (by omega) (by omega)] at h1; exact h1
  · have h1 := Int32.lt_of_le_of_lt g (show ν 20 < ι 0 by decide)
    rw [ι_lt_f (by omega) (by omega)] at h1; exact h1
theorem fact_m1 : ∀ k : Nat, k < 8 → (ν 1 - (ν 1 - ι k) : Int32) = ι k ∧ ¬ ((ν 1 - ι k : Int32) < ν 8) ∧ (ν 1 - ι k : Int32) < ι 0 ∧ ¬ ((ν 1 - ι k : Int32) ≤ ν 20) := by decide
/-- the place on the stack that a step writes, and what -/
def wpl (s : Int32) (d : Nat) : Nat := match stk s with
  | 0 => d
  | 1 => d - 1
  | _ => d - 2
def wvl (f : Nat → Int32) (s : Int32) (d : Nat) (g : Nat → Int32) : Int32 := match stk s with
  | 0 => if s < ι 0 then f (ix (ν 1 - s)) else s
  | 1 => if g (d - 1) = ι 0 then ι 1 else ι 0
  | _ => joinS s (g (d - 2)) (g (d - 1))
theorem wpl_0 {s : Int32} {d : Nat} (h : stk s = 0) : wpl s d = d := by simp only [wpl, h]
theorem wpl_1 {s : Int32} {d : Nat} (h : stk s = 1) : wpl s d = d - 1 := by simp only [wpl, h]
theorem wpl_2 {s : Int32} {d : Nat} (h : stk s = 2) : wpl s d = d - 2 := by simp only [wpl, h]
theorem wvl_0 {f : Nat → Int32} {s : Int32} {d : Nat} {g : Nat → Int32} (h : stk s = 0) : wvl f s d g = if s < ι 0 then f (ix (ν 1 - s)) else s := by simp only [wvl, h]
theorem wvl_1 {f : Nat → Int32} {s : Int32} {d : Nat} {g : Nat → Int32} (h : stk s = 1) : wvl f s d g = if g (d - 1) = ι 0 then ι 1 else ι 0 := by simp only [wvl, h]
theorem wvl_2 {f : Nat → Int32} {s : Int32} {d : Nat} {g : Nat → Int32} (h : stk s = 2) : wvl f s d g = joinS s (g (d - 2)) (g (d - 1)) := by simp only [wvl, h]
theorem rrun_s (L f : Nat → Int32) (i : Nat) : rrun L f (i + 1) = (dpt L (i + 1), st1 (rrun L f i).2 (wpl (L i) (dpt L i)) (wvl f (L i) (dpt L i) (rrun L f i).2)) := by
  show rstp f (L i) (rrun L f i) = _
  unfold rstp wpl wvl
  have h1 := rrun_1 L f i
  show (match stk (L i) with | 0 => _ | 1 => _ | _ => _) = (match stk (L i) with | 0 => _ | 1 => _ | _ => _, _)
  rw [h1]
  cases stk (L i) with
  | zero => rfl
  | succ n => cases n <;> rfl
/-- what stands on the stack -/
def onS (σ : pS) (c : Nat) (x : Nat × (Nat → Int32)) : Prop := ∀ j, j < x.1 → gI σ c j = x.2 j
theorem wf_at {ok : Nat → Bool} {W : Rl} (h : wfr ok W) {i : Nat} (hi : i < W.1) :
    (∃ n, n < 10000 ∧ W.2 i = ι n ∧ stk (W.2 i) = 0 ∧ dpt W.2 i < 64 ∧ dpt W.2 (i + 1) = dpt W.2 i + 1) ∨
    (∃ k, k < 8 ∧ ok k = true ∧ W.2 i = ν 1 - ι k ∧ stk (W.2 i) = 0 ∧ dpt W.2 i < 64 ∧ dpt W.2 (i + 1) = dpt W.2 i + 1) ∨
    (W.2 i = ν 22 ∧ stk (W.2 i) = 1 ∧ 1 ≤ dpt W.2 i ∧ dpt W.2 (i + 1) = dpt W.2 i) ∨
    ((W.2 i = ν 20 ∨ W.2 i = ν 21 ∨ W.2 i = ν 23 ∨ W.2 i = ν 24 ∨ W.2 i = ν 25 ∨ W.2 i = ν 26 ∨ W.2 i = ν 27 ∨ W.2 i = ν 28) ∧ stk (W.2 i) = 2 ∧ 2 ≤ dpt W.2 i ∧ dpt W.2 (i + 1) = dpt W.2 i - 1) := by
  obtain ⟨h1, h2⟩ := h.2.1 i hi
  rcases h1 with ⟨n, hn, e⟩ | ⟨k, hk, ho, e⟩ | ⟨k, hk, e⟩
  · left
    have hs : stk (W.2 i) = 0 := by unfold stk; rw [e, if_neg (num_m1 n hn).2.1]
    rw [hs] at h2
    exact ⟨n, hn, e, hs, h2, by simp only [dpt, hs]⟩
  · right; left
    have hs : stk (W.2 i) = 0 := by unfold stk; rw [e, if_neg (fact_m1 k hk).2.1]
    rw [hs] at h2
    exact ⟨k, hk, ho, e, hs, h2, by simp only [dpt, hs]⟩
  · right; right
    by_cases hk2 : k = 2
    · left
      subst hk2
      have e' : W.2 i = ν 22 := e
      have hs : stk (W.2 i) = 1 := by rw [e']; decide
      rw [hs] at h2
      exact ⟨e', hs, h2, by simp only [dpt, hs]⟩
    · right
      have e' : W.2 i = ν 20 ∨ W.2 i = ν 21 ∨ W.2 i = ν 23 ∨ W.2 i = ν 24 ∨ W.2 i = ν 25 ∨ W.2 i = ν 26 ∨ W.2 i = ν 27 ∨ W.2 i = ν 28 := by
        rw [e]
        rcases op_lit hk with ⟨e1, e2⟩ | ⟨e1, e2⟩ | ⟨e1, e2⟩ | ⟨e1, e2⟩ | ⟨e1, e2⟩ | ⟨e1, e2⟩ | ⟨e1, e2⟩ | ⟨e1, e2⟩ | ⟨e1, e2⟩ <;> simp [e1] <;> omega
      have hs : stk (W.2 i) = 2 := by rcases e' with e' | e' | e' | e' | e' | e' | e' | e' <;> rw [e'] <;> decide
      rw [hs] at h2
      exact ⟨e', hs, h2, by simp only [dpt, hs]⟩
theorem onS_st {τ : pS} {c : Nat} {L f : Nat → Int32} {i : Nat} (h : onS τ c (rrun L f i)) {k : Nat} {x : Int32} (hk : k = wpl (L i) (dpt L i)) (hx : x = wvl f (L i) (dpt L i) (rrun L f i).2) (hd : ∀ j, j < dpt L (i + 1) → j ≠ wpl (L i) (dpt L i) → j < dpt L i) : onS (sI τ c k x) c (rrun L f (i + 1)) := by
  subst hk; subst hx
  intro j hj
  rw [rrun_s] at hj ⊢
  rw [gI_sI, if_pos rfl]
  show _ = st1 _ _ _ j
  unfold st1
  by_cases e : j = wpl (L i) (dpt L i)
  · rw [if_pos e, if_pos e]
  · rw [if_neg e, if_neg e]
    refine h j ?_
    rw [rrun_1]
    exact hd j hj e
set_option maxHeartbeats 2000000 in
theorem c18 {ok : Nat → Bool} {W : Rl} (hu : isU u) (hL : LayR (gR σ)) (hR : hasR σ u ok W) (hW : 0 < W.1) (ha : kd a0 = (100, 8)) (hn : a0 ≠ u + 2) : Wp (pcall 18 [.ref u, .ref a0] σ) (RI (valS W (gI σ a0)) (Fr (fun a => a = u + 2) σ)) := by
  obtain ⟨hw, hlen, -, hst, -⟩ := hR
  have h700 := hw.1
  refine Wp.le (M_18 hu ha rfl hL) ?_
  have u1 : ¬ u + 1 = u + 2 := by omega
  have u0 : ¬ u = u + 2 := by omega
  refine Wp.loop (α := (Value × Value × Value) × pS) (Q := RI (valS W (gI σ a0)) (Fr (fun a => a = u + 2) σ)) W.1 (fun t x => C_18_4 u a0 8 (ι (dpt W.2 t)) (ι t) x.1.1 x.1.2.1 x.1.2.2 x.2) (fun t x => Fr (fun a => a = u + 2) σ x.2 ∧ onS x.2 (u + 2) (rrun W.2 (gI σ a0) t)) ?_ ?_ (t := 0) (a := ((.retAddr 0, .retAddr 0, .retAddr 0), σ)) (Nat.zero_le _) ⟨Fr.refl, fun j hj => absurd hj (Nat.not_lt_zero j)⟩
  · rintro t ⟨⟨v4, v5, v6⟩, τ⟩ ht ⟨hf, ho⟩ k
    have hL' : LayR (gR τ) := by rw [hf.r]; exact hL
    have e1 : gI τ u 1 = ι W.1 := by rw [hf.i u0]; exact hlen
    have e2 : gI τ (u + 1) t = W.2 t := by rw [hf.i u1]; exact hst t ht
    have e3 : gI τ a0 = gI σ a0 := funext fun j => hf.i hn j
    refine Wp.le (T_18_4 hu ha rfl hL') ?_
    rw [e1]
    have hdd : ∀ j, j < dpt W.2 t → gI τ (u + 2) j = (rrun W.2 (gI σ a0) t).2 j := fun j hj => ho j (by rw [rrun_1]; exact hj)
    rcases wf_at hw ht with ⟨n, hn1, e, hs, hd, hd1⟩ | ⟨n, hn1, -, e, hs, hd, hd1⟩ | ⟨e, hs, hd, hd1⟩ | ⟨e, hs, hd, hd1⟩
    · obtain ⟨x1, x2, -⟩ := num_m1 n hn1
      simp (disch := omega) only [ι_lt_t, ι_lt_f, ι_le_t, ι_le_f, ι_eq_f, ι_m1, ι_add, ι_mul, ι_pm, ι_sub, ix_ι, gd_inb, gd_t, eq_self, if_true, if_false, not_true_eq_false, not_false_eq_true, ite_self, e2, e, x1, x2]
      refine Wp.le (T_18_59 hu ha rfl hL') ?_
      simp (disch := omega) only [ι_lt_t, ι_lt_f, ι_le_t, ι_le_f, ι_eq_f, ι_m1, ι_add, ι_mul, ι_pm, ι_sub, ix_ι, gd_inb, gd_t, eq_self, if_true, if_false, not_true_eq_false, not_false_eq_true, ite_self, ]
      have := k ((.int (W.2 t), .int (ν 1 - ι n), .int (ι 0)), sI τ (u + 2) (dpt W.2 t) (ι n)) ⟨hf.mI rfl, onS_st ho (wpl_0 hs).symm (by rw [wvl_0 hs, e]; simp (disch := omega) only [ι_lt_t, ι_lt_f, ι_le_t, ι_le_f, ι_eq_f, ι_m1, ι_add, ι_mul, ι_pm, ι_sub, ix_ι, gd_inb, gd_t, eq_self, if_true, if_false, not_true_eq_false, not_false_eq_true, ite_self, ]) (by rw [wpl_0 hs, hd1]; intro j; omega)⟩
      simp only [hd1, e] at this
      exact this
    · obtain ⟨x1, x2, x3, -⟩ := fact_m1 n hn1
      simp (disch := omega) only [ι_lt_t, ι_lt_f, ι_le_t, ι_le_f, ι_eq_f, ι_m1, ι_add, ι_mul, ι_pm, ι_sub, ix_ι, gd_inb, gd_t, eq_self, if_true, if_false, not_true_eq_false, not_false_eq_true, ite_self, e2, e, x1, x2]
      refine Wp.le (T_18_59 hu ha rfl hL') ?_
      simp (disch := omega) only [ι_lt_t, ι_lt_f, ι_le_t, ι_le_f, ι_eq_f, ι_m1, ι_add, ι_mul, ι_pm, ι_sub, ix_ι, gd_inb, gd_t, eq_self, if_true, if_false, not_true_eq_false, not_false_eq_true, ite_self, e3]
      have := k ((.int (W.2 t), .int (ι n), .int (ι 1)), sI τ (u + 2) (dpt W.2 t) (gI σ a0 n)) ⟨hf.mI rfl, onS_st ho (wpl_0 hs).symm (by rw [wvl_0 hs, e, if_pos x3, x1, ix_ι (by omega)]) (by rw [wpl_0 hs, hd1]; intro j; omega)⟩
      simp only [hd1, e] at this
      exact this
    · have hd64 : dpt W.2 t ≤ 64 := by rcases hw.2.2.2 t with h | h <;> omega
      have x1 : (ν 22 < ν 8) := by decide
      simp (disch := omega) only [ι_lt_t, ι_lt_f, ι_le_t, ι_le_f, ι_eq_f, ι_m1, ι_add, ι_mul, ι_pm, ι_sub, ix_ι, gd_inb, gd_t, eq_self, if_true, if_false, not_true_eq_false, not_false_eq_true, ite_self, e2, e, x1]
      rw [hdd _ (by omega)]
      have h1 := onS_st (k := dpt W.2 t - 1) (x := if (rrun W.2 (gI σ a0) t).2 (dpt W.2 t - 1) = ι 0 then ι 1 else ι 0) ho (wpl_1 hs).symm (wvl_1 hs).symm (by rw [wpl_1 hs, hd1]; intro j; omega)
      by_cases hz : (rrun W.2 (gI σ a0) t).2 (dpt W.2 t - 1) = ι 0
      · rw [if_pos hz] at h1
        have hz' : (rrun W.2 (gI σ a0) t).2 (dpt W.2 t - 1) = ι 0 := hz
        simp (disch := omega) only [ι_lt_t, ι_lt_f, ι_le_t, ι_le_f, ι_eq_f, ι_m1, ι_add, ι_mul, ι_pm, ι_sub, ix_ι, gd_inb, gd_t, eq_self, if_true, if_false, not_true_eq_false, not_false_eq_true, ite_self, hz']
        have := k ((.int (W.2 t), v5, v6), _) ⟨hf.mI rfl, h1⟩
        simp only [hd1, e] at this
        exact this
      · rw [if_neg hz] at h1
        have hz' : ¬ (rrun W.2 (gI σ a0) t).2 (dpt W.2 t - 1) = ι 0 := hz
        simp (disch := omega) only [ι_lt_t, ι_lt_f, ι_le_t, ι_le_f, ι_eq_f, ι_m1, ι_add, ι_mul, ι_pm, ι_sub, ix_ι, gd_inb, gd_t, eq_self, if_true, if_false, not_true_eq_false, not_false_eq_true, ite_self, hz']
        have := k ((.int (W.2 t), v5, v6), _) ⟨hf.mI rfl, h1⟩
        simp only [hd1, e] at this
        exact this
    · have hd64 : dpt W.2 t ≤ 64 := by rcases hw.2.2.2 t with h | h <;> omega
      have x1 : (W.2 t < ν 8) ∧ ¬ (W.2 t = ν 22) := by rcases e with e | e | e | e | e | e | e | e <;> rw [e] <;> decide
      have hsub : dpt W.2 t - 1 - 1 = dpt W.2 t - 2 := by omega
      simp (disch := omega) only [ι_lt_t, ι_lt_f, ι_le_t, ι_le_f, ι_eq_f, ι_m1, ι_add, ι_mul, ι_pm, ι_sub, ix_ι, gd_inb, gd_t, eq_self, if_true, if_false, not_true_eq_false, not_false_eq_true, ite_self, e2, x1.1, x1.2, hsub]
      rw [hdd _ (by omega), hdd _ (by omega), p19 hL' e]
      simp (disch := omega) only [ι_lt_t, ι_lt_f, ι_le_t, ι_le_f, ι_eq_f, ι_m1, ι_add, ι_mul, ι_pm, ι_sub, ix_ι, gd_inb, gd_t, eq_self, if_true, if_false, not_true_eq_false, not_false_eq_true, ite_self, bI_ret, bJ_ret, bA_ret, bV_ret, bI_thr, bV_thr, bA_thr, hsub]
      have := k ((.int (W.2 t), v5, v6), sI τ (u + 2) (dpt W.2 t - 2) (joinS (W.2 t) ((rrun W.2 (gI σ a0) t).2 (dpt W.2 t - 2)) ((rrun W.2 (gI σ a0) t).2 (dpt W.2 t - 1)))) ⟨hf.mI rfl, onS_st ho (wpl_2 hs).symm (wvl_2 hs).symm (by rw [wpl_2 hs, hd1]; intro j; omega)⟩
      simp only [hd1] at this
      exact this
  · rintro ⟨⟨v4, v5, v6⟩, τ⟩ ⟨hf, ho⟩
    have hL' : LayR (gR τ) := by rw [hf.r]; exact hL
    have e1 : gI τ u 1 = ι W.1 := by rw [hf.i u0]; exact hlen
    have hd1 := hw.2.2.1 hW
    refine Wp.le (T_18_4 hu ha rfl hL') ?_
    rw [e1]
    simp (disch := omega) only [ι_lt_t, ι_lt_f, ι_le_t, ι_le_f, ι_eq_f, ι_m1, ι_add, ι_mul, ι_pm, ι_sub, ix_ι, gd_inb, gd_t, eq_self, if_true, if_false, not_true_eq_false, not_false_eq_true, ite_self, hd1]
    refine Wp.le (T_18_198 hu ha rfl hL') ?_
    simp (disch := omega) only [ι_lt_t, ι_lt_f, ι_le_t, ι_le_f, ι_eq_f, ι_m1, ι_add, ι_mul, ι_pm, ι_sub, ix_ι, gd_inb, gd_t, eq_self, if_true, if_false, not_true_eq_false, not_false_eq_true, ite_self, ]
    refine Wp.retI' ?_ hf
    exact ho 0 (by rw [rrun_1, hd1]; omega)
end RULEV
