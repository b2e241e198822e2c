/-! ===== ways over hedges: both sides ===== -/
section REACH
variable {P T : Nat} {W R : Rl} {A B : Wd} {σ τ υ σ0 : pS} {t p o u n q m w : Nat}
theorem ι_or (a b : Nat) : ι a ||| ι b = ι (a ||| b) := by
  rw [← Int32.toBitVec_inj, Int32.toBitVec_or]
  show BitVec.ofNat 32 a ||| BitVec.ofNat 32 b = BitVec.ofNat 32 (a ||| b)
  rw [BitVec.ofNat_or]
theorem ι_and (a b : Nat) : ι a &&& ι b = ι (a &&& b) := by
  rw [← Int32.toBitVec_inj, Int32.toBitVec_and]
  show BitVec.ofNat 32 a &&& BitVec.ofNat 32 b = BitVec.ofNat 32 (a &&& b)
  rw [BitVec.ofNat_and]
set_option maxRecDepth 10000 in
theorem not255 : ∀ b : Nat, b < 256 → ι 255 &&& (ι b ^^^ ν 1) = ι (255 ^^^ b) := by decide +kernel
theorem and255 {a : Nat} (ha : a < 256) : a &&& 255 = a := by
  rw [show 255 = 2 ^ 8 - 1 from rfl, Nat.and_two_pow_sub_one_eq_mod]
  exact Nat.mod_eq_of_lt ha
theorem ι_andn {a b : Nat} (ha : a < 256) (hb : b < 256) : ι a &&& (ι b ^^^ ν 1) = ι (a &&& (255 ^^^ b)) := by
  rw [← ι_and, ← not255 b hb, ← Int32.and_assoc, ι_and, and255 ha]
theorem bit_ι : ∀ p, p < 8 → shl' (ι 1) (ι p) = ι (2 ^ p) := by decide
/-- whom those of m see -/
def nbN (P : Nat) (A : Wd) (m : Nat) : Nat := fd (fun p s => s ||| if m.testBit p = true then seeN A p else 0) P 0
theorem or_lt {a b k : Nat} (ha : a < 2 ^ k) (hb : b < 2 ^ k) : a ||| b < 2 ^ k := Nat.or_lt_two_pow ha hb
theorem nb_lt (h : okW P T A) (m : Nat) : nbN P A m < 2 ^ P := by
  have key : ∀ n, n ≤ P → fd (fun p s => s ||| if m.testBit p = true then seeN A p else 0) n 0 < 2 ^ P := by
    intro n
    induction n with
    | zero => intro _; exact Nat.pos_of_ne_zero (by simp)
    | succ n ih =>
      intro hn
      refine or_lt (ih (by omega)) ?_
      split
      · exact (see_n h (by omega)).2.1
      · exact Nat.pos_of_ne_zero (by simp)
  exact key P (Nat.le_refl _)
/-- a step of all ways, none through w -/
def stN (P : Nat) (A : Wd) (w m : Nat) : Nat := m ||| (nbN P A m &&& (255 ^^^ w))
def itN (P : Nat) (A : Wd) (w p : Nat) (k : Nat) : Nat := fd (fun _ m => stN P A w m) k (2 ^ p)
theorem st_lt (h : okW P T A) {m : Nat} (hm : m < 2 ^ P) : stN P A w m < 2 ^ P := or_lt hm (Nat.lt_of_le_of_lt Nat.and_le_left (nb_lt h m))
theorem it_lt (h : okW P T A) (hp : p < P) (k : Nat) : itN P A w p k < 2 ^ P := by
  induction k with
  | zero => exact Nat.pow_lt_pow_right (by omega) hp
  | succ k ih => exact st_lt h ih
theorem pow8 (hP : P ≤ 8) {m : Nat} (h : m < 2 ^ P) : m < 256 := by
  have h2 : 2 ^ P ≤ 2 ^ 8 := Nat.pow_le_pow_right (by omega) hP
  omega
theorem c124 (h : CW P T W R A σ 25 q) (hm : m < 256) : pcall 124 [.ref 25, .int (ι m)] σ = some (1, .int (ι (nbN P A m)), σ) := by
  have hP := h.1.P
  refine Wp.eqI (Wp.le (M_124 (by decide) rfl h.lay) ?_)
  refine Wp.fdl (n := P) (b0 := 0) (f := fun p s => s ||| if m.testBit p = true then seeN A p else 0) (C := fun t b σ => C_124_4 25 (ι m) (ι b) (ι t) σ) (I := fun τ => τ = σ) ?_ ?_ rfl
  · rintro p τ b hp rfl - k
    refine Wp.le (T_124_4 (by decide) rfl h.lay) ?_
    have k := k τ rfl
    rw [c86 h, bI_ret]
    simp (disch := omega) only [ι_lt_t, ι_lt_f, ι_le_t, ι_le_f, ι_eq_f, ι_m1, ι_add, ι_mul, ι_pm, ι_sub, ix_ι, gd_inb, gd_t, eq_self, if_true, if_false, not_true_eq_false, not_false_eq_true, ite_self, ]
    rw [p168 h.lay (by omega), bI_ret, tb_ι (by omega) (by omega), c78 h hp, (see_n h.1 hp).1]
    by_cases e : m.testBit p = true
    · rw [e, bz_t, if_neg (by decide), bI_ret, ι_or]
      rw [if_pos e] at k; exact k
    · have e' : m.testBit p = false := by simpa using e
      rw [e', bz_f, if_pos rfl, ι_or]
      rw [if_neg e] at k; exact k
  · rintro τ rfl
    refine Wp.le (T_124_4 (by decide) rfl h.lay) ?_
    rw [c86 h, bI_ret]
    simp (disch := omega) only [ι_lt_t, ι_lt_f, ι_le_t, ι_le_f, ι_eq_f, ι_m1, ι_add, ι_mul, ι_pm, ι_sub, ix_ι, gd_inb, gd_t, eq_self, if_true, if_false, not_true_eq_false, not_false_eq_true, ite_self, ]
    exact Wp.retI rfl
theorem c123 (h : CW P T W R A σ 25 q) (hp : p < P) (hw : w < 256) : pcall 123 [.ref 25, .int (ι p), .int (ι w)] σ = some (1, .int (ι (itN P A w p 8)), σ) := by
  have hP := h.1.P
  refine Wp.eqI (Wp.le (M_123 (by decide) rfl h.lay) ?_)
  rw [bit_ι p (by omega)]
  refine Wp.loop (α := Unit) 8 (fun k _ => C_123_7 25 (.int (ι p)) (ι w) (ι (itN P A w p k)) (ι k) σ) (fun _ _ => True) ?_ ?_ (t := 0) (a := ()) (Nat.zero_le _) trivial
  · intro k _ hk _ k2
    refine Wp.le (T_123_7 (by decide) rfl h.lay) ?_
    have hi := pow8 hP (it_lt (w := w) h.1 hp k)
    have hn := pow8 hP (nb_lt h.1 (itN P A w p k))
    simp (disch := omega) only [ι_lt_t, ι_lt_f, ι_le_t, ι_le_f, ι_eq_f, ι_m1, ι_add, ι_mul, ι_pm, ι_sub, ix_ι, gd_inb, gd_t, eq_self, if_true, if_false, not_true_eq_false, not_false_eq_true, ite_self, ]
    rw [c124 h hi, bI_ret, ι_andn hn hw, ι_or]
    exact k2 () trivial
  · intro _ _
    refine Wp.le (T_123_7 (by decide) rfl h.lay) ?_
    simp (disch := omega) only [ι_lt_t, ι_lt_f, ι_le_t, ι_le_f, ι_eq_f, ι_m1, ι_add, ι_mul, ι_pm, ι_sub, ix_ι, gd_inb, gd_t, eq_self, if_true, if_false, not_true_eq_false, not_false_eq_true, ite_self, ]
    exact Wp.retI rfl
/-- a set grows, or it stays -/
theorem cnt_mono {n : Nat} {f g : Nat → Bool} (h : ∀ k, k < n → f k = true → g k = true) : fd (fun k s => s + if f k = true then 1 else 0) n 0 ≤ fd (fun k s => s + if g k = true then 1 else 0) n 0 ∧ (fd (fun k s => s + if f k = true then 1 else 0) n 0 = fd (fun k s => s + if g k = true then 1 else 0) n 0 → ∀ k, k < n → f k = g k) := by
  induction n with
  | zero => exact ⟨Nat.le_refl _, fun _ k hk => absurd hk (Nat.not_lt_zero k)⟩
  | succ n ih =>
    obtain ⟨a, b⟩ := ih (fun k hk => h k (by omega))
    show fd _ n 0 + _ ≤ fd _ n 0 + _ ∧ (fd _ n 0 + _ = fd _ n 0 + _ → _)
    have hn := h n (by omega)
    cases ef : f n with
    | false =>
      cases eg : g n with
      | false =>
        refine ⟨by simp; exact a, fun e k hk => ?_⟩
        by_cases ek : k = n
        · rw [ek, ef, eg]
        · exact b (by simpa using e) k (by omega)
      | true =>
        refine ⟨by simp; omega, fun e => ?_⟩
        simp at e; omega
    | true =>
      rw [hn ef]
      refine ⟨by simp; exact a, fun e k hk => ?_⟩
      by_cases ek : k = n
      · rw [ek, ef, hn ef]
      · exact b (by simpa using e) k (by omega)
theorem pc_or {a b : Nat} (ha : a < 256) (hb : b < 256) : pc a ≤ pc (a ||| b) ∧ (pc a = pc (a ||| b) → a ||| b = a) := by
  obtain ⟨h1, h2⟩ := cnt_mono (n := 12) (f := fun k => a.testBit k) (g := fun k => (a ||| b).testBit k) (fun k _ hk => by simp [Nat.testBit_or, hk])
  refine ⟨h1, fun e => ?_⟩
  have h3 := h2 e
  refine Nat.eq_of_testBit_eq fun k => ?_
  by_cases hk : k < 12
  · exact (h3 k hk).symm
  · have hp : 2 ^ 8 ≤ 2 ^ k := Nat.pow_le_pow_right (by omega) (by omega)
    have ho : a ||| b < 2 ^ 8 := or_lt ha hb
    rw [Nat.testBit_lt_two_pow (by omega), Nat.testBit_lt_two_pow (by omega)]
set_option maxRecDepth 10000 in
theorem pc_8 : ∀ m : Nat, m < 256 → pc m ≤ 8 := by decide +kernel
theorem pc_p : ∀ p, p < 8 → pc (2 ^ p) = 1 := by decide
theorem it_s (k : Nat) : itN P A w p (k + 1) = stN P A w (itN P A w p k) := rfl
/-- behind 7 steps nothing grows any more -/
theorem it_fix (h : okW P T A) (hp : p < P) : ∀ k, 7 ≤ k → itN P A w p (k + 1) = itN P A w p k := by
  have hP := h.P
  have lt := fun k => pow8 hP (it_lt (w := w) h hp k)
  have stay : ∀ j k, itN P A w p (j + 1) = itN P A w p j → itN P A w p (j + k + 1) = itN P A w p (j + k) := by
    intro j k e
    induction k with
    | zero => exact e
    | succ k ih =>
      have e1 : itN P A w p (j + (k + 1) + 1) = stN P A w (itN P A w p (j + k + 1)) := rfl
      have e2 : itN P A w p (j + (k + 1)) = stN P A w (itN P A w p (j + k)) := rfl
      rw [e1, e2, ih]
  have grow : ∀ k, (∃ j, j < k ∧ itN P A w p (j + 1) = itN P A w p j) ∨ k + 1 ≤ pc (itN P A w p k) := by
    intro k
    induction k with
    | zero => right; show 1 ≤ pc (2 ^ p); rw [pc_p p (by omega)]; exact Nat.le_refl _
    | succ k ih =>
      rcases ih with ⟨j, hj, e⟩ | h1
      · left; exact ⟨j, by omega, e⟩
      · have hn : nbN P A (itN P A w p k) &&& (255 ^^^ w) < 256 := Nat.lt_of_le_of_lt Nat.and_le_left (pow8 hP (nb_lt h _))
        obtain ⟨h2, h3⟩ := pc_or (lt k) hn
        by_cases e : pc (itN P A w p k) = pc (itN P A w p (k + 1))
        · left; exact ⟨k, by omega, h3 e⟩
        · right
          have : pc (itN P A w p k) ≤ pc (itN P A w p (k + 1)) := h2
          omega
  intro k hk
  rcases grow 8 with ⟨j, hj, e⟩ | h1
  · have := stay j (k - j) e
    rwa [show j + (k - j) = k by omega] at this
  · have := pc_8 _ (lt 8); omega
theorem it_ge (h : okW P T A) (hp : p < P) {j k : Nat} (e : itN P A w p (j + 1) = itN P A w p j) (hk : j ≤ k) : itN P A w p k = itN P A w p j := by
  induction hk with
  | refl => rfl
  | step hk ih => rw [it_s, ih, ← it_s, e]
/-- what the reference's inner loop does -/
theorem in_st (n a : Nat) (h255 : ∀ p, p < n → seeN A p < 256) : fd (fun o s => if m.testBit o = true then s ||| (seeN A o &&& (255 ^^^ w)) else s) n a = a ||| (fd (fun p s => s ||| if m.testBit p = true then seeN A p else 0) n 0 &&& (255 ^^^ w)) := by
  induction n with
  | zero => show a = a ||| (0 &&& _); simp
  | succ n ih =>
    have ih := ih (fun p hp => h255 p (by omega))
    show (if m.testBit n = true then fd _ n a ||| (seeN A n &&& (255 ^^^ w)) else fd _ n a) = a ||| ((fd _ n 0 ||| if m.testBit n = true then seeN A n else 0) &&& (255 ^^^ w))
    rw [ih]
    by_cases e : m.testBit n = true
    · rw [if_pos e, if_pos e]
      refine Nat.eq_of_testBit_eq fun k => ?_
      simp only [Nat.testBit_or, Nat.testBit_and]
      cases a.testBit k <;> cases (255 ^^^ w).testBit k <;> simp
    · rw [if_neg e, if_neg e, Nat.or_zero]
theorem m256i (h : CM P T W R A σ) (hm : m < 256) (hw : w < 256) {v : Value} {a : Nat} (ha : a < 256) {Q : pZ → Prop} (k : ∀ g, Wp (C_256_7 v (ι w) (ι (a ||| (nbN P A m &&& (255 ^^^ w)))) (ι m) g σ) Q) : Wp (C_256_19 v (ι w) (ι a) (ι m) (ι 0) σ) Q := by
  have hP := h.ok.P
  refine Wp.fdl (n := P) (b0 := a) (f := fun o s => if m.testBit o = true then s ||| (seeN A o &&& (255 ^^^ w)) else s) (C := fun o b σ => C_256_19 v (ι w) (ι b) (ι m) (ι o) σ) (I := fun τ => τ = σ) ?_ ?_ rfl
  · rintro o τ b ho rfl - k2
    have k2 := k2 τ rfl
    obtain ⟨e1, _, e2⟩ := see_n h.ok ho
    refine Wp.le (T_256_19 rfl h.lay) ?_
    rw [h.P]
    simp (disch := omega) only [ι_lt_t, ι_lt_f, ι_le_t, ι_le_f, ι_eq_f, ι_m1, ι_add, ι_mul, ι_pm, ι_sub, ix_ι, gd_inb, gd_t, eq_self, if_true, if_false, not_true_eq_false, not_false_eq_true, ite_self, ]
    rw [p236 h.lay (by omega), bI_ret, tb_ι (by omega) (by omega)]
    by_cases e : m.testBit o = true
    · rw [e, bz_t, if_neg (by decide)]
      rw [if_pos e] at k2
      simp (disch := omega) only [ι_lt_t, ι_lt_f, ι_le_t, ι_le_f, ι_eq_f, ι_m1, ι_add, ι_mul, ι_pm, ι_sub, ix_ι, gd_inb, gd_t, eq_self, if_true, if_false, not_true_eq_false, not_false_eq_true, ite_self, h.see o ho, e1]
      rw [ι_andn e2 hw, ι_or]
      exact k2
    · have e' : m.testBit o = false := by simpa using e
      rw [e', bz_f, if_pos rfl]
      rw [if_neg e] at k2
      exact k2
  · rintro τ rfl
    refine Wp.le (T_256_19 rfl h.lay) ?_
    rw [h.P]
    simp (disch := omega) only [ι_lt_t, ι_lt_f, ι_le_t, ι_le_f, ι_eq_f, ι_m1, ι_add, ι_mul, ι_pm, ι_sub, ix_ι, gd_inb, gd_t, eq_self, if_true, if_false, not_true_eq_false, not_false_eq_true, ite_self, ]
    rw [in_st P a (fun p hp => (see_n h.ok hp).2.2)]
    exact k _
theorem m256 (h : CM P T W R A σ) (hp : p < P) (hw : w < 256) : pcall 256 [.ref 61, .int (ι p), .int (ι w)] σ = some (1, .int (ι (itN P A w p 8)), σ) := by
  have hP := h.ok.P
  have lt := fun k => pow8 hP (it_lt (w := w) h.ok hp k)
  refine Wp.eqI (Wp.le (M_256 rfl h.lay) ?_)
  rw [bit_ι p (by omega)]
  -- from a set and the one ahead of it
  have key : ∀ j k g, k + j = 9 → (∀ i, i + 1 < k → itN P A w p (i + 1) ≠ itN P A w p i) → 1 ≤ k → Wp (C_256_7 (.int (ι p)) (ι w) (ι (itN P A w p k)) (ι (itN P A w p (k - 1))) g σ) (RI (ι (itN P A w p 8)) (fun τ => τ = σ)) := by
    intro j
    induction j with
    | zero =>
      intro k g hk hne h1
      have e := it_fix (w := w) h.ok hp 8 (by omega)
      have hk9 : k = 9 := by omega
      subst hk9
      refine Wp.le (T_256_7 rfl h.lay) ?_
      rw [show (9 : Nat) - 1 = 8 from rfl, e, if_pos rfl]
      exact Wp.retI rfl
    | succ j ih =>
      intro k g hk hne h1
      refine Wp.le (T_256_7 rfl h.lay) ?_
      have ek : k - 1 + 1 = k := by omega
      by_cases e : itN P A w p k = itN P A w p (k - 1)
      · rw [e, if_pos rfl]
        refine Wp.retI' ?_ rfl
        have := it_ge (w := w) h.ok hp (j := k - 1) (k := 8) (by rw [ek]; exact e) (by omega)
        rw [this]
      · rw [if_neg (by rw [ι_eq (by have := lt k; omega) (by have := lt (k - 1); omega)]; exact e)]
        refine m256i h (lt k) hw (lt k) fun g' => ?_
        have := ih (k + 1) g' (by omega) (fun i hi => by
          by_cases e2 : i + 1 < k
          · exact hne i e2
          · have : i = k - 1 := by omega
            subst this
            rw [ek]; exact e) (by omega)
        exact this
  -- the first turn: nothing is ahead
  refine Wp.le (T_256_7 rfl h.lay) ?_
  have hp2 : 2 ^ p < 256 := pow8 hP (it_lt (w := w) h.ok hp 0)
  rw [if_neg (by rw [ι_eq (by omega) (by omega)]; exact Nat.pos_iff_ne_zero.mp (Nat.pos_of_ne_zero (by simp)))]
  refine m256i h hp2 hw hp2 fun g' => ?_
  exact key 8 1 g' (by omega) (fun i hi => by omega) (by omega)
end REACH
