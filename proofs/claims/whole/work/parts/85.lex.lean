/-! ===== bytes, words, tokens: both sides ===== -/
section LEX
variable {σ τ υ σ0 : pS} {n k b e i j c w i1 : Nat} {x : Nat → Nat} {tk : Nat × Nat × Nat}
/-- of what kind a byte is: 1 of a word, 2 of a number, 3 a sign, 4 blank, 5 another -/
def chK (c : Nat) : Nat := if 97 ≤ c ∧ c ≤ 122 then 1 else if 48 ≤ c ∧ c ≤ 57 then 2 else if c = 32 ∨ c = 10 then 4 else if c = 59 ∨ c = 40 ∨ c = 41 ∨ c = 43 ∨ c = 45 ∨ c = 42 ∨ c = 47 ∨ c = 60 ∨ c = 61 then 3 else 5
theorem p10 (hL : LayR (gR σ)) (hi : i1 < 26) : pcall 10 [.ref (i1 + 1000)] σ = some (1, .int (ι 1), σ) := by
  refine (M_10 hi rfl hL).eq ?_
  rw [if_neg (by decide), if_neg (fun g => g rfl)]
theorem p12 (hL : LayR (gR σ)) (hi : i1 < 26) : pcall 12 [.ref (i1 + 1000)] σ = some (1, .int (ι 0), σ) := by
  refine (M_12 hi rfl hL).eq ?_
  rw [if_neg (by decide)]
theorem slen_ok : ∀ i, i < 26 → shr' (ι (slen i)) (ι 0) = ι (slen i) ∧ slen i < 40 := by decide
theorem p11 (hL : LayR (gR σ)) (hi : i1 < 26) : pcall 11 [.ref (i1 + 1000)] σ = some (1, .int (ι (slen i1)), σ) := by
  refine (M_11 hi rfl hL).eq ?_
  rw [p12 hL hi, bI_ret, (slen_ok i1 hi).1]
theorem sby_ok : ∀ i, i < 26 → ∀ j, j < slen i → i2c (sby i j &&& ι 255) = sby i j ∧ narrow .char (.int (sby i j)) = .int (sby i j) := by decide +kernel
theorem p13 (hL : LayR (gR σ)) (hi : i1 < 26) (hj : j < slen i1) : pcall 13 [.ref (i1 + 1000), .int (ι j)] σ = some (1, .int (sby i1 j), σ) := by
  obtain ⟨s1, s2⟩ := sby_ok i1 hi j hj
  have hs := (slen_ok i1 hi).2
  have e3 : pcall 3 [.int (ι j), .int (ι (slen i1)), .retAddr 3] σ = some (1, .int (ι j), σ) := by
    refine (M_3 rfl hL).eq ?_
    rw [if_neg (by rw [ι_lt (by omega) (by omega)]; omega), if_pos (by rw [ι_lt (by omega) (by omega)]; exact hj)]
  have e14 : pcall 14 [.int (ι j), .int (ι (slen i1))] σ = some (0, .null, σ) := by
    refine (M_14 rfl hL).eq ?_
    rw [e3, bI_ret]
  have e7 : pcall 7 [.ref (i1 + 2000), .int (ι j)] σ = some (1, .int (sby i1 j), σ) := by
    refine (M_7 hi rfl hL).eq ?_
    rw [e14, bV_ret, gd_inb hj (by omega), ix_ι (by omega), s1, gd_pos s2]
  refine (M_13 hi rfl hL).eq ?_
  rw [p10 hL hi, bI_ret, if_neg (by decide), e7, bI_ret, gd_pos s2]
/-- a byte that is of no word and no number -/
noncomputable def swK (v : Int32) (σ : pS) : Option pZ := if v = ι 10 then some (1, .int (ι 4), σ) else if v = ι 32 then some (1, .int (ι 4), σ) else if v = ι 40 then some (1, .int (ι 3), σ) else if v = ι 41 then some (1, .int (ι 3), σ) else if v = ι 42 then some (1, .int (ι 3), σ) else if v = ι 43 then some (1, .int (ι 3), σ) else if v = ι 45 then some (1, .int (ι 3), σ) else if v = ι 47 then some (1, .int (ι 3), σ) else if v = ι 59 then some (1, .int (ι 3), σ) else if v = ι 60 then some (1, .int (ι 3), σ) else if v = ι 61 then some (1, .int (ι 3), σ) else some (1, .int (ι 5), σ)
theorem swK_ok (hc : c < 256) (g1 : ¬ (97 ≤ c ∧ c ≤ 122)) (g2 : ¬ (48 ≤ c ∧ c ≤ 57)) : Wp (swK (ι c) σ) (RI (ι (chK c)) (fun τ => τ = σ)) := by
  unfold swK
  by_cases a0 : c = 10
  · rw [a0, if_pos rfl]; exact Wp.retI' (by decide) rfl
  rw [if_neg (by rw [ι_eq (by omega) (by omega)]; exact a0)]
  by_cases a1 : c = 32
  · rw [a1, if_pos rfl]; exact Wp.retI' (by decide) rfl
  rw [if_neg (by rw [ι_eq (by omega) (by omega)]; exact a1)]
  by_cases a2 : c = 40
  · rw [a2, if_pos rfl]; exact Wp.retI' (by decide) rfl
  rw [if_neg (by rw [ι_eq (by omega) (by omega)]; exact a2)]
  by_cases a3 : c = 41
  · rw [a3, if_pos rfl]; exact Wp.retI' (by decide) rfl
  rw [if_neg (by rw [ι_eq (by omega) (by omega)]; exact a3)]
  by_cases a4 : c = 42
  · rw [a4, if_pos rfl]; exact Wp.retI' (by decide) rfl
  rw [if_neg (by rw [ι_eq (by omega) (by omega)]; exact a4)]
  by_cases a5 : c = 43
  · rw [a5, if_pos rfl]; exact Wp.retI' (by decide) rfl
  rw [if_neg (by rw [ι_eq (by omega) (by omega)]; exact a5)]
  by_cases a6 : c = 45
  · rw [a6, if_pos rfl]; exact Wp.retI' (by decide) rfl
  rw [if_neg (by rw [ι_eq (by omega) (by omega)]; exact a6)]
  by_cases a7 : c = 47
  · rw [a7, if_pos rfl]; exact Wp.retI' (by decide) rfl
  rw [if_neg (by rw [ι_eq (by omega) (by omega)]; exact a7)]
  by_cases a8 : c = 59
  · rw [a8, if_pos rfl]; exact Wp.retI' (by decide) rfl
  rw [if_neg (by rw [ι_eq (by omega) (by omega)]; exact a8)]
  by_cases a9 : c = 60
  · rw [a9, if_pos rfl]; exact Wp.retI' (by decide) rfl
  rw [if_neg (by rw [ι_eq (by omega) (by omega)]; exact a9)]
  by_cases a10 : c = 61
  · rw [a10, if_pos rfl]; exact Wp.retI' (by decide) rfl
  rw [if_neg (by rw [ι_eq (by omega) (by omega)]; exact a10)]
  have h : chK c = 5 := by
    unfold chK
    rw [if_neg g1, if_neg g2, if_neg (by omega), if_neg (by omega)]
  rw [h]; exact Wp.retI rfl
theorem c45 (hL : LayR (gR σ)) (hc : c < 256) : pcall 45 [.int (ι c)] σ = some (1, .int (ι (chK c)), σ) := by
  have hlt : ∀ a, a < 1000 → (ι c < ι a) = (c < a) := fun a ha => ι_lt (by omega) (by omega)
  have hgt : ∀ a, a < 1000 → (ι a < ι c) = (a < c) := fun a ha => ι_lt (by omega) (by omega)
  have low : ¬ (97 ≤ c ∧ c ≤ 122) → Wp (C_45_14 (ι c) σ) (RI (ι (chK c)) (fun τ => τ = σ)) := by
    intro g1
    refine Wp.le (T_45_14 rfl hL) ?_
    by_cases g2 : 48 ≤ c ∧ c ≤ 57
    · have : chK c = 2 := by unfold chK; rw [if_neg g1, if_pos g2]
      rw [if_neg (by rw [hlt 48 (by omega)]; omega), if_neg (by rw [hgt 57 (by omega)]; omega), this]; exact Wp.retI rfl
    have sw := swK_ok (σ := σ) hc g1 g2
    by_cases a2 : c < 48
    · rw [if_pos (by rw [hlt 48 (by omega)]; exact a2)]; exact sw
    · rw [if_neg (by rw [hlt 48 (by omega)]; exact a2), if_pos (by rw [hgt 57 (by omega)]; omega)]; exact sw
  refine Wp.eqI (Wp.le (M_45 rfl hL) ?_)
  by_cases g1 : 97 ≤ c ∧ c ≤ 122
  · have : chK c = 1 := by unfold chK; rw [if_pos g1]
    rw [if_neg (by rw [hlt 97 (by omega)]; omega), if_neg (by rw [hgt 122 (by omega)]; omega), this]; exact Wp.retI rfl
  have lw := low g1
  by_cases a1 : c < 97
  · rw [if_pos (by rw [hlt 97 (by omega)]; exact a1)]; exact lw
  · rw [if_neg (by rw [hlt 97 (by omega)]; exact a1), if_pos (by rw [hgt 122 (by omega)]; omega)]; exact lw
/-- where a row of bytes of kind c ends, from i on -/
def rwE (n : Nat) (x : Nat → Nat) (c : Nat) : Nat → Nat → Nat
  | 0, i => i
  | f + 1, i => if i < n ∧ chK (x i) = c then rwE n x c f (i + 1) else i
theorem rwE_0 : rwE n x c (n - i) i = if i < n ∧ chK (x i) = c then rwE n x c (n - (i + 1)) (i + 1) else i := by
  by_cases h : i < n
  · rw [show n - i = n - (i + 1) + 1 by omega]; rfl
  · rw [show n - i = 0 by omega, if_neg (fun g => h g.1)]; rfl
theorem rwE_ok : ∀ f i, n - i = f → i ≤ n → i ≤ rwE n x c f i ∧ rwE n x c f i ≤ n ∧ (∀ j, i ≤ j → j < rwE n x c f i → chK (x j) = c) ∧ (rwE n x c f i < n → chK (x (rwE n x c f i)) ≠ c) := by
  intro f
  induction f with
  | zero => intro i h1 h2; exact ⟨Nat.le_refl _, h2, fun j a b => absurd (Nat.lt_of_le_of_lt a b) (Nat.lt_irrefl _), fun g => by have g : i < n := g; omega⟩
  | succ f ih =>
    intro i h1 h2
    show i ≤ (if i < n ∧ chK (x i) = c then rwE n x c f (i + 1) else i) ∧ (if i < n ∧ chK (x i) = c then rwE n x c f (i + 1) else i) ≤ n ∧ (∀ j, i ≤ j → j < (if i < n ∧ chK (x i) = c then rwE n x c f (i + 1) else i) → chK (x j) = c) ∧ ((if i < n ∧ chK (x i) = c then rwE n x c f (i + 1) else i) < n → chK (x (if i < n ∧ chK (x i) = c then rwE n x c f (i + 1) else i)) ≠ c)
    by_cases e : i < n ∧ chK (x i) = c
    · simp only [if_pos e]
      obtain ⟨a1, a2, a3, a4⟩ := ih (i + 1) (by omega) (by omega)
      refine ⟨by omega, a2, fun j g1 g2 => ?_, a4⟩
      by_cases e2 : j = i
      · rw [e2]; exact e.2
      · exact a3 j (by omega) g2
    · simp only [if_neg e]
      exact ⟨Nat.le_refl _, h2, fun j a b => by omega, fun g g2 => e ⟨g, g2⟩⟩
def Txt (n : Nat) (x : Nat → Nat) : Prop := n ≤ 700 ∧ ∀ i, i < n → x i < 256
def TxC (n : Nat) (x : Nat → Nat) (σ : pS) : Prop := LayR (gR σ) ∧ gI σ 24 1 = ι n ∧ (∀ i, i < n → gI σ 1 i = ι (x i)) ∧ gI σ 24 7 = ν 1
def TxM (n : Nat) (x : Nat → Nat) (σ : pS) : Prop := LayR (gR σ) ∧ gI σ 61 17 = ι n ∧ ∀ i, i < n → gI σ 74 i = ι (x i)
theorem chK_5 : ∀ c, c < 256 → chK c ≤ 5 ∧ chK c ≠ 0 := by decide +kernel
theorem c44 (t : Txt n x) (h : TxC n x σ) (hc : c ≤ 5) (hi : i ≤ n) : pcall 44 [.ref 24, .int (ι i), .int (ι c)] σ = some (1, .int (ι (rwE n x c (n - i) i)), σ) := by
  have h7 := t.1
  refine Wp.eqI (Wp.le (M_44 rfl h.1) ?_)
  have key : ∀ f i v, n - i = f → i ≤ n → Wp (C_44_2 v (ι c) (ι i) σ) (RI (ι (rwE n x c (n - i) i)) (fun τ => τ = σ)) := by
    intro f
    induction f with
    | zero =>
      intro i v h1 h2
      refine Wp.le (T_44_2 rfl h.1) ?_
      rw [rwE_0, if_neg (show ¬ (i < n ∧ chK (x i) = c) by omega), h.2.1, if_neg (by rw [ι_lt (by omega) (by omega)]; omega), if_pos (by rw [ι_le (by omega) (by omega)]; omega)]
      exact Wp.retI rfl
    | succ f ih =>
      intro i v h1 h2
      have hb := t.2 i (by omega)
      have hk := chK_5 (x i) hb
      refine Wp.le (T_44_2 rfl h.1) ?_
      rw [rwE_0, h.2.1, if_neg (by rw [ι_lt (by omega) (by omega)]; omega), if_neg (by rw [ι_le (by omega) (by omega)]; omega), if_neg (by rw [ι_le (by omega) (by omega)]; omega), gd_inb (by omega) (by omega), ix_ι (by omega), h.2.2.1 i (by omega), c45 h.1 hb, bI_ret, ι_add]
      by_cases e : chK (x i) = c
      · rw [if_neg (fun g => g (by rw [e])), if_pos ⟨by omega, e⟩]
        exact ih (i + 1) v (by omega) (by omega)
      · rw [if_pos (by rw [ι_eq (by omega) (by omega)]; exact e), if_neg (fun g => e g.2)]
        exact Wp.retI rfl
  exact key (n - i) i _ rfl hi
/-- the number that k digits from b on spell -/
def nuS (x : Nat → Nat) (b : Nat) : Nat → Nat
  | 0 => 0
  | k + 1 => nuS x b k * 10 + (x (b + k) - 48)
theorem nuS_s : nuS x b (k + 1) = nuS x b k * 10 + (x (b + k) - 48) := rfl
theorem chK_2 : ∀ c, c < 256 → chK c = 2 → 48 ≤ c ∧ c ≤ 57 := by decide +kernel
theorem nuS_lt (t : Txt n x) (h : ∀ j, b ≤ j → j < b + k → j < n ∧ chK (x j) = 2) : nuS x b k < 10 ^ k := by
  induction k with
  | zero => exact Nat.one_pos
  | succ k ih =>
    have h1 := ih (fun j a c => h j a (by omega))
    obtain ⟨h2, h3⟩ := h (b + k) (by omega) (by omega)
    have h4 := chK_2 _ (t.2 _ h2) h3
    rw [nuS_s, Nat.pow_succ]
    omega
theorem c46 (t : Txt n x) (h : TxC n x σ) (hb : gI σ 24 2 = ι b) (he : gI σ 24 3 = ι e) (h1 : b ≤ e) (h2 : e ≤ n) (hd : ∀ j, b ≤ j → j < e → chK (x j) = 2) : pcall 46 [.ref 24] σ = some (1, .int (ι (nuS x b (min (e - b) 4))), σ) := by
  have h7 := t.1
  refine Wp.eqI (Wp.le (M_46 rfl h.1) ?_)
  rw [hb]
  refine Wp.loop (α := Unit) (min (e - b) 4) (fun k _ => C_46_7 (ι (nuS x b k)) (ι (b + k)) σ) (fun _ _ => True) ?_ ?_ (t := 0) (a := ()) (Nat.zero_le _) trivial
  · intro k _ hk _ c
    have c := c () trivial
    have hn := nuS_lt (x := x) (b := b) (k := k) t (fun j a c => ⟨by omega, hd j a (by omega)⟩)
    have hp : 10 ^ k ≤ 10 ^ 4 := Nat.pow_le_pow_right (by omega) (by omega)
    have hx := chK_2 _ (t.2 (b + k) (by omega)) (hd _ (by omega) (by omega))
    refine Wp.le (T_46_7 rfl h.1) ?_
    rw [he, hb, ι_add, ι_add, if_neg (by rw [ι_lt (by omega) (by omega)]; omega), if_neg (by rw [ι_le (by omega) (by omega)]; omega), if_neg (by rw [ι_le (by omega) (by omega)]; omega), if_neg (by rw [ι_le (by omega) (by omega)]; omega), gd_inb (by omega) (by omega), ix_ι (by omega), h.2.2.1 _ (by omega), ι_mul, ι_add, ι_sub (by omega)]
    rw [nuS_s, ← Nat.add_assoc] at c
    rw [show nuS x b k * 10 + x (b + k) - 48 = nuS x b k * 10 + (x (b + k) - 48) by omega]
    exact c
  · intro _ _
    refine Wp.le (T_46_7 rfl h.1) ?_
    rw [he, hb, ι_add, if_neg (by rw [ι_lt (by omega) (by omega)]; omega)]
    by_cases e1 : e ≤ b + min (e - b) 4
    · rw [if_pos (by rw [ι_le (by omega) (by omega)]; exact e1)]; exact Wp.retI rfl
    · rw [if_neg (by rw [ι_le (by omega) (by omega)]; exact e1), if_neg (by rw [ι_le (by omega) (by omega)]; omega), if_pos (by rw [ι_le (by omega) (by omega)]; omega)]; exact Wp.retI rfl
/-- the token behind e: its kind (0 the end), where it begins, where it ends -/
def tkS (n : Nat) (x : Nat → Nat) (e : Nat) : Nat × Nat × Nat :=
  if n ≤ rwE n x 4 (n - e) e then (0, n, n) else
    (chK (x (rwE n x 4 (n - e) e)), rwE n x 4 (n - e) e, if chK (x (rwE n x 4 (n - e) e)) = 1 ∨ chK (x (rwE n x 4 (n - e) e)) = 2 then rwE n x (chK (x (rwE n x 4 (n - e) e))) (n - rwE n x 4 (n - e) e) (rwE n x 4 (n - e) e) else rwE n x 4 (n - e) e + 1)
def okTk (n : Nat) (x : Nat → Nat) (tk : Nat × Nat × Nat) : Prop := tk.2.1 ≤ tk.2.2 ∧ tk.2.2 ≤ n ∧ (tk.1 = 0 → tk.2.1 = n) ∧ (tk.1 ≠ 0 → tk.2.1 < tk.2.2) ∧ (tk.1 = 2 → ∀ j, tk.2.1 ≤ j → j < tk.2.2 → chK (x j) = 2) ∧ tk.1 ≤ 5 ∧ tk.1 ≠ 4
theorem tkS_ok (t : Txt n x) (he : e ≤ n) : okTk n x (tkS n x e) ∧ e ≤ (tkS n x e).2.1 := by
  obtain ⟨a1, a2, a3, a4⟩ := rwE_ok (x := x) (c := 4) (n - e) e rfl he
  unfold tkS
  generalize rwE n x 4 (n - e) e = b at a1 a2 a3 a4
  by_cases h : n ≤ b
  · rw [if_pos h]
    exact ⟨⟨Nat.le_refl _, Nat.le_refl _, fun _ => rfl, fun g => absurd rfl g, fun g => absurd g (by show ¬ 0 = 2; omega), by show 0 ≤ 5; omega, by show 0 ≠ 4; omega⟩, he⟩
  · rw [if_neg h]
    have hb := t.2 b (by omega)
    obtain ⟨k1, k2⟩ := chK_5 (x b) hb
    have k4 := a4 (by omega)
    generalize hk : chK (x b) = k at k1 k2 k4
    obtain ⟨b1, b2, b3, b4⟩ := rwE_ok (n := n) (x := x) (c := k) (n - b) b rfl (by omega)
    have b5 : b < rwE n x k (n - b) b := by
      by_cases e : rwE n x k (n - b) b = b
      · rw [e] at b4; exact absurd hk (b4 (by omega))
      · omega
    refine ⟨⟨?_, ?_, fun g => absurd g k2, fun _ => ?_, fun g => ?_, k1, k4⟩, a1⟩
    · show b ≤ if k = 1 ∨ k = 2 then _ else _
      split <;> omega
    · show (if k = 1 ∨ k = 2 then _ else _) ≤ n
      split <;> omega
    · show b < if k = 1 ∨ k = 2 then _ else _
      split <;> omega
    · have g : k = 2 := g
      show ∀ j, b ≤ j → j < (if k = 1 ∨ k = 2 then rwE n x k (n - b) b else b + 1) → chK (x j) = 2
      rw [if_pos (Or.inr g)]
      intro j c1 c2
      rw [b3 j c1 c2, g]
/-- a token as the class holds it -/
def TkC (x : Nat → Nat) (tk : Nat × Nat × Nat) (σ : pS) : Prop := gI σ 24 4 = ι tk.1 ∧ gI σ 24 2 = ι tk.2.1 ∧ gI σ 24 3 = ι tk.2.2 ∧ (tk.1 = 3 → gI σ 24 5 = ι (x tk.2.1)) ∧ (tk.1 = 2 → gI σ 24 5 = ι (nuS x tk.2.1 (min (tk.2.2 - tk.2.1) 4)))
def F24 (σ τ : pS) : Prop := Fr (fun a => a = 24) σ τ ∧ ∀ i, ¬ (2 ≤ i ∧ i ≤ 5) → gI τ 24 i = gI σ 24 i
theorem F24.rf : F24 σ σ := ⟨Fr.refl, fun _ _ => rfl⟩
theorem F24.m {y : Int32} (h : F24 σ τ) (hi : 2 ≤ i ∧ i ≤ 5) : F24 σ (sI τ 24 i y) := ⟨h.1.mI rfl, fun j hj => by rw [gI_n (by omega)]; exact h.2 j hj⟩
theorem TxC.f (h : TxC n x σ) (f : F24 σ τ) : TxC n x τ := ⟨by rw [f.1.r]; exact h.1, by rw [f.2 1 (by omega)]; exact h.2.1, fun i hi => by rw [f.1.i (by omega)]; exact h.2.2.1 i hi, by rw [f.2 7 (by omega)]; exact h.2.2.2⟩
set_option maxHeartbeats 1000000 in
theorem c43 (t : Txt n x) (h : TxC n x σ) (hf : gI σ 24 6 = ι 0) (he : gI σ 24 3 = ι e) (hen : e ≤ n) : Wp (pcall 43 [.ref 24] σ) (RV (fun τ => TkC x (tkS n x e) τ ∧ F24 σ τ)) := by
  have h7 := t.1
  obtain ⟨a1, a2, a3, a4⟩ := rwE_ok (n := n) (x := x) (c := 4) (n - e) e rfl hen
  refine Wp.le (M_43 rfl h.1) ?_
  rw [hf, if_pos rfl, he, c44 t h (by omega) hen, bI_ret]
  unfold tkS
  generalize rwE n x 4 (n - e) e = b at a1 a2 a3 a4
  have f1 : F24 σ (sI σ 24 2 (ι b)) := F24.rf.m ⟨by omega, by omega⟩
  have h1 := h.f f1
  simp (disch := omega) only [gI_s, gI_n]
  rw [h.2.1, if_neg (by rw [ι_lt (by omega) (by omega)]; omega)]
  by_cases hb : n ≤ b
  · rw [if_pos (by rw [ι_le (by omega) (by omega)]; exact hb), if_pos hb]
    refine Wp.retV ⟨⟨gI_s, by rw [gI_n (by omega), gI_n (by omega), gI_s], by rw [gI_n (by omega), gI_s], fun g => absurd g (by show ¬ 0 = 3; omega), fun g => absurd g (by show ¬ 0 = 2; omega)⟩, ((f1.m ⟨by omega, by omega⟩).m ⟨by omega, by omega⟩).m ⟨by omega, by omega⟩⟩
  · have hxb := t.2 b (by omega)
    obtain ⟨k1, k2⟩ := chK_5 (x b) hxb
    have k4 := a4 (by omega)
    rw [if_neg (by rw [ι_le (by omega) (by omega)]; exact hb), if_neg hb, if_pos (by rw [ι_lt (by omega) (by omega)]; omega), gd_inb (by omega) (by omega), ix_ι (by omega), gI_c (show 1 ≠ 24 by omega), h.2.2.1 b (by omega), c45 h1.1 hxb, bI_ret]
    simp (disch := omega) only [gI_s, gI_n]
    rw [gd_inb (by omega) (by omega), ix_ι (by omega), gI_c (show 1 ≠ 24 by omega), gI_c (show 1 ≠ 24 by omega), h.2.2.1 b (by omega)]
    generalize hk : chK (x b) = k at k1 k2 k4
    have f2 : F24 σ (sI (sI (sI σ 24 2 (ι b)) 24 4 (ι k)) 24 5 (ι (x b))) := (f1.m ⟨by omega, by omega⟩).m ⟨by omega, by omega⟩
    have h2 := h.f f2
    have row : Wp (C_43_119 (sI (sI (sI σ 24 2 (ι b)) 24 4 (ι k)) 24 5 (ι (x b)))) (RV (fun τ => (gI τ 24 4 = ι k ∧ gI τ 24 2 = ι b ∧ gI τ 24 3 = ι (rwE n x k (n - b) b) ∧ (k = 2 → gI τ 24 5 = ι (nuS x b (min (rwE n x k (n - b) b - b) 4)))) ∧ F24 σ τ)) := by
      obtain ⟨b1, b2, b3, b4⟩ := rwE_ok (n := n) (x := x) (c := k) (n - b) b rfl (by omega)
      refine Wp.le (T_43_119 rfl h2.1) ?_
      simp (disch := omega) only [gI_s, gI_n]
      rw [c44 t h2 (by omega) (by omega), bI_ret]
      generalize rwE n x k (n - b) b = e' at b1 b2 b3 b4
      have f3 : F24 σ (sI (sI (sI (sI σ 24 2 (ι b)) 24 4 (ι k)) 24 5 (ι (x b))) 24 3 (ι e')) := f2.m ⟨by omega, by omega⟩
      simp (disch := omega) only [gI_s, gI_n]
      by_cases e2 : k = 2
      · rw [if_neg (fun g => g (by rw [e2])), c46 t (h.f f3) (b := b) (e := e') (by rw [gI_n (by omega), gI_n (by omega), gI_n (by omega), gI_s]) gI_s b1 b2 (fun j c1 c2 => by rw [b3 j c1 c2, e2]), bI_ret]
        refine Wp.retV ⟨⟨by rw [gI_n (by omega), gI_n (by omega), gI_n (by omega), gI_s], by rw [gI_n (by omega), gI_n (by omega), gI_n (by omega), gI_n (by omega), gI_s], by rw [gI_n (by omega), gI_s], fun _ => gI_s⟩, f3.m ⟨by omega, by omega⟩⟩
      · rw [if_pos (by rw [ι_eq (by omega) (by omega)]; exact e2)]
        exact Wp.retV ⟨⟨by rw [gI_n (by omega), gI_n (by omega), gI_s], by rw [gI_n (by omega), gI_n (by omega), gI_n (by omega), gI_s], gI_s, fun g => absurd g e2⟩, f3⟩
    by_cases e1 : k = 1
    · rw [if_pos (by rw [e1])]
      refine row.mono ?_
      rintro z ⟨v, τ, rfl, ⟨g1, g2, g3, g4⟩, g5⟩
      refine ⟨v, τ, rfl, ⟨g1, g2, ?_, fun g => absurd g (by show ¬ k = 3; omega), fun g => absurd g (by show ¬ k = 2; omega)⟩, g5⟩
      show _ = ι (if k = 1 ∨ k = 2 then _ else _)
      rw [if_pos (Or.inl e1)]; exact g3
    rw [if_neg (by rw [ι_eq (by omega) (by omega)]; exact e1)]
    by_cases e2 : k = 2
    · rw [if_neg (fun g => g (by rw [e2]))]
      refine row.mono ?_
      rintro z ⟨v, τ, rfl, ⟨g1, g2, g3, g4⟩, g5⟩
      have ee : (if k = 1 ∨ k = 2 then rwE n x k (n - b) b else b + 1) = rwE n x k (n - b) b := if_pos (Or.inr e2)
      refine ⟨v, τ, rfl, ⟨g1, g2, ?_, fun g => absurd g (by show ¬ k = 3; omega), fun g => ?_⟩, g5⟩
      · show _ = ι (if k = 1 ∨ k = 2 then _ else _)
        rw [ee]; exact g3
      · show _ = ι (nuS x b (min ((if k = 1 ∨ k = 2 then rwE n x k (n - b) b else b + 1) - b) 4))
        rw [ee]; exact g4 e2
    · rw [if_pos (by rw [ι_eq (by omega) (by omega)]; exact e2), if_pos (by rw [ι_eq (by omega) (by omega)]; exact e2), ι_add]
      refine Wp.retV ⟨⟨by rw [gI_n (by omega), gI_n (by omega), gI_s], by rw [gI_n (by omega), gI_n (by omega), gI_n (by omega), gI_s], ?_, fun _ => by rw [gI_n (by omega), gI_s], fun g => absurd g e2⟩, f2.m ⟨by omega, by omega⟩⟩
      show _ = ι (if k = 1 ∨ k = 2 then _ else _)
      rw [if_neg (by omega)]; exact gI_s
/-- a token as the reference holds it -/
def TkM (x : Nat → Nat) (tk : Nat × Nat × Nat) (σ : pS) : Prop := gI σ 61 18 = ι (if tk.1 = 5 then 4 else tk.1) ∧ gI σ 61 20 = ι tk.2.1 ∧ gI σ 61 21 = ι tk.2.2 ∧ gI σ 61 16 = ι tk.2.2 ∧ (tk.1 = 2 → tk.2.2 - tk.2.1 ≤ 4 → gI σ 61 19 = ι (nuS x tk.2.1 (tk.2.2 - tk.2.1)))
def F61 (σ τ : pS) : Prop := Fr (fun a => a = 61) σ τ ∧ ∀ i, ¬ (i = 16 ∨ 18 ≤ i ∧ i ≤ 21) → gI τ 61 i = gI σ 61 i
theorem F61.rf : F61 σ σ := ⟨Fr.refl, fun _ _ => rfl⟩
theorem F61.m {y : Int32} (h : F61 σ τ) (hi : i = 16 ∨ 18 ≤ i ∧ i ≤ 21) : F61 σ (sI τ 61 i y) := ⟨h.1.mI rfl, fun j hj => by rw [gI_n (by omega)]; exact h.2 j hj⟩
theorem TxM.f (h : TxM n x σ) (f : F61 σ τ) : TxM n x τ := ⟨by rw [f.1.r]; exact h.1, by rw [f.2 17 (by omega)]; exact h.2.1, fun i hi => by rw [f.1.i (by omega)]; exact h.2.2 i hi⟩
/-- the byte at i, -1 behind the end -/
def byS (n : Nat) (x : Nat → Nat) (i : Nat) : Int32 := if i < n then ι (x i) else ν 1
theorem m213 (t : Txt n x) (h : TxM n x σ) (hi : i ≤ n) : pcall 213 [.ref 61, .int (ι i)] σ = some (1, .int (byS n x i), σ) := by
  have h7 := t.1
  refine (M_213 rfl h.1).eq ?_
  unfold byS
  rw [h.2.1]
  by_cases e : i < n
  · rw [if_neg (by rw [ι_le (by omega) (by omega)]; omega), gd_inb (by omega) (by omega), ix_ι (by omega), h.2.2 i e, if_pos e]
  · rw [if_pos (by rw [ι_le (by omega) (by omega)]; omega), if_neg e]
theorem chk_m : ∀ c, c < 256 → ((c = 32 ∨ c = 10) ↔ chK c = 4) ∧ ((97 ≤ c ∧ c ≤ 122) ↔ chK c = 1) ∧ ((48 ≤ c ∧ c ≤ 57) ↔ chK c = 2) ∧ (chK c = 3 ↔ (c = 59 ∨ c = 40 ∨ c = 41 ∨ c = 43 ∨ c = 45 ∨ c = 42 ∨ c = 47 ∨ c = 60 ∨ c = 61)) := by decide +kernel
theorem m214 (hL : LayR (gR σ)) (t : Txt n x) : pcall 214 [.int (byS n x i)] σ = some (1, .int (bz (decide (i < n ∧ chK (x i) = 1))), σ) := by
  refine (M_214 rfl hL).eq ?_
  unfold byS
  by_cases e : i < n
  · have hx := t.2 i e
    have hm := (chk_m _ hx).2.1
    rw [if_pos e]
    by_cases e2 : 97 ≤ x i ∧ x i ≤ 122
    · rw [if_neg (by rw [ι_lt (by omega) (by omega)]; omega), if_neg (by rw [ι_lt (by omega) (by omega)]; omega), decide_eq_true ⟨e, hm.mp e2⟩]; rfl
    · rw [decide_eq_false (fun g => e2 (hm.mpr g.2))]
      by_cases e3 : x i < 97
      · rw [if_pos (by rw [ι_lt (by omega) (by omega)]; exact e3)]; rfl
      · rw [if_neg (by rw [ι_lt (by omega) (by omega)]; exact e3), if_pos (by rw [ι_lt (by omega) (by omega)]; omega)]; rfl
  · rw [if_neg e, if_pos (by decide), decide_eq_false (fun g => e g.1)]; rfl
theorem m215 (hL : LayR (gR σ)) (t : Txt n x) : pcall 215 [.int (byS n x i)] σ = some (1, .int (bz (decide (i < n ∧ chK (x i) = 2))), σ) := by
  refine (M_215 rfl hL).eq ?_
  unfold byS
  by_cases e : i < n
  · have hx := t.2 i e
    have hm := (chk_m _ hx).2.2.1
    rw [if_pos e]
    by_cases e2 : 48 ≤ x i ∧ x i ≤ 57
    · rw [if_neg (by rw [ι_lt (by omega) (by omega)]; omega), if_neg (by rw [ι_lt (by omega) (by omega)]; omega), decide_eq_true ⟨e, hm.mp e2⟩]; rfl
    · rw [decide_eq_false (fun g => e2 (hm.mpr g.2))]
      by_cases e3 : x i < 48
      · rw [if_pos (by rw [ι_lt (by omega) (by omega)]; exact e3)]; rfl
      · rw [if_neg (by rw [ι_lt (by omega) (by omega)]; exact e3), if_pos (by rw [ι_lt (by omega) (by omega)]; omega)]; rfl
  · rw [if_neg e, if_pos (by decide), decide_eq_false (fun g => e g.1)]; rfl
theorem m216 (hL : LayR (gR σ)) (hc : c < 256) : pcall 216 [.int (ι c)] σ = some (1, .int (bz (decide (chK c = 3))), σ) := by
  refine (M_216 rfl hL).eq ?_
  have hm := (chk_m c hc).2.2.2
  have he : ∀ a, a < 256 → (ι c = ι a) = (c = a) := fun a ha => ι_eq (by omega) (by omega)
  simp only [he 59 (by omega), he 40 (by omega), he 41 (by omega), he 43 (by omega), he 45 (by omega), he 42 (by omega), he 47 (by omega), he 60 (by omega), he 61 (by omega)]
  by_cases g : chK c = 3
  · rw [decide_eq_true g]
    rcases hm.mp g with h | h | h | h | h | h | h | h | h <;> subst h <;> rfl
  · rw [decide_eq_false g]
    have hn : ¬ (c = 59 ∨ c = 40 ∨ c = 41 ∨ c = 43 ∨ c = 45 ∨ c = 42 ∨ c = 47 ∨ c = 60 ∨ c = 61) := fun q => g (hm.mpr q)
    rw [if_neg (by omega), if_neg (by omega), if_neg (by omega), if_neg (by omega), if_neg (by omega), if_neg (by omega), if_neg (by omega), if_neg (by omega), if_pos (by omega)]; rfl
set_option maxHeartbeats 1000000 in
theorem m212 (t : Txt n x) (h : TxM n x σ) (he : gI σ 61 16 = ι e) (hen : e ≤ n) : Wp (pcall 212 [.ref 61] σ) (RV (fun τ => TkM x (tkS n x e) τ ∧ F61 σ τ)) := by
  have h7 := t.1
  have words : ∀ f b i τ v, n - i = f → b ≤ i → i ≤ n → F61 σ τ → gI τ 61 16 = ι i → gI τ 61 20 = ι b → rwE n x 1 (n - b) b = rwE n x 1 (n - i) i → Wp (C_212_76 v τ) (RV (fun τ => (gI τ 61 18 = ι 1 ∧ gI τ 61 20 = ι b ∧ gI τ 61 21 = ι (rwE n x 1 (n - b) b) ∧ gI τ 61 16 = ι (rwE n x 1 (n - b) b)) ∧ F61 σ τ)) := by
    intro f
    induction f with
    | zero =>
      intro b i τ v hf hbi hi f h16 h20 hr
      have hx := h.f f
      refine Wp.le (T_212_76 rfl hx.1) ?_
      rw [rwE_0 (i := i), if_neg (by omega)] at hr
      rw [h16, m213 t hx hi, bI_ret, m214 hx.1 t, bI_ret, decide_eq_false (by omega), bz_f, if_pos rfl, gI_n (show 16 ≠ 18 by omega), h16, hr]
      exact Wp.retV ⟨⟨by rw [gI_n (by omega), gI_s], by rw [gI_n (by omega), gI_n (by omega)]; exact h20, gI_s, by rw [gI_n (by omega), gI_n (by omega)]; exact h16⟩, (f.m (by omega)).m (by omega)⟩
    | succ f ih =>
      intro b i τ v hf hbi hi f h16 h20 hr
      have hx := h.f f
      refine Wp.le (T_212_76 rfl hx.1) ?_
      rw [rwE_0 (i := i)] at hr
      rw [h16, m213 t hx hi, bI_ret, m214 hx.1 t, bI_ret]
      by_cases e : i < n ∧ chK (x i) = 1
      · rw [if_pos e] at hr
        rw [decide_eq_true e, bz_t, if_neg (by decide), h16, ι_add]
        exact ih b (i + 1) _ v (by omega) (by omega) (by omega) (f.m (by omega)) gI_s (by rw [gI_n (by omega)]; exact h20) hr
      · rw [if_neg e] at hr
        rw [decide_eq_false e, bz_f, if_pos rfl, gI_n (show 16 ≠ 18 by omega), h16, hr]
        exact Wp.retV ⟨⟨by rw [gI_n (by omega), gI_s], by rw [gI_n (by omega), gI_n (by omega)]; exact h20, gI_s, by rw [gI_n (by omega), gI_n (by omega)]; exact h16⟩, (f.m (by omega)).m (by omega)⟩
  have digs : ∀ f b i τ v, n - i = f → b ≤ i → i ≤ n → F61 σ τ → gI τ 61 16 = ι i → gI τ 61 20 = ι b → rwE n x 2 (n - b) b = rwE n x 2 (n - i) i → (∀ j, b ≤ j → j < i → chK (x j) = 2) → (∃ s, s ≤ 100000 ∧ gI τ 61 19 = ι s ∧ (i - b ≤ 4 → s = nuS x b (i - b))) → Wp (C_212_123 v τ) (RV (fun τ => (gI τ 61 18 = ι 2 ∧ gI τ 61 20 = ι b ∧ gI τ 61 21 = ι (rwE n x 2 (n - b) b) ∧ gI τ 61 16 = ι (rwE n x 2 (n - b) b) ∧ (rwE n x 2 (n - b) b - b ≤ 4 → gI τ 61 19 = ι (nuS x b (rwE n x 2 (n - b) b - b)))) ∧ F61 σ τ)) := by
    intro f
    induction f with
    | zero =>
      intro b i τ v hf hbi hi f h16 h20 hr hd hs
      obtain ⟨s, s1, s2, s3⟩ := hs
      have hx := h.f f
      refine Wp.le (T_212_123 rfl hx.1) ?_
      rw [rwE_0 (i := i), if_neg (by omega)] at hr
      rw [h16, m213 t hx hi, bI_ret, m215 hx.1 t, bI_ret, decide_eq_false (by omega), bz_f, if_pos rfl, gI_n (show 16 ≠ 18 by omega), h16, hr]
      exact Wp.retV ⟨⟨by rw [gI_n (by omega), gI_s], by rw [gI_n (by omega), gI_n (by omega)]; exact h20, gI_s, by rw [gI_n (by omega), gI_n (by omega)]; exact h16, fun g => by rw [gI_n (by omega), gI_n (by omega), s2, s3 g]⟩, (f.m (by omega)).m (by omega)⟩
    | succ f ih =>
      intro b i τ v hf hbi hi f h16 h20 hr hd hs
      obtain ⟨s, s1, s2, s3⟩ := hs
      have hx := h.f f
      refine Wp.le (T_212_123 rfl hx.1) ?_
      rw [rwE_0 (i := i)] at hr
      rw [h16, m213 t hx hi, bI_ret, m215 hx.1 t, bI_ret]
      by_cases e : i < n ∧ chK (x i) = 2
      · rw [if_pos e] at hr
        have hxi := chK_2 _ (t.2 i e.1) e.2
        have eby : byS n x i = ι (x i) := if_pos e.1
        have em : imin (ι 100000) (ι 10 * ι s + ι (x i) - ι 48) = ι (min 100000 (10 * s + x i - 48)) := by
          rw [ι_mul, ι_add, ι_sub (by omega)]
          unfold imin
          by_cases e3 : 10 * s + x i - 48 < 100000
          · rw [if_pos (by rw [ι_lt (by omega) (by omega)]; exact e3)]; congr 1; omega
          · rw [if_neg (by rw [ι_lt (by omega) (by omega)]; exact e3)]; congr 1; omega
        rw [decide_eq_true e, bz_t, if_neg (by decide), h16, m213 t hx hi, bI_ret, s2, eby, em, gI_n (show 16 ≠ 19 by omega), h16, ι_add]
        refine ih b (i + 1) _ v (by omega) (by omega) (by omega) ((f.m (by omega)).m (by omega)) gI_s (by rw [gI_n (by omega), gI_n (by omega)]; exact h20) hr (fun j c1 c2 => ?_) ⟨min 100000 (10 * s + x i - 48), by omega, by rw [gI_n (by omega), gI_s], fun g => ?_⟩
        · by_cases e3 : j = i
          · rw [e3]; exact e.2
          · exact hd j c1 (by omega)
        · have e4 := s3 (by omega)
          have hn := nuS_lt (x := x) (b := b) (k := i - b) t (fun j c1 c2 => ⟨by omega, hd j c1 (by omega)⟩)
          have hp : 10 ^ (i - b) ≤ 10 ^ 3 := Nat.pow_le_pow_right (by omega) (by omega)
          rw [show i + 1 - b = i - b + 1 by omega, nuS_s, show b + (i - b) = i by omega]
          omega
      · rw [if_neg e] at hr
        rw [decide_eq_false e, bz_f, if_pos rfl, gI_n (show 16 ≠ 18 by omega), h16, hr]
        exact Wp.retV ⟨⟨by rw [gI_n (by omega), gI_s], by rw [gI_n (by omega), gI_n (by omega)]; exact h20, gI_s, by rw [gI_n (by omega), gI_n (by omega)]; exact h16, fun g => by rw [gI_n (by omega), gI_n (by omega), s2, s3 g]⟩, (f.m (by omega)).m (by omega)⟩
  have blank : ∀ f i τ v, n - i = f → e ≤ i → i ≤ n → F61 σ τ → gI τ 61 16 = ι i → rwE n x 4 (n - e) e = rwE n x 4 (n - i) i → Wp (C_212_0 v τ) (RV (fun τ => TkM x (tkS n x e) τ ∧ F61 σ τ)) := by
    intro f
    induction f with
    | zero =>
      intro i τ v hf hbi hi f h16 hr
      have hx := h.f f
      have hin : i = n := by omega
      refine Wp.le (T_212_0 rfl hx.1) ?_
      rw [rwE_0 (i := i), if_neg (by omega)] at hr
      have e1 : byS n x i = ν 1 := if_neg (by omega)
      have hx2 := h.f (f.m (i := 20) (y := ι i) (by omega))
      rw [h16, m213 t hx hi, bI_ret, e1, if_neg (by decide), h16, m213 t hx hi, bI_ret, e1, if_pos (by decide), h16, gI_n (show 16 ≠ 20 by omega), h16, m213 t hx2 hi, bI_ret, e1, if_neg (fun g => g rfl), gI_n (show 16 ≠ 18 by omega), gI_n (show 16 ≠ 20 by omega), h16]
      unfold tkS
      rw [hr, if_pos (by omega), hin]
      exact Wp.retV ⟨⟨by rw [gI_n (by omega), gI_s]; rfl, by rw [gI_n (by omega), gI_n (by omega), gI_s], gI_s, by rw [gI_n (by omega), gI_n (by omega), gI_n (by omega), h16, hin], fun g => absurd g (by show ¬ 0 = 2; omega)⟩, ((f.m (by omega)).m (by omega)).m (by omega)⟩
    | succ f ih =>
      intro i τ v hf hbi hi f h16 hr
      have hx := h.f f
      have hin : i < n := by omega
      have hxb := t.2 i hin
      obtain ⟨q1, q2, q3, q4⟩ := chk_m _ hxb
      obtain ⟨k1, k2⟩ := chK_5 (x i) hxb
      refine Wp.le (T_212_0 rfl hx.1) ?_
      rw [rwE_0 (i := i)] at hr
      have e1 : byS n x i = ι (x i) := if_pos hin
      rw [h16, m213 t hx hi, bI_ret, e1]
      by_cases g32 : x i = 32
      · rw [if_pos ⟨hin, q1.mp (Or.inl g32)⟩] at hr
        rw [g32, if_pos rfl, h16, ι_add]
        exact ih (i + 1) _ v (by omega) (by omega) (by omega) (f.m (by omega)) gI_s hr
      rw [if_neg (by rw [ι_eq (by omega) (by omega)]; exact g32), h16, m213 t hx hi, bI_ret, e1]
      by_cases g10 : x i = 10
      · rw [if_pos ⟨hin, q1.mp (Or.inr g10)⟩] at hr
        rw [g10, if_neg (fun g => g rfl), h16, ι_add]
        exact ih (i + 1) _ v (by omega) (by omega) (by omega) (f.m (by omega)) gI_s hr
      have k4 : ¬ chK (x i) = 4 := fun g => by rcases q1.mpr g with c | c; exact g32 c; exact g10 c
      rw [if_neg (fun g => k4 g.2)] at hr
      have hx2 := h.f (f.m (i := 20) (y := ι i) (by omega))
      rw [if_pos (by rw [ι_eq (by omega) (by omega)]; exact g10), h16, gI_n (show 16 ≠ 20 by omega), h16, m213 t hx2 hi, bI_ret, e1, if_pos (by rw [ι_m1 (by omega)]; exact id), ← e1, m214 hx2.1 t, bI_ret, m215 hx2.1 t]
      have f2 : F61 σ (sI τ 61 20 (ι i)) := f.m (by omega)
      have h16' : gI (sI τ 61 20 (ι i)) 61 16 = ι i := by rw [gI_n (by omega)]; exact h16
      unfold tkS
      rw [hr, if_neg (show ¬ n ≤ i by omega)]
      by_cases e5 : chK (x i) = 1
      · rw [decide_eq_true ⟨hin, e5⟩, bz_t, if_neg (by decide)]
        refine (words (n - i) i i _ _ rfl (Nat.le_refl _) hi f2 h16' gI_s rfl).mono ?_
        rintro z ⟨v, τ', rfl, ⟨g1, g2, g3, g4⟩, g5⟩
        refine ⟨v, τ', rfl, ⟨?_, g2, ?_, ?_, fun g => absurd g (by show ¬ chK (x i) = 2; omega)⟩, g5⟩
        · show _ = ι (if chK (x i) = 5 then 4 else chK (x i)); rw [if_neg (by omega), e5]; exact g1
        · show _ = ι (if chK (x i) = 1 ∨ chK (x i) = 2 then _ else _); rw [if_pos (Or.inl e5), e5]; exact g3
        · show _ = ι (if chK (x i) = 1 ∨ chK (x i) = 2 then _ else _); rw [if_pos (Or.inl e5), e5]; exact g4
      rw [decide_eq_false (fun g => e5 g.2), bz_f, if_pos rfl, bI_ret]
      by_cases e6 : chK (x i) = 2
      · rw [decide_eq_true ⟨hin, e6⟩, bz_t, if_neg (by decide)]
        refine (digs (n - i) i i _ _ rfl (Nat.le_refl _) hi (f2.m (by omega)) (by rw [gI_n (by omega)]; exact h16') (by rw [gI_n (by omega), gI_s]) rfl (fun j c1 c2 => by omega) ⟨0, by omega, gI_s, fun _ => by rw [Nat.sub_self]; rfl⟩).mono ?_
        rintro z ⟨v, τ', rfl, ⟨g1, g2, g3, g4, g4'⟩, g5⟩
        have ee : (if chK (x i) = 1 ∨ chK (x i) = 2 then rwE n x (chK (x i)) (n - i) i else i + 1) = rwE n x 2 (n - i) i := by rw [if_pos (Or.inr e6), e6]
        refine ⟨v, τ', rfl, ⟨?_, g2, ?_, ?_, fun g => ?_⟩, g5⟩
        · show _ = ι (if chK (x i) = 5 then 4 else chK (x i)); rw [if_neg (by omega), e6]; exact g1
        · show _ = ι (if chK (x i) = 1 ∨ chK (x i) = 2 then _ else _); rw [ee]; exact g3
        · show _ = ι (if chK (x i) = 1 ∨ chK (x i) = 2 then _ else _); rw [ee]; exact g4
        · show (if chK (x i) = 1 ∨ chK (x i) = 2 then rwE n x (chK (x i)) (n - i) i else i + 1) - i ≤ 4 → _ = ι (nuS x i ((if chK (x i) = 1 ∨ chK (x i) = 2 then rwE n x (chK (x i)) (n - i) i else i + 1) - i))
          rw [ee]; exact g4'
      have hx3 := h.f (f2.m (i := 16) (y := ι (i + 1)) (by omega))
      rw [decide_eq_false (fun g => e6 g.2), bz_f, if_pos rfl, h16', ι_add, e1, m216 hx3.1 hxb, bI_ret]
      have fin : ∀ c, c = (if chK (x i) = 5 then 4 else chK (x i)) → RV (fun τ => TkM x (chK (x i), i, if chK (x i) = 1 ∨ chK (x i) = 2 then rwE n x (chK (x i)) (n - i) i else i + 1) τ ∧ F61 σ τ) (0, .null, sI (sI (sI (sI τ 61 20 (ι i)) 61 16 (ι (i + 1))) 61 18 (ι c)) 61 21 (ι (i + 1))) := by
        intro c hc
        have ee : (if chK (x i) = 1 ∨ chK (x i) = 2 then rwE n x (chK (x i)) (n - i) i else i + 1) = i + 1 := if_neg (by omega)
        rw [ee]
        refine ⟨_, _, rfl, ⟨by rw [gI_n (by omega), gI_s, hc], by rw [gI_n (by omega), gI_n (by omega), gI_n (by omega), gI_s], gI_s, by rw [gI_n (by omega), gI_n (by omega), gI_s], fun g => absurd g e6⟩, ((f2.m (by omega)).m (by omega)).m (by omega)⟩
      by_cases e7 : chK (x i) = 3
      · rw [decide_eq_true e7, bz_t, if_neg (by decide), gI_n (show 16 ≠ 18 by omega), gI_s]
        exact .ret (fin 3 (by rw [if_neg (by omega), e7]))
      · rw [decide_eq_false e7, bz_f, if_pos rfl, gI_n (show 16 ≠ 18 by omega), gI_s]
        exact .ret (fin 4 (by rw [if_pos (by omega)]))
  exact blank (n - e) e σ (.retAddr 0) rfl (Nat.le_refl _) hen F61.rf he rfl
/-- whether the token is a word, a sign -/
def wdS (x : Nat → Nat) (tk : Nat × Nat × Nat) (w : Nat) : Bool := decide (tk.1 = 1) && decide (tk.2.2 - tk.2.1 = slen (w - 1000)) && allB (fun j => decide (ι (x (tk.2.1 + j)) = sby (w - 1000) j)) (slen (w - 1000))
def sgS (x : Nat → Nat) (tk : Nat × Nat × Nat) (c : Nat) : Bool := decide (tk.1 = 3) && decide (x tk.2.1 = c)
theorem c48 (t : Txt n x) (h : TxC n x σ) (ok : okTk n x tk) (k : TkC x tk σ) (hw : 1000 ≤ w) (hw2 : w < 1026) : pcall 48 [.ref 24, .ref w] σ = some (1, .int (bz (wdS x tk w)), σ) := by
  obtain ⟨i1, rfl⟩ : ∃ i1, w = i1 + 1000 := ⟨w - 1000, by omega⟩
  have hi : i1 < 26 := by omega
  have h7 := t.1
  have hs := (slen_ok i1 hi).2
  obtain ⟨o1, o2, o3, o4, o5, o6, o7⟩ := ok
  refine Wp.eqI (Wp.le (M_48 hi rfl h.1) ?_)
  unfold wdS
  rw [Nat.add_sub_cancel, k.1, k.2.1, k.2.2.1, ι_sub o1]
  by_cases e : tk.1 = 1
  · rw [if_neg (fun g => g (by rw [e])), p11 h.1 hi, bI_ret, decide_eq_true e, Bool.true_and]
    by_cases e2 : tk.2.2 - tk.2.1 = slen i1
    · rw [if_pos (by rw [e2]), decide_eq_true e2, Bool.true_and]
      refine Wp.loop (α := Value) (slen i1) (fun j v => C_48_28 i1 (ι j) v σ) (fun j _ => ∀ l, l < j → decide (ι (x (tk.2.1 + l)) = sby i1 l) = true) ?_ ?_ (t := 0) (a := .retAddr 0) (Nat.zero_le _) (fun l hl => absurd hl (Nat.not_lt_zero l))
      · intro j v hj hx c
        refine Wp.le (T_48_28 hi rfl h.1) ?_
        rw [p11 h.1 hi, bI_ret, k.2.1, ι_add, if_neg (by rw [ι_le (by omega) (by omega)]; omega), if_neg (by rw [ι_lt (by omega) (by omega)]; omega), if_neg (by rw [ι_le (by omega) (by omega)]; omega), gd_inb (by omega) (by omega), p13 h.1 hi hj, bI_ret, ix_ι (by omega), h.2.2.1 _ (by omega), ι_add]
        by_cases e3 : ι (x (tk.2.1 + j)) = sby i1 j
        · rw [if_pos e3]
          refine c _ fun l hl => ?_
          by_cases e4 : l = j
          · rw [e4]; exact decide_eq_true e3
          · exact hx l (by omega)
        · rw [if_neg e3, allB_f hj (decide_eq_false e3)]
          exact Wp.retI rfl
      · intro v hx
        refine Wp.le (T_48_28 hi rfl h.1) ?_
        rw [p11 h.1 hi, bI_ret, if_pos (Int32.le_refl _), allB_iff.mpr hx]
        exact Wp.retI rfl
    · rw [if_neg (by rw [ι_eq (by omega) (by omega)]; exact e2), decide_eq_false e2, Bool.false_and]
      exact Wp.retI rfl
  · rw [if_pos (by rw [ι_eq (by omega) (by omega)]; exact e), decide_eq_false e, Bool.false_and, Bool.false_and]
    exact Wp.retI rfl
theorem m219 (t : Txt n x) (h : TxM n x σ) (ok : okTk n x tk) (k : TkM x tk σ) (h22 : gI σ 61 22 = ι 0) (hw : 1000 ≤ w) (hw2 : w < 1026) : pcall 219 [.ref 61, .ref w] σ = some (1, .int (bz (wdS x tk w)), σ) := by
  obtain ⟨i1, rfl⟩ : ∃ i1, w = i1 + 1000 := ⟨w - 1000, by omega⟩
  have hi : i1 < 26 := by omega
  have h7 := t.1
  have hs := (slen_ok i1 hi).2
  obtain ⟨o1, o2, o3, o4, o5, o6, o7⟩ := ok
  have no : Wp (C_219_39 i1 (ι 0) (ι 0) σ) (RI (bz false) (fun τ => τ = σ)) := by
    refine Wp.le (T_219_39 hi rfl h.1) ?_
    rw [if_pos rfl, gd_pos (show narrow .boolean (.int (ι 0)) = .int (ι 0) from narrow_bz false)]
    exact Wp.retI rfl
  refine Wp.eqI (Wp.le (M_219 hi rfl h.1) ?_)
  unfold wdS
  rw [Nat.add_sub_cancel, h22, if_neg (fun g => g rfl), k.1]
  by_cases e : tk.1 = 1
  · rw [if_neg (fun g => g (by rw [if_neg (by omega), e])), p11 h.1 hi, bI_ret, k.2.1, k.2.2.1, ι_sub o1, decide_eq_true e, Bool.true_and]
    by_cases e2 : tk.2.2 - tk.2.1 = slen i1
    · rw [if_neg (fun g => g (by rw [e2])), decide_eq_true e2, Bool.true_and]
      refine Wp.loop (α := Bool) (slen i1) (fun j b => C_219_39 i1 (bz b) (ι j) σ) (fun j b => b = allB (fun j => decide (ι (x (tk.2.1 + j)) = sby i1 j)) j) ?_ ?_ (t := 0) (a := true) (Nat.zero_le _) rfl
      · rintro j b hj rfl c
        have c := c _ rfl
        rw [allB_s] at c
        refine Wp.le (T_219_39 hi rfl h.1) ?_
        by_cases e4 : allB (fun j => decide (ι (x (tk.2.1 + j)) = sby i1 j)) j = true
        · rw [e4, Bool.true_and] at c
          rw [e4, bz_t, if_neg (by decide), p11 h.1 hi, bI_ret, if_neg (by rw [ι_le (by omega) (by omega)]; omega), p13 h.1 hi hj, bI_ret, k.2.1, ι_add, gd_inb (by omega) (by omega), ix_ι (by omega), h.2.2 _ (by omega), ι_add]
          by_cases e3 : ι (x (tk.2.1 + j)) = sby i1 j
          · rw [decide_eq_true e3] at c
            rw [if_neg (fun g => g e3.symm)]; exact c
          · rw [decide_eq_false e3] at c
            rw [if_pos (fun g => e3 g.symm)]; exact c
        · have e4' : allB (fun j => decide (ι (x (tk.2.1 + j)) = sby i1 j)) j = false := by simpa using e4
          rw [e4', bz_f, if_pos rfl, gd_pos (show narrow .boolean (.int (ι 0)) = .int (ι 0) from narrow_bz false), allB_m (by omega) e4']
          exact Wp.retI rfl
      · rintro b rfl
        refine Wp.le (T_219_39 hi rfl h.1) ?_
        by_cases e4 : allB (fun j => decide (ι (x (tk.2.1 + j)) = sby i1 j)) (slen i1) = true
        · rw [e4, bz_t, if_neg (by decide), p11 h.1 hi, bI_ret, if_pos (Int32.le_refl _), gd_pos (show narrow .boolean (.int (ι 1)) = .int (ι 1) from narrow_bz true)]
          exact Wp.retI rfl
        · have e4' : allB (fun j => decide (ι (x (tk.2.1 + j)) = sby i1 j)) (slen i1) = false := by simpa using e4
          rw [e4', bz_f, if_pos rfl, gd_pos (show narrow .boolean (.int (ι 0)) = .int (ι 0) from narrow_bz false)]
          exact Wp.retI rfl
    · rw [if_pos (by rw [ι_eq (by omega) (by omega)]; exact fun g => e2 g.symm), decide_eq_false e2, Bool.false_and]
      exact no
  · rw [if_pos (by rw [ι_eq (by split <;> omega) (by omega)]; split <;> omega), decide_eq_false e, Bool.false_and, Bool.false_and]
    exact no
theorem c58 (t : Txt n x) (h : TxC n x σ) (ok : okTk n x tk) (k : TkC x tk σ) (hc : c < 256) : pcall 58 [.ref 24, .int (ι c)] σ = some (1, .int (bz (sgS x tk c)), σ) := by
  have h7 := t.1
  obtain ⟨o1, o2, o3, o4, o5, o6, o7⟩ := ok
  refine (M_58 rfl h.1).eq ?_
  unfold sgS
  rw [k.1]
  by_cases e : tk.1 = 3
  · have hx := t.2 tk.2.1 (by have := o4 (by omega); omega)
    rw [if_neg (fun g => g (by rw [e])), k.2.2.2.1 e, decide_eq_true e, Bool.true_and]
    by_cases e2 : x tk.2.1 = c
    · rw [if_neg (fun g => g (by rw [e2])), decide_eq_true e2]; rfl
    · rw [if_pos (by rw [ι_eq (by omega) (by omega)]; exact e2), decide_eq_false e2]; rfl
  · rw [if_pos (by rw [ι_eq (by omega) (by omega)]; exact e), decide_eq_false e, Bool.false_and]; rfl
theorem m222 (t : Txt n x) (h : TxM n x σ) (ok : okTk n x tk) (k : TkM x tk σ) (h22 : gI σ 61 22 = ι 0) (hc : c < 256) : pcall 222 [.ref 61, .int (ι c)] σ = some (1, .int (bz (sgS x tk c)), σ) := by
  have h7 := t.1
  obtain ⟨o1, o2, o3, o4, o5, o6, o7⟩ := ok
  refine (M_222 rfl h.1).eq ?_
  unfold sgS
  rw [h22, if_neg (fun g => g rfl), k.1]
  by_cases e : tk.1 = 3
  · have hb := o4 (by omega)
    have hx := t.2 tk.2.1 (by omega)
    rw [if_neg (fun g => g (by rw [if_neg (by omega), e])), k.2.1, gd_inb (by omega) (by omega), ix_ι (by omega), h.2.2 _ (by omega), decide_eq_true e, Bool.true_and]
    by_cases e2 : x tk.2.1 = c
    · rw [if_neg (fun g => g (by rw [e2])), decide_eq_true e2]; rfl
    · rw [if_pos (by rw [ι_eq (by omega) (by omega)]; exact e2), decide_eq_false e2]; rfl
  · rw [if_pos (by rw [ι_eq (by split <;> omega) (by omega)]; split <;> omega), decide_eq_false e, Bool.false_and]; rfl
end LEX
