/-! ===== one thing for each: which is most, over rows of digits ===== -/
section EACH0
variable {P T : Nat} {w : Nat → Nat → Nat} {a b f g : Nat → Nat} {k p q t c H S n : Nat}
/-- the sum over k from p on -/
def smN : Nat → Nat → (Nat → Nat) → Nat
  | 0, _, _ => 0
  | k + 1, p, f => f p + smN k (p + 1) f
theorem smN_s (k p : Nat) (f : Nat → Nat) : smN (k + 1) p f = f p + smN k (p + 1) f := rfl
theorem smN_congr (h : ∀ q, p ≤ q → q < p + k → f q = g q) : smN k p f = smN k p g := by
  induction k generalizing p with
  | zero => rfl
  | succ k ih => rw [smN_s, smN_s, h p (by omega) (by omega), ih (fun q h1 h2 => h q (by omega) (by omega))]
theorem smN_upd (h1 : p ≤ q) (h2 : q < p + k) (h : ∀ r, p ≤ r → r < p + k → r ≠ q → f r = g r) (e : f q = g q + c) : smN k p f = smN k p g + c := by
  induction k generalizing p with
  | zero => omega
  | succ k ih =>
    rw [smN_s, smN_s]
    by_cases e2 : q = p
    · subst e2
      rw [e, smN_congr (f := f) (g := g) (fun r a b => h r (by omega) (by omega) (by omega))]; omega
    · rw [h p (by omega) (by omega) (fun g => e2 g.symm), ih (by omega) (by omega) (fun r a b d => h r (by omega) (by omega) d)]; omega
theorem smN_le (h : ∀ q, p ≤ q → q < p + k → f q ≤ c) : smN k p f ≤ k * c := by
  induction k generalizing p with
  | zero => exact Nat.zero_le _
  | succ k ih =>
    rw [smN_s, Nat.succ_mul]
    have := h p (by omega) (by omega)
    have := ih (p := p + 1) (fun q a b => h q (by omega) (by omega))
    omega
theorem smN_add : smN k p (fun q => f q + g q) = smN k p f + smN k p g := by
  induction k generalizing p with
  | zero => rfl
  | succ k ih => rw [smN_s, smN_s, smN_s, ih]; omega
theorem smN_mul : smN k p (fun q => c * f q) = c * smN k p f := by
  induction k generalizing p with
  | zero => rfl
  | succ k ih => rw [smN_s, smN_s, ih, Nat.mul_add]
/-- a row's number below: the digits of those from p on -/
def dA (k p : Nat) (a : Nat → Nat) : Nat := smN k p (fun q => a q * 13 ^ (7 - q))
theorem dA_lt (h : ∀ q, p ≤ q → q < p + k → a q ≤ 12) (h8 : p + k ≤ 8) : dA k p a < 13 ^ (8 - p) := by
  induction k generalizing p with
  | zero => exact Nat.pow_pos (by omega)
  | succ k ih =>
    have h1 := ih (p := p + 1) (fun q a b => h q (by omega) (by omega)) (by omega)
    have h2 := h p (by omega) (by omega)
    show a p * 13 ^ (7 - p) + dA k (p + 1) a < _
    have e : 8 - p = 7 - p + 1 := by omega
    have e2 : 8 - (p + 1) = 7 - p := by omega
    rw [e2] at h1
    rw [e, Nat.pow_succ]
    have h3 : a p * 13 ^ (7 - p) ≤ 12 * 13 ^ (7 - p) := Nat.mul_le_mul_right _ h2
    omega
theorem fdmax {cc : Nat → Bool} {f : Nat → Nat} {s0 : Nat} (n : Nat) : s0 ≤ fd (fun t s => if cc t = true then s else max s (f t)) n s0 ∧ (∀ t, t < n → cc t = false → f t ≤ fd (fun t s => if cc t = true then s else max s (f t)) n s0) ∧ (fd (fun t s => if cc t = true then s else max s (f t)) n s0 = s0 ∨ ∃ t, t < n ∧ cc t = false ∧ fd (fun t s => if cc t = true then s else max s (f t)) n s0 = f t) := by
  induction n with
  | zero => exact ⟨Nat.le_refl _, fun t ht => absurd ht (Nat.not_lt_zero t), Or.inl rfl⟩
  | succ n ih =>
    have e : fd (fun t s => if cc t = true then s else max s (f t)) (n + 1) s0 = if cc n = true then fd (fun t s => if cc t = true then s else max s (f t)) n s0 else max (fd (fun t s => if cc t = true then s else max s (f t)) n s0) (f n) := rfl
    rw [e]
    generalize fd (fun t s => if cc t = true then s else max s (f t)) n s0 = r at ih
    obtain ⟨i1, i2, i3⟩ := ih
    by_cases hc : cc n = true
    · rw [if_pos hc]
      refine ⟨i1, fun t ht c => ?_, ?_⟩
      · by_cases e : t = n
        · subst e; rw [hc] at c; exact absurd c (by decide)
        · exact i2 t (by omega) c
      · rcases i3 with h | ⟨t, ht, h⟩
        · exact Or.inl h
        · exact Or.inr ⟨t, by omega, h⟩
    · rw [if_neg hc]
      have hf : cc n = false := by simpa using hc
      refine ⟨by omega, fun t ht c => ?_, ?_⟩
      · by_cases e : t = n
        · subst e; omega
        · have := i2 t (by omega) c; omega
      · by_cases e : r ≤ f n
        · right; exact ⟨n, by omega, hf, by omega⟩
        · rw [show max r (f n) = r by omega]
          rcases i3 with h | ⟨t, ht, h⟩
          · exact Or.inl h
          · exact Or.inr ⟨t, by omega, h⟩
theorem fdpick {gd : Nat → Prop} [DecidablePred gd] (n : Nat) (hn : n ≤ T) : (fd (fun i s => if gd (T - 1 - i) then 12 - (T - 1 - i) else s) n 0 = 0 ∧ ∀ t, T - n ≤ t → t < T → ¬ gd t) ∨ ∃ t, T - n ≤ t ∧ t < T ∧ gd t ∧ fd (fun i s => if gd (T - 1 - i) then 12 - (T - 1 - i) else s) n 0 = 12 - t ∧ ∀ t', T - n ≤ t' → t' < t → ¬ gd t' := by
  induction n with
  | zero => exact Or.inl ⟨rfl, fun t h1 h2 => by omega⟩
  | succ n ih =>
    have ih := ih (by omega)
    have e : fd (fun i s => if gd (T - 1 - i) then 12 - (T - 1 - i) else s) (n + 1) 0 = if gd (T - 1 - n) then 12 - (T - 1 - n) else fd (fun i s => if gd (T - 1 - i) then 12 - (T - 1 - i) else s) n 0 := rfl
    rw [e]
    by_cases hg : gd (T - 1 - n)
    · rw [if_pos hg]
      exact Or.inr ⟨T - 1 - n, by omega, by omega, hg, rfl, fun t' h1 h2 => by omega⟩
    · rw [if_neg hg]
      have hx : ∀ t, T - (n + 1) ≤ t → ¬ T - n ≤ t → ¬ gd t := fun t h1 h2 => by
        have : t = T - 1 - n := by omega
        rw [this]; exact hg
      rcases ih with ⟨e1, e2⟩ | ⟨t, h1, h2, h3, h4, h5⟩
      · refine Or.inl ⟨e1, fun t a b => ?_⟩
        by_cases e : T - n ≤ t
        · exact e2 t e b
        · exact hx t a e
      · refine Or.inr ⟨t, by omega, h2, h3, h4, fun t' a b => ?_⟩
        by_cases e : T - n ≤ t'
        · exact h5 t' e b
        · exact hx t' a e
/-- the most that k people from p on come to, without what H has: 1000 for each thing, and worth -/
def mB (T : Nat) (w : Nat → Nat → Nat) : Nat → Nat → Nat → Nat
  | 0, _, _ => 0
  | k + 1, p, H => fd (fun t s => if H.testBit t = true then s else max s (1000 + w p t + mB T w k (p + 1) (H ||| 1 <<< t))) T (mB T w k (p + 1) H)
/-- whether p may have t and all is most -/
abbrev gdB (T : Nat) (w : Nat → Nat → Nat) (k p H t : Nat) : Prop := H.testBit t = false ∧ 1000 + w p t + mB T w k (p + 1) (H ||| 1 <<< t) = mB T w (k + 1) p H
def pkB (T : Nat) (w : Nat → Nat → Nat) (k p H : Nat) : Nat := fd (fun i s => if gdB T w k p H (T - 1 - i) then 12 - (T - 1 - i) else s) T 0
def hadd (H d : Nat) : Nat := if d = 0 then H else H ||| 1 <<< (12 - d)
def dgB (T : Nat) (w : Nat → Nat → Nat) : Nat → Nat → Nat → Nat → Nat
  | 0, _, _, _ => 0
  | k + 1, p, H, q => if q = p then pkB T w k p H else dgB T w k (p + 1) (hadd H (pkB T w k p H)) q
def OKa (T k p H : Nat) (a : Nat → Nat) : Prop := ∀ q, p ≤ q → q < p + k → a q ≠ 0 → a q ≤ 12 ∧ 12 - a q < T ∧ H.testBit (12 - a q) = false ∧ ∀ r, q < r → r < p + k → a r ≠ a q
def vA (w : Nat → Nat → Nat) (k p : Nat) (a : Nat → Nat) : Nat := smN k p (fun q => if a q = 0 then 0 else 1000 + w q (12 - a q))
theorem tbo (H t s : Nat) : (H ||| 1 <<< t).testBit s = (H.testBit s || decide (t = s)) := by
  rw [Nat.testBit_or, Nat.shiftLeft_eq, Nat.one_mul, Nat.testBit_two_pow]
theorem mB_1 : mB T w k (p + 1) H ≤ mB T w (k + 1) p H := (fdmax (cc := fun t => H.testBit t) (f := fun t => 1000 + w p t + mB T w k (p + 1) (H ||| 1 <<< t)) T).1
theorem mB_2 (ht : t < T) (h : H.testBit t = false) : 1000 + w p t + mB T w k (p + 1) (H ||| 1 <<< t) ≤ mB T w (k + 1) p H := (fdmax (cc := fun t => H.testBit t) (f := fun t => 1000 + w p t + mB T w k (p + 1) (H ||| 1 <<< t)) (s0 := mB T w k (p + 1) H) T).2.1 t ht h
theorem mB_3 : mB T w (k + 1) p H = mB T w k (p + 1) H ∨ ∃ t, t < T ∧ gdB T w k p H t := by
  rcases (fdmax (cc := fun t => H.testBit t) (f := fun t => 1000 + w p t + mB T w k (p + 1) (H ||| 1 <<< t)) (s0 := mB T w k (p + 1) H) T).2.2 with h | ⟨t, h1, h2, h3⟩
  · exact Or.inl h
  · exact Or.inr ⟨t, h1, h2, h3.symm⟩
theorem pkB_or : (pkB T w k p H = 0 ∧ ∀ t, t < T → ¬ gdB T w k p H t) ∨ ∃ t, t < T ∧ gdB T w k p H t ∧ pkB T w k p H = 12 - t ∧ ∀ t', t' < t → ¬ gdB T w k p H t' := by
  rcases fdpick (gd := gdB T w k p H) T (Nat.le_refl T) with ⟨h1, h2⟩ | ⟨t, h1, h2, h3, h4, h5⟩
  · exact Or.inl ⟨h1, fun t ht => h2 t (by omega) ht⟩
  · exact Or.inr ⟨t, h2, h3, h4, fun t' ht => h5 t' (by omega) ht⟩
theorem OKa.tail (h : OKa T (k + 1) p H a) : OKa T k (p + 1) (hadd H (a p)) a := by
  intro q h1 h2 h3
  obtain ⟨a1, a2, a3, a4⟩ := h q (by omega) (by omega) h3
  refine ⟨a1, a2, ?_, fun r h4 h5 => a4 r h4 (by omega)⟩
  unfold hadd
  by_cases e : a p = 0
  · rw [if_pos e]; exact a3
  · rw [if_neg e, tbo, a3, Bool.false_or]
    obtain ⟨b1, b2, b3, b4⟩ := h p (by omega) (by omega) e
    have := b4 q (by omega) (by omega)
    exact decide_eq_false (by omega)
theorem OKa.le (h : OKa T k p H a) (h1 : p ≤ q) (h2 : q < p + k) : a q ≤ 12 := by
  by_cases e : a q = 0
  · omega
  · exact (h q h1 h2 e).1
theorem e1_step (h : OKa T (k + 1) p H a) (i : vA w k (p + 1) a ≤ mB T w k (p + 1) (hadd H (a p))) : vA w (k + 1) p a ≤ mB T w (k + 1) p H ∧ (vA w (k + 1) p a = mB T w (k + 1) p H → vA w k (p + 1) a = mB T w k (p + 1) (hadd H (a p)) ∧ (a p = 0 ∨ gdB T w k p H (12 - a p) ∧ 12 - a p < T ∧ a p ≤ 12)) := by
  have e : vA w (k + 1) p a = (if a p = 0 then 0 else 1000 + w p (12 - a p)) + vA w k (p + 1) a := rfl
  rw [e]
  unfold hadd at i ⊢
  by_cases z : a p = 0
  · rw [if_pos z] at i ⊢
    rw [if_pos z]
    have := mB_1 (T := T) (w := w) (k := k) (p := p) (H := H)
    exact ⟨by omega, fun g => ⟨by omega, Or.inl z⟩⟩
  · rw [if_neg z] at i ⊢
    rw [if_neg z]
    obtain ⟨b1, b2, b3, b4⟩ := h p (by omega) (by omega) z
    have := mB_2 (w := w) (k := k) (p := p) b2 b3
    exact ⟨by omega, fun g => ⟨by omega, Or.inr ⟨⟨b3, by omega⟩, b2, b1⟩⟩⟩
theorem e1 (h : OKa T k p H a) (hT : T ≤ 12) (h8 : p + k ≤ 8) : vA w k p a ≤ mB T w k p H ∧ (vA w k p a = mB T w k p H → dA k p a ≤ dA k p (dgB T w k p H)) := by
  induction k generalizing p H with
  | zero => exact ⟨Nat.le_refl _, fun _ => Nat.le_refl _⟩
  | succ k ih =>
    have i := ih h.tail (by omega)
    obtain ⟨s1, s2⟩ := e1_step h i.1
    refine ⟨s1, fun g => ?_⟩
    obtain ⟨s3, s4⟩ := s2 g
    have i2 := i.2 s3
    have ed : dA (k + 1) p (dgB T w (k + 1) p H) = pkB T w k p H * 13 ^ (7 - p) + dA k (p + 1) (dgB T w k (p + 1) (hadd H (pkB T w k p H))) := by
      unfold dA
      rw [smN_s]
      congr 1
      · show (if p = p then pkB T w k p H else _) * _ = _
        rw [if_pos rfl]
      · refine smN_congr fun q h1 h2 => ?_
        show (if q = p then pkB T w k p H else _) * _ = _
        rw [if_neg (by omega)]
    have ea : dA (k + 1) p a = a p * 13 ^ (7 - p) + dA k (p + 1) a := rfl
    have hle : a p ≤ pkB T w k p H := by
      rcases s4 with z | ⟨z1, z2, z3⟩
      · omega
      · rcases pkB_or (T := T) (w := w) (k := k) (p := p) (H := H) with ⟨h1, h2⟩ | ⟨t, h1, h2, h3, h4⟩
        · exact absurd z1 (h2 _ z2)
        · rw [h3]
          by_cases e : 12 - a p < t
          · exact absurd z1 (h4 _ e)
          · omega
    rw [ed, ea]
    by_cases e : a p = pkB T w k p H
    · rw [← e]; omega
    · have h3 := dA_lt (a := a) (p := p + 1) (k := k) (fun q h1 h2 => h.le (by omega) (by omega)) (by omega)
      have e2 : 8 - (p + 1) = 7 - p := by omega
      rw [e2] at h3
      have h4 : (a p + 1) * 13 ^ (7 - p) ≤ pkB T w k p H * 13 ^ (7 - p) := Nat.mul_le_mul_right _ (by omega)
      rw [Nat.add_mul, Nat.one_mul] at h4
      omega
theorem e2 (hT : T ≤ 12) : OKa T k p H (dgB T w k p H) ∧ vA w k p (dgB T w k p H) = mB T w k p H := by
  induction k generalizing p H with
  | zero => exact ⟨fun q h1 h2 => by omega, rfl⟩
  | succ k ih =>
    have i := ih (p := p + 1) (H := hadd H (pkB T w k p H))
    have hp : dgB T w (k + 1) p H p = pkB T w k p H := if_pos rfl
    have hq : ∀ q, q ≠ p → dgB T w (k + 1) p H q = dgB T w k (p + 1) (hadd H (pkB T w k p H)) q := fun q h => if_neg h
    have ev : vA w (k + 1) p (dgB T w (k + 1) p H) = (if pkB T w k p H = 0 then 0 else 1000 + w p (12 - pkB T w k p H)) + mB T w k (p + 1) (hadd H (pkB T w k p H)) := by
      rw [← i.2]
      unfold vA
      rw [smN_s, hp]
      congr 1
      exact smN_congr fun q h1 h2 => by rw [hq q (by omega)]
    rcases pkB_or (T := T) (w := w) (k := k) (p := p) (H := H) with ⟨h1, h2⟩ | ⟨t, h1, h2, h3, h4⟩
    · rw [h1] at ev hp hq i
      have eh : hadd H 0 = H := if_pos rfl
      rw [eh] at ev hq i
      refine ⟨fun q a1 a2 a3 => ?_, ?_⟩
      · by_cases e : q = p
        · subst e; exact absurd hp a3
        · rw [hq q e] at a3 ⊢
          obtain ⟨b1, b2, b3, b4⟩ := i.1 q (by omega) (by omega) a3
          exact ⟨b1, b2, b3, fun r c1 c2 => by rw [hq r (by omega)]; exact b4 r c1 (by omega)⟩
      · rw [ev, if_pos rfl, Nat.zero_add]
        rcases mB_3 (T := T) (w := w) (k := k) (p := p) (H := H) with h | ⟨t, c1, c2⟩
        · exact h.symm
        · exact absurd c2 (h2 t c1)
    · rw [h3] at ev hp hq i
      have eh : hadd H (12 - t) = H ||| 1 <<< t := by
        unfold hadd
        rw [if_neg (by omega), show 12 - (12 - t) = t by omega]
      rw [eh] at ev hq i
      have tt : 12 - (12 - t) = t := by omega
      refine ⟨fun q a1 a2 a3 => ?_, ?_⟩
      · by_cases e : q = p
        · subst e
          rw [hp, tt]
          refine ⟨by omega, h1, h2.1, fun r c1 c2 c3 => ?_⟩
          rw [hq r (by omega)] at c3
          have b := (i.1 r (by omega) (by omega) (by omega)).2.2.1
          rw [c3, tt, tbo] at b
          simp at b
        · rw [hq q e] at a3 ⊢
          obtain ⟨b1, b2, b3, b4⟩ := i.1 q (by omega) (by omega) a3
          refine ⟨b1, b2, ?_, fun r c1 c2 => by rw [hq r (by omega)]; exact b4 r c1 (by omega)⟩
          rw [tbo] at b3
          simp at b3
          exact b3.1
      · rw [ev, if_neg (by omega), tt]
        exact h2.2
/-- how many are given one, what all are worth -/
def cA (k p : Nat) (a : Nat → Nat) : Nat := smN k p (fun q => if a q = 0 then 0 else 1)
def wA (w : Nat → Nat → Nat) (k p : Nat) (a : Nat → Nat) : Nat := smN k p (fun q => if a q = 0 then 0 else w q (12 - a q))
theorem vA_eq : vA w k p a = 1000 * cA k p a + wA w k p a := by
  unfold vA cA wA
  rw [← smN_mul, ← smN_add]
  refine smN_congr fun q _ _ => ?_
  by_cases e : a q = 0
  · rw [if_pos e, if_pos e, if_pos e]
  · rw [if_neg e, if_neg e, if_neg e]
theorem wA_le (hw : ∀ q t, q < P → t < T → w q t ≤ 9) (h : OKa T P 0 H a) : wA w P 0 a ≤ P * 9 := by
  refine smN_le fun q h1 h2 => ?_
  by_cases e : a q = 0
  · rw [if_pos e]; omega
  · rw [if_neg e]; exact hw q _ (by omega) (h q h1 h2 e).2.1
def pcNn (T H : Nat) : Nat := smN T 0 (fun t => if H.testBit t = true then 1 else 0)
theorem e3 (h : OKa T k p H a) : cA k p a + pcNn T H ≤ T := by
  induction k generalizing p H with
  | zero =>
    have := smN_le (k := T) (p := 0) (c := 1) (f := fun t => if H.testBit t = true then 1 else 0) (fun q _ _ => by split <;> omega)
    show 0 + pcNn T H ≤ T
    unfold pcNn
    omega
  | succ k ih =>
    have i := ih h.tail
    have e : cA (k + 1) p a = (if a p = 0 then 0 else 1) + cA k (p + 1) a := rfl
    rw [e]
    unfold hadd at i
    by_cases z : a p = 0
    · rw [if_pos z] at i ⊢; omega
    · rw [if_neg z] at i ⊢
      obtain ⟨b1, b2, b3, b4⟩ := h p (by omega) (by omega) z
      have : pcNn T (H ||| 1 <<< (12 - a p)) = pcNn T H + 1 := by
        unfold pcNn
        refine smN_upd (q := 12 - a p) (by omega) (by omega) (fun r _ _ hr => ?_) ?_
        · rw [tbo, decide_eq_false (fun g => hr g.symm), Bool.or_false]
        · rw [tbo, b3]; simp
      omega
theorem cid (k p : Nat) : smN k p (fun q => if q < T then 1 else 0) + min p T = min (p + k) T := by
  induction k generalizing p with
  | zero => simp [smN]
  | succ k ih =>
    rw [smN_s]
    have := ih (p + 1)
    by_cases e : p < T
    · rw [if_pos e]; omega
    · rw [if_neg e]; omega
/-- the reference's row -/
abbrev bestA (P T : Nat) (w : Nat → Nat → Nat) : Nat → Nat := dgB T w P 0 0
theorem best_ok (hT : T ≤ 12) : OKa T P 0 0 (bestA P T w) := (e2 hT).1
theorem best_full (hw : ∀ q t, q < P → t < T → w q t ≤ 9) (hP : P ≤ 8) (hT : T ≤ 12) : cA P 0 (bestA P T w) = min P T := by
  have h0 : OKa T P 0 0 (fun q => if q < T then 12 - q else 0) := by
    intro q _ h2 h3
    by_cases e : q < T
    · simp only [if_pos e]
      refine ⟨by omega, by omega, Nat.zero_testBit _, fun r h4 h5 => ?_⟩
      split <;> omega
    · exact absurd (if_neg e) h3
  have h1 : cA P 0 (fun q => if q < T then 12 - q else 0) = min P T := by
    have := cid (T := T) P 0
    unfold cA
    rw [smN_congr (g := fun q => if q < T then 1 else 0)]
    · omega
    · intro q _ _
      by_cases e : q < T
      · have : ¬ 12 - q = 0 := by omega
        simp [e, this]
      · simp [e]
  have h2 := (e1 (w := w) h0 hT (by omega)).1
  rw [vA_eq, h1, ← (e2 (w := w) (k := P) (p := 0) (H := 0) hT).2, vA_eq] at h2
  have h3 := wA_le hw (best_ok (P := P) (w := w) hT)
  have h4 := e3 (best_ok (P := P) (w := w) hT)
  have h5 := smN_le (k := P) (p := 0) (c := 1) (f := fun q => if bestA P T w q = 0 then 0 else 1) (fun q _ _ => by split <;> omega)
  have h6 : cA P 0 (bestA P T w) ≤ P := by unfold cA; omega
  have h7 : 1000 * min P T < 1000 * (cA P 0 (bestA P T w) + 1) := by
    show _ < 1000 * (cA P 0 (dgB T w P 0 0) + 1)
    have : wA w P 0 (dgB T w P 0 0) ≤ P * 9 := h3
    omega
  omega
/-- the number of a row -/
def nA (w : Nat → Nat → Nat) (P : Nat) (a : Nat → Nat) : Nat := wA w P 0 a * 815730721 + dA P 0 a
theorem best_top (hw : ∀ q t, q < P → t < T → w q t ≤ 9) (hP : P ≤ 8) (hT : T ≤ 12) (h : OKa T P 0 0 a) (hc : cA P 0 a = min P T) : nA w P a ≤ nA w P (bestA P T w) := by
  have h1 := e1 (w := w) h hT (by omega)
  have h2 := (e2 (w := w) (k := P) (p := 0) (H := 0) hT).2
  have h3 := best_full hw hP hT
  have h4 : vA w P 0 (dgB T w P 0 0) = 1000 * min P T + wA w P 0 (dgB T w P 0 0) := by rw [vA_eq]; exact congrArg (fun x => 1000 * x + _) h3
  have h5 : vA w P 0 a = 1000 * min P T + wA w P 0 a := by rw [vA_eq, hc]
  unfold nA
  by_cases e : wA w P 0 a = wA w P 0 (dgB T w P 0 0)
  · have := h1.2 (by omega)
    show _ ≤ wA w P 0 (dgB T w P 0 0) * _ + dA P 0 (dgB T w P 0 0)
    rw [e]; omega
  · have h6 : wA w P 0 a + 1 ≤ wA w P 0 (dgB T w P 0 0) := by omega
    have h7 := dA_lt (a := a) (p := 0) (k := P) (fun q a b => h.le a b) (by omega)
    have h8 : (wA w P 0 a + 1) * 815730721 ≤ wA w P 0 (dgB T w P 0 0) * 815730721 := Nat.mul_le_mul_right _ h6
    have h9 : 13 ^ (8 - 0) = 815730721 := by decide
    show _ ≤ wA w P 0 (dgB T w P 0 0) * _ + dA P 0 (dgB T w P 0 0)
    omega
theorem nA_w (h : ∀ q, q < P → a q ≤ 12) (hP : P ≤ 8) : nA w P a / 815730721 = wA w P 0 a ∧ nA w P a % 815730721 = dA P 0 a := by
  have h7 := dA_lt (a := a) (p := 0) (k := P) (fun q _ b => h q (by omega)) (by omega)
  have h9 : 13 ^ (8 - 0) = 815730721 := by decide
  rw [h9] at h7
  unfold nA
  constructor
  · rw [Nat.mul_comm, Nat.mul_add_div (by decide), Nat.div_eq_of_lt h7, Nat.add_zero]
  · rw [Nat.mul_comm, Nat.mul_add_mod, Nat.mod_eq_of_lt h7]
theorem dA_dig (h : ∀ q, p ≤ q → q < p + k → a q ≤ 12) (h8 : p + k ≤ 8) (h1 : p ≤ q) (h2 : q < p + k) : dA k p a / 13 ^ (7 - q) % 13 = a q := by
  induction k generalizing p with
  | zero => omega
  | succ k ih =>
    have e : dA (k + 1) p a = a p * 13 ^ (7 - p) + dA k (p + 1) a := rfl
    rw [e]
    have hl := dA_lt (a := a) (p := p + 1) (k := k) (fun q a b => h q (by omega) (by omega)) (by omega)
    rw [show 8 - (p + 1) = 7 - p by omega] at hl
    by_cases e2 : q = p
    · subst e2
      rw [Nat.mul_comm, Nat.mul_add_div (Nat.pow_pos (by omega)), Nat.div_eq_of_lt hl, Nat.add_zero]
      exact Nat.mod_eq_of_lt (by have := h q (by omega) (by omega); omega)
    · rw [← ih (p := p + 1) (fun q a b => h q (by omega) (by omega)) (by omega) (by omega) (by omega)]
      have e3 : 13 ^ (7 - p) = 13 ^ (7 - q) * (13 * 13 ^ (q - p - 1)) := by
        rw [← Nat.pow_succ', ← Nat.pow_add]; congr 1; omega
      rw [e3, show a p * (13 ^ (7 - q) * (13 * 13 ^ (q - p - 1))) = 13 ^ (7 - q) * (13 * (a p * 13 ^ (q - p - 1))) by
        rw [Nat.mul_left_comm, Nat.mul_left_comm (a p) 13], Nat.mul_add_div (Nat.pow_pos (by omega)), Nat.mul_add_mod]
end EACH0
