/-! ===== one thing for each: the most of those that give to just these people ===== -/
section EACH1
variable {P T : Nat} {w : Nat → Nat → Nat} {a b f g : Nat → Nat} {k p q t c H S n m v : Nat} {x y : Int64} {C D E : (Nat → Nat) → Prop} {V : (Nat → Nat) → Nat}
def jι (n : Nat) : Int64 := Int64.ofNat n
theorem jι_lt {a b : Nat} (ha : a < 2 ^ 63) (hb : b < 2 ^ 63) : (jι a < jι b) = (a < b) := propext (Int64.ofNat_lt_iff_lt ha hb)
theorem jι_add (a b : Nat) : jι a + jι b = jι (a + b) := (Int64.ofNat_add a b).symm
theorem jι_sub {a b : Nat} (h : b ≤ a) : jι a - jι b = jι (a - b) := (Int64.ofNat_sub a b h).symm
theorem jι_mul (a b : Nat) : jι a * jι b = jι (a * b) := (Int64.ofNat_mul a b).symm
theorem jι_div {a b : Nat} (ha : a < 2 ^ 63) (hb : b < 2 ^ 63) : jι a / jι b = jι (a / b) := (Int64.ofNat_div ha hb).symm
theorem jι_to (n : Nat) : (jι n).toInt32 = ι n := Int64.toInt32_ofNat
theorem jι_m1 {n : Nat} (h : n < 2 ^ 63) : (-1 : Int64) < jι n := by
  have h0 : ¬ jι n < jι 0 := by rw [jι_lt h (by omega)]; omega
  exact Int64.lt_of_lt_of_le (show (-1 : Int64) < jι 0 by decide) (Int64.not_lt.mp h0)
theorem jι_13 : (13 : Int64) = jι 13 := rfl
theorem jι_U : (815730721 : Int64) = jι 815730721 := rfl
theorem jι_0 : (0 : Int64) = jι 0 := rfl
theorem jι_sm : ∀ v, v < 13 → (ι v).toInt64 = jι v := by decide
theorem lmax_j {a b : Nat} (ha : a < 2 ^ 63) (hb : b < 2 ^ 63) : lmax (jι a) (jι b) = jι (max a b) := by
  unfold lmax
  by_cases e : b < a
  · rw [if_pos (by rw [jι_lt hb ha]; exact e), show max a b = a by omega]
  · rw [if_neg (by rw [jι_lt hb ha]; exact e), show max a b = b by omega]
theorem lmax_1 {a : Nat} (ha : a < 2 ^ 63) : lmax (-1) (jι a) = jι a := by
  unfold lmax
  rw [if_neg]
  exact fun g => Int64.lt_irrefl (Int64.lt_trans g (jι_m1 ha))
theorem lmax_2 {a : Nat} (ha : a < 2 ^ 63) : lmax (jι a) (-1) = jι a := by
  unfold lmax
  rw [if_pos (jι_m1 ha)]
theorem lmax_3 : lmax (-1) (-1) = -1 := by unfold lmax; decide
/-- the most of some rows, by a number; -1 without any -/
def Mx (V : (Nat → Nat) → Nat) (C : (Nat → Nat) → Prop) (x : Int64) : Prop := (x = -1 ∧ ∀ a, ¬ C a) ∨ ∃ a, C a ∧ x = jι (V a) ∧ V a < 2 ^ 62 ∧ ∀ b, C b → V b ≤ V a
theorem Mx.cg (h : Mx V C x) (e : ∀ a, C a ↔ D a) : Mx V D x := by
  rcases h with ⟨h1, h2⟩ | ⟨a, h1, h2, h3, h4⟩
  · exact Or.inl ⟨h1, fun a g => h2 a ((e a).mpr g)⟩
  · exact Or.inr ⟨a, (e a).mp h1, h2, h3, fun b g => h4 b ((e b).mpr g)⟩
theorem Mx.or (h : Mx V C x) (g : Mx V D y) : Mx V (fun a => C a ∨ D a) (lmax x y) := by
  rcases h with ⟨rfl, h2⟩ | ⟨a, h1, rfl, h3, h4⟩ <;> rcases g with ⟨rfl, g2⟩ | ⟨b, g1, rfl, g3, g4⟩
  · exact Or.inl ⟨lmax_3, fun a e => e.elim (h2 a) (g2 a)⟩
  · exact Or.inr ⟨b, Or.inr g1, lmax_1 (by omega), g3, fun d e => e.elim (fun e => absurd e (h2 d)) (g4 d)⟩
  · exact Or.inr ⟨a, Or.inl h1, lmax_2 (by omega), h3, fun d e => e.elim (h4 d) (fun e => absurd e (g2 d))⟩
  · rw [lmax_j (by omega) (by omega)]
    by_cases e : V b ≤ V a
    · refine Or.inr ⟨a, Or.inl h1, by rw [show max (V a) (V b) = V a by omega], h3, fun d e => ?_⟩
      rcases e with e | e
      · exact h4 d e
      · have := g4 d e; omega
    · refine Or.inr ⟨b, Or.inr g1, by rw [show max (V a) (V b) = V b by omega], g3, fun d e => ?_⟩
      rcases e with e | e
      · have := h4 d e; omega
      · exact g4 d e
/-- rows that give one of the first t things to each of S, and to nobody else -/
def Dm (P t S : Nat) (a : Nat → Nat) : Prop := (∀ p, p < P → (a p ≠ 0 ↔ S.testBit p = true)) ∧ OKa t P 0 0 a
def upN (a : Nat → Nat) (p d : Nat) : Nat → Nat := fun q => if q = p then d else a q
theorem upN_s : upN a p n p = n := if_pos rfl
theorem upN_n (h : q ≠ p) : upN a p n q = a q := if_neg h
theorem nA_up (hp : p < P) (h0 : a p = 0) (ht : t < 12) : nA w P (upN a p (12 - t)) = nA w P a + (w p t * 815730721 + (12 - t) * 13 ^ (7 - p)) := by
  have e1 : wA w P 0 (upN a p (12 - t)) = wA w P 0 a + w p t := by
    unfold wA
    refine smN_upd (q := p) (by omega) (by omega) (fun r _ _ hr => by rw [upN_n hr]) ?_
    simp only [upN_s, h0, if_true, Nat.zero_add]
    rw [if_neg (by omega), show 12 - (12 - t) = t by omega]
  have e2 : dA P 0 (upN a p (12 - t)) = dA P 0 a + (12 - t) * 13 ^ (7 - p) := by
    unfold dA
    refine smN_upd (q := p) (by omega) (by omega) (fun r _ _ hr => by rw [upN_n hr]) ?_
    simp only [upN_s, h0, Nat.zero_mul, Nat.zero_add]
  unfold nA
  rw [e1, e2, Nat.add_mul]
  omega
theorem Dm.put (h : Dm P t S a) (hp : p < P) (ht : t < 12) (hn : n.testBit p = true) (hS : ∀ q, q < P → S.testBit q = (n.testBit q && decide (q ≠ p))) : Dm P (t + 1) n (upN a p (12 - t)) ∧ a p = 0 := by
  have h0 : a p = 0 := by
    by_cases e : a p = 0
    · exact e
    · have := (h.1 p hp).mp e
      rw [hS p hp] at this
      simp at this
  refine ⟨⟨fun q hq => ?_, fun q h1 h2 h3 => ?_⟩, h0⟩
  · by_cases e : q = p
    · subst e
      rw [upN_s]
      exact ⟨fun _ => hn, fun _ => by omega⟩
    · rw [upN_n e, h.1 q hq, hS q hq]
      simp [e]
  · by_cases e : q = p
    · subst e
      rw [upN_s] at h3 ⊢
      refine ⟨by omega, by omega, Nat.zero_testBit _, fun r c1 c2 => ?_⟩
      rw [upN_n (by omega)]
      intro e
      have := (h.2 r (by omega) c2 (by omega)).2.1
      omega
    · rw [upN_n e] at h3 ⊢
      obtain ⟨b1, b2, b3, b4⟩ := h.2 q h1 h2 h3
      refine ⟨b1, by omega, b3, fun r c1 c2 => ?_⟩
      by_cases e3 : r = p
      · subst e3; rw [upN_s]; omega
      · rw [upN_n e3]; exact b4 r c1 c2
theorem Dm.cut (h : Dm P (t + 1) n a) (hp : p < P) (ht : t < 12) (e : a p = 12 - t) (hS : ∀ q, q < P → S.testBit q = (n.testBit q && decide (q ≠ p))) : Dm P t S (upN a p 0) ∧ upN (upN a p 0) p (12 - t) = a := by
  refine ⟨⟨fun q hq => ?_, fun q h1 h2 h3 => ?_⟩, ?_⟩
  · by_cases e : q = p
    · subst e
      rw [upN_s, hS q hq]; simp
    · rw [upN_n e, h.1 q hq, hS q hq]
      simp [e]
  · by_cases e1 : q = p
    · subst e1
      rw [upN_s] at h3; exact absurd rfl h3
    · rw [upN_n e1] at h3 ⊢
      obtain ⟨b1, b2, b3, b4⟩ := h.2 q h1 h2 h3
      have ne : a q ≠ a p := by
        by_cases lt : q < p
        · exact fun g => b4 p lt (by omega) g.symm
        · exact (h.2 p (by omega) (by omega) (by omega)).2.2.2 q (by omega) h2
      refine ⟨b1, by omega, b3, fun r c1 c2 => ?_⟩
      by_cases e3 : r = p
      · subst e3; rw [upN_s]; exact fun g => h3 g.symm
      · rw [upN_n e3]; exact b4 r c1 c2
  · funext q
    by_cases e1 : q = p
    · subst e1; rw [upN_s, e]
    · rw [upN_n e1, upN_n e1]
/-- rows in which p has the thing t -/
def Dp (P t S p : Nat) (a : Nat → Nat) : Prop := Dm P (t + 1) S a ∧ a p = 12 - t
theorem nA_lt (hw : ∀ q t, q < P → t < T → w q t ≤ 9) (hP : P ≤ 8) (h : OKa T P 0 0 a) : nA w P a < 2 ^ 62 := by
  have h1 := wA_le hw h
  have h2 := dA_lt (a := a) (p := 0) (k := P) (fun q a b => h.le a b) (by omega)
  have h9 : 13 ^ (8 - 0) = 815730721 := by decide
  unfold nA
  omega
theorem OKa.up (h : OKa t k p H a) (ht : t ≤ T) : OKa T k p H a := fun q h1 h2 h3 => by
  obtain ⟨b1, b2, b3, b4⟩ := h q h1 h2 h3
  exact ⟨b1, by omega, b3, b4⟩
theorem Mx.sh (hw : ∀ q t, q < P → t < T → w q t ≤ 9) (hP : P ≤ 8) (hT : T ≤ 12) (ht : t < T) (h : Mx (nA w P) (Dm P t S) x) (hp : p < P) (hn : n.testBit p = true) (hS : ∀ q, q < P → S.testBit q = (n.testBit q && decide (q ≠ p))) : (x = -1 ∧ Mx (nA w P) (Dp P t n p) (-1)) ∨ (∃ v, x = jι v ∧ v < 2 ^ 62 ∧ Mx (nA w P) (Dp P t n p) (jι (v + (w p t * 815730721 + (12 - t) * 13 ^ (7 - p))))) := by
  rcases h with ⟨h1, h2⟩ | ⟨a, h1, h2, h3, h4⟩
  · exact Or.inl ⟨h1, Or.inl ⟨rfl, fun a g => h2 _ (g.1.cut hp (by omega) g.2 hS).1⟩⟩
  · obtain ⟨d1, d2⟩ := h1.put hp (by omega) hn hS
    refine Or.inr ⟨_, h2, h3, Or.inr ⟨upN a p (12 - t), ⟨d1, upN_s⟩, by rw [nA_up hp d2 (by omega)], nA_lt hw hP (d1.2.up (by omega)), fun b g => ?_⟩⟩
    obtain ⟨c1, c2⟩ := g.1.cut hp (by omega) g.2 hS
    have c3 := h4 _ c1
    rw [← c2, nA_up hp upN_s (by omega), nA_up hp d2 (by omega)]
    omega
/-- rows in which one of the first k has the thing t -/
def Dk (P t S k : Nat) (a : Nat → Nat) : Prop := Dm P (t + 1) S a ∧ ∃ p, p < k ∧ a p = 12 - t
theorem Dk_s (a : Nat → Nat) : (Dk P t S p a ∨ Dp P t S p a) ↔ Dk P t S (p + 1) a := by
  constructor
  · rintro (⟨h1, q, h2, h3⟩ | ⟨h1, h2⟩)
    · exact ⟨h1, q, by omega, h3⟩
    · exact ⟨h1, p, by omega, h2⟩
  · rintro ⟨h1, q, h2, h3⟩
    by_cases e : q = p
    · subst e; exact Or.inr ⟨h1, h3⟩
    · exact Or.inl ⟨h1, q, by omega, h3⟩
theorem Dk_n (hp : p < P) (ht : t < 12) (hS : S.testBit p = false) (a : Nat → Nat) : Dk P t S p a ↔ Dk P t S (p + 1) a := by
  rw [← Dk_s]
  refine ⟨Or.inl, fun h => h.elim id fun h => ?_⟩
  have := (h.1.1 p hp).mp (by rw [h.2]; omega)
  rw [hS] at this; exact absurd this (by decide)
theorem Dm_s (ht : t < 12) (a : Nat → Nat) : (Dm P t S a ∨ Dk P t S P a) ↔ Dm P (t + 1) S a := by
  constructor
  · rintro (h | h)
    · exact ⟨h.1, h.2.up (by omega)⟩
    · exact h.1
  · intro h
    by_cases e : ∃ p, p < P ∧ a p = 12 - t
    · exact Or.inr ⟨h, e⟩
    · refine Or.inl ⟨h.1, fun q h1 h2 h3 => ?_⟩
      obtain ⟨b1, b2, b3, b4⟩ := h.2 q h1 h2 h3
      have : a q ≠ 12 - t := fun g => e ⟨q, by omega, g⟩
      exact ⟨b1, by omega, b3, b4⟩
theorem Dm_z (ht : t < 12) (a : Nat → Nat) : Dm P t 0 a ↔ Dm P (t + 1) 0 a := by
  rw [← Dm_s ht]
  refine ⟨Or.inl, fun h => h.elim id fun ⟨h, p, hp, e⟩ => ?_⟩
  have := (h.1 p hp).mp (by rw [e]; omega)
  rw [Nat.zero_testBit] at this; exact absurd this (by decide)
theorem bits_0 (hS : S < 2 ^ P) (h : ∀ p, p < P → S.testBit p = false) : S = 0 := by
  refine Nat.eq_of_testBit_eq fun i => ?_
  rw [Nat.zero_testBit]
  by_cases e : i < P
  · exact h i e
  · exact Nat.testBit_lt_two_pow (Nat.lt_of_lt_of_le hS (Nat.pow_le_pow_right (by omega) (by omega)))
theorem Mx_0 : Mx (nA w P) (Dm P 0 0) (jι 0) := by
  have e0 : nA w P (fun _ => 0) = 0 := by
    have h1 : wA w P 0 (fun _ => 0) = 0 := by have := smN_le (k := P) (p := 0) (c := 0) (f := fun q => if (fun _ => 0 : Nat → Nat) q = 0 then 0 else w q (12 - (fun _ => 0 : Nat → Nat) q)) (fun q _ _ => by simp); unfold wA; omega
    have h2 : dA P 0 (fun _ => 0) = 0 := by have := smN_le (k := P) (p := 0) (c := 0) (f := fun q => (fun _ => 0 : Nat → Nat) q * 13 ^ (7 - q)) (fun q _ _ => by simp); unfold dA; omega
    unfold nA
    rw [h1, h2]
  refine Or.inr ⟨fun _ => 0, ⟨fun p _ => by simp, fun q _ _ h => absurd rfl h⟩, by rw [e0], by rw [e0]; decide, fun b hb => ?_⟩
  have hz : ∀ q, q < P → b q = 0 := fun q hq => by
    by_cases e : b q = 0
    · exact e
    · have := (hb.2 q (by omega) (by omega) e).2.1; omega
  have : nA w P b = nA w P (fun _ => 0) := by
    unfold nA wA dA
    rw [smN_congr (f := fun q => if b q = 0 then 0 else w q (12 - b q)) (g := fun q => if (fun _ => 0 : Nat → Nat) q = 0 then 0 else w q (12 - (fun _ => 0 : Nat → Nat) q)) (fun q _ h => by rw [hz q (by omega)]), smN_congr (f := fun q => b q * 13 ^ (7 - q)) (g := fun q => (fun _ => 0 : Nat → Nat) q * 13 ^ (7 - q)) (fun q _ h => by rw [hz q (by omega)])]
  omega
theorem Mx_n (hS : S < 2 ^ P) (h : S ≠ 0) : Mx (nA w P) (Dm P 0 S) (-1) := by
  refine Or.inl ⟨rfl, fun a g => h (bits_0 hS fun p hp => ?_)⟩
  by_cases e : S.testBit p = true
  · have := (g.2 p (by omega) (by omega) ((g.1 p hp).mpr e)).2.1; omega
  · simpa using e
theorem fd_sm (f : Nat → Nat) (n : Nat) (s : Nat) : fd (fun k s => s + f k) n s = s + smN n 0 f := by
  have key : ∀ n p, smN (n + 1) p f = smN n p f + f (p + n) := by
    intro n
    induction n with
    | zero => intro p; show f p + 0 = 0 + f p; omega
    | succ n ih =>
      intro p
      rw [smN_s, ih, smN_s]
      rw [show p + 1 + n = p + (n + 1) by omega]; omega
  induction n with
  | zero => rfl
  | succ n ih =>
    show fd (fun k s => s + f k) n s + f n = _
    rw [ih, key, Nat.zero_add]; omega
theorem smN_split (f : Nat → Nat) (k m p : Nat) : smN (k + m) p f = smN k p f + smN m (p + k) f := by
  induction k generalizing p with
  | zero => simp [smN]
  | succ k ih =>
    rw [show k + 1 + m = (k + m) + 1 by omega, smN_s, ih, smN_s, show p + 1 + k = p + (k + 1) by omega]; omega
theorem Dm.cnt (h : Dm P t S a) (hS : S < 2 ^ P) (hP : P ≤ 12) : pc S = cA P 0 a := by
  unfold pc
  rw [fd_sm (fun k => if S.testBit k = true then 1 else 0) 12 0, Nat.zero_add, show 12 = P + (12 - P) by omega, smN_split]
  have h1 := smN_le (k := 12 - P) (p := 0 + P) (c := 0) (f := fun k => if S.testBit k = true then 1 else 0) (fun q h1 h2 => by
    rw [Nat.testBit_lt_two_pow (Nat.lt_of_lt_of_le hS (Nat.pow_le_pow_right (by omega) (by omega)))]; simp)
  have h2 : smN P 0 (fun k => if S.testBit k = true then 1 else 0) = cA P 0 a := smN_congr fun q _ hq => by
    by_cases e : S.testBit q = true
    · rw [if_pos e, if_neg ((h.1 q (by omega)).mpr e)]
    · rw [if_neg e, if_pos]
      by_cases z : a q = 0
      · exact z
      · exact absurd ((h.1 q (by omega)).mp z) e
  omega
/-- what the row is, after some of the sets of people -/
def Rw (w : Nat → Nat → Nat) (P T m n : Nat) (x : Int64) : Prop := (x = jι 0 ∧ ∀ S, S < n → pc S = m → ∀ a, ¬ Dm P T S a) ∨ ∃ a, (∃ S, S < n ∧ pc S = m ∧ Dm P T S a) ∧ x = jι (nA w P a) ∧ nA w P a < 2 ^ 62 ∧ ∀ S, S < n → pc S = m → ∀ b, Dm P T S b → nA w P b ≤ nA w P a
theorem Rw.no (h : Rw w P T m n x) (e : pc n ≠ m) : Rw w P T m (n + 1) x := by
  have k : ∀ S, S < n + 1 → pc S = m → S < n := fun S h1 h2 => by
    by_cases e2 : S = n
    · subst e2; exact absurd h2 e
    · omega
  rcases h with ⟨h1, h2⟩ | ⟨a, ⟨S, h0, h1, h2⟩, h3, h4, h5⟩
  · exact Or.inl ⟨h1, fun S c1 c2 => h2 S (k S c1 c2) c2⟩
  · exact Or.inr ⟨a, ⟨S, by omega, h1, h2⟩, h3, h4, fun S c1 c2 => h5 S (k S c1 c2) c2⟩
theorem Rw.yes (h : Rw w P T m n x) (e : pc n = m) (g : Mx (nA w P) (Dm P T n) y) : Rw w P T m (n + 1) (lmax x y) := by
  rcases h with ⟨rfl, h2⟩ | ⟨a, ⟨S, h0, h1, h2⟩, rfl, h4, h5⟩ <;> rcases g with ⟨rfl, g2⟩ | ⟨b, g1, rfl, g3, g4⟩
  · rw [lmax_2 (by omega)]
    refine Or.inl ⟨rfl, fun S c1 c2 => ?_⟩
    by_cases e2 : S = n
    · subst e2; exact g2
    · exact h2 S (by omega) c2
  · rw [lmax_j (by omega) (by omega), show max 0 (nA w P b) = nA w P b by omega]
    refine Or.inr ⟨b, ⟨n, by omega, e, g1⟩, rfl, g3, fun S c1 c2 d hd => ?_⟩
    by_cases e2 : S = n
    · subst e2; exact g4 d hd
    · exact absurd hd (h2 S (by omega) c2 d)
  · rw [lmax_2 (by omega)]
    refine Or.inr ⟨a, ⟨S, by omega, h1, h2⟩, rfl, h4, fun S c1 c2 d hd => ?_⟩
    by_cases e2 : S = n
    · subst e2; exact absurd hd (g2 d)
    · exact h5 S (by omega) c2 d hd
  · rw [lmax_j (by omega) (by omega)]
    by_cases e3 : nA w P b ≤ nA w P a
    · rw [show max (nA w P a) (nA w P b) = nA w P a by omega]
      refine Or.inr ⟨a, ⟨S, by omega, h1, h2⟩, rfl, h4, fun S c1 c2 d hd => ?_⟩
      by_cases e2 : S = n
      · subst e2; have := g4 d hd; omega
      · exact h5 S (by omega) c2 d hd
    · rw [show max (nA w P a) (nA w P b) = nA w P b by omega]
      refine Or.inr ⟨b, ⟨n, by omega, e, g1⟩, rfl, g3, fun S c1 c2 d hd => ?_⟩
      by_cases e2 : S = n
      · subst e2; exact g4 d hd
      · have := h5 S (by omega) c2 d hd; omega
theorem Rw.top (hw : ∀ q t, q < P → t < T → w q t ≤ 9) (hP : P ≤ 8) (hT : T ≤ 12) (h : Rw w P T (min P T) (2 ^ P) x) : x = jι (nA w P (bestA P T w)) := by
  have hb := best_ok (P := P) (w := w) hT
  have hd : Dm P T (mk (fun p => decide (bestA P T w p ≠ 0)) P) (bestA P T w) := ⟨fun p hp => by rw [mk_bit]; simp [hp], hb⟩
  have hl := mk_lt (fun p => decide (bestA P T w p ≠ 0)) P
  have hc := (hd.cnt hl (by omega)).trans (best_full hw hP hT)
  rcases h with ⟨h1, h2⟩ | ⟨a, ⟨S, h0, h1, h2⟩, h3, h4, h5⟩
  · exact absurd hd (h2 _ hl hc _)
  · have i1 := h5 _ hl hc _ hd
    have i2 := best_top hw hP hT h2.2 ((h2.cnt h0 (by omega)).symm.trans h1)
    rw [h3, show nA w P a = nA w P (bestA P T w) by omega]
theorem rm_dec : ∀ S, S < 256 → ∀ p, p < 8 → S.testBit p = true → ι S &&& (bit p ^^^ ν 1) = ι (S - 2 ^ p) ∧ 2 ^ p ≤ S ∧ ∀ q, q < 8 → (S - 2 ^ p).testBit q = (S.testBit q && decide (q ≠ p)) := by decide +kernel
end EACH1
