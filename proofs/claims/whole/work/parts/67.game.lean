/-! ===== the game of two: both sides ===== -/
section GAME
variable {P T : Nat} {W R : Rl} {A B : Wd} {σ τ υ σ0 σ1 : pS} {q t p o n m k a b : Nat} {x : Wd × (Nat → Int32)} {x0 x1 x2 s1 s2 : Int32}
theorem gof_d (n : Nat) : gof P T W R n (dayF P T W R x) = gof P T W R (n + 1) x := by
  induction n with
  | zero => rfl
  | succ n ih => rw [gof_s, ih]; rfl
def gG (a : Nat) : Prop := Sc a ∨ (47 ≤ a ∧ a ≤ 53)
def Sg (P T : Nat) (W R : Rl) (σ0 σ1 : pS) (q : Nat) (x : Wd × (Nat → Int32)) (τ : pS) : Prop := Sp P T W R σ0 q x τ ∧ Fq gG (Vw 47) σ1 τ
theorem b84 (h : CN P T W R A σ0 q) (f : CQ σ0 σ) : Wp (pcall 84 [.ref 47, .ref 25] σ) (RV (Sg P T W R σ0 σ q (A, fun _ => ι 0))) := by
  have g := h.cq f
  have hT := g.1.1.T
  refine (c84 (w := 47) g.1 (by decide) (by decide) (by rw [g.2.2.2, h.2.2.1]) g.2.1).mono ?_
  rintro z ⟨v, τ, rfl, h1, h2, h3, h4⟩
  refine ⟨v, τ, rfl, ⟨f.1.trans (h4.mono (fun a s => Or.inr ⟨s.1, by have := s.2; omega⟩) (fun _ _ v => v)), h1, h2, h.2.2.1, fun j hj => h3 j (by omega)⟩, h4.mono (fun a s => Or.inr ⟨s.1, by have := s.2; omega⟩) (fun _ _ v => v)⟩
theorem b71 (s : Sg P T W R σ0 σ1 q x τ) (hm : m < 256) : Wp (pcall 71 [.ref 47, .int (ι m)] τ) (RI (ι (tkc T (dayS P T W R (up x.1 0 1 (ι m))).2)) (Sg P T W R σ0 σ1 q (dayF P T W R (up x.1 0 1 (ι m), x.2)))) := by
  obtain ⟨s, g⟩ := s
  refine (c71 s.2.1 s.2.2.1 s.2.2.2.1 hm).mono ?_
  rintro z ⟨υ, rfl, h1, h2, h3, h4⟩
  refine ⟨υ, rfl, ⟨s.1.trans (Fq.of h3 (fun a s => ?_)), h1, h2, rfl, fun j hj => ?_⟩, g.trans (Fq.of h3 (fun a s => ?_))⟩
  · rcases s with s | s
    · exact Or.inl s
    · exact Or.inr ⟨s.1, by have := s.2; omega⟩
  · rw [h4 j hj, s.2.2.2.2 j hj]; rfl
  · rcases s with s | s
    · exact Or.inl s
    · exact Or.inr ⟨s.1, by have := s.2; omega⟩
theorem b71' (s : Sg P T W R σ0 σ1 q x τ) : Wp (pcall 71 [.ref 47, .int (ι 0)] τ) (RI (ι (tkc T (dayS P T W R x.1).2)) (Sg P T W R σ0 σ1 q (dayF P T W R x))) := by
  have := b71 s (m := 0) (by omega)
  rw [up_eq s.1.2.2.2.1] at this
  exact this
theorem b136 (s : Sg P T W R σ0 σ1 q x τ) (hn : n < 2147483648) : Wp (pcall 136 [.ref 54, .int (ι n)] τ) (RV (Sg P T W R σ0 σ1 q (gof P T W R n x))) := by
  refine Wp.le (M_136 rfl s.1.2.1.lay) ?_
  refine Wp.loop (α := pS) n (fun t τ => C_136_2 (ι n) (ι t) τ) (fun t τ => Sg P T W R σ0 σ1 q (gof P T W R t x) τ) ?_ ?_ (t := 0) (a := τ) (Nat.zero_le _) s
  · intro t τ ht s k
    refine Wp.le (T_136_2 rfl s.1.2.1.lay) ?_
    simp (disch := omega) only [ι_lt_t, ι_lt_f, ι_le_t, ι_le_f, ι_eq_f, ι_m1, ι_add, ι_mul, ι_pm, ι_sub, ix_ι, gd_inb, gd_t, eq_self, if_true, if_false, not_true_eq_false, not_false_eq_true, ite_self, ]
    exact Wp.cI (b71' s) fun υ s' => k υ s'
  · intro τ s
    refine Wp.le (T_136_2 rfl s.1.2.1.lay) ?_
    simp (disch := omega) only [ι_lt_t, ι_lt_f, ι_le_t, ι_le_f, ι_eq_f, ι_m1, ι_add, ι_mul, ι_pm, ι_sub, ix_ι, gd_inb, gd_t, eq_self, if_true, if_false, not_true_eq_false, not_false_eq_true, ite_self, ]
    exact ⟨_, rfl, _, _, rfl, s⟩
/-- who plays what: bits -/
def gmk (p o k : Nat) : Nat := (if k / 2 = 0 then 0 else 2 ^ p) ||| (if k % 2 = 0 then 0 else 2 ^ o)
def gmB (P T : Nat) (W R : Rl) (A : Wd) (p o k : Nat) : Wd := (gof P T W R 4 (up A 0 1 (ι (gmk p o k)), fun _ => ι 0)).1
def gm0 (P T : Nat) (W R : Rl) (A : Wd) (p o k : Nat) : Int32 := welS T (gmB P T W R A p o k) p + ι (2 * (k / 2))
def gm1 (P T : Nat) (W R : Rl) (A : Wd) (p o k : Nat) : Int32 := welS T (gmB P T W R A p o k) o + ι (2 * (k % 2))
theorem gmk_lt (hp : p < 8) (ho : o < 8) : gmk p o k < 256 := by
  have h1 : 2 ^ p < 2 ^ 8 := Nat.pow_lt_pow_right (by omega) hp
  have h2 : 2 ^ o < 2 ^ 8 := Nat.pow_lt_pow_right (by omega) ho
  unfold gmk
  refine or_lt (k := 8) ?_ ?_ <;> split <;> omega
theorem g85 (h : CN P T W R A σ0 q) (s : Sg P T W R σ0 σ1 q (A, fun _ => ι 0) τ) (hp : p < P) (ho : o < P) (hk : k < 4) (ha : a = k / 2) (hb : b = k % 2) (hs : s1 ||| s2 = ι (gmk p o k)) {v : Value} {Q : pZ → Prop}
    (c : ∀ v w υ, CQ σ0 υ → (∀ j, j ≠ k → gI υ 55 j = gI σ1 55 j) → (∀ j, j ≠ k → gI υ 56 j = gI σ1 56 j) → gI υ 55 k = gm0 P T W R A p o k → gI υ 56 k = gm1 P T W R A p o k → Wp (C_146_2 (ι p) (ι o) (ι (k + 1)) v w υ) Q) : Wp (C_146_85 (ι p) (ι o) (ι k) (ι a) (ι b) s1 s2 τ) Q := by
  have hP := h.1.1.P
  refine Wp.le (T_146_85 rfl s.1.lay) ?_
  rw [hs]
  refine Wp.cI (b71 s (gmk_lt (by omega) (by omega))) fun τ1 s' => ?_
  refine Wp.cV (b136 s' (by omega)) fun τ2 s'' => ?_
  rw [gof_d] at s''
  rw [c90 s''.1.2.1 hp, bI_ret]
  have tail : ∀ g, g = ι (2 * a) → Wp (C_146_118 (ι p) (ι o) (ι k) (.int (ι a)) (ι b) (ι k) (welS T (gmB P T W R A p o k) p) g τ2) Q := by
    rintro g rfl
    refine Wp.le (T_146_118 rfl s''.1.lay) ?_
    simp (disch := omega) only [ι_lt_t, ι_lt_f, ι_le_t, ι_le_f, ι_eq_f, ι_m1, ι_add, ι_mul, ι_pm, ι_sub, ix_ι, gd_inb, gd_t, eq_self, if_true, if_false, not_true_eq_false, not_false_eq_true, ite_self, ]
    have e0 := s''.1.2.1
    have e1 : CW P T W R (gof P T W R 4 (up A 0 1 (ι (gmk p o k)), fun _ => ι 0)).1 (sI τ2 55 k (welS T (gmB P T W R A p o k) p + ι (2 * a))) 47 q := e0.fv (Fq.refl.mI (S := fun a => a = 55) (V := fun _ _ => False) rfl) (fun _ _ v => v.elim) id (fun i hi => by omega) (fun i hi => by rcases h.1.isp with z | z <;> omega)
    rw [c90 e1 ho, bI_ret]
    have fin : ∀ g, g = ι (2 * b) → CQ σ0 (sI (sI τ2 55 k (welS T (gmB P T W R A p o k) p + ι (2 * a))) 56 k (welS T (gmB P T W R A p o k) o + g)) ∧ Wp (C_146_2 (ι p) (ι o) (ι (k + 1)) (.int (ι a)) (.int (ι b)) (sI (sI τ2 55 k (welS T (gmB P T W R A p o k) p + ι (2 * a))) 56 k (welS T (gmB P T W R A p o k) o + g))) Q := by
      rintro g rfl
      have cq : CQ σ0 (sI (sI τ2 55 k (welS T (gmB P T W R A p o k) p + ι (2 * a))) 56 k (welS T (gmB P T W R A p o k) o + ι (2 * b))) := ⟨(s''.1.1.mI (Or.inr (by omega))).mI (Or.inr (by omega)), by rw [gI_c (by decide), gI_c (by decide)]; exact s''.1.cq.2⟩
      refine ⟨cq, c _ _ _ cq (fun j hj => ?_) (fun j hj => ?_) ?_ ?_⟩
      · rw [gI_c (by decide), gI_n hj, s''.2.i (by unfold gG Sc; omega)]
      · rw [gI_n hj, gI_c (by decide), s''.2.i (by unfold gG Sc; omega)]
      · rw [gI_c (by decide), gI_s, ha]; rfl
      · rw [gI_s, hb]; rfl
    by_cases e : ι b = ι 0
    · rw [if_pos e]
      have : b = 0 := ι_inj (by omega) (by omega) e
      exact (fin (ι 0) (by rw [this])).2
    · rw [if_neg e]
      have : b = 1 := by
        have : b ≠ 0 := fun g => e (by rw [g])
        omega
      exact (fin (ι 2) (by rw [this])).2
  by_cases e : ι a = ι 0
  · rw [if_pos e]
    have : a = 0 := ι_inj (by omega) (by omega) e
    exact tail (ι 0) (by rw [this])
  · rw [if_neg e]
    have : a = 1 := by
      have : a ≠ 0 := fun g => e (by rw [g])
      omega
    exact tail (ι 2) (by rw [this])
theorem g146 (h : CN P T W R A σ0 q) (f : CQ σ0 σ) (hp : p < P) (ho : o < P) : Wp (pcall 146 [.ref 54, .int (ι p), .int (ι o)] σ) (RV (fun τ => CQ σ0 τ ∧ ∀ k, k < 4 → gI τ 55 k = gm0 P T W R A p o k ∧ gI τ 56 k = gm1 P T W R A p o k)) := by
  have hP := h.1.1.P
  refine Wp.le (M_146 rfl (h.cq f).1.lay) ?_
  refine Wp.loop (α := Value × Value × pS) 4 (fun k a => C_146_2 (ι p) (ι o) (ι k) a.1 a.2.1 a.2.2) (fun k a => CQ σ0 a.2.2 ∧ ∀ j, j < k → gI a.2.2 55 j = gm0 P T W R A p o j ∧ gI a.2.2 56 j = gm1 P T W R A p o j) ?_ ?_ (t := 0) (a := (.retAddr 0, .retAddr 0, σ)) (Nat.zero_le _) ⟨f, fun j hj => absurd hj (Nat.not_lt_zero j)⟩
  · rintro k ⟨v, w, σ1⟩ hk ⟨f1, hj⟩ c
    dsimp only at f1 hj
    refine Wp.le (T_146_2 rfl (h.cq f1).1.lay) ?_
    have hk4 : (ι 4 ≤ ι k) = False := ι_le_f hk (by omega)
    rw [if_neg (by rw [hk4]; exact id), if_neg (by rw [hk4]; exact id)]
    have go : ∀ τ s1 s2, s1 ||| s2 = ι (gmk p o k) → Sg P T W R σ0 σ1 q (A, fun _ => ι 0) τ → Wp (C_146_85 (ι p) (ι o) (ι k) (ι (k / 2)) (ι (k % 2)) s1 s2 τ) (RV (fun τ => CQ σ0 τ ∧ ∀ k, k < 4 → gI τ 55 k = gm0 P T W R A p o k ∧ gI τ 56 k = gm1 P T W R A p o k)) := by
      intro τ s1 s2 hs s
      refine g85 h s hp ho hk rfl rfl hs (v := v) ?_
      intro v w υ fu c0 c1 e0 e1
      refine c (v, w, υ) ⟨fu, fun j hj2 => ?_⟩
      dsimp only
      by_cases e : j = k
      · rw [e]; exact ⟨e0, e1⟩
      · rw [c0 j e, c1 j e]; exact hj j (by omega)
    have st : ∀ s0, s0 = ι (k % 2) → Wp (C_146_44 (ι p) (ι o) (ι k) (ι (k / 2)) w s0 σ1) (RV (fun τ => CQ σ0 τ ∧ ∀ k, k < 4 → gI τ 55 k = gm0 P T W R A p o k ∧ gI τ 56 k = gm1 P T W R A p o k)) := by
      rintro s0 rfl
      refine Wp.le (T_146_44 rfl (h.cq f1).1.lay) ?_
      refine Wp.cV (b84 h f1) fun τ s => ?_
      refine Wp.g s.1.lay ?_
      rw [bit_ι p (by omega), bit_ι o (by omega)]
      have e0 : (ι (k / 2) = ι 0) = (k / 2 = 0) := ι_eq (by omega) (by omega)
      have e1 : (ι (k % 2) = ι 0) = (k % 2 = 0) := ι_eq (by omega) (by omega)
      by_cases h0 : k / 2 = 0 <;> by_cases h1 : k % 2 = 0 <;> simp only [e0, e1, h0, h1, if_true, if_false]
      · have := go τ (ι 0) (ι 0) (by rw [ι_or]; unfold gmk; rw [if_pos h0, if_pos h1]) s
        rw [h0, h1] at this; exact this
      · have := go τ (ι 0) (ι (2 ^ o)) (by rw [ι_or]; unfold gmk; rw [if_pos h0, if_neg h1]) s
        rw [h0] at this; exact this
      · have := go τ (ι (2 ^ p)) (ι 0) (by rw [ι_or]; unfold gmk; rw [if_neg h0, if_pos h1]) s
        rw [h1] at this; exact this
      · exact go τ (ι (2 ^ p)) (ι (2 ^ o)) (by rw [ι_or]; unfold gmk; rw [if_neg h0, if_neg h1]) s
    rcases (by omega : k = 0 ∨ k = 1 ∨ k = 2 ∨ k = 3) with rfl | rfl | rfl | rfl
    · rw [if_pos (by decide), if_pos (by decide)]; exact st _ rfl
    · rw [if_pos (by decide), if_neg (by decide)]; exact st _ rfl
    · rw [if_neg (by decide), if_pos (by decide)]; exact st _ rfl
    · rw [if_neg (by decide), if_neg (by decide)]; exact st _ rfl
  · rintro ⟨v, w, σ1⟩ ⟨f1, hj⟩
    dsimp only at f1 hj
    refine Wp.le (T_146_2 rfl (h.cq f1).1.lay) ?_
    rw [if_pos (by decide)]
    exact ⟨_, rfl, _, _, rfl, f1, hj⟩
def gmR (P T : Nat) (W R : Rl) (A : Wd) (p o k : Nat) : Bool := decide (¬ gm0 P T W R A p o k < gm0 P T W R A p o (k ^^^ 2)) && decide (¬ gm1 P T W R A p o k < gm1 P T W R A p o (k ^^^ 1))
theorem g148 (hL : LayR (gR σ)) (hg : ∀ k, k < 4 → gI σ 55 k = gm0 P T W R A p o k ∧ gI σ 56 k = gm1 P T W R A p o k) (hk : k < 4) : pcall 148 [.ref 54, .int (ι k)] σ = some (1, .int (bz (gmR P T W R A p o k)), σ) := by
  refine (M_148 rfl hL).eq ?_
  rw [if_neg (by rw [ι_lt (by omega) (by omega)]; omega), if_neg (by rw [ι_le (by omega) (by omega)]; omega)]
  have x2 : ι k ^^^ ι 2 = ι (k ^^^ 2) ∧ k ^^^ 2 < 4 := by
    rcases (by omega : k = 0 ∨ k = 1 ∨ k = 2 ∨ k = 3) with rfl | rfl | rfl | rfl <;> decide
  have x1 : ι k ^^^ ι 1 = ι (k ^^^ 1) ∧ k ^^^ 1 < 4 := by
    rcases (by omega : k = 0 ∨ k = 1 ∨ k = 2 ∨ k = 3) with rfl | rfl | rfl | rfl <;> decide
  rw [x2.1, x1.1, gd_inb hk (by omega), gd_inb x2.2 (by omega), gd_inb hk (by omega), gd_inb x1.2 (by omega), ix_ι (show k < 2147483648 by omega), ix_ι (Nat.lt_trans x2.2 (by omega)), ix_ι (Nat.lt_trans x1.2 (by omega))]
  rw [(hg k hk).1, (hg k hk).2, (hg _ x2.2).1, (hg _ x1.2).2]
  unfold gmR
  by_cases e0 : gm0 P T W R A p o k < gm0 P T W R A p o (k ^^^ 2)
  · rw [if_pos e0, decide_eq_false (fun g => g e0)]; rfl
  · rw [if_neg e0, decide_eq_true e0]
    by_cases e1 : gm1 P T W R A p o k < gm1 P T W R A p o (k ^^^ 1)
    · rw [if_pos e1, decide_eq_false (fun g => g e1)]; rfl
    · rw [if_neg e1, decide_eq_true e1]; rfl
def gmC (P T : Nat) (W R : Rl) (A : Wd) (p o n : Nat) : Nat := fd (fun k s => s + if gmR P T W R A p o k = true then 1 else 0) n 0
def gmN (k : Nat) : Int32 := ι (10 * (k / 2) + k % 2)
def gmF (P T : Nat) (W R : Rl) (A : Wd) (p o : Nat) : Int32 := if fst1 (gmR P T W R A p o) 4 0 = 4 then ν 1 else gmN (fst1 (gmR P T W R A p o) 4 0)
theorem g147 (hL : LayR (gR σ)) (hg : ∀ k, k < 4 → gI σ 55 k = gm0 P T W R A p o k ∧ gI σ 56 k = gm1 P T W R A p o k) : pcall 147 [.ref 54] σ = some (1, .int (ι (gmC P T W R A p o 4)), σ) := by
  refine Wp.eqI (Wp.le (M_147 rfl hL) ?_)
  refine Wp.loop (α := Unit) 4 (fun k _ => C_147_4 (ι (gmC P T W R A p o k)) (ι k) σ) (fun _ _ => True) ?_ ?_ (t := 0) (a := ()) (Nat.zero_le _) trivial
  · intro k _ hk _ c
    have c := c () trivial
    refine Wp.le (T_147_4 rfl hL) ?_
    rw [if_neg (by rw [ι_le (by omega) (by omega)]; omega), g148 hL hg hk, bI_ret]
    have e : gmC P T W R A p o (k + 1) = gmC P T W R A p o k + if gmR P T W R A p o k = true then 1 else 0 := rfl
    rw [e] at c
    simp (disch := omega) only [ι_lt_t, ι_lt_f, ι_le_t, ι_le_f, ι_eq_f, ι_m1, ι_add, ι_mul, ι_pm, ι_sub, ix_ι, gd_inb, gd_t, eq_self, if_true, if_false, not_true_eq_false, not_false_eq_true, ite_self, ]
    cases hb : gmR P T W R A p o k with
    | false => rw [hb] at c; rw [bz_f, if_pos rfl]; exact c
    | true => rw [hb] at c; rw [bz_t, if_neg (by decide)]; exact c
  · intro _ _
    refine Wp.le (T_147_4 rfl hL) ?_
    rw [if_pos (by decide)]
    exact Wp.retI rfl
theorem gmN_e (hk : k < 4) : (ι 10 * (ι k / ι 2)) + irem' (ι k) (ι 2) = gmN k := by
  rcases (by omega : k = 0 ∨ k = 1 ∨ k = 2 ∨ k = 3) with rfl | rfl | rfl | rfl <;> decide
theorem g149 (hL : LayR (gR σ)) (hg : ∀ k, k < 4 → gI σ 55 k = gm0 P T W R A p o k ∧ gI σ 56 k = gm1 P T W R A p o k) : pcall 149 [.ref 54] σ = some (1, .int (gmF P T W R A p o), σ) := by
  refine Wp.eqI (Wp.le (M_149 rfl hL) ?_)
  have key : ∀ k n, n + k = 4 → fst1 (gmR P T W R A p o) k n = fst1 (gmR P T W R A p o) 4 0 → Wp (C_149_2 (ι n) σ) (RI (gmF P T W R A p o) (fun τ => τ = σ)) := by
    intro k
    induction k with
    | zero =>
      intro n hn hf
      have : n = 4 := by omega
      subst this
      refine Wp.le (T_149_2 rfl hL) ?_
      rw [if_pos (by decide)]
      refine Wp.retI' ?_ rfl
      unfold gmF
      have hf' : fst1 (gmR P T W R A p o) 4 0 = 4 := hf.symm
      rw [if_pos hf']
    | succ k ih =>
      intro n hn hf
      refine Wp.le (T_149_2 rfl hL) ?_
      rw [if_neg (by rw [ι_le (by omega) (by omega)]; omega), g148 hL hg (by omega), bI_ret]
      unfold fst1 at hf
      by_cases e : gmR P T W R A p o n = true
      · rw [if_pos e] at hf
        rw [e, bz_t, if_neg (by decide), gmN_e (by omega)]
        refine Wp.retI' ?_ rfl
        unfold gmF
        have hf' : fst1 (gmR P T W R A p o) 4 0 = n := hf.symm
        rw [hf', if_neg (by omega)]
      · rw [if_neg e] at hf
        have e' : gmR P T W R A p o n = false := by simpa using e
        rw [e', bz_f, if_pos rfl]
        simp (disch := omega) only [ι_lt_t, ι_lt_f, ι_le_t, ι_le_f, ι_eq_f, ι_m1, ι_add, ι_mul, ι_pm, ι_sub, ix_ι, gd_inb, gd_t, eq_self, if_true, if_false, not_true_eq_false, not_false_eq_true, ite_self, ]
        exact ih (n + 1) (by omega) hf
  exact key 4 0 (by omega) rfl
def q_game (P T : Nat) (W R : Rl) (A : Wd) (x0 x1 x2 : Int32) : Nat × Int32 := if inb' P x0 = true then (if inb' P x1 = true then (if btw (ι 0) (ι 1) x2 = true then (if x0 = x1 then (2, ι 0) else (0, if x2 = ι 0 then ι (gmC P T W R A (ix x0) (ix x1) 4) else gmF P T W R A (ix x0) (ix x1))) else (1, ι 0)) else (1, ι 0)) else (1, ι 0)
theorem q205 (h : CN P T W R A σ q) : Wp (pcall 205 [.ref 0, .int x0, .int x1, .int x2] σ) (qC σ (q_game P T W R A x0 x1 x2)) := by
  have hP := h.1.1.P
  refine Wp.le (M_205 rfl h.1.lay) ?_
  unfold q_game
  rw [k176 h.1]
  by_cases e0 : inb' P x0 = true
  · obtain ⟨p, hp, rfl⟩ := inb'_t (by omega) e0
    rw [if_pos e0, bV_ret, if_pos e0, k176 h.1]
    by_cases e1 : inb' P x1 = true
    · obtain ⟨o, ho, rfl⟩ := inb'_t (by omega) e1
      rw [if_pos e1, bV_ret, if_pos e1, k180 h.1.lay]
      by_cases e2 : btw (ι 0) (ι 1) x2 = true
      · rw [if_pos e2, bV_ret, if_pos e2, ix_ι (by omega), ix_ι (by omega)]
        by_cases z : ι p = ι o
        · rw [if_neg (fun g => g z), if_pos z]; exact qC.i
        · rw [if_pos z, if_neg z]
          refine Wp.cV (g146 h h.rf hp ho) fun τ hg => ?_
          obtain ⟨f, hg⟩ := hg
          have hL := (h.cq f).1.lay
          refine Wp.g hL ?_
          by_cases y : x2 = ι 0
          · rw [if_neg (fun g => g y), if_pos y, g147 hL hg, bI_ret]; exact qC.r rfl f
          · rw [if_pos y, if_neg y, g149 hL hg, bI_ret]; exact qC.r rfl f
      · rw [if_neg e2, bV_3, if_neg e2]; exact qC.n
    · rw [if_neg e1, bV_3, if_neg e1]; exact qC.n
  · rw [if_neg e0, bV_3, if_neg e0]; exact qC.n
end GAME
