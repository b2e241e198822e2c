/-! ===== who must look away, fewest: both sides ===== -/
section AWAY
variable {P T : Nat} {W R : Rl} {A B : Wd} {σ τ υ σ0 : pS} {q t p o n r c s : Nat} {x0 x1 x2 : Int32}
theorem bit_ι9 : ∀ p, p < 9 → shl' (ι 1) (ι p) = ι (2 ^ p) := by decide
def awG (P : Nat) (A : Wd) (p o c : Nat) : Bool := !c.testBit p && (!c.testBit o && !(itN P A c p 8).testBit o)
def awF (P : Nat) (A : Wd) (p o c s : Nat) : Nat := if (s = 256 ∨ pc c < pc s) ∧ awG P A p o c = true then c else s
def awS (P : Nat) (A : Wd) (p o n : Nat) : Nat := fd (awF P A p o) n 256
def awC (s : Nat) : Int32 := if s = 256 then ν 1 else ι s
theorem aw_lt (n : Nat) : awS P A p o n = 256 ∨ awS P A p o n < n := by
  induction n with
  | zero => exact Or.inl rfl
  | succ n ih =>
    show awF P A p o n (awS P A p o n) = 256 ∨ awF P A p o n (awS P A p o n) < n + 1
    unfold awF
    split
    · right; omega
    · omega
theorem aw_min (n : Nat) : n ≤ 256 → ∀ l, l < n → awG P A p o l = true → awS P A p o n ≠ 256 ∧ pc (awS P A p o n) ≤ pc l := by
  induction n with
  | zero => intro _ l hl; omega
  | succ n ih =>
    intro hn l hl hg
    show awF P A p o n (awS P A p o n) ≠ 256 ∧ pc (awF P A p o n (awS P A p o n)) ≤ pc l
    have ih := ih (by omega)
    unfold awF
    by_cases e : (awS P A p o n = 256 ∨ pc n < pc (awS P A p o n)) ∧ awG P A p o n = true
    · rw [if_pos e]
      refine ⟨by omega, ?_⟩
      rcases Nat.lt_succ_iff_lt_or_eq.mp hl with h | h
      · obtain ⟨a, b⟩ := ih l h hg
        rcases e.1 with e | e
        · exact absurd e a
        · omega
      · rw [h]; exact Nat.le_refl _
    · rw [if_neg e]
      rcases Nat.lt_succ_iff_lt_or_eq.mp hl with h | h
      · exact ih l h hg
      · subst h
        constructor
        · intro g; exact e ⟨Or.inl g, hg⟩
        · by_cases g : pc l < pc (awS P A p o l)
          · exact absurd ⟨Or.inr g, hg⟩ e
          · omega
theorem and_low {x c P : Nat} (hx : x < 2 ^ P) : x &&& (255 ^^^ c) = x &&& (255 ^^^ (c % 2 ^ P)) := by
  refine Nat.eq_of_testBit_eq fun i => ?_
  rw [Nat.testBit_and, Nat.testBit_and, Nat.testBit_xor, Nat.testBit_xor, Nat.testBit_mod_two_pow]
  by_cases h : i < P
  · simp [h]
  · have : x.testBit i = false := Nat.testBit_lt_two_pow (Nat.lt_of_lt_of_le hx (Nat.pow_le_pow_right (by omega) (by omega)))
    simp [this]
theorem it_low (h : okW P T A) (k : Nat) : itN P A c p k = itN P A (c % 2 ^ P) p k := by
  induction k with
  | zero => rfl
  | succ k ih => rw [it_s, it_s, ih]; unfold stN; rw [and_low (nb_lt h _)]
theorem pc_low (c P : Nat) : pc (c % 2 ^ P) ≤ pc c := by
  refine (cnt_mono (n := 12) (f := fun k => (c % 2 ^ P).testBit k) (g := fun k => c.testBit k) ?_).1
  intro k _ hk
  rw [Nat.testBit_mod_two_pow] at hk
  simp at hk
  exact hk.2
theorem aw_low (h : okW P T A) (hp : p < P) (ho : o < P) : awG P A p o (c % 2 ^ P) = awG P A p o c := by
  unfold awG
  rw [← it_low h, Nat.testBit_mod_two_pow, Nat.testBit_mod_two_pow]
  simp [hp, ho]
theorem aw_all (h : okW P T A) (hp : p < P) (ho : o < P) : ∀ k, 2 ^ P + k ≤ 256 → awS P A p o (2 ^ P + k) = awS P A p o (2 ^ P) := by
  intro k
  induction k with
  | zero => intro _; rfl
  | succ k ih =>
    intro hk
    have ih := ih (by omega)
    show awF P A p o (2 ^ P + k) (awS P A p o (2 ^ P + k)) = _
    rw [ih]
    unfold awF
    refine if_neg fun e => ?_
    rw [← aw_low h hp ho] at e
    obtain ⟨a, b⟩ := aw_min (2 ^ P) (by omega) _ (Nat.mod_lt (2 ^ P + k) (Nat.two_pow_pos P)) e.2
    have := pc_low (2 ^ P + k) P
    rcases e.1 with e | e
    · exact a e
    · omega
theorem aw_256 (h : okW P T A) (hp : p < P) (ho : o < P) : awS P A p o 256 = awS P A p o (2 ^ P) := by
  have h2 : 2 ^ P ≤ 2 ^ 8 := Nat.pow_le_pow_right (by omega) h.P
  have := aw_all h hp ho (256 - 2 ^ P) (by omega)
  rw [← this]; congr 1; omega
theorem awG_f (h : ¬ awG P A p o c = true) : c.testBit p = true ∨ c.testBit o = true ∨ (itN P A c p 8).testBit o = true := by
  unfold awG at h
  by_cases h1 : c.testBit p = true
  · exact Or.inl h1
  · by_cases h2 : c.testBit o = true
    · exact Or.inr (Or.inl h2)
    · by_cases h3 : (itN P A c p 8).testBit o = true
      · exact Or.inr (Or.inr h3)
      · exfalso; apply h
        have h1 : c.testBit p = false := by simpa using h1
        have h2 : c.testBit o = false := by simpa using h2
        have h3 : (itN P A c p 8).testBit o = false := by simpa using h3
        rw [h1, h2, h3]; rfl
def awayS (P : Nat) (A : Wd) (p o : Nat) : Int32 := if p = o then ν 1 else if tb (A 3 p) o = true then ν 1 else awC (awS P A p o (2 ^ P))
set_option maxHeartbeats 1000000 in
theorem c127 (h : CW P T W R A σ 25 q) (hp : p < P) (ho : o < P) : pcall 127 [.ref 25, .int (ι p), .int (ι o)] σ = some (1, .int (awayS P A p o), σ) := by
  have hP := h.1.P
  refine Wp.eqI (Wp.le (M_127 (by decide) rfl h.lay) ?_)
  unfold awayS
  by_cases z : p = o
  · rw [if_pos (by rw [z]), if_pos z]; exact Wp.retI rfl
  rw [if_neg (by rw [ι_eq (by omega) (by omega)]; exact z), if_neg z, p91 (by decide) h.lay (by omega) (by omega), bI_ret, h.see hp]
  by_cases z1 : tb (A 3 p) o = true
  · rw [z1, bz_t, if_neg (by decide), if_pos rfl]; exact Wp.retI rfl
  have z1' : tb (A 3 p) o = false := by simpa using z1
  rw [z1', bz_f, if_pos rfl, if_neg (by decide), ← aw_256 h.1 hp ho]
  refine Wp.loop (α := Value) 256 (fun c v => C_127_21 25 (ι p) (ι o) (awC (awS P A p o c)) (ι c) v σ) (fun _ _ => True) ?_ ?_ (t := 0) (a := .retAddr 0) (Nat.zero_le _) trivial
  · intro c v hc _ k
    have k := fun v => k v trivial
    have hs := aw_lt (P := P) (A := A) (p := p) (o := o) c
    have e : awS P A p o (c + 1) = awF P A p o c (awS P A p o c) := rfl
    rw [e] at k
    generalize hg : awS P A p o c = s at k hs
    have tail : (s = 256 ∨ pc c < pc s) → Wp (C_127_51 25 (ι p) (ι o) (awC s) (ι c) v (ι 1) σ) (RI (awC (awS P A p o 256)) fun τ => τ = σ) := by
      intro hl
      refine Wp.le (T_127_51 (by decide) rfl h.lay) ?_
      rw [if_neg (by decide), p168 h.lay (by omega), bI_ret, tb_ι (by omega) (by omega)]
      by_cases g : awG P A p o c = true
      · have k := k (.int (ι 1))
        unfold awF at k
        rw [if_pos ⟨hl, g⟩] at k
        unfold awG at g
        simp only [Bool.and_eq_true, Bool.not_eq_true'] at g
        obtain ⟨g1, g2, g3⟩ := g
        have e2 : awC c = ι c := by unfold awC; rw [if_neg (by omega)]
        rw [g1, bz_f, if_neg (fun g => g rfl), p168 h.lay (by omega), bI_ret, tb_ι (by omega) (by omega), g2, bz_f, if_neg (fun g => g rfl), c123 h hp hc, bI_ret, p168 h.lay (by omega), bI_ret]
        rw [tb_ι (Nat.lt_trans (pow8 hP (it_lt h.1 hp 8)) (by omega)) (by omega), g3, bz_f, if_neg (fun g => g rfl)]
        simp (disch := omega) only [ι_lt_t, ι_lt_f, ι_le_t, ι_le_f, ι_eq_f, ι_m1, ι_add, ι_mul, ι_pm, ι_sub, ix_ι, gd_inb, gd_t, eq_self, if_true, if_false, not_true_eq_false, not_false_eq_true, ite_self, ]
        rw [e2] at k; exact k
      · have k := k (.int (ι 1))
        unfold awF at k
        rw [if_neg (fun x => g x.2)] at k
        simp (disch := omega) only [ι_lt_t, ι_lt_f, ι_le_t, ι_le_f, ι_eq_f, ι_m1, ι_add, ι_mul, ι_pm, ι_sub, ix_ι, gd_inb, gd_t, eq_self, if_true, if_false, not_true_eq_false, not_false_eq_true, ite_self, ]
        by_cases g1 : c.testBit p = true
        · rw [g1, bz_t, if_pos (by decide)]; exact k
        have g1' : c.testBit p = false := by simpa using g1
        rw [g1', bz_f, if_neg (fun g => g rfl), p168 h.lay (by omega), bI_ret, tb_ι (by omega) (by omega)]
        by_cases g2 : c.testBit o = true
        · rw [g2, bz_t, if_pos (by decide)]; exact k
        have g2' : c.testBit o = false := by simpa using g2
        rw [g2', bz_f, if_neg (fun g => g rfl), c123 h hp hc, bI_ret, p168 h.lay (by omega), bI_ret]
        rw [tb_ι (Nat.lt_trans (pow8 hP (it_lt h.1 hp 8)) (by omega)) (by omega)]
        have g3 : (itN P A c p 8).testBit o = true := by
          rcases awG_f g with x | x | x
          · exact absurd x g1
          · exact absurd x g2
          · exact x
        rw [g3, bz_t, if_pos (by decide)]; exact k
    refine Wp.le (T_127_21 (by decide) rfl h.lay) ?_
    rw [if_neg (by rw [ι_le (by omega) (by omega)]; omega)]
    by_cases e3 : s = 256
    · have e4 : awC s = ν 1 := by unfold awC; rw [if_pos e3]
      rw [e4, if_pos rfl, ← e4]
      exact tail (Or.inl e3)
    · have e4 : awC s = ι s := by unfold awC; rw [if_neg e3]
      rw [e4, if_neg (by rw [ν_ι (by omega)]; exact id), p0 h.lay (by omega), bI_ret, p0 h.lay (by omega), bI_ret]
      have l1 := pc_le s
      have l2 := pc_le c
      by_cases e5 : pc s ≤ pc c
      · rw [if_pos (by rw [ι_le (by omega) (by omega)]; exact e5)]
        refine Wp.le (T_127_51 (by decide) rfl h.lay) ?_
        have k := k (.int (ι 0))
        unfold awF at k
        rw [if_neg (fun x => x.1.elim e3 (by omega)), e4] at k
        rw [if_pos rfl]
        simp (disch := omega) only [ι_lt_t, ι_lt_f, ι_le_t, ι_le_f, ι_eq_f, ι_m1, ι_add, ι_mul, ι_pm, ι_sub, ix_ι, gd_inb, gd_t, eq_self, if_true, if_false, not_true_eq_false, not_false_eq_true, ite_self, ]
        exact k
      · rw [if_neg (by rw [ι_le (by omega) (by omega)]; exact e5), ← e4]; exact tail (Or.inr (by omega))
  · intro v _
    refine Wp.le (T_127_21 (by decide) rfl h.lay) ?_
    simp (disch := omega) only [ι_lt_t, ι_lt_f, ι_le_t, ι_le_f, ι_eq_f, ι_m1, ι_add, ι_mul, ι_pm, ι_sub, ix_ι, gd_inb, gd_t, eq_self, if_true, if_false, not_true_eq_false, not_false_eq_true, ite_self, ]
    exact Wp.retI rfl
set_option maxHeartbeats 1000000 in
theorem m305l (h : CM P T W R A σ) (hp : p < P) (ho : o < P) : Wp (C_305_52 (ι p) (ι o) (ν 1) (ι 0) σ) (RI (awC (awS P A p o (2 ^ P))) (fun τ => τ = σ)) := by
  have hP := h.ok.P
  have h2 : 2 ^ P ≤ 2 ^ 8 := Nat.pow_le_pow_right (by omega) hP
  refine Wp.loop (α := Unit) (2 ^ P) (fun c _ => C_305_52 (ι p) (ι o) (awC (awS P A p o c)) (ι c) σ) (fun _ _ => True) ?_ ?_ (t := 0) (a := ()) (Nat.zero_le _) trivial
  · intro c _ hc _ k
    have k := k () trivial
    have hs := aw_lt (P := P) (A := A) (p := p) (o := o) c
    have e : awS P A p o (c + 1) = awF P A p o c (awS P A p o c) := rfl
    rw [e] at k
    generalize hg : awS P A p o c = s at k hs
    have ht := Nat.lt_trans (pow8 hP (it_lt (w := c) h.ok hp 8)) (show 256 < 2147483648 by omega)
    refine Wp.le (T_305_52 rfl h.lay) ?_
    rw [h.P, bit_ι9 P (by omega), if_neg (by rw [ι_le (by omega) (by omega)]; omega)]
    rw [p236 h.lay (by omega), bI_ret, tb_ι (by omega) (by omega)]
    simp (disch := omega) only [ι_lt_t, ι_lt_f, ι_le_t, ι_le_f, ι_eq_f, ι_m1, ι_add, ι_mul, ι_pm, ι_sub, ix_ι, gd_inb, gd_t, eq_self, if_true, if_false, not_true_eq_false, not_false_eq_true, ite_self, ]
    unfold awF at k
    by_cases g1 : c.testBit p = true
    · rw [if_neg (fun x => by unfold awG at x; rw [g1] at x; simp at x)] at k
      rw [g1, bz_t, if_pos (by decide)]; exact k
    have g1' : c.testBit p = false := by simpa using g1
    rw [g1', bz_f, if_neg (fun g => g rfl), p236 h.lay (by omega), bI_ret, tb_ι (by omega) (by omega)]
    by_cases g2 : c.testBit o = true
    · rw [if_neg (fun x => by unfold awG at x; rw [g1', g2] at x; simp at x)] at k
      rw [g2, bz_t, if_pos (by decide)]; exact k
    have g2' : c.testBit o = false := by simpa using g2
    rw [g2', bz_f, if_neg (fun g => g rfl)]
    have e2 : awC c = ι c := by unfold awC; rw [if_neg (by omega)]
    have tail : (s = 256 ∨ pc c < pc s) → Wp (bI (pcall 256 [.ref 61, .int (ι p), .int (ι c)] σ) fun r3 σ3 => bI (pcall 236 [.int r3, .int (ι o)] σ3) fun r4 σ4 => if ¬ r4 = ι 0 then C_305_52 (ι p) (ι o) (awC s) (ι (c + 1)) σ4 else C_305_52 (ι p) (ι o) (ι c) (ι (c + 1)) σ4) (RI (awC (awS P A p o (2 ^ P))) fun τ => τ = σ) := by
      intro hl
      rw [m256 h hp (by omega), bI_ret, p236 h.lay (by omega), bI_ret, tb_ι ht (by omega)]
      by_cases g3 : (itN P A c p 8).testBit o = true
      · rw [if_neg (fun x => by unfold awG at x; rw [g1', g2', g3] at x; simp at x)] at k
        rw [g3, bz_t, if_pos (by decide)]; exact k
      · have g3' : (itN P A c p 8).testBit o = false := by simpa using g3
        rw [if_pos ⟨hl, by unfold awG; rw [g1', g2', g3']; rfl⟩, e2] at k
        rw [g3', bz_f, if_neg (fun g => g rfl)]; exact k
    by_cases e3 : s = 256
    · have e4 : awC s = ν 1 := by unfold awC; rw [if_pos e3]
      have tail := tail (Or.inl e3)
      rw [e4] at tail ⊢
      rw [if_pos rfl]
      exact tail
    · have e4 : awC s = ι s := by unfold awC; rw [if_neg e3]
      rw [e4, if_neg (by rw [ν_ι (by omega)]; exact id), p247 h.lay (by omega), bI_ret, p247 h.lay (by omega), bI_ret]
      have l1 := pc_le s
      have l2 := pc_le c
      by_cases e5 : pc c < pc s
      · have tail := tail (Or.inr e5)
        rw [e4] at tail
        rw [if_pos (by rw [ι_lt (by omega) (by omega)]; exact e5)]; exact tail
      · rw [if_neg (fun x => x.1.elim e3 e5), e4] at k
        rw [if_neg (by rw [ι_lt (by omega) (by omega)]; exact e5)]; exact k
  · intro _ _
    refine Wp.le (T_305_52 rfl h.lay) ?_
    rw [h.P, bit_ι9 P (by omega), if_pos (by rw [ι_le (by omega) (by omega)]; exact Nat.le_refl _)]
    exact Wp.retI rfl
def q_away (P : Nat) (A : Wd) (x0 x1 : Int32) : Nat × Int32 := if inb' P x0 = true then (if inb' P x1 = true then (0, awayS P A (ix x0) (ix x1)) else (1, ι 0)) else (1, ι 0)
theorem q198 (h : CN P T W R A σ q) : Wp (pcall 198 [.ref 0, .int x0, .int x1] σ) (qC σ (q_away P A x0 x1)) := by
  have hP := h.1.1.P
  refine Wp.le (M_198 rfl h.1.lay) ?_
  unfold q_away
  rw [k176 h.1]
  by_cases e0 : inb' P x0 = true
  · obtain ⟨p, hp, rfl⟩ := inb'_t (by omega) e0
    rw [if_pos e0, bV_ret, if_pos e0, k176 h.1]
    by_cases e1 : inb' P x1 = true
    · obtain ⟨o, ho, rfl⟩ := inb'_t (by omega) e1
      rw [if_pos e1, bV_ret, if_pos e1, ix_ι (by omega), ix_ι (by omega), c127 h.1 hp ho, bI_ret]
      exact qC.r rfl h.rf
    · rw [if_neg e1, bV_3, if_neg e1]; exact qC.n
  · rw [if_neg e0, bV_3, if_neg e0]; exact qC.n
theorem n305 (h : CM P T W R A σ) : Wp (pcall 305 [.ref 61, .int x0, .int x1] σ) (qM P T W R A σ (q_away P A x0 x1)) := by
  have hP := h.ok.P
  have hc : CM P T W R A (sC σ) := h.c0
  refine Wp.le (M_305 rfl h.lay) ?_
  unfold q_away
  rw [m260 hc.lay hc.P hP, bI_ret]
  by_cases e0 : inb' P x0 = true
  · obtain ⟨p, hp, rfl⟩ := inb'_t (by omega) e0
    rw [e0, bz_t, if_neg (by decide), if_pos rfl, m260 hc.lay hc.P hP, bI_ret]
    by_cases e1 : inb' P x1 = true
    · obtain ⟨o, ho, rfl⟩ := inb'_t (by omega) e1
      rw [e1, bz_t, if_pos (by decide), if_pos rfl, ix_ι (show p < 2147483648 by omega), ix_ι (show o < 2147483648 by omega)]
      unfold awayS
      by_cases z : p = o
      · rw [if_pos (by rw [z]), if_pos z]; exact qM.r' rfl hc QN.rf
      rw [if_neg (by rw [ι_eq (by omega) (by omega)]; exact z), if_neg z]
      simp (disch := omega) only [ι_lt_t, ι_lt_f, ι_le_t, ι_le_f, ι_eq_f, ι_m1, ι_add, ι_mul, ι_pm, ι_sub, ix_ι, gd_inb, gd_t, eq_self, if_true, if_false, not_true_eq_false, not_false_eq_true, ite_self, ]
      rw [p236 hc.lay (by omega), bI_ret, hc.see p hp]
      by_cases z1 : tb (A 3 p) o = true
      · rw [z1, bz_t, if_neg (by decide), if_pos rfl]; exact qM.r' rfl hc QN.rf
      have z1' : tb (A 3 p) o = false := by simpa using z1
      rw [z1', bz_f, if_pos rfl, if_neg (by decide)]
      refine (m305l hc hp ho).mono fun z hz => ?_
      obtain ⟨τ, e, e2⟩ := hz
      subst e2
      exact ⟨_, _, e, fun _ => rfl, hc, QN.rf⟩
    · have e1' : inb' P x1 = false := by simpa using e1
      rw [e1', bz_f, if_neg (fun g => g rfl), if_neg (by decide)]; exact qM.f (by omega) h
  · have e0' : inb' P x0 = false := by simpa using e0
    rw [e0', bz_f, if_pos rfl, if_neg (by decide)]; exact qM.f (by omega) h
end AWAY
