/-! ===== parts, how far, who must look away: both sides ===== -/
section WAYS
variable {P T : Nat} {W R : Rl} {A B : Wd} {σ τ υ σ0 : pS} {t p o u n q m w : Nat} {x0 x1 : Int32}
def parF (P : Nat) (A : Wd) (p : Nat) (s : Nat × Nat) : Nat × Nat := if s.2.testBit p = true then s else (s.1 + 1, s.2 ||| itN P A 0 p 8)
def parS (P : Nat) (A : Wd) (n : Nat) : Nat × Nat := fd (parF P A) n (0, 0)
theorem par_lt (h : okW P T A) {n : Nat} (hn : n ≤ P) : (parS P A n).2 < 2 ^ P ∧ (parS P A n).1 ≤ n := by
  induction n with
  | zero => exact ⟨Nat.pos_of_ne_zero (by simp [parS, fd]), Nat.le_refl _⟩
  | succ n ih =>
    obtain ⟨a, b⟩ := ih (by omega)
    show (parF P A n (parS P A n)).2 < 2 ^ P ∧ (parF P A n (parS P A n)).1 ≤ n + 1
    unfold parF
    split
    · exact ⟨a, by omega⟩
    · exact ⟨or_lt a (it_lt h (by omega) 8), by dsimp only; omega⟩
theorem c122 (h : CW P T W R A σ 25 q) : pcall 122 [.ref 25] σ = some (1, .int (ι (parS P A P).1), σ) := by
  have hP := h.1.P
  refine Wp.eqI (Wp.le (M_122 (by decide) rfl h.lay) ?_)
  refine Wp.loop (α := Unit) P (fun p _ => C_122_6 25 (ι (parS P A p).1) (ι (parS P A p).2) (ι p) σ) (fun _ _ => True) ?_ ?_ (t := 0) (a := ()) (Nat.zero_le _) trivial
  · intro p _ hp _ k
    have k := k () trivial
    obtain ⟨a, b⟩ := par_lt h.1 (show p ≤ P by omega)
    have a := pow8 hP a
    refine Wp.le (T_122_6 (by decide) rfl h.lay) ?_
    rw [c86 h, bI_ret]
    simp (disch := omega) only [ι_lt_t, ι_lt_f, ι_le_t, ι_le_f, ι_eq_f, ι_m1, ι_add, ι_mul, ι_pm, ι_sub, ix_ι, gd_inb, gd_t, eq_self, if_true, if_false, not_true_eq_false, not_false_eq_true, ite_self, ]
    rw [p168 h.lay (by omega), bI_ret, tb_ι (by omega) (by omega)]
    have e : parS P A (p + 1) = parF P A p (parS P A p) := rfl
    rw [e] at k
    unfold parF at k
    by_cases e2 : (parS P A p).2.testBit p = true
    · rw [e2, bz_t, if_pos (by decide)]
      rw [if_pos e2] at k; exact k
    · have e2' : (parS P A p).2.testBit p = false := by simpa using e2
      rw [e2', bz_f, if_neg (fun g => g rfl), c123 h hp (show 0 < 256 by omega), bI_ret, ι_or]
      rw [if_neg e2] at k; exact k
  · intro _ _
    refine Wp.le (T_122_6 (by decide) rfl h.lay) ?_
    rw [c86 h, bI_ret]
    simp (disch := omega) only [ι_lt_t, ι_lt_f, ι_le_t, ι_le_f, ι_eq_f, ι_m1, ι_add, ι_mul, ι_pm, ι_sub, ix_ι, gd_inb, gd_t, eq_self, if_true, if_false, not_true_eq_false, not_false_eq_true, ite_self, ]
    exact Wp.retI rfl
theorem m255 (h : CM P T W R A σ) : pcall 255 [.ref 61] σ = some (1, .int (ι (parS P A P).1), σ) := by
  have hP := h.ok.P
  refine Wp.eqI (Wp.le (M_255 rfl h.lay) ?_)
  refine Wp.loop (α := Unit) P (fun p _ => C_255_6 (ι (parS P A p).1) (ι (parS P A p).2) (ι p) σ) (fun _ _ => True) ?_ ?_ (t := 0) (a := ()) (Nat.zero_le _) trivial
  · intro p _ hp _ k
    have k := k () trivial
    obtain ⟨a, b⟩ := par_lt h.ok (show p ≤ P by omega)
    have a := pow8 hP a
    refine Wp.le (T_255_6 rfl h.lay) ?_
    rw [h.P]
    simp (disch := omega) only [ι_lt_t, ι_lt_f, ι_le_t, ι_le_f, ι_eq_f, ι_m1, ι_add, ι_mul, ι_pm, ι_sub, ix_ι, gd_inb, gd_t, eq_self, if_true, if_false, not_true_eq_false, not_false_eq_true, ite_self, ]
    rw [p236 h.lay (by omega), bI_ret, tb_ι (by omega) (by omega)]
    have e : parS P A (p + 1) = parF P A p (parS P A p) := rfl
    rw [e] at k
    unfold parF at k
    by_cases e2 : (parS P A p).2.testBit p = true
    · rw [e2, bz_t, if_neg (by decide)]
      rw [if_pos e2] at k; exact k
    · have e2' : (parS P A p).2.testBit p = false := by simpa using e2
      rw [e2', bz_f, if_pos rfl, m256 h hp (show 0 < 256 by omega), bI_ret, ι_or]
      rw [if_neg e2] at k; exact k
  · intro _ _
    refine Wp.le (T_255_6 rfl h.lay) ?_
    rw [h.P]
    simp (disch := omega) only [ι_lt_t, ι_lt_f, ι_le_t, ι_le_f, ι_eq_f, ι_m1, ι_add, ι_mul, ι_pm, ι_sub, ix_ι, gd_inb, gd_t, eq_self, if_true, if_false, not_true_eq_false, not_false_eq_true, ite_self, ]
    exact Wp.retI rfl
theorem nb0 (h : okW P T A) (m : Nat) : nbN P A m &&& (255 ^^^ 0) = nbN P A m := by
  rw [Nat.xor_zero]; exact and255 (pow8 h.P (nb_lt h m))
/-- how far -/
def farS (P : Nat) (A : Wd) (p o : Nat) : Int32 := if fst1 (fun k => (itN P A 0 p k).testBit o) 8 0 = 8 then ν 1 else ι (fst1 (fun k => (itN P A 0 p k).testBit o) 8 0)
theorem c126 (h : CW P T W R A σ 25 q) (hp : p < P) (ho : o < P) : pcall 126 [.ref 25, .int (ι p), .int (ι o)] σ = some (1, .int (farS P A p o), σ) := by
  have hP := h.1.P
  refine Wp.eqI (Wp.le (M_126 (by decide) rfl h.lay) ?_)
  rw [bit_ι p (by omega)]
  have key : ∀ k n, n + k = 8 → fst1 (fun k => (itN P A 0 p k).testBit o) k n = fst1 (fun k => (itN P A 0 p k).testBit o) 8 0 → Wp (C_126_7 25 (.int (ι p)) (ι o) (ι (itN P A 0 p n)) (ι n) σ) (RI (farS P A p o) (fun τ => τ = σ)) := by
    intro k
    induction k with
    | zero =>
      intro n hn hf
      have : n = 8 := by omega
      subst this
      refine Wp.le (T_126_7 (by decide) rfl h.lay) ?_
      simp (disch := omega) only [ι_lt_t, ι_lt_f, ι_le_t, ι_le_f, ι_eq_f, ι_m1, ι_add, ι_mul, ι_pm, ι_sub, ix_ι, gd_inb, gd_t, eq_self, if_true, if_false, not_true_eq_false, not_false_eq_true, ite_self, ]
      refine Wp.retI' ?_ rfl
      unfold farS
      have hf' : fst1 (fun k => (itN P A 0 p k).testBit o) 8 0 = 8 := hf.symm
      rw [if_pos hf']
    | succ k ih =>
      intro n hn hf
      have lt := pow8 hP (it_lt (w := 0) h.1 hp n)
      refine Wp.le (T_126_7 (by decide) rfl h.lay) ?_
      simp (disch := omega) only [ι_lt_t, ι_lt_f, ι_le_t, ι_le_f, ι_eq_f, ι_m1, ι_add, ι_mul, ι_pm, ι_sub, ix_ι, gd_inb, gd_t, eq_self, if_true, if_false, not_true_eq_false, not_false_eq_true, ite_self, ]
      rw [p168 h.lay (by omega), bI_ret, tb_ι (by omega) (by omega)]
      unfold fst1 at hf
      by_cases e : (itN P A 0 p n).testBit o = true
      · rw [if_pos e] at hf
        rw [e, bz_t, if_neg (by decide)]
        refine Wp.retI' ?_ rfl
        unfold farS
        have hf' : fst1 (fun k => (itN P A 0 p k).testBit o) 8 0 = n := hf.symm
        rw [hf', if_neg (by omega)]
      · rw [if_neg e] at hf
        have e' : (itN P A 0 p n).testBit o = false := by simpa using e
        rw [e', bz_f, if_pos rfl, c124 h lt, bI_ret, ι_or]
        have := ih (n + 1) (by omega) hf
        rw [it_s] at this
        unfold stN at this
        rw [nb0 h.1] at this
        exact this
  exact key 8 0 (by omega) rfl
theorem m304i (h : CM P T W R A σ) (hm : m < 256) {v : Value} {a : Nat} {y z : Int32} {Q : pZ → Prop} (k : ∀ g, Wp (C_304_37 v y (ι (a ||| nbN P A m)) (ι m) (z + ι 1) g σ) Q) : Wp (C_304_60 v y (ι a) (ι m) z (ι 0) σ) Q := by
  have hP := h.ok.P
  refine Wp.fdl (n := P) (b0 := a) (f := fun o s => if m.testBit o = true then s ||| (seeN A o &&& (255 ^^^ 0)) else s) (C := fun o b σ => C_304_60 v y (ι b) (ι m) z (ι o) σ) (I := fun τ => τ = σ) ?_ ?_ rfl
  · rintro o τ b ho rfl - k2
    have k2 := k2 τ rfl
    obtain ⟨e1, _, e2⟩ := see_n h.ok ho
    refine Wp.le (T_304_60 rfl h.lay) ?_
    rw [h.P]
    simp (disch := omega) only [ι_lt_t, ι_lt_f, ι_le_t, ι_le_f, ι_eq_f, ι_m1, ι_add, ι_mul, ι_pm, ι_sub, ix_ι, gd_inb, gd_t, eq_self, if_true, if_false, not_true_eq_false, not_false_eq_true, ite_self, ]
    rw [p236 h.lay (by omega), bI_ret, tb_ι (by omega) (by omega)]
    by_cases e : m.testBit o = true
    · rw [e, bz_t, if_neg (by decide)]
      rw [if_pos e, Nat.xor_zero, and255 e2] at k2
      simp (disch := omega) only [ι_lt_t, ι_lt_f, ι_le_t, ι_le_f, ι_eq_f, ι_m1, ι_add, ι_mul, ι_pm, ι_sub, ix_ι, gd_inb, gd_t, eq_self, if_true, if_false, not_true_eq_false, not_false_eq_true, ite_self, h.see o ho, e1]
      rw [ι_or]
      exact k2
    · have e' : m.testBit o = false := by simpa using e
      rw [e', bz_f, if_pos rfl]
      rw [if_neg e] at k2
      exact k2
  · rintro τ rfl
    refine Wp.le (T_304_60 rfl h.lay) ?_
    rw [h.P]
    simp (disch := omega) only [ι_lt_t, ι_lt_f, ι_le_t, ι_le_f, ι_eq_f, ι_m1, ι_add, ι_mul, ι_pm, ι_sub, ix_ι, gd_inb, gd_t, eq_self, if_true, if_false, not_true_eq_false, not_false_eq_true, ite_self, ]
    rw [in_st P a (fun p hp => (see_n h.ok hp).2.2)]
    have e9 : fd (fun p s => s ||| if m.testBit p = true then seeN A p else 0) P 0 &&& (255 ^^^ 0) = nbN P A m := nb0 h.ok m
    rw [e9]
    exact k _
theorem fst1_from {g : Nat → Bool} : ∀ k n, (∀ i, i < k → g (n + i) = false) → fst1 g k n = n + k := by
  intro k
  induction k with
  | zero => intro n _; rfl
  | succ k ih =>
    intro n hn
    unfold fst1
    have h0 := hn 0 (by omega)
    rw [Nat.add_zero] at h0
    rw [if_neg (by rw [h0]; decide), ih (n + 1) (fun i hi => by have := hn (i + 1) (by omega); rwa [show n + 1 + i = n + (i + 1) by omega])]
    omega
theorem far_loop (h : CM P T W R A σ) (hp : p < P) (ho : o < P) : Wp (C_304_37 (.int (ι p)) (ι o) (shl' (ι 1) (ι p)) (ι 0) (ι 0) (.retAddr 0) σ) (RI (farS P A p o) (fun τ => τ = σ)) := by
  have hP := h.ok.P
  have lt := fun k => pow8 hP (it_lt (w := 0) h.ok hp k)
  rw [bit_ι p (by omega)]
  have key : ∀ j k g, k + j = 9 → 1 ≤ k → (∀ i, i < k → (itN P A 0 p i).testBit o = false) → Wp (C_304_37 (.int (ι p)) (ι o) (ι (itN P A 0 p k)) (ι (itN P A 0 p (k - 1))) (ι k) g σ) (RI (farS P A p o) (fun τ => τ = σ)) := by
    intro j
    induction j with
    | zero =>
      intro k g hk h1 hz
      have e := it_fix (w := 0) h.ok hp 8 (by omega)
      have hk9 : k = 9 := by omega
      subst hk9
      refine Wp.le (T_304_37 rfl h.lay) ?_
      rw [show (9 : Nat) - 1 = 8 from rfl, e, if_pos rfl]
      refine Wp.retI' ?_ rfl
      unfold farS
      rw [fst1_from 8 0 (fun i hi => hz _ (by omega)), if_pos rfl]
    | succ j ih =>
      intro k g hk h1 hz
      refine Wp.le (T_304_37 rfl h.lay) ?_
      have ek : k - 1 + 1 = k := by omega
      by_cases e : itN P A 0 p k = itN P A 0 p (k - 1)
      · rw [e, if_pos rfl]
        refine Wp.retI' ?_ rfl
        unfold farS
        rw [fst1_from 8 0 (fun i hi => ?_), if_pos rfl]
        rw [Nat.zero_add]
        by_cases e2 : i < k
        · exact hz i e2
        · rw [it_ge (w := 0) h.ok hp (j := k - 1) (k := i) (by rw [ek]; exact e) (by omega)]
          exact hz (k - 1) (by omega)
      · rw [if_neg (by rw [ι_eq (by have := lt k; omega) (by have := lt (k - 1); omega)]; exact e), p236 h.lay (by omega), bI_ret, tb_ι (by have := lt k; omega) (by omega)]
        by_cases e3 : (itN P A 0 p k).testBit o = true
        · rw [e3, bz_t, if_neg (by decide)]
          refine Wp.retI' ?_ rfl
          have k7 : k ≤ 7 := by
            by_cases e7 : k ≤ 7
            · exact e7
            · exfalso
              have := it_fix (w := 0) h.ok hp (k - 1) (by omega)
              rw [ek] at this
              exact e this
          have hf : ∀ j n, n ≤ k → k < n + j → (∀ i, n ≤ i → i < k → (itN P A 0 p i).testBit o = false) → fst1 (fun k => (itN P A 0 p k).testBit o) j n = k := by
            intro j
            induction j with
            | zero => intro n a b; omega
            | succ j ihj =>
              intro n a b c
              unfold fst1
              by_cases en : n = k
              · subst en; rw [if_pos e3]
              · rw [if_neg (by rw [c n (Nat.le_refl _) (by omega)]; decide)]
                exact ihj (n + 1) (by omega) (by omega) (fun i hi => c i (by omega))
          unfold farS
          rw [hf 8 0 (by omega) (by omega) (fun i _ hi => hz i hi), if_neg (by omega)]
        · have e3' : (itN P A 0 p k).testBit o = false := by simpa using e3
          rw [e3', bz_f, if_pos rfl]
          refine m304i h (lt k) fun g' => ?_
          have := ih (k + 1) g' (by omega) (by omega) (fun i hi => by
            by_cases e4 : i = k
            · rw [e4]; exact e3'
            · exact hz i (by omega))
          rw [it_s] at this
          unfold stN at this
          rw [nb0 h.ok, ← ι_add] at this
          exact this
  refine Wp.le (T_304_37 rfl h.lay) ?_
  have hp2 : 2 ^ p < 256 := lt 0
  rw [if_neg (by rw [ι_eq (by omega) (by omega)]; exact Nat.pos_iff_ne_zero.mp (Nat.pos_of_ne_zero (by simp))), p236 h.lay (by omega), bI_ret, tb_ι (by omega) (by omega)]
  by_cases e3 : (2 ^ p).testBit o = true
  · rw [e3, bz_t, if_neg (by decide)]
    refine Wp.retI' ?_ rfl
    unfold farS
    have : fst1 (fun k => (itN P A 0 p k).testBit o) 8 0 = 0 := by
      unfold fst1
      exact if_pos e3
    rw [this, if_neg (by omega)]
  · have e3' : (2 ^ p).testBit o = false := by simpa using e3
    rw [e3', bz_f, if_pos rfl]
    refine m304i h hp2 fun g' => ?_
    have := key 8 1 g' (by omega) (by omega) (fun i hi => by
      have : i = 0 := by omega
      rw [this]; exact e3')
    rw [it_s] at this
    unfold stN at this
    rw [nb0 h.ok] at this
    exact this
def q_far (P : Nat) (A : Wd) (x0 x1 : Int32) : Nat × Int32 := if inb' P x0 = true then if inb' P x1 = true then (0, farS P A (ix x0) (ix x1)) else (1, ι 0) else (1, ι 0)
theorem q197 (h : CN P T W R A σ q) : Wp (pcall 197 [.ref 0, .int x0, .int x1] σ) (qC σ (q_far P A x0 x1)) := by
  have hP := h.1.1.P
  refine Wp.le (M_197 rfl h.1.lay) ?_
  unfold q_far
  rw [k176 h.1]
  by_cases e0 : inb' P x0 = true
  · obtain ⟨p, hp, rfl⟩ := inb'_t (by omega) e0
    rw [if_pos e0, bV_ret, if_pos e0, k176 h.1]
    by_cases e1 : inb' P x1 = true
    · obtain ⟨o, ho, rfl⟩ := inb'_t (by omega) e1
      rw [if_pos e1, bV_ret, if_pos e1, ix_ι (by omega), ix_ι (by omega), c126 h.1 hp ho, bI_ret]
      exact qC.r rfl h.rf
    · rw [if_neg e1, bV_3, if_neg e1]; exact qC.n
  · rw [if_neg e0, bV_3, if_neg e0]; exact qC.n
theorem n304 (h : CM P T W R A σ) : Wp (pcall 304 [.ref 61, .int x0, .int x1] σ) (qM P T W R A σ (q_far P A x0 x1)) := by
  have hT := h.ok.T; have hP := h.ok.P
  have hc : CM P T W R A (sC σ) := h.c0
  refine Wp.le (M_304 rfl h.lay) ?_
  unfold q_far
  rw [m260 hc.lay hc.P hP, bI_ret]
  by_cases e0 : inb' P x0 = true
  · obtain ⟨p, hp, rfl⟩ := inb'_t (by omega) e0
    rw [e0, bz_t, if_neg (by decide), if_pos rfl, m260 hc.lay hc.P hP, bI_ret]
    by_cases e1 : inb' P x1 = true
    · obtain ⟨o, ho, rfl⟩ := inb'_t (by omega) e1
      rw [e1, bz_t, if_pos (by decide), if_pos rfl, ix_ι (by omega), ix_ι (by omega)]
      obtain ⟨z, e, τ, rfl, rfl⟩ := far_loop hc hp ho
      rw [e]
      exact qM.r' rfl hc QN.rf
    · have e1' : inb' P x1 = false := by simpa using e1
      rw [e1', bz_f, if_neg (fun g => g rfl), if_neg (by decide)]; exact qM.f (by omega) h
  · have e0' : inb' P x0 = false := by simpa using e0
    rw [e0', bz_f, if_pos rfl, if_neg (by decide)]; exact qM.f (by omega) h
end WAYS
