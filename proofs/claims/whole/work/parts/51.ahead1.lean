/-! ===== what comes, in the class: the spare world behind some days ===== -/
section AHEAD1
variable {P T : Nat} {W R : Rl} {A B : Wd} {σ τ υ σ0 : pS} {w u q t o p m n : Nat} {x : Wd × (Nat → Int32)}
/-- a day more: the world, how often each thing has been taken -/
def dayF (P T : Nat) (W R : Rl) (x : Wd × (Nat → Int32)) : Wd × (Nat → Int32) := ((dayS P T W R x.1).1, fun j => x.2 j + (dayS P T W R x.1).2 j)
def gof (P T : Nat) (W R : Rl) (n : Nat) (x : Wd × (Nat → Int32)) : Wd × (Nat → Int32) := fd (fun _ x => dayF P T W R x) n x
theorem gof_s : gof P T W R (n + 1) x = dayF P T W R (gof P T W R n x) := rfl
/-- the class's cells that change while it is asked -/
def Cq (a : Nat) : Prop := Sc a ∨ (47 ≤ a ∧ a ≤ 60)
def CQ (σ τ : pS) : Prop := Fq Cq (Vw 47) σ τ ∧ gI τ 47 10 = ι 0
theorem CQ.trans (h : CQ σ τ) (g : CQ τ υ) : CQ σ υ := ⟨h.1.trans g.1, g.2⟩
theorem Vw47 : ∀ a f, Vw 47 a f → mov a f := fun a f v => Or.inl ⟨by rw [v.1]; decide, v.2⟩
/-- the class's world now, between calls -/
def CN (P T : Nat) (W R : Rl) (A : Wd) (σ : pS) (q : Nat) : Prop := CW P T W R A σ 25 q ∧ STL P T W R A σ 25 ∧ A 0 1 = ι 0 ∧ gI σ 47 10 = ι 0
theorem Cq.qq {i : Nat} (hq : isP q) (hi : i < 5 ∨ i = 5 ∨ i = 6 ∨ i = 8 ∨ i = 9) : ¬ Cq (q + i) := by
  unfold Cq Sc; rcases hq with rfl | rfl <;> omega
theorem Cq.w25 {i : Nat} (hi : i < 6) : ¬ Cq (25 + i) := by unfold Cq Sc; omega
theorem CN.cq (h : CN P T W R A σ q) (f : CQ σ τ) : CN P T W R A τ q := by
  refine ⟨h.1.fv f.1 Vw47 (fun v => absurd v.1 (by decide)) (fun i hi => Cq.w25 (by omega)) (fun i hi => Cq.qq h.1.isp hi), ?_, h.2.2.1, f.2⟩
  have e : gI τ 25 11 = gI σ 25 11 := f.1.i (Cq.w25 (i := 0) (by omega)) 11
  unfold STL
  rw [e]; exact h.2.1
theorem CN.rf (h : CN P T W R A σ q) : CQ σ σ := ⟨Fq.refl, h.2.2.2⟩
theorem CQ.sc (h : CQ σ0 σ) (f : Fr Sc σ τ) : CQ σ0 τ := ⟨h.1.trans (Fq.of f (fun _ s => Or.inl s)), by rw [f.i (by unfold Sc; omega)]; exact h.2⟩
/-- the spare world behind some days -/
def Sp (P T : Nat) (W R : Rl) (σ0 : pS) (q : Nat) (x : Wd × (Nat → Int32)) (τ : pS) : Prop := Fq Cq (Vw 47) σ0 τ ∧ CW P T W R x.1 τ 47 q ∧ STL P T W R x.1 τ 47 ∧ x.1 0 1 = ι 0 ∧ ∀ j, j < T → gI τ 52 j = x.2 j
theorem Sp.cq (h : Sp P T W R σ0 q x τ) : CQ σ0 τ := ⟨h.1, by rw [h.2.1.sil]; exact h.2.2.2.1⟩
theorem Sp.sc (h : Sp P T W R σ0 q x σ) (f : Fr Sc σ τ) : Sp P T W R σ0 q x τ := by
  refine ⟨h.1.trans (Fq.of f (fun _ s => Or.inl s)), h.2.1.sc f, ?_, h.2.2.2.1, fun j hj => by rw [f.i (by unfold Sc; omega)]; exact h.2.2.2.2 j hj⟩
  have e : gI τ 47 11 = gI σ 47 11 := f.i (by unfold Sc; omega) 11
  unfold STL
  rw [e]; exact h.2.2.1
theorem a84 (h : CN P T W R A σ0 q) (f : CQ σ0 σ) : Wp (pcall 84 [.ref 47, .ref 25] σ) (RV (Sp P T W R σ0 q (A, fun _ => ι 0))) := by
  have g := h.cq f
  have hT := g.1.1.T
  refine (c84 (w := 47) g.1 (by decide) (by decide) (by rw [g.2.2.2, h.2.2.1]) g.2.1).mono ?_
  rintro z ⟨v, τ, rfl, h1, h2, h3, h4⟩
  refine ⟨v, τ, rfl, f.1.trans (h4.mono (fun a s => Or.inr ⟨s.1, by have := s.2; omega⟩) (fun _ _ v => v)), h1, h2, h.2.2.1, fun j hj => h3 j (by omega)⟩
theorem day_sil : (dayS P T W R B).1 0 1 = ι 0 := rfl
theorem a71 (s : Sp P T W R σ0 q x τ) (hm : m < 256) : Wp (pcall 71 [.ref 47, .int (ι m)] τ) (RI (ι (tkc T (dayS P T W R (up x.1 0 1 (ι m))).2)) (Sp P T W R σ0 q (dayF P T W R (up x.1 0 1 (ι m), x.2)))) := by
  refine (c71 s.2.1 s.2.2.1 s.2.2.2.1 hm).mono ?_
  rintro z ⟨υ, rfl, h1, h2, h3, h4⟩
  refine ⟨υ, rfl, s.1.trans (Fq.of h3 (fun a s => ?_)), h1, h2, rfl, fun j hj => ?_⟩
  · rcases s with s | s
    · exact Or.inl s
    · exact Or.inr ⟨s.1, by have := s.2; omega⟩
  · rw [h4 j hj, s.2.2.2.2 j hj]; rfl
theorem a71' (s : Sp P T W R σ0 q x τ) : Wp (pcall 71 [.ref 47, .int (ι 0)] τ) (RI (ι (tkc T (dayS P T W R x.1).2)) (Sp P T W R σ0 q (dayF P T W R x))) := by
  have := a71 s (m := 0) (by omega)
  rw [up_eq s.2.2.2.1] at this
  exact this
theorem a136 (s : Sp P T W R σ0 q x τ) (hn : n < 2147483648) : Wp (pcall 136 [.ref 54, .int (ι n)] τ) (RV (Sp P T W R σ0 q (gof P T W R n x))) := by
  refine Wp.le (M_136 rfl s.2.1.lay) ?_
  refine Wp.loop (α := pS) n (fun t τ => C_136_2 (ι n) (ι t) τ) (fun t τ => Sp P T W R σ0 q (gof P T W R t x) τ) ?_ ?_ (t := 0) (a := τ) (Nat.zero_le _) s
  · intro t τ ht s k
    refine Wp.le (T_136_2 rfl s.2.1.lay) ?_
    simp (disch := omega) only [ι_lt_t, ι_lt_f, ι_le_t, ι_le_f, ι_eq_f, ι_m1, ι_add, ι_mul, ι_pm, ι_sub, ix_ι, gd_inb, gd_t, eq_self, if_true, if_false, not_true_eq_false, not_false_eq_true, ite_self, ]
    exact Wp.cI (a71' s) fun υ s' => k υ s'
  · intro τ s
    refine Wp.le (T_136_2 rfl s.2.1.lay) ?_
    simp (disch := omega) only [ι_lt_t, ι_lt_f, ι_le_t, ι_le_f, ι_eq_f, ι_m1, ι_add, ι_mul, ι_pm, ι_sub, ix_ι, gd_inb, gd_t, eq_self, if_true, if_false, not_true_eq_false, not_false_eq_true, ite_self, ]
    exact Wp.retV s
theorem Sp.lay (s : Sp P T W R σ0 q x τ) : LayR (gR τ) := s.2.1.lay
theorem a135 (h : CN P T W R A σ0 q) (f : CQ σ0 σ) (hn : n < 2147483648) : Wp (pcall 135 [.ref 54, .int (ι n)] σ) (RA 47 (Sp P T W R σ0 q (gof P T W R n (A, fun _ => ι 0)))) := by
  refine Wp.le (M_135 rfl (h.cq f).1.lay) ?_
  refine Wp.cV (a84 h f) fun τ s => ?_
  refine Wp.g s.lay ?_
  exact Wp.cV (a136 s hn) fun υ s' => Wp.retA s'
/-- the first from t on, of k -/
def fst1 (g : Nat → Bool) : Nat → Nat → Nat
  | 0, t => t
  | k + 1, t => if g t = true then t else fst1 g k (t + 1)
theorem fst1_le (g : Nat → Bool) : ∀ k t, fst1 g k t ≤ t + k := by
  intro k
  induction k with
  | zero => intro t; exact Nat.le_refl _
  | succ k ih =>
    intro t
    unfold fst1
    split
    · omega
    · have := ih (t + 1); omega
theorem a138 (s : Sp P T W R σ0 q x τ) (ht : t < T) : Wp (pcall 138 [.ref 54, .int (ι t)] τ) (RI (ι (fst1 (fun n => decide (ι 0 < (gof P T W R n x).2 t)) 60 1)) (CQ σ0)) := by
  have hT := s.2.1.1.T
  refine Wp.le (M_138 rfl s.lay) ?_
  have key : ∀ k n τ, n + k = 61 → 1 ≤ n → Sp P T W R σ0 q (gof P T W R (n - 1) x) τ → Wp (C_138_2 (ι t) (ι n) τ) (RI (ι (fst1 (fun n => decide (ι 0 < (gof P T W R n x).2 t)) k n)) (CQ σ0)) := by
    intro k
    induction k with
    | zero =>
      intro n τ hn h1 s
      refine Wp.le (T_138_2 rfl s.lay) ?_
      have : n = 61 := by omega
      subst this
      simp (disch := omega) only [ι_lt_t, ι_lt_f, ι_le_t, ι_le_f, ι_eq_f, ι_m1, ι_add, ι_mul, ι_pm, ι_sub, ix_ι, gd_inb, gd_t, eq_self, if_true, if_false, not_true_eq_false, not_false_eq_true, ite_self, ]
      exact Wp.retI s.cq
    | succ k ih =>
      intro n τ hn h1 s
      refine Wp.le (T_138_2 rfl s.lay) ?_
      simp (disch := omega) only [ι_lt_t, ι_lt_f, ι_le_t, ι_le_f, ι_eq_f, ι_m1, ι_add, ι_mul, ι_pm, ι_sub, ix_ι, gd_inb, gd_t, eq_self, if_true, if_false, not_true_eq_false, not_false_eq_true, ite_self, ]
      refine Wp.cI (a71' s) fun υ s' => ?_
      rw [p97 (by decide) s'.lay (show t < 12 by omega), bI_ret]
      have e : dayF P T W R (gof P T W R (n - 1) x) = gof P T W R n x := by rw [← gof_s]; congr 1; omega
      rw [e] at s'
      rw [show gI υ (47 + 5) t = (gof P T W R n x).2 t from s'.2.2.2.2 t ht]
      unfold fst1
      by_cases e2 : ι 0 < (gof P T W R n x).2 t
      · rw [if_neg (by rw [le_iff]; exact fun g => g e2), if_pos (by simpa using e2)]
        exact Wp.retI s'.cq
      · rw [if_pos (by rw [le_iff]; exact e2), if_neg (by simpa using e2)]
        exact ih (n + 1) υ (by omega) (by omega) s'
  exact key 60 1 τ (by omega) (by omega) s
theorem a137 (h : CN P T W R A σ0 q) (f : CQ σ0 σ) (ht : t < T) : Wp (pcall 137 [.ref 54, .int (ι t)] σ) (RI (if fst1 (fun n => decide (ι 0 < (gof P T W R n (A, fun _ => ι 0)).2 t)) 60 1 = 61 then ν 1 else ι (fst1 (fun n => decide (ι 0 < (gof P T W R n (A, fun _ => ι 0)).2 t)) 60 1)) (CQ σ0)) := by
  refine Wp.le (M_137 rfl (h.cq f).1.lay) ?_
  refine Wp.cV (a84 h f) fun τ s => ?_
  refine Wp.g s.lay ?_
  refine Wp.cI (a138 s ht) fun υ g => ?_
  have hl := fst1_le (fun n => decide (ι 0 < (gof P T W R n (A, fun _ => ι 0)).2 t)) 60 1
  by_cases e : fst1 (fun n => decide (ι 0 < (gof P T W R n (A, fun _ => ι 0)).2 t)) 60 1 = 61
  · rw [e, if_neg (fun g => g rfl), if_pos rfl]; exact Wp.retI g
  · rw [if_pos (by rw [ι_eq (by omega) (by omega)]; exact e), if_neg e]; exact Wp.retI g
theorem a139 (h : CN P T W R A σ0 q) (f : CQ σ0 σ) (ht : t < T) (hn : n < 2147483647) : Wp (pcall 139 [.ref 54, .int (ι p), .int (ι t), .int (ι n)] σ) (RI (fd (fun d s => s + if (gof P T W R (d + 1) (A, fun _ => ι 0)).1 1 t = ι p then ι 1 else ι 0) n (ι 0)) (CQ σ0)) := by
  refine Wp.le (M_139 rfl (h.cq f).1.lay) ?_
  refine Wp.cV (a84 h f) fun τ s => ?_
  refine Wp.g s.lay ?_
  refine Wp.loop (α := Int32 × pS) n (fun d x => C_139_17 (ι p) (ι t) (ι n) x.1 (ι d) x.2) (fun d y => y.1 = fd (fun d s => s + if (gof P T W R (d + 1) (A, fun _ => ι 0)).1 1 t = ι p then ι 1 else ι 0) d (ι 0) ∧ Sp P T W R σ0 q (gof P T W R d (A, fun _ => ι 0)) y.2) ?_ ?_ (t := 0) (a := (ι 0, τ)) (Nat.zero_le _) ⟨rfl, s⟩
  · rintro d ⟨b, τ⟩ hd ⟨hb, s⟩ k
    dsimp only at hb s k ⊢
    refine Wp.le (T_139_17 rfl s.lay) ?_
    simp (disch := omega) only [ι_lt_t, ι_lt_f, ι_le_t, ι_le_f, ι_eq_f, ι_m1, ι_add, ι_mul, ι_pm, ι_sub, ix_ι, gd_inb, gd_t, eq_self, if_true, if_false, not_true_eq_false, not_false_eq_true, ite_self, ]
    refine Wp.cI (a71' s) fun υ s' => ?_
    rw [c75 s'.2.1 ht, bI_ret, ← gof_s]
    have k := k (b + if (gof P T W R (d + 1) (A, fun _ => ι 0)).1 1 t = ι p then ι 1 else ι 0, υ) ⟨by rw [hb]; rfl, s'⟩
    by_cases e : (gof P T W R (d + 1) (A, fun _ => ι 0)).1 1 t = ι p
    · rw [if_pos e] at k
      rw [if_neg (fun g => g e)]; exact k
    · rw [if_neg e] at k
      rw [if_pos e]; exact k
  · rintro ⟨b, τ⟩ ⟨hb, s⟩
    dsimp only at hb s ⊢
    refine Wp.le (T_139_17 rfl s.lay) ?_
    simp (disch := omega) only [ι_lt_t, ι_lt_f, ι_le_t, ι_le_f, ι_eq_f, ι_m1, ι_add, ι_mul, ι_pm, ι_sub, ix_ι, gd_inb, gd_t, eq_self, if_true, if_false, not_true_eq_false, not_false_eq_true, ite_self, ]
    rw [hb]
    exact Wp.retI s.cq
/-- the last day of n on which anything is taken -/
def calmS (P T : Nat) (W R : Rl) (A : Wd) (n : Nat) : Nat := fd (fun d s => if tkc T (dayS P T W R (gof P T W R d (A, fun _ => ι 0)).1).2 = 0 then s else d + 1) n 0
theorem calm_s (n : Nat) : calmS P T W R A (n + 1) = if tkc T (dayS P T W R (gof P T W R n (A, fun _ => ι 0)).1).2 = 0 then calmS P T W R A n else n + 1 := rfl
theorem calm_le (n : Nat) : calmS P T W R A n ≤ n := by
  induction n with
  | zero => exact Nat.le_refl 0
  | succ n ih =>
    rw [calm_s]
    split <;> omega
theorem a140 (h : CN P T W R A σ0 q) (f : CQ σ0 σ) : Wp (pcall 140 [.ref 54] σ) (RI (if calmS P T W R A 60 = 60 then ν 1 else ι (calmS P T W R A 60)) (CQ σ0)) := by
  have hT := h.1.1.T
  refine Wp.le (M_140 rfl (h.cq f).1.lay) ?_
  refine Wp.cV (a84 h f) fun τ s => ?_
  refine Wp.g s.lay ?_
  refine Wp.loop (α := pS) 60 (fun d x => C_140_15 (ι (calmS P T W R A d)) (ι (d + 1)) x) (fun d y => Sp P T W R σ0 q (gof P T W R d (A, fun _ => ι 0)) y) ?_ ?_ (t := 0) (a := τ) (Nat.zero_le _) s
  · intro d τ hd s k
    refine Wp.le (T_140_15 rfl s.lay) ?_
    simp (disch := omega) only [ι_lt_t, ι_lt_f, ι_le_t, ι_le_f, ι_eq_f, ι_m1, ι_add, ι_mul, ι_pm, ι_sub, ix_ι, gd_inb, gd_t, eq_self, if_true, if_false, not_true_eq_false, not_false_eq_true, ite_self, ]
    refine Wp.cI (a71' s) fun υ s' => ?_
    have k := k υ s'
    have hl := tkc_le T (dayS P T W R (gof P T W R d (A, fun _ => ι 0)).1).2
    have e : calmS P T W R A (d + 1) = if tkc T (dayS P T W R (gof P T W R d (A, fun _ => ι 0)).1).2 = 0 then calmS P T W R A d else d + 1 := rfl
    rw [e] at k
    by_cases e2 : tkc T (dayS P T W R (gof P T W R d (A, fun _ => ι 0)).1).2 = 0
    · rw [if_pos e2] at k
      rw [e2, if_pos (Int32.le_refl _)]; exact k
    · rw [if_neg e2] at k
      rw [if_neg (by rw [ι_le_f (by omega) (by omega)]; exact id)]; exact k
  · intro τ s
    have hl := calm_le (P := P) (T := T) (W := W) (R := R) (A := A) 60
    refine Wp.le (T_140_15 rfl s.lay) ?_
    simp (disch := omega) only [ι_lt_t, ι_lt_f, ι_le_t, ι_le_f, ι_eq_f, ι_m1, ι_add, ι_mul, ι_pm, ι_sub, ix_ι, gd_inb, gd_t, eq_self, if_true, if_false, not_true_eq_false, not_false_eq_true, ite_self, ]
    by_cases e : calmS P T W R A 60 = 60
    · rw [e, if_neg (fun g => g rfl), if_pos rfl]; exact Wp.retI s.cq
    · rw [if_pos (by rw [ι_eq (by omega) (by omega)]; exact e), if_neg e]; exact Wp.retI s.cq
/-- all owners alike -/
def sameO (T : Nat) (A B : Wd) : Bool := fd (fun t s => s && decide (B 1 t = A 1 t)) T true
theorem sameO_iff : sameO T A B = true ↔ ∀ t, t < T → B 1 t = A 1 t := by
  unfold sameO
  induction T with
  | zero => exact ⟨fun _ t ht => absurd ht (Nat.not_lt_zero t), fun _ => rfl⟩
  | succ T ih =>
    show (fd _ T true && decide (B 1 T = A 1 T)) = true ↔ _
    rw [Bool.and_eq_true, ih, decide_eq_true_eq]
    constructor
    · rintro ⟨h1, h2⟩ t ht
      by_cases e : t = T
      · rw [e]; exact h2
      · exact h1 t (by omega)
    · intro h1
      exact ⟨fun t ht => h1 t (by omega), h1 T (by omega)⟩
theorem c102 (h : CW P T W R B τ 47 q) (g : CW P T W R A τ 25 q) : pcall 102 [.ref 47, .ref 25] τ = some (1, .int (bz (sameO T A B)), τ) := by
  have hT := h.1.T
  refine Wp.eqI (Wp.le (M_102 (by decide) (by decide) rfl h.lay) ?_)
  refine Wp.loop (α := Unit) T (fun t _ => C_102_2 47 25 (ι t) τ) (fun t _ => ∀ s, s < t → B 1 s = A 1 s) ?_ ?_ (t := 0) (a := ()) (Nat.zero_le _) (fun s hs => absurd hs (Nat.not_lt_zero s))
  · intro t _ ht hi k
    refine Wp.le (T_102_2 (by decide) (by decide) rfl h.lay) ?_
    rw [h.T, c75 h ht, bI_ret, c75 g ht, bI_ret]
    by_cases e : B 1 t = A 1 t
    · simp (disch := omega) only [ι_lt_t, ι_lt_f, ι_le_t, ι_le_f, ι_eq_f, ι_m1, ι_add, ι_mul, ι_pm, ι_sub, ix_ι, gd_inb, gd_t, eq_self, if_true, if_false, not_true_eq_false, not_false_eq_true, ite_self, e]
      exact k () (fun s hs => by by_cases e2 : s = t; (rw [e2]; exact e); exact hi s (by omega))
    · simp (disch := omega) only [ι_lt_t, ι_lt_f, ι_le_t, ι_le_f, ι_eq_f, ι_m1, ι_add, ι_mul, ι_pm, ι_sub, ix_ι, gd_inb, gd_t, eq_self, if_true, if_false, not_true_eq_false, not_false_eq_true, ite_self, e]
      refine Wp.retI' ?_ rfl
      have : sameO T A B = false := by
        cases e2 : sameO T A B with
        | false => rfl
        | true => exact absurd (sameO_iff.mp e2 t ht) e
      rw [this]; rfl
  · intro _ hi
    refine Wp.le (T_102_2 (by decide) (by decide) rfl h.lay) ?_
    rw [h.T]
    simp (disch := omega) only [ι_lt_t, ι_lt_f, ι_le_t, ι_le_f, ι_eq_f, ι_m1, ι_add, ι_mul, ι_pm, ι_sub, ix_ι, gd_inb, gd_t, eq_self, if_true, if_false, not_true_eq_false, not_false_eq_true, ite_self, ]
    refine Wp.retI' ?_ rfl
    rw [sameO_iff.mpr hi]; rfl
/-- behind how many days all comes round: of k days from d on; whether it was another's -/
def rouS (P T : Nat) (W R : Rl) (A : Wd) : Nat → Nat → Bool → Int32
  | 0, _, _ => ν 1
  | k + 1, d, l => if sameO T A (gof P T W R d (A, fun _ => ι 0)).1 = true ∧ l = true then ι d else rouS P T W R A k (d + 1) (l || !(sameO T A (gof P T W R d (A, fun _ => ι 0)).1))
theorem a141 (h : CN P T W R A σ0 q) (f : CQ σ0 σ) : Wp (pcall 141 [.ref 54] σ) (RI (rouS P T W R A 60 1 false) (CQ σ0)) := by
  refine Wp.le (M_141 rfl (h.cq f).1.lay) ?_
  refine Wp.cV (a84 h f) fun τ s => ?_
  refine Wp.g s.lay ?_
  have key : ∀ k n τ l v, n + k = 61 → 1 ≤ n → Sp P T W R σ0 q (gof P T W R (n - 1) (A, fun _ => ι 0)) τ → Wp (C_141_15 (bz l) (ι n) v τ) (RI (rouS P T W R A k n l) (CQ σ0)) := by
    intro k
    induction k with
    | zero =>
      intro n τ l v hn h1 s
      refine Wp.le (T_141_15 rfl s.lay) ?_
      have : n = 61 := by omega
      subst this
      simp (disch := omega) only [ι_lt_t, ι_lt_f, ι_le_t, ι_le_f, ι_eq_f, ι_m1, ι_add, ι_mul, ι_pm, ι_sub, ix_ι, gd_inb, gd_t, eq_self, if_true, if_false, not_true_eq_false, not_false_eq_true, ite_self, ]
      exact Wp.retI s.cq
    | succ k ih =>
      intro n τ l v hn h1 s
      refine Wp.le (T_141_15 rfl s.lay) ?_
      simp (disch := omega) only [ι_lt_t, ι_lt_f, ι_le_t, ι_le_f, ι_eq_f, ι_m1, ι_add, ι_mul, ι_pm, ι_sub, ix_ι, gd_inb, gd_t, eq_self, if_true, if_false, not_true_eq_false, not_false_eq_true, ite_self, ]
      refine Wp.cI (a71' s) fun υ s' => ?_
      have e : dayF P T W R (gof P T W R (n - 1) (A, fun _ => ι 0)) = gof P T W R n (A, fun _ => ι 0) := by rw [← gof_s]; congr 1; omega
      rw [e] at s'
      rw [c102 s'.2.1 (h.cq s'.cq).1, bI_ret]
      unfold rouS
      cases hs : sameO T A (gof P T W R n (A, fun _ => ι 0)).1 with
      | false =>
        cases l with
        | false =>
          simp (disch := omega) only [ι_lt_t, ι_lt_f, ι_le_t, ι_le_f, ι_eq_f, ι_m1, ι_add, ι_mul, ι_pm, ι_sub, ix_ι, gd_inb, gd_t, eq_self, if_true, if_false, not_true_eq_false, not_false_eq_true, ite_self, bz_0, bz_f, Bool.false_eq_true, false_and, Bool.not_false, Bool.or_true, bz_t, show (ι 1 = ι 0) = False by decide]
          exact ih (n + 1) υ true _ (by omega) (by omega) s'
        | true =>
          simp (disch := omega) only [ι_lt_t, ι_lt_f, ι_le_t, ι_le_f, ι_eq_f, ι_m1, ι_add, ι_mul, ι_pm, ι_sub, ix_ι, gd_inb, gd_t, eq_self, if_true, if_false, not_true_eq_false, not_false_eq_true, ite_self, bz_0, bz_f, Bool.false_eq_true, false_and, Bool.not_false, Bool.or_true, bz_t, show (ι 1 = ι 0) = False by decide]
          exact ih (n + 1) υ true _ (by omega) (by omega) s'
      | true =>
        cases l with
        | false =>
          simp (disch := omega) only [ι_lt_t, ι_lt_f, ι_le_t, ι_le_f, ι_eq_f, ι_m1, ι_add, ι_mul, ι_pm, ι_sub, ix_ι, gd_inb, gd_t, eq_self, if_true, if_false, not_true_eq_false, not_false_eq_true, ite_self, bz_0, bz_f, Bool.false_eq_true, and_false, Bool.not_true, Bool.or_false, bz_t, show (ι 1 = ι 0) = False by decide]
          exact ih (n + 1) υ false _ (by omega) (by omega) s'
        | true =>
          simp (disch := omega) only [ι_lt_t, ι_lt_f, ι_le_t, ι_le_f, ι_eq_f, ι_m1, ι_add, ι_mul, ι_pm, ι_sub, ix_ι, gd_inb, gd_t, eq_self, if_true, if_false, not_true_eq_false, not_false_eq_true, ite_self, bz_0, bz_f, Bool.false_eq_true, and_self, bz_t, show (ι 1 = ι 0) = False by decide]
          exact Wp.retI s'.cq
  exact key 60 1 τ false _ (by omega) (by omega) s
/-- by how much more: from v on, of k -/
def spoS (P T : Nat) (W : Rl) (A : Wd) (t : Nat) (r : Nat) : Nat → Nat → Int32
  | 0, _ => ν 1
  | k + 1, v => if wbS P T W (up A 2 t (ι (r + v))) t = ι 0 then ι v else spoS P T W A t r k (v + 1)
theorem Sp.any (s : Sp P T W R σ0 q x τ) (hr : o ≤ 9) (hT : t < T) : Sp P T W R σ0 q (up x.1 2 t (ι o), x.2) (sI (sI τ (47 + 2) t (ι o)) 47 11 (ι 0)) := by
  refine ⟨(s.1.mI (Or.inr (by omega))).mI (Or.inr (by omega)), (s.2.1.run' hr).any (by omega) (by omega) (by omega) (by omega), Or.inl gI_s, s.2.2.2.1, fun j hj => ?_⟩
  rw [gI_c (by decide), gI_c (by decide)]; exact s.2.2.2.2 j hj
theorem Sp.anyo (s : Sp P T W R σ0 q x τ) (hr : o < P) (hT : t < T) : Sp P T W R σ0 q (up x.1 1 t (ι o), x.2) (sI (sI τ (47 + 1) t (ι o)) 47 11 (ι 0)) := by
  refine ⟨(s.1.mI (Or.inr (by omega))).mI (Or.inr (by omega)), (s.2.1.own' hr).any (by omega) (by omega) (by omega) (by omega), Or.inl gI_s, s.2.2.2.1, fun j hj => ?_⟩
  rw [gI_c (by decide), gI_c (by decide)]; exact s.2.2.2.2 j hj
theorem up_up {r i : Nat} {a b : Int32} : up (up A r i a) r i b = up A r i b := by
  funext c j
  unfold up
  split
  · split <;> rfl
  · rfl
theorem a134 (h : CN P T W R A σ0 q) (f : CQ σ0 σ) (ht : t < T) {r : Nat} (hr : A 2 t = ι r) (h9 : r ≤ 9) : Wp (pcall 134 [.ref 54, .int (ι t)] σ) (RI (spoS P T W A t r (10 - r) 0) (CQ σ0)) := by
  have hT := h.1.1.T
  refine Wp.le (M_134 rfl (h.cq f).1.lay) ?_
  refine Wp.cV (a84 h f) fun τ s => ?_
  refine Wp.g s.lay ?_
  rw [c76 (h.cq s.cq).1 ht, bI_ret, hr]
  have key : ∀ k v τ B, v + k = 10 - r → (∀ y, up B 2 t y = up A 2 t y) → Sp P T W R σ0 q (B, fun _ => ι 0) τ → Wp (C_134_22 (ι t) (ι r) (ι v) τ) (RI (spoS P T W A t r k v) (CQ σ0)) := by
    intro k
    induction k with
    | zero =>
      intro v τ B hv hB s
      refine Wp.le (T_134_22 rfl s.lay) ?_
      simp (disch := omega) only [ι_lt_t, ι_lt_f, ι_le_t, ι_le_f, ι_eq_f, ι_m1, ι_add, ι_mul, ι_pm, ι_sub, ix_ι, gd_inb, gd_t, eq_self, if_true, if_false, not_true_eq_false, not_false_eq_true, ite_self, ]
      exact Wp.retI s.cq
    | succ k ih =>
      intro v τ B hv hB s
      refine Wp.le (T_134_22 rfl s.lay) ?_
      simp (disch := omega) only [ι_lt_t, ι_lt_f, ι_le_t, ι_le_f, ι_eq_f, ι_m1, ι_add, ι_mul, ι_pm, ι_sub, ix_ι, gd_inb, gd_t, eq_self, if_true, if_false, not_true_eq_false, not_false_eq_true, ite_self, ]
      rw [p81 (by decide) s.lay (by omega), bV_ret]
      have s2 := s.any (o := r + v) (t := t) (by omega) ht
      refine Wp.cI (c89 s2.2.1 ht) fun υ f2 => ?_
      have s3 := s2.sc f2
      unfold spoS
      dsimp only at s3 ⊢
      rw [hB] at s3 ⊢
      by_cases e : wbS P T W (up A 2 t (ι (r + v))) t = ι 0
      · rw [if_neg (fun g => g e), if_pos e]; exact Wp.retI s3.cq
      · rw [if_pos e, if_neg e]
        exact ih (v + 1) υ _ (by omega) (fun y => up_up) s3
  exact key (10 - r) 0 τ A (by omega) (fun y => rfl) s
end AHEAD1
