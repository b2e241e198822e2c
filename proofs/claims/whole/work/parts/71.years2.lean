/-! ===== drawn days: what is asked of the class ===== -/
section YEARS2
variable {P T : Nat} {W R : Rl} {A B : Wd} {σ τ υ σ0 σ1 : pS} {q t p o n m k : Nat} {x : Wd × (Nat → Int32)} {x0 x1 x2 y s : Int32}
def nthM (P T : Nat) (A : Wd) : Nat := mk (fun p => decide (thgS T A (ι p) = ι 0)) P
theorem noth_n (hP : P ≤ 8) : nothS P T A = ι (nthM P T A) ∧ nthM P T A < 4096 := by
  have h := mk_or (b := fun p => decide (thgS T A (ι p) = ι 0)) (n := P) (by omega)
  simp only [decide_eq_true_eq] at h
  refine ⟨h, ?_⟩
  have h1 := mk_lt (fun p => decide (thgS T A (ι p) = ι 0)) P
  have h2 : 2 ^ P ≤ 2 ^ 12 := Nat.pow_le_pow_right (by omega) (by omega)
  exact Nat.lt_of_lt_of_le h1 h2
def q_years (P T : Nat) (W R : Rl) (A : Wd) (x0 x1 x2 : Int32) : Nat × Int32 := if btw (ι 0) (ι 2) x2 = true then (if btw (ι 0) (ι 60) x1 = true then (0, if x2 = ι 0 then fd (fun t s => s + (yrG P T W R A x0 (ix x1)).2.2 t) T (ι 0) else if x2 = ι 1 then ι (pc (nthM P T (yrG P T W R A x0 (ix x1)).2.1)) else allrS T (yrG P T W R A x0 (ix x1)).2.1) else (2, ι 0)) else (1, ι 0)
theorem fd_eq {α : Type} {f g : Nat → α → α} {n : Nat} {a : α} (h : ∀ t, t < n → ∀ s, f t s = g t s) : fd f n a = fd g n a := by
  induction n with
  | zero => rfl
  | succ n ih =>
    show f n (fd f n a) = g n (fd g n a)
    rw [ih (fun t ht => h t (by omega)), h n (by omega)]
theorem q206 (h : CN P T W R A σ q) : Wp (pcall 206 [.ref 0, .int x0, .int x1, .int x2] σ) (qC σ (q_years P T W R A x0 x1 x2)) := by
  have hP := h.1.1.P
  refine Wp.le (M_206 rfl h.1.lay) ?_
  unfold q_years
  rw [k180 h.1.lay]
  by_cases e0 : btw (ι 0) (ι 2) x2 = true
  · rw [if_pos e0, bV_ret, if_pos e0, k188 h.1.lay]
    by_cases e1 : btw (ι 0) (ι 60) x1 = true
    · obtain ⟨n, -, hn, rfl⟩ := btw_ι (by omega) (by omega) e1
      rw [if_pos e1, bV_ret, if_pos e1, ix_ι (by omega)]
      obtain ⟨z, hz, τ, rfl, s⟩ := c150 h h.rf (sd := x0) (n := n) (by omega)
      rw [hz, bA_ret]
      refine Wp.g (by decide) (Wp.g s.lay ?_)
      by_cases y0 : x2 = ι 0
      · rw [if_neg (fun g => g y0), if_pos y0, c98 s.2.1, bI_ret]
        exact qC.r (fd_eq fun t ht v => by rw [s.2.2.2.2 t ht]) s.cq
      rw [if_pos y0, if_neg y0]
      by_cases y1 : x2 = ι 1
      · rw [if_neg (fun g => g y1), if_pos y1, c101 s.2.1, bI_ret, (noth_n hP).1, p0 s.lay (noth_n hP).2, bI_ret]
        exact qC.r rfl s.cq
      · rw [if_pos y1, if_neg y1, c92 s.2.1, bI_ret]
        exact qC.r rfl s.cq
    · rw [if_neg e1, bV_2, if_neg e1]; exact qC.i
  · rw [if_neg e0, bV_3, if_neg e0]; exact qC.n
end YEARS2
