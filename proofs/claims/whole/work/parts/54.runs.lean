/-! ===== the reference: a row is taken back; days go by and are put back ===== -/
section RUNS
variable {P T : Nat} {W R : Rl} {A B : Wd} {σ τ υ σ0 : pS} {q t o p m n a0 n0 off : Nat} {x : Wd × (Nat → Int32)}
def Uc (a : Nat) : Prop := a = 61 ∨ 75 ≤ a ∧ a ≤ 78
def UnI (σ : pS) (a0 off n1 n2 n3 : Nat) (τ : pS) : Prop := Fr Uc σ τ ∧ (∀ i, i ≠ 31 → gI τ 61 i = gI σ 61 i) ∧ gI τ 61 31 = gI σ a0 off ∧ (∀ t, t < n1 → gI τ 75 t = gI σ a0 (off + (1 + t))) ∧ (∀ t, t < n1 → gI τ 76 t = gI σ a0 (off + (13 + t))) ∧ (∀ k, k < n2 → gI τ 77 k = gI σ a0 (off + (25 + k))) ∧ ∀ p, p < n3 → gI τ 78 p = gI σ a0 (off + (121 + p))
theorem put_at {c k : Nat} {f : Nat → Int32} (h : ∀ t, t < n → gI τ c t = f t) {y : Int32} (hy : y = f n) : ∀ t, t < n + 1 → gI (sI τ c n y) c t = f t := by
  intro t ht
  by_cases e : t = n
  · subst e; rw [gI_s]; exact hy
  · rw [gI_n e]; exact h t (by omega)
set_option maxHeartbeats 1000000 in
theorem m284 (hL : LayR (gR σ)) (ha : kd a0 = (100, n0)) (hn : n0 < 100000) (ho : off + 129 ≤ n0) (hne : nPk a0) : Wp (pcall 284 [.ref 61, .ref a0, .int (ι off)] σ) (RV (UnI σ a0 off 12 96 8)) := by
  have hu : ¬ Uc a0 := by obtain ⟨h1, h2, h3, h4, h5⟩ := hne; unfold Uc; omega
  refine Wp.le (M_284 ha rfl hL) ?_
  simp (disch := omega) only [ι_lt_t, ι_lt_f, ι_le_t, ι_le_f, ι_eq_f, ι_m1, ι_add, ι_mul, ι_pm, ι_sub, ix_ι, gd_inb, gd_t, eq_self, if_true, if_false, not_true_eq_false, not_false_eq_true, ite_self, ]
  have l3 : ∀ τ, UnI σ a0 off 12 96 0 τ → Wp (C_284_82 a0 n0 (ι off) (ι 0) τ) (RV (UnI σ a0 off 12 96 8)) := by
    intro τ0 h0
    refine Wp.loop (α := pS) 8 (fun t y => C_284_82 a0 n0 (ι off) (ι t) y) (fun t y => UnI σ a0 off 12 96 t y) ?_ ?_ (t := 0) (a := τ0) (Nat.zero_le _) h0
    · rintro t τ ht ⟨f, e1, e2, e3, e4, e5, e6⟩ k
      refine Wp.le (T_284_82 ha rfl (by rw [f.r]; exact hL)) ?_
      simp (disch := omega) only [ι_lt_t, ι_lt_f, ι_le_t, ι_le_f, ι_eq_f, ι_m1, ι_add, ι_mul, ι_pm, ι_sub, ix_ι, gd_inb, gd_t, eq_self, if_true, if_false, not_true_eq_false, not_false_eq_true, ite_self, ]
      rw [show off + 1 + 24 + 96 + t = off + (121 + t) by omega, f.i hu]
      refine k _ ⟨f.mI (Or.inr (by omega)), fun i hi => by rw [gI_c (by omega)]; exact e1 i hi, by rw [gI_c (by omega)]; exact e2, fun s hs => by rw [gI_c (by omega)]; exact e3 s hs, fun s hs => by rw [gI_c (by omega)]; exact e4 s hs, fun s hs => by rw [gI_c (by omega)]; exact e5 s hs, ?_⟩
      exact put_at (k := 0) e6 rfl
    · rintro τ h
      refine Wp.le (T_284_82 ha rfl (by rw [h.1.r]; exact hL)) ?_
      simp (disch := omega) only [ι_lt_t, ι_lt_f, ι_le_t, ι_le_f, ι_eq_f, ι_m1, ι_add, ι_mul, ι_pm, ι_sub, ix_ι, gd_inb, gd_t, eq_self, if_true, if_false, not_true_eq_false, not_false_eq_true, ite_self, ]
      exact Wp.retV h
  have l2 : ∀ τ, UnI σ a0 off 12 0 0 τ → Wp (C_284_52 a0 n0 (ι off) (ι 0) τ) (RV (UnI σ a0 off 12 96 8)) := by
    intro τ0 h0
    refine Wp.loop (α := pS) 96 (fun t y => C_284_52 a0 n0 (ι off) (ι t) y) (fun t y => UnI σ a0 off 12 t 0 y) ?_ ?_ (t := 0) (a := τ0) (Nat.zero_le _) h0
    · rintro t τ ht ⟨f, e1, e2, e3, e4, e5, e6⟩ k
      refine Wp.le (T_284_52 ha rfl (by rw [f.r]; exact hL)) ?_
      simp (disch := omega) only [ι_lt_t, ι_lt_f, ι_le_t, ι_le_f, ι_eq_f, ι_m1, ι_add, ι_mul, ι_pm, ι_sub, ix_ι, gd_inb, gd_t, eq_self, if_true, if_false, not_true_eq_false, not_false_eq_true, ite_self, ]
      rw [show off + 1 + 24 + t = off + (25 + t) by omega, f.i hu]
      refine k _ ⟨f.mI (Or.inr (by omega)), fun i hi => by rw [gI_c (by omega)]; exact e1 i hi, by rw [gI_c (by omega)]; exact e2, fun s hs => by rw [gI_c (by omega)]; exact e3 s hs, fun s hs => by rw [gI_c (by omega)]; exact e4 s hs, ?_, fun s hs => absurd hs (Nat.not_lt_zero s)⟩
      exact put_at (k := 0) e5 rfl
    · rintro τ h
      refine Wp.le (T_284_52 ha rfl (by rw [h.1.r]; exact hL)) ?_
      simp (disch := omega) only [ι_lt_t, ι_lt_f, ι_le_t, ι_le_f, ι_eq_f, ι_m1, ι_add, ι_mul, ι_pm, ι_sub, ix_ι, gd_inb, gd_t, eq_self, if_true, if_false, not_true_eq_false, not_false_eq_true, ite_self, ]
      exact l3 τ h
  refine Wp.loop (α := pS) 12 (fun t y => C_284_9 a0 n0 (ι off) (ι t) y) (fun t y => UnI σ a0 off t 0 0 y) ?_ ?_ (t := 0) (a := sI σ 61 31 (gI σ a0 off)) (Nat.zero_le _) ?_
  · rintro t τ ht ⟨f, e1, e2, e3, e4, e5, e6⟩ k
    refine Wp.le (T_284_9 ha rfl (by rw [f.r]; exact hL)) ?_
    simp (disch := omega) only [ι_lt_t, ι_lt_f, ι_le_t, ι_le_f, ι_eq_f, ι_m1, ι_add, ι_mul, ι_pm, ι_sub, ix_ι, gd_inb, gd_t, eq_self, if_true, if_false, not_true_eq_false, not_false_eq_true, ite_self, ]
    have c1 : gI (sI τ 75 t (gI τ a0 (off + 1 + t))) a0 (off + 1 + 12 + t) = gI σ a0 (off + (13 + t)) := by
      rw [gI_c (by unfold Uc at hu; omega), f.i hu]; congr 1; omega
    have c2 : gI τ a0 (off + 1 + t) = gI σ a0 (off + (1 + t)) := by rw [f.i hu]; congr 1; omega
    rw [c1, c2]
    have f2 : Fr Uc σ (sI τ 75 t (gI σ a0 (off + (1 + t)))) := f.mI (Or.inr (by omega))
    refine k _ ⟨f2.mI (Or.inr (by omega)), fun i hi => by rw [gI_c (by omega), gI_c (by omega)]; exact e1 i hi, by rw [gI_c (by omega), gI_c (by omega)]; exact e2, ?_, ?_, fun s hs => absurd hs (Nat.not_lt_zero s), fun s hs => absurd hs (Nat.not_lt_zero s)⟩
    · intro s hs
      rw [gI_c (by omega)]
      exact put_at (k := 0) e3 rfl s hs
    · refine put_at (k := 0) (fun s hs => ?_) rfl
      rw [gI_c (by omega)]; exact e4 s hs
  · rintro τ h
    refine Wp.le (T_284_9 ha rfl (by rw [h.1.r]; exact hL)) ?_
    simp (disch := omega) only [ι_lt_t, ι_lt_f, ι_le_t, ι_le_f, ι_eq_f, ι_m1, ι_add, ι_mul, ι_pm, ι_sub, ix_ι, gd_inb, gd_t, eq_self, if_true, if_false, not_true_eq_false, not_false_eq_true, ite_self, ]
    exact l2 τ h
  · exact ⟨Fr.refl.mI (Or.inl rfl), fun i hi => gI_n hi, gI_s, fun s hs => absurd hs (Nat.not_lt_zero s), fun s hs => absurd hs (Nat.not_lt_zero s), fun s hs => absurd hs (Nat.not_lt_zero s), fun s hs => absurd hs (Nat.not_lt_zero s)⟩
/-- alike in what a day never changes -/
def like (A B : Wd) : Prop := (∀ p, B 6 p = A 6 p) ∧ (∀ t, B 7 t = A 7 t) ∧ B 0 1 = A 0 1
theorem UnI.cm (u : UnI σ a0 off 12 96 8 τ) (h : CM P T W R B σ) (r : RowA P T A σ a0 off) (ok : okW P T A) (l : like B A) : CM P T W R A τ := by
  obtain ⟨f, e1, e2, e3, e4, e5, e6⟩ := u
  have hP := ok.P; have hT := ok.T
  have n65 : ¬ Uc 65 := by unfold Uc; omega
  have n66 : ¬ Uc 66 := by unfold Uc; omega
  have n67 : ¬ Uc 67 := by unfold Uc; omega
  have n71 : ¬ Uc 71 := by unfold Uc; omega
  have n72 : ¬ Uc 72 := by unfold Uc; omega
  exact ⟨ok, by rw [f.r]; exact h.lay, by rw [f.i n65]; exact h.P, by rw [f.i n65]; exact h.T, by rw [f.i n65]; exact h.w3, by rw [f.i n65]; exact h.r4, h.ww, h.wr, fun i hi => by rw [f.i n71]; exact h.ws i hi, fun i hi => by rw [f.i n72]; exact h.rs i hi, e2.trans r.1, by rw [e1 36 (by omega), l.2.2]; exact h.sil, fun t ht => (e3 t (by omega)).trans (r.2.1 t ht), fun t ht => (e4 t (by omega)).trans (r.2.2.1 t ht), fun p hp t ht => (e5 _ (by omega)).trans (r.2.2.2.1 p hp t ht), fun p hp => (e6 p (by omega)).trans (r.2.2.2.2 p hp), fun p hp => by rw [f.i n66, l.1]; exact h.bold p hp, fun t ht => by rw [f.i n67, l.2.1]; exact h.firm t ht⟩
theorem day_like (h : okW P T A) (h0 : A 0 1 = ι 0) : like A (dayS P T W R A).1 := by
  have h1 := taks_len (W := W) h (Nat.le_refl T)
  have h2 := wrns_ok (W := W) (R := R) h1.1 (Nat.le_refl T)
  refine ⟨fun p => ?_, fun t => ?_, ?_⟩
  · show wrnS P T W R T (takS P T W T A).1 6 p = _
    rw [h2.2.1 6 p (by omega), h1.2.1 6 p (by omega) (by omega)]
  · show wrnS P T W R T (takS P T W T A).1 7 t = _
    rw [h2.2.1 7 t (by omega), h1.2.1 7 t (by omega) (by omega)]
  · exact h0.symm
theorem like.trans {C : Wd} (h : like A B) (g : like B C) : like A C := ⟨fun p => (g.1 p).trans (h.1 p), fun t => (g.2.1 t).trans (h.2.1 t), g.2.2.trans h.2.2⟩
theorem like.symm (h : like A B) : like B A := ⟨fun p => (h.1 p).symm, fun t => (h.2.1 t).symm, h.2.2.symm⟩
theorem like.rf : like A A := ⟨fun _ => rfl, fun _ => rfl, rfl⟩
/-- the reference behind some days, the row kept -/
def Mp (P T : Nat) (W R : Rl) (σ0 : pS) (x : Wd × (Nat → Int32)) (τ : pS) : Prop := CM P T W R x.1 τ ∧ QM σ0 τ ∧ ∀ j, j < T → gI τ 82 j = x.2 j
theorem m273' (h : Mp P T W R σ0 x σ) : Wp (pcall 273 [.ref 61] σ) (RV (fun τ => Mp P T W R σ0 (dayF P T W R x) τ ∧ gI τ 61 37 = ι (mk (fun j => decide ((dayS P T W R x.1).2 j = ι 1)) T))) := by
  refine (m273 h.1).mono ?_
  rintro z ⟨v, τ, rfl, h1, h2, h3, h4⟩
  exact ⟨v, τ, rfl, ⟨h1, h.2.1.trans h2, fun j hj => by rw [h3 j hj, h.2.2 j hj]; rfl⟩, h4⟩
theorem m272 (h : Mp P T W R σ0 x σ) (hn : n < 2147483648) : Wp (pcall 272 [.ref 61, .int (ι n)] σ) (RV (Mp P T W R σ0 (gof P T W R n x))) := by
  refine Wp.le (M_272 rfl h.1.lay) ?_
  refine Wp.loop (α := pS) n (fun t τ => C_272_2 (ι n) (ι t) τ) (fun t τ => Mp P T W R σ0 (gof P T W R t x) τ) ?_ ?_ (t := 0) (a := σ) (Nat.zero_le _) h
  · intro t τ ht s k
    refine Wp.le (T_272_2 rfl s.1.lay) ?_
    simp (disch := omega) only [ι_lt_t, ι_lt_f, ι_le_t, ι_le_f, ι_eq_f, ι_m1, ι_add, ι_mul, ι_pm, ι_sub, ix_ι, gd_inb, gd_t, eq_self, if_true, if_false, not_true_eq_false, not_false_eq_true, ite_self, ]
    exact Wp.cV (m273' s) fun υ s' => k υ s'.1
  · intro τ s
    refine Wp.le (T_272_2 rfl s.1.lay) ?_
    simp (disch := omega) only [ι_lt_t, ι_lt_f, ι_le_t, ι_le_f, ι_eq_f, ι_m1, ι_add, ι_mul, ι_pm, ι_sub, ix_ι, gd_inb, gd_t, eq_self, if_true, if_false, not_true_eq_false, not_false_eq_true, ite_self, ]
    exact Wp.retV s
theorem m291 (hL : LayR (gR σ)) : Wp (pcall 291 [.ref 61] σ) (RV (fun τ => Fr (fun a => a = 82) σ τ ∧ ∀ j, j < 12 → gI τ 82 j = ι 0)) := by
  refine Wp.le (M_291 rfl hL) ?_
  refine Wp.loop (α := pS) 12 (fun t τ => C_291_2 (ι t) τ) (fun t τ => Fr (fun a => a = 82) σ τ ∧ ∀ j, j < t → gI τ 82 j = ι 0) ?_ ?_ (t := 0) (a := σ) (Nat.zero_le _) ⟨Fr.refl, fun j hj => absurd hj (Nat.not_lt_zero j)⟩
  · rintro t τ ht ⟨f, e⟩ k
    refine Wp.le (T_291_2 rfl (by rw [f.r]; exact hL)) ?_
    simp (disch := omega) only [ι_lt_t, ι_lt_f, ι_le_t, ι_le_f, ι_eq_f, ι_m1, ι_add, ι_mul, ι_pm, ι_sub, ix_ι, gd_inb, gd_t, eq_self, if_true, if_false, not_true_eq_false, not_false_eq_true, ite_self, ]
    refine k _ ⟨f.mI rfl, ?_⟩
    exact put_at (k := 0) e rfl
  · rintro τ ⟨f, e⟩
    refine Wp.le (T_291_2 rfl (by rw [f.r]; exact hL)) ?_
    simp (disch := omega) only [ι_lt_t, ι_lt_f, ι_le_t, ι_le_f, ι_eq_f, ι_m1, ι_add, ι_mul, ι_pm, ι_sub, ix_ι, gd_inb, gd_t, eq_self, if_true, if_false, not_true_eq_false, not_false_eq_true, ite_self, ]
    exact Wp.retV ⟨f, e⟩
theorem gof_ok (h : okW P T A) (h0 : A 0 1 = ι 0) {g : Nat → Int32} (n : Nat) : okW P T (gof P T W R n (A, g)).1 ∧ like A (gof P T W R n (A, g)).1 := by
  induction n with
  | zero => exact ⟨h, like.rf⟩
  | succ n ih =>
    rw [gof_s]
    exact ⟨day_ok ih.1, ih.2.trans (day_like ih.1 (by rw [ih.2.2.2]; exact h0))⟩
end RUNS
