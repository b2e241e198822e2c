/-! ===== a province is told: what stays, what is new ===== -/
section PROV
variable {P T : Nat} {W R : Rl} {A : Wd} {m : Me} {im : Option (Wd × Me)} {tp : Nat × (Nat → Int32)} {fp fp' : Int32}
variable {σ τ υ σ0 μ ν0 μ0 : pS} {n k e i j c q pl : Nat} {x : Nat → Nat} {tk : Nat × Nat × Nat} {L : Rl} {s y r : Int32} {d : Dx} {v v1 v2 : Value} {g0 : Nat → Int32}
theorem okTp0 : okTp (0, g0) := ⟨Nat.zero_le _, fun i hi => absurd hi (Nat.not_lt_zero i)⟩
theorem CI.pr {S : Nat → Prop} {V : Nat → Nat → Prop} (h : CI P T W R A m im tp fp σ q) (f : Fq S V σ τ) (hS : ∀ a, S a → a = 0 ∨ a = 24 ∨ 15 - q ≤ a ∧ a ≤ 15 - q + 9) (hV : ∀ a f, V a f → a = 24 ∧ (f = 8 ∨ f = 9)) (e1 : gI τ 0 1 = ι 0) (e3 : gI τ 0 3 = fp') (e10 : gI τ 0 10 = gI σ 0 10) : CI P T W R A m im (0, g0) fp' τ q := by
  have hq := h.cnw.1.isp
  have nq : ∀ a, S a → a = 0 ∨ a = 24 ∨ (q = 2 ∧ 13 ≤ a ∧ a ≤ 22) ∨ (q = 13 ∧ 2 ≤ a ∧ a ≤ 11) := fun a s => by
    have := hS a s; rcases hq with e | e <;> subst e <;> omega
  have mv : ∀ a f, V a f → mov a f := fun a f v => by have := hV a f v; unfold mov; omega
  have k : ∀ a, 25 ≤ a → ∀ i, gI τ a i = gI σ a i := fun a ha i => f.i (fun s => by have := nq a s; omega) i
  have hw : ∀ w, 25 ≤ w → ∀ i, i < 5 → ¬ S (w + i) := fun w hw i hi s => by have := nq _ s; omega
  have hqq : ∀ i, i < 5 ∨ i = 5 ∨ i = 6 ∨ i = 8 ∨ i = 9 → ¬ S (q + i) := fun i hi s => by have := nq _ s; rcases hq with e | e <;> omega
  have v0 : ∀ a f, a ≠ 24 → ¬ V a f := fun a f ha v => ha (hV a f v).1
  have hP := h.cnw.1.1.P; have hT := h.cnw.1.1.T
  refine ⟨⟨h.cnw.1.fv f mv (v0 _ _ (by omega)) (hw 25 (by omega)) hqq, h.cnw.2.1.mv (k 25 (by omega) 11), h.cnw.2.2.1, by rw [k 47 (by omega)]; exact h.cnw.2.2.2⟩, by rw [f.rr (v0 _ _ (by omega))]; exact h.tld, by rw [f.rr (v0 _ _ (by omega))]; exact h.drf, okTp0, e1, fun i hi => absurd hi (Nat.not_lt_zero i), e3, h.mok, ?_, by rw [e10]; exact h.im0, by rw [k 36 (by omega)]; exact h.i36, fun B m' e => ?_⟩
  · exact h.mem.mv h.mok hP hT (k 32 (by omega) 1) (k 32 (by omega) 3) (fun i _ => k 33 (by omega) i) (fun i _ => k 34 (by omega) i) (fun i _ => k 35 (by omega) i)
  · obtain ⟨h1, h2, h3, h4, h5⟩ := h.img B m' e
    exact ⟨h1, h2.fv f mv (v0 _ _ (by omega)) (hw 36 (by omega)) hqq, h3.mv (k 36 (by omega) 11), h4, h5.mv h1 hP hT (k 43 (by omega) 1) (k 43 (by omega) 3) (fun i _ => k 44 (by omega) i) (fun i _ => k 45 (by omega) i) (fun i _ => k 46 (by omega) i)⟩
/-- the reference, while its draft changes -/
def HR (μ τ : pS) : Prop := Fq (fun a => a = 61 ∨ 65 ≤ a ∧ a ≤ 72) VM μ τ ∧ (∀ i, ¬ (i = 4 ∨ 15 ≤ i ∧ i ≤ 25) → gI τ 61 i = gI μ 61 i) ∧ (∀ i, i < 5 → gI τ 65 i = gI μ 65 i) ∧ (∀ i, i < 8 → gI τ 66 i = gI μ 66 i ∧ gI τ 70 i = gI μ 70 i) ∧ (∀ i, i < 12 → gI τ 67 i = gI μ 67 i ∧ gI τ 68 i = gI μ 68 i) ∧ (∀ i, i < 96 → gI τ 69 i = gI μ 69 i) ∧ ∀ i, i < 700 → gI τ 71 i = gI μ 71 i ∧ gI τ 72 i = gI μ 72 i
theorem HR.hl (h : HR σ τ) (f : HL τ υ) : HR σ υ := ⟨h.1.trans f.1, fun i hi => (f.2.1 i (by omega)).trans (h.2.1 i hi), fun i hi => (f.2.2.1 i hi).trans (h.2.2.1 i hi), fun i hi => ⟨(f.2.2.2.1 i hi).1.trans (h.2.2.2.1 i hi).1, (f.2.2.2.1 i hi).2.trans (h.2.2.2.1 i hi).2⟩, fun i hi => ⟨(f.2.2.2.2.1 i hi).1.trans (h.2.2.2.2.1 i hi).1, (f.2.2.2.2.1 i hi).2.trans (h.2.2.2.2.1 i hi).2⟩, fun i hi => (f.2.2.2.2.2.1 i hi).trans (h.2.2.2.2.2.1 i hi), fun i hi => ⟨(f.2.2.2.2.2.2 i hi).1.trans (h.2.2.2.2.2.2 i hi).1, (f.2.2.2.2.2.2 i hi).2.trans (h.2.2.2.2.2.2 i hi).2⟩⟩
theorem HR.rf : HR σ σ := ⟨Fq.refl, fun _ _ => rfl, fun _ _ => rfl, fun _ _ => ⟨rfl, rfl⟩, fun _ _ => ⟨rfl, rfl⟩, fun _ _ => rfl, fun _ _ => ⟨rfl, rfl⟩⟩
theorem HR.m61 (h : HR σ τ) (hi : i = 4 ∨ 15 ≤ i ∧ i ≤ 25) : HR σ (sI τ 61 i y) := ⟨h.1.mI (Or.inl rfl), fun j hj => by rw [gI_n (by omega)]; exact h.2.1 j hj, fun j hj => by rw [gI_c (by omega)]; exact h.2.2.1 j hj, fun j hj => by rw [gI_c (by omega), gI_c (by omega)]; exact h.2.2.2.1 j hj, fun j hj => by rw [gI_c (by omega), gI_c (by omega)]; exact h.2.2.2.2.1 j hj, fun j hj => by rw [gI_c (by omega)]; exact h.2.2.2.2.2.1 j hj, fun j hj => by rw [gI_c (by omega), gI_c (by omega)]; exact h.2.2.2.2.2.2 j hj⟩
theorem HL.z (h : LayR (gR μ)) : HL μ (sZ μ) := ((((HL.rf.m (by omega)).m (by omega)).m (by omega)).m (by omega)).m (by omega)
theorem MI.pr (h : MI P T W R A m im tp fp μ) (f : HR μ τ) (e15 : gI τ 61 15 = ι 0) (e24 : gI τ 61 24 = fp') : MI P T W R A m im (0, g0) fp' τ := by
  have hP := h.cmw.ok.P; have hT := h.cmw.ok.T
  obtain ⟨a1, a2, a3, a4, a5, a6, a7, a8, a9, a10, a11, a12, a13, a14, a15, a16, a17, a18⟩ := h.cmw
  have w7 := a7.1; have w8 := a8.1
  have k : ∀ a, 73 ≤ a → ∀ i, gI τ a i = gI μ a i := fun a ha i => f.1.i (by omega) i
  have mv : ∀ a f, VM a f → mov a f := fun a f v => Or.inr (Or.inr (Or.inr v))
  have cm : CM P T W R A τ := ⟨a1, f.1.lay mv a2, by rw [f.2.2.1 0 (by omega)]; exact a3, by rw [f.2.2.1 1 (by omega)]; exact a4, by rw [f.2.2.1 3 (by omega)]; exact a5, by rw [f.2.2.1 4 (by omega)]; exact a6, a7, a8, fun i hi => by rw [(f.2.2.2.2.2.2 i (by omega)).1]; exact a9 i hi, fun i hi => by rw [(f.2.2.2.2.2.2 i (by omega)).2]; exact a10 i hi, by rw [f.2.1 31 (by omega)]; exact a11, by rw [f.2.1 36 (by omega)]; exact a12, fun i hi => by rw [k 75 (by omega)]; exact a13 i hi, fun i hi => by rw [k 76 (by omega)]; exact a14 i hi, fun i hi j hj => by rw [k 77 (by omega)]; exact a15 i hi j hj, fun i hi => by rw [k 78 (by omega)]; exact a16 i hi, fun i hi => by rw [(f.2.2.2.1 i (by omega)).1]; exact a17 i hi, fun i hi => by rw [(f.2.2.2.2.1 i (by omega)).1]; exact a18 i hi⟩
  refine ⟨cm, h.sl0, okTp0, e15, fun i hi => absurd hi (Nat.not_lt_zero i), e24, h.mok, h.mem.mv h.mok hP hT (f.2.1 32 (by omega)) (f.2.1 33 (by omega)) (fun i _ => k 79 (by omega) i) (fun i _ => k 85 (by omega) i) (fun i _ => k 86 (by omega) i) (fun i _ => k 87 (by omega) i) (fun i _ => k 73 (by omega) i), by rw [f.2.1 50 (by omega)]; exact h.im0, fun B m' e => ?_⟩
  obtain ⟨h1, h2, h3, h4, h5⟩ := h.img B m' e
  exact ⟨h1, h2, h3, h4.mv hP hT (fun i _ => k 92 (by omega) _), h5.mv h1 hP hT (f.2.1 51 (by omega)) (f.2.1 52 (by omega)) (fun i _ => k 93 (by omega) i) (fun i _ => k 94 (by omega) i) (fun i _ => k 95 (by omega) i) (fun i _ => k 96 (by omega) i) (fun i _ => k 97 (by omega) i)⟩
/-- the memory of a world that begins -/
def m00 (m : Me) : Me := ((0, fun _ => fun _ _ => ι 0), (0, fun _ => (0, 0, 0)), m.2.2)
theorem ok_m00 : okMe P T A (m00 m) := ⟨Nat.zero_le _, fun k hk => absurd hk (Nat.not_lt_zero k), Nat.zero_le _, fun k hk => absurd hk (Nat.not_lt_zero k)⟩
end PROV
