/-! ===== lines: what is told so far, on both sides ===== -/
section LINE0
/-- people, things, hedges; rows: 1 owner, 3 hedges, 4 worth, 6 bold, 7 firm; the rules, whether they are told -/
abbrev Dx : Type := (Nat × Nat × Nat) × Wd × (Rl × Bool) × (Rl × Bool)
variable {σ τ υ σ0 μ ν0 μ0 : pS} {n k b e i j c w q pl : Nat} {x : Nat → Nat} {tk : Nat × Nat × Nat} {g f : Bool} {L : Rl} {s y : Int32} {d : Dx} {z : Zx}
def RuC (L : Rl) (f : Bool) (u : Nat) (σ : pS) : Prop := gI σ u 1 = ι L.1 ∧ gI σ u 2 = bz f ∧ (∀ i, i < L.1 → gI σ (u + 1) i = L.2 i) ∧ ∀ k, k < 8 → (tb (gI σ u 3) k = true ↔ ∃ i, i < L.1 ∧ L.2 i = ν 1 - ι k)
def DC (d : Dx) (q : Nat) (σ : pS) : Prop :=
  (gI σ q 0 = ι d.1.1)
  ∧ (gI σ q 1 = ι d.1.2.1)
  ∧ (gI σ q 3 = bz (decide (0 < d.1.2.2)))
  ∧ (∀ i, i < d.1.1 → gI σ (q + 1) i = d.2.1 6 i)
  ∧ (∀ i, i < d.1.2.1 → tb (gI σ q 2) i = decide (d.2.1 7 i = ι 1))
  ∧ (∀ i, d.1.2.1 ≤ i → i < 32 → tb (gI σ q 2) i = false)
  ∧ (∀ i, i < d.1.1 → gI σ (q + 2) i = d.2.1 3 i)
  ∧ (∀ i, d.1.1 ≤ i → i < 8 → gI σ (q + 2) i = ι 0)
  ∧ (∀ i, i < d.1.2.1 → gI σ (q + 3) i = d.2.1 1 i)
  ∧ (∀ i, i < d.1.1 → ∀ j, j < d.1.2.1 → gI σ (q + 4) (12 * i + j) = d.2.1 4 (12 * i + j))
  ∧ (RuC d.2.2.1.1 d.2.2.1.2 (q + 5) σ)
  ∧ (RuC d.2.2.2.1 d.2.2.2.2 (q + 8) σ)
theorem DC.pp {d : Dx} {q : Nat} {σ : pS} (h : DC d q σ) : gI σ q 0 = ι d.1.1 := h.1
theorem DC.tt {d : Dx} {q : Nat} {σ : pS} (h : DC d q σ) : gI σ q 1 = ι d.1.2.1 := h.2.1
theorem DC.hh {d : Dx} {q : Nat} {σ : pS} (h : DC d q σ) : gI σ q 3 = bz (decide (0 < d.1.2.2)) := h.2.2.1
theorem DC.bo {d : Dx} {q : Nat} {σ : pS} (h : DC d q σ) : ∀ i, i < d.1.1 → gI σ (q + 1) i = d.2.1 6 i := h.2.2.2.1
theorem DC.f1 {d : Dx} {q : Nat} {σ : pS} (h : DC d q σ) : ∀ i, i < d.1.2.1 → tb (gI σ q 2) i = decide (d.2.1 7 i = ι 1) := h.2.2.2.2.1
theorem DC.f0 {d : Dx} {q : Nat} {σ : pS} (h : DC d q σ) : ∀ i, d.1.2.1 ≤ i → i < 32 → tb (gI σ q 2) i = false := h.2.2.2.2.2.1
theorem DC.hg {d : Dx} {q : Nat} {σ : pS} (h : DC d q σ) : ∀ i, i < d.1.1 → gI σ (q + 2) i = d.2.1 3 i := h.2.2.2.2.2.2.1
theorem DC.h0 {d : Dx} {q : Nat} {σ : pS} (h : DC d q σ) : ∀ i, d.1.1 ≤ i → i < 8 → gI σ (q + 2) i = ι 0 := h.2.2.2.2.2.2.2.1
theorem DC.ow {d : Dx} {q : Nat} {σ : pS} (h : DC d q σ) : ∀ i, i < d.1.2.1 → gI σ (q + 3) i = d.2.1 1 i := h.2.2.2.2.2.2.2.2.1
theorem DC.wo {d : Dx} {q : Nat} {σ : pS} (h : DC d q σ) : ∀ i, i < d.1.1 → ∀ j, j < d.1.2.1 → gI σ (q + 4) (12 * i + j) = d.2.1 4 (12 * i + j) := h.2.2.2.2.2.2.2.2.2.1
theorem DC.wr {d : Dx} {q : Nat} {σ : pS} (h : DC d q σ) : RuC d.2.2.1.1 d.2.2.1.2 (q + 5) σ := h.2.2.2.2.2.2.2.2.2.2.1
theorem DC.rr {d : Dx} {q : Nat} {σ : pS} (h : DC d q σ) : RuC d.2.2.2.1 d.2.2.2.2 (q + 8) σ := h.2.2.2.2.2.2.2.2.2.2.2
def DM (d : Dx) (σ : pS) : Prop :=
  (gI σ 65 5 = ι d.1.1)
  ∧ (gI σ 65 6 = ι d.1.2.1)
  ∧ (gI σ 65 7 = ι d.1.2.2)
  ∧ (gI σ 65 8 = ι d.2.2.1.1.1)
  ∧ (gI σ 65 9 = ι d.2.2.2.1.1)
  ∧ (∀ i, i < d.1.1 → gI σ 66 (8 + i) = d.2.1 6 i)
  ∧ (∀ i, i < d.1.2.1 → gI σ 67 (12 + i) = d.2.1 7 i)
  ∧ (∀ i, i < d.1.1 → gI σ 70 (8 + i) = d.2.1 3 i)
  ∧ (∀ i, i < d.1.2.1 → gI σ 68 (12 + i) = d.2.1 1 i)
  ∧ (∀ i, i < d.1.1 → ∀ j, j < d.1.2.1 → gI σ 69 (96 + (12 * i + j)) = d.2.1 4 (12 * i + j))
  ∧ (∀ i, i < d.2.2.1.1.1 → gI σ 71 (700 + i) = trS (d.2.2.1.1.2 i))
  ∧ (∀ i, i < d.2.2.2.1.1 → gI σ 72 (700 + i) = trR (d.2.2.2.1.2 i))
theorem DM.pp {d : Dx} {σ : pS} (h : DM d σ) : gI σ 65 5 = ι d.1.1 := h.1
theorem DM.tt {d : Dx} {σ : pS} (h : DM d σ) : gI σ 65 6 = ι d.1.2.1 := h.2.1
theorem DM.hh {d : Dx} {σ : pS} (h : DM d σ) : gI σ 65 7 = ι d.1.2.2 := h.2.2.1
theorem DM.w8 {d : Dx} {σ : pS} (h : DM d σ) : gI σ 65 8 = ι d.2.2.1.1.1 := h.2.2.2.1
theorem DM.r9 {d : Dx} {σ : pS} (h : DM d σ) : gI σ 65 9 = ι d.2.2.2.1.1 := h.2.2.2.2.1
theorem DM.bo {d : Dx} {σ : pS} (h : DM d σ) : ∀ i, i < d.1.1 → gI σ 66 (8 + i) = d.2.1 6 i := h.2.2.2.2.2.1
theorem DM.fi {d : Dx} {σ : pS} (h : DM d σ) : ∀ i, i < d.1.2.1 → gI σ 67 (12 + i) = d.2.1 7 i := h.2.2.2.2.2.2.1
theorem DM.hg {d : Dx} {σ : pS} (h : DM d σ) : ∀ i, i < d.1.1 → gI σ 70 (8 + i) = d.2.1 3 i := h.2.2.2.2.2.2.2.1
theorem DM.ow {d : Dx} {σ : pS} (h : DM d σ) : ∀ i, i < d.1.2.1 → gI σ 68 (12 + i) = d.2.1 1 i := h.2.2.2.2.2.2.2.2.1
theorem DM.wo {d : Dx} {σ : pS} (h : DM d σ) : ∀ i, i < d.1.1 → ∀ j, j < d.1.2.1 → gI σ 69 (96 + (12 * i + j)) = d.2.1 4 (12 * i + j) := h.2.2.2.2.2.2.2.2.2.1
theorem DM.ws {d : Dx} {σ : pS} (h : DM d σ) : ∀ i, i < d.2.2.1.1.1 → gI σ 71 (700 + i) = trS (d.2.2.1.1.2 i) := h.2.2.2.2.2.2.2.2.2.2.1
theorem DM.rs {d : Dx} {σ : pS} (h : DM d σ) : ∀ i, i < d.2.2.2.1.1 → gI σ 72 (700 + i) = trR (d.2.2.2.1.2 i) := h.2.2.2.2.2.2.2.2.2.2.2
theorem RuC.fr {u : Nat} (h : RuC L f u σ) (e0 : ∀ i, gI τ u i = gI σ u i) (e1 : ∀ i, gI τ (u + 1) i = gI σ (u + 1) i) : RuC L f u τ := ⟨by rw [e0]; exact h.1, by rw [e0]; exact h.2.1, fun i hi => by rw [e1]; exact h.2.2.1 i hi, fun k hk => by rw [e0]; exact h.2.2.2 k hk⟩
theorem DC.fr (h : DC d q σ) (e : ∀ a, q ≤ a → a ≤ q + 9 → ∀ i, gI τ a i = gI σ a i) : DC d q τ :=
  ⟨by rw [e q (by omega) (by omega)]; exact h.pp, by rw [e q (by omega) (by omega)]; exact h.tt, by rw [e q (by omega) (by omega)]; exact h.hh, fun i hi => by rw [e _ (by omega) (by omega)]; exact h.bo i hi, fun i hi => by rw [e q (by omega) (by omega)]; exact h.f1 i hi, fun i h1 h2 => by rw [e q (by omega) (by omega)]; exact h.f0 i h1 h2, fun i hi => by rw [e _ (by omega) (by omega)]; exact h.hg i hi, fun i h1 h2 => by rw [e _ (by omega) (by omega)]; exact h.h0 i h1 h2, fun i hi => by rw [e _ (by omega) (by omega)]; exact h.ow i hi, fun i hi j hj => by rw [e _ (by omega) (by omega)]; exact h.wo i hi j hj, h.wr.fr (e _ (by omega) (by omega)) (e _ (by omega) (by omega)), h.rr.fr (e _ (by omega) (by omega)) (e _ (by omega) (by omega))⟩
theorem DM.fr (h : DM d σ) (e : ∀ a, 65 ≤ a → a ≤ 72 → ∀ i, gI τ a i = gI σ a i) : DM d τ :=
  ⟨by rw [e 65 (by omega) (by omega)]; exact h.pp, by rw [e 65 (by omega) (by omega)]; exact h.tt, by rw [e 65 (by omega) (by omega)]; exact h.hh, by rw [e 65 (by omega) (by omega)]; exact h.w8, by rw [e 65 (by omega) (by omega)]; exact h.r9, fun i hi => by rw [e _ (by omega) (by omega)]; exact h.bo i hi, fun i hi => by rw [e _ (by omega) (by omega)]; exact h.fi i hi, fun i hi => by rw [e _ (by omega) (by omega)]; exact h.hg i hi, fun i hi => by rw [e _ (by omega) (by omega)]; exact h.ow i hi, fun i hi j hj => by rw [e _ (by omega) (by omega)]; exact h.wo i hi j hj, fun i hi => by rw [e _ (by omega) (by omega)]; exact h.ws i hi, fun i hi => by rw [e _ (by omega) (by omega)]; exact h.rs i hi⟩
/-- a rule told, or not -/
def okRu (g : Bool) (L : Rl) (f : Bool) : Prop := wfp g L ∧ (f = true → 0 < L.1 ∧ dpt L.2 L.1 = 1) ∧ (f = false → L.1 = 0)
def okDx (d : Dx) : Prop := d.1.1 ≤ 8 ∧ d.1.2.1 ≤ 12 ∧ (∀ t, t < d.1.2.1 → ∃ o, o < d.1.1 ∧ d.2.1 1 t = ι o) ∧ (∀ p, p < d.1.1 → ∀ t, t < d.1.2.1 → ∃ v, v ≤ 9 ∧ d.2.1 4 (12 * p + t) = ι v) ∧ (∀ p, p < d.1.1 → ∃ m, m < 2 ^ d.1.1 ∧ d.2.1 3 p = ι m) ∧ (∀ p, p < d.1.1 → ∀ r, r < d.1.1 → tb (d.2.1 3 p) r = tb (d.2.1 3 r) p) ∧ (∀ p, p < d.1.1 → tb (d.2.1 3 p) p = false) ∧ (∀ t, t < d.1.2.1 → d.2.1 7 t = ι 0 ∨ d.2.1 7 t = ι 1) ∧ okRu false d.2.2.1.1 d.2.2.1.2 ∧ okRu true d.2.2.2.1 d.2.2.2.2
/-- what a text's reading may change -/
def GL (q : Nat) (σ τ : pS) : Prop := Fq (fun a => a = 24 ∨ q ≤ a ∧ a ≤ q + 9) (fun a f => a = 24 ∧ f = 9) σ τ ∧ gI τ 24 1 = gI σ 24 1
def HL (σ τ : pS) : Prop := Fq (fun a => a = 61 ∨ 65 ≤ a ∧ a ≤ 72) VM σ τ ∧ (∀ i, ¬ (i = 16 ∨ 18 ≤ i ∧ i ≤ 23 ∨ i = 25) → gI τ 61 i = gI σ 61 i) ∧ (∀ i, i < 5 → gI τ 65 i = gI σ 65 i) ∧ (∀ i, i < 8 → gI τ 66 i = gI σ 66 i ∧ gI τ 70 i = gI σ 70 i) ∧ (∀ i, i < 12 → gI τ 67 i = gI σ 67 i ∧ gI τ 68 i = gI σ 68 i) ∧ (∀ i, i < 96 → gI τ 69 i = gI σ 69 i) ∧ ∀ i, i < 700 → gI τ 71 i = gI σ 71 i ∧ gI τ 72 i = gI σ 72 i
theorem GL.rf : GL q σ σ := ⟨Fq.refl, rfl⟩
theorem HL.rf : HL σ σ := ⟨Fq.refl, fun _ _ => rfl, fun _ _ => rfl, fun _ _ => ⟨rfl, rfl⟩, fun _ _ => ⟨rfl, rfl⟩, fun _ _ => rfl, fun _ _ => ⟨rfl, rfl⟩⟩
theorem GL.trans (h : GL q σ τ) (f : GL q τ υ) : GL q σ υ := ⟨h.1.trans f.1, f.2.trans h.2⟩
theorem HL.trans (h : HL σ τ) (f : HL τ υ) : HL σ υ := ⟨h.1.trans f.1, fun i hi => (f.2.1 i hi).trans (h.2.1 i hi), fun i hi => (f.2.2.1 i hi).trans (h.2.2.1 i hi), fun i hi => ⟨(f.2.2.2.1 i hi).1.trans (h.2.2.2.1 i hi).1, (f.2.2.2.1 i hi).2.trans (h.2.2.2.1 i hi).2⟩, fun i hi => ⟨(f.2.2.2.2.1 i hi).1.trans (h.2.2.2.2.1 i hi).1, (f.2.2.2.2.1 i hi).2.trans (h.2.2.2.2.1 i hi).2⟩, fun i hi => (f.2.2.2.2.2.1 i hi).trans (h.2.2.2.2.2.1 i hi), fun i hi => ⟨(f.2.2.2.2.2.2 i hi).1.trans (h.2.2.2.2.2.2 i hi).1, (f.2.2.2.2.2.2 i hi).2.trans (h.2.2.2.2.2.2 i hi).2⟩⟩
theorem GL.m {a : Nat} (h : GL q σ τ) (ha : q ≤ a ∧ a ≤ q + 9) (hq : isP q) : GL q σ (sI τ a i y) := ⟨h.1.mI (Or.inr ha), by rw [gI_c (by rcases hq with rfl | rfl <;> omega)]; exact h.2⟩
theorem GL.m24 (h : GL q σ τ) (hi : i ≠ 1) : GL q σ (sI τ 24 i y) := ⟨h.1.mI (Or.inl rfl), by rw [gI_n (fun g => hi g.symm)]; exact h.2⟩
theorem GL.f24 (h : GL q σ τ) (f : F24 τ υ) : GL q σ υ := ⟨h.1.trans (Fq.of f.1 (fun a s => Or.inl s)), by rw [f.2 1 (by omega)]; exact h.2⟩
theorem HL.f61 (h : HL σ τ) (f : F61 τ υ) : HL σ υ := h.trans ⟨Fq.of f.1 (fun a s => Or.inl s), fun i hi => f.2 i (by omega), fun i _ => f.1.i (by omega) i, fun i _ => ⟨f.1.i (by omega) i, f.1.i (by omega) i⟩, fun i _ => ⟨f.1.i (by omega) i, f.1.i (by omega) i⟩, fun i _ => f.1.i (by omega) i, fun i _ => ⟨f.1.i (by omega) i, f.1.i (by omega) i⟩⟩
theorem HL.m61 (h : HL σ τ) (hi : i = 16 ∨ 18 ≤ i ∧ i ≤ 23 ∨ i = 25) : HL σ (sI τ 61 i y) := h.trans ⟨Fq.refl.mI (Or.inl rfl), fun j hj => by rw [gI_n (by omega)], fun i _ => gI_c (by omega), fun i _ => ⟨gI_c (by omega), gI_c (by omega)⟩, fun i _ => ⟨gI_c (by omega), gI_c (by omega)⟩, fun i _ => gI_c (by omega), fun i _ => ⟨gI_c (by omega), gI_c (by omega)⟩⟩
theorem HL.m (h : HL σ τ) {a : Nat} (ha : a = 65 ∧ 5 ≤ i ∨ (a = 66 ∨ a = 70) ∧ 8 ≤ i ∨ (a = 67 ∨ a = 68) ∧ 12 ≤ i ∨ a = 69 ∧ 96 ≤ i ∨ (a = 71 ∨ a = 72) ∧ 700 ≤ i) : HL σ (sI τ a i y) := by
  have k : ∀ b j, b ≠ a ∨ j ≠ i → gI (sI τ a i y) b j = gI τ b j := fun b j hbj => by
    by_cases e : b = a
    · subst e; exact gI_n (by omega)
    · exact gI_c e
  exact h.trans ⟨Fq.refl.mI (by omega), fun j hj => k 61 j (by omega), fun j hj => k 65 j (by omega), fun j hj => ⟨k 66 j (by omega), k 70 j (by omega)⟩, fun j hj => ⟨k 67 j (by omega), k 68 j (by omega)⟩, fun j hj => k 69 j (by omega), fun j hj => ⟨k 71 j (by omega), k 72 j (by omega)⟩⟩
theorem GL.gc (hq : isP q) (h : GL q σ τ) (f : GC g q τ υ) : GL q σ υ := by
  have hu : q + 5 ≤ uG g q ∧ uG g q ≤ q + 8 := by unfold uG; cases g <;> simp
  exact ⟨h.1.trans (Fq.of f.1 (fun a s => by omega)), by rw [f.2.1 1 (by omega)]; exact h.2⟩
theorem HL.gm (h : HL σ τ) (f : GM g τ υ) : HL σ υ := by
  have hcs := cS_or (g := g); have hfl := fL_or (g := g)
  have k : ∀ a, a ≠ 61 → a ≠ 65 → a ≠ cS g → ∀ i, gI υ a i = gI τ a i := fun a a1 a2 a3 i => f.1.i (by omega) i
  have k2 : ∀ a, a = 71 ∨ a = 72 → ∀ i, i < 700 → gI υ a i = gI τ a i := fun a ha i hi => by
    by_cases e : a = cS g
    · rw [e]; exact f.2.2.2 i hi
    · exact k a (by omega) (by omega) e i
  exact h.trans ⟨Fq.of f.1 (fun a s => by omega), fun i hi => f.2.1 i (by omega), fun i hi => f.2.2.1 i (by omega), fun i _ => ⟨k 66 (by omega) (by omega) (by omega) i, k 70 (by omega) (by omega) (by omega) i⟩, fun i _ => ⟨k 67 (by omega) (by omega) (by omega) i, k 68 (by omega) (by omega) (by omega) i⟩, fun i _ => k 69 (by omega) (by omega) (by omega) i, fun i hi => ⟨k2 71 (by omega) i hi, k2 72 (by omega) i hi⟩⟩
/-- the class, the reference, at a token between the parts of a line -/
def PL (n : Nat) (x : Nat → Nat) (q : Nat) (d : Dx) (tk : Nat × Nat × Nat) (σ0 σ : pS) : Prop := (TxC n x σ ∧ gI σ 24 6 = ι 0 ∧ TkC x tk σ ∧ gR σ 24 8 = some q ∧ DC d q σ) ∧ GL q σ0 σ
def ML (n : Nat) (x : Nat → Nat) (d : Dx) (tk : Nat × Nat × Nat) (μ0 μ : pS) : Prop := (TxM n x μ ∧ gI μ 61 22 = ι 0 ∧ TkM x tk μ ∧ DM d μ ∧ SMr μ) ∧ HL μ0 μ
def FTL (q c pl : Nat) (σ0 σ : pS) : Prop := (LayR (gR σ) ∧ c ≠ 0 ∧ c ≤ 5 ∧ gI σ 24 6 = ι c ∧ gI σ 24 7 = ι pl ∧ gI σ 24 4 = ι 0 ∧ gR σ 24 8 = some q) ∧ GL q σ0 σ
def FML (c pl : Nat) (μ0 μ : pS) : Prop := (LayR (gR μ) ∧ c ≠ 0 ∧ c ≤ 5 ∧ gI μ 61 22 = ι c ∧ gI μ 61 23 = ι pl) ∧ HL μ0 μ
theorem PL.lay (h : PL n x q d tk σ0 σ) : LayR (gR σ) := h.1.1.1
theorem ML.lay (h : ML n x d tk μ0 μ) : LayR (gR μ) := h.1.1.1
theorem FTL.lay (h : FTL q c pl σ0 σ) : LayR (gR σ) := h.1.1
theorem FML.lay (h : FML c pl μ0 μ) : LayR (gR μ) := h.1.1
theorem PL.u8 (h : PL n x q d tk σ0 σ) (hq : isP q) {f : Nat → Option pZ} : bG isP (gR σ 24 8) f = f q := bG_some h.1.2.2.2.1 hq
theorem FTL.u8 (h : FTL q c pl σ0 σ) (hq : isP q) {f : Nat → Option pZ} : bG isP (gR σ 24 8) f = f q := bG_some h.1.2.2.2.2.2.2 hq
theorem FML.n22 (h : FML c pl μ0 μ) : ¬ gI μ 61 22 = ι 0 := by
  have := h.1.2.1; have := h.1.2.2.1
  rw [h.1.2.2.2.1, ι_eq (by omega) (by omega)]; omega
/-! ahead of a fault -/
theorem l48 (t : Txt n x) (ok : okTk n x tk) (h : PL n x q d tk σ0 σ) (hw : 1000 ≤ w) (hw2 : w < 1026) : pcall 48 [.ref 24, .ref w] σ = some (1, .int (bz (wdS x tk w)), σ) := c48 t h.1.1 ok h.1.2.2.1 hw hw2
theorem l58 (t : Txt n x) (ok : okTk n x tk) (h : PL n x q d tk σ0 σ) (hc : c < 256) : pcall 58 [.ref 24, .int (ι c)] σ = some (1, .int (bz (sgS x tk c)), σ) := c58 t h.1.1 ok h.1.2.2.1 hc
theorem l219 (t : Txt n x) (ok : okTk n x tk) (h : ML n x d tk μ0 μ) (hw : 1000 ≤ w) (hw2 : w < 1026) : pcall 219 [.ref 61, .ref w] μ = some (1, .int (bz (wdS x tk w)), μ) := m219 t h.1.1 ok h.1.2.2.1 h.1.2.1 hw hw2
theorem l222 (t : Txt n x) (ok : okTk n x tk) (h : ML n x d tk μ0 μ) (hc : c < 256) : pcall 222 [.ref 61, .int (ι c)] μ = some (1, .int (bz (sgS x tk c)), μ) := m222 t h.1.1 ok h.1.2.2.1 h.1.2.1 hc
theorem l43 (hq : isP q) (t : Txt n x) (ok : okTk n x tk) (h : PL n x q d tk σ0 σ) : Wp (pcall 43 [.ref 24] σ) (RV (PL n x q d (tkS n x tk.2.2) σ0)) := by
  obtain ⟨⟨h1, h2, h3, h4, h5⟩, hG⟩ := h
  refine (c43 t h1 h2 h3.2.2.1 ok.2.1).mono ?_
  rintro zz ⟨v, τ, rfl, k, f⟩
  exact ⟨v, τ, rfl, ⟨h1.f f, by rw [f.2 6 (by omega)]; exact h2, k, by rw [f.1.r]; exact h4, h5.fr fun a a1 a2 i => f.1.i (by rcases hq with rfl | rfl <;> omega) i⟩, hG.f24 f⟩
/-- but the reader's own -/
def KM (μ τ : pS) : Prop := ∀ a, a ≠ 61 → ∀ i, gI τ a i = gI μ a i
theorem l212k (t : Txt n x) (ok : okTk n x tk) (h : ML n x d tk μ0 μ) : Wp (pcall 212 [.ref 61] μ) (RV (fun τ => ML n x d (tkS n x tk.2.2) μ0 τ ∧ KM μ τ)) := by
  obtain ⟨⟨h1, h2, h3, h4, h5⟩, hG⟩ := h
  refine (m212 t h1 h3.2.2.2.1 ok.2.1).mono ?_
  rintro zz ⟨v, τ, rfl, k, f⟩
  exact ⟨v, τ, rfl, ⟨⟨h1.f f, by rw [f.2 22 (by omega)]; exact h2, k, h4.fr fun a a1 a2 i => f.1.i (by omega) i, by unfold SMr; rw [f.1.r]; exact h5⟩, hG.f61 f⟩, fun a ha i => f.1.i ha i⟩
theorem l212 (t : Txt n x) (ok : okTk n x tk) (h : ML n x d tk μ0 μ) : Wp (pcall 212 [.ref 61] μ) (RV (ML n x d (tkS n x tk.2.2) μ0)) := by
  obtain ⟨z, e, v, τ, rfl, f⟩ := l212k t ok h
  exact ⟨_, e, v, τ, rfl, f.1⟩
theorem l50 (h : PL n x q d tk σ0 σ) (hc : c ≠ 0) (hc5 : c ≤ 5) : Wp (pcall 50 [.ref 24, .int (ι c)] σ) (RV (FTL q c tk.2.1 σ0)) := by
  refine Wp.le (M_50 rfl h.lay) ?_
  rw [h.1.2.1, if_neg (fun g => g rfl), gI_n (show 2 ≠ 6 by omega), h.1.2.2.1.2.1]
  exact Wp.retV ⟨⟨h.lay, hc, hc5, by rw [gI_n (by omega), gI_n (by omega), gI_s], by rw [gI_n (by omega), gI_s], gI_s, h.1.2.2.2.1⟩, ((h.2.m24 (by omega)).m24 (by omega)).m24 (by omega)⟩
def FMK (c pl : Nat) (μ0 μ τ : pS) : Prop := FML c pl μ0 τ ∧ gI τ 65 5 = gI μ 65 5
theorem l220k (h : ML n x d tk μ0 μ) (hc : c ≠ 0) (hc5 : c ≤ 5) : Wp (pcall 220 [.ref 61, .int (ι c)] μ) (RV (FMK c tk.2.1 μ0 μ)) := by
  refine Wp.le (M_220 rfl h.lay) ?_
  rw [h.1.2.1, if_pos rfl, gI_n (show 20 ≠ 22 by omega), h.1.2.2.1.2.1]
  exact Wp.retV ⟨⟨⟨h.lay, hc, hc5, by rw [gI_n (by omega), gI_s], gI_s⟩, (h.2.m61 (by omega)).m61 (by omega)⟩, by rw [gI_c (by omega), gI_c (by omega)]⟩
theorem l220 (h : ML n x d tk μ0 μ) (hc : c ≠ 0) (hc5 : c ≤ 5) : Wp (pcall 220 [.ref 61, .int (ι c)] μ) (RV (FML c tk.2.1 μ0)) := by
  obtain ⟨z, e, v, τ, rfl, f⟩ := l220k h hc hc5
  exact ⟨_, e, v, τ, rfl, f.1⟩
theorem l52 (t : Txt n x) (ok : okTk n x tk) (h : PL n x q d tk σ0 σ) : pcall 52 [.ref 24] σ = some (1, .int (bz (decide (4 < tk.2.2 - tk.2.1))), σ) := by
  have h7 := t.1; have h2 := ok.2.1
  refine (M_52 rfl h.lay).eq ?_
  rw [h.1.2.2.1.2.1, h.1.2.2.1.2.2.1, ι_sub ok.1]
  by_cases e : 4 < tk.2.2 - tk.2.1
  · rw [if_neg (by rw [ι_le (by omega) (by omega)]; omega), decide_eq_true e]; rfl
  · rw [if_pos (by rw [ι_le (by omega) (by omega)]; omega), decide_eq_false e]; rfl
/-! behind a fault -/
theorem FTL.up (h : FTL q c pl σ0 σ) (f : GL q σ τ) (hr : gR τ = gR σ) (e : ∀ i, i = 6 ∨ i = 7 ∨ i = 4 → gI τ 24 i = gI σ 24 i) : FTL q c pl σ0 τ :=
  ⟨⟨by rw [hr]; exact h.1.1, h.1.2.1, h.1.2.2.1, by rw [e 6 (by omega)]; exact h.1.2.2.2.1, by rw [e 7 (by omega)]; exact h.1.2.2.2.2.1, by rw [e 4 (by omega)]; exact h.1.2.2.2.2.2.1, by rw [hr]; exact h.1.2.2.2.2.2.2⟩, h.2.trans f⟩
theorem g48 (h : FTL q c pl σ0 σ) (hw : 1000 ≤ w) (hw2 : w < 1026) : pcall 48 [.ref 24, .ref w] σ = some (1, .int (ι 0), σ) := by
  obtain ⟨i1, rfl⟩ : ∃ i1, w = i1 + 1000 := ⟨w - 1000, by omega⟩
  refine (M_48 (by omega) rfl h.lay).eq ?_
  rw [h.1.2.2.2.2.2.1, if_pos (by decide)]
theorem g58 (h : FTL q c pl σ0 σ) : pcall 58 [.ref 24, .int y] σ = some (1, .int (ι 0), σ) := by
  refine (M_58 rfl h.lay).eq ?_
  rw [h.1.2.2.2.2.2.1, if_pos (by decide)]
theorem g43 (h : FTL q c pl σ0 σ) : pcall 43 [.ref 24] σ = some (0, .null, σ) := by
  have := h.1.2.2.1; have := h.1.2.1
  refine (M_43 rfl h.lay).eq ?_
  rw [h.1.2.2.2.1, if_neg (by rw [ι_eq (by omega) (by omega)]; omega)]
theorem FTL.n6 (h : FTL q c pl σ0 σ) : ¬ gI σ 24 6 = ι 0 := by
  have := h.1.2.2.1; have := h.1.2.1
  rw [h.1.2.2.2.1, ι_eq (by omega) (by omega)]; omega
theorem g50 (h : FTL q c pl σ0 σ) : Wp (pcall 50 [.ref 24, .int y] σ) (RV (FTL q c pl σ0)) := by
  refine Wp.le (M_50 rfl h.lay) ?_
  rw [if_pos h.n6]
  refine Wp.retV ⟨⟨h.lay, h.1.2.1, h.1.2.2.1, by rw [gI_n (by omega)]; exact h.1.2.2.2.1, by rw [gI_n (by omega)]; exact h.1.2.2.2.2.1, gI_s, h.1.2.2.2.2.2.2⟩, h.2.m24 (by omega)⟩
theorem g66 (h : FTL q c pl σ0 σ) : Wp (pcall 66 [.ref 24, .int y] σ) (RV (FTL q c pl σ0)) := by
  refine Wp.le (M_66 rfl h.lay) ?_
  rw [g58 h, bI_ret, if_neg (fun g => g rfl)]
  refine Wp.cV (g50 h) fun τ h => ?_
  rw [g43 h, bV_ret]; exact Wp.retV h
theorem g51 (h : FTL q c pl σ0 σ) : Wp (pcall 51 [.ref 24, .int y] σ) (RI (ι 0) (FTL q c pl σ0)) := by
  refine Wp.le (M_51 rfl h.lay) ?_
  rw [h.1.2.2.2.2.2.1, if_neg (by decide)]
  refine Wp.cV (g50 h) fun τ h => ?_
  rw [g43 h, bV_ret, if_pos h.n6]; exact Wp.retI h
theorem g54 (h : FTL q c pl σ0 σ) : Wp (pcall 54 [.ref 24, .int y] σ) (RI (ν 1) (FTL q c pl σ0)) := by
  refine Wp.le (M_54 rfl h.lay) ?_
  rw [h.1.2.2.2.2.2.1, if_neg (by decide)]
  refine Wp.cV (g50 h) fun τ h => ?_
  rw [g43 h, bV_ret, if_pos h.n6]; exact Wp.retI h
theorem n24q (hq : isP q) {a : Nat} (h1 : q ≤ a) (h2 : a ≤ q + 9) : 24 ≠ a := by rcases hq with rfl | rfl <;> omega
theorem FTL.m (h : FTL q c pl σ0 σ) (hq : isP q) {a : Nat} (h1 : q ≤ a) (h2 : a ≤ q + 9) : FTL q c pl σ0 (sI σ a i y) := h.up (GL.rf.m ⟨h1, h2⟩ hq) rfl (fun j _ => gI_c (n24q hq h1 h2))
theorem g33 (hq : isP q) (h : FTL q c pl σ0 σ) : Wp (pcall 33 [.ref q, .int y] σ) (RV (FTL q c pl σ0)) := by
  refine Wp.le (M_33 hq rfl h.lay) ?_
  by_cases e1 : gI σ q 0 < ι 0
  · rw [if_pos e1]; exact Wp.retV h
  rw [if_neg e1]
  by_cases e2 : ι 8 ≤ gI σ q 0
  · rw [if_pos e2]; exact Wp.retV h
  rw [if_neg e2]
  obtain ⟨k, hk, ek⟩ := ι_of e1 (Int32.not_le.mp e2) (by omega)
  rw [ek, gd_inb hk (by omega)]
  exact Wp.retV ((h.m hq (by omega) (by omega)).m hq (by omega) (by omega))
theorem g35 (hq : isP q) (h : FTL q c pl σ0 σ) : Wp (pcall 35 [.ref q, .int y, .int s] σ) (RV (FTL q c pl σ0)) := by
  refine Wp.le (M_35 hq rfl h.lay) ?_
  by_cases e1 : gI σ q 1 < ι 0
  · rw [if_pos e1]; exact Wp.retV h
  rw [if_neg e1]
  by_cases e2 : ι 12 ≤ gI σ q 1
  · rw [if_pos e2]; exact Wp.retV h
  rw [if_neg e2]
  obtain ⟨k, hk, ek⟩ := ι_of e1 (Int32.not_le.mp e2) (by omega)
  rw [ek, gd_inb hk (by omega)]
  by_cases e3 : s = ι 0
  · rw [if_pos e3]; exact Wp.retV (((h.m hq (by omega) (by omega)).m hq (by omega) (by omega)).m hq (by omega) (by omega))
  · rw [if_neg e3]; exact Wp.retV (((h.m hq (by omega) (by omega)).m hq (by omega) (by omega)).m hq (by omega) (by omega))
theorem g36 (hq : isP q) (h : FTL q c pl σ0 σ) : Wp (pcall 36 [.ref q, .int y, .int s] σ) (RV (FTL q c pl σ0)) := by
  refine Wp.le (M_36 hq rfl h.lay) ?_
  generalize y * ι 12 + gI σ q 1 - ι 1 = r
  by_cases e1 : r < ι 0
  · rw [if_pos e1]; exact Wp.retV h
  rw [if_neg e1]
  by_cases e2 : ι 96 ≤ r
  · rw [if_pos e2]; exact Wp.retV h
  rw [if_neg e2]
  obtain ⟨k, hk, ek⟩ := ι_of e1 (Int32.not_le.mp e2) (by omega)
  rw [ek, gd_inb hk (by omega)]
  exact Wp.retV (h.m hq (by omega) (by omega))
theorem g37 (hq : isP q) (h : FTL q c pl σ0 σ) : Wp (pcall 37 [.ref q, .int y, .int s] σ) (RV (FTL q c pl σ0)) := by
  refine Wp.le (M_37 hq rfl h.lay) ?_
  by_cases e1 : y < ι 0
  · rw [if_pos e1]; exact Wp.retV h
  rw [if_neg e1]
  by_cases e2 : ι 8 ≤ y
  · rw [if_pos e2]; exact Wp.retV h
  rw [if_neg e2]
  by_cases e3 : s < ι 0
  · rw [if_pos e3]; exact Wp.retV h
  rw [if_neg e3]
  by_cases e4 : ι 8 ≤ s
  · rw [if_pos e4]; exact Wp.retV h
  rw [if_neg e4]
  obtain ⟨k, hk, ek⟩ := ι_of e1 (Int32.not_le.mp e2) (by omega)
  obtain ⟨l, hl, el⟩ := ι_of e3 (Int32.not_le.mp e4) (by omega)
  rw [ek, el, gd_inb hk (by omega), gd_inb hk (by omega), gd_inb hl (by omega), gd_inb hl (by omega)]
  exact Wp.retV (((h.m hq (by omega) (by omega)).m hq (by omega) (by omega)).m hq (by omega) (by omega))
theorem g53l (hq : isP q) {v : Value} : ∀ m i σ, i + m = 8 → FTL q c pl σ0 σ → Wp (C_53_36 v (ι i) σ) (RV (FTL q c pl σ0)) := by
  intro m
  induction m with
  | zero =>
    intro i σ hi h
    refine Wp.le (T_53_36 rfl h.lay) ?_
    have e31 : pcall 31 [.ref q] σ = some (1, .int (gI σ q 0), σ) := (M_31 hq rfl h.lay).eq rfl
    rw [h.u8 hq, e31, bI_ret]
    by_cases e : gI σ q 0 ≤ ι i
    · rw [if_pos e]; exact Wp.retV h
    · rw [if_neg e, if_pos (by rw [ι_le (by omega) (by omega)]; omega)]; exact Wp.retV h
  | succ m ih =>
    intro i σ hi h
    refine Wp.le (T_53_36 rfl h.lay) ?_
    have e31 : pcall 31 [.ref q] σ = some (1, .int (gI σ q 0), σ) := (M_31 hq rfl h.lay).eq rfl
    rw [h.u8 hq, e31, bI_ret]
    by_cases e : gI σ q 0 ≤ ι i
    · rw [if_pos e]; exact Wp.retV h
    · rw [if_neg e, if_neg (by rw [ι_le (by omega) (by omega)]; omega), h.u8 hq]
      refine Wp.cI (g51 h) fun τ h => ?_
      refine Wp.cV (g36 hq h) fun τ h => ?_
      rw [ι_add]; exact ih (i + 1) τ (by omega) h
theorem gm219 (h : FML c pl μ0 μ) (hw : 1000 ≤ w) (hw2 : w < 1026) : pcall 219 [.ref 61, .ref w] μ = some (1, .int (ι 0), μ) := by
  obtain ⟨i1, rfl⟩ : ∃ i1, w = i1 + 1000 := ⟨w - 1000, by omega⟩
  refine Wp.eqI (Wp.le (M_219 (by omega) rfl h.lay) ?_)
  rw [if_pos h.n22]
  refine Wp.le (T_219_39 (by omega) rfl h.lay) ?_
  rw [if_pos rfl, gd_pos (show narrow .boolean (.int (ι 0)) = .int (ι 0) from narrow_bz false)]
  exact Wp.retI rfl
theorem gm220 (h : FML c pl μ0 μ) : pcall 220 [.ref 61, .int y] μ = some (0, .null, μ) := by
  refine (M_220 rfl h.lay).eq ?_
  rw [if_neg h.n22]
theorem gm231 (h : FML c pl μ0 μ) : pcall 231 [.ref 61, .int y] μ = some (0, .null, μ) := by
  refine (M_231 rfl h.lay).eq ?_
  rw [if_pos h.n22, if_pos h.n22]
theorem gm229 (h : FML c pl μ0 μ) : pcall 229 [.ref 61, .int y, .int s] μ = some (1, .int (ι 0), μ) := by
  refine (M_229 rfl h.lay).eq ?_
  rw [if_neg h.n22]
theorem gm228 (h : FML c pl μ0 μ) : pcall 228 [.ref 61, .int y, .int s] μ = some (1, .int (ι 0), μ) := by
  refine (M_228 rfl h.lay).eq ?_
  rw [gm229 h, bI_ret, if_pos h.n22]
theorem gm233 (h : FML c pl μ0 μ) : pcall 233 [.ref 61] μ = some (1, .int (ι 0), μ) := by
  refine (M_233 rfl h.lay).eq ?_
  rw [gm229 h, bI_ret, if_pos h.n22, if_pos h.n22]
/-! marks, numbers -/
theorem nxt_ok (t : Txt n x) (h : okTk n x tk) : okTk n x (tkS n x tk.2.2) ∧ tk.2.2 ≤ (tkS n x tk.2.2).2.1 := tkS_ok t h.2.1
theorem l66y (hq : isP q) (t : Txt n x) (ok : okTk n x tk) (h : PL n x q d tk σ0 σ) (hc : c < 256) (hs : sgS x tk c = true) : Wp (pcall 66 [.ref 24, .int (ι c)] σ) (RV (PL n x q d (tkS n x tk.2.2) σ0)) := by
  refine Wp.le (M_66 rfl h.lay) ?_
  rw [l58 t ok h hc, bI_ret, if2, if_pos hs]
  exact Wp.cV (l43 hq t ok h) fun τ h => Wp.retV h
theorem l66n (t : Txt n x) (ok : okTk n x tk) (h : PL n x q d tk σ0 σ) (hc : c < 256) (hs : sgS x tk c = false) : Wp (pcall 66 [.ref 24, .int (ι c)] σ) (RV (FTL q 1 tk.2.1 σ0)) := by
  refine Wp.le (M_66 rfl h.lay) ?_
  rw [l58 t ok h hc, bI_ret, if2, hs, if_neg (by decide)]
  refine Wp.cV (l50 h (by omega) (by omega)) fun τ h => ?_
  rw [g43 h, bV_ret]; exact Wp.retV h
theorem l231y (t : Txt n x) (ok : okTk n x tk) (h : ML n x d tk μ0 μ) (hc : c < 256) (hs : sgS x tk c = true) : Wp (pcall 231 [.ref 61, .int (ι c)] μ) (RV (ML n x d (tkS n x tk.2.2) μ0)) := by
  refine Wp.le (M_231 rfl h.lay) ?_
  rw [h.1.2.1, if_neg (fun g => g rfl), l222 t ok h hc, bI_ret, if2, if_pos hs, h.1.2.1, if_neg (fun g => g rfl)]
  exact Wp.cV (l212 t ok h) fun τ h => Wp.retV h
theorem l231n (t : Txt n x) (ok : okTk n x tk) (h : ML n x d tk μ0 μ) (hc : c < 256) (hs : sgS x tk c = false) : Wp (pcall 231 [.ref 61, .int (ι c)] μ) (RV (FML 1 tk.2.1 μ0)) := by
  refine Wp.le (M_231 rfl h.lay) ?_
  rw [h.1.2.1, if_neg (fun g => g rfl), l222 t ok h hc, bI_ret, if2, hs, if_neg (by decide)]
  refine Wp.cV (l220 h (by omega) (by omega)) fun τ h => ?_
  rw [if_pos h.n22]; exact Wp.retV h
theorem lnum (t : Txt n x) (ok : okTk n x tk) (hk : tk.1 = 2) : nuS x tk.2.1 (min (tk.2.2 - tk.2.1) 4) < 10000 := num_at (z := (tk, (0, fun _ => ι 0))) t ok hk
theorem lk2 (ok : okTk n x tk) (h : ML n x d tk μ0 μ) : (gI μ 61 18 = ι 2) = (tk.1 = 2) := by
  obtain ⟨o1, o2, o3, o4, o5, o6, o7⟩ := ok
  rw [h.1.2.2.1.1, ι_eq (by split <;> omega) (by omega)]
  apply propext
  split <;> omega
/-- the number at the token: too long, above the most, or it -/
def numV (x : Nat → Nat) (tk : Nat × Nat × Nat) : Nat := nuS x tk.2.1 (min (tk.2.2 - tk.2.1) 4)
/-- a number up to m is read on both sides -/
theorem l229 {m : Nat} (hm : m < 10000) (t : Txt n x) (ok : okTk n x tk) (h : ML n x d tk μ0 μ) : (tk.1 = 2 ∧ ¬ 4 < tk.2.2 - tk.2.1 ∧ numV x tk ≤ m → pcall 229 [.ref 61, .int (ι 0), .int (ι m)] μ = some (1, .int (ι (numV x tk)), μ)) ∧ (tk.1 = 2 ∧ (4 < tk.2.2 - tk.2.1 ∨ m < numV x tk) → Wp (pcall 229 [.ref 61, .int (ι 0), .int (ι m)] μ) (RI (ι 0) (FMK 2 tk.2.1 μ0 μ))) ∧ (tk.1 ≠ 2 → Wp (pcall 229 [.ref 61, .int (ι 0), .int (ι m)] μ) (RI (ι 0) (FMK 1 tk.2.1 μ0 μ))) := by
  have h7 := t.1
  have o1 := ok.1; have o2 := ok.2.1
  have bad : ∀ c, c ≠ 0 → c ≤ 5 → Wp (bV (pcall 220 [.ref 61, .int (ι c)] μ) fun σ1 => if ¬ gI σ1 61 22 = ι 0 then some (1, .int (ι 0), σ1) else some (1, .int (gI σ1 61 19), σ1)) (RI (ι 0) (FMK c tk.2.1 μ0 μ)) := fun c a b => Wp.cV (l220k h a b) fun τ f => by rw [if_pos f.1.n22]; exact Wp.retI f
  have esub : gI μ 61 21 - gI μ 61 20 = ι (tk.2.2 - tk.2.1) := by rw [h.1.2.2.1.2.1, h.1.2.2.1.2.2.1, ι_sub o1]
  have k2 := lk2 ok h
  have e19 : tk.1 = 2 → ¬ 4 < tk.2.2 - tk.2.1 → gI μ 61 19 = ι (numV x tk) := fun e2 el => by
    rw [h.1.2.2.1.2.2.2.2 e2 (by omega)]; unfold numV; congr 2; omega
  refine ⟨fun hc => ?_, fun hc => ?_, fun hc => ?_⟩
  · have hn := lnum t ok hc.1
    refine (M_229 rfl h.lay).eq ?_
    rw [if_pos h.1.2.1, if_pos (by rw [k2]; exact hc.1), esub, if_neg (by rw [ι_lt (by omega) (by omega)]; exact hc.2.1), e19 hc.1 hc.2.1, if_neg (by rw [ι_lt (by unfold numV; omega) (by omega)]; omega), if_pos (by rw [ι_le (by unfold numV; omega) (by omega)]; exact hc.2.2), if_neg (fun g => g h.1.2.1)]
  · have hn := lnum t ok hc.1
    refine Wp.le (M_229 rfl h.lay) ?_
    rw [if_pos h.1.2.1, if_pos (by rw [k2]; exact hc.1), esub]
    by_cases el : 4 < tk.2.2 - tk.2.1
    · rw [if_pos (by rw [ι_lt (by omega) (by omega)]; exact el)]; exact bad 2 (by omega) (by omega)
    · have hv : m < numV x tk := by rcases hc.2 with c | c; exact absurd c el; exact c
      rw [if_neg (by rw [ι_lt (by omega) (by omega)]; exact el), e19 hc.1 el, if_neg (by rw [ι_lt (by unfold numV; omega) (by omega)]; omega), if_neg (by rw [ι_le (by unfold numV; omega) (by omega)]; omega)]; exact bad 2 (by omega) (by omega)
  · refine Wp.le (M_229 rfl h.lay) ?_
    rw [if_pos h.1.2.1, if_neg (by rw [k2]; exact hc)]; exact bad 1 (by omega) (by omega)
/-- both read a number up to 9 -/
def NR (n : Nat) (x : Nat → Nat) (q : Nat) (d d' : Dx) (tk : Nat × Nat × Nat) (σ0 μ0 μ : pS) (zc zm : pZ) : Prop := (∃ v, v ≤ 9 ∧ tk.1 = 2 ∧ RI (ι v) (PL n x q d (tkS n x tk.2.2) σ0) zc ∧ RI (ι v) (fun τ => ML n x d' (tkS n x tk.2.2) μ0 τ ∧ KM μ τ) zm) ∨ ∃ c pl, RI (ι 0) (FTL q c pl σ0) zc ∧ RI (ι 0) (FMK c pl μ0 μ) zm
theorem num_ok {d' : Dx} (hq : isP q) (t : Txt n x) (ok : okTk n x tk) (h1 : PL n x q d tk σ0 σ) (h2 : ML n x d' tk μ0 μ) : R2 (pcall 51 [.ref 24, .int (ι 9)] σ) (pcall 228 [.ref 61, .int (ι 0), .int (ι 9)] μ) (NR n x q d d' tk σ0 μ0 μ) := by
  have h7 := t.1
  have o1 := ok.1; have o2 := ok.2.1; have o6 := ok.2.2.2.2.2.1
  obtain ⟨m1, m2, m3⟩ := l229 (m := 9) (by omega) t ok h2
  refine R2.lee (M_51 rfl h1.lay) (M_228 rfl h2.lay) ?_
  have fb : ∀ {d1 d2 : Option pZ} {c pl}, Wp d1 (RI (ι 0) (FTL q c pl σ0)) → Wp d2 (RI (ι 0) (FMK c pl μ0 μ)) → R2 d1 d2 (NR n x q d d' tk σ0 μ0 μ) := fun ⟨a, ea, ha⟩ ⟨b, eb, hb⟩ => ⟨a, b, ea, eb, Or.inr ⟨_, _, ha, hb⟩⟩
  have cb : ∀ c, c ≠ 0 → c ≤ 5 → Wp (bV (pcall 50 [.ref 24, .int (ι c)] σ) fun σ3 => bV (pcall 43 [.ref 24] σ3) fun σ4 => if ¬ gI σ4 24 6 = ι 0 then some (1, .int (ι 0), σ4) else some (1, .int (gI σ3 24 5), σ4)) (RI (ι 0) (FTL q c tk.2.1 σ0)) := fun c a b => Wp.cV (l50 h1 a b) fun τ f => by
    rw [g43 f, bV_ret, if_pos f.n6]; exact Wp.retI f
  have mb : ∀ c, Wp (pcall 229 [.ref 61, .int (ι 0), .int (ι 9)] μ) (RI (ι 0) (FMK c tk.2.1 μ0 μ)) → Wp (bI (pcall 229 [.ref 61, .int (ι 0), .int (ι 9)] μ) fun r1 σ1 => if ¬ gI σ1 61 22 = ι 0 then some (1, .int r1, σ1) else bV (pcall 212 [.ref 61] σ1) fun σ2 => some (1, .int r1, σ2)) (RI (ι 0) (FMK c tk.2.1 μ0 μ)) := fun c w => Wp.cI w fun τ f => by rw [if_pos f.1.n22]; exact Wp.retI f
  have ek : (gI σ 24 4 = ι 2) = (tk.1 = 2) := by rw [h1.1.2.2.1.1, ι_eq (by omega) (by omega)]
  by_cases e2 : tk.1 = 2
  · have hn := lnum t ok e2
    have e5 : gI σ 24 5 = ι (numV x tk) := h1.1.2.2.1.2.2.2.2 e2
    rw [if_pos (by rw [ek]; exact e2), l52 t ok h1, bI_ret, if2]
    have c51 : ∀ v w, Wp (C_51_31 v w σ) (RI (ι 0) (FTL q 2 tk.2.1 σ0)) := fun v w => Wp.le (T_51_31 rfl h1.lay) (cb 2 (by omega) (by omega))
    by_cases el : 4 < tk.2.2 - tk.2.1
    · rw [if_pos (decide_eq_true el)]
      exact fb (c51 _ _) (mb 2 (m2 ⟨e2, Or.inl el⟩))
    · rw [if_neg (by rw [decide_eq_false el]; decide), e5]
      by_cases ev : numV x tk ≤ 9
      · rw [if_pos (by rw [ι_le (by unfold numV; omega) (by omega)]; exact ev), m1 ⟨e2, el, ev⟩, bI_ret, if_neg (fun g => g h2.1.2.1)]
        obtain ⟨a1, ea1, v1, τ1, rfl, p1⟩ := l43 hq t ok h1
        obtain ⟨a2, ea2, v2, τ2, rfl, p2⟩ := l212k t ok h2
        rw [ea1, bV_ret, ea2, bV_ret, if_neg (fun g => g p1.1.2.1)]
        exact ⟨_, _, rfl, rfl, Or.inl ⟨numV x tk, ev, e2, ⟨_, rfl, p1⟩, ⟨_, rfl, p2⟩⟩⟩
      · rw [if_neg (by rw [ι_le (by unfold numV; omega) (by omega)]; exact ev)]
        exact fb (c51 _ _) (mb 2 (m2 ⟨e2, Or.inr (by omega)⟩))
  · rw [if_neg (by rw [ek]; exact e2)]
    exact fb (cb 1 (by omega) (by omega)) (mb 1 (m3 e2))
end LINE0
