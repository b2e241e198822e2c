/-! ===== all that is kept between calls, on both sides ===== -/
section STATE
/-- acts kept: how many, the worlds ahead of them; what is seen; status -/
abbrev Me : Type := (Nat × (Nat → Wd)) × Sn × (Nat → Int32)
variable {P T : Nat} {W R : Rl} {A B : Wd} {σ τ υ σ0 : pS} {q c c' n k i j off off' u a sp dp : Nat} {m : Me} {y : Int32}
def okMe (P T : Nat) (A : Wd) (m : Me) : Prop := m.1.1 ≤ 40 ∧ (∀ k, k < m.1.1 → okW P T (m.1.2 k) ∧ like A (m.1.2 k)) ∧ okSn P T m.2.1
theorem okMe.lk (h : okMe P T A m) (l : like A B) : okMe P T B m := ⟨h.1, fun k hk => ⟨(h.2.1 k hk).1, l.symm.trans (h.2.1 k hk).2⟩, h.2.2⟩
/-- a row of the class -/
def RowC (P T : Nat) (B : Wd) (σ : pS) (c off : Nat) : Prop := gI σ c off = B 0 0 ∧ (∀ t, t < T → gI σ c (off + (1 + t)) = B 1 t) ∧ (∀ t, t < T → gI σ c (off + (13 + t)) = B 2 t) ∧ (∀ p, p < P → gI σ c (off + (25 + p)) = B 3 p) ∧ ∀ p, p < P → ∀ t, t < T → gI σ c (off + (33 + (12 * p + t))) = B 4 (12 * p + t)
theorem RowC.mv (h : RowC P T B σ c off) (hP : P ≤ 8) (hT : T ≤ 12) (e : ∀ i, i < 129 → gI τ c' (off' + i) = gI σ c (off + i)) : RowC P T B τ c' off' := by
  obtain ⟨h1, h2, h3, h4, h5⟩ := h
  refine ⟨?_, fun t ht => by rw [e _ (by omega)]; exact h2 t ht, fun t ht => by rw [e _ (by omega)]; exact h3 t ht, fun p hp => by rw [e _ (by omega)]; exact h4 p hp, fun p hp t ht => by rw [e _ (by omega)]; exact h5 p hp t ht⟩
  have := e 0 (by omega)
  rw [Nat.add_zero, Nat.add_zero] at this
  rw [this]; exact h1
theorem RowA.mv (h : RowA P T B σ c off) (hP : P ≤ 8) (hT : T ≤ 12) (e : ∀ i, i < 129 → gI τ c' (off' + i) = gI σ c (off + i)) : RowA P T B τ c' off' := by
  obtain ⟨h1, h2, h3, h4, h5⟩ := h
  refine ⟨?_, fun t ht => by rw [e _ (by omega)]; exact h2 t ht, fun t ht => by rw [e _ (by omega)]; exact h3 t ht, fun p hp t ht => by rw [e _ (by omega)]; exact h4 p hp t ht, fun p hp => by rw [e _ (by omega)]; exact h5 p hp⟩
  have := e 0 (by omega)
  rw [Nat.add_zero, Nat.add_zero] at this
  rw [this]; exact h1
/-- the memory as the class keeps it -/
def MeC (P T : Nat) (m : Me) (σ : pS) (c : Nat) : Prop := gI σ c 1 = ι m.1.1 ∧ (∀ k, k < m.1.1 → RowC P T (m.1.2 k) σ (c + 1) (129 * k)) ∧ SeC σ c m.2.1 ∧ ∀ i, i < 3 → gI σ (c + 3) i = m.2.2 i
theorem MeC.mv (h : MeC P T m σ c) (ok : okMe P T A m) (hP : P ≤ 8) (hT : T ≤ 12) (e0 : gI τ c' 1 = gI σ c 1) (e3 : gI τ c' 3 = gI σ c 3) (e1 : ∀ i, i < 5160 → gI τ (c' + 1) i = gI σ (c + 1) i) (e2 : ∀ i, i < 24 → gI τ (c' + 2) i = gI σ (c + 2) i) (e4 : ∀ i, i < 3 → gI τ (c' + 3) i = gI σ (c + 3) i) : MeC P T m τ c' := by
  have h40 := ok.1; have h8 := ok.2.2.1
  obtain ⟨h1, h2, ⟨h3, h4⟩, h5⟩ := h
  refine ⟨e0.trans h1, fun k hk => (h2 k hk).mv hP hT (fun i hi => e1 _ (by omega)), ⟨e3.trans h3, fun k hk => ?_⟩, fun i hi => (e4 i hi).trans (h5 i hi)⟩
  rw [e2 _ (by omega), e2 _ (by omega), e2 _ (by omega)]; exact h4 k hk
/-- the memory as the reference keeps it: the fields of the counts, the rows -/
def MeG (P T : Nat) (m : Me) (σ : pS) (fa fs c0 c1 c2 c3 c4 : Nat) : Prop := gI σ 61 fa = ι m.1.1 ∧ (∀ k, k < m.1.1 → RowA P T (m.1.2 k) σ c0 (129 * k)) ∧ gI σ 61 fs = ι m.2.1.1 ∧ (∀ k, k < m.2.1.1 → gI σ c1 k = ι (m.2.1.2 k).1 ∧ gI σ c2 k = ι (m.2.1.2 k).2.1 ∧ gI σ c3 k = ι (m.2.1.2 k).2.2) ∧ ∀ i, i < 3 → gI σ c4 i = m.2.2 i
theorem MeG.mv {fa fs c0 c1 c2 c3 c4 fa' fs' d0 d1 d2 d3 d4 : Nat} (h : MeG P T m σ fa fs c0 c1 c2 c3 c4) (ok : okMe P T A m) (hP : P ≤ 8) (hT : T ≤ 12) (ea : gI τ 61 fa' = gI σ 61 fa) (es : gI τ 61 fs' = gI σ 61 fs) (e0 : ∀ i, i < 5160 → gI τ d0 i = gI σ c0 i) (e1 : ∀ i, i < 8 → gI τ d1 i = gI σ c1 i) (e2 : ∀ i, i < 8 → gI τ d2 i = gI σ c2 i) (e3 : ∀ i, i < 8 → gI τ d3 i = gI σ c3 i) (e4 : ∀ i, i < 3 → gI τ d4 i = gI σ c4 i) : MeG P T m τ fa' fs' d0 d1 d2 d3 d4 := by
  have h40 := ok.1; have h8 := ok.2.2.1
  obtain ⟨h1, h2, h3, h4, h5⟩ := h
  refine ⟨ea.trans h1, fun k hk => (h2 k hk).mv hP hT (fun i hi => e0 _ (by omega)), es.trans h3, fun k hk => ?_, fun i hi => (e4 i hi).trans (h5 i hi)⟩
  rw [e1 k (by omega), e2 k (by omega), e3 k (by omega)]; exact h4 k hk
abbrev MeM (P T : Nat) (m : Me) (σ : pS) : Prop := MeG P T m σ 32 33 79 85 86 87 73
abbrev MeI (P T : Nat) (m : Me) (σ : pS) : Prop := MeG P T m σ 51 52 93 94 95 96 97
def okTp (tp : Nat × (Nat → Int32)) : Prop := tp.1 ≤ 700 ∧ ∀ i, i < tp.1 → ∃ b, b < 256 ∧ tp.2 i = ι b
def CI (P T : Nat) (W R : Rl) (A : Wd) (m : Me) (im : Option (Wd × Me)) (tp : Nat × (Nat → Int32)) (fp : Int32) (σ : pS) (q : Nat) : Prop :=
  (CN P T W R A σ q)
  ∧ (gR σ 0 4 = some q)
  ∧ (gR σ 0 5 = some (15 - q))
  ∧ (okTp tp)
  ∧ (gI σ 0 1 = ι tp.1)
  ∧ (∀ i, i < tp.1 → gI σ 1 i = tp.2 i)
  ∧ (gI σ 0 3 = fp)
  ∧ (okMe P T A m)
  ∧ (MeC P T m σ 32)
  ∧ (gI σ 0 10 = bz im.isSome)
  ∧ (gI σ 36 10 = ι 0)
  ∧ (∀ B m', im = some (B, m') → okMe P T A m' ∧ CW P T W R B σ 36 q ∧ STL P T W R B σ 36 ∧ like A B ∧ MeC P T m' σ 43)
theorem CI.cnw {P T : Nat} {W R : Rl} {A : Wd} {m : Me} {im : Option (Wd × Me)} {tp : Nat × (Nat → Int32)} {fp : Int32} {σ : pS} {q : Nat} (h : CI P T W R A m im tp fp σ q) : CN P T W R A σ q := h.1
theorem CI.tld {P T : Nat} {W R : Rl} {A : Wd} {m : Me} {im : Option (Wd × Me)} {tp : Nat × (Nat → Int32)} {fp : Int32} {σ : pS} {q : Nat} (h : CI P T W R A m im tp fp σ q) : gR σ 0 4 = some q := h.2.1
theorem CI.drf {P T : Nat} {W R : Rl} {A : Wd} {m : Me} {im : Option (Wd × Me)} {tp : Nat × (Nat → Int32)} {fp : Int32} {σ : pS} {q : Nat} (h : CI P T W R A m im tp fp σ q) : gR σ 0 5 = some (15 - q) := h.2.2.1
theorem CI.tok {P T : Nat} {W R : Rl} {A : Wd} {m : Me} {im : Option (Wd × Me)} {tp : Nat × (Nat → Int32)} {fp : Int32} {σ : pS} {q : Nat} (h : CI P T W R A m im tp fp σ q) : okTp tp := h.2.2.2.1
theorem CI.tln {P T : Nat} {W R : Rl} {A : Wd} {m : Me} {im : Option (Wd × Me)} {tp : Nat × (Nat → Int32)} {fp : Int32} {σ : pS} {q : Nat} (h : CI P T W R A m im tp fp σ q) : gI σ 0 1 = ι tp.1 := h.2.2.2.2.1
theorem CI.tby {P T : Nat} {W R : Rl} {A : Wd} {m : Me} {im : Option (Wd × Me)} {tp : Nat × (Nat → Int32)} {fp : Int32} {σ : pS} {q : Nat} (h : CI P T W R A m im tp fp σ q) : ∀ i, i < tp.1 → gI σ 1 i = tp.2 i := h.2.2.2.2.2.1
theorem CI.fpl {P T : Nat} {W R : Rl} {A : Wd} {m : Me} {im : Option (Wd × Me)} {tp : Nat × (Nat → Int32)} {fp : Int32} {σ : pS} {q : Nat} (h : CI P T W R A m im tp fp σ q) : gI σ 0 3 = fp := h.2.2.2.2.2.2.1
theorem CI.mok {P T : Nat} {W R : Rl} {A : Wd} {m : Me} {im : Option (Wd × Me)} {tp : Nat × (Nat → Int32)} {fp : Int32} {σ : pS} {q : Nat} (h : CI P T W R A m im tp fp σ q) : okMe P T A m := h.2.2.2.2.2.2.2.1
theorem CI.mem {P T : Nat} {W R : Rl} {A : Wd} {m : Me} {im : Option (Wd × Me)} {tp : Nat × (Nat → Int32)} {fp : Int32} {σ : pS} {q : Nat} (h : CI P T W R A m im tp fp σ q) : MeC P T m σ 32 := h.2.2.2.2.2.2.2.2.1
theorem CI.im0 {P T : Nat} {W R : Rl} {A : Wd} {m : Me} {im : Option (Wd × Me)} {tp : Nat × (Nat → Int32)} {fp : Int32} {σ : pS} {q : Nat} (h : CI P T W R A m im tp fp σ q) : gI σ 0 10 = bz im.isSome := h.2.2.2.2.2.2.2.2.2.1
theorem CI.i36 {P T : Nat} {W R : Rl} {A : Wd} {m : Me} {im : Option (Wd × Me)} {tp : Nat × (Nat → Int32)} {fp : Int32} {σ : pS} {q : Nat} (h : CI P T W R A m im tp fp σ q) : gI σ 36 10 = ι 0 := h.2.2.2.2.2.2.2.2.2.2.1
theorem CI.img {P T : Nat} {W R : Rl} {A : Wd} {m : Me} {im : Option (Wd × Me)} {tp : Nat × (Nat → Int32)} {fp : Int32} {σ : pS} {q : Nat} (h : CI P T W R A m im tp fp σ q) : ∀ B m', im = some (B, m') → okMe P T A m' ∧ CW P T W R B σ 36 q ∧ STL P T W R B σ 36 ∧ like A B ∧ MeC P T m' σ 43 := h.2.2.2.2.2.2.2.2.2.2.2
def MI (P T : Nat) (W R : Rl) (A : Wd) (m : Me) (im : Option (Wd × Me)) (tp : Nat × (Nat → Int32)) (fp : Int32) (σ : pS) : Prop :=
  (CM P T W R A σ)
  ∧ (A 0 1 = ι 0)
  ∧ (okTp tp)
  ∧ (gI σ 61 15 = ι tp.1)
  ∧ (∀ i, i < tp.1 → gI σ 74 i = tp.2 i)
  ∧ (gI σ 61 24 = fp)
  ∧ (okMe P T A m)
  ∧ (MeM P T m σ)
  ∧ (gI σ 61 50 = bz im.isSome)
  ∧ (∀ B m', im = some (B, m') → okMe P T A m' ∧ okW P T B ∧ like A B ∧ RowA P T B σ 92 0 ∧ MeI P T m' σ)
theorem MI.cmw {P T : Nat} {W R : Rl} {A : Wd} {m : Me} {im : Option (Wd × Me)} {tp : Nat × (Nat → Int32)} {fp : Int32} {σ : pS} (h : MI P T W R A m im tp fp σ) : CM P T W R A σ := h.1
theorem MI.sl0 {P T : Nat} {W R : Rl} {A : Wd} {m : Me} {im : Option (Wd × Me)} {tp : Nat × (Nat → Int32)} {fp : Int32} {σ : pS} (h : MI P T W R A m im tp fp σ) : A 0 1 = ι 0 := h.2.1
theorem MI.tok {P T : Nat} {W R : Rl} {A : Wd} {m : Me} {im : Option (Wd × Me)} {tp : Nat × (Nat → Int32)} {fp : Int32} {σ : pS} (h : MI P T W R A m im tp fp σ) : okTp tp := h.2.2.1
theorem MI.tln {P T : Nat} {W R : Rl} {A : Wd} {m : Me} {im : Option (Wd × Me)} {tp : Nat × (Nat → Int32)} {fp : Int32} {σ : pS} (h : MI P T W R A m im tp fp σ) : gI σ 61 15 = ι tp.1 := h.2.2.2.1
theorem MI.tby {P T : Nat} {W R : Rl} {A : Wd} {m : Me} {im : Option (Wd × Me)} {tp : Nat × (Nat → Int32)} {fp : Int32} {σ : pS} (h : MI P T W R A m im tp fp σ) : ∀ i, i < tp.1 → gI σ 74 i = tp.2 i := h.2.2.2.2.1
theorem MI.fpl {P T : Nat} {W R : Rl} {A : Wd} {m : Me} {im : Option (Wd × Me)} {tp : Nat × (Nat → Int32)} {fp : Int32} {σ : pS} (h : MI P T W R A m im tp fp σ) : gI σ 61 24 = fp := h.2.2.2.2.2.1
theorem MI.mok {P T : Nat} {W R : Rl} {A : Wd} {m : Me} {im : Option (Wd × Me)} {tp : Nat × (Nat → Int32)} {fp : Int32} {σ : pS} (h : MI P T W R A m im tp fp σ) : okMe P T A m := h.2.2.2.2.2.2.1
theorem MI.mem {P T : Nat} {W R : Rl} {A : Wd} {m : Me} {im : Option (Wd × Me)} {tp : Nat × (Nat → Int32)} {fp : Int32} {σ : pS} (h : MI P T W R A m im tp fp σ) : MeM P T m σ := h.2.2.2.2.2.2.2.1
theorem MI.im0 {P T : Nat} {W R : Rl} {A : Wd} {m : Me} {im : Option (Wd × Me)} {tp : Nat × (Nat → Int32)} {fp : Int32} {σ : pS} (h : MI P T W R A m im tp fp σ) : gI σ 61 50 = bz im.isSome := h.2.2.2.2.2.2.2.2.1
theorem MI.img {P T : Nat} {W R : Rl} {A : Wd} {m : Me} {im : Option (Wd × Me)} {tp : Nat × (Nat → Int32)} {fp : Int32} {σ : pS} (h : MI P T W R A m im tp fp σ) : ∀ B m', im = some (B, m') → okMe P T A m' ∧ okW P T B ∧ like A B ∧ RowA P T B σ 92 0 ∧ MeI P T m' σ := h.2.2.2.2.2.2.2.2.2
variable {im : Option (Wd × Me)} {tp : Nat × (Nat → Int32)} {fp : Int32} {m2 : Me}
/-- the class's cells and references; the reference's -/
def CA (a : Nat) : Prop := a ≤ 60 ∨ Sc a
def VA (a f : Nat) : Prop := mov a f ∧ a ≠ 61
def MA (a : Nat) : Prop := (61 ≤ a ∧ a ≤ 97) ∨ Sc a
def VM (a f : Nat) : Prop := a = 61 ∧ f = 3
theorem STL.mv (h : STL P T W R A σ u) (e : gI τ u 11 = gI σ u 11) : STL P T W R A τ u := by unfold STL; rw [e]; exact h
/-- the class's state under what keeps its cells -/
theorem CI.fq {S : Nat → Prop} {V : Nat → Nat → Prop} (h : CI P T W R A m im tp fp σ q) (f : Fq S V σ τ) (hS : ∀ a, a < 47 → ¬ Sc a → ¬ S a) (hV : ∀ a f, V a f → mov a f) (h25 : ¬ V 25 0) (h36 : ¬ V 36 0) (h04 : ¬ V 0 4) (h05 : ¬ V 0 5) (e47 : gI τ 47 10 = ι 0) : CI P T W R A m im tp fp τ q := by
  have hq := h.cnw.1.isp
  have hw : ∀ w, w = 25 ∨ w = 36 → ∀ i, i < 5 → ¬ S (w + i) := fun w hw i hi => hS _ (by omega) (by unfold Sc; omega)
  have hqq : ∀ i, i < 5 ∨ i = 5 ∨ i = 6 ∨ i = 8 ∨ i = 9 → ¬ S (q + i) := fun i hi => hS _ (by rcases hq with e | e <;> omega) (by unfold Sc; rcases hq with e | e <;> omega)
  have k : ∀ a, a < 47 → ¬ Sc a → ∀ i, gI τ a i = gI σ a i := fun a h1 h2 i => f.i (hS a h1 h2) i
  have hP := h.cnw.1.1.P; have hT := h.cnw.1.1.T
  refine ⟨⟨h.cnw.1.fv f hV h25 (hw 25 (by omega)) hqq, h.cnw.2.1.mv (k 25 (by omega) (by unfold Sc; omega) 11), h.cnw.2.2.1, e47⟩, by rw [f.rr h04]; exact h.tld, by rw [f.rr h05]; exact h.drf, h.tok, by rw [k 0 (by omega) (by unfold Sc; omega)]; exact h.tln, fun i hi => by rw [k 1 (by omega) (by unfold Sc; omega)]; exact h.tby i hi, by rw [k 0 (by omega) (by unfold Sc; omega)]; exact h.fpl, h.mok, ?_, by rw [k 0 (by omega) (by unfold Sc; omega)]; exact h.im0, by rw [k 36 (by omega) (by unfold Sc; omega)]; exact h.i36, fun B m' e => ?_⟩
  · exact h.mem.mv h.mok hP hT (k 32 (by omega) (by unfold Sc; omega) 1) (k 32 (by omega) (by unfold Sc; omega) 3) (fun i _ => k 33 (by omega) (by unfold Sc; omega) i) (fun i _ => k 34 (by omega) (by unfold Sc; omega) i) (fun i _ => k 35 (by omega) (by unfold Sc; omega) i)
  · obtain ⟨h1, h2, h3, h4, h5⟩ := h.img B m' e
    exact ⟨h1, h2.fv f hV h36 (hw 36 (by omega)) hqq, h3.mv (k 36 (by omega) (by unfold Sc; omega) 11), h4, h5.mv h1 hP hT (k 43 (by omega) (by unfold Sc; omega) 1) (k 43 (by omega) (by unfold Sc; omega) 3) (fun i _ => k 44 (by omega) (by unfold Sc; omega) i) (fun i _ => k 45 (by omega) (by unfold Sc; omega) i) (fun i _ => k 46 (by omega) (by unfold Sc; omega) i)⟩
theorem CI.cq (h : CI P T W R A m im tp fp σ q) (f : CQ σ τ) : CI P T W R A m im tp fp τ q :=
  h.fq f.1 (fun a h1 h2 g => by unfold Cq at g; rcases g with g | g; exact h2 g; omega) Vw47 (fun v => absurd v.1 (by decide)) (fun v => absurd v.1 (by decide)) (fun v => absurd v.1 (by decide)) (fun v => absurd v.1 (by decide)) f.2
theorem CI.ma (h : CI P T W R A m im tp fp σ q) (f : Fq MA VM σ τ) : CI P T W R A m im tp fp τ q :=
  h.fq f (fun a h1 h2 g => by unfold MA at g; rcases g with g | g; omega; exact h2 g) (fun a f v => Or.inr (Or.inr (Or.inr v))) (fun v => absurd v.1 (by decide)) (fun v => absurd v.1 (by decide)) (fun v => absurd v.1 (by decide)) (fun v => absurd v.1 (by decide)) (by rw [f.i (by unfold MA Sc; omega)]; exact h.cnw.2.2.2)
theorem CA.cq (f : CQ σ τ) : Fq CA VA σ τ := f.1.mono (fun a s => by unfold CA; rcases s with s | s; exact Or.inr s; exact Or.inl (by omega)) (fun a f v => ⟨Vw47 a f v, by rw [v.1]; decide⟩)
theorem CM.fv {S : Nat → Prop} {V : Nat → Nat → Prop} (h : CM P T W R A σ) (f : Fq S V σ τ) (hV : ∀ a f, V a f → mov a f) (hS : ∀ a, 61 ≤ a → ¬ Sc a → ¬ S a) : CM P T W R A τ := by
  obtain ⟨a1, a2, a3, a4, a5, a6, a7, a8, a9, a10, a11, a12, a13, a14, a15, a16, a17, a18⟩ := h
  have k : ∀ a, 61 ≤ a → ¬ Sc a → ∀ i, gI τ a i = gI σ a i := fun a h1 h2 i => f.i (hS a h1 h2) i
  have k65 := k 65 (by omega) (by unfold Sc; omega)
  have k61 := k 61 (by omega) (by unfold Sc; omega)
  exact ⟨a1, f.lay hV a2, by rw [k65]; exact a3, by rw [k65]; exact a4, by rw [k65]; exact a5, by rw [k65]; exact a6, a7, a8, fun i hi => by rw [k 71 (by omega) (by unfold Sc; omega)]; exact a9 i hi, fun i hi => by rw [k 72 (by omega) (by unfold Sc; omega)]; exact a10 i hi, by rw [k61]; exact a11, by rw [k61]; exact a12, fun i hi => by rw [k 75 (by omega) (by unfold Sc; omega)]; exact a13 i hi, fun i hi => by rw [k 76 (by omega) (by unfold Sc; omega)]; exact a14 i hi, fun i hi j hj => by rw [k 77 (by omega) (by unfold Sc; omega)]; exact a15 i hi j hj, fun i hi => by rw [k 78 (by omega) (by unfold Sc; omega)]; exact a16 i hi, fun i hi => by rw [k 66 (by omega) (by unfold Sc; omega)]; exact a17 i hi, fun i hi => by rw [k 67 (by omega) (by unfold Sc; omega)]; exact a18 i hi⟩
/-- the reference's state, where its world is known again -/
theorem MI.st {A' : Wd} (h : MI P T W R A m im tp fp σ) (cm : CM P T W R A' τ) (l : like A A') (mok : okMe P T A' m2) (mem : MeM P T m2 τ) (e74 : ∀ i, gI τ 74 i = gI σ 74 i) (e61 : ∀ i, i = 15 ∨ i = 24 ∨ 50 ≤ i → gI τ 61 i = gI σ 61 i) (e92 : ∀ a, 92 ≤ a → ∀ i, gI τ a i = gI σ a i) : MI P T W R A' m2 im tp fp τ := by
  have hP := cm.ok.P; have hT := cm.ok.T
  refine ⟨cm, by rw [l.2.2]; exact h.sl0, h.tok, by rw [e61 15 (by omega)]; exact h.tln, fun i hi => by rw [e74]; exact h.tby i hi, by rw [e61 24 (by omega)]; exact h.fpl, mok, mem, by rw [e61 50 (by omega)]; exact h.im0, fun B m' e => ?_⟩
  obtain ⟨h1, h2, h3, h4, h5⟩ := h.img B m' e
  exact ⟨h1.lk l, h2, l.symm.trans h3, h4.mv hP hT (fun i _ => e92 92 (by omega) _), h5.mv h1 hP hT (e61 51 (by omega)) (e61 52 (by omega)) (fun i _ => e92 93 (by omega) i) (fun i _ => e92 94 (by omega) i) (fun i _ => e92 95 (by omega) i) (fun i _ => e92 96 (by omega) i) (fun i _ => e92 97 (by omega) i)⟩
theorem MI.ca (h : MI P T W R A m im tp fp σ) (f : Fq CA VA σ τ) : MI P T W R A m im tp fp τ := by
  have hP := h.cmw.ok.P; have hT := h.cmw.ok.T
  have k : ∀ a, 61 ≤ a → ¬ Sc a → ∀ i, gI τ a i = gI σ a i := fun a h1 h2 i => f.i (by unfold CA; rintro (g | g); omega; exact h2 g) i
  refine h.st (h.cmw.fv f (fun a f v => v.1) (fun a h1 h2 g => by rcases g with g | g; omega; exact h2 g)) like.rf h.mok (h.mem.mv h.mok hP hT (k 61 (by omega) (by unfold Sc; omega) 32) (k 61 (by omega) (by unfold Sc; omega) 33) (fun i _ => k 79 (by omega) (by unfold Sc; omega) i) (fun i _ => k 85 (by omega) (by unfold Sc; omega) i) (fun i _ => k 86 (by omega) (by unfold Sc; omega) i) (fun i _ => k 87 (by omega) (by unfold Sc; omega) i) (fun i _ => k 73 (by omega) (by unfold Sc; omega) i)) (fun i => k 74 (by omega) (by unfold Sc; omega) i) (fun i _ => k 61 (by omega) (by unfold Sc; omega) i) (fun a ha i => k a (by omega) (by unfold Sc; omega) i)
theorem MI.qn (h : MI P T W R A m im tp fp σ) (cm : CM P T W R A τ) (f : QN (sI σ 61 4 y) τ) : MI P T W R A m im tp fp τ := by
  have hP := h.cmw.ok.P; have hT := h.cmw.ok.T
  have k : ∀ a, a ≠ 61 → ¬ Qq a → ∀ i, gI τ a i = gI σ a i := fun a h1 h2 i => by rw [f.1.i h2, gI_c h1]
  have k61 : ∀ i, ¬ Qf i → i ≠ 4 → gI τ 61 i = gI σ 61 i := fun i h1 h2 => by rw [f.2 i h1, gI_n h2]
  exact h.st cm like.rf h.mok (h.mem.mv h.mok hP hT (k61 32 (by unfold Qf Mf; omega) (by omega)) (k61 33 (by unfold Qf Mf; omega) (by omega)) (fun i _ => k 79 (by omega) (by unfold Qq Mq Sc; omega) i) (fun i _ => k 85 (by omega) (by unfold Qq Mq Sc; omega) i) (fun i _ => k 86 (by omega) (by unfold Qq Mq Sc; omega) i) (fun i _ => k 87 (by omega) (by unfold Qq Mq Sc; omega) i) (fun i _ => k 73 (by omega) (by unfold Qq Mq Sc; omega) i)) (fun i => k 74 (by omega) (by unfold Qq Mq Sc; omega) i) (fun i hi => k61 i (by unfold Qf Mf; omega) (by omega)) (fun a ha i => k a (by omega) (by unfold Qq Mq Sc; omega) i)
theorem MA.qn (f : QN (sI σ 61 4 y) τ) : Fq MA VM σ τ := (Fq.refl.mI (Or.inl (by omega))).trans (Fq.of f.1 (fun a s => by unfold Qq Mq Sc at s; unfold MA Sc; omega))
/-- what a call comes to in the class; in the reference -/
def oC (σ : pS) (I : pS → Prop) (r : Nat × Int32) (z : pZ) : Prop := (r.1 = 0 ∧ RI r.2 (fun τ => I τ ∧ Fq CA VA σ τ) z) ∨ (r.1 = 1 ∧ z = (3, .null, sX σ) ∧ I σ) ∨ (r.1 = 2 ∧ z = (2, .null, sX σ) ∧ I σ)
def oM (σ : pS) (I : pS → Prop) (r : Nat × Int32) (z : pZ) : Prop := ∃ v τ, z = (1, .int v, τ) ∧ (r.1 = 0 → v = r.2) ∧ gI τ 61 4 = ι r.1 ∧ I τ ∧ Fq MA VM σ τ
theorem oC.qry {d : Option pZ} {r : Nat × Int32} (h : CI P T W R A m im tp fp σ q) (w : Wp d (qC σ r)) : Wp d (oC σ (fun τ => CI P T W R A m im tp fp τ q) r) := by
  refine w.mono ?_
  rintro z (⟨h1, τ, rfl, h2⟩ | ⟨h1, rfl⟩ | ⟨h1, rfl⟩)
  · exact Or.inl ⟨h1, τ, rfl, h.cq h2, CA.cq h2⟩
  · exact Or.inr (Or.inl ⟨h1, rfl, h⟩)
  · exact Or.inr (Or.inr ⟨h1, rfl, h⟩)
theorem oM.qry {d : Option pZ} {r : Nat × Int32} (h : MI P T W R A m im tp fp σ) (w : Wp d (qM P T W R A σ r)) : Wp d (oM σ (fun τ => MI P T W R A m im tp fp τ) r) := by
  refine w.mono ?_
  rintro z ⟨v, τ, rfl, h1, h2, h3⟩
  exact ⟨v, τ, rfl, h1, by rw [h3.2 4 (by unfold Qf Mf; omega), gI_s], h.qn h2 h3, MA.qn h3⟩
end STATE
