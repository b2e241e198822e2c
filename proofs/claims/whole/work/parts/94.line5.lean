/-! ===== lines: a rule's; a whole one ===== -/
section LINE5
variable {σ τ υ σ0 μ ν0 μ0 : pS} {a n k b e i j c w q pl v hm : Nat} {x : Nat → Nat} {tk : Nat × Nat × Nat} {g f : Bool} {L : Rl} {s y r : Int32} {d : Dx} {z : Zx} {R : Bool × Bool}
def bts (p : Bool × Bool) : Int32 := ι ((if p.1 then 1 else 0) + (if p.2 then 2 else 0))
/-- behind a line, on both sides -/
def LQ (n : Nat) (x : Nat → Nat) (q b hm : Nat) (σ0 μ0 : pS) (zc zm : pZ) : Prop := (∃ d' tk', okTk n x tk' ∧ b ≤ tk'.2.1 ∧ okDx d' ∧ d'.1.2.2 ≤ hm ∧ RV (PL n x q d' tk' σ0) zc ∧ RI (bts (fl2 d')) (ML n x d' tk' μ0) zm) ∨ ∃ c pl r, RV (FTL q c pl σ0) zc ∧ RI r (FML c pl μ0) zm
theorem semi_ok {d' : Dx} {tk' : Nat × Nat × Nat} (hq : isP q) (t : Txt n x) (ok : okTk n x tk') (hb : b ≤ tk'.2.1) (od : okDx d') (hh : d'.1.2.2 ≤ hm) (hr : r = bts (fl2 d')) (h1 : PL n x q d' tk' σ0 σ) (h2 : ML n x d' tk' μ0 μ) : R2 (bV (pcall 66 [.ref 24, .int (ι 59)] σ) fun σ => some (0, .null, σ)) (bV (pcall 231 [.ref 61, .int (ι 59)] μ) fun μ => some (1, .int r, μ)) (LQ n x q b hm σ0 μ0) := by
  subst hr
  have := ok.1
  cases e : sgS x tk' 59 with
  | true =>
    obtain ⟨a1, ea1, v1, τ1, rfl, p1⟩ := l66y hq t ok h1 (c := 59) (by omega) e
    obtain ⟨a2, ea2, v2, τ2, rfl, p2⟩ := l231y t ok h2 (c := 59) (by omega) e
    rw [ea1, bV_ret, ea2, bV_ret]
    obtain ⟨nk, nb⟩ := nxt_ok t ok
    exact ⟨_, _, rfl, rfl, Or.inl ⟨d', _, nk, by omega, od, hh, ⟨_, _, rfl, p1⟩, _, rfl, p2⟩⟩
  | false =>
    obtain ⟨a1, ea1, v1, τ1, rfl, p1⟩ := l66n t ok h1 (c := 59) (by omega) e
    obtain ⟨a2, ea2, v2, τ2, rfl, p2⟩ := l231n t ok h2 (c := 59) (by omega) e
    rw [ea1, bV_ret, ea2, bV_ret]
    exact ⟨_, _, rfl, rfl, Or.inr ⟨_, _, _, ⟨_, _, rfl, p1⟩, _, rfl, p2⟩⟩
theorem semi_bad (h1 : FTL q c pl σ0 σ) (h2 : FML c pl μ0 μ) : R2 (bV (pcall 66 [.ref 24, .int (ι 59)] σ) fun σ => some (0, .null, σ)) (bV (pcall 231 [.ref 61, .int (ι 59)] μ) fun μ => some (1, .int r, μ)) (LQ n x q b hm σ0 μ0) := by
  obtain ⟨a1, ea1, v1, τ1, rfl, p1⟩ := g66 (y := ι 59) h1
  rw [ea1, bV_ret, gm231 h2, bV_ret]
  exact ⟨_, _, rfl, rfl, Or.inr ⟨_, _, _, ⟨_, _, rfl, p1⟩, _, rfl, h2⟩⟩
theorem semi {d1 d2 : Option pZ} (hq : isP q) (t : Txt n x) (hr : r = bts R) (h : R2 d1 d2 (LRs n x q b hm R σ0 μ0)) : R2 (bV d1 fun σ => bV (pcall 66 [.ref 24, .int (ι 59)] σ) fun σ => some (0, .null, σ)) (bV d2 fun μ => bV (pcall 231 [.ref 61, .int (ι 59)] μ) fun μ => some (1, .int r, μ)) (LQ n x q b hm σ0 μ0) := by
  obtain ⟨zc, zm, rfl, rfl, ⟨d', tk', ok, hb, od, hh, eR, ⟨v1, τ1, rfl, p1⟩, v2, τ2, rfl, p2⟩ | ⟨c, pl, ⟨v1, τ1, rfl, p1⟩, v2, τ2, rfl, p2⟩⟩ := h
  · rw [bV_ret, bV_ret]
    exact semi_ok hq t ok hb od hh (by rw [hr, eR]) p1 p2
  · rw [bV_ret, bV_ret]
    exact semi_bad p1 p2
/-! a rule -/
def rl (d : Dx) (g : Bool) : Rl × Bool := if g then d.2.2.2 else d.2.2.1
def dRu (d : Dx) (g : Bool) (L : Rl) : Dx := (d.1, d.2.1, if g then (d.2.2.1, (L, true)) else ((L, true), d.2.2.2))
theorem DC.rl (h : DC d q σ) (g : Bool) : RuC (rl d g).1 (rl d g).2 (uG g q) σ := by cases g; exact h.wr; exact h.rr
theorem DM.rl (h : DM d σ) (g : Bool) : gI σ 65 (fL g) = ι (rl d g).1.1 := by cases g; exact h.w8; exact h.r9
theorem okDx.rl (h : okDx d) (g : Bool) : okRu g (rl d g).1 (rl d g).2 := by
  obtain ⟨-, -, -, -, -, -, -, -, a9, a10⟩ := h
  cases g; exact a9; exact a10
theorem okDx.ar (h : okDx d) (ok : okRu g L true) : okDx (dRu d g L) := by
  obtain ⟨a1, a2, a3, a4, a5, a6, a7, a8, a9, a10⟩ := h
  cases g
  · exact ⟨a1, a2, a3, a4, a5, a6, a7, a8, ok, a10⟩
  · exact ⟨a1, a2, a3, a4, a5, a6, a7, a8, a9, ok⟩
theorem uG_in : q + 5 ≤ uG g q ∧ uG g q ≤ q + 8 := by unfold uG; cases g <;> simp
theorem DC.ar (h : DC d q σ) (e : ∀ a, q ≤ a → a ≤ q + 9 → a ≠ uG g q → a ≠ uG g q + 1 → ∀ i, gI τ a i = gI σ a i) (hR : RuC L true (uG g q) τ) : DC (dRu d g L) q τ := by
  have hu : uG g q = q + 5 ∨ uG g q = q + 8 := by unfold uG; cases g <;> simp
  have e' : ∀ a, q ≤ a → a ≤ q + 4 → ∀ i, gI τ a i = gI σ a i := fun a h1 h2 => e a h1 (by omega) (by omega) (by omega)
  have k : RuC (dRu d g L).2.2.1.1 (dRu d g L).2.2.1.2 (q + 5) τ ∧ RuC (dRu d g L).2.2.2.1 (dRu d g L).2.2.2.2 (q + 8) τ := by
    cases g
    · exact ⟨hR, h.rr.fr (e _ (by omega) (by omega) (by show q + 8 ≠ q + 5; omega) (by show q + 8 ≠ q + 5 + 1; omega)) (e _ (by omega) (by omega) (by show q + 8 + 1 ≠ q + 5; omega) (by show q + 8 + 1 ≠ q + 5 + 1; omega))⟩
    · exact ⟨h.wr.fr (e _ (by omega) (by omega) (by show q + 5 ≠ q + 8; omega) (by show q + 5 ≠ q + 8 + 1; omega)) (e _ (by omega) (by omega) (by show q + 5 + 1 ≠ q + 8; omega) (by show q + 5 + 1 ≠ q + 8 + 1; omega)), hR⟩
  exact ⟨by rw [e' q (by omega) (by omega)]; exact h.pp, by rw [e' q (by omega) (by omega)]; exact h.tt, by rw [e' q (by omega) (by omega)]; exact h.hh, fun i hi => by rw [e' _ (by omega) (by omega)]; exact h.bo i hi, fun i hi => by rw [e' q (by omega) (by omega)]; exact h.f1 i hi, fun i h1 h2 => by rw [e' q (by omega) (by omega)]; exact h.f0 i h1 h2, fun i hi => by rw [e' _ (by omega) (by omega)]; exact h.hg i hi, fun i h1 h2 => by rw [e' _ (by omega) (by omega)]; exact h.h0 i h1 h2, fun i hi => by rw [e' _ (by omega) (by omega)]; exact h.ow i hi, fun i hi j hj => by rw [e' _ (by omega) (by omega)]; exact h.wo i hi j hj, k.1, k.2⟩
theorem DM.ar (h : DM d μ) (f : GM g μ τ) (e : gI τ 65 (fL g) = ι L.1) (es : ∀ i, i < L.1 → gI τ (cS g) (700 + i) = trG g (L.2 i)) : DM (dRu d g L) τ := by
  have hcs := cS_or (g := g); have hfl := fL_or (g := g)
  have k : ∀ a, 66 ≤ a → a ≤ 70 → ∀ i, gI τ a i = gI μ a i := fun a h1 h2 i => f.1.i (by omega) i
  have k5 : ∀ i, i ≤ 7 → gI τ 65 i = gI μ 65 i := fun i hi => f.2.2.1 i (by omega)
  have kr : gI τ 65 8 = ι (dRu d g L).2.2.1.1.1 ∧ gI τ 65 9 = ι (dRu d g L).2.2.2.1.1 ∧ (∀ i, i < (dRu d g L).2.2.1.1.1 → gI τ 71 (700 + i) = trS ((dRu d g L).2.2.1.1.2 i)) ∧ (∀ i, i < (dRu d g L).2.2.2.1.1 → gI τ 72 (700 + i) = trR ((dRu d g L).2.2.2.1.2 i)) := by
    cases g
    · exact ⟨e, by rw [f.2.2.1 9 (by decide)]; exact h.r9, es, fun i hi => by rw [f.1.i (by decide) (700 + i)]; exact h.rs i hi⟩
    · exact ⟨by rw [f.2.2.1 8 (by decide)]; exact h.w8, e, fun i hi => by rw [f.1.i (by decide) (700 + i)]; exact h.ws i hi, es⟩
  exact ⟨by rw [k5 5 (by omega)]; exact h.pp, by rw [k5 6 (by omega)]; exact h.tt, by rw [k5 7 (by omega)]; exact h.hh, kr.1, kr.2.1, fun i hi => by rw [k 66 (by omega) (by omega)]; exact h.bo i hi, fun i hi => by rw [k 67 (by omega) (by omega)]; exact h.fi i hi, fun i hi => by rw [k 70 (by omega) (by omega)]; exact h.hg i hi, fun i hi => by rw [k 68 (by omega) (by omega)]; exact h.ow i hi, fun i hi j hj => by rw [k 69 (by omega) (by omega)]; exact h.wo i hi j hj, kr.2.2.1, kr.2.2.2⟩
end LINE5
