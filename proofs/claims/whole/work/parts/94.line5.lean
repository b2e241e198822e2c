/-! ===== lines: a rule's; a whole one ===== -/
section LINE5
variable {σ τ υ σ0 μ ν0 μ0 : pS} {a n k b e i j c w q pl v hm : Nat} {x : Nat → Nat} {tk : Nat × Nat × Nat} {g f : Bool} {L : Rl} {s y r : Int32} {d : Dx} {z : Zx} {R : Bool × Bool}
def bts (p : Bool × Bool) : Int32 := ι ((if p.1 then 1 else 0) + (if p.2 then 2 else 0))
/-- behind a line, on both sides -/
def LQ (n : Nat) (x : Nat → Nat) (q b hm : Nat) (σ0 μ0 : pS) (zc zm : pZ) : Prop := (∃ d' tk', okTk n x tk' ∧ b ≤ tk'.2.1 ∧ okDx d' ∧ d'.1.2.2 ≤ hm ∧ RV (PL n x q d' tk' σ0) zc ∧ RI (bts (fl2 d')) (ML n x d' tk' μ0) zm) ∨ ∃ c pl r, RV (FTL q c pl σ0) zc ∧ RI r (FML c pl μ0) zm
theorem semi_ok {d' : Dx} {tk' : Nat × Nat × Nat} (hq : isP q) (t : Txt n x) (ok : okTk n x tk') (hb : b ≤ tk'.2.1) (od : okDx d') (hh : d'.1.2.2 ≤ hm) (hr : r = bts (fl2 d')) (h1 : PL n x q d' tk' σ0 σ) (h2 : ML n x d' tk' μ0 μ) : R2 (bV (pcall 66 [.ref 24, .int (ι 59)] σ) fun σ => some (0, .null, σ)) (bV (pcall 231 [.ref 61, .int (ι 59)] μ) fun μ => some (1, .int r, μ)) (LQ n x q b hm σ0 μ0) := by
  subst hr
  have := ok.1
  cases e : sgS x tk' 59 with
  | true =>
    obtain ⟨a1, ea1, v1, τ1, rfl, p1⟩ := l66y hq t ok h1 (c := 59) (by omega) e
    obtain ⟨a2, ea2, v2, τ2, rfl, p2⟩ := l231y t ok h2 (c := 59) (by omega) e
    rw [ea1, bV_ret, ea2, bV_ret]
    obtain ⟨nk, nb⟩ := nxt_ok t ok
    exact ⟨_, _, rfl, rfl, Or.inl ⟨d', _, nk, by omega, od, hh, ⟨_, _, rfl, p1⟩, _, rfl, p2⟩⟩
  | false =>
    obtain ⟨a1, ea1, v1, τ1, rfl, p1⟩ := l66n t ok h1 (c := 59) (by omega) e
    obtain ⟨a2, ea2, v2, τ2, rfl, p2⟩ := l231n t ok h2 (c := 59) (by omega) e
    rw [ea1, bV_ret, ea2, bV_ret]
    exact ⟨_, _, rfl, rfl, Or.inr ⟨_, _, _, ⟨_, _, rfl, p1⟩, _, rfl, p2⟩⟩
theorem semi_bad (h1 : FTL q c pl σ0 σ) (h2 : FML c pl μ0 μ) : R2 (bV (pcall 66 [.ref 24, .int (ι 59)] σ) fun σ => some (0, .null, σ)) (bV (pcall 231 [.ref 61, .int (ι 59)] μ) fun μ => some (1, .int r, μ)) (LQ n x q b hm σ0 μ0) := by
  obtain ⟨a1, ea1, v1, τ1, rfl, p1⟩ := g66 (y := ι 59) h1
  rw [ea1, bV_ret, gm231 h2, bV_ret]
  exact ⟨_, _, rfl, rfl, Or.inr ⟨_, _, _, ⟨_, _, rfl, p1⟩, _, rfl, h2⟩⟩
theorem semi {d1 d2 : Option pZ} (hq : isP q) (t : Txt n x) (hr : r = bts R) (h : R2 d1 d2 (LRs n x q b hm R σ0 μ0)) : R2 (bV d1 fun σ => bV (pcall 66 [.ref 24, .int (ι 59)] σ) fun σ => some (0, .null, σ)) (bV d2 fun μ => bV (pcall 231 [.ref 61, .int (ι 59)] μ) fun μ => some (1, .int r, μ)) (LQ n x q b hm σ0 μ0) := by
  obtain ⟨zc, zm, rfl, rfl, ⟨d', tk', ok, hb, od, hh, eR, ⟨v1, τ1, rfl, p1⟩, v2, τ2, rfl, p2⟩ | ⟨c, pl, ⟨v1, τ1, rfl, p1⟩, v2, τ2, rfl, p2⟩⟩ := h
  · rw [bV_ret, bV_ret]
    exact semi_ok hq t ok hb od hh (by rw [hr, eR]) p1 p2
  · rw [bV_ret, bV_ret]
    exact semi_bad p1 p2
/-! a rule -/
def rl (d : Dx) (g : Bool) : Rl × Bool := if g then d.2.2.2 else d.2.2.1
def dRu (d : Dx) (g : Bool) (L : Rl) : Dx := (d.1, d.2.1, if g then (d.2.2.1, (L, true)) else ((L, true), d.2.2.2))
theorem DC.rl (h : DC d q σ) (g : Bool) : RuC (rl d g).1 (rl d g).2 (uG g q) σ := by cases g; exact h.wr; exact h.rr
theorem DM.rl (h : DM d σ) (g : Bool) : gI σ 65 (fL g) = ι (rl d g).1.1 := by cases g; exact h.w8; exact h.r9
theorem okDx.rl (h : okDx d) (g : Bool) : okRu g (rl d g).1 (rl d g).2 := by
  obtain ⟨-, -, -, -, -, -, -, -, a9, a10⟩ := h
  cases g; exact a9; exact a10
theorem okDx.ar (h : okDx d) (ok : okRu g L true) : okDx (dRu d g L) := by
  obtain ⟨a1, a2, a3, a4, a5, a6, a7, a8, a9, a10⟩ := h
  cases g
  · exact ⟨a1, a2, a3, a4, a5, a6, a7, a8, ok, a10⟩
  · exact ⟨a1, a2, a3, a4, a5, a6, a7, a8, a9, ok⟩
theorem uG_in : q + 5 ≤ uG g q ∧ uG g q ≤ q + 8 := by unfold uG; cases g <;> simp
theorem DC.ar (h : DC d q σ) (e : ∀ a, q ≤ a → a ≤ q + 9 → a ≠ uG g q → a ≠ uG g q + 1 → ∀ i, gI τ a i = gI σ a i) (hR : RuC L true (uG g q) τ) : DC (dRu d g L) q τ := by
  have hu : uG g q = q + 5 ∨ uG g q = q + 8 := by unfold uG; cases g <;> simp
  have e' : ∀ a, q ≤ a → a ≤ q + 4 → ∀ i, gI τ a i = gI σ a i := fun a h1 h2 => e a h1 (by omega) (by omega) (by omega)
  have k : RuC (dRu d g L).2.2.1.1 (dRu d g L).2.2.1.2 (q + 5) τ ∧ RuC (dRu d g L).2.2.2.1 (dRu d g L).2.2.2.2 (q + 8) τ := by
    cases g
    · exact ⟨hR, h.rr.fr (e _ (by omega) (by omega) (by show q + 8 ≠ q + 5; omega) (by show q + 8 ≠ q + 5 + 1; omega)) (e _ (by omega) (by omega) (by show q + 8 + 1 ≠ q + 5; omega) (by show q + 8 + 1 ≠ q + 5 + 1; omega))⟩
    · exact ⟨h.wr.fr (e _ (by omega) (by omega) (by show q + 5 ≠ q + 8; omega) (by show q + 5 ≠ q + 8 + 1; omega)) (e _ (by omega) (by omega) (by show q + 5 + 1 ≠ q + 8; omega) (by show q + 5 + 1 ≠ q + 8 + 1; omega)), hR⟩
  exact ⟨by rw [e' q (by omega) (by omega)]; exact h.pp, by rw [e' q (by omega) (by omega)]; exact h.tt, by rw [e' q (by omega) (by omega)]; exact h.hh, fun i hi => by rw [e' _ (by omega) (by omega)]; exact h.bo i hi, fun i hi => by rw [e' q (by omega) (by omega)]; exact h.f1 i hi, fun i h1 h2 => by rw [e' q (by omega) (by omega)]; exact h.f0 i h1 h2, fun i hi => by rw [e' _ (by omega) (by omega)]; exact h.hg i hi, fun i h1 h2 => by rw [e' _ (by omega) (by omega)]; exact h.h0 i h1 h2, fun i hi => by rw [e' _ (by omega) (by omega)]; exact h.ow i hi, fun i hi j hj => by rw [e' _ (by omega) (by omega)]; exact h.wo i hi j hj, k.1, k.2⟩
theorem DM.ar (h : DM d μ) (f : GM g μ τ) (e : gI τ 65 (fL g) = ι L.1) (es : ∀ i, i < L.1 → gI τ (cS g) (700 + i) = trG g (L.2 i)) : DM (dRu d g L) τ := by
  have hcs := cS_or (g := g); have hfl := fL_or (g := g)
  have k : ∀ a, 66 ≤ a → a ≤ 70 → ∀ i, gI τ a i = gI μ a i := fun a h1 h2 i => f.1.i (by omega) i
  have k5 : ∀ i, i ≤ 7 → gI τ 65 i = gI μ 65 i := fun i hi => f.2.2.1 i (by omega)
  have kr : gI τ 65 8 = ι (dRu d g L).2.2.1.1.1 ∧ gI τ 65 9 = ι (dRu d g L).2.2.2.1.1 ∧ (∀ i, i < (dRu d g L).2.2.1.1.1 → gI τ 71 (700 + i) = trS ((dRu d g L).2.2.1.1.2 i)) ∧ (∀ i, i < (dRu d g L).2.2.2.1.1 → gI τ 72 (700 + i) = trR ((dRu d g L).2.2.2.1.2 i)) := by
    cases g
    · exact ⟨e, by rw [f.2.2.1 9 (by decide)]; exact h.r9, es, fun i hi => by rw [f.1.i (by decide) (700 + i)]; exact h.rs i hi⟩
    · exact ⟨by rw [f.2.2.1 8 (by decide)]; exact h.w8, e, fun i hi => by rw [f.1.i (by decide) (700 + i)]; exact h.ws i hi, es⟩
  exact ⟨by rw [k5 5 (by omega)]; exact h.pp, by rw [k5 6 (by omega)]; exact h.tt, by rw [k5 7 (by omega)]; exact h.hh, kr.1, kr.2.1, fun i hi => by rw [k 66 (by omega) (by omega)]; exact h.bo i hi, fun i hi => by rw [k 67 (by omega) (by omega)]; exact h.fi i hi, fun i hi => by rw [k 70 (by omega) (by omega)]; exact h.hg i hi, fun i hi => by rw [k 68 (by omega) (by omega)]; exact h.ow i hi, fun i hi j hj => by rw [k 69 (by omega) (by omega)]; exact h.wo i hi j hj, kr.2.2.1, kr.2.2.2⟩
theorem Le.tr {a b c : Option pZ} (h : Le a b) (k : Le b c) : Le a c := fun z e => k z (h z e)
theorem wfp0 {f : Nat → Int32} : wfp g (0, f) := ⟨Nat.zero_le _, fun i hi => absurd hi (Nat.not_lt_zero i), fun i hi => by have e : i = 0 := Nat.le_zero.mp hi; subst e; exact Nat.zero_le _⟩
theorem lay_sR {o : Option Nat} {f : Nat} (hL : LayR (gR σ)) (hm : mov a f) : LayR (gR (sR σ a f o)) := ((Fq.refl (S := fun _ => False) (V := fun b h => b = a ∧ h = f)).mR (x := o) ⟨rfl, rfl⟩).lay (fun b h v => by rw [v.1, v.2]; exact hm) hL
theorem mov24 : mov 24 9 := by unfold mov; omega
theorem mov61 : mov 61 3 := by unfold mov; omega
theorem GL.r9 {o : Option Nat} (h : GL q σ τ) : GL q σ (sR τ 24 9 o) := ⟨h.1.mR ⟨rfl, rfl⟩, h.2⟩
theorem HL.r3 {o : Option Nat} (h : HL σ τ) : HL σ (sR τ 61 3 o) := ⟨h.1.mR ⟨rfl, rfl⟩, h.2⟩
theorem FTL.r9 {o : Option Nat} (h : FTL q c pl σ0 σ) : FTL q c pl σ0 (sR σ 24 9 o) :=
  ⟨⟨lay_sR h.lay mov24, h.1.2.1, h.1.2.2.1, h.1.2.2.2.1, h.1.2.2.2.2.1, h.1.2.2.2.2.2.1, h.1.2.2.2.2.2.2⟩, h.2.1.mR ⟨rfl, rfl⟩, h.2.2⟩
theorem FTL.i10 (h : FTL q c pl σ0 σ) : FTL q c pl σ0 (sI σ 24 10 y) := h.up (GL.rf.m24 (by omega)) rfl (fun i hi => gI_n (by omega))
theorem m109f (h : FML c pl μ0 μ) : C_217_109 s (ν 1) r μ = some (1, .int (s ||| r), μ) := by
  refine (T_217_109 rfl h.lay).eq ?_
  rw [if_pos rfl, gm219 h (by omega) (by omega), bI_ret, if_pos rfl, gm219 h (by omega) (by omega), bI_ret, if_pos rfl, gm220 h, bV_ret, gm231 h, bV_ret]
theorem bts_and : ∀ a b g : Bool, (ι (if g then 2 else 1) &&& bts (a, b) = ι 0) = ((if g then b else a) = false) := by decide
theorem bts_or : ∀ a b g : Bool, bts (a, b) ||| ι (if g then 2 else 1) = bts (if g then (a, true) else (true, b)) := by decide
theorem PC.of {d : Dx} (h : PL n x q d tk σ0 σ) (hq : isP q) (h1 : gI σ (uG g q) 1 = ι 0) (hm : ∀ k, k < 8 → tb (gI σ (uG g q) 3) k = false) : PC n x g q (tk, (0, fun _ => ι 0)) (sI (sR (sI σ (uG g q) 2 (ι 1)) 24 9 (some (uG g q))) 24 10 (bz (!g))) := by
  have hu := uG_le (g := g) hq
  have c : ∀ a i, a ≠ 24 → a ≠ uG g q → gI (sI (sR (sI σ (uG g q) 2 (ι 1)) 24 9 (some (uG g q))) 24 10 (bz (!g))) a i = gI σ a i := fun a i ha hb => by rw [gI_c ha, gI_sR, gI_c hb]
  have c24 : ∀ i, i ≠ 10 → gI (sI (sR (sI σ (uG g q) 2 (ι 1)) 24 9 (some (uG g q))) 24 10 (bz (!g))) 24 i = gI σ 24 i := fun i hi => by rw [gI_n hi, gI_sR, gI_c (by omega)]
  have cu : ∀ i, i ≠ 2 → gI (sI (sR (sI σ (uG g q) 2 (ι 1)) 24 9 (some (uG g q))) 24 10 (bz (!g))) (uG g q) i = gI σ (uG g q) i := fun i hi => by rw [gI_c (by omega), gI_sR, gI_n hi]
  have hL : LayR (gR (sI (sR (sI σ (uG g q) 2 (ι 1)) 24 9 (some (uG g q))) 24 10 (bz (!g)))) := by rw [gR_sI]; exact lay_sR (by rw [gR_sI]; exact h.lay) mov24
  refine ⟨⟨hL, by rw [c24 1 (by omega)]; exact h.1.1.2.1, fun i hi => by rw [c 1 i (by omega) (by omega)]; exact h.1.1.2.2.1 i hi, by rw [c24 7 (by omega)]; exact h.1.1.2.2.2⟩, by rw [c24 6 (by omega)]; exact h.1.2.1, ⟨by rw [c24 4 (by omega)]; exact h.1.2.2.1.1, by rw [c24 2 (by omega)]; exact h.1.2.2.1.2.1, by rw [c24 3 (by omega)]; exact h.1.2.2.1.2.2.1, fun g => by rw [c24 5 (by omega)]; exact h.1.2.2.1.2.2.2.1 g, fun g => by rw [c24 5 (by omega)]; exact h.1.2.2.1.2.2.2.2 g⟩, by rw [cu 1 (by omega)]; exact h1, fun i hi => absurd hi (Nat.not_lt_zero i), fun k hk => ?_, ?_, gI_s⟩
  · rw [cu 3 (by omega), hm k hk]
    exact ⟨fun g => (by cases g), fun ⟨i, hi, _⟩ => absurd hi (Nat.not_lt_zero i)⟩
  · rw [gR_sI, gR_sR, if_pos rfl, if_pos rfl]
theorem PM.of {d : Dx} (h : ML n x d tk μ0 μ) (h1 : gI μ 65 (fL g) = ι 0) : PM n x g (tk, (0, fun _ => ι 0)) (sR (sI μ 61 25 (bz g)) 61 3 (some (if g then 64 else 63))) := by
  have hfl := fL_or (g := g)
  have hr : ∀ a f, a ≠ 61 → gR (sR (sI μ 61 25 (bz g)) 61 3 (some (if g then 64 else 63))) a f = gR μ a f := fun a f ha => by rw [gR_sR, if_neg ha, gR_sI]
  have hL : LayR (gR (sR (sI μ 61 25 (bz g)) 61 3 (some (if g then 64 else 63)))) := lay_sR (by rw [gR_sI]; exact h.lay) mov61
  have c61 : ∀ i, i ≠ 25 → gI (sR (sI μ 61 25 (bz g)) 61 3 (some (if g then 64 else 63))) 61 i = gI μ 61 i := fun i hi => by rw [gI_sR, gI_n hi]
  refine ⟨⟨hL, by rw [c61 17 (by omega)]; exact h.1.1.2.1, fun i hi => by rw [gI_sR, gI_c (by omega)]; exact h.1.1.2.2 i hi⟩, by rw [c61 22 (by omega)]; exact h.1.2.1, ⟨by rw [c61 18 (by omega)]; exact h.1.2.2.1.1, by rw [c61 20 (by omega)]; exact h.1.2.2.1.2.1, by rw [c61 21 (by omega)]; exact h.1.2.2.1.2.2.1, by rw [c61 16 (by omega)]; exact h.1.2.2.1.2.2.2.1, fun g g' => by rw [c61 19 (by omega)]; exact h.1.2.2.1.2.2.2.2 g g'⟩, by rw [gI_sR, gI_c (by omega)]; exact h1, fun i hi => absurd hi (Nat.not_lt_zero i), ?_, by rw [gI_sR, gI_s], ?_⟩
  · rw [gR_sR, if_pos rfl, if_pos rfl]
  · have := h.1.2.2.2.2
    unfold SMr at this ⊢
    simp only [hr 62 _ (by omega), hr 63 _ (by omega), hr 64 _ (by omega)]
    exact this
theorem line_rule (hq : isP q) (t : Txt n x) (ok : okTk n x tk) (od : okDx d) (h1 : PL n x q d tk σ0 σ) (h2 : ML n x d tk μ0 μ) : R2 (bV (pcall 56 [.ref 24, .ref (uG g q), .int (bz (!g))] σ) fun σ11 => gd (LayR (gR σ11)) (bV (pcall 57 [.ref 24, .int (ι 0)] σ11) fun σ12 => bV (pcall 66 [.ref 24, .int (ι 59)] σ12) fun σ13 => some (0, .null, σ13)))
    (if ι (if g then 2 else 1) &&& bts (fl2 d) = ι 0 then C_217_50 (bts (fl2 d)) (ν 1) (ι (if g then 2 else 1)) μ else bV (pcall 220 [.ref 61, .int (ι 5)] μ) fun σ4 => C_217_50 (bts (fl2 d)) (ν 1) (ι (if g then 2 else 1)) σ4) (LQ n x q tk.2.2 d.1.2.2 σ0 μ0) := by
  have hU := uG_U (g := g) hq
  have hu := uG_le (g := g) hq
  have hui := uG_in (g := g) (q := q)
  have hcs := cS_or (g := g); have hfl := fL_or (g := g)
  have R1 := h1.1.2.2.2.2.rl g
  have O1 := od.rl g
  have efl : (if g then (fl2 d).2 else (fl2 d).1) = (rl d g).2 := by cases g <;> rfl
  have x3 : ι (if g then 2 else 1) ≤ ι 0 ↔ False := by cases g <;> decide
  have eb : (bz (!g) = ι 0 ∨ bz (!g) = ι 1) := bz_01 _
  have e17 : pcall 17 [.ref (uG g q)] σ = some (1, .int (bz (rl d g).2), σ) := by
    refine (M_17 hU rfl h1.lay).eq ?_
    rw [R1.2.1, gd_pos (narrow_bz _)]
  refine R2.le1 (Le.bV (M_56 hU rfl h1.lay)) ?_
  rw [e17]
  simp only [bV_bI, bI_ret, bV_ite]
  rw [if1, show bts (fl2 d) = bts ((fl2 d).1, (fl2 d).2) from rfl]
  cases eT : (rl d g).2 with
  | true =>
    rw [if_pos rfl, if_neg (by rw [bts_and, efl, eT]; decide)]
    obtain ⟨a1, ea1, v1, τ1, rfl, f1⟩ := l50 h1 (c := 5) (by omega) (by omega)
    obtain ⟨a2, ea2, v2, τ2, rfl, f2⟩ := l220 h2 (c := 5) (by omega) (by omega)
    rw [ea1, ea2, bV_ret, bV_ret, g43 f1, bV_ret]
    have e21 : pcall 21 [.ref (uG g q)] τ1 = some (0, .null, sI τ1 (uG g q) 2 (ι 1)) := (M_21 hU rfl f1.lay).eq rfl
    have f3 : FTL q 5 tk.2.1 σ0 (sI (sR (sI τ1 (uG g q) 2 (ι 1)) 24 9 (some (uG g q))) 24 10 (bz (!g))) := ((f1.m hq (by omega) (by omega)).r9).i10
    have L3 : LayR (gR (sR (sI τ1 (uG g q) 2 (ι 1)) 24 9 (some (uG g q)))) := lay_sR (by rw [gR_sI]; exact f1.lay) mov24
    rw [e21, bV_ret, gd_pos L3, gd_pos eb, bV_ret, gd_pos f3.lay]
    have FF : FT g q 5 tk.2.1 (sI (sR (sI τ1 (uG g q) 2 (ι 1)) 24 9 (some (uG g q))) 24 10 (bz (!g))) (sI (sR (sI τ1 (uG g q) 2 (ι 1)) 24 9 (some (uG g q))) 24 10 (bz (!g))) := ⟨⟨f3.lay, f3.1.2.1, f3.1.2.2.1, f3.1.2.2.2.1, f3.1.2.2.2.2.1, f3.1.2.2.2.2.2.1, by rw [gR_sI, gR_sR, if_pos rfl, if_pos rfl]⟩, GC.rf⟩
    obtain ⟨a4, ea4, v4, τ4, rfl, F4⟩ := f57 hq (k := 0) (by omega) FF
    have hr4 : gR τ4 = _ := F4.2.1.r
    have f4 : FTL q 5 tk.2.1 σ0 τ4 := ⟨⟨F4.lay, F4.1.2.1, F4.1.2.2.1, F4.1.2.2.2.1, F4.1.2.2.2.2.1, F4.1.2.2.2.2.2.1, by rw [hr4]; exact f3.1.2.2.2.2.2.2⟩, f3.2.gc hq F4.2⟩
    rw [ea4, bV_ret]
    refine R2.le2 (T_217_50 rfl f2.lay) ?_
    rw [if_neg (fun g => x3.mp g), if_pos f2.n22, m109f f2]
    obtain ⟨a5, ea5, v5, τ5, rfl, p5⟩ := g66 (y := ι 59) f4
    rw [ea5, bV_ret]
    exact ⟨_, _, rfl, rfl, Or.inr ⟨_, _, _, ⟨_, _, rfl, p5⟩, _, rfl, f2⟩⟩
  | false =>
    rw [if_neg (by decide), if_pos (by rw [bts_and, efl, eT])]
    have hL0 := O1.2.2 eT
    obtain ⟨nk, nb⟩ := nxt_ok t ok
    obtain ⟨a1, ea1, v1, τ1, rfl, p1⟩ := l43 hq t ok h1
    refine R2.le2 (T_217_50 rfl h2.lay) ?_
    obtain ⟨a2, ea2, v2, τ2, rfl, p2⟩ := l212 t ok h2
    rw [if_neg (fun g => x3.mp g), if_neg (fun g => g h2.1.2.1), ea1, bV_ret, ea2, bV_ret]
    have e21 : pcall 21 [.ref (uG g q)] τ1 = some (0, .null, sI τ1 (uG g q) 2 (ι 1)) := (M_21 hU rfl p1.lay).eq rfl
    have R2' := p1.1.2.2.2.2.rl g
    have hP := PC.of (g := g) p1 hq (by rw [R2'.1, hL0]) (fun k hk => by
      cases e : tb (gI τ1 (uG g q) 3) k with
      | false => rfl
      | true => obtain ⟨i, hi, _⟩ := (R2'.2.2.2 k hk).mp e; omega)
    have hM := PM.of (g := g) p2 (by rw [p2.1.2.2.2.1.rl g, hL0])
    have L3 : LayR (gR (sR (sI τ1 (uG g q) 2 (ι 1)) 24 9 (some (uG g q)))) := lay_sR (by rw [gR_sI]; exact p1.lay) mov24
    rw [e21, bV_ret, gd_pos L3, gd_pos eb, bV_ret, gd_pos hP.1.1]
    have eM : R2 (bV (pcall 57 [.ref 24, .int (ι 0)] (sI (sR (sI τ1 (uG g q) 2 (ι 1)) 24 9 (some (uG g q))) 24 10 (bz (!g)))) fun σ12 => bV (pcall 66 [.ref 24, .int (ι 59)] σ12) fun σ13 => some (0, .null, σ13)) (bV (pcall 221 [.ref 61, .int (ι 0)] (sR (sI τ2 61 25 (bz g)) 61 3 (some (if g then 64 else 63)))) fun σ2 => bV (pcall 231 [.ref 61, .int (ι 59)] σ2) fun σ3 => some (1, .int (bts (fl2 d) ||| ι (if g then 2 else 1)), σ3)) (LQ n x q tk.2.2 d.1.2.2 σ0 μ0) := by
      obtain ⟨zc, zm, ec, em, hX⟩ := expr_all (g := g) hq t 6 0 rfl (tkS n x tk.2.2, (0, fun _ => ι 0)) _ _ ⟨nk, wfp0, Nat.zero_le _⟩ (Nat.le_refl _) ⟨hP, GC.rf⟩ ⟨hM, GM.rf⟩
      rw [ec, em]
      have G1 : GL q σ0 (sI (sR (sI τ1 (uG g q) 2 (ι 1)) 24 9 (some (uG g q))) 24 10 (bz (!g))) := GL.m24 (GL.r9 (p1.2.m (by omega) hq)) (by omega)
      have H1 : HL μ0 (sR (sI τ2 61 25 (bz g)) 61 3 (some (if g then 64 else 63))) := (p2.2.m61 (by omega)).r3
      have r8 : gR (sI (sR (sI τ1 (uG g q) 2 (ι 1)) 24 9 (some (uG g q))) 24 10 (bz (!g))) 24 8 = some q := by rw [gR_sI, gR_sR, if_pos rfl, if_neg (by omega), gR_sI]; exact p1.1.2.2.2.1
      rcases hX with ⟨z', gz, -, ⟨v, τ, rfl, pt⟩, v', μ', rfl, mt⟩ | ⟨c, pl, -, ⟨v, τ, rfl, ft⟩, v', μ', rfl, fm⟩
      · rw [bV_ret, bV_ret]
        have hd : dpt z'.2.2 z'.2.1 = 1 := gz.2.1
        have h0 : 0 < z'.2.1 := by
          rcases Nat.eq_zero_or_pos z'.2.1 with e | e
          · rw [e] at hd; cases hd
          · exact e
        have ht : tk.2.2 ≤ z'.1.2.1 := Nat.le_trans nb gz.2.2.2
        refine semi_ok hq t gz.1.1 ht (od.ar (L := z'.2) (g := g) ⟨gz.1.2.1, fun _ => ⟨h0, hd⟩, fun e => (by cases e)⟩) (Nat.le_refl _) ?_ ?_ ?_
        · rw [show bts (fl2 d) = bts (d.2.2.1.2, d.2.2.2.2) from rfl, bts_or]
          cases g <;> rfl
        · refine ⟨⟨pt.1.1, pt.1.2.1, pt.1.2.2.1, by rw [pt.2.1.r]; exact r8, p1.1.2.2.2.2.ar (fun a h1 h2 h3 h4 i => ?_) ⟨pt.1.2.2.2.1, ?_, pt.1.2.2.2.2.1, pt.1.2.2.2.2.2.1⟩⟩, G1.gc hq pt.2⟩
          · have := q24 hq ⟨h1, h2⟩
            rw [pt.2.1.i (by omega), gI_c (by omega), gI_sR, gI_c h3]
          · rw [pt.2.2.2, gI_c (by omega), gI_sR, gI_s]; rfl
        · refine ⟨⟨mt.1.1, mt.1.2.1, mt.1.2.2.1, DM.ar (p2.1.2.2.2.1.fr fun a h1 h2 i => by rw [gI_sR, gI_c (by omega)]) mt.2 mt.1.2.2.2.1 mt.1.2.2.2.2.1, mt.1.2.2.2.2.2.2.2⟩, H1.gm mt.2⟩
      · rw [bV_ret, bV_ret]
        exact semi_bad ⟨⟨ft.lay, ft.1.2.1, ft.1.2.2.1, ft.1.2.2.2.1, ft.1.2.2.2.2.1, ft.1.2.2.2.2.2.1, by rw [ft.2.1.r]; exact r8⟩, G1.gc hq ft.2⟩ ⟨⟨fm.lay, fm.1.2.1, fm.1.2.2.1, fm.1.2.2.2.1, fm.1.2.2.2.2⟩, H1.gm fm.2⟩
    have eT76 : Le (bV (pcall 221 [.ref 61, .int (ι 0)] (sR (sI τ2 61 25 (bz g)) 61 3 (some (if g then 64 else 63)))) fun σ2 => bV (pcall 231 [.ref 61, .int (ι 59)] σ2) fun σ3 => some (1, .int (bts (fl2 d) ||| ι (if g then 2 else 1)), σ3)) (if ¬ ι (if g then 2 else 1) = ι 2 then C_217_76 (bts (fl2 d)) (.int (ν 1)) (ι (if g then 2 else 1)) (ι 0) τ2 else C_217_76 (bts (fl2 d)) (.int (ν 1)) (ι (if g then 2 else 1)) (ι 1) τ2) := by
      cases g with
      | false =>
        rw [if_pos (show ¬ ι (if false = true then 2 else 1) = ι 2 by decide)]
        refine Le.tr ?_ (T_217_76 rfl p2.lay)
        rw [gd_pos (Or.inl rfl), gI_s, if_pos rfl, gd_pos (show LayR (gR (sR (sI τ2 61 25 (ι 0)) 61 3 (some 63))) from hM.1.1)]
        exact Le.rfl'
      | true =>
        rw [if_neg (show ¬ ¬ ι (if true = true then 2 else 1) = ι 2 by decide)]
        refine Le.tr ?_ (T_217_76 rfl p2.lay)
        rw [gd_pos (Or.inr rfl), gI_s, if_neg (show ¬ ι 1 = ι 0 by decide), gd_pos (show LayR (gR (sR (sI τ2 61 25 (ι 1)) 61 3 (some 64))) from hM.1.1)]
        exact Le.rfl'
    exact R2.le2 eT76 eM
end LINE5
