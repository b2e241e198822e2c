/-! ===== expressions: what is held while one is read, on both sides ===== -/
section EXPR0
variable {j k : Nat}
theorem lv_22 : lv 22 j = 12 := rfl
theorem lv_23 : lv 23 j = 13 := rfl
theorem lv_43 : lv 43 j = 14 := rfl
theorem lv_48 : lv 48 j = 16 := rfl
theorem lv_50 : lv 50 j = 12 := rfl
theorem lv_52 : lv 52 j = 12 := rfl
theorem lv_58 : lv 58 j = 12 := rfl
theorem lv_65 : lv 65 j = 17 := rfl
theorem lv_66 : lv 66 j = 15 := rfl
theorem lv_212 : lv 212 j = 13 := rfl
theorem lv_218 : lv 218 j = 17 := rfl
theorem lv_219 : lv 219 j = 16 := rfl
theorem lv_220 : lv 220 j = 12 := rfl
theorem lv_222 : lv 222 j = 12 := rfl
theorem lv_228 : lv 228 j = 14 := rfl
theorem lv_230 : lv 230 j = 12 := rfl
theorem lv_231 : lv 231 j = 14 := rfl
theorem lv_57 : lv 57 j = 17 + 8 * (7 - j) + 7 := rfl
theorem rk_57 (h : k < 2147483648) : rk 57 [.ref 24, .int (ι k)] = k := ix_ι h
theorem lv_59 : lv 59 j = 17 + 8 * (7 - j) + 6 := rfl
theorem rk_59 (h : k < 2147483648) : rk 59 [.ref 24, .int (ι k)] = k := ix_ι h
theorem lv_60 : lv 60 j = 17 + 8 * (7 - j) + 5 := rfl
theorem rk_60 (h : k < 2147483648) : rk 60 [.ref 24, .int (ι k)] = k := ix_ι h
theorem lv_61 : lv 61 j = 17 + 8 * (7 - j) + 4 := rfl
theorem rk_61 (h : k < 2147483648) : rk 61 [.ref 24, .int (ι k)] = k := ix_ι h
theorem lv_62 : lv 62 j = 17 + 8 * (7 - j) + 3 := rfl
theorem rk_62 (h : k < 2147483648) : rk 62 [.ref 24, .int (ι k)] = k := ix_ι h
theorem lv_63 : lv 63 j = 17 + 8 * (7 - j) + 2 := rfl
theorem rk_63 (h : k < 2147483648) : rk 63 [.ref 24, .int (ι k)] = k := ix_ι h
theorem lv_64 : lv 64 j = 17 + 8 * (7 - j) + 1 := rfl
theorem rk_64 (h : k < 2147483648) : rk 64 [.ref 24, .int (ι k)] = k := ix_ι h
theorem lv_221 : lv 221 j = 17 + 8 * (7 - j) + 7 := rfl
theorem rk_221 (h : k < 2147483648) : rk 221 [.ref 61, .int (ι k)] = k := ix_ι h
theorem lv_223 : lv 223 j = 17 + 8 * (7 - j) + 6 := rfl
theorem rk_223 (h : k < 2147483648) : rk 223 [.ref 61, .int (ι k)] = k := ix_ι h
theorem lv_224 : lv 224 j = 17 + 8 * (7 - j) + 5 := rfl
theorem rk_224 (h : k < 2147483648) : rk 224 [.ref 61, .int (ι k)] = k := ix_ι h
theorem lv_225 : lv 225 j = 17 + 8 * (7 - j) + 4 := rfl
theorem rk_225 (h : k < 2147483648) : rk 225 [.ref 61, .int (ι k)] = k := ix_ι h
theorem lv_226 : lv 226 j = 17 + 8 * (7 - j) + 3 := rfl
theorem rk_226 (h : k < 2147483648) : rk 226 [.ref 61, .int (ι k)] = k := ix_ι h
theorem lv_227 : lv 227 j = 17 + 8 * (7 - j) + 2 := rfl
theorem rk_227 (h : k < 2147483648) : rk 227 [.ref 61, .int (ι k)] = k := ix_ι h
end EXPR0
section EXPR1
variable {σ τ υ σ0 μ μ0 : pS} {n k b e i j c w q pl D : Nat} {x : Nat → Nat} {tk : Nat × Nat × Nat} {g : Bool} {L : Rl} {s y : Int32}
/-- two runs, one of each side -/
def R2 (d1 d2 : Option pZ) (Q : pZ → pZ → Prop) : Prop := ∃ z1 z2, d1 = some z1 ∧ d2 = some z2 ∧ Q z1 z2
theorem R2.lee {t1 t2 d1 d2 : Option pZ} {Q : pZ → pZ → Prop} (h1 : Le t1 d1) (h2 : Le t2 d2) (w : R2 t1 t2 Q) : R2 d1 d2 Q := by
  obtain ⟨z1, z2, e1, e2, hq⟩ := w
  exact ⟨z1, z2, h1 z1 e1, h2 z2 e2, hq⟩
theorem R2.le1 {t1 d1 d2 : Option pZ} {Q : pZ → pZ → Prop} (h1 : Le t1 d1) (w : R2 t1 d2 Q) : R2 d1 d2 Q := R2.lee h1 Le.rfl' w
theorem R2.le2 {t2 d1 d2 : Option pZ} {Q : pZ → pZ → Prop} (h2 : Le t2 d2) (w : R2 d1 t2 Q) : R2 d1 d2 Q := R2.lee Le.rfl' h2 w
/-- the class's rule that is told; the reference's field and row -/
def uG (g : Bool) (q : Nat) : Nat := if g then q + 8 else q + 5
def fL (g : Bool) : Nat := if g then 9 else 8
def cS (g : Bool) : Nat := if g then 72 else 71
def trG (g : Bool) (s : Int32) : Int32 := if g then trR s else trS s
def okG (g : Bool) : Nat → Bool := if g then okRf else okWf
theorem uG_U (hq : isP q) : isU (uG g q) := by unfold uG; rcases hq with rfl | rfl <;> cases g <;> decide
theorem uG_le (hq : isP q) : 7 ≤ uG g q ∧ uG g q ≤ 21 := by unfold uG; rcases hq with rfl | rfl <;> cases g <;> decide
/-- a rule's steps so far -/
def wfp (g : Bool) (L : Rl) : Prop := L.1 ≤ 700 ∧ (∀ i, i < L.1 → okst (okG g) (L.2 i) ∧ (match stk (L.2 i) with
    | 0 => dpt L.2 i < 64
    | 1 => 1 ≤ dpt L.2 i
    | _ => 2 ≤ dpt L.2 i)) ∧ ∀ i, i ≤ L.1 → dpt L.2 i ≤ 64
def psh (L : Rl) (s : Int32) : Rl := (L.1 + 1, st1 L.2 L.1 s)
theorem dpt_st {f : Nat → Int32} (h : i ≤ n) : dpt (st1 f n s) i = dpt f i := by
  induction i with
  | zero => rfl
  | succ i ih =>
    have e : st1 f n s i = f i := if_neg (by omega)
    unfold dpt
    rw [e, ih (by omega)]
theorem dpt_n {f : Nat → Int32} : dpt (st1 f n s) (n + 1) = match stk s with
    | 0 => dpt f n + 1
    | 1 => dpt f n
    | _ => dpt f n - 1 := by
  have e : st1 f n s n = s := if_pos rfl
  show (match stk (st1 f n s n) with
    | 0 => dpt (st1 f n s) n + 1
    | 1 => dpt (st1 f n s) n
    | _ => dpt (st1 f n s) n - 1) = _
  rw [e, dpt_st (Nat.le_refl n)]
theorem wfp_psh {d' : Nat} (h : wfp g L) (h7 : L.1 < 700) (ok : okst (okG g) s) (hs : match stk s with
    | 0 => dpt L.2 L.1 < 64 ∧ d' = dpt L.2 L.1 + 1
    | 1 => 1 ≤ dpt L.2 L.1 ∧ d' = dpt L.2 L.1
    | _ => 2 ≤ dpt L.2 L.1 ∧ d' = dpt L.2 L.1 - 1) : wfp g (psh L s) ∧ dpt (psh L s).2 (psh L s).1 = d' := by
  obtain ⟨h1, h2, h3⟩ := h
  have hd := h3 L.1 (Nat.le_refl _)
  have hn : dpt (psh L s).2 (psh L s).1 = d' ∧ d' ≤ 64 := by
    show dpt (st1 L.2 L.1 s) (L.1 + 1) = d' ∧ d' ≤ 64
    rw [dpt_n]
    revert hs
    generalize stk s = v
    intro hs
    match v, hs with
    | 0, hs => exact ⟨hs.2.symm, by have := hs.1; have := hs.2; omega⟩
    | 1, hs => exact ⟨hs.2.symm, by have := hs.2; omega⟩
    | v + 2, hs => exact ⟨hs.2.symm, by have := hs.2; omega⟩
  refine ⟨⟨by show L.1 + 1 ≤ 700; omega, fun i hi => ?_, fun i hi => ?_⟩, hn.1⟩
  · have hi : i < L.1 + 1 := hi
    show okst (okG g) (st1 L.2 L.1 s i) ∧ (match stk (st1 L.2 L.1 s i) with
      | 0 => dpt (st1 L.2 L.1 s) i < 64
      | 1 => 1 ≤ dpt (st1 L.2 L.1 s) i
      | _ => 2 ≤ dpt (st1 L.2 L.1 s) i)
    rw [dpt_st (by omega)]
    by_cases e : i = L.1
    · have e2 : st1 L.2 L.1 s i = s := if_pos e
      rw [e2, e]
      refine ⟨ok, ?_⟩
      revert hs
      generalize stk s = v
      intro hs
      match v, hs with
      | 0, hs => exact hs.1
      | 1, hs => exact hs.1
      | v + 2, hs => exact hs.1
    · have e2 : st1 L.2 L.1 s i = L.2 i := if_neg e
      rw [e2]; exact h2 i (by omega)
  · have hi : i ≤ L.1 + 1 := hi
    by_cases e : i = L.1 + 1
    · have : dpt (psh L s).2 (L.1 + 1) = d' := hn.1
      rw [e, this]; exact hn.2
    · show dpt (st1 L.2 L.1 s) i ≤ 64
      rw [dpt_st (by omega)]; exact h3 i (by omega)
abbrev Zx : Type := (Nat × Nat × Nat) × Rl
/-- the class while it reads an expression -/
def PC (n : Nat) (x : Nat → Nat) (g : Bool) (q : Nat) (z : Zx) (σ : pS) : Prop := TxC n x σ ∧ gI σ 24 6 = ι 0 ∧ TkC x z.1 σ ∧ gI σ (uG g q) 1 = ι z.2.1 ∧ (∀ i, i < z.2.1 → gI σ (uG g q + 1) i = z.2.2 i) ∧ (∀ k, k < 8 → (tb (gI σ (uG g q) 3) k = true ↔ ∃ i, i < z.2.1 ∧ z.2.2 i = ν 1 - ι k)) ∧ gR σ 24 9 = some (uG g q) ∧ gI σ 24 10 = bz (!g)
/-- the words that the reference looks for -/
def SMr (μ : pS) : Prop := gR μ 62 0 = some 1003 ∧ gR μ 62 1 = some 1004 ∧ gR μ 63 0 = some 1008 ∧ gR μ 63 1 = some 1009 ∧ gR μ 63 2 = some 1010 ∧ gR μ 63 3 = some 1011 ∧ gR μ 63 4 = some 1012 ∧ gR μ 63 5 = some 1013 ∧ gR μ 64 0 = some 1008 ∧ gR μ 64 1 = some 1009 ∧ gR μ 64 2 = some 1014 ∧ gR μ 64 3 = some 1015
def PM (n : Nat) (x : Nat → Nat) (g : Bool) (z : Zx) (μ : pS) : Prop := TxM n x μ ∧ gI μ 61 22 = ι 0 ∧ TkM x z.1 μ ∧ gI μ 65 (fL g) = ι z.2.1 ∧ (∀ i, i < z.2.1 → gI μ (cS g) (700 + i) = trG g (z.2.2 i)) ∧ gR μ 61 3 = some (if g then 64 else 63) ∧ gI μ 61 25 = bz g ∧ SMr μ
/-- what may change meanwhile -/
def GC (g : Bool) (q : Nat) (σ τ : pS) : Prop := Fr (fun a => a = 24 ∨ a = uG g q ∨ a = uG g q + 1) σ τ ∧ (∀ i, ¬ (2 ≤ i ∧ i ≤ 7) → gI τ 24 i = gI σ 24 i) ∧ gI τ (uG g q) 2 = gI σ (uG g q) 2
def GM (g : Bool) (σ τ : pS) : Prop := Fr (fun a => a = 61 ∨ a = 65 ∨ a = cS g) σ τ ∧ (∀ i, ¬ (i = 16 ∨ 18 ≤ i ∧ i ≤ 23) → gI τ 61 i = gI σ 61 i) ∧ (∀ i, i ≠ fL g → gI τ 65 i = gI σ 65 i) ∧ ∀ i, i < 700 → gI τ (cS g) i = gI σ (cS g) i
theorem GC.rf : GC g q σ σ := ⟨Fr.refl, fun _ _ => rfl, rfl⟩
theorem GM.rf : GM g σ σ := ⟨Fr.refl, fun _ _ => rfl, fun _ _ => rfl, fun _ _ => rfl⟩
theorem GC.trans (h : GC g q σ τ) (f : GC g q τ υ) : GC g q σ υ := ⟨h.1.trans f.1, fun i hi => (f.2.1 i hi).trans (h.2.1 i hi), f.2.2.trans h.2.2⟩
theorem GM.trans (h : GM g σ τ) (f : GM g τ υ) : GM g σ υ := ⟨h.1.trans f.1, fun i hi => (f.2.1 i hi).trans (h.2.1 i hi), fun i hi => (f.2.2.1 i hi).trans (h.2.2.1 i hi), fun i hi => (f.2.2.2 i hi).trans (h.2.2.2 i hi)⟩
theorem cS_or : cS g = 71 ∨ cS g = 72 := by cases g <;> decide
theorem fL_or : fL g = 8 ∨ fL g = 9 := by cases g <;> decide
def PT (n : Nat) (x : Nat → Nat) (g : Bool) (q : Nat) (z : Zx) (σ0 σ : pS) : Prop := PC n x g q z σ ∧ GC g q σ0 σ
def MT (n : Nat) (x : Nat → Nat) (g : Bool) (z : Zx) (μ0 μ : pS) : Prop := PM n x g z μ ∧ GM g μ0 μ
/-- behind a fault: its code, its place -/
def FT (g : Bool) (q c pl : Nat) (σ0 σ : pS) : Prop := (LayR (gR σ) ∧ c ≠ 0 ∧ c ≤ 5 ∧ gI σ 24 6 = ι c ∧ gI σ 24 7 = ι pl ∧ gI σ 24 4 = ι 0 ∧ gR σ 24 9 = some (uG g q)) ∧ GC g q σ0 σ
def FM (g : Bool) (c pl : Nat) (μ0 μ : pS) : Prop := (LayR (gR μ) ∧ c ≠ 0 ∧ c ≤ 5 ∧ gI μ 61 22 = ι c ∧ gI μ 61 23 = ι pl) ∧ GM g μ0 μ
def mayT (x : Nat → Nat) (tk : Nat × Nat × Nat) : Bool := decide (tk.1 = 2) || decide (tk.1 = 1) || sgS x tk 40
def Ivx (n : Nat) (x : Nat → Nat) (g : Bool) (z : Zx) : Prop := okTk n x z.1 ∧ wfp g z.2 ∧ z.2.1 ≤ z.1.2.1
/-- z' lies behind z, with D more on the stack -/
def goodZ (n : Nat) (x : Nat → Nat) (g : Bool) (z z' : Zx) (D : Nat) : Prop := Ivx n x g z' ∧ dpt z'.2.2 z'.2.1 = dpt z.2.2 z.2.1 + D ∧ z'.2.1 + z.1.2.1 ≤ z.2.1 + z'.1.2.1 ∧ z.1.2.1 ≤ z'.1.2.1
def XR (n : Nat) (x : Nat → Nat) (g : Bool) (q : Nat) (z : Zx) (D : Nat) (σ0 μ0 : pS) (zc zm : pZ) : Prop :=
  (∃ z', goodZ n x g z z' D ∧ mayT x z.1 = true ∧ RV (PT n x g q z' σ0) zc ∧ RV (MT n x g z' μ0) zm) ∨ ∃ c pl, (mayT x z.1 = false → c = 1 ∧ pl = z.1.2.1) ∧ RV (FT g q c pl σ0) zc ∧ RV (FM g c pl μ0) zm
variable {z z1 z2 : Zx}
/-! behind a fault: the class -/
theorem FT.lay (h : FT g q c pl σ0 σ) : LayR (gR σ) := h.1.1
theorem FT.up {S : pS} (h : FT g q c pl σ0 σ) (f : GC g q σ τ) (hL : gR τ = gR σ) (e6 : gI τ 24 6 = gI σ 24 6) (e7 : gI τ 24 7 = gI σ 24 7) (e4 : gI τ 24 4 = ι 0) : FT g q c pl σ0 τ :=
  ⟨⟨by rw [hL]; exact h.1.1, h.1.2.1, h.1.2.2.1, e6.trans h.1.2.2.2.1, e7.trans h.1.2.2.2.2.1, e4, by rw [hL]; exact h.1.2.2.2.2.2.2⟩, h.2.trans f⟩
theorem f48 (h : FT g q c pl σ0 σ) (hw : 1000 ≤ w) (hw2 : w < 1026) : pcall 48 [.ref 24, .ref w] σ = some (1, .int (ι 0), σ) := by
  obtain ⟨i1, rfl⟩ : ∃ i1, w = i1 + 1000 := ⟨w - 1000, by omega⟩
  refine (M_48 (by omega) rfl h.lay).eq ?_
  rw [h.1.2.2.2.2.2.1, if_pos (by decide)]
theorem f58 (h : FT g q c pl σ0 σ) : pcall 58 [.ref 24, .int y] σ = some (1, .int (ι 0), σ) := by
  refine (M_58 rfl h.lay).eq ?_
  rw [h.1.2.2.2.2.2.1, if_pos (by decide)]
theorem f43 (h : FT g q c pl σ0 σ) : pcall 43 [.ref 24] σ = some (0, .null, σ) := by
  have := h.1.2.2.1; have := h.1.2.1
  refine (M_43 rfl h.lay).eq ?_
  rw [h.1.2.2.2.1, if_neg (by rw [ι_eq (by omega) (by omega)]; omega)]
theorem f50 (h : FT g q c pl σ0 σ) : Wp (pcall 50 [.ref 24, .int y] σ) (RV (FT g q c pl σ0)) := by
  have := h.1.2.2.1; have := h.1.2.1
  refine Wp.le (M_50 rfl h.lay) ?_
  rw [h.1.2.2.2.1, if_pos (by rw [ι_eq (by omega) (by omega)]; omega)]
  refine Wp.retV (h.up (S := σ) ⟨Fr.refl.mI (Or.inl rfl), fun i hi => gI_n (by omega), ?_⟩ rfl (gI_n (by omega)) (gI_n (by omega)) gI_s)
  by_cases e : uG g q = 24
  · rw [e, gI_n (by omega)]
  · exact gI_c e
theorem f22 (hq : isP q) (h : FT g q c pl σ0 σ) : Wp (pcall 22 [.ref (uG g q), .int y] σ) (RV (FT g q c pl σ0)) := by
  have hu := uG_le (g := g) hq
  refine Wp.le (M_22 (uG_U hq) rfl h.lay) ?_
  by_cases e1 : gI σ (uG g q) 1 < ι 0
  · rw [if_pos e1]; exact Wp.retV h
  rw [if_neg e1]
  by_cases e2 : ι 700 ≤ gI σ (uG g q) 1
  · rw [if_pos e2]; exact Wp.retV h
  rw [if_neg e2]
  obtain ⟨k, hk, ek⟩ := ι_of e1 (Int32.not_le.mp e2) (by omega)
  rw [ek, gd_inb hk (by omega)]
  exact Wp.retV (h.up (S := σ) ⟨(Fr.refl.mI (Or.inr (Or.inr rfl))).mI (Or.inr (Or.inl rfl)), fun i hi => by rw [gI_c (by omega), gI_c (by omega)], by rw [gI_n (by omega), gI_c (by omega)]⟩ rfl (by rw [gI_c (by omega), gI_c (by omega)]) (by rw [gI_c (by omega), gI_c (by omega)]) (by rw [gI_c (by omega), gI_c (by omega)]; exact h.1.2.2.2.2.2.1))
theorem f66 (h : FT g q c pl σ0 σ) : Wp (pcall 66 [.ref 24, .int y] σ) (RV (FT g q c pl σ0)) := by
  refine Wp.le (M_66 rfl h.lay) ?_
  rw [f58 h, bI_ret, if_neg (fun g => g rfl)]
  refine Wp.cV (f50 h) fun τ h => ?_
  rw [f43 h, bV_ret]; exact Wp.retV h
theorem FT.u9 (h : FT g q c pl σ0 σ) (hq : isP q) {f : Nat → Option pZ} : bG isU (gR σ 24 9) f = f (uG g q) := bG_some h.1.2.2.2.2.2.2 (uG_U hq)
theorem f64 (hq : isP q) (hk : k ≤ 6) (h : FT g q c pl σ0 σ) : Wp (pcall 64 [.ref 24, .int (ι k)] σ) (RV (FT g q c pl σ0)) := by
  refine Wp.le (M_64 rfl h.lay) ?_
  rw [h.1.2.2.2.2.2.1, if_pos (by decide), if_pos (by decide)]
  refine Wp.g (by simp (disch := omega) only [lv_22, lv_23, lv_43, lv_48, lv_50, lv_52, lv_57, lv_58, lv_59, lv_60, lv_61, lv_62, lv_63, lv_64, lv_65, lv_66, lv_212, lv_218, lv_219, lv_220, lv_221, lv_222, lv_223, lv_224, lv_225, lv_226, lv_227, lv_228, lv_230, lv_231, rk_57, rk_59, rk_60, rk_61, rk_62, rk_63, rk_64, rk_221, rk_223, rk_224, rk_225, rk_226, rk_227] <;> omega) ?_
  rw [f58 h, bI_ret, if_pos rfl]
  refine Wp.g (by simp (disch := omega) only [lv_22, lv_23, lv_43, lv_48, lv_50, lv_52, lv_57, lv_58, lv_59, lv_60, lv_61, lv_62, lv_63, lv_64, lv_65, lv_66, lv_212, lv_218, lv_219, lv_220, lv_221, lv_222, lv_223, lv_224, lv_225, lv_226, lv_227, lv_228, lv_230, lv_231, rk_57, rk_59, rk_60, rk_61, rk_62, rk_63, rk_64, rk_221, rk_223, rk_224, rk_225, rk_226, rk_227] <;> omega) ?_
  exact Wp.cV (f50 h) fun τ h => Wp.retV h
theorem f63b (hq : isP q) (hk : k ≤ 6) (h : FT g q c pl σ0 σ) {v : Value} {y : Int32} : Wp (C_63_7 k (ι k) y v σ) (RV (FT g q c pl σ0)) := by
  refine Wp.le (T_63_7 rfl h.lay) ?_
  by_cases e : ι 700 ≤ y
  · rw [if_pos e]; exact Wp.retV h
  · rw [if_neg e]
    refine Wp.g (by simp (disch := omega) only [lv_22, lv_23, lv_43, lv_48, lv_50, lv_52, lv_57, lv_58, lv_59, lv_60, lv_61, lv_62, lv_63, lv_64, lv_65, lv_66, lv_212, lv_218, lv_219, lv_220, lv_221, lv_222, lv_223, lv_224, lv_225, lv_226, lv_227, lv_228, lv_230, lv_231, rk_57, rk_59, rk_60, rk_61, rk_62, rk_63, rk_64, rk_221, rk_223, rk_224, rk_225, rk_226, rk_227] <;> omega) ?_
    rw [f58 h, bI_ret, if_neg (fun g => g rfl)]
    refine Wp.g (by simp (disch := omega) only [lv_22, lv_23, lv_43, lv_48, lv_50, lv_52, lv_57, lv_58, lv_59, lv_60, lv_61, lv_62, lv_63, lv_64, lv_65, lv_66, lv_212, lv_218, lv_219, lv_220, lv_221, lv_222, lv_223, lv_224, lv_225, lv_226, lv_227, lv_228, lv_230, lv_231, rk_57, rk_59, rk_60, rk_61, rk_62, rk_63, rk_64, rk_221, rk_223, rk_224, rk_225, rk_226, rk_227] <;> omega) ?_
    rw [f58 h, bI_ret, if_pos rfl]; exact Wp.retV h
theorem f63 (hq : isP q) (hk : k ≤ 6) (h : FT g q c pl σ0 σ) : Wp (pcall 63 [.ref 24, .int (ι k)] σ) (RV (FT g q c pl σ0)) := by
  refine Wp.le (M_63 rfl h.lay) ?_
  refine Wp.g (by simp (disch := omega) only [lv_22, lv_23, lv_43, lv_48, lv_50, lv_52, lv_57, lv_58, lv_59, lv_60, lv_61, lv_62, lv_63, lv_64, lv_65, lv_66, lv_212, lv_218, lv_219, lv_220, lv_221, lv_222, lv_223, lv_224, lv_225, lv_226, lv_227, lv_228, lv_230, lv_231, rk_57, rk_59, rk_60, rk_61, rk_62, rk_63, rk_64, rk_221, rk_223, rk_224, rk_225, rk_226, rk_227] <;> omega) ?_
  rw [rk_63 (by omega)]
  exact Wp.cV (f64 hq hk h) fun τ h => f63b hq hk h
theorem f62b (hq : isP q) (hk : k ≤ 6) (h : FT g q c pl σ0 σ) {v : Value} {y : Int32} : Wp (C_62_7 k (ι k) y v σ) (RV (FT g q c pl σ0)) := by
  refine Wp.le (T_62_7 rfl h.lay) ?_
  by_cases e : ι 700 ≤ y
  · rw [if_pos e]; exact Wp.retV h
  · rw [if_neg e]
    refine Wp.g (by simp (disch := omega) only [lv_22, lv_23, lv_43, lv_48, lv_50, lv_52, lv_57, lv_58, lv_59, lv_60, lv_61, lv_62, lv_63, lv_64, lv_65, lv_66, lv_212, lv_218, lv_219, lv_220, lv_221, lv_222, lv_223, lv_224, lv_225, lv_226, lv_227, lv_228, lv_230, lv_231, rk_57, rk_59, rk_60, rk_61, rk_62, rk_63, rk_64, rk_221, rk_223, rk_224, rk_225, rk_226, rk_227] <;> omega) ?_
    rw [f58 h, bI_ret, if_neg (fun g => g rfl)]
    refine Wp.g (by simp (disch := omega) only [lv_22, lv_23, lv_43, lv_48, lv_50, lv_52, lv_57, lv_58, lv_59, lv_60, lv_61, lv_62, lv_63, lv_64, lv_65, lv_66, lv_212, lv_218, lv_219, lv_220, lv_221, lv_222, lv_223, lv_224, lv_225, lv_226, lv_227, lv_228, lv_230, lv_231, rk_57, rk_59, rk_60, rk_61, rk_62, rk_63, rk_64, rk_221, rk_223, rk_224, rk_225, rk_226, rk_227] <;> omega) ?_
    rw [f58 h, bI_ret, if_pos rfl]; exact Wp.retV h
theorem f62 (hq : isP q) (hk : k ≤ 6) (h : FT g q c pl σ0 σ) : Wp (pcall 62 [.ref 24, .int (ι k)] σ) (RV (FT g q c pl σ0)) := by
  refine Wp.le (M_62 rfl h.lay) ?_
  refine Wp.g (by simp (disch := omega) only [lv_22, lv_23, lv_43, lv_48, lv_50, lv_52, lv_57, lv_58, lv_59, lv_60, lv_61, lv_62, lv_63, lv_64, lv_65, lv_66, lv_212, lv_218, lv_219, lv_220, lv_221, lv_222, lv_223, lv_224, lv_225, lv_226, lv_227, lv_228, lv_230, lv_231, rk_57, rk_59, rk_60, rk_61, rk_62, rk_63, rk_64, rk_221, rk_223, rk_224, rk_225, rk_226, rk_227] <;> omega) ?_
  rw [rk_62 (by omega)]
  exact Wp.cV (f63 hq hk h) fun τ h => f62b hq hk h
theorem f61 (hq : isP q) (hk : k ≤ 6) (h : FT g q c pl σ0 σ) : Wp (pcall 61 [.ref 24, .int (ι k)] σ) (RV (FT g q c pl σ0)) := by
  refine Wp.le (M_61 rfl h.lay) ?_
  refine Wp.g (by simp (disch := omega) only [lv_22, lv_23, lv_43, lv_48, lv_50, lv_52, lv_57, lv_58, lv_59, lv_60, lv_61, lv_62, lv_63, lv_64, lv_65, lv_66, lv_212, lv_218, lv_219, lv_220, lv_221, lv_222, lv_223, lv_224, lv_225, lv_226, lv_227, lv_228, lv_230, lv_231, rk_57, rk_59, rk_60, rk_61, rk_62, rk_63, rk_64, rk_221, rk_223, rk_224, rk_225, rk_226, rk_227] <;> omega) ?_
  refine Wp.cV (f62 hq hk h) fun τ h => ?_
  refine Wp.g (by simp (disch := omega) only [lv_22, lv_23, lv_43, lv_48, lv_50, lv_52, lv_57, lv_58, lv_59, lv_60, lv_61, lv_62, lv_63, lv_64, lv_65, lv_66, lv_212, lv_218, lv_219, lv_220, lv_221, lv_222, lv_223, lv_224, lv_225, lv_226, lv_227, lv_228, lv_230, lv_231, rk_57, rk_59, rk_60, rk_61, rk_62, rk_63, rk_64, rk_221, rk_223, rk_224, rk_225, rk_226, rk_227] <;> omega) ?_
  rw [f58 h, bI_ret, if_neg (fun g => g rfl)]
  refine Wp.g (by simp (disch := omega) only [lv_22, lv_23, lv_43, lv_48, lv_50, lv_52, lv_57, lv_58, lv_59, lv_60, lv_61, lv_62, lv_63, lv_64, lv_65, lv_66, lv_212, lv_218, lv_219, lv_220, lv_221, lv_222, lv_223, lv_224, lv_225, lv_226, lv_227, lv_228, lv_230, lv_231, rk_57, rk_59, rk_60, rk_61, rk_62, rk_63, rk_64, rk_221, rk_223, rk_224, rk_225, rk_226, rk_227] <;> omega) ?_
  rw [f58 h, bI_ret, if_pos rfl]; exact Wp.retV h
/-- the steps 'not' that are still to lay -/
theorem f60c (hq : isP q) (hk : k ≤ 6) (hj : j ≤ 6) {v : Value} : ∀ m i σ, i + m = j → FT g q c pl σ0 σ → Wp (C_60_48 k v (ι j) (ι i) σ) (RV (FT g q c pl σ0)) := by
  intro m
  induction m with
  | zero =>
    intro i σ hi h
    refine Wp.le (T_60_48 rfl h.lay) ?_
    rw [if_pos (by rw [ι_le (by omega) (by omega)]; omega)]; exact Wp.retV h
  | succ m ih =>
    intro i σ hi h
    refine Wp.le (T_60_48 rfl h.lay) ?_
    rw [if_neg (by rw [ι_le (by omega) (by omega)]; omega), h.u9 hq]
    refine Wp.g (by simp (disch := omega) only [lv_22, lv_23, lv_43, lv_48, lv_50, lv_52, lv_57, lv_58, lv_59, lv_60, lv_61, lv_62, lv_63, lv_64, lv_65, lv_66, lv_212, lv_218, lv_219, lv_220, lv_221, lv_222, lv_223, lv_224, lv_225, lv_226, lv_227, lv_228, lv_230, lv_231, rk_57, rk_59, rk_60, rk_61, rk_62, rk_63, rk_64, rk_221, rk_223, rk_224, rk_225, rk_226, rk_227] <;> omega) ?_
    refine Wp.cV (f22 hq h) fun τ h => ?_
    rw [ι_add]; exact ih (i + 1) τ (by omega) h
theorem f60b (hq : isP q) (hk : k ≤ 6) (hj : j ≤ 6) (h : FT g q c pl σ0 σ) {v : Value} : Wp (C_60_2 k (ι k) (ι j) v σ) (RV (FT g q c pl σ0)) := by
  refine Wp.le (T_60_2 rfl h.lay) ?_
  by_cases e : ι 6 ≤ ι j
  · rw [if_pos e]
    refine Wp.g (by simp (disch := omega) only [lv_22, lv_23, lv_43, lv_48, lv_50, lv_52, lv_57, lv_58, lv_59, lv_60, lv_61, lv_62, lv_63, lv_64, lv_65, lv_66, lv_212, lv_218, lv_219, lv_220, lv_221, lv_222, lv_223, lv_224, lv_225, lv_226, lv_227, lv_228, lv_230, lv_231, rk_57, rk_59, rk_60, rk_61, rk_62, rk_63, rk_64, rk_221, rk_223, rk_224, rk_225, rk_226, rk_227] <;> omega) ?_
    rw [f48 h (by omega) (by omega), bI_ret, if_pos rfl]
    refine Wp.g (by simp (disch := omega) only [lv_22, lv_23, lv_43, lv_48, lv_50, lv_52, lv_57, lv_58, lv_59, lv_60, lv_61, lv_62, lv_63, lv_64, lv_65, lv_66, lv_212, lv_218, lv_219, lv_220, lv_221, lv_222, lv_223, lv_224, lv_225, lv_226, lv_227, lv_228, lv_230, lv_231, rk_57, rk_59, rk_60, rk_61, rk_62, rk_63, rk_64, rk_221, rk_223, rk_224, rk_225, rk_226, rk_227] <;> omega) ?_
    exact Wp.cV (f61 hq hk h) fun τ h => f60c hq hk hj j 0 τ (by omega) h
  · rw [if_neg e]
    refine Wp.g (by simp (disch := omega) only [lv_22, lv_23, lv_43, lv_48, lv_50, lv_52, lv_57, lv_58, lv_59, lv_60, lv_61, lv_62, lv_63, lv_64, lv_65, lv_66, lv_212, lv_218, lv_219, lv_220, lv_221, lv_222, lv_223, lv_224, lv_225, lv_226, lv_227, lv_228, lv_230, lv_231, rk_57, rk_59, rk_60, rk_61, rk_62, rk_63, rk_64, rk_221, rk_223, rk_224, rk_225, rk_226, rk_227] <;> omega) ?_
    rw [f48 h (by omega) (by omega), bI_ret, if_pos rfl]
    refine Wp.g (by simp (disch := omega) only [lv_22, lv_23, lv_43, lv_48, lv_50, lv_52, lv_57, lv_58, lv_59, lv_60, lv_61, lv_62, lv_63, lv_64, lv_65, lv_66, lv_212, lv_218, lv_219, lv_220, lv_221, lv_222, lv_223, lv_224, lv_225, lv_226, lv_227, lv_228, lv_230, lv_231, rk_57, rk_59, rk_60, rk_61, rk_62, rk_63, rk_64, rk_221, rk_223, rk_224, rk_225, rk_226, rk_227] <;> omega) ?_
    rw [f48 h (by omega) (by omega), bI_ret, if_pos rfl]
    refine Wp.g (by simp (disch := omega) only [lv_22, lv_23, lv_43, lv_48, lv_50, lv_52, lv_57, lv_58, lv_59, lv_60, lv_61, lv_62, lv_63, lv_64, lv_65, lv_66, lv_212, lv_218, lv_219, lv_220, lv_221, lv_222, lv_223, lv_224, lv_225, lv_226, lv_227, lv_228, lv_230, lv_231, rk_57, rk_59, rk_60, rk_61, rk_62, rk_63, rk_64, rk_221, rk_223, rk_224, rk_225, rk_226, rk_227] <;> omega) ?_
    exact Wp.cV (f61 hq hk h) fun τ h => f60c hq hk hj j 0 τ (by omega) h
theorem f60 (hq : isP q) (hk : k ≤ 6) (h : FT g q c pl σ0 σ) : Wp (pcall 60 [.ref 24, .int (ι k)] σ) (RV (FT g q c pl σ0)) := by
  refine Wp.le (M_60 rfl h.lay) ?_
  rw [rk_60 (by omega)]
  exact f60b hq hk (by omega) h
theorem f59b (hq : isP q) (hk : k ≤ 6) (h : FT g q c pl σ0 σ) {y : Int32} : Wp (C_59_7 k (ι k) y σ) (RV (FT g q c pl σ0)) := by
  refine Wp.le (T_59_7 rfl h.lay) ?_
  by_cases e : ι 700 ≤ y
  · rw [if_pos e]; exact Wp.retV h
  · rw [if_neg e]
    refine Wp.g (by simp (disch := omega) only [lv_22, lv_23, lv_43, lv_48, lv_50, lv_52, lv_57, lv_58, lv_59, lv_60, lv_61, lv_62, lv_63, lv_64, lv_65, lv_66, lv_212, lv_218, lv_219, lv_220, lv_221, lv_222, lv_223, lv_224, lv_225, lv_226, lv_227, lv_228, lv_230, lv_231, rk_57, rk_59, rk_60, rk_61, rk_62, rk_63, rk_64, rk_221, rk_223, rk_224, rk_225, rk_226, rk_227] <;> omega) ?_
    rw [f48 h (by omega) (by omega), bI_ret, if_pos rfl]; exact Wp.retV h
theorem f59 (hq : isP q) (hk : k ≤ 6) (h : FT g q c pl σ0 σ) : Wp (pcall 59 [.ref 24, .int (ι k)] σ) (RV (FT g q c pl σ0)) := by
  refine Wp.le (M_59 rfl h.lay) ?_
  refine Wp.g (by simp (disch := omega) only [lv_22, lv_23, lv_43, lv_48, lv_50, lv_52, lv_57, lv_58, lv_59, lv_60, lv_61, lv_62, lv_63, lv_64, lv_65, lv_66, lv_212, lv_218, lv_219, lv_220, lv_221, lv_222, lv_223, lv_224, lv_225, lv_226, lv_227, lv_228, lv_230, lv_231, rk_57, rk_59, rk_60, rk_61, rk_62, rk_63, rk_64, rk_221, rk_223, rk_224, rk_225, rk_226, rk_227] <;> omega) ?_
  rw [rk_59 (by omega)]
  exact Wp.cV (f60 hq hk h) fun τ h => f59b hq hk h
theorem f57b (hq : isP q) (hk : k ≤ 6) (h : FT g q c pl σ0 σ) {y : Int32} : Wp (C_57_47 k (ι k) y σ) (RV (FT g q c pl σ0)) := by
  refine Wp.le (T_57_47 rfl h.lay) ?_
  by_cases e : ι 700 ≤ y
  · rw [if_pos e]; exact Wp.retV h
  · rw [if_neg e]
    refine Wp.g (by simp (disch := omega) only [lv_22, lv_23, lv_43, lv_48, lv_50, lv_52, lv_57, lv_58, lv_59, lv_60, lv_61, lv_62, lv_63, lv_64, lv_65, lv_66, lv_212, lv_218, lv_219, lv_220, lv_221, lv_222, lv_223, lv_224, lv_225, lv_226, lv_227, lv_228, lv_230, lv_231, rk_57, rk_59, rk_60, rk_61, rk_62, rk_63, rk_64, rk_221, rk_223, rk_224, rk_225, rk_226, rk_227] <;> omega) ?_
    rw [f48 h (by omega) (by omega), bI_ret, if_pos rfl]; exact Wp.retV h
theorem f57 (hq : isP q) (hk : k ≤ 6) (h : FT g q c pl σ0 σ) : Wp (pcall 57 [.ref 24, .int (ι k)] σ) (RV (FT g q c pl σ0)) := by
  refine Wp.le (M_57 rfl h.lay) ?_
  by_cases e : k ≤ 5
  · rw [if_pos (by rw [ι_le (by omega) (by omega)]; exact e)]
    refine Wp.g (by simp (disch := omega) only [lv_22, lv_23, lv_43, lv_48, lv_50, lv_52, lv_57, lv_58, lv_59, lv_60, lv_61, lv_62, lv_63, lv_64, lv_65, lv_66, lv_212, lv_218, lv_219, lv_220, lv_221, lv_222, lv_223, lv_224, lv_225, lv_226, lv_227, lv_228, lv_230, lv_231, rk_57, rk_59, rk_60, rk_61, rk_62, rk_63, rk_64, rk_221, rk_223, rk_224, rk_225, rk_226, rk_227] <;> omega) ?_
    rw [rk_57 (by omega)]
    exact Wp.cV (f59 hq hk h) fun τ h => f57b hq hk h
  · rw [if_neg (by rw [ι_le (by omega) (by omega)]; exact e), h.1.2.2.2.2.2.1, if_neg (by decide), if_neg (by decide)]
    refine Wp.g (by simp (disch := omega) only [lv_22, lv_23, lv_43, lv_48, lv_50, lv_52, lv_57, lv_58, lv_59, lv_60, lv_61, lv_62, lv_63, lv_64, lv_65, lv_66, lv_212, lv_218, lv_219, lv_220, lv_221, lv_222, lv_223, lv_224, lv_225, lv_226, lv_227, lv_228, lv_230, lv_231, rk_57, rk_59, rk_60, rk_61, rk_62, rk_63, rk_64, rk_221, rk_223, rk_224, rk_225, rk_226, rk_227] <;> omega) ?_
    rw [f58 h, bI_ret, if_pos rfl]
    refine Wp.g (by simp (disch := omega) only [lv_22, lv_23, lv_43, lv_48, lv_50, lv_52, lv_57, lv_58, lv_59, lv_60, lv_61, lv_62, lv_63, lv_64, lv_65, lv_66, lv_212, lv_218, lv_219, lv_220, lv_221, lv_222, lv_223, lv_224, lv_225, lv_226, lv_227, lv_228, lv_230, lv_231, rk_57, rk_59, rk_60, rk_61, rk_62, rk_63, rk_64, rk_221, rk_223, rk_224, rk_225, rk_226, rk_227] <;> omega) ?_
    exact Wp.cV (f50 h) fun τ h => Wp.retV h
/-! behind a fault: the reference -/
theorem FM.lay (h : FM g c pl μ0 μ) : LayR (gR μ) := h.1.1
theorem FM.n22 (h : FM g c pl μ0 μ) : ¬ gI μ 61 22 = ι 0 := by
  have := h.1.2.1; have := h.1.2.2.1
  rw [h.1.2.2.2.1, ι_eq (by omega) (by omega)]; omega
theorem fm219 (h : FM g c pl μ0 μ) (hw : 1000 ≤ w) (hw2 : w < 1026) : pcall 219 [.ref 61, .ref w] μ = some (1, .int (ι 0), μ) := by
  obtain ⟨i1, rfl⟩ : ∃ i1, w = i1 + 1000 := ⟨w - 1000, by omega⟩
  refine Wp.eqI (Wp.le (M_219 (by omega) rfl h.lay) ?_)
  rw [if_pos h.n22]
  refine Wp.le (T_219_39 (by omega) rfl h.lay) ?_
  rw [if_pos rfl, gd_pos (show narrow .boolean (.int (ι 0)) = .int (ι 0) from narrow_bz false)]
  exact Wp.retI rfl
theorem fm222 (h : FM g c pl μ0 μ) : pcall 222 [.ref 61, .int y] μ = some (1, .int (ι 0), μ) := by
  refine (M_222 rfl h.lay).eq ?_
  rw [if_pos h.n22]
theorem fm220 (h : FM g c pl μ0 μ) : pcall 220 [.ref 61, .int y] μ = some (0, .null, μ) := by
  refine (M_220 rfl h.lay).eq ?_
  rw [if_neg h.n22]
theorem fm231 (h : FM g c pl μ0 μ) : pcall 231 [.ref 61, .int y] μ = some (0, .null, μ) := by
  refine (M_231 rfl h.lay).eq ?_
  rw [if_pos h.n22, if_pos h.n22]
theorem fm230 (h : FM g c pl μ0 μ) : pcall 230 [.ref 61, .int y] μ = some (0, .null, μ) := by
  refine (M_230 rfl h.lay).eq ?_
  rw [if_neg h.n22]
theorem fm227 (h : FM g c pl μ0 μ) : pcall 227 [.ref 61, .int (ι k)] μ = some (0, .null, μ) := by
  refine (M_227 rfl h.lay).eq ?_
  rw [if_neg h.n22]
theorem fm221 (h : FM g c pl μ0 μ) : pcall 221 [.ref 61, .int (ι k)] μ = some (0, .null, μ) := by
  refine (M_221 rfl h.lay).eq ?_
  rw [if_neg h.n22]
theorem fm226b (hk : k ≤ 6) (h : FM g c pl μ0 μ) {v : Value} : C_226_5 k (ι k) v μ = some (0, .null, μ) := by
  refine (T_226_5 rfl h.lay).eq ?_
  rw [gd_pos (by simp (disch := omega) only [lv_22, lv_23, lv_43, lv_48, lv_50, lv_52, lv_57, lv_58, lv_59, lv_60, lv_61, lv_62, lv_63, lv_64, lv_65, lv_66, lv_212, lv_218, lv_219, lv_220, lv_221, lv_222, lv_223, lv_224, lv_225, lv_226, lv_227, lv_228, lv_230, lv_231, rk_57, rk_59, rk_60, rk_61, rk_62, rk_63, rk_64, rk_221, rk_223, rk_224, rk_225, rk_226, rk_227] <;> omega), fm222 h, bI_ret, if_neg (fun g => g rfl), gd_pos (by simp (disch := omega) only [lv_22, lv_23, lv_43, lv_48, lv_50, lv_52, lv_57, lv_58, lv_59, lv_60, lv_61, lv_62, lv_63, lv_64, lv_65, lv_66, lv_212, lv_218, lv_219, lv_220, lv_221, lv_222, lv_223, lv_224, lv_225, lv_226, lv_227, lv_228, lv_230, lv_231, rk_57, rk_59, rk_60, rk_61, rk_62, rk_63, rk_64, rk_221, rk_223, rk_224, rk_225, rk_226, rk_227] <;> omega), fm222 h, bI_ret, if_pos rfl]
theorem fm226 (hk : k ≤ 6) (h : FM g c pl μ0 μ) : pcall 226 [.ref 61, .int (ι k)] μ = some (0, .null, μ) := by
  refine (M_226 rfl h.lay).eq ?_
  rw [gd_pos (by simp (disch := omega) only [lv_22, lv_23, lv_43, lv_48, lv_50, lv_52, lv_57, lv_58, lv_59, lv_60, lv_61, lv_62, lv_63, lv_64, lv_65, lv_66, lv_212, lv_218, lv_219, lv_220, lv_221, lv_222, lv_223, lv_224, lv_225, lv_226, lv_227, lv_228, lv_230, lv_231, rk_57, rk_59, rk_60, rk_61, rk_62, rk_63, rk_64, rk_221, rk_223, rk_224, rk_225, rk_226, rk_227] <;> omega), fm227 h, bV_ret, rk_226 (by omega), fm226b hk h]
theorem fm225b (hk : k ≤ 6) (h : FM g c pl μ0 μ) {v : Value} : C_225_5 k (ι k) v μ = some (0, .null, μ) := by
  refine (T_225_5 rfl h.lay).eq ?_
  rw [gd_pos (by simp (disch := omega) only [lv_22, lv_23, lv_43, lv_48, lv_50, lv_52, lv_57, lv_58, lv_59, lv_60, lv_61, lv_62, lv_63, lv_64, lv_65, lv_66, lv_212, lv_218, lv_219, lv_220, lv_221, lv_222, lv_223, lv_224, lv_225, lv_226, lv_227, lv_228, lv_230, lv_231, rk_57, rk_59, rk_60, rk_61, rk_62, rk_63, rk_64, rk_221, rk_223, rk_224, rk_225, rk_226, rk_227] <;> omega), fm222 h, bI_ret, if_neg (fun g => g rfl), gd_pos (by simp (disch := omega) only [lv_22, lv_23, lv_43, lv_48, lv_50, lv_52, lv_57, lv_58, lv_59, lv_60, lv_61, lv_62, lv_63, lv_64, lv_65, lv_66, lv_212, lv_218, lv_219, lv_220, lv_221, lv_222, lv_223, lv_224, lv_225, lv_226, lv_227, lv_228, lv_230, lv_231, rk_57, rk_59, rk_60, rk_61, rk_62, rk_63, rk_64, rk_221, rk_223, rk_224, rk_225, rk_226, rk_227] <;> omega), fm222 h, bI_ret, if_pos rfl]
theorem fm225 (hk : k ≤ 6) (h : FM g c pl μ0 μ) : pcall 225 [.ref 61, .int (ι k)] μ = some (0, .null, μ) := by
  refine (M_225 rfl h.lay).eq ?_
  rw [gd_pos (by simp (disch := omega) only [lv_22, lv_23, lv_43, lv_48, lv_50, lv_52, lv_57, lv_58, lv_59, lv_60, lv_61, lv_62, lv_63, lv_64, lv_65, lv_66, lv_212, lv_218, lv_219, lv_220, lv_221, lv_222, lv_223, lv_224, lv_225, lv_226, lv_227, lv_228, lv_230, lv_231, rk_57, rk_59, rk_60, rk_61, rk_62, rk_63, rk_64, rk_221, rk_223, rk_224, rk_225, rk_226, rk_227] <;> omega), fm226 hk h, bV_ret, rk_225 (by omega), fm225b hk h]
theorem fm224c (hk : k ≤ 6) (hj : j ≤ 7) (h : FM g c pl μ0 μ) {v : Value} : ∀ m i, i + m = j → C_224_95 k v (ι j) (ι i) μ = some (0, .null, μ) := by
  intro m
  induction m with
  | zero =>
    intro i hi
    refine (T_224_95 rfl h.lay).eq ?_
    rw [if_pos (by rw [ι_le (by omega) (by omega)]; omega)]
  | succ m ih =>
    intro i hi
    refine (T_224_95 rfl h.lay).eq ?_
    rw [if_neg (by rw [ι_le (by omega) (by omega)]; omega), gd_pos (by simp (disch := omega) only [lv_22, lv_23, lv_43, lv_48, lv_50, lv_52, lv_57, lv_58, lv_59, lv_60, lv_61, lv_62, lv_63, lv_64, lv_65, lv_66, lv_212, lv_218, lv_219, lv_220, lv_221, lv_222, lv_223, lv_224, lv_225, lv_226, lv_227, lv_228, lv_230, lv_231, rk_57, rk_59, rk_60, rk_61, rk_62, rk_63, rk_64, rk_221, rk_223, rk_224, rk_225, rk_226, rk_227] <;> omega), fm230 h, bV_ret, ι_add]
    exact ih (i + 1) (by omega)
theorem fm224b (hk : k ≤ 6) (hj : j ≤ 7) (h : FM g c pl μ0 μ) {v : Value} : C_224_2 k (ι k) (ι j) v μ = some (0, .null, μ) := by
  refine (T_224_2 rfl h.lay).eq ?_
  rw [gd_pos (by simp (disch := omega) only [lv_22, lv_23, lv_43, lv_48, lv_50, lv_52, lv_57, lv_58, lv_59, lv_60, lv_61, lv_62, lv_63, lv_64, lv_65, lv_66, lv_212, lv_218, lv_219, lv_220, lv_221, lv_222, lv_223, lv_224, lv_225, lv_226, lv_227, lv_228, lv_230, lv_231, rk_57, rk_59, rk_60, rk_61, rk_62, rk_63, rk_64, rk_221, rk_223, rk_224, rk_225, rk_226, rk_227] <;> omega), fm219 h (by omega) (by omega), bI_ret, if_pos rfl, gd_pos (by simp (disch := omega) only [lv_22, lv_23, lv_43, lv_48, lv_50, lv_52, lv_57, lv_58, lv_59, lv_60, lv_61, lv_62, lv_63, lv_64, lv_65, lv_66, lv_212, lv_218, lv_219, lv_220, lv_221, lv_222, lv_223, lv_224, lv_225, lv_226, lv_227, lv_228, lv_230, lv_231, rk_57, rk_59, rk_60, rk_61, rk_62, rk_63, rk_64, rk_221, rk_223, rk_224, rk_225, rk_226, rk_227] <;> omega), fm225 hk h, bV_ret, gd_pos (by simp (disch := omega) only [lv_22, lv_23, lv_43, lv_48, lv_50, lv_52, lv_57, lv_58, lv_59, lv_60, lv_61, lv_62, lv_63, lv_64, lv_65, lv_66, lv_212, lv_218, lv_219, lv_220, lv_221, lv_222, lv_223, lv_224, lv_225, lv_226, lv_227, lv_228, lv_230, lv_231, rk_57, rk_59, rk_60, rk_61, rk_62, rk_63, rk_64, rk_221, rk_223, rk_224, rk_225, rk_226, rk_227] <;> omega), fm222 h, bI_ret, if_neg (fun g => g rfl), gd_pos (by simp (disch := omega) only [lv_22, lv_23, lv_43, lv_48, lv_50, lv_52, lv_57, lv_58, lv_59, lv_60, lv_61, lv_62, lv_63, lv_64, lv_65, lv_66, lv_212, lv_218, lv_219, lv_220, lv_221, lv_222, lv_223, lv_224, lv_225, lv_226, lv_227, lv_228, lv_230, lv_231, rk_57, rk_59, rk_60, rk_61, rk_62, rk_63, rk_64, rk_221, rk_223, rk_224, rk_225, rk_226, rk_227] <;> omega), fm222 h, bI_ret, if_pos rfl]
  exact fm224c hk hj h j 0 (by omega)
theorem fm224 (hk : k ≤ 6) (h : FM g c pl μ0 μ) : pcall 224 [.ref 61, .int (ι k)] μ = some (0, .null, μ) := by
  refine (M_224 rfl h.lay).eq ?_
  rw [rk_224 (by omega)]
  exact fm224b hk (by omega) h
theorem fm223b (hk : k ≤ 6) (h : FM g c pl μ0 μ) : C_223_5 k (ι k) μ = some (0, .null, μ) := by
  refine (T_223_5 rfl h.lay).eq ?_
  rw [gd_pos (by simp (disch := omega) only [lv_22, lv_23, lv_43, lv_48, lv_50, lv_52, lv_57, lv_58, lv_59, lv_60, lv_61, lv_62, lv_63, lv_64, lv_65, lv_66, lv_212, lv_218, lv_219, lv_220, lv_221, lv_222, lv_223, lv_224, lv_225, lv_226, lv_227, lv_228, lv_230, lv_231, rk_57, rk_59, rk_60, rk_61, rk_62, rk_63, rk_64, rk_221, rk_223, rk_224, rk_225, rk_226, rk_227] <;> omega), fm219 h (by omega) (by omega), bI_ret, if_pos rfl]
theorem fm223 (hk : k ≤ 6) (h : FM g c pl μ0 μ) : pcall 223 [.ref 61, .int (ι k)] μ = some (0, .null, μ) := by
  refine (M_223 rfl h.lay).eq ?_
  rw [gd_pos (by simp (disch := omega) only [lv_22, lv_23, lv_43, lv_48, lv_50, lv_52, lv_57, lv_58, lv_59, lv_60, lv_61, lv_62, lv_63, lv_64, lv_65, lv_66, lv_212, lv_218, lv_219, lv_220, lv_221, lv_222, lv_223, lv_224, lv_225, lv_226, lv_227, lv_228, lv_230, lv_231, rk_57, rk_59, rk_60, rk_61, rk_62, rk_63, rk_64, rk_221, rk_223, rk_224, rk_225, rk_226, rk_227] <;> omega), fm224 hk h, bV_ret, rk_223 (by omega), fm223b hk h]
theorem fm221b (hk : k ≤ 6) (h : FM g c pl μ0 μ) {v : Value} : C_221_67 k (ι k) v μ = some (0, .null, μ) := by
  refine (T_221_67 rfl h.lay).eq ?_
  rw [gd_pos (by simp (disch := omega) only [lv_22, lv_23, lv_43, lv_48, lv_50, lv_52, lv_57, lv_58, lv_59, lv_60, lv_61, lv_62, lv_63, lv_64, lv_65, lv_66, lv_212, lv_218, lv_219, lv_220, lv_221, lv_222, lv_223, lv_224, lv_225, lv_226, lv_227, lv_228, lv_230, lv_231, rk_57, rk_59, rk_60, rk_61, rk_62, rk_63, rk_64, rk_221, rk_223, rk_224, rk_225, rk_226, rk_227] <;> omega), fm219 h (by omega) (by omega), bI_ret, if_pos rfl]
/-! ahead of a fault -/
theorem PT.lay (h : PT n x g q z σ0 σ) : LayR (gR σ) := h.1.1.1
theorem MT.lay (h : MT n x g z μ0 μ) : LayR (gR μ) := h.1.1.1
theorem PT.u9 (h : PT n x g q z σ0 σ) (hq : isP q) {f : Nat → Option pZ} : bG isU (gR σ 24 9) f = f (uG g q) := bG_some h.1.2.2.2.2.2.2.1 (uG_U hq)
theorem e48 (t : Txt n x) (ok : okTk n x z.1) (h : PT n x g q z σ0 σ) (hw : 1000 ≤ w) (hw2 : w < 1026) : pcall 48 [.ref 24, .ref w] σ = some (1, .int (bz (wdS x z.1 w)), σ) := c48 t h.1.1 ok h.1.2.2.1 hw hw2
theorem e58 (t : Txt n x) (ok : okTk n x z.1) (h : PT n x g q z σ0 σ) (hc : c < 256) : pcall 58 [.ref 24, .int (ι c)] σ = some (1, .int (bz (sgS x z.1 c)), σ) := c58 t h.1.1 ok h.1.2.2.1 hc
theorem e219 (t : Txt n x) (ok : okTk n x z.1) (h : MT n x g z μ0 μ) (hw : 1000 ≤ w) (hw2 : w < 1026) : pcall 219 [.ref 61, .ref w] μ = some (1, .int (bz (wdS x z.1 w)), μ) := m219 t h.1.1 ok h.1.2.2.1 h.1.2.1 hw hw2
theorem e222 (t : Txt n x) (ok : okTk n x z.1) (h : MT n x g z μ0 μ) (hc : c < 256) : pcall 222 [.ref 61, .int (ι c)] μ = some (1, .int (bz (sgS x z.1 c)), μ) := m222 t h.1.1 ok h.1.2.2.1 h.1.2.1 hc
/-- behind the token -/
def nxZ (n : Nat) (x : Nat → Nat) (z : Zx) : Zx := (tkS n x z.1.2.2, z.2)
theorem e43 (hq : isP q) (t : Txt n x) (ok : okTk n x z.1) (h : PT n x g q z σ0 σ) : Wp (pcall 43 [.ref 24] σ) (RV (PT n x g q (nxZ n x z) σ0)) := by
  have hu := uG_le (g := g) hq
  have h24 : uG g q ≠ 24 := by omega
  obtain ⟨⟨h1, h2, h3, h4, h5, h6, h7, h8⟩, hG⟩ := h
  refine (c43 t h1 h2 h3.2.2.1 ok.2.1).mono ?_
  rintro zz ⟨v, τ, rfl, k, f⟩
  refine ⟨v, τ, rfl, ⟨h1.f f, by rw [f.2 6 (by omega)]; exact h2, k, by rw [f.1.i (by omega)]; exact h4, fun i hi => by rw [f.1.i (by omega)]; exact h5 i hi, fun k hk => by rw [f.1.i (by omega)]; exact h6 k hk, by rw [f.1.r]; exact h7, by rw [f.2 10 (by omega)]; exact h8⟩, hG.trans ⟨f.1.mono fun a s => Or.inl s, fun i hi => f.2 i (by omega), by rw [f.1.i (by omega)]⟩⟩
theorem e212 (t : Txt n x) (ok : okTk n x z.1) (h : MT n x g z μ0 μ) : Wp (pcall 212 [.ref 61] μ) (RV (MT n x g (nxZ n x z) μ0)) := by
  have hcs := cS_or (g := g)
  obtain ⟨⟨h1, h2, h3, h4, h5, h6, h7, h8⟩, hG⟩ := h
  refine (m212 t h1 h3.2.2.2.1 ok.2.1).mono ?_
  rintro zz ⟨v, τ, rfl, k, f⟩
  refine ⟨v, τ, rfl, ⟨h1.f f, by rw [f.2 22 (by omega)]; exact h2, k, by rw [f.1.i (by omega)]; exact h4, fun i hi => by rw [f.1.i (by omega)]; exact h5 i hi, by rw [f.1.r]; exact h6, by rw [f.2 25 (by omega)]; exact h7, by unfold SMr; rw [f.1.r]; exact h8⟩, hG.trans ⟨f.1.mono fun a s => Or.inl s, fun i hi => f.2 i (by omega), fun i _ => f.1.i (by omega) i, fun i _ => f.1.i (by omega) i⟩⟩
theorem e50 (hq : isP q) (h : PT n x g q z σ0 σ) (hc : c ≠ 0) (hc5 : c ≤ 5) : Wp (pcall 50 [.ref 24, .int (ι c)] σ) (RV (FT g q c z.1.2.1 σ0)) := by
  have hu := uG_le (g := g) hq
  have h24 : uG g q ≠ 24 := by omega
  refine Wp.le (M_50 rfl h.lay) ?_
  rw [h.1.2.1, if_neg (fun g => g rfl), gI_n (show 2 ≠ 6 by omega), h.1.2.2.1.2.1]
  refine Wp.retV ⟨⟨h.lay, hc, hc5, by rw [gI_n (by omega), gI_n (by omega), gI_s], by rw [gI_n (by omega), gI_s], gI_s, h.1.2.2.2.2.2.2.1⟩, h.2.trans ⟨((Fr.refl.mI (Or.inl rfl)).mI (Or.inl rfl)).mI (Or.inl rfl), fun i hi => by rw [gI_n (by omega), gI_n (by omega), gI_n (by omega)], by rw [gI_c h24, gI_c h24, gI_c h24]⟩⟩
theorem e220 (h : MT n x g z μ0 μ) (hc : c ≠ 0) (hc5 : c ≤ 5) : Wp (pcall 220 [.ref 61, .int (ι c)] μ) (RV (FM g c z.1.2.1 μ0)) := by
  have hcs := cS_or (g := g)
  refine Wp.le (M_220 rfl h.lay) ?_
  rw [h.1.2.1, if_pos rfl, gI_n (show 20 ≠ 22 by omega), h.1.2.2.1.2.1]
  refine Wp.retV ⟨⟨h.lay, hc, hc5, by rw [gI_n (by omega), gI_s], gI_s⟩, h.2.trans ⟨(Fr.refl.mI (Or.inl rfl)).mI (Or.inl rfl), fun i hi => by rw [gI_n (by omega), gI_n (by omega)], fun i _ => by rw [gI_c (by omega), gI_c (by omega)], fun i _ => by rw [gI_c (by omega), gI_c (by omega)]⟩⟩
/-- a step that is no fact is laid in the class -/
theorem e22 (hq : isP q) (h : PT n x g q z σ0 σ) (h7 : z.2.1 < 700) (hs : ∀ k, k < 8 → ¬ s = ν 1 - ι k) : Wp (pcall 22 [.ref (uG g q), .int s] σ) (RV (PT n x g q (z.1, psh z.2 s) σ0)) := by
  have hu := uG_le (g := g) hq
  have h24 : uG g q ≠ 24 := by omega
  obtain ⟨⟨h1, h2, h3, h4, h5, h6, h8, h9⟩, hG⟩ := h
  refine Wp.le (M_22 (uG_U hq) rfl h1.1) ?_
  rw [gI_c (show uG g q ≠ uG g q + 1 by omega), h4, if_neg (by rw [ι_lt (by omega) (by omega)]; omega), if_neg (by rw [ι_le (by omega) (by omega)]; omega), gd_inb h7 (by omega), ix_ι (by omega), ι_add]
  have kx : ∀ a, a ≠ uG g q → a ≠ uG g q + 1 → ∀ i, gI (sI (sI σ (uG g q + 1) z.2.1 s) (uG g q) 1 (ι (z.2.1 + 1))) a i = gI σ a i := fun a a1 a2 i => by rw [gI_c a1, gI_c a2]
  have ku : ∀ i, i ≠ 1 → gI (sI (sI σ (uG g q + 1) z.2.1 s) (uG g q) 1 (ι (z.2.1 + 1))) (uG g q) i = gI σ (uG g q) i := fun i hi => by rw [gI_n hi, gI_c (by omega)]
  have k24 := kx 24 (by omega) (by unfold uG; rcases hq with rfl | rfl <;> cases g <;> decide)
  refine Wp.retV ⟨⟨⟨h1.1, by rw [k24]; exact h1.2.1, fun i hi => by rw [kx 1 (by omega) (by omega)]; exact h1.2.2.1 i hi, by rw [k24]; exact h1.2.2.2⟩, by rw [k24]; exact h2, ⟨by rw [k24]; exact h3.1, by rw [k24]; exact h3.2.1, by rw [k24]; exact h3.2.2.1, fun e => by rw [k24]; exact h3.2.2.2.1 e, fun e => by rw [k24]; exact h3.2.2.2.2 e⟩, gI_s, fun i hi => ?_, fun k hk => ?_, h8, by rw [k24]; exact h9⟩, hG.trans ⟨(Fr.refl.mI (Or.inr (Or.inr rfl))).mI (Or.inr (Or.inl rfl)), fun i _ => k24 i, ku 2 (by omega)⟩⟩
  · have hi : i < z.2.1 + 1 := hi
    show _ = if i = z.2.1 then s else z.2.2 i
    rw [gI_c (by omega)]
    by_cases e : i = z.2.1
    · rw [e, gI_s, if_pos rfl]
    · rw [gI_n e, if_neg e]; exact h5 i (by omega)
  · rw [ku 3 (by omega), h6 k hk]
    show _ ↔ ∃ i, i < z.2.1 + 1 ∧ (if i = z.2.1 then s else z.2.2 i) = ν 1 - ι k
    constructor
    · rintro ⟨i, a1, a2⟩; exact ⟨i, by omega, by rw [if_neg (by omega)]; exact a2⟩
    · rintro ⟨i, a1, a2⟩
      by_cases e : i = z.2.1
      · rw [if_pos e] at a2; exact absurd a2 (hs k hk)
      · rw [if_neg e] at a2; exact ⟨i, by omega, a2⟩
theorem fct_inj : ∀ a, a < 8 → ∀ b, b < 8 → (ν 1 - ι a : Int32) = ν 1 - ι b → a = b := by decide
theorem tb_or (a c : Int32) (k : Nat) (hk : k < 32) : tb (a ||| c) k = (tb a k || tb c k) := by
  unfold tb; rw [Int32.toBitVec_or, BitVec.getLsbD_or]
theorem tb_shl : ∀ f, f < 8 → ∀ k, k < 8 → tb (shl' (ι 1) (ι f)) k = decide (k = f) := by decide
theorem e23 (hq : isP q) (h : PT n x g q z σ0 σ) (h7 : z.2.1 < 700) {f : Nat} (hf : f < 8) : Wp (pcall 23 [.ref (uG g q), .int (ι f)] σ) (RV (PT n x g q (z.1, psh z.2 (ν 1 - ι f)) σ0)) := by
  have hu := uG_le (g := g) hq
  have h24 : uG g q ≠ 24 := by omega
  obtain ⟨⟨h1, h2, h3, h4, h5, h6, h8, h9⟩, hG⟩ := h
  have e22' : pcall 22 [.ref (uG g q), .int (ν 1 - ι f)] σ = some (0, .null, sI (sI σ (uG g q + 1) z.2.1 (ν 1 - ι f)) (uG g q) 1 (ι (z.2.1 + 1))) := by
    refine (M_22 (uG_U hq) rfl h1.1).eq ?_
    rw [gI_c (show uG g q ≠ uG g q + 1 by omega), h4, if_neg (by rw [ι_lt (by omega) (by omega)]; omega), if_neg (by rw [ι_le (by omega) (by omega)]; omega), gd_inb h7 (by omega), ix_ι (by omega), ι_add]
  refine Wp.le (M_23 (uG_U hq) rfl h1.1) ?_
  rw [e22', bV_ret, gI_n (show 3 ≠ 1 by omega), gI_c (show uG g q ≠ uG g q + 1 by omega)]
  generalize hs : sI (sI (sI σ (uG g q + 1) z.2.1 (ν 1 - ι f)) (uG g q) 1 (ι (z.2.1 + 1))) (uG g q) 3 (gI σ (uG g q) 3 ||| shl' (ι 1) (ι f)) = s'
  have kx : ∀ a, a ≠ uG g q → a ≠ uG g q + 1 → ∀ i, gI s' a i = gI σ a i := fun a a1 a2 i => by rw [← hs, gI_c a1, gI_c a1, gI_c a2]
  have k3 : gI s' (uG g q) 3 = gI σ (uG g q) 3 ||| shl' (ι 1) (ι f) := by rw [← hs, gI_s]
  have k1 : gI s' (uG g q) 1 = ι (z.2.1 + 1) := by rw [← hs, gI_n (by omega), gI_s]
  have k2 : gI s' (uG g q) 2 = gI σ (uG g q) 2 := by rw [← hs, gI_n (by omega), gI_n (by omega), gI_c (by omega)]
  have kp : ∀ i, gI s' (uG g q + 1) i = if i = z.2.1 then ν 1 - ι f else gI σ (uG g q + 1) i := fun i => by rw [← hs, gI_c (by omega), gI_c (by omega), gI_sI, if_pos rfl]
  have k24 := kx 24 (by omega) (by unfold uG; rcases hq with rfl | rfl <;> cases g <;> decide)
  have kr : gR s' = gR σ := by rw [← hs]; rfl
  have fr : Fr (fun a => a = 24 ∨ a = uG g q ∨ a = uG g q + 1) σ s' := by rw [← hs]; exact ((Fr.refl.mI (Or.inr (Or.inr rfl))).mI (Or.inr (Or.inl rfl))).mI (Or.inr (Or.inl rfl))
  refine Wp.retV ⟨⟨⟨by rw [kr]; exact h1.1, by rw [k24]; exact h1.2.1, fun i hi => by rw [kx 1 (by omega) (by omega)]; exact h1.2.2.1 i hi, by rw [k24]; exact h1.2.2.2⟩, by rw [k24]; exact h2, ⟨by rw [k24]; exact h3.1, by rw [k24]; exact h3.2.1, by rw [k24]; exact h3.2.2.1, fun e => by rw [k24]; exact h3.2.2.2.1 e, fun e => by rw [k24]; exact h3.2.2.2.2 e⟩, k1, fun i hi => ?_, fun k hk => ?_, by rw [kr]; exact h8, by rw [k24]; exact h9⟩, hG.trans ⟨fr, fun i _ => k24 i, k2⟩⟩
  · have hi : i < z.2.1 + 1 := hi
    show _ = if i = z.2.1 then ν 1 - ι f else z.2.2 i
    rw [kp]
    by_cases e : i = z.2.1
    · rw [if_pos e, if_pos e]
    · rw [if_neg e, if_neg e]; exact h5 i (by omega)
  · rw [k3, tb_or _ _ _ (by omega), tb_shl f hf k hk, Bool.or_eq_true, h6 k hk, decide_eq_true_eq]
    show _ ↔ ∃ i, i < z.2.1 + 1 ∧ (if i = z.2.1 then ν 1 - ι f else z.2.2 i) = ν 1 - ι k
    constructor
    · rintro (⟨i, a1, a2⟩ | a)
      · exact ⟨i, by omega, by rw [if_neg (by omega)]; exact a2⟩
      · exact ⟨z.2.1, by omega, by rw [if_pos rfl, a]⟩
    · rintro ⟨i, a1, a2⟩
      by_cases e : i = z.2.1
      · rw [if_pos e] at a2; exact Or.inr (fct_inj f hf k hk a2).symm
      · rw [if_neg e] at a2; exact Or.inl ⟨i, by omega, a2⟩
theorem e230 (h : MT n x g z μ0 μ) (h7 : z.2.1 < 700) (hs : y = trG g s) : Wp (pcall 230 [.ref 61, .int y] μ) (RV (MT n x g (z.1, psh z.2 s) μ0)) := by
  subst hs
  have hcs := cS_or (g := g); have hfl := fL_or (g := g)
  obtain ⟨⟨h1, h2, h3, h4, h5, h6, h8, h9⟩, hG⟩ := h
  have w : Wp (C_230_41 (trG g s) (ι (fL g)) (.retAddr 0) (cS g) μ) (RV (MT n x g (z.1, psh z.2 s) μ0)) := by
    refine Wp.le (T_230_41 (by cases g <;> rfl) rfl h1.1) ?_
    rw [gd_inb (by omega) (by omega), ix_ι (by omega), gI_c (show 65 ≠ cS g by omega), h4, ι_add, gd_inb (by omega) (by omega), gd_inb (by omega) (by omega), gd_inb (by omega) (by omega), ix_ι (by omega), ι_add]
    have kx : ∀ a, a ≠ 65 → a ≠ cS g → ∀ i, gI (sI (sI μ (cS g) (700 + z.2.1) (trG g s)) 65 (fL g) (ι (z.2.1 + 1))) a i = gI μ a i := fun a a1 a2 i => by rw [gI_c a1, gI_c a2]
    have k61 := kx 61 (by omega) (by omega)
    refine Wp.retV ⟨⟨⟨h1.1, by rw [k61]; exact h1.2.1, fun i hi => by rw [kx 74 (by omega) (by omega)]; exact h1.2.2 i hi⟩, by rw [k61]; exact h2, ⟨by rw [k61]; exact h3.1, by rw [k61]; exact h3.2.1, by rw [k61]; exact h3.2.2.1, by rw [k61]; exact h3.2.2.2.1, fun a1 a2 => by rw [k61]; exact h3.2.2.2.2 a1 a2⟩, gI_s, fun i hi => ?_, h6, by rw [k61]; exact h8, h9⟩, hG.trans ⟨(Fr.refl.mI (Or.inr (Or.inr rfl))).mI (Or.inr (Or.inl rfl)), fun i _ => k61 i, fun i hi => by rw [gI_n hi, gI_c (by omega)], fun i hi => by rw [gI_c (by omega), gI_n (by omega)]⟩⟩
    have hi : i < z.2.1 + 1 := hi
    show _ = trG g (if i = z.2.1 then s else z.2.2 i)
    rw [gI_c (by omega)]
    by_cases e : i = z.2.1
    · rw [e, gI_s, if_pos rfl]
    · rw [gI_n (by omega), if_neg e]; exact h5 i (by omega)
  refine Wp.le (M_230 rfl h1.1) ?_
  rw [h2, if_pos rfl, h8]
  cases g with
  | false => rw [bz_f, if_pos rfl, if_pos rfl]; exact w
  | true => rw [bz_t, if_neg (by decide), if_neg (by decide)]; exact w
end EXPR1
