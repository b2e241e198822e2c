/-! ===== more rules: calls of Math, copies, throws, switches, handlers, references that move ===== -/
section RULES2
variable {b k pc pc' c : Nat} {ls ls' st : List Value} {σ : pS} {t t1 t2 : Option pZ}
theorem r_imax {i b' n x0 : Nat} {x y : Int32} (h : cd b pc = some (.invokestatic i, 3)) (hp : pc + 3 = pc') (hc : po b = c) (hpl : plM c i = some (b', n, 6, x0)) (ho : okRb st = true) (H : Le t (den b k pc' ls (.int (imax x y) :: st) σ)) : Le t (den b k pc ls (.int y :: .int x :: st) σ) := by
  subst hp; subst hc; exact r_go h (by simp only [stpI, ln, a_call, hpl, a_math, ho, jm, if_true]) H
theorem r_imin {i b' n x0 : Nat} {x y : Int32} (h : cd b pc = some (.invokestatic i, 3)) (hp : pc + 3 = pc') (hc : po b = c) (hpl : plM c i = some (b', n, 7, x0)) (ho : okRb st = true) (H : Le t (den b k pc' ls (.int (imin x y) :: st) σ)) : Le t (den b k pc ls (.int y :: .int x :: st) σ) := by
  subst hp; subst hc; exact r_go h (by simp only [stpI, ln, a_call, hpl, a_math, ho, jm, if_true]) H
theorem r_lmax {i b' n x0 : Nat} {x y : Int64} (h : cd b pc = some (.invokestatic i, 3)) (hp : pc + 3 = pc') (hc : po b = c) (hpl : plM c i = some (b', n, 8, x0)) (ho : okRb st = true) (H : Le t (den b k pc' ls (.long (lmax x y) :: st) σ)) : Le t (den b k pc ls (.long y :: .long x :: st) σ) := by
  subst hp; subst hc; exact r_go h (by simp only [stpI, ln, a_call, hpl, a_math, ho, jm, if_true]) H
abbrev cpok (sp dp m : Int32) (ns nd : Nat) : Prop := ¬ (sp < 0 ∨ dp < 0 ∨ m < 0 ∨ ns < ix sp + ix m ∨ nd < ix dp + ix m)
theorem r_copy {i b' n x0 s d ns nd : Nat} {sp dp m : Int32} (h : cd b pc = some (.invokestatic i, 3)) (hp : pc + 3 = pc') (hc : po b = c) (hpl : plM c i = some (b', n, 5, x0)) (hs : kd s = (100, ns)) (hd : kd d = (100, nd)) (ho : okRb st = true) (hg : cpok sp dp m ns nd) (H : Le t (den b k pc' ls st (sA σ d (va_cpy (gI σ s) (gI σ d) (ix sp) (ix dp) (ix m))))) : Le t (den b k pc ls (.int m :: .int dp :: .ref d :: .int sp :: .ref s :: st) σ) := by
  subst hp; subst hc
  have hg2 : ¬ (sp < 0 ∨ dp < 0 ∨ m < 0 ∨ ns < sp.toNatClampNeg + m.toNatClampNeg ∨ nd < dp.toNatClampNeg + m.toNatClampNeg ∨ ¬ okRb st = true) := by
    intro g
    rcases g with g | g | g | g | g | g
    · exact hg (.inl g)
    · exact hg (.inr (.inl g))
    · exact hg (.inr (.inr (.inl g)))
    · exact hg (.inr (.inr (.inr (.inl g))))
    · exact hg (.inr (.inr (.inr (.inr g))))
    · exact g ho
  exact r_go h (by simp only [stpI, ln, a_call, hpl, a_copy, hs, hd, if_neg hg2, jm, if_true]) H
theorem r_obj {i b' n x0 a : Nat} (h : cd b pc = some (.invokespecial i, 3)) (hp : pc + 3 = pc') (hc : po b = c) (hpl : plM c i = some (b', n, 4, x0)) (ho : okRb st = true) (H : Le t (den b k pc' ls st σ)) : Le t (den b k pc ls (.ref a :: st) σ) := by
  subst hp; subst hc; exact r_go h (by simp only [stpI, ln, a_call, hpl, a_obj, ho, jm, if_true]) H
theorem r_thr {i i2 ic x y n m : Nat} {q : Int} (h : cd b pc = some (.new i, 3)) (hc : po b = 0) (hK : plK 0 i = some (x + 100, y)) (h3 : cd b (pc + 3) = some (.dup, 1)) (h4 : cd b (pc + 4) = some (.ldc i2, 2)) (hL : plC 0 i2 = some (2, q, n)) (h6 : cd b (pc + 6) = some (.invokespecial ic, 3)) (h9 : cd b (pc + 9) = some (.athrow, 1)) (hi : icx (x + 100) = ic) (ho : okRb st = true) (hm : x + 2 = m) : Le (some (m, .null, sX σ)) (den b k pc ls st σ) := by
  subst hm; subst hi
  refine r_end h ?_
  have e1 : 100 ≤ x + 100 := by omega
  have e2 : x + 100 - 98 = x + 2 := by omega
  simp only [stpI, ln, a_new, hc, hK, a_thr, h3, h4, hL, h6, h9, ho, e1, e2, and_self, if_true]
theorem r_thrw {i i2 ic x y n m : Nat} {q : Int} (h : cd b pc = some (.new i, 3)) (hc : po b = 0) (hK : plK 0 i = some (x + 100, y)) (h3 : cd b (pc + 3) = some (.dup, 1)) (h4 : cd b (pc + 4) = some (.ldc_w i2, 3)) (hL : plC 0 i2 = some (2, q, n)) (h6 : cd b (pc + 7) = some (.invokespecial ic, 3)) (h9 : cd b (pc + 10) = some (.athrow, 1)) (hi : icx (x + 100) = ic) (ho : okRb st = true) (hm : x + 2 = m) : Le (some (m, .null, sX σ)) (den b k pc ls st σ) := by
  subst hm; subst hi
  refine r_end h ?_
  have e1 : 100 ≤ x + 100 := by omega
  have e2 : x + 100 - 98 = x + 2 := by omega
  simp only [stpI, ln, a_new, hc, hK, a_thr, h3, h4, hL, h6, h9, ho, e1, e2, and_self, if_true]
theorem r_statI (h : cd b pc = some (.getstatic 38, 3)) (hp : pc + 3 = pc') (hc : po b = 16) (H : Le t (den b k pc' ls (.int 1 :: st) σ)) : Le t (den b k pc ls st σ) := by
  subst hp; exact r_go h (by simp only [stpI, ln, a_stat, hc, jm, if_true]) H
theorem r_statX (h : cd b pc = some (.getstatic 1053, 3)) (hp : pc + 3 = pc') (hc : po b = 16) (H : Le t (den b k pc' ls (.retAddr 3 :: st) σ)) : Le t (den b k pc ls st σ) := by
  subst hp; exact r_go h (by simp only [stpI, ln, a_stat, hc, jm, if_true]) H
theorem r_ldcwS {i x q : Nat} {n : Int} (h : cd b pc = some (.ldc_w i, 3)) (hp : pc + 3 = pc') (hc : po b = c) (hk : plC c i = some (2, n, x)) (hv : 1000 + n.toNat = q) (H : Le t (den b k pc' ls (.ref q :: st) σ)) : Le t (den b k pc ls st σ) := by
  subst hv; subst hp; subst hc
  exact r_go h (by simp only [stpI, ln, a_ldc, hk, jm, if_true]) H
theorem kdS {i : Nat} (h : i < 26) : kd (i + 1000) = (200, i) := by
  unfold kd
  have h1 : Nat.beq (i + 1000) 3000 = false := by
    cases e : Nat.beq (i + 1000) 3000 with
    | false => rfl
    | true => have := Nat.eq_of_beq_eq_true e; omega
  have h2 : Nat.ble 2000 (i + 1000) = false := by
    cases e : Nat.ble 2000 (i + 1000) with
    | false => rfl
    | true => have := Nat.le_of_ble_eq_true e; omega
  have h3 : Nat.ble 1000 (i + 1000) = true := Nat.ble_eq.mpr (by omega)
  rw [h1, h2, h3]; simp
theorem kdB {i : Nat} (h : i < 26) : kd (i + 2000) = (203, i) := by
  unfold kd
  have h1 : Nat.beq (i + 2000) 3000 = false := by
    cases e : Nat.beq (i + 2000) 3000 with
    | false => rfl
    | true => have := Nat.eq_of_beq_eq_true e; omega
  have h2 : Nat.ble 2000 (i + 2000) = true := Nat.ble_eq.mpr (by omega)
  rw [h1, h2]; simp
theorem r_getT9 {i : Nat} (h : cd b pc = some (.getfield 9, 3)) (hp : pc + 3 = pc') (hc : po b = 16) (hi : i < 26) (H : Le t (den b k pc' ls (.ref (i + 2000) :: st) σ)) : Le t (den b k pc ls (.ref (i + 1000) :: st) σ) := by
  subst hp
  have e : i + 1000 + 1000 = i + 2000 := by omega
  exact r_go h (by simp only [stpI, ln, a_get, a_getT, hc, kdS hi, hi, e, jm, and_self, if_true]) H
theorem r_getT15 {i : Nat} (h : cd b pc = some (.getfield 15, 3)) (hp : pc + 3 = pc') (hc : po b = 16) (hi : i < 26) (H : Le t (den b k pc' ls (.int 0 :: st) σ)) : Le t (den b k pc ls (.ref (i + 1000) :: st) σ) := by
  subst hp
  exact r_go h (by simp only [stpI, ln, a_get, a_getT, hc, kdS hi, hi, jm, and_self, if_true]) H
theorem r_case {x y : Int32} {d : Option pZ} (H1 : x = y → Le t1 d) (H2 : ¬ x = y → Le t2 d) : Le (if x = y then t1 else t2) d := by
  by_cases h : x = y
  · rw [if_pos h]; exact H1 h
  · rw [if_neg h]; exact H2 h
theorem r_tabGo {dflt lo hi off : Int} {offs : Array Int} {len tgt : Nat} {x y : Int32} (e : x = y) (h : cd b pc = some (.tableswitch dflt lo hi offs, len)) (h1 : lo ≤ y.toInt ∧ y.toInt ≤ hi) (ho : offs[(y.toInt - lo).toNat]? = some off) (ht : (pc : Int) + off = (tgt : Int)) (H : Le t (den b k tgt ls st σ)) : Le t (den b k pc ls (.int x :: st) σ) := by
  subst e
  have h2 : ¬ (x.toInt < lo ∨ hi < x.toInt) := by omega
  have h3 : (0 : Int) ≤ (pc : Int) + off := by omega
  have h4 : ((pc : Int) + off).toNat = tgt := by omega
  exact r_go h (by simp only [stpI, ln, a_tab, if_neg h2, ho, jo, h3, h4, jm, if_true]) H
theorem r_tabOut {dflt lo hi : Int} {offs : Array Int} {len tgt : Nat} {x : Int32} (h : cd b pc = some (.tableswitch dflt lo hi offs, len)) (h2 : x.toInt < lo ∨ hi < x.toInt) (ht : (pc : Int) + dflt = (tgt : Int)) (H : Le t (den b k tgt ls st σ)) : Le t (den b k pc ls (.int x :: st) σ) := by
  have h3 : (0 : Int) ≤ (pc : Int) + dflt := by omega
  have h4 : ((pc : Int) + dflt).toNat = tgt := by omega
  exact r_go h (by simp only [stpI, ln, a_tab, if_pos h2, jo, h3, h4, jm, if_true]) H
theorem r_look {dflt off : Int} {ps : Array (Int × Int)} {len tgt : Nat} {x : Int32} (h : cd b pc = some (.lookupswitch dflt ps, len)) (hs : lsOk ps = true) (ho : Op.lookupswitch.offset ps.toList dflt x.toInt = off) (ht : (pc : Int) + off = (tgt : Int)) (H : Le t (den b k tgt ls st σ)) : Le t (den b k pc ls (.int x :: st) σ) := by
  have h3 : (0 : Int) ≤ (pc : Int) + off := by omega
  have h4 : ((pc : Int) + off).toNat = tgt := by omega
  exact r_go h (by simp only [stpI, ln, a_lsw, if_pos hs, ho, jo, h3, h4, jm, if_true]) H
theorem r_lookGo {dflt off : Int} {ps : Array (Int × Int)} {len tgt : Nat} {x y : Int32} (e : x = y) (h : cd b pc = some (.lookupswitch dflt ps, len)) (hs : lsOk ps = true) (ho : Op.lookupswitch.offset ps.toList dflt y.toInt = off) (ht : (pc : Int) + off = (tgt : Int)) (H : Le t (den b k tgt ls st σ)) : Le t (den b k pc ls (.int x :: st) σ) := by
  subst e
  exact r_look h hs ho ht H
def bG (K : Nat → Prop) [DecidablePred K] (o : Option Nat) (f : Nat → Option pZ) : Option pZ := match o with
  | some q => if K q then f q else none
  | none => none
theorem bG_some {K : Nat → Prop} [DecidablePred K] {o : Option Nat} {f : Nat → Option pZ} {q : Nat} (h : o = some q) (hk : K q) : bG K o f = f q := by subst h; exact if_pos hk
theorem r_getG {K : Nat → Prop} [DecidablePred K] {i ci f x a : Nat} {T : Nat → Option pZ} (h : cd b pc = some (.getfield i, 3)) (hp : pc + 3 = pc') (hc : po b = c) (hne : Nat.beq c 16 = false) (hpl : plF c i = some (ci, f, x)) (ht : (ft ci f).1 = 3) (hk : kd a = (ci, 0)) (H : ∀ q, K q → Le (T q) (den b k pc' ls (.ref q :: st) σ)) : Le (bG K (gR σ a f) T) (den b k pc ls (.ref a :: st) σ) := by
  unfold bG
  split
  · rename_i q hq
    split
    · rename_i hK
      exact r_getR h hp hc hne hpl ht hk hq (H q hK)
    · exact Le.none
  · exact Le.none
theorem r_aaldG {K : Nat → Prop} [DecidablePred K] {a n : Nat} {i : Int32} {T : Nat → Option pZ} (h : cd b pc = some (.aaload, 1)) (hp : pc + 1 = pc') (hk : kd a = (102, n)) (hi : inb i n) (H : ∀ q, K q → Le (T q) (den b k pc' ls (.ref q :: st) σ)) : Le (bG K (gR σ a (ix i)) T) (den b k pc ls (.int i :: .ref a :: st) σ) := by
  unfold bG
  split
  · rename_i q hq
    split
    · rename_i hK
      exact r_aald h hp hk hi hq (H q hK)
    · exact Le.none
  · exact Le.none
/-- going on behind a call -/
noncomputable def aftD (b k pc : Nat) (ls rest : List Value) (y : pZ) : Option pZ := match aft b pc ls rest y with
  | none => none
  | some (.inl c) => den b k c.1 c.2.1 c.2.2.1 c.2.2.2
  | some (.inr y) => some y
def bIh (p : Option pZ) (f : Int32 → pS → Option pZ) (g : Nat → pS → Option pZ) : Option pZ := match p with
  | some (1, .int x, σ) => f x σ
  | some (k + 2, _, σ) => g k σ
  | _ => none
theorem r_callIH {b' : Nat} {av rest : List Value} {f : Int32 → pS → Option pZ} {g : Nat → pS → Option pZ} (h : CallQ b pc ls st σ b' av rest) (hlv : lv b' (rk b' av) < lv b k) (hp : pc + 3 = pc') (H : ∀ x σ', pcall b' av σ = some (1, .int x, σ') → Le (f x σ') (den b k pc' ls (.int x :: rest) σ')) (G : ∀ j v σ', pcall b' av σ = some (j + 2, v, σ') → Le (g j σ') (aftD b k pc ls rest (j + 2, v, σ'))) : Le (bIh (pcall b' av σ) f g) (den b k pc ls st σ) := by
  intro z hz
  subst hp
  cases hy : pcall b' av σ with
  | none => rw [hy] at hz; cases hz
  | some y =>
    rw [den_call h hlv hy]
    rw [hy] at hz
    match y, hy, hz with
    | (0, v, σ'), hy, hz => cases hz
    | (1, .int x, σ'), hy, hz => exact H x σ' hy z hz
    | (1, .long x, σ'), hy, hz => cases hz
    | (1, .ref x, σ'), hy, hz => cases hz
    | (1, .null, σ'), hy, hz => cases hz
    | (1, .float x, σ'), hy, hz => cases hz
    | (1, .double x, σ'), hy, hz => cases hz
    | (1, .retAddr x, σ'), hy, hz => cases hz
    | (j + 2, v, σ'), hy, hz => exact G j v σ' hy z hz
theorem g_hnd_n {j h : Nat} {n : Fin 4} {rest : List Value} {v : Value} {σ' : pS} (hh : hnd b pc j = some h) (hc : cd b h = some (.astore_n n, 1)) (hn : Nat.blt n ls.length = true) (hp : h + 1 = pc') (hl : ls.set n (.retAddr 0) = ls') (H : Le t (den b k pc' ls' [] σ')) : Le t (aftD b k pc ls rest (j + 2, v, σ')) := by
  subst hp; subst hl
  intro z hz
  have := H z hz
  simp only [aftD, aft, hh, hc, Nat.blt_eq.mp hn, if_true]
  exact this
theorem g_hnd {j h n : Nat} {rest : List Value} {v : Value} {σ' : pS} (hh : hnd b pc j = some h) (hc : cd b h = some (.astore n, 2)) (hn : Nat.blt n ls.length = true) (hp : h + 2 = pc') (hl : ls.set n (.retAddr 0) = ls') (H : Le t (den b k pc' ls' [] σ')) : Le t (aftD b k pc ls rest (j + 2, v, σ')) := by
  subst hp; subst hl
  intro z hz
  have := H z hz
  simp only [aftD, aft, hh, hc, Nat.blt_eq.mp hn, if_true]
  exact this
theorem g_thru {j : Nat} {rest : List Value} {v : Value} {σ' : pS} (hh : hnd b pc j = none) : Le (some (j + 2, .null, σ')) (aftD b k pc ls rest (j + 2, v, σ')) := by
  intro z hz
  simp only [aftD, aft, hh]
  exact hz
theorem g_two {j : Nat} {rest : List Value} {v : Value} {σ' : pS} {t0 t1 : Option pZ} (H0 : Le t0 (aftD b k pc ls rest (0 + 2, v, σ'))) (H1 : Le t1 (aftD b k pc ls rest (1 + 2, v, σ'))) : Le (if j = 0 then t0 else if j = 1 then t1 else none) (aftD b k pc ls rest (j + 2, v, σ')) := by
  by_cases h0 : j = 0
  · subst h0; rw [if_pos rfl]; exact H0
  · rw [if_neg h0]
    by_cases h1 : j = 1
    · subst h1; rw [if_pos rfl]; exact H1
    · rw [if_neg h1]; exact Le.none
theorem rcvO {b a ci : Nat} (h : po b = ci) (h10 : Nat.blt ci 10 = true) (hk : kd a = (ci, 0)) : rcv b a = true := by
  have h1 : ci < 10 := Nat.blt_eq.mp h10
  have h2 : ¬ po b = 16 := by omega
  unfold rcv
  rw [if_neg h2, h, hk]
  simp [h1]
theorem rcvS {b i : Nat} (h : po b = 16) (hi : i < 26) : rcv b (i + 1000) = true := by
  unfold rcv
  rw [if_pos h, kdS hi]
  simp [hi]
abbrev isW (a : Nat) : Prop := a = 25 ∨ a = 36 ∨ a = 47
abbrev isP (a : Nat) : Prop := a = 2 ∨ a = 13
abbrev isU (a : Nat) : Prop := a = 7 ∨ a = 10 ∨ a = 18 ∨ a = 21
abbrev isM (a : Nat) : Prop := a = 32 ∨ a = 43
abbrev isS (a : Nat) : Prop := 1000 ≤ a ∧ a < 1027
end RULES2
abbrev isV (a : Nat) : Prop := a = 63 ∨ a = 64
def vlen (a : Nat) : Nat := if a = 63 then 6 else 4
theorem kdV {a : Nat} (h : isV a) : kd a = (102, vlen a) := by rcases h with rfl|rfl <;> rfl
