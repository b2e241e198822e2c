/-! ===== small numbers; runs that come to an end ===== -/
section BASE
def ι (n : Nat) : Int32 := Int32.ofNat n
def ν (n : Nat) : Int32 := -ι n
theorem ι_def (n : Nat) : Int32.ofNat n = ι n := rfl
theorem ι_lt {a b : Nat} (ha : a < 2147483648) (hb : b < 2147483648) : (ι a < ι b) = (a < b) := propext (Int32.ofNat_lt_iff_lt ha hb)
theorem ι_le {a b : Nat} (ha : a < 2147483648) (hb : b < 2147483648) : (ι a ≤ ι b) = (a ≤ b) := propext (Int32.ofNat_le_iff_le ha hb)
theorem ix_ι {n : Nat} (h : n < 2147483648) : ix (ι n) = n := Int32.toNatClampNeg_ofNat_of_lt h
theorem ι_inj {a b : Nat} (ha : a < 2147483648) (hb : b < 2147483648) (h : ι a = ι b) : a = b := by
  have := congrArg ix h
  rwa [ix_ι ha, ix_ι hb] at this
theorem ι_eq {a b : Nat} (ha : a < 2147483648) (hb : b < 2147483648) : (ι a = ι b) = (a = b) := propext ⟨ι_inj ha hb, fun h => by rw [h]⟩
theorem ι_add (a b : Nat) : ι a + ι b = ι (a + b) := (Int32.ofNat_add a b).symm
theorem ι_sub {a b : Nat} (h : b ≤ a) : ι a - ι b = ι (a - b) := (Int32.ofNat_sub a b h).symm
theorem ι_mul (a b : Nat) : ι a * ι b = ι (a * b) := (Int32.ofNat_mul a b).symm
theorem ι_div {a b : Nat} (ha : a < 2147483648) (hb : b < 2147483648) : ι a / ι b = ι (a / b) := (Int32.ofNat_div ha hb).symm
theorem ι_rem {a b : Nat} (ha : a < 2147483648) (hb : b < 2147483648) : irem' (ι a) (ι b) = ι (a % b) := by
  unfold irem'
  rw [ι_div ha hb, ι_mul]
  have h1 : a / b * b ≤ a := Nat.div_mul_le_self a b
  rw [ι_sub h1]
  congr 1
  have := Nat.div_add_mod a b
  rw [Nat.mul_comm] at this
  omega
theorem ι_inb {i n : Nat} (h : i < 2147483648) : inb (ι i) n = (i < n) := by
  have h0 : ¬ (ι i < (0 : Int32)) := by
    rw [show (0 : Int32) = ι 0 from rfl, ι_lt h (by omega)]; omega
  have h1 : (ι i).toNatClampNeg = i := ix_ι h
  simp only [inb, h1, h0, false_or, Nat.not_le]
theorem ι_nn {n : Nat} (h : n < 2147483648) : ((0 : Int32) ≤ ι n) = True := by
  rw [show (0 : Int32) = ι 0 from rfl, ι_le (by omega) h]; simp
theorem ι_neg {n : Nat} (h : n < 2147483648) : (ι n < (0 : Int32)) = False := by
  rw [show (0 : Int32) = ι 0 from rfl, ι_lt h (by omega)]; simp
theorem ι_m1 {n : Nat} (h : n < 2147483648) : (ι n = ν 1) = False := by
  simp only [eq_iff_iff, iff_false]
  intro e
  have := congrArg (fun x : Int32 => decide (x < 0)) e
  simp only [ι_neg h] at this
  revert this; decide
/-- a number from 0 on, in bounds -/
theorem ι_of {x : Int32} {n : Nat} (h0 : ¬ x < ι 0) (h1 : x < ι n) (hn : n < 2147483648) : ∃ k, k < n ∧ x = ι k := by
  have h2 : (0 : Int32) ≤ x := Int32.not_lt.mp h0
  have h3 : Int32.ofNat x.toNatClampNeg = x := Int32.ofNat_toNatClampNeg x h2
  have h4 : x.toNatClampNeg < 2147483648 := by
    have := Int32.toNatClampNeg_lt x
    omega
  refine ⟨x.toNatClampNeg, ?_, h3.symm⟩
  rw [← h3] at h1
  have h5 : ι x.toNatClampNeg < ι n := h1
  rwa [ι_lt h4 hn] at h5
/-- a truth as a number -/
def bz (b : Bool) : Int32 := if b then ι 1 else ι 0
theorem narrow_bz (b : Bool) : narrow .boolean (.int (bz b)) = .int (bz b) := by cases b <;> rfl
theorem narrow_01 {x : Int32} (h : x = ι 0 ∨ x = ι 1) : narrow .boolean (.int x) = .int x := by rcases h with rfl | rfl <;> rfl
theorem bz_t : bz true = ι 1 := rfl
theorem bz_f : bz false = ι 0 := rfl
theorem bz_0 (b : Bool) : (bz b = ι 0) = (b = false) := by cases b <;> decide
theorem bz_01 (b : Bool) : bz b = ι 0 ∨ bz b = ι 1 := by cases b <;> decide
/-- what a run comes to -/
def Wp (d : Option pZ) (Q : pZ → Prop) : Prop := ∃ z, d = some z ∧ Q z
theorem Wp.le {t d : Option pZ} {Q : pZ → Prop} (h : Le t d) (w : Wp t Q) : Wp d Q := by
  obtain ⟨z, e, q⟩ := w
  exact ⟨z, h z e, q⟩
theorem Wp.mono {d : Option pZ} {Q R : pZ → Prop} (w : Wp d Q) (h : ∀ z, Q z → R z) : Wp d R := by
  obtain ⟨z, e, q⟩ := w
  exact ⟨z, e, h z q⟩
theorem Wp.ret {z : pZ} {Q : pZ → Prop} (h : Q z) : Wp (some z) Q := ⟨z, rfl, h⟩
theorem Wp.of {d : Option pZ} {z : pZ} {Q : pZ → Prop} (e : d = some z) (h : Q z) : Wp d Q := ⟨z, e, h⟩
theorem Wp.g {c : Prop} [Decidable c] {t : Option pZ} {Q : pZ → Prop} (h : c) (w : Wp t Q) : Wp (gd c t) Q := by rw [gd_pos h]; exact w
theorem Wp.ite {c : Prop} [Decidable c] {t e : Option pZ} {Q : pZ → Prop} (h1 : c → Wp t Q) (h2 : ¬ c → Wp e Q) : Wp (if c then t else e) Q := by
  by_cases h : c
  · rw [if_pos h]; exact h1 h
  · rw [if_neg h]; exact h2 h
theorem Wp.pos {c : Prop} [Decidable c] {t e : Option pZ} {Q : pZ → Prop} (h : c) (w : Wp t Q) : Wp (if c then t else e) Q := by rw [if_pos h]; exact w
theorem Wp.neg {c : Prop} [Decidable c] {t e : Option pZ} {Q : pZ → Prop} (h : ¬ c) (w : Wp e Q) : Wp (if c then t else e) Q := by rw [if_neg h]; exact w
theorem Wp.cG {K : Nat → Prop} [DecidablePred K] {o : Option Nat} {f : Nat → Option pZ} {q : Nat} {Q : pZ → Prop} (h : o = some q) (hk : K q) (w : Wp (f q) Q) : Wp (bG K o f) Q := by rw [bG_some h hk]; exact w
def RI (v : Int32) (R : pS → Prop) (z : pZ) : Prop := ∃ σ', z = (1, .int v, σ') ∧ R σ'
def RJ (v : Int64) (R : pS → Prop) (z : pZ) : Prop := ∃ σ', z = (1, .long v, σ') ∧ R σ'
def RA (v : Nat) (R : pS → Prop) (z : pZ) : Prop := ∃ σ', z = (1, .ref v, σ') ∧ R σ'
def RV (R : pS → Prop) (z : pZ) : Prop := ∃ v σ', z = (0, v, σ') ∧ R σ'
def RT (k : Nat) (R : pS → Prop) (z : pZ) : Prop := ∃ v σ', z = (k + 2, v, σ') ∧ R σ'
theorem Wp.retI {v : Int32} {σ : pS} {R : pS → Prop} (h : R σ) : Wp (some (1, .int v, σ)) (RI v R) := .ret ⟨σ, rfl, h⟩
theorem Wp.retI' {v w : Int32} {σ : pS} {R : pS → Prop} (e : w = v) (h : R σ) : Wp (some (1, .int w, σ)) (RI v R) := by subst e; exact .ret ⟨σ, rfl, h⟩
theorem Wp.retJ {v w : Int64} {σ : pS} {R : pS → Prop} (e : w = v) (h : R σ) : Wp (some (1, .long w, σ)) (RJ v R) := by subst e; exact .ret ⟨σ, rfl, h⟩
theorem Wp.retA {v : Nat} {σ : pS} {R : pS → Prop} (h : R σ) : Wp (some (1, .ref v, σ)) (RA v R) := .ret ⟨σ, rfl, h⟩
theorem Wp.retV {v : Value} {σ : pS} {R : pS → Prop} (h : R σ) : Wp (some (0, v, σ)) (RV R) := .ret ⟨v, σ, rfl, h⟩
theorem Wp.retT {k : Nat} {v : Value} {σ : pS} {R : pS → Prop} (h : R σ) : Wp (some (k + 2, v, σ)) (RT k R) := .ret ⟨v, σ, rfl, h⟩
theorem Wp.cI {p : Option pZ} {v : Int32} {R : pS → Prop} {f : Int32 → pS → Option pZ} {Q : pZ → Prop} (h : Wp p (RI v R)) (k : ∀ σ', R σ' → Wp (f v σ') Q) : Wp (bI p f) Q := by
  obtain ⟨z, rfl, σ', rfl, hr⟩ := h
  exact k σ' hr
theorem Wp.cJ {p : Option pZ} {v : Int64} {R : pS → Prop} {f : Int64 → pS → Option pZ} {Q : pZ → Prop} (h : Wp p (RJ v R)) (k : ∀ σ', R σ' → Wp (f v σ') Q) : Wp (bJ p f) Q := by
  obtain ⟨z, rfl, σ', rfl, hr⟩ := h
  exact k σ' hr
theorem Wp.cA {p : Option pZ} {v : Nat} {R : pS → Prop} {f : Nat → pS → Option pZ} {Q : pZ → Prop} (h : Wp p (RA v R)) (k : ∀ σ', R σ' → Wp (f v σ') Q) : Wp (bA p f) Q := by
  obtain ⟨z, rfl, σ', rfl, hr⟩ := h
  exact k σ' hr
theorem Wp.cV {p : Option pZ} {R : pS → Prop} {f : pS → Option pZ} {Q : pZ → Prop} (h : Wp p (RV R)) (k : ∀ σ', R σ' → Wp (f σ') Q) : Wp (bV p f) Q := by
  obtain ⟨z, rfl, v, σ', rfl, hr⟩ := h
  exact k σ' hr
theorem Wp.cIT {p : Option pZ} {j : Nat} {R : pS → Prop} {f : Int32 → pS → Option pZ} {Q : pZ → Prop} (h : Wp p (RT j R)) (k : ∀ σ', R σ' → Q (j + 2, .null, σ')) : Wp (bI p f) Q := by
  obtain ⟨z, rfl, v, σ', rfl, hr⟩ := h
  exact ⟨_, rfl, k σ' hr⟩
theorem Wp.cVT {p : Option pZ} {j : Nat} {R : pS → Prop} {f : pS → Option pZ} {Q : pZ → Prop} (h : Wp p (RT j R)) (k : ∀ σ', R σ' → Q (j + 2, .null, σ')) : Wp (bV p f) Q := by
  obtain ⟨z, rfl, v, σ', rfl, hr⟩ := h
  exact ⟨_, rfl, k σ' hr⟩
theorem Wp.cAT {p : Option pZ} {j : Nat} {R : pS → Prop} {f : Nat → pS → Option pZ} {Q : pZ → Prop} (h : Wp p (RT j R)) (k : ∀ σ', R σ' → Q (j + 2, .null, σ')) : Wp (bA p f) Q := by
  obtain ⟨z, rfl, v, σ', rfl, hr⟩ := h
  exact ⟨_, rfl, k σ' hr⟩
theorem bI_ret (x : Int32) (σ : pS) (f : Int32 → pS → Option pZ) : bI (some (1, .int x, σ)) f = f x σ := rfl
theorem bJ_ret (x : Int64) (σ : pS) (f : Int64 → pS → Option pZ) : bJ (some (1, .long x, σ)) f = f x σ := rfl
theorem bA_ret (x : Nat) (σ : pS) (f : Nat → pS → Option pZ) : bA (some (1, .ref x, σ)) f = f x σ := rfl
theorem bV_ret (v : Value) (σ : pS) (f : pS → Option pZ) : bV (some (0, v, σ)) f = f σ := rfl
theorem bI_thr (k : Nat) (v : Value) (σ : pS) (f : Int32 → pS → Option pZ) : bI (some (k + 2, v, σ)) f = some (k + 2, .null, σ) := rfl
theorem bV_thr (k : Nat) (v : Value) (σ : pS) (f : pS → Option pZ) : bV (some (k + 2, v, σ)) f = some (k + 2, .null, σ) := rfl
theorem bA_thr (k : Nat) (v : Value) (σ : pS) (f : Nat → pS → Option pZ) : bA (some (k + 2, v, σ)) f = some (k + 2, .null, σ) := rfl
/-- from 'comes to' to an equation -/
theorem Le.eq {t d : Option pZ} {z : pZ} (h : Le t d) (e : t = some z) : d = some z := h z e
/-- a loop that counts up: what it holds, by what is counted, a state of its own -/
theorem Wp.loop {α : Type} {Q : pZ → Prop} (n : Nat) (C : Nat → α → Option pZ) (I : Nat → α → Prop)
    (step : ∀ t a, t < n → I t a → (∀ a', I (t + 1) a' → Wp (C (t + 1) a') Q) → Wp (C t a) Q)
    (exit : ∀ a, I n a → Wp (C n a) Q) : ∀ {t : Nat} {a : α}, t ≤ n → I t a → Wp (C t a) Q := by
  have key : ∀ k t a, t + k = n → I t a → Wp (C t a) Q := by
    intro k
    induction k with
    | zero =>
      intro t a e h
      have e' : t = n := by omega
      subst e'
      exact exit a h
    | succ k ih =>
      intro t a e h
      exact step t a (by omega) h (fun a' h' => ih (t + 1) a' (by omega) h')
  intro t a h i
  exact key (n - t) t a (by omega) i
/-- from t = 0 on -/
def fd {α : Type} (f : Nat → α → α) : Nat → α → α
  | 0, a => a
  | n + 1, a => f n (fd f n a)
theorem fd_congr {α : Type} {f g : Nat → α → α} {n : Nat} (h : ∀ t a, t < n → f t a = g t a) (a : α) : fd f n a = fd g n a := by
  induction n with
  | zero => rfl
  | succ n ih =>
    show f n (fd f n a) = g n (fd g n a)
    rw [ih (fun t a ht => h t a (by omega)), h n _ (by omega)]
/-- 1 shifted -/
def bit (t : Nat) : Int32 := shl' (ι 1) (ι t)
/-- a bit -/
def tb (x : Int32) (k : Nat) : Bool := x.toBitVec.getLsbD k
theorem gI_sJ (σ : pS) (a i b j : Nat) (x : Int64) : gI (sJ σ a i x) b j = gI σ b j := rfl
theorem gI_sR (σ : pS) (a i b j : Nat) (x : Option Nat) : gI (sR σ a i x) b j = gI σ b j := rfl
theorem gI_sX (σ : pS) (b j : Nat) : gI (sX σ) b j = gI σ b j := rfl
theorem gJ_sI (σ : pS) (a i b j : Nat) (x : Int32) : gJ (sI σ a i x) b j = gJ σ b j := rfl
theorem gJ_sA (σ : pS) (a b j : Nat) (f : Nat → Int32) : gJ (sA σ a f) b j = gJ σ b j := rfl
theorem gR_sI (σ : pS) (a i : Nat) (x : Int32) : gR (sI σ a i x) = gR σ := rfl
theorem gR_sA (σ : pS) (a : Nat) (f : Nat → Int32) : gR (sA σ a f) = gR σ := rfl
theorem gR_sJ (σ : pS) (a i : Nat) (x : Int64) : gR (sJ σ a i x) = gR σ := rfl
theorem gR_sX (σ : pS) : gR (sX σ) = gR σ := rfl
/-- only cells of S have changed, references nowhere -/
def Fr (S : Nat → Prop) (σ τ : pS) : Prop := gR τ = gR σ ∧ pn τ = pn σ ∧ pcl τ = pcl σ ∧ psl τ = psl σ ∧ psc τ = psc σ ∧ ∀ a, ¬ S a → (∀ i, gI τ a i = gI σ a i) ∧ (∀ i, gJ τ a i = gJ σ a i)
theorem Fr.refl {S : Nat → Prop} {σ : pS} : Fr S σ σ := ⟨rfl, rfl, rfl, rfl, rfl, fun _ _ => ⟨fun _ => rfl, fun _ => rfl⟩⟩
theorem Fr.trans {S : Nat → Prop} {σ τ υ : pS} (h : Fr S σ τ) (g : Fr S τ υ) : Fr S σ υ := ⟨g.1.trans h.1, g.2.1.trans h.2.1, g.2.2.1.trans h.2.2.1, g.2.2.2.1.trans h.2.2.2.1, g.2.2.2.2.1.trans h.2.2.2.2.1, fun a n => ⟨fun i => ((g.2.2.2.2.2 a n).1 i).trans ((h.2.2.2.2.2 a n).1 i), fun i => ((g.2.2.2.2.2 a n).2 i).trans ((h.2.2.2.2.2 a n).2 i)⟩⟩
theorem Fr.mono {S T : Nat → Prop} {σ τ : pS} (h : Fr S σ τ) (st : ∀ a, S a → T a) : Fr T σ τ := ⟨h.1, h.2.1, h.2.2.1, h.2.2.2.1, h.2.2.2.2.1, fun a n => h.2.2.2.2.2 a (fun s => n (st a s))⟩
theorem Fr.mI {S : Nat → Prop} {σ τ : pS} {a i : Nat} {x : Int32} (h : Fr S σ τ) (s : S a) : Fr S σ (sI τ a i x) := h.trans ⟨rfl, rfl, rfl, rfl, rfl, fun b n => ⟨fun j => by
  have : ¬ b = a := fun e => n (e ▸ s)
  rw [gI_sI, if_neg this], fun _ => rfl⟩⟩
theorem Fr.mA {S : Nat → Prop} {σ τ : pS} {a : Nat} {f : Nat → Int32} (h : Fr S σ τ) (s : S a) : Fr S σ (sA τ a f) := h.trans ⟨rfl, rfl, rfl, rfl, rfl, fun b n => ⟨fun j => by
  have : ¬ b = a := fun e => n (e ▸ s)
  rw [gI_sA, if_neg this], fun _ => rfl⟩⟩
theorem Fr.mJ {S : Nat → Prop} {σ τ : pS} {a i : Nat} {x : Int64} (h : Fr S σ τ) (s : S a) : Fr S σ (sJ τ a i x) := h.trans ⟨rfl, rfl, rfl, rfl, rfl, fun b n => ⟨fun _ => rfl, fun j => by
  have : ¬ b = a := fun e => n (e ▸ s)
  rw [gJ_sJ, if_neg this]⟩⟩
theorem Fr.i {S : Nat → Prop} {σ τ : pS} (h : Fr S σ τ) {a : Nat} (n : ¬ S a) (i : Nat) : gI τ a i = gI σ a i := (h.2.2.2.2.2 a n).1 i
theorem Fr.j {S : Nat → Prop} {σ τ : pS} (h : Fr S σ τ) {a : Nat} (n : ¬ S a) (i : Nat) : gJ τ a i = gJ σ a i := (h.2.2.2.2.2 a n).2 i
theorem Fr.r {S : Nat → Prop} {σ τ : pS} (h : Fr S σ τ) : gR τ = gR σ := h.1
end BASE
