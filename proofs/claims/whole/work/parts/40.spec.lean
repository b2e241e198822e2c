/-! ===== what the document says of a world, over rows of ints ===== -/
section SPEC
theorem ι_lt_t {a b : Nat} (h : a < b) (hb : b < 2147483648) : (ι a < ι b) = True := by rw [ι_lt (by omega) hb]; exact eq_true h
theorem ι_lt_f {a b : Nat} (h : b ≤ a) (ha : a < 2147483648) : (ι a < ι b) = False := by rw [ι_lt ha (by omega)]; exact eq_false (by omega)
theorem ι_le_t {a b : Nat} (h : a ≤ b) (hb : b < 2147483648) : (ι a ≤ ι b) = True := by rw [ι_le (by omega) hb]; exact eq_true h
theorem ι_le_f {a b : Nat} (h : b < a) (ha : a < 2147483648) : (ι a ≤ ι b) = False := by rw [ι_le ha (by omega)]; exact eq_false (by omega)
theorem gd_inb {i n : Nat} {t : Option pZ} (h : i < n) (hn : i < 2147483648) : gd (inb (ι i) n) t = t := gd_pos (by rw [ι_inb hn]; exact h)
theorem ι_pm {a : Nat} (h : 1 ≤ a) : ι a + ν 1 = ι (a - 1) := by
  rw [← ι_sub h]; unfold ν; rw [← Int32.sub_eq_add_neg]
theorem ι_eq_f {a b : Nat} (h : a ≠ b) (ha : a < 2147483648) (hb : b < 2147483648) : (ι a = ι b) = False := by rw [ι_eq ha hb]; exact eq_false h
theorem gd_t {t : Option pZ} : gd True t = t := gd_pos trivial
theorem ι0 : (0 : Int32) = ι 0 := rfl
theorem ι1 : (1 : Int32) = ι 1 := rfl
/-- rows: 0: the day, who is silent; 1 owner; 2 how run down; 3 whom one sees; 4 worth at 12 p + t; 6 bold; 7 firm -/
abbrev Wd : Type := Nat → Nat → Int32
def up (A : Wd) (r i : Nat) (x : Int32) : Wd := fun b j => if b = r then if j = i then x else A b j else A b j
theorem up_at (A : Wd) (r i b j : Nat) (x : Int32) : up A r i x b j = if b = r then if j = i then x else A b j else A b j := rfl
/-- a rule: how many steps, which -/
abbrev Rl : Type := Nat × (Nat → Int32)
def joinS (s a b : Int32) : Int32 :=
  if s = ν 27 then a * b else if s = ν 26 then a - b else if s = ν 25 then a + b else if s = ν 24 then bz (decide (a = b)) else if s = ν 23 then bz (decide (a < b)) else
  if s = ν 21 then bz (decide (¬ a = ι 0 ∧ ¬ b = ι 0)) else if s = ν 20 then bz (decide (¬ a = ι 0 ∨ ¬ b = ι 0)) else if b = ι 0 then ι 0 else a / b
/-- what a step is: 0 a number or a fact, 1 not, 2 what joins two -/
def stk (s : Int32) : Nat := if s < ν 8 then if s = ν 22 then 1 else 2 else 0
def st1 (g : Nat → Int32) (i : Nat) (x : Int32) : Nat → Int32 := fun j => if j = i then x else g j
def rstp (f : Nat → Int32) (s : Int32) (x : Nat × (Nat → Int32)) : Nat × (Nat → Int32) :=
  match stk s with
  | 0 => (x.1 + 1, st1 x.2 x.1 (if s < ι 0 then f (ix (ν 1 - s)) else s))
  | 1 => (x.1, st1 x.2 (x.1 - 1) (if x.2 (x.1 - 1) = ι 0 then ι 1 else ι 0))
  | _ => (x.1 - 1, st1 x.2 (x.1 - 2) (joinS s (x.2 (x.1 - 2)) (x.2 (x.1 - 1))))
def rrun (L : Nat → Int32) (f : Nat → Int32) (n : Nat) : Nat × (Nat → Int32) := fd (fun i x => rstp f (L i) x) n (0, fun _ => ι 0)
def valS (W : Rl) (f : Nat → Int32) : Int32 := (rrun W.2 f W.1).2 0
/-- how many stand on the stack -/
def dpt (L : Nat → Int32) : Nat → Nat
  | 0 => 0
  | i + 1 => match stk (L i) with
    | 0 => dpt L i + 1
    | 1 => dpt L i
    | _ => dpt L i - 1
theorem rrun_1 (L f : Nat → Int32) (n : Nat) : (rrun L f n).1 = dpt L n := by
  induction n with
  | zero => rfl
  | succ n ih =>
    show (rstp f (L n) (rrun L f n)).1 = _
    unfold rstp dpt
    rw [← ih]
    split <;> simp_all
/-- a step that may stand, of those whose facts are ok -/
def okst (ok : Nat → Bool) (s : Int32) : Prop := (∃ n, n < 10000 ∧ s = ι n) ∨ (∃ k, k < 8 ∧ ok k = true ∧ s = ν 1 - ι k) ∨ (∃ k, k < 9 ∧ s = ν 20 - ι k)
def wfr (ok : Nat → Bool) (W : Rl) : Prop := W.1 ≤ 700 ∧ (∀ i, i < W.1 → okst ok (W.2 i) ∧ (match stk (W.2 i) with
    | 0 => dpt W.2 i < 64
    | 1 => 1 ≤ dpt W.2 i
    | _ => 2 ≤ dpt W.2 i)) ∧ (0 < W.1 → dpt W.2 W.1 = 1) ∧ ∀ i, dpt W.2 i ≤ 64 ∨ W.1 < i
theorem rrun_congr {L f g : Nat → Int32} {n : Nat} (h : ∀ i, i < n → L i < ι 0 → stk (L i) = 0 → f (ix (ν 1 - L i)) = g (ix (ν 1 - L i))) : rrun L f n = rrun L g n := by
  refine fd_congr (fun t a ht => ?_) _
  unfold rstp
  split
  · rename_i e
    by_cases hs : L t < ι 0
    · simp only [hs, if_true, h t ht hs e]
    · simp only [hs, if_false]
  · rfl
  · rfl
/-- the look of t to p -/
def lookS (A : Wd) (p t : Nat) : Int32 := if A 1 t = ι p then A 4 (12 * p + t) else imax (ι 0) (A 4 (12 * p + t) - A 2 t)
def howS (T : Nat) (A : Wd) (o : Int32) : Int32 := fd (fun t s => s + if A 1 t = o then ι 1 else ι 0) T (ι 0)
def fWS (T : Nat) (A : Wd) (p t : Nat) : Nat → Int32 := fun i => if i = 0 then A 2 t else if i = 1 then A 0 0 else if i = 2 then lookS A p t else if i = 3 then A 6 p else if i = 4 then howS T A (ι p) else howS T A (A 1 t)
def wantsS (T : Nat) (W : Rl) (A : Wd) (p t : Nat) : Bool :=
  if tb (A 3 (ix (A 1 t))) p = true ∧ tb (A 0 1) p = false then (if W.1 = 0 then decide (¬ lookS A p t < ι 5) else decide (ι 0 < valS W (fWS T A p t))) else false
/-- who wants t, bits -/
def wbS (P T : Nat) (W : Rl) (A : Wd) (t : Nat) : Int32 := fd (fun p s => s ||| if wantsS T W A p t = true then bit p else ι 0) P (ι 0)
/-- what p wants, bits -/
def wishS (T : Nat) (W : Rl) (A : Wd) (p : Nat) : Int32 := fd (fun t s => s ||| if wantsS T W A p t = true then bit t else ι 0) T (ι 0)
def safeS (P T : Nat) (W : Rl) (A : Wd) : Int32 := fd (fun t s => s ||| if wbS P T W A t = ι 0 then bit t else ι 0) T (ι 0)
/-- who would take t, and how it looks to that one -/
def takeS (P T : Nat) (W : Rl) (A : Wd) (t : Nat) : Int32 × Int32 := fd (fun p s => if s.2 < lookS A p t ∧ wantsS T W A p t = true then (ι p, lookS A p t) else s) P (ν 1, ν 1)
def cntS (P T : Nat) (W : Rl) (A : Wd) (t : Nat) : Int32 := fd (fun p s => s + if wantsS T W A p t = true then ι 1 else ι 0) P (ι 0)
def fRS (P T : Nat) (W : Rl) (A : Wd) (t : Nat) : Nat → Int32 := fun i => if i = 0 then A 2 t else if i = 1 then A 0 0 else if i = 6 then A 4 (12 * ix (A 1 t) + t) else cntS P T W A t
def wearS (P T : Nat) (W R : Rl) (A : Wd) (t : Nat) : Int32 :=
  let v := if R.1 = 0 then (if ι 0 < cntS P T W A t then ι 1 else ι 0) else imax (ι 0) (imin (valS R (fRS P T W A t)) (ι 3))
  if A 7 t = ι 1 then v / ι 2 else v
/-- things are taken, one by one: the world then, who was taken -/
def takS (P T : Nat) (W : Rl) (n : Nat) (A : Wd) : Wd × (Nat → Int32) := fd (fun t x => if (takeS P T W x.1 t).1 = ν 1 then x else (up (up x.1 1 t (takeS P T W x.1 t).1) 2 t (ι 0), st1 x.2 t (ι 1))) n (A, fun _ => ι 0)
/-- things are run down, one by one -/
def wrnS (P T : Nat) (W R : Rl) (n : Nat) (A : Wd) : Wd := fd (fun t x => up x 2 t (imin (ι 9) (x 2 t + wearS P T W R x t))) n A
/-- a day: the world behind it, what was taken -/
def dayS (P T : Nat) (W R : Rl) (A : Wd) : Wd × (Nat → Int32) :=
  let B := takS P T W T A
  let C := wrnS P T W R T B.1
  (up (up C 0 1 (ι 0)) 0 0 (C 0 0 + ι 1), B.2)
def thgS (T : Nat) (A : Wd) (o : Int32) : Int32 := fd (fun t s => s ||| if A 1 t = o then bit t else ι 0) T (ι 0)
def welS (T : Nat) (A : Wd) (p : Nat) : Int32 := fd (fun t s => s + if A 1 t = ι p then A 4 (12 * p + t) else ι 0) T (ι 0)
def allrS (T : Nat) (A : Wd) : Int32 := fd (fun t s => s + A 2 t) T (ι 0)
def nothS (P T : Nat) (A : Wd) : Int32 := fd (fun p s => s ||| if thgS T A (ι p) = ι 0 then bit p else ι 0) P (ι 0)
def richS (P T : Nat) (A : Wd) : Int32 × Int32 := fd (fun p s => if s.2 < welS T A p then (ι p, welS T A p) else s) P (ν 1, ν 1)
/-- a world as it may be -/
def okW (P T : Nat) (A : Wd) : Prop := P ≤ 8 ∧ T ≤ 12 ∧ (∀ t, t < T → ∃ o, o < P ∧ A 1 t = ι o) ∧ (∀ t, t < T → ∃ r, r ≤ 9 ∧ A 2 t = ι r)
  ∧ (∀ p, p < P → ∀ t, t < T → ∃ v, v ≤ 9 ∧ A 4 (12 * p + t) = ι v) ∧ (∀ p, p < P → ∃ m, m < 2 ^ P ∧ A 3 p = ι m) ∧ (∀ p, p < P → ∀ q, q < P → tb (A 3 p) q = tb (A 3 q) p) ∧ (∀ p, p < P → tb (A 3 p) p = false)
  ∧ (∃ m, m < 256 ∧ A 0 1 = ι m) ∧ (∀ t, t < T → A 7 t = ι 0 ∨ A 7 t = ι 1)
theorem okW.P {P T : Nat} {A : Wd} (h : okW P T A) : P ≤ 8 := h.1
theorem okW.T {P T : Nat} {A : Wd} (h : okW P T A) : T ≤ 12 := h.2.1
theorem okW.own {P T : Nat} {A : Wd} (h : okW P T A) {t : Nat} (ht : t < T) : ∃ o, o < P ∧ A 1 t = ι o := h.2.2.1 t ht
theorem okW.run {P T : Nat} {A : Wd} (h : okW P T A) {t : Nat} (ht : t < T) : ∃ r, r ≤ 9 ∧ A 2 t = ι r := h.2.2.2.1 t ht
theorem okW.wor {P T : Nat} {A : Wd} (h : okW P T A) {p t : Nat} (hp : p < P) (ht : t < T) : ∃ v, v ≤ 9 ∧ A 4 (12 * p + t) = ι v := h.2.2.2.2.1 p hp t ht
theorem okW.see {P T : Nat} {A : Wd} (h : okW P T A) {p : Nat} (hp : p < P) : ∃ m, m < 2 ^ P ∧ A 3 p = ι m := h.2.2.2.2.2.1 p hp
theorem okW.sym {P T : Nat} {A : Wd} (h : okW P T A) {p q : Nat} (hp : p < P) (hq : q < P) : tb (A 3 p) q = tb (A 3 q) p := h.2.2.2.2.2.2.1 p hp q hq
theorem okW.irr {P T : Nat} {A : Wd} (h : okW P T A) {p : Nat} (hp : p < P) : tb (A 3 p) p = false := h.2.2.2.2.2.2.2.1 p hp
theorem okW.sil {P T : Nat} {A : Wd} (h : okW P T A) : ∃ m, m < 256 ∧ A 0 1 = ι m := h.2.2.2.2.2.2.2.2.1
theorem okW.frm {P T : Nat} {A : Wd} (h : okW P T A) {t : Nat} (ht : t < T) : A 7 t = ι 0 ∨ A 7 t = ι 1 := h.2.2.2.2.2.2.2.2.2 t ht
/-- a rule as the class keeps it -/
def hasR (σ : pS) (u : Nat) (ok : Nat → Bool) (W : Rl) : Prop := wfr ok W ∧ gI σ u 1 = ι W.1 ∧ gI σ u 2 = bz (decide (0 < W.1)) ∧ (∀ i, i < W.1 → gI σ (u + 1) i = W.2 i) ∧ ∀ k, k < 8 → (tb (gI σ u 3) k = true ↔ ∃ i, i < W.1 ∧ W.2 i = ν 1 - ι k)
def okWf (k : Nat) : Bool := Nat.blt k 6
def okRf (k : Nat) : Bool := Nat.blt k 2 || Nat.beq k 6 || Nat.beq k 7
/-- a province's part that stays, as the class keeps it -/
def hasP (P T : Nat) (W R : Rl) (A : Wd) (σ : pS) (q : Nat) : Prop := isP q ∧ LayR (gR σ) ∧ (∀ p, p < P → gI σ (q + 1) p = A 6 p) ∧ (∀ t, t < T → tb (gI σ q 2) t = decide (A 7 t = ι 1)) ∧ hasR σ (q + 5) okWf W ∧ hasR σ (q + 8) okRf R
/-- a world as the class keeps it -/
def hasW (P T : Nat) (A : Wd) (σ : pS) (w q : Nat) : Prop := isW w ∧ gR σ w 0 = some q ∧ gI σ w 1 = ι P ∧ gI σ w 2 = ι T ∧ gI σ w 3 = A 0 0 ∧ gI σ w 10 = A 0 1
  ∧ (∀ t, t < T → gI σ (w + 1) t = A 1 t) ∧ (∀ t, t < T → gI σ (w + 2) t = A 2 t) ∧ (∀ p, p < P → gI σ (w + 3) p = A 3 p) ∧ (∀ p, p < P → ∀ t, t < T → gI σ (w + 4) (12 * p + t) = A 4 (12 * p + t))
/-- rows that are written over and never read again -/
def Sc (a : Nat) : Prop := a = 9 ∨ a = 12 ∨ a = 20 ∨ a = 23 ∨ a = 31 ∨ a = 42 ∨ a = 53 ∨ a = 80 ∨ a = 81
/-- all that a world's methods rest on -/
def CW (P T : Nat) (W R : Rl) (A : Wd) (σ : pS) (w q : Nat) : Prop := okW P T A ∧ hasP P T W R A σ q ∧ hasW P T A σ w q
theorem Sc.w {w i : Nat} (hw : isW w) (hi : i < 6) : ¬ Sc (w + i) := by unfold Sc; rcases hw with rfl | rfl | rfl <;> omega
theorem Sc.w0 {w : Nat} (hw : isW w) : ¬ Sc w := Sc.w (i := 0) hw (by omega)
theorem Sc.p {q i : Nat} (hq : isP q) (hi : i < 5 ∨ i = 5 ∨ i = 6 ∨ i = 8 ∨ i = 9) : ¬ Sc (q + i) := by unfold Sc; rcases hq with rfl | rfl <;> omega
theorem Sc.w6 {w : Nat} (hw : isW w) : Sc (w + 6) := by unfold Sc; rcases hw with rfl | rfl | rfl <;> omega
theorem Sc.u2 {u : Nat} (hu : isU u) : Sc (u + 2) := by unfold Sc; rcases hu with rfl | rfl | rfl | rfl <;> omega
theorem hasR.fr {S : Nat → Prop} {σ τ : pS} {u : Nat} {ok : Nat → Bool} {W : Rl} (h : hasR σ u ok W) (f : Fr S σ τ) (h0 : ¬ S u) (h1 : ¬ S (u + 1)) : hasR τ u ok W := by
  obtain ⟨a, b, c, d, e⟩ := h
  exact ⟨a, by rw [f.i h0]; exact b, by rw [f.i h0]; exact c, fun i hi => by rw [f.i h1]; exact d i hi, fun k hk => by rw [f.i h0]; exact e k hk⟩
theorem hasP.fr {S : Nat → Prop} {P T : Nat} {W R : Rl} {A : Wd} {σ τ : pS} {q : Nat} (h : hasP P T W R A σ q) (f : Fr S σ τ) (hS : ∀ i, i < 5 ∨ i = 5 ∨ i = 6 ∨ i = 8 ∨ i = 9 → ¬ S (q + i)) : hasP P T W R A τ q := by
  obtain ⟨a, b, c, d, e, g⟩ := h
  exact ⟨a, by rw [f.r]; exact b, fun p hp => by rw [f.i (hS 1 (by omega))]; exact c p hp, fun t ht => by rw [f.i (show ¬ S q from hS 0 (by omega))]; exact d t ht, e.fr f (hS 5 (by omega)) (hS 6 (by omega)), g.fr f (hS 8 (by omega)) (hS 9 (by omega))⟩
theorem hasW.fr {S : Nat → Prop} {P T : Nat} {A : Wd} {σ τ : pS} {w q : Nat} (h : hasW P T A σ w q) (f : Fr S σ τ) (hS : ∀ i, i < 5 → ¬ S (w + i)) : hasW P T A τ w q := by
  obtain ⟨a, b, c, d, e, g, h1, h2, h3, h4⟩ := h
  have z := f.i (hS 0 (by omega))
  simp only [Nat.add_zero] at z
  exact ⟨a, by rw [f.r]; exact b, by rw [z]; exact c, by rw [z]; exact d, by rw [z]; exact e, by rw [z]; exact g, fun t ht => by rw [f.i (hS 1 (by omega))]; exact h1 t ht, fun t ht => by rw [f.i (hS 2 (by omega))]; exact h2 t ht, fun t ht => by rw [f.i (hS 3 (by omega))]; exact h3 t ht, fun p hp t ht => by rw [f.i (hS 4 (by omega))]; exact h4 p hp t ht⟩
theorem CW.sc {P T : Nat} {W R : Rl} {A : Wd} {σ τ : pS} {w q : Nat} (h : CW P T W R A σ w q) (f : Fr Sc σ τ) : CW P T W R A τ w q :=
  ⟨h.1, h.2.1.fr f (fun _ hi => Sc.p h.2.1.1 hi), h.2.2.fr f (fun _ hi => Sc.w h.2.2.1 (by omega))⟩
theorem CW.isw {P T : Nat} {W R : Rl} {A : Wd} {σ : pS} {w q : Nat} (h : CW P T W R A σ w q) : isW w := h.2.2.1
theorem CW.isp {P T : Nat} {W R : Rl} {A : Wd} {σ : pS} {w q : Nat} (h : CW P T W R A σ w q) : isP q := h.2.1.1
theorem CW.lay {P T : Nat} {W R : Rl} {A : Wd} {σ : pS} {w q : Nat} (h : CW P T W R A σ w q) : LayR (gR σ) := h.2.1.2.1
theorem CW.bold {P T : Nat} {W R : Rl} {A : Wd} {σ : pS} {w q : Nat} (h : CW P T W R A σ w q) {p : Nat} (hp : p < P) : gI σ (q + 1) p = A 6 p := h.2.1.2.2.1 p hp
theorem CW.firm {P T : Nat} {W R : Rl} {A : Wd} {σ : pS} {w q : Nat} (h : CW P T W R A σ w q) {t : Nat} (ht : t < T) : tb (gI σ q 2) t = decide (A 7 t = ι 1) := h.2.1.2.2.2.1 t ht
theorem CW.wr {P T : Nat} {W R : Rl} {A : Wd} {σ : pS} {w q : Nat} (h : CW P T W R A σ w q) : hasR σ (q + 5) okWf W := h.2.1.2.2.2.2.1
theorem CW.rr {P T : Nat} {W R : Rl} {A : Wd} {σ : pS} {w q : Nat} (h : CW P T W R A σ w q) : hasR σ (q + 8) okRf R := h.2.1.2.2.2.2.2
theorem CW.told {P T : Nat} {W R : Rl} {A : Wd} {σ : pS} {w q : Nat} (h : CW P T W R A σ w q) : gR σ w 0 = some q := h.2.2.2.1
theorem CW.P {P T : Nat} {W R : Rl} {A : Wd} {σ : pS} {w q : Nat} (h : CW P T W R A σ w q) : gI σ w 1 = ι P := h.2.2.2.2.1
theorem CW.T {P T : Nat} {W R : Rl} {A : Wd} {σ : pS} {w q : Nat} (h : CW P T W R A σ w q) : gI σ w 2 = ι T := h.2.2.2.2.2.1
theorem CW.day {P T : Nat} {W R : Rl} {A : Wd} {σ : pS} {w q : Nat} (h : CW P T W R A σ w q) : gI σ w 3 = A 0 0 := h.2.2.2.2.2.2.1
theorem CW.sil {P T : Nat} {W R : Rl} {A : Wd} {σ : pS} {w q : Nat} (h : CW P T W R A σ w q) : gI σ w 10 = A 0 1 := h.2.2.2.2.2.2.2.1
theorem CW.own {P T : Nat} {W R : Rl} {A : Wd} {σ : pS} {w q : Nat} (h : CW P T W R A σ w q) {t : Nat} (ht : t < T) : gI σ (w + 1) t = A 1 t := h.2.2.2.2.2.2.2.2.1 t ht
theorem CW.run {P T : Nat} {W R : Rl} {A : Wd} {σ : pS} {w q : Nat} (h : CW P T W R A σ w q) {t : Nat} (ht : t < T) : gI σ (w + 2) t = A 2 t := h.2.2.2.2.2.2.2.2.2.1 t ht
theorem CW.see {P T : Nat} {W R : Rl} {A : Wd} {σ : pS} {w q : Nat} (h : CW P T W R A σ w q) {p : Nat} (hp : p < P) : gI σ (w + 3) p = A 3 p := h.2.2.2.2.2.2.2.2.2.2.1 p hp
theorem CW.wor {P T : Nat} {W R : Rl} {A : Wd} {σ : pS} {w q : Nat} (h : CW P T W R A σ w q) {p t : Nat} (hp : p < P) (ht : t < T) : gI σ (w + 4) (12 * p + t) = A 4 (12 * p + t) := h.2.2.2.2.2.2.2.2.2.2.2 p hp t ht
end SPEC
