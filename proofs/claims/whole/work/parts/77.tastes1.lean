/-! ===== what is seen, and by which tastes it would be so: the class ===== -/
section TASTES1
/-- what is seen: how many; of each the thing, the days, the person -/
abbrev Sn : Type := Nat × (Nat → Nat × Nat × Nat)
variable {P T : Nat} {W R : Rl} {A B : Wd} {σ τ υ σ0 σ1 : pS} {q t p n m k i d v : Nat} {x : Wd × (Nat → Int32)} {x0 : Int32} {s : Sn} {f : Nat → Bool}
def okSn (P T : Nat) (s : Sn) : Prop := s.1 ≤ 8 ∧ ∀ k, k < s.1 → (s.2 k).1 < T ∧ (s.2 k).2.1 ≤ 20 ∧ (s.2 k).2.2 < P
def SeC (σ : pS) (m : Nat) (s : Sn) : Prop := gI σ m 3 = ι s.1 ∧ ∀ k, k < s.1 → gI σ (m + 2) (3 * k) = ι (s.2 k).1 ∧ gI σ (m + 2) (3 * k + 1) = ι (s.2 k).2.1 ∧ gI σ (m + 2) (3 * k + 2) = ι (s.2 k).2.2
def allB (f : Nat → Bool) (n : Nat) : Bool := fd (fun k b => b && f k) n true
theorem allB_s : allB f (n + 1) = (allB f n && f n) := rfl
theorem allB_iff : allB f n = true ↔ ∀ k, k < n → f k = true := by
  induction n with
  | zero => exact ⟨fun _ k hk => absurd hk (Nat.not_lt_zero k), fun _ => rfl⟩
  | succ n ih =>
    rw [allB_s, Bool.and_eq_true, ih]
    constructor
    · rintro ⟨h1, h2⟩ k hk
      by_cases e : k = n
      · rw [e]; exact h2
      · exact h1 k (by omega)
    · intro h
      exact ⟨fun k hk => h k (by omega), h n (by omega)⟩
theorem allB_f (hk : k < n) (h : f k = false) : allB f n = false := by
  cases e : allB f n with
  | false => rfl
  | true => rw [allB_iff.mp e k hk] at h; exact absurd h (by decide)
theorem allB_m (hk : k ≤ n) (h : allB f k = false) : allB f n = false := by
  cases e : allB f n with
  | false => rfl
  | true =>
    have : allB f k = true := allB_iff.mpr fun j hj => allB_iff.mp e j (by omega)
    rw [this] at h; exact absurd h (by decide)
theorem imax_ι {a b : Nat} (ha : a < 2147483648) (hb : b < 2147483648) : imax (ι a) (ι b) = ι (max a b) := by
  unfold imax
  by_cases e : a < b
  · rw [if_pos (by rw [ι_lt ha hb]; exact e)]; congr 1; omega
  · rw [if_neg (by rw [ι_lt ha hb]; exact e)]; congr 1; omega
/-- whether what is seen k-th is so, if it speaks of day d -/
def agrK (B : Wd) (s : Sn) (d k : Nat) : Bool := decide ((s.2 k).2.1 ≠ d) || decide (B 1 (s.2 k).1 = ι (s.2 k).2.2)
def agrS (B : Wd) (s : Sn) (d : Nat) : Bool := allB (agrK B s d) s.1
def lasS (s : Sn) (n : Nat) : Nat := fd (fun k x => max x (s.2 k).2.1) n 0
theorem las_s : lasS s (n + 1) = max (lasS s n) (s.2 n).2.1 := rfl
theorem las_le (ok : okSn P T s) : ∀ n, n ≤ s.1 → lasS s n ≤ 20 := by
  intro n
  induction n with
  | zero => intro _; exact Nat.zero_le _
  | succ n ih =>
    intro h
    have := ih (by omega)
    have := (ok.2 n (by omega)).2.1
    rw [las_s]; omega
def fitK (P T : Nat) (W R : Rl) (A : Wd) (s : Sn) (d : Nat) : Bool := agrS (bhd P T W R A d).1 s d
def fitS (P T : Nat) (W R : Rl) (A : Wd) (s : Sn) : Bool := allB (fitK P T W R A s) (lasS s s.1 + 1)
theorem c114 (hL : LayR (gR σ)) (hs : SeC σ 32 s) (ok : okSn P T s) : pcall 114 [.ref 32] σ = some (1, .int (ι (lasS s s.1)), σ) := by
  have h8 := ok.1
  refine Wp.eqI (Wp.le (M_114 (by decide) rfl hL) ?_)
  refine Wp.loop (α := Unit) s.1 (fun k _ => C_114_4 32 (ι (lasS s k)) (ι (3 * k)) σ) (fun _ _ => True) ?_ ?_ (t := 0) (a := ()) (Nat.zero_le _) trivial
  · intro k _ hk _ c
    have c := c () trivial
    have hl := las_le ok k (by omega)
    have h20 := (ok.2 k hk).2.1
    refine Wp.le (T_114_4 (by decide) rfl hL) ?_
    rw [hs.1, ι_mul, if_neg (by rw [ι_le (by omega) (by omega)]; omega), ι_add, if_neg (by rw [ι_le (by omega) (by omega)]; omega), ι_add, gd_inb (by omega) (by omega), ix_ι (by omega), (hs.2 k hk).2.1, imax_ι (by omega) (by omega), ι_add]
    rw [las_s, show 3 * (k + 1) = 3 * k + 3 by omega] at c
    exact c
  · intro _ _
    refine Wp.le (T_114_4 (by decide) rfl hL) ?_
    rw [hs.1, ι_mul, if_pos (by rw [ι_le (by omega) (by omega)]; omega)]
    exact Wp.retI rfl
theorem c115 (h : CW P T W R B σ 47 q) (hs : SeC σ 32 s) (ok : okSn P T s) (hd : d < 1000) : pcall 115 [.ref 32, .ref 47, .int (ι d)] σ = some (1, .int (bz (agrS B s d)), σ) := by
  have h8 := ok.1; have hT := h.1.T
  refine Wp.eqI (Wp.le (M_115 (by decide) (by decide) rfl h.lay) ?_)
  refine Wp.loop (α := Unit) s.1 (fun k _ => C_115_2 32 47 (ι d) (ι (3 * k)) σ) (fun k _ => ∀ j, j < k → agrK B s d j = true) ?_ ?_ (t := 0) (a := ()) (Nat.zero_le _) (fun j hj => absurd hj (Nat.not_lt_zero j))
  · intro k _ hk hi c
    obtain ⟨o1, o2, o3⟩ := ok.2 k hk
    obtain ⟨g1, g2, g3⟩ := hs.2 k hk
    refine Wp.le (T_115_2 (by decide) (by decide) rfl h.lay) ?_
    rw [hs.1, ι_mul, if_neg (by rw [ι_le (by omega) (by omega)]; omega), ι_add, if_neg (by rw [ι_le (by omega) (by omega)]; omega), ι_add, gd_inb (by omega) (by omega), ix_ι (by omega), g2, ι_add]
    have c := fun hk' => c () hk'
    rw [show 3 * (k + 1) = 3 * k + 3 by omega] at c
    have stp : agrK B s d k = true → Wp (C_115_2 32 47 (ι d) (ι (3 * k + 3)) σ) (RI (bz (agrS B s d)) (fun τ => τ = σ)) := fun e => c fun j hj => by
      by_cases e2 : j = k
      · rw [e2]; exact e
      · exact hi j (by omega)
    by_cases e : (s.2 k).2.1 = d
    · rw [if_neg (by rw [ι_eq (by omega) (by omega)]; exact fun g => g e), gd_inb (by omega) (by omega), ix_ι (by omega), g1, c75 h o1, bI_ret, gd_inb (by omega) (by omega), ix_ι (by omega), g3]
      by_cases e2 : B 1 (s.2 k).1 = ι (s.2 k).2.2
      · rw [if_pos e2]
        exact stp (by unfold agrK; rw [decide_eq_true e2, Bool.or_true])
      · rw [if_neg e2]
        refine Wp.retI' ?_ rfl
        have : agrK B s d k = false := by unfold agrK; rw [decide_eq_false e2, decide_eq_false (fun g => g e)]; rfl
        rw [show agrS B s d = false from allB_f hk this]; rfl
    · rw [if_pos (by rw [ι_eq (by omega) (by omega)]; exact e)]
      exact stp (by unfold agrK; rw [decide_eq_true e, Bool.true_or])
  · intro _ hi
    refine Wp.le (T_115_2 (by decide) (by decide) rfl h.lay) ?_
    rw [hs.1, ι_mul, if_pos (by rw [ι_le (by omega) (by omega)]; omega)]
    refine Wp.retI' ?_ rfl
    rw [show agrS B s d = true from allB_iff.mpr hi]; rfl
theorem SeC.fq {V : Nat → Nat → Prop} (h : SeC σ 32 s) (f : Fq Cq V σ τ) : SeC τ 32 s :=
  ⟨by rw [f.i (by unfold Cq Sc; omega)]; exact h.1, fun k hk => by rw [f.i (by unfold Cq Sc; omega), f.i (by unfold Cq Sc; omega), f.i (by unfold Cq Sc; omega)]; exact h.2 k hk⟩
abbrev wz (B : Wd) : Wd × (Nat → Int32) := (B, fun _ => ι 0)
theorem c157 (h : CN P T W R A σ0 q) (hs : SeC σ0 32 s) (ok : okSn P T s) (g : Sg P T W R σ0 σ1 q (wz B) τ) : Wp (pcall 157 [.ref 57] τ) (RI (bz (fitS P T W R B s)) (fun υ => CQ σ0 υ ∧ Fq gG (Vw 47) σ1 υ)) := by
  have hl := las_le ok s.1 (Nat.le_refl _)
  have hsq : ∀ {υ x}, Sg P T W R σ0 σ1 q x υ → SeC υ 32 s := fun g => hs.fq g.1.1
  refine Wp.le (M_157 rfl g.1.lay) ?_
  rw [c114 g.1.lay (hsq g) ok, bI_ret, c115 g.1.2.1 (hsq g) ok (by omega), bI_ret]
  refine Wp.loop (α := Bool × pS) (lasS s s.1 + 1) (fun d a => C_157_23 (ι (lasS s s.1)) (bz a.1) (ι d) a.2) (fun d a => a.1 = allB (fitK P T W R B s) d ∧ 1 ≤ d ∧ Sg P T W R σ0 σ1 q (gof P T W R (d - 1) (wz B)) a.2) ?_ ?_ (t := 1) (a := (agrS B s 0, τ)) (by omega) ⟨rfl, Nat.le_refl _, g⟩
  · rintro d ⟨b, τ⟩ hd ⟨rfl, h1, g⟩ c
    dsimp only at g ⊢
    refine Wp.le (T_157_23 rfl g.1.lay) ?_
    rw [if_neg (by rw [ι_lt (by omega) (by omega)]; omega)]
    by_cases e : allB (fitK P T W R B s) d = true
    · rw [e, bz_t, if_neg (by decide)]
      refine Wp.cI (b71' g) fun υ g' => ?_
      have e1 : dayF P T W R (gof P T W R (d - 1) (wz B)) = gof P T W R d (wz B) := by rw [← gof_s]; congr 1; omega
      rw [e1] at g'
      rw [c115 g'.1.2.1 (hsq g') ok (by omega), bI_ret, ι_add]
      refine c (agrS (gof P T W R d (wz B)).1 s d, υ) ⟨?_, by omega, g'⟩
      rw [allB_s, e, Bool.true_and]; rfl
    · have e' : allB (fitK P T W R B s) d = false := by simpa using e
      have ef : fitS P T W R B s = false := allB_m (by omega) e'
      rw [e', bz_f, if_pos rfl, gd_pos (show narrow .boolean (.int (ι 0)) = .int (ι 0) from narrow_bz false), ef]
      exact Wp.retI ⟨g.1.cq, g.2⟩
  · rintro ⟨b, τ⟩ ⟨rfl, h1, g⟩
    dsimp only at g ⊢
    refine Wp.le (T_157_23 rfl g.1.lay) ?_
    rw [if_pos (by rw [ι_lt (by omega) (by omega)]; omega), gd_nb]
    exact Wp.retI ⟨g.1.cq, g.2⟩
/-- the place of a taste -/
def ixT (T i : Nat) : Nat := 12 * (i / 10 / T) + i / 10 % T
def wdT (T : Nat) (A : Wd) (i : Nat) : Wd := up A 4 (ixT T i) (ι (i % 10))
theorem ixT_ok (hi : i < P * T * 10) : 0 < T ∧ i / 10 / T < P ∧ i / 10 % T < T := by
  have hT : 0 < T := by
    by_cases e : T = 0
    · rw [e] at hi; omega
    · omega
  have h1 : i / 10 < P * T := Nat.div_lt_of_lt_mul (by rw [Nat.mul_comm]; exact hi)
  exact ⟨hT, Nat.div_lt_of_lt_mul (by rw [Nat.mul_comm]; exact h1), Nat.mod_lt _ hT⟩
theorem PT_le (hP : P ≤ 8) (hT : T ≤ 12) : P * T * 10 ≤ 960 := by
  have : P * T ≤ 8 * 12 := Nat.mul_le_mul hP hT
  omega
def difB (T : Nat) (A : Wd) (i : Nat) : Bool := decide (¬ A 4 (ixT T i) = ι (i % 10))
theorem c156 (h : CN P T W R A σ0 q) (f : CQ σ0 σ) (hi : i < P * T * 10) : Wp (pcall 156 [.ref 57, .int (ι i)] σ) (RI (bz (difB T A i)) (Sg P T W R σ0 σ q (wz (wdT T A i)))) := by
  have hT := h.1.1.T; have hP := h.1.1.P
  have hPT := PT_le hP hT
  obtain ⟨h0, hp, ht⟩ := ixT_ok hi
  have hv : i % 10 ≤ 9 := by omega
  have hd1 : i / 10 ≤ i := Nat.div_le_self _ _
  refine Wp.le (M_156 rfl (h.cq f).1.lay) ?_
  rw [c87 (h.cq f).1, bI_ret, if_pos (by rw [ι_lt (by omega) (by omega)]; exact h0), gd_pos (by rw [ι_eq (by omega) (by omega)]; omega), gd_pos (by rw [ι_eq (by omega) (by omega)]; omega), ι_div (show i < 2147483648 by omega) (show 10 < 2147483648 by omega), ι_div (show i / 10 < 2147483648 by omega) (show T < 2147483648 by omega), ι_rem (show i / 10 < 2147483648 by omega) (show T < 2147483648 by omega), ι_rem (show i < 2147483648 by omega) (show 10 < 2147483648 by omega)]
  refine Wp.cV (b84 h f) fun τ g => ?_
  refine Wp.g g.1.lay ?_
  rw [p95 (by decide) g.1.lay (by omega) (by omega), bV_ret]
  have s1 := g.1.anyw (m := 12 * (i / 10 / T) + i / 10 % T) hv
  have g1 : Sg P T W R σ0 σ q (wz (wdT T A i)) (sI (sI τ (47 + 4) (12 * (i / 10 / T) + i / 10 % T) (ι (i % 10))) 47 11 (ι 0)) := ⟨s1, (g.2.mI (Or.inr (by omega))).mI (Or.inr (by omega))⟩
  rw [c74 (h.cq s1.cq).1 hp ht, bI_ret]
  unfold difB ixT
  by_cases e : A 4 (12 * (i / 10 / T) + i / 10 % T) = ι (i % 10)
  · rw [if_pos e, decide_eq_false (fun g => g e)]; exact Wp.retI g1
  · rw [if_neg e, decide_eq_true e]; exact Wp.retI g1
def tryB (P T : Nat) (W R : Rl) (A : Wd) (s : Sn) (i : Nat) : Bool := difB T A i && fitS P T W R (wdT T A i) s
def cntT (P T : Nat) (W R : Rl) (A : Wd) (s : Sn) (n : Nat) : Nat := fd (fun i c => c + if tryB P T W R A s i = true then 1 else 0) n 0
theorem cntT_s : cntT P T W R A s (n + 1) = cntT P T W R A s n + if tryB P T W R A s n = true then 1 else 0 := rfl
theorem cntT_le : cntT P T W R A s n ≤ n := fd_le n (tryB P T W R A s)
theorem cntT_mono (h : m ≤ n) : cntT P T W R A s m ≤ cntT P T W R A s n := by
  induction h with
  | refl => exact Nat.le_refl _
  | step _ ih => rw [cntT_s]; omega
theorem c155 (h : CN P T W R A σ0 q) (f : CQ σ0 σ) : pcall 155 [.ref 57] σ = some (1, .int (ι (P * T * 10)), σ) := by
  refine (M_155 rfl (h.cq f).1.lay).eq ?_
  rw [c86 (h.cq f).1, bI_ret, c87 (h.cq f).1, bI_ret, ι_mul, ι_mul]
theorem c154 (h : CN P T W R A σ0 q) (hs : SeC σ0 32 s) (ok : okSn P T s) (f : CQ σ0 σ) : Wp (pcall 154 [.ref 57] σ) (RI (ι (cntT P T W R A s (P * T * 10))) (CQ σ0)) := by
  have hPT := PT_le h.1.1.P h.1.1.T
  refine Wp.le (M_154 rfl (h.cq f).1.lay) ?_
  refine Wp.loop (α := pS) (P * T * 10) (fun i τ => C_154_4 (ι (cntT P T W R A s i)) (ι i) τ) (fun _ τ => CQ σ0 τ) ?_ ?_ (t := 0) (a := σ) (Nat.zero_le _) f
  · intro i τ hi f c
    refine Wp.le (T_154_4 rfl (h.cq f).1.lay) ?_
    rw [c155 h f, bI_ret, if_neg (by rw [ι_le (by omega) (by omega)]; omega)]
    refine Wp.cI (c156 h f hi) fun υ g => ?_
    refine Wp.g g.1.lay ?_
    have c := fun υ hυ => c υ hυ
    rw [cntT_s] at c
    unfold tryB at c
    by_cases e : difB T A i = true
    · rw [e, bz_t, if_neg (by decide)]
      rw [e, Bool.true_and] at c
      refine Wp.cI (c157 h hs ok g) fun υ2 g2 => ?_
      by_cases e2 : fitS P T W R (wdT T A i) s = true
      · rw [e2, bz_t, if_neg (by decide), ι_add, ι_add]
        rw [e2, if_pos rfl] at c
        exact c υ2 g2.1
      · have e2' : fitS P T W R (wdT T A i) s = false := by simpa using e2
        rw [e2', bz_f, if_pos rfl, ι_add, ι_add]
        rw [e2', if_neg (by decide)] at c
        exact c υ2 g2.1
    · have e' : difB T A i = false := by simpa using e
      rw [e', bz_f, if_pos rfl, ι_add, ι_add]
      rw [e', Bool.false_and, if_neg (by decide)] at c
      exact c υ g.1.cq
  · intro τ f
    refine Wp.le (T_154_4 rfl (h.cq f).1.lay) ?_
    rw [c155 h f, bI_ret, if_pos (Int32.le_refl _)]
    exact Wp.retI f
/-- a taste as a number -/
def codT (T i : Nat) : Nat := 1000 * (i / 10 / T) + 10 * (i / 10 % T) + i % 10
def firF (P T : Nat) (W R : Rl) (A : Wd) (s : Sn) (n : Nat) : Int32 := fd (fun i y => if cntT P T W R A s i = 0 ∧ tryB P T W R A s i = true then ι (codT T i) else y) n (ν 1)
theorem fir_s : firF P T W R A s (n + 1) = if cntT P T W R A s n = 0 ∧ tryB P T W R A s n = true then ι (codT T n) else firF P T W R A s n := rfl
theorem fir_0 (h : cntT P T W R A s n = 0) : firF P T W R A s n = ν 1 := by
  induction n with
  | zero => rfl
  | succ n ih =>
    rw [cntT_s] at h
    have h0 : cntT P T W R A s n = 0 := by omega
    rw [fir_s, ih h0]
    by_cases e : tryB P T W R A s n = true
    · rw [if_pos e] at h; omega
    · rw [if_neg (fun g => e g.2)]
theorem fir_1 (hi : i < n) (h : cntT P T W R A s i = 0) (h2 : tryB P T W R A s i = true) : firF P T W R A s n = ι (codT T i) := by
  induction n with
  | zero => omega
  | succ n ih =>
    rw [fir_s]
    by_cases e : i = n
    · subst e; rw [if_pos ⟨h, h2⟩]
    · have h3 := cntT_mono (P := P) (T := T) (W := W) (R := R) (A := A) (s := s) (show i + 1 ≤ n by omega)
      rw [cntT_s, if_pos h2] at h3
      rw [if_neg (fun g => by omega)]
      exact ih (by omega)
theorem c158 (h : CN P T W R A σ0 q) (hs : SeC σ0 32 s) (ok : okSn P T s) (f : CQ σ0 σ) : Wp (pcall 158 [.ref 57] σ) (RI (firF P T W R A s (P * T * 10)) (CQ σ0)) := by
  have hT := h.1.1.T; have hP := h.1.1.P
  have hPT := PT_le hP hT
  refine Wp.le (M_158 rfl (h.cq f).1.lay) ?_
  refine Wp.loop (α := pS) (P * T * 10) (fun i τ => C_158_2 (ι i) (.retAddr 0) (.retAddr 0) τ) (fun i τ => CQ σ0 τ ∧ cntT P T W R A s i = 0) ?_ ?_ (t := 0) (a := σ) (Nat.zero_le _) ⟨f, rfl⟩
  · rintro i τ hi ⟨f, hc⟩ c
    obtain ⟨h0, hp, ht⟩ := ixT_ok hi
    have hd1 : i / 10 ≤ i := Nat.div_le_self _ _
    refine Wp.le (T_158_2 rfl (h.cq f).1.lay) ?_
    rw [c155 h f, bI_ret, if_neg (by rw [ι_le (by omega) (by omega)]; omega)]
    refine Wp.cI (c156 h f hi) fun υ g => ?_
    refine Wp.g g.1.lay ?_
    have no : tryB P T W R A s i = false → cntT P T W R A s (i + 1) = 0 := fun e => by rw [cntT_s, e, if_neg (by decide), hc]
    by_cases e : difB T A i = true
    · rw [e, bz_t, if_neg (by decide)]
      refine Wp.cI (c157 h hs ok g) fun υ2 g2 => ?_
      by_cases e2 : fitS P T W R (wdT T A i) s = true
      · rw [e2, bz_t, if_neg (by decide), c87 (h.cq g2.1).1, bI_ret]
        have em : imax (ι 1) (ι T) = ι T := by rw [imax_ι (by omega) (by omega)]; congr 1; omega
        rw [em, gd_pos (by rw [ι_eq (by omega) (by omega)]; omega), gd_pos (by rw [ι_eq (by omega) (by omega)]; omega), ι_div (show i < 2147483648 by omega) (show 10 < 2147483648 by omega), ι_div (show i / 10 < 2147483648 by omega) (show T < 2147483648 by omega), ι_rem (show i / 10 < 2147483648 by omega) (show T < 2147483648 by omega), ι_rem (show i < 2147483648 by omega) (show 10 < 2147483648 by omega), ι_mul, ι_mul, ι_add, ι_add]
        rw [fir_1 hi hc (show tryB P T W R A s i = true by unfold tryB; rw [e, e2]; rfl)]
        exact Wp.retI g2.1
      · have e2' : fitS P T W R (wdT T A i) s = false := by simpa using e2
        rw [e2', bz_f, if_pos rfl, ι_add]
        exact c υ2 ⟨g2.1, no (by unfold tryB; rw [e2', Bool.and_false])⟩
    · have e' : difB T A i = false := by simpa using e
      rw [e', bz_f, if_pos rfl, ι_add]
      exact c υ ⟨g.1.cq, no (by unfold tryB; rw [e', Bool.false_and])⟩
  · rintro τ ⟨f, hc⟩
    refine Wp.le (T_158_2 rfl (h.cq f).1.lay) ?_
    rw [c155 h f, bI_ret, if_pos (Int32.le_refl _), fir_0 hc]
    exact Wp.retI f
theorem c159 (h : CN P T W R A σ0 q) (hs : SeC σ0 32 s) (ok : okSn P T s) (f : CQ σ0 σ) : Wp (pcall 159 [.ref 57] σ) (RI (bz (fitS P T W R A s)) (CQ σ0)) := by
  refine Wp.le (M_159 rfl (h.cq f).1.lay) ?_
  refine Wp.cV (b84 h f) fun τ g => ?_
  refine Wp.g g.1.lay ?_
  refine Wp.cI (c157 h hs ok g) fun υ g2 => ?_
  cases e : fitS P T W R A s with
  | true => rw [bz_t, if_neg (by decide)]; exact Wp.retI g2.1
  | false => rw [bz_f, if_pos rfl]; exact Wp.retI g2.1
def q_tastes (P T : Nat) (W R : Rl) (A : Wd) (s : Sn) (x0 : Int32) : Nat × Int32 := if btw (ι 0) (ι 2) x0 = true then (0, if x0 = ι 0 then ι (cntT P T W R A s (P * T * 10)) else if x0 = ι 1 then firF P T W R A s (P * T * 10) else bz (fitS P T W R A s)) else (1, ι 0)
theorem q202 (h : CN P T W R A σ q) (hs : SeC σ 32 s) (ok : okSn P T s) : Wp (pcall 202 [.ref 0, .int x0] σ) (qC σ (q_tastes P T W R A s x0)) := by
  refine Wp.le (M_202 rfl h.1.lay) ?_
  unfold q_tastes
  rw [k180 h.1.lay]
  by_cases e : btw (ι 0) (ι 2) x0 = true
  · rw [if_pos e, bV_ret, if_pos e]
    by_cases z0 : x0 = ι 0
    · rw [if_neg (fun g => g z0), if_pos z0]
      exact Wp.cI (c154 h hs ok h.rf) fun τ f => Wp.g (h.cq f).1.lay (qC.r rfl f)
    rw [if_pos z0, if_neg z0]
    by_cases z1 : x0 = ι 1
    · rw [if_neg (fun g => g z1), if_pos z1]
      exact Wp.cI (c158 h hs ok h.rf) fun τ f => Wp.g (h.cq f).1.lay (qC.r rfl f)
    · rw [if_pos z1, if_neg z1]
      exact Wp.cI (c159 h hs ok h.rf) fun τ f => Wp.g (h.cq f).1.lay (qC.r rfl f)
  · rw [if_neg e, bV_3, if_neg e]; exact qC.n
/-- whose each thing would be, bits, by the first n tastes -/
def own5 (P T : Nat) (W R : Rl) (A : Wd) (i t : Nat) : Nat := ix ((bhd P T W R (wdT T A i) 5).1 1 t)
def ownT (P T : Nat) (W R : Rl) (A : Wd) (s : Sn) (n : Nat) : Nat → Nat := fd (fun i o => if tryB P T W R A s i = true then (fun t => if t < T then o t ||| 2 ^ own5 P T W R A i t else o t) else o) n (fun _ => 0)
theorem ownT_s : ownT P T W R A s (n + 1) = if tryB P T W R A s n = true then (fun t => if t < T then ownT P T W R A s n t ||| 2 ^ own5 P T W R A n t else ownT P T W R A s n t) else ownT P T W R A s n := rfl
theorem wdT_ok (h : okW P T A) : okW P T (wdT T A i) := h.up4 (by omega)
theorem own5_lt (h : okW P T A) (h0 : A 0 1 = ι 0) (ht : t < T) : (bhd P T W R (wdT T A i) 5).1 1 t = ι (own5 P T W R A i t) ∧ own5 P T W R A i t < P := by
  have g := (gof_ok (P := P) (T := T) (W := W) (R := R) (wdT_ok (i := i) h) h0 (g := fun _ => ι 0) 5).1
  obtain ⟨o, ho, e⟩ := g.own ht
  have hP := h.P
  unfold own5
  rw [show (bhd P T W R (wdT T A i) 5).1 1 t = ι o from e, ix_ι (by omega)]
  exact ⟨rfl, ho⟩
theorem ownT_lt (h : okW P T A) (h0 : A 0 1 = ι 0) : ∀ n t, ownT P T W R A s n t < 256 := by
  intro n
  have hP := h.P
  induction n with
  | zero => intro t; show 0 < 256; omega
  | succ n ih =>
    intro t
    rw [ownT_s]
    by_cases e : tryB P T W R A s n = true
    · rw [if_pos e]
      show (if t < T then _ else _) < 256
      by_cases e2 : t < T
      · rw [if_pos e2]
        have h2 : 2 ^ own5 P T W R A n t < 2 ^ 8 := Nat.pow_lt_pow_right (by omega) (by have := (own5_lt (W := W) (R := R) (i := n) h h0 e2).2; omega)
        exact or_lt (k := 8) (ih t) h2
      · rw [if_neg e2]; exact ih t
    · rw [if_neg e]; exact ih t
theorem Sg.m58 (s : Sg P T W R σ0 σ1 q x τ) {y : Int32} : Sp P T W R σ0 q x (sI τ 58 i y) := by
  obtain ⟨s, -⟩ := s
  refine ⟨s.1.mI (Or.inr (by omega)), s.2.1.fv (Fq.refl.mI (S := fun a => a = 58) (V := fun _ _ => False) rfl) (fun _ _ v => v.elim) id (fun i hi => by omega) (fun i hi => by rcases s.2.1.isp with z | z <;> omega), ?_, s.2.2.2.1, fun j hj => ?_⟩
  · have e : gI (sI τ 58 i y) 47 11 = gI τ 47 11 := gI_c (by decide)
    unfold STL
    rw [e]; exact s.2.2.1
  · rw [gI_c (by decide)]; exact s.2.2.2.2 j hj
set_option maxHeartbeats 1000000 in
theorem c160 (h : CN P T W R A σ0 q) (hs : SeC σ0 32 s) (ok : okSn P T s) (f : CQ σ0 σ) : Wp (pcall 160 [.ref 57] σ) (RV (fun τ => CQ σ0 τ ∧ ∀ t, t < 12 → gI τ 58 t = ι (ownT P T W R A s (P * T * 10) t))) := by
  have hT := h.1.1.T; have hP := h.1.1.P
  have hPT := PT_le hP hT
  refine Wp.le (M_160 rfl (h.cq f).1.lay) ?_
  refine Wp.cV (p1 (a0 := 58) (n0 := 12) rfl (h.cq f).1.lay (by omega)) fun τ hτ => ?_
  obtain ⟨fr, hz⟩ := hτ
  have f1 : CQ σ0 τ := ⟨f.1.trans (Fq.of fr (fun a e => Or.inr (by omega))), by rw [fr.i (by omega)]; exact f.2⟩
  refine Wp.loop (α := Value × pS) (P * T * 10) (fun i a => C_160_10 (ι i) a.1 a.2) (fun i a => CQ σ0 a.2 ∧ ∀ t, t < 12 → gI a.2 58 t = ι (ownT P T W R A s i t)) ?_ ?_ (t := 0) (a := (.retAddr 0, τ)) (Nat.zero_le _) ⟨f1, hz⟩
  · rintro i ⟨v, τ⟩ hi ⟨f, ho⟩ c
    dsimp only at f ho ⊢
    have k58 : ∀ {υ}, Fq gG (Vw 47) τ υ → ∀ t, gI υ 58 t = gI τ 58 t := fun g t => g.i (by unfold gG Sc; omega) t
    refine Wp.le (T_160_10 rfl (h.cq f).1.lay) ?_
    rw [c155 h f, bI_ret, if_neg (by rw [ι_le (by omega) (by omega)]; omega)]
    refine Wp.cI (c156 h f hi) fun υ g => ?_
    refine Wp.g g.1.lay ?_
    have no : tryB P T W R A s i = false → ∀ υ, CQ σ0 υ → Fq gG (Vw 47) τ υ → CQ σ0 υ ∧ ∀ t, t < 12 → gI υ 58 t = ι (ownT P T W R A s (i + 1) t) := fun e υ f2 g2 => ⟨f2, fun t ht => by rw [k58 g2, ho t ht, ownT_s, e, if_neg (by decide)]⟩
    by_cases e : difB T A i = true
    · rw [e, bz_t, if_neg (by decide)]
      refine Wp.cI (c157 h hs ok g) fun υ2 g2 => ?_
      by_cases e2 : fitS P T W R (wdT T A i) s = true
      · have et : tryB P T W R A s i = true := by unfold tryB; rw [e, e2]; rfl
        rw [e2, bz_t, if_neg (by decide)]
        refine Wp.cI (c156 h g2.1 hi) fun υ3 g3 => ?_
        refine Wp.g g3.1.lay ?_
        have g3' : Sg P T W R σ0 τ q (wz (wdT T A i)) υ3 := ⟨g3.1, g2.2.trans g3.2⟩
        refine Wp.loop (α := pS) 5 (fun d y => C_160_41 (ι i) (ι d) y) (fun d y => Sg P T W R σ0 τ q (gof P T W R d (wz (wdT T A i))) y) ?_ ?_ (t := 0) (a := υ3) (Nat.zero_le _) g3'
        · intro d y hd g c
          refine Wp.le (T_160_41 rfl g.1.lay) ?_
          simp (disch := omega) only [ι_lt_t, ι_lt_f, ι_le_t, ι_le_f, ι_eq_f, ι_m1, ι_add, ι_mul, ι_pm, ι_sub, ix_ι, gd_inb, gd_t, eq_self, if_true, if_false, not_true_eq_false, not_false_eq_true, ite_self, ]
          exact Wp.cI (b71' g) fun y' g' => c y' g'
        · intro y g
          refine Wp.le (T_160_41 rfl g.1.lay) ?_
          simp (disch := omega) only [ι_lt_t, ι_lt_f, ι_le_t, ι_le_f, ι_eq_f, ι_m1, ι_add, ι_mul, ι_pm, ι_sub, ix_ι, gd_inb, gd_t, eq_self, if_true, if_false, not_true_eq_false, not_false_eq_true, ite_self, ]
          refine Wp.loop (α := pS) T (fun t y => C_160_63 (ι i) (ι t) y) (fun t y => (Sp P T W R σ0 q (gof P T W R 5 (wz (wdT T A i))) y) ∧ (∀ t', t' < t → gI y 58 t' = ι (ownT P T W R A s (i + 1) t')) ∧ ∀ t', t ≤ t' → t' < 12 → gI y 58 t' = ι (ownT P T W R A s i t')) ?_ ?_ (t := 0) (a := y) (Nat.zero_le _) ⟨g.1, fun t ht => absurd ht (Nat.not_lt_zero t), fun t _ ht => by rw [k58 g.2]; exact ho t ht⟩
          · rintro t y ht ⟨g, h1, h2⟩ c
            refine Wp.le (T_160_63 rfl g.lay) ?_
            obtain ⟨o1, o2⟩ := own5_lt (W := W) (R := R) (i := i) h.1.1 h.2.2.1 ht
            rw [c87 (h.cq g.cq).1, bI_ret, if_neg (by rw [ι_le (by omega) (by omega)]; omega), if_neg (by rw [ι_le (by omega) (by omega)]; omega), gd_inb (by omega) (by omega), c75 g.2.1 ht, bI_ret, gd_inb (by omega) (by omega), ix_ι (by omega), h2 t (Nat.le_refl _) (by omega), o1, bit_ι _ (by omega), ι_or, ι_add]
            refine c _ ⟨Sg.m58 (σ1 := y) ⟨g, Fq.refl⟩, fun t' ht' => ?_, fun t' h3 h4 => ?_⟩
            · by_cases e3 : t' = t
              · rw [e3, gI_s, ownT_s, if_pos et]
                show _ = ι (if t < T then _ else _)
                rw [if_pos ht]
              · rw [gI_n e3]; exact h1 t' (by omega)
            · rw [gI_n (by omega)]; exact h2 t' (by omega) h4
          · rintro y ⟨g, h1, h2⟩
            refine Wp.le (T_160_63 rfl g.lay) ?_
            rw [c87 (h.cq g.cq).1, bI_ret, if_pos (Int32.le_refl _), ι_add]
            refine c (_, y) ⟨g.cq, fun t ht => ?_⟩
            by_cases e3 : t < T
            · exact h1 t e3
            · rw [h2 t (by omega) ht, ownT_s, if_pos et]
              show _ = ι (if t < T then _ else _)
              rw [if_neg e3]
      · have e2' : fitS P T W R (wdT T A i) s = false := by simpa using e2
        rw [e2', bz_f, if_pos rfl, ι_add]
        exact c (_, υ2) (no (by unfold tryB; rw [e2', Bool.and_false]) υ2 g2.1 g2.2)
    · have e' : difB T A i = false := by simpa using e
      rw [e', bz_f, if_pos rfl, ι_add]
      exact c (_, υ) (no (by unfold tryB; rw [e', Bool.false_and]) υ g.1.cq g.2)
  · rintro ⟨v, τ⟩ ⟨f, ho⟩
    dsimp only at f ho ⊢
    refine Wp.le (T_160_10 rfl (h.cq f).1.lay) ?_
    rw [c155 h f, bI_ret, if_pos (Int32.le_refl _)]
    exact Wp.retV ⟨f, ho⟩
/-- the thing with most, how many -/
def topT (o : Nat → Nat) (n : Nat) : Int32 × Nat := fd (fun t y => if y.2 < pc (o t) then (ι t, pc (o t)) else y) n (ν 1, 0)
theorem top_s {o : Nat → Nat} : topT o (n + 1) = if (topT o n).2 < pc (o n) then (ι n, pc (o n)) else topT o n := rfl
theorem top_inv {o : Nat → Nat} (n : Nat) : (∀ t, t < n → pc (o t) ≤ (topT o n).2) ∧ (((topT o n).2 = 0 ∧ (topT o n).1 = ν 1) ∨ ∃ k, k < n ∧ 0 < pc (o k) ∧ topT o n = (ι k, pc (o k)) ∧ ∀ t, t < k → pc (o t) < pc (o k)) := by
  induction n with
  | zero => exact ⟨fun t ht => absurd ht (Nat.not_lt_zero t), Or.inl ⟨rfl, rfl⟩⟩
  | succ n ih =>
    obtain ⟨i1, i2⟩ := ih
    rw [top_s]
    by_cases e : (topT o n).2 < pc (o n)
    · rw [if_pos e]
      refine ⟨fun t ht => ?_, Or.inr ⟨n, by omega, by omega, rfl, fun t ht => ?_⟩⟩
      · by_cases e2 : t = n
        · rw [e2]; exact Nat.le_refl _
        · have := i1 t (by omega); show pc (o t) ≤ pc (o n); omega
      · have := i1 t ht; omega
    · rw [if_neg e]
      refine ⟨fun t ht => ?_, ?_⟩
      · by_cases e2 : t = n
        · rw [e2]; omega
        · exact i1 t (by omega)
      · rcases i2 with h | ⟨k, h1, h2⟩
        · exact Or.inl h
        · exact Or.inr ⟨k, by omega, h2⟩
theorem c162 {o : Nat → Nat} (hL : LayR (gR σ)) (ho : ∀ t, t < 12 → gI σ 58 t = ι (o t)) (hl : ∀ t, o t < 256) : pcall 162 [.ref 57] σ = some (1, .int (ι (topT o 12).2), σ) := by
  refine Wp.eqI (Wp.le (M_162 rfl hL) ?_)
  refine Wp.loop (α := Unit) 12 (fun t _ => C_162_4 (ι (topT o t).2) (ι t) σ) (fun _ _ => True) ?_ ?_ (t := 0) (a := ()) (Nat.zero_le _) trivial
  · intro t _ ht _ c
    have c := c () trivial
    have hb := hl t
    have h1 := pc_12 (o t)
    have h2 : (topT o t).2 ≤ 12 := by
      rcases (top_inv (o := o) t).2 with ⟨h, -⟩ | ⟨k, -, -, h, -⟩
      · omega
      · rw [h]; exact pc_12 _
    refine Wp.le (T_162_4 rfl hL) ?_
    rw [if_neg (by rw [ι_le (by omega) (by omega)]; omega), gd_inb (by omega) (by omega), ix_ι (by omega), ho t ht, p0 hL (by omega), bI_ret, imax_ι (by omega) (by omega), ι_add]
    rw [top_s] at c
    by_cases e : (topT o t).2 < pc (o t)
    · rw [if_pos e] at c
      rw [show max (topT o t).2 (pc (o t)) = pc (o t) by omega]; exact c
    · rw [if_neg e] at c
      rw [show max (topT o t).2 (pc (o t)) = (topT o t).2 by omega]; exact c
  · intro _ _
    refine Wp.le (T_162_4 rfl hL) ?_
    rw [if_pos (by decide)]
    exact Wp.retI rfl
theorem c161 {o : Nat → Nat} (hL : LayR (gR σ)) (ho : ∀ t, t < 12 → gI σ 58 t = ι (o t)) (hl : ∀ t, o t < 256) : pcall 161 [.ref 57] σ = some (1, .int (topT o 12).1, σ) := by
  refine Wp.eqI (Wp.le (M_161 rfl hL) ?_)
  rw [c162 hL ho hl, bI_ret]
  have hi := (top_inv (o := o) 12).2
  refine Wp.loop (α := Unit) 12 (fun t _ => C_161_7 (ι (topT o 12).2) (ι t) σ) (fun t _ => ∀ k, k < t → ¬ (0 < (topT o 12).2 ∧ pc (o k) = (topT o 12).2)) ?_ ?_ (t := 0) (a := ()) (Nat.zero_le _) (fun k hk => absurd hk (Nat.not_lt_zero k))
  · intro t _ ht hx c
    have hb := hl t
    have h1 := pc_12 (o t)
    have c := fun hx => c () hx
    have stp : ¬ (0 < (topT o 12).2 ∧ pc (o t) = (topT o 12).2) → ∀ k, k < t + 1 → ¬ (0 < (topT o 12).2 ∧ pc (o k) = (topT o 12).2) := fun g k hk => by
      by_cases e : k = t
      · rw [e]; exact g
      · exact hx k (by omega)
    refine Wp.le (T_161_7 rfl hL) ?_
    rw [if_neg (by rw [ι_le (by omega) (by omega)]; omega), ι_add]
    rcases hi with ⟨h2, h3⟩ | ⟨k, h2, h3, h4, h5⟩
    · rw [h2] at stp c ⊢
      rw [if_pos (Int32.le_refl _)]
      exact c (stp (fun g => by omega))
    · have h6 := pc_12 (o k)
      rw [h4] at stp hx c ⊢
      dsimp only at stp hx c ⊢
      rw [if_neg (by rw [ι_le (by omega) (by omega)]; omega), gd_inb (by omega) (by omega), ix_ι (by omega), ho t ht, p0 hL (by omega), bI_ret]
      by_cases e : pc (o t) = pc (o k)
      · rw [if_neg (by rw [ι_eq (by omega) (by omega)]; exact fun g => g e)]
        have : t = k := by
          rcases Nat.lt_trichotomy t k with g | g | g
          · have := h5 t g; omega
          · exact g
          · exact absurd ⟨h3, rfl⟩ (hx k g)
        rw [this]
        exact Wp.retI rfl
      · rw [if_pos (by rw [ι_eq (by omega) (by omega)]; exact e)]
        exact c (stp (fun g => e g.2))
  · intro _ hx
    refine Wp.le (T_161_7 rfl hL) ?_
    rw [if_pos (by decide)]
    rcases hi with ⟨h2, h3⟩ | ⟨k, h2, h3, h4, h5⟩
    · rw [h3]; exact Wp.retI rfl
    · exact absurd ⟨by rw [h4]; exact h3, by rw [h4]⟩ (hx k h2)
def q_next (P T : Nat) (W R : Rl) (A : Wd) (s : Sn) (x0 : Int32) : Nat × Int32 := if btw (ι 0) (ι 1) x0 = true then (0, if x0 = ι 0 then (topT (ownT P T W R A s (P * T * 10)) 12).1 else ι (topT (ownT P T W R A s (P * T * 10)) 12).2) else (1, ι 0)
theorem q203 (h : CN P T W R A σ q) (hs : SeC σ 32 s) (ok : okSn P T s) : Wp (pcall 203 [.ref 0, .int x0] σ) (qC σ (q_next P T W R A s x0)) := by
  refine Wp.le (M_203 rfl h.1.lay) ?_
  unfold q_next
  rw [k180 h.1.lay]
  by_cases e : btw (ι 0) (ι 1) x0 = true
  · rw [if_pos e, bV_ret, if_pos e]
    refine Wp.cV (c160 h hs ok h.rf) fun τ hτ => ?_
    obtain ⟨f, ho⟩ := hτ
    have hL := (h.cq f).1.lay
    have hl := ownT_lt (W := W) (R := R) (s := s) h.1.1 h.2.2.1 (P * T * 10)
    refine Wp.g hL ?_
    by_cases z0 : x0 = ι 0
    · rw [if_neg (fun g => g z0), if_pos z0, c161 hL ho hl, bI_ret]; exact qC.r rfl f
    · rw [if_pos z0, if_neg z0, c162 hL ho hl, bI_ret]; exact qC.r rfl f
  · rw [if_neg e, bV_3, if_neg e]; exact qC.n
end TASTES1
