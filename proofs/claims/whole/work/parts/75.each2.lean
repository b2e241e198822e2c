/-! ===== one thing for each: the class ===== -/
section EACH2
variable {P T : Nat} {W R : Rl} {A B : Wd} {σ τ υ σ0 : pS} {q t p n m k S : Nat} {x y : Int64} {x0 : Int32}
theorem jι_rem {a b : Nat} (ha : a < 2 ^ 63) (hb : b < 2 ^ 63) : lrem' (jι a) (jι b) = jι (a % b) := by
  unfold lrem'
  rw [jι_div ha hb, jι_mul]
  have h1 : a / b * b ≤ a := Nat.div_mul_le_self a b
  rw [jι_sub h1]
  congr 1
  have := Nat.div_add_mod a b
  rw [Nat.mul_comm] at this
  omega
theorem shl_ι : ∀ n, n < 31 → shl' (ι 1) (ι n) = ι (2 ^ n) := by decide
def wN (A : Wd) (p t : Nat) : Nat := ix (A 4 (12 * p + t))
theorem wN_ι (h : okW P T A) (hp : p < P) (ht : t < T) : A 4 (12 * p + t) = ι (wN A p t) ∧ wN A p t ≤ 9 := by
  obtain ⟨v, hv, e⟩ := h.wor hp ht
  unfold wN
  rw [e, ix_ι (by omega)]
  exact ⟨rfl, hv⟩
theorem CW.fe (h : CW P T W R A σ 25 q) (f : Fr (fun a => a = 59 ∨ a = 60) σ τ) : CW P T W R A τ 25 q :=
  ⟨h.1, h.2.1.fr f (fun i hi => by rcases h.isp with rfl | rfl <;> omega), h.2.2.fr f (fun i hi => by omega)⟩
theorem p2 (hL : LayR (gR σ)) : Wp (pcall 2 [.ref 60, .long (-1 : Int64)] σ) (RV (fun τ => Fr (fun a => a = 59 ∨ a = 60) σ τ ∧ ∀ i, i < 256 → gJ τ 60 i = -1)) := by
  refine Wp.le (M_2 (n0 := 256) rfl rfl hL) ?_
  refine Wp.loop (α := pS) 256 (fun t τ => C_2_6 60 256 (-1) (ι t) (ι 256) τ) (fun t τ => Fr (fun a => a = 59 ∨ a = 60) σ τ ∧ ∀ i, i < t → gJ τ 60 i = -1) ?_ ?_ (t := 0) (a := σ) (Nat.zero_le _) ⟨Fr.refl, fun i hi => absurd hi (Nat.not_lt_zero i)⟩
  · rintro t τ ht ⟨fr, hx⟩ k
    refine Wp.le (T_2_6 (n0 := 256) rfl rfl (by rw [fr.r]; exact hL)) ?_
    simp (disch := omega) only [ι_lt_t, ι_lt_f, ι_le_t, ι_le_f, ι_eq_f, ι_m1, ι_add, ι_mul, ι_pm, ι_sub, ix_ι, gd_inb, gd_t, eq_self, if_true, if_false, not_true_eq_false, not_false_eq_true, ite_self, ]
    refine k _ ⟨fr.mJ (Or.inr rfl), fun i hi => ?_⟩
    rw [gJ_sJ, if_pos rfl]
    by_cases e : i = t
    · rw [if_pos e]
    · rw [if_neg e]; exact hx i (by omega)
  · rintro τ ⟨fr, hx⟩
    refine Wp.le (T_2_6 (n0 := 256) rfl rfl (by rw [fr.r]; exact hL)) ?_
    simp (disch := omega) only [ι_lt_t, ι_lt_f, ι_le_t, ι_le_f, ι_eq_f, ι_m1, ι_add, ι_mul, ι_pm, ι_sub, ix_ι, gd_inb, gd_t, eq_self, if_true, if_false, not_true_eq_false, not_false_eq_true, ite_self, ]
    exact Wp.retV ⟨fr, hx⟩
theorem lmax_n {V : (Nat → Nat) → Nat} {C : (Nat → Nat) → Prop} (h : Mx V C x) : lmax x (-1) = x := by
  rcases h with ⟨rfl, -⟩ | ⟨a, -, rfl, h3, -⟩
  · exact lmax_3
  · exact lmax_2 (by omega)
theorem pw13 (hp : p < 8) : (13 : Nat) ^ (8 - p) / 13 = 13 ^ (7 - p) ∧ (13 : Nat) ^ (8 - p) < 2 ^ 63 := by
  have : ∀ p, p < 8 → (13 : Nat) ^ (8 - p) / 13 = 13 ^ (7 - p) ∧ (13 : Nat) ^ (8 - p) < 2 ^ 63 := by decide
  exact this p hp
set_option maxHeartbeats 1000000 in
theorem c130 (h : CW P T W R A σ 25 q) (hM : ∀ S, S ≤ n → Mx (nA (wN A) P) (Dm P t S) (gJ σ 60 S)) (ht : t < T) (hn : n < 2 ^ P) : Wp (pcall 130 [.ref 59, .ref 25, .int (ι t), .int (ι n)] σ) (fun z => ∃ x, Mx (nA (wN A) P) (Dk P t n P) x ∧ z = (1, .long x, σ)) := by
  have hT := h.1.T; have hP := h.1.P
  have h28 : 2 ^ P ≤ 2 ^ 8 := Nat.pow_le_pow_right (by omega) hP
  have hw : ∀ q t, q < P → t < T → wN A q t ≤ 9 := fun q t hq ht => (wN_ι h.1 hq ht).2
  refine Wp.le (M_130 (by decide) rfl h.lay) ?_
  refine Wp.loop (α := Int64 × Int64 × Value × Value × Value) P (fun p a => C_130_13 25 (ι t) (ι n) a.1 a.2.1 (ι p) a.2.2.1 a.2.2.2.1 a.2.2.2.2 σ) (fun p a => Mx (nA (wN A) P) (Dk P t n p) a.1 ∧ a.2.1 = jι (13 ^ (8 - p))) ?_ ?_ (t := 0) (a := (-1, 815730721, .retAddr 0, .retAddr 0, .retAddr 0)) (Nat.zero_le _) ⟨Or.inl ⟨rfl, fun a ⟨_, p, hp, _⟩ => by omega⟩, rfl⟩
  · rintro p ⟨x4, x6, v9, v10, v11⟩ hp ⟨hx, rfl⟩ k
    dsimp only at hx
    refine Wp.le (T_130_13 (by decide) rfl h.lay) ?_
    rw [c86 h, bI_ret, if_neg (by rw [ι_le (by omega) (by omega)]; omega), p168 h.lay (by omega), bI_ret, tb_ι (by omega) (by omega), jι_13, jι_div (pw13 (show p < 8 by omega)).2 (by decide), (pw13 (show p < 8 by omega)).1, ι_add]
    by_cases hb : n.testBit p = true
    · obtain ⟨r1, r2, r3⟩ := rm_dec n (by omega) p (by omega) hb
      have r1 : ι n &&& (shl' (ι 1) (ι p) ^^^ ν 1) = ι (n - 2 ^ p) := r1
      have p2 : 0 < 2 ^ p := Nat.pow_pos (by omega)
      rw [hb, if_neg (by decide), r1, if_neg (by rw [ι_lt (by omega) (by omega)]; omega), if_neg (by rw [ι_le (by omega) (by omega)]; omega), gd_inb (by omega) (by omega), ix_ι (by omega)]
      have hm := hM (n - 2 ^ p) (by omega)
      rcases hm.sh hw hP hT ht hp hb (fun q hq => r3 q (by omega)) with ⟨e, g⟩ | ⟨v, e, hv, g⟩
      · rw [if_pos (by rw [e]; exact (lg_cmp_lt _ _).mpr (by decide))]
        have g2 := (hx.or g).cg Dk_s
        rw [lmax_n hx] at g2
        exact k (x4, _, _, _, _) ⟨g2, by rw [show 8 - (p + 1) = 7 - p by omega]⟩
      · have e0 : ¬ lg_cmp (gJ σ 60 (n - 2 ^ p)) 0 < ι 0 := fun g => by
          have := (lg_cmp_lt _ _).mp g
          rw [e, jι_0, jι_lt (by omega) (by omega)] at this
          omega
        obtain ⟨w1, w2⟩ := wN_ι h.1 hp ht
        have ev : gJ σ 60 (n - 2 ^ p) + ((ι (wN A p t)).toInt64 * 815730721 + (ι 12 - ι t).toInt64 * jι (13 ^ (7 - p))) = jι (v + (wN A p t * 815730721 + (12 - t) * 13 ^ (7 - p))) := by
          rw [e, jι_sm _ (by omega), ι_sub (by omega), jι_sm _ (by omega), jι_U, jι_mul, jι_mul, jι_add, jι_add]
        rw [if_neg e0, c74 h hp ht, bI_ret, gd_inb (by omega) (by omega), w1, ev]
        exact k (lmax x4 (jι (v + (wN A p t * 815730721 + (12 - t) * 13 ^ (7 - p)))), jι (13 ^ (7 - p)), _, _, _) ⟨(hx.or g).cg Dk_s, by rw [show 8 - (p + 1) = 7 - p by omega]⟩
    · have hb : n.testBit p = false := by simpa using hb
      rw [hb, bz_f, if_pos rfl]
      exact k (x4, _, _, _, _) ⟨hx.cg (Dk_n hp (by omega) hb), by rw [show 8 - (p + 1) = 7 - p by omega]⟩
  · rintro ⟨x4, x6, v9, v10, v11⟩ ⟨hx, -⟩
    dsimp only at hx
    refine Wp.le (T_130_13 (by decide) rfl h.lay) ?_
    rw [c86 h, bI_ret, if_pos (by rw [ι_le (by omega) (by omega)]; exact Nat.le_refl _)]
    exact .ret ⟨x4, hx, rfl⟩
theorem pc_12 (n : Nat) : pc n ≤ 12 := by
  unfold pc
  rw [fd_sm (fun k => if n.testBit k = true then 1 else 0) 12 0]
  have := smN_le (k := 12) (p := 0) (c := 1) (f := fun k => if n.testBit k = true then 1 else 0) (fun q _ _ => by split <;> omega)
  omega
set_option maxHeartbeats 1000000 in
theorem c129 (h : CW P T W R A σ 25 q) : Wp (pcall 129 [.ref 59, .ref 25] σ) (RV (fun τ => Fr (fun a => a = 59 ∨ a = 60) σ τ ∧ gJ τ 59 1 = jι (nA (wN A) P (bestA P T (wN A))))) := by
  have hT := h.1.T; have hP := h.1.P
  have h28 : 2 ^ P ≤ 2 ^ 8 := Nat.pow_le_pow_right (by omega) hP
  have hp2 : 0 < 2 ^ P := Nat.pow_pos (by omega)
  have hw : ∀ q t, q < P → t < T → wN A q t ≤ 9 := fun q t hq ht => (wN_ι h.1 hq ht).2
  refine Wp.le (M_129 (by decide) rfl h.lay) ?_
  refine Wp.cV (p2 h.lay) fun τ0 h0 => ?_
  obtain ⟨f0, z0⟩ := h0
  have f1 : Fr (fun a => a = 59 ∨ a = 60) σ (sJ τ0 60 0 0) := f0.mJ (Or.inr rfl)
  rw [c86 (h.fe f1), bI_ret, shl_ι P (by omega), ι_sub (by omega)]
  have rows : ∀ τ v, Fr (fun a => a = 59 ∨ a = 60) σ τ → (∀ S, S < 2 ^ P → Mx (nA (wN A) P) (Dm P T S) (gJ τ 60 S)) → gJ τ 59 1 = jι 0 → Wp (C_129_111 25 v (ι (2 ^ P - 1)) (ι (min P T)) (ι 0) τ) (RV (fun τ => Fr (fun a => a = 59 ∨ a = 60) σ τ ∧ gJ τ 59 1 = jι (nA (wN A) P (bestA P T (wN A))))) := by
    intro τ v f hM hz
    refine Wp.loop (α := pS) (2 ^ P) (fun S τ => C_129_111 25 v (ι (2 ^ P - 1)) (ι (min P T)) (ι S) τ) (fun n τ => Fr (fun a => a = 59 ∨ a = 60) σ τ ∧ (∀ S, S < 2 ^ P → Mx (nA (wN A) P) (Dm P T S) (gJ τ 60 S)) ∧ Rw (wN A) P T (min P T) n (gJ τ 59 1)) ?_ ?_ (t := 0) (a := τ) (Nat.zero_le _) ⟨f, hM, Or.inl ⟨hz, fun S hS => absurd hS (Nat.not_lt_zero S)⟩⟩
    · rintro n τ hn ⟨f, hM, hr⟩ k
      refine Wp.le (T_129_111 (by decide) rfl (h.fe f).lay) ?_
      have hm12 := pc_12 n
      rw [if_neg (by rw [ι_lt (by omega) (by omega)]; omega), if_neg (by rw [ι_le (by omega) (by omega)]; omega), p0 (h.fe f).lay (by omega), bI_ret, gd_inb (by omega) (by omega), ix_ι (by omega), ι_add]
      have c60 : ∀ y i, gJ (sJ τ 59 1 y) 60 i = gJ τ 60 i := fun y i => by rw [gJ_sJ, if_neg (by decide)]
      have c59 : ∀ y, gJ (sJ τ 59 1 y) 59 1 = y := fun y => by rw [gJ_sJ, if_pos rfl, if_pos rfl]
      by_cases e : pc n = min P T
      · rw [if_neg (fun g => g (by rw [e]))]
        refine k _ ⟨f.mJ (Or.inl rfl), fun S hS => by rw [c60]; exact hM S hS, ?_⟩
        rw [c59]
        exact hr.yes e (hM n hn)
      · rw [if_pos (by rw [ι_eq (by omega) (by omega)]; exact e)]
        refine k _ ⟨f.mJ (Or.inl rfl), fun S hS => by rw [c60]; exact hM S hS, ?_⟩
        rw [c59]
        exact hr.no e
    · rintro τ ⟨f, hM, hr⟩
      refine Wp.le (T_129_111 (by decide) rfl (h.fe f).lay) ?_
      rw [if_pos (by rw [ι_lt (by omega) (by omega)]; omega)]
      exact Wp.retV ⟨f, hr.top hw hP hT⟩
  have start : ∀ S, S < 2 ^ P → Mx (nA (wN A) P) (Dm P 0 S) (gJ (sJ τ0 60 0 0) 60 S) := by
    intro S hS
    rw [gJ_sJ, if_pos rfl]
    by_cases e : S = 0
    · rw [if_pos e, e]; exact Mx_0
    · rw [if_neg e, z0 S (by omega)]; exact Mx_n hS e
  refine Wp.loop (α := Value × pS) T (fun t a => C_129_28 25 (ι (2 ^ P - 1)) (ι t) a.1 a.2) (fun t a => Fr (fun a => a = 59 ∨ a = 60) σ a.2 ∧ ∀ S, S < 2 ^ P → Mx (nA (wN A) P) (Dm P t S) (gJ a.2 60 S)) ?_ ?_ (t := 0) (a := (.retAddr 0, sJ τ0 60 0 0)) (Nat.zero_le _) ⟨f1, start⟩
  · rintro t ⟨v, τ⟩ ht ⟨f, hM⟩ k
    dsimp only at f hM ⊢
    refine Wp.le (T_129_28 (by decide) rfl (h.fe f).lay) ?_
    rw [c87 (h.fe f), bI_ret, if_neg (by rw [ι_le (by omega) (by omega)]; omega)]
    refine Wp.loop (α := pS) (2 ^ P - 1) (fun i τ => C_129_39 25 (ι (2 ^ P - 1)) (ι t) (ι (2 ^ P - 1 - i)) τ) (fun i τ => Fr (fun a => a = 59 ∨ a = 60) σ τ ∧ (∀ S, S ≤ 2 ^ P - 1 - i → Mx (nA (wN A) P) (Dm P t S) (gJ τ 60 S)) ∧ ∀ S, S < 2 ^ P → 2 ^ P - 1 - i < S → Mx (nA (wN A) P) (Dm P (t + 1) S) (gJ τ 60 S)) ?_ ?_ (t := 0) (a := τ) (Nat.zero_le _) ⟨f, fun S hS => hM S (by omega), fun S h1 h2 => by omega⟩
    · rintro i τ hi ⟨f, hM, hN⟩ k
      refine Wp.le (T_129_39 (by decide) rfl (h.fe f).lay) ?_
      rw [if_neg (by rw [ι_le (by omega) (by omega)]; omega), if_neg (by rw [ι_le (by omega) (by omega)]; omega), gd_inb (by omega) (by omega)]
      obtain ⟨z, hz, x, hx, rfl⟩ := c130 (h.fe f) (n := 2 ^ P - 1 - i) hM ht (by omega)
      rw [hz, bJ_ret, gd_inb (by omega) (by omega), ix_ι (by omega), ι_pm (by omega), show 2 ^ P - 1 - i - 1 = 2 ^ P - 1 - (i + 1) by omega]
      refine k _ ⟨f.mJ (Or.inr rfl), fun S hS => ?_, fun S hS h2 => ?_⟩
      · rw [gJ_sJ, if_pos rfl, if_neg (by omega)]; exact hM S (by omega)
      · rw [gJ_sJ, if_pos rfl]
        by_cases e : S = 2 ^ P - 1 - i
        · rw [if_pos e, e]; exact ((hM _ (Nat.le_refl _)).or hx).cg (Dm_s (by omega))
        · rw [if_neg e]; exact hN S hS (by omega)
    · rintro τ ⟨f, hM, hN⟩
      refine Wp.le (T_129_39 (by decide) rfl (h.fe f).lay) ?_
      rw [Nat.sub_self] at hM hN ⊢
      rw [if_pos (by decide), ι_add]
      refine k (_, τ) ⟨f, fun S hS => ?_⟩
      by_cases e : S = 0
      · subst e; exact (hM 0 (Nat.le_refl _)).cg (Dm_z (by omega))
      · exact hN S hS (by omega)
  · rintro ⟨v, τ⟩ ⟨f, hM⟩
    dsimp only at f hM ⊢
    refine Wp.le (T_129_28 (by decide) rfl (h.fe f).lay) ?_
    rw [c87 (h.fe f), bI_ret, if_pos (by rw [ι_le (by omega) (by omega)]; exact Nat.le_refl _), c86 (h.fe f), bI_ret, c87 (h.fe f), bI_ret]
    have em : imin (ι P) (ι T) = ι (min P T) := by
      unfold imin
      by_cases e : T < P
      · rw [if_pos (by rw [ι_lt (by omega) (by omega)]; exact e), show min P T = T by omega]
      · rw [if_neg (by rw [ι_lt (by omega) (by omega)]; exact e), show min P T = P by omega]
    rw [em]
    refine rows _ _ (f.mJ (Or.inl rfl)) (fun S hS => ?_) ?_
    · rw [gJ_sJ, if_neg (by decide)]; exact hM S hS
    · rw [gJ_sJ, if_pos rfl, if_pos rfl]; rfl
theorem c132 (hL : LayR (gR σ)) (hP : P ≤ 8) {w : Nat → Nat → Nat} {a : Nat → Nat} (ha : ∀ q, q < P → a q ≤ 12) (hb : nA w P a < 2 ^ 62) (e : gJ σ 59 1 = jι (nA w P a)) (hp : p < P) : pcall 132 [.ref 59, .int (ι p)] σ = some (1, .int (if a p = 0 then ν 1 else ι (12 - a p)), σ) := by
  refine Wp.eqI (Wp.le (M_132 rfl hL) ?_)
  rw [e, jι_U, jι_rem (by omega) (by decide), (nA_w ha hP).2, ι_add]
  have hd := dA_lt (a := a) (p := 0) (k := P) (fun q _ b => ha q (by omega)) (by omega)
  rw [show 13 ^ (8 - 0) = 815730721 by decide] at hd
  have hle : ∀ j, dA P 0 a / 13 ^ j ≤ dA P 0 a := fun j => Nat.div_le_self _ _
  refine Wp.loop (α := Int64) (7 - p) (fun i x => C_132_14 (.ref 59) (.int (ι p)) x (ι (p + 1 + i)) σ) (fun i x => x = jι (dA P 0 a / 13 ^ i)) ?_ ?_ (t := 0) (a := jι (dA P 0 a)) (Nat.zero_le _) (by rw [Nat.pow_zero, Nat.div_one])
  · rintro i x hi rfl k
    have := hle i
    refine Wp.le (T_132_14 rfl hL) ?_
    rw [if_neg (by rw [ι_le (by omega) (by omega)]; omega), jι_13, jι_div (by omega) (by decide), ι_add, Nat.div_div_eq_div_mul, ← Nat.pow_succ, Nat.add_assoc]
    exact k _ rfl
  · rintro x rfl
    have := hle (7 - p)
    have hp12 := ha p hp
    refine Wp.le (T_132_14 rfl hL) ?_
    rw [if_pos (by rw [ι_le (by omega) (by omega)]; omega), jι_13, jι_rem (by omega) (by decide), jι_to, dA_dig (fun q _ b => ha q (by omega)) (by omega) (Nat.zero_le _) (by omega), ι_sub (by omega)]
    by_cases e : a p = 0
    · rw [if_neg (fun g => g (by rw [e])), if_pos e]; exact Wp.retI rfl
    · rw [if_pos (by rw [ι_eq (by omega) (by omega)]; exact e), if_neg e]; exact Wp.retI rfl
def q_each (P T : Nat) (A : Wd) (x0 : Int32) : Nat × Int32 := if x0 = ν 1 then (0, ι (wA (wN A) P 0 (bestA P T (wN A)))) else if inb' P x0 = true then (0, if bestA P T (wN A) (ix x0) = 0 then ν 1 else ι (12 - bestA P T (wN A) (ix x0))) else (1, ι 0)
theorem q196 (h : CN P T W R A σ q) : Wp (pcall 196 [.ref 0, .int x0] σ) (qC σ (q_each P T A x0)) := by
  have hT := h.1.1.T; have hP := h.1.1.P
  have hw : ∀ q t, q < P → t < T → wN A q t ≤ 9 := fun q t hq ht => (wN_ι h.1.1 hq ht).2
  have hb := best_ok (P := P) (w := wN A) hT
  have ha : ∀ q, q < P → bestA P T (wN A) q ≤ 12 := fun q hq => hb.le (Nat.zero_le _) (by omega)
  have hl := nA_lt hw hP hb
  have cq : ∀ {τ}, Fr (fun a => a = 59 ∨ a = 60) σ τ → CQ σ τ := fun f => ⟨Fq.of f (fun a s => Or.inr (by omega)), by rw [f.i (by omega)]; exact h.2.2.2⟩
  refine Wp.le (M_196 rfl h.1.lay) ?_
  unfold q_each
  by_cases e0 : x0 = ν 1
  · rw [if_pos e0, if_pos e0]
    refine Wp.le (T_196_10 rfl h.1.lay) ?_
    refine Wp.cV (c129 h.1) fun τ hτ => ?_
    obtain ⟨f, e⟩ := hτ
    rw [if_neg (fun g => g e0)]
    have e131 : pcall 131 [.ref 59] τ = some (1, .int (ι (wA (wN A) P 0 (bestA P T (wN A)))), τ) := by
      refine (M_131 rfl (h.1.fe f).lay).eq ?_
      rw [e, jι_U, jι_div (by omega) (by decide), (nA_w ha hP).1, jι_to]
    rw [e131, bI_ret]
    exact qC.r rfl (cq f)
  · rw [if_neg e0, if_neg e0, k176 h.1]
    by_cases e1 : inb' P x0 = true
    · obtain ⟨p, hp, rfl⟩ := inb'_t (by omega) e1
      rw [if_pos e1, bV_ret, if_pos e1, ix_ι (by omega)]
      refine Wp.le (T_196_10 rfl h.1.lay) ?_
      refine Wp.cV (c129 h.1) fun τ hτ => ?_
      obtain ⟨f, e⟩ := hτ
      rw [if_pos e0, c132 (h.1.fe f).lay hP ha hl e hp, bI_ret]
      exact qC.r rfl (cq f)
    · rw [if_neg e1, bV_3, if_neg e1]; exact qC.n
end EACH2
