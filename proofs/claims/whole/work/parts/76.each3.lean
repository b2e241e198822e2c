/-! ===== one thing for each: the reference ===== -/
section EACH3
variable {P T : Nat} {W R : Rl} {A B : Wd} {σ τ υ σ0 : pS} {q t p n m k S H d : Nat} {x0 : Int32} {w : Nat → Nat → Nat}
theorem shl12 : ∀ p, p < 9 → shl' (ι p) (ι 12) = ι (4096 * p) := by decide
theorem or_ιb {a t : Nat} (h : t < 12) : ι a ||| shl' (ι 1) (ι t) = ι (a ||| 1 <<< t) := by
  rw [shl_ι t (by omega), ι_or, Nat.shiftLeft_eq, Nat.one_mul]
theorem or_lt2 (hS : S < 2 ^ T) (ht : t < T) : S ||| 1 <<< t < 2 ^ T :=
  Nat.or_lt_two_pow hS (by rw [Nat.shiftLeft_eq, Nat.one_mul]; exact Nat.pow_lt_pow_right (by omega) ht)
/-- the rows of the table from person j on -/
def TbE (P T : Nat) (A : Wd) (j : Nat) (σ : pS) : Prop := ∀ p, j ≤ p → p ≤ P → ∀ S, S < 2 ^ T → gI σ 84 (4096 * p + S) = ι (mB T (wN A) (P - p) p S)
theorem mB_le (hw : ∀ q t, q < P → t < T → w q t ≤ 9) : ∀ k p H, p + k ≤ P → mB T w k p H ≤ k * 1009 := by
  intro k
  induction k with
  | zero => intro p H _; exact Nat.le_refl _
  | succ k ih =>
    intro p H hp
    rw [Nat.succ_mul]
    rcases mB_3 (T := T) (w := w) (k := k) (p := p) (H := H) with h | ⟨t, h1, h2⟩
    · have := ih (p + 1) H (by omega); omega
    · have := ih (p + 1) (H ||| 1 <<< t) (by omega)
      have := hw p t (by omega) h1
      have := h2.2
      omega
theorem CM.f84 (h : CM P T W R A σ) (f : Fr (fun a => a = 84) σ τ) : CM P T W R A τ := h.fr f (by omega) (by omega) (by omega) (by omega) (by omega) (by omega) (by omega) (by omega) (by omega) (by omega)
theorem wN_9 (h : okW P T A) : ∀ q t, q < P → t < T → wN A q t ≤ 9 := fun _ _ hq ht => (wN_ι h hq ht).2
/-- what p's having t comes to -/
def gvB (T : Nat) (w : Nat → Nat → Nat) (k p H t : Nat) : Int32 := if H.testBit t = true then ν 1 else ι (1000 + w p t + mB T w k (p + 1) (H ||| 1 <<< t))
theorem m303 (h : CM P T W R A σ) (hp : p < P) (ht : t < T) (hS : S < 2 ^ T) (hb : TbE P T A (p + 1) σ) : pcall 303 [.ref 61, .int (ι p), .int (ι t), .int (ι S)] σ = some (1, .int (gvB T (wN A) (P - p - 1) p S t), σ) := by
  have hT := h.ok.T; have hP := h.ok.P
  have h2T : 2 ^ T ≤ 2 ^ 12 := Nat.pow_le_pow_right (by omega) hT
  have hS2 := or_lt2 hS ht
  refine (M_303 rfl h.lay).eq ?_
  unfold gvB
  rw [p236 h.lay (by omega), bI_ret, tb_ι (by omega) (by omega)]
  by_cases e : S.testBit t = true
  · rw [e, bz_t, if_neg (by decide), if_pos rfl]
  · have e' : S.testBit t = false := by simpa using e
    rw [e', bz_f, if_pos rfl, if_neg (by decide), m245 h hp ht, bI_ret, ι_add, shl12 (p + 1) (by omega), or_ιb (by omega), ι_add, gd_inb (by omega) (by omega), ix_ι (by omega), (wN_ι h.ok hp ht).1, hb (p + 1) (by omega) (by omega) _ hS2, ι_add, ι_add, show P - (p + 1) = P - p - 1 by omega]
theorem ι_nm1 {a : Nat} (h : a < 2147483648) : ¬ ι a < ν 1 := fun g => by
  have h2 := Int32.lt_trans g (show ν 1 < ι 0 by decide)
  rw [ι_lt h (by omega)] at h2; omega
theorem imax_gv {a k p H t : Nat} (ha : a < 100000) (hv : 1000 + w p t + mB T w k (p + 1) (H ||| 1 <<< t) < 100000) : imax (ι a) (gvB T w k p H t) = ι (if H.testBit t = true then a else max a (1000 + w p t + mB T w k (p + 1) (H ||| 1 <<< t))) := by
  unfold gvB imax
  by_cases e : H.testBit t = true
  · rw [if_pos e, if_pos e, if_neg (ι_nm1 (by omega))]
  · rw [if_neg e, if_neg e]
    by_cases e2 : a < 1000 + w p t + mB T w k (p + 1) (H ||| 1 <<< t)
    · rw [if_pos (by rw [ι_lt (by omega) (by omega)]; exact e2)]; congr 1; omega
    · rw [if_neg (by rw [ι_lt (by omega) (by omega)]; exact e2)]; congr 1; omega
set_option maxHeartbeats 1000000 in
theorem m302 (h : CM P T W R A σ) : Wp (pcall 302 [.ref 61] σ) (RV (fun τ => Fr (fun a => a = 84) σ τ ∧ TbE P T A 0 τ)) := by
  have hT := h.ok.T; have hP := h.ok.P
  have h2T : 2 ^ T ≤ 2 ^ 12 := Nat.pow_le_pow_right (by omega) hT
  have hw := wN_9 h.ok
  refine Wp.le (M_302 rfl h.lay) ?_
  refine Wp.loop (α := pS) (2 ^ T) (fun S τ => C_302_2 (ι S) (.retAddr 0) (.retAddr 0) (.retAddr 0) τ) (fun S τ => Fr (fun a => a = 84) σ τ ∧ ∀ S', S' < S → gI τ 84 (4096 * P + S') = ι 0) ?_ ?_ (t := 0) (a := σ) (Nat.zero_le _) ⟨Fr.refl, fun S hS => absurd hS (Nat.not_lt_zero S)⟩
  · rintro S τ hS ⟨f, hz⟩ k
    refine Wp.le (T_302_2 rfl (h.f84 f).lay) ?_
    rw [(h.f84 f).T, (h.f84 f).P, shl_ι T (by omega), shl12 P (by omega), if_neg (by rw [ι_le (by omega) (by omega)]; omega), ι_add, gd_inb (by omega) (by omega), ix_ι (by omega), ι_add]
    refine k _ ⟨f.mI rfl, fun S' hS' => ?_⟩
    by_cases e : S' = S
    · rw [e, gI_s]
    · rw [gI_n (by omega)]; exact hz S' (by omega)
  rintro τ ⟨f, hz⟩
  refine Wp.le (T_302_2 rfl (h.f84 f).lay) ?_
  rw [(h.f84 f).T, (h.f84 f).P, shl_ι T (by omega), if_pos (by rw [ι_le (by omega) (by omega)]; exact Nat.le_refl _)]
  refine Wp.loop (α := Value × Value × Value × pS) P (fun i a => C_302_46 (ι (P - i) - ι 1) a.1 a.2.1 a.2.2.1 a.2.2.2) (fun i a => Fr (fun a => a = 84) σ a.2.2.2 ∧ TbE P T A (P - i) a.2.2.2) ?_ ?_ (t := 0) (a := (_, _, _, τ)) (Nat.zero_le _) ⟨f, fun p h1 h2 S hS => ?_⟩
  · rintro i ⟨v2, v3, v4, τ⟩ hi ⟨f, hb⟩ k
    dsimp only at f hb ⊢
    obtain ⟨p, hp⟩ : ∃ p, P - i = p + 1 := ⟨P - i - 1, by omega⟩
    have hpi : P - (i + 1) = p := by omega
    rw [hpi] at k
    rw [hp] at hb ⊢
    rw [ι_sub (by omega), Nat.add_sub_cancel]
    have hpm : ι p + ν 1 = ι p - ι 1 := by unfold ν; rw [← Int32.sub_eq_add_neg]
    refine Wp.le (T_302_46 rfl (h.f84 f).lay) ?_
    rw [if_neg (by rw [ι_lt (by omega) (by omega)]; omega)]
    refine Wp.loop (α := Value × Value × pS) (2 ^ T) (fun S a => C_302_52 (ι p) (ι S) a.1 a.2.1 a.2.2) (fun S a => Fr (fun a => a = 84) σ a.2.2 ∧ TbE P T A (p + 1) a.2.2 ∧ ∀ S', S' < S → gI a.2.2 84 (4096 * p + S') = ι (mB T (wN A) (P - p) p S')) ?_ ?_ (t := 0) (a := (v3, v4, τ)) (Nat.zero_le _) ⟨f, hb, fun S hS => absurd hS (Nat.not_lt_zero S)⟩
    · rintro S ⟨v3, v4, τ⟩ hS ⟨f, hb, hx⟩ k
      dsimp only at f hb hx ⊢
      have hc := h.f84 f
      refine Wp.le (T_302_52 rfl hc.lay) ?_
      rw [hc.T, shl_ι T (by omega), if_neg (by rw [ι_le (by omega) (by omega)]; omega), ι_add, shl12 (p + 1) (by omega), ι_add, gd_inb (by omega) (by omega), ix_ι (by omega), hb (p + 1) (by omega) (by omega) S hS]
      have ek : P - (p + 1) = P - p - 1 := by omega
      have ek1 : P - p = P - p - 1 + 1 := by omega
      rw [ek]
      refine Wp.loop (α := Int32) T (fun t x => C_302_81 (ι p) (ι S) x (ι t) τ) (fun t x => x = ι (fd (fun t s => if S.testBit t = true then s else max s (1000 + wN A p t + mB T (wN A) (P - p - 1) (p + 1) (S ||| 1 <<< t))) t (mB T (wN A) (P - p - 1) (p + 1) S))) ?_ ?_ (t := 0) (a := ι (mB T (wN A) (P - p - 1) (p + 1) S)) (Nat.zero_le _) rfl
      · rintro t x ht rfl k
        refine Wp.le (T_302_81 rfl hc.lay) ?_
        rw [hc.T, if_neg (by rw [ι_le (by omega) (by omega)]; omega), m303 hc (by omega) ht hS hb, bI_ret, ι_add]
        have b1 := mB_le hw (P - p - 1) (p + 1) S (by omega)
        have b2 : ∀ t', t' < T → 1000 + wN A p t' + mB T (wN A) (P - p - 1) (p + 1) (S ||| 1 <<< t') < 100000 := fun t' ht' => by
          have := mB_le hw (P - p - 1) (p + 1) (S ||| 1 <<< t') (by omega)
          have := hw p t' (by omega) ht'
          omega
        have b3 : fd (fun t s => if S.testBit t = true then s else max s (1000 + wN A p t + mB T (wN A) (P - p - 1) (p + 1) (S ||| 1 <<< t))) t (mB T (wN A) (P - p - 1) (p + 1) S) < 100000 := by
          rcases (fdmax (cc := fun t => S.testBit t) (f := fun t => 1000 + wN A p t + mB T (wN A) (P - p - 1) (p + 1) (S ||| 1 <<< t)) (s0 := mB T (wN A) (P - p - 1) (p + 1) S) t).2.2 with e | ⟨t', c1, c2, c3⟩
          · rw [e]; omega
          · rw [c3]; exact b2 t' (by omega)
        rw [imax_gv b3 (b2 t ht)]
        exact k _ rfl
      · rintro x hx9
        refine Wp.le (T_302_81 rfl hc.lay) ?_
        rw [hc.T, if_pos (by rw [ι_le (by omega) (by omega)]; exact Nat.le_refl _), shl12 p (by omega), ι_add, gd_inb (by omega) (by omega), ix_ι (by omega), ι_add]
        refine k (_, _, sI τ 84 (4096 * p + S) x) ⟨f.mI rfl, fun p' h1 h2 S' hS' => ?_, fun S' hS' => ?_⟩
        · rw [gI_n (by omega)]; exact hb p' h1 h2 S' hS'
        · by_cases e : S' = S
          · rw [e, gI_s, ek1, hx9]; rfl
          · rw [gI_n (by omega)]; exact hx S' (by omega)
    · rintro ⟨v3, v4, τ⟩ ⟨f, hb, hx⟩
      dsimp only at f hb hx ⊢
      have hc := h.f84 f
      refine Wp.le (T_302_52 rfl hc.lay) ?_
      rw [hc.T, shl_ι T (by omega), if_pos (by rw [ι_le (by omega) (by omega)]; exact Nat.le_refl _), hpm]
      refine k (_, _, _, τ) ⟨f, fun p' h1 h2 S hS => ?_⟩
      by_cases e : p' = p
      · rw [e]; exact hx S hS
      · exact hb p' (by omega) h2 S hS
  · rintro ⟨v2, v3, v4, τ⟩ ⟨f, hb⟩
    dsimp only at f hb ⊢
    refine Wp.le (T_302_46 rfl (h.f84 f).lay) ?_
    rw [Nat.sub_self] at hb ⊢
    rw [if_pos (by decide)]
    exact Wp.retV ⟨f, hb⟩
  · have e : p = P := by omega
    rw [e, Nat.sub_self]; exact hz S hS
/-- a digit as a thing -/
def ownD (d : Nat) : Int32 := if d = 0 then ν 1 else ι (12 - d)
theorem pkB_lt (hT : T ≤ 12) (h : pkB T w k p H ≠ 0) : 12 - pkB T w k p H < T ∧ pkB T w k p H ≤ 12 := by
  rcases pkB_or (T := T) (w := w) (k := k) (p := p) (H := H) with ⟨h1, -⟩ | ⟨t, h1, -, h3, -⟩
  · exact absurd h1 h
  · rw [h3]; omega
theorem gv_eq {v : Nat} (h1 : 1000 + w p t + mB T w k (p + 1) (H ||| 1 <<< t) < 100000) (hv : v < 100000) (e : v = mB T w (k + 1) p H) : gvB T w k p H t = ι v ↔ gdB T w k p H t := by
  unfold gvB gdB
  subst e
  by_cases e : H.testBit t = true
  · rw [if_pos e, e]
    constructor
    · intro g
      have := ι_m1 (n := mB T w (k + 1) p H) (by omega)
      exact absurd g.symm (by rw [this]; exact id)
    · intro g; exact absurd g.1 (by decide)
  · have e' : H.testBit t = false := by simpa using e
    rw [if_neg e, ι_eq (by omega) (by omega), e']
    exact ⟨fun g => ⟨rfl, g⟩, fun g => g.2⟩
theorem each_in (hP : P ≤ 8) (x : Int32) : btw (ν 1) (ι P - ι 1) x = (decide (x = ν 1) || inb' P x) := by
  by_cases e : x = ν 1
  · subst e
    have h1 : ¬ (ν 1 : Int32) < ν 1 := fun g => Int32.lt_irrefl g
    have h2 : ¬ (ι P - ι 1) < ν 1 := by
      by_cases z : P = 0
      · rw [z]; decide
      · rw [ι_sub (by omega)]; exact ι_nm1 (by omega)
    simp [btw, h1, h2]
  · have h0 := inb'_p (n := P) (by omega) x
    by_cases e0 : x < ι 0
    · have h1 : x < ν 1 := by
        rw [Int32.lt_iff_toInt_lt] at e0 ⊢
        have h2 : x.toInt ≠ (ν 1).toInt := fun g => e (Int32.toInt_inj.mp g)
        have h3 : (ν 1).toInt = -1 := by decide
        have h4 : (ι 0).toInt = 0 := by decide
        omega
      simp [btw, e, inb', e0, h1]
    · have h1 : ¬ x < ν 1 := fun g => e0 (Int32.lt_trans g (by decide))
      rw [← h0]
      simp [btw, e, e0, h1]
set_option maxHeartbeats 1000000 in
theorem n301 (h : CM P T W R A σ) : Wp (pcall 301 [.ref 61, .int x0] σ) (qM P T W R A σ (q_each P T A x0)) := by
  have hT := h.ok.T; have hP := h.ok.P
  have h2T : 2 ^ T ≤ 2 ^ 12 := Nat.pow_le_pow_right (by omega) hT
  have hw := wN_9 h.ok
  have hc : CM P T W R A (sC σ) := h.c0
  have jm1 : (-1 : Int64) = (ν 1).toInt64 := by decide
  refine Wp.le (M_301 rfl h.lay) ?_
  unfold q_each
  rw [hc.P, jm1, p261b hc.lay, bI_ret, each_in hP]
  have run : ∀ Q, (∀ τ, CM P T W R A τ → TbE P T A 0 τ → QN (sC σ) τ → Wp (if ¬ x0 = ν 1 then C_301_58 x0 (ι 0) (ν 1) (ι 0) (.retAddr 0) τ else some (1, .int (irem' (gI τ 84 0) (ι 1000)), τ)) Q) → Wp (bV (pcall 302 [.ref 61] (sC σ)) fun σ2 => if ¬ x0 = ν 1 then C_301_58 x0 (ι 0) (ν 1) (ι 0) (.retAddr 0) σ2 else some (1, .int (irem' (gI σ2 84 0) (ι 1000)), σ2)) Q := by
    intro Q hQ
    exact Wp.cV (m302 hc) fun τ hτ => hQ τ (hc.f84 hτ.1) hτ.2 (QN.rf.fr hτ.1 (by unfold Qq; omega) (by omega))
  by_cases e0 : x0 = ν 1
  · rw [if_pos e0, show (decide (x0 = ν 1) || inb' P x0) = true by rw [decide_eq_true e0]; rfl, bz_t, if_pos (by decide)]
    refine run _ fun τ hm hb hq => ?_
    rw [if_neg (fun g => g e0)]
    have hz := hb 0 (Nat.le_refl _) (Nat.zero_le _) 0 (Nat.pow_pos (by omega))
    simp only [Nat.mul_zero, Nat.add_zero, Nat.sub_zero] at hz
    have hl := mB_le hw P 0 0 (by omega)
    rw [hz, ι_rem (by omega) (by omega)]
    refine qM.r' ?_ hm hq
    have h2 := (e2 (w := wN A) (k := P) (p := 0) (H := 0) hT).2
    rw [vA_eq] at h2
    have h3 := wA_le hw (best_ok (P := P) (w := wN A) hT)
    rw [← h2]
    congr 1
    rw [Nat.mul_add_mod, Nat.mod_eq_of_lt (Nat.lt_of_le_of_lt h3 (by omega))]
  · rw [if_neg e0]
    by_cases e1 : inb' P x0 = true
    · rw [if_pos e1, e1, Bool.or_true, bz_t, if_pos (by decide)]
      refine run _ fun τ hm hb hq => ?_
      rw [if_pos e0]
      obtain ⟨j, hj, rfl⟩ := inb'_t (by omega) e1
      rw [ix_ι (by omega)]
      refine Wp.loop (α := Int32 × Int32 × Value) (j + 1) (fun p a => C_301_58 (ι j) a.1 a.2.1 (ι p) a.2.2 τ) (fun p a => ∃ H, H < 2 ^ T ∧ a.1 = ι H ∧ (∀ q, p ≤ q → q < P → bestA P T (wN A) q = dgB T (wN A) (P - p) p H q) ∧ (0 < p → a.2.1 = ownD (bestA P T (wN A) (p - 1)))) ?_ ?_ (t := 0) (a := (ι 0, ν 1, .retAddr 0)) (Nat.zero_le _) ⟨0, Nat.pow_pos (by omega), rfl, fun q _ _ => rfl, fun g => absurd g (by omega)⟩
      · rintro p ⟨x2, x3, v5⟩ hp ⟨H, hH, rfl, hd, -⟩ k
        dsimp only at k ⊢
        refine Wp.le (T_301_58 rfl hm.lay) ?_
        rw [if_neg (by rw [ι_lt (by omega) (by omega)]; omega), hm.T]
        obtain ⟨K, hK⟩ : ∃ K, P - p = K + 1 := ⟨P - p - 1, by omega⟩
        have hK1 : P - p - 1 = K := by omega
        refine Wp.loop (α := Int32) T (fun i x => C_301_76 (ι j) (ι H) x (ι p) (ι (T - i) - ι 1) τ) (fun i x => x = ownD (fd (fun i s => if gdB T (wN A) K p H (T - 1 - i) then 12 - (T - 1 - i) else s) i 0)) ?_ ?_ (t := 0) (a := ν 1) (Nat.zero_le _) rfl
        · rintro i x hi rfl k
          obtain ⟨t, ht⟩ : ∃ t, T - i = t + 1 := ⟨T - i - 1, by omega⟩
          have hti : T - (i + 1) = t := by omega
          have ht1 : T - 1 - i = t := by omega
          have hpm : ι t + ν 1 = ι t - ι 1 := by unfold ν; rw [← Int32.sub_eq_add_neg]
          rw [ht, ι_sub (by omega), Nat.add_sub_cancel]
          refine Wp.le (T_301_76 rfl hm.lay) ?_
          rw [if_neg (by rw [ι_lt (by omega) (by omega)]; omega), m303 hm (by omega) (by omega) hH (fun p' a b S c => hb p' (by omega) b S c), bI_ret, shl12 p (by omega), ι_add, gd_inb (by omega) (by omega), ix_ι (by omega), hb p (by omega) (by omega) H hH, hpm, hK1, hK]
          have b1 := mB_le hw K (p + 1) (H ||| 1 <<< t) (by omega)
          have b2 := hw p t (by omega) (by omega)
          have b3 := mB_le hw (K + 1) p H (by omega)
          have hg := gv_eq (T := T) (w := wN A) (k := K) (p := p) (H := H) (t := t) (by omega) (show mB T (wN A) (K + 1) p H < 100000 by omega) rfl
          have k := k (ownD (fd (fun i s => if gdB T (wN A) K p H (T - 1 - i) then 12 - (T - 1 - i) else s) (i + 1) 0)) rfl
          have ef : fd (fun i s => if gdB T (wN A) K p H (T - 1 - i) then 12 - (T - 1 - i) else s) (i + 1) 0 = if gdB T (wN A) K p H (T - 1 - i) then 12 - (T - 1 - i) else fd (fun i s => if gdB T (wN A) K p H (T - 1 - i) then 12 - (T - 1 - i) else s) i 0 := rfl
          rw [ef, ht1, hti] at k
          by_cases e : gdB T (wN A) K p H t
          · rw [if_neg (fun g => g (hg.mpr e))]
            rw [if_pos e] at k
            have eo : ownD (12 - t) = ι t := by
              unfold ownD
              rw [if_neg (by omega), show 12 - (12 - t) = t by omega]
            rw [eo] at k
            exact k
          · rw [if_pos (fun g => e (hg.mp g))]
            rw [if_neg e] at k
            exact k
        · rintro x rfl
          have epk : fd (fun i s => if gdB T (wN A) K p H (T - 1 - i) then 12 - (T - 1 - i) else s) T 0 = pkB T (wN A) K p H := rfl
          rw [epk, Nat.sub_self]
          refine Wp.le (T_301_76 rfl hm.lay) ?_
          rw [if_pos (by decide), ι_add]
          have hdp : bestA P T (wN A) p = pkB T (wN A) K p H := by
            rw [hd p (Nat.le_refl _) (by omega), hK]; exact if_pos rfl
          have hdq : ∀ q, p + 1 ≤ q → q < P → bestA P T (wN A) q = dgB T (wN A) (P - (p + 1)) (p + 1) (hadd H (pkB T (wN A) K p H)) q := by
            intro q c1 c2
            rw [hd q (by omega) c2, hK, show P - (p + 1) = K by omega]
            exact if_neg (by omega)
          by_cases z : pkB T (wN A) K p H = 0
          · have eo : ownD (pkB T (wN A) K p H) = ν 1 := by unfold ownD; rw [if_pos z]
            have eh : hadd H (pkB T (wN A) K p H) = H := by unfold hadd; rw [if_pos z]
            rw [eo, if_neg (fun g => g rfl), or_ι0]
            rw [eh] at hdq
            refine k (ι H, ν 1, _) ⟨H, hH, rfl, hdq, fun _ => ?_⟩
            rw [Nat.add_sub_cancel, hdp, eo]
          · obtain ⟨z1, z2⟩ := pkB_lt hT z
            have eo : ownD (pkB T (wN A) K p H) = ι (12 - pkB T (wN A) K p H) := by unfold ownD; rw [if_neg z]
            have eh : hadd H (pkB T (wN A) K p H) = H ||| 1 <<< (12 - pkB T (wN A) K p H) := by unfold hadd; rw [if_neg z]
            rw [eo, if_pos (by rw [ι_m1 (by omega)]; exact id), or_ιb (by omega)]
            rw [eh] at hdq
            refine k (ι (H ||| 1 <<< (12 - pkB T (wN A) K p H)), ι (12 - pkB T (wN A) K p H), _) ⟨_, or_lt2 hH z1, rfl, hdq, fun _ => ?_⟩
            rw [Nat.add_sub_cancel, hdp, eo]
      · rintro ⟨x2, x3, v5⟩ ⟨H, hH, rfl, hd, he⟩
        have he := he (by omega)
        rw [Nat.add_sub_cancel] at he
        dsimp only at he ⊢
        refine Wp.le (T_301_58 rfl hm.lay) ?_
        rw [if_pos (by rw [ι_lt (by omega) (by omega)]; omega), he]
        exact qM.r' rfl hm hq
    · have e1' : inb' P x0 = false := by simpa using e1
      rw [if_neg e1, e1', decide_eq_false e0, Bool.or_false, bz_f, if_neg (fun g => g rfl)]
      exact qM.f (by omega) h
end EACH3
