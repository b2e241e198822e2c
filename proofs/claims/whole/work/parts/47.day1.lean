/-! ===== the class's days ===== -/
section DAY1
variable {P T : Nat} {W R : Rl} {A B : Wd} {σ τ : pS} {w q t o r : Nat}
/-- the cells of a world, and what is written over -/
def Wc (w a : Nat) : Prop := Sc a ∨ (w ≤ a ∧ a ≤ w + 5)
theorem Wc.qq {q i : Nat} (hw : isW w) (hq : isP q) (hi : i < 5 ∨ i = 5 ∨ i = 6 ∨ i = 8 ∨ i = 9) : ¬ Wc w (q + i) := by
  unfold Wc Sc; rcases hw with rfl | rfl | rfl <;> rcases hq with rfl | rfl <;> omega
theorem Wc.ww {i : Nat} (hi : i ≤ 5) : Wc w (w + i) := Or.inr ⟨by omega, by omega⟩
theorem Wc.w0 : Wc w w := Wc.ww (i := 0) (by omega)
theorem CW.mk' (h : CW P T W R A σ w q) (ok : okW P T B) (fr : Fr (Wc w) σ τ) (e6 : ∀ p, B 6 p = A 6 p) (e7 : ∀ t, B 7 t = A 7 t) (hP : gI τ w 1 = gI σ w 1) (hT : gI τ w 2 = gI σ w 2) (day : gI τ w 3 = B 0 0) (sil : gI τ w 10 = B 0 1)
    (own : ∀ t, t < T → gI τ (w + 1) t = B 1 t) (run : ∀ t, t < T → gI τ (w + 2) t = B 2 t) (see : ∀ p, p < P → gI τ (w + 3) p = B 3 p) (wor : ∀ p, p < P → ∀ t, t < T → gI τ (w + 4) (12 * p + t) = B 4 (12 * p + t)) : CW P T W R B τ w q := by
  have h2 := h.2.1.fr fr (fun i hi => Wc.qq h.isw h.isp hi)
  refine ⟨ok, ⟨h2.1, h2.2.1, fun p hp => by rw [e6]; exact h2.2.2.1 p hp, fun t ht => by rw [e7]; exact h2.2.2.2.1 t ht, h2.2.2.2.2⟩, h.isw, by rw [fr.r]; exact h.told, hP.trans h.P, hT.trans h.T, day, sil, own, run, see, wor⟩
theorem okW.up1 (h : okW P T A) (ho : o < P) : okW P T (up A 1 t (ι o)) := by
  obtain ⟨h1, h2, h3, h4, h5, h6, h7, h8, h9, h10⟩ := h
  refine ⟨h1, h2, fun s hs => ?_, h4, h5, h6, h7, h8, h9, h10⟩
  by_cases e : s = t
  · exact ⟨o, ho, by simp [up, e]⟩
  · obtain ⟨o', a, b⟩ := h3 s hs
    exact ⟨o', a, by simp [up, e, b]⟩
theorem okW.up2 (h : okW P T A) (hr : r ≤ 9) : okW P T (up A 2 t (ι r)) := by
  obtain ⟨h1, h2, h3, h4, h5, h6, h7, h8, h9, h10⟩ := h
  refine ⟨h1, h2, h3, fun s hs => ?_, h5, h6, h7, h8, h9, h10⟩
  by_cases e : s = t
  · exact ⟨r, hr, by simp [up, e]⟩
  · obtain ⟨o', a, b⟩ := h4 s hs
    exact ⟨o', a, by simp [up, e, b]⟩
theorem okW.up00 (h : okW P T A) {x : Int32} : okW P T (up A 0 0 x) := by
  obtain ⟨h1, h2, h3, h4, h5, h6, h7, h8, h9, h10⟩ := h
  exact ⟨h1, h2, h3, h4, h5, h6, h7, h8, h9, h10⟩
theorem okW.up01 (h : okW P T A) {m : Nat} (hm : m < 256) : okW P T (up A 0 1 (ι m)) := by
  obtain ⟨h1, h2, h3, h4, h5, h6, h7, h8, h9, h10⟩ := h
  exact ⟨h1, h2, h3, h4, h5, h6, h7, h8, ⟨m, hm, rfl⟩, h10⟩
theorem up_id (A : Wd) (r i : Nat) : up A r i (A r i) = A := by
  funext b j
  unfold up
  split
  · rename_i h; subst h
    split
    · rename_i h; subst h; rfl
    · rfl
  · rfl
theorem up_eq {A : Wd} {r i : Nat} {x : Int32} (h : A r i = x) : up A r i x = A := by rw [← h]; exact up_id A r i
set_option maxHeartbeats 1000000 in
theorem c82t (h : CW P T W R A σ w q) (ht : t < T) {x3 s0 : Int32} {v : Value} (h1 : 0 < R.1 → tb (gI σ (q + 8) 3) 7 = true → x3 = cntS P T W A t) (h2 : R.1 = 0 → s0 = if ι 0 < cntS P T W A t then ι 1 else ι 0) : Wp (C_82_71 w (ι t) (q + 8) x3 v s0 σ) (RI (wearS P T W R A t) (Fr Sc σ)) := by
  have hT := h.1.T
  have hP := h.1.P
  obtain ⟨o, ho, e1⟩ := h.1.own ht
  have hu : isU (q + 8) := isU_p8 h.isp
  refine Wp.le (T_82_71 h.isw hu rfl h.lay) ?_
  rw [p17 hu h.lay h.rr.2.2.1, bI_ret]
  unfold wearS
  by_cases hR : R.1 = 0
  · have : decide (0 < R.1) = false := by simp [hR]
    rw [this, bz_f, if_pos rfl, bG_some h.told h.isp, p29 h.isp h.lay (by omega), bI_ret, h.firm ht, h2 hR, if_pos hR]
    rcases h.1.frm ht with e | e
    · rw [e, if_neg (show ¬ ι 0 = ι 1 by decide)]
      exact Wp.retI Fr.refl
    · rw [e, if_pos rfl]
      exact Wp.retI Fr.refl
  · have : decide (0 < R.1) = true := by simp; omega
    rw [this, bz_t, if_neg (by decide), c76 h ht, bI_ret, if_neg hR]
    have w6 := Sc.w6 h.isw
    have hw6 : ¬ w = w + 6 := by omega
    generalize hσ1 : sI (sI σ (w + 6) 0 (A 2 t)) (w + 6) 1 (gI (sI σ (w + 6) 0 (A 2 t)) w 3) = σ1
    have f1 : Fr Sc σ σ1 := by rw [← hσ1]; exact (Fr.refl.mI w6).mI w6
    have g1 := h.sc f1
    have v0 : gI σ1 (w + 6) 0 = A 2 t := by rw [← hσ1]; simp [gI_sI]
    have v1 : gI σ1 (w + 6) 1 = A 0 0 := by rw [← hσ1]; simp [gI_sI, h.day]
    rw [c75 g1 ht, bI_ret, e1, c74 g1 ho ht, bI_ret]
    generalize hσ2 : sI (sI σ1 (w + 6) 6 (A 4 (12 * o + t))) (w + 6) 7 x3 = σ2
    have f2 : Fr Sc σ σ2 := by rw [← hσ2]; exact (f1.mI w6).mI w6
    have g2 := h.sc f2
    have u0 : gI σ2 (w + 6) 0 = A 2 t := by rw [← hσ2]; simp [gI_sI, v0]
    have u1 : gI σ2 (w + 6) 1 = A 0 0 := by rw [← hσ2]; simp [gI_sI, v1]
    have u6 : gI σ2 (w + 6) 6 = A 4 (12 * o + t) := by rw [← hσ2]; simp [gI_sI]
    have u7 : gI σ2 (w + 6) 7 = x3 := by rw [← hσ2]; simp [gI_sI]
    have hne : w + 6 ≠ q + 8 + 2 := by
      rcases h.isw with rfl | rfl | rfl <;> rcases h.isp with rfl | rfl <;> decide
    refine Wp.cI (c18 hu g2.lay g2.rr (by omega) (kdW_6 h.isw) hne) ?_
    intro τ' hτ
    have hv : valS R (gI σ2 (w + 6)) = valS R (fRS P T W A t) := by
      refine valS_congr g2.rr.1 ?_
      intro k hk hok hex
      have hk6 : k = 0 ∨ k = 1 ∨ k = 6 ∨ k = 7 := by
        rcases (by omega : k = 0 ∨ k = 1 ∨ k = 2 ∨ k = 3 ∨ k = 4 ∨ k = 5 ∨ k = 6 ∨ k = 7) with rfl | rfl | rfl | rfl | rfl | rfl | rfl | rfl <;> first | omega | (revert hok; decide)
      have hb := (g2.rr.2.2.2.2 k hk).mpr hex
      unfold fRS
      rcases hk6 with rfl | rfl | rfl | rfl
      · simpa using u0
      · simpa using u1
      · simpa [e1, ix_ι (show o < 2147483648 by omega)] using u6
      · have h7 : tb (gI σ (q + 8) 3) 7 = true := by
          rw [← f2.i (show ¬ Sc (q + 8) from Sc.p h.isp (by omega))]; exact hb
        simpa [h1 (by omega) h7] using u7
    rw [hv]
    have f' : Fr Sc σ τ' := f2.trans (hτ.mono (fun a e => by rw [e]; exact Sc.u2 hu))
    have g3 := h.sc f'
    rw [bG_some g3.told g3.isp, p29 g3.isp g3.lay (by omega), bI_ret, g3.firm ht]
    rcases h.1.frm ht with e | e
    · rw [e, if_neg (show ¬ ι 0 = ι 1 by decide)]
      exact Wp.retI f'
    · rw [e, if_pos rfl]
      exact Wp.retI f'
theorem c82 (h : CW P T W R A σ w q) (ht : t < T) : Wp (pcall 82 [.ref w, .int (ι t)] σ) (RI (wearS P T W R A t) (Fr Sc σ)) := by
  have hT := h.1.T
  have hP := h.1.P
  have hu : isU (q + 8) := isU_p8 h.isp
  refine Wp.le (M_82 h.isw rfl h.lay) ?_
  rw [bG_some h.told h.isp, p28 h.isp h.lay, bA_ret]
  refine Wp.g hu ?_
  rw [p17 hu h.lay h.rr.2.2.1, bI_ret]
  have loop : Wp (C_82_29 w (ι t) (q + 8) (ι 0) (ι 0) σ) (RI (wearS P T W R A t) (Fr Sc σ)) := by
    refine Wp.fdl (n := P) (f := fun p s => s + if wantsS T W A p t = true then ι 1 else ι 0) (C := fun p b σ => C_82_29 w (ι t) (q + 8) b (ι p) σ) (I := Fr Sc σ) ?_ ?_ Fr.refl
    · rintro p τ b hp hf - k
      have h' := h.sc hf
      refine Wp.le (T_82_29 h.isw hu rfl h'.lay) ?_
      rw [h'.P]
      simp (disch := omega) only [ι_lt_t, ι_lt_f, ι_le_t, ι_le_f, ι_eq_f, ι_m1, ι_add, ι_mul, ι_pm, ι_sub, ix_ι, gd_inb, gd_t, eq_self, if_true, if_false, not_true_eq_false, not_false_eq_true, ite_self, ]
      refine Wp.cI (c77 h' hp ht) fun τ' f' => ?_
      have k := k τ' (hf.trans f')
      by_cases e : wantsS T W A p t = true <;> simp (disch := omega) only [ι_lt_t, ι_lt_f, ι_le_t, ι_le_f, ι_eq_f, ι_m1, ι_add, ι_mul, ι_pm, ι_sub, ix_ι, gd_inb, gd_t, eq_self, if_true, if_false, not_true_eq_false, not_false_eq_true, ite_self, bI_ret, bJ_ret, bA_ret, bV_ret, bI_thr, bV_thr, bA_thr, e, bz_0] at k ⊢ <;> exact k
    · intro τ hf
      have h' := h.sc hf
      refine Wp.le (T_82_29 h.isw hu rfl h'.lay) ?_
      rw [h'.P]
      simp (disch := omega) only [ι_lt_t, ι_lt_f, ι_le_t, ι_le_f, ι_eq_f, ι_m1, ι_add, ι_mul, ι_pm, ι_sub, ix_ι, gd_inb, gd_t, eq_self, if_true, if_false, not_true_eq_false, not_false_eq_true, ite_self, ]
      have tr : ∀ {d}, Wp d (RI (wearS P T W R A t) (Fr Sc τ)) → Wp d (RI (wearS P T W R A t) (Fr Sc σ)) := fun hw => hw.mono (by rintro z ⟨s, rfl, f⟩; exact ⟨s, rfl, hf.trans f⟩)
      by_cases e : ι 0 < cntS P T W A t
      · rw [if_neg (by rw [le_iff]; exact fun g => g e)]
        exact tr (c82t h' ht (fun _ _ => rfl) (fun _ => by rw [if_pos e]))
      · rw [if_pos (by rw [le_iff]; exact e)]
        exact tr (c82t h' ht (fun _ _ => rfl) (fun _ => by rw [if_neg e]))
  by_cases hR : R.1 = 0
  · have : decide (0 < R.1) = false := by simp [hR]
    rw [this, bz_f, if_pos rfl]
    exact loop
  · have : decide (0 < R.1) = true := by simp; omega
    rw [this, bz_t, if_neg (by decide), p16 hu h.lay (by omega), bI_ret]
    by_cases h7 : tb (gI σ (q + 8) 3) 7 = true
    · rw [h7, bz_t, if_neg (by decide)]
      exact loop
    · have h7' : tb (gI σ (q + 8) 3) 7 = false := by simpa using h7
      rw [h7', bz_f, if_pos rfl, if_pos (by decide)]
      exact c82t h ht (fun _ g => absurd g h7) (fun g => absurd g hR)
/-- nothing is taken, nothing runs down -/
def stilS (P T : Nat) (W R : Rl) (A : Wd) : Prop := A 0 1 = ι 0 ∧ (∀ t, t < T → (takeS P T W A t).1 = ν 1) ∧ ∀ t, t < T → imin (ι 9) (A 2 t + wearS P T W R A t) = A 2 t
def usesD (V : Rl) : Prop := ∃ i, i < V.1 ∧ V.2 i = ν 1 - ι 1
def STL (P T : Nat) (W R : Rl) (A : Wd) (σ : pS) (w : Nat) : Prop := gI σ w 11 = ι 0 ∨ gI σ w 11 = ι 1 ∧ (¬ usesD W → ¬ usesD R → stilS P T W R A)
theorem taks_still {n : Nat} (h : ∀ t, t < n → (takeS P T W A t).1 = ν 1) : takS P T W n A = (A, fun _ => ι 0) := by
  induction n with
  | zero => rfl
  | succ n ih =>
    have ih := ih (fun t ht => h t (by omega))
    show (if (takeS P T W (takS P T W n A).1 n).1 = ν 1 then takS P T W n A else _) = _
    rw [ih, if_pos (h n (by omega))]
theorem wrns_s (n : Nat) (A : Wd) : wrnS P T W R (n + 1) A = up (wrnS P T W R n A) 2 n (imin (ι 9) (wrnS P T W R n A 2 n + wearS P T W R (wrnS P T W R n A) n)) := rfl
theorem wrns_still {n : Nat} (h : ∀ t, t < n → imin (ι 9) (A 2 t + wearS P T W R A t) = A 2 t) : wrnS P T W R n A = A := by
  induction n with
  | zero => rfl
  | succ n ih =>
    have ih := ih (fun t ht => h t (by omega))
    rw [wrns_s, ih, h n (by omega), up_id]
theorem day_still (h : stilS P T W R A) : dayS P T W R A = (up A 0 0 (A 0 0 + ι 1), fun _ => ι 0) := by
  unfold dayS
  simp only [taks_still h.2.1, wrns_still h.2.2, up_eq h.1]
theorem look_day {x : Int32} {p : Nat} : lookS (up A 0 0 x) p t = lookS A p t := rfl
theorem how_day {x o : Int32} : howS T (up A 0 0 x) o = howS T A o := rfl
theorem wants_day {ok : Nat → Bool} (hw : wfr ok W) (hu : ¬ usesD W) {x : Int32} {p : Nat} : wantsS T W (up A 0 0 x) p t = wantsS T W A p t := by
  unfold wantsS
  have : valS W (fWS T (up A 0 0 x) p t) = valS W (fWS T A p t) := by
    refine valS_congr hw ?_
    intro k hk _ hex
    have : k ≠ 1 := fun e => hu (by rw [e] at hex; exact hex)
    unfold fWS
    simp only [if_neg this]
    rfl
  rw [this]
  rfl
theorem still_day {ok1 ok2 : Nat → Bool} (hw : wfr ok1 W) (hr : wfr ok2 R) (hu : ¬ usesD W) (hv : ¬ usesD R) {x : Int32} (h : stilS P T W R A) : stilS P T W R (up A 0 0 x) := by
  have e1 : ∀ p t, wantsS T W (up A 0 0 x) p t = wantsS T W A p t := fun p t => wants_day hw hu
  have e2 : ∀ t, takeS P T W (up A 0 0 x) t = takeS P T W A t := by
    intro t; unfold takeS; simp only [e1]; rfl
  have e3 : ∀ t, cntS P T W (up A 0 0 x) t = cntS P T W A t := by
    intro t; unfold cntS; simp only [e1]
  have e4 : ∀ t, wearS P T W R (up A 0 0 x) t = wearS P T W R A t := by
    intro t
    unfold wearS
    have : valS R (fRS P T W (up A 0 0 x) t) = valS R (fRS P T W A t) := by
      refine valS_congr hr ?_
      intro k hk _ hex
      have : k ≠ 1 := fun e => hv (by rw [e] at hex; exact hex)
      unfold fRS
      simp only [if_neg this, e3]
      rfl
    simp only [this, e3]
    rfl
  refine ⟨h.1, fun t ht => by rw [e2]; exact h.2.1 t ht, fun t ht => by rw [e4]; exact h.2.2 t ht⟩
theorem taks_len {n : Nat} (h : okW P T A) (hn : n ≤ T) : okW P T (takS P T W n A).1 ∧ (∀ r i, r ≠ 1 → r ≠ 2 → (takS P T W n A).1 r i = A r i) ∧ ∀ j, n ≤ j → (takS P T W n A).2 j = ι 0 := by
  induction n with
  | zero => exact ⟨h, fun _ _ _ _ => rfl, fun _ _ => rfl⟩
  | succ n ih =>
    obtain ⟨a, b, c⟩ := ih (by omega)
    have e : takS P T W (n + 1) A = if (takeS P T W (takS P T W n A).1 n).1 = ν 1 then takS P T W n A else (up (up (takS P T W n A).1 1 n (takeS P T W (takS P T W n A).1 n).1) 2 n (ι 0), st1 (takS P T W n A).2 n (ι 1)) := rfl
    by_cases e1 : (takeS P T W (takS P T W n A).1 n).1 = ν 1
    · rw [e, if_pos e1]
      exact ⟨a, b, fun j hj => c j (by omega)⟩
    · rw [e, if_neg e1]
      have hP := h.P
      rcases take_inv (A := (takS P T W n A).1) (T := T) (W := W) (t := n) (n := P) (by omega) with h2 | ⟨k, hk, h2⟩
      · exact absurd (congrArg Prod.fst h2) e1
      · have h3 : (takeS P T W (takS P T W n A).1 n).1 = ι k := congrArg Prod.fst h2
        rw [h3]
        refine ⟨(a.up1 hk).up2 (r := 0) (by omega), fun r i h1 h2 => ?_, fun j hj => ?_⟩
        · simp only [up, h1, h2, if_false]; exact b r i h1 h2
        · show (if j = n then ι 1 else _) = _
          rw [if_neg (by omega)]; exact c j (by omega)
theorem wear_le (h : okW P T A) (ht : t < T) : ∃ m, m ≤ 3 ∧ wearS P T W R A t = ι m := by
  have key : ∃ m, m ≤ 3 ∧ (if R.1 = 0 then (if ι 0 < cntS P T W A t then ι 1 else ι 0) else imax (ι 0) (imin (valS R (fRS P T W A t)) (ι 3))) = ι m := by
    by_cases e : R.1 = 0
    · rw [if_pos e]
      by_cases e2 : ι 0 < cntS P T W A t
      · rw [if_pos e2]; exact ⟨1, by omega, rfl⟩
      · rw [if_neg e2]; exact ⟨0, by omega, rfl⟩
    · rw [if_neg e]
      generalize valS R (fRS P T W A t) = v
      unfold imax imin
      by_cases h3 : ι 3 < v
      · rw [if_pos h3]; exact ⟨3, by omega, by decide⟩
      · rw [if_neg h3]
        by_cases h0 : ι 0 < v
        · rw [if_pos h0]
          have h4 : ¬ v < ι 0 := fun g => Int32.lt_irrefl (Int32.lt_trans g h0)
          have h5 : v < ι 4 := Int32.lt_of_le_of_lt (Int32.not_lt.mp h3) (by decide)
          obtain ⟨k, hk, e⟩ := ι_of h4 h5 (by omega)
          exact ⟨k, by omega, e⟩
        · rw [if_neg h0]; exact ⟨0, by omega, rfl⟩
  obtain ⟨m, hm, e⟩ := key
  unfold wearS
  simp only [e]
  by_cases h7 : A 7 t = ι 1
  · rw [if_pos h7, ι_div (by omega) (by omega)]; exact ⟨m / 2, by omega, rfl⟩
  · rw [if_neg h7]; exact ⟨m, hm, rfl⟩
theorem wrn_one {a m : Nat} (ha : a ≤ 9) (hm : m ≤ 3) : imin (ι 9) (ι a + ι m) = ι (if a + m ≤ 9 then a + m else 9) := by
  have : ∀ a, a ≤ 9 → ∀ m, m ≤ 3 → imin (ι 9) (ι a + ι m) = ι (if a + m ≤ 9 then a + m else 9) := by decide
  exact this a ha m hm
theorem wrns_ok {n : Nat} (h : okW P T A) (hn : n ≤ T) : okW P T (wrnS P T W R n A) ∧ (∀ r i, r ≠ 2 → (wrnS P T W R n A) r i = A r i) ∧ ∀ j, n ≤ j → (wrnS P T W R n A) 2 j = A 2 j := by
  induction n with
  | zero => exact ⟨h, fun _ _ _ => rfl, fun _ _ => rfl⟩
  | succ n ih =>
    obtain ⟨a, b, c⟩ := ih (by omega)
    obtain ⟨r, hr, e1⟩ := a.run (show n < T by omega)
    obtain ⟨m, hm, e2⟩ := wear_le (W := W) (R := R) a (show n < T by omega)
    have e : wrnS P T W R (n + 1) A = up (wrnS P T W R n A) 2 n (ι (if r + m ≤ 9 then r + m else 9)) := by
      rw [wrns_s, e1, e2, wrn_one hr hm]
    rw [e]
    refine ⟨a.up2 (by split <;> omega), fun s i h1 => ?_, fun j hj => ?_⟩
    · simp only [up, h1, if_false]; exact b s i h1
    · show (if 2 = 2 then if j = n then _ else _ else _) = _
      rw [if_pos rfl, if_neg (by omega)]; exact c j (by omega)
theorem day_ok (h : okW P T A) : okW P T (dayS P T W R A).1 := by
  have h1 := (taks_len (W := W) h (Nat.le_refl T)).1
  have h2 := (wrns_ok (W := W) (R := R) h1 (Nat.le_refl T)).1
  exact (h2.up01 (m := 0) (by omega)).up00
end DAY1
