/-! ===== the game of two: the reference ===== -/
section GAME2
variable {P T : Nat} {W R : Rl} {A B : Wd} {σ τ υ σ0 σ1 : pS} {q t p o n m k a b : Nat} {x : Wd × (Nat → Int32)} {x0 x1 x2 s1 s2 : Int32}
theorem mask_ok (h : okW P T A) (h0 : A 0 1 = ι 0) (hm : m < 256) {g : Nat → Int32} (n : Nat) : okW P T (gof P T W R (n + 1) (up A 0 1 (ι m), g)).1 ∧ like A (gof P T W R (n + 1) (up A 0 1 (ι m), g)).1 := by
  have o2 := h.up01 hm
  have l1 := taks_len (W := W) o2 (Nat.le_refl T)
  have l2 := wrns_ok (W := W) (R := R) l1.1 (Nat.le_refl T)
  have l3 : like A (dayS P T W R (up A 0 1 (ι m))).1 := by
    refine ⟨fun p => ?_, fun t => ?_, h0.symm⟩
    · show wrnS P T W R T (takS P T W T (up A 0 1 (ι m))).1 6 p = _
      rw [l2.2.1 6 p (by omega), l1.2.1 6 p (by omega) (by omega)]; rfl
    · show wrnS P T W R T (takS P T W T (up A 0 1 (ι m))).1 7 t = _
      rw [l2.2.1 7 t (by omega), l1.2.1 7 t (by omega) (by omega)]; rfl
  have e : gof P T W R (n + 1) (up A 0 1 (ι m), g) = gof P T W R n ((dayS P T W R (up A 0 1 (ι m))).1, fun j => g j + (dayS P T W R (up A 0 1 (ι m))).2 j) := (gof_d n).symm
  rw [e]
  have := gof_ok (W := W) (R := R) (day_ok (W := W) (R := R) o2) (by rfl) (g := fun j => g j + (dayS P T W R (up A 0 1 (ι m))).2 j) n
  exact ⟨this.1, l3.trans this.2⟩
theorem d284 (h : CM P T W R B σ) (f : QN σ0 σ) (r : RowA P T A σ 83 0) (ok : okW P T A) (l : like A B) : Wp (pcall 284 [.ref 61, .ref 83, .int (ι 0)] σ) (RV (fun τ => Nw P T W R A σ0 τ ∧ ∀ j, gI τ 91 j = gI σ 91 j)) := by
  refine (m284 (off := 0) (n0 := 129) h.lay rfl (by omega) (by omega) (by unfold nPk; omega)).mono ?_
  rintro z ⟨v, τ, rfl, hk⟩
  refine ⟨v, τ, rfl, ⟨hk.cm h r ok l.symm, f.un hk, r.eq (fun i _ _ => hk.1.i (by unfold Uc; omega) i) ok.P ok.T⟩, fun j => hk.1.i (by unfold Uc; omega) j⟩
theorem d271 (h : CM P T W R A σ) (f : QN σ0 σ) : Wp (pcall 271 [.ref 61, .ref 83, .int (ι 0)] σ) (RV (Nw P T W R A σ0)) := (b271 h f).mono fun z hz => by
  obtain ⟨v, τ, e, h1⟩ := hz; exact ⟨v, τ, e, h1.1⟩
def gmG (P T : Nat) (W R : Rl) (A : Wd) (p o j : Nat) : Int32 := if j % 2 = 0 then gm0 P T W R A p o (j / 2) else gm1 P T W R A p o (j / 2)
theorem wel_w {g : Nat → Int32} : welS T (gof P T W R 4 (up A 0 1 (ι (gmk p o k)), g)).1 n = welS T (gmB P T W R A p o k) n := by rw [gof_w (g' := fun _ => ι 0)]; rfl
set_option maxHeartbeats 1000000 in
theorem m316 (h : CM P T W R A σ) (f : QN σ0 σ) (h0 : A 0 1 = ι 0) (hp : p < P) (ho : o < P) : Wp (pcall 316 [.ref 61, .int (ι p), .int (ι o)] σ) (RV (fun τ => Nw P T W R A σ0 τ ∧ ∀ j, j < 8 → gI τ 91 j = gmG P T W R A p o j)) := by
  have hP := h.ok.P; have hT := h.ok.T
  refine Wp.le (M_316 rfl h.lay) ?_
  refine Wp.cV (d271 h f) fun τ nw => ?_
  refine Wp.loop (α := pS) 4 (fun k τ => C_316_11 (ι p) (ι o) (ι k) τ) (fun k τ => Nw P T W R A σ0 τ ∧ ∀ j, j < 2 * k → gI τ 91 j = gmG P T W R A p o j) ?_ ?_ (t := 0) (a := τ) (Nat.zero_le _) ⟨nw, fun j hj => absurd hj (Nat.not_lt_zero j)⟩
  · rintro k τ hk ⟨nw, hj⟩ c
    refine Wp.le (T_316_11 rfl nw.1.lay) ?_
    rw [if_neg (by rw [ι_le (by omega) (by omega)]; omega)]
    have em : (shl' (ι k / ι 2) (ι p)) ||| (shl' (irem' (ι k) (ι 2)) (ι o)) = ι (gmk p o k) := by
      have z0 : ∀ p, p < 8 → shl' (ι 0) (ι p) = ι 0 := by decide
      have hp8 : p < 8 := by omega
      have ho8 : o < 8 := by omega
      rcases (by omega : k = 0 ∨ k = 1 ∨ k = 2 ∨ k = 3) with rfl | rfl | rfl | rfl
      · rw [show ι 0 / ι 2 = ι 0 by decide, show irem' (ι 0) (ι 2) = ι 0 by decide, z0 p hp8, z0 o ho8, ι_or]; rfl
      · rw [show ι 1 / ι 2 = ι 0 by decide, show irem' (ι 1) (ι 2) = ι 1 by decide, z0 p hp8, bit_ι o ho8, ι_or]; rfl
      · rw [show ι 2 / ι 2 = ι 1 by decide, show irem' (ι 2) (ι 2) = ι 0 by decide, bit_ι p hp8, z0 o ho8, ι_or]; rfl
      · rw [show ι 3 / ι 2 = ι 1 by decide, show irem' (ι 3) (ι 2) = ι 1 by decide, bit_ι p hp8, bit_ι o ho8, ι_or]; rfl
    rw [em]
    have lt := gmk_lt (p := p) (o := o) (k := k) (by omega) (by omega)
    have g2 : CM P T W R (up A 0 1 (ι (gmk p o k))) (sI τ 61 36 (ι (gmk p o k))) := nw.1.sil' lt
    have q2 : QM τ (sI τ 61 36 (ι (gmk p o k))) := QM.refl.mI (by unfold Mq; omega) (fun _ => by unfold Mf; omega)
    refine Wp.cV (m272 (Mp.startB g2) (by omega)) fun τ2 s => ?_
    have q3 := q2.trans s.2.1
    have mo := mask_ok (W := W) (R := R) h.ok h0 lt (g := gI (sI τ 61 36 (ι (gmk p o k))) 82) 3
    have c91 : ∀ j, gI τ2 91 j = gI τ 91 j := fun j => q3.1.i (by unfold Mq Sc; omega) j
    rw [m252 s.1 hp, bI_ret, wel_w]
    have d1 : ι 2 * (ι k / ι 2) = ι (2 * (k / 2)) := by
      rcases (by omega : k = 0 ∨ k = 1 ∨ k = 2 ∨ k = 3) with rfl | rfl | rfl | rfl <;> decide
    have d2 : ι 2 * irem' (ι k) (ι 2) = ι (2 * (k % 2)) := by
      rcases (by omega : k = 0 ∨ k = 1 ∨ k = 2 ∨ k = 3) with rfl | rfl | rfl | rfl <;> decide
    have d3 : ι 2 * ι k = ι (2 * k) := (Int32.ofNat_mul 2 k).symm
    rw [d1, d2, d3, gd_inb (by omega) (by omega), ix_ι (by omega)]
    have g3 : CM P T W R (gof P T W R (3 + 1) (up A 0 1 (ι (gmk p o k)), gI (sI τ 61 36 (ι (gmk p o k))) 82)).1 (sI τ2 91 (2 * k) (welS T (gmB P T W R A p o k) p + ι (2 * (k / 2)))) := s.1.any (by omega)
    rw [m252 g3 ho, bI_ret, wel_w, ι_add, gd_inb (by omega) (by omega), ix_ι (by omega)]
    have g4 := g3.any (a := 91) (i := 2 * k + 1) (x := welS T (gmB P T W R A p o k) o + ι (2 * (k % 2))) (by omega)
    have q4 : QN σ0 (sI (sI τ2 91 (2 * k) (welS T (gmB P T W R A p o k) p + ι (2 * (k / 2)))) 91 (2 * k + 1) (welS T (gmB P T W R A p o k) o + ι (2 * (k % 2)))) := ((nw.2.1.qm q3).trans ⟨Fr.refl.mI (by unfold Qq; omega), fun i _ => gI_c (by decide)⟩).trans ⟨Fr.refl.mI (by unfold Qq; omega), fun i _ => gI_c (by decide)⟩
    have r4 : RowA P T A (sI (sI τ2 91 (2 * k) (welS T (gmB P T W R A p o k) p + ι (2 * (k / 2)))) 91 (2 * k + 1) (welS T (gmB P T W R A p o k) o + ι (2 * (k % 2)))) 83 0 := (q3.row nw.2.2 hP hT).eq (fun i _ _ => by rw [gI_c (by decide), gI_c (by decide)]) hP hT
    refine Wp.cV (d284 g4 q4 r4 h.ok mo.2) fun τ5 n5 => ?_
    simp (disch := omega) only [ι_lt_t, ι_lt_f, ι_le_t, ι_le_f, ι_eq_f, ι_m1, ι_add, ι_mul, ι_pm, ι_sub, ix_ι, gd_inb, gd_t, eq_self, if_true, if_false, not_true_eq_false, not_false_eq_true, ite_self, ]
    refine c τ5 ⟨n5.1, fun j hj2 => ?_⟩
    rw [n5.2 j]
    unfold gmG
    by_cases e1 : j = 2 * k + 1
    · subst e1
      rw [gI_s, if_neg (by omega), show (2 * k + 1) / 2 = k by omega]; rfl
    · rw [gI_n e1]
      by_cases e2 : j = 2 * k
      · subst e2
        rw [gI_s, if_pos (by omega), show 2 * k / 2 = k by omega]; rfl
      · rw [gI_n e2, c91 j]; exact hj j (by omega)
  · rintro τ ⟨nw, hj⟩
    refine Wp.le (T_316_11 rfl nw.1.lay) ?_
    rw [if_pos (by decide)]
    exact ⟨_, rfl, _, _, rfl, nw, hj⟩
/-- the first resting couple, kept -/
def gmU (f : Nat → Bool) (n : Nat) : Int32 := fd (fun k s => if s = ν 1 ∧ f k = true then gmN k else s) n (ν 1)
theorem gmU_f (f : Nat → Bool) : gmU f 4 = if fst1 f 4 0 = 4 then ν 1 else gmN (fst1 f 4 0) := by
  have a : ∀ k, k < 4 → ¬ gmN k = ν 1 := by decide
  have a0 := a 0 (by omega)
  have a1 := a 1 (by omega)
  have a2 := a 2 (by omega)
  unfold gmU
  simp only [fd, fst1, Nat.reduceAdd]
  by_cases h0 : f 0 = true <;> by_cases h1 : f 1 = true <;> by_cases h2 : f 2 = true <;> by_cases h3 : f 3 = true <;> simp [h0, h1, h2, h3, a0, a1, a2]
theorem m315l (h : Nw P T W R A σ0 σ) (hg : ∀ j, j < 8 → gI σ 91 j = gmG P T W R A p o j) {v w : Value} {x2' : Int32} : Wp (C_315_63 v w x2' (ι 0) (ν 1) (ι 0) σ) (RI (if x2' = ι 0 then ι (gmC P T W R A p o 4) else gmF P T W R A p o) (fun τ => τ = σ)) := by
  have hL := h.1.lay
  refine Wp.loop (α := Unit) 4 (fun k _ => C_315_63 v w x2' (ι (gmC P T W R A p o k)) (gmU (gmR P T W R A p o) k) (ι k) σ) (fun _ _ => True) ?_ ?_ (t := 0) (a := ()) (Nat.zero_le _) trivial
  · intro k _ hk _ c
    have c := c () trivial
    refine Wp.le (T_315_63 rfl hL) ?_
    rw [if_neg (by rw [ι_le (by omega) (by omega)]; omega)]
    have x2 : ι k ^^^ ι 2 = ι (k ^^^ 2) ∧ k ^^^ 2 < 4 := by
      rcases (by omega : k = 0 ∨ k = 1 ∨ k = 2 ∨ k = 3) with rfl | rfl | rfl | rfl <;> decide
    have x1 : ι k ^^^ ι 1 = ι (k ^^^ 1) ∧ k ^^^ 1 < 4 := by
      rcases (by omega : k = 0 ∨ k = 1 ∨ k = 2 ∨ k = 3) with rfl | rfl | rfl | rfl <;> decide
    have d3 : ∀ k, ι 2 * ι k = ι (2 * k) := fun k => (Int32.ofNat_mul 2 k).symm
    have l2 := x2.2
    have l1 := x1.2
    rw [x2.1, x1.1, d3, d3, d3, ι_add (2 * k) 1, ι_add (2 * (k ^^^ 1)) 1]
    generalize hk2 : k ^^^ 2 = k2 at *
    generalize hk1 : k ^^^ 1 = k1 at *
    rw [gd_inb (by omega) (by omega), gd_inb (by omega) (by omega), gd_inb (by omega) (by omega), gd_inb (by omega) (by omega), ix_ι (show 2 * k < 2147483648 by omega), ix_ι (show 2 * k2 < 2147483648 by omega), ix_ι (show 2 * k + 1 < 2147483648 by omega), ix_ι (show 2 * k1 + 1 < 2147483648 by omega)]
    have e0 : ∀ k, k < 4 → gI σ 91 (2 * k) = gm0 P T W R A p o k := by
      intro k hk
      rw [hg _ (by omega)]; unfold gmG; rw [if_pos (by omega), show 2 * k / 2 = k by omega]
    have e1 : ∀ k, k < 4 → gI σ 91 (2 * k + 1) = gm1 P T W R A p o k := by
      intro k hk
      rw [hg _ (by omega)]; unfold gmG; rw [if_neg (by omega), show (2 * k + 1) / 2 = k by omega]
    rw [e0 k hk, e0 k2 l2, e1 k hk, e1 k1 l1]
    have ec : gmC P T W R A p o (k + 1) = gmC P T W R A p o k + if gmR P T W R A p o k = true then 1 else 0 := rfl
    have eu : gmU (gmR P T W R A p o) (k + 1) = if gmU (gmR P T W R A p o) k = ν 1 ∧ gmR P T W R A p o k = true then gmN k else gmU (gmR P T W R A p o) k := rfl
    have er : gmR P T W R A p o k = (decide (¬ gm0 P T W R A p o k < gm0 P T W R A p o k2) && decide (¬ gm1 P T W R A p o k < gm1 P T W R A p o k1)) := by unfold gmR; rw [hk2, hk1]
    clear hg
    have ef : gmR P T W R A p o k = false → Wp (C_315_63 v w x2' (ι (gmC P T W R A p o k)) (gmU (gmR P T W R A p o) k) (ι (k + 1)) σ) (RI (if x2' = ι 0 then ι (gmC P T W R A p o 4) else gmF P T W R A p o) (fun τ => τ = σ)) := by
      intro hb
      rw [ec, eu, hb] at c
      simpa only [Bool.false_eq_true, if_false, and_false, Nat.add_zero] using c
    have et : gmR P T W R A p o k = true → Wp (C_315_63 v w x2' (ι (gmC P T W R A p o k + 1)) (if gmU (gmR P T W R A p o) k = ν 1 then gmN k else gmU (gmR P T W R A p o) k) (ι (k + 1)) σ) (RI (if x2' = ι 0 then ι (gmC P T W R A p o 4) else gmF P T W R A p o) (fun τ => τ = σ)) := by
      intro hb
      rw [ec, eu, hb] at c
      simpa only [if_true, and_true] using c
    clear c ec eu
    rw [gmN_e hk, ι_add, ι_add]
    generalize RI (if x2' = ι 0 then ι (gmC P T W R A p o 4) else gmF P T W R A p o) (fun τ => τ = σ) = Q at *
    by_cases b0 : gm0 P T W R A p o k < gm0 P T W R A p o k2
    · rw [if_pos b0]
      exact ef (by rw [er]; simp only [b0, not_true_eq_false, decide_false, Bool.false_and])
    · rw [if_neg b0]
      by_cases b1 : gm1 P T W R A p o k < gm1 P T W R A p o k1
      · rw [if_neg (by rw [Int32.not_le]; exact b1)]
        exact ef (by rw [er]; simp only [b1, not_true_eq_false, decide_false, Bool.and_false])
      · rw [if_pos (by rw [← Int32.not_lt]; exact b1)]
        have et := et (by rw [er]; simp only [b0, b1, not_false_eq_true, decide_true, Bool.and_true])
        by_cases b2 : gmU (gmR P T W R A p o) k = ν 1
        · rw [if_pos b2] at et
          rw [if_neg (fun g => g b2)]; exact et
        · rw [if_neg b2] at et
          rw [if_pos b2]; exact et
  · intro _ _
    refine Wp.le (T_315_63 rfl hL) ?_
    rw [if_pos (by decide), gmU_f]
    by_cases e : x2' = ι 0
    · rw [if_neg (fun g => g e), if_pos e]; exact Wp.retI rfl
    · rw [if_pos e, if_neg e]; exact Wp.retI rfl
theorem n315 (h : CM P T W R A σ) (h0 : A 0 1 = ι 0) : Wp (pcall 315 [.ref 61, .int x0, .int x1, .int x2] σ) (qM P T W R A σ (q_game P T W R A x0 x1 x2)) := by
  have hT := h.ok.T; have hP := h.ok.P
  have hc : CM P T W R A (sC σ) := h.c0
  refine Wp.le (M_315 rfl h.lay) ?_
  unfold q_game
  rw [m260 hc.lay hc.P hP, bI_ret]
  by_cases e0 : inb' P x0 = true
  · obtain ⟨p, hp, rfl⟩ := inb'_t (by omega) e0
    rw [e0, bz_t, if_neg (by decide), if_pos rfl, m260 hc.lay hc.P hP, bI_ret]
    by_cases e1 : inb' P x1 = true
    · obtain ⟨o, ho, rfl⟩ := inb'_t (by omega) e1
      rw [e1, bz_t, if_neg (by decide), if_pos rfl, j0, j1, p261b hc.lay, bI_ret]
      by_cases e2 : btw (ι 0) (ι 1) x2 = true
      · rw [e2, bz_t, if_pos (by decide), if_pos rfl, ix_ι (by omega), ix_ι (by omega)]
        by_cases z : ι p = ι o
        · rw [if_neg (fun g => g z), if_pos z]; exact qM.f (by omega) h
        · rw [if_pos z, if_neg z]
          refine Wp.cV (m316 hc QN.rf h0 hp ho) fun τ hn => ?_
          obtain ⟨nw, hg⟩ := hn
          refine (m315l nw hg).mono fun z hz => ?_
          obtain ⟨τ', e, e2⟩ := hz
          subst e2
          exact ⟨_, _, e, fun _ => rfl, nw.1, nw.2.1⟩
      · have e2' : btw (ι 0) (ι 1) x2 = false := by simpa using e2
        rw [e2', bz_f, if_neg (fun g => g rfl), if_neg (by decide)]; exact qM.f (by omega) h
    · have e1' : inb' P x1 = false := by simpa using e1
      rw [e1', bz_f, if_pos rfl, if_neg (by decide)]; exact qM.f (by omega) h
  · have e0' : inb' P x0 = false := by simpa using e0
    rw [e0', bz_f, if_pos rfl, if_neg (by decide)]; exact qM.f (by omega) h
end GAME2
