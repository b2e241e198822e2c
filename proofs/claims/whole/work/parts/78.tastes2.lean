/-! ===== what is seen, and by which tastes it would be so: the reference ===== -/
section TASTES2
variable {P T : Nat} {W R : Rl} {A B : Wd} {σ τ υ σ0 σ1 : pS} {q t p n m k i d v e : Nat} {x : Wd × (Nat → Int32)} {x0 y : Int32} {s : Sn} {f : Nat → Bool}
def SeM (σ : pS) (s : Sn) : Prop := gI σ 61 33 = ι s.1 ∧ ∀ k, k < s.1 → gI σ 85 k = ι (s.2 k).1 ∧ gI σ 86 k = ι (s.2 k).2.1 ∧ gI σ 87 k = ι (s.2 k).2.2
/-- only a world's cells, and the row 88, have changed -/
def QS (σ τ : pS) : Prop := Fr (fun a => Mq a ∨ a = 88) σ τ ∧ ∀ i, ¬ Mf i → gI τ 61 i = gI σ 61 i
theorem QS.rf : QS σ σ := ⟨Fr.refl, fun _ _ => rfl⟩
theorem QS.trans (h : QS σ τ) (g : QS τ υ) : QS σ υ := ⟨h.1.trans g.1, fun i hi => (g.2 i hi).trans (h.2 i hi)⟩
theorem QS.qm (h : QS σ τ) (g : QM τ υ) : QS σ υ := ⟨h.1.trans (g.1.mono fun _ s => Or.inl s), fun i hi => (g.2 i hi).trans (h.2 i hi)⟩
theorem QS.qn (h : QN σ0 σ) (g : QS σ τ) : QN σ0 τ := ⟨h.1.trans (g.1.mono fun a s => by unfold Qq; rcases s with s | s; exact Or.inl s; omega), fun i hi => (g.2 i (fun g => hi (Or.inl g))).trans (h.2 i hi)⟩
theorem QS.un {a0 off : Nat} (h : QS σ τ) (g : UnI τ a0 off 12 96 8 υ) : QS σ υ := ⟨h.1.trans (g.1.mono fun a s => by unfold Uc at s; unfold Mq; omega), fun i hi => (g.2.1 i (fun e => hi (by unfold Mf; omega))).trans (h.2 i hi)⟩
theorem QS.se (h : QS σ τ) (g : SeM σ s) : SeM τ s := ⟨by rw [h.2 33 (by unfold Mf; omega)]; exact g.1, fun k hk => by rw [h.1.i (by unfold Mq Sc; omega), h.1.i (by unfold Mq Sc; omega), h.1.i (by unfold Mq Sc; omega)]; exact g.2 k hk⟩
set_option maxHeartbeats 1000000 in
theorem m310 (h : CM P T W R B σ) (h0 : B 0 1 = ι 0) (hs : SeM σ s) (ok : okSn P T s) : Wp (pcall 310 [.ref 61] σ) (RI (bz (fitS P T W R B s)) (fun τ => CM P T W R B τ ∧ QS σ τ)) := by
  have hl := las_le ok s.1 (Nat.le_refl _)
  have h8 := ok.1; have hT := h.ok.T; have hP := h.ok.P
  refine Wp.le (M_310 rfl h.lay) ?_
  obtain ⟨z, hz, v, τ0, rfl, hk⟩ := m271 (a0 := 88) (off := 0) (n0 := 129) h.lay rfl (by omega) (by omega) (by unfold nPk; omega)
  rw [hz, bV_ret]
  have f0 : QS σ τ0 := ⟨hk.1.mono fun a e => Or.inr e, fun i _ => hk.1.i (by omega) i⟩
  have r0 : RowA P T B τ0 88 0 := hk.row h
  have hm0 : CM P T W R B τ0 := h.fr hk.1 (by omega) (by omega) (by omega) (by omega) (by omega) (by omega) (by omega) (by omega) (by omega) (by omega)
  have hs0 := f0.se hs
  clear hz hk
  have back : ∀ e τ b, Mp P T W R τ0 (gof P T W R e (B, gI τ0 82)) τ → Wp (bV (pcall 284 [.ref 61, .ref 88, .int (ι 0)] τ) fun σ' => gd (narrow .boolean (.int (bz b)) = .int (bz b)) (some (1, .int (bz b), σ'))) (RI (bz b) (fun τ => CM P T W R B τ ∧ QS σ τ)) := by
    intro e τ b s
    obtain ⟨z, hz, v, υ, rfl, hk⟩ := m284 (a0 := 88) (off := 0) (n0 := 129) s.1.lay rfl (by omega) (by omega) (by unfold nPk; omega)
    rw [hz, bV_ret, gd_nb]
    have l := (gof_ok (W := W) (R := R) h.ok h0 (g := gI τ0 82) e).2
    have r1 : RowA P T B τ 88 0 := r0.eq (fun i _ _ => s.2.1.1.i (by unfold Mq Sc; omega) i) hP hT
    exact Wp.retI ⟨hk.cm s.1 r1 h.ok l.symm, (f0.qm s.2.1).un hk⟩
  have sem : ∀ {τ x}, Mp P T W R τ0 x τ → SeM τ s := fun s => (QS.rf.qm s.2.1).se hs0
  refine Wp.loop (α := Unit) s.1 (fun k _ => C_310_13 (ι (lasS s k)) (ι k) (.retAddr 0) (.retAddr 0) τ0) (fun _ _ => True) ?_ ?_ (t := 0) (a := ()) (Nat.zero_le _) trivial
  · intro k _ hk _ c
    have c := c () trivial
    have hl := las_le ok k (by omega)
    have h20 := (ok.2 k hk).2.1
    refine Wp.le (T_310_13 rfl hm0.lay) ?_
    rw [hs0.1, if_neg (by rw [ι_le (by omega) (by omega)]; omega), gd_inb (by omega) (by omega), ix_ι (by omega), (hs0.2 k hk).2.1, imax_ι (by omega) (by omega), ι_add]
    rw [las_s] at c
    exact c
  intro _ _
  refine Wp.le (T_310_13 rfl hm0.lay) ?_
  rw [hs0.1, if_pos (Int32.le_refl _)]
  refine Wp.loop (α := Bool × Value × pS) (lasS s s.1 + 1) (fun d a => C_310_42 (ι (lasS s s.1)) (bz a.1) (ι d) a.2.1 a.2.2) (fun d a => a.1 = allB (fitK P T W R B s) d ∧ ∃ e, (d ≤ lasS s s.1 → e = d) ∧ Mp P T W R τ0 (gof P T W R e (B, gI τ0 82)) a.2.2) ?_ ?_ (t := 0) (a := (true, .retAddr 0, τ0)) (Nat.zero_le _) ⟨rfl, 0, fun _ => rfl, Mp.startB hm0⟩
  · rintro d ⟨b, v4, τ⟩ hd ⟨rfl, e, he, g⟩ c
    have he := (he (by omega)).symm
    subst he
    dsimp only at g ⊢
    refine Wp.le (T_310_42 rfl g.1.lay) ?_
    rw [if_neg (by rw [ι_lt (by omega) (by omega)]; omega)]
    by_cases e : allB (fitK P T W R B s) d = true
    · rw [e, bz_t, if_neg (by decide)]
      have hsm := sem g
      have eg : (gof P T W R d (B, gI τ0 82)).1 = (bhd P T W R B d).1 := gof_w d
      refine Wp.loop (α := Bool) s.1 (fun k b => C_310_54 (ι (lasS s s.1)) (bz b) (ι d) (ι k) τ) (fun k b => b = allB (agrK (bhd P T W R B d).1 s d) k) ?_ ?_ (t := 0) (a := true) (Nat.zero_le _) rfl
      · rintro k b hk rfl c
        obtain ⟨o1, o2, o3⟩ := ok.2 k hk
        obtain ⟨g1, g2, g3⟩ := hsm.2 k hk
        have c := c _ rfl
        refine Wp.le (T_310_54 rfl g.1.lay) ?_
        rw [hsm.1, if_neg (by rw [ι_le (by omega) (by omega)]; omega), ι_add]
        rw [allB_s] at c
        by_cases e2 : allB (agrK (bhd P T W R B d).1 s d) k = true
        · rw [e2, bz_t, if_neg (by decide), gd_inb (by omega) (by omega), ix_ι (by omega), g2]
          rw [e2, Bool.true_and] at c
          by_cases e3 : (s.2 k).2.1 = d
          · rw [if_neg (by rw [ι_eq (by omega) (by omega)]; exact fun g => g e3), gd_inb (by omega) (by omega), g1, gd_inb (by omega) (by omega), gd_inb (by omega) (by omega), ix_ι (by omega), g.1.own _ o1, g3, eg]
            by_cases e4 : (bhd P T W R B d).1 1 (s.2 k).1 = ι (s.2 k).2.2
            · rw [if_neg (fun g => g e4)]
              rw [show agrK (bhd P T W R B d).1 s d k = true by unfold agrK; rw [decide_eq_true e4, Bool.or_true]] at c
              exact c
            · rw [if_pos e4]
              rw [show agrK (bhd P T W R B d).1 s d k = false by unfold agrK; rw [decide_eq_false e4, decide_eq_false (fun g => g e3)]; rfl] at c
              exact c
          · rw [if_pos (by rw [ι_eq (by omega) (by omega)]; exact e3)]
            rw [show agrK (bhd P T W R B d).1 s d k = true by unfold agrK; rw [decide_eq_true e3, Bool.true_or]] at c
            exact c
        · have e2' : allB (agrK (bhd P T W R B d).1 s d) k = false := by simpa using e2
          rw [e2', bz_f, if_pos rfl]
          rw [e2', Bool.false_and] at c
          exact c
      · rintro b rfl
        refine Wp.le (T_310_54 rfl g.1.lay) ?_
        rw [hsm.1, if_pos (Int32.le_refl _)]
        have eb : allB (agrK (bhd P T W R B d).1 s d) s.1 = allB (fitK P T W R B s) (d + 1) := by rw [allB_s, e, Bool.true_and]; rfl
        by_cases e5 : lasS s s.1 ≤ d
        · rw [if_pos (by rw [ι_le (by omega) (by omega)]; exact e5), ι_add]
          exact c (_, _, τ) ⟨eb, d, fun g => by omega, g⟩
        · rw [if_neg (by rw [ι_le (by omega) (by omega)]; exact e5)]
          refine Wp.cV (m273' g) fun υ hυ => ?_
          rw [ι_add]
          exact c (_, _, υ) ⟨eb, d + 1, fun _ => rfl, hυ.1⟩
    · have e' : allB (fitK P T W R B s) d = false := by simpa using e
      have ef : fitS P T W R B s = false := allB_m (by omega) e'
      rw [e', if_pos bz_f, ef]
      exact back d τ false g
  · rintro ⟨b, v4, τ⟩ ⟨rfl, e, -, g⟩
    dsimp only at g ⊢
    refine Wp.le (T_310_42 rfl g.1.lay) ?_
    rw [if_pos (by rw [ι_lt (by omega) (by omega)]; omega)]
    exact back e τ _ g
/-- the first n tastes gone through: how many fit, which -/
def FiM (P T : Nat) (W R : Rl) (A : Wd) (s : Sn) (n : Nat) (σ : pS) : Prop := gI σ 61 47 = ι (cntT P T W R A s n) ∧ ∀ i, i < n → tryB P T W R A s i = true → gI σ 89 (cntT P T W R A s i) = ι (codT T i)
theorem FiM.qs (h : FiM P T W R A s n σ) (g : QS σ τ) : FiM P T W R A s n τ := ⟨by rw [g.2 47 (by unfold Mf; omega)]; exact h.1, fun i hi ht => by rw [g.1.i (by unfold Mq Sc; omega)]; exact h.2 i hi ht⟩
theorem FiM.no (h : FiM P T W R A s n σ) (e : tryB P T W R A s n = false) : FiM P T W R A s (n + 1) σ := ⟨by rw [cntT_s, e, if_neg (by decide)]; exact h.1, fun i hi ht => h.2 i (by
  by_cases e2 : i = n
  · rw [e2, e] at ht; exact absurd ht (by decide)
  · omega) ht⟩
theorem FiM.yes (h : FiM P T W R A s n σ) (hn : n < 960) (e : tryB P T W R A s n = true) : FiM P T W R A s (n + 1) (sI (sI σ 89 (cntT P T W R A s n) (ι (codT T n))) 61 47 (ι (cntT P T W R A s n + 1))) := by
  refine ⟨by rw [gI_s, cntT_s, if_pos e], fun i hi ht => ?_⟩
  rw [gI_c (by omega)]
  by_cases e2 : i = n
  · rw [e2, gI_s]
  · have h3 := cntT_mono (P := P) (T := T) (W := W) (R := R) (A := A) (s := s) (show i + 1 ≤ n by omega)
    rw [cntT_s, if_pos ht] at h3
    rw [gI_n (by omega)]
    exact h.2 i (by omega) ht
/-- the cells of tellFits -/
def QT (σ τ : pS) : Prop := Fr (fun a => Mq a ∨ a = 88 ∨ a = 89) σ τ ∧ ∀ i, ¬ (Mf i ∨ i = 47) → gI τ 61 i = gI σ 61 i
theorem QT.rf : QT σ σ := ⟨Fr.refl, fun _ _ => rfl⟩
theorem QT.qs (h : QT σ τ) (g : QS τ υ) : QT σ υ := ⟨h.1.trans (g.1.mono fun a s => by rcases s with s | s; exact Or.inl s; omega), fun i hi => (g.2 i (fun g => hi (Or.inl g))).trans (h.2 i hi)⟩
theorem QT.m89 (h : QT σ τ) : QT σ (sI τ 89 i y) := ⟨h.1.mI (by omega), fun j hj => by rw [gI_c (by decide)]; exact h.2 j hj⟩
theorem QT.m47 (h : QT σ τ) : QT σ (sI τ 61 47 y) := ⟨h.1.mI (by unfold Mq; omega), fun j hj => by rw [gI_n (by omega)]; exact h.2 j hj⟩
theorem QT.m77 (h : QT σ τ) : QT σ (sI τ 77 i y) := ⟨h.1.mI (by unfold Mq; omega), fun j hj => by rw [gI_c (by decide)]; exact h.2 j hj⟩
theorem QT.qn (h : QN σ0 σ) (g : QT σ τ) : QN σ0 τ := ⟨h.1.trans (g.1.mono fun a s => by unfold Qq; rcases s with s | s; exact Or.inl s; omega), fun i hi => (g.2 i (fun g => hi (by unfold Qf; rcases g with g | g; exact Or.inl g; exact Or.inr (Or.inl g)))).trans (h.2 i hi)⟩
theorem QT.se (h : QT σ τ) (g : SeM σ s) : SeM τ s := ⟨by rw [h.2 33 (by unfold Mf; omega)]; exact g.1, fun k hk => by rw [h.1.i (by unfold Mq Sc; omega), h.1.i (by unfold Mq Sc; omega), h.1.i (by unfold Mq Sc; omega)]; exact g.2 k hk⟩
theorem ix_at (hT : 0 < T) (ht : t < T) (hv : v < 10) : ixT T (10 * (T * p + t) + v) = 12 * p + t ∧ codT T (10 * (T * p + t) + v) = 1000 * p + 10 * t + v ∧ (10 * (T * p + t) + v) % 10 = v := by
  have h1 : (10 * (T * p + t) + v) / 10 = T * p + t := by omega
  have h2 : (T * p + t) / T = p := by rw [Nat.mul_add_div hT, Nat.div_eq_of_lt ht, Nat.add_zero]
  have h3 : (T * p + t) % T = t := by rw [Nat.mul_add_mod, Nat.mod_eq_of_lt ht]
  unfold ixT codT
  rw [h1, h2, h3]
  exact ⟨rfl, by omega, by omega⟩
set_option maxHeartbeats 2000000 in
theorem m311 (h : CM P T W R A σ) (h0 : A 0 1 = ι 0) (hs : SeM σ s) (ok : okSn P T s) : Wp (pcall 311 [.ref 61] σ) (RV (fun τ => CM P T W R A τ ∧ QT σ τ ∧ FiM P T W R A s (P * T * 10) τ)) := by
  have hT := h.ok.T; have hP := h.ok.P
  have hPT := PT_le hP hT
  refine Wp.le (M_311 rfl h.lay) ?_
  refine Wp.loop (α := Value × Value × Value × pS) P (fun p a => C_311_7 (ι p) a.1 a.2.1 a.2.2.1 a.2.2.2) (fun p a => CM P T W R A a.2.2.2 ∧ QT σ a.2.2.2 ∧ FiM P T W R A s (10 * (T * p)) a.2.2.2) ?_ ?_ (t := 0) (a := (.retAddr 0, .retAddr 0, .retAddr 0, sI σ 61 47 (ι 0))) (Nat.zero_le _) ⟨h.any (by omega), QT.rf.m47, ?_⟩
  · rintro p ⟨v2, v3, v4, τ⟩ hp ⟨hm, hq, hf⟩ c
    dsimp only at hm hq hf ⊢
    refine Wp.le (T_311_7 rfl hm.lay) ?_
    rw [hm.P, if_neg (by rw [ι_le (by omega) (by omega)]; omega)]
    refine Wp.loop (α := Value × Value × pS) T (fun t a => C_311_19 (ι p) (ι t) a.1 a.2.1 a.2.2) (fun t a => CM P T W R A a.2.2 ∧ QT σ a.2.2 ∧ FiM P T W R A s (10 * (T * p + t)) a.2.2) ?_ ?_ (t := 0) (a := (v3, v4, τ)) (Nat.zero_le _) ⟨hm, hq, hf⟩
    · rintro t ⟨v3, v4, τ⟩ ht ⟨hm, hq, hf⟩ c
      dsimp only at hm hq hf ⊢
      have hN : T * p + t < P * T := by
        have : T * (p + 1) ≤ T * P := Nat.mul_le_mul_left _ hp
        rw [Nat.mul_succ] at this
        rw [Nat.mul_comm P T]; omega
      obtain ⟨w, hw9, hw⟩ := h.ok.wor hp ht
      refine Wp.le (T_311_19 rfl hm.lay) ?_
      rw [hm.T, if_neg (by rw [ι_le (by omega) (by omega)]; omega), m245 hm hp ht, bI_ret, hw]
      refine Wp.loop (α := pS) 10 (fun v y => C_311_39 (ι p) (ι t) (ι w) (ι v) y) (fun v y => (∃ r, r ≤ 9 ∧ CM P T W R (up A 4 (12 * p + t) (ι r)) y) ∧ QT σ y ∧ FiM P T W R A s (10 * (T * p + t) + v) y) ?_ ?_ (t := 0) (a := τ) (Nat.zero_le _) ⟨⟨w, hw9, by rw [up_eq hw]; exact hm⟩, hq, hf⟩
      · rintro v τ hv ⟨⟨r, hr, hm⟩, hq, hf⟩ c
        obtain ⟨i1, i2, i3⟩ := ix_at (p := p) (show 0 < T by omega) ht hv
        refine Wp.le (T_311_39 rfl hm.lay) ?_
        rw [if_neg (by rw [ι_lt (by omega) (by omega)]; omega), ι_mul, ι_add, gd_inb (by omega) (by omega), ix_ι (by omega), ι_add]
        have hm2 := hm.wor' (m := 12 * p + t) (r := v) (by omega)
        rw [up_up] at hm2
        have hq2 := hq.m77 (i := 12 * p + t) (y := ι v)
        have hf2 : FiM P T W R A s (10 * (T * p + t) + v) (sI τ 77 (12 * p + t) (ι v)) := ⟨by rw [gI_c (by decide)]; exact hf.1, fun i hi ht => by rw [gI_c (by decide)]; exact hf.2 i hi ht⟩
        have hd : difB T A (10 * (T * p + t) + v) = decide (¬ ι w = ι v) := by unfold difB; rw [i1, i3, hw]
        have hwd : wdT T A (10 * (T * p + t) + v) = up A 4 (12 * p + t) (ι v) := by unfold wdT; rw [i1, i3]
        by_cases e : v = w
        · have ed : difB T A (10 * (T * p + t) + v) = false := by rw [hd, e]; simp
          rw [if_pos (by rw [e])]
          exact c _ ⟨⟨v, by omega, hm2⟩, hq2, hf2.no (by unfold tryB; rw [ed, Bool.false_and])⟩
        · have ed : difB T A (10 * (T * p + t) + v) = true := by rw [hd]; exact decide_eq_true (by rw [ι_eq (by omega) (by omega)]; exact fun g => e g.symm)
          rw [if_neg (by rw [ι_eq (by omega) (by omega)]; exact e)]
          refine Wp.cI (m310 hm2 h0 (hq2.se hs) ok) fun υ hυ => ?_
          obtain ⟨hm3, hq3⟩ := hυ
          have hf3 := hf2.qs hq3
          have hq4 := hq2.qs hq3
          by_cases e2 : fitS P T W R (up A 4 (12 * p + t) (ι v)) s = true
          · have et : tryB P T W R A s (10 * (T * p + t) + v) = true := by unfold tryB; rw [ed, hwd, e2]; rfl
            have hc := cntT_le (P := P) (T := T) (W := W) (R := R) (A := A) (s := s) (n := 10 * (T * p + t) + v)
            rw [e2, bz_t, if_pos (by decide), hf3.1, gd_inb (by omega) (by omega), ix_ι (by omega), gI_c (show 61 ≠ 89 by decide), hf3.1, ι_mul, ι_mul, ι_add, ι_add, ι_add, ← i2]
            exact c _ ⟨⟨v, by omega, (hm3.any (by omega)).any (by omega)⟩, hq4.m89.m47, hf3.yes (by omega) et⟩
          · have e2' : fitS P T W R (up A 4 (12 * p + t) (ι v)) s = false := by simpa using e2
            rw [e2', bz_f, if_neg (fun g => g rfl)]
            exact c _ ⟨⟨v, by omega, hm3⟩, hq4, hf3.no (by unfold tryB; rw [hwd, e2', Bool.and_false])⟩
      · rintro τ ⟨⟨r, hr, hm⟩, hq, hf⟩
        refine Wp.le (T_311_39 rfl hm.lay) ?_
        rw [if_pos (by decide), ι_mul, ι_add, gd_inb (by omega) (by omega), ix_ι (by omega), ι_add]
        have hm2 := hm.wor' (m := 12 * p + t) (r := w) hw9
        rw [up_up, up_eq hw] at hm2
        refine c (_, _, sI τ 77 (12 * p + t) (ι w)) ⟨hm2, hq.m77, by rw [gI_c (by decide)]; exact hf.1, fun i hi ht => by rw [gI_c (by decide)]; exact hf.2 i hi ht⟩
    · rintro ⟨v3, v4, τ⟩ ⟨hm, hq, hf⟩
      dsimp only at hm hq hf ⊢
      refine Wp.le (T_311_19 rfl hm.lay) ?_
      rw [hm.T, if_pos (Int32.le_refl _), ι_add]
      exact c (_, _, _, τ) ⟨hm, hq, by rw [Nat.mul_succ]; exact hf⟩
  · rintro ⟨v2, v3, v4, τ⟩ ⟨hm, hq, hf⟩
    dsimp only at hm hq hf ⊢
    refine Wp.le (T_311_7 rfl hm.lay) ?_
    rw [hm.P, if_pos (Int32.le_refl _)]
    refine Wp.retV ⟨hm, hq, ?_⟩
    rw [show P * T * 10 = 10 * (T * P) by rw [Nat.mul_comm P T, Nat.mul_comm]]
    exact hf
  · exact ⟨gI_s, fun i hi => by omega⟩
theorem cnt_pos {N : Nat} (h : k < cntT P T W R A s N) : ∃ i, i < N ∧ cntT P T W R A s i = k ∧ tryB P T W R A s i = true := by
  induction N with
  | zero => exact absurd h (Nat.not_lt_zero k)
  | succ N ih =>
    rw [cntT_s] at h
    by_cases e : k < cntT P T W R A s N
    · obtain ⟨i, h1, h2, h3⟩ := ih e
      exact ⟨i, by omega, h2, h3⟩
    · by_cases e2 : tryB P T W R A s N = true
      · rw [if_pos e2] at h
        exact ⟨N, by omega, by omega, e2⟩
      · rw [if_neg e2] at h; omega
theorem ownT_same (h : m ≤ n) (e : cntT P T W R A s m = cntT P T W R A s n) : ownT P T W R A s m = ownT P T W R A s n := by
  induction h with
  | refl => rfl
  | step hle ih =>
    rename_i n'
    have h1 := cntT_mono (P := P) (T := T) (W := W) (R := R) (A := A) (s := s) hle
    rw [cntT_s] at e
    by_cases e2 : tryB P T W R A s n' = true
    · rw [if_pos e2] at e; omega
    · rw [if_neg e2] at e
      rw [ownT_s, if_neg e2]
      exact ih e
theorem n309 (h : CM P T W R A σ) (h0 : A 0 1 = ι 0) (hs : SeM σ s) (ok : okSn P T s) : Wp (pcall 309 [.ref 61, .int x0] σ) (qM P T W R A σ (q_tastes P T W R A s x0)) := by
  have hT := h.ok.T; have hP := h.ok.P
  have hPT := PT_le hP hT
  have hc : CM P T W R A (sC σ) := h.c0
  have hs' : SeM (sC σ) s := ⟨by rw [gI_n (by decide)]; exact hs.1, fun k hk => by rw [gI_c (by decide), gI_c (by decide), gI_c (by decide)]; exact hs.2 k hk⟩
  refine Wp.le (M_309 rfl h.lay) ?_
  unfold q_tastes
  rw [j0, j2, p261b hc.lay, bI_ret]
  by_cases e : btw (ι 0) (ι 2) x0 = true
  · rw [e, bz_t, if_pos (by decide), if_pos rfl]
    by_cases z2 : x0 = ι 2
    · rw [if_neg (fun g => g z2), if_neg (by rw [z2]; decide), if_neg (by rw [z2]; decide)]
      refine Wp.cI (m310 hc h0 hs' ok) fun τ hτ => ?_
      cases e3 : fitS P T W R A s with
      | true => rw [bz_t, if_neg (by decide)]; exact qM.r' rfl hτ.1 (QS.qn QN.rf hτ.2)
      | false => rw [bz_f, if_pos rfl]; exact qM.r' rfl hτ.1 (QS.qn QN.rf hτ.2)
    · rw [if_pos z2]
      refine Wp.cV (m311 hc h0 hs' ok) fun τ hτ => ?_
      obtain ⟨hm, hq, hf⟩ := hτ
      by_cases z0 : x0 = ι 0
      · rw [if_neg (fun g => g z0), if_pos z0]
        exact qM.r' hf.1 hm (QT.qn QN.rf hq)
      · have z1 : x0 = ι 1 := by
          obtain ⟨k, -, hk, rfl⟩ := btw_ι (by omega) (by omega) e
          rcases (by omega : k = 0 ∨ k = 1 ∨ k = 2) with rfl | rfl | rfl
          · exact absurd rfl z0
          · rfl
          · exact absurd rfl z2
        have hc := cntT_le (P := P) (T := T) (W := W) (R := R) (A := A) (s := s) (n := P * T * 10)
        rw [if_pos z0, if_neg z0, if_pos z1, hf.1]
        by_cases z3 : cntT P T W R A s (P * T * 10) = 0
        · rw [z3, if_neg (fun g => g rfl), fir_0 z3]
          exact qM.r' rfl hm (QT.qn QN.rf hq)
        · rw [if_pos (by rw [ι_eq (by omega) (by omega)]; exact z3)]
          obtain ⟨i, c1, c2, c3⟩ := cnt_pos (k := 0) (show 0 < cntT P T W R A s (P * T * 10) by omega)
          have := hf.2 i c1 c3
          rw [c2] at this
          rw [fir_1 c1 c2 c3]
          exact qM.r' this hm (QT.qn QN.rf hq)
  · have e' : btw (ι 0) (ι 2) x0 = false := by simpa using e
    rw [e', bz_f, if_neg (fun g => g rfl), if_neg (by decide)]; exact qM.f (by omega) h
/-- the cells of next, behind tellFits -/
theorem top_12 {o : Nat → Nat} (hT : T ≤ 12) (hz : ∀ t, T ≤ t → o t = 0) : topT o 12 = topT o T := by
  have key : ∀ j, topT o (T + j) = topT o T := by
    intro j
    induction j with
    | zero => rfl
    | succ j ih =>
      rw [← Nat.add_assoc, top_s, hz (T + j) (by omega), show pc 0 = 0 by decide, if_neg (Nat.not_lt_zero _)]
      exact ih
  have := key (12 - T)
  rwa [show T + (12 - T) = 12 by omega] at this
theorem ownT_z (n : Nat) (ht : T ≤ t) : ownT P T W R A s n t = 0 := by
  induction n with
  | zero => rfl
  | succ n ih =>
    rw [ownT_s]
    by_cases e : tryB P T W R A s n = true
    · rw [if_pos e]
      show (if t < T then _ else _) = 0
      rw [if_neg (by omega)]; exact ih
    · rw [if_neg e]; exact ih
theorem ixT_lt (hP : P ≤ 8) (hT : T ≤ 12) (hi : i < P * T * 10) : ixT T i < 96 := by
  obtain ⟨h0, hp, ht⟩ := ixT_ok hi
  unfold ixT
  omega
theorem cod_at (hP : P ≤ 8) (hT : T ≤ 12) (hi : i < P * T * 10) : 12 * (codT T i / 1000) + codT T i / 10 % 100 = ixT T i ∧ codT T i % 10 = i % 10 ∧ codT T i < 100000 := by
  obtain ⟨h0, hp, ht⟩ := ixT_ok hi
  have hv : i % 10 < 10 := Nat.mod_lt _ (by omega)
  unfold codT ixT
  generalize i / 10 / T = p at hp
  generalize i / 10 % T = t at ht
  generalize i % 10 = v at hv
  omega
set_option maxHeartbeats 2000000 in
theorem n312 (h : CM P T W R A σ) (h0 : A 0 1 = ι 0) (hs : SeM σ s) (ok : okSn P T s) : Wp (pcall 312 [.ref 61, .int x0] σ) (qM P T W R A σ (q_next P T W R A s x0)) := by
  have hT := h.ok.T; have hP := h.ok.P
  have hPT := PT_le hP hT
  have hc : CM P T W R A (sC σ) := h.c0
  have hs' : SeM (sC σ) s := ⟨by rw [gI_n (by decide)]; exact hs.1, fun k hk => by rw [gI_c (by decide), gI_c (by decide), gI_c (by decide)]; exact hs.2 k hk⟩
  refine Wp.le (M_312 rfl h.lay) ?_
  unfold q_next
  rw [j0, j1, p261b hc.lay, bI_ret]
  by_cases e : btw (ι 0) (ι 1) x0 = true
  · rw [e, bz_t, if_pos (by decide), if_pos rfl]
    refine Wp.cV (m311 hc h0 hs' ok) fun τ hτ => ?_
    obtain ⟨hm, hq, hf⟩ := hτ
    obtain ⟨z, hz, v, τ1, rfl, hk⟩ := m271 (a0 := 83) (off := 0) (n0 := 129) hm.lay rfl (by omega) (by omega) (by unfold nPk; omega)
    rw [hz, bV_ret]
    have hm1 : CM P T W R A τ1 := hm.fr hk.1 (by omega) (by omega) (by omega) (by omega) (by omega) (by omega) (by omega) (by omega) (by omega) (by omega)
    have hq1 : QN (sC σ) τ1 := (QT.qn QN.rf hq).fr hk.1 (by unfold Qq; omega) (by omega)
    have r1 : RowA P T A τ1 83 0 := hk.row hm
    have hf1 : FiM P T W R A s (P * T * 10) τ1 := ⟨by rw [hk.1.i (by omega)]; exact hf.1, fun i hi ht => by rw [hk.1.i (by omega)]; exact hf.2 i hi ht⟩
    clear hz hk hm hq hf
    have hcn := cntT_le (P := P) (T := T) (W := W) (R := R) (A := A) (s := s) (n := P * T * 10)
    -- the end: the one with most
    have hlt := ownT_lt (W := W) (R := R) (s := s) h.ok h0
    have fin : ∀ y, CM P T W R A y → QN (sC σ) y → (∀ t, t < 12 → gI y 90 t = ι (ownT P T W R A s (P * T * 10) t)) → Wp (C_312_167 x0 (ν 1) (ι 0) (ι 0) y) (qM P T W R A σ (0, if x0 = ι 0 then (topT (ownT P T W R A s (P * T * 10)) 12).1 else ι (topT (ownT P T W R A s (P * T * 10)) 12).2)) := by
      intro y hm hq ho
      rw [top_12 hT (fun t ht => ownT_z _ ht)]
      have hl2 := hlt (P * T * 10)
      generalize ownT P T W R A s (P * T * 10) = o at ho hl2
      have ho2 : ∀ t, t < 12 → pcall 247 [.int (gI y 90 t)] y = some (1, .int (ι (pc (o t))), y) := by
        intro t ht
        rw [ho t ht, p247 hm.lay (by have := hl2 t; omega)]
      refine Wp.loop (α := Unit) T (fun t _ => C_312_167 x0 (topT o t).1 (ι (topT o t).2) (ι t) y) (fun _ _ => True) ?_ ?_ (t := 0) (a := ()) (Nat.zero_le _) trivial
      · intro t _ ht _ c
        have c := c () trivial
        have h2 : (topT o t).2 ≤ 12 := by
          rcases (top_inv (o := o) t).2 with ⟨h, -⟩ | ⟨k, -, -, h, -⟩
          · omega
          · rw [h]; exact pc_12 _
        have h1 := pc_12 (o t)
        refine Wp.le (T_312_167 rfl hm.lay) ?_
        rw [hm.T, if_neg (by rw [ι_le (by omega) (by omega)]; omega), gd_inb (by omega) (by omega), ix_ι (by omega), ho2 t (by omega), bI_ret]
        rw [top_s] at c
        by_cases e : (topT o t).2 < pc (o t)
        · rw [if_pos e] at c
          rw [if_pos (by rw [ι_lt (by omega) (by omega)]; exact e), gd_inb (by omega) (by omega), ho2 t (by omega), bI_ret, ι_add]; exact c
        · rw [if_neg e] at c
          rw [if_neg (by rw [ι_lt (by omega) (by omega)]; exact e), ι_add]; exact c
      · intro _ _
        refine Wp.le (T_312_167 rfl hm.lay) ?_
        rw [hm.T, if_pos (Int32.le_refl _)]
        by_cases z0 : x0 = ι 0
        · rw [if_neg (fun g => g z0), if_pos z0]; exact qM.r' rfl hm hq
        · rw [if_pos z0, if_neg z0]; exact qM.r' rfl hm hq
    refine Wp.loop (α := pS) 12 (fun t y => C_312_36 x0 (ι t) (.retAddr 0) (.retAddr 0) y) (fun t y => Fr (fun a => a = 90) τ1 y ∧ ∀ j, j < t → gI y 90 j = ι 0) ?_ ?_ (t := 0) (a := τ1) (Nat.zero_le _) ⟨Fr.refl, fun j hj => absurd hj (Nat.not_lt_zero j)⟩
    · rintro t y ht ⟨f, hz⟩ c
      refine Wp.le (T_312_36 rfl (by rw [f.r]; exact hm1.lay)) ?_
      simp (disch := omega) only [ι_lt_t, ι_lt_f, ι_le_t, ι_le_f, ι_eq_f, ι_m1, ι_add, ι_mul, ι_pm, ι_sub, ix_ι, gd_inb, gd_t, eq_self, if_true, if_false, not_true_eq_false, not_false_eq_true, ite_self, ]
      refine c _ ⟨f.mI rfl, ?_⟩
      exact put_at (k := 0) hz rfl
    rintro y0 ⟨f, hz⟩
    refine Wp.le (T_312_36 rfl (by rw [f.r]; exact hm1.lay)) ?_
    simp (disch := omega) only [ι_lt_t, ι_lt_f, ι_le_t, ι_le_f, ι_eq_f, ι_m1, ι_add, ι_mul, ι_pm, ι_sub, ix_ι, gd_inb, gd_t, eq_self, if_true, if_false, not_true_eq_false, not_false_eq_true, ite_self, ]
    have hm2 : CM P T W R A y0 := hm1.fr f (by omega) (by omega) (by omega) (by omega) (by omega) (by omega) (by omega) (by omega) (by omega) (by omega)
    have hq2 : QN (sC σ) y0 := hq1.fr f (by unfold Qq; omega) (by omega)
    have r2 : RowA P T A y0 83 0 := r1.eq (fun i _ _ => f.i (by omega) i) hP hT
    have hf2 : FiM P T W R A s (P * T * 10) y0 := ⟨by rw [f.i (by omega)]; exact hf1.1, fun i hi ht => by rw [f.i (by omega)]; exact hf1.2 i hi ht⟩
    refine Wp.loop (α := Value × Value × pS) (cntT P T W R A s (P * T * 10)) (fun k a => C_312_57 x0 (ι k) a.1 a.2.1 a.2.2) (fun k a => CM P T W R A a.2.2 ∧ QN (sC σ) a.2.2 ∧ RowA P T A a.2.2 83 0 ∧ FiM P T W R A s (P * T * 10) a.2.2 ∧ ∀ i, i ≤ P * T * 10 → cntT P T W R A s i = k → ∀ t, t < 12 → gI a.2.2 90 t = ι (ownT P T W R A s i t)) ?_ ?_ (t := 0) (a := (.retAddr 0, .retAddr 0, y0)) (Nat.zero_le _) ⟨hm2, hq2, r2, hf2, fun i _ ci t ht => by
      rw [← ownT_same (Nat.zero_le i) (show cntT P T W R A s 0 = cntT P T W R A s i by rw [ci]; rfl)]
      exact hz t ht⟩
    · rintro k ⟨v3, v4, y⟩ hk ⟨hm, hq, r, hf, ho⟩ c
      dsimp only at hm hq r hf ho ⊢
      obtain ⟨i, hi, ci, ti⟩ := cnt_pos hk
      obtain ⟨d1, d2, d3⟩ := cod_at hP hT hi
      have hcode := hf.2 i hi ti
      rw [ci] at hcode
      refine Wp.le (T_312_57 rfl hm.lay) ?_
      rw [hf.1, if_neg (by rw [ι_le (by omega) (by omega)]; omega), gd_inb (by omega) (by omega), gd_inb (by omega) (by omega), gd_inb (by omega) (by omega), ix_ι (by omega), hcode, ι_div (show codT T i < 2147483648 by omega) (show 1000 < 2147483648 by omega), ι_div (show codT T i < 2147483648 by omega) (show 10 < 2147483648 by omega), ι_rem (show codT T i / 10 < 2147483648 by omega) (show 100 < 2147483648 by omega), ι_rem (show codT T i < 2147483648 by omega) (show 10 < 2147483648 by omega), ι_mul, ι_add, d1, d2, gd_inb (ixT_lt hP hT hi) (by have := ixT_lt hP hT hi; omega), ix_ι (by have := ixT_lt hP hT hi; omega)]
      have hm3 : CM P T W R (wdT T A i) (sI y 77 (ixT T i) (ι (i % 10))) := hm.wor' (by omega)
      have q3 : QM y (sI y 77 (ixT T i) (ι (i % 10))) := QM.refl.mI (by unfold Mq; omega) (by omega)
      refine Wp.cV (m272 (Mp.startB hm3) (show 5 < 2147483648 by omega)) fun y2 s2 => ?_
      have q4 : QM y y2 := q3.trans s2.2.1
      have k90 : ∀ t, gI y2 90 t = gI y 90 t := fun t => q4.1.i (by unfold Mq Sc; omega) t
      have lk : like A (gof P T W R 5 (wdT T A i, gI (sI y 77 (ixT T i) (ι (i % 10))) 82)).1 := (like_up (by omega)).trans (gof_ok (W := W) (R := R) (wdT_ok h.ok) h0 5).2
      refine Wp.loop (α := pS) T (fun t y' => C_312_112 x0 (ι k) (ι t) v4 y') (fun t y' => Fr (fun a => a = 90) y2 y' ∧ (∀ t', t' < t → gI y' 90 t' = ι (ownT P T W R A s (i + 1) t')) ∧ ∀ t', t ≤ t' → t' < 12 → gI y' 90 t' = ι (ownT P T W R A s i t')) ?_ ?_ (t := 0) (a := y2) (Nat.zero_le _) ⟨Fr.refl, fun t ht => absurd ht (Nat.not_lt_zero t), fun t _ ht => by rw [k90]; exact ho i (by omega) ci t ht⟩
      · rintro t y' ht ⟨f, h1, h2⟩ c
        have hm5 := s2.1.fr f (by omega) (by omega) (by omega) (by omega) (by omega) (by omega) (by omega) (by omega) (by omega) (by omega)
        obtain ⟨o1, o2⟩ := own5_lt (W := W) (R := R) (i := i) h.ok h0 ht
        have eo : gI y' 75 t = ι (own5 P T W R A i t) := by
          rw [hm5.own t ht, ← o1]; exact congrFun (congrFun (gof_w 5) 1) t
        refine Wp.le (T_312_112 rfl hm5.lay) ?_
        rw [hm5.T, if_neg (by rw [ι_le (by omega) (by omega)]; omega), gd_inb (by omega) (by omega), gd_inb (by omega) (by omega), gd_inb (by omega) (by omega), ix_ι (by omega), h2 t (Nat.le_refl _) (by omega), eo, bit_ι _ (by omega), ι_or, ι_add]
        refine c _ ⟨f.mI rfl, fun t' ht' => ?_, fun t' h3 h4 => ?_⟩
        · by_cases e3 : t' = t
          · rw [e3, gI_s, ownT_s, if_pos ti]
            show _ = ι (if t < T then _ else _)
            rw [if_pos ht]
          · rw [gI_n e3]; exact h1 t' (by omega)
        · rw [gI_n (by omega)]; exact h2 t' (by omega) h4
      · rintro y' ⟨f, h1, h2⟩
        have hm5 := s2.1.fr f (by omega) (by omega) (by omega) (by omega) (by omega) (by omega) (by omega) (by omega) (by omega) (by omega)
        have r5 : RowA P T A y' 83 0 := r.eq (fun i _ _ => by rw [f.i (by omega)]; exact q4.1.i (by unfold Mq Sc; omega) i) hP hT
        refine Wp.le (T_312_112 rfl hm5.lay) ?_
        rw [hm5.T, if_pos (Int32.le_refl _)]
        obtain ⟨z, hz, v, y6, rfl, hk6⟩ := m284 (a0 := 83) (off := 0) (n0 := 129) hm5.lay rfl (by omega) (by omega) (by unfold nPk; omega)
        rw [hz, bV_ret, ι_add]
        have q6 : QN (sC σ) y6 := ((hq.qm q4).fr f (by unfold Qq; omega) (by omega)).un hk6
        have k6 : ∀ a, 79 ≤ a → a ≠ 90 → a ≠ 80 → a ≠ 81 → a ≠ 82 → ∀ j, gI y6 a j = gI y a j := fun a h1 h2 h3 h4 h5 j => by rw [hk6.1.i (by unfold Uc; omega), f.i h2, q4.1.i (by unfold Mq Sc; omega)]
        refine c (_, _, y6) ⟨hk6.cm hm5 r5 h.ok lk.symm, q6, r5.eq (fun i _ _ => hk6.1.i (by unfold Uc; omega) i) hP hT, ⟨?_, fun j hj tj => by rw [k6 89 (by omega) (by omega) (by omega) (by omega) (by omega)]; exact hf.2 j hj tj⟩, fun i' hi' ci' t ht => ?_⟩
        · rw [hk6.2.1 47 (by omega), f.i (by omega), q4.2 47 (by unfold Mf; omega)]; exact hf.1
        · have hii : i + 1 ≤ i' := by
            by_cases e : i' ≤ i
            · have := cntT_mono (P := P) (T := T) (W := W) (R := R) (A := A) (s := s) e; omega
            · omega
          rw [hk6.1.i (by unfold Uc; omega), ← ownT_same hii (by rw [cntT_s, if_pos ti, ci, ci'])]
          by_cases e3 : t < T
          · exact h1 t e3
          · rw [h2 t (by omega) ht, ownT_z _ (by omega), ownT_z _ (by omega)]
    · rintro ⟨v3, v4, y⟩ ⟨hm, hq, r, hf, ho⟩
      dsimp only at hm hq r hf ho ⊢
      refine Wp.le (T_312_57 rfl hm.lay) ?_
      rw [hf.1, if_pos (Int32.le_refl _)]
      exact fin y hm hq (ho _ (Nat.le_refl _) rfl)
  · have e' : btw (ι 0) (ι 1) x0 = false := by simpa using e
    rw [e', bz_f, if_neg (fun g => g rfl), if_neg (by decide)]; exact qM.f (by omega) h
end TASTES2
