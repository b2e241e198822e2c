/-! ===== the reference's days ===== -/
section DAY3
variable {P T : Nat} {W R : Rl} {A B : Wd} {σ τ υ : pS} {p t o r : Nat}
theorem gI_s {a i : Nat} {x : Int32} : gI (sI σ a i x) a i = x := by rw [gI_sI, if_pos rfl, if_pos rfl]
theorem gI_n {a i j : Nat} {x : Int32} (h : j ≠ i) : gI (sI σ a i x) a j = gI σ a j := by rw [gI_sI, if_pos rfl, if_neg h]
theorem gI_c {a b i j : Nat} {x : Int32} (h : b ≠ a) : gI (sI σ a i x) b j = gI σ b j := by rw [gI_sI, if_neg h]
/-- the reference's cells that change while days go by -/
def Mq (a : Nat) : Prop := Sc a ∨ a = 61 ∨ a = 75 ∨ a = 76 ∨ a = 77 ∨ a = 78 ∨ a = 82
/-- its fields that change then -/
def Mf (i : Nat) : Prop := i = 31 ∨ i = 36 ∨ i = 37
def QM (σ τ : pS) : Prop := Fr Mq σ τ ∧ ∀ i, ¬ Mf i → gI τ 61 i = gI σ 61 i
theorem QM.refl : QM σ σ := ⟨Fr.refl, fun _ _ => rfl⟩
theorem QM.trans (h : QM σ τ) (g : QM τ υ) : QM σ υ := ⟨h.1.trans g.1, fun i hi => (g.2 i hi).trans (h.2 i hi)⟩
theorem QM.sc (h : Fr Sc σ τ) : QM σ τ := ⟨h.mono (fun _ s => Or.inl s), fun i _ => h.i (by unfold Sc; omega) i⟩
theorem QM.mI {a i : Nat} {x : Int32} (h : QM σ τ) (hs : Mq a) (hf : a = 61 → Mf i) : QM σ (sI τ a i x) := ⟨h.1.mI hs, fun j hj => by
  rw [gI_sI]
  by_cases e : 61 = a
  · have : ¬ j = i := fun g => hj (g ▸ hf e.symm)
    rw [if_pos e, if_neg this]; exact h.2 j hj
  · rw [if_neg e]; exact h.2 j hj⟩
theorem CM.mk' (h : CM P T W R A σ) (ok : okW P T B) (fr : QM σ τ) (e6 : ∀ p, B 6 p = A 6 p) (e7 : ∀ t, B 7 t = A 7 t) (day : gI τ 61 31 = B 0 0) (sil : gI τ 61 36 = B 0 1)
    (own : ∀ t, t < T → gI τ 75 t = B 1 t) (run : ∀ t, t < T → gI τ 76 t = B 2 t) (wor : ∀ p, p < P → ∀ t, t < T → gI τ 77 (12 * p + t) = B 4 (12 * p + t)) (see : ∀ p, p < P → gI τ 78 p = B 3 p) : CM P T W R B τ := by
  have f := fr.1
  have n65 : ¬ Mq 65 := by unfold Mq Sc; omega
  have n66 : ¬ Mq 66 := by unfold Mq Sc; omega
  have n67 : ¬ Mq 67 := by unfold Mq Sc; omega
  have n71 : ¬ Mq 71 := by unfold Mq Sc; omega
  have n72 : ¬ Mq 72 := by unfold Mq Sc; omega
  exact ⟨ok, by rw [f.r]; exact h.lay, by rw [f.i n65]; exact h.P, by rw [f.i n65]; exact h.T, by rw [f.i n65]; exact h.w3, by rw [f.i n65]; exact h.r4, h.ww, h.wr, fun i hi => by rw [f.i n71]; exact h.ws i hi, fun i hi => by rw [f.i n72]; exact h.rs i hi, day, sil, own, run, wor, see, fun p hp => by rw [f.i n66, e6]; exact h.bold p hp, fun t ht => by rw [f.i n67, e7]; exact h.firm t ht⟩
theorem CM.own' (h : CM P T W R A σ) (ho : o < P) : CM P T W R (up A 1 t (ι o)) (sI σ 75 t (ι o)) := by
  refine h.mk' (h.ok.up1 ho) (QM.refl.mI (by unfold Mq; omega) (by omega)) (fun _ => rfl) (fun _ => rfl) ?_ ?_ ?_ ?_ ?_ ?_
  · simp [gI_sI, up, h.day]
  · simp [gI_sI, up, h.sil]
  · intro s hs; by_cases e : s = t <;> simp [gI_sI, up, h.own s hs, e]
  · intro s hs; simp [gI_sI, up, h.run s hs]
  · intro p hp s hs; simp [gI_sI, up, h.wor p hp s hs]
  · intro s hs; simp [gI_sI, up, h.see s hs]
theorem CM.run' (h : CM P T W R A σ) (hr : r ≤ 9) : CM P T W R (up A 2 t (ι r)) (sI σ 76 t (ι r)) := by
  refine h.mk' (h.ok.up2 hr) (QM.refl.mI (by unfold Mq; omega) (by omega)) (fun _ => rfl) (fun _ => rfl) ?_ ?_ ?_ ?_ ?_ ?_
  · simp [gI_sI, up, h.day]
  · simp [gI_sI, up, h.sil]
  · intro s hs; simp [gI_sI, up, h.own s hs]
  · intro s hs; by_cases e : s = t <;> simp [gI_sI, up, h.run s hs, e]
  · intro p hp s hs; simp [gI_sI, up, h.wor p hp s hs]
  · intro s hs; simp [gI_sI, up, h.see s hs]
theorem CM.day' (h : CM P T W R A σ) {x : Int32} : CM P T W R (up A 0 0 x) (sI σ 61 31 x) := by
  refine h.mk' h.ok.up00 (QM.refl.mI (by unfold Mq; omega) (fun _ => by unfold Mf; omega)) (fun _ => rfl) (fun _ => rfl) ?_ ?_ ?_ ?_ ?_ ?_
  · simp [gI_sI, up]
  · simp [gI_sI, up, h.sil]
  · intro s hs; simp [gI_sI, up, h.own s hs]
  · intro s hs; simp [gI_sI, up, h.run s hs]
  · intro p hp s hs; simp [gI_sI, up, h.wor p hp s hs]
  · intro s hs; simp [gI_sI, up, h.see s hs]
theorem CM.sil' (h : CM P T W R A σ) {m : Nat} (hm : m < 256) : CM P T W R (up A 0 1 (ι m)) (sI σ 61 36 (ι m)) := by
  refine h.mk' (h.ok.up01 hm) (QM.refl.mI (by unfold Mq; omega) (fun _ => by unfold Mf; omega)) (fun _ => rfl) (fun _ => rfl) ?_ ?_ ?_ ?_ ?_ ?_
  · simp [gI_sI, up, h.day]
  · simp [gI_sI, up]
  · intro s hs; simp [gI_sI, up, h.own s hs]
  · intro s hs; simp [gI_sI, up, h.run s hs]
  · intro p hp s hs; simp [gI_sI, up, h.wor p hp s hs]
  · intro s hs; simp [gI_sI, up, h.see s hs]
/-- what isn't told of a world -/
theorem CM.any (h : CM P T W R A σ) {a i : Nat} {x : Int32} (h1 : a = 61 ∧ i ≠ 31 ∧ i ≠ 36 ∨ a = 82 ∨ a = 83 ∨ a = 80 ∨ a = 81 ∨ a = 84 ∨ a = 88 ∨ a = 89 ∨ a = 90 ∨ a = 91 ∨ a = 73 ∨ a = 79 ∨ 85 ≤ a ∧ a ≤ 87 ∨ 92 ≤ a) : CM P T W R A (sI σ a i x) := by
  have k : ∀ b, b ≠ a → ∀ j, gI (sI σ a i x) b j = gI σ b j := fun b hb j => by rw [gI_sI, if_neg hb]
  have k61 : ∀ j, j = 31 ∨ j = 36 → gI (sI σ a i x) 61 j = gI σ 61 j := fun j hj => by
    rw [gI_sI]
    by_cases e : 61 = a
    · rw [if_pos e, if_neg (by omega)]
    · rw [if_neg e]
  exact ⟨h.ok, h.lay, by rw [k _ (by omega)]; exact h.P, by rw [k _ (by omega)]; exact h.T, by rw [k _ (by omega)]; exact h.w3, by rw [k _ (by omega)]; exact h.r4, h.ww, h.wr, fun i hi => by rw [k _ (by omega)]; exact h.ws i hi, fun i hi => by rw [k _ (by omega)]; exact h.rs i hi, by rw [k61 _ (by omega)]; exact h.day, by rw [k61 _ (by omega)]; exact h.sil, fun i hi => by rw [k _ (by omega)]; exact h.own i hi, fun i hi => by rw [k _ (by omega)]; exact h.run i hi, fun p hp i hi => by rw [k _ (by omega)]; exact h.wor p hp i hi, fun i hi => by rw [k _ (by omega)]; exact h.see i hi, fun i hi => by rw [k _ (by omega)]; exact h.bold i hi, fun i hi => by rw [k _ (by omega)]; exact h.firm i hi⟩
theorem imin_comm3 (v : Int32) : imin (ι 3) v = imin v (ι 3) := by
  unfold imin
  by_cases h1 : v < ι 3
  · rw [if_pos h1, if_neg (fun g => absurd (Int32.lt_trans g h1) (by decide))]
  · rw [if_neg h1]
    by_cases h2 : ι 3 < v
    · rw [if_pos h2]
    · rw [if_neg h2]
      exact Int32.le_antisymm (Int32.not_lt.mp h1) (Int32.not_lt.mp h2)
theorem m274 (h : CM P T W R A σ) (ht : t < T) : Wp (pcall 274 [.ref 61, .int (ι t)] σ) (RI (wearS P T W R A t) (Fr Sc σ)) := by
  have hP := h.ok.P
  have hT := h.ok.T
  obtain ⟨o, ho, e1⟩ := h.ok.own ht
  refine Wp.le (M_274 rfl h.lay) ?_
  refine Wp.cI (m242 h ht) fun σ1 f1 => ?_
  have h1 := h.sc f1
  have hcnt : ι (pc (mk (fun p => wantsS T W A p t) P)) = cntS P T W A t := by rw [mk_pc (by omega)]; rfl
  have hm := mk_lt (fun p => wantsS T W A p t) P
  have h2p : 2 ^ P ≤ 2 ^ 8 := Nat.pow_le_pow_right (by omega) hP
  rw [wb_mk hP, p247 h1.lay (by omega), bI_ret, hcnt]
  -- the end
  have fin : ∀ τ v x3, CM P T W R A τ → Fr Sc σ τ → imax (ι 0) (imin (ι 3) x3) = (if R.1 = 0 then (if ι 0 < cntS P T W A t then ι 1 else ι 0) else imax (ι 0) (imin (valS R (fRS P T W A t)) (ι 3))) → Wp (C_274_89 (ι t) v x3 τ) (RI (wearS P T W R A t) (Fr Sc σ)) := by
    intro τ v x3 g f e
    refine Wp.le (T_274_89 rfl g.lay) ?_
    rw [e]
    unfold wearS
    simp (disch := omega) only [ι_lt_t, ι_lt_f, ι_le_t, ι_le_f, ι_eq_f, ι_m1, ι_add, ι_mul, ι_pm, ι_sub, ix_ι, gd_inb, gd_t, eq_self, if_true, if_false, not_true_eq_false, not_false_eq_true, ite_self, g.firm t ht]
    rcases h.ok.frm ht with e7 | e7
    · rw [e7, if_pos (show ¬ ι 0 = ι 1 by decide), if_neg (show ¬ ι 0 = ι 1 by decide)]
      exact Wp.retI f
    · rw [e7, if_neg (fun g => g rfl), if_pos rfl]
      exact Wp.retI f
  have mid : ∀ v s0, s0 = (if ι 0 < cntS P T W A t then ι 1 else ι 0) → Wp (C_274_18 (ι t) (cntS P T W A t) v s0 σ1) (RI (wearS P T W R A t) (Fr Sc σ)) := by
    intro v s0 hs
    refine Wp.le (T_274_18 rfl h1.lay) ?_
    rw [h1.r4]
    have hrl := h.wr.1
    by_cases hR : R.1 = 0
    · rw [hR, if_pos (Int32.le_refl _)]
      refine fin σ1 _ _ h1 f1 ?_
      rw [if_pos hR, hs]
      by_cases e : ι 0 < cntS P T W A t
      · rw [if_pos e]; decide
      · rw [if_neg e]; decide
    · rw [if_neg (by rw [ι_le_f (by omega) (by omega)]; exact id)]
      have s80 : Sc 80 := by unfold Sc; omega
      simp (disch := omega) only [ι_lt_t, ι_lt_f, ι_le_t, ι_le_f, ι_eq_f, ι_m1, ι_add, ι_mul, ι_pm, ι_sub, ix_ι, gd_inb, gd_t, eq_self, if_true, if_false, not_true_eq_false, not_false_eq_true, ite_self, h1.run t ht]
      generalize hσ2 : sI (sI σ1 80 0 (A 2 t)) 80 1 (gI (sI σ1 80 0 (A 2 t)) 61 31) = σ2
      have f2 : Fr Sc σ σ2 := by rw [← hσ2]; exact (f1.mI s80).mI s80
      have h2 := h.sc f2
      have v0 : gI σ2 80 0 = A 2 t := by rw [← hσ2, gI_n (by decide), gI_s]
      have v1 : gI σ2 80 1 = A 0 0 := by rw [← hσ2, gI_s, gI_c (by decide), h1.day]
      rw [h2.own t ht, e1, m245 h2 ho ht, bI_ret]
      generalize hσ3 : sI (sI σ2 80 2 (A 4 (12 * o + t))) 80 3 (cntS P T W A t) = σ3
      have f3 : Fr Sc σ σ3 := by rw [← hσ3]; exact (f2.mI s80).mI s80
      have h3 := h.sc f3
      rw [h3.r4]
      refine Wp.cI (m248 (ok := okRf) (V := R) (tf := trR) (fm := fun k => if k = 6 then 2 else if k = 7 then 3 else k) (f := fRS P T W A t) h3.lay rfl (by decide) h3.wr (by omega) h3.rs (fun n hn => (trS_num n hn).2) trR_fact trR_op ?_) ?_
      · intro k hk hok
        have hk6 : k = 0 ∨ k = 1 ∨ k = 6 ∨ k = 7 := by
          rcases (by omega : k = 0 ∨ k = 1 ∨ k = 2 ∨ k = 3 ∨ k = 4 ∨ k = 5 ∨ k = 6 ∨ k = 7) with rfl | rfl | rfl | rfl | rfl | rfl | rfl | rfl <;> first | omega | (revert hok; decide)
        rcases hk6 with rfl | rfl | rfl | rfl
        · show A 2 t = gI σ3 80 0
          rw [← hσ3, gI_n (by decide), gI_n (by decide), v0]
        · show A 0 0 = gI σ3 80 1
          rw [← hσ3, gI_n (by decide), gI_n (by decide), v1]
        · show A 4 (12 * ix (A 1 t) + t) = gI σ3 80 2
          rw [← hσ3, gI_n (by decide), gI_s, e1, ix_ι (show o < 2147483648 by omega)]
        · show cntS P T W A t = gI σ3 80 3
          rw [← hσ3, gI_s]
      · intro τ' hτ
        have f' : Fr Sc σ τ' := f3.trans (hτ.mono (fun a e => by rw [e]; unfold Sc; omega))
        refine fin τ' _ _ (h.sc f') f' ?_
        rw [if_neg hR, imin_comm3]
  by_cases e : ι 0 < cntS P T W A t
  · rw [if_neg (by rw [le_iff]; exact fun g => g e)]
    exact mid _ _ (by rw [if_pos e])
  · rw [if_pos (by rw [le_iff]; exact e)]
    exact mid _ _ (by rw [if_neg e])
/-- what m273 says -/
def dayM (P T : Nat) (W R : Rl) (B : Wd) (σ τ : pS) : Prop := CM P T W R (dayS P T W R B).1 τ ∧ QM σ τ ∧ (∀ j, j < T → gI τ 82 j = gI σ 82 j + (dayS P T W R B).2 j) ∧ gI τ 61 37 = ι (mk (fun j => decide ((dayS P T W R B).2 j = ι 1)) T)
theorem mk_congr {f g : Nat → Bool} {n : Nat} (h : ∀ j, j < n → f j = g j) : mk f n = mk g n := by
  induction n with
  | zero => rfl
  | succ n ih =>
    show mk f n + _ = mk g n + _
    rw [ih (fun j hj => h j (by omega)), h n (by omega)]
set_option maxHeartbeats 4000000 in
theorem m273 (h : CM P T W R A σ) : Wp (pcall 273 [.ref 61] σ) (RV (dayM P T W R A σ)) := by
  have hT := h.ok.T
  have hP := h.ok.P
  have q61 : ∀ {i}, Mf i → (61 = 61 → Mf i) := fun h _ => h
  refine Wp.le (M_273 rfl h.lay) ?_
  have ph2 : ∀ τ v, CM P T W R (takS P T W T A).1 τ → QM σ τ → (∀ j, j < T → gI τ 82 j = gI σ 82 j + (takS P T W T A).2 j) → gI τ 61 37 = ι (mk (fun j => decide ((takS P T W T A).2 j = ι 1)) T) → Wp (C_273_75 (ι 0) v τ) (RV (dayM P T W R A σ)) := by
    intro τ0 v g0 q0 tk0 tn0
    refine Wp.loop (α := pS) T (fun t x => C_273_75 (ι t) v x)
      (fun t x => CM P T W R (wrnS P T W R t (takS P T W T A).1) x ∧ QM σ x ∧ (∀ j, j < T → gI x 82 j = gI σ 82 j + (takS P T W T A).2 j) ∧ gI x 61 37 = ι (mk (fun j => decide ((takS P T W T A).2 j = ι 1)) T))
      ?_ ?_ (t := 0) (a := τ0) (Nat.zero_le _) ⟨g0, q0, tk0, tn0⟩
    · rintro t τ ht ⟨g, fr, tk, tn⟩ k
      refine Wp.le (T_273_75 rfl g.lay) ?_
      obtain ⟨a, ha, e1⟩ := g.ok.run ht
      obtain ⟨d, hd, e2⟩ := wear_le (W := W) (R := R) g.ok ht
      rw [g.T]
      simp (disch := omega) only [ι_lt_t, ι_lt_f, ι_le_t, ι_le_f, ι_eq_f, ι_m1, ι_add, ι_mul, ι_pm, ι_sub, ix_ι, gd_inb, gd_t, eq_self, if_true, if_false, not_true_eq_false, not_false_eq_true, ite_self, g.run t ht, e1]
      refine Wp.cI (m274 g ht) fun τ1 f1 => ?_
      have g1 := g.sc f1
      rw [e2, wrn_one ha hd]
      have enx : wrnS P T W R (t + 1) (takS P T W T A).1 = up (wrnS P T W R t (takS P T W T A).1) 2 t (ι (if a + d ≤ 9 then a + d else 9)) := by
        rw [wrns_s, e1, e2, wrn_one ha hd]
      refine k _ ⟨?_, (fr.trans (QM.sc f1)).mI (by unfold Mq; omega) (by omega), ?_, ?_⟩
      · rw [enx]; exact g1.run' (by split <;> omega)
      · intro j hj
        rw [gI_sI, if_neg (by omega), f1.i (by unfold Sc; omega)]; exact tk j hj
      · rw [gI_sI, if_neg (by omega), f1.i (by unfold Sc; omega)]; exact tn
    · rintro τ ⟨g, fr, tk, tn⟩
      refine Wp.le (T_273_75 rfl g.lay) ?_
      rw [g.T]
      simp (disch := omega) only [ι_lt_t, ι_lt_f, ι_le_t, ι_le_f, ι_eq_f, ι_m1, ι_add, ι_mul, ι_pm, ι_sub, ix_ι, gd_inb, gd_t, eq_self, if_true, if_false, not_true_eq_false, not_false_eq_true, ite_self, ]
      have hday : dayS P T W R A = (up (up (wrnS P T W R T (takS P T W T A).1) 0 1 (ι 0)) 0 0 (wrnS P T W R T (takS P T W T A).1 0 0 + ι 1), (takS P T W T A).2) := rfl
      have e3 : gI (sI τ 61 36 (ι 0)) 61 31 = wrnS P T W R T (takS P T W T A).1 0 0 := by simp [gI_sI, g.day]
      rw [e3]
      refine Wp.retV ⟨?_, (fr.mI (by unfold Mq; omega) (fun _ => by unfold Mf; omega)).mI (by unfold Mq; omega) (fun _ => by unfold Mf; omega), ?_, ?_⟩
      · rw [hday]; exact (g.sil' (m := 0) (by omega)).day'
      · intro j hj; rw [hday]; simp only [gI_sI]; exact tk j hj
      · rw [hday]; simp only [gI_sI]; exact tn
  have m37 : ∀ {x}, CM P T W R A (sI σ 61 37 x) := h.any (by omega)
  refine Wp.loop (α := Value × pS) T (fun t x => C_273_7 (ι t) x.1 x.2)
    (fun t x => CM P T W R (takS P T W t A).1 x.2 ∧ QM σ x.2 ∧ (∀ j, j < T → gI x.2 82 j = gI σ 82 j + (takS P T W t A).2 j) ∧ gI x.2 61 37 = ι (mk (fun j => decide ((takS P T W t A).2 j = ι 1)) t))
    ?_ ?_ (t := 0) (a := (.retAddr 0, sI σ 61 37 (ι 0))) (Nat.zero_le _) ⟨m37, QM.refl.mI (by unfold Mq; omega) (fun _ => by unfold Mf; omega), fun j hj => ?_, ?_⟩
  · rintro t ⟨v, τ⟩ ht ⟨g, fr, tk, tn⟩ k
    dsimp only at g fr tk tn k ⊢
    refine Wp.le (T_273_7 rfl g.lay) ?_
    rw [g.T]
    simp (disch := omega) only [ι_lt_t, ι_lt_f, ι_le_t, ι_le_f, ι_eq_f, ι_m1, ι_add, ι_mul, ι_pm, ι_sub, ix_ι, gd_inb, gd_t, eq_self, if_true, if_false, not_true_eq_false, not_false_eq_true, ite_self, ]
    refine Wp.cI (m265 g ht) fun τ1 f1 => ?_
    have g1 := g.sc f1
    have tk1 : ∀ j, j < T → gI τ1 82 j = gI σ 82 j + (takS P T W t A).2 j := fun j hj => by rw [f1.i (by unfold Sc; omega)]; exact tk j hj
    have tn1 : gI τ1 61 37 = ι (mk (fun j => decide ((takS P T W t A).2 j = ι 1)) t) := by rw [f1.i (by unfold Sc; omega)]; exact tn
    have hs := taks_s (P := P) (T := T) (W := W) t A
    have z := (taks_len (W := W) h.ok (show t ≤ T by omega)).2.2 t (Nat.le_refl t)
    by_cases e : (takeS P T W (takS P T W t A).1 t).1 = ν 1
    · rw [if_neg (fun g => g e)]
      rw [if_pos e] at hs
      refine k (_, τ1) ⟨?_, fr.trans (QM.sc f1), ?_, ?_⟩
      · rw [hs]; exact g1
      · rw [hs]; exact tk1
      · rw [hs]
        show _ = ι (mk _ t + if decide ((takS P T W t A).2 t = ι 1) = true then 2 ^ t else 0)
        rw [z, if_neg (by decide), Nat.add_zero]; exact tn1
    · rw [if_pos e]
      rw [if_neg e] at hs
      rcases take_inv (A := (takS P T W t A).1) (T := T) (W := W) (t := t) (n := P) (by omega) with h2 | ⟨p, hp, h2⟩
      · exact absurd (congrArg Prod.fst h2) e
      · have h3 : (takeS P T W (takS P T W t A).1 t).1 = ι p := congrArg Prod.fst h2
        rw [h3] at hs ⊢
        generalize hσ2 : sI (sI τ1 75 t (ι p)) 76 t (ι 0) = σ2
        have g2 : CM P T W R (up (up (takS P T W t A).1 1 t (ι p)) 2 t (ι 0)) σ2 := by
          rw [← hσ2]; exact (g1.own' hp).run' (r := 0) (by omega)
        have f2 : QM σ σ2 := by
          rw [← hσ2]; exact ((fr.trans (QM.sc f1)).mI (by unfold Mq; omega) (by omega)).mI (by unfold Mq; omega) (by omega)
        have t2 : ∀ j, gI σ2 82 j = gI τ1 82 j := fun j => by rw [← hσ2, gI_c (by decide), gI_c (by decide)]
        have e37 : gI σ2 61 37 = ι (mk (fun j => decide ((takS P T W t A).2 j = ι 1)) t) := by rw [← hσ2, gI_c (by decide), gI_c (by decide)]; exact tn1
        have e38 : (ι (mk (fun j => decide ((takS P T W t A).2 j = ι 1)) t) ||| shl' (ι 1) (ι t)) = ι (mk (fun j => decide ((takS P T W t A).2 j = ι 1)) t + 2 ^ t) := (pc_add t (by omega) _ (mk_lt _ t)).2
        simp (disch := omega) only [ι_lt_t, ι_lt_f, ι_le_t, ι_le_f, ι_eq_f, ι_m1, ι_add, ι_mul, ι_pm, ι_sub, ix_ι, gd_inb, gd_t, eq_self, if_true, if_false, not_true_eq_false, not_false_eq_true, ite_self, e37, e38]
        generalize hσ3 : sI σ2 61 37 (ι (mk (fun j => decide ((takS P T W t A).2 j = ι 1)) t + 2 ^ t)) = σ3
        have g3 : CM P T W R (up (up (takS P T W t A).1 1 t (ι p)) 2 t (ι 0)) σ3 := by rw [← hσ3]; exact g2.any (by omega)
        have f3 : QM σ σ3 := by rw [← hσ3]; exact f2.mI (by unfold Mq; omega) (fun _ => by unfold Mf; omega)
        have t3 : ∀ j, gI σ3 82 j = gI τ1 82 j := fun j => by rw [← hσ3, gI_c (by decide), t2]
        have e39 : gI σ3 61 37 = ι (mk (fun j => decide ((takS P T W t A).2 j = ι 1)) t + 2 ^ t) := by rw [← hσ3, gI_s]
        refine k (.int (ι p), sI σ3 82 t (gI σ3 82 t + ι 1)) ⟨?_, f3.mI (by unfold Mq; omega) (by omega), ?_, ?_⟩
        · rw [hs]; exact g3.any (by omega)
        · intro j hj
          rw [hs]
          show _ = _ + (if j = t then ι 1 else _)
          by_cases ej : j = t
          · subst ej
            rw [if_pos rfl, gI_s, t3, tk1 j hj, z, show (ι 0 : Int32) = 0 from rfl, Int32.add_zero]
          · rw [if_neg ej, gI_n ej, t3]; exact tk1 j hj
        · rw [hs, gI_c (by decide), e39]
          show _ = ι (mk (fun j => decide (st1 (takS P T W t A).2 t (ι 1) j = ι 1)) t + if decide (st1 (takS P T W t A).2 t (ι 1) t = ι 1) = true then 2 ^ t else 0)
          have e41 : decide (st1 (takS P T W t A).2 t (ι 1) t = ι 1) = true := by
            rw [show st1 (takS P T W t A).2 t (ι 1) t = ι 1 from if_pos rfl]; decide
          rw [if_pos e41]
          have e40 : mk (fun j => decide (st1 (takS P T W t A).2 t (ι 1) j = ι 1)) t = mk (fun j => decide ((takS P T W t A).2 j = ι 1)) t := by
            refine mk_congr (fun j hj => ?_)
            show decide ((if j = t then ι 1 else _) = ι 1) = _
            rw [if_neg (by omega)]
          rw [e40]
  · rintro ⟨v, τ⟩ ⟨g, fr, tk, tn⟩
    dsimp only at g fr tk tn ⊢
    refine Wp.le (T_273_7 rfl g.lay) ?_
    rw [g.T]
    simp (disch := omega) only [ι_lt_t, ι_lt_f, ι_le_t, ι_le_f, ι_eq_f, ι_m1, ι_add, ι_mul, ι_pm, ι_sub, ix_ι, gd_inb, gd_t, eq_self, if_true, if_false, not_true_eq_false, not_false_eq_true, ite_self, ]
    exact ph2 τ _ g fr tk tn
  · dsimp only
    rw [gI_sI, if_neg (by omega)]
    show _ = _ + ι 0
    rw [show (ι 0 : Int32) = 0 from rfl, Int32.add_zero]
  · dsimp only
    rfl
end DAY3
