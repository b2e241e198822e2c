/-! ===== the reference: what comes, if only days go by ===== -/
section ASKS1
variable {P T : Nat} {W R : Rl} {A B : Wd} {σ τ υ σ0 : pS} {q t o p m n : Nat} {x : Wd × (Nat → Int32)}
/-- the reference's cells that change while it is asked -/
def Qq (a : Nat) : Prop := Mq a ∨ a = 83 ∨ a = 84 ∨ a = 88 ∨ a = 89 ∨ a = 90 ∨ a = 91
def Qf (i : Nat) : Prop := Mf i ∨ i = 47 ∨ i = 49
def QN (σ τ : pS) : Prop := Fr Qq σ τ ∧ ∀ i, ¬ Qf i → gI τ 61 i = gI σ 61 i
theorem QN.rf : QN σ σ := ⟨Fr.refl, fun _ _ => rfl⟩
theorem QN.trans (h : QN σ τ) (g : QN τ υ) : QN σ υ := ⟨h.1.trans g.1, fun i hi => (g.2 i hi).trans (h.2 i hi)⟩
theorem QN.qm (h : QN σ τ) (g : QM τ υ) : QN σ υ := ⟨h.1.trans (g.1.mono fun _ s => Or.inl s), fun i hi => (g.2 i (fun g => hi (Or.inl g))).trans (h.2 i hi)⟩
theorem QN.sc (h : QN σ τ) (g : Fr Sc τ υ) : QN σ υ := h.qm (QM.sc g)
theorem QN.fr {c : Nat} (h : QN σ τ) (g : Fr (fun a => a = c) τ υ) (hc : Qq c) (h61 : c ≠ 61) : QN σ υ := ⟨h.1.trans (g.mono fun _ s => s ▸ hc), fun i hi => (g.i (fun e => h61 e.symm) i).trans (h.2 i hi)⟩
theorem QN.un {a0 off : Nat} (h : QN σ τ) (g : UnI τ a0 off 12 96 8 υ) : QN σ υ := ⟨h.1.trans (g.1.mono fun a s => by unfold Uc at s; unfold Qq Mq; omega), fun i hi => (g.2.1 i (fun e => hi (Or.inl (by unfold Mf; omega)))).trans (h.2 i hi)⟩
theorem QN.f {i : Nat} {y : Int32} (h : QN σ τ) (hi : Qf i) : QN σ (sI τ 61 i y) := ⟨h.1.mI (Or.inl (by unfold Mq; omega)), fun j hj => by
  have : j ≠ i := fun e => hj (by rw [e]; exact hi)
  rw [gI_n this]; exact h.2 j hj⟩
theorem p211 (hL : LayR (gR σ)) {y : Int32} : pcall 211 [.ref 61, .int y] σ = some (1, .int (ι 0), sI σ 61 4 y) := (M_211 rfl hL).eq rfl
/-- the reference now: it holds A, and so does the row -/
def Nw (P T : Nat) (W R : Rl) (A : Wd) (σ0 σ : pS) : Prop := CM P T W R A σ ∧ QN σ0 σ ∧ RowA P T A σ 83 0
theorem b271 (h : CM P T W R A σ) (f : QN σ0 σ) : Wp (pcall 271 [.ref 61, .ref 83, .int (ι 0)] σ) (RV (fun τ => Nw P T W R A σ0 τ ∧ ∀ j, gI τ 82 j = gI σ 82 j)) := by
  refine (m271 (off := 0) (n0 := 129) h.lay rfl (by omega) (by omega) (by unfold nPk; omega)).mono ?_
  rintro z ⟨v, τ, rfl, hk⟩
  have hf : QN σ0 τ := f.fr hk.1 (by unfold Qq; omega) (by omega)
  refine ⟨v, τ, rfl, ⟨?_, hf, hk.row h⟩, fun j => hk.1.i (by omega) j⟩
  exact h.fr hk.1 (by omega) (by omega) (by omega) (by omega) (by omega) (by omega) (by omega) (by omega) (by omega) (by omega)
theorem b284 (h : CM P T W R B σ) (f : QN σ0 σ) (r : RowA P T A σ 83 0) (ok : okW P T A) (l : like A B) : Wp (pcall 284 [.ref 61, .ref 83, .int (ι 0)] σ) (RV (fun τ => Nw P T W R A σ0 τ ∧ ∀ j, gI τ 82 j = gI σ 82 j)) := by
  refine (m284 (off := 0) (n0 := 129) h.lay rfl (by omega) (by omega) (by unfold nPk; omega)).mono ?_
  rintro z ⟨v, τ, rfl, hk⟩
  refine ⟨v, τ, rfl, ⟨hk.cm h r ok l.symm, f.un hk, r.eq (fun i _ _ => hk.1.i (by unfold Uc; omega) i) ok.P ok.T⟩, fun j => hk.1.i (by unfold Uc; omega) j⟩
theorem QM.row (h : QM σ τ) (r : RowA P T A σ 83 0) (hP : P ≤ 8) (hT : T ≤ 12) : RowA P T A τ 83 0 := r.eq (fun i _ _ => h.1.i (by unfold Mq Sc; omega) i) hP hT
/-- behind days from a world that is like A -/
theorem b284' (s : Mp P T W R σ x τ) (f : QN σ0 σ) (r : RowA P T A σ 83 0) (ok : okW P T A) (l : like A x.1) : Wp (pcall 284 [.ref 61, .ref 83, .int (ι 0)] τ) (RV (fun υ => Nw P T W R A σ0 υ ∧ ∀ j, gI υ 82 j = gI τ 82 j)) :=
  b284 s.1 (f.qm s.2.1) (s.2.1.row r ok.P ok.T) ok l
theorem Mp.start (h : CM P T W R A σ) : Mp P T W R σ (A, gI σ 82) σ := ⟨h, QM.refl, fun _ _ => rfl⟩
theorem Mp.startB (h : CM P T W R B σ) : Mp P T W R σ (B, gI σ 82) σ := ⟨h, QM.refl, fun _ _ => rfl⟩
/-- the world behind n days doesn't rest on what was counted -/
theorem gof_w {g g' : Nat → Int32} (n : Nat) : (gof P T W R n (A, g)).1 = (gof P T W R n (A, g')).1 := by
  induction n with
  | zero => rfl
  | succ n ih => rw [gof_s, gof_s]; unfold dayF; rw [ih]
theorem gof_t {g : Nat → Int32} (n : Nat) (j : Nat) : (gof P T W R n (A, g)).2 j = g j + (gof P T W R n (A, fun _ => ι 0)).2 j := by
  induction n with
  | zero => exact (ι_add0 _).symm
  | succ n ih =>
    rw [gof_s, gof_s]
    show (gof P T W R n (A, g)).2 j + (dayS P T W R (gof P T W R n (A, g)).1).2 j = g j + ((gof P T W R n (A, fun _ => ι 0)).2 j + (dayS P T W R (gof P T W R n (A, fun _ => ι 0)).1).2 j)
    rw [ih, gof_w (g := g) (g' := fun _ => ι 0), Int32.add_assoc]
theorem tkd (n : Nat) (B : Wd) (j : Nat) : (takS P T W n B).2 j = ι 0 ∨ (takS P T W n B).2 j = ι 1 := by
  induction n with
  | zero => left; rfl
  | succ n ih =>
    rw [taks_s]
    split
    · exact ih
    · show (if j = n then ι 1 else _) = _ ∨ (if j = n then ι 1 else _) = _
      by_cases e : j = n
      · rw [if_pos e]; right; rfl
      · rw [if_neg e]; exact ih
theorem dtk (B : Wd) (j : Nat) : (dayS P T W R B).2 j = ι 0 ∨ (dayS P T W R B).2 j = ι 1 := tkd T B j
theorem gof_c (n j : Nat) : ∃ c, c ≤ n ∧ (gof P T W R n (A, fun _ => ι 0)).2 j = ι c := by
  induction n with
  | zero => exact ⟨0, Nat.le_refl _, rfl⟩
  | succ n ih =>
    obtain ⟨c, hc, e⟩ := ih
    rw [gof_s]
    rcases dtk (P := P) (T := T) (W := W) (R := R) (gof P T W R n (A, fun _ => ι 0)).1 j with e2 | e2
    · exact ⟨c, by omega, by show _ + _ = _; rw [e, e2, ι_add, Nat.add_zero]⟩
    · exact ⟨c + 1, by omega, by show _ + _ = _; rw [e, e2, ι_add]⟩
/-- the first day on which t is taken, none behind it -/
def takIn (P T : Nat) (W R : Rl) (A : Wd) (t : Nat) : Int32 := if dtS P T W R A t = 61 then ν 1 else ι (dtS P T W R A t)
theorem m288 (h : True ∧ QN σ0 σ ∧ RowA P T B σ 83 0) (hA : CM P T W R A σ) (okB : okW P T B) (l : like B A) (h0 : A 0 1 = ι 0) (ht : t < T) : Wp (pcall 288 [.ref 61, .int (ι t)] σ) (RI (takIn P T W R A t) (Nw P T W R B σ0)) := by
  have hT := okB.T
  refine Wp.le (M_288 rfl hA.lay) ?_
  have fin : ∀ τ b n, n ≤ 61 → 1 ≤ n → Mp P T W R σ (gof P T W R (n - 1) (A, gI σ 82)) τ → b = takIn P T W R A t → (¬ b = ν 1 ∨ n = 61) → Wp (C_288_4 (ι t) b (ι n) τ) (RI (takIn P T W R A t) (Nw P T W R B σ0)) := by
    intro τ b n hn h1 s hb hor
    have lk : like B (gof P T W R (n - 1) (A, gI σ 82)).1 := l.trans (gof_ok hA.ok h0 _).2
    refine Wp.le (T_288_4 rfl s.1.lay) ?_
    by_cases e : n = 61
    · subst e
      simp (disch := omega) only [ι_lt_t, ι_lt_f, ι_le_t, ι_le_f, ι_eq_f, ι_m1, ι_add, ι_mul, ι_pm, ι_sub, ix_ι, gd_inb, gd_t, eq_self, if_true, if_false, not_true_eq_false, not_false_eq_true, ite_self, ]
      refine Wp.cV (b284' s h.2.1 h.2.2 okB lk) fun υ hu => ?_
      rw [hb]; exact Wp.retI hu.1
    · have hb1 : ¬ b = ν 1 := by rcases hor with g | g; exact g; exact absurd g e
      simp (disch := omega) only [ι_lt_t, ι_lt_f, ι_le_t, ι_le_f, ι_eq_f, ι_m1, ι_add, ι_mul, ι_pm, ι_sub, ix_ι, gd_inb, gd_t, eq_self, if_true, if_false, not_true_eq_false, not_false_eq_true, ite_self, hb1]
      refine Wp.cV (b284' s h.2.1 h.2.2 okB lk) fun υ hu => ?_
      rw [hb]; exact Wp.retI hu.1
  have key : ∀ k n τ, n + k = 61 → 1 ≤ n → (∀ i, i < n → (gof P T W R i (A, fun _ => ι 0)).2 t = ι 0) → fst1 (fun n => decide (ι 0 < (gof P T W R n (A, fun _ => ι 0)).2 t)) k n = dtS P T W R A t → Mp P T W R σ (gof P T W R (n - 1) (A, gI σ 82)) τ → Wp (C_288_4 (ι t) (ν 1) (ι n) τ) (RI (takIn P T W R A t) (Nw P T W R B σ0)) := by
    intro k
    induction k with
    | zero =>
      intro n τ hn h1 hz hd s
      have e61 : n = 61 := by omega
      refine fin τ _ n (by omega) h1 s ?_ (Or.inr e61)
      unfold takIn
      rw [if_pos (by rw [← hd]; exact e61)]
    | succ k ih =>
      intro n τ hn h1 hz hd s
      refine Wp.le (T_288_4 rfl s.1.lay) ?_
      simp (disch := omega) only [ι_lt_t, ι_lt_f, ι_le_t, ι_le_f, ι_eq_f, ι_m1, ι_add, ι_mul, ι_pm, ι_sub, ix_ι, gd_inb, gd_t, eq_self, if_true, if_false, not_true_eq_false, not_false_eq_true, ite_self, ]
      refine Wp.cV (m273' s) fun υ hu => ?_
      obtain ⟨s', e37⟩ := hu
      have e : dayF P T W R (gof P T W R (n - 1) (A, gI σ 82)) = gof P T W R n (A, gI σ 82) := by rw [← gof_s]; congr 1; omega
      rw [e] at s'
      have hw : (gof P T W R (n - 1) (A, gI σ 82)).1 = (gof P T W R (n - 1) (A, fun _ => ι 0)).1 := gof_w _
      rw [e37, p236 s'.1.lay (by omega), bI_ret, tb_mk hT (by omega), hw]
      have hg : (gof P T W R n (A, fun _ => ι 0)).2 t = (dayS P T W R (gof P T W R (n - 1) (A, fun _ => ι 0)).1).2 t := by
        have e1 : gof P T W R n (A, fun _ => ι 0) = dayF P T W R (gof P T W R (n - 1) (A, fun _ => ι 0)) := by rw [← gof_s]; congr 1; omega
        rw [e1]
        show (gof P T W R (n - 1) (A, fun _ => ι 0)).2 t + _ = _
        rw [hz (n - 1) (by omega), show (ι 0 : Int32) = 0 from rfl, Int32.zero_add]
      rcases dtk (P := P) (T := T) (W := W) (R := R) (gof P T W R (n - 1) (A, fun _ => ι 0)).1 t with e2 | e2
      · have e3 : bz (decide (t < T) && decide ((dayS P T W R (gof P T W R (n - 1) (A, fun _ => ι 0)).1).2 t = ι 1)) = ι 0 := by rw [e2]; simp [bz, show ¬ ι 0 = ι 1 by decide]
        rw [e3, if_pos rfl]
        unfold fst1 at hd
        rw [if_neg (by rw [hg, e2]; decide)] at hd
        refine ih (n + 1) υ (by omega) (by omega) (fun i hi => ?_) hd s'
        by_cases ei : i = n
        · rw [ei, hg, e2]
        · exact hz i (by omega)
      · have e3 : bz (decide (t < T) && decide ((dayS P T W R (gof P T W R (n - 1) (A, fun _ => ι 0)).1).2 t = ι 1)) = ι 1 := by rw [e2]; simp [bz, ht]
        rw [e3, if_neg (by decide)]
        unfold fst1 at hd
        rw [if_pos (by rw [hg, e2]; decide)] at hd
        refine fin υ (ι n) (n + 1) (by omega) (by omega) s' ?_ (Or.inl ?_)
        · unfold takIn
          rw [← hd, if_neg (by omega)]
        · rw [ι_m1 (by omega)]; exact id
  refine key 60 1 σ (by omega) (by omega) (fun i hi => ?_) rfl (Mp.startB hA)
  have e0 : i = 0 := by omega
  rw [e0]; rfl
end ASKS1
