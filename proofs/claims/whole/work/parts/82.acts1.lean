/-! ===== acts: what they come to; the class ===== -/
section ACTS1
variable {P T : Nat} {W R : Rl} {A A' B : Wd} {σ τ υ σ0 : pS} {q c c' n k i j p o t r : Nat} {m m2 : Me} {y x0 x1 x2 v w : Int32} {im : Option (Wd × Me)} {tp : Nat × (Nat → Int32)} {fp : Int32} {b : Bool}
theorem CI.st (h : CI P T W R A m im tp fp σ q) (cw : CW P T W R A' τ 25 q) (st : STL P T W R A' τ 25) (l : like A A') (mok : okMe P T A' m2) (me : MeC P T m2 τ 32) (f : Fr (fun a => Sc a ∨ (25 ≤ a ∧ a ≤ 35)) σ τ) : CI P T W R A' m2 im tp fp τ q := by
  have hP := cw.1.P; have hT := cw.1.T
  have hq := h.cnw.1.isp
  have k : ∀ a, a < 25 ∨ 36 ≤ a → ¬ Sc a → ∀ i, gI τ a i = gI σ a i := fun a h1 h2 i => f.i (by rintro (g | g); exact h2 g; omega) i
  refine ⟨⟨cw, st, by rw [l.2.2]; exact h.cnw.2.2.1, by rw [k 47 (by omega) (by unfold Sc; omega)]; exact h.cnw.2.2.2⟩, by rw [f.r]; exact h.tld, by rw [f.r]; exact h.drf, h.tok, by rw [k 0 (by omega) (by unfold Sc; omega)]; exact h.tln, fun i hi => by rw [k 1 (by omega) (by unfold Sc; omega)]; exact h.tby i hi, by rw [k 0 (by omega) (by unfold Sc; omega)]; exact h.fpl, mok, me, by rw [k 0 (by omega) (by unfold Sc; omega)]; exact h.im0, by rw [k 36 (by omega) (by unfold Sc; omega)]; exact h.i36, fun B m' e => ?_⟩
  obtain ⟨h1, h2, h3, h4, h5⟩ := h.img B m' e
  refine ⟨h1.lk l, ?_, h3.mv (k 36 (by omega) (by unfold Sc; omega) 11), l.symm.trans h4, h5.mv h1 hP hT (k 43 (by omega) (by unfold Sc; omega) 1) (k 43 (by omega) (by unfold Sc; omega) 3) (fun i _ => k 44 (by omega) (by unfold Sc; omega) i) (fun i _ => k 45 (by omega) (by unfold Sc; omega) i) (fun i _ => k 46 (by omega) (by unfold Sc; omega) i)⟩
  exact ⟨h2.1, h2.2.1.fr f (fun i hi => by unfold Sc; rcases hq with e | e <;> omega), h2.2.2.fr f (fun i hi => by unfold Sc; omega)⟩
theorem MeC.sc (h : MeC P T m σ 32) (ok : okMe P T A m) (hP : P ≤ 8) (hT : T ≤ 12) (e : ∀ a, 32 ≤ a → a ≤ 35 → ∀ i, gI τ a i = gI σ a i) : MeC P T m τ 32 :=
  h.mv ok hP hT (e 32 (by omega) (by omega) 1) (e 32 (by omega) (by omega) 3) (fun i _ => e 33 (by omega) (by omega) i) (fun i _ => e 34 (by omega) (by omega) i) (fun i _ => e 35 (by omega) (by omega) i)
theorem CA.fr {S : Nat → Prop} (f : Fr S σ τ) (hs : ∀ a, S a → CA a) : Fq CA VA σ τ := Fq.of f hs
theorem oC.ret {I : pS → Prop} (e : v = w) (hI : I τ) (f : Fq CA VA σ τ) : Wp (some (1, .int v, τ)) (oC σ I (0, w)) := by
  subst e; exact .ret (Or.inl ⟨rfl, τ, rfl, hI, f⟩)
theorem oC.nse {I : pS → Prop} (hI : I σ) : Wp (some (3, .null, sX σ)) (oC σ I (1, v)) := .ret (Or.inr (Or.inl ⟨rfl, rfl, hI⟩))
theorem oC.iae {I : pS → Prop} (hI : I σ) : Wp (some (2, .null, sX σ)) (oC σ I (2, v)) := .ret (Or.inr (Or.inr ⟨rfl, rfl, hI⟩))
/-- a call is refused and counted -/
theorem CI.rf (h : CI P T W R A m im tp fp σ q) (f : Fr Sc σ υ) (hi : i < 3) : CI P T W R A (refS m i) im tp fp (sI υ 35 i (gI υ 35 i + ι 1)) q ∧ Fq CA VA σ (sI υ 35 i (gI υ 35 i + ι 1)) := by
  have hP := h.cnw.1.1.P; have hT := h.cnw.1.1.T
  have f2 : Fr (fun a => Sc a ∨ (25 ≤ a ∧ a ≤ 35)) σ (sI υ 35 i (gI υ 35 i + ι 1)) := (f.mono fun a s => Or.inl s).mI (Or.inr (by omega))
  have k : ∀ a, a ≠ 35 → ¬ Sc a → ∀ j, gI (sI υ 35 i (gI υ 35 i + ι 1)) a j = gI σ a j := fun a h1 h2 j => by rw [gI_c h1, f.i h2]
  have e35 : gI υ 35 i = m.2.2 i := by rw [f.i (by unfold Sc; omega)]; exact h.mem.2.2.2 i hi
  refine ⟨h.st ((h.cnw.1.sc f).fm (Fr.refl.mI ⟨by omega, by omega⟩)) (h.cnw.2.1.mv (k 25 (by omega) (by unfold Sc; omega) 11)) like.rf h.mok.rf ?_ f2, CA.fr f2 (fun a s => by unfold CA; rcases s with s | s; exact Or.inr s; exact Or.inl (by omega))⟩
  obtain ⟨h1, h2, h3, h4⟩ := h.mem
  have h40 := h.mok.1
  refine ⟨by rw [k 32 (by omega) (by unfold Sc; omega)]; exact h1, fun k' hk' => (h2 k' hk').mv hP hT (fun i' _ => k 33 (by omega) (by unfold Sc; omega) _), ⟨by rw [k 32 (by omega) (by unfold Sc; omega)]; exact h3.1, fun k' hk' => ?_⟩, fun j hj => ?_⟩
  · rw [k 34 (by omega) (by unfold Sc; omega), k 34 (by omega) (by unfold Sc; omega), k 34 (by omega) (by unfold Sc; omega)]; exact h3.2 k' hk'
  · show gI _ 35 j = if j = i then m.2.2 i + ι 1 else m.2.2 j
    by_cases e : j = i
    · rw [e, gI_s, if_pos rfl, e35]
    · rw [gI_n e, if_neg e, f.i (by unfold Sc; omega)]; exact h4 j hj
theorem oC.rf (h : CI P T W R A m im tp fp σ q) (f : Fr Sc σ υ) (hi : i < 3) : Wp (bI (pcall 104 [.ref 32, .int (ι i)] υ) fun r τ => some (1, .int r, τ)) (oC σ (fun τ => CI P T W R A (refS m i) im tp fp τ q) (0, ν 1)) := by
  rw [c104 (h.cnw.1.sc f).lay hi, bI_ret]
  exact oC.ret rfl (h.rf f hi).1 (h.rf f hi).2
/-- behind an act's being kept -/
theorem CI.ke (h : CI P T W R A m im tp fp σ q) (f : Fr Sc σ υ) : Wp (pcall 105 [.ref 32, .ref 25] υ) (RV (fun τ => CW P T W R A τ 25 q ∧ MeC P T (keS A m) τ 32 ∧ STL P T W R A τ 25 ∧ Fr (fun a => Sc a ∨ (25 ≤ a ∧ a ≤ 35)) σ τ)) := by
  have hP := h.cnw.1.1.P; have hT := h.cnw.1.1.T
  have me : MeC P T m υ 32 := h.mem.sc h.mok hP hT (fun a h1 h2 i => f.i (by unfold Sc; omega) i)
  refine (c105 (h.cnw.1.sc f) me h.mok).mono ?_
  rintro z ⟨v, τ, rfl, f2, me2⟩
  exact ⟨v, τ, rfl, (h.cnw.1.sc f).fm f2, me2, h.cnw.2.1.mv (by rw [f2.i (by omega), f.i (by unfold Sc; omega)]), (f.mono fun a s => Or.inl s).trans (f2.mono fun a s => Or.inr (by omega))⟩
theorem CA.ke (f : Fr (fun a => Sc a ∨ (25 ≤ a ∧ a ≤ 35)) σ τ) : Fq CA VA σ τ := CA.fr f (fun a s => by unfold CA; rcases s with s | s; exact Or.inr s; exact Or.inl (by omega))
abbrev AcR : Type := (Nat × Int32) × Wd × Me
/-- days -/
def a_days (P T : Nat) (W R : Rl) (A : Wd) (m : Me) (x0 : Int32) : AcR := if btw (ι 1) (ι 20) x0 = true then (if A 0 0 + x0 ≤ ι 999 then ((0, (bhd P T W R A (ix x0)).1 0 0), (bhd P T W R A (ix x0)).1, keS A m) else ((0, ν 1), A, refS m 1)) else ((0, ν 1), A, refS m 1)
theorem o167 (h : CI P T W R A m im tp fp σ q) : Wp (pcall 167 [.ref 0, .int x0] σ) (oC σ (fun τ => CI P T W R (a_days P T W R A m x0).2.1 (a_days P T W R A m x0).2.2 im tp fp τ q) (a_days P T W R A m x0).1) := by
  have hP := h.cnw.1.1.P; have hT := h.cnw.1.1.T
  refine Wp.le (M_167 rfl h.cnw.1.lay) ?_
  unfold a_days
  by_cases e : btw (ι 1) (ι 20) x0 = true
  · obtain ⟨e1, e2⟩ := of_decide_eq_true e
    rw [if_neg e1, if_neg e2, if_pos e, p69 (by decide) h.cnw.1.lay, bI_ret, h.cnw.1.day]
    by_cases e3 : A 0 0 + x0 ≤ ι 999
    · obtain ⟨n, _, hn, rfl⟩ := btw_ι (by omega) (by omega) e
      rw [if_pos e3, if_pos e3, ix_ι (by omega)]
      refine Wp.cV (h.ke Fr.refl) fun τ hτ => ?_
      obtain ⟨cw, me, st, f⟩ := hτ
      refine Wp.loop (α := pS) n (fun d y => C_167_48 (ι n) (ι d) y) (fun d y => CW P T W R (bhd P T W R A d).1 y 25 q ∧ STL P T W R (bhd P T W R A d).1 y 25 ∧ Fr (Wc 25) τ y) ?_ ?_ (t := 0) (a := τ) (Nat.zero_le _) ⟨cw, st, Fr.refl⟩
      · rintro d y hd ⟨cw, st, f⟩ c
        refine Wp.le (T_167_48 rfl cw.lay) ?_
        rw [if_neg (by rw [ι_le (by omega) (by omega)]; omega)]
        have h0 : (bhd P T W R A d).1 0 1 = ι 0 := by rw [(gof_ok h.cnw.1.1 h.cnw.2.2.1 d).2.2.2]; exact h.cnw.2.2.1
        have c71' := c71 (w := 25) cw st h0 (m := 0) (by omega)
        rw [up_eq h0] at c71'
        refine Wp.cI c71' fun y' hy => ?_
        rw [ι_add]
        exact c y' ⟨hy.1, hy.2.1, f.trans hy.2.2.1⟩
      · rintro y ⟨cw, st, f2⟩
        refine Wp.le (T_167_48 rfl cw.lay) ?_
        have g := gof_ok (W := W) (R := R) h.cnw.1.1 h.cnw.2.2.1 (g := fun _ => ι 0) n
        have f3 : Fr (fun a => Sc a ∨ (25 ≤ a ∧ a ≤ 35)) σ y := f.trans (f2.mono fun a s => by rcases s with s | s; exact Or.inl s; exact Or.inr (by omega))
        rw [if_pos (Int32.le_refl _), p69 (by decide) cw.lay, bI_ret]
        exact oC.ret cw.day (h.st cw st g.2 ((h.mok.ke h.cnw.1.1).lk g.2) (me.sc (A := A) (h.mok.ke h.cnw.1.1) hP hT (fun a h1 h2 i => f2.i (by unfold Wc Sc; omega) i)) f3) (CA.ke f3)
    · rw [if_neg e3, if_neg e3]
      exact oC.rf h Fr.refl (by omega)
  · rw [if_neg e]
    by_cases e1 : x0 < ι 1
    · rw [if_pos e1]; exact oC.rf h Fr.refl (by omega)
    · rw [if_neg e1]
      by_cases e2 : ι 20 < x0
      · rw [if_pos e2]; exact oC.rf h Fr.refl (by omega)
      · exact absurd (decide_eq_true ⟨e1, e2⟩) e
/-- the world is changed by hand, the act kept -/
theorem oC.act (h : CI P T W R A m im tp fp σ q) {f : Fr (fun a => Sc a ∨ (25 ≤ a ∧ a ≤ 35)) σ τ} (g : Fr (fun a => 25 ≤ a ∧ a ≤ 30) τ υ) (me : MeC P T (keS A m) τ 32) (cw : CW P T W R A' υ 25 q) (e11 : gI υ 25 11 = ι 0) (l : like A A') (e : v = w) : Wp (some (1, .int v, υ)) (oC σ (fun τ => CI P T W R A' (keS A m) im tp fp τ q) (0, w)) := by
  have hP := cw.1.P; have hT := cw.1.T
  have f3 : Fr (fun a => Sc a ∨ (25 ≤ a ∧ a ≤ 35)) σ υ := f.trans (g.mono fun a s => Or.inr (by omega))
  exact oC.ret e (h.st cw (Or.inl e11) l ((h.mok.ke h.cnw.1.1).lk l) (me.sc (A := A) (h.mok.ke h.cnw.1.1) hP hT (fun a h1 h2 i => g.i (by omega) i)) f3) (CA.ke f3)
theorem Fr.s2 {S : Nat → Prop} {a i b j : Nat} {x y : Int32} (ha : S a) (hb : S b) : Fr S σ (sI (sI σ a i x) b j y) := (Fr.refl.mI ha).mI hb
/-- ask -/
def a_ask (P T : Nat) (W : Rl) (A : Wd) (m : Me) (x0 x1 : Int32) : AcR := if inb' P x0 = true then (if inb' T x1 = true then (if wantsS T W A (ix x0) (ix x1) = true then ((0, A 1 (ix x1)), up (up A 1 (ix x1) x0) 2 (ix x1) (ι 0), keS A m) else ((0, ν 1), A, refS m 1)) else ((1, ι 0), A, m)) else ((1, ι 0), A, m)
theorem o181 (h : CI P T W R A m im tp fp σ q) : Wp (pcall 181 [.ref 0, .int x0, .int x1] σ) (oC σ (fun τ => CI P T W R (a_ask P T W A m x0 x1).2.1 (a_ask P T W A m x0 x1).2.2 im tp fp τ q) (a_ask P T W A m x0 x1).1) := by
  have hP := h.cnw.1.1.P; have hT := h.cnw.1.1.T
  refine Wp.le (M_181 rfl h.cnw.1.lay) ?_
  unfold a_ask
  rw [k176 h.cnw.1]
  by_cases e0 : inb' P x0 = true
  · obtain ⟨p, hp, rfl⟩ := inb'_t (by omega) e0
    rw [if_pos e0, bV_ret, if_pos e0, k178 h.cnw.1]
    by_cases e1 : inb' T x1 = true
    · obtain ⟨t, ht, rfl⟩ := inb'_t (by omega) e1
      rw [if_pos e1, bV_ret, if_pos e1, ix_ι (by omega), ix_ι (by omega)]
      refine Wp.cI (c77 h.cnw.1 hp ht) fun υ f => ?_
      by_cases e : wantsS T W A p t = true
      · rw [e, bz_t, if_pos (by decide), if_pos rfl]
        refine Wp.cV (h.ke f) fun τ hτ => ?_
        obtain ⟨cw, me, st, f2⟩ := hτ
        rw [c75 cw ht, bI_ret, p80 (by decide) cw.lay (by omega), bV_ret]
        have cw2 := (cw.own' (t := t) hp).any (i := 11) (x := ι 0) (by omega) (by omega) (by omega) (by omega)
        rw [p81 (by decide) cw2.lay (by omega), bV_ret]
        have cw3 := (cw2.run' (t := t) (r := 0) (by omega)).any (i := 11) (x := ι 0) (by omega) (by omega) (by omega) (by omega)
        exact oC.act h (f := f2) ((Fr.s2 ⟨by omega, by omega⟩ ⟨by omega, by omega⟩).trans (Fr.s2 ⟨by omega, by omega⟩ ⟨by omega, by omega⟩)) me cw3 gI_s ((like_up (by omega)).trans (like_up (by omega))) rfl
      · have e' : wantsS T W A p t = false := by simpa using e
        rw [e', bz_f, if_neg (fun g => g rfl), if_neg (by decide)]
        exact oC.rf h f (by omega)
    · rw [if_neg e1, bV_3, if_neg e1]; exact oC.nse h
  · rw [if_neg e0, bV_3, if_neg e0]; exact oC.nse h
/-- spoil -/
def a_spoil (T : Nat) (A : Wd) (m : Me) (x0 : Int32) : AcR := if inb' T x0 = true then (if A 2 (ix x0) = ι 9 then ((0, ν 1), A, refS m 1) else ((0, A 2 (ix x0) + ι 1), up A 2 (ix x0) (A 2 (ix x0) + ι 1), keS A m)) else ((1, ι 0), A, m)
theorem o182 (h : CI P T W R A m im tp fp σ q) : Wp (pcall 182 [.ref 0, .int x0] σ) (oC σ (fun τ => CI P T W R (a_spoil T A m x0).2.1 (a_spoil T A m x0).2.2 im tp fp τ q) (a_spoil T A m x0).1) := by
  have hP := h.cnw.1.1.P; have hT := h.cnw.1.1.T
  refine Wp.le (M_182 rfl h.cnw.1.lay) ?_
  unfold a_spoil
  rw [k178 h.cnw.1]
  by_cases e0 : inb' T x0 = true
  · obtain ⟨t, ht, rfl⟩ := inb'_t (by omega) e0
    obtain ⟨r, hr, er⟩ := h.cnw.1.1.run ht
    rw [if_pos e0, bV_ret, if_pos e0, ix_ι (by omega), c76 h.cnw.1 ht, bI_ret, er]
    by_cases e : r = 9
    · rw [e, if_neg (by decide), if_pos rfl]; exact oC.rf h Fr.refl (by omega)
    · rw [if_pos (by rw [ι_lt (by omega) (by omega)]; omega), if_neg (by rw [ι_eq (by omega) (by omega)]; exact e)]
      refine Wp.cV (h.ke Fr.refl) fun τ hτ => ?_
      obtain ⟨cw, me, st, f2⟩ := hτ
      rw [ι_add, p81 (by decide) cw.lay (by omega), bV_ret]
      have cw2 := (cw.run' (t := t) (r := r + 1) (by omega)).any (i := 11) (x := ι 0) (by omega) (by omega) (by omega) (by omega)
      exact oC.act h (f := f2) (Fr.s2 ⟨by omega, by omega⟩ ⟨by omega, by omega⟩) me cw2 gI_s (like_up (by omega)) rfl
  · rw [if_neg e0, bV_3, if_neg e0]; exact oC.nse h
/-- mend -/
def a_mend (T : Nat) (A : Wd) (m : Me) (x0 : Int32) : AcR := if inb' T x0 = true then (if A 2 (ix x0) = ι 0 then ((0, ν 1), A, refS m 1) else ((0, A 2 (ix x0)), up A 2 (ix x0) (ι 0), keS A m)) else ((1, ι 0), A, m)
theorem o183 (h : CI P T W R A m im tp fp σ q) : Wp (pcall 183 [.ref 0, .int x0] σ) (oC σ (fun τ => CI P T W R (a_mend T A m x0).2.1 (a_mend T A m x0).2.2 im tp fp τ q) (a_mend T A m x0).1) := by
  have hP := h.cnw.1.1.P; have hT := h.cnw.1.1.T
  refine Wp.le (M_183 rfl h.cnw.1.lay) ?_
  unfold a_mend
  rw [k178 h.cnw.1]
  by_cases e0 : inb' T x0 = true
  · obtain ⟨t, ht, rfl⟩ := inb'_t (by omega) e0
    rw [if_pos e0, bV_ret, if_pos e0, ix_ι (by omega), c76 h.cnw.1 ht, bI_ret]
    by_cases e : A 2 t = ι 0
    · rw [if_neg (fun g => g e), if_pos e]; exact oC.rf h Fr.refl (by omega)
    · rw [if_pos e, if_neg e]
      refine Wp.cV (h.ke Fr.refl) fun τ hτ => ?_
      obtain ⟨cw, me, st, f2⟩ := hτ
      rw [p81 (by decide) cw.lay (by omega), bV_ret]
      have cw2 := (cw.run' (t := t) (r := 0) (by omega)).any (i := 11) (x := ι 0) (by omega) (by omega) (by omega) (by omega)
      exact oC.act h (f := f2) (Fr.s2 ⟨by omega, by omega⟩ ⟨by omega, by omega⟩) me cw2 gI_s (like_up (by omega)) rfl
  · rw [if_neg e0, bV_3, if_neg e0]; exact oC.nse h
/-- give -/
def a_give (P T : Nat) (A : Wd) (m : Me) (x0 x1 : Int32) : AcR := if inb' T x0 = true then (if inb' P x1 = true then (if A 1 (ix x0) = x1 then ((0, ν 1), A, refS m 1) else ((0, A 1 (ix x0)), up A 1 (ix x0) x1, keS A m)) else ((1, ι 0), A, m)) else ((1, ι 0), A, m)
theorem o184 (h : CI P T W R A m im tp fp σ q) : Wp (pcall 184 [.ref 0, .int x0, .int x1] σ) (oC σ (fun τ => CI P T W R (a_give P T A m x0 x1).2.1 (a_give P T A m x0 x1).2.2 im tp fp τ q) (a_give P T A m x0 x1).1) := by
  have hP := h.cnw.1.1.P; have hT := h.cnw.1.1.T
  refine Wp.le (M_184 rfl h.cnw.1.lay) ?_
  unfold a_give
  rw [k178 h.cnw.1]
  by_cases e0 : inb' T x0 = true
  · obtain ⟨t, ht, rfl⟩ := inb'_t (by omega) e0
    rw [if_pos e0, bV_ret, if_pos e0, k176 h.cnw.1]
    by_cases e1 : inb' P x1 = true
    · obtain ⟨p, hp, rfl⟩ := inb'_t (by omega) e1
      rw [if_pos e1, bV_ret, if_pos e1, ix_ι (by omega), c75 h.cnw.1 ht, bI_ret]
      by_cases e : A 1 t = ι p
      · rw [if_neg (fun g => g e), if_pos e]; exact oC.rf h Fr.refl (by omega)
      · rw [if_pos e, if_neg e]
        refine Wp.cV (h.ke Fr.refl) fun τ hτ => ?_
        obtain ⟨cw, me, st, f2⟩ := hτ
        rw [p80 (by decide) cw.lay (by omega), bV_ret]
        have cw2 := (cw.own' (t := t) hp).any (i := 11) (x := ι 0) (by omega) (by omega) (by omega) (by omega)
        exact oC.act h (f := f2) (Fr.s2 ⟨by omega, by omega⟩ ⟨by omega, by omega⟩) me cw2 gI_s (like_up (by omega)) rfl
    · rw [if_neg e1, bV_3, if_neg e1]; exact oC.nse h
  · rw [if_neg e0, bV_3, if_neg e0]; exact oC.nse h
/-- taste -/
def a_taste (P T : Nat) (A : Wd) (m : Me) (x0 x1 x2 : Int32) : AcR := if inb' P x0 = true then (if inb' T x1 = true then (if btw (ι 0) (ι 9) x2 = true then (if x2 = A 4 (12 * ix x0 + ix x1) then ((0, ν 1), A, refS m 1) else ((0, A 4 (12 * ix x0 + ix x1)), up A 4 (12 * ix x0 + ix x1) x2, keS A m)) else ((0, ν 1), A, refS m 1)) else ((1, ι 0), A, m)) else ((1, ι 0), A, m)
theorem o185 (h : CI P T W R A m im tp fp σ q) : Wp (pcall 185 [.ref 0, .int x0, .int x1, .int x2] σ) (oC σ (fun τ => CI P T W R (a_taste P T A m x0 x1 x2).2.1 (a_taste P T A m x0 x1 x2).2.2 im tp fp τ q) (a_taste P T A m x0 x1 x2).1) := by
  have hP := h.cnw.1.1.P; have hT := h.cnw.1.1.T
  refine Wp.le (M_185 rfl h.cnw.1.lay) ?_
  unfold a_taste
  rw [k176 h.cnw.1]
  by_cases e0 : inb' P x0 = true
  · obtain ⟨p, hp, rfl⟩ := inb'_t (by omega) e0
    rw [if_pos e0, bV_ret, if_pos e0, k178 h.cnw.1]
    by_cases e1 : inb' T x1 = true
    · obtain ⟨t, ht, rfl⟩ := inb'_t (by omega) e1
      rw [if_pos e1, bV_ret, if_pos e1, ix_ι (by omega), ix_ι (by omega), c74 h.cnw.1 hp ht, bI_ret]
      by_cases e2 : btw (ι 0) (ι 9) x2 = true
      · obtain ⟨g1, g2⟩ := of_decide_eq_true e2
        obtain ⟨v, _, hv, rfl⟩ := btw_ι (by omega) (by omega) e2
        rw [if_neg g1, if_neg g2, if_pos e2]
        by_cases e : ι v = A 4 (12 * p + t)
        · rw [if_neg (fun g => g e), if_pos e]; exact oC.rf h Fr.refl (by omega)
        · rw [if_pos e, if_neg e]
          refine Wp.cV (h.ke Fr.refl) fun τ hτ => ?_
          obtain ⟨cw, me, st, f2⟩ := hτ
          rw [p95 (by decide) cw.lay (by omega) (by omega), bV_ret]
          have cw2 := (cw.wor' (m := 12 * p + t) (r := v) (by omega)).any (i := 11) (x := ι 0) (by omega) (by omega) (by omega) (by omega)
          exact oC.act h (f := f2) (Fr.s2 ⟨by omega, by omega⟩ ⟨by omega, by omega⟩) me cw2 gI_s (like_up (by omega)) rfl
      · rw [if_neg e2]
        by_cases g1 : x2 < ι 0
        · rw [if_pos g1]; exact oC.rf h Fr.refl (by omega)
        · rw [if_neg g1]
          by_cases g2 : ι 9 < x2
          · rw [if_pos g2]; exact oC.rf h Fr.refl (by omega)
          · exact absurd (decide_eq_true ⟨g1, g2⟩) e2
    · rw [if_neg e1, bV_3, if_neg e1]; exact oC.nse h
  · rw [if_neg e0, bV_3, if_neg e0]; exact oC.nse h
theorem hdg_dec : ∀ m, m < 256 → ∀ o, o < 8 → (m.testBit o = false → ι m ||| shl' (ι 1) (ι o) = ι (m ^^^ 2 ^ o)) ∧ (m.testBit o = true → ι m &&& (shl' (ι 1) (ι o) ^^^ ν 1) = ι (m ^^^ 2 ^ o)) ∧ ι m ^^^ shl' (ι 1) (ι o) = ι (m ^^^ 2 ^ o) := by decide +kernel
/-- a hedge cut or grown between p and o -/
def hdS (A : Wd) (p o : Nat) : Wd := up (up A 3 p (ι (seeN A p ^^^ 2 ^ o))) 3 o (ι (seeN A o ^^^ 2 ^ p))
theorem hd_at (h : okW P T A) (hp : p < P) (ho : o < P) (hne : p ≠ o) : (∀ r, r < P → ∃ m, m < 2 ^ P ∧ hdS A p o 3 r = ι m) ∧ ∀ r, r < P → ∀ s, s < P → tb (hdS A p o 3 r) s = (tb (A 3 r) s != decide (r = p ∧ s = o ∨ r = o ∧ s = p)) := by
  have hP := h.P
  obtain ⟨p1, p2, p3⟩ := see_n h hp
  obtain ⟨o1, o2, o3⟩ := see_n h ho
  have b1 : 2 ^ o < 2 ^ P := Nat.pow_lt_pow_right (by omega) ho
  have b2 : 2 ^ p < 2 ^ P := Nat.pow_lt_pow_right (by omega) hp
  have b8 : 2 ^ P ≤ 2 ^ 8 := Nat.pow_le_pow_right (by omega) hP
  have x1 : seeN A p ^^^ 2 ^ o < 2 ^ P := Nat.xor_lt_two_pow p2 b1
  have x2 : seeN A o ^^^ 2 ^ p < 2 ^ P := Nat.xor_lt_two_pow o2 b2
  have eo : hdS A p o 3 o = ι (seeN A o ^^^ 2 ^ p) := by unfold hdS; simp [up]
  have ep : hdS A p o 3 p = ι (seeN A p ^^^ 2 ^ o) := by unfold hdS; simp [up, hne]
  have er : ∀ r, r ≠ p → r ≠ o → hdS A p o 3 r = A 3 r := fun r h1 h2 => by unfold hdS; simp [up, h1, h2]
  refine ⟨fun r hr => ?_, fun r hr s hs => ?_⟩
  · by_cases e1 : r = o
    · rw [e1]; exact ⟨_, x2, eo⟩
    · by_cases e2 : r = p
      · rw [e2]; exact ⟨_, x1, ep⟩
      · rw [er r e2 e1]; exact h.see hr
  · by_cases e1 : r = o
    · subst e1
      rw [eo, tb_ι (by omega) (by omega), Nat.testBit_xor, Nat.testBit_two_pow, o1, tb_ι (by omega) (by omega)]
      have : ¬ r = p := fun g => hne g.symm
      by_cases e3 : s = p
      · simp [e3, this]
      · have : ¬ p = s := fun g => e3 g.symm
        simp [e3, this, hne.symm]
    · by_cases e2 : r = p
      · subst e2
        rw [ep, tb_ι (by omega) (by omega), Nat.testBit_xor, Nat.testBit_two_pow, p1, tb_ι (by omega) (by omega)]
        by_cases e3 : s = o
        · simp [e3, e1]
        · have : ¬ o = s := fun g => e3 g.symm
          simp [e3, this, e1]
      · rw [er r e2 e1]
        simp [e1, e2]
theorem hd_ok (h : okW P T A) (hp : p < P) (ho : o < P) (hne : p ≠ o) : okW P T (hdS A p o) ∧ like A (hdS A p o) := by
  obtain ⟨a1, a2⟩ := hd_at h hp ho hne
  have hh := h
  obtain ⟨h1, h2, h3, h4, h5, h6, h7, h8, h9, h10⟩ := h
  refine ⟨⟨h1, h2, h3, h4, h5, a1, fun r hr s hs => ?_, fun r hr => ?_, h9, h10⟩, fun p => rfl, fun t => rfl, rfl⟩
  · rw [a2 r hr s hs, a2 s hs r hr, h7 r hr s hs]
    congr 1
    exact decide_eq_decide.mpr ⟨fun g => by omega, fun g => by omega⟩
  · rw [a2 r hr r hr, h8 r hr]
    have : ¬ (r = p ∧ r = o ∨ r = o ∧ r = p) := by omega
    simp [this]
/-- hedge -/
def a_hedge (P : Nat) (A : Wd) (m : Me) (x0 x1 : Int32) (b : Bool) : AcR := if inb' P x0 = true then (if inb' P x1 = true then (if x0 = x1 then ((0, ι 0), A, refS m 1) else if tb (A 3 (ix x0)) (ix x1) = b then ((0, ι 0), A, refS m 1) else ((0, ι 1), hdS A (ix x0) (ix x1), keS A m)) else ((1, ι 0), A, m)) else ((1, ι 0), A, m)
theorem bz_ne (a b : Bool) : (bz a = bz b) = (a = b) := by cases a <;> cases b <;> decide
set_option maxHeartbeats 1000000 in
theorem c96 (h : CW P T W R A σ 25 q) (hp : p < P) (ho : o < P) (hne : p ≠ o) (hb : ¬ tb (A 3 p) o = b) : Wp (pcall 96 [.ref 25, .int (ι p), .int (ι o), .int (bz b)] σ) (RV (fun τ => CW P T W R (hdS A p o) τ 25 q ∧ gI τ 25 11 = ι 0 ∧ Fr (fun a => 25 ≤ a ∧ a ≤ 30) σ τ)) := by
  have hP := h.1.P
  obtain ⟨p1, p2, p3⟩ := see_n h.1 hp
  obtain ⟨o1, o2, o3⟩ := see_n h.1 ho
  obtain ⟨d1, d2, -⟩ := hdg_dec (seeN A p) p3 o (by omega)
  obtain ⟨d3, d4, -⟩ := hdg_dec (seeN A o) o3 p (by omega)
  have hsy := h.1.sym hp ho
  rw [p1, o1, tb_ι (by omega) (by omega), tb_ι (by omega) (by omega)] at hsy
  rw [p1, tb_ι (by omega) (by omega)] at hb
  have fin : Wp (some (0, .null, sI (sI (sI σ (25 + 3) p (ι (seeN A p ^^^ 2 ^ o))) (25 + 3) o (ι (seeN A o ^^^ 2 ^ p))) 25 11 (ι 0))) (RV (fun τ => CW P T W R (hdS A p o) τ 25 q ∧ gI τ 25 11 = ι 0 ∧ Fr (fun a => 25 ≤ a ∧ a ≤ 30) σ τ)) := by
    have f : Fr (fun a => 25 ≤ a ∧ a ≤ 30) σ (sI (sI (sI σ (25 + 3) p (ι (seeN A p ^^^ 2 ^ o))) (25 + 3) o (ι (seeN A o ^^^ 2 ^ p))) 25 11 (ι 0)) := ((Fr.refl.mI ⟨by omega, by omega⟩).mI ⟨by omega, by omega⟩).mI ⟨by omega, by omega⟩
    have k25 : ∀ i, i ≠ 11 → gI (sI (sI (sI σ (25 + 3) p (ι (seeN A p ^^^ 2 ^ o))) (25 + 3) o (ι (seeN A o ^^^ 2 ^ p))) 25 11 (ι 0)) 25 i = gI σ 25 i := fun i hi => by rw [gI_n hi, gI_c (by omega), gI_c (by omega)]
    have kx : ∀ a, a ≠ 25 → a ≠ 28 → ∀ i, gI (sI (sI (sI σ (25 + 3) p (ι (seeN A p ^^^ 2 ^ o))) (25 + 3) o (ι (seeN A o ^^^ 2 ^ p))) 25 11 (ι 0)) a i = gI σ a i := fun a h1 h2 i => by rw [gI_c h1, gI_c (by omega), gI_c (by omega)]
    refine Wp.retV ⟨h.mk' (hd_ok h.1 hp ho hne).1 (f.mono fun a s => Or.inr ⟨s.1, by omega⟩) (fun _ => rfl) (fun _ => rfl) (k25 1 (by omega)) (k25 2 (by omega)) (by rw [k25 3 (by omega)]; exact h.day) (by rw [k25 10 (by omega)]; exact h.sil) (fun t ht => by rw [kx _ (by omega) (by omega)]; exact h.own ht) (fun t ht => by rw [kx _ (by omega) (by omega)]; exact h.run ht) (fun r hr => ?_) (fun p' hp' t ht => by rw [kx _ (by omega) (by omega)]; exact h.wor hp' ht), gI_s, f⟩
    rw [gI_c (show 25 + 3 ≠ 25 by omega)]
    unfold hdS
    by_cases e1 : r = o
    · rw [e1, gI_s]; simp [up]
    · rw [gI_n e1]
      by_cases e2 : r = p
      · rw [e2, gI_s]; simp [up, hne]
      · rw [gI_n e2]
        show gI σ (25 + 3) r = _
        rw [h.see hr]; simp [up, e1, e2]
  refine Wp.le (M_96 (by decide) rfl h.lay) ?_
  rw [if_neg (by rw [ι_lt (by omega) (by omega)]; omega), if_neg (by rw [ι_le (by omega) (by omega)]; omega), if_neg (by rw [ι_lt (by omega) (by omega)]; omega), if_neg (by rw [ι_le (by omega) (by omega)]; omega), gd_inb (by omega) (by omega), gd_inb (by omega) (by omega), ix_ι (by omega), h.see hp, p1]
  have see_o : ∀ x, gI (sI σ (25 + 3) p x) (25 + 3) o = ι (seeN A o) := fun x => by rw [gI_n (fun g => hne g.symm), h.see ho, o1]
  cases b with
  | false =>
    have e1 : (seeN A p).testBit o = true := by simpa using hb
    rw [bz_f, if_pos rfl]
    refine Wp.le (T_96_60 (by decide) rfl h.lay) ?_
    rw [gd_inb (by omega) (by omega), if_pos rfl, gd_inb (by omega) (by omega), gd_inb (by omega) (by omega), ix_ι (by omega), ix_ι (by omega), d2 e1, see_o, d4 (by rw [← hsy]; exact e1)]
    exact fin
  | true =>
    have e1 : (seeN A p).testBit o = false := by simpa using hb
    rw [bz_t, if_neg (by decide)]
    refine Wp.le (T_96_60 (by decide) rfl h.lay) ?_
    rw [gd_inb (by omega) (by omega), if_neg (by decide), gd_inb (by omega) (by omega), gd_inb (by omega) (by omega), ix_ι (by omega), ix_ι (by omega), d1 e1, see_o, d3 (by rw [← hsy]; exact e1)]
    exact fin
theorem o186 (h : CI P T W R A m im tp fp σ q) : Wp (pcall 186 [.ref 0, .int x0, .int x1, .int (bz b)] σ) (oC σ (fun τ => CI P T W R (a_hedge P A m x0 x1 b).2.1 (a_hedge P A m x0 x1 b).2.2 im tp fp τ q) (a_hedge P A m x0 x1 b).1) := by
  have hP := h.cnw.1.1.P; have hT := h.cnw.1.1.T
  refine Wp.le (M_186 rfl h.cnw.1.lay) ?_
  unfold a_hedge
  rw [k176 h.cnw.1]
  by_cases e0 : inb' P x0 = true
  · obtain ⟨p, hp, rfl⟩ := inb'_t (by omega) e0
    rw [if_pos e0, bV_ret, if_pos e0, k176 h.cnw.1]
    by_cases e1 : inb' P x1 = true
    · obtain ⟨o, ho, rfl⟩ := inb'_t (by omega) e1
      rw [if_pos e1, bV_ret, if_pos e1, ix_ι (by omega), ix_ι (by omega)]
      by_cases e2 : ι p = ι o
      · rw [if_pos e2, if_pos e2, c104 h.cnw.1.lay (by omega), bI_ret]
        exact oC.ret rfl (h.rf Fr.refl (by omega)).1 (h.rf Fr.refl (by omega)).2
      · rw [if_neg e2, if_neg e2, p91 (by decide) h.cnw.1.lay (by omega) (by omega), bI_ret, h.cnw.1.see hp]
        have hne : p ≠ o := fun g => e2 (by rw [g])
        by_cases e : tb (A 3 p) o = b
        · rw [if_neg (fun g => g (by rw [e])), if_pos e, c104 h.cnw.1.lay (by omega), bI_ret]
          exact oC.ret rfl (h.rf Fr.refl (by omega)).1 (h.rf Fr.refl (by omega)).2
        · rw [if_pos (by rw [bz_ne]; exact e), if_neg e]
          refine Wp.cV (h.ke Fr.refl) fun τ hτ => ?_
          obtain ⟨cw, me, st, f2⟩ := hτ
          refine Wp.cV (c96 cw hp ho hne e) fun υ hυ => ?_
          exact oC.act h (f := f2) hυ.2.2 me hυ.1 hυ.2.1 (hd_ok h.cnw.1.1 hp ho hne).2 rfl
    · rw [if_neg e1, bV_3, if_neg e1]; exact oC.nse h
  · rw [if_neg e0, bV_3, if_neg e0]; exact oC.nse h
/-- undo -/
def a_undo (A : Wd) (m : Me) : AcR := if m.1.1 = 0 then ((0, ν 1), A, m) else ((0, ι (m.1.1 - 1)), m.1.2 (m.1.1 - 1), unS m)
theorem okMe.un (h : okMe P T A m) (h0 : m.1.1 ≠ 0) : okMe P T (m.1.2 (m.1.1 - 1)) (unS m) := by
  have h1 := h.2.1 (m.1.1 - 1) (by omega)
  refine okMe.lk (A := A) ⟨?_, fun k hk => h.2.1 k ?_, h.2.2⟩ h1.2
  · show m.1.1 - 1 ≤ 40; have := h.1; omega
  · have : k < m.1.1 - 1 := hk; omega
theorem o169 (h : CI P T W R A m im tp fp σ q) : Wp (pcall 169 [.ref 0] σ) (oC σ (fun τ => CI P T W R (a_undo A m).2.1 (a_undo A m).2.2 im tp fp τ q) (a_undo A m).1) := by
  have hP := h.cnw.1.1.P; have hT := h.cnw.1.1.T
  have h40 := h.mok.1
  refine Wp.le (M_169 rfl h.cnw.1.lay) ?_
  unfold a_undo
  have e106 : ∀ {d Q}, (d = pcall 106 [.ref 32, .ref 25] σ) → Wp (if ι 0 < gI σ 32 1 then bV (pcall 83 [.ref 25, .ref (32 + 1), .int (gI (sI σ 32 1 (gI σ 32 1 - ι 1)) 32 1)] (sI σ 32 1 (gI σ 32 1 - ι 1))) fun σ1 => some (1, .int (ι 1), σ1) else some (1, .int (ι 0), σ)) Q → Wp d Q := fun e w => by rw [e]; exact Wp.le (M_106 (by decide) (by decide) rfl h.cnw.1.lay) w
  by_cases e : m.1.1 = 0
  · rw [if_pos e]
    have w : Wp (pcall 106 [.ref 32, .ref 25] σ) (RI (ι 0) (fun τ => τ = σ)) := e106 rfl (by rw [h.mem.1, e, if_neg (by decide)]; exact Wp.retI rfl)
    refine Wp.cI w fun τ hτ => ?_
    subst hτ
    rw [if_pos rfl]
    exact oC.ret rfl h (Fq.refl)
  · rw [if_neg e]
    obtain ⟨n, hn⟩ : ∃ n, m.1.1 = n + 1 := ⟨m.1.1 - 1, by omega⟩
    have hn1 : m.1.1 - 1 = n := by omega
    have hr := h.mem.2.1 n (by omega)
    obtain ⟨ok, l⟩ := h.mok.2.1 n (by omega)
    have f0 : Fr (fun a => 32 ≤ a ∧ a ≤ 35) σ (sI σ 32 1 (ι n)) := Fr.refl.mI ⟨by omega, by omega⟩
    have w : Wp (pcall 106 [.ref 32, .ref 25] σ) (RI (ι 1) (fun τ => CW P T W R (m.1.2 n) τ 25 q ∧ gI τ 25 11 = ι 0 ∧ Fr (fun a => 25 ≤ a ∧ a ≤ 30) (sI σ 32 1 (ι n)) τ)) := e106 rfl (by
      rw [h.mem.1, hn, if_pos (by rw [ι_lt (by omega) (by omega)]; omega), ι_sub (by omega), Nat.add_sub_cancel, gI_s]
      refine Wp.cV (c83 (h.cnw.1.fm f0) (hr.mv hP hT (fun i _ => gI_c (by omega))) (show n < 40 by omega) ok l) fun τ hτ => ?_
      exact Wp.retI hτ)
    refine Wp.cI w fun τ hτ => ?_
    obtain ⟨cw, e11, f⟩ := hτ
    have f3 : Fr (fun a => Sc a ∨ (25 ≤ a ∧ a ≤ 35)) σ τ := (f0.mono fun a s => Or.inr (by omega)).trans (f.mono fun a s => Or.inr (by omega))
    have k32 : gI τ 32 1 = ι n := by rw [f.i (by omega), gI_s]
    have kx : ∀ a, 33 ≤ a → a ≤ 35 → ∀ i, gI τ a i = gI σ a i := fun a h1 h2 i => by rw [f.i (by omega), gI_c (by omega)]
    rw [if_neg (by decide), k107 cw.lay, bI_ret, k32, hn1]
    refine oC.ret rfl (h.st cw (Or.inl e11) l (by have := h.mok.un e; rw [hn1] at this; exact this) ⟨by rw [k32]; show ι n = ι (m.1.1 - 1); rw [hn1], fun k hk => (h.mem.2.1 k (by have : k < m.1.1 - 1 := hk; omega)).mv hP hT (fun i _ => kx 33 (by omega) (by omega) _), ⟨by rw [f.i (by omega), gI_n (by omega)]; exact h.mem.2.2.1.1, fun k hk => by rw [kx 34 (by omega) (by omega), kx 34 (by omega) (by omega), kx 34 (by omega) (by omega)]; exact h.mem.2.2.1.2 k hk⟩, fun i hi => by rw [kx 35 (by omega) (by omega)]; exact h.mem.2.2.2 i hi⟩ f3) (CA.ke f3)
/-- see -/
def seeS (m : Me) (t d p : Nat) : Me := (m.1, (m.2.1.1 + 1, fun k => if k = m.2.1.1 then (t, d, p) else m.2.1.2 k), m.2.2)
def a_see (P T : Nat) (A : Wd) (m : Me) (x0 x1 x2 : Int32) : AcR := if inb' T x0 = true then (if inb' P x2 = true then (if m.2.1.1 = 8 then ((0, ν 1), A, refS m 2) else if btw (ι 0) (ι 20) x1 = true then ((0, ι (m.2.1.1 + 1)), A, seeS m (ix x0) (ix x1) (ix x2)) else ((0, ν 1), A, refS m 2)) else ((1, ι 0), A, m)) else ((1, ι 0), A, m)
theorem okMe.se {d : Nat} (h : okMe P T A m) (h8 : m.2.1.1 ≠ 8) (ht : t < T) (hd : d ≤ 20) (hp : p < P) : okMe P T A (seeS m t d p) := by
  refine ⟨h.1, h.2.1, by show m.2.1.1 + 1 ≤ 8; have := h.2.2.1; omega, fun k hk => ?_⟩
  have hk : k < m.2.1.1 + 1 := hk
  show (if k = m.2.1.1 then (t, d, p) else m.2.1.2 k).1 < T ∧ (if k = m.2.1.1 then (t, d, p) else m.2.1.2 k).2.1 ≤ 20 ∧ (if k = m.2.1.1 then (t, d, p) else m.2.1.2 k).2.2 < P
  by_cases e : k = m.2.1.1
  · rw [if_pos e]; exact ⟨ht, hd, hp⟩
  · rw [if_neg e]; exact h.2.2.2 k (by omega)
set_option maxHeartbeats 1000000 in
theorem o201 (h : CI P T W R A m im tp fp σ q) : Wp (pcall 201 [.ref 0, .int x0, .int x1, .int x2] σ) (oC σ (fun τ => CI P T W R (a_see P T A m x0 x1 x2).2.1 (a_see P T A m x0 x1 x2).2.2 im tp fp τ q) (a_see P T A m x0 x1 x2).1) := by
  have hP := h.cnw.1.1.P; have hT := h.cnw.1.1.T
  have h8 := h.mok.2.2.1
  refine Wp.le (M_201 rfl h.cnw.1.lay) ?_
  unfold a_see
  rw [k178 h.cnw.1]
  by_cases e0 : inb' T x0 = true
  · obtain ⟨t, ht, rfl⟩ := inb'_t (by omega) e0
    rw [if_pos e0, bV_ret, if_pos e0, k176 h.cnw.1]
    by_cases e1 : inb' P x2 = true
    · obtain ⟨p, hp, rfl⟩ := inb'_t (by omega) e1
      rw [if_pos e1, bV_ret, if_pos e1, ix_ι (by omega), ix_ι (by omega), k111 h.cnw.1.lay, bI_ret, h.mem.2.2.1.1]
      by_cases e8 : m.2.1.1 = 8
      · rw [if_pos (by rw [ι_le (by omega) (by omega)]; omega), if_pos e8]; exact oC.rf h Fr.refl (by omega)
      · rw [if_neg (by rw [ι_le (by omega) (by omega)]; omega), if_neg e8]
        by_cases e2 : btw (ι 0) (ι 20) x1 = true
        · obtain ⟨g1, g2⟩ := of_decide_eq_true e2
          obtain ⟨d, _, hd, rfl⟩ := btw_ι (by omega) (by omega) e2
          rw [if_neg g1, if_pos (Int32.not_lt.mp g2), if_pos e2, ix_ι (by omega)]
          have w : Wp (pcall 113 [.ref 32, .int (ι t), .int (ι d), .int (ι p)] σ) (RV (fun τ => τ = sI (sI (sI (sI σ 34 (3 * m.2.1.1) (ι t)) 34 (3 * m.2.1.1 + 1) (ι d)) 34 (3 * m.2.1.1 + 2) (ι p)) 32 3 (ι (m.2.1.1 + 1)))) := by
            refine Wp.le (M_113 (by decide) rfl h.cnw.1.lay) ?_
            have e3 : gI σ 32 3 = ι m.2.1.1 := h.mem.2.2.1.1
            rw [gI_c (show 32 ≠ 32 + 2 by omega), gI_c (show 32 ≠ 32 + 2 by omega), gI_c (show 32 ≠ 32 + 2 by omega), e3, ι_mul, ι_add, ι_add, ι_add, Nat.mul_comm m.2.1.1 3, if_neg (by rw [ι_lt (by omega) (by omega)]; omega), if_neg (by rw [ι_le (by omega) (by omega)]; omega), gd_inb (by omega) (by omega), gd_inb (by omega) (by omega), gd_inb (by omega) (by omega), ix_ι (by omega), ix_ι (by omega), ix_ι (by omega)]
            exact Wp.retV rfl
          refine Wp.cV w fun τ hτ => ?_
          have f : Fr (fun a => Sc a ∨ (25 ≤ a ∧ a ≤ 35)) σ τ := by rw [hτ]; exact (((Fr.refl.mI (Or.inr ⟨by omega, by omega⟩)).mI (Or.inr ⟨by omega, by omega⟩)).mI (Or.inr ⟨by omega, by omega⟩)).mI (Or.inr ⟨by omega, by omega⟩)
          have f2 : Fr (fun a => 32 ≤ a ∧ a ≤ 35) σ τ := by rw [hτ]; exact (((Fr.refl.mI ⟨by omega, by omega⟩).mI ⟨by omega, by omega⟩).mI ⟨by omega, by omega⟩).mI ⟨by omega, by omega⟩
          have cw := h.cnw.1.fm f2
          have k3 : gI τ 32 3 = ι (m.2.1.1 + 1) := by rw [hτ, gI_s]
          have k1 : gI τ 32 1 = gI σ 32 1 := by rw [hτ, gI_n (by omega), gI_c (by omega), gI_c (by omega), gI_c (by omega)]
          have kx : ∀ a, a ≠ 32 → a ≠ 34 → ∀ i, gI τ a i = gI σ a i := fun a h1 h2 i => by rw [hτ, gI_c h1, gI_c h2, gI_c h2, gI_c h2]
          have k34 : ∀ j, gI τ 34 j = if j = 3 * m.2.1.1 + 2 then ι p else if j = 3 * m.2.1.1 + 1 then ι d else if j = 3 * m.2.1.1 then ι t else gI σ 34 j := fun j => by rw [hτ, gI_c (by omega), gI_sI, if_pos rfl, gI_sI, if_pos rfl, gI_sI, if_pos rfl]
          rw [k111 cw.lay, bI_ret, k3]
          refine oC.ret rfl (h.st cw (h.cnw.2.1.mv (kx 25 (by omega) (by omega) 11)) like.rf (h.mok.se e8 ht hd hp) ⟨by rw [k1]; exact h.mem.1, fun k hk => (h.mem.2.1 k hk).mv hP hT (fun i _ => kx 33 (by omega) (by omega) _), ⟨k3, fun k hk => ?_⟩, fun i hi => by rw [kx 35 (by omega) (by omega)]; exact h.mem.2.2.2 i hi⟩ f) (CA.ke f)
          have hk : k < m.2.1.1 + 1 := hk
          show gI τ 34 (3 * k) = ι (if k = m.2.1.1 then (t, d, p) else m.2.1.2 k).1 ∧ gI τ 34 (3 * k + 1) = ι (if k = m.2.1.1 then (t, d, p) else m.2.1.2 k).2.1 ∧ gI τ 34 (3 * k + 2) = ι (if k = m.2.1.1 then (t, d, p) else m.2.1.2 k).2.2
          rw [k34, k34, k34]
          by_cases e : k = m.2.1.1
          · rw [if_pos e, e, if_neg (by omega), if_neg (by omega), if_pos rfl, if_neg (by omega), if_pos rfl, if_pos rfl]
            exact ⟨rfl, rfl, rfl⟩
          · rw [if_neg e, if_neg (by omega), if_neg (by omega), if_neg (by omega), if_neg (by omega), if_neg (by omega), if_neg (by omega), if_neg (by omega), if_neg (by omega), if_neg (by omega)]
            exact h.mem.2.2.1.2 k (by omega)
        · rw [if_neg e2]
          by_cases g1 : x1 < ι 0
          · rw [if_pos g1]; exact oC.rf h Fr.refl (by omega)
          · rw [if_neg g1]
            by_cases g2 : x1 ≤ ι 20
            · exact absurd (decide_eq_true ⟨g1, Int32.not_lt.mpr g2⟩) e2
            · rw [if_neg g2]; exact oC.rf h Fr.refl (by omega)
    · rw [if_neg e1, bV_3, if_neg e1]; exact oC.nse h
  · rw [if_neg e0, bV_3, if_neg e0]; exact oC.nse h
end ACTS1
