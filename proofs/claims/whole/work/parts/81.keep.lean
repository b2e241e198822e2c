/-! ===== acts are kept and taken back, calls refused: both sides ===== -/
section KEEP
variable {P T : Nat} {W R : Rl} {A B : Wd} {σ τ υ σ0 : pS} {q c c' n k i j off off' u a sp dp : Nat} {m : Me} {y : Int32} {s : pS}
theorem cp_ok {a b c ns nd : Nat} (h1 : a + c ≤ ns) (h2 : b + c ≤ nd) (h3 : ns < 100000) (h4 : nd < 100000) : cpok (ι a) (ι b) (ι c) ns nd := by
  intro g
  have n0 : ∀ x, x < 100000 → ¬ (ι x < 0) := fun x hx => by rw [ι_neg (by omega)]; exact id
  rcases g with g | g | g | g | g
  · exact n0 a (by omega) g
  · exact n0 b (by omega) g
  · exact n0 c (by omega) g
  · rw [ix_ι (by omega), ix_ι (by omega)] at g; omega
  · rw [ix_ι (by omega), ix_ι (by omega)] at g; omega
theorem gI_cp : gI (sA s a (va_cpy (gI s u) (gI s a) 0 dp n)) a j = if dp ≤ j ∧ j < dp + n then gI s u (j - dp) else gI s a j := by
  rw [gI_sA, if_pos rfl]; unfold va_cpy; rw [Nat.zero_add]
theorem gI_cp2 : gI (sA s a (va_cpy (gI s u) (gI s a) sp 0 n)) a j = if j < n then gI s u (sp + j) else gI s a j := by
  rw [gI_sA, if_pos rfl]; unfold va_cpy
  by_cases e : j < n
  · rw [if_pos ⟨by omega, by omega⟩, if_pos e, Nat.sub_zero]
  · rw [if_neg (by omega), if_neg e]
theorem gI_cn {f : Nat → Int32} (h : c ≠ a) : gI (sA s a f) c j = gI s c j := by rw [gI_sA, if_neg h]
def refS (m : Me) (i : Nat) : Me := (m.1, m.2.1, st1 m.2.2 i (m.2.2 i + ι 1))
def keS (A : Wd) (m : Me) : Me := if m.1.1 < 40 then ((m.1.1 + 1, fun k => if k = m.1.1 then A else m.1.2 k), m.2) else ((40, fun k => if k = 39 then A else m.1.2 (k + 1)), m.2)
theorem okMe.rf (h : okMe P T A m) : okMe P T A (refS m i) := h
theorem okMe.ke (h : okMe P T A m) (ok : okW P T A) : okMe P T A (keS A m) := by
  unfold keS
  by_cases e : m.1.1 < 40
  · rw [if_pos e]
    refine ⟨by show m.1.1 + 1 ≤ 40; omega, fun k hk => ?_, h.2.2⟩
    show okW P T (if k = m.1.1 then A else m.1.2 k) ∧ like A (if k = m.1.1 then A else m.1.2 k)
    have hk : k < m.1.1 + 1 := hk
    by_cases e2 : k = m.1.1
    · rw [if_pos e2]; exact ⟨ok, like.rf⟩
    · rw [if_neg e2]; exact h.2.1 k (by omega)
  · rw [if_neg e]
    have h40 := h.1
    refine ⟨Nat.le_refl 40, fun k hk => ?_, h.2.2⟩
    show okW P T (if k = 39 then A else m.1.2 (k + 1)) ∧ like A (if k = 39 then A else m.1.2 (k + 1))
    have hk : k < 40 := hk
    by_cases e2 : k = 39
    · rw [if_pos e2]; exact ⟨ok, like.rf⟩
    · rw [if_neg e2]; exact h.2.1 (k + 1) (by omega)
theorem c104 (hL : LayR (gR σ)) (hi : i < 3) : pcall 104 [.ref 32, .int (ι i)] σ = some (1, .int (ν 1), sI σ 35 i (gI σ 35 i + ι 1)) := by
  refine (M_104 (by decide) rfl hL).eq ?_
  rw [if_neg (by rw [ι_lt (by omega) (by omega)]; omega), if_neg (by rw [ι_le (by omega) (by omega)]; omega), gd_inb (by omega) (by omega), gd_inb (by omega) (by omega), ix_ι (by omega)]
theorem m269 (hL : LayR (gR σ)) (hi : i < 3) : pcall 269 [.ref 61, .int (ι i)] σ = some (1, .int (ν 1), sI σ 73 i (gI σ 73 i + ι 1)) := by
  refine (M_269 rfl hL).eq ?_
  rw [gd_inb (by omega) (by omega), gd_inb (by omega) (by omega), ix_ι (by omega)]
theorem CW.fm (h : CW P T W R A σ 25 q) (f : Fr (fun a => 32 ≤ a ∧ a ≤ 35) σ τ) : CW P T W R A τ 25 q :=
  ⟨h.1, h.2.1.fr f (fun i hi => by rcases h.isp with rfl | rfl <;> omega), h.2.2.fr f (fun i hi => by omega)⟩
set_option maxHeartbeats 1000000 in
theorem c70 (h : CW P T W R A σ 25 q) (hk : k < 40) : Wp (pcall 70 [.ref 25, .ref 33, .int (ι k)] σ) (RV (fun τ => Fr (fun a => a = 33) σ τ ∧ (∀ i, i < 129 * k ∨ 129 * k + 129 ≤ i → gI τ 33 i = gI σ 33 i) ∧ RowC P T A τ 33 (129 * k))) := by
  have hP := h.1.P; have hT := h.1.T
  refine Wp.le (M_70 (w := 25) (n0 := 5160) (by decide) rfl rfl h.lay) ?_
  rw [ι_mul, Nat.mul_comm k 129, if_neg (by rw [ι_lt (by omega) (by omega)]; omega), if_neg (by rw [ι_lt (by omega) (by omega)]; omega), ι_add, if_pos (by rw [ι_le (by omega) (by omega)]; omega), gd_inb (by omega) (by omega)]
  simp (disch := omega) only [ι_add, ix_ι]
  refine Wp.lt fun s1 e1 => ?_
  refine Wp.g (cp_ok (by omega) (by omega) (by omega) (by omega)) ?_
  refine Wp.lt fun s2 e2 => ?_
  refine Wp.g (cp_ok (by omega) (by omega) (by omega) (by omega)) ?_
  refine Wp.lt fun s3 e3 => ?_
  refine Wp.g (cp_ok (by omega) (by omega) (by omega) (by omega)) ?_
  refine Wp.lt fun s4 e4 => ?_
  refine Wp.g (cp_ok (by omega) (by omega) (by omega) (by omega)) ?_
  refine Wp.lt fun s5 e5 => ?_
  have f1 : Fr (fun a => a = 33) σ s1 := by rw [e1]; exact Fr.refl.mI rfl
  have f2 : Fr (fun a => a = 33) σ s2 := by rw [e2]; exact f1.mA rfl
  have f3 : Fr (fun a => a = 33) σ s3 := by rw [e3]; exact f2.mA rfl
  have f4 : Fr (fun a => a = 33) σ s4 := by rw [e4]; exact f3.mA rfl
  have f5 : Fr (fun a => a = 33) σ s5 := by rw [e5]; exact f4.mA rfl
  have g1 : ∀ j, gI s1 33 j = if j = 129 * k then gI σ 25 3 else gI σ 33 j := fun j => by rw [e1, gI_sI, if_pos rfl]
  have g2 : ∀ j, gI s2 33 j = if 129 * k + 1 ≤ j ∧ j < 129 * k + 1 + 12 then gI σ 26 (j - (129 * k + 1)) else gI s1 33 j := fun j => by rw [e2, gI_cp, f1.i (by omega)]
  have g3 : ∀ j, gI s3 33 j = if 129 * k + 1 + 12 ≤ j ∧ j < 129 * k + 1 + 12 + 12 then gI σ 27 (j - (129 * k + 1 + 12)) else gI s2 33 j := fun j => by rw [e3, gI_cp, f2.i (by omega)]
  have g4 : ∀ j, gI s4 33 j = if 129 * k + 1 + 12 + 12 ≤ j ∧ j < 129 * k + 1 + 12 + 12 + 8 then gI σ 28 (j - (129 * k + 1 + 12 + 12)) else gI s3 33 j := fun j => by rw [e4, gI_cp, f3.i (by omega)]
  have g5 : ∀ j, gI s5 33 j = if 129 * k + 1 + 12 + 12 + 8 ≤ j ∧ j < 129 * k + 1 + 12 + 12 + 8 + 96 then gI σ 29 (j - (129 * k + 1 + 12 + 12 + 8)) else gI s4 33 j := fun j => by rw [e5, gI_cp, f4.i (by omega)]
  refine Wp.retV ⟨f5, fun j hj => ?_, ?_, fun t ht => ?_, fun t ht => ?_, fun p hp => ?_, fun p hp t ht => ?_⟩
  · rw [g5, if_neg (by omega), g4, if_neg (by omega), g3, if_neg (by omega), g2, if_neg (by omega), g1, if_neg (by omega)]
  · rw [g5, if_neg (by omega), g4, if_neg (by omega), g3, if_neg (by omega), g2, if_neg (by omega), g1, if_pos rfl]; exact h.day
  · rw [g5, if_neg (by omega), g4, if_neg (by omega), g3, if_neg (by omega), g2, if_pos (by omega), show 129 * k + (1 + t) - (129 * k + 1) = t by omega]; exact h.own ht
  · rw [g5, if_neg (by omega), g4, if_neg (by omega), g3, if_pos (by omega), show 129 * k + (13 + t) - (129 * k + 1 + 12) = t by omega]; exact h.run ht
  · rw [g5, if_neg (by omega), g4, if_pos (by omega), show 129 * k + (25 + p) - (129 * k + 1 + 12 + 12) = p by omega]; exact h.see hp
  · rw [g5, if_pos (by omega), show 129 * k + (33 + (12 * p + t)) - (129 * k + 1 + 12 + 12 + 8) = 12 * p + t by omega]; exact h.wor hp ht
/-- what an act's being kept leaves -/
def KeC (P T : Nat) (A : Wd) (m : Me) (σ τ : pS) : Prop := Fr (fun a => 32 ≤ a ∧ a ≤ 35) σ τ ∧ MeC P T (keS A m) τ 32
theorem c105 (h : CW P T W R A σ 25 q) (me : MeC P T m σ 32) (ok : okMe P T A m) : Wp (pcall 105 [.ref 32, .ref 25] σ) (RV (KeC P T A m σ)) := by
  have hP := h.1.P; have hT := h.1.T
  have h40 := ok.1
  have h8 := ok.2.2.1
  refine Wp.le (M_105 (by decide) (by decide) rfl h.lay) ?_
  rw [me.1]
  unfold KeC keS
  by_cases e : m.1.1 < 40
  · rw [if_pos (by rw [ι_lt (by omega) (by omega)]; exact e), if_pos e]
    refine Wp.cV (c70 h e) fun τ hτ => ?_
    obtain ⟨f, z, r⟩ := hτ
    rw [f.i (by omega), me.1, ι_add]
    have k1 : ∀ a, a ≠ 32 → a ≠ 33 → ∀ i, gI (sI τ 32 1 (ι (m.1.1 + 1))) a i = gI σ a i := fun a h1 h2 i => by rw [gI_c h1, f.i h2]
    refine Wp.retV ⟨(f.mono (fun a s => by omega)).mI ⟨by omega, by omega⟩, gI_s, fun k hk => ?_, ⟨by rw [gI_n (by omega), f.i (by omega)]; exact me.2.2.1.1, fun k hk => ?_⟩, fun i hi => by rw [k1 _ (by omega) (by omega)]; exact me.2.2.2 i hi⟩
    · show RowC P T (if k = m.1.1 then A else m.1.2 k) _ _ _
      have hk : k < m.1.1 + 1 := hk
      by_cases e2 : k = m.1.1
      · rw [if_pos e2, e2]
        exact r.mv hP hT (fun i hi => gI_c (by omega))
      · rw [if_neg e2]
        exact (me.2.1 k (by omega)).mv hP hT (fun i hi => by rw [gI_c (by omega)]; exact z _ (by omega))
    · rw [k1 _ (by omega) (by omega), k1 _ (by omega) (by omega), k1 _ (by omega) (by omega)]; exact me.2.2.1.2 k hk
  · rw [if_neg (by rw [ι_lt (by omega) (by omega)]; exact e), if_neg e]
    have e40 : m.1.1 = 40 := by omega
    have es : gI (sI (sA σ (32 + 1) (va_cpy (gI σ (32 + 1)) (gI σ (32 + 1)) 129 0 5031)) 32 1 (ι 39)) 32 1 = ι 39 := gI_s
    rw [es]
    have f0 : Fr (fun a => 32 ≤ a ∧ a ≤ 35) σ (sI (sA σ (32 + 1) (va_cpy (gI σ (32 + 1)) (gI σ (32 + 1)) 129 0 5031)) 32 1 (ι 39)) := (Fr.refl.mA ⟨by omega, by omega⟩).mI ⟨by omega, by omega⟩
    have g33 : ∀ j, gI (sI (sA σ (32 + 1) (va_cpy (gI σ (32 + 1)) (gI σ (32 + 1)) 129 0 5031)) 32 1 (ι 39)) 33 j = if j < 5031 then gI σ 33 (129 + j) else gI σ 33 j := fun j => by rw [gI_c (by omega)]; exact gI_cp2
    have gx : ∀ a, a ≠ 32 → a ≠ 33 → ∀ i, gI (sI (sA σ (32 + 1) (va_cpy (gI σ (32 + 1)) (gI σ (32 + 1)) 129 0 5031)) 32 1 (ι 39)) a i = gI σ a i := fun a h1 h2 i => by rw [gI_c h1, gI_cn (by omega)]
    have g3 : gI (sI (sA σ (32 + 1) (va_cpy (gI σ (32 + 1)) (gI σ (32 + 1)) 129 0 5031)) 32 1 (ι 39)) 32 3 = gI σ 32 3 := by rw [gI_n (by omega), gI_cn (by omega)]
    generalize sI (sA σ (32 + 1) (va_cpy (gI σ (32 + 1)) (gI σ (32 + 1)) 129 0 5031)) 32 1 (ι 39) = s at es f0 g33 gx g3
    refine Wp.cV (c70 (h.fm f0) (show 39 < 40 by omega)) fun τ hτ => ?_
    obtain ⟨f, z, r⟩ := hτ
    rw [f.i (by omega), es, ι_add]
    have k1 : ∀ a, a ≠ 32 → a ≠ 33 → ∀ i, gI (sI τ 32 1 (ι (39 + 1))) a i = gI σ a i := fun a h1 h2 i => by rw [gI_c h1, f.i h2, gx a h1 h2]
    refine Wp.retV ⟨(f0.trans (f.mono (fun a s => by omega))).mI ⟨by omega, by omega⟩, gI_s, fun k hk => ?_, ⟨by rw [gI_n (by omega), f.i (by omega), g3]; exact me.2.2.1.1, fun k hk => ?_⟩, fun i hi => by rw [k1 _ (by omega) (by omega)]; exact me.2.2.2 i hi⟩
    · show RowC P T (if k = 39 then A else m.1.2 (k + 1)) _ _ _
      have hk : k < 40 := hk
      by_cases e2 : k = 39
      · rw [if_pos e2, e2]
        exact r.mv hP hT (fun i hi => gI_c (by omega))
      · rw [if_neg e2]
        exact (me.2.1 (k + 1) (by omega)).mv hP hT (fun i hi => by rw [gI_c (by omega), z _ (by omega), g33, if_pos (by omega)]; congr 1; omega)
    · rw [k1 _ (by omega) (by omega), k1 _ (by omega) (by omega), k1 _ (by omega) (by omega)]; exact me.2.2.1.2 k hk
/-- what an act's being kept leaves in the reference -/
def KeM (P T : Nat) (A : Wd) (m : Me) (σ τ : pS) : Prop := Fr (fun a => a = 61 ∨ a = 79) σ τ ∧ (∀ i, i ≠ 32 → gI τ 61 i = gI σ 61 i) ∧ MeM P T (keS A m) τ
theorem CM.f79 (h : CM P T W R A σ) (f : Fr (fun a => a = 61 ∨ a = 79) σ τ) (e : ∀ i, i ≠ 32 → gI τ 61 i = gI σ 61 i) : CM P T W R A τ := by
  obtain ⟨a1, a2, a3, a4, a5, a6, a7, a8, a9, a10, a11, a12, a13, a14, a15, a16, a17, a18⟩ := h
  exact ⟨a1, by rw [f.r]; exact a2, by rw [f.i (by omega)]; exact a3, by rw [f.i (by omega)]; exact a4, by rw [f.i (by omega)]; exact a5, by rw [f.i (by omega)]; exact a6, a7, a8, fun i hi => by rw [f.i (by omega)]; exact a9 i hi, fun i hi => by rw [f.i (by omega)]; exact a10 i hi, by rw [e 31 (by omega)]; exact a11, by rw [e 36 (by omega)]; exact a12, fun i hi => by rw [f.i (by omega)]; exact a13 i hi, fun i hi => by rw [f.i (by omega)]; exact a14 i hi, fun i hi j hj => by rw [f.i (by omega)]; exact a15 i hi j hj, fun i hi => by rw [f.i (by omega)]; exact a16 i hi, fun i hi => by rw [f.i (by omega)]; exact a17 i hi, fun i hi => by rw [f.i (by omega)]; exact a18 i hi⟩
set_option maxHeartbeats 1000000 in
theorem m270 (h : CM P T W R A σ) (me : MeM P T m σ) (ok : okMe P T A m) : Wp (pcall 270 [.ref 61] σ) (RV (KeM P T A m σ)) := by
  have hP := h.ok.P; have hT := h.ok.T
  have h40 := ok.1
  have h8 := ok.2.2.1
  -- behind the shift: n rows stand
  have fin : ∀ τ n (K : Nat → Wd) v, n < 40 → CM P T W R A τ → Fr (fun a => a = 61 ∨ a = 79) σ τ → (∀ i, i ≠ 32 → gI τ 61 i = gI σ 61 i) → gI τ 61 32 = ι n → (∀ k, k < n → RowA P T (K k) τ 79 (129 * k)) → ((n + 1, fun k => if k = n then A else K k), m.2) = keS A m → Wp (C_270_54 v τ) (RV (KeM P T A m σ)) := by
    intro τ n K v hn hm f e61 e32 rows ek
    refine Wp.le (T_270_54 rfl hm.lay) ?_
    rw [e32, ι_mul]
    obtain ⟨z, hz, w, τ1, rfl, hk⟩ := m271 (a0 := 79) (off := 129 * n) (n0 := 5160) hm.lay rfl (by omega) (by omega) (by unfold nPk; omega)
    rw [hz, bV_ret, hk.1.i (by omega), e32, ι_add]
    have f2 : Fr (fun a => a = 61 ∨ a = 79) σ (sI τ1 61 32 (ι (n + 1))) := (f.trans (hk.1.mono fun a s => Or.inr s)).mI (Or.inl rfl)
    refine Wp.retV ⟨f2, fun i hi => by rw [gI_n hi, hk.1.i (by omega)]; exact e61 i hi, ?_⟩
    rw [← ek]
    refine ⟨gI_s, fun k hkn => ?_, by rw [gI_n (by omega), hk.1.i (by omega), e61 33 (by omega)]; exact me.2.2.1, fun k hk => ?_, fun i hi => by rw [f2.i (by omega)]; exact me.2.2.2.2 i hi⟩
    · show RowA P T (if k = n then A else K k) _ _ _
      have hkn : k < n + 1 := hkn
      by_cases e2 : k = n
      · rw [if_pos e2, e2]
        exact (hk.row hm).mv hP hT (fun i hi => gI_c (by omega))
      · rw [if_neg e2]
        exact (rows k (by omega)).mv hP hT (fun i hi => by rw [gI_c (by omega)]; exact hk.2.1 _ (by omega))
    · rw [f2.i (by omega), f2.i (by omega), f2.i (by omega)]; exact me.2.2.2.1 k hk
  refine Wp.le (M_270 rfl h.lay) ?_
  rw [me.1]
  by_cases e : m.1.1 < 40
  · rw [if_pos (by rw [ι_eq (by omega) (by omega)]; omega)]
    exact fin σ m.1.1 m.1.2 _ e h Fr.refl (fun _ _ => rfl) me.1 me.2.1 (by unfold keS; rw [if_pos e])
  · have e40 : m.1.1 = 40 := by omega
    rw [if_neg (by rw [e40]; exact fun g => g rfl)]
    refine Wp.loop (α := pS) 5031 (fun j τ => C_270_13 (ι (129 + j)) τ) (fun j τ => Fr (fun a => a = 79) σ τ ∧ ∀ i, gI τ 79 i = if i < j then gI σ 79 (129 + i) else gI σ 79 i) ?_ ?_ (t := 0) (a := σ) (Nat.zero_le _) ⟨Fr.refl, fun i => by rw [if_neg (Nat.not_lt_zero i)]⟩
    · rintro j τ hj ⟨f, g⟩ c
      refine Wp.le (T_270_13 rfl (by rw [f.r]; exact h.lay)) ?_
      rw [if_neg (by rw [ι_le (by omega) (by omega)]; omega), gd_inb (by omega) (by omega), ι_sub (by omega), gd_inb (by omega) (by omega), ix_ι (by omega), ix_ι (by omega), ι_add, show 129 + j - 129 = j by omega, g, if_neg (by omega)]
      refine c _ ⟨f.mI rfl, fun i => ?_⟩
      by_cases e : i = j
      · rw [e, gI_s, if_pos (by omega)]
      · rw [gI_n e, g]
        by_cases e2 : i < j
        · rw [if_pos e2, if_pos (by omega)]
        · rw [if_neg e2, if_neg (by omega)]
    · rintro τ ⟨f, g⟩
      refine Wp.le (T_270_13 rfl (by rw [f.r]; exact h.lay)) ?_
      rw [if_pos (by rw [ι_le (by omega) (by omega)]; omega), f.i (by omega), me.1, e40, ι_sub (by omega)]
      have f2 : Fr (fun a => a = 61 ∨ a = 79) σ (sI τ 61 32 (ι (40 - 1))) := (f.mono fun a s => Or.inr s).mI (Or.inl rfl)
      have e61 : ∀ i, i ≠ 32 → gI (sI τ 61 32 (ι (40 - 1))) 61 i = gI σ 61 i := fun i hi => by rw [gI_n hi, f.i (by omega)]
      refine fin _ 39 (fun k => m.1.2 (k + 1)) _ (by omega) (h.f79 f2 e61) f2 e61 gI_s (fun k hk => ?_) (by unfold keS; rw [if_neg e])
      exact (me.2.1 (k + 1) (by omega)).mv hP hT (fun i hi => by rw [gI_c (by omega), g, if_pos (by omega)]; congr 1; omega)
/-- an act is taken back -/
def unS (m : Me) : Me := ((m.1.1 - 1, m.1.2), m.2)
set_option maxHeartbeats 1000000 in
theorem c83 (h : CW P T W R A σ 25 q) (r : RowC P T B σ 33 (129 * k)) (hk : k < 40) (ok : okW P T B) (l : like A B) : Wp (pcall 83 [.ref 25, .ref 33, .int (ι k)] σ) (RV (fun τ => CW P T W R B τ 25 q ∧ gI τ 25 11 = ι 0 ∧ Fr (fun a => 25 ≤ a ∧ a ≤ 30) σ τ)) := by
  have hP := h.1.P; have hT := h.1.T
  refine Wp.le (M_83 (w := 25) (n0 := 5160) (by decide) rfl rfl h.lay) ?_
  rw [ι_mul, Nat.mul_comm k 129, if_neg (by rw [ι_lt (by omega) (by omega)]; omega), if_neg (by rw [ι_lt (by omega) (by omega)]; omega), ι_add, if_pos (by rw [ι_le (by omega) (by omega)]; omega)]
  simp (disch := omega) only [ι_add, ix_ι]
  refine Wp.lt fun s1 e1 => ?_
  rw [gd_inb (by omega) (by omega)]
  refine Wp.lt fun s2 e2 => ?_
  refine Wp.g (cp_ok (by omega) (by omega) (by omega) (by omega)) ?_
  refine Wp.lt fun s3 e3 => ?_
  refine Wp.g (cp_ok (by omega) (by omega) (by omega) (by omega)) ?_
  refine Wp.lt fun s4 e4 => ?_
  refine Wp.g (cp_ok (by omega) (by omega) (by omega) (by omega)) ?_
  refine Wp.lt fun s5 e5 => ?_
  refine Wp.g (cp_ok (by omega) (by omega) (by omega) (by omega)) ?_
  refine Wp.lt fun s6 e6 => ?_
  have f1 : Fr (fun a => 25 ≤ a ∧ a ≤ 30) σ s1 := by rw [e1]; exact Fr.refl.mI ⟨by omega, by omega⟩
  have f2 : Fr (fun a => 25 ≤ a ∧ a ≤ 30) σ s2 := by rw [e2]; exact f1.mI ⟨by omega, by omega⟩
  have f3 : Fr (fun a => 25 ≤ a ∧ a ≤ 30) σ s3 := by rw [e3]; exact f2.mA ⟨by omega, by omega⟩
  have f4 : Fr (fun a => 25 ≤ a ∧ a ≤ 30) σ s4 := by rw [e4]; exact f3.mA ⟨by omega, by omega⟩
  have f5 : Fr (fun a => 25 ≤ a ∧ a ≤ 30) σ s5 := by rw [e5]; exact f4.mA ⟨by omega, by omega⟩
  have f6 : Fr (fun a => 25 ≤ a ∧ a ≤ 30) σ s6 := by rw [e6]; exact f5.mA ⟨by omega, by omega⟩
  have n33 : ∀ {s}, Fr (fun a => 25 ≤ a ∧ a ≤ 30) σ s → ∀ j, gI s 33 j = gI σ 33 j := fun f j => f.i (by omega) j
  have g25 : ∀ j, gI s6 25 j = if j = 3 then gI σ 33 (129 * k) else if j = 11 then ι 0 else gI σ 25 j := fun j => by
    rw [e6, gI_cn (by omega), e5, gI_cn (by omega), e4, gI_cn (by omega), e3, gI_cn (by omega), e2, gI_sI, if_pos rfl, n33 f1, e1, gI_sI, if_pos rfl]
  have o1 : ∀ j, j < 12 → gI s6 26 j = gI σ 33 (129 * k + 1 + j) := fun j hj => by
    rw [e6, gI_cn (by omega), e5, gI_cn (by omega), e4, gI_cn (by omega), e3]
    exact (gI_cp2 (a := 26)).trans (by rw [if_pos hj, n33 f2])
  have o2 : ∀ j, j < 12 → gI s6 27 j = gI σ 33 (129 * k + 1 + 12 + j) := fun j hj => by
    rw [e6, gI_cn (by omega), e5, gI_cn (by omega), e4]
    exact (gI_cp2 (a := 27)).trans (by rw [if_pos hj, n33 f3])
  have o3 : ∀ j, j < 8 → gI s6 28 j = gI σ 33 (129 * k + 1 + 12 + 12 + j) := fun j hj => by
    rw [e6, gI_cn (by omega), e5]
    exact (gI_cp2 (a := 28)).trans (by rw [if_pos hj, n33 f4])
  have o4 : ∀ j, j < 96 → gI s6 29 j = gI σ 33 (129 * k + 1 + 12 + 12 + 8 + j) := fun j hj => by
    rw [e6]
    exact (gI_cp2 (a := 29)).trans (by rw [if_pos hj, n33 f5])
  obtain ⟨r1, r2, r3, r4, r5⟩ := r
  refine Wp.retV ⟨h.mk' ok (f6.mono fun a s => Or.inr ⟨s.1, by omega⟩) (fun p => (l.1 p)) (fun t => (l.2.1 t)) ?_ ?_ ?_ ?_ ?_ ?_ ?_ ?_, ?_, f6⟩
  · rw [g25, if_neg (by omega), if_neg (by omega)]
  · rw [g25, if_neg (by omega), if_neg (by omega)]
  · rw [g25, if_pos rfl]; exact r1
  · rw [g25, if_neg (by omega), if_neg (by omega), l.2.2]; exact h.sil
  · intro t ht; exact (o1 t (by omega)).trans (by rw [show 129 * k + 1 + t = 129 * k + (1 + t) by omega]; exact r2 t ht)
  · intro t ht; exact (o2 t (by omega)).trans (by rw [show 129 * k + 1 + 12 + t = 129 * k + (13 + t) by omega]; exact r3 t ht)
  · intro p hp; exact (o3 p (by omega)).trans (by rw [show 129 * k + 1 + 12 + 12 + p = 129 * k + (25 + p) by omega]; exact r4 p hp)
  · intro p hp t ht; exact (o4 (12 * p + t) (by omega)).trans (by rw [show 129 * k + 1 + 12 + 12 + 8 + (12 * p + t) = 129 * k + (33 + (12 * p + t)) by omega]; exact r5 p hp t ht)
  · rw [g25, if_neg (by omega), if_pos rfl]
end KEEP
