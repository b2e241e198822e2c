/-! ===== the image, what is forgotten, the tape: both sides ===== -/
section IMAGE
variable {P T : Nat} {W R : Rl} {A A' B : Wd} {σ τ υ σ0 : pS} {q c c' n k i j p o t r a b s : Nat} {m m2 : Me} {y x0 x1 x2 x3 x4 v w x : Int32} {im : Option (Wd × Me)} {tp : Nat × (Nat → Int32)} {fp : Int32}
theorem c109 (ha : isM a) (hb : isM b) (hne : a ≠ b) (hL : LayR (gR σ)) (me : MeC P T m σ b) (ok : okMe P T A m) (hP : P ≤ 8) (hT : T ≤ 12) : Wp (pcall 109 [.ref a, .ref b] σ) (RV (fun τ => MeC P T m τ a ∧ Fr (fun c => a ≤ c ∧ c ≤ a + 3) σ τ)) := by
  have hab : a + 3 < b ∨ b + 3 < a := by rcases ha with rfl | rfl <;> rcases hb with rfl | rfl <;> omega
  refine Wp.le (M_109 ha hb rfl hL) ?_
  refine Wp.lt fun s1 e1 => ?_
  refine Wp.lt fun s2 e2 => ?_
  refine Wp.lt fun s3 e3 => ?_
  refine Wp.lt fun s4 e4 => ?_
  refine Wp.lt fun s5 e5 => ?_
  have f1 : Fr (fun c => a ≤ c ∧ c ≤ a + 3) σ s1 := by rw [e1]; exact Fr.refl.mA ⟨by omega, by omega⟩
  have f2 : Fr (fun c => a ≤ c ∧ c ≤ a + 3) σ s2 := by rw [e2]; exact f1.mI ⟨by omega, by omega⟩
  have f3 : Fr (fun c => a ≤ c ∧ c ≤ a + 3) σ s3 := by rw [e3]; exact f2.mA ⟨by omega, by omega⟩
  have f4 : Fr (fun c => a ≤ c ∧ c ≤ a + 3) σ s4 := by rw [e4]; exact f3.mI ⟨by omega, by omega⟩
  have f5 : Fr (fun c => a ≤ c ∧ c ≤ a + 3) σ s5 := by rw [e5]; exact f4.mA ⟨by omega, by omega⟩
  refine Wp.retV ⟨me.mv ok hP hT ?_ ?_ (fun i hi => ?_) (fun i hi => ?_) (fun i hi => ?_), f5⟩
  · rw [e5, gI_cn (by omega), e4, gI_n (by omega), e3, gI_cn (by omega), e2, gI_s, f1.i (by omega)]
  · rw [e5, gI_cn (by omega), e4, gI_s, f3.i (by omega)]
  · rw [e5, gI_cn (by omega), e4, gI_c (by omega), e3, gI_cn (by omega), e2, gI_c (by omega), e1]
    exact gI_cp2.trans (by rw [if_pos hi, Nat.zero_add])
  · rw [e5, gI_cn (by omega), e4, gI_c (by omega), e3]
    exact gI_cp2.trans (by rw [if_pos hi, Nat.zero_add, f2.i (by omega)])
  · rw [e5]
    exact gI_cp2.trans (by rw [if_pos hi, Nat.zero_add, f4.i (by omega)])
/-- what a call that answers nothing comes to -/
def vC (σ : pS) (I : pS → Prop) (z : pZ) : Prop := RV (fun τ => I τ ∧ Fq CA VA σ τ) z
def vM (σ : pS) (I : pS → Prop) (z : pZ) : Prop := RV (fun τ => I τ ∧ Fq MA VM σ τ) z
theorem hq0 (hq : isP q) {S : Nat → Prop} (hS : ∀ a, 2 ≤ a → a < 24 → ¬ S a) : ∀ i, i < 5 ∨ i = 5 ∨ i = 6 ∨ i = 8 ∨ i = 9 → ¬ S (q + i) := fun i hi => hS _ (by rcases hq with e | e <;> omega) (by rcases hq with e | e <;> omega)
set_option maxHeartbeats 1000000 in
theorem o171 (h : CI P T W R A m im tp fp σ q) : Wp (pcall 171 [.ref 0] σ) (vC σ (fun τ => CI P T W R A m (some (A, m)) tp fp τ q)) := by
  have hP := h.cnw.1.1.P; have hT := h.cnw.1.1.T
  have hq := h.cnw.1.isp
  refine Wp.le (M_171 rfl h.cnw.1.lay) ?_
  refine Wp.cV (c84 (w := 36) h.cnw.1 (by decide) (by decide) (by rw [h.i36, h.cnw.2.2.1]) h.cnw.2.1) fun τ1 h1 => ?_
  obtain ⟨cw1, st1', -, f1⟩ := h1
  refine Wp.g cw1.lay ?_
  have me1 : MeC P T m τ1 32 := h.mem.sc h.mok hP hT (fun a h1 h2 i => f1.i (by unfold Ww; omega) i)
  refine Wp.cV (c109 (a := 43) (b := 32) (by decide) (by decide) (by decide) cw1.lay me1 h.mok hP hT) fun τ2 h2 => ?_
  obtain ⟨me2, f2⟩ := h2
  have F : Fq (fun a => a = 0 ∨ 36 ≤ a ∧ a ≤ 46) (Vw 36) σ (sI τ2 0 10 (ι 1)) := ((f1.mono (fun a s => by unfold Ww at s; omega) (fun _ _ v => v)).trans (Fq.of f2 (fun a s => by omega))).mI (Or.inl rfl)
  have hV : ∀ a f, Vw 36 a f → mov a f := fun a f v => Or.inl ⟨by rw [v.1]; decide, v.2⟩
  have k0 : ∀ i, i ≠ 10 → gI (sI τ2 0 10 (ι 1)) 0 i = gI σ 0 i := fun i hi => by rw [gI_n hi, f2.i (by omega), f1.i (by unfold Ww; omega)]
  have kx : ∀ a, a ≠ 0 → ¬ (36 ≤ a ∧ a ≤ 46) → ∀ i, gI (sI τ2 0 10 (ι 1)) a i = gI σ a i := fun a h1 h2 i => F.i (by omega) i
  have F2 : Fr (fun a => a = 0 ∨ 43 ≤ a ∧ a ≤ 46) τ1 (sI τ2 0 10 (ι 1)) := (f2.mono fun a s => by omega).mI (Or.inl rfl)
  have cw36 : CW P T W R A (sI τ2 0 10 (ι 1)) 36 q := ⟨cw1.1, cw1.2.1.fr F2 (hq0 (S := fun a => a = 0 ∨ 43 ≤ a ∧ a ≤ 46) hq (fun a h1 h2 => by omega)), cw1.2.2.fr F2 (fun i hi => by omega)⟩
  refine Wp.retV ⟨⟨⟨h.cnw.1.fv F hV (fun v => absurd v.1 (by decide)) (fun i hi => by omega) (hq0 (S := fun a => a = 0 ∨ 36 ≤ a ∧ a ≤ 46) hq (fun a h1 h2 => by omega)), h.cnw.2.1.mv (kx 25 (by omega) (by omega) 11), h.cnw.2.2.1, by rw [kx 47 (by omega) (by omega)]; exact h.cnw.2.2.2⟩, by rw [F.rr (fun v => absurd v.1 (by decide))]; exact h.tld, by rw [F.rr (fun v => absurd v.1 (by decide))]; exact h.drf, h.tok, by rw [k0 1 (by omega)]; exact h.tln, fun i hi => by rw [kx 1 (by omega) (by omega)]; exact h.tby i hi, by rw [k0 3 (by omega)]; exact h.fpl, h.mok, h.mem.sc h.mok hP hT (fun a h1 h2 i => kx a (by omega) (by omega) i), by rw [gI_s]; rfl, by rw [cw36.sil]; exact h.cnw.2.2.1, fun B m' e => ?_⟩, F.mono (fun a s => Or.inl (by omega)) (fun a f v => ⟨hV a f v, by rw [v.1]; decide⟩)⟩
  cases e
  refine ⟨h.mok, cw36, st1'.mv (by rw [F2.i (by omega)]), like.rf, ?_⟩
  exact me2.mv h.mok hP hT (gI_c (by omega)) (gI_c (by omega)) (fun i _ => gI_c (by omega)) (fun i _ => gI_c (by omega)) (fun i _ => gI_c (by omega))
/-- restore -/
def a_restore (A : Wd) (m : Me) (im : Option (Wd × Me)) : AcR := match im with
  | none => ((0, ι 0), A, m)
  | some x => ((0, ι 1), x.1, x.2)
set_option maxHeartbeats 1000000 in
theorem o172 (h : CI P T W R A m im tp fp σ q) : Wp (pcall 172 [.ref 0] σ) (oC σ (fun τ => CI P T W R (a_restore A m im).2.1 (a_restore A m im).2.2 im tp fp τ q) (a_restore A m im).1) := by
  have hP := h.cnw.1.1.P; have hT := h.cnw.1.1.T
  have hq := h.cnw.1.isp
  refine Wp.le (M_172 rfl h.cnw.1.lay) ?_
  rw [h.im0]
  cases im with
  | none =>
    show Wp (if ¬ ι 0 = ι 0 then _ else _) _
    rw [if_neg (fun g => g rfl)]
    exact oC.ret rfl h Fq.refl
  | some x =>
    obtain ⟨B, m'⟩ := x
    obtain ⟨ok, cw, st, l, me⟩ := h.img B m' rfl
    show Wp (if ¬ ι 1 = ι 0 then _ else _) _
    rw [if_pos (by decide)]
    refine Wp.cV (c84 (w := 25) cw (by decide) (by decide) (by rw [h.cnw.1.sil, l.2.2]) st) fun τ1 h1 => ?_
    obtain ⟨cw1, st1', -, f1⟩ := h1
    refine Wp.g cw1.lay ?_
    have me1 : MeC P T m' τ1 43 := me.mv ok hP hT (f1.i (by unfold Ww; omega) _) (f1.i (by unfold Ww; omega) _) (fun i _ => f1.i (by unfold Ww; omega) i) (fun i _ => f1.i (by unfold Ww; omega) i) (fun i _ => f1.i (by unfold Ww; omega) i)
    refine Wp.cV (c109 (a := 32) (b := 43) (by decide) (by decide) (by decide) cw1.lay me1 ok hP hT) fun τ2 h2 => ?_
    obtain ⟨me2, f2⟩ := h2
    have F : Fq (fun a => 25 ≤ a ∧ a ≤ 35) (Vw 25) σ τ2 := (f1.mono (fun a s => by unfold Ww at s; omega) (fun _ _ v => v)).trans (Fq.of f2 (fun a s => by omega))
    have hV : ∀ a f, Vw 25 a f → mov a f := fun a f v => Or.inl ⟨by rw [v.1]; decide, v.2⟩
    have kx : ∀ a, ¬ (25 ≤ a ∧ a ≤ 35) → ∀ i, gI τ2 a i = gI σ a i := fun a h2 i => F.i h2 i
    have cw25 : CW P T W R B τ2 25 q := ⟨cw1.1, cw1.2.1.fr f2 (hq0 (S := fun a => 32 ≤ a ∧ a ≤ 32 + 3) hq (fun a h1 h2 => by omega)), cw1.2.2.fr f2 (fun i hi => by omega)⟩
    refine oC.ret rfl ⟨⟨cw25, st1'.mv (f2.i (by omega) 11), by show B 0 1 = ι 0; rw [l.2.2]; exact h.cnw.2.2.1, by rw [kx 47 (by omega)]; exact h.cnw.2.2.2⟩, by rw [F.rr (fun v => absurd v.1 (by decide))]; exact h.tld, by rw [F.rr (fun v => absurd v.1 (by decide))]; exact h.drf, h.tok, by rw [kx 0 (by omega)]; exact h.tln, fun i hi => by rw [kx 1 (by omega)]; exact h.tby i hi, by rw [kx 0 (by omega)]; exact h.fpl, ok.lk l, me2, by rw [kx 0 (by omega)]; exact h.im0, by rw [kx 36 (by omega)]; exact h.i36, fun B' m'' e => ?_⟩ (F.mono (fun a s => Or.inl (by omega)) (fun a f v => ⟨hV a f v, by rw [v.1]; decide⟩))
    cases e
    exact ⟨ok.lk l, cw.fv F hV (fun v => absurd v.1 (by decide)) (fun i hi => by omega) (hq0 (S := fun a => 25 ≤ a ∧ a ≤ 35) hq (fun a h1 h2 => by omega)), st.mv (kx 36 (by omega) 11), like.rf, me.mv ok hP hT (kx _ (by omega) _) (kx _ (by omega) _) (fun i _ => kx _ (by omega) i) (fun i _ => kx _ (by omega) i) (fun i _ => kx _ (by omega) i)⟩
theorem m321 (ha : kd a = (100, n)) (hb : kd b = (100, n)) (hn : n < 100000) (hne : a ≠ b) (hL : LayR (gR σ)) : Wp (pcall 321 [.ref a, .ref b] σ) (RV (fun τ => Fr (fun c => c = a) σ τ ∧ ∀ i, i < n → gI τ a i = gI σ b i)) := by
  refine Wp.le (M_321 ha hb rfl hL) ?_
  refine Wp.loop (α := pS) n (fun j τ => C_321_2 a n b n (ι j) τ) (fun j τ => Fr (fun c => c = a) σ τ ∧ ∀ i, i < j → gI τ a i = gI σ b i) ?_ ?_ (t := 0) (a := σ) (Nat.zero_le _) ⟨Fr.refl, fun i hi => absurd hi (Nat.not_lt_zero i)⟩
  · rintro j τ hj ⟨f, g⟩ c
    refine Wp.le (T_321_2 ha hb rfl (by rw [f.r]; exact hL)) ?_
    rw [if_neg (by rw [ι_le (by omega) (by omega)]; omega), gd_inb (by omega) (by omega), gd_inb (by omega) (by omega), ix_ι (by omega), ι_add, f.i (fun g => hne g.symm)]
    refine c _ ⟨f.mI rfl, fun i hi => ?_⟩
    by_cases e : i = j
    · rw [e, gI_s]
    · rw [gI_n e]; exact g i (by omega)
  · rintro τ ⟨f, g⟩
    refine Wp.le (T_321_2 ha hb rfl (by rw [f.r]; exact hL)) ?_
    rw [if_pos (Int32.le_refl _)]
    exact Wp.retV ⟨f, g⟩
set_option maxHeartbeats 1000000 in
theorem o320 (h : MI P T W R A m im tp fp σ) : Wp (pcall 320 [.ref 61] σ) (vM σ (fun τ => MI P T W R A m (some (A, m)) tp fp τ)) := by
  have hP := h.cmw.ok.P; have hT := h.cmw.ok.T
  refine Wp.le (M_320 rfl h.cmw.lay) ?_
  rw [gI_n (show 32 ≠ 50 by omega), gI_n (show 32 ≠ 4 by omega), gI_n (show 33 ≠ 51 by omega), gI_n (show 33 ≠ 50 by omega), gI_n (show 33 ≠ 4 by omega), h.mem.1, h.mem.2.2.1]
  generalize hs : sI (sI (sI (sI σ 61 4 (ι 0)) 61 50 (ι 1)) 61 51 (ι m.1.1)) 61 52 (ι m.2.1.1) = s
  have cs : CM P T W R A s := by rw [← hs]; exact (((h.cmw.any (by omega)).any (by omega)).any (by omega)).any (by omega)
  have fs : Fr (fun a => a = 61) σ s := by rw [← hs]; exact ((((Fr.refl (S := fun a => a = 61)).mI rfl).mI rfl).mI rfl).mI rfl
  have s61 : ∀ i, i ≠ 4 → i ≠ 50 → i ≠ 51 → i ≠ 52 → gI s 61 i = gI σ 61 i := fun i h1 h2 h3 h4 => by rw [← hs, gI_n h4, gI_n h3, gI_n h2, gI_n h1]
  have s50 : gI s 61 50 = ι 1 := by rw [← hs, gI_n (by omega), gI_n (by omega), gI_s]
  have s51 : gI s 61 51 = ι m.1.1 := by rw [← hs, gI_n (by omega), gI_s]
  have s52 : gI s 61 52 = ι m.2.1.1 := by rw [← hs, gI_s]
  obtain ⟨z, hz, v, t0, rfl, hk⟩ := m271 (a0 := 92) (off := 0) (n0 := 129) cs.lay rfl (by omega) (by omega) (by unfold nPk; omega)
  rw [hz, bV_ret]
  refine Wp.cV (m321 (a := 93) (b := 79) (n := 5160) rfl rfl (by omega) (by omega) (by rw [hk.1.r]; exact cs.lay)) fun t1 h1 => ?_
  obtain ⟨g1, e1⟩ := h1
  have F1 : Fr (fun a => 92 ≤ a) s t1 := (hk.1.mono fun a e => by omega).trans (g1.mono fun a e => by omega)
  refine Wp.cV (m321 (a := 94) (b := 85) (n := 8) rfl rfl (by omega) (by omega) (by rw [F1.r]; exact cs.lay)) fun t2 h2 => ?_
  obtain ⟨g2, e2⟩ := h2
  have F2 : Fr (fun a => 92 ≤ a) s t2 := F1.trans (g2.mono fun a e => by omega)
  refine Wp.cV (m321 (a := 95) (b := 86) (n := 8) rfl rfl (by omega) (by omega) (by rw [F2.r]; exact cs.lay)) fun t3 h3 => ?_
  obtain ⟨g3, e3⟩ := h3
  have F3 : Fr (fun a => 92 ≤ a) s t3 := F2.trans (g3.mono fun a e => by omega)
  refine Wp.cV (m321 (a := 96) (b := 87) (n := 8) rfl rfl (by omega) (by omega) (by rw [F3.r]; exact cs.lay)) fun t4 h4 => ?_
  obtain ⟨g4, e4⟩ := h4
  have F4 : Fr (fun a => 92 ≤ a) s t4 := F3.trans (g4.mono fun a e => by omega)
  refine Wp.cV (m321 (a := 97) (b := 73) (n := 3) rfl rfl (by omega) (by omega) (by rw [F4.r]; exact cs.lay)) fun t5 h5 => ?_
  obtain ⟨g5, e5⟩ := h5
  have F5 : Fr (fun a => 92 ≤ a) s t5 := F4.trans (g5.mono fun a e => by omega)
  have cm : CM P T W R A t5 := cs.fr F5 (by omega) (by omega) (by omega) (by omega) (by omega) (by omega) (by omega) (by omega) (by omega) (by omega)
  have k : ∀ a, a < 92 → a ≠ 61 → ∀ i, gI t5 a i = gI σ a i := fun a h1 h2 i => by rw [F5.i (by omega), fs.i h2]
  have k61 : ∀ i, i ≠ 4 → i ≠ 50 → i ≠ 51 → i ≠ 52 → gI t5 61 i = gI σ 61 i := fun i h1 h2 h3 h4 => by rw [F5.i (by omega), s61 i h1 h2 h3 h4]
  have r92 : RowA P T A t5 92 0 := (hk.row cs).eq (fun i _ _ => by rw [g5.i (by omega), g4.i (by omega), g3.i (by omega), g2.i (by omega), g1.i (by omega)]) hP hT
  refine Wp.retV ⟨⟨cm, h.sl0, h.tok, by rw [k61 15 (by omega) (by omega) (by omega) (by omega)]; exact h.tln, fun i hi => by rw [k 74 (by omega) (by omega)]; exact h.tby i hi, by rw [k61 24 (by omega) (by omega) (by omega) (by omega)]; exact h.fpl, h.mok, h.mem.mv h.mok hP hT (k61 32 (by omega) (by omega) (by omega) (by omega)) (k61 33 (by omega) (by omega) (by omega) (by omega)) (fun i _ => k 79 (by omega) (by omega) i) (fun i _ => k 85 (by omega) (by omega) i) (fun i _ => k 86 (by omega) (by omega) i) (fun i _ => k 87 (by omega) (by omega) i) (fun i _ => k 73 (by omega) (by omega) i), by rw [F5.i (by omega), s50]; rfl, fun B m' e => ?_⟩, ?_⟩
  · cases e
    refine ⟨h.mok, h.cmw.ok, like.rf, r92, h.mem.mv h.mok hP hT (by rw [F5.i (by omega), s51, h.mem.1]) (by rw [F5.i (by omega), s52, h.mem.2.2.1]) (fun i hi => ?_) (fun i hi => ?_) (fun i hi => ?_) (fun i hi => ?_) (fun i hi => ?_)⟩
    · rw [g5.i (by omega), g4.i (by omega), g3.i (by omega), g2.i (by omega), e1 i hi, hk.1.i (by omega), fs.i (by omega)]
    · rw [g5.i (by omega), g4.i (by omega), g3.i (by omega), e2 i hi, F1.i (by omega), fs.i (by omega)]
    · rw [g5.i (by omega), g4.i (by omega), e3 i hi, F2.i (by omega), fs.i (by omega)]
    · rw [g5.i (by omega), e4 i hi, F3.i (by omega), fs.i (by omega)]
    · rw [e5 i hi, F4.i (by omega), fs.i (by omega)]
  · exact (Fq.of fs (fun a e => Or.inl (by omega))).trans ((Fq.of hk.1 (fun a e => Or.inl (by omega))).trans ((Fq.of g1 (fun a e => Or.inl (by omega))).trans ((Fq.of g2 (fun a e => Or.inl (by omega))).trans ((Fq.of g3 (fun a e => Or.inl (by omega))).trans ((Fq.of g4 (fun a e => Or.inl (by omega))).trans (Fq.of g5 (fun a e => Or.inl (by omega))))))))
set_option maxHeartbeats 1000000 in
theorem o322 (h : MI P T W R A m im tp fp σ) : Wp (pcall 322 [.ref 61] σ) (oM σ (fun τ => MI P T W R (a_restore A m im).2.1 (a_restore A m im).2.2 im tp fp τ) (a_restore A m im).1) := by
  have hP := h.cmw.ok.P; have hT := h.cmw.ok.T
  refine Wp.le (M_322 rfl h.cmw.lay) ?_
  rw [gI_n (show 50 ≠ 4 by omega), h.im0]
  cases im with
  | none =>
    show Wp (if ¬ ι 0 = ι 0 then _ else _) _
    rw [if_neg (fun g => g rfl)]
    exact oM.ret rfl (h.qn h.cmw.c0 QN.rf) gI_s (MA.qn QN.rf)
  | some x =>
    obtain ⟨B, m'⟩ := x
    obtain ⟨ok, okb, l, r, me⟩ := h.img B m' rfl
    show Wp (if ¬ ι 1 = ι 0 then _ else _) _
    rw [if_pos (by decide), gI_n (show 51 ≠ 4 by omega), gI_n (show 52 ≠ 32 by omega), gI_n (show 52 ≠ 4 by omega), me.1, me.2.2.1]
    generalize hs : sI (sI (sI σ 61 4 (ι 0)) 61 32 (ι m'.1.1)) 61 33 (ι m'.2.1.1) = s
    have cs : CM P T W R A s := by rw [← hs]; exact ((h.cmw.any (by omega)).any (by omega)).any (by omega)
    have fs : Fr (fun a => a = 61) σ s := by rw [← hs]; exact (((Fr.refl (S := fun a => a = 61)).mI rfl).mI rfl).mI rfl
    have s61 : ∀ i, i ≠ 4 → i ≠ 32 → i ≠ 33 → gI s 61 i = gI σ 61 i := fun i h1 h2 h3 => by rw [← hs, gI_n h3, gI_n h2, gI_n h1]
    have s32 : gI s 61 32 = ι m'.1.1 := by rw [← hs, gI_n (by omega), gI_s]
    have s33 : gI s 61 33 = ι m'.2.1.1 := by rw [← hs, gI_s]
    have s4 : gI s 61 4 = ι 0 := by rw [← hs, gI_n (by omega), gI_n (by omega), gI_s]
    obtain ⟨z, hz, v, t0, rfl, hk⟩ := m284 (a0 := 92) (off := 0) (n0 := 129) cs.lay rfl (by omega) (by omega) (by unfold nPk; omega)
    rw [hz, bV_ret]
    have c0 : CM P T W R B t0 := hk.cm cs (r.eq (fun i _ _ => fs.i (by omega) i) hP hT) okb l
    refine Wp.cV (m321 (a := 79) (b := 93) (n := 5160) rfl rfl (by omega) (by omega) c0.lay) fun t1 h1 => ?_
    obtain ⟨g1, e1⟩ := h1
    have F1 : Fr (fun a => a = 79 ∨ a = 85 ∨ a = 86 ∨ a = 87 ∨ a = 73) t0 t1 := g1.mono fun a e => by omega
    refine Wp.cV (m321 (a := 85) (b := 94) (n := 8) rfl rfl (by omega) (by omega) (by rw [F1.r]; exact c0.lay)) fun t2 h2 => ?_
    obtain ⟨g2, e2⟩ := h2
    have F2 : Fr (fun a => a = 79 ∨ a = 85 ∨ a = 86 ∨ a = 87 ∨ a = 73) t0 t2 := F1.trans (g2.mono fun a e => by omega)
    refine Wp.cV (m321 (a := 86) (b := 95) (n := 8) rfl rfl (by omega) (by omega) (by rw [F2.r]; exact c0.lay)) fun t3 h3 => ?_
    obtain ⟨g3, e3⟩ := h3
    have F3 : Fr (fun a => a = 79 ∨ a = 85 ∨ a = 86 ∨ a = 87 ∨ a = 73) t0 t3 := F2.trans (g3.mono fun a e => by omega)
    refine Wp.cV (m321 (a := 87) (b := 96) (n := 8) rfl rfl (by omega) (by omega) (by rw [F3.r]; exact c0.lay)) fun t4 h4 => ?_
    obtain ⟨g4, e4⟩ := h4
    have F4 : Fr (fun a => a = 79 ∨ a = 85 ∨ a = 86 ∨ a = 87 ∨ a = 73) t0 t4 := F3.trans (g4.mono fun a e => by omega)
    refine Wp.cV (m321 (a := 73) (b := 97) (n := 3) rfl rfl (by omega) (by omega) (by rw [F4.r]; exact c0.lay)) fun t5 h5 => ?_
    obtain ⟨g5, e5⟩ := h5
    have F5 : Fr (fun a => a = 79 ∨ a = 85 ∨ a = 86 ∨ a = 87 ∨ a = 73) t0 t5 := F4.trans (g5.mono fun a e => by omega)
    have cm : CM P T W R B t5 := c0.fr F5 (by omega) (by omega) (by omega) (by omega) (by omega) (by omega) (by omega) (by omega) (by omega) (by omega)
    have k92 : ∀ a, 92 ≤ a → ∀ i, gI t5 a i = gI σ a i := fun a h1 i => by rw [F5.i (by omega), hk.1.i (by unfold Uc; omega), fs.i (by omega)]
    have k61 : ∀ i, i ≠ 31 → gI t5 61 i = gI s 61 i := fun i h1 => by rw [F5.i (by omega), hk.2.1 i h1]
    refine oM.ret rfl (h.st cm l (ok.lk l) (me.mv ok hP hT (by rw [k61 32 (by omega), s32, me.1]) (by rw [k61 33 (by omega), s33, me.2.2.1]) (fun i hi => ?_) (fun i hi => ?_) (fun i hi => ?_) (fun i hi => ?_) (fun i hi => ?_)) (fun i => by rw [F5.i (by omega), hk.1.i (by unfold Uc; omega), fs.i (by omega)]) (fun i hi => by rw [k61 i (by omega), s61 i (by omega) (by omega) (by omega)]) k92) (by rw [k61 4 (by omega), s4]) ?_
    · rw [g5.i (by omega), g4.i (by omega), g3.i (by omega), g2.i (by omega), e1 i hi, hk.1.i (by unfold Uc; omega), fs.i (by omega)]
    · rw [g5.i (by omega), g4.i (by omega), g3.i (by omega), e2 i hi, F1.i (by omega), hk.1.i (by unfold Uc; omega), fs.i (by omega)]
    · rw [g5.i (by omega), g4.i (by omega), e3 i hi, F2.i (by omega), hk.1.i (by unfold Uc; omega), fs.i (by omega)]
    · rw [g5.i (by omega), e4 i hi, F3.i (by omega), hk.1.i (by unfold Uc; omega), fs.i (by omega)]
    · rw [e5 i hi, F4.i (by omega), hk.1.i (by unfold Uc; omega), fs.i (by omega)]
    · exact (Fq.of fs (fun a e => Or.inl (by omega))).trans ((Fq.of hk.1 (fun a e => Or.inl (by unfold Uc at e; omega))).trans (Fq.of F5 (fun a e => Or.inl (by omega))))
/-- forget -/
def forS (m : Me) : Me := (m.1, (0, m.2.1.2), m.2.2)
theorem okMe.fo (h : okMe P T A m) : okMe P T A (forS m) := ⟨h.1, h.2.1, Nat.zero_le _, fun k hk => absurd hk (Nat.not_lt_zero k)⟩
theorem o170 (h : CI P T W R A m im tp fp σ q) : Wp (pcall 170 [.ref 0] σ) (vC σ (fun τ => CI P T W R A (forS m) im tp fp τ q)) := by
  have hP := h.cnw.1.1.P; have hT := h.cnw.1.1.T
  have f : Fr (fun a => 32 ≤ a ∧ a ≤ 35) σ (sI σ 32 3 (ι 0)) := Fr.refl.mI ⟨by omega, by omega⟩
  have f2 : Fr (fun a => Sc a ∨ (25 ≤ a ∧ a ≤ 35)) σ (sI σ 32 3 (ι 0)) := f.mono fun a s => Or.inr (by omega)
  have e108 : pcall 108 [.ref 32] σ = some (0, .null, sI σ 32 3 (ι 0)) := (M_108 (by decide) rfl h.cnw.1.lay).eq rfl
  refine Wp.le (M_170 rfl h.cnw.1.lay) ?_
  rw [e108, bV_ret]
  exact Wp.retV ⟨h.st (h.cnw.1.fm f) (h.cnw.2.1.mv (gI_c (by omega))) like.rf h.mok.fo ⟨by rw [gI_n (by omega)]; exact h.mem.1, fun k hk => (h.mem.2.1 k hk).mv hP hT (fun i _ => gI_c (by omega)), ⟨gI_s, fun k hk => absurd hk (Nat.not_lt_zero k)⟩, fun i hi => by rw [gI_c (by omega)]; exact h.mem.2.2.2 i hi⟩ f2, CA.ke f2⟩
theorem o313 (h : MI P T W R A m im tp fp σ) : Wp (pcall 313 [.ref 61] σ) (vM σ (fun τ => MI P T W R A (forS m) im tp fp τ)) := by
  have hP := h.cmw.ok.P; have hT := h.cmw.ok.T
  have kx : ∀ a, a ≠ 61 → ∀ i, gI (sI (sC σ) 61 33 (ι 0)) a i = gI σ a i := fun a h1 i => by rw [gI_c h1, gI_c h1]
  refine Wp.le (M_313 rfl h.cmw.lay) ?_
  exact Wp.retV ⟨h.st (h.cmw.c0.any (by omega)) like.rf h.mok.fo ⟨by rw [gI_n (by omega), gI_n (by omega)]; exact h.mem.1, fun k hk => (h.mem.2.1 k hk).mv hP hT (fun i _ => kx _ (by omega) _), gI_s, fun k hk => absurd hk (Nat.not_lt_zero k), fun i hi => by rw [kx _ (by omega)]; exact h.mem.2.2.2.2 i hi⟩ (fun i => kx _ (by omega) i) (fun i hi => by rw [gI_n (by omega), gI_n (by omega)]) (fun a ha i => kx _ (by omega) i), (Fq.refl.mI (Or.inl (by omega))).mI (Or.inl (by omega))⟩
theorem o166 (h : CI P T W R A m im tp fp σ q) : Wp (pcall 166 [.ref 0] σ) (oC σ (fun τ => CI P T W R A m im tp fp τ q) (0, fp)) :=
  Wp.le (M_166 rfl h.cnw.1.lay) (oC.ret h.fpl h Fq.refl)
theorem o239 (h : MI P T W R A m im tp fp σ) : Wp (pcall 239 [.ref 61] σ) (oM σ (fun τ => MI P T W R A m im tp fp τ) (0, fp)) :=
  Wp.le (M_239 rfl h.cmw.lay) (oM.ret (by rw [gI_n (by omega)]; exact h.fpl) (h.qn h.cmw.c0 QN.rf) gI_s (MA.qn QN.rf))
/-- feed: a byte more; all bytes -/
def putT (tp : Nat × (Nat → Int32)) (y : Int32) : Nat × (Nat → Int32) := (tp.1 + 1, st1 tp.2 tp.1 y)
def bt (x : Int32) (s : Nat) : Int32 := ushr x (ι s) &&& ι 255
def argF (x0 x1 x2 x3 x4 : Int32) (k : Nat) : Int32 := if k < 4 then x0 else if k < 8 then x1 else if k < 12 then x2 else if k < 16 then x3 else x4
def fdT (tp : Nat × (Nat → Int32)) (g : Nat → Int32) (n : Nat) : Nat × (Nat → Int32) := fd (fun k tp => putT tp (bt (g k) (24 - 8 * (k % 4)))) n tp
theorem fdT_1 {g : Nat → Int32} : (fdT tp g n).1 = tp.1 + n := by
  induction n with
  | zero => rfl
  | succ n ih => show (fdT tp g n).1 + 1 = _; rw [ih]; omega
theorem bt_255 (y : Int32) : ∃ b, b < 256 ∧ y &&& ι 255 = ι b := by
  refine ⟨(y.toBitVec &&& 255#32).toNat, ?_, ?_⟩
  · rw [BitVec.toNat_and]
    exact Nat.lt_of_le_of_lt Nat.and_le_right (by decide)
  · rw [← Int32.toBitVec_inj, Int32.toBitVec_and]
    show _ &&& 255#32 = BitVec.ofNat 32 _
    rw [BitVec.ofNat_toNat]; simp
theorem okTp.put (h : okTp tp) (h7 : tp.1 < 700) (s : Nat) : okTp (putT tp (bt x s)) := by
  refine ⟨by show tp.1 + 1 ≤ 700; omega, fun i hi => ?_⟩
  have hi : i < tp.1 + 1 := hi
  show ∃ b, b < 256 ∧ (if i = tp.1 then bt x s else tp.2 i) = ι b
  by_cases e : i = tp.1
  · rw [if_pos e]; exact bt_255 _
  · rw [if_neg e]; exact h.2 i (by omega)
theorem okTp.fd {g : Nat → Int32} (h : okTp tp) (h7 : tp.1 + n ≤ 700) : okTp (fdT tp g n) := by
  induction n with
  | zero => exact h
  | succ n ih => exact (ih (by omega)).put (by rw [fdT_1]; omega) _
theorem b255 : ∀ i, i < 32 → (255#32).getLsbD i = decide (i < 8) := by decide
theorem sh_255 (hs : s ≤ 24) : shr' y (ι s) &&& ι 255 = bt y s := by
  unfold bt
  have e1 : (ushr y (ι s)).toBitVec = y.toBitVec >>> s := by
    have e : (ushr y (ι s)).toBitVec = y.toBitVec >>> (BitVec.ofNat 32 s) := by
      rw [← sh31 s (by omega)]; rfl
    rw [e]; show y.toBitVec >>> (BitVec.ofNat 32 s).toNat = _
    rw [BitVec.toNat_ofNat, Nat.mod_eq_of_lt (by omega)]
  have e2 : (shr' y (ι s)).toBitVec = y.toBitVec.sshiftRight s := by
    have e : (shr' y (ι s)).toBitVec = y.toBitVec.sshiftRight' (BitVec.ofNat 32 s) := by
      rw [← sh31s s (by omega)]; rfl
    rw [e, BitVec.sshiftRight_eq', BitVec.toNat_ofNat, Nat.mod_eq_of_lt (by omega)]
  rw [← Int32.toBitVec_inj, Int32.toBitVec_and, Int32.toBitVec_and, e1, e2]
  show _ &&& 255#32 = _ &&& 255#32
  refine BitVec.eq_of_getLsbD_eq fun i hi => ?_
  rw [BitVec.getLsbD_and, BitVec.getLsbD_and, b255 i hi, BitVec.getLsbD_ushiftRight, BitVec.getLsbD_sshiftRight]
  by_cases h : i < 8
  · have : s + i < 32 := by omega
    simp [h, hi, this]
  · simp [h]
/-- the tape in the class, in the reference -/
def TpC (tp : Nat × (Nat → Int32)) (σ τ : pS) : Prop := Fr (fun a => a = 0 ∨ a = 1) σ τ ∧ (∀ i, i ≠ 1 → gI τ 0 i = gI σ 0 i) ∧ gI τ 0 1 = ι tp.1 ∧ ∀ i, i < tp.1 → gI τ 1 i = tp.2 i
theorem TpC.put (h : TpC tp σ τ) : TpC (putT tp y) σ (sI (sI τ 1 tp.1 y) 0 1 (ι (tp.1 + 1))) := by
  obtain ⟨f, h0, h1, h2⟩ := h
  refine ⟨(f.mI (Or.inr rfl)).mI (Or.inl rfl), fun i hi => by rw [gI_n hi, gI_c (by omega)]; exact h0 i hi, gI_s, fun i hi => ?_⟩
  have hi : i < tp.1 + 1 := hi
  show _ = if i = tp.1 then y else tp.2 i
  rw [gI_c (by omega)]
  by_cases e : i = tp.1
  · rw [e, gI_s, if_pos rfl]
  · rw [gI_n e, if_neg e]; exact h2 i (by omega)
theorem c165 (hL : LayR (gR σ)) (h : TpC tp σ τ) (h7 : tp.1 + 4 ≤ 700) : Wp (pcall 165 [.ref 0, .int x] τ) (RV (TpC (putT (putT (putT (putT tp (bt x 24)) (bt x 16)) (bt x 8)) (bt x 0)) σ)) := by
  have stp : ∀ {tp τ s s'} {Q : pZ → Prop}, TpC tp σ τ → tp.1 < 700 → s ≤ 24 → ι s + ν 8 = s' → (Wp (C_165_3 x s' (sI (sI τ 1 tp.1 (bt x s)) 0 1 (ι (tp.1 + 1)))) Q) → Wp (C_165_3 x (ι s) τ) Q := by
    intro tp τ s s' Q h h7 hs es w
    refine Wp.le (T_165_3 rfl (by rw [h.1.r]; exact hL)) ?_
    rw [gI_c (show 0 ≠ 1 by omega), h.2.2.1, if_neg (by rw [ι_lt (by omega) (by omega)]; omega), if_neg (by rw [ι_lt (by omega) (by omega)]; omega), if_neg (by rw [ι_le (by omega) (by omega)]; omega), gd_inb (by omega) (by omega), ix_ι (by omega), ι_add, es]
    exact w
  refine Wp.le (M_165 rfl (by rw [h.1.r]; exact hL)) ?_
  refine stp h (by omega) (by omega) (s' := ι 16) (by decide) ?_
  have h1 := h.put (y := bt x 24)
  refine stp h1 (by show tp.1 + 1 < 700; omega) (by omega) (s' := ι 8) (by decide) ?_
  have h2 := h1.put (y := bt x 16)
  refine stp h2 (by show tp.1 + 1 + 1 < 700; omega) (by omega) (s' := ι 0) (by decide) ?_
  have h3 := h2.put (y := bt x 8)
  refine stp h3 (by show tp.1 + 1 + 1 + 1 < 700; omega) (by omega) (s' := ν 8) (by decide) ?_
  have h4 := h3.put (y := bt x 0)
  refine Wp.le (T_165_3 rfl (by rw [h4.1.r]; exact hL)) ?_
  rw [if_pos (by decide)]
  exact Wp.retV h4
def a_feed (tp : Nat × (Nat → Int32)) (x0 x1 x2 x3 x4 : Int32) : (Nat × Int32) × (Nat × (Nat → Int32)) := if tp.1 + 20 ≤ 700 then ((0, ι (tp.1 + 20)), fdT tp (argF x0 x1 x2 x3 x4) 20) else ((0, ν 1), tp)
theorem fdT_20 : fdT tp (argF x0 x1 x2 x3 x4) 20 = putT (putT (putT (putT (putT (putT (putT (putT (putT (putT (putT (putT (putT (putT (putT (putT (putT (putT (putT (putT tp (bt x0 24)) (bt x0 16)) (bt x0 8)) (bt x0 0)) (bt x1 24)) (bt x1 16)) (bt x1 8)) (bt x1 0)) (bt x2 24)) (bt x2 16)) (bt x2 8)) (bt x2 0)) (bt x3 24)) (bt x3 16)) (bt x3 8)) (bt x3 0)) (bt x4 24)) (bt x4 16)) (bt x4 8)) (bt x4 0) := rfl
theorem CI.tpp {tp2 : Nat × (Nat → Int32)} (h : CI P T W R A m im tp fp σ q) (ok : okTp tp2) (f : TpC tp2 σ τ) : CI P T W R A m im tp2 fp τ q ∧ Fq CA VA σ τ := by
  have hP := h.cnw.1.1.P; have hT := h.cnw.1.1.T
  have hq := h.cnw.1.isp
  obtain ⟨f, h0, h1, h2⟩ := f
  have kx : ∀ a, 2 ≤ a → ∀ i, gI τ a i = gI σ a i := fun a h i => f.i (by omega) i
  refine ⟨⟨⟨⟨h.cnw.1.1, h.cnw.1.2.1.fr f (hq0 (S := fun a => a = 0 ∨ a = 1) hq (fun a h1 h2 => by omega)), h.cnw.1.2.2.fr f (fun i hi => by omega)⟩, h.cnw.2.1.mv (kx 25 (by omega) 11), h.cnw.2.2.1, by rw [kx 47 (by omega)]; exact h.cnw.2.2.2⟩, by rw [f.r]; exact h.tld, by rw [f.r]; exact h.drf, ok, h1, h2, by rw [h0 3 (by omega)]; exact h.fpl, h.mok, h.mem.sc h.mok hP hT (fun a h1 h2 i => kx a (by omega) i), by rw [h0 10 (by omega)]; exact h.im0, by rw [kx 36 (by omega)]; exact h.i36, fun B m' e => ?_⟩, CA.fr f (fun a s => Or.inl (by omega))⟩
  obtain ⟨g1, g2, g3, g4, g5⟩ := h.img B m' e
  exact ⟨g1, ⟨g2.1, g2.2.1.fr f (hq0 (S := fun a => a = 0 ∨ a = 1) hq (fun a h1 h2 => by omega)), g2.2.2.fr f (fun i hi => by omega)⟩, g3.mv (kx 36 (by omega) 11), g4, g5.mv g1 hP hT (kx _ (by omega) _) (kx _ (by omega) _) (fun i _ => kx _ (by omega) i) (fun i _ => kx _ (by omega) i) (fun i _ => kx _ (by omega) i)⟩
theorem o164 (h : CI P T W R A m im tp fp σ q) : Wp (pcall 164 [.ref 0, .int x0, .int x1, .int x2, .int x3, .int x4] σ) (oC σ (fun τ => CI P T W R A m im (a_feed tp x0 x1 x2 x3 x4).2 fp τ q) (a_feed tp x0 x1 x2 x3 x4).1) := by
  have h7 := h.tok.1
  have hL := h.cnw.1.lay
  refine Wp.le (M_164 rfl hL) ?_
  unfold a_feed
  rw [h.tln, ι_add]
  by_cases e : tp.1 + 20 ≤ 700
  · rw [if_pos (by rw [ι_le (by omega) (by omega)]; exact e), if_pos e]
    have t0 : TpC tp σ σ := ⟨Fr.refl, fun _ _ => rfl, h.tln, h.tby⟩
    refine Wp.cV (c165 hL t0 (by omega)) fun τ1 t1 => ?_
    refine Wp.cV (c165 hL t1 (by show tp.1 + 1 + 1 + 1 + 1 + 4 ≤ 700; omega)) fun τ2 t2 => ?_
    refine Wp.cV (c165 hL t2 (by show tp.1 + 1 + 1 + 1 + 1 + 1 + 1 + 1 + 1 + 4 ≤ 700; omega)) fun τ3 t3 => ?_
    refine Wp.cV (c165 hL t3 (by show tp.1 + 1 + 1 + 1 + 1 + 1 + 1 + 1 + 1 + 1 + 1 + 1 + 1 + 4 ≤ 700; omega)) fun τ4 t4 => ?_
    refine Wp.cV (c165 hL t4 (by show tp.1 + 1 + 1 + 1 + 1 + 1 + 1 + 1 + 1 + 1 + 1 + 1 + 1 + 1 + 1 + 1 + 1 + 4 ≤ 700; omega)) fun τ5 t5 => ?_
    rw [← fdT_20] at t5
    have g := h.tpp (h.tok.fd (n := 20) (by omega)) t5
    refine oC.ret ?_ g.1 g.2
    rw [t5.2.2.1, fdT_1]
  · rw [if_neg (by rw [ι_le (by omega) (by omega)]; exact e), if_neg e]
    exact oC.ret rfl h Fq.refl
def TpM (tp : Nat × (Nat → Int32)) (σ τ : pS) : Prop := Fr (fun a => a = 61 ∨ a = 74) σ τ ∧ (∀ i, i ≠ 15 → gI τ 61 i = gI σ 61 i) ∧ gI τ 61 15 = ι tp.1 ∧ ∀ i, i < tp.1 → gI τ 74 i = tp.2 i
theorem TpM.put (h : TpM tp σ τ) : TpM (putT tp y) σ (sI (sI τ 74 tp.1 y) 61 15 (ι (tp.1 + 1))) := by
  obtain ⟨f, h0, h1, h2⟩ := h
  refine ⟨(f.mI (Or.inr rfl)).mI (Or.inl rfl), fun i hi => by rw [gI_n hi, gI_c (by omega)]; exact h0 i hi, gI_s, fun i hi => ?_⟩
  have hi : i < tp.1 + 1 := hi
  show _ = if i = tp.1 then y else tp.2 i
  rw [gI_c (by omega)]
  by_cases e : i = tp.1
  · rw [e, gI_s, if_pos rfl]
  · rw [gI_n e, if_neg e]; exact h2 i (by omega)
theorem CM.f74 (h : CM P T W R A σ) (f : Fr (fun a => a = 61 ∨ a = 74) σ τ) (e : ∀ i, i ≠ 15 → gI τ 61 i = gI σ 61 i) : CM P T W R A τ := by
  obtain ⟨a1, a2, a3, a4, a5, a6, a7, a8, a9, a10, a11, a12, a13, a14, a15, a16, a17, a18⟩ := h
  exact ⟨a1, by rw [f.r]; exact a2, by rw [f.i (by omega)]; exact a3, by rw [f.i (by omega)]; exact a4, by rw [f.i (by omega)]; exact a5, by rw [f.i (by omega)]; exact a6, a7, a8, fun i hi => by rw [f.i (by omega)]; exact a9 i hi, fun i hi => by rw [f.i (by omega)]; exact a10 i hi, by rw [e 31 (by omega)]; exact a11, by rw [e 36 (by omega)]; exact a12, fun i hi => by rw [f.i (by omega)]; exact a13 i hi, fun i hi => by rw [f.i (by omega)]; exact a14 i hi, fun i hi j hj => by rw [f.i (by omega)]; exact a15 i hi j hj, fun i hi => by rw [f.i (by omega)]; exact a16 i hi, fun i hi => by rw [f.i (by omega)]; exact a17 i hi, fun i hi => by rw [f.i (by omega)]; exact a18 i hi⟩
theorem MI.tpp {tp2 : Nat × (Nat → Int32)} (h : MI P T W R A m im tp fp σ) (ok : okTp tp2) (f : TpM tp2 (sC σ) τ) : MI P T W R A m im tp2 fp τ ∧ gI τ 61 4 = ι 0 ∧ Fq MA VM σ τ := by
  have hP := h.cmw.ok.P; have hT := h.cmw.ok.T
  obtain ⟨f, h0, h1, h2⟩ := f
  have kx : ∀ a, a ≠ 61 → a ≠ 74 → ∀ i, gI τ a i = gI σ a i := fun a g1 g2 i => by rw [f.i (by omega), gI_c g1]
  have k61 : ∀ i, i ≠ 15 → i ≠ 4 → gI τ 61 i = gI σ 61 i := fun i g1 g2 => by rw [h0 i g1, gI_n g2]
  refine ⟨⟨h.cmw.c0.f74 f h0, h.sl0, ok, h1, h2, by rw [k61 24 (by omega) (by omega)]; exact h.fpl, h.mok, h.mem.mv h.mok hP hT (k61 32 (by omega) (by omega)) (k61 33 (by omega) (by omega)) (fun i _ => kx 79 (by omega) (by omega) i) (fun i _ => kx 85 (by omega) (by omega) i) (fun i _ => kx 86 (by omega) (by omega) i) (fun i _ => kx 87 (by omega) (by omega) i) (fun i _ => kx 73 (by omega) (by omega) i), by rw [k61 50 (by omega) (by omega)]; exact h.im0, fun B m' e => ?_⟩, by rw [h0 4 (by omega), gI_s], (Fq.refl.mI (Or.inl (by omega))).trans (Fq.of f (fun a s => Or.inl (by omega)))⟩
  obtain ⟨g1, g2, g3, g4, g5⟩ := h.img B m' e
  exact ⟨g1, g2, g3, g4.mv hP hT (fun i _ => kx 92 (by omega) (by omega) _), g5.mv g1 hP hT (k61 51 (by omega) (by omega)) (k61 52 (by omega) (by omega)) (fun i _ => kx 93 (by omega) (by omega) i) (fun i _ => kx 94 (by omega) (by omega) i) (fun i _ => kx 95 (by omega) (by omega) i) (fun i _ => kx 96 (by omega) (by omega) i) (fun i _ => kx 97 (by omega) (by omega) i)⟩
theorem o209 (h : MI P T W R A m im tp fp σ) : Wp (pcall 209 [.ref 61, .int x0, .int x1, .int x2, .int x3, .int x4] σ) (oM σ (fun τ => MI P T W R A m im (a_feed tp x0 x1 x2 x3 x4).2 fp τ) (a_feed tp x0 x1 x2 x3 x4).1) := by
  have h7 := h.tok.1
  have hL := h.cmw.lay
  refine Wp.le (M_209 rfl hL) ?_
  unfold a_feed
  have t0 : TpM tp (sC σ) (sC σ) := ⟨Fr.refl, fun _ _ => rfl, by rw [gI_n (by omega)]; exact h.tln, fun i hi => by rw [gI_c (by omega)]; exact h.tby i hi⟩
  rw [t0.2.2.1, ι_add]
  by_cases e : tp.1 + 20 ≤ 700
  · rw [if_pos (by rw [ι_le (by omega) (by omega)]; exact e), if_pos e]
    refine Wp.loop (α := Value × pS) 20 (fun k a => C_209_23 x0 x1 x2 x3 x4 (ι k) a.1 a.2) (fun k a => TpM (fdT tp (argF x0 x1 x2 x3 x4) k) (sC σ) a.2) ?_ ?_ (t := 0) (a := (.retAddr 0, sC σ)) (Nat.zero_le _) t0
    · rintro k ⟨v, τ⟩ hk t c
      dsimp only at t ⊢
      have hLt : LayR (gR τ) := by rw [t.1.r]; exact hL
      have step : Wp (C_209_76 x0 x1 x2 x3 x4 (ι k) v (argF x0 x1 x2 x3 x4 k) τ) (oM σ (fun τ => MI P T W R A m im (fdT tp (argF x0 x1 x2 x3 x4) 20) fp τ) (0, ι (tp.1 + 20))) := by
        refine Wp.le (T_209_76 rfl hLt) ?_
        have es : ι 24 - ι 8 * irem' (ι k) (ι 4) = ι (24 - 8 * (k % 4)) := by
          rw [ι_rem (by omega) (by omega), ι_mul, ι_sub (by have := Nat.mod_lt k (show 4 > 0 by omega); omega)]
        have e1 := fdT_1 (tp := tp) (n := k) (g := argF x0 x1 x2 x3 x4)
        rw [es, sh_255 (by omega), gI_c (show 61 ≠ 74 by omega), t.2.2.1, gd_inb (by omega) (by omega), ix_ι (by omega), ι_add, ι_add]
        exact c (_, _) t.put
      refine Wp.le (T_209_23 rfl hLt) ?_
      rw [if_neg (by rw [ι_le (by omega) (by omega)]; omega)]
      unfold argF at step
      by_cases g4 : k < 4
      · rw [if_pos g4] at step
        rw [if_neg (by rw [ι_le (by omega) (by omega)]; omega)]; exact step
      rw [if_neg g4] at step
      rw [if_pos (by rw [ι_le (by omega) (by omega)]; omega)]
      by_cases g8 : k < 8
      · rw [if_pos g8] at step
        rw [if_neg (by rw [ι_le (by omega) (by omega)]; omega)]; exact step
      rw [if_neg g8] at step
      rw [if_pos (by rw [ι_le (by omega) (by omega)]; omega)]
      by_cases g12 : k < 12
      · rw [if_pos g12] at step
        rw [if_neg (by rw [ι_le (by omega) (by omega)]; omega)]; exact step
      rw [if_neg g12] at step
      rw [if_pos (by rw [ι_le (by omega) (by omega)]; omega)]
      by_cases g16 : k < 16
      · rw [if_pos g16] at step
        rw [if_neg (by rw [ι_le (by omega) (by omega)]; omega)]; exact step
      · rw [if_neg g16] at step
        rw [if_pos (by rw [ι_le (by omega) (by omega)]; omega)]; exact step
    · rintro ⟨v, τ⟩ t
      dsimp only at t ⊢
      have g := h.tpp (h.tok.fd (n := 20) (by omega)) t
      refine Wp.le (T_209_23 rfl (by rw [t.1.r]; exact hL)) ?_
      rw [if_pos (Int32.le_refl _)]
      exact oM.ret (by rw [t.2.2.1, fdT_1]) g.1 g.2.1 g.2.2
  · rw [if_neg (by rw [ι_le (by omega) (by omega)]; exact e), if_neg e]
    exact oM.ret rfl (h.qn h.cmw.c0 QN.rf) gI_s (MA.qn QN.rf)
end IMAGE
