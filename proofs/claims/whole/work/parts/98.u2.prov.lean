/-! ===== a province is told ===== -/
section PROV2
variable {P T : Nat} {W R : Rl} {A : Wd} {m : Me} {im : Option (Wd × Me)} {tp : Nat × (Nat → Int32)} {fp fp' : Int32}
variable {σ τ υ σ0 μ ν0 μ0 : pS} {n k e i j c q pl : Nat} {x : Nat → Nat} {tk : Nat × Nat × Nat} {L : Rl} {s y r : Int32} {d : Dx} {v v1 v2 : Value} {g0 : Nat → Int32}
/-- all that is held: the counts and rules, the world, the memory, the image, the tape, the fault's place, which province is told -/
abbrev Om : Type := (Nat × Nat × Rl × Rl) × Wd × Me × Option (Wd × Me) × (Nat × (Nat → Int32)) × Int32 × Nat
def IC (o : Om) (σ : pS) : Prop := CI o.1.1 o.1.2.1 o.1.2.2.1 o.1.2.2.2 o.2.1 o.2.2.1 o.2.2.2.1 o.2.2.2.2.1 o.2.2.2.2.2.1 σ o.2.2.2.2.2.2
def IM (o : Om) (σ : pS) : Prop := MI o.1.1 o.1.2.1 o.1.2.2.1 o.1.2.2.2 o.2.1 o.2.2.1 o.2.2.2.1 o.2.2.2.2.1 o.2.2.2.2.2.1 σ
/-- a call on both sides: the same, on what is the same -/
def JR (e : Nat → Nat) (σ μ : pS) (zc zm : pZ) : Prop := ∃ o k w, k ≤ 1 ∧ oC σ (IC o) (e k, w) zc ∧ oM μ (IM o) (k, w) zm
def e12 (k : Nat) : Nat := if k = 1 then 2 else k
theorem prov_no (hC : CI P T W R A m im tp fp σ q) (hM : MI P T W R A m im tp fp μ) : R2 (some (2, .null, sX σ)) (bI (pcall 211 [.ref 61, .int (ι 1)] (sI μ 61 4 (ι 0))) fun r1 σ1 => some (1, .int r1, σ1)) (JR e12 σ μ) := by
  obtain ⟨zm, em, hm⟩ := oM.fl (k := 1) (w := ι 0) (by omega) hM
  rw [em]
  exact ⟨_, _, rfl, rfl, ((P, T, W, R), A, m, im, tp, fp, q), 1, ι 0, by omega, Or.inr (Or.inr ⟨rfl, rfl, hC⟩), hm⟩
def PX (n : Nat) (x : Nat → Nat) (q : Nat) (σ1 μz : pS) (zc zm : pZ) : Prop := (∃ d tk τ ν, zc = (1, .int (ι 0), τ) ∧ okDx d ∧ d.1.2.2 ≤ 700 ∧ PL n x q d tk (sS n q σ1) τ ∧ ML n x d tk μz ν ∧ RI (ι 0) (fun υ => CM d.1.1 d.1.2.1 d.2.2.1.1 d.2.2.2.1 (bgW d) υ ∧ (gI υ 61 32 = ι 0 ∧ gI υ 61 33 = ι 0 ∧ gI υ 61 50 = ι 0) ∧ (∀ i, i ≠ 31 → i ≠ 32 → i ≠ 33 → i ≠ 50 → gI υ 61 i = gI ν 61 i) ∧ Fr Tk ν υ) zm) ∨ ∃ c pl τ ν, zc = (1, .int (ι c), τ) ∧ FTL q c pl (sS n q σ1) τ ∧ FML c pl μz ν ∧ zm = (1, .int (ι c), sI (sI ν 61 24 (ι pl)) 73 0 (gI ν 73 0 + ι 1))
theorem isP15 (hq : isP q) : isP (15 - q) ∧ 15 - (15 - q) = q := by rcases hq with rfl | rfl <;> decide
abbrev sY (n : Nat) (μ : pS) : pS := sI (sI (sI (sI (sI (sI μ 61 4 (ι 0)) 61 15 (ι 0)) 61 17 (ι n)) 61 16 (ι 0)) 61 22 (ι 0)) 61 24 (ν 1)
theorem HR.yz : HR μ (sZ (sY n μ)) := by
  have : HR μ (sY n μ) := (((((HR.rf.m61 (by omega)).m61 (by omega)).m61 (by omega)).m61 (by omega)).m61 (by omega)).m61 (by omega)
  exact this.hl (((((HL.rf.m (by omega)).m (by omega)).m (by omega)).m (by omega)).m (by omega))
theorem prov_read (hC : CI P T W R A m im tp fp σ q) (hM : MI P T W R A m im tp fp μ) (sm : SMr μ) (hn : n ≤ tp.1) : ∃ x, Txt n x ∧ R2 (pcall 42 [.ref 24, .int (ι n), .ref (15 - q)] (sI σ 0 1 (ι 0))) (C_210_50 v (ι 0) (sY n μ)) (PX n x (15 - q) (sI σ 0 1 (ι 0)) (sZ (sY n μ))) := by
  have hq := hC.cnw.1.isp
  obtain ⟨hq', -⟩ := isP15 hq
  have t7 := hC.tok.1
  have xb : ∀ i, i < n → ∃ b, b < 256 ∧ tp.2 i = ι b := fun i hi => hC.tok.2 i (by omega)
  have hx : ∀ i, i < n → tp.2 i = ι (ix (tp.2 i)) ∧ ix (tp.2 i) < 256 := fun i hi => by
    obtain ⟨b, hb, e⟩ := xb i hi
    rw [e, ix_ι (by omega)]; exact ⟨rfl, hb⟩
  have t : Txt n (fun i => ix (tp.2 i)) := ⟨by omega, fun i hi => (hx i hi).2⟩
  refine ⟨_, t, read_ok hq' t hC.cnw.1.lay hM.cmw.lay (fun i hi => by rw [gI_c (by omega), hC.tby i (by omega)]; exact (hx i hi).1) (fun i hi => by simp (disch := omega) only [gI_s, gI_n, gI_c, uq_s, uq_n, uq_c]; rw [hM.tby i (by omega)]; exact (hx i hi).1) (by simp (disch := omega) only [gI_s, gI_n, gI_c, uq_s, uq_n, uq_c]) (by simp (disch := omega) only [gI_s, gI_n, gI_c, uq_s, uq_n, uq_c]) (by simp (disch := omega) only [gI_s, gI_n, gI_c, uq_s, uq_n, uq_c]) sm (fun d tk τ ν v' od hd p1 p2 => ?_) (fun c pl τ ν v' p1 p2 => ?_)⟩
  · have h36 : gI ν 61 36 = ι 0 := by
      rw [p2.2.2.1 36 (by omega)]; simp (disch := omega) only [gI_s, gI_n, gI_c, uq_s, uq_n, uq_c]; rw [hM.cmw.sil]; exact hM.sl0
    refine R2.le2 (T_210_99 rfl p2.lay) ?_
    obtain ⟨z, ez, v3, υ, rfl, hk⟩ := take_ok p2.1.2.2.2.1 od hd p2.lay h36
    rw [if_pos p2.1.2.1, ez, bV_ret]
    exact ⟨_, _, rfl, rfl, Or.inl ⟨d, tk, τ, ν, rfl, od, hd, p1, p2, _, rfl, hk⟩⟩
  · refine R2.le2 (T_210_99 rfl p2.lay) ?_
    rw [if_neg p2.n22, gI_c (show 61 ≠ 73 by omega), gI_n (show 22 ≠ 24 by omega), p2.1.2.2.2.1, p2.1.2.2.2.2, gI_c (show 73 ≠ 61 by omega)]
    exact ⟨_, _, rfl, rfl, Or.inr ⟨c, pl, τ, ν, rfl, p1, p2, rfl⟩⟩
def Sp0 (q a : Nat) : Prop := a = 0 ∨ a = 24 ∨ 15 - q ≤ a ∧ a ≤ 15 - q + 9
def Vp0 (a f : Nat) : Prop := a = 24 ∧ (f = 8 ∨ f = 9)
theorem GL.all (h : GL (15 - q) (sS n (15 - q) (sI σ 0 1 (ι 0))) τ) : Fq (Sp0 q) Vp0 σ τ := by
  have f1 : Fq (Sp0 q) Vp0 σ (sS n (15 - q) (sI σ 0 1 (ι 0))) := (((((Fq.refl.mI (Or.inl rfl)).mI (Or.inr (Or.inl rfl))).mI (Or.inr (Or.inl rfl))).mI (Or.inr (Or.inl rfl))).mI (Or.inr (Or.inl rfl))).mR ⟨rfl, Or.inl rfl⟩
  exact f1.trans (h.1.mono (fun a s => by unfold Sp0; omega) (fun a f v => by unfold Vp0; omega))
theorem GL.z0 (hq : isP q) (h : GL (15 - q) (sS n (15 - q) (sI σ 0 1 (ι 0))) τ) (i : Nat) : gI τ 0 i = gI (sI σ 0 1 (ι 0)) 0 i := by
  rw [h.1.i (by rcases hq with rfl | rfl <;> omega), gI_sR]
  simp (disch := omega) only [gI_s, gI_n, gI_c, uq_s, uq_n, uq_c]
theorem Vp0.ca {a f : Nat} (h : Vp0 a f) : VA a f := by unfold Vp0 at h; unfold VA mov; omega
theorem Sp0.ca (hq : isP q) {a : Nat} (h : Sp0 q a) : CA a := by unfold Sp0 at h; unfold CA; rcases hq with rfl | rfl <;> omega
theorem prov_bad {c : Nat} (hC : CI P T W R A m im tp fp σ q) (hM : MI P T W R A m im tp fp μ) (f1 : FTL (15 - q) c pl (sS n (15 - q) (sI σ 0 1 (ι 0))) τ) (f2 : FML c pl (sZ (sY n μ)) ν0) : JR e12 σ μ (1, .int (ι c), sI (sI τ 0 3 (ι pl)) 35 0 (gI (sI τ 0 3 (ι pl)) 35 0 + ι 1)) (1, .int (ι c), sI (sI ν0 61 24 (ι pl)) 73 0 (gI ν0 73 0 + ι 1)) := by
  have hq := hC.cnw.1.isp
  have F : Fq (Sp0 q) Vp0 σ (sI τ 0 3 (ι pl)) := f1.2.all.mI (Or.inl rfl)
  have z := f1.2.z0 hq
  have C1 : CI P T W R A m im (0, fun _ => ι 0) (ι pl) (sI τ 0 3 (ι pl)) q := hC.pr F (fun a s => s) (fun a f v => v) (by rw [gI_n (by omega), z, gI_s]) gI_s (by rw [gI_n (by omega), z, gI_n (by omega)])
  have C2 := C1.rf (i := 0) Fr.refl (by omega)
  have H : HR μ (sI ν0 61 24 (ι pl)) := (HR.yz.hl f2.2).m61 (by omega)
  have e15 : gI (sI ν0 61 24 (ι pl)) 61 15 = ι 0 := by
    rw [gI_n (by omega), f2.2.2.1 15 (by omega)]; simp (disch := omega) only [gI_s, gI_n, gI_c, uq_s, uq_n, uq_c]
  have M1 : MI P T W R A m im (0, fun _ => ι 0) (ι pl) (sI ν0 61 24 (ι pl)) := hM.pr H e15 gI_s
  have M2 := M1.rf (i := 0) (by omega)
  have e73 : gI (sI ν0 61 24 (ι pl)) 73 0 = gI ν0 73 0 := gI_c (by omega)
  rw [e73] at M2
  refine ⟨((P, T, W, R), A, refS m 0, im, (0, fun _ => ι 0), ι pl, q), 0, ι c, by omega, Or.inl ⟨rfl, _, rfl, C2.1, (F.mono (fun a s => s.ca hq) (fun a f v => v.ca)).trans C2.2⟩, _, _, rfl, fun _ => rfl, ?_, M2, ?_⟩
  · rw [gI_c (by omega), gI_n (by omega), f2.2.2.1 4 (by omega)]; simp (disch := omega) only [gI_s, gI_n, gI_c, uq_s, uq_n, uq_c]
  · exact (H.1.mono (fun a s => by unfold MA; omega) (fun a f v => v)).mI (Or.inl (by omega))
theorem prov_C (hC : CI P T W R A m im tp fp σ q) (od : okDx d) (p1 : PL n x (15 - q) d tk (sS n (15 - q) (sI σ 0 1 (ι 0))) τ) : Wp (bI (pcall 67 [.ref 24] τ) fun r3 σ3 => if ι 0 = ι 0 then bG isP (gR (sI σ3 0 3 r3) 0 4) fun q4 => bG isP (gR (sI σ3 0 3 r3) 0 5) fun q5 => gd (LayR (gR (sR (sI σ3 0 3 r3) 0 4 (some q5)))) (gd (LayR (gR (sR (sR (sI σ3 0 3 r3) 0 4 (some q5)) 0 5 (some q4)))) (bG isP (gR (sR (sR (sI σ3 0 3 r3) 0 4 (some q5)) 0 5 (some q4)) 0 4) fun q8 => bV (pcall 85 [.ref 25, .ref q8] (sR (sR (sI σ3 0 3 r3) 0 4 (some q5)) 0 5 (some q4))) fun σ9 => gd (LayR (gR σ9)) (bV (pcall 110 [.ref 32] σ9) fun σ10 => some (1, .int (ι 0), (sI σ10 0 10 (ι 0)))))) else bI (pcall 104 [.ref 32, .int (ι 0)] (sI σ3 0 3 r3)) fun r11 σ11 => some (1, .int (ι 0), σ11)) (RI (ι 0) (fun υ => CI d.1.1 d.1.2.1 d.2.2.1.1 d.2.2.2.1 (bgW d) (m00 m) none (0, fun _ => ι 0) (ν 1) υ (15 - q) ∧ Fq CA VA σ υ)) := by
  have hq := hC.cnw.1.isp
  obtain ⟨hq', hqq⟩ := isP15 hq
  have F := p1.2.all
  have z := p1.2.z0 hq
  have mv4 : mov 0 4 := by unfold mov; omega
  have mv5 : mov 0 5 := by unfold mov; omega
  have r4 : gR (sI τ 0 3 (ν 1)) 0 4 = some q := by rw [gR_sI, F.rr (by unfold Vp0; omega)]; exact hC.tld
  have r5 : gR (sI τ 0 3 (ν 1)) 0 5 = some (15 - q) := by rw [gR_sI, F.rr (by unfold Vp0; omega)]; exact hC.drf
  have L1 : LayR (gR (sR (sI τ 0 3 (ν 1)) 0 4 (some (15 - q)))) := lay_sR p1.lay mv4
  have L2 : LayR (gR (sR (sR (sI τ 0 3 (ν 1)) 0 4 (some (15 - q))) 0 5 (some q))) := lay_sR L1 mv5
  have r6 : gR (sR (sR (sI τ 0 3 (ν 1)) 0 4 (some (15 - q))) 0 5 (some q)) 0 4 = some (15 - q) := by
    rw [gR_sR, if_pos rfl, if_neg (by omega), gR_sR, if_pos rfl, if_pos rfl]
  rw [(M_67 rfl p1.lay).eq rfl, bI_ret, if_pos rfl, p1.1.1.2.2.2, bG_some r4 hq, bG_some r5 hq', gd_pos L1, gd_pos L2, bG_some r6 hq']
  refine Wp.lt (f := fun s => bV (pcall 85 [.ref 25, .ref (15 - q)] s) fun σ9 => gd (LayR (gR σ9)) (bV (pcall 110 [.ref 32] σ9) fun σ10 => some (1, .int (ι 0), (sI σ10 0 10 (ι 0))))) fun s es => ?_
  have r6' : gR s 0 4 = some (15 - q) := by rw [es]; exact r6
  have r7' : gR s 0 5 = some q := by rw [es, gR_sR, if_pos rfl, if_pos rfl]
  have Ls : LayR (gR s) := by rw [es]; exact L2
  have ks : ∀ a i, a ≠ 0 ∨ i ≠ 3 → gI s a i = gI τ a i := fun a i h => by
    rw [es, gI_sR, gI_sR]
    by_cases e : a = 0
    · subst e; exact gI_n (by omega)
    · exact gI_c e
  have k03 : gI s 0 3 = ν 1 := by rw [es, gI_sR, gI_sR, gI_s]
  have Fs : Fq (fun a => a = 0) (fun a f => a = 0 ∧ (f = 4 ∨ f = 5)) τ s := by
    rw [es]; exact ((Fq.refl (S := fun a => a = 0) (V := fun a f => a = 0 ∧ (f = 4 ∨ f = 5))).mI rfl |>.mR ⟨rfl, Or.inl rfl⟩).mR ⟨rfl, Or.inr rfl⟩
  clear es
  have D : DC d (15 - q) s := p1.1.2.2.2.2.fr fun a h1 h2 i => ks a i (by rcases hq with rfl | rfl <;> omega)
  have Fb : ∀ a, 25 ≤ a → ∀ i, gI s a i = gI σ a i := fun a ha i => by
    rw [ks a i (by omega), F.i (by unfold Sp0; rcases hq with rfl | rfl <;> omega)]
  have e10 : gI s 25 10 = ι 0 := by rw [Fb 25 (by omega), hC.cnw.1.sil]; exact hC.cnw.2.2.1
  obtain ⟨z9, ez9, v9, υ, rfl, cw, e11, f9⟩ := begin_ok D hq' Ls od e10
  rw [ez9, bV_ret, gd_pos cw.lay, (M_110 (m := 32) (by decide) rfl cw.lay).eq rfl, bV_ret]
  have kf : ∀ a, a ≠ 0 → a ≠ 32 → ¬ (25 ≤ a ∧ a ≤ 30) → ∀ i, gI (sI (sI (sI υ 32 1 (ι 0)) 32 3 (ι 0)) 0 10 (ι 0)) a i = gI s a i := fun a h1 h2 h3 i => by
    rw [gI_c h1, gI_c h2, gI_c h2, f9.i h3]
  have f0 : ∀ i, gI υ 0 i = gI s 0 i := fun i => f9.i (by omega) i
  refine Wp.retI ⟨⟨⟨?_, ?_, bgW_0 (by omega), ?_⟩, ?_, ?_, okTp0, ?_, fun i hi => absurd hi (Nat.not_lt_zero i), ?_, ok_m00, ⟨?_, fun k hk => absurd hk (Nat.not_lt_zero k), ⟨?_, fun k hk => absurd hk (Nat.not_lt_zero k)⟩, fun i hi => ?_⟩, ?_, ?_, fun B m' e => (by cases e)⟩, ?_⟩
  · have g : Fr (fun a => a = 0 ∨ a = 32) υ (sI (sI (sI υ 32 1 (ι 0)) 32 3 (ι 0)) 0 10 (ι 0)) := ((Fr.refl.mI (Or.inr rfl)).mI (Or.inr rfl)).mI (Or.inl rfl)
    exact ⟨cw.1, cw.2.1.fr g (hq0 (S := fun a => a = 0 ∨ a = 32) hq' (fun a h1 h2 => by omega)), cw.2.2.fr g (fun i hi => by omega)⟩
  · refine Or.inl ?_; simp (disch := omega) only [gI_s, gI_n, gI_c, uq_s, uq_n, uq_c]; exact e11
  · rw [kf 47 (by omega) (by omega) (by omega), Fb 47 (by omega)]; exact hC.cnw.2.2.2
  · rw [gR_sI, gR_sI, gR_sI, f9.rr (by omega)]; exact r6'
  · rw [gR_sI, gR_sI, gR_sI, f9.rr (by omega), hqq]; exact r7'
  · rw [gI_n (by omega), gI_c (by omega), gI_c (by omega), f0, ks 0 1 (by omega), z, gI_s]
  · rw [gI_n (by omega), gI_c (by omega), gI_c (by omega), f0, k03]
  · rw [gI_c (by omega), gI_n (by omega), gI_s]; rfl
  · rw [gI_c (by omega), gI_s]; rfl
  · rw [kf 35 (by omega) (by omega) (by omega), Fb 35 (by omega)]; exact hC.mem.2.2.2 i hi
  · rw [gI_s]; rfl
  · rw [kf 36 (by omega) (by omega) (by omega), Fb 36 (by omega)]; exact hC.i36
  · refine (((((F.mono (fun a s => s.ca hq) (fun a f v => v.ca)).trans (Fs.mono (fun a s => by unfold CA; omega) (fun a f v => by unfold VA mov; omega))).trans (f9.mono (fun a s => by unfold CA; omega) (fun a f v => ⟨?_, by omega⟩))).mI (Or.inl (by omega))).mI (Or.inl (by omega))).mI (Or.inl (by omega))
    rw [v.1, v.2]; unfold mov; exact Or.inl ⟨by decide, rfl⟩
theorem prov_M {ν5 υ : pS} (hM : MI P T W R A m im tp fp μ) (p2 : ML n x d tk (sZ (sY n μ)) ν5) (cm : CM d.1.1 d.1.2.1 d.2.2.1.1 d.2.2.2.1 (bgW d) υ) (e32 : gI υ 61 32 = ι 0) (e33 : gI υ 61 33 = ι 0) (e50 : gI υ 61 50 = ι 0) (k61 : ∀ i, i ≠ 31 → i ≠ 32 → i ≠ 33 → i ≠ 50 → gI υ 61 i = gI ν5 61 i) (fm : Fr Tk ν5 υ) : MI d.1.1 d.1.2.1 d.2.2.1.1 d.2.2.2.1 (bgW d) (m00 m) none (0, fun _ => ι 0) (ν 1) υ ∧ gI υ 61 4 = ι 0 ∧ Fq MA VM μ υ := by
  have H : HR μ ν5 := HR.yz.hl p2.2
  have kk : ∀ i, i = 4 ∨ i = 15 ∨ i = 24 → gI υ 61 i = gI (sZ (sY n μ)) 61 i := fun i hi => by
    rw [k61 i (by omega) (by omega) (by omega) (by omega), p2.2.2.1 i (by omega)]
  refine ⟨⟨cm, bgW_0 (by omega), okTp0, ?_, fun i hi => absurd hi (Nat.not_lt_zero i), ?_, ok_m00, ⟨e32, fun k hk => absurd hk (Nat.not_lt_zero k), e33, fun k hk => absurd hk (Nat.not_lt_zero k), fun i hi => ?_⟩, e50, fun B m' e => (by cases e)⟩, ?_, ?_⟩
  · rw [kk 15 (by omega)]; simp (disch := omega) only [gI_s, gI_n, gI_c, uq_s, uq_n, uq_c]
  · rw [kk 24 (by omega)]; simp (disch := omega) only [gI_s, gI_n, gI_c, uq_s, uq_n, uq_c]
  · rw [fm.i (by unfold Tk; omega), H.1.i (by omega)]; exact hM.mem.2.2.2.2 i hi
  · rw [kk 4 (by omega)]; simp (disch := omega) only [gI_s, gI_n, gI_c, uq_s, uq_n, uq_c]
  · exact (H.1.mono (fun a s => by unfold MA; omega) (fun a f v => v)).trans (Fq.of fm (fun a s => by unfold Tk at s; unfold MA; omega))
theorem prov_ok (hC : CI P T W R A m im tp fp σ q) (hM : MI P T W R A m im tp fp μ) (sm : SMr μ) {x0 : Int32} : R2 (pcall 173 [.ref 0, .int x0] σ) (pcall 210 [.ref 61, .int x0] μ) (JR e12 σ μ) := by
  have hq := hC.cnw.1.isp
  obtain ⟨hq', hqq⟩ := isP15 hq
  have t7 := hC.tok.1
  have hL := hC.cnw.1.lay
  refine R2.lee (M_173 rfl hL) (M_210 rfl hM.cmw.lay) ?_
  have e15 : gI (sI μ 61 4 (ι 0)) 61 15 = ι tp.1 := by rw [gI_n (by omega)]; exact hM.tln
  rw [hC.tln, e15]
  by_cases n0 : x0 < ι 0
  · rw [if_pos n0, if_pos n0]; exact prov_no hC hM
  rw [if_neg n0, if_neg n0]
  by_cases n1 : x0 ≤ ι tp.1
  · rw [if_pos n1, if_pos n1]
    obtain ⟨n, hn, rfl⟩ := ι_of (n := 701) n0 (Int32.lt_of_le_of_lt n1 (by rw [ι_lt (by omega) (by omega)]; omega)) (by omega)
    rw [ι_le (by omega) (by omega)] at n1
    obtain ⟨x, t, zc, zm, ec, em, hX⟩ := prov_read (v := .int (ι n)) hC hM sm n1
    have r5 : gR (sI σ 0 1 (ι 0)) 0 5 = some (15 - q) := hC.drf
    rw [bG_some r5 hq', ec, em]
    rcases hX with ⟨d, tk, τ, ν5, rfl, od, hd, p1, p2, υ, rfl, cm, ⟨i32, i33, i50⟩, k61, fm⟩ | ⟨c, pl, τ, ν5, rfl, f1, f2, rfl⟩
    · rw [bI_ret, gd_pos p1.lay]
      obtain ⟨z1, e1, υ1, rfl, c1, f1⟩ := prov_C hC od p1
      obtain ⟨m1, m2, m3⟩ := prov_M hM p2 cm i32 i33 i50 k61 fm
      rw [e1]
      exact ⟨_, _, rfl, rfl, ((d.1.1, d.1.2.1, d.2.2.1.1, d.2.2.2.1), bgW d, m00 m, none, (0, fun _ => ι 0), ν 1, 15 - q), 0, ι 0, by omega, Or.inl ⟨rfl, _, rfl, c1, f1⟩, _, _, rfl, fun _ => rfl, m2, m1, m3⟩
    · rw [bI_ret, gd_pos f1.lay, (M_67 rfl f1.lay).eq rfl, bI_ret, f1.1.2.2.2.2.1, if_neg (show ¬ ι c = ι 0 by have a1 := f1.1.2.1; have a2 := f1.1.2.2.1; rw [ι_eq (by omega) (by omega)]; exact a1), c104 (σ := sI τ 0 3 (ι pl)) f1.lay (by omega), bI_ret]
      exact ⟨_, _, rfl, rfl, prov_bad hC hM f1 f2⟩
  · rw [if_neg n1, if_neg n1]; exact prov_no hC hM
end PROV2
