/-! ===== a world follows another one; days go by in the spare world ===== -/
section FOLLOW
variable {P T : Nat} {W R : Rl} {A B : Wd} {σ τ υ σ0 : pS} {w u q t o r : Nat}
theorem Wp.lt {x : pS} {f : pS → Option pZ} {Q : pZ → Prop} (h : ∀ s, s = x → Wp (f s) Q) : Wp (lt x f) Q := h x rfl
theorem p1 {a0 n0 : Nat} (ha : kd a0 = (100, n0)) (hL : LayR (gR σ)) (hn : n0 < 2147483648) {x : Int32} : Wp (pcall 1 [.ref a0, .int x] σ) (RV (fun τ => Fr (fun b => b = a0) σ τ ∧ ∀ i, i < n0 → gI τ a0 i = x)) := by
  refine Wp.le (M_1 ha rfl hL) ?_
  refine Wp.loop (α := pS) n0 (fun t τ => C_1_5 a0 n0 x (ι t) (ι n0) τ) (fun t τ => Fr (fun b => b = a0) σ τ ∧ ∀ i, i < t → gI τ a0 i = x) ?_ ?_ (t := 0) (a := σ) (Nat.zero_le _) ⟨Fr.refl, fun i hi => absurd hi (Nat.not_lt_zero i)⟩
  · rintro t τ ht ⟨fr, hx⟩ k
    refine Wp.le (T_1_5 ha rfl (by rw [fr.r]; exact hL)) ?_
    simp (disch := omega) only [ι_lt_t, ι_lt_f, ι_le_t, ι_le_f, ι_eq_f, ι_m1, ι_add, ι_mul, ι_pm, ι_sub, ix_ι, gd_inb, gd_t, eq_self, if_true, if_false, not_true_eq_false, not_false_eq_true, ite_self, ]
    refine k _ ⟨fr.mI rfl, fun i hi => ?_⟩
    rw [gI_sI, if_pos rfl]
    by_cases e : i = t
    · rw [if_pos e]
    · rw [if_neg e]; exact hx i (by omega)
  · rintro τ ⟨fr, hx⟩
    refine Wp.le (T_1_5 ha rfl (by rw [fr.r]; exact hL)) ?_
    simp (disch := omega) only [ι_lt_t, ι_lt_f, ι_le_t, ι_le_f, ι_eq_f, ι_m1, ι_add, ι_mul, ι_pm, ι_sub, ix_ι, gd_inb, gd_t, eq_self, if_true, if_false, not_true_eq_false, not_false_eq_true, ite_self, ]
    exact Wp.retV ⟨fr, hx⟩
/-- only cells of S, and of references only those of V, have changed -/
def Fq (S : Nat → Prop) (V : Nat → Nat → Prop) (σ τ : pS) : Prop := (∀ a f, ¬ V a f → gR τ a f = gR σ a f) ∧ pn τ = pn σ ∧ pcl τ = pcl σ ∧ psl τ = psl σ ∧ psc τ = psc σ ∧ ∀ a, ¬ S a → (∀ i, gI τ a i = gI σ a i) ∧ (∀ i, gJ τ a i = gJ σ a i)
theorem Fq.refl {S : Nat → Prop} {V : Nat → Nat → Prop} : Fq S V σ σ := ⟨fun _ _ _ => rfl, rfl, rfl, rfl, rfl, fun _ _ => ⟨fun _ => rfl, fun _ => rfl⟩⟩
theorem Fq.trans {S : Nat → Prop} {V : Nat → Nat → Prop} (h : Fq S V σ τ) (g : Fq S V τ υ) : Fq S V σ υ := ⟨fun a f n => (g.1 a f n).trans (h.1 a f n), g.2.1.trans h.2.1, g.2.2.1.trans h.2.2.1, g.2.2.2.1.trans h.2.2.2.1, g.2.2.2.2.1.trans h.2.2.2.2.1, fun a n => ⟨fun i => ((g.2.2.2.2.2 a n).1 i).trans ((h.2.2.2.2.2 a n).1 i), fun i => ((g.2.2.2.2.2 a n).2 i).trans ((h.2.2.2.2.2 a n).2 i)⟩⟩
theorem Fq.mono {S S' : Nat → Prop} {V V' : Nat → Nat → Prop} (h : Fq S V σ τ) (hs : ∀ a, S a → S' a) (hv : ∀ a f, V a f → V' a f) : Fq S' V' σ τ := ⟨fun a f n => h.1 a f (fun v => n (hv a f v)), h.2.1, h.2.2.1, h.2.2.2.1, h.2.2.2.2.1, fun a n => h.2.2.2.2.2 a (fun s => n (hs a s))⟩
theorem Fq.of {S S' : Nat → Prop} {V : Nat → Nat → Prop} (h : Fr S σ τ) (hs : ∀ a, S a → S' a) : Fq S' V σ τ := ⟨fun a f _ => by rw [h.1], h.2.1, h.2.2.1, h.2.2.2.1, h.2.2.2.2.1, fun a n => h.2.2.2.2.2 a (fun s => n (hs a s))⟩
theorem Fq.i {S : Nat → Prop} {V : Nat → Nat → Prop} (h : Fq S V σ τ) {a : Nat} (n : ¬ S a) (i : Nat) : gI τ a i = gI σ a i := (h.2.2.2.2.2 a n).1 i
theorem Fq.j {S : Nat → Prop} {V : Nat → Nat → Prop} (h : Fq S V σ τ) {a : Nat} (n : ¬ S a) (i : Nat) : gJ τ a i = gJ σ a i := (h.2.2.2.2.2 a n).2 i
theorem Fq.rr {S : Nat → Prop} {V : Nat → Nat → Prop} (h : Fq S V σ τ) {a f : Nat} (n : ¬ V a f) : gR τ a f = gR σ a f := h.1 a f n
theorem Fq.mI {S : Nat → Prop} {V : Nat → Nat → Prop} {a i : Nat} {x : Int32} (h : Fq S V σ τ) (s : S a) : Fq S V σ (sI τ a i x) := h.trans (Fq.of (Fr.refl.mI (S := S) s) (fun _ s => s))
theorem Fq.mA {S : Nat → Prop} {V : Nat → Nat → Prop} {a : Nat} {f : Nat → Int32} (h : Fq S V σ τ) (s : S a) : Fq S V σ (sA τ a f) := h.trans (Fq.of (Fr.refl.mA (S := S) s) (fun _ s => s))
theorem Fq.mJ {S : Nat → Prop} {V : Nat → Nat → Prop} {a i : Nat} {x : Int64} (h : Fq S V σ τ) (s : S a) : Fq S V σ (sJ τ a i x) := h.trans (Fq.of (Fr.refl.mJ (S := S) s) (fun _ s => s))
theorem Fq.mR {S : Nat → Prop} {V : Nat → Nat → Prop} {a i : Nat} {x : Option Nat} (h : Fq S V σ τ) (v : V a i) : Fq S V σ (sR τ a i x) := h.trans ⟨fun b f n => by
  rw [gR_sR]
  by_cases e : b = a
  · by_cases e2 : f = i
    · exact absurd (e ▸ e2 ▸ v) n
    · rw [if_pos e, if_neg e2]
  · rw [if_neg e], rfl, rfl, rfl, rfl, fun _ _ => ⟨fun _ => rfl, fun _ => rfl⟩⟩
/-- a reference that isn't laid once for all -/
def mov (a f : Nat) : Prop := isW a ∧ f = 0 ∨ a = 0 ∧ (f = 4 ∨ f = 5) ∨ a = 24 ∧ (f = 8 ∨ f = 9) ∨ a = 61 ∧ f = 3
theorem lay_mov : ∀ x ∈ layT, ¬ mov x.1 x.2.1 := by unfold mov; decide
theorem Fq.lay {S : Nat → Prop} {V : Nat → Nat → Prop} (h : Fq S V σ τ) (hV : ∀ a f, V a f → mov a f) (hL : LayR (gR σ)) : LayR (gR τ) := fun x hx => by
  rw [h.rr (fun v => lay_mov x hx (hV _ _ v))]; exact hL x hx
theorem CW.fv {S : Nat → Prop} {V : Nat → Nat → Prop} (h : CW P T W R A σ w q) (f : Fq S V σ τ) (hV : ∀ a f, V a f → mov a f) (hVw : ¬ V w 0) (hS : ∀ i, i < 5 → ¬ S (w + i)) (hq : ∀ i, i < 5 ∨ i = 5 ∨ i = 6 ∨ i = 8 ∨ i = 9 → ¬ S (q + i)) : CW P T W R A τ w q := by
  have z := f.i (hS 0 (by omega))
  simp only [Nat.add_zero] at z
  have hr : ∀ {u ok V}, hasR σ u ok V → ¬ S u → ¬ S (u + 1) → hasR τ u ok V := fun {u ok V} ⟨a, b, c, d, e⟩ h0 h1 => ⟨a, by rw [f.i h0]; exact b, by rw [f.i h0]; exact c, fun i hi => by rw [f.i h1]; exact d i hi, fun k hk => by rw [f.i h0]; exact e k hk⟩
  refine ⟨h.1, ⟨h.isp, f.lay hV h.lay, fun p hp => by rw [f.i (hq 1 (by omega))]; exact h.bold hp, fun t ht => by rw [f.i (show ¬ S q from hq 0 (by omega))]; exact h.firm ht, hr h.wr (hq 5 (by omega)) (hq 6 (by omega)), hr h.rr (hq 8 (by omega)) (hq 9 (by omega))⟩, h.isw, by rw [f.rr hVw]; exact h.told, by rw [z]; exact h.P, by rw [z]; exact h.T, by rw [z]; exact h.day, by rw [z]; exact h.sil, fun t ht => by rw [f.i (hS 1 (by omega))]; exact h.own ht, fun t ht => by rw [f.i (hS 2 (by omega))]; exact h.run ht, fun t ht => by rw [f.i (hS 3 (by omega))]; exact h.see ht, fun p hp t ht => by rw [f.i (hS 4 (by omega))]; exact h.wor hp ht⟩
theorem STL.eq {x : Int32} (h : STL P T W R A σ u) (e : x = gI σ u 11) : x = ι 0 ∨ x = ι 1 ∧ (¬ usesD W → ¬ usesD R → stilS P T W R A) := by subst e; exact h
/-- the cells of a world -/
def Ww (w a : Nat) : Prop := w ≤ a ∧ a ≤ w + 5
def Vw (w a f : Nat) : Prop := a = w ∧ f = 0
/-- what c84 says -/
def folR (P T : Nat) (W R : Rl) (A : Wd) (σ : pS) (w q : Nat) (τ : pS) : Prop := CW P T W R A τ w q ∧ STL P T W R A τ w ∧ (∀ j, j < 12 → gI τ (w + 5) j = ι 0) ∧ Fq (Ww w) (Vw w) σ τ
set_option maxHeartbeats 2000000 in
theorem c84 (h : CW P T W R A σ u q) (hw : isW w) (hne : w ≠ u) (hs : gI σ w 10 = A 0 1) (hst : STL P T W R A σ u) : Wp (pcall 84 [.ref w, .ref u] σ) (RV (folR P T W R A σ w q)) := by
  have hu := h.isw
  have hP := h.1.P
  have hT := h.1.T
  have hVm : ∀ a f, Vw w a f → mov a f := fun a f v => Or.inl ⟨v.1 ▸ hw, v.2⟩
  refine Wp.le (M_84 hw hu rfl h.lay) ?_
  rw [bG_some h.told h.isp]
  have f0 : Fq (Ww w) (Vw w) σ (sR σ w 0 (some q)) := Fq.refl.mR ⟨rfl, rfl⟩
  refine Wp.g (f0.lay hVm h.lay) ?_
  have k0 : Ww w w := ⟨by omega, by omega⟩
  have nu : ∀ i, i < 6 → ¬ Ww w (u + i) := by unfold Ww; rcases hw with rfl | rfl | rfl <;> rcases hu with rfl | rfl | rfl <;> omega
  have nu0 : ¬ Ww w u := nu 0 (by omega)
  refine Wp.lt fun s2 e2 => ?_
  have f2 : Fq (Ww w) (Vw w) σ s2 := by rw [e2]; exact f0
  refine Wp.lt fun s3 e3 => ?_
  have f3 : Fq (Ww w) (Vw w) σ s3 := by rw [e3]; exact f2.mI k0
  refine Wp.lt fun s4 e4 => ?_
  have f4 : Fq (Ww w) (Vw w) σ s4 := by rw [e4]; exact f3.mI k0
  refine Wp.lt fun s5 e5 => ?_
  have f5 : Fq (Ww w) (Vw w) σ s5 := by rw [e5]; exact f4.mI k0
  rw [f2.i nu0] at e3
  rw [f3.i nu0] at e4
  rw [f4.i nu0] at e5
  have e11 : gI s5 u 11 = gI σ u 11 := f5.i nu0 11
  have hx := STL.eq (x := gI s5 u 11) hst e11
  refine Wp.g (hx.imp id (fun h => h.1)) ?_
  refine Wp.lt fun s6 e6 => ?_
  have f6 : Fq (Ww w) (Vw w) σ s6 := by rw [e6]; exact f5.mI k0
  refine Wp.lt fun s7 e7 => ?_
  have f7 : Fq (Ww w) (Vw w) σ s7 := by rw [e7]; exact f6.mA ⟨by omega, by omega⟩
  refine Wp.lt fun s8 e8 => ?_
  have f8 : Fq (Ww w) (Vw w) σ s8 := by rw [e8]; exact f7.mA ⟨by omega, by omega⟩
  refine Wp.lt fun s9 e9 => ?_
  have f9 : Fq (Ww w) (Vw w) σ s9 := by rw [e9]; exact f8.mA ⟨by omega, by omega⟩
  refine Wp.lt fun s10 e10 => ?_
  have f10 : Fq (Ww w) (Vw w) σ s10 := by rw [e10]; exact f9.mA ⟨by omega, by omega⟩
  have g1 : ∀ j, gI s6 (u + 1) j = gI σ (u + 1) j := f6.i (nu 1 (by omega))
  have g2 : ∀ j, gI s7 (u + 2) j = gI σ (u + 2) j := f7.i (nu 2 (by omega))
  have g3 : ∀ j, gI s8 (u + 3) j = gI σ (u + 3) j := f8.i (nu 3 (by omega))
  have g4 : ∀ j, gI s9 (u + 4) j = gI σ (u + 4) j := f9.i (nu 4 (by omega))
  have a1 : ∀ j, j < 12 → gI s10 (w + 1) j = gI σ (u + 1) j := by
    intro j hj
    rw [e10, gI_sA, if_neg (by omega), e9, gI_sA, if_neg (by omega), e8, gI_sA, if_neg (by omega), e7, gI_sA, if_pos rfl]
    unfold va_cpy
    rw [if_pos ⟨by omega, by omega⟩, show 0 + (j - 0) = j by omega, g1]
  have a2 : ∀ j, j < 12 → gI s10 (w + 2) j = gI σ (u + 2) j := by
    intro j hj
    rw [e10, gI_sA, if_neg (by omega), e9, gI_sA, if_neg (by omega), e8, gI_sA, if_pos rfl]
    unfold va_cpy
    rw [if_pos ⟨by omega, by omega⟩, show 0 + (j - 0) = j by omega, g2]
  have a3 : ∀ j, j < 8 → gI s10 (w + 3) j = gI σ (u + 3) j := by
    intro j hj
    rw [e10, gI_sA, if_neg (by omega), e9, gI_sA, if_pos rfl]
    unfold va_cpy
    rw [if_pos ⟨by omega, by omega⟩, show 0 + (j - 0) = j by omega, g3]
  have a4 : ∀ j, j < 96 → gI s10 (w + 4) j = gI σ (u + 4) j := by
    intro j hj
    rw [e10, gI_sA, if_pos rfl]
    unfold va_cpy
    rw [if_pos ⟨by omega, by omega⟩, show 0 + (j - 0) = j by omega, g4]
  have a0 : ∀ j, gI s10 w j = if j = 11 then gI σ u 11 else if j = 3 then gI σ u 3 else if j = 2 then gI σ u 2 else if j = 1 then gI σ u 1 else gI σ w j := by
    intro j
    rw [e10, gI_sA, if_neg (by omega), e9, gI_sA, if_neg (by omega), e8, gI_sA, if_neg (by omega), e7, gI_sA, if_neg (by omega), e6, gI_sI, if_pos rfl, e11, e5, gI_sI, if_pos rfl, e4, gI_sI, if_pos rfl, e3, gI_sI, if_pos rfl, e2, gI_sR]
  have hq : ∀ i, i < 5 ∨ i = 5 ∨ i = 6 ∨ i = 8 ∨ i = 9 → ¬ Ww w (q + i) := by
    intro i hi
    have := Wc.qq (i := i) hw h.isp hi
    exact fun g => this (Or.inr g)
  have h10 : CW P T W R A s10 u q := h.fv f10 hVm (fun v => hne v.1.symm) (fun i hi => nu i (by omega)) hq
  refine Wp.cV (p1 (kdW_5 hw) h10.lay (by omega)) ?_
  rintro s11 ⟨f11, z11⟩
  have hk : ∀ {a}, a ≠ w + 5 → ∀ j, gI s11 a j = gI s10 a j := fun {a} h j => f11.i h j
  have k6 : Fq (Ww w) (Vw w) σ s11 := f10.trans (Fq.of f11 (fun a e => by rw [e]; exact ⟨by omega, by omega⟩))
  refine Wp.retV ⟨?_, ?_, z11, k6⟩
  · have h11 : CW P T W R A s11 u q := h.fv k6 hVm (fun v => hne v.1.symm) (fun i hi => nu i (by omega)) hq
    refine ⟨h.1, h11.2.1, hw, ?_, ?_, ?_, ?_, ?_, ?_, ?_, ?_, ?_⟩
    · rw [f11.r, e10, gR_sA, e9, gR_sA, e8, gR_sA, e7, gR_sA, e6, gR_sI, e5, gR_sI, e4, gR_sI, e3, gR_sI, e2, gR_sR, if_pos rfl, if_pos rfl]
    · rw [hk (by omega), a0]; simp [h.P]
    · rw [hk (by omega), a0]; simp [h.T]
    · rw [hk (by omega), a0]; simp [h.day]
    · rw [hk (by omega), a0]; simp [hs]
    · intro t ht; rw [hk (by omega), a1 t (by omega)]; exact h.own ht
    · intro t ht; rw [hk (by omega), a2 t (by omega)]; exact h.run ht
    · intro t ht; rw [hk (by omega), a3 t (by omega)]; exact h.see ht
    · intro p hp t ht; rw [hk (by omega), a4 _ (by omega)]; exact h.wor hp ht
  · show gI s11 w 11 = _ ∨ gI s11 w 11 = _ ∧ _
    rw [hk (by omega), a0]
    simp only [if_true]
    exact hst
end FOLLOW
