/-! ===== a step of the law ===== -/
section STEP
variable {σ τ υ μ σ1 σ2 : pS} {n k i j B c L K0 S0 : Nat} {e : Nat → Nat} {xs : Nat → Int32} {dC dM wr : pS → Option pZ} {φ : Int32 → Int64} {o : Om} {y : Int64}
theorem gJ_s0 : gJ (sJ σ 98 0 y) 98 0 = y := by rw [gJ_sJ, if_pos rfl, if_pos rfl]
theorem IC.jw (h : IC o σ) : IC o (sJ σ 98 0 y) := h
theorem IC.x (h : IC o σ) : IC o (sX σ) := h
theorem IM.jw (h : IM o σ) : IM o (sJ σ 98 0 y) := h
theorem IM.x (h : IM o σ) : IM o (sX σ) := h
theorem SMr.fq {S : Nat → Prop} {V : Nat → Nat → Prop} (h : SMr σ) (f : Fq S V σ τ) (hV : ∀ a i, V a i → a ≠ 62 ∧ a ≠ 63 ∧ a ≠ 64) : SMr τ := by
  have k : ∀ a i, a = 62 ∨ a = 63 ∨ a = 64 → gR τ a i = gR σ a i := fun a i ha => f.rr (fun v => by have := hV a i v; omega)
  unfold SMr at h ⊢
  simp only [k 62 _ (Or.inl rfl), k 63 _ (Or.inr (Or.inl rfl)), k 64 _ (Or.inr (Or.inr rfl))]
  exact h
theorem VA.no {a i : Nat} (h : VA a i) : a ≠ 62 ∧ a ≠ 63 ∧ a ≠ 64 := by
  unfold VA mov isW at h; omega
theorem VM.no {a i : Nat} (h : VM a i) : a ≠ 62 ∧ a ≠ 63 ∧ a ≠ 64 := by unfold VM at h; omega
def LI (K0 S0 L : Nat) (xs : Nat → Int32) (c : Nat) (σ : pS) : Prop := ∃ o, IC o σ ∧ IM o σ ∧ SMr σ ∧ pn σ = 99 ∧ psc σ = (L, xs) ∧ pcl σ ≤ K0 + c ∧ psl σ ≤ S0 + 6 * c
theorem LI.lay (h : LI K0 S0 L xs c σ) : LayR (gR σ) := by obtain ⟨o, hC, -⟩ := h; exact hC.cnw.1.lay
theorem LI.ps (h : LI K0 S0 L xs c σ) : psc σ = (L, xs) := by obtain ⟨o, -, -, -, -, h, -⟩ := h; exact h
/-- what a wrapper makes of a call -/
def Wr (φ : Int32 → Int64) (e : Nat → Nat) (B : Nat) (d w : Option pZ) : Prop := (∀ y τ, d = some (1, .int y, τ) → LayR (gR τ) → w = some (1, .int (ι 0), sJ τ 98 0 (φ y))) ∧ ∀ k τ, 1 ≤ k → k ≤ B → d = some (4 - e k, .null, τ) → LayR (gR τ) → w = some (1, .int (ι k), τ)
def okE (e : Nat → Nat) (B : Nat) : Prop := e 0 = 0 ∧ (∀ a b, a ≤ B → b ≤ B → e a = e b → a = b) ∧ ∀ a, a ≤ B → e a ≤ 2
theorem okE_id (hB : B ≤ 2) : okE id B := ⟨rfl, fun _ _ _ _ h => h, fun a h => Nat.le_trans h hB⟩
theorem okE_12 : okE e12 1 := by
  refine ⟨rfl, fun a b ha hb h => ?_, fun a ha => ?_⟩
  · unfold e12 at h; split at h <;> split at h <;> omega
  · unfold e12; split <;> omega
theorem fin_LI {σ0 : pS} (hC : IC o σ1) (hM : IM o σ2) (sm : SMr σ1) (f : Fq MA VM σ1 σ2) (hn : pn σ1 = 99) (hp : psc σ1 = (L, xs)) (h1 : pcl σ1 ≤ K0 + c) (h2 : psl σ1 ≤ S0 + 6 * c) : LI K0 S0 L xs c σ2 :=
  ⟨o, CI.ma hC f, hM, sm.fq f (fun a i v => v.no), by rw [f.2.1]; exact hn, by rw [f.2.2.2.2.1]; exact hp, by rw [f.2.2.1]; exact h1, by rw [f.2.2.2.1]; exact h2⟩
theorem pair_run (hP : Pair e B dC dM) (hE : okE e B) (hW : Wr φ e B (dC σ) (wr σ)) (h : LI K0 S0 L xs c σ) : ∃ k σ1 v σ2, k ≤ B ∧ wr σ = some (1, .int (ι k), σ1) ∧ LayR (gR σ1) ∧ psc σ1 = (L, xs) ∧ dM σ1 = some (1, .int v, σ2) ∧ gI σ2 61 4 = ι k ∧ (k = 0 → gJ σ2 98 0 = φ v) ∧ LI K0 S0 L xs (c + 1) σ2 := by
  obtain ⟨o, hC, hM, sm, hn, hp, h1, h2⟩ := h
  obtain ⟨e0, einj, e2⟩ := hE
  obtain ⟨zc, zm0, ec, -, o0, r0, hk0, hc0, -⟩ := hP o σ σ hC hM sm
  have key : ∀ (k : Nat) (σ1 : pS), k ≤ B → IM o σ1 → SMr σ1 → pn σ1 = 99 → psc σ1 = (L, xs) → pcl σ1 ≤ K0 + (c + 1) → psl σ1 ≤ S0 + 6 * (c + 1) → LayR (gR σ1) → wr σ = some (1, .int (ι k), σ1) → (∀ (o' : Om) (r' : Nat × Int32), r'.1 ≤ B → oC σ (IC o') (e r'.1, r'.2) zc → r'.1 = k ∧ IC o' σ1 ∧ (k = 0 → gJ σ1 98 0 = φ r'.2)) → ∃ k σ1 v σ2, k ≤ B ∧ wr σ = some (1, .int (ι k), σ1) ∧ LayR (gR σ1) ∧ psc σ1 = (L, xs) ∧ dM σ1 = some (1, .int v, σ2) ∧ gI σ2 61 4 = ι k ∧ (k = 0 → gJ σ2 98 0 = φ v) ∧ LI K0 S0 L xs (c + 1) σ2 := by
    intro k σ1 hk hM1 sm1 n1 p1 b1 b2 L1 ew hq
    obtain ⟨zc', zm, ec', em, o', r', hk', hc', v, τ2, rfl, hv, h4, hM2, f2⟩ := hP o σ σ1 hC hM1 sm1
    obtain rfl : zc = zc' := Option.some.inj (ec.symm.trans ec')
    obtain ⟨rk, hC1, hj⟩ := hq o' r' hk' hc'
    refine ⟨k, σ1, v, τ2, hk, ew, L1, p1, em, by rw [h4, rk], fun g => ?_, fin_LI (σ0 := σ) hC1 hM2 sm1 f2 n1 p1 b1 b2⟩
    rw [f2.j (by unfold MA Sc; omega), hj g, hv (by omega)]
  rcases hc0 with ⟨a1, τ, rfl, hI, f⟩ | ⟨a1, rfl, hI⟩ | ⟨a1, rfl, hI⟩
  · have Lt : LayR (gR τ) := CI.cnw hI |>.1.lay
    have ew := hW.1 _ _ ec Lt
    refine key 0 _ (Nat.zero_le _) (IM.jw (MI.ca hM f)) (show SMr τ from sm.fq f (fun a i v => v.no)) (by show pn τ = 99; rw [f.2.1]; exact hn) (by show psc τ = _; rw [f.2.2.2.2.1]; exact hp) (by show pcl τ ≤ _; rw [f.2.2.1]; omega) (by show psl τ ≤ _; rw [f.2.2.2.1]; omega) Lt ew ?_
    rintro o' r' hk' (⟨b1, τ', hz, hI', -⟩ | ⟨b1, hz, -⟩ | ⟨b1, hz, -⟩)
    · have hz := hz
      simp only [Prod.mk.injEq, Value.int.injEq, true_and] at hz
      obtain ⟨z1, rfl⟩ := hz
      refine ⟨einj _ _ hk' (Nat.zero_le _) (b1.trans e0.symm), IC.jw hI', fun _ => ?_⟩
      have z2 : r0.2 = r'.2 := z1
      rw [← z2]; exact gJ_s0
    · simp at hz
    · simp at hz
  · have a1 : e r0.1 = 1 := a1
    have hr : 1 ≤ r0.1 := by
      rcases Nat.eq_zero_or_pos r0.1 with g | g
      · rw [g, e0] at a1; omega
      · exact g
    have ew := hW.2 r0.1 (sX σ) hr hk0 (by rw [a1]; exact ec) hC.cnw.1.lay
    refine key r0.1 _ hk0 (IM.x hM) sm hn hp (by show pcl σ + 1 ≤ _; omega) (by show psl σ + 6 ≤ _; omega) hC.cnw.1.lay ew ?_
    rintro o' r' hk' (⟨b1, τ', hz, hI', -⟩ | ⟨b1, hz, hI'⟩ | ⟨b1, hz, -⟩)
    · simp at hz
    · exact ⟨einj _ _ hk' hk0 (b1.trans a1.symm), IC.x hI', fun g => by omega⟩
    · simp at hz
  · have a1 : e r0.1 = 2 := a1
    have hr : 1 ≤ r0.1 := by
      rcases Nat.eq_zero_or_pos r0.1 with g | g
      · rw [g, e0] at a1; omega
      · exact g
    have ew := hW.2 r0.1 (sX σ) hr hk0 (by rw [a1]; exact ec) hC.cnw.1.lay
    refine key r0.1 _ hk0 (IM.x hM) sm hn hp (by show pcl σ + 1 ≤ _; omega) (by show psl σ + 6 ≤ _; omega) hC.cnw.1.lay ew ?_
    rintro o' r' hk' (⟨b1, τ', hz, hI', -⟩ | ⟨b1, hz, -⟩ | ⟨b1, hz, hI'⟩)
    · simp at hz
    · simp at hz
    · exact ⟨einj _ _ hk' hk0 (b1.trans a1.symm), IC.x hI', fun g => by omega⟩
theorem pair0_run (hP : Pair id 0 dC dM) (h : LI K0 S0 L xs c σ) : ∃ w σ1 σ2, dC σ = some (1, .int w, σ1) ∧ LayR (gR σ1) ∧ psc σ1 = (L, xs) ∧ dM σ1 = some (1, .int w, σ2) ∧ LI K0 S0 L xs (c + 1) σ2 := by
  obtain ⟨o, hC, hM, sm, hn, hp, h1, h2⟩ := h
  obtain ⟨zc, zm0, ec, -, o0, r0, hk0, hc0, -⟩ := hP o σ σ hC hM sm
  have hk0 : r0.1 = 0 := Nat.le_zero.mp hk0
  rcases hc0 with ⟨a1, τ, rfl, hI, f⟩ | ⟨a1, rfl, hI⟩ | ⟨a1, rfl, hI⟩
  · have Lt : LayR (gR τ) := CI.cnw hI |>.1.lay
    have sm1 : SMr τ := sm.fq f (fun a i v => v.no)
    obtain ⟨zc', zm, ec', em, o', r', hk', hc', v, τ2, rfl, hv, h4, hM2, f2⟩ := hP o σ τ hC (MI.ca hM f) sm1
    have ez := Option.some.inj (ec.symm.trans ec')
    rcases hc' with ⟨b1, τ', hz, hI', -⟩ | ⟨b1, hz, -⟩ | ⟨b1, hz, -⟩
    · rw [hz] at ez
      simp only [Prod.mk.injEq, Value.int.injEq, true_and] at ez
      obtain ⟨z1, rfl⟩ := ez
      have z2 : r0.2 = r'.2 := z1
      refine ⟨r0.2, τ, τ2, ec, Lt, by rw [f.2.2.2.2.1]; exact hp, ?_, fin_LI (σ0 := σ) hI' hM2 sm1 f2 (by rw [f.2.1]; exact hn) (by rw [f.2.2.2.2.1]; exact hp) (by rw [f.2.2.1]; omega) (by rw [f.2.2.2.1]; omega)⟩
      rw [em, hv (Nat.le_zero.mp hk'), z2]
    · rw [hz] at ez; simp at ez
    · rw [hz] at ez; simp at ez
  · have a1 : r0.1 = 1 := a1
    omega
  · have a1 : r0.1 = 2 := a1
    omega
end STEP
