/-! ===== the law's pure run ===== -/
section PURE
variable {p : Nat × (Nat → Int32)}
noncomputable abbrev ZF : pS := Z221
theorem zf_lay : LayR (gR ZF) := by decide +kernel
theorem zf_r : gR ZF 0 4 = some 2 ∧ gR ZF 0 5 = some 13 ∧ gR ZF 25 0 = some 2 ∧ gR ZF 36 0 = some 2 ∧ gR ZF 47 0 = some 2 := by decide +kernel
theorem zf_sm : gR ZF 62 0 = some 1003 ∧ gR ZF 62 1 = some 1004 ∧ gR ZF 63 0 = some 1008 ∧ gR ZF 63 1 = some 1009 ∧ gR ZF 63 2 = some 1010 ∧ gR ZF 63 3 = some 1011 ∧ gR ZF 63 4 = some 1012 ∧ gR ZF 63 5 = some 1013 ∧ gR ZF 64 0 = some 1008 ∧ gR ZF 64 1 = some 1009 ∧ gR ZF 64 2 = some 1014 ∧ gR ZF 64 3 = some 1015 := by decide +kernel
theorem zf_c : gI ZF 7 1 = ι 0 ∧ gI ZF 7 2 = ι 0 ∧ gI ZF 7 3 = ι 0 ∧ gI ZF 10 1 = ι 0 ∧ gI ZF 10 2 = ι 0 ∧ gI ZF 10 3 = ι 0 ∧ gI ZF 25 1 = ι 0 ∧ gI ZF 25 2 = ι 0 ∧ gI ZF 25 3 = ι 0 ∧ gI ZF 25 10 = ι 0 ∧ gI ZF 25 11 = ι 0 ∧ gI ZF 47 10 = ι 0 ∧ gI ZF 0 1 = ι 0 ∧ gI ZF 0 3 = ν 1 ∧ gI ZF 0 10 = ι 0 ∧ gI ZF 36 10 = ι 0 ∧ gI ZF 32 1 = ι 0 ∧ gI ZF 32 3 = ι 0 ∧ gI ZF 35 0 = ι 0 ∧ gI ZF 35 1 = ι 0 ∧ gI ZF 35 2 = ι 0 := by decide +kernel
theorem zf_m : gI ZF 65 0 = ι 0 ∧ gI ZF 65 1 = ι 0 ∧ gI ZF 65 3 = ι 0 ∧ gI ZF 65 4 = ι 0 ∧ gI ZF 61 31 = ι 0 ∧ gI ZF 61 36 = ι 0 ∧ gI ZF 61 15 = ι 0 ∧ gI ZF 61 24 = ν 1 ∧ gI ZF 61 32 = ι 0 ∧ gI ZF 61 33 = ι 0 ∧ gI ZF 61 50 = ι 0 ∧ gI ZF 73 0 = ι 0 ∧ gI ZF 73 1 = ι 0 ∧ gI ZF 73 2 = ι 0 := by decide +kernel
theorem zf_n : pcl ZF ≤ 600000 ∧ psl ZF ≤ 7289900 := by decide +kernel
def r00 : Rl := (0, fun _ => ι 0)
def A00 : Wd := fun _ _ => ι 0
def M00 : Me := ((0, fun _ => A00), (0, fun _ => (0, 0, 0)), fun _ => ι 0)
theorem wfr0 {ok : Nat → Bool} : wfr ok r00 := by
  refine ⟨Nat.zero_le _, fun i hi => absurd hi (Nat.not_lt_zero i), fun h => absurd h (Nat.lt_irrefl 0), fun i => ?_⟩
  rcases Nat.eq_zero_or_pos i with e | e
  · subst e; exact Or.inl (Nat.zero_le _)
  · exact Or.inr e
theorem okW0 : okW 0 0 A00 := ⟨by omega, by omega, fun t h => absurd h (Nat.not_lt_zero t), fun t h => absurd h (Nat.not_lt_zero t), fun t h => absurd h (Nat.not_lt_zero t), fun t h => absurd h (Nat.not_lt_zero t), fun t h => absurd h (Nat.not_lt_zero t), fun t h => absurd h (Nat.not_lt_zero t), ⟨0, by omega, rfl⟩, fun t h => absurd h (Nat.not_lt_zero t)⟩
theorem okM0 : okMe 0 0 A00 M00 := ⟨by show 0 ≤ 40; omega, fun t h => absurd h (Nat.not_lt_zero t), by show 0 ≤ 8; omega, fun t h => absurd h (Nat.not_lt_zero t)⟩
theorem three {f : Nat → Int32} (h0 : f 0 = ι 0) (h1 : f 1 = ι 0) (h2 : f 2 = ι 0) : ∀ i, i < 3 → f i = ι 0 := fun i hi => by
  have : i = 0 ∨ i = 1 ∨ i = 2 := by omega
  rcases this with rfl | rfl | rfl
  · exact h0
  · exact h1
  · exact h2
theorem hasR0 {u : Nat} {ok : Nat → Bool} (h1 : gI ZF u 1 = ι 0) (h2 : gI ZF u 2 = ι 0) (h3 : gI ZF u 3 = ι 0) : hasR (stP ZF p) u ok r00 :=
  ⟨wfr0, gI_st.trans h1, gI_st.trans h2, fun i hi => absurd hi (Nat.not_lt_zero i), fun k hk => by
    rw [gI_st, h3, tb_0]
    exact ⟨fun g => (by cases g), fun ⟨i, hi, _⟩ => absurd hi (Nat.not_lt_zero i)⟩⟩
theorem lay_st : LayR (gR (stP ZF p)) := fun x hx => gR_st.trans (zf_lay x hx)
theorem start_C : CI 0 0 r00 r00 A00 M00 none (0, fun _ => ι 0) (ν 1) (stP ZF p) 2 := by
  obtain ⟨r1, r2, r3, r4, r5⟩ := zf_r
  obtain ⟨c1, c2, c3, c4, c5, c6, c7, c8, c9, c10, c11, c12, c13, c14, c15, c16, c17, c18, c19, c20, c21⟩ := zf_c
  refine ⟨⟨⟨okW0, ⟨Or.inl rfl, lay_st, fun t h => absurd h (Nat.not_lt_zero t), fun t h => absurd h (Nat.not_lt_zero t), hasR0 c1 c2 c3, hasR0 c4 c5 c6⟩, ⟨by decide, gR_st.trans r3, gI_st.trans c7, gI_st.trans c8, gI_st.trans c9, gI_st.trans c10, fun t h => absurd h (Nat.not_lt_zero t), fun t h => absurd h (Nat.not_lt_zero t), fun t h => absurd h (Nat.not_lt_zero t), fun t h => absurd h (Nat.not_lt_zero t)⟩⟩, Or.inl (gI_st.trans c11), rfl, gI_st.trans c12⟩, gR_st.trans r1, gR_st.trans r2, okTp0, gI_st.trans c13, fun i hi => absurd hi (Nat.not_lt_zero i), gI_st.trans c14, okM0, ⟨gI_st.trans c17, fun t h => absurd h (Nat.not_lt_zero t), ⟨gI_st.trans c18, fun t h => absurd h (Nat.not_lt_zero t)⟩, fun i hi => gI_st.trans (three (f := gI ZF 35) c19 c20 c21 i hi)⟩, gI_st.trans c15, gI_st.trans c16, fun B m' e => (by cases e)⟩
theorem start_M : MI 0 0 r00 r00 A00 M00 none (0, fun _ => ι 0) (ν 1) (stP ZF p) := by
  obtain ⟨c1, c2, c3, c4, c5, c6, c7, c8, c9, c10, c11, c12, c13, c14⟩ := zf_m
  refine ⟨⟨okW0, lay_st, gI_st.trans c1, gI_st.trans c2, gI_st.trans c3, gI_st.trans c4, wfr0, wfr0, fun t h => absurd h (Nat.not_lt_zero t), fun t h => absurd h (Nat.not_lt_zero t), gI_st.trans c5, gI_st.trans c6, fun t h => absurd h (Nat.not_lt_zero t), fun t h => absurd h (Nat.not_lt_zero t), fun t h => absurd h (Nat.not_lt_zero t), fun t h => absurd h (Nat.not_lt_zero t), fun t h => absurd h (Nat.not_lt_zero t), fun t h => absurd h (Nat.not_lt_zero t)⟩, rfl, okTp0, gI_st.trans c7, fun i hi => absurd hi (Nat.not_lt_zero i), gI_st.trans c8, okM0, ⟨gI_st.trans c9, fun t h => absurd h (Nat.not_lt_zero t), gI_st.trans c10, fun t h => absurd h (Nat.not_lt_zero t), fun i hi => gI_st.trans (three (f := gI ZF 73) c12 c13 c14 i hi)⟩, gI_st.trans c11, fun B m' e => (by cases e)⟩
theorem psc_st {z : pS} : psc (stP z p) = p := rfl
theorem pcl_st {z : pS} : pcl (stP z p) = pcl z := rfl
theorem psl_st {z : pS} : psl (stP z p) = psl z := rfl
theorem start_S : SMr (stP ZF p) := by
  obtain ⟨c1, c2, c3, c4, c5, c6, c7, c8, c9, c10, c11, c12⟩ := zf_sm
  exact ⟨gR_st.trans c1, gR_st.trans c2, gR_st.trans c3, gR_st.trans c4, gR_st.trans c5, gR_st.trans c6, gR_st.trans c7, gR_st.trans c8, gR_st.trans c9, gR_st.trans c10, gR_st.trans c11, gR_st.trans c12⟩
theorem pure_law {L : Nat} {xs : Nat → Int32} (hL : L ≤ 3072) : ∃ f σ', ev f 353 0 0 (elo 7 [.ref 3000]) [] (σ00 L xs) = some (1, .int 1, σ') ∧ pcl σ' ≤ 601024 ∧ psl σ' ≤ 7293034 := by
  obtain ⟨n1, n2⟩ := zf_n
  have hI : LI 600000 7289900 L xs 0 (stP ZF (L, xs)) := ⟨((0, 0, r00, r00), A00, M00, none, (0, fun _ => ι 0), ν 1, 2), start_C, start_M, start_S, pn_221 _, psc_st, Nat.le_trans (Nat.le_of_eq pcl_st) n1, Nat.le_trans (Nat.le_of_eq psl_st) n2⟩
  obtain ⟨z, ez, τ, rfl, h1, h2⟩ := law_lp hL 513 0 (.retAddr 0) (.retAddr 0) _ (by omega) (by omega) hI
  have e0 : den 353 0 0 [.ref 3000, .retAddr 0, .retAddr 0, .retAddr 0, .retAddr 0, .retAddr 0, .retAddr 0] [] (stP Z0 (L, xs)) = some (1, .int (ι 1), τ) := start_run (L, xs) _ ez
  obtain ⟨f, hf⟩ := den_iff.mp e0
  exact ⟨f, τ, hf, by omega, by omega⟩
end PURE
