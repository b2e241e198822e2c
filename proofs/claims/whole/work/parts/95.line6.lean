/-! ===== lines: a whole one ===== -/
section LINE6
variable {σ τ υ σ0 μ ν0 μ0 : pS} {a n k b e i j c w q pl v hm : Nat} {x : Nat → Nat} {tk : Nat × Nat × Nat} {g f : Bool} {L : Rl} {s y r : Int32} {d : Dx} {z : Zx} {R : Bool × Bool}
theorem LQ.up {zc zm : pZ} {hm' : Nat} (h : LQ n x q b hm σ0 μ0 zc zm) (e : hm ≤ hm') : LQ n x q b hm' σ0 μ0 zc zm := by
  rcases h with ⟨d', tk', ok, hb, od, hh, p⟩ | h
  · exact Or.inl ⟨d', tk', ok, hb, od, Nat.le_trans hh e, p⟩
  · exact Or.inr h
theorem R2.mo {d1 d2 : Option pZ} {P Q : pZ → pZ → Prop} (h : R2 d1 d2 P) (m : ∀ a b, P a b → Q a b) : R2 d1 d2 Q := by
  obtain ⟨a, b, e1, e2, p⟩ := h
  exact ⟨a, b, e1, e2, m _ _ p⟩
theorem allB_at {f : Nat → Bool} {m : Nat} (h : allB f m = true) : ∀ j, j < m → f j = true := by
  induction m with
  | zero => intro j hj; omega
  | succ m ih =>
    have h2 : (allB f m && f m) = true := h
    rw [Bool.and_eq_true] at h2
    intro j hj
    by_cases e : j = m
    · rw [e]; exact h2.2
    · exact ih h2.1 j (by omega)
theorem wd_len (h : wdS x tk w = true) : tk.2.2 - tk.2.1 = slen (w - 1000) ∧ ∀ j, j < slen (w - 1000) → ι (x (tk.2.1 + j)) = sby (w - 1000) j := by
  unfold wdS at h
  simp only [Bool.and_eq_true, decide_eq_true_eq] at h
  exact ⟨h.1.2, fun j hj => of_decide_eq_true (allB_at h.2 j hj)⟩
theorem wd_x {w' : Nat} (hne : slen (w - 1000) ≠ slen (w' - 1000) ∨ ∃ j, j < slen (w - 1000) ∧ j < slen (w' - 1000) ∧ sby (w - 1000) j ≠ sby (w' - 1000) j) (h : wdS x tk w = true) : wdS x tk w' = false := by
  cases h2 : wdS x tk w' with
  | false => rfl
  | true =>
    obtain ⟨a1, a2⟩ := wd_len h
    obtain ⟨b1, b2⟩ := wd_len h2
    rcases hne with hn | ⟨j, j1, j2, j3⟩
    · exact absurd (a1.symm.trans b1) hn
    · exact absurd ((a2 j j1).symm.trans (b2 j j2)) j3
def keyW (w : Nat) : Prop := w = 1002 ∨ w = 1003 ∨ w = 1004 ∨ w = 1005 ∨ w = 1006 ∨ w = 1018
theorem wd_z {w' : Nat} (h : wdS x tk w = true) (k : keyW w) (k' : keyW w') (hn : w ≠ w') : wdS x tk w' = false := by
  refine wd_x ?_ h
  have : slen (w - 1000) ≠ slen (w' - 1000) ∨ (0 < slen (w - 1000) ∧ 0 < slen (w' - 1000) ∧ sby (w - 1000) 0 ≠ sby (w' - 1000) 0) := by
    rcases k with rfl | rfl | rfl | rfl | rfl | rfl <;> rcases k' with rfl | rfl | rfl | rfl | rfl | rfl <;> first | exact absurd rfl hn | decide
  rcases this with e | ⟨e1, e2, e3⟩
  · exact Or.inl e
  · exact Or.inr ⟨0, e1, e2, e3⟩
theorem l218 (t : Txt n x) (ok : okTk n x tk) (h : ML n x d tk μ0 μ) : pcall 218 [.ref 61, .ref 62] μ = some (1, .int (if wdS x tk 1003 = true then ι 0 else if wdS x tk 1004 = true then ι 1 else ν 1), μ) := by
  obtain ⟨r0, r1, -⟩ := h.1.2.2.2.2
  refine Wp.eqI (Wp.le (M_218 (a0 := 62) (n0 := 2) rfl rfl h.lay) ?_)
  refine Wp.le (T_218_2 rfl rfl h.lay) ?_
  rw [if_neg (by decide), gd_inb (show 0 < 2 by omega) (by omega), ix_ι (by omega), bG_some r0 ⟨by omega, by omega⟩, l219 t ok h (by omega) (by omega), bI_ret, if1, ι_add]
  by_cases e : wdS x tk 1003 = true
  · rw [if_pos e, if_pos e]; exact Wp.retI rfl
  rw [if_neg e, if_neg e]
  refine Wp.le (T_218_2 rfl rfl h.lay) ?_
  rw [if_neg (by decide), gd_inb (show 1 < 2 by omega) (by omega), ix_ι (by omega), bG_some r1 ⟨by omega, by omega⟩, l219 t ok h (by omega) (by omega), bI_ret, if1, ι_add]
  by_cases e1 : wdS x tk 1004 = true
  · rw [if_pos e1, if_pos e1]; exact Wp.retI rfl
  rw [if_neg e1, if_neg e1]
  refine Wp.le (T_218_2 rfl rfl h.lay) ?_
  rw [if_pos (by decide)]; exact Wp.retI rfl
theorem bts_00 : (ι 0 &&& bts R = ι 0) := by obtain ⟨a, b⟩ := R; revert a b; decide
theorem bts_o0 : bts R ||| ι 0 = bts R := by obtain ⟨a, b⟩ := R; revert a b; decide
theorem line_ok (hq : isP q) (t : Txt n x) (ok : okTk n x tk) (od : okDx d) (h1 : PL n x q d tk σ0 σ) (h2 : ML n x d tk μ0 μ) : R2 (pcall 47 [.ref 24] σ) (pcall 217 [.ref 61, .int (bts (fl2 d))] μ) (LQ n x q tk.2.2 (d.1.2.2 + 1) σ0 μ0) := by
  refine R2.lee (M_47 rfl h1.lay) (M_217 rfl h2.lay) ?_
  have W : ∀ w : Nat, 1000 ≤ w → w < 1026 → pcall 48 [.ref 24, .ref w] σ = some (1, .int (bz (wdS x tk w)), σ) := fun w a b => l48 t ok h1 a b
  have V : ∀ w : Nat, 1000 ≤ w → w < 1026 → pcall 219 [.ref 61, .ref w] μ = some (1, .int (bz (wdS x tk w)), μ) := fun w a b => l219 t ok h2 a b
  have e25 : pcall 25 [.ref q] σ = some (1, .ref (q + 5), σ) := (M_25 hq rfl h1.lay).eq rfl
  have e28 : pcall 28 [.ref q] σ = some (1, .ref (q + 8), σ) := (M_28 hq rfl h1.lay).eq rfl
  have W1002 := W 1002 (by omega) (by omega)
  have W1003 := W 1003 (by omega) (by omega)
  have W1004 := W 1004 (by omega) (by omega)
  have W1005 := W 1005 (by omega) (by omega)
  have W1006 := W 1006 (by omega) (by omega)
  have W1018 := W 1018 (by omega) (by omega)
  have V1002 := V 1002 (by omega) (by omega)
  have V1005 := V 1005 (by omega) (by omega)
  have V1006 := V 1006 (by omega) (by omega)
  have V1018 := V 1018 (by omega) (by omega)
  rw [l218 t ok h2, bI_ret]
  simp only [W1002, W1003, W1004, W1005, W1006, W1018, V1006, V1018, bI_ret, if1, h1.u8 hq, e25, e28, bA_ret]
  have no : ∀ {r1}, Le (C_217_109 (bts (fl2 d)) r1 (ι 0) μ) (if ι 0 &&& bts (fl2 d) = ι 0 then C_217_50 (bts (fl2 d)) r1 (ι 0) μ else bV (pcall 220 [.ref 61, .int (ι 5)] μ) fun σ4 => C_217_50 (bts (fl2 d)) r1 (ι 0) σ4) := by
    intro r1
    rw [if_pos bts_00]
    refine Le.tr ?_ (T_217_50 rfl h2.lay)
    rw [if_pos (Int32.le_refl _)]; exact Le.rfl'
  by_cases c6 : wdS x tk 1006 = true
  · have k : ∀ w, keyW w → w ≠ 1006 → wdS x tk w = false := fun w hw hn => wd_z c6 (by unfold keyW; omega) hw hn.symm
    simp only [c6, k 1002 (by unfold keyW; decide) (by decide), k 1003 (by unfold keyW; decide) (by decide), k 1004 (by unfold keyW; decide) (by decide), k 1005 (by unfold keyW; decide) (by decide), k 1018 (by unfold keyW; decide) (by decide), if_true, if_false, Bool.false_eq_true]
    rw [gd_pos (show isU (q + 5) from uG_U (g := false) hq)]
    exact (line_rule (g := false) hq t ok od h1 h2).mo fun a b p => p.up (by omega)
  by_cases c18 : wdS x tk 1018 = true
  · have k : ∀ w, keyW w → w ≠ 1018 → wdS x tk w = false := fun w hw hn => wd_z c18 (by unfold keyW; omega) hw hn.symm
    simp only [c18, k 1002 (by unfold keyW; decide) (by decide), k 1003 (by unfold keyW; decide) (by decide), k 1004 (by unfold keyW; decide) (by decide), k 1005 (by unfold keyW; decide) (by decide), k 1006 (by unfold keyW; decide) (by decide), if_true, if_false, Bool.false_eq_true]
    rw [gd_pos (show isU (q + 8) from uG_U (g := true) hq)]
    exact (line_rule (g := true) hq t ok od h1 h2).mo fun a b p => p.up (by omega)
  simp only [if_neg c6, if_neg c18]
  refine R2.le2 no (R2.le2 (T_217_109 rfl h2.lay) ?_)
  simp only [V1002, V1005, bI_ret, if1, bts_o0]
  by_cases c2 : wdS x tk 1002 = true
  · have k : ∀ w, keyW w → w ≠ 1002 → wdS x tk w = false := fun w hw hn => wd_z c2 (by unfold keyW; omega) hw hn.symm
    simp only [c2, k 1003 (by unfold keyW; decide) (by decide), k 1004 (by unfold keyW; decide) (by decide), if_true, if_false, Bool.false_eq_true]
    exact (semi hq t rfl (line_person hq t ok od h1 h2)).mo fun a b p => p.up (by omega)
  simp only [if_neg c2]
  by_cases c3 : wdS x tk 1003 = true
  · simp only [if_pos c3]
    rw [if_neg (show ¬ ι 0 = ν 1 by decide)]
    exact (semi hq t rfl (line_thing hq t ok od (Or.inl rfl) h1 h2)).mo fun a b p => p.up (by omega)
  simp only [if_neg c3]
  by_cases c4 : wdS x tk 1004 = true
  · simp only [if_pos c4]
    rw [if_neg (show ¬ ι 1 = ν 1 by decide)]
    exact (semi hq t rfl (line_thing hq t ok od (Or.inr rfl) h1 h2)).mo fun a b p => p.up (by omega)
  simp only [if_neg c4, if_true]
  by_cases c5 : wdS x tk 1005 = true
  · simp only [if_pos c5]
    exact semi hq t rfl (line_hedge hq t ok od h1 h2)
  simp only [if_neg c5]
  exact semi (R := fl2 d) hq t rfl (LRs.bad (l50 h1 (by omega) (by omega)) (l220 h2 (by omega) (by omega)))
end LINE6
