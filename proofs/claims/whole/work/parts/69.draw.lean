/-! ===== drawn numbers, and what they do: both sides ===== -/
section DRAW
variable {P T : Nat} {W R : Rl} {A B : Wd} {σ τ υ σ0 σ1 : pS} {q t p o n m k a b r w : Nat} {x : Wd × (Nat → Int32)} {x0 x1 x2 y s : Int32}
theorem b32767 : ∀ i, i < 32 → (32767#32).getLsbD i = decide (i < 15) := by decide
theorem dr_sh : shr' y (ι 16) &&& ι 32767 = ushr y (ι 16) &&& ι 32767 := by
  have e1 : (ushr y (ι 16)).toBitVec = y.toBitVec >>> 16 := by
    have e : (ushr y (ι 16)).toBitVec = y.toBitVec >>> (BitVec.ofNat 32 16) := by
      rw [← sh31 16 (by omega)]; rfl
    rw [e]; show y.toBitVec >>> (BitVec.ofNat 32 16).toNat = _
    rw [BitVec.toNat_ofNat, Nat.mod_eq_of_lt (by omega)]
  have e2 : (shr' y (ι 16)).toBitVec = y.toBitVec.sshiftRight 16 := by
    have e : (shr' y (ι 16)).toBitVec = y.toBitVec.sshiftRight' (BitVec.ofNat 32 16) := by
      rw [← sh31s 16 (by omega)]; rfl
    rw [e, BitVec.sshiftRight_eq', BitVec.toNat_ofNat, Nat.mod_eq_of_lt (by omega)]
  rw [← Int32.toBitVec_inj, Int32.toBitVec_and, Int32.toBitVec_and, e1, e2]
  show _ &&& 32767#32 = _ &&& 32767#32
  refine BitVec.eq_of_getLsbD_eq fun i hi => ?_
  rw [BitVec.getLsbD_and, BitVec.getLsbD_and, b32767 i hi, BitVec.getLsbD_ushiftRight, BitVec.getLsbD_sshiftRight]
  by_cases h : i < 15
  · have : 16 + i < 32 := by omega
    simp [h, hi, this]
  · simp [h]
theorem dr_nat (y : Int32) : ∃ k, k < 32768 ∧ y &&& ι 32767 = ι k := by
  refine ⟨(y.toBitVec &&& 32767#32).toNat, ?_, ?_⟩
  · rw [BitVec.toNat_and]
    exact Nat.lt_of_le_of_lt Nat.and_le_right (by decide)
  · rw [← Int32.toBitVec_inj, Int32.toBitVec_and]
    show _ &&& 32767#32 = BitVec.ofNat 32 _
    rw [BitVec.ofNat_toNat]; simp
def drF (s : Int32) : Int32 := s * ι 1103515245 + ι 12345
def drV (s : Int32) (n : Nat) : Int32 := irem' (ushr (drF s) (ι 16) &&& ι 32767) (ι n)
theorem dr_ok (s : Int32) (hn : 0 < n) (hn2 : n < 2147483648) : ∃ k, k < n ∧ drV s n = ι k := by
  obtain ⟨k, hk, e⟩ := dr_nat (ushr (drF s) (ι 16))
  exact ⟨k % n, Nat.mod_lt _ hn, by unfold drV; rw [e, ι_rem (by omega) hn2]⟩
theorem c151 (hL : LayR (gR σ)) (hn : 0 < n) (hn2 : n < 2147483648) : pcall 151 [.ref 54, .int (ι n)] σ = some (1, .int (drV (gI σ 54 2) n), sI σ 54 2 (drF (gI σ 54 2))) := by
  refine (M_151 rfl hL).eq ?_
  rw [if_neg (by rw [ι_le hn2 (by omega)]; omega), gd_pos (by rw [ι_eq hn2 (by omega)]; omega), gI_s]
  rfl
theorem m319 (hL : LayR (gR σ)) (hn : 0 < n) (hn2 : n < 2147483648) : pcall 319 [.ref 61, .int (ι n)] σ = some (1, .int (drV (gI σ 61 49) n), sI σ 61 49 (drF (gI σ 61 49))) := by
  refine (M_319 rfl hL).eq ?_
  rw [gd_pos (by rw [ι_eq hn2 (by omega)]; omega), gI_s, dr_sh]
  rfl
theorem okW.up4 (h : okW P T A) (hr : r ≤ 9) : okW P T (up A 4 m (ι r)) := by
  obtain ⟨h1, h2, h3, h4, h5, h6, h7, h8, h9, h10⟩ := h
  refine ⟨h1, h2, h3, h4, fun p hp s hs => ?_, h6, h7, h8, h9, h10⟩
  by_cases e : 12 * p + s = m
  · exact ⟨r, hr, by simp [up, e]⟩
  · obtain ⟨o', a, b⟩ := h5 p hp s hs
    exact ⟨o', a, by simp [up, e, b]⟩
theorem CW.wor' (h : CW P T W R A σ w q) (hr : r ≤ 9) : CW P T W R (up A 4 m (ι r)) (sI σ (w + 4) m (ι r)) w q := by
  refine h.mk' (h.1.up4 hr) (Fr.refl.mI (Wc.ww (by omega))) (fun _ => rfl) (fun _ => rfl) ?_ ?_ ?_ ?_ ?_ ?_ ?_ ?_
  · simp [gI_sI]
  · simp [gI_sI]
  · simp [gI_sI, up, h.day]
  · simp [gI_sI, up, h.sil]
  · intro t ht; simp [gI_sI, up, h.own ht]
  · intro s hs; simp [gI_sI, up, h.run hs]
  · intro t ht; simp [gI_sI, up, h.see ht]
  · intro p hp t ht; by_cases e : 12 * p + t = m <;> simp [gI_sI, up, h.wor hp ht, e]
theorem CM.wor' (h : CM P T W R A σ) (hr : r ≤ 9) : CM P T W R (up A 4 m (ι r)) (sI σ 77 m (ι r)) := by
  refine h.mk' (h.ok.up4 hr) (QM.refl.mI (by unfold Mq; omega) (by omega)) (fun _ => rfl) (fun _ => rfl) ?_ ?_ ?_ ?_ ?_ ?_
  · simp [gI_sI, up, h.day]
  · simp [gI_sI, up, h.sil]
  · intro s hs; simp [gI_sI, up, h.own s hs]
  · intro s hs; simp [gI_sI, up, h.run s hs]
  · intro p hp s hs; by_cases e : 12 * p + s = m <;> simp [gI_sI, up, h.wor p hp s hs, e]
  · intro s hs; simp [gI_sI, up, h.see s hs]
theorem Sp.anyw (s : Sp P T W R σ0 q x τ) (hr : o ≤ 9) : Sp P T W R σ0 q (up x.1 4 m (ι o), x.2) (sI (sI τ (47 + 4) m (ι o)) 47 11 (ι 0)) := by
  refine ⟨(s.1.mI (Or.inr (by omega))).mI (Or.inr (by omega)), (s.2.1.wor' hr).any (by omega) (by omega) (by omega) (by omega), Or.inl gI_s, s.2.2.2.1, fun j hj => ?_⟩
  rw [gI_c (by decide), gI_c (by decide)]; exact s.2.2.2.2 j hj
/-- one thing drawn and done: the seed behind, the world behind -/
def smtS (P T : Nat) (s : Int32) (A : Wd) : Int32 × Wd :=
  let r := drV s 6
  let s := drF s
  if T = 0 then (s, A) else if ι 2 < r then (s, A) else
    let t := ix (drV s T)
    let s := drF s
    if r = ι 0 then (drF (drF s), up A 4 (12 * ix (drV s P) + t) (drV (drF s) 10))
    else if r = ι 1 then (s, up A 2 t (ι 0)) else (drF s, up A 1 t (drV s P))
/-- a drawn day more -/
def yrF (P T : Nat) (W R : Rl) (z : Int32 × (Wd × (Nat → Int32))) : Int32 × (Wd × (Nat → Int32)) := ((smtS P T z.1 z.2.1).1, dayF P T W R ((smtS P T z.1 z.2.1).2, z.2.2))
end DRAW
