/-! ===== bits ===== -/
section BITS
theorem and1 (v : BitVec 32) : (v &&& 1#32 = 1#32) ↔ v.getLsbD 0 = true := by
  rw [show (1#32 : BitVec 32) = 1#32 from rfl, BitVec.and_one_eq_setWidth_ofBool_getLsbD]
  cases v.getLsbD 0 <;> decide
set_option maxRecDepth 10000 in
theorem sh31 : ∀ k : Nat, k < 32 → ((ι k).toUInt32 &&& Int32.toUInt32 31).toBitVec % 32#32 = BitVec.ofNat 32 k := by decide +kernel
set_option maxRecDepth 10000 in
theorem sh31s : ∀ k : Nat, k < 32 → (ι k &&& 31).toBitVec.smod 32#32 = BitVec.ofNat 32 k := by decide +kernel
theorem ushr_bit {x : Int32} {k : Nat} (hk : k < 32) : ((ushr x (ι k)) &&& (ι 1) = ι 1) ↔ tb x k = true := by
  have e : (ushr x (ι k)).toBitVec = x.toBitVec >>> (BitVec.ofNat 32 k) := by
    rw [← sh31 k hk]; rfl
  have e2 : x.toBitVec >>> (BitVec.ofNat 32 k) = x.toBitVec >>> k := by
    show x.toBitVec >>> (BitVec.ofNat 32 k).toNat = _
    rw [BitVec.toNat_ofNat, Nat.mod_eq_of_lt (by omega)]
  rw [← Int32.toBitVec_inj, Int32.toBitVec_and, e, e2]
  show _ &&& 1#32 = 1#32 ↔ _
  rw [and1, BitVec.getLsbD_ushiftRight, Nat.add_zero]
  rfl
theorem shr_bit {x : Int32} {k : Nat} (hk : k < 32) : ((shr' x (ι k)) &&& (ι 1) = ι 1) ↔ tb x k = true := by
  have e : (shr' x (ι k)).toBitVec = x.toBitVec.sshiftRight' (BitVec.ofNat 32 k) := by
    rw [← sh31s k hk]; rfl
  rw [← Int32.toBitVec_inj, Int32.toBitVec_and, e]
  show _ &&& 1#32 = 1#32 ↔ _
  rw [and1, BitVec.sshiftRight_eq', BitVec.toNat_ofNat, Nat.mod_eq_of_lt (by omega), BitVec.getLsbD_sshiftRight]
  simp [hk, tb]
theorem p168 {σ : pS} {x : Int32} {k : Nat} (hL : LayR (gR σ)) (hk : k < 32) : pcall 168 [.int x, .int (ι k)] σ = some (1, .int (bz (tb x k)), σ) := by
  refine (M_168 rfl hL).eq ?_
  by_cases h : tb x k = true
  · have h2 := (ushr_bit hk).mpr h
    rw [if_neg (by rw [ι_lt_f (by omega) (by omega)]; exact id), if_neg (by rw [ι_le_f (by omega) (by omega)]; exact id), if_neg (fun g => g h2), h]; rfl
  · have h2 : ¬ ((ushr x (ι k)) &&& (ι 1) = ι 1) := fun g => h ((ushr_bit hk).mp g)
    have h3 : tb x k = false := by simpa using h
    rw [if_neg (by rw [ι_lt_f (by omega) (by omega)]; exact id), if_neg (by rw [ι_le_f (by omega) (by omega)]; exact id), if_pos h2, h3]; rfl
theorem p236 {σ : pS} {x : Int32} {k : Nat} (hL : LayR (gR σ)) (hk : k < 32) : pcall 236 [.int x, .int (ι k)] σ = some (1, .int (bz (tb x k)), σ) := by
  refine (M_236 rfl hL).eq ?_
  by_cases h : tb x k = true
  · rw [if_neg (fun g => g ((shr_bit hk).mpr h)), h]; rfl
  · have h3 : tb x k = false := by simpa using h
    rw [if_pos (fun g => h ((shr_bit hk).mp g)), h3]; rfl
theorem p0 {σ : pS} {m : Nat} (hL : LayR (gR σ)) (hm : m < 4096) : pcall 0 [.int (ι m)] σ = some (1, .int (ι (pc m)), σ) := by
  rw [← bcv_pc m hm]
  exact (M_0 rfl hL).eq rfl
theorem p247 {σ : pS} {m : Nat} (hL : LayR (gR σ)) (hm : m < 4096) : pcall 247 [.int (ι m)] σ = some (1, .int (ι (pc m)), σ) := by
  refine (M_247 rfl hL).eq ?_
  have key : ∀ k m c v, m ≤ k → m < 4096 → C_247_4 v (ι c) (ι m) σ = some (1, .int (ι (c + pc m)), σ) := by
    intro k
    induction k with
    | zero =>
      intro m c v h1 _
      have : m = 0 := by omega
      subst this
      refine (T_247_4 rfl hL).eq ?_
      rw [if_pos (show ι 0 = ι 0 from rfl), show pc 0 = 0 by decide, Nat.add_zero]
    | succ k ih =>
      intro m c v h1 h2
      refine (T_247_4 rfl hL).eq ?_
      by_cases h0 : m = 0
      · subst h0
        rw [if_pos (show ι 0 = ι 0 from rfl), show pc 0 = 0 by decide, Nat.add_zero]
      · obtain ⟨a, b, d⟩ := pc_step m h2 h0
        have hne : ¬ ι m = ι 0 := by rw [ι_eq (by omega) (by omega)]; exact h0
        have e9 : c + 1 + pc (m &&& (m - 1)) = c + pc m := by omega
        have b9 : m &&& (m - 1) ≤ k := by omega
        have b8 : m &&& (m - 1) < 4096 := by omega
        have a9 : ι m &&& (ι m - ι 1) = ι (m &&& (m - 1)) := a
        rw [if_neg hne, a9, ι_add, ih _ _ _ b9 b8, e9]
  have := key m m 0 (.int (ι m)) (Nat.le_refl _) hm
  rw [Nat.zero_add] at this
  exact this
/-- a set as a number -/
def mk (b : Nat → Bool) : Nat → Nat
  | 0 => 0
  | n + 1 => mk b n + if b n = true then 2 ^ n else 0
theorem mk_lt (b : Nat → Bool) (n : Nat) : mk b n < 2 ^ n := by
  induction n with
  | zero => simp [mk]
  | succ n ih =>
    show mk b n + (if b n = true then 2 ^ n else 0) < 2 ^ (n + 1)
    rw [Nat.pow_succ]
    split <;> omega
theorem or_ι0 (x : Int32) : x ||| ι 0 = x := Int32.or_zero
theorem mk_or {b : Nat → Bool} {n : Nat} (hn : n ≤ 12) : fd (fun t s => s ||| if b t = true then bit t else ι 0) n (ι 0) = ι (mk b n) := by
  induction n with
  | zero => rfl
  | succ n ih =>
    show (fd _ n (ι 0) ||| if b n = true then bit n else ι 0) = ι (mk b n + if b n = true then 2 ^ n else 0)
    rw [ih (by omega)]
    by_cases h : b n = true
    · rw [if_pos h, if_pos h]; exact (pc_add n (by omega) _ (mk_lt b n)).2
    · rw [if_neg h, if_neg h, Nat.add_zero, or_ι0]
theorem mk_pc {b : Nat → Bool} {n : Nat} (hn : n ≤ 12) : ι (pc (mk b n)) = fd (fun t s => s + if b t = true then ι 1 else ι 0) n (ι 0) := by
  induction n with
  | zero => show ι (pc 0) = ι 0; decide
  | succ n ih =>
    show ι (pc (mk b n + if b n = true then 2 ^ n else 0)) = (fd _ n (ι 0) + if b n = true then ι 1 else ι 0)
    rw [← ih (by omega)]
    by_cases h : b n = true
    · rw [if_pos h, if_pos h, (pc_add n (by omega) _ (mk_lt b n)).1, ι_add]
    · rw [if_neg h, if_neg h, Nat.add_zero, ι_add, Nat.add_zero]
theorem tb_ι {m k : Nat} (hm : m < 2147483648) (hk : k < 32) : tb (ι m) k = m.testBit k := by
  show (BitVec.ofNat 32 m).getLsbD k = _
  rw [BitVec.getLsbD_ofNat]
  simp [hk]
theorem mk_bit (b : Nat → Bool) (n k : Nat) : (mk b n).testBit k = (decide (k < n) && b k) := by
  induction n with
  | zero => simp [mk]
  | succ n ih =>
    show (mk b n + if b n = true then 2 ^ n else 0).testBit k = _
    by_cases h : b n = true
    · rw [if_pos h, Nat.add_comm]
      by_cases hk : k = n
      · subst hk
        rw [Nat.testBit_two_pow_add_eq, ih]
        simp [h]
      · by_cases h2 : k < n
        · rw [Nat.testBit_two_pow_add_gt h2, ih]
          simp [h2, Nat.lt_succ_of_lt h2]
        · have h3 : 2 ^ n + mk b n < 2 ^ k := by
            have := mk_lt b n
            have : 2 ^ (n + 1) ≤ 2 ^ k := Nat.pow_le_pow_right (by omega) (by omega)
            rw [Nat.pow_succ] at this
            omega
          rw [Nat.testBit_lt_two_pow h3]
          simp; omega
    · rw [if_neg h, Nat.add_zero, ih]
      by_cases hk : k = n
      · subst hk; simp [h]
      · have : (k < n) = (k < n + 1) := by simp; omega
        simp [this]
theorem tb_mk {b : Nat → Bool} {n k : Nat} (hn : n ≤ 12) (hk : k < 32) : tb (ι (mk b n)) k = (decide (k < n) && b k) := by
  have := mk_lt b n
  have h2 : 2 ^ n ≤ 2 ^ 12 := Nat.pow_le_pow_right (by omega) hn
  rw [tb_ι (by omega) hk, mk_bit]
end BITS
