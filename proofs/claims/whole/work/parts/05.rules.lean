/-! ===== one equation an instruction ===== -/
section RULES
variable {b k pc : Nat} {ls st : List Value} {σ : pS}
theorem q_go {i : Instr} {len : Nat} (h : cd b pc = some (i, len)) {pc' : Nat} {ls' st' : List Value} {σ' : pS} (hs : stpI b i len pc ls st σ = some (.inl (pc', ls', st', σ'))) : den b k pc ls st σ = den b k pc' ls' st' σ' := by
  rw [den_eq, stp, h]; dsimp only; rw [hs]; rfl
theorem q_end {i : Instr} {len : Nat} (h : cd b pc = some (i, len)) {z : pZ} (hs : stpI b i len pc ls st σ = some (.inr (.inl z))) : den b k pc ls st σ = some z := by
  rw [den_eq, stp, h]; dsimp only; rw [hs]; rfl
theorem q_iconst {n : Int} {v : Int32} (h : cd b pc = some (.iconst n, 1)) (hv : Int32.ofInt n = v) : den b k pc ls st σ = den b k (pc + 1) ls (.int v :: st) σ := by
  subst hv; exact q_go h rfl
theorem q_bipush {n : Int} {v : Int32} (h : cd b pc = some (.bipush n, 2)) (hv : (Int8.ofInt n).toInt32 = v) : den b k pc ls st σ = den b k (pc + 2) ls (.int v :: st) σ := by
  subst hv; exact q_go h rfl
theorem q_sipush {n : Int} {v : Int32} (h : cd b pc = some (.sipush n, 3)) (hv : (Int16.ofInt n).toInt32 = v) : den b k pc ls st σ = den b k (pc + 3) ls (.int v :: st) σ := by
  subst hv; exact q_go h rfl
theorem q_lconst {n : Fin 2} {v : Int64} (h : cd b pc = some (.lconst n, 1)) (hv : Int64.ofNat (n : Nat) = v) : den b k pc ls st σ = den b k (pc + 1) ls (.long v :: st) σ := by
  subst hv; exact q_go h rfl
theorem q_iload {n : Nat} {x : Int32} (h : cd b pc = some (.iload n, 2)) (hl : ls[n]? = some (.int x)) : den b k pc ls st σ = den b k (pc + 2) ls (.int x :: st) σ :=
  q_go h (by simp [stpI, ln, a_ldI, hl, jm])
theorem q_iload_n {n : Fin 4} {x : Int32} (h : cd b pc = some (.iload_n n, 1)) (hl : ls[(n : Nat)]? = some (.int x)) : den b k pc ls st σ = den b k (pc + 1) ls (.int x :: st) σ :=
  q_go h (by simp only [stpI, ln, a_ldI, hl, jm, if_true])
theorem q_if {op : ClassFile.Cond} {off : Int} {x : Int32} {tgt : Nat} (h : cd b pc = some (.ifCond op off, 3)) (ht : (pc : Int) + off = (tgt : Int)) : den b k pc ls (.int x :: st) σ = if cop op x 0 = true then den b k tgt ls st σ else den b k (pc + 3) ls st σ := by
  have h0 : (0 : Int) ≤ (pc : Int) + off := by omega
  have h1 : ((pc : Int) + off).toNat = tgt := by omega
  split
  · rename_i hc; exact q_go h (by simp only [stpI, ln, a_if, hc, jo, h0, h1, jm, if_true])
  · rename_i hc; exact q_go h (by simp only [stpI, ln, a_if, jo, jm, if_true]; rw [if_neg hc])
theorem q_getI {i ci f x : Nat} {a : Nat} (h : cd b pc = some (.getfield i, 3)) (hc : po b ≠ 16) (hp : plF (po b) i = some (ci, f, x)) (ht : (ft ci f).1 = 0) (hk : kd a = (ci, 0)) : den b k pc ls (.ref a :: st) σ = den b k (pc + 3) ls (.int (gI σ a f) :: st) σ :=
  q_go h (by simp only [stpI, ln, a_get, a_getO, hp, ht, hk, jm, if_true]; rw [if_neg hc])
end RULES
