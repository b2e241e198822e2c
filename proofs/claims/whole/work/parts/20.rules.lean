/-! ===== one rule a bytecode: to show that a run comes to what a tree says ===== -/
section RULES
def Le (t d : Option pZ) : Prop := ∀ z, t = some z → d = some z
theorem Le.rfl' {t : Option pZ} : Le t t := fun _ h => h
theorem Le.of {t d : Option pZ} (h : d = t) : Le t d := fun _ hz => h.trans hz
theorem Le.none {d : Option pZ} : Le none d := fun _ h => by cases h
def gd (c : Prop) [Decidable c] (t : Option pZ) : Option pZ := if c then t else none
theorem gd_pos {c : Prop} [Decidable c] {t : Option pZ} (h : c) : gd c t = t := if_pos h
abbrev inb (i : Int32) (n : Nat) : Prop := ¬ (i < 0 ∨ n ≤ i.toNatClampNeg)
abbrev ix (i : Int32) : Nat := i.toNatClampNeg
variable {b k pc pc' c : Nat} {ls ls' st : List Value} {σ : pS} {t t1 t2 : Option pZ}
theorem r_go {i : Instr} {len : Nat} (h : cd b pc = some (i, len)) {st' : List Value} {σ' : pS} (hs : stpI b i len pc ls st σ = some (.inl (pc', ls', st', σ'))) (H : Le t (den b k pc' ls' st' σ')) : Le t (den b k pc ls st σ) := by
  intro z hz
  rw [den_eq, stp, h]; dsimp only; rw [hs]
  exact H z hz
theorem r_end {i : Instr} {len : Nat} (h : cd b pc = some (i, len)) {z : pZ} (hs : stpI b i len pc ls st σ = some (.inr (.inl z))) : Le (some z) (den b k pc ls st σ) := by
  intro y hy
  rw [den_eq, stp, h]; dsimp only; rw [hs]
  exact hy
theorem r_gd {q : Prop} [Decidable q] {d : Option pZ} (H : q → Le t d) : Le (gd q t) d := by
  intro z hz
  unfold gd at hz
  split at hz
  · rename_i h; exact H h z hz
  · cases hz
theorem r_iconst {n : Int} {v : Int32} (h : cd b pc = some (.iconst n, 1)) (hp : pc + 1 = pc') (hv : Int32.ofInt n = v) (H : Le t (den b k pc' ls (.int v :: st) σ)) : Le t (den b k pc ls st σ) := by
  subst hv; subst hp; exact r_go h rfl H
theorem r_bipush {n : Int} {v : Int32} (h : cd b pc = some (.bipush n, 2)) (hp : pc + 2 = pc') (hv : (Int8.ofInt n).toInt32 = v) (H : Le t (den b k pc' ls (.int v :: st) σ)) : Le t (den b k pc ls st σ) := by
  subst hv; subst hp; exact r_go h rfl H
theorem r_sipush {n : Int} {v : Int32} (h : cd b pc = some (.sipush n, 3)) (hp : pc + 3 = pc') (hv : (Int16.ofInt n).toInt32 = v) (H : Le t (den b k pc' ls (.int v :: st) σ)) : Le t (den b k pc ls st σ) := by
  subst hv; subst hp; exact r_go h rfl H
theorem r_lconst {n : Fin 2} {v : Int64} (h : cd b pc = some (.lconst n, 1)) (hp : pc + 1 = pc') (hv : Int64.ofNat (n : Nat) = v) (H : Le t (den b k pc' ls (.long v :: st) σ)) : Le t (den b k pc ls st σ) := by
  subst hv; subst hp; exact r_go h rfl H
theorem r_ldcI {i x : Nat} {n : Int} {v : Int32} (h : cd b pc = some (.ldc i, 2)) (hp : pc + 2 = pc') (hc : po b = c) (hk : plC c i = some (0, n, x)) (hv : Int32.ofInt n = v) (H : Le t (den b k pc' ls (.int v :: st) σ)) : Le t (den b k pc ls st σ) := by
  subst hv; subst hp; subst hc
  exact r_go h (by simp only [stpI, ln, a_ldc, hk, jm, if_true]) H
theorem r_ldcwI {i x : Nat} {n : Int} {v : Int32} (h : cd b pc = some (.ldc_w i, 3)) (hp : pc + 3 = pc') (hc : po b = c) (hk : plC c i = some (0, n, x)) (hv : Int32.ofInt n = v) (H : Le t (den b k pc' ls (.int v :: st) σ)) : Le t (den b k pc ls st σ) := by
  subst hv; subst hp; subst hc
  exact r_go h (by simp only [stpI, ln, a_ldc, hk, jm, if_true]) H
theorem r_ldcS {i x q : Nat} {n : Int} (h : cd b pc = some (.ldc i, 2)) (hp : pc + 2 = pc') (hc : po b = c) (hk : plC c i = some (2, n, x)) (hv : 1000 + n.toNat = q) (H : Le t (den b k pc' ls (.ref q :: st) σ)) : Le t (den b k pc ls st σ) := by
  subst hv; subst hp; subst hc
  exact r_go h (by simp only [stpI, ln, a_ldc, hk, jm, if_true]) H
theorem r_ldc2 {i x : Nat} {n : Int} {v : Int64} (h : cd b pc = some (.ldc2_w i, 3)) (hp : pc + 3 = pc') (hc : po b = c) (hk : plC c i = some (1, n, x)) (hv : Int64.ofInt n = v) (H : Le t (den b k pc' ls (.long v :: st) σ)) : Le t (den b k pc ls st σ) := by
  subst hv; subst hp; subst hc
  exact r_go h (by simp only [stpI, ln, a_ldc2, hk, jm, if_true]) H
theorem r_iload {n : Nat} {x : Int32} (h : cd b pc = some (.iload n, 2)) (hp : pc + 2 = pc') (hl : ls[n]? = some (.int x)) (H : Le t (den b k pc' ls (.int x :: st) σ)) : Le t (den b k pc ls st σ) := by
  subst hp; exact r_go h (by simp only [stpI, ln, a_ldI, hl, jm, if_true]) H
theorem r_iload_n {n : Fin 4} {x : Int32} (h : cd b pc = some (.iload_n n, 1)) (hp : pc + 1 = pc') (hl : ls[(n : Nat)]? = some (.int x)) (H : Le t (den b k pc' ls (.int x :: st) σ)) : Le t (den b k pc ls st σ) := by
  subst hp; exact r_go h (by simp only [stpI, ln, a_ldI, hl, jm, if_true]) H
theorem r_lload {n : Nat} {x : Int64} (h : cd b pc = some (.lload n, 2)) (hp : pc + 2 = pc') (hl : ls[n]? = some (.long x)) (hl2 : ls[n + 1]? = some (.retAddr 1)) (H : Le t (den b k pc' ls (.long x :: st) σ)) : Le t (den b k pc ls st σ) := by
  subst hp; exact r_go h (by simp only [stpI, ln, a_ldJ, hl, hl2, jm, if_true]) H
theorem r_lload_n {n : Fin 4} {x : Int64} (h : cd b pc = some (.lload_n n, 1)) (hp : pc + 1 = pc') (hl : ls[(n : Nat)]? = some (.long x)) (hl2 : ls[(n : Nat) + 1]? = some (.retAddr 1)) (H : Le t (den b k pc' ls (.long x :: st) σ)) : Le t (den b k pc ls st σ) := by
  subst hp; exact r_go h (by simp only [stpI, ln, a_ldJ, hl, hl2, jm, if_true]) H
theorem r_aload {n x : Nat} (h : cd b pc = some (.aload n, 2)) (hp : pc + 2 = pc') (hl : ls[n]? = some (.ref x)) (H : Le t (den b k pc' ls (.ref x :: st) σ)) : Le t (den b k pc ls st σ) := by
  subst hp; exact r_go h (by simp only [stpI, ln, a_ldA, hl, jm, if_true]) H
theorem r_aload_n {n : Fin 4} {x : Nat} (h : cd b pc = some (.aload_n n, 1)) (hp : pc + 1 = pc') (hl : ls[(n : Nat)]? = some (.ref x)) (H : Le t (den b k pc' ls (.ref x :: st) σ)) : Le t (den b k pc ls st σ) := by
  subst hp; exact r_go h (by simp only [stpI, ln, a_ldA, hl, jm, if_true]) H
theorem r_istore {n : Nat} {x : Int32} (h : cd b pc = some (.istore n, 2)) (hp : pc + 2 = pc') (hn : Nat.blt n ls.length = true) (hl : ls.set n (.int x) = ls') (H : Le t (den b k pc' ls' st σ)) : Le t (den b k pc ls (.int x :: st) σ) := by
  subst hp; subst hl; exact r_go h (by simp only [stpI, ln, a_stI, Nat.blt_eq.mp hn, jm, if_true]) H
theorem r_istore_n {n : Fin 4} {x : Int32} (h : cd b pc = some (.istore_n n, 1)) (hp : pc + 1 = pc') (hn : Nat.blt n ls.length = true) (hl : ls.set n (.int x) = ls') (H : Le t (den b k pc' ls' st σ)) : Le t (den b k pc ls (.int x :: st) σ) := by
  subst hp; subst hl; exact r_go h (by simp only [stpI, ln, a_stI, Nat.blt_eq.mp hn, jm, if_true]) H
theorem r_lstore {n : Nat} {x : Int64} (h : cd b pc = some (.lstore n, 2)) (hp : pc + 2 = pc') (hn : Nat.blt (n + 1) ls.length = true) (hl : (ls.set n (.long x)).set (n + 1) (.retAddr 1) = ls') (H : Le t (den b k pc' ls' st σ)) : Le t (den b k pc ls (.long x :: st) σ) := by
  subst hp; subst hl; exact r_go h (by simp only [stpI, ln, a_stJ, Nat.blt_eq.mp hn, jm, if_true]) H
theorem r_lstore_n {n : Fin 4} {x : Int64} (h : cd b pc = some (.lstore_n n, 1)) (hp : pc + 1 = pc') (hn : Nat.blt ((n : Nat) + 1) ls.length = true) (hl : (ls.set n (.long x)).set ((n : Nat) + 1) (.retAddr 1) = ls') (H : Le t (den b k pc' ls' st σ)) : Le t (den b k pc ls (.long x :: st) σ) := by
  subst hp; subst hl; exact r_go h (by simp only [stpI, ln, a_stJ, Nat.blt_eq.mp hn, jm, if_true]) H
theorem r_astore {n x : Nat} (h : cd b pc = some (.astore n, 2)) (hp : pc + 2 = pc') (hn : Nat.blt n ls.length = true) (hl : ls.set n (.ref x) = ls') (H : Le t (den b k pc' ls' st σ)) : Le t (den b k pc ls (.ref x :: st) σ) := by
  subst hp; subst hl; exact r_go h (by simp only [stpI, ln, a_stA, Nat.blt_eq.mp hn, jm, if_true]) H
theorem r_astore_n {n : Fin 4} {x : Nat} (h : cd b pc = some (.astore_n n, 1)) (hp : pc + 1 = pc') (hn : Nat.blt n ls.length = true) (hl : ls.set n (.ref x) = ls') (H : Le t (den b k pc' ls' st σ)) : Le t (den b k pc ls (.ref x :: st) σ) := by
  subst hp; subst hl; exact r_go h (by simp only [stpI, ln, a_stA, Nat.blt_eq.mp hn, jm, if_true]) H
theorem r_pop {v : Value} (h : cd b pc = some (.pop, 1)) (hp : pc + 1 = pc') (hv : v.category = 1) (H : Le t (den b k pc' ls st σ)) : Le t (den b k pc ls (v :: st) σ) := by
  subst hp; exact r_go h (by simp only [stpI, ln, a_pop, hv, jm, if_true]) H
theorem r_dup {v : Value} (h : cd b pc = some (.dup, 1)) (hp : pc + 1 = pc') (hv : v.category = 1) (H : Le t (den b k pc' ls (v :: v :: st) σ)) : Le t (den b k pc ls (v :: st) σ) := by
  subst hp; exact r_go h (by simp only [stpI, ln, a_dup, hv, jm, if_true]) H
theorem r_dup2 {v w : Value} (h : cd b pc = some (.dup2, 1)) (hp : pc + 1 = pc') (hv : v.category = 1) (hw : w.category = 1) (H : Le t (den b k pc' ls (v :: w :: v :: w :: st) σ)) : Le t (den b k pc ls (v :: w :: st) σ) := by
  subst hp; exact r_go h (by simp only [stpI, ln, a_dup2, hv, hw, jm, and_self, if_true]) H
theorem r_iadd {x y : Int32} (h : cd b pc = some (.iadd, 1)) (hp : pc + 1 = pc') (H : Le t (den b k pc' ls (.int (x + y) :: st) σ)) : Le t (den b k pc ls (.int y :: .int x :: st) σ) := by
  subst hp; exact r_go h rfl H
theorem r_isub {x y : Int32} (h : cd b pc = some (.isub, 1)) (hp : pc + 1 = pc') (H : Le t (den b k pc' ls (.int (x - y) :: st) σ)) : Le t (den b k pc ls (.int y :: .int x :: st) σ) := by
  subst hp; exact r_go h rfl H
theorem r_imul {x y : Int32} (h : cd b pc = some (.imul, 1)) (hp : pc + 1 = pc') (H : Le t (den b k pc' ls (.int (x * y) :: st) σ)) : Le t (den b k pc ls (.int y :: .int x :: st) σ) := by
  subst hp; exact r_go h rfl H
theorem r_iand {x y : Int32} (h : cd b pc = some (.iand, 1)) (hp : pc + 1 = pc') (H : Le t (den b k pc' ls (.int (x &&& y) :: st) σ)) : Le t (den b k pc ls (.int y :: .int x :: st) σ) := by
  subst hp; exact r_go h rfl H
theorem r_ior {x y : Int32} (h : cd b pc = some (.ior, 1)) (hp : pc + 1 = pc') (H : Le t (den b k pc' ls (.int (x ||| y) :: st) σ)) : Le t (den b k pc ls (.int y :: .int x :: st) σ) := by
  subst hp; exact r_go h rfl H
theorem r_ixor {x y : Int32} (h : cd b pc = some (.ixor, 1)) (hp : pc + 1 = pc') (H : Le t (den b k pc' ls (.int (x ^^^ y) :: st) σ)) : Le t (den b k pc ls (.int y :: .int x :: st) σ) := by
  subst hp; exact r_go h rfl H
theorem r_ishl {x y : Int32} (h : cd b pc = some (.ishl, 1)) (hp : pc + 1 = pc') (H : Le t (den b k pc' ls (.int (shl' x y) :: st) σ)) : Le t (den b k pc ls (.int y :: .int x :: st) σ) := by
  subst hp; exact r_go h rfl H
theorem r_ishr {x y : Int32} (h : cd b pc = some (.ishr, 1)) (hp : pc + 1 = pc') (H : Le t (den b k pc' ls (.int (shr' x y) :: st) σ)) : Le t (den b k pc ls (.int y :: .int x :: st) σ) := by
  subst hp; exact r_go h rfl H
theorem r_iushr {x y : Int32} (h : cd b pc = some (.iushr, 1)) (hp : pc + 1 = pc') (H : Le t (den b k pc' ls (.int (ushr x y) :: st) σ)) : Le t (den b k pc ls (.int y :: .int x :: st) σ) := by
  subst hp; exact r_go h rfl H
theorem r_idiv {x y : Int32} (h : cd b pc = some (.idiv, 1)) (hp : pc + 1 = pc') (hy : ¬ y = 0) (H : Le t (den b k pc' ls (.int (x / y) :: st) σ)) : Le t (den b k pc ls (.int y :: .int x :: st) σ) := by
  subst hp; exact r_go h (by simp only [stpI, ln, a_div, hy, jm, if_true, if_false]) H
theorem r_irem {x y : Int32} (h : cd b pc = some (.irem, 1)) (hp : pc + 1 = pc') (hy : ¬ y = 0) (H : Le t (den b k pc' ls (.int (irem' x y) :: st) σ)) : Le t (den b k pc ls (.int y :: .int x :: st) σ) := by
  subst hp; exact r_go h (by simp only [stpI, ln, a_div, hy, jm, if_true, if_false]) H
theorem r_ladd {x y : Int64} (h : cd b pc = some (.ladd, 1)) (hp : pc + 1 = pc') (H : Le t (den b k pc' ls (.long (x + y) :: st) σ)) : Le t (den b k pc ls (.long y :: .long x :: st) σ) := by
  subst hp; exact r_go h rfl H
theorem r_lmul {x y : Int64} (h : cd b pc = some (.lmul, 1)) (hp : pc + 1 = pc') (H : Le t (den b k pc' ls (.long (x * y) :: st) σ)) : Le t (den b k pc ls (.long y :: .long x :: st) σ) := by
  subst hp; exact r_go h rfl H
theorem r_ldiv {x y : Int64} (h : cd b pc = some (.ldiv, 1)) (hp : pc + 1 = pc') (hy : ¬ y = 0) (H : Le t (den b k pc' ls (.long (x / y) :: st) σ)) : Le t (den b k pc ls (.long y :: .long x :: st) σ) := by
  subst hp; exact r_go h (by simp only [stpI, ln, a_divJ, hy, jm, if_true, if_false]) H
theorem r_lrem {x y : Int64} (h : cd b pc = some (.lrem, 1)) (hp : pc + 1 = pc') (hy : ¬ y = 0) (H : Le t (den b k pc' ls (.long (lrem' x y) :: st) σ)) : Le t (den b k pc ls (.long y :: .long x :: st) σ) := by
  subst hp; exact r_go h (by simp only [stpI, ln, a_divJ, hy, jm, if_true, if_false]) H
theorem r_lcmp {x y : Int64} (h : cd b pc = some (.lcmp, 1)) (hp : pc + 1 = pc') (H : Le t (den b k pc' ls (.int (lg_cmp x y) :: st) σ)) : Le t (den b k pc ls (.long y :: .long x :: st) σ) := by
  subst hp; exact r_go h rfl H
theorem r_i2l {x : Int32} (h : cd b pc = some (.i2l, 1)) (hp : pc + 1 = pc') (H : Le t (den b k pc' ls (.long x.toInt64 :: st) σ)) : Le t (den b k pc ls (.int x :: st) σ) := by
  subst hp; exact r_go h rfl H
theorem r_l2i {x : Int64} (h : cd b pc = some (.l2i, 1)) (hp : pc + 1 = pc') (H : Le t (den b k pc' ls (.int x.toInt32 :: st) σ)) : Le t (den b k pc ls (.long x :: st) σ) := by
  subst hp; exact r_go h rfl H
def i2c (x : Int32) : Int32 := (x.toUInt32 % 65536).toInt32
def i2b (x : Int32) : Int32 := x.toInt8.toInt32
theorem r_i2c {x : Int32} (h : cd b pc = some (.i2c, 1)) (hp : pc + 1 = pc') (H : Le t (den b k pc' ls (.int (i2c x) :: st) σ)) : Le t (den b k pc ls (.int x :: st) σ) := by
  subst hp; exact r_go h rfl H
theorem r_i2b {x : Int32} (h : cd b pc = some (.i2b, 1)) (hp : pc + 1 = pc') (H : Le t (den b k pc' ls (.int (i2b x) :: st) σ)) : Le t (den b k pc ls (.int x :: st) σ) := by
  subst hp; exact r_go h rfl H
theorem cop_eq {x y : Int32} : cop .eq x y = true ↔ x = y := by simp [cop]
theorem cop_ne {x y : Int32} : cop .ne x y = true ↔ ¬ x = y := by simp [cop]
theorem cop_lt {x y : Int32} : cop .lt x y = true ↔ x < y := by simp [cop]
theorem cop_ge {x y : Int32} : cop .ge x y = true ↔ y ≤ x := by simp [cop]
theorem cop_gt {x y : Int32} : cop .gt x y = true ↔ y < x := by simp [cop]
theorem cop_le {x y : Int32} : cop .le x y = true ↔ x ≤ y := by simp [cop]
theorem r_if {op : ClassFile.Cond} {off : Int} {x : Int32} {tgt : Nat} {q : Prop} [Decidable q] (h : cd b pc = some (.ifCond op off, 3)) (ht : (pc : Int) + off = (tgt : Int)) (hp : pc + 3 = pc') (hc : cop op x 0 = true ↔ q) (H1 : Le t1 (den b k tgt ls st σ)) (H2 : Le t2 (den b k pc' ls st σ)) : Le (if q then t1 else t2) (den b k pc ls (.int x :: st) σ) := by
  subst hp
  have h0 : (0 : Int) ≤ (pc : Int) + off := by omega
  have h1 : ((pc : Int) + off).toNat = tgt := by omega
  by_cases hq : q
  · rw [if_pos hq]
    exact r_go h (by simp only [stpI, ln, a_if, hc.mpr hq, h0, h1, jm, if_true]) H1
  · rw [if_neg hq]
    have hq2 : ¬ cop op x 0 = true := fun g => hq (hc.mp g)
    exact r_go h (by simp only [stpI, ln, a_if, h0, jm, if_true]; rw [if_neg hq2]) H2
theorem r_icmp {op : ClassFile.Cond} {off : Int} {x y : Int32} {tgt : Nat} {q : Prop} [Decidable q] (h : cd b pc = some (.if_icmp op off, 3)) (ht : (pc : Int) + off = (tgt : Int)) (hp : pc + 3 = pc') (hc : cop op x y = true ↔ q) (H1 : Le t1 (den b k tgt ls st σ)) (H2 : Le t2 (den b k pc' ls st σ)) : Le (if q then t1 else t2) (den b k pc ls (.int y :: .int x :: st) σ) := by
  subst hp
  have h0 : (0 : Int) ≤ (pc : Int) + off := by omega
  have h1 : ((pc : Int) + off).toNat = tgt := by omega
  by_cases hq : q
  · rw [if_pos hq]
    exact r_go h (by simp only [stpI, ln, a_icmp, hc.mpr hq, h0, h1, jm, if_true]) H1
  · rw [if_neg hq]
    have hq2 : ¬ cop op x y = true := fun g => hq (hc.mp g)
    exact r_go h (by simp only [stpI, ln, a_icmp, h0, jm, if_true]; rw [if_neg hq2]) H2
theorem r_goto {off : Int} {tgt : Nat} (h : cd b pc = some (.goto off, 3)) (ht : (pc : Int) + off = (tgt : Int)) (H : Le t (den b k tgt ls st σ)) : Le t (den b k pc ls st σ) := by
  have h0 : (0 : Int) ≤ (pc : Int) + off := by omega
  have h1 : ((pc : Int) + off).toNat = tgt := by omega
  exact r_go h (by simp only [stpI, ln, jo, h0, h1, jm, if_true]) H
theorem r_iinc {n : Nat} {d : Int} {x y : Int32} (h : cd b pc = some (.iinc n d, 3)) (hp : pc + 3 = pc') (hl : ls[n]? = some (.int x)) (hv : x + Int32.ofInt d = y) (hls : ls.set n (.int y) = ls') (H : Le t (den b k pc' ls' st σ)) : Le t (den b k pc ls st σ) := by
  subst hp; subst hls; subst hv; exact r_go h (by simp only [stpI, ln, a_inc, hl, jm, if_true]) H
theorem r_getI {i ci f x a : Nat} (h : cd b pc = some (.getfield i, 3)) (hp : pc + 3 = pc') (hc : po b = c) (hne : Nat.beq c 16 = false) (hpl : plF c i = some (ci, f, x)) (ht : Nat.ble (ft ci f).1 1 = true) (hk : kd a = (ci, 0)) (H : Le t (den b k pc' ls (.int (gI σ a f) :: st) σ)) : Le t (den b k pc ls (.ref a :: st) σ) := by
  subst hp; subst hc
  have h16 : ¬ po b = 16 := fun e => by rw [e] at hne; cases hne
  have h2 : (ft ci f).1 = 0 ∨ (ft ci f).1 = 1 := by have := Nat.le_of_ble_eq_true ht; omega
  rcases h2 with h2 | h2
  · exact r_go h (by simp only [stpI, ln, a_get, a_getO, hpl, h2, hk, h16, jm, if_true, if_false]) H
  · exact r_go h (by simp only [stpI, ln, a_get, a_getO, hpl, h2, hk, h16, jm, if_true, if_false]) H
theorem r_getJ {i ci f x a : Nat} (h : cd b pc = some (.getfield i, 3)) (hp : pc + 3 = pc') (hc : po b = c) (hne : Nat.beq c 16 = false) (hpl : plF c i = some (ci, f, x)) (ht : (ft ci f).1 = 2) (hk : kd a = (ci, 0)) (H : Le t (den b k pc' ls (.long (gJ σ a f) :: st) σ)) : Le t (den b k pc ls (.ref a :: st) σ) := by
  subst hp; subst hc
  have h16 : ¬ po b = 16 := fun e => by rw [e] at hne; cases hne
  exact r_go h (by simp only [stpI, ln, a_get, a_getO, hpl, ht, hk, h16, jm, if_true, if_false]) H
theorem r_getR {i ci f x a q : Nat} (h : cd b pc = some (.getfield i, 3)) (hp : pc + 3 = pc') (hc : po b = c) (hne : Nat.beq c 16 = false) (hpl : plF c i = some (ci, f, x)) (ht : (ft ci f).1 = 3) (hk : kd a = (ci, 0)) (hr : gR σ a f = some q) (H : Le t (den b k pc' ls (.ref q :: st) σ)) : Le t (den b k pc ls (.ref a :: st) σ) := by
  subst hp; subst hc
  have h16 : ¬ po b = 16 := fun e => by rw [e] at hne; cases hne
  exact r_go h (by simp only [stpI, ln, a_get, a_getO, hpl, ht, hk, h16, hr, va_rf, jm, if_true, if_false]) H
theorem r_putI {i ci f x a : Nat} {v : Int32} (h : cd b pc = some (.putfield i, 3)) (hp : pc + 3 = pc') (hc : po b = c) (hpl : plF c i = some (ci, f, x)) (ht : ft ci f = (0, false)) (hk : kd a = (ci, 0)) (H : Le t (den b k pc' ls st (sI σ a f v))) : Le t (den b k pc ls (.int v :: .ref a :: st) σ) := by
  subst hp; subst hc
  exact r_go h (by simp [stpI, ln, a_put, a_putO, hpl, ht, hk, jm]) H
theorem r_putZ {i ci f x a : Nat} {v : Int32} (h : cd b pc = some (.putfield i, 3)) (hp : pc + 3 = pc') (hc : po b = c) (hpl : plF c i = some (ci, f, x)) (ht : ft ci f = (1, false)) (hk : kd a = (ci, 0)) (hv : v = 0 ∨ v = 1) (H : Le t (den b k pc' ls st (sI σ a f v))) : Le t (den b k pc ls (.int v :: .ref a :: st) σ) := by
  subst hp; subst hc
  exact r_go h (by simp [stpI, ln, a_put, a_putO, hpl, ht, hk, jm, hv]) H
theorem r_putJ {i ci f x a : Nat} {v : Int64} (h : cd b pc = some (.putfield i, 3)) (hp : pc + 3 = pc') (hc : po b = c) (hpl : plF c i = some (ci, f, x)) (ht : ft ci f = (2, false)) (hk : kd a = (ci, 0)) (H : Le t (den b k pc' ls st (sJ σ a f v))) : Le t (den b k pc ls (.long v :: .ref a :: st) σ) := by
  subst hp; subst hc
  exact r_go h (by simp [stpI, ln, a_put, a_putO, hpl, ht, hk, jm]) H
theorem r_putR {i ci f x a q : Nat} (h : cd b pc = some (.putfield i, 3)) (hp : pc + 3 = pc') (hc : po b = c) (hpl : plF c i = some (ci, f, x)) (ht : (ft ci f).1 = 3) (ht2 : (ft ci f).2 = false ∨ isin b = true ∧ c = ci) (hk : kd a = (ci, 0)) (H : Le t (den b k pc' ls st (sR σ a f (some q)))) : Le t (den b k pc ls (.ref q :: .ref a :: st) σ) := by
  subst hp; subst hc
  exact r_go h (by simp only [stpI, ln, a_put, a_putO, hpl, ht, hk, ht2, jm, and_self, if_true]) H
theorem r_iald {a n : Nat} {i : Int32} (h : cd b pc = some (.iaload, 1)) (hp : pc + 1 = pc') (hk : kd a = (100, n)) (hi : inb i n) (H : Le t (den b k pc' ls (.int (gI σ a (ix i)) :: st) σ)) : Le t (den b k pc ls (.int i :: .ref a :: st) σ) := by
  subst hp; exact r_go h (by simp only [stpI, ln, a_iald, hk, if_neg hi, jm, if_true]) H
theorem r_ialdS {i : Int32} (h : cd b pc = some (.iaload, 1)) (hp : pc + 1 = pc') (hi : inb i (psc σ).1) (H : Le t (den b k pc' ls (.int ((psc σ).2 (ix i)) :: st) σ)) : Le t (den b k pc ls (.int i :: .ref 3000 :: st) σ) := by
  subst hp
  have hk : kd 3000 = (104, 0) := rfl
  exact r_go h (by simp only [stpI, ln, a_iald, hk, if_neg hi, jm, if_true]) H
theorem r_iast {a n : Nat} {i x : Int32} (h : cd b pc = some (.iastore, 1)) (hp : pc + 1 = pc') (hk : kd a = (100, n)) (hi : inb i n) (H : Le t (den b k pc' ls st (sI σ a (ix i) x))) : Le t (den b k pc ls (.int x :: .int i :: .ref a :: st) σ) := by
  subst hp; exact r_go h (by simp only [stpI, ln, a_iast, hk, if_neg hi, jm, if_true]) H
theorem r_lald {a n : Nat} {i : Int32} (h : cd b pc = some (.laload, 1)) (hp : pc + 1 = pc') (hk : kd a = (101, n)) (hi : inb i n) (H : Le t (den b k pc' ls (.long (gJ σ a (ix i)) :: st) σ)) : Le t (den b k pc ls (.int i :: .ref a :: st) σ) := by
  subst hp; exact r_go h (by simp only [stpI, ln, a_lald, hk, if_neg hi, jm, if_true]) H
theorem r_last {a n : Nat} {i : Int32} {x : Int64} (h : cd b pc = some (.lastore, 1)) (hp : pc + 1 = pc') (hk : kd a = (101, n)) (hi : inb i n) (H : Le t (den b k pc' ls st (sJ σ a (ix i) x))) : Le t (den b k pc ls (.long x :: .int i :: .ref a :: st) σ) := by
  subst hp; exact r_go h (by simp only [stpI, ln, a_last, hk, if_neg hi, jm, if_true]) H
theorem r_aald {a n q : Nat} {i : Int32} (h : cd b pc = some (.aaload, 1)) (hp : pc + 1 = pc') (hk : kd a = (102, n)) (hi : inb i n) (hr : gR σ a (ix i) = some q) (H : Le t (den b k pc' ls (.ref q :: st) σ)) : Le t (den b k pc ls (.int i :: .ref a :: st) σ) := by
  subst hp; exact r_go h (by simp only [stpI, ln, a_aald, hk, if_neg hi, hr, va_rf, jm, if_true]) H
theorem r_bald {a n : Nat} {i : Int32} (h : cd b pc = some (.baload, 1)) (hp : pc + 1 = pc') (hk : kd a = (203, n)) (hn : n < 26) (hi : inb i (slen n)) (H : Le t (den b k pc' ls (.int (sby n (ix i)) :: st) σ)) : Le t (den b k pc ls (.int i :: .ref a :: st) σ) := by
  subst hp; exact r_go h (by simp only [stpI, ln, a_bald, hk, hn, if_neg hi, jm, if_true]) H
theorem r_alenI {a n : Nat} {v : Int32} (h : cd b pc = some (.arraylength, 1)) (hp : pc + 1 = pc') (hk : kd a = (100, n)) (hv : Int32.ofNat n = v) (H : Le t (den b k pc' ls (.int v :: st) σ)) : Le t (den b k pc ls (.ref a :: st) σ) := by
  subst hp; subst hv; exact r_go h (by simp only [stpI, ln, a_alen, hk, jm, if_true]) H
theorem r_alenJ {a n : Nat} {v : Int32} (h : cd b pc = some (.arraylength, 1)) (hp : pc + 1 = pc') (hk : kd a = (101, n)) (hv : Int32.ofNat n = v) (H : Le t (den b k pc' ls (.int v :: st) σ)) : Le t (den b k pc ls (.ref a :: st) σ) := by
  subst hp; subst hv; exact r_go h (by simp only [stpI, ln, a_alen, hk, jm, if_true]) H
theorem r_alenR {a n : Nat} {v : Int32} (h : cd b pc = some (.arraylength, 1)) (hp : pc + 1 = pc') (hk : kd a = (102, n)) (hv : Int32.ofNat n = v) (H : Le t (den b k pc' ls (.int v :: st) σ)) : Le t (den b k pc ls (.ref a :: st) σ) := by
  subst hp; subst hv; exact r_go h (by simp only [stpI, ln, a_alen, hk, jm, if_true]) H
theorem r_alenB {a n : Nat} (h : cd b pc = some (.arraylength, 1)) (hp : pc + 1 = pc') (hk : kd a = (203, n)) (hn : n < 26) (H : Le t (den b k pc' ls (.int (Int32.ofNat (slen n)) :: st) σ)) : Le t (den b k pc ls (.ref a :: st) σ) := by
  subst hp; exact r_go h (by simp only [stpI, ln, a_alen, hk, hn, jm, if_true]) H
theorem r_alenS (h : cd b pc = some (.arraylength, 1)) (hp : pc + 1 = pc') (H : Le t (den b k pc' ls (.int (Int32.ofNat (psc σ).1) :: st) σ)) : Le t (den b k pc ls (.ref 3000 :: st) σ) := by
  subst hp
  have hk : kd 3000 = (104, 0) := rfl
  exact r_go h (by simp only [stpI, ln, a_alen, hk, jm, if_true]) H
theorem r_ret {ty : FieldType} {v : Int32} (h : cd b pc = some (.ireturn, 1)) (hr : rty b = some ty) (hn : narrow ty (.int v) = .int v) : Le (some (1, .int v, σ)) (den b k pc ls [.int v] σ) :=
  r_end h (by simp only [stpI, ln, a_ret, hr, hn, if_true])
theorem r_retJ {v : Int64} (h : cd b pc = some (.lreturn, 1)) (hr : rty b = some .long) : Le (some (1, .long v, σ)) (den b k pc ls [.long v] σ) :=
  r_end h (by simp only [stpI, ln, a_retJ, hr, if_true])
theorem r_retA {v : Nat} {o : String} (h : cd b pc = some (.areturn, 1)) (hr : rty b = some (.object o)) : Le (some (1, .ref v, σ)) (den b k pc ls [.ref v] σ) :=
  r_end h (by simp only [stpI, ln, a_retA, hr, if_true])
theorem r_retV (h : cd b pc = some (.return_, 1)) (hr : rty b = none) : Le (some (0, .null, σ)) (den b k pc ls [] σ) :=
  r_end h (by simp only [stpI, ln, a_retV, hr, if_true])
/-- behind calls -/
def bI (p : Option pZ) (f : Int32 → pS → Option pZ) : Option pZ := match p with
  | some (1, .int x, σ) => f x σ
  | some (k + 2, _, σ) => some (k + 2, .null, σ)
  | _ => none
def bJ (p : Option pZ) (f : Int64 → pS → Option pZ) : Option pZ := match p with
  | some (1, .long x, σ) => f x σ
  | some (k + 2, _, σ) => some (k + 2, .null, σ)
  | _ => none
def bV (p : Option pZ) (f : pS → Option pZ) : Option pZ := match p with
  | some (0, _, σ) => f σ
  | some (k + 2, _, σ) => some (k + 2, .null, σ)
  | _ => none
def bA (p : Option pZ) (f : Nat → pS → Option pZ) : Option pZ := match p with
  | some (1, .ref x, σ) => f x σ
  | some (k + 2, _, σ) => some (k + 2, .null, σ)
  | _ => none
/-- a call: what it pops, where it goes on -/
def CallQ (b pc : Nat) (ls st : List Value) (σ : pS) (b' : Nat) (av rest : List Value) : Prop := stp b pc ls st σ = some (.inr (.inr (b', av, pc, ls, rest, σ)))
theorem q_virt {i b' n x a : Nat} {as rest : List Value} {w : List Value} (h : cd b pc = some (.invokevirtual i, 3)) (hc : po b = c) (hp : plM c i = some (b', n, 0, x)) (ht : tk n st = some (w, rest)) (hw : w.reverse = .ref a :: as) (hr : rcv b' a = true) (hf : Nat.ble (flt (.ref a :: as)).length (mxl b') = true) (ho : okRb rest = true) : CallQ b pc ls st σ b' (.ref a :: as) rest := by
  subst hc
  unfold CallQ
  simp only [stp, h, stpI, ln, a_call, hp, ht, a_invR, hw, hr, a_inv, hf, ho, and_self, if_true]
theorem q_spec {i b' n x a kk : Nat} {as rest : List Value} {w : List Value} (h : cd b pc = some (.invokespecial i, 3)) (hc : po b = c) (hp : plM c i = some (b', n, kk, x)) (hkk : kk = 2 ∨ kk = 3) (ht : tk n st = some (w, rest)) (hw : w.reverse = .ref a :: as) (hr : rcv b' a = true) (hf : Nat.ble (flt (.ref a :: as)).length (mxl b') = true) (ho : okRb rest = true) : CallQ b pc ls st σ b' (.ref a :: as) rest := by
  subst hc
  unfold CallQ
  rcases hkk with rfl | rfl
  · simp only [stp, h, stpI, ln, a_call, hp, ht, a_invR, hw, hr, a_inv, hf, ho, and_self, if_true]
  · simp only [stp, h, stpI, ln, a_call, hp, ht, a_invR, hw, hr, a_inv, hf, ho, and_self, if_true]
theorem q_stat {i b' n x kk : Nat} {av rest : List Value} {w : List Value} (h : cd b pc = some (.invokestatic i, 3)) (hc : po b = c) (hp : plM c i = some (b', n, kk, x)) (hkk : kk = 1 ∨ kk = 9) (ht : tk n st = some (w, rest)) (hw : w.reverse = av) (hf : Nat.ble (flt av).length (mxl b') = true) (ho : okRb rest = true) : CallQ b pc ls st σ b' av rest := by
  subst hc
  unfold CallQ
  rcases hkk with rfl | rfl
  · simp only [stp, h, stpI, ln, a_call, hp, ht, hw, a_inv, hf, ho, and_self, if_true]
  · simp only [stp, h, stpI, ln, a_call, hp, ht, hw, a_inv, hf, ho, and_self, if_true]
theorem den_call {b' : Nat} {av rest : List Value} (h : CallQ b pc ls st σ b' av rest) (hlv : lv b' (rk b' av) < lv b k) {y : pZ} (hy : pcall b' av σ = some y) : den b k pc ls st σ = match aft b pc ls rest y with
    | none => none
    | some (.inl c) => den b k c.1 c.2.1 c.2.2.1 c.2.2.2
    | some (.inr y) => some y := by
  rw [den_eq, h]
  show (if lv b' (rk b' av) < lv b k then _ else _) = _
  rw [if_pos hlv]
  show (match pcall b' av σ with
    | none => none
    | some z => _) = _
  rw [hy]
  rfl
theorem hnd_nil (h : hns b = []) (pc k : Nat) : hnd b pc k = none := by unfold hnd; unfold hns at h; rw [h]; rfl
variable {b' : Nat} {av rest : List Value}
theorem r_callI {f : Int32 → pS → Option pZ} (h : CallQ b pc ls st σ b' av rest) (hlv : lv b' (rk b' av) < lv b k) (hh : hns b = []) (hp : pc + 3 = pc') (H : ∀ x σ', pcall b' av σ = some (1, .int x, σ') → Le (f x σ') (den b k pc' ls (.int x :: rest) σ')) : Le (bI (pcall b' av σ) f) (den b k pc ls st σ) := by
  intro z hz
  subst hp
  cases hy : pcall b' av σ with
  | none => rw [hy] at hz; cases hz
  | some y =>
    rw [den_call h hlv hy]
    rw [hy] at hz
    match y, hy, hz with
    | (0, v, σ'), hy, hz => cases hz
    | (1, .int x, σ'), hy, hz => exact H x σ' hy z hz
    | (1, .long x, σ'), hy, hz => cases hz
    | (1, .ref x, σ'), hy, hz => cases hz
    | (1, .null, σ'), hy, hz => cases hz
    | (1, .float x, σ'), hy, hz => cases hz
    | (1, .double x, σ'), hy, hz => cases hz
    | (1, .retAddr x, σ'), hy, hz => cases hz
    | (j + 2, v, σ'), hy, hz => simp only [aft, hnd_nil hh]; exact hz
theorem r_callJ {f : Int64 → pS → Option pZ} (h : CallQ b pc ls st σ b' av rest) (hlv : lv b' (rk b' av) < lv b k) (hh : hns b = []) (hp : pc + 3 = pc') (H : ∀ x σ', pcall b' av σ = some (1, .long x, σ') → Le (f x σ') (den b k pc' ls (.long x :: rest) σ')) : Le (bJ (pcall b' av σ) f) (den b k pc ls st σ) := by
  intro z hz
  subst hp
  cases hy : pcall b' av σ with
  | none => rw [hy] at hz; cases hz
  | some y =>
    rw [den_call h hlv hy]
    rw [hy] at hz
    match y, hy, hz with
    | (0, v, σ'), hy, hz => cases hz
    | (1, .long x, σ'), hy, hz => exact H x σ' hy z hz
    | (1, .int x, σ'), hy, hz => cases hz
    | (1, .ref x, σ'), hy, hz => cases hz
    | (1, .null, σ'), hy, hz => cases hz
    | (1, .float x, σ'), hy, hz => cases hz
    | (1, .double x, σ'), hy, hz => cases hz
    | (1, .retAddr x, σ'), hy, hz => cases hz
    | (j + 2, v, σ'), hy, hz => simp only [aft, hnd_nil hh]; exact hz
theorem r_callA {f : Nat → pS → Option pZ} (h : CallQ b pc ls st σ b' av rest) (hlv : lv b' (rk b' av) < lv b k) (hh : hns b = []) (hp : pc + 3 = pc') (H : ∀ x σ', pcall b' av σ = some (1, .ref x, σ') → Le (f x σ') (den b k pc' ls (.ref x :: rest) σ')) : Le (bA (pcall b' av σ) f) (den b k pc ls st σ) := by
  intro z hz
  subst hp
  cases hy : pcall b' av σ with
  | none => rw [hy] at hz; cases hz
  | some y =>
    rw [den_call h hlv hy]
    rw [hy] at hz
    match y, hy, hz with
    | (0, v, σ'), hy, hz => cases hz
    | (1, .ref x, σ'), hy, hz => exact H x σ' hy z hz
    | (1, .int x, σ'), hy, hz => cases hz
    | (1, .long x, σ'), hy, hz => cases hz
    | (1, .null, σ'), hy, hz => cases hz
    | (1, .float x, σ'), hy, hz => cases hz
    | (1, .double x, σ'), hy, hz => cases hz
    | (1, .retAddr x, σ'), hy, hz => cases hz
    | (j + 2, v, σ'), hy, hz => simp only [aft, hnd_nil hh]; exact hz
theorem r_callV {f : pS → Option pZ} (h : CallQ b pc ls st σ b' av rest) (hlv : lv b' (rk b' av) < lv b k) (hh : hns b = []) (hp : pc + 3 = pc') (H : ∀ v σ', pcall b' av σ = some (0, v, σ') → Le (f σ') (den b k pc' ls rest σ')) : Le (bV (pcall b' av σ) f) (den b k pc ls st σ) := by
  intro z hz
  subst hp
  cases hy : pcall b' av σ with
  | none => rw [hy] at hz; cases hz
  | some y =>
    rw [den_call h hlv hy]
    rw [hy] at hz
    match y, hy, hz with
    | (0, v, σ'), hy, hz => exact H v σ' hy z hz
    | (1, v, σ'), hy, hz => cases hz
    | (j + 2, v, σ'), hy, hz => simp only [aft, hnd_nil hh]; exact hz
end RULES
