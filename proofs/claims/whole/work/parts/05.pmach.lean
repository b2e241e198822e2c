/-! ===== the pure machine's steps ===== -/
abbrev pC : Type := Nat × List Value × List Value × pS
abbrev pZ : Type := Nat × Value × pS
abbrev pL : Type := Nat × List Value × Nat × List Value × List Value × pS
abbrev pT : Type := pC ⊕ (pZ ⊕ pL)
def jm (pc : Nat) (ls st : List Value) (σ : pS) : Option pT := some (.inl (pc, ls, st, σ))
/-- the target of a jump -/
def jo (pc : Nat) (off : Int) (ls st : List Value) (σ : pS) : Option pT := if 0 ≤ (pc : Int) + off then jm ((pc : Int) + off).toNat ls st σ else none
/-- n values from the stack, the top first, and the rest -/
def tk : Nat → List Value → Option (List Value × List Value)
  | 0, l => some ([], l)
  | n + 1, v :: l => match tk n l with
    | some q => some (v :: q.1, q.2)
    | none => none
  | _ + 1, [] => none
def a_ldI (n len pc : Nat) (ls st : List Value) (σ : pS) : Option pT := match ls[n]? with
  | some (.int x) => jm (pc + len) ls (.int x :: st) σ
  | _ => none
def a_ldJ (n len pc : Nat) (ls st : List Value) (σ : pS) : Option pT := match ls[n]?, ls[n + 1]? with
  | some (.long x), some (.retAddr 1) => jm (pc + len) ls (.long x :: st) σ
  | _, _ => none
def a_ldA (n len pc : Nat) (ls st : List Value) (σ : pS) : Option pT := match ls[n]? with
  | some (.ref x) => jm (pc + len) ls (.ref x :: st) σ
  | _ => none
def a_stI (n len pc : Nat) (ls st : List Value) (σ : pS) : Option pT := match st with
  | .int x :: r => if n < ls.length then jm (pc + len) (ls.set n (.int x)) r σ else none
  | _ => none
def a_stJ (n len pc : Nat) (ls st : List Value) (σ : pS) : Option pT := match st with
  | .long x :: r => if n + 1 < ls.length then jm (pc + len) ((ls.set n (.long x)).set (n + 1) (.retAddr 1)) r σ else none
  | _ => none
def a_stA (n len pc : Nat) (ls st : List Value) (σ : pS) : Option pT := match st with
  | .ref x :: r => if n < ls.length then jm (pc + len) (ls.set n (.ref x)) r σ else none
  | _ => none
def a_bin (f : Int32 → Int32 → Int32) (pc : Nat) (ls st : List Value) (σ : pS) : Option pT := match st with
  | .int y :: .int x :: r => jm (pc + 1) ls (.int (f x y) :: r) σ
  | _ => none
def a_binJ (f : Int64 → Int64 → Int64) (pc : Nat) (ls st : List Value) (σ : pS) : Option pT := match st with
  | .long y :: .long x :: r => jm (pc + 1) ls (.long (f x y) :: r) σ
  | _ => none
def a_div (f : Int32 → Int32 → Int32) (pc : Nat) (ls st : List Value) (σ : pS) : Option pT := match st with
  | .int y :: .int x :: r => if y = 0 then none else jm (pc + 1) ls (.int (f x y) :: r) σ
  | _ => none
def a_divJ (f : Int64 → Int64 → Int64) (pc : Nat) (ls st : List Value) (σ : pS) : Option pT := match st with
  | .long y :: .long x :: r => if y = 0 then none else jm (pc + 1) ls (.long (f x y) :: r) σ
  | _ => none
def ushr (x y : Int32) : Int32 := (x.toUInt32 >>> (y.toUInt32 &&& Int32.toUInt32 31)).toInt32
def irem' (x y : Int32) : Int32 := x - x / y * y
def lrem' (x y : Int64) : Int64 := x - x / y * y
def shl' (x y : Int32) : Int32 := x <<< (y &&& 31)
def shr' (x y : Int32) : Int32 := x >>> (y &&& 31)
def a_un (f : Int32 → Value) (pc : Nat) (ls st : List Value) (σ : pS) : Option pT := match st with
  | .int x :: r => jm (pc + 1) ls (f x :: r) σ
  | _ => none
def a_l2i (pc : Nat) (ls st : List Value) (σ : pS) : Option pT := match st with
  | .long x :: r => jm (pc + 1) ls (.int x.toInt32 :: r) σ
  | _ => none
def a_lcmp (pc : Nat) (ls st : List Value) (σ : pS) : Option pT := match st with
  | .long y :: .long x :: r => jm (pc + 1) ls (.int (lg_cmp x y) :: r) σ
  | _ => none
def cop : ClassFile.Cond → Int32 → Int32 → Bool
  | .eq, x, y => decide (x = y)
  | .ne, x, y => decide (¬ x = y)
  | .lt, x, y => decide (x < y)
  | .ge, x, y => decide (y ≤ x)
  | .gt, x, y => decide (y < x)
  | .le, x, y => decide (x ≤ y)
def a_if (op : ClassFile.Cond) (off : Int) (pc : Nat) (ls st : List Value) (σ : pS) : Option pT := match st with
  | .int x :: r => if 0 ≤ (pc : Int) + off then if cop op x 0 = true then jm ((pc : Int) + off).toNat ls r σ else jm (pc + 3) ls r σ else none
  | _ => none
def a_icmp (op : ClassFile.Cond) (off : Int) (pc : Nat) (ls st : List Value) (σ : pS) : Option pT := match st with
  | .int y :: .int x :: r => if 0 ≤ (pc : Int) + off then if cop op x y = true then jm ((pc : Int) + off).toNat ls r σ else jm (pc + 3) ls r σ else none
  | _ => none
def a_inc (n : Nat) (k : Int) (pc : Nat) (ls st : List Value) (σ : pS) : Option pT := match ls[n]? with
  | some (.int x) => jm (pc + 3) (ls.set n (.int (x + Int32.ofInt k))) st σ
  | _ => none
def a_tab (dflt lo hi : Int) (offs : Array Int) (pc : Nat) (ls st : List Value) (σ : pS) : Option pT := match st with
  | .int x :: r => if x.toInt < lo ∨ hi < x.toInt then jo pc dflt ls r σ else match offs[(x.toInt - lo).toNat]? with
    | some off => jo pc off ls r σ
    | none => none
  | _ => none
/-- the pairs grow -/
def lsOk (ps : Array (Int × Int)) : Bool := (ps.toList.zip (ps.toList.drop 1)).all (fun (a, next) => a.1 < next.1)
def a_lsw (dflt : Int) (ps : Array (Int × Int)) (pc : Nat) (ls st : List Value) (σ : pS) : Option pT := match st with
  | .int x :: r => if lsOk ps = true then jo pc (Op.lookupswitch.offset ps.toList dflt x.toInt) ls r σ else none
  | _ => none
def a_ldc (c : Nat) (wide : Bool) (i len pc : Nat) (ls st : List Value) (σ : pS) : Option pT := match plC c i with
  | some (0, n, _) => jm (pc + len) ls (.int (Int32.ofInt n) :: st) σ
  | some (2, n, _) => jm (pc + len) ls (.ref (1000 + n.toNat) :: st) σ
  | _ => none
def a_ldc2 (c i pc : Nat) (ls st : List Value) (σ : pS) : Option pT := match plC c i with
  | some (1, n, _) => jm (pc + 3) ls (.long (Int64.ofInt n) :: st) σ
  | _ => none
def a_getO (c i a pc : Nat) (ls r : List Value) (σ : pS) : Option pT := match plF c i with
  | some (ci, k, _) => if kd a = (ci, 0) then match (ft ci k).1 with
      | 0 => jm (pc + 3) ls (.int (gI σ a k) :: r) σ
      | 1 => jm (pc + 3) ls (.int (gI σ a k) :: r) σ
      | 2 => jm (pc + 3) ls (.long (gJ σ a k) :: r) σ
      | _ => jm (pc + 3) ls (va_rf (gR σ a k) :: r) σ
    else none
  | none => none
def a_getT (i a pc : Nat) (ls r : List Value) (σ : pS) : Option pT :=
  if (kd a).1 = 200 ∧ (kd a).2 < 26 then match i with
    | 9 => jm (pc + 3) ls (.ref (a + 1000) :: r) σ
    | 15 => jm (pc + 3) ls (.int 0 :: r) σ
    | _ => none
  else none
def a_get (c i pc : Nat) (ls st : List Value) (σ : pS) : Option pT := match st with
  | .ref a :: r => if c = 16 then a_getT i a pc ls r σ else a_getO c i a pc ls r σ
  | _ => none
def a_putO (ini : Bool) (c ci k a pc : Nat) (v : Value) (ls r : List Value) (σ : pS) : Option pT :=
  if kd a = (ci, 0) ∧ ((ft ci k).2 = false ∨ ini = true ∧ c = ci) then match (ft ci k).1, v with
    | 0, .int x => jm (pc + 3) ls r (sI σ a k x)
    | 1, .int x => if x = 0 ∨ x = 1 then jm (pc + 3) ls r (sI σ a k x) else none
    | 2, .long x => jm (pc + 3) ls r (sJ σ a k x)
    | 3, .ref q => jm (pc + 3) ls r (sR σ a k (some q))
    | _, _ => none
  else none
def a_put (ini : Bool) (c i pc : Nat) (ls st : List Value) (σ : pS) : Option pT := match st with
  | v :: .ref a :: r => match plF c i with
    | some (ci, k, _) => a_putO ini c ci k a pc v ls r σ
    | none => none
  | _ => none
def a_iald (pc : Nat) (ls st : List Value) (σ : pS) : Option pT := match st with
  | .int i :: .ref a :: r => match kd a with
    | (100, n) => if i < 0 ∨ n ≤ i.toNatClampNeg then none else jm (pc + 1) ls (.int (gI σ a i.toNatClampNeg) :: r) σ
    | (104, _) => if i < 0 ∨ (psc σ).1 ≤ i.toNatClampNeg then none else jm (pc + 1) ls (.int ((psc σ).2 i.toNatClampNeg) :: r) σ
    | _ => none
  | _ => none
def a_iast (pc : Nat) (ls st : List Value) (σ : pS) : Option pT := match st with
  | .int x :: .int i :: .ref a :: r => match kd a with
    | (100, n) => if i < 0 ∨ n ≤ i.toNatClampNeg then none else jm (pc + 1) ls r (sI σ a i.toNatClampNeg x)
    | _ => none
  | _ => none
def a_lald (pc : Nat) (ls st : List Value) (σ : pS) : Option pT := match st with
  | .int i :: .ref a :: r => match kd a with
    | (101, n) => if i < 0 ∨ n ≤ i.toNatClampNeg then none else jm (pc + 1) ls (.long (gJ σ a i.toNatClampNeg) :: r) σ
    | _ => none
  | _ => none
def a_last (pc : Nat) (ls st : List Value) (σ : pS) : Option pT := match st with
  | .long x :: .int i :: .ref a :: r => match kd a with
    | (101, n) => if i < 0 ∨ n ≤ i.toNatClampNeg then none else jm (pc + 1) ls r (sJ σ a i.toNatClampNeg x)
    | _ => none
  | _ => none
def a_aald (pc : Nat) (ls st : List Value) (σ : pS) : Option pT := match st with
  | .int i :: .ref a :: r => match kd a with
    | (102, n) => if i < 0 ∨ n ≤ i.toNatClampNeg then none else jm (pc + 1) ls (va_rf (gR σ a i.toNatClampNeg) :: r) σ
    | _ => none
  | _ => none
def a_aast (pc : Nat) (ls st : List Value) (σ : pS) : Option pT := match st with
  | .ref q :: .int i :: .ref a :: r => match kd a with
    | (102, n) => if i < 0 ∨ n ≤ i.toNatClampNeg ∨ ¬ ((kd q).1 = 200 ∧ (kd q).2 < 26) then none else jm (pc + 1) ls r (sR σ a i.toNatClampNeg (some q))
    | _ => none
  | _ => none
def a_bald (pc : Nat) (ls st : List Value) (σ : pS) : Option pT := match st with
  | .int i :: .ref a :: r => match kd a with
    | (203, t) => if t < 26 then if i < 0 ∨ slen t ≤ i.toNatClampNeg then none else jm (pc + 1) ls (.int (sby t i.toNatClampNeg) :: r) σ else none
    | _ => none
  | _ => none
def a_alen (pc : Nat) (ls st : List Value) (σ : pS) : Option pT := match st with
  | .ref a :: r => match kd a with
    | (100, n) => jm (pc + 1) ls (.int (Int32.ofNat n) :: r) σ
    | (101, n) => jm (pc + 1) ls (.int (Int32.ofNat n) :: r) σ
    | (102, n) => jm (pc + 1) ls (.int (Int32.ofNat n) :: r) σ
    | (203, t) => if t < 26 then jm (pc + 1) ls (.int (Int32.ofNat (slen t)) :: r) σ else none
    | (104, _) => jm (pc + 1) ls (.int (Int32.ofNat (psc σ).1) :: r) σ
    | _ => none
  | _ => none
def a_newa (kc dl pc : Nat) (ls st : List Value) (σ : pS) : Option pT := match st with
  | .int n :: r => if n < 0 ∨ 1000000 < n.toNatClampNeg ∨ ¬ pn σ < 1000 ∨ ¬ kd (pn σ) = (kc, n.toNatClampNeg) then none else jm (pc + dl) ls (.ref (pn σ) :: r) (sN σ n.toNatClampNeg)
  | _ => none
/-- at most eight words lie below a call's arguments -/
def okRb (l : List Value) : Bool := Nat.ble (l.map fun v => v.category).sum 8
def icx (x : Nat) : Nat := if x = 100 then 94 else 170
/-- 'throw new E(text)' as it is written: new, dup, ldc, <init>, athrow -/
noncomputable def a_thr (b x pc : Nat) (st : List Value) (σ : pS) : Option pT :=
  match cd b (pc + 3), cd b (pc + 4) with
  | some (.dup, 1), some (.ldc i, 2) => match plC (po b) i, cd b (pc + 6), cd b (pc + 9) with
    | some (2, _, _), some (.invokespecial ic, 3), some (.athrow, 1) => if po b = 0 ∧ ic = icx x ∧ okRb st = true then some (.inr (.inl (x - 98, .null, sX σ))) else none
    | _, _, _ => none
  | some (.dup, 1), some (.ldc_w i, 3) => match plC (po b) i, cd b (pc + 7), cd b (pc + 10) with
    | some (2, _, _), some (.invokespecial ic, 3), some (.athrow, 1) => if po b = 0 ∧ ic = icx x ∧ okRb st = true then some (.inr (.inl (x - 98, .null, sX σ))) else none
    | _, _, _ => none
  | _, _ => none
noncomputable def a_new (b i pc : Nat) (ls st : List Value) (σ : pS) : Option pT := match plK (po b) i with
  | some (ci, _) => if 100 ≤ ci then a_thr b ci pc st σ else if kd (pn σ) = (ci, 0) ∧ ci < 10 ∧ pn σ < 1000 then jm (pc + 3) ls (.ref (pn σ) :: st) (sN σ (nf ci)) else none
  | none => none
def a_stat (c i pc : Nat) (ls st : List Value) (σ : pS) : Option pT :=
  if c = 16 then match i with
    | 38 => jm (pc + 3) ls (.int 1 :: st) σ
    | 1053 => jm (pc + 3) ls (.retAddr 3 :: st) σ
    | _ => none
  else none
def a_copy (pc : Nat) (ls st : List Value) (σ : pS) : Option pT := match st with
  | .int n :: .int dp :: .ref d :: .int sp :: .ref s :: r => match kd s, kd d with
    | (100, ns), (100, nd) => if sp < 0 ∨ dp < 0 ∨ n < 0 ∨ ns < sp.toNatClampNeg + n.toNatClampNeg ∨ nd < dp.toNatClampNeg + n.toNatClampNeg ∨ ¬ okRb r = true then none else jm (pc + 3) ls r (sA σ d (va_cpy (gI σ s) (gI σ d) sp.toNatClampNeg dp.toNatClampNeg n.toNatClampNeg))
    | _, _ => none
  | _ => none
def imax (x y : Int32) : Int32 := if x < y then y else x
def imin (x y : Int32) : Int32 := if y < x then y else x
def lmax (x y : Int64) : Int64 := if y < x then x else y
/-- the locals with which a method begins -/
def flt (args : List Value) : List Value := args.flatMap (fun v => match v with
  | .long x => [Value.long x, .retAddr 1]
  | v => [v])
def elo (n : Nat) (args : List Value) : List Value := flt args ++ List.replicate (n - (flt args).length) (.retAddr 0)
/-- the receiver of a call is of the callee's class -/
noncomputable def rcv (b : Nat) (a : Nat) : Bool := if po b = 16 then decide ((kd a).1 = 200 ∧ (kd a).2 < 26) else decide (kd a = (po b, 0) ∧ po b < 10)
/-- a call: the callee's locals have room -/
noncomputable def a_inv (b pc : Nat) (av ls st : List Value) (σ : pS) : Option pT := if Nat.ble (flt av).length (mxl b) = true ∧ okRb st = true then some (.inr (.inr (b, av, pc, ls, st, σ))) else none
noncomputable def a_invR (b pc : Nat) (av ls st : List Value) (σ : pS) : Option pT := match av with
  | .ref a :: as => if rcv b a = true then a_inv b pc (.ref a :: as) ls st σ else none
  | _ => none
def a_math (k pc : Nat) (ls st : List Value) (σ : pS) : Option pT := match k, st with
  | 6, .int y :: .int x :: r => if okRb r = true then jm (pc + 3) ls (.int (imax x y) :: r) σ else none
  | 7, .int y :: .int x :: r => if okRb r = true then jm (pc + 3) ls (.int (imin x y) :: r) σ else none
  | 8, .long y :: .long x :: r => if okRb r = true then jm (pc + 3) ls (.long (lmax x y) :: r) σ else none
  | _, _ => none
def a_obj (pc : Nat) (ls st : List Value) (σ : pS) : Option pT := match st with
  | .ref _ :: r => if okRb r = true then jm (pc + 3) ls r σ else none
  | _ => none
/-- op: 0 virtual, 1 static, 2 special -/
noncomputable def a_call (op c i pc : Nat) (ls st : List Value) (σ : pS) : Option pT := match plM c i with
  | some (b, n, k, _) => match op, k with
    | 0, 0 => match tk n st with
      | some q => a_invR b pc q.1.reverse ls q.2 σ
      | none => none
    | 1, 1 => match tk n st with
      | some q => a_inv b pc q.1.reverse ls q.2 σ
      | none => none
    | 1, 9 => match tk n st with
      | some q => a_inv b pc q.1.reverse ls q.2 σ
      | none => none
    | 1, 5 => a_copy pc ls st σ
    | 1, 6 => a_math 6 pc ls st σ
    | 1, 7 => a_math 7 pc ls st σ
    | 1, 8 => a_math 8 pc ls st σ
    | 2, 2 => match tk n st with
      | some q => a_invR b pc q.1.reverse ls q.2 σ
      | none => none
    | 2, 3 => match tk n st with
      | some q => a_invR b pc q.1.reverse ls q.2 σ
      | none => none
    | 2, 4 => a_obj pc ls st σ
    | _, _ => none
  | none => none
noncomputable def a_ret (b : Nat) (st : List Value) (σ : pS) : Option pT := match st, rty b with
  | [.int v], some ty => if narrow ty (.int v) = .int v then some (.inr (.inl (1, .int v, σ))) else none
  | _, _ => none
noncomputable def a_retJ (b : Nat) (st : List Value) (σ : pS) : Option pT := match st, rty b with
  | [.long v], some .long => some (.inr (.inl (1, .long v, σ)))
  | _, _ => none
noncomputable def a_retA (b : Nat) (st : List Value) (σ : pS) : Option pT := match st, rty b with
  | [.ref v], some (.object _) => some (.inr (.inl (1, .ref v, σ)))
  | _, _ => none
noncomputable def a_retV (b : Nat) (st : List Value) (σ : pS) : Option pT := match st, rty b with
  | [], none => some (.inr (.inl (0, .null, σ)))
  | _, _ => none
def a_dup (pc : Nat) (ls st : List Value) (σ : pS) : Option pT := match st with
  | v :: r => if v.category = 1 then jm (pc + 1) ls (v :: v :: r) σ else none
  | _ => none
def a_pop (pc : Nat) (ls st : List Value) (σ : pS) : Option pT := match st with
  | v :: r => if v.category = 1 then jm (pc + 1) ls r σ else none
  | _ => none
def a_dup2 (pc : Nat) (ls st : List Value) (σ : pS) : Option pT := match st with
  | v :: w :: r => if v.category = 1 ∧ w.category = 1 then jm (pc + 1) ls (v :: w :: v :: w :: r) σ else none
  | _ => none
def ln (len n : Nat) (x : Option pT) : Option pT := if len = n then x else none
noncomputable def stpI (b : Nat) (i : Instr) (len pc : Nat) (ls st : List Value) (σ : pS) : Option pT := match i with
  | .iconst n => ln len 1 (jm (pc + 1) ls (.int (Int32.ofInt n) :: st) σ)
  | .bipush n => ln len 2 (jm (pc + 2) ls (.int (Int8.ofInt n).toInt32 :: st) σ)
  | .sipush n => ln len 3 (jm (pc + 3) ls (.int (Int16.ofInt n).toInt32 :: st) σ)
  | .lconst n => ln len 1 (jm (pc + 1) ls (.long (Int64.ofNat (n : Nat)) :: st) σ)
  | .ldc k => ln len 2 (a_ldc (po b) false k 2 pc ls st σ)
  | .ldc_w k => ln len 3 (a_ldc (po b) true k 3 pc ls st σ)
  | .ldc2_w k => ln len 3 (a_ldc2 (po b) k pc ls st σ)
  | .iload n => ln len 2 (a_ldI n 2 pc ls st σ)
  | .iload_n n => ln len 1 (a_ldI n 1 pc ls st σ)
  | .lload n => ln len 2 (a_ldJ n 2 pc ls st σ)
  | .lload_n n => ln len 1 (a_ldJ n 1 pc ls st σ)
  | .aload n => ln len 2 (a_ldA n 2 pc ls st σ)
  | .aload_n n => ln len 1 (a_ldA n 1 pc ls st σ)
  | .istore n => ln len 2 (a_stI n 2 pc ls st σ)
  | .istore_n n => ln len 1 (a_stI n 1 pc ls st σ)
  | .lstore n => ln len 2 (a_stJ n 2 pc ls st σ)
  | .lstore_n n => ln len 1 (a_stJ n 1 pc ls st σ)
  | .astore n => ln len 2 (a_stA n 2 pc ls st σ)
  | .astore_n n => ln len 1 (a_stA n 1 pc ls st σ)
  | .pop => ln len 1 (a_pop pc ls st σ)
  | .dup => ln len 1 (a_dup pc ls st σ)
  | .dup2 => ln len 1 (a_dup2 pc ls st σ)
  | .iadd => ln len 1 (a_bin (fun x y => x + y) pc ls st σ)
  | .isub => ln len 1 (a_bin (fun x y => x - y) pc ls st σ)
  | .imul => ln len 1 (a_bin (fun x y => x * y) pc ls st σ)
  | .iand => ln len 1 (a_bin (fun x y => x &&& y) pc ls st σ)
  | .ior => ln len 1 (a_bin (fun x y => x ||| y) pc ls st σ)
  | .ixor => ln len 1 (a_bin (fun x y => x ^^^ y) pc ls st σ)
  | .ishl => ln len 1 (a_bin shl' pc ls st σ)
  | .ishr => ln len 1 (a_bin shr' pc ls st σ)
  | .iushr => ln len 1 (a_bin ushr pc ls st σ)
  | .idiv => ln len 1 (a_div (fun x y => x / y) pc ls st σ)
  | .irem => ln len 1 (a_div irem' pc ls st σ)
  | .ladd => ln len 1 (a_binJ (fun x y => x + y) pc ls st σ)
  | .lmul => ln len 1 (a_binJ (fun x y => x * y) pc ls st σ)
  | .ldiv => ln len 1 (a_divJ (fun x y => x / y) pc ls st σ)
  | .lrem => ln len 1 (a_divJ lrem' pc ls st σ)
  | .lcmp => ln len 1 (a_lcmp pc ls st σ)
  | .i2l => ln len 1 (a_un (fun x => .long x.toInt64) pc ls st σ)
  | .l2i => ln len 1 (a_l2i pc ls st σ)
  | .i2c => ln len 1 (a_un (fun x => .int (x.toUInt32 % 65536).toInt32) pc ls st σ)
  | .i2b => ln len 1 (a_un (fun x => .int x.toInt8.toInt32) pc ls st σ)
  | .ifCond op off => ln len 3 (a_if op off pc ls st σ)
  | .if_icmp op off => ln len 3 (a_icmp op off pc ls st σ)
  | .goto off => ln len 3 (jo pc off ls st σ)
  | .iinc n k => ln len 3 (a_inc n k pc ls st σ)
  | .tableswitch dflt lo hi offs => ln len len (a_tab dflt lo hi offs pc ls st σ)
  | .lookupswitch dflt ps => ln len len (a_lsw dflt ps pc ls st σ)
  | .getfield k => ln len 3 (a_get (po b) k pc ls st σ)
  | .putfield k => ln len 3 (a_put (isin b) (po b) k pc ls st σ)
  | .getstatic k => ln len 3 (a_stat (po b) k pc ls st σ)
  | .iaload => ln len 1 (a_iald pc ls st σ)
  | .iastore => ln len 1 (a_iast pc ls st σ)
  | .laload => ln len 1 (a_lald pc ls st σ)
  | .lastore => ln len 1 (a_last pc ls st σ)
  | .aaload => ln len 1 (a_aald pc ls st σ)
  | .aastore => ln len 1 (a_aast pc ls st σ)
  | .baload => ln len 1 (a_bald pc ls st σ)
  | .arraylength => ln len 1 (a_alen pc ls st σ)
  | .newarray .int => ln len 2 (a_newa 100 2 pc ls st σ)
  | .newarray .long => ln len 2 (a_newa 101 2 pc ls st σ)
  | .anewarray k => ln len 3 (if po b = 9 ∧ k = 9 then a_newa 102 3 pc ls st σ else none)
  | .new k => ln len 3 (a_new b k pc ls st σ)
  | .invokevirtual k => ln len 3 (a_call 0 (po b) k pc ls st σ)
  | .invokespecial k => ln len 3 (a_call 2 (po b) k pc ls st σ)
  | .invokestatic k => ln len 3 (a_call 1 (po b) k pc ls st σ)
  | .ireturn => ln len 1 (a_ret b st σ)
  | .lreturn => ln len 1 (a_retJ b st σ)
  | .areturn => ln len 1 (a_retA b st σ)
  | .return_ => ln len 1 (a_retV b st σ)
  | _ => ln len len none
noncomputable def stp (b pc : Nat) (ls st : List Value) (σ : pS) : Option pT := match cd b pc with
  | some q => stpI b q.1 q.2 pc ls st σ
  | none => none
/-- the handler that takes the exception k thrown at pc -/
def hfd (c pc k : Nat) : List (Nat × Nat × Nat × Nat) → Option Nat
  | [] => none
  | (s, t, h, ix) :: l => if s ≤ pc ∧ pc < t ∧ (plK c ix).map (fun q => q.1) = some (100 + k) then some h else hfd c pc k l
noncomputable def hnd (b pc k : Nat) : Option Nat := hfd (po b) pc k (hnL.getD b [])
/-- behind a call -/
noncomputable def aft (b pc : Nat) (ls st : List Value) (z : pZ) : Option (pC ⊕ pZ) := match z with
  | (0, _, σ) => some (.inl (pc + 3, ls, st, σ))
  | (1, v, σ) => some (.inl (pc + 3, ls, v :: st, σ))
  | (k + 2, _, σ) => match hnd b pc k with
    | none => some (.inr (k + 2, .null, σ))
    | some h => match cd b h with
      | some (.astore n, 2) => if n < ls.length then some (.inl (h + 2, ls.set n (.retAddr 0), [], σ)) else none
      | some (.astore_n n, 1) => if (n : Nat) < ls.length then some (.inl (h + 1, ls.set n (.retAddr 0), [], σ)) else none
      | _ => none
/-- by fuel -/
noncomputable def ev : Nat → Nat → Nat → Nat → List Value → List Value → pS → Option pZ
  | 0, _, _, _, _, _, _ => none
  | f + 1, b, k, pc, ls, st, σ => match stp b pc ls st σ with
    | none => none
    | some (.inl c) => ev f b k c.1 c.2.1 c.2.2.1 c.2.2.2
    | some (.inr (.inl z)) => some z
    | some (.inr (.inr q)) => if lv q.1 (rk q.1 q.2.1) < lv b k then match ev f q.1 (rk q.1 q.2.1) 0 (elo (mxl q.1) q.2.1) [] q.2.2.2.2.2 with
      | none => none
      | some z => match aft b q.2.2.1 q.2.2.2.1 q.2.2.2.2.1 z with
        | none => none
        | some (.inl c) => ev f b k c.1 c.2.1 c.2.2.1 c.2.2.2
        | some (.inr y) => some y
      else none
theorem ev_mono : ∀ (f : Nat) {b k pc : Nat} {ls st : List Value} {σ : pS} {z : pZ}, ev f b k pc ls st σ = some z → ev (f + 1) b k pc ls st σ = some z := by
  intro f
  induction f with
  | zero => intro b k pc ls st σ z h; simp [ev] at h
  | succ f ih =>
    intro b k pc ls st σ z h
    rw [ev] at h ⊢
    split at h
    · cases h
    · exact ih h
    · exact h
    · split at h
      · rename_i hlt
        rw [if_pos hlt]
        split at h
        · cases h
        · rename_i z' he
          rw [ih he]
          dsimp only
          split at h
          · cases h
          · exact ih h
          · exact h
      · cases h
theorem ev_le {f g : Nat} (hfg : f ≤ g) {b k pc : Nat} {ls st : List Value} {σ : pS} {z : pZ} (h : ev f b k pc ls st σ = some z) : ev g b k pc ls st σ = some z := by
  induction hfg with
  | refl => exact h
  | step _ ih => exact ev_mono _ ih
theorem ev_det {f g : Nat} {b k pc : Nat} {ls st : List Value} {σ : pS} {y z : pZ} (h1 : ev f b k pc ls st σ = some y) (h2 : ev g b k pc ls st σ = some z) : y = z := by
  have a := ev_le (Nat.le_max_left f g) h1
  have b := ev_le (Nat.le_max_right f g) h2
  exact Option.some.inj (a.symm.trans b)
/-- what a method's run from there comes to -/
noncomputable def den (b k pc : Nat) (ls st : List Value) (σ : pS) : Option pZ :=
  @dite (Option pZ) (∃ z f, ev f b k pc ls st σ = some z) (Classical.propDecidable _) (fun h => some (Classical.choose h)) (fun _ => none)
theorem den_iff {b k pc : Nat} {ls st : List Value} {σ : pS} {z : pZ} : den b k pc ls st σ = some z ↔ ∃ f, ev f b k pc ls st σ = some z := by
  unfold den
  constructor
  · intro h
    split at h
    · rename_i hh
      obtain ⟨f, hf⟩ := Classical.choose_spec hh
      exact ⟨f, by rw [hf]; exact h⟩
    · cases h
  · rintro ⟨f, hf⟩
    have hh : ∃ z f, ev f b k pc ls st σ = some z := ⟨z, f, hf⟩
    rw [dif_pos hh]
    obtain ⟨g, hg⟩ := Classical.choose_spec hh
    rw [ev_det hg hf]
noncomputable def pcall (b : Nat) (args : List Value) (σ : pS) : Option pZ := den b (rk b args) 0 (elo (mxl b) args) [] σ
/-- going on behind a step -/
noncomputable def nxt (b k : Nat) : Option pT → Option pZ
  | none => none
  | some (.inl c) => den b k c.1 c.2.1 c.2.2.1 c.2.2.2
  | some (.inr (.inl z)) => some z
  | some (.inr (.inr q)) => if lv q.1 (rk q.1 q.2.1) < lv b k then match pcall q.1 q.2.1 q.2.2.2.2.2 with
    | none => none
    | some z => match aft b q.2.2.1 q.2.2.2.1 q.2.2.2.2.1 z with
      | none => none
      | some (.inl c) => den b k c.1 c.2.1 c.2.2.1 c.2.2.2
      | some (.inr y) => some y
    else none
theorem den_eq (b k pc : Nat) (ls st : List Value) (σ : pS) : den b k pc ls st σ = nxt b k (stp b pc ls st σ) := by
  apply Option.ext
  intro z
  rw [den_iff]
  constructor
  · rintro ⟨f, hf⟩
    cases f with
    | zero => simp [ev] at hf
    | succ f =>
      rw [ev] at hf
      split at hf
      · cases hf
      · rename_i c hs
        rw [hs]
        exact den_iff.mpr ⟨f, hf⟩
      · rename_i y hs
        rw [hs]
        exact hf
      · rename_i q hs
        rw [hs]
        simp only [nxt]
        split at hf
        · rename_i hlt
          rw [if_pos hlt]
          split at hf
          · cases hf
          · rename_i y he
            have hc : pcall q.1 q.2.1 q.2.2.2.2.2 = some y := den_iff.mpr ⟨f, he⟩
            rw [hc]
            dsimp only
            split at hf
            · cases hf
            · rename_i c ha
              exact den_iff.mpr ⟨f, hf⟩
            · rename_i w ha
              exact hf
        · cases hf
  · intro h
    cases hs : stp b pc ls st σ with
    | none => rw [hs] at h; cases h
    | some t =>
      rw [hs] at h
      match t, hs, h with
      | .inl c, hs, h =>
        obtain ⟨f, hf⟩ := den_iff.mp h
        exact ⟨f + 1, by rw [ev, hs]; exact hf⟩
      | .inr (.inl y), hs, h => exact ⟨1, by rw [ev, hs]; exact h⟩
      | .inr (.inr q), hs, h =>
        simp only [nxt] at h
        split at h
        · rename_i hlt
          split at h
          · cases h
          · rename_i y hc
            obtain ⟨f, hf⟩ := den_iff.mp hc
            split at h
            · cases h
            · rename_i c ha
              obtain ⟨g, hg⟩ := den_iff.mp h
              refine ⟨max f g + 1, ?_⟩
              rw [ev, hs]
              dsimp only
              rw [if_pos hlt, ev_le (Nat.le_max_left f g) hf]
              dsimp only
              rw [ha]
              exact ev_le (Nat.le_max_right f g) hg
            · rename_i w ha
              refine ⟨f + 1, ?_⟩
              rw [ev, hs]
              dsimp only
              rw [if_pos hlt, hf]
              dsimp only
              rw [ha]
              exact h
        · cases h
