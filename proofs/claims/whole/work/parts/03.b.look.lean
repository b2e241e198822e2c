/-! ===== the program as a pure machine: cells are numbered as they are made; a store holds what is in them ===== -/
/-- how many cells; new cells and slots in all; ints, longs, references by cell and place; the script -/
abbrev pS : Type := Nat × Nat × Nat × (Nat → Nat → Int32) × (Nat → Nat → Int64) × (Nat → Nat → Option Nat) × (Nat × (Nat → Int32))
def pn (σ : pS) : Nat := σ.1
def pcl (σ : pS) : Nat := σ.2.1
def psl (σ : pS) : Nat := σ.2.2.1
def gI (σ : pS) (a i : Nat) : Int32 := σ.2.2.2.1 a i
def gJ (σ : pS) (a i : Nat) : Int64 := σ.2.2.2.2.1 a i
def gR (σ : pS) (a i : Nat) : Option Nat := σ.2.2.2.2.2.1 a i
def psc (σ : pS) : Nat × (Nat → Int32) := σ.2.2.2.2.2.2
def sI (σ : pS) (a i : Nat) (x : Int32) : pS := (pn σ, pcl σ, psl σ, (fun b j => if b = a then if j = i then x else gI σ b j else gI σ b j), gJ σ, gR σ, psc σ)
def sJ (σ : pS) (a i : Nat) (x : Int64) : pS := (pn σ, pcl σ, psl σ, gI σ, (fun b j => if b = a then if j = i then x else gJ σ b j else gJ σ b j), gR σ, psc σ)
def sR (σ : pS) (a i : Nat) (x : Option Nat) : pS := (pn σ, pcl σ, psl σ, gI σ, gJ σ, (fun b j => if b = a then if j = i then x else gR σ b j else gR σ b j), psc σ)
/-- a whole row of ints -/
def sA (σ : pS) (a : Nat) (f : Nat → Int32) : pS := (pn σ, pcl σ, psl σ, (fun b j => if b = a then f j else gI σ b j), gJ σ, gR σ, psc σ)
/-- a cell of m slots is made -/
def sN (σ : pS) (m : Nat) : pS := (pn σ + 1, pcl σ + 1, psl σ + m, (fun b j => if b = pn σ then 0 else gI σ b j), (fun b j => if b = pn σ then 0 else gJ σ b j), (fun b j => if b = pn σ then none else gR σ b j), psc σ)
/-- an exception is made -/
def sX (σ : pS) : pS := (pn σ, pcl σ + 1, psl σ + 6, gI σ, gJ σ, gR σ, psc σ)
def asc {α : Type} : List (Nat × α) → Nat → Option α
  | [], _ => none
  | (k, v) :: l, n => bif Nat.beq k n then some v else asc l n
noncomputable def cd (b pc : Nat) : Option (Instr × Nat) := asc (cdL.getD b []) pc
noncomputable def mt (b : Nat) : Nat × MethodName × ByteArray × Nat × Option FieldType := mtL.getD b mt_0
noncomputable def po (b : Nat) : Nat := (mt b).1
noncomputable def mxl (b : Nat) : Nat := (mt b).2.2.2.1
noncomputable def rty (b : Nat) : Option FieldType := (mt b).2.2.2.2
def own (c : Nat) : String := ownL.getD c ""
/-- what a cell is: a class's object (ci, 0), ints (100, n), longs (101, n), texts (102, n), a text (200, i), its bytes (203, i), the script (104, 0) -/
def kd (a : Nat) : Nat × Nat := bif Nat.beq a 3000 then (104, 0) else bif Nat.ble 2000 a then (203, a - 2000) else bif Nat.ble 1000 a then (200, a - 1000) else kdL.getD a (999, 0)
def lv (b k : Nat) : Nat := match lvL.getD b (0, 0) with
  | (x, 0) => x
  | (x, g) => x + 8 * (7 - k) + g
/-- the level's index of a call: the last argument, where the method is of a recursive group -/
def rk (b : Nat) (args : List Value) : Nat := match lvL.getD b (0, 0) with
  | (_, 0) => 0
  | (_, _) => match args with
    | [_, .int x] => x.toNatClampNeg
    | _ => 0
def plF (c i : Nat) : Option (Nat × Nat × Nat) := asc (plFL.getD c []) i
def plM (c i : Nat) : Option (Nat × Nat × Nat × Nat) := asc (plML.getD c []) i
def plC (c i : Nat) : Option (Nat × Int × Nat) := asc (plCL.getD c []) i
def plK (c i : Nat) : Option (Nat × Nat) := asc (plKL.getD c []) i
def ft (c k : Nat) : Nat × Bool := (ftL.getD c []).getD k (0, false)
def nf (c : Nat) : Nat := (ftL.getD c []).length
def slen (i : Nat) : Nat := (stbL.getD i []).length
def sby (i j : Nat) : Int32 := (stbL.getD i []).getD j 0
noncomputable def isin (b : Nat) : Bool := decide ((mt b).2.1.name = "<init>")
