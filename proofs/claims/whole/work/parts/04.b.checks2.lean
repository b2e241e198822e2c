/-! ===== methods and their code, decided ===== -/
noncomputable def yM (b : Nat) : MethodName := (mt b).2.1
noncomputable def byt (b : Nat) : ByteArray := (mt b).2.2.1
def hns (b : Nat) : List (Nat × Nat × Nat × Nat) := hnL.getD b []
noncomputable def cwd (b : Nat) : Cond := match hns b with
  | [] => .code (yM b) (byt b) (mxl b) (rty b)
  | hh => .codeWith (yM b) (byt b) (mxl b) (rty b) hh
def wd (b : Nat) : Nat × Nat × Nat × Nat := wdL.getD b (0, 0, 0, 0)
/-- static -/
def ist (b : Nat) : Bool := Nat.beq (wd b).2.1 1
def ini (b : Nat) : Bool := iniB.getD b false
def npa (b : Nat) : Nat := npaL.getD b 0
noncomputable def imw (b : Nat) : Cond := bif ist b then .static (yM b) else .instanceMethod (yM b)
noncomputable def sew (b : Nat) : Cond := .selects (yM b).cls (yM b) (yM b)
/-- virtual methods -/
def virs (a n : Nat) : List Nat := (List.range' a n).filter (fun b => !(ist b) && !(ini b))
set_option maxRecDepth 100000 in
theorem rcw_0 : (List.range' 0 30).map (fun b => tq (wd b).1) = (List.range' 0 30).map (fun b => some (cwd b)) := rfl
set_option maxRecDepth 100000 in
theorem rcw_1 : (List.range' 30 30).map (fun b => tq (wd b).1) = (List.range' 30 30).map (fun b => some (cwd b)) := rfl
set_option maxRecDepth 100000 in
theorem rcw_2 : (List.range' 60 30).map (fun b => tq (wd b).1) = (List.range' 60 30).map (fun b => some (cwd b)) := rfl
set_option maxRecDepth 100000 in
theorem rcw_3 : (List.range' 90 30).map (fun b => tq (wd b).1) = (List.range' 90 30).map (fun b => some (cwd b)) := rfl
set_option maxRecDepth 100000 in
theorem rcw_4 : (List.range' 120 30).map (fun b => tq (wd b).1) = (List.range' 120 30).map (fun b => some (cwd b)) := rfl
set_option maxRecDepth 100000 in
theorem rcw_5 : (List.range' 150 30).map (fun b => tq (wd b).1) = (List.range' 150 30).map (fun b => some (cwd b)) := rfl
set_option maxRecDepth 100000 in
theorem rcw_6 : (List.range' 180 30).map (fun b => tq (wd b).1) = (List.range' 180 30).map (fun b => some (cwd b)) := rfl
set_option maxRecDepth 100000 in
theorem rcw_7 : (List.range' 210 30).map (fun b => tq (wd b).1) = (List.range' 210 30).map (fun b => some (cwd b)) := rfl
set_option maxRecDepth 100000 in
theorem rcw_8 : (List.range' 240 30).map (fun b => tq (wd b).1) = (List.range' 240 30).map (fun b => some (cwd b)) := rfl
set_option maxRecDepth 100000 in
theorem rcw_9 : (List.range' 270 30).map (fun b => tq (wd b).1) = (List.range' 270 30).map (fun b => some (cwd b)) := rfl
set_option maxRecDepth 100000 in
theorem rcw_10 : (List.range' 300 30).map (fun b => tq (wd b).1) = (List.range' 300 30).map (fun b => some (cwd b)) := rfl
set_option maxRecDepth 100000 in
theorem rcw_11 : (List.range' 330 23).map (fun b => tq (wd b).1) = (List.range' 330 23).map (fun b => some (cwd b)) := rfl
set_option maxRecDepth 100000 in
theorem rim_0 : (List.range' 0 30).map (fun b => tq (wd b).2.2.1) = (List.range' 0 30).map (fun b => some (imw b)) := rfl
set_option maxRecDepth 100000 in
theorem rim_1 : (List.range' 30 30).map (fun b => tq (wd b).2.2.1) = (List.range' 30 30).map (fun b => some (imw b)) := rfl
set_option maxRecDepth 100000 in
theorem rim_2 : (List.range' 60 30).map (fun b => tq (wd b).2.2.1) = (List.range' 60 30).map (fun b => some (imw b)) := rfl
set_option maxRecDepth 100000 in
theorem rim_3 : (List.range' 90 30).map (fun b => tq (wd b).2.2.1) = (List.range' 90 30).map (fun b => some (imw b)) := rfl
set_option maxRecDepth 100000 in
theorem rim_4 : (List.range' 120 30).map (fun b => tq (wd b).2.2.1) = (List.range' 120 30).map (fun b => some (imw b)) := rfl
set_option maxRecDepth 100000 in
theorem rim_5 : (List.range' 150 30).map (fun b => tq (wd b).2.2.1) = (List.range' 150 30).map (fun b => some (imw b)) := rfl
set_option maxRecDepth 100000 in
theorem rim_6 : (List.range' 180 30).map (fun b => tq (wd b).2.2.1) = (List.range' 180 30).map (fun b => some (imw b)) := rfl
set_option maxRecDepth 100000 in
theorem rim_7 : (List.range' 210 30).map (fun b => tq (wd b).2.2.1) = (List.range' 210 30).map (fun b => some (imw b)) := rfl
set_option maxRecDepth 100000 in
theorem rim_8 : (List.range' 240 30).map (fun b => tq (wd b).2.2.1) = (List.range' 240 30).map (fun b => some (imw b)) := rfl
set_option maxRecDepth 100000 in
theorem rim_9 : (List.range' 270 30).map (fun b => tq (wd b).2.2.1) = (List.range' 270 30).map (fun b => some (imw b)) := rfl
set_option maxRecDepth 100000 in
theorem rim_10 : (List.range' 300 30).map (fun b => tq (wd b).2.2.1) = (List.range' 300 30).map (fun b => some (imw b)) := rfl
set_option maxRecDepth 100000 in
theorem rim_11 : (List.range' 330 23).map (fun b => tq (wd b).2.2.1) = (List.range' 330 23).map (fun b => some (imw b)) := rfl
set_option maxRecDepth 100000 in
theorem rse_0 : (virs 0 30).map (fun b => tq (wd b).2.2.2) = (virs 0 30).map (fun b => some (sew b)) := rfl
set_option maxRecDepth 100000 in
theorem rse_1 : (virs 30 30).map (fun b => tq (wd b).2.2.2) = (virs 30 30).map (fun b => some (sew b)) := rfl
set_option maxRecDepth 100000 in
theorem rse_2 : (virs 60 30).map (fun b => tq (wd b).2.2.2) = (virs 60 30).map (fun b => some (sew b)) := rfl
set_option maxRecDepth 100000 in
theorem rse_3 : (virs 90 30).map (fun b => tq (wd b).2.2.2) = (virs 90 30).map (fun b => some (sew b)) := rfl
set_option maxRecDepth 100000 in
theorem rse_4 : (virs 120 30).map (fun b => tq (wd b).2.2.2) = (virs 120 30).map (fun b => some (sew b)) := rfl
set_option maxRecDepth 100000 in
theorem rse_5 : (virs 150 30).map (fun b => tq (wd b).2.2.2) = (virs 150 30).map (fun b => some (sew b)) := rfl
set_option maxRecDepth 100000 in
theorem rse_6 : (virs 180 30).map (fun b => tq (wd b).2.2.2) = (virs 180 30).map (fun b => some (sew b)) := rfl
set_option maxRecDepth 100000 in
theorem rse_7 : (virs 210 30).map (fun b => tq (wd b).2.2.2) = (virs 210 30).map (fun b => some (sew b)) := rfl
set_option maxRecDepth 100000 in
theorem rse_8 : (virs 240 30).map (fun b => tq (wd b).2.2.2) = (virs 240 30).map (fun b => some (sew b)) := rfl
set_option maxRecDepth 100000 in
theorem rse_9 : (virs 270 30).map (fun b => tq (wd b).2.2.2) = (virs 270 30).map (fun b => some (sew b)) := rfl
set_option maxRecDepth 100000 in
theorem rse_10 : (virs 300 30).map (fun b => tq (wd b).2.2.2) = (virs 300 30).map (fun b => some (sew b)) := rfl
set_option maxRecDepth 100000 in
theorem rse_11 : (virs 330 23).map (fun b => tq (wd b).2.2.2) = (virs 330 23).map (fun b => some (sew b)) := rfl
set_option maxRecDepth 100000 in
theorem rcl_0 : (List.range' 0 30).map (fun b => (yM b).cls) = (List.range' 0 30).map (fun b => own (po b)) := rfl
set_option maxRecDepth 100000 in
theorem rcl_1 : (List.range' 30 30).map (fun b => (yM b).cls) = (List.range' 30 30).map (fun b => own (po b)) := rfl
set_option maxRecDepth 100000 in
theorem rcl_2 : (List.range' 60 30).map (fun b => (yM b).cls) = (List.range' 60 30).map (fun b => own (po b)) := rfl
set_option maxRecDepth 100000 in
theorem rcl_3 : (List.range' 90 30).map (fun b => (yM b).cls) = (List.range' 90 30).map (fun b => own (po b)) := rfl
set_option maxRecDepth 100000 in
theorem rcl_4 : (List.range' 120 30).map (fun b => (yM b).cls) = (List.range' 120 30).map (fun b => own (po b)) := rfl
set_option maxRecDepth 100000 in
theorem rcl_5 : (List.range' 150 30).map (fun b => (yM b).cls) = (List.range' 150 30).map (fun b => own (po b)) := rfl
set_option maxRecDepth 100000 in
theorem rcl_6 : (List.range' 180 30).map (fun b => (yM b).cls) = (List.range' 180 30).map (fun b => own (po b)) := rfl
set_option maxRecDepth 100000 in
theorem rcl_7 : (List.range' 210 30).map (fun b => (yM b).cls) = (List.range' 210 30).map (fun b => own (po b)) := rfl
set_option maxRecDepth 100000 in
theorem rcl_8 : (List.range' 240 30).map (fun b => (yM b).cls) = (List.range' 240 30).map (fun b => own (po b)) := rfl
set_option maxRecDepth 100000 in
theorem rcl_9 : (List.range' 270 30).map (fun b => (yM b).cls) = (List.range' 270 30).map (fun b => own (po b)) := rfl
set_option maxRecDepth 100000 in
theorem rcl_10 : (List.range' 300 30).map (fun b => (yM b).cls) = (List.range' 300 30).map (fun b => own (po b)) := rfl
set_option maxRecDepth 100000 in
theorem rcl_11 : (List.range' 330 23).map (fun b => (yM b).cls) = (List.range' 330 23).map (fun b => own (po b)) := rfl
theorem m_code {b : Nat} (h : b < 353) : tq (wd b).1 = some (cwd b) := by
  rcases (by omega : 0 ≤ b ∧ b < 30 ∨ 30 ≤ b ∧ b < 60 ∨ 60 ≤ b ∧ b < 90 ∨ 90 ≤ b ∧ b < 120 ∨ 120 ≤ b ∧ b < 150 ∨ 150 ≤ b ∧ b < 180 ∨ 180 ≤ b ∧ b < 210 ∨ 210 ≤ b ∧ b < 240 ∨ 240 ≤ b ∧ b < 270 ∨ 270 ≤ b ∧ b < 300 ∨ 300 ≤ b ∧ b < 330 ∨ 330 ≤ b ∧ b < 353) with q | q | q | q | q | q | q | q | q | q | q | q
  · exact tq_all rcw_0 b (List.mem_range'_1.mpr ⟨q.1, by omega⟩)
  · exact tq_all rcw_1 b (List.mem_range'_1.mpr ⟨q.1, by omega⟩)
  · exact tq_all rcw_2 b (List.mem_range'_1.mpr ⟨q.1, by omega⟩)
  · exact tq_all rcw_3 b (List.mem_range'_1.mpr ⟨q.1, by omega⟩)
  · exact tq_all rcw_4 b (List.mem_range'_1.mpr ⟨q.1, by omega⟩)
  · exact tq_all rcw_5 b (List.mem_range'_1.mpr ⟨q.1, by omega⟩)
  · exact tq_all rcw_6 b (List.mem_range'_1.mpr ⟨q.1, by omega⟩)
  · exact tq_all rcw_7 b (List.mem_range'_1.mpr ⟨q.1, by omega⟩)
  · exact tq_all rcw_8 b (List.mem_range'_1.mpr ⟨q.1, by omega⟩)
  · exact tq_all rcw_9 b (List.mem_range'_1.mpr ⟨q.1, by omega⟩)
  · exact tq_all rcw_10 b (List.mem_range'_1.mpr ⟨q.1, by omega⟩)
  · exact tq_all rcw_11 b (List.mem_range'_1.mpr ⟨q.1, by omega⟩)
theorem m_im {b : Nat} (h : b < 353) : tq (wd b).2.2.1 = some (imw b) := by
  rcases (by omega : 0 ≤ b ∧ b < 30 ∨ 30 ≤ b ∧ b < 60 ∨ 60 ≤ b ∧ b < 90 ∨ 90 ≤ b ∧ b < 120 ∨ 120 ≤ b ∧ b < 150 ∨ 150 ≤ b ∧ b < 180 ∨ 180 ≤ b ∧ b < 210 ∨ 210 ≤ b ∧ b < 240 ∨ 240 ≤ b ∧ b < 270 ∨ 270 ≤ b ∧ b < 300 ∨ 300 ≤ b ∧ b < 330 ∨ 330 ≤ b ∧ b < 353) with q | q | q | q | q | q | q | q | q | q | q | q
  · exact tq_all rim_0 b (List.mem_range'_1.mpr ⟨q.1, by omega⟩)
  · exact tq_all rim_1 b (List.mem_range'_1.mpr ⟨q.1, by omega⟩)
  · exact tq_all rim_2 b (List.mem_range'_1.mpr ⟨q.1, by omega⟩)
  · exact tq_all rim_3 b (List.mem_range'_1.mpr ⟨q.1, by omega⟩)
  · exact tq_all rim_4 b (List.mem_range'_1.mpr ⟨q.1, by omega⟩)
  · exact tq_all rim_5 b (List.mem_range'_1.mpr ⟨q.1, by omega⟩)
  · exact tq_all rim_6 b (List.mem_range'_1.mpr ⟨q.1, by omega⟩)
  · exact tq_all rim_7 b (List.mem_range'_1.mpr ⟨q.1, by omega⟩)
  · exact tq_all rim_8 b (List.mem_range'_1.mpr ⟨q.1, by omega⟩)
  · exact tq_all rim_9 b (List.mem_range'_1.mpr ⟨q.1, by omega⟩)
  · exact tq_all rim_10 b (List.mem_range'_1.mpr ⟨q.1, by omega⟩)
  · exact tq_all rim_11 b (List.mem_range'_1.mpr ⟨q.1, by omega⟩)
theorem m_sel {b : Nat} (h : b < 353) (h1 : ist b = false) (h2 : ini b = false) : tq (wd b).2.2.2 = some (sew b) := by
  rcases (by omega : 0 ≤ b ∧ b < 30 ∨ 30 ≤ b ∧ b < 60 ∨ 60 ≤ b ∧ b < 90 ∨ 90 ≤ b ∧ b < 120 ∨ 120 ≤ b ∧ b < 150 ∨ 150 ≤ b ∧ b < 180 ∨ 180 ≤ b ∧ b < 210 ∨ 210 ≤ b ∧ b < 240 ∨ 240 ≤ b ∧ b < 270 ∨ 270 ≤ b ∧ b < 300 ∨ 300 ≤ b ∧ b < 330 ∨ 330 ≤ b ∧ b < 353) with q | q | q | q | q | q | q | q | q | q | q | q
  · exact tq_all rse_0 b (List.mem_filter.mpr ⟨List.mem_range'_1.mpr ⟨q.1, by omega⟩, by simp [h1, h2]⟩)
  · exact tq_all rse_1 b (List.mem_filter.mpr ⟨List.mem_range'_1.mpr ⟨q.1, by omega⟩, by simp [h1, h2]⟩)
  · exact tq_all rse_2 b (List.mem_filter.mpr ⟨List.mem_range'_1.mpr ⟨q.1, by omega⟩, by simp [h1, h2]⟩)
  · exact tq_all rse_3 b (List.mem_filter.mpr ⟨List.mem_range'_1.mpr ⟨q.1, by omega⟩, by simp [h1, h2]⟩)
  · exact tq_all rse_4 b (List.mem_filter.mpr ⟨List.mem_range'_1.mpr ⟨q.1, by omega⟩, by simp [h1, h2]⟩)
  · exact tq_all rse_5 b (List.mem_filter.mpr ⟨List.mem_range'_1.mpr ⟨q.1, by omega⟩, by simp [h1, h2]⟩)
  · exact tq_all rse_6 b (List.mem_filter.mpr ⟨List.mem_range'_1.mpr ⟨q.1, by omega⟩, by simp [h1, h2]⟩)
  · exact tq_all rse_7 b (List.mem_filter.mpr ⟨List.mem_range'_1.mpr ⟨q.1, by omega⟩, by simp [h1, h2]⟩)
  · exact tq_all rse_8 b (List.mem_filter.mpr ⟨List.mem_range'_1.mpr ⟨q.1, by omega⟩, by simp [h1, h2]⟩)
  · exact tq_all rse_9 b (List.mem_filter.mpr ⟨List.mem_range'_1.mpr ⟨q.1, by omega⟩, by simp [h1, h2]⟩)
  · exact tq_all rse_10 b (List.mem_filter.mpr ⟨List.mem_range'_1.mpr ⟨q.1, by omega⟩, by simp [h1, h2]⟩)
  · exact tq_all rse_11 b (List.mem_filter.mpr ⟨List.mem_range'_1.mpr ⟨q.1, by omega⟩, by simp [h1, h2]⟩)
theorem m_cls {b : Nat} (h : b < 353) : (yM b).cls = own (po b) := by
  rcases (by omega : 0 ≤ b ∧ b < 30 ∨ 30 ≤ b ∧ b < 60 ∨ 60 ≤ b ∧ b < 90 ∨ 90 ≤ b ∧ b < 120 ∨ 120 ≤ b ∧ b < 150 ∨ 150 ≤ b ∧ b < 180 ∨ 180 ≤ b ∧ b < 210 ∨ 210 ≤ b ∧ b < 240 ∨ 240 ≤ b ∧ b < 270 ∨ 270 ≤ b ∧ b < 300 ∨ 300 ≤ b ∧ b < 330 ∨ 330 ≤ b ∧ b < 353) with q | q | q | q | q | q | q | q | q | q | q | q
  · exact (List.map_inj_left.mp rcl_0) b (List.mem_range'_1.mpr ⟨q.1, by omega⟩)
  · exact (List.map_inj_left.mp rcl_1) b (List.mem_range'_1.mpr ⟨q.1, by omega⟩)
  · exact (List.map_inj_left.mp rcl_2) b (List.mem_range'_1.mpr ⟨q.1, by omega⟩)
  · exact (List.map_inj_left.mp rcl_3) b (List.mem_range'_1.mpr ⟨q.1, by omega⟩)
  · exact (List.map_inj_left.mp rcl_4) b (List.mem_range'_1.mpr ⟨q.1, by omega⟩)
  · exact (List.map_inj_left.mp rcl_5) b (List.mem_range'_1.mpr ⟨q.1, by omega⟩)
  · exact (List.map_inj_left.mp rcl_6) b (List.mem_range'_1.mpr ⟨q.1, by omega⟩)
  · exact (List.map_inj_left.mp rcl_7) b (List.mem_range'_1.mpr ⟨q.1, by omega⟩)
  · exact (List.map_inj_left.mp rcl_8) b (List.mem_range'_1.mpr ⟨q.1, by omega⟩)
  · exact (List.map_inj_left.mp rcl_9) b (List.mem_range'_1.mpr ⟨q.1, by omega⟩)
  · exact (List.map_inj_left.mp rcl_10) b (List.mem_range'_1.mpr ⟨q.1, by omega⟩)
  · exact (List.map_inj_left.mp rcl_11) b (List.mem_range'_1.mpr ⟨q.1, by omega⟩)
set_option maxRecDepth 100000 in
theorem own_plain : (List.range 19).all (fun c => Nat.beq c 14 || plainName (own c) && decide (own c ≠ "java/lang/invoke/MethodHandle") && decide (own c ≠ "java/lang/invoke/VarHandle")) = true := by decide +kernel
noncomputable def okN (b : Nat) : Bool := decide (po b < 19) && !(Nat.beq (po b) 14) && Nat.ble (mxl b) 22 && (match hns b with | [] => true | _ => ist b) && (bif ini b then !(ist b) && (match rty b with | none => true | _ => false) else true)
set_option maxRecDepth 100000 in
theorem okN_all : (List.range 354).all okN = true := by decide +kernel
noncomputable def okP (b : Nat) : Bool := decide ((parseMethodDescriptor (yM b).desc).map (fun d => d.parameters.length) = some (npa b))
noncomputable def okS (b : Nat) : Bool := decide (decide ((yM b).name = "<init>") = ini b)
set_option maxRecDepth 100000 in
theorem okP_0 : (List.range' 0 60).all okP = true := by decide +kernel
set_option maxRecDepth 100000 in
theorem okS_0 : (List.range' 0 60).all okS = true := by decide +kernel
set_option maxRecDepth 100000 in
theorem okP_1 : (List.range' 60 60).all okP = true := by decide +kernel
set_option maxRecDepth 100000 in
theorem okS_1 : (List.range' 60 60).all okS = true := by decide +kernel
set_option maxRecDepth 100000 in
theorem okP_2 : (List.range' 120 60).all okP = true := by decide +kernel
set_option maxRecDepth 100000 in
theorem okS_2 : (List.range' 120 60).all okS = true := by decide +kernel
set_option maxRecDepth 100000 in
theorem okP_3 : (List.range' 180 60).all okP = true := by decide +kernel
set_option maxRecDepth 100000 in
theorem okS_3 : (List.range' 180 60).all okS = true := by decide +kernel
set_option maxRecDepth 100000 in
theorem okP_4 : (List.range' 240 60).all okP = true := by decide +kernel
set_option maxRecDepth 100000 in
theorem okS_4 : (List.range' 240 60).all okS = true := by decide +kernel
set_option maxRecDepth 100000 in
theorem okP_5 : (List.range' 300 53).all okP = true := by decide +kernel
set_option maxRecDepth 100000 in
theorem okS_5 : (List.range' 300 53).all okS = true := by decide +kernel
theorem m_par {b : Nat} (h : b < 353) : (parseMethodDescriptor (yM b).desc).map (fun d => d.parameters.length) = some (npa b) := by
  rcases (by omega : 0 ≤ b ∧ b < 60 ∨ 60 ≤ b ∧ b < 120 ∨ 120 ≤ b ∧ b < 180 ∨ 180 ≤ b ∧ b < 240 ∨ 240 ≤ b ∧ b < 300 ∨ 300 ≤ b ∧ b < 353) with q | q | q | q | q | q
  · exact of_decide_eq_true (List.all_eq_true.mp okP_0 b (List.mem_range'_1.mpr ⟨q.1, by omega⟩))
  · exact of_decide_eq_true (List.all_eq_true.mp okP_1 b (List.mem_range'_1.mpr ⟨q.1, by omega⟩))
  · exact of_decide_eq_true (List.all_eq_true.mp okP_2 b (List.mem_range'_1.mpr ⟨q.1, by omega⟩))
  · exact of_decide_eq_true (List.all_eq_true.mp okP_3 b (List.mem_range'_1.mpr ⟨q.1, by omega⟩))
  · exact of_decide_eq_true (List.all_eq_true.mp okP_4 b (List.mem_range'_1.mpr ⟨q.1, by omega⟩))
  · exact of_decide_eq_true (List.all_eq_true.mp okP_5 b (List.mem_range'_1.mpr ⟨q.1, by omega⟩))
theorem m_ini {b : Nat} (h : b < 353) : decide ((yM b).name = "<init>") = ini b := by
  rcases (by omega : 0 ≤ b ∧ b < 60 ∨ 60 ≤ b ∧ b < 120 ∨ 120 ≤ b ∧ b < 180 ∨ 180 ≤ b ∧ b < 240 ∨ 240 ≤ b ∧ b < 300 ∨ 300 ≤ b ∧ b < 353) with q | q | q | q | q | q
  · exact of_decide_eq_true (List.all_eq_true.mp okS_0 b (List.mem_range'_1.mpr ⟨q.1, by omega⟩))
  · exact of_decide_eq_true (List.all_eq_true.mp okS_1 b (List.mem_range'_1.mpr ⟨q.1, by omega⟩))
  · exact of_decide_eq_true (List.all_eq_true.mp okS_2 b (List.mem_range'_1.mpr ⟨q.1, by omega⟩))
  · exact of_decide_eq_true (List.all_eq_true.mp okS_3 b (List.mem_range'_1.mpr ⟨q.1, by omega⟩))
  · exact of_decide_eq_true (List.all_eq_true.mp okS_4 b (List.mem_range'_1.mpr ⟨q.1, by omega⟩))
  · exact of_decide_eq_true (List.all_eq_true.mp okS_5 b (List.mem_range'_1.mpr ⟨q.1, by omega⟩))
/-- a call's link -/
noncomputable def lkw (c : Nat) (q : Nat × Nat × Nat × Nat × Nat) : Cond := match q.2.2.2.1 with
  | 3 => .methodLinkNest (own c) q.1 (yM q.2.1) "HedgeWants"
  | 9 => .methodLinkNest (own c) q.1 (yM q.2.1) "HedgeWants"
  | 4 => .methodLink (own c) q.1 Lib.objectInit
  | 5 => .methodLink (own c) q.1 arraycopyName
  | 6 => .methodLink (own c) q.1 Lib.Math.max.name
  | 7 => .methodLink (own c) q.1 Lib.Math.min.name
  | 8 => .methodLink (own c) q.1 Lib.MathLoose.max_long.x
  | _ => .methodLink (own c) q.1 (yM q.2.1)
set_option maxRecDepth 100000 in
theorem rlk_0 : (plML.getD 0 []).map (fun q => tq q.2.2.2.2) = (plML.getD 0 []).map (fun q => some (lkw 0 q)) := rfl
set_option maxRecDepth 100000 in
theorem rlk_1 : (plML.getD 1 []).map (fun q => tq q.2.2.2.2) = (plML.getD 1 []).map (fun q => some (lkw 1 q)) := rfl
set_option maxRecDepth 100000 in
theorem rlk_2 : (plML.getD 2 []).map (fun q => tq q.2.2.2.2) = (plML.getD 2 []).map (fun q => some (lkw 2 q)) := rfl
set_option maxRecDepth 100000 in
theorem rlk_3 : (plML.getD 3 []).map (fun q => tq q.2.2.2.2) = (plML.getD 3 []).map (fun q => some (lkw 3 q)) := rfl
set_option maxRecDepth 100000 in
theorem rlk_4 : (plML.getD 4 []).map (fun q => tq q.2.2.2.2) = (plML.getD 4 []).map (fun q => some (lkw 4 q)) := rfl
set_option maxRecDepth 100000 in
theorem rlk_5 : (plML.getD 5 []).map (fun q => tq q.2.2.2.2) = (plML.getD 5 []).map (fun q => some (lkw 5 q)) := rfl
set_option maxRecDepth 100000 in
theorem rlk_6 : (plML.getD 6 []).map (fun q => tq q.2.2.2.2) = (plML.getD 6 []).map (fun q => some (lkw 6 q)) := rfl
set_option maxRecDepth 100000 in
theorem rlk_7 : (plML.getD 7 []).map (fun q => tq q.2.2.2.2) = (plML.getD 7 []).map (fun q => some (lkw 7 q)) := rfl
set_option maxRecDepth 100000 in
theorem rlk_8 : (plML.getD 8 []).map (fun q => tq q.2.2.2.2) = (plML.getD 8 []).map (fun q => some (lkw 8 q)) := rfl
set_option maxRecDepth 100000 in
theorem rlk_9 : (plML.getD 9 []).map (fun q => tq q.2.2.2.2) = (plML.getD 9 []).map (fun q => some (lkw 9 q)) := rfl
set_option maxRecDepth 100000 in
theorem rlk_10 : (plML.getD 10 []).map (fun q => tq q.2.2.2.2) = (plML.getD 10 []).map (fun q => some (lkw 10 q)) := rfl
set_option maxRecDepth 100000 in
theorem rlk_11 : (plML.getD 11 []).map (fun q => tq q.2.2.2.2) = (plML.getD 11 []).map (fun q => some (lkw 11 q)) := rfl
set_option maxRecDepth 100000 in
theorem rlk_12 : (plML.getD 12 []).map (fun q => tq q.2.2.2.2) = (plML.getD 12 []).map (fun q => some (lkw 12 q)) := rfl
set_option maxRecDepth 100000 in
theorem rlk_13 : (plML.getD 13 []).map (fun q => tq q.2.2.2.2) = (plML.getD 13 []).map (fun q => some (lkw 13 q)) := rfl
set_option maxRecDepth 100000 in
theorem rlk_14 : (plML.getD 14 []).map (fun q => tq q.2.2.2.2) = (plML.getD 14 []).map (fun q => some (lkw 14 q)) := rfl
set_option maxRecDepth 100000 in
theorem rlk_15 : (plML.getD 15 []).map (fun q => tq q.2.2.2.2) = (plML.getD 15 []).map (fun q => some (lkw 15 q)) := rfl
set_option maxRecDepth 100000 in
theorem rlk_16 : (plML.getD 16 []).map (fun q => tq q.2.2.2.2) = (plML.getD 16 []).map (fun q => some (lkw 16 q)) := rfl
set_option maxRecDepth 100000 in
theorem rlk_17 : (plML.getD 17 []).map (fun q => tq q.2.2.2.2) = (plML.getD 17 []).map (fun q => some (lkw 17 q)) := rfl
set_option maxRecDepth 100000 in
theorem rlk_18 : (plML.getD 18 []).map (fun q => tq q.2.2.2.2) = (plML.getD 18 []).map (fun q => some (lkw 18 q)) := rfl
theorem plM_link {c i b n k x : Nat} (h : plM c i = some (b, n, k, x)) : tq x = some (lkw c (i, b, n, k, x)) := by
  have hm : (i, b, n, k, x) ∈ plML.getD c [] := asc_mem h
  have hc : c < 19 := by
    obtain ⟨r, hr, -⟩ := getD_mem hm
    exact (List.getElem?_eq_some_iff.mp hr).1
  match c, hc, hm with
  | 0, _, hm => exact tq_all rlk_0 _ hm
  | 1, _, hm => exact tq_all rlk_1 _ hm
  | 2, _, hm => exact tq_all rlk_2 _ hm
  | 3, _, hm => exact tq_all rlk_3 _ hm
  | 4, _, hm => exact tq_all rlk_4 _ hm
  | 5, _, hm => exact tq_all rlk_5 _ hm
  | 6, _, hm => exact tq_all rlk_6 _ hm
  | 7, _, hm => exact tq_all rlk_7 _ hm
  | 8, _, hm => exact tq_all rlk_8 _ hm
  | 9, _, hm => exact tq_all rlk_9 _ hm
  | 10, _, hm => exact tq_all rlk_10 _ hm
  | 11, _, hm => exact tq_all rlk_11 _ hm
  | 12, _, hm => exact tq_all rlk_12 _ hm
  | 13, _, hm => exact tq_all rlk_13 _ hm
  | 14, _, hm => exact tq_all rlk_14 _ hm
  | 15, _, hm => exact tq_all rlk_15 _ hm
  | 16, _, hm => exact tq_all rlk_16 _ hm
  | 17, _, hm => exact tq_all rlk_17 _ hm
  | 18, _, hm => exact tq_all rlk_18 _ hm
  | c + 19, hc, _ => omega
/-- numbers of a call -/
def okI (_ : Nat) (q : Nat × Nat × Nat × Nat × Nat) : Bool := match q.2.2.2.1 with
  | 0 => decide (q.2.1 < 353) && !(ist q.2.1) && !(ini q.2.1) && Nat.beq (npa q.2.1 + 1) q.2.2.1 && (hns q.2.1).isEmpty
  | 1 => decide (q.2.1 < 353) && ist q.2.1 && Nat.beq (npa q.2.1) q.2.2.1
  | 9 => decide (q.2.1 < 353) && ist q.2.1 && Nat.beq (npa q.2.1) q.2.2.1 && (hns q.2.1).isEmpty
  | 2 => decide (q.2.1 < 353) && !(ist q.2.1) && ini q.2.1 && Nat.beq (npa q.2.1 + 1) q.2.2.1 && (hns q.2.1).isEmpty
  | 3 => decide (q.2.1 < 353) && !(ist q.2.1) && ini q.2.1 && Nat.beq (npa q.2.1 + 1) q.2.2.1 && (hns q.2.1).isEmpty
  | 4 => true
  | 5 => true
  | 6 => true
  | 7 => true
  | 8 => true
  | _ => false
set_option maxRecDepth 100000 in
theorem okI_all : ckT okI 0 plML = true := by decide +kernel
theorem plM_ok {c i b n k x : Nat} (h : plM c i = some (b, n, k, x)) : okI c (i, b, n, k, x) = true := by
  have h1 := ckT_at okI_all (asc_mem h)
  rw [Nat.zero_add] at h1
  exact h1
set_option maxRecDepth 100000 in
theorem pr_0 : (Cond.instanceMethod Lib.objectInit) ∈ TB := tq_tb (i := 32) rfl (by decide +kernel)
set_option maxRecDepth 100000 in
theorem pr_1 : (Cond.code Lib.objectInit ⟨#[0xb1]⟩ 1 none) ∈ TB := tq_tb (i := 33) rfl (by decide +kernel)
set_option maxRecDepth 100000 in
theorem pr_2 : (Cond.native arraycopyName) ∈ TB := tq_tb (i := 1091) rfl (by decide +kernel)
set_option maxRecDepth 100000 in
theorem pr_3 : (Cond.static arraycopyName) ∈ TB := tq_tb (i := 1090) rfl (by decide +kernel)
set_option maxRecDepth 100000 in
theorem pr_4 : (Cond.initialized "java/lang/System") ∈ TB := tq_tb (i := 20) rfl (by decide +kernel)
set_option maxRecDepth 100000 in
theorem pr_5 : (Cond.static Lib.Math.max.name) ∈ TB := tq_tb (i := 1133) rfl (by decide +kernel)
set_option maxRecDepth 100000 in
theorem pr_6 : (Cond.code Lib.Math.max.name Lib.Math.max.code 2 (some .int)) ∈ TB := tq_tb (i := 1134) rfl (by decide +kernel)
set_option maxRecDepth 100000 in
theorem pr_7 : (Cond.static Lib.Math.min.name) ∈ TB := tq_tb (i := 1182) rfl (by decide +kernel)
set_option maxRecDepth 100000 in
theorem pr_8 : (Cond.code Lib.Math.min.name Lib.Math.min.code 2 (some .int)) ∈ TB := tq_tb (i := 1183) rfl (by decide +kernel)
set_option maxRecDepth 100000 in
theorem pr_9 : (Cond.static Lib.MathLoose.max_long.x) ∈ TB := tq_tb (i := 4197) rfl (by decide +kernel)
set_option maxRecDepth 100000 in
theorem pr_10 : (Cond.code Lib.MathLoose.max_long.x Lib.MathLoose.max_long.code 4 (some .long)) ∈ TB := tq_tb (i := 4198) rfl (by decide +kernel)
set_option maxRecDepth 100000 in
theorem pr_11 : (Cond.initialized "java/lang/Math") ∈ TB := tq_tb (i := 21) rfl (by decide +kernel)
set_option maxRecDepth 100000 in
theorem pr_12 : (Cond.arrayClass .int) ∈ TB := tq_tb (i := 62) rfl (by decide +kernel)
set_option maxRecDepth 100000 in
theorem pr_13 : (Cond.arrayClass .long) ∈ TB := tq_tb (i := 1017) rfl (by decide +kernel)
