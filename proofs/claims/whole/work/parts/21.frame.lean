/-! ===== what writes no reference and makes no cell keeps the references ===== -/
section FRAME
def nRL : List Bool := [true, true, true, true, true, true, true, true, true, true, true, true, true, true, true, false, true, true, true, true, true, true, true, true, false, true, true, true, true, true, true, true, true, true, true, true, true, true, true, true, true, false, false, true, true, true, true, false, true, true, true, true, true, true, true, true, false, true, true, true, true, true, true, true, true, true, true, true, false, true, true, true, true, true, true, true, true, true, true, true, true, true, true, true, false, false, true, true, true, true, true, true, true, true, true, true, true, true, true, true, true, true, true, false, true, true, true, true, true, true, true, true, true, true, true, true, true, true, true, true, true, true, true, true, true, true, true, true, false, true, true, true, true, false, false, false, true, false, true, false, false, false, false, false, false, false, false, true, true, true, false, true, true, false, false, true, false, true, false, false, false, true, true, false, true, true, true, true, true, true, true, false, false, false, true, true, true, false, true, true, true, true, true, true, true, true, true, false, true, false, false, false, false, false, false, true, true, true, true, false, false, true, false, false, false, false, false, false, true, true, false, true, true, true, true, true, true, false, true, true, true, true, true, true, true, true, true, true, true, true, true, true, true, true, true, true, true, true, true, true, true, true, true, true, true, true, true, true, true, true, true, true, true, true, true, true, true, true, true, true, true, true, true, true, true, true, true, true, true, true, true, true, true, true, true, true, true, true, true, true, true, true, true, true, true, true, true, true, true, true, true, true, true, true, true, true, true, true, true, true, true, true, true, true, true, true, true, true, true, true, true, true, true, true, true, true, true, true, true, true, true, true, true, false, true, true, false, true, true, true, true, true, true, true, false, false, false, false, false, false, false, true, true, true, true, false, false, true, false, false, false, false, false, false]
set_option maxRecDepth 100000 in
theorem nRL_len : nRL.length = 354 := by decide +kernel
def nR (b : Nat) : Bool := nRL.getD b false
def okRc (c i : Nat) : Bool := match plM c i with
  | some (b, _, k, _) => if k = 0 ∨ k = 1 ∨ k = 2 ∨ k = 3 ∨ k = 9 then nR b else true
  | none => true
def okRi (c : Nat) (i : Instr) : Bool := match i with
  | .putfield k => match plF c k with
    | some (ci, f, _) => !(Nat.beq (ft ci f).1 3)
    | none => true
  | .aastore => false
  | .newarray _ => false
  | .anewarray _ => false
  | .new k => match plK c k with
    | some (ci, _) => Nat.ble 100 ci
    | none => true
  | .invokevirtual k => okRc c k
  | .invokespecial k => okRc c k
  | .invokestatic k => okRc c k
  | _ => true
noncomputable def okRm (b : Nat) : Bool := !(nR b) || (cdL.getD b []).all (fun q => okRi (po b) q.2.1)
set_option maxRecDepth 100000 in
theorem okRm_0 : (List.range' 0 20).all okRm = true := by decide +kernel
set_option maxRecDepth 100000 in
theorem okRm_1 : (List.range' 20 20).all okRm = true := by decide +kernel
set_option maxRecDepth 100000 in
theorem okRm_2 : (List.range' 40 20).all okRm = true := by decide +kernel
set_option maxRecDepth 100000 in
theorem okRm_3 : (List.range' 60 20).all okRm = true := by decide +kernel
set_option maxRecDepth 100000 in
theorem okRm_4 : (List.range' 80 20).all okRm = true := by decide +kernel
set_option maxRecDepth 100000 in
theorem okRm_5 : (List.range' 100 20).all okRm = true := by decide +kernel
set_option maxRecDepth 100000 in
theorem okRm_6 : (List.range' 120 20).all okRm = true := by decide +kernel
set_option maxRecDepth 100000 in
theorem okRm_7 : (List.range' 140 20).all okRm = true := by decide +kernel
set_option maxRecDepth 100000 in
theorem okRm_8 : (List.range' 160 20).all okRm = true := by decide +kernel
set_option maxRecDepth 100000 in
theorem okRm_9 : (List.range' 180 20).all okRm = true := by decide +kernel
set_option maxRecDepth 100000 in
theorem okRm_10 : (List.range' 200 20).all okRm = true := by decide +kernel
set_option maxRecDepth 100000 in
theorem okRm_11 : (List.range' 220 20).all okRm = true := by decide +kernel
set_option maxRecDepth 100000 in
theorem okRm_12 : (List.range' 240 20).all okRm = true := by decide +kernel
set_option maxRecDepth 100000 in
theorem okRm_13 : (List.range' 260 20).all okRm = true := by decide +kernel
set_option maxRecDepth 100000 in
theorem okRm_14 : (List.range' 280 20).all okRm = true := by decide +kernel
set_option maxRecDepth 100000 in
theorem okRm_15 : (List.range' 300 20).all okRm = true := by decide +kernel
set_option maxRecDepth 100000 in
theorem okRm_16 : (List.range' 320 20).all okRm = true := by decide +kernel
set_option maxRecDepth 100000 in
theorem okRm_17 : (List.range' 340 14).all okRm = true := by decide +kernel
theorem okRm_at {b : Nat} (h : b < 354) : okRm b = true := by
  rcases (by omega : (0 ≤ b ∧ b < 20) ∨ (20 ≤ b ∧ b < 40) ∨ (40 ≤ b ∧ b < 60) ∨ (60 ≤ b ∧ b < 80) ∨ (80 ≤ b ∧ b < 100) ∨ (100 ≤ b ∧ b < 120) ∨ (120 ≤ b ∧ b < 140) ∨ (140 ≤ b ∧ b < 160) ∨ (160 ≤ b ∧ b < 180) ∨ (180 ≤ b ∧ b < 200) ∨ (200 ≤ b ∧ b < 220) ∨ (220 ≤ b ∧ b < 240) ∨ (240 ≤ b ∧ b < 260) ∨ (260 ≤ b ∧ b < 280) ∨ (280 ≤ b ∧ b < 300) ∨ (300 ≤ b ∧ b < 320) ∨ (320 ≤ b ∧ b < 340) ∨ (340 ≤ b ∧ b < 354)) with h1 | h1 | h1 | h1 | h1 | h1 | h1 | h1 | h1 | h1 | h1 | h1 | h1 | h1 | h1 | h1 | h1 | h1
  · exact List.all_eq_true.mp okRm_0 b (List.mem_range'_1.mpr ⟨h1.1, by omega⟩)
  · exact List.all_eq_true.mp okRm_1 b (List.mem_range'_1.mpr ⟨h1.1, by omega⟩)
  · exact List.all_eq_true.mp okRm_2 b (List.mem_range'_1.mpr ⟨h1.1, by omega⟩)
  · exact List.all_eq_true.mp okRm_3 b (List.mem_range'_1.mpr ⟨h1.1, by omega⟩)
  · exact List.all_eq_true.mp okRm_4 b (List.mem_range'_1.mpr ⟨h1.1, by omega⟩)
  · exact List.all_eq_true.mp okRm_5 b (List.mem_range'_1.mpr ⟨h1.1, by omega⟩)
  · exact List.all_eq_true.mp okRm_6 b (List.mem_range'_1.mpr ⟨h1.1, by omega⟩)
  · exact List.all_eq_true.mp okRm_7 b (List.mem_range'_1.mpr ⟨h1.1, by omega⟩)
  · exact List.all_eq_true.mp okRm_8 b (List.mem_range'_1.mpr ⟨h1.1, by omega⟩)
  · exact List.all_eq_true.mp okRm_9 b (List.mem_range'_1.mpr ⟨h1.1, by omega⟩)
  · exact List.all_eq_true.mp okRm_10 b (List.mem_range'_1.mpr ⟨h1.1, by omega⟩)
  · exact List.all_eq_true.mp okRm_11 b (List.mem_range'_1.mpr ⟨h1.1, by omega⟩)
  · exact List.all_eq_true.mp okRm_12 b (List.mem_range'_1.mpr ⟨h1.1, by omega⟩)
  · exact List.all_eq_true.mp okRm_13 b (List.mem_range'_1.mpr ⟨h1.1, by omega⟩)
  · exact List.all_eq_true.mp okRm_14 b (List.mem_range'_1.mpr ⟨h1.1, by omega⟩)
  · exact List.all_eq_true.mp okRm_15 b (List.mem_range'_1.mpr ⟨h1.1, by omega⟩)
  · exact List.all_eq_true.mp okRm_16 b (List.mem_range'_1.mpr ⟨h1.1, by omega⟩)
  · exact List.all_eq_true.mp okRm_17 b (List.mem_range'_1.mpr ⟨h1.1, by omega⟩)
theorem nR_cd {b pc : Nat} (h : nR b = true) {i : Instr} {len : Nat} (hc : cd b pc = some (i, len)) : okRi (po b) i = true := by
  have hb : b < 354 := by
    apply Classical.byContradiction
    intro hb
    have : nR b = false := by
      unfold nR
      rw [List.getD_eq_getElem?_getD, List.getElem?_eq_none (by rw [nRL_len]; omega)]; rfl
    rw [this] at h; cases h
  have h1 := okRm_at hb
  unfold okRm at h1
  rw [h] at h1
  have h2 := List.all_eq_true.mp h1 _ (asc_mem hc)
  exact h2
def Gq (σ σ' : pS) : Prop := gR σ' = gR σ ∧ pn σ' = pn σ
theorem Gq.rf {σ : pS} : Gq σ σ := ⟨rfl, rfl⟩
theorem Gq.tr {a b c : pS} (h : Gq a b) (k : Gq b c) : Gq a c := ⟨k.1.trans h.1, k.2.trans h.2⟩
theorem Gq.I {σ : pS} {a i : Nat} {x : Int32} : Gq σ (sI σ a i x) := ⟨rfl, rfl⟩
theorem Gq.J {σ : pS} {a i : Nat} {x : Int64} : Gq σ (sJ σ a i x) := ⟨rfl, rfl⟩
theorem Gq.A {σ : pS} {a : Nat} {f : Nat → Int32} : Gq σ (sA σ a f) := ⟨rfl, rfl⟩
theorem Gq.X {σ : pS} : Gq σ (sX σ) := ⟨rfl, rfl⟩
def Gu (σ : pS) : pT → Prop
  | .inl c => Gq σ c.2.2.2
  | .inr (.inl z) => Gq σ z.2.2
  | .inr (.inr q) => q.2.2.2.2.2 = σ ∧ nR q.1 = true
theorem gq_jm {pc : Nat} {ls st : List Value} {σ σ' : pS} {t : pT} (h : jm pc ls st σ' = some t) (hg : Gq σ σ') : Gu σ t := by
  unfold jm at h; cases h; exact hg
theorem gq_jo {pc : Nat} {off : Int} {ls st : List Value} {σ σ' : pS} {t : pT} (h : jo pc off ls st σ' = some t) (hg : Gq σ σ') : Gu σ t := by
  unfold jo at h
  split at h
  · exact gq_jm h hg
  · cases h
theorem gq_a_ldI (n len pc : Nat) {ls st : List Value} {σ : pS} {t : pT} (h : a_ldI n len pc ls st σ = some t) : Gu σ t := by
  unfold a_ldI at h
  repeat' (split at h)
  all_goals first | exact gq_jm h Gq.rf | exact gq_jm h Gq.I | exact gq_jm h Gq.J | exact gq_jm h Gq.A | exact gq_jo h Gq.rf | (cases h; done)
theorem gq_a_ldJ (n len pc : Nat) {ls st : List Value} {σ : pS} {t : pT} (h : a_ldJ n len pc ls st σ = some t) : Gu σ t := by
  unfold a_ldJ at h
  repeat' (split at h)
  all_goals first | exact gq_jm h Gq.rf | exact gq_jm h Gq.I | exact gq_jm h Gq.J | exact gq_jm h Gq.A | exact gq_jo h Gq.rf | (cases h; done)
theorem gq_a_ldA (n len pc : Nat) {ls st : List Value} {σ : pS} {t : pT} (h : a_ldA n len pc ls st σ = some t) : Gu σ t := by
  unfold a_ldA at h
  repeat' (split at h)
  all_goals first | exact gq_jm h Gq.rf | exact gq_jm h Gq.I | exact gq_jm h Gq.J | exact gq_jm h Gq.A | exact gq_jo h Gq.rf | (cases h; done)
theorem gq_a_stI (n len pc : Nat) {ls st : List Value} {σ : pS} {t : pT} (h : a_stI n len pc ls st σ = some t) : Gu σ t := by
  unfold a_stI at h
  repeat' (split at h)
  all_goals first | exact gq_jm h Gq.rf | exact gq_jm h Gq.I | exact gq_jm h Gq.J | exact gq_jm h Gq.A | exact gq_jo h Gq.rf | (cases h; done)
theorem gq_a_stJ (n len pc : Nat) {ls st : List Value} {σ : pS} {t : pT} (h : a_stJ n len pc ls st σ = some t) : Gu σ t := by
  unfold a_stJ at h
  repeat' (split at h)
  all_goals first | exact gq_jm h Gq.rf | exact gq_jm h Gq.I | exact gq_jm h Gq.J | exact gq_jm h Gq.A | exact gq_jo h Gq.rf | (cases h; done)
theorem gq_a_stA (n len pc : Nat) {ls st : List Value} {σ : pS} {t : pT} (h : a_stA n len pc ls st σ = some t) : Gu σ t := by
  unfold a_stA at h
  repeat' (split at h)
  all_goals first | exact gq_jm h Gq.rf | exact gq_jm h Gq.I | exact gq_jm h Gq.J | exact gq_jm h Gq.A | exact gq_jo h Gq.rf | (cases h; done)
theorem gq_a_bin (f : Int32 → Int32 → Int32) (pc : Nat) {ls st : List Value} {σ : pS} {t : pT} (h : a_bin f pc ls st σ = some t) : Gu σ t := by
  unfold a_bin at h
  repeat' (split at h)
  all_goals first | exact gq_jm h Gq.rf | exact gq_jm h Gq.I | exact gq_jm h Gq.J | exact gq_jm h Gq.A | exact gq_jo h Gq.rf | (cases h; done)
theorem gq_a_binJ (f : Int64 → Int64 → Int64) (pc : Nat) {ls st : List Value} {σ : pS} {t : pT} (h : a_binJ f pc ls st σ = some t) : Gu σ t := by
  unfold a_binJ at h
  repeat' (split at h)
  all_goals first | exact gq_jm h Gq.rf | exact gq_jm h Gq.I | exact gq_jm h Gq.J | exact gq_jm h Gq.A | exact gq_jo h Gq.rf | (cases h; done)
theorem gq_a_div (f : Int32 → Int32 → Int32) (pc : Nat) {ls st : List Value} {σ : pS} {t : pT} (h : a_div f pc ls st σ = some t) : Gu σ t := by
  unfold a_div at h
  repeat' (split at h)
  all_goals first | exact gq_jm h Gq.rf | exact gq_jm h Gq.I | exact gq_jm h Gq.J | exact gq_jm h Gq.A | exact gq_jo h Gq.rf | (cases h; done)
theorem gq_a_divJ (f : Int64 → Int64 → Int64) (pc : Nat) {ls st : List Value} {σ : pS} {t : pT} (h : a_divJ f pc ls st σ = some t) : Gu σ t := by
  unfold a_divJ at h
  repeat' (split at h)
  all_goals first | exact gq_jm h Gq.rf | exact gq_jm h Gq.I | exact gq_jm h Gq.J | exact gq_jm h Gq.A | exact gq_jo h Gq.rf | (cases h; done)
theorem gq_a_un (f : Int32 → Value) (pc : Nat) {ls st : List Value} {σ : pS} {t : pT} (h : a_un f pc ls st σ = some t) : Gu σ t := by
  unfold a_un at h
  repeat' (split at h)
  all_goals first | exact gq_jm h Gq.rf | exact gq_jm h Gq.I | exact gq_jm h Gq.J | exact gq_jm h Gq.A | exact gq_jo h Gq.rf | (cases h; done)
theorem gq_a_l2i (pc : Nat) {ls st : List Value} {σ : pS} {t : pT} (h : a_l2i pc ls st σ = some t) : Gu σ t := by
  unfold a_l2i at h
  repeat' (split at h)
  all_goals first | exact gq_jm h Gq.rf | exact gq_jm h Gq.I | exact gq_jm h Gq.J | exact gq_jm h Gq.A | exact gq_jo h Gq.rf | (cases h; done)
theorem gq_a_lcmp (pc : Nat) {ls st : List Value} {σ : pS} {t : pT} (h : a_lcmp pc ls st σ = some t) : Gu σ t := by
  unfold a_lcmp at h
  repeat' (split at h)
  all_goals first | exact gq_jm h Gq.rf | exact gq_jm h Gq.I | exact gq_jm h Gq.J | exact gq_jm h Gq.A | exact gq_jo h Gq.rf | (cases h; done)
theorem gq_a_if (op : ClassFile.Cond) (off : Int) (pc : Nat) {ls st : List Value} {σ : pS} {t : pT} (h : a_if op off pc ls st σ = some t) : Gu σ t := by
  unfold a_if at h
  repeat' (split at h)
  all_goals first | exact gq_jm h Gq.rf | exact gq_jm h Gq.I | exact gq_jm h Gq.J | exact gq_jm h Gq.A | exact gq_jo h Gq.rf | (cases h; done)
theorem gq_a_icmp (op : ClassFile.Cond) (off : Int) (pc : Nat) {ls st : List Value} {σ : pS} {t : pT} (h : a_icmp op off pc ls st σ = some t) : Gu σ t := by
  unfold a_icmp at h
  repeat' (split at h)
  all_goals first | exact gq_jm h Gq.rf | exact gq_jm h Gq.I | exact gq_jm h Gq.J | exact gq_jm h Gq.A | exact gq_jo h Gq.rf | (cases h; done)
theorem gq_a_inc (n : Nat) (k : Int) (pc : Nat) {ls st : List Value} {σ : pS} {t : pT} (h : a_inc n k pc ls st σ = some t) : Gu σ t := by
  unfold a_inc at h
  repeat' (split at h)
  all_goals first | exact gq_jm h Gq.rf | exact gq_jm h Gq.I | exact gq_jm h Gq.J | exact gq_jm h Gq.A | exact gq_jo h Gq.rf | (cases h; done)
theorem gq_a_tab (d lo hi : Int) (offs : Array Int) (pc : Nat) {ls st : List Value} {σ : pS} {t : pT} (h : a_tab d lo hi offs pc ls st σ = some t) : Gu σ t := by
  unfold a_tab at h
  repeat' (split at h)
  all_goals first | exact gq_jm h Gq.rf | exact gq_jm h Gq.I | exact gq_jm h Gq.J | exact gq_jm h Gq.A | exact gq_jo h Gq.rf | (cases h; done)
theorem gq_a_lsw (d : Int) (ps : Array (Int × Int)) (pc : Nat) {ls st : List Value} {σ : pS} {t : pT} (h : a_lsw d ps pc ls st σ = some t) : Gu σ t := by
  unfold a_lsw at h
  repeat' (split at h)
  all_goals first | exact gq_jm h Gq.rf | exact gq_jm h Gq.I | exact gq_jm h Gq.J | exact gq_jm h Gq.A | exact gq_jo h Gq.rf | (cases h; done)
theorem gq_a_ldc (c : Nat) (w : Bool) (i len pc : Nat) {ls st : List Value} {σ : pS} {t : pT} (h : a_ldc c w i len pc ls st σ = some t) : Gu σ t := by
  unfold a_ldc at h
  repeat' (split at h)
  all_goals first | exact gq_jm h Gq.rf | exact gq_jm h Gq.I | exact gq_jm h Gq.J | exact gq_jm h Gq.A | exact gq_jo h Gq.rf | (cases h; done)
theorem gq_a_ldc2 (c i pc : Nat) {ls st : List Value} {σ : pS} {t : pT} (h : a_ldc2 c i pc ls st σ = some t) : Gu σ t := by
  unfold a_ldc2 at h
  repeat' (split at h)
  all_goals first | exact gq_jm h Gq.rf | exact gq_jm h Gq.I | exact gq_jm h Gq.J | exact gq_jm h Gq.A | exact gq_jo h Gq.rf | (cases h; done)
theorem gq_a_iald (pc : Nat) {ls st : List Value} {σ : pS} {t : pT} (h : a_iald pc ls st σ = some t) : Gu σ t := by
  unfold a_iald at h
  repeat' (split at h)
  all_goals first | exact gq_jm h Gq.rf | exact gq_jm h Gq.I | exact gq_jm h Gq.J | exact gq_jm h Gq.A | exact gq_jo h Gq.rf | (cases h; done)
theorem gq_a_iast (pc : Nat) {ls st : List Value} {σ : pS} {t : pT} (h : a_iast pc ls st σ = some t) : Gu σ t := by
  unfold a_iast at h
  repeat' (split at h)
  all_goals first | exact gq_jm h Gq.rf | exact gq_jm h Gq.I | exact gq_jm h Gq.J | exact gq_jm h Gq.A | exact gq_jo h Gq.rf | (cases h; done)
theorem gq_a_lald (pc : Nat) {ls st : List Value} {σ : pS} {t : pT} (h : a_lald pc ls st σ = some t) : Gu σ t := by
  unfold a_lald at h
  repeat' (split at h)
  all_goals first | exact gq_jm h Gq.rf | exact gq_jm h Gq.I | exact gq_jm h Gq.J | exact gq_jm h Gq.A | exact gq_jo h Gq.rf | (cases h; done)
theorem gq_a_last (pc : Nat) {ls st : List Value} {σ : pS} {t : pT} (h : a_last pc ls st σ = some t) : Gu σ t := by
  unfold a_last at h
  repeat' (split at h)
  all_goals first | exact gq_jm h Gq.rf | exact gq_jm h Gq.I | exact gq_jm h Gq.J | exact gq_jm h Gq.A | exact gq_jo h Gq.rf | (cases h; done)
theorem gq_a_aald (pc : Nat) {ls st : List Value} {σ : pS} {t : pT} (h : a_aald pc ls st σ = some t) : Gu σ t := by
  unfold a_aald at h
  repeat' (split at h)
  all_goals first | exact gq_jm h Gq.rf | exact gq_jm h Gq.I | exact gq_jm h Gq.J | exact gq_jm h Gq.A | exact gq_jo h Gq.rf | (cases h; done)
theorem gq_a_bald (pc : Nat) {ls st : List Value} {σ : pS} {t : pT} (h : a_bald pc ls st σ = some t) : Gu σ t := by
  unfold a_bald at h
  repeat' (split at h)
  all_goals first | exact gq_jm h Gq.rf | exact gq_jm h Gq.I | exact gq_jm h Gq.J | exact gq_jm h Gq.A | exact gq_jo h Gq.rf | (cases h; done)
theorem gq_a_alen (pc : Nat) {ls st : List Value} {σ : pS} {t : pT} (h : a_alen pc ls st σ = some t) : Gu σ t := by
  unfold a_alen at h
  repeat' (split at h)
  all_goals first | exact gq_jm h Gq.rf | exact gq_jm h Gq.I | exact gq_jm h Gq.J | exact gq_jm h Gq.A | exact gq_jo h Gq.rf | (cases h; done)
theorem gq_a_stat (c i pc : Nat) {ls st : List Value} {σ : pS} {t : pT} (h : a_stat c i pc ls st σ = some t) : Gu σ t := by
  unfold a_stat at h
  repeat' (split at h)
  all_goals first | exact gq_jm h Gq.rf | exact gq_jm h Gq.I | exact gq_jm h Gq.J | exact gq_jm h Gq.A | exact gq_jo h Gq.rf | (cases h; done)
theorem gq_a_copy (pc : Nat) {ls st : List Value} {σ : pS} {t : pT} (h : a_copy pc ls st σ = some t) : Gu σ t := by
  unfold a_copy at h
  repeat' (split at h)
  all_goals first | exact gq_jm h Gq.rf | exact gq_jm h Gq.I | exact gq_jm h Gq.J | exact gq_jm h Gq.A | exact gq_jo h Gq.rf | (cases h; done)
theorem gq_a_math (k pc : Nat) {ls st : List Value} {σ : pS} {t : pT} (h : a_math k pc ls st σ = some t) : Gu σ t := by
  unfold a_math at h
  repeat' (split at h)
  all_goals first | exact gq_jm h Gq.rf | exact gq_jm h Gq.I | exact gq_jm h Gq.J | exact gq_jm h Gq.A | exact gq_jo h Gq.rf | (cases h; done)
theorem gq_a_obj (pc : Nat) {ls st : List Value} {σ : pS} {t : pT} (h : a_obj pc ls st σ = some t) : Gu σ t := by
  unfold a_obj at h
  repeat' (split at h)
  all_goals first | exact gq_jm h Gq.rf | exact gq_jm h Gq.I | exact gq_jm h Gq.J | exact gq_jm h Gq.A | exact gq_jo h Gq.rf | (cases h; done)
theorem gq_a_dup (pc : Nat) {ls st : List Value} {σ : pS} {t : pT} (h : a_dup pc ls st σ = some t) : Gu σ t := by
  unfold a_dup at h
  repeat' (split at h)
  all_goals first | exact gq_jm h Gq.rf | exact gq_jm h Gq.I | exact gq_jm h Gq.J | exact gq_jm h Gq.A | exact gq_jo h Gq.rf | (cases h; done)
theorem gq_a_pop (pc : Nat) {ls st : List Value} {σ : pS} {t : pT} (h : a_pop pc ls st σ = some t) : Gu σ t := by
  unfold a_pop at h
  repeat' (split at h)
  all_goals first | exact gq_jm h Gq.rf | exact gq_jm h Gq.I | exact gq_jm h Gq.J | exact gq_jm h Gq.A | exact gq_jo h Gq.rf | (cases h; done)
theorem gq_a_dup2 (pc : Nat) {ls st : List Value} {σ : pS} {t : pT} (h : a_dup2 pc ls st σ = some t) : Gu σ t := by
  unfold a_dup2 at h
  repeat' (split at h)
  all_goals first | exact gq_jm h Gq.rf | exact gq_jm h Gq.I | exact gq_jm h Gq.J | exact gq_jm h Gq.A | exact gq_jo h Gq.rf | (cases h; done)
theorem gq_a_get (c i pc : Nat) {ls st : List Value} {σ : pS} {t : pT} (h : a_get c i pc ls st σ = some t) : Gu σ t := by
  unfold a_get a_getT a_getO at h
  repeat' (split at h)
  all_goals first | exact gq_jm h Gq.rf | exact gq_jm h Gq.I | exact gq_jm h Gq.J | exact gq_jm h Gq.A | exact gq_jo h Gq.rf | (cases h; done)
theorem gq_a_put (ini : Bool) (c i pc : Nat) {ls st : List Value} {σ : pS} {t : pT} (hk : okRi c (.putfield i) = true) (h : a_put ini c i pc ls st σ = some t) : Gu σ t := by
  unfold a_put at h
  split at h
  · split at h
    · rename_i ci f x e9
      simp only [okRi, e9] at hk
      unfold a_putO at h
      repeat' (split at h)
      all_goals first | exact gq_jm h Gq.I | exact gq_jm h Gq.J | (cases h; done) | skip
      · rename_i a1 a2 a3 a4
        first | (rw [a1] at hk; cases hk; done) | (rw [a2] at hk; cases hk; done) | (rw [a3] at hk; cases hk; done) | (rw [a4] at hk; cases hk; done)
    · cases h
  · cases h
theorem gq_a_inv {b pc : Nat} {av ls st : List Value} {σ : pS} {t : pT} (hn : nR b = true) (h : a_inv b pc av ls st σ = some t) : Gu σ t := by
  unfold a_inv at h
  split at h
  · cases h; exact ⟨rfl, hn⟩
  · cases h
theorem gq_a_invR {b pc : Nat} {av ls st : List Value} {σ : pS} {t : pT} (hn : nR b = true) (h : a_invR b pc av ls st σ = some t) : Gu σ t := by
  unfold a_invR at h
  repeat' (split at h)
  all_goals first | exact gq_a_inv hn h | cases h
theorem gq_a_call {op c i pc : Nat} {ls st : List Value} {σ : pS} {t : pT} (hk : okRc c i = true) (h : a_call op c i pc ls st σ = some t) : Gu σ t := by
  unfold a_call at h
  split at h
  · rename_i b n k x e9
    unfold okRc at hk
    rw [e9] at hk
    dsimp only at hk
    repeat' (split at h)
    all_goals first | exact gq_a_copy _ h | exact gq_a_math _ _ h | exact gq_a_obj _ h | (cases h; done) | exact gq_a_inv (by simpa using hk) h | exact gq_a_invR (by simpa using hk) h
  · cases h
theorem gq_a_thr {b x pc : Nat} {st : List Value} {σ : pS} {t : pT} (h : a_thr b x pc st σ = some t) : Gu σ t := by
  unfold a_thr at h
  repeat' (split at h)
  all_goals first | (cases h; exact Gq.X) | (cases h; done)
theorem gq_a_new {b i pc : Nat} {ls st : List Value} {σ : pS} {t : pT} (hk : okRi (po b) (.new i) = true) (h : a_new b i pc ls st σ = some t) : Gu σ t := by
  unfold a_new at h
  split at h
  · rename_i ci x e9
    simp only [okRi, e9] at hk
    have h1 := Nat.le_of_ble_eq_true hk
    rw [if_pos h1] at h
    exact gq_a_thr h
  · cases h
theorem gq_a_ret {b : Nat} {st : List Value} {σ : pS} {t : pT} (h : a_ret b st σ = some t) : Gu σ t := by
  unfold a_ret at h
  repeat' (split at h)
  all_goals first | (cases h; exact Gq.rf) | (cases h; done)
theorem gq_a_retJ {b : Nat} {st : List Value} {σ : pS} {t : pT} (h : a_retJ b st σ = some t) : Gu σ t := by
  unfold a_retJ at h
  repeat' (split at h)
  all_goals first | (cases h; exact Gq.rf) | (cases h; done)
theorem gq_a_retA {b : Nat} {st : List Value} {σ : pS} {t : pT} (h : a_retA b st σ = some t) : Gu σ t := by
  unfold a_retA at h
  repeat' (split at h)
  all_goals first | (cases h; exact Gq.rf) | (cases h; done)
theorem gq_a_retV {b : Nat} {st : List Value} {σ : pS} {t : pT} (h : a_retV b st σ = some t) : Gu σ t := by
  unfold a_retV at h
  repeat' (split at h)
  all_goals first | (cases h; exact Gq.rf) | (cases h; done)
theorem gq_stp {b pc : Nat} {ls st : List Value} {σ : pS} {t : pT} (hn : nR b = true) (h : stp b pc ls st σ = some t) : Gu σ t := by
  unfold stp at h
  split at h
  · rename_i q hq
    obtain ⟨i, len⟩ := q
    have hk := nR_cd hn hq
    dsimp only at h
    unfold stpI at h
    split at h
    all_goals obtain ⟨-, h⟩ := ln_some h
    all_goals first
      | exact gq_jm h Gq.rf
      | exact gq_jo h Gq.rf
      | exact gq_a_ldI _ _ _ h
      | exact gq_a_ldJ _ _ _ h
      | exact gq_a_ldA _ _ _ h
      | exact gq_a_stI _ _ _ h
      | exact gq_a_stJ _ _ _ h
      | exact gq_a_stA _ _ _ h
      | exact gq_a_bin _ _ h
      | exact gq_a_binJ _ _ h
      | exact gq_a_div _ _ h
      | exact gq_a_divJ _ _ h
      | exact gq_a_un _ _ h
      | exact gq_a_l2i _ h
      | exact gq_a_lcmp _ h
      | exact gq_a_if _ _ _ h
      | exact gq_a_icmp _ _ _ h
      | exact gq_a_inc _ _ _ h
      | exact gq_a_tab _ _ _ _ _ h
      | exact gq_a_lsw _ _ _ h
      | exact gq_a_ldc _ _ _ _ _ h
      | exact gq_a_ldc2 _ _ _ h
      | exact gq_a_iald _ h
      | exact gq_a_iast _ h
      | exact gq_a_lald _ h
      | exact gq_a_last _ h
      | exact gq_a_aald _ h
      | exact gq_a_bald _ h
      | exact gq_a_alen _ h
      | exact gq_a_stat _ _ _ h
      | exact gq_a_copy _ h
      | exact gq_a_math _ _ h
      | exact gq_a_obj _ h
      | exact gq_a_dup _ h
      | exact gq_a_pop _ h
      | exact gq_a_dup2 _ h
      | exact gq_a_get _ _ _ h
      | exact gq_a_put _ _ _ _ hk h
      | exact gq_a_call hk h
      | exact gq_a_new hk h
      | exact gq_a_ret h | exact gq_a_retJ h | exact gq_a_retA h | exact gq_a_retV h
      | (cases hk; done)
      | (cases h; done)
  · cases h
theorem ev_gq : ∀ {f b k pc : Nat} {ls st : List Value} {σ : pS} {y : pZ}, nR b = true → ev f b k pc ls st σ = some y → Gq σ y.2.2 := by
  intro f
  induction f with
  | zero => intro b k pc ls st σ y _ h; cases h
  | succ f ih =>
    intro b k pc ls st σ y hn h
    rw [ev] at h
    split at h
    · cases h
    · rename_i c hs
      exact Gq.tr (gq_stp hn hs) (ih hn h)
    · rename_i z hs
      cases h
      exact gq_stp hn hs
    · rename_i q hs
      obtain ⟨hq, hq2⟩ := gq_stp hn hs
      split at h
      · split at h
        · cases h
        · rename_i z he
          have h1 := ih hq2 he
          rw [hq] at h1
          split at h
          · cases h
          · rename_i c ha
            have h3 := ih hn h
            rw [(aft_inl ha).1] at h3
            exact h1.tr h3
          · rename_i w ha
            cases h
            rw [aft_inr ha]
            exact h1
      · cases h
theorem pcall_gq {b : Nat} {av : List Value} {σ : pS} {y : pZ} (hn : nR b = true) (h : pcall b av σ = some y) : gR y.2.2 = gR σ ∧ pn y.2.2 = pn σ := by
  obtain ⟨f, hf⟩ := den_iff.mp h
  exact ev_gq hn hf
theorem pcall_gr {b : Nat} {av : List Value} {σ : pS} {y : pZ} (h : pcall b av σ = some y) : psc y.2.2 = psc σ := by
  obtain ⟨f, hf⟩ := den_iff.mp h
  exact (ev_gr hf).2.2
end FRAME
