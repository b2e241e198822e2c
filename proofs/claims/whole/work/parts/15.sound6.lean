/-! ===== a step; a run ===== -/
section SNDF
theorem okR_of {l : List Value} (h : okRb l = true) : okR l := Nat.le_of_ble_eq_true h
theorem inv_ne {b pc : Nat} {av ls st : List Value} {σ : pS} {c' : pC} : a_inv b pc av ls st σ ≠ some (.inl c') := by
  unfold a_inv; split <;> intro h <;> cases h
theorem invR_ne {b pc : Nat} {av ls st : List Value} {σ : pS} {c' : pC} : a_invR b pc av ls st σ ≠ some (.inl c') := by
  unfold a_invR
  repeat' split
  · exact inv_ne
  · intro h; cases h
  · intro h; cases h
theorem thr_ne {b x pc : Nat} {st : List Value} {σ : pS} {c' : pC} : a_thr b x pc st σ ≠ some (.inl c') := by
  unfold a_thr
  repeat' split
  all_goals intro h; cases h
theorem ret_ne {b : Nat} {st : List Value} {σ : pS} {c' : pC} : a_ret b st σ ≠ some (.inl c') := by
  unfold a_ret
  repeat' split
  all_goals intro h; cases h
theorem retJ_ne {b : Nat} {st : List Value} {σ : pS} {c' : pC} : a_retJ b st σ ≠ some (.inl c') := by
  unfold a_retJ
  repeat' split
  all_goals intro h; cases h
theorem retA_ne {b : Nat} {st : List Value} {σ : pS} {c' : pC} : a_retA b st σ ≠ some (.inl c') := by
  unfold a_retA
  repeat' split
  all_goals intro h; cases h
theorem retV_ne {b : Nat} {st : List Value} {σ : pS} {c' : pC} : a_retV b st σ ≠ some (.inl c') := by
  unfold a_retV
  repeat' split
  all_goals intro h; cases h
set_option maxRecDepth 100000 in
theorem lvL_all : (List.range 354).all (fun b => Nat.ble 12 (lvL.getD b (0, 0)).1) = true := by decide +kernel
/-- counters grow, the script stays -/
def Gr (σ σ' : pS) : Prop := pcl σ ≤ pcl σ' ∧ psl σ ≤ psl σ' ∧ psc σ' = psc σ
theorem Gr.rf {σ : pS} : Gr σ σ := ⟨Nat.le_refl _, Nat.le_refl _, rfl⟩
theorem Gr.tr {a b c : pS} (h : Gr a b) (k : Gr b c) : Gr a c := ⟨Nat.le_trans h.1 k.1, Nat.le_trans h.2.1 k.2.1, k.2.2.trans h.2.2⟩
/-- what a step gives: a place to go on, an end, a call -/
def Gt (σ : pS) (n : Nat) : pT → Prop
  | .inl c => Gr σ c.2.2.2 ∧ c.2.1.length = n
  | .inr (.inl z) => Gr σ z.2.2
  | .inr (.inr q) => q.2.2.2.2.2 = σ ∧ q.2.2.2.1.length = n
theorem gt_jm {pc n : Nat} {ls st : List Value} {σ σ' : pS} {t : pT} (h : jm pc ls st σ' = some t) (hg : Gr σ σ') (hn : ls.length = n) : Gt σ n t := by
  unfold jm at h; cases h; exact ⟨hg, hn⟩
theorem gt_jo {pc n : Nat} {off : Int} {ls st : List Value} {σ σ' : pS} {t : pT} (h : jo pc off ls st σ' = some t) (hg : Gr σ σ') (hn : ls.length = n) : Gt σ n t := by
  unfold jo at h
  split at h
  · exact gt_jm h hg hn
  · cases h
theorem ln_some {len n : Nat} {x : Option pT} {t : pT} (h : ln len n x = some t) : len = n ∧ x = some t := by
  unfold ln at h
  split at h
  · exact ⟨by assumption, h⟩
  · cases h
theorem Gr.I {σ : pS} {a i : Nat} {x : Int32} : Gr σ (sI σ a i x) := ⟨Nat.le_refl _, Nat.le_refl _, rfl⟩
theorem Gr.J {σ : pS} {a i : Nat} {x : Int64} : Gr σ (sJ σ a i x) := ⟨Nat.le_refl _, Nat.le_refl _, rfl⟩
theorem Gr.Rr {σ : pS} {a i : Nat} {x : Option Nat} : Gr σ (sR σ a i x) := ⟨Nat.le_refl _, Nat.le_refl _, rfl⟩
theorem Gr.A {σ : pS} {a : Nat} {f : Nat → Int32} : Gr σ (sA σ a f) := ⟨Nat.le_refl _, Nat.le_refl _, rfl⟩
theorem Gr.N {σ : pS} {m : Nat} : Gr σ (sN σ m) := ⟨Nat.le_succ _, Nat.le_add_right _ _, rfl⟩
theorem Gr.X {σ : pS} : Gr σ (sX σ) := ⟨Nat.le_succ _, Nat.le_add_right _ _, rfl⟩
theorem gt_a_ldI (n len pc : Nat) {ls st : List Value} {σ : pS} {t : pT} (h : a_ldI n len pc ls st σ = some t) : Gt σ ls.length t := by
  unfold a_ldI at h
  repeat' (split at h)
  all_goals first | exact gt_jm h Gr.rf (by simp) | exact gt_jm h Gr.I (by simp) | exact gt_jm h Gr.J (by simp) | exact gt_jm h Gr.Rr (by simp) | exact gt_jm h Gr.A (by simp) | exact gt_jm h Gr.N (by simp) | exact gt_jo h Gr.rf (by simp) | (cases h; done)
theorem gt_a_ldJ (n len pc : Nat) {ls st : List Value} {σ : pS} {t : pT} (h : a_ldJ n len pc ls st σ = some t) : Gt σ ls.length t := by
  unfold a_ldJ at h
  repeat' (split at h)
  all_goals first | exact gt_jm h Gr.rf (by simp) | exact gt_jm h Gr.I (by simp) | exact gt_jm h Gr.J (by simp) | exact gt_jm h Gr.Rr (by simp) | exact gt_jm h Gr.A (by simp) | exact gt_jm h Gr.N (by simp) | exact gt_jo h Gr.rf (by simp) | (cases h; done)
theorem gt_a_ldA (n len pc : Nat) {ls st : List Value} {σ : pS} {t : pT} (h : a_ldA n len pc ls st σ = some t) : Gt σ ls.length t := by
  unfold a_ldA at h
  repeat' (split at h)
  all_goals first | exact gt_jm h Gr.rf (by simp) | exact gt_jm h Gr.I (by simp) | exact gt_jm h Gr.J (by simp) | exact gt_jm h Gr.Rr (by simp) | exact gt_jm h Gr.A (by simp) | exact gt_jm h Gr.N (by simp) | exact gt_jo h Gr.rf (by simp) | (cases h; done)
theorem gt_a_stI (n len pc : Nat) {ls st : List Value} {σ : pS} {t : pT} (h : a_stI n len pc ls st σ = some t) : Gt σ ls.length t := by
  unfold a_stI at h
  repeat' (split at h)
  all_goals first | exact gt_jm h Gr.rf (by simp) | exact gt_jm h Gr.I (by simp) | exact gt_jm h Gr.J (by simp) | exact gt_jm h Gr.Rr (by simp) | exact gt_jm h Gr.A (by simp) | exact gt_jm h Gr.N (by simp) | exact gt_jo h Gr.rf (by simp) | (cases h; done)
theorem gt_a_stJ (n len pc : Nat) {ls st : List Value} {σ : pS} {t : pT} (h : a_stJ n len pc ls st σ = some t) : Gt σ ls.length t := by
  unfold a_stJ at h
  repeat' (split at h)
  all_goals first | exact gt_jm h Gr.rf (by simp) | exact gt_jm h Gr.I (by simp) | exact gt_jm h Gr.J (by simp) | exact gt_jm h Gr.Rr (by simp) | exact gt_jm h Gr.A (by simp) | exact gt_jm h Gr.N (by simp) | exact gt_jo h Gr.rf (by simp) | (cases h; done)
theorem gt_a_stA (n len pc : Nat) {ls st : List Value} {σ : pS} {t : pT} (h : a_stA n len pc ls st σ = some t) : Gt σ ls.length t := by
  unfold a_stA at h
  repeat' (split at h)
  all_goals first | exact gt_jm h Gr.rf (by simp) | exact gt_jm h Gr.I (by simp) | exact gt_jm h Gr.J (by simp) | exact gt_jm h Gr.Rr (by simp) | exact gt_jm h Gr.A (by simp) | exact gt_jm h Gr.N (by simp) | exact gt_jo h Gr.rf (by simp) | (cases h; done)
theorem gt_a_bin (f : Int32 → Int32 → Int32) (pc : Nat) {ls st : List Value} {σ : pS} {t : pT} (h : a_bin f pc ls st σ = some t) : Gt σ ls.length t := by
  unfold a_bin at h
  repeat' (split at h)
  all_goals first | exact gt_jm h Gr.rf (by simp) | exact gt_jm h Gr.I (by simp) | exact gt_jm h Gr.J (by simp) | exact gt_jm h Gr.Rr (by simp) | exact gt_jm h Gr.A (by simp) | exact gt_jm h Gr.N (by simp) | exact gt_jo h Gr.rf (by simp) | (cases h; done)
theorem gt_a_binJ (f : Int64 → Int64 → Int64) (pc : Nat) {ls st : List Value} {σ : pS} {t : pT} (h : a_binJ f pc ls st σ = some t) : Gt σ ls.length t := by
  unfold a_binJ at h
  repeat' (split at h)
  all_goals first | exact gt_jm h Gr.rf (by simp) | exact gt_jm h Gr.I (by simp) | exact gt_jm h Gr.J (by simp) | exact gt_jm h Gr.Rr (by simp) | exact gt_jm h Gr.A (by simp) | exact gt_jm h Gr.N (by simp) | exact gt_jo h Gr.rf (by simp) | (cases h; done)
theorem gt_a_div (f : Int32 → Int32 → Int32) (pc : Nat) {ls st : List Value} {σ : pS} {t : pT} (h : a_div f pc ls st σ = some t) : Gt σ ls.length t := by
  unfold a_div at h
  repeat' (split at h)
  all_goals first | exact gt_jm h Gr.rf (by simp) | exact gt_jm h Gr.I (by simp) | exact gt_jm h Gr.J (by simp) | exact gt_jm h Gr.Rr (by simp) | exact gt_jm h Gr.A (by simp) | exact gt_jm h Gr.N (by simp) | exact gt_jo h Gr.rf (by simp) | (cases h; done)
theorem gt_a_divJ (f : Int64 → Int64 → Int64) (pc : Nat) {ls st : List Value} {σ : pS} {t : pT} (h : a_divJ f pc ls st σ = some t) : Gt σ ls.length t := by
  unfold a_divJ at h
  repeat' (split at h)
  all_goals first | exact gt_jm h Gr.rf (by simp) | exact gt_jm h Gr.I (by simp) | exact gt_jm h Gr.J (by simp) | exact gt_jm h Gr.Rr (by simp) | exact gt_jm h Gr.A (by simp) | exact gt_jm h Gr.N (by simp) | exact gt_jo h Gr.rf (by simp) | (cases h; done)
theorem gt_a_un (f : Int32 → Value) (pc : Nat) {ls st : List Value} {σ : pS} {t : pT} (h : a_un f pc ls st σ = some t) : Gt σ ls.length t := by
  unfold a_un at h
  repeat' (split at h)
  all_goals first | exact gt_jm h Gr.rf (by simp) | exact gt_jm h Gr.I (by simp) | exact gt_jm h Gr.J (by simp) | exact gt_jm h Gr.Rr (by simp) | exact gt_jm h Gr.A (by simp) | exact gt_jm h Gr.N (by simp) | exact gt_jo h Gr.rf (by simp) | (cases h; done)
theorem gt_a_l2i (pc : Nat) {ls st : List Value} {σ : pS} {t : pT} (h : a_l2i pc ls st σ = some t) : Gt σ ls.length t := by
  unfold a_l2i at h
  repeat' (split at h)
  all_goals first | exact gt_jm h Gr.rf (by simp) | exact gt_jm h Gr.I (by simp) | exact gt_jm h Gr.J (by simp) | exact gt_jm h Gr.Rr (by simp) | exact gt_jm h Gr.A (by simp) | exact gt_jm h Gr.N (by simp) | exact gt_jo h Gr.rf (by simp) | (cases h; done)
theorem gt_a_lcmp (pc : Nat) {ls st : List Value} {σ : pS} {t : pT} (h : a_lcmp pc ls st σ = some t) : Gt σ ls.length t := by
  unfold a_lcmp at h
  repeat' (split at h)
  all_goals first | exact gt_jm h Gr.rf (by simp) | exact gt_jm h Gr.I (by simp) | exact gt_jm h Gr.J (by simp) | exact gt_jm h Gr.Rr (by simp) | exact gt_jm h Gr.A (by simp) | exact gt_jm h Gr.N (by simp) | exact gt_jo h Gr.rf (by simp) | (cases h; done)
theorem gt_a_if (op : ClassFile.Cond) (off : Int) (pc : Nat) {ls st : List Value} {σ : pS} {t : pT} (h : a_if op off pc ls st σ = some t) : Gt σ ls.length t := by
  unfold a_if at h
  repeat' (split at h)
  all_goals first | exact gt_jm h Gr.rf (by simp) | exact gt_jm h Gr.I (by simp) | exact gt_jm h Gr.J (by simp) | exact gt_jm h Gr.Rr (by simp) | exact gt_jm h Gr.A (by simp) | exact gt_jm h Gr.N (by simp) | exact gt_jo h Gr.rf (by simp) | (cases h; done)
theorem gt_a_icmp (op : ClassFile.Cond) (off : Int) (pc : Nat) {ls st : List Value} {σ : pS} {t : pT} (h : a_icmp op off pc ls st σ = some t) : Gt σ ls.length t := by
  unfold a_icmp at h
  repeat' (split at h)
  all_goals first | exact gt_jm h Gr.rf (by simp) | exact gt_jm h Gr.I (by simp) | exact gt_jm h Gr.J (by simp) | exact gt_jm h Gr.Rr (by simp) | exact gt_jm h Gr.A (by simp) | exact gt_jm h Gr.N (by simp) | exact gt_jo h Gr.rf (by simp) | (cases h; done)
theorem gt_a_inc (n : Nat) (k : Int) (pc : Nat) {ls st : List Value} {σ : pS} {t : pT} (h : a_inc n k pc ls st σ = some t) : Gt σ ls.length t := by
  unfold a_inc at h
  repeat' (split at h)
  all_goals first | exact gt_jm h Gr.rf (by simp) | exact gt_jm h Gr.I (by simp) | exact gt_jm h Gr.J (by simp) | exact gt_jm h Gr.Rr (by simp) | exact gt_jm h Gr.A (by simp) | exact gt_jm h Gr.N (by simp) | exact gt_jo h Gr.rf (by simp) | (cases h; done)
theorem gt_a_tab (d lo hi : Int) (offs : Array Int) (pc : Nat) {ls st : List Value} {σ : pS} {t : pT} (h : a_tab d lo hi offs pc ls st σ = some t) : Gt σ ls.length t := by
  unfold a_tab at h
  repeat' (split at h)
  all_goals first | exact gt_jm h Gr.rf (by simp) | exact gt_jm h Gr.I (by simp) | exact gt_jm h Gr.J (by simp) | exact gt_jm h Gr.Rr (by simp) | exact gt_jm h Gr.A (by simp) | exact gt_jm h Gr.N (by simp) | exact gt_jo h Gr.rf (by simp) | (cases h; done)
theorem gt_a_lsw (d : Int) (ps : Array (Int × Int)) (pc : Nat) {ls st : List Value} {σ : pS} {t : pT} (h : a_lsw d ps pc ls st σ = some t) : Gt σ ls.length t := by
  unfold a_lsw at h
  repeat' (split at h)
  all_goals first | exact gt_jm h Gr.rf (by simp) | exact gt_jm h Gr.I (by simp) | exact gt_jm h Gr.J (by simp) | exact gt_jm h Gr.Rr (by simp) | exact gt_jm h Gr.A (by simp) | exact gt_jm h Gr.N (by simp) | exact gt_jo h Gr.rf (by simp) | (cases h; done)
theorem gt_a_ldc (c : Nat) (w : Bool) (i len pc : Nat) {ls st : List Value} {σ : pS} {t : pT} (h : a_ldc c w i len pc ls st σ = some t) : Gt σ ls.length t := by
  unfold a_ldc at h
  repeat' (split at h)
  all_goals first | exact gt_jm h Gr.rf (by simp) | exact gt_jm h Gr.I (by simp) | exact gt_jm h Gr.J (by simp) | exact gt_jm h Gr.Rr (by simp) | exact gt_jm h Gr.A (by simp) | exact gt_jm h Gr.N (by simp) | exact gt_jo h Gr.rf (by simp) | (cases h; done)
theorem gt_a_ldc2 (c i pc : Nat) {ls st : List Value} {σ : pS} {t : pT} (h : a_ldc2 c i pc ls st σ = some t) : Gt σ ls.length t := by
  unfold a_ldc2 at h
  repeat' (split at h)
  all_goals first | exact gt_jm h Gr.rf (by simp) | exact gt_jm h Gr.I (by simp) | exact gt_jm h Gr.J (by simp) | exact gt_jm h Gr.Rr (by simp) | exact gt_jm h Gr.A (by simp) | exact gt_jm h Gr.N (by simp) | exact gt_jo h Gr.rf (by simp) | (cases h; done)
theorem gt_a_iald (pc : Nat) {ls st : List Value} {σ : pS} {t : pT} (h : a_iald pc ls st σ = some t) : Gt σ ls.length t := by
  unfold a_iald at h
  repeat' (split at h)
  all_goals first | exact gt_jm h Gr.rf (by simp) | exact gt_jm h Gr.I (by simp) | exact gt_jm h Gr.J (by simp) | exact gt_jm h Gr.Rr (by simp) | exact gt_jm h Gr.A (by simp) | exact gt_jm h Gr.N (by simp) | exact gt_jo h Gr.rf (by simp) | (cases h; done)
theorem gt_a_iast (pc : Nat) {ls st : List Value} {σ : pS} {t : pT} (h : a_iast pc ls st σ = some t) : Gt σ ls.length t := by
  unfold a_iast at h
  repeat' (split at h)
  all_goals first | exact gt_jm h Gr.rf (by simp) | exact gt_jm h Gr.I (by simp) | exact gt_jm h Gr.J (by simp) | exact gt_jm h Gr.Rr (by simp) | exact gt_jm h Gr.A (by simp) | exact gt_jm h Gr.N (by simp) | exact gt_jo h Gr.rf (by simp) | (cases h; done)
theorem gt_a_lald (pc : Nat) {ls st : List Value} {σ : pS} {t : pT} (h : a_lald pc ls st σ = some t) : Gt σ ls.length t := by
  unfold a_lald at h
  repeat' (split at h)
  all_goals first | exact gt_jm h Gr.rf (by simp) | exact gt_jm h Gr.I (by simp) | exact gt_jm h Gr.J (by simp) | exact gt_jm h Gr.Rr (by simp) | exact gt_jm h Gr.A (by simp) | exact gt_jm h Gr.N (by simp) | exact gt_jo h Gr.rf (by simp) | (cases h; done)
theorem gt_a_last (pc : Nat) {ls st : List Value} {σ : pS} {t : pT} (h : a_last pc ls st σ = some t) : Gt σ ls.length t := by
  unfold a_last at h
  repeat' (split at h)
  all_goals first | exact gt_jm h Gr.rf (by simp) | exact gt_jm h Gr.I (by simp) | exact gt_jm h Gr.J (by simp) | exact gt_jm h Gr.Rr (by simp) | exact gt_jm h Gr.A (by simp) | exact gt_jm h Gr.N (by simp) | exact gt_jo h Gr.rf (by simp) | (cases h; done)
theorem gt_a_aald (pc : Nat) {ls st : List Value} {σ : pS} {t : pT} (h : a_aald pc ls st σ = some t) : Gt σ ls.length t := by
  unfold a_aald at h
  repeat' (split at h)
  all_goals first | exact gt_jm h Gr.rf (by simp) | exact gt_jm h Gr.I (by simp) | exact gt_jm h Gr.J (by simp) | exact gt_jm h Gr.Rr (by simp) | exact gt_jm h Gr.A (by simp) | exact gt_jm h Gr.N (by simp) | exact gt_jo h Gr.rf (by simp) | (cases h; done)
theorem gt_a_aast (pc : Nat) {ls st : List Value} {σ : pS} {t : pT} (h : a_aast pc ls st σ = some t) : Gt σ ls.length t := by
  unfold a_aast at h
  repeat' (split at h)
  all_goals first | exact gt_jm h Gr.rf (by simp) | exact gt_jm h Gr.I (by simp) | exact gt_jm h Gr.J (by simp) | exact gt_jm h Gr.Rr (by simp) | exact gt_jm h Gr.A (by simp) | exact gt_jm h Gr.N (by simp) | exact gt_jo h Gr.rf (by simp) | (cases h; done)
theorem gt_a_bald (pc : Nat) {ls st : List Value} {σ : pS} {t : pT} (h : a_bald pc ls st σ = some t) : Gt σ ls.length t := by
  unfold a_bald at h
  repeat' (split at h)
  all_goals first | exact gt_jm h Gr.rf (by simp) | exact gt_jm h Gr.I (by simp) | exact gt_jm h Gr.J (by simp) | exact gt_jm h Gr.Rr (by simp) | exact gt_jm h Gr.A (by simp) | exact gt_jm h Gr.N (by simp) | exact gt_jo h Gr.rf (by simp) | (cases h; done)
theorem gt_a_alen (pc : Nat) {ls st : List Value} {σ : pS} {t : pT} (h : a_alen pc ls st σ = some t) : Gt σ ls.length t := by
  unfold a_alen at h
  repeat' (split at h)
  all_goals first | exact gt_jm h Gr.rf (by simp) | exact gt_jm h Gr.I (by simp) | exact gt_jm h Gr.J (by simp) | exact gt_jm h Gr.Rr (by simp) | exact gt_jm h Gr.A (by simp) | exact gt_jm h Gr.N (by simp) | exact gt_jo h Gr.rf (by simp) | (cases h; done)
theorem gt_a_newa (kc dl pc : Nat) {ls st : List Value} {σ : pS} {t : pT} (h : a_newa kc dl pc ls st σ = some t) : Gt σ ls.length t := by
  unfold a_newa at h
  repeat' (split at h)
  all_goals first | exact gt_jm h Gr.rf (by simp) | exact gt_jm h Gr.I (by simp) | exact gt_jm h Gr.J (by simp) | exact gt_jm h Gr.Rr (by simp) | exact gt_jm h Gr.A (by simp) | exact gt_jm h Gr.N (by simp) | exact gt_jo h Gr.rf (by simp) | (cases h; done)
theorem gt_a_stat (c i pc : Nat) {ls st : List Value} {σ : pS} {t : pT} (h : a_stat c i pc ls st σ = some t) : Gt σ ls.length t := by
  unfold a_stat at h
  repeat' (split at h)
  all_goals first | exact gt_jm h Gr.rf (by simp) | exact gt_jm h Gr.I (by simp) | exact gt_jm h Gr.J (by simp) | exact gt_jm h Gr.Rr (by simp) | exact gt_jm h Gr.A (by simp) | exact gt_jm h Gr.N (by simp) | exact gt_jo h Gr.rf (by simp) | (cases h; done)
theorem gt_a_copy (pc : Nat) {ls st : List Value} {σ : pS} {t : pT} (h : a_copy pc ls st σ = some t) : Gt σ ls.length t := by
  unfold a_copy at h
  repeat' (split at h)
  all_goals first | exact gt_jm h Gr.rf (by simp) | exact gt_jm h Gr.I (by simp) | exact gt_jm h Gr.J (by simp) | exact gt_jm h Gr.Rr (by simp) | exact gt_jm h Gr.A (by simp) | exact gt_jm h Gr.N (by simp) | exact gt_jo h Gr.rf (by simp) | (cases h; done)
theorem gt_a_math (k pc : Nat) {ls st : List Value} {σ : pS} {t : pT} (h : a_math k pc ls st σ = some t) : Gt σ ls.length t := by
  unfold a_math at h
  repeat' (split at h)
  all_goals first | exact gt_jm h Gr.rf (by simp) | exact gt_jm h Gr.I (by simp) | exact gt_jm h Gr.J (by simp) | exact gt_jm h Gr.Rr (by simp) | exact gt_jm h Gr.A (by simp) | exact gt_jm h Gr.N (by simp) | exact gt_jo h Gr.rf (by simp) | (cases h; done)
theorem gt_a_obj (pc : Nat) {ls st : List Value} {σ : pS} {t : pT} (h : a_obj pc ls st σ = some t) : Gt σ ls.length t := by
  unfold a_obj at h
  repeat' (split at h)
  all_goals first | exact gt_jm h Gr.rf (by simp) | exact gt_jm h Gr.I (by simp) | exact gt_jm h Gr.J (by simp) | exact gt_jm h Gr.Rr (by simp) | exact gt_jm h Gr.A (by simp) | exact gt_jm h Gr.N (by simp) | exact gt_jo h Gr.rf (by simp) | (cases h; done)
theorem gt_a_dup (pc : Nat) {ls st : List Value} {σ : pS} {t : pT} (h : a_dup pc ls st σ = some t) : Gt σ ls.length t := by
  unfold a_dup at h
  repeat' (split at h)
  all_goals first | exact gt_jm h Gr.rf (by simp) | exact gt_jm h Gr.I (by simp) | exact gt_jm h Gr.J (by simp) | exact gt_jm h Gr.Rr (by simp) | exact gt_jm h Gr.A (by simp) | exact gt_jm h Gr.N (by simp) | exact gt_jo h Gr.rf (by simp) | (cases h; done)
theorem gt_a_pop (pc : Nat) {ls st : List Value} {σ : pS} {t : pT} (h : a_pop pc ls st σ = some t) : Gt σ ls.length t := by
  unfold a_pop at h
  repeat' (split at h)
  all_goals first | exact gt_jm h Gr.rf (by simp) | exact gt_jm h Gr.I (by simp) | exact gt_jm h Gr.J (by simp) | exact gt_jm h Gr.Rr (by simp) | exact gt_jm h Gr.A (by simp) | exact gt_jm h Gr.N (by simp) | exact gt_jo h Gr.rf (by simp) | (cases h; done)
theorem gt_a_dup2 (pc : Nat) {ls st : List Value} {σ : pS} {t : pT} (h : a_dup2 pc ls st σ = some t) : Gt σ ls.length t := by
  unfold a_dup2 at h
  repeat' (split at h)
  all_goals first | exact gt_jm h Gr.rf (by simp) | exact gt_jm h Gr.I (by simp) | exact gt_jm h Gr.J (by simp) | exact gt_jm h Gr.Rr (by simp) | exact gt_jm h Gr.A (by simp) | exact gt_jm h Gr.N (by simp) | exact gt_jo h Gr.rf (by simp) | (cases h; done)
theorem gt_a_get (c i pc : Nat) {ls st : List Value} {σ : pS} {t : pT} (h : a_get c i pc ls st σ = some t) : Gt σ ls.length t := by
  unfold a_get a_getT a_getO at h
  repeat' (split at h)
  all_goals first | exact gt_jm h Gr.rf (by simp) | exact gt_jm h Gr.I (by simp) | exact gt_jm h Gr.J (by simp) | exact gt_jm h Gr.Rr (by simp) | exact gt_jm h Gr.A (by simp) | exact gt_jm h Gr.N (by simp) | exact gt_jo h Gr.rf (by simp) | (cases h; done)
theorem gt_a_put (ini : Bool) (c i pc : Nat) {ls st : List Value} {σ : pS} {t : pT} (h : a_put ini c i pc ls st σ = some t) : Gt σ ls.length t := by
  unfold a_put a_putO at h
  repeat' (split at h)
  all_goals first | exact gt_jm h Gr.rf (by simp) | exact gt_jm h Gr.I (by simp) | exact gt_jm h Gr.J (by simp) | exact gt_jm h Gr.Rr (by simp) | exact gt_jm h Gr.A (by simp) | exact gt_jm h Gr.N (by simp) | exact gt_jo h Gr.rf (by simp) | (cases h; done)
theorem gt_a_inv {b pc : Nat} {av ls st : List Value} {σ : pS} {t : pT} (h : a_inv b pc av ls st σ = some t) : Gt σ ls.length t := by
  unfold a_inv at h
  split at h
  · cases h; exact ⟨rfl, rfl⟩
  · cases h
theorem gt_a_invR {b pc : Nat} {av ls st : List Value} {σ : pS} {t : pT} (h : a_invR b pc av ls st σ = some t) : Gt σ ls.length t := by
  unfold a_invR at h
  repeat' (split at h)
  all_goals first | exact gt_a_inv h | cases h
theorem gt_a_call {op c i pc : Nat} {ls st : List Value} {σ : pS} {t : pT} (h : a_call op c i pc ls st σ = some t) : Gt σ ls.length t := by
  unfold a_call at h
  repeat' (split at h)
  all_goals first | exact gt_a_inv h | exact gt_a_invR h | exact gt_a_copy _ h | exact gt_a_math _ _ h | exact gt_a_obj _ h | (cases h; done)
theorem gt_a_thr {b x pc : Nat} {ls st : List Value} {σ : pS} {t : pT} (h : a_thr b x pc st σ = some t) : Gt σ ls.length t := by
  unfold a_thr at h
  repeat' (split at h)
  all_goals first | (cases h; exact Gr.X) | (cases h; done)
theorem gt_a_new {b i pc : Nat} {ls st : List Value} {σ : pS} {t : pT} (h : a_new b i pc ls st σ = some t) : Gt σ ls.length t := by
  unfold a_new at h
  repeat' (split at h)
  all_goals first | exact gt_a_thr h | exact gt_jm h Gr.N rfl | (cases h; done)
theorem gt_a_ret {b : Nat} {ls st : List Value} {σ : pS} {t : pT} (h : a_ret b st σ = some t) : Gt σ ls.length t := by
  unfold a_ret at h
  repeat' (split at h)
  all_goals first | (cases h; exact Gr.rf) | (cases h; done)
theorem gt_a_retJ {b : Nat} {ls st : List Value} {σ : pS} {t : pT} (h : a_retJ b st σ = some t) : Gt σ ls.length t := by
  unfold a_retJ at h
  repeat' (split at h)
  all_goals first | (cases h; exact Gr.rf) | (cases h; done)
theorem gt_a_retA {b : Nat} {ls st : List Value} {σ : pS} {t : pT} (h : a_retA b st σ = some t) : Gt σ ls.length t := by
  unfold a_retA at h
  repeat' (split at h)
  all_goals first | (cases h; exact Gr.rf) | (cases h; done)
theorem gt_a_retV {b : Nat} {ls st : List Value} {σ : pS} {t : pT} (h : a_retV b st σ = some t) : Gt σ ls.length t := by
  unfold a_retV at h
  repeat' (split at h)
  all_goals first | (cases h; exact Gr.rf) | (cases h; done)
theorem gt_stp {b pc : Nat} {ls st : List Value} {σ : pS} {t : pT} (h : stp b pc ls st σ = some t) : Gt σ ls.length t := by
  unfold stp at h
  split at h
  · unfold stpI at h
    split at h
    all_goals obtain ⟨-, h⟩ := ln_some h
    all_goals first | exact gt_jm h Gr.rf rfl | exact gt_jo h Gr.rf rfl | exact gt_a_ldI _ _ _ h | exact gt_a_ldJ _ _ _ h | exact gt_a_ldA _ _ _ h | exact gt_a_stI _ _ _ h | exact gt_a_stJ _ _ _ h | exact gt_a_stA _ _ _ h | exact gt_a_bin _ _ h | exact gt_a_binJ _ _ h | exact gt_a_div _ _ h | exact gt_a_divJ _ _ h | exact gt_a_un _ _ h | exact gt_a_l2i _ h | exact gt_a_lcmp _ h | exact gt_a_if _ _ _ h | exact gt_a_icmp _ _ _ h | exact gt_a_inc _ _ _ h | exact gt_a_tab _ _ _ _ _ h | exact gt_a_lsw _ _ _ h | exact gt_a_ldc _ _ _ _ _ h | exact gt_a_ldc2 _ _ _ h | exact gt_a_iald _ h | exact gt_a_iast _ h | exact gt_a_lald _ h | exact gt_a_last _ h | exact gt_a_aald _ h | exact gt_a_aast _ h | exact gt_a_bald _ h | exact gt_a_alen _ h | exact gt_a_newa _ _ _ h | exact gt_a_stat _ _ _ h | exact gt_a_copy _ h | exact gt_a_math _ _ h | exact gt_a_obj _ h | exact gt_a_dup _ h | exact gt_a_pop _ h | exact gt_a_dup2 _ h | exact gt_a_new h | exact gt_a_call h | exact gt_a_ret h | exact gt_a_retJ h | exact gt_a_retA h | exact gt_a_retV h | exact gt_a_get _ _ _ h | exact gt_a_put _ _ _ _ h | (cases h; done) | (split at h <;> first | exact gt_a_newa _ _ _ h | cases h)
  · cases h
theorem aft_inl {b pc : Nat} {ls st : List Value} {y : pZ} {c : pC} (h : aft b pc ls st y = some (.inl c)) : c.2.2.2 = y.2.2 ∧ c.2.1.length = ls.length := by
  unfold aft at h
  repeat' (split at h)
  all_goals first | (cases h; exact ⟨rfl, rfl⟩) | (cases h; exact ⟨rfl, List.length_set⟩) | (cases h; done)
theorem aft_inr {b pc : Nat} {ls st : List Value} {y z : pZ} (h : aft b pc ls st y = some (.inr z)) : z.2.2 = y.2.2 := by
  unfold aft at h
  repeat' (split at h)
  all_goals first | (cases h; rfl) | (cases h; done)
theorem ev_gr : ∀ {f b k pc : Nat} {ls st : List Value} {σ : pS} {y : pZ}, ev f b k pc ls st σ = some y → Gr σ y.2.2 := by
  intro f
  induction f with
  | zero => intro b k pc ls st σ y h; cases h
  | succ f ih =>
    intro b k pc ls st σ y h
    rw [ev] at h
    split at h
    · cases h
    · rename_i c hs
      exact (gt_stp hs).1.tr (ih h)
    · rename_i z hs
      cases h
      exact gt_stp hs
    · rename_i q hs
      have hq := (gt_stp hs).1
      split at h
      · split at h
        · cases h
        · rename_i z he
          have h1 := ih he
          rw [hq] at h1
          split at h
          · cases h
          · rename_i c ha
            have h3 := ih h
            rw [(aft_inl ha).1] at h3
            exact h1.tr h3
          · rename_i w ha
            cases h
            rw [aft_inr ha]
            exact h1
      · cases h
variable {p : Program} {l : Launch} {e : Jvm.Env} {R : Room} {s : State} {m : MethodId} {args : Array Value} {below : List Frame} {meth : Method} {c : Code} {Q : State → Prop} {z : Nat} {G : pG} {nv : Value} {c0 s0 n0 : Nat} {ad0 : Nat → Nat} {sc : Nat × (Nat → Int32)}
theorem jo_inv {pc : Nat} {off : Int} {ls st : List Value} {σ : pS} {c' : pC} (h : jo pc off ls st σ = some (.inl c')) : ∃ tgt : Nat, (pc : Int) + off = (tgt : Int) ∧ c' = (tgt, ls, st, σ) := by
  unfold jo at h
  split at h
  · unfold jm at h
    cases h
    exact ⟨_, (Int.toNat_of_nonneg (by assumption)).symm, rfl⟩
  · cases h
theorem jm_inv {pc : Nat} {ls st : List Value} {σ : pS} {c' : pC} (h : jm pc ls st σ = some (.inl c')) : c' = (pc, ls, st, σ) := by
  unfold jm at h; cases h; rfl
theorem newa_inv {kc dl pc : Nat} {ls st : List Value} {σ : pS} {c' : pC} (hs : a_newa kc dl pc ls st σ = some (.inl c')) : ∃ n r, st = .int n :: r ∧ ¬ n < 0 ∧ n.toNatClampNeg ≤ 1000000 ∧ pn σ < 1000 ∧ kd (pn σ) = (kc, n.toNatClampNeg) ∧ c' = (pc + dl, ls, .ref (pn σ) :: r, sN σ n.toNatClampNeg) := by
  unfold a_newa at hs
  split at hs
  · split at hs
    · cases hs
    · rename_i n r e9
      have e1 := fun h => e9 (Or.inl h)
      have e2 := fun h => e9 (Or.inr (Or.inl h))
      have e3 : pn σ < 1000 := Classical.not_not.mp (fun h => e9 (Or.inr (Or.inr (Or.inl h))))
      have e4 := Classical.not_not.mp (fun h => e9 (Or.inr (Or.inr (Or.inr h))))
      exact ⟨n, r, rfl, e1, Nat.not_lt.mp e2, e3, e4, jm_inv hs⟩
  · cases hs
theorem lv_12 {b k : Nat} (h : b < 354) : 12 ≤ lv b k := by
  have h1 := List.all_eq_true.mp lvL_all b (List.mem_range.mpr h)
  have h2 := Nat.le_of_ble_eq_true h1
  unfold lv
  split
  · rename_i x e; rw [e] at h2; exact h2
  · rename_i x g e; rw [e] at h2; omega
theorem g_step {b k pc : Nat} {ls st : List Value} {σ : pS} {c' : pC} (hC : Cx b k p l R s m args meth c z G nv sc ad0) (hlb : ls.length = mxl b) (hpsc : psc σ = sc)
    (hs : stp b pc ls st σ = some (.inl c')) (hR : pcl c'.2.2.2 ≤ c0 + R.cells ∧ psl c'.2.2.2 ≤ s0 + R.slots) (kk : Go p l e R s m args below meth c Q z G nv c0 s0 n0 ad0 (c'.1) (c'.2.1) (c'.2.2.1) (c'.2.2.2)) : Go p l e R s m args below meth c Q z G nv c0 s0 n0 ad0 (pc) (ls) (st) (σ) := by
  have hC0 := hC
  obtain ⟨hx, hb, hml, hown, hts, hlk, hRf, hRl, hin, htab, htr, hK, hEn, hz, hnv, hb4, hAO⟩ := hC
  have hlv := lv_12 (k := k) hb4
  unfold stp at hs
  split at hs
  · rename_i q hq
    obtain ⟨i, len⟩ := q
    have hd := cd_dec hb4 hq
    dsimp only at hs
    unfold stpI at hs
    split at hs
    all_goals obtain ⟨hln, hs⟩ := ln_some hs
    · subst hln
      obtain rfl := jm_inv hs
      exact g_iconst hx hb hd kk
    · subst hln
      obtain rfl := jm_inv hs
      exact g_bipush hx hb hd kk
    · subst hln
      obtain rfl := jm_inv hs
      exact g_sipush hx hb hd kk
    · subst hln
      obtain rfl := jm_inv hs
      exact g_lconst hx hb hd kk
    · subst hln
      unfold a_ldc at hs
      split at hs
      · rename_i n q e9
        obtain rfl := jm_inv hs
        exact g_ldcI hx hb hts hown e9 hd kk
      · rename_i n q e9
        obtain rfl := jm_inv hs
        exact g_ldcS hx hb hown hEn e9 hd kk
      · cases hs
    · subst hln
      unfold a_ldc at hs
      split at hs
      · rename_i n q e9
        obtain rfl := jm_inv hs
        exact g_ldcwI hx hb hts hown e9 hd kk
      · rename_i n q e9
        obtain rfl := jm_inv hs
        exact g_ldcwS hx hb hown hEn e9 hd kk
      · cases hs
    · subst hln
      unfold a_ldc2 at hs
      split at hs
      · rename_i n q e9
        obtain rfl := jm_inv hs
        exact g_ldcJ hx hb hts hown e9 hd kk
      · cases hs
    · subst hln
      unfold a_ldI at hs
      split at hs
      · rename_i x e9
        obtain rfl := jm_inv hs
        exact g_iload hx hb hd e9 kk
      · cases hs
    · subst hln
      unfold a_ldI at hs
      split at hs
      · rename_i x e9
        obtain rfl := jm_inv hs
        exact g_iload_n hx hb hd e9 kk
      · cases hs
    · subst hln
      unfold a_ldJ at hs
      split at hs
      · rename_i x e9 e8
        obtain rfl := jm_inv hs
        exact g_lload hx hb hd e9 e8 kk
      · cases hs
    · subst hln
      unfold a_ldJ at hs
      split at hs
      · rename_i x e9 e8
        obtain rfl := jm_inv hs
        exact g_lload_n hx hb hd e9 e8 kk
      · cases hs
    · subst hln
      unfold a_ldA at hs
      split at hs
      · rename_i x e9
        obtain rfl := jm_inv hs
        exact g_aload hx hb hd e9 kk
      · cases hs
    · subst hln
      unfold a_ldA at hs
      split at hs
      · rename_i x e9
        obtain rfl := jm_inv hs
        exact g_aload_n hx hb hd e9 kk
      · cases hs
    · subst hln
      unfold a_stI at hs
      split at hs
      · split at hs
        · rename_i e9
          obtain rfl := jm_inv hs
          exact g_istore hx hb hd e9 kk
        · cases hs
      · cases hs
    · subst hln
      unfold a_stI at hs
      split at hs
      · split at hs
        · rename_i e9
          obtain rfl := jm_inv hs
          exact g_istore_n hx hb hd e9 kk
        · cases hs
      · cases hs
    · subst hln
      unfold a_stJ at hs
      split at hs
      · split at hs
        · rename_i e9
          obtain rfl := jm_inv hs
          exact g_lstore hx hb hd e9 kk
        · cases hs
      · cases hs
    · subst hln
      unfold a_stJ at hs
      split at hs
      · split at hs
        · rename_i e9
          obtain rfl := jm_inv hs
          exact g_lstore_n hx hb hd e9 kk
        · cases hs
      · cases hs
    · subst hln
      unfold a_stA at hs
      split at hs
      · split at hs
        · rename_i e9
          obtain rfl := jm_inv hs
          exact g_astore hx hb hd e9 kk
        · cases hs
      · cases hs
    · subst hln
      unfold a_stA at hs
      split at hs
      · split at hs
        · rename_i e9
          obtain rfl := jm_inv hs
          exact g_astore_n hx hb hd e9 kk
        · cases hs
      · cases hs
    · subst hln
      unfold a_pop at hs
      split at hs
      · split at hs
        · rename_i e9
          obtain rfl := jm_inv hs
          exact g_pop hx hb hnv hd e9 kk
        · cases hs
      · cases hs
    · subst hln
      unfold a_dup at hs
      split at hs
      · split at hs
        · rename_i e9
          obtain rfl := jm_inv hs
          exact g_dup hx hb hnv hd e9 kk
        · cases hs
      · cases hs
    · subst hln
      unfold a_dup2 at hs
      split at hs
      · split at hs
        · rename_i e9
          obtain rfl := jm_inv hs
          exact g_dup2 hx hb hnv hd e9.1 e9.2 kk
        · cases hs
      · cases hs
    · subst hln
      unfold a_bin at hs
      split at hs
      · obtain rfl := jm_inv hs
        exact g_iadd hx hb hd kk
      · cases hs
    · subst hln
      unfold a_bin at hs
      split at hs
      · obtain rfl := jm_inv hs
        exact g_isub hx hb hd kk
      · cases hs
    · subst hln
      unfold a_bin at hs
      split at hs
      · obtain rfl := jm_inv hs
        exact g_imul hx hb hd kk
      · cases hs
    · subst hln
      unfold a_bin at hs
      split at hs
      · obtain rfl := jm_inv hs
        exact g_iand hx hb hd kk
      · cases hs
    · subst hln
      unfold a_bin at hs
      split at hs
      · obtain rfl := jm_inv hs
        exact g_ior hx hb hd kk
      · cases hs
    · subst hln
      unfold a_bin at hs
      split at hs
      · obtain rfl := jm_inv hs
        exact g_ixor hx hb hd kk
      · cases hs
    · subst hln
      unfold a_bin at hs
      split at hs
      · obtain rfl := jm_inv hs
        exact g_ishl hx hb hd kk
      · cases hs
    · subst hln
      unfold a_bin at hs
      split at hs
      · obtain rfl := jm_inv hs
        exact g_ishr hx hb hd kk
      · cases hs
    · subst hln
      unfold a_bin at hs
      split at hs
      · obtain rfl := jm_inv hs
        exact g_iushr hx hb hd kk
      · cases hs
    · subst hln
      unfold a_div at hs
      split at hs
      · split at hs
        · cases hs
        · rename_i e9
          obtain rfl := jm_inv hs
          exact g_idiv hx hb hd e9 kk
      · cases hs
    · subst hln
      unfold a_div at hs
      split at hs
      · split at hs
        · cases hs
        · rename_i e9
          obtain rfl := jm_inv hs
          exact g_irem hx hb hd e9 kk
      · cases hs
    · subst hln
      unfold a_binJ at hs
      split at hs
      · obtain rfl := jm_inv hs
        exact g_ladd hx hb hd kk
      · cases hs
    · subst hln
      unfold a_binJ at hs
      split at hs
      · obtain rfl := jm_inv hs
        exact g_lmul hx hb hd kk
      · cases hs
    · subst hln
      unfold a_divJ at hs
      split at hs
      · split at hs
        · cases hs
        · rename_i e9
          obtain rfl := jm_inv hs
          exact g_ldiv hx hb hd e9 kk
      · cases hs
    · subst hln
      unfold a_divJ at hs
      split at hs
      · split at hs
        · cases hs
        · rename_i e9
          obtain rfl := jm_inv hs
          exact g_lrem hx hb hd e9 kk
      · cases hs
    · subst hln
      unfold a_lcmp at hs
      split at hs
      · obtain rfl := jm_inv hs
        exact g_lcmp hx hb hd kk
      · cases hs
    · subst hln
      unfold a_un at hs
      split at hs
      · obtain rfl := jm_inv hs
        exact g_i2l hx hb hd kk
      · cases hs
    · subst hln
      unfold a_l2i at hs
      split at hs
      · obtain rfl := jm_inv hs
        exact g_l2i hx hb hd kk
      · cases hs
    · subst hln
      unfold a_un at hs
      split at hs
      · obtain rfl := jm_inv hs
        exact g_i2c hx hb hd kk
      · cases hs
    · subst hln
      unfold a_un at hs
      split at hs
      · obtain rfl := jm_inv hs
        exact g_i2b hx hb hd kk
      · cases hs
    · subst hln
      unfold a_if at hs
      split at hs
      · split at hs
        · rename_i hof
          have ht := (Int.toNat_of_nonneg hof).symm
          split at hs
          · rename_i e9
            obtain rfl := jm_inv hs
            exact g_if hx hb hd ht (fun _ => kk) (fun e8 => absurd e9 e8)
          · rename_i e9
            obtain rfl := jm_inv hs
            exact g_if hx hb hd ht (fun e8 => absurd e8 e9) (fun _ => kk)
        · cases hs
      · cases hs
    · subst hln
      unfold a_icmp at hs
      split at hs
      · split at hs
        · rename_i hof
          have ht := (Int.toNat_of_nonneg hof).symm
          split at hs
          · rename_i e9
            obtain rfl := jm_inv hs
            exact g_icmp hx hb hd ht (fun _ => kk) (fun e8 => absurd e9 e8)
          · rename_i e9
            obtain rfl := jm_inv hs
            exact g_icmp hx hb hd ht (fun e8 => absurd e8 e9) (fun _ => kk)
        · cases hs
      · cases hs
    · subst hln
      obtain ⟨tgt, ht, rfl⟩ := jo_inv hs
      exact g_goto hx hb hd ht kk
    · subst hln
      unfold a_inc at hs
      split at hs
      · rename_i x e9
        obtain rfl := jm_inv hs
        exact g_iinc hx hb hd e9 kk
      · cases hs
    · unfold a_tab at hs
      split at hs
      · split at hs
        · rename_i e9
          obtain ⟨tgt, ht, rfl⟩ := jo_inv hs
          exact g_tabOut hx hb hd e9 ht kk
        · rename_i e9
          split at hs
          · rename_i off e8
            obtain ⟨tgt, ht, rfl⟩ := jo_inv hs
            exact g_tabIn hx hb hd e9 e8 ht kk
          · cases hs
      · cases hs
    · unfold a_lsw at hs
      split at hs
      · split at hs
        · rename_i e9
          obtain ⟨tgt, ht, rfl⟩ := jo_inv hs
          exact g_look hx hb hd e9 ht kk
        · cases hs
      · cases hs
    · subst hln
      unfold a_get at hs
      split at hs
      · rename_i a r
        split at hs
        · rename_i h16
          rw [h16] at hown
          unfold a_getT at hs
          split at hs
          · rename_i hk9
            split at hs
            · obtain rfl := jm_inv hs
              exact g_getV hx hb hts hown hEn hk9 hd kk
            · obtain rfl := jm_inv hs
              exact g_getC hx hb hts hown hEn hk9 hd kk
            · cases hs
          · cases hs
        · unfold a_getO at hs
          split at hs
          · rename_i ci f q9 e9
            split at hs
            · rename_i hk9
              refine g_getO hx hb hts hown hK e9 hk9 hd ?_
              unfold fvP
              split at hs
              · rename_i e8
                obtain rfl := jm_inv hs
                rw [e8]
                exact kk
              · rename_i e8
                obtain rfl := jm_inv hs
                rw [e8]
                exact kk
              · rename_i e8
                obtain rfl := jm_inv hs
                rw [e8]
                exact kk
              · rename_i a1 a2 a3
                obtain rfl := jm_inv hs
                split
                · rename_i e1; exact absurd e1 a1
                · rename_i e1; exact absurd e1 a2
                · rename_i e1; exact absurd e1 a3
                · exact kk
            · cases hs
          · cases hs
      · cases hs
    · subst hln
      unfold a_put at hs
      split at hs
      · split at hs
        · rename_i ci f q9 e9
          unfold a_putO at hs
          split at hs
          · rename_i hk9
            have hfin : (ft ci f).2 = false ∨ meth.name = "<init>" ∧ po b = ci := hk9.2.imp id (fun h => ⟨hin h.1, h.2⟩)
            split at hs
            · rename_i e8 e80
              obtain rfl := jm_inv hs
              exact g_putI hx hb hts hown hK e9 hk9.1 e8 hfin hd kk
            · rename_i e8 e80
              split at hs
              · rename_i e7
                obtain rfl := jm_inv hs
                exact g_putZ hx hb hts hown hK e9 hk9.1 e8 e7 hfin hd kk
              · cases hs
            · rename_i e8 e80
              obtain rfl := jm_inv hs
              exact g_putJ hx hb hts hown hK e9 hk9.1 e8 hfin hd kk
            · rename_i e8 e80
              obtain rfl := jm_inv hs
              exact g_putR hx hb hts hown hK e9 hk9.1 e8 hfin hd kk
            · cases hs
          · cases hs
        · cases hs
      · cases hs
    · subst hln
      unfold a_stat at hs
      split at hs
      · rename_i h16
        rw [h16] at hown
        split at hs
        · obtain rfl := jm_inv hs
          exact g_statC hx hb hts hown hEn hd kk
        · obtain rfl := jm_inv hs
          exact g_statF hx hb hts hown hEn hd kk
        · cases hs
      · cases hs
    · subst hln
      unfold a_iald at hs
      split at hs
      · split at hs
        · rename_i n e9
          split at hs
          · cases hs
          · rename_i e8
            obtain rfl := jm_inv hs
            exact g_iald hx hb hK e9 e8 hd kk
        · rename_i n e9
          split at hs
          · cases hs
          · rename_i e8
            obtain rfl := jm_inv hs
            exact g_sld hx hb hEn hpsc e9 e8 hd kk
        · cases hs
      · cases hs
    · subst hln
      unfold a_iast at hs
      split at hs
      · split at hs
        · rename_i n e9
          split at hs
          · cases hs
          · rename_i e8
            obtain rfl := jm_inv hs
            exact g_iast hx hb hK e9 e8 hd kk
        · cases hs
      · cases hs
    · subst hln
      unfold a_lald at hs
      split at hs
      · split at hs
        · rename_i n e9
          split at hs
          · cases hs
          · rename_i e8
            obtain rfl := jm_inv hs
            exact g_lald hx hb hK e9 e8 hd kk
        · cases hs
      · cases hs
    · subst hln
      unfold a_last at hs
      split at hs
      · split at hs
        · rename_i n e9
          split at hs
          · cases hs
          · rename_i e8
            obtain rfl := jm_inv hs
            exact g_last hx hb hK e9 e8 hd kk
        · cases hs
      · cases hs
    · subst hln
      unfold a_aald at hs
      split at hs
      · split at hs
        · rename_i n e9
          split at hs
          · cases hs
          · rename_i e8
            obtain rfl := jm_inv hs
            exact g_aald hx hb hK e9 e8 hd kk
        · cases hs
      · cases hs
    · subst hln
      unfold a_aast at hs
      split at hs
      · split at hs
        · rename_i n e9
          split at hs
          · cases hs
          · rename_i e8
            obtain rfl := jm_inv hs
            exact g_aast hx hb hK hEn e9 (fun h => e8 (h.elim Or.inl (fun h => Or.inr (Or.inl h)))) (Classical.not_not.mp (fun h => e8 (Or.inr (Or.inr h)))) hd kk
        · cases hs
      · cases hs
    · subst hln
      unfold a_bald at hs
      split at hs
      · split at hs
        · rename_i n e9
          split at hs
          · rename_i e7
            split at hs
            · cases hs
            · rename_i e8
              obtain rfl := jm_inv hs
              exact g_bald hx hb hEn e9 e7 e8 hd kk
          · cases hs
        · cases hs
      · cases hs
    · subst hln
      unfold a_alen at hs
      split at hs
      · split at hs
        · rename_i n e9
          obtain rfl := jm_inv hs
          exact g_alenI hx hb hK e9 hd kk
        · rename_i n e9
          obtain rfl := jm_inv hs
          exact g_alenJ hx hb hK e9 hd kk
        · rename_i n e9
          obtain rfl := jm_inv hs
          exact g_alenS hx hb hK e9 hd kk
        · rename_i n e9
          split at hs
          · rename_i e7
            obtain rfl := jm_inv hs
            exact g_alenB hx hb hEn e9 e7 hd kk
          · cases hs
        · rename_i n e9
          obtain rfl := jm_inv hs
          exact g_slen hx hb hEn hpsc e9 hd kk
        · cases hs
      · cases hs
    · subst hln
      obtain ⟨n9, r9, rfl, e1, e2, e3, e4, rfl⟩ := newa_inv hs
      exact g_newaI hx hb hts hK hz e1 e2 e4 e3 hR hd kk
    · subst hln
      obtain ⟨n9, r9, rfl, e1, e2, e3, e4, rfl⟩ := newa_inv hs
      exact g_newaJ hx hb hts hK hz e1 e2 e4 e3 hR hd kk
    · subst hln
      split at hs
      · rename_i h99
        obtain ⟨n9, r9, rfl, e1, e2, e3, e4, rfl⟩ := newa_inv hs
        obtain ⟨h91, rfl⟩ := h99
        rw [h91] at hown
        exact g_newaS hx hb hts hK hown hAO hz e1 e2 e4 e3 hR hd kk
      · cases hs
    · subst hln
      unfold a_new at hs
      split at hs
      · rename_i ci q9 e9
        split at hs
        · exact absurd hs (thr_ne)
        · split at hs
          · rename_i e8
            obtain rfl := jm_inv hs
            exact g_new hx hb hts hown hK hz e9 e8.2.1 e8.1 e8.2.2 hR hd kk
          · cases hs
      · cases hs
    · subst hln
      unfold a_call at hs
      split at hs
      · rename_i b9 n9 k9 x9 e9
        split at hs
        · split at hs <;> first | exact absurd hs invR_ne | cases hs
        · exfalso; omega
        · exfalso; omega
        · exfalso; omega
        · exfalso; omega
        · exfalso; omega
        · exfalso; omega
        · exfalso; omega
        · exfalso; omega
        · exfalso; omega
        · cases hs
      · cases hs
    · subst hln
      unfold a_call at hs
      split at hs
      · rename_i b9 n9 k9 x9 e9
        split at hs
        · exfalso; omega
        · exfalso; omega
        · exfalso; omega
        · exfalso; omega
        · exfalso; omega
        · exfalso; omega
        · exfalso; omega
        · split at hs <;> first | exact absurd hs invR_ne | cases hs
        · split at hs <;> first | exact absurd hs invR_ne | cases hs
        · unfold a_obj at hs
          split at hs
          · split at hs
            · rename_i e8
              obtain rfl := jm_inv hs
              exact g_obj hC0 hlb e9 (okR_of e8) (by omega) hd kk
            · cases hs
          · cases hs
        · cases hs
      · cases hs
    · subst hln
      unfold a_call at hs
      split at hs
      · rename_i b9 n9 k9 x9 e9
        split at hs
        · exfalso; omega
        · split at hs <;> first | exact absurd hs inv_ne | cases hs
        · split at hs <;> first | exact absurd hs inv_ne | cases hs
        · unfold a_copy at hs
          split at hs
          · split at hs
            · rename_i ns nd k1 k2
              split at hs
              · cases hs
              · rename_i e8
                obtain rfl := jm_inv hs
                exact g_copy hC0 hlb e9 k1 k2 (okR_of (Classical.not_not.mp (fun h => e8 (Or.inr (Or.inr (Or.inr (Or.inr (Or.inr h)))))))) (by omega) (fun h => e8 (h.elim Or.inl (fun h => Or.inr (h.elim Or.inl (fun h => Or.inr (h.elim Or.inl (fun h => Or.inr (h.elim Or.inl (fun h => Or.inr (Or.inl h)))))))))) hd kk
            · cases hs
          · cases hs
        · unfold a_math at hs
          split at hs
          · split at hs
            · rename_i e8
              obtain rfl := jm_inv hs
              exact g_max hC0 hlb e9 (okR_of e8) (by omega) hR hd kk
            · cases hs
          · exfalso; omega
          · exfalso; omega
          · cases hs
        · unfold a_math at hs
          split at hs
          · exfalso; omega
          · split at hs
            · rename_i e8
              obtain rfl := jm_inv hs
              exact g_min hC0 hlb e9 (okR_of e8) (by omega) hR hd kk
            · cases hs
          · exfalso; omega
          · cases hs
        · unfold a_math at hs
          split at hs
          · exfalso; omega
          · exfalso; omega
          · split at hs
            · rename_i e8
              obtain rfl := jm_inv hs
              exact g_lmax hC0 hlb e9 (okR_of e8) (by omega) hR hd kk
            · cases hs
          · cases hs
        · exfalso; omega
        · exfalso; omega
        · exfalso; omega
        · cases hs
      · cases hs
    · subst hln
      exact absurd hs ret_ne
    · subst hln
      exact absurd hs retJ_ne
    · subst hln
      exact absurd hs retA_ne
    · subst hln
      exact absurd hs retV_ne
    · cases hs
  · cases hs
end SNDF
