/-! ===== ends, calls, the induction ===== -/
section SNDG
theorem jm_l {pc : Nat} {ls st : List Value} {σ : pS} {t : pT} (h : jm pc ls st σ = some t) : ∃ c, t = .inl c := by
  unfold jm at h; cases h; exact ⟨_, rfl⟩
theorem jo_l {pc : Nat} {off : Int} {ls st : List Value} {σ : pS} {t : pT} (h : jo pc off ls st σ = some t) : ∃ c, t = .inl c := by
  unfold jo at h
  split at h
  · exact jm_l h
  · cases h
theorem jl_a_ldI (n len pc : Nat) {ls st : List Value} {σ : pS} {t : pT} (h : a_ldI n len pc ls st σ = some t) : ∃ c, t = .inl c := by
  unfold a_ldI at h
  repeat' (split at h)
  all_goals first | exact jm_l h | exact jo_l h | (cases h; done)
theorem jl_a_ldJ (n len pc : Nat) {ls st : List Value} {σ : pS} {t : pT} (h : a_ldJ n len pc ls st σ = some t) : ∃ c, t = .inl c := by
  unfold a_ldJ at h
  repeat' (split at h)
  all_goals first | exact jm_l h | exact jo_l h | (cases h; done)
theorem jl_a_ldA (n len pc : Nat) {ls st : List Value} {σ : pS} {t : pT} (h : a_ldA n len pc ls st σ = some t) : ∃ c, t = .inl c := by
  unfold a_ldA at h
  repeat' (split at h)
  all_goals first | exact jm_l h | exact jo_l h | (cases h; done)
theorem jl_a_stI (n len pc : Nat) {ls st : List Value} {σ : pS} {t : pT} (h : a_stI n len pc ls st σ = some t) : ∃ c, t = .inl c := by
  unfold a_stI at h
  repeat' (split at h)
  all_goals first | exact jm_l h | exact jo_l h | (cases h; done)
theorem jl_a_stJ (n len pc : Nat) {ls st : List Value} {σ : pS} {t : pT} (h : a_stJ n len pc ls st σ = some t) : ∃ c, t = .inl c := by
  unfold a_stJ at h
  repeat' (split at h)
  all_goals first | exact jm_l h | exact jo_l h | (cases h; done)
theorem jl_a_stA (n len pc : Nat) {ls st : List Value} {σ : pS} {t : pT} (h : a_stA n len pc ls st σ = some t) : ∃ c, t = .inl c := by
  unfold a_stA at h
  repeat' (split at h)
  all_goals first | exact jm_l h | exact jo_l h | (cases h; done)
theorem jl_a_bin (f : Int32 → Int32 → Int32) (pc : Nat) {ls st : List Value} {σ : pS} {t : pT} (h : a_bin f pc ls st σ = some t) : ∃ c, t = .inl c := by
  unfold a_bin at h
  repeat' (split at h)
  all_goals first | exact jm_l h | exact jo_l h | (cases h; done)
theorem jl_a_binJ (f : Int64 → Int64 → Int64) (pc : Nat) {ls st : List Value} {σ : pS} {t : pT} (h : a_binJ f pc ls st σ = some t) : ∃ c, t = .inl c := by
  unfold a_binJ at h
  repeat' (split at h)
  all_goals first | exact jm_l h | exact jo_l h | (cases h; done)
theorem jl_a_div (f : Int32 → Int32 → Int32) (pc : Nat) {ls st : List Value} {σ : pS} {t : pT} (h : a_div f pc ls st σ = some t) : ∃ c, t = .inl c := by
  unfold a_div at h
  repeat' (split at h)
  all_goals first | exact jm_l h | exact jo_l h | (cases h; done)
theorem jl_a_divJ (f : Int64 → Int64 → Int64) (pc : Nat) {ls st : List Value} {σ : pS} {t : pT} (h : a_divJ f pc ls st σ = some t) : ∃ c, t = .inl c := by
  unfold a_divJ at h
  repeat' (split at h)
  all_goals first | exact jm_l h | exact jo_l h | (cases h; done)
theorem jl_a_un (f : Int32 → Value) (pc : Nat) {ls st : List Value} {σ : pS} {t : pT} (h : a_un f pc ls st σ = some t) : ∃ c, t = .inl c := by
  unfold a_un at h
  repeat' (split at h)
  all_goals first | exact jm_l h | exact jo_l h | (cases h; done)
theorem jl_a_l2i (pc : Nat) {ls st : List Value} {σ : pS} {t : pT} (h : a_l2i pc ls st σ = some t) : ∃ c, t = .inl c := by
  unfold a_l2i at h
  repeat' (split at h)
  all_goals first | exact jm_l h | exact jo_l h | (cases h; done)
theorem jl_a_lcmp (pc : Nat) {ls st : List Value} {σ : pS} {t : pT} (h : a_lcmp pc ls st σ = some t) : ∃ c, t = .inl c := by
  unfold a_lcmp at h
  repeat' (split at h)
  all_goals first | exact jm_l h | exact jo_l h | (cases h; done)
theorem jl_a_if (op : ClassFile.Cond) (off : Int) (pc : Nat) {ls st : List Value} {σ : pS} {t : pT} (h : a_if op off pc ls st σ = some t) : ∃ c, t = .inl c := by
  unfold a_if at h
  repeat' (split at h)
  all_goals first | exact jm_l h | exact jo_l h | (cases h; done)
theorem jl_a_icmp (op : ClassFile.Cond) (off : Int) (pc : Nat) {ls st : List Value} {σ : pS} {t : pT} (h : a_icmp op off pc ls st σ = some t) : ∃ c, t = .inl c := by
  unfold a_icmp at h
  repeat' (split at h)
  all_goals first | exact jm_l h | exact jo_l h | (cases h; done)
theorem jl_a_inc (n : Nat) (k : Int) (pc : Nat) {ls st : List Value} {σ : pS} {t : pT} (h : a_inc n k pc ls st σ = some t) : ∃ c, t = .inl c := by
  unfold a_inc at h
  repeat' (split at h)
  all_goals first | exact jm_l h | exact jo_l h | (cases h; done)
theorem jl_a_tab (d lo hi : Int) (offs : Array Int) (pc : Nat) {ls st : List Value} {σ : pS} {t : pT} (h : a_tab d lo hi offs pc ls st σ = some t) : ∃ c, t = .inl c := by
  unfold a_tab at h
  repeat' (split at h)
  all_goals first | exact jm_l h | exact jo_l h | (cases h; done)
theorem jl_a_lsw (d : Int) (ps : Array (Int × Int)) (pc : Nat) {ls st : List Value} {σ : pS} {t : pT} (h : a_lsw d ps pc ls st σ = some t) : ∃ c, t = .inl c := by
  unfold a_lsw at h
  repeat' (split at h)
  all_goals first | exact jm_l h | exact jo_l h | (cases h; done)
theorem jl_a_ldc (c : Nat) (w : Bool) (i len pc : Nat) {ls st : List Value} {σ : pS} {t : pT} (h : a_ldc c w i len pc ls st σ = some t) : ∃ c, t = .inl c := by
  unfold a_ldc at h
  repeat' (split at h)
  all_goals first | exact jm_l h | exact jo_l h | (cases h; done)
theorem jl_a_ldc2 (c i pc : Nat) {ls st : List Value} {σ : pS} {t : pT} (h : a_ldc2 c i pc ls st σ = some t) : ∃ c, t = .inl c := by
  unfold a_ldc2 at h
  repeat' (split at h)
  all_goals first | exact jm_l h | exact jo_l h | (cases h; done)
theorem jl_a_iald (pc : Nat) {ls st : List Value} {σ : pS} {t : pT} (h : a_iald pc ls st σ = some t) : ∃ c, t = .inl c := by
  unfold a_iald at h
  repeat' (split at h)
  all_goals first | exact jm_l h | exact jo_l h | (cases h; done)
theorem jl_a_iast (pc : Nat) {ls st : List Value} {σ : pS} {t : pT} (h : a_iast pc ls st σ = some t) : ∃ c, t = .inl c := by
  unfold a_iast at h
  repeat' (split at h)
  all_goals first | exact jm_l h | exact jo_l h | (cases h; done)
theorem jl_a_lald (pc : Nat) {ls st : List Value} {σ : pS} {t : pT} (h : a_lald pc ls st σ = some t) : ∃ c, t = .inl c := by
  unfold a_lald at h
  repeat' (split at h)
  all_goals first | exact jm_l h | exact jo_l h | (cases h; done)
theorem jl_a_last (pc : Nat) {ls st : List Value} {σ : pS} {t : pT} (h : a_last pc ls st σ = some t) : ∃ c, t = .inl c := by
  unfold a_last at h
  repeat' (split at h)
  all_goals first | exact jm_l h | exact jo_l h | (cases h; done)
theorem jl_a_aald (pc : Nat) {ls st : List Value} {σ : pS} {t : pT} (h : a_aald pc ls st σ = some t) : ∃ c, t = .inl c := by
  unfold a_aald at h
  repeat' (split at h)
  all_goals first | exact jm_l h | exact jo_l h | (cases h; done)
theorem jl_a_aast (pc : Nat) {ls st : List Value} {σ : pS} {t : pT} (h : a_aast pc ls st σ = some t) : ∃ c, t = .inl c := by
  unfold a_aast at h
  repeat' (split at h)
  all_goals first | exact jm_l h | exact jo_l h | (cases h; done)
theorem jl_a_bald (pc : Nat) {ls st : List Value} {σ : pS} {t : pT} (h : a_bald pc ls st σ = some t) : ∃ c, t = .inl c := by
  unfold a_bald at h
  repeat' (split at h)
  all_goals first | exact jm_l h | exact jo_l h | (cases h; done)
theorem jl_a_alen (pc : Nat) {ls st : List Value} {σ : pS} {t : pT} (h : a_alen pc ls st σ = some t) : ∃ c, t = .inl c := by
  unfold a_alen at h
  repeat' (split at h)
  all_goals first | exact jm_l h | exact jo_l h | (cases h; done)
theorem jl_a_newa (kc dl pc : Nat) {ls st : List Value} {σ : pS} {t : pT} (h : a_newa kc dl pc ls st σ = some t) : ∃ c, t = .inl c := by
  unfold a_newa at h
  repeat' (split at h)
  all_goals first | exact jm_l h | exact jo_l h | (cases h; done)
theorem jl_a_stat (c i pc : Nat) {ls st : List Value} {σ : pS} {t : pT} (h : a_stat c i pc ls st σ = some t) : ∃ c, t = .inl c := by
  unfold a_stat at h
  repeat' (split at h)
  all_goals first | exact jm_l h | exact jo_l h | (cases h; done)
theorem jl_a_copy (pc : Nat) {ls st : List Value} {σ : pS} {t : pT} (h : a_copy pc ls st σ = some t) : ∃ c, t = .inl c := by
  unfold a_copy at h
  repeat' (split at h)
  all_goals first | exact jm_l h | exact jo_l h | (cases h; done)
theorem jl_a_math (k pc : Nat) {ls st : List Value} {σ : pS} {t : pT} (h : a_math k pc ls st σ = some t) : ∃ c, t = .inl c := by
  unfold a_math at h
  repeat' (split at h)
  all_goals first | exact jm_l h | exact jo_l h | (cases h; done)
theorem jl_a_obj (pc : Nat) {ls st : List Value} {σ : pS} {t : pT} (h : a_obj pc ls st σ = some t) : ∃ c, t = .inl c := by
  unfold a_obj at h
  repeat' (split at h)
  all_goals first | exact jm_l h | exact jo_l h | (cases h; done)
theorem jl_a_dup (pc : Nat) {ls st : List Value} {σ : pS} {t : pT} (h : a_dup pc ls st σ = some t) : ∃ c, t = .inl c := by
  unfold a_dup at h
  repeat' (split at h)
  all_goals first | exact jm_l h | exact jo_l h | (cases h; done)
theorem jl_a_pop (pc : Nat) {ls st : List Value} {σ : pS} {t : pT} (h : a_pop pc ls st σ = some t) : ∃ c, t = .inl c := by
  unfold a_pop at h
  repeat' (split at h)
  all_goals first | exact jm_l h | exact jo_l h | (cases h; done)
theorem jl_a_dup2 (pc : Nat) {ls st : List Value} {σ : pS} {t : pT} (h : a_dup2 pc ls st σ = some t) : ∃ c, t = .inl c := by
  unfold a_dup2 at h
  repeat' (split at h)
  all_goals first | exact jm_l h | exact jo_l h | (cases h; done)
theorem jl_a_get (c i pc : Nat) {ls st : List Value} {σ : pS} {t : pT} (h : a_get c i pc ls st σ = some t) : ∃ c, t = .inl c := by
  unfold a_get a_getT a_getO at h
  repeat' (split at h)
  all_goals first | exact jm_l h | exact jo_l h | (cases h; done)
theorem jl_a_put (ini : Bool) (c i pc : Nat) {ls st : List Value} {σ : pS} {t : pT} (h : a_put ini c i pc ls st σ = some t) : ∃ c, t = .inl c := by
  unfold a_put a_putO at h
  repeat' (split at h)
  all_goals first | exact jm_l h | exact jo_l h | (cases h; done)
theorem thr_nc {b x pc : Nat} {st : List Value} {σ : pS} {q : pL} : a_thr b x pc st σ ≠ some (.inr (.inr q)) := by
  unfold a_thr
  repeat' split
  all_goals intro h; cases h
theorem new_nc {b i pc : Nat} {ls st : List Value} {σ : pS} {q : pL} : a_new b i pc ls st σ ≠ some (.inr (.inr q)) := by
  unfold a_new
  repeat' split
  · exact thr_nc
  · intro h; obtain ⟨_, h⟩ := jm_l h; cases h
  · intro h; cases h
  · intro h; cases h
theorem ret_nc {b : Nat} {st : List Value} {σ : pS} {q : pL} : a_ret b st σ ≠ some (.inr (.inr q)) := by
  unfold a_ret
  repeat' split
  all_goals intro h; cases h
theorem retJ_nc {b : Nat} {st : List Value} {σ : pS} {q : pL} : a_retJ b st σ ≠ some (.inr (.inr q)) := by
  unfold a_retJ
  repeat' split
  all_goals intro h; cases h
theorem retA_nc {b : Nat} {st : List Value} {σ : pS} {q : pL} : a_retA b st σ ≠ some (.inr (.inr q)) := by
  unfold a_retA
  repeat' split
  all_goals intro h; cases h
theorem retV_nc {b : Nat} {st : List Value} {σ : pS} {q : pL} : a_retV b st σ ≠ some (.inr (.inr q)) := by
  unfold a_retV
  repeat' split
  all_goals intro h; cases h
/-- a call's shape -/
def CallS (b' pc : Nat) (ls st : List Value) (σ : pS) (n : Nat) (rc : Prop) (q : pL) : Prop :=
  ∃ av rest, q = (b', av, pc, ls, rest, σ) ∧ st = av.reverse ++ rest ∧ av.length = n ∧ okR rest ∧ (flt av).length ≤ mxl b' ∧ (rc → ∃ a as, av = .ref a :: as ∧ rcv b' a = true)
theorem inv_sh {b' pc n : Nat} {ls st : List Value} {σ : pS} {w : List Value × List Value} {q : pL} (ht : tk n st = some w) (h : a_inv b' pc w.1.reverse ls w.2 σ = some (.inr (.inr q))) : CallS b' pc ls st σ n False q := by
  obtain ⟨a, r⟩ := w
  obtain ⟨e1, e2⟩ := tk_spec ht
  unfold a_inv at h
  split at h
  · rename_i h9
    cases h
    exact ⟨a.reverse, r, rfl, by rw [List.reverse_reverse]; exact e1, by rw [List.length_reverse]; exact e2, okR_of h9.2, Nat.le_of_ble_eq_true h9.1, fun h => h.elim⟩
  · cases h
theorem invR_sh {b' pc n : Nat} {ls st : List Value} {σ : pS} {w : List Value × List Value} {q : pL} (ht : tk n st = some w) (h : a_invR b' pc w.1.reverse ls w.2 σ = some (.inr (.inr q))) : CallS b' pc ls st σ n True q := by
  unfold a_invR at h
  split at h
  · rename_i a as e9
    split at h
    · rename_i h8
      rw [← e9] at h
      obtain ⟨av, rest, g1, g2, g3, g4, g5, -⟩ := inv_sh ht h
      refine ⟨av, rest, g1, g2, g3, g4, g5, fun _ => ⟨a, as, ?_, h8⟩⟩
      have g6 : av = w.1.reverse := by
        unfold a_inv at h
        split at h
        · cases h; cases g1; rfl
        · cases h
      rw [g6]; exact e9
    · cases h
  · cases h
theorem call_sh {op c i pc : Nat} {ls st : List Value} {σ : pS} {q : pL} (h : a_call op c i pc ls st σ = some (.inr (.inr q))) : ∃ b' n kd' x, plM c i = some (b', n, kd', x) ∧ ((op = 0 ∧ kd' = 0) ∨ (op = 1 ∧ (kd' = 1 ∨ kd' = 9)) ∨ (op = 2 ∧ (kd' = 2 ∨ kd' = 3))) ∧ CallS b' pc ls st σ n (op ≠ 1) q := by
  unfold a_call at h
  split at h
  · rename_i b' n kd' x e9
    split at h
    · split at h
      · rename_i w hw
        obtain ⟨av, rest, g⟩ := invR_sh hw h
        exact ⟨b', n, 0, x, e9, Or.inl ⟨rfl, rfl⟩, av, rest, g.1, g.2.1, g.2.2.1, g.2.2.2.1, g.2.2.2.2.1, fun _ => g.2.2.2.2.2 trivial⟩
      · cases h
    · split at h
      · rename_i w hw
        obtain ⟨av, rest, g⟩ := inv_sh hw h
        exact ⟨b', n, 1, x, e9, Or.inr (Or.inl ⟨rfl, Or.inl rfl⟩), av, rest, g.1, g.2.1, g.2.2.1, g.2.2.2.1, g.2.2.2.2.1, fun h => absurd rfl h⟩
      · cases h
    · split at h
      · rename_i w hw
        obtain ⟨av, rest, g⟩ := inv_sh hw h
        exact ⟨b', n, 9, x, e9, Or.inr (Or.inl ⟨rfl, Or.inr rfl⟩), av, rest, g.1, g.2.1, g.2.2.1, g.2.2.2.1, g.2.2.2.2.1, fun h => absurd rfl h⟩
      · cases h
    · obtain ⟨_, h⟩ := jl_a_copy _ h; cases h
    · obtain ⟨_, h⟩ := jl_a_math _ _ h; cases h
    · obtain ⟨_, h⟩ := jl_a_math _ _ h; cases h
    · obtain ⟨_, h⟩ := jl_a_math _ _ h; cases h
    · split at h
      · rename_i w hw
        obtain ⟨av, rest, g⟩ := invR_sh hw h
        exact ⟨b', n, 2, x, e9, Or.inr (Or.inr ⟨rfl, Or.inl rfl⟩), av, rest, g.1, g.2.1, g.2.2.1, g.2.2.2.1, g.2.2.2.2.1, fun _ => g.2.2.2.2.2 trivial⟩
      · cases h
    · split at h
      · rename_i w hw
        obtain ⟨av, rest, g⟩ := invR_sh hw h
        exact ⟨b', n, 3, x, e9, Or.inr (Or.inr ⟨rfl, Or.inr rfl⟩), av, rest, g.1, g.2.1, g.2.2.1, g.2.2.2.1, g.2.2.2.2.1, fun _ => g.2.2.2.2.2 trivial⟩
      · cases h
    · obtain ⟨_, h⟩ := jl_a_obj _ h; cases h
    · cases h
  · cases h
theorem stp_call {b pc : Nat} {ls st : List Value} {σ : pS} {q : pL} (hs : stp b pc ls st σ = some (.inr (.inr q))) : ∃ i ins op b' n kd' x, cd b pc = some (ins, 3) ∧ plM (po b) i = some (b', n, kd', x) ∧ ((op = 0 ∧ kd' = 0 ∧ ins = .invokevirtual i) ∨ (op = 1 ∧ (kd' = 1 ∨ kd' = 9) ∧ ins = .invokestatic i) ∨ (op = 2 ∧ (kd' = 2 ∨ kd' = 3) ∧ ins = .invokespecial i)) ∧ CallS b' pc ls st σ n (op ≠ 1) q := by
  unfold stp at hs
  split at hs
  · rename_i q9 hq
    obtain ⟨i, len⟩ := q9
    dsimp only at hs
    unfold stpI at hs
    split at hs
    all_goals obtain ⟨hln, hs⟩ := ln_some hs
    all_goals first
      | (obtain ⟨_, h9⟩ := jm_l hs; cases h9; done)
      | (obtain ⟨_, h9⟩ := jo_l hs; cases h9; done)
      | (obtain ⟨_, h9⟩ := jl_a_ldI _ _ _ hs; cases h9; done)
      | (obtain ⟨_, h9⟩ := jl_a_ldJ _ _ _ hs; cases h9; done)
      | (obtain ⟨_, h9⟩ := jl_a_ldA _ _ _ hs; cases h9; done)
      | (obtain ⟨_, h9⟩ := jl_a_stI _ _ _ hs; cases h9; done)
      | (obtain ⟨_, h9⟩ := jl_a_stJ _ _ _ hs; cases h9; done)
      | (obtain ⟨_, h9⟩ := jl_a_stA _ _ _ hs; cases h9; done)
      | (obtain ⟨_, h9⟩ := jl_a_bin _ _ hs; cases h9; done)
      | (obtain ⟨_, h9⟩ := jl_a_binJ _ _ hs; cases h9; done)
      | (obtain ⟨_, h9⟩ := jl_a_div _ _ hs; cases h9; done)
      | (obtain ⟨_, h9⟩ := jl_a_divJ _ _ hs; cases h9; done)
      | (obtain ⟨_, h9⟩ := jl_a_un _ _ hs; cases h9; done)
      | (obtain ⟨_, h9⟩ := jl_a_l2i _ hs; cases h9; done)
      | (obtain ⟨_, h9⟩ := jl_a_lcmp _ hs; cases h9; done)
      | (obtain ⟨_, h9⟩ := jl_a_if _ _ _ hs; cases h9; done)
      | (obtain ⟨_, h9⟩ := jl_a_icmp _ _ _ hs; cases h9; done)
      | (obtain ⟨_, h9⟩ := jl_a_inc _ _ _ hs; cases h9; done)
      | (obtain ⟨_, h9⟩ := jl_a_tab _ _ _ _ _ hs; cases h9; done)
      | (obtain ⟨_, h9⟩ := jl_a_lsw _ _ _ hs; cases h9; done)
      | (obtain ⟨_, h9⟩ := jl_a_ldc _ _ _ _ _ hs; cases h9; done)
      | (obtain ⟨_, h9⟩ := jl_a_ldc2 _ _ _ hs; cases h9; done)
      | (obtain ⟨_, h9⟩ := jl_a_iald _ hs; cases h9; done)
      | (obtain ⟨_, h9⟩ := jl_a_iast _ hs; cases h9; done)
      | (obtain ⟨_, h9⟩ := jl_a_lald _ hs; cases h9; done)
      | (obtain ⟨_, h9⟩ := jl_a_last _ hs; cases h9; done)
      | (obtain ⟨_, h9⟩ := jl_a_aald _ hs; cases h9; done)
      | (obtain ⟨_, h9⟩ := jl_a_aast _ hs; cases h9; done)
      | (obtain ⟨_, h9⟩ := jl_a_bald _ hs; cases h9; done)
      | (obtain ⟨_, h9⟩ := jl_a_alen _ hs; cases h9; done)
      | (obtain ⟨_, h9⟩ := jl_a_newa _ _ _ hs; cases h9; done)
      | (obtain ⟨_, h9⟩ := jl_a_stat _ _ _ hs; cases h9; done)
      | (obtain ⟨_, h9⟩ := jl_a_copy _ hs; cases h9; done)
      | (obtain ⟨_, h9⟩ := jl_a_math _ _ hs; cases h9; done)
      | (obtain ⟨_, h9⟩ := jl_a_obj _ hs; cases h9; done)
      | (obtain ⟨_, h9⟩ := jl_a_dup _ hs; cases h9; done)
      | (obtain ⟨_, h9⟩ := jl_a_pop _ hs; cases h9; done)
      | (obtain ⟨_, h9⟩ := jl_a_dup2 _ hs; cases h9; done)
      | (obtain ⟨_, h9⟩ := jl_a_get _ _ _ hs; cases h9; done)
      | (obtain ⟨_, h9⟩ := jl_a_put _ _ _ _ hs; cases h9; done)
      | exact absurd hs new_nc | exact absurd hs ret_nc | exact absurd hs retJ_nc | exact absurd hs retA_nc | exact absurd hs retV_nc
      | (cases hs; done)
      | (subst hln; obtain ⟨b', n, kd', x, h1, h2, h3⟩ := call_sh hs; rcases h2 with ⟨h2, h4⟩ | ⟨h2, h4⟩ | ⟨h2, h4⟩
         · exact ⟨_, _, 0, b', n, kd', x, hq, h1, Or.inl ⟨rfl, h4, rfl⟩, h3⟩
         · exfalso; omega
         · exfalso; omega)
      | (subst hln; obtain ⟨b', n, kd', x, h1, h2, h3⟩ := call_sh hs; rcases h2 with ⟨h2, h4⟩ | ⟨h2, h4⟩ | ⟨h2, h4⟩
         · exfalso; omega
         · exact ⟨_, _, 1, b', n, kd', x, hq, h1, Or.inr (Or.inl ⟨rfl, h4, rfl⟩), h3⟩
         · exfalso; omega)
      | (subst hln; obtain ⟨b', n, kd', x, h1, h2, h3⟩ := call_sh hs; rcases h2 with ⟨h2, h4⟩ | ⟨h2, h4⟩ | ⟨h2, h4⟩
         · exfalso; omega
         · exfalso; omega
         · exact ⟨_, _, 2, b', n, kd', x, hq, h1, Or.inr (Or.inr ⟨rfl, h4, rfl⟩), h3⟩)
      | (split at hs
         · obtain ⟨_, h9⟩ := jl_a_newa _ _ _ hs; cases h9
         · cases hs)
  · cases hs
variable {p : Program} {l : Launch} {e : Jvm.Env} {R : Room} {s : State} {m : MethodId} {args : Array Value} {below : List Frame} {meth : Method} {c : Code} {Q : State → Prop} {z : Nat} {G : pG} {nv : Value} {c0 s0 n0 : Nat} {ad0 : Nat → Nat} {sc : Nat × (Nat → Int32)}
theorem call_ne {op c i pc : Nat} {ls st : List Value} {σ : pS} {y : pZ} : a_call op c i pc ls st σ ≠ some (.inr (.inl y)) := by
  intro h
  unfold a_call at h
  repeat' (split at h)
  all_goals first
    | (unfold a_invR a_inv at h; repeat' (split at h)
       all_goals cases h
       done)
    | (unfold a_inv at h; repeat' (split at h)
       all_goals cases h
       done)
    | (obtain ⟨_, h9⟩ := jl_a_copy _ h; cases h9; done)
    | (obtain ⟨_, h9⟩ := jl_a_math _ _ h; cases h9; done)
    | (obtain ⟨_, h9⟩ := jl_a_obj _ h; cases h9; done)
    | (cases h; done)
theorem thr_ok {b x pc : Nat} {st : List Value} {σ : pS} {t : pT} (h : a_thr b x pc st σ = some t) : okR st := by
  unfold a_thr at h
  repeat' (split at h)
  all_goals first | (rename_i h9; exact okR_of h9.2.2) | (cases h; done)
/-- a method's end -/
theorem stp_end {b pc : Nat} {ls st : List Value} {σ : pS} {y : pZ} (hs : stp b pc ls st σ = some (.inr (.inl y))) : (∃ v ty, cd b pc = some (.ireturn, 1) ∧ st = [.int v] ∧ rty b = some ty ∧ narrow ty (.int v) = .int v ∧ y = (1, .int v, σ)) ∨ (∃ v, cd b pc = some (.lreturn, 1) ∧ st = [.long v] ∧ rty b = some .long ∧ y = (1, .long v, σ)) ∨ (∃ v o, cd b pc = some (.areturn, 1) ∧ st = [.ref v] ∧ rty b = some (.object o) ∧ y = (1, .ref v, σ)) ∨ (cd b pc = some (.return_, 1) ∧ st = [] ∧ rty b = none ∧ y = (0, .null, σ)) ∨ (∃ k x pl, cd b pc = some (.new k, 3) ∧ plK (po b) k = some (x, pl) ∧ 100 ≤ x ∧ a_thr b x pc st σ = some (.inr (.inl y))) := by
  unfold stp at hs
  split at hs
  · rename_i q9 hq
    obtain ⟨i, len⟩ := q9
    dsimp only at hs
    unfold stpI at hs
    split at hs
    all_goals obtain ⟨hln, hs⟩ := ln_some hs
    all_goals first
      | (obtain ⟨_, h9⟩ := jm_l hs; cases h9; done)
      | (obtain ⟨_, h9⟩ := jo_l hs; cases h9; done)
      | (obtain ⟨_, h9⟩ := jl_a_ldI _ _ _ hs; cases h9; done)
      | (obtain ⟨_, h9⟩ := jl_a_ldJ _ _ _ hs; cases h9; done)
      | (obtain ⟨_, h9⟩ := jl_a_ldA _ _ _ hs; cases h9; done)
      | (obtain ⟨_, h9⟩ := jl_a_stI _ _ _ hs; cases h9; done)
      | (obtain ⟨_, h9⟩ := jl_a_stJ _ _ _ hs; cases h9; done)
      | (obtain ⟨_, h9⟩ := jl_a_stA _ _ _ hs; cases h9; done)
      | (obtain ⟨_, h9⟩ := jl_a_bin _ _ hs; cases h9; done)
      | (obtain ⟨_, h9⟩ := jl_a_binJ _ _ hs; cases h9; done)
      | (obtain ⟨_, h9⟩ := jl_a_div _ _ hs; cases h9; done)
      | (obtain ⟨_, h9⟩ := jl_a_divJ _ _ hs; cases h9; done)
      | (obtain ⟨_, h9⟩ := jl_a_un _ _ hs; cases h9; done)
      | (obtain ⟨_, h9⟩ := jl_a_l2i _ hs; cases h9; done)
      | (obtain ⟨_, h9⟩ := jl_a_lcmp _ hs; cases h9; done)
      | (obtain ⟨_, h9⟩ := jl_a_if _ _ _ hs; cases h9; done)
      | (obtain ⟨_, h9⟩ := jl_a_icmp _ _ _ hs; cases h9; done)
      | (obtain ⟨_, h9⟩ := jl_a_inc _ _ _ hs; cases h9; done)
      | (obtain ⟨_, h9⟩ := jl_a_tab _ _ _ _ _ hs; cases h9; done)
      | (obtain ⟨_, h9⟩ := jl_a_lsw _ _ _ hs; cases h9; done)
      | (obtain ⟨_, h9⟩ := jl_a_ldc _ _ _ _ _ hs; cases h9; done)
      | (obtain ⟨_, h9⟩ := jl_a_ldc2 _ _ _ hs; cases h9; done)
      | (obtain ⟨_, h9⟩ := jl_a_iald _ hs; cases h9; done)
      | (obtain ⟨_, h9⟩ := jl_a_iast _ hs; cases h9; done)
      | (obtain ⟨_, h9⟩ := jl_a_lald _ hs; cases h9; done)
      | (obtain ⟨_, h9⟩ := jl_a_last _ hs; cases h9; done)
      | (obtain ⟨_, h9⟩ := jl_a_aald _ hs; cases h9; done)
      | (obtain ⟨_, h9⟩ := jl_a_aast _ hs; cases h9; done)
      | (obtain ⟨_, h9⟩ := jl_a_bald _ hs; cases h9; done)
      | (obtain ⟨_, h9⟩ := jl_a_alen _ hs; cases h9; done)
      | (obtain ⟨_, h9⟩ := jl_a_newa _ _ _ hs; cases h9; done)
      | (obtain ⟨_, h9⟩ := jl_a_stat _ _ _ hs; cases h9; done)
      | (obtain ⟨_, h9⟩ := jl_a_copy _ hs; cases h9; done)
      | (obtain ⟨_, h9⟩ := jl_a_math _ _ hs; cases h9; done)
      | (obtain ⟨_, h9⟩ := jl_a_obj _ hs; cases h9; done)
      | (obtain ⟨_, h9⟩ := jl_a_dup _ hs; cases h9; done)
      | (obtain ⟨_, h9⟩ := jl_a_pop _ hs; cases h9; done)
      | (obtain ⟨_, h9⟩ := jl_a_dup2 _ hs; cases h9; done)
      | (obtain ⟨_, h9⟩ := jl_a_get _ _ _ hs; cases h9; done)
      | (obtain ⟨_, h9⟩ := jl_a_put _ _ _ _ hs; cases h9; done)
      | (cases hs; done)
      | exact absurd hs call_ne
      | (split at hs
         · obtain ⟨_, h9⟩ := jl_a_newa _ _ _ hs; cases h9
         · cases hs)
      | skip
    · subst hln
      unfold a_new at hs
      split at hs
      · rename_i ci pl e9
        split at hs
        · rename_i e8
          exact Or.inr (Or.inr (Or.inr (Or.inr ⟨_, ci, pl, hq, e9, e8, hs⟩)))
        · split at hs
          · obtain ⟨_, h9⟩ := jm_l hs; cases h9
          · cases hs
      · cases hs
    · subst hln
      unfold a_ret at hs
      split at hs
      · rename_i v ty e9 e90
        split at hs
        · rename_i e8
          cases hs
          exact Or.inl ⟨v, ty, hq, rfl, e9, e8, rfl⟩
        · cases hs
      · cases hs
    · subst hln
      unfold a_retJ at hs
      split at hs
      · rename_i v e9 e90
        cases hs
        exact Or.inr (Or.inl ⟨v, hq, rfl, e9, rfl⟩)
      · cases hs
    · subst hln
      unfold a_retA at hs
      split at hs
      · rename_i v o e9 e90
        cases hs
        exact Or.inr (Or.inr (Or.inl ⟨v, o, hq, rfl, e9, rfl⟩))
      · cases hs
    · subst hln
      unfold a_retV at hs
      split at hs
      · rename_i e9 e90
        cases hs
        exact Or.inr (Or.inr (Or.inr (Or.inl ⟨hq, rfl, e9, rfl⟩)))
      · cases hs
  · cases hs
theorem g_end {b k pc : Nat} {ls st : List Value} {σ σ0 : pS} {y : pZ} {mc ms : Nat} (hC : Cx b k p l R s m args meth c z G nv sc ad0) (hret : meth.sig.returnType = rty b) (hlb : ls.length = mxl b) (hs : stp b pc ls st σ = some (.inr (.inl y))) (hn0 : n0 = pn σ0) (hmc : pcl y.2.2 = c0 + mc) (hms : psl y.2.2 = s0 + ms) (hR : mc ≤ R.cells ∧ ms ≤ R.slots) (a9 : Array Value) (ha9 : a9 = args) :
    Go p l e R s m args below meth c (vx_MQ below (QcM z G nv ad0 σ0 y) (XcM z G ad0 σ0 y) a9 s mc ms (fun q => z ≤ q)) z G nv c0 s0 n0 ad0 pc ls st σ := by
  subst ha9
  have hC0 := hC
  obtain ⟨hx, hb, hml, hown, hts, hlk, hRf, hRl, hin, htab, htr, hK, hEn, hz, hnv, hb4, hAO⟩ := hC
  have key : ∀ {ad : Nat → Nat} {H : Heap} {locs : List Loc} {lsM : Array Slot} {w : List Value}, n0 ≤ pn σ → (∀ a, (a < n0 ∨ 1000 ≤ a) → ad a = ad0 a) → WF σ ls w → RL z G ad nv s σ ls H locs lsM → y.2.2 = σ → ∀ t : State, t.heap = H → EndM z G ad0 σ0 y s t ad w := by
    intro ad H locs lsM w h0 h1 hw hr hy t ht
    refine ⟨fun a ha => h1 a (by omega), by rw [hy]; omega, by rw [hy]; exact ⟨hw.1, fun v hv => (by cases hv), hw.2.2⟩, by rw [hy, ht]; exact hr.1, by rw [hy]; exact hr.2.1, hr.2.2.1.F ht⟩
  rcases stp_end hs with ⟨v, ty, g1, rfl, g3, g4, rfl⟩ | ⟨v, g1, rfl, g3, rfl⟩ | ⟨v, o, g1, rfl, g3, rfl⟩ | ⟨g1, rfl, g3, rfl⟩ | ⟨k9, x, pl, g1, g2, g3, g4⟩
  · intro ad H locs lsM cells slots h0 h1 hw hr hc hsl
    have e1 : cells = mc := by have : pcl σ = c0 + mc := hmc; omega
    have e2 : slots = ms := by have : psl σ = s0 + ms := hms; omega
    subst e1; subst e2
    exact vx_ret (W.zret hx hb (by rw [hret, g3]) g4 (fun t ht _ => ⟨ad, Or.inr ⟨rfl, rfl, key h0 h1 hw hr rfl t ht⟩⟩) hr.2.2.1.2.2 (cd_dec hb4 g1) hlk)
  · intro ad H locs lsM cells slots h0 h1 hw hr hc hsl
    have e1 : cells = mc := by have : pcl σ = c0 + mc := hmc; omega
    have e2 : slots = ms := by have : psl σ = s0 + ms := hms; omega
    subst e1; subst e2
    exact vx_ret (W.lret hx hb (by rw [hret, g3]) (fun t ht _ => ⟨ad, Or.inr ⟨rfl, rfl, key h0 h1 hw hr rfl t ht⟩⟩) hr.2.2.1.2.2 (cd_dec hb4 g1) hlk)
  · intro ad H locs lsM cells slots h0 h1 hw hr hc hsl
    have e1 : cells = mc := by have : pcl σ = c0 + mc := hmc; omega
    have e2 : slots = ms := by have : psl σ = s0 + ms := hms; omega
    subst e1; subst e2
    exact vx_ret (W.aret hx hb (by rw [hret, g3]) (Or.inl ⟨o, rfl⟩) (Or.inr ⟨_, rfl⟩) (fun t ht _ => ⟨ad, Or.inr ⟨rfl, rfl, key h0 h1 hw hr rfl t ht⟩⟩) hr.2.2.1.2.2 (cd_dec hb4 g1) hlk)
  · intro ad H locs lsM cells slots h0 h1 hw hr hc hsl
    have e1 : cells = mc := by have : pcl σ = c0 + mc := hmc; omega
    have e2 : slots = ms := by have : psl σ = s0 + ms := hms; omega
    subst e1; subst e2
    exact vx_ret (W.vret hx hb (by rw [hret, g3]) (fun t ht _ => ⟨ad, Or.inl ⟨rfl, rfl, key h0 h1 hw hr rfl t ht⟩⟩) hr.2.2.1.2.2 (cd_dec hb4 g1) hlk)
  · exact g_thr hC0 hlb g2 g3 g4 (thr_ok g4) (lv_12 hb4) (cd_dec hb4 g1) hn0 hmc hms hR
/-- exceptions are of the two classes -/
theorem thr_k {b x pc : Nat} {st : List Value} {σ : pS} {y : pZ} (h : a_thr b x pc st σ = some (.inr (.inl y))) : y = (x - 98, .null, sX σ) := by
  unfold a_thr at h
  repeat' (split at h)
  all_goals first | (cases h; rfl) | (cases h; done)
/-- a run of a body, by fuel -/
theorem g_runs {b k : Nat} {σ0 : pS} {y : pZ} {mc ms : Nat} (hC : Cx b k p l R s m args meth c z G nv sc ad0) (hret : meth.sig.returnType = rty b) (hn0 : n0 = pn σ0) (hmc : pcl y.2.2 = c0 + mc) (hms : psl y.2.2 = s0 + ms) (hR : mc ≤ R.cells ∧ ms ≤ R.slots)
    (hM : ∀ (b' k' : Nat) (av : List Value) (σ : pS) (y' : pZ) (f : Nat) (ad : Nat → Nat), lv b' k' < lv b k → b' < 353 → ev f b' k' 0 (elo (mxl b') av) [] σ = some y' → WF σ [] av → (flt av).length ≤ mxl b' → psc σ = sc → vx_Met l (yM b') (wsM b') (rmM b' k' (pcl y'.2.2 - pcl σ) (psl y'.2.2 - psl σ)) (PcM z G nv sc ad σ av) (QcM z G nv ad σ y') (XcM z G ad σ y') (pcl y'.2.2 - pcl σ) (psl y'.2.2 - psl σ) (fun q => z ≤ q))
    (hend : ∀ (pc : Nat) (ls st : List Value) (σ : pS), ls.length = mxl b → stp b pc ls st σ = some (.inr (.inl y)) → Go p l e R s m args below meth c Q z G nv c0 s0 n0 ad0 pc ls st σ)
    (hxout : ∀ (pc : Nat) (ls : List Value) (k' : Nat) (σ : pS), k' < 2 → hnd b pc k' = none → y = (k' + 2, .null, σ) → Gx p l e R s m args below meth c Q z G nv c0 s0 n0 ad0 pc ls k' σ) :
    ∀ (f : Nat) (pc : Nat) (ls st : List Value) (σ : pS), ev f b k pc ls st σ = some y → ls.length = mxl b → psc σ = sc → Go p l e R s m args below meth c Q z G nv c0 s0 n0 ad0 pc ls st σ := by
  have hC0 := hC
  obtain ⟨hx, hb, hml, hown, hts, hlk, hRf, hRl, hin, htab, htr, hK, hEn, hz, hnv, hb4, hAO⟩ := hC
  intro f
  induction f with
  | zero => intro pc ls st σ h; cases h
  | succ f ih =>
    intro pc ls st σ h hlb hpsc
    rw [ev] at h
    split at h
    · cases h
    · rename_i c' hs
      have hg := gt_stp hs
      have hgr := ev_gr h
      exact g_step hC0 hlb hpsc hs ⟨by have := hgr.1; omega, by have := hgr.2.1; omega⟩ (ih _ _ _ _ h (by rw [hg.2]; exact hlb) (by rw [hg.1.2.2]; exact hpsc))
    · rename_i y' hs
      cases h
      exact hend pc ls st σ hlb hs
    · rename_i q hs
      have hsh := stp_call hs
      obtain ⟨i, ins, op, b', n, kd', x, hcd, hp, hkind, av, rest, rfl, hst, hlen, hok, hfl, hrc⟩ := hsh
      dsimp only at h
      split at h
      · rename_i hlv
        split at h
        · cases h
        · rename_i y' he
          have hgc := ev_gr he
          have hy' : pcl y'.2.2 ≤ pcl y.2.2 ∧ psl y'.2.2 ≤ psl y.2.2 := by
            split at h
            · cases h
            · rename_i c' ha
              have h9 := ev_gr h
              rw [(aft_inl ha).1] at h9
              exact ⟨h9.1, h9.2.1⟩
            · rename_i y9 ha
              cases h
              rw [aft_inr ha]
              exact ⟨Nat.le_refl _, Nat.le_refl _⟩
          have hb'3 : b' < 353 := by
            have hI := plM_ok hp
            rcases hkind with ⟨-, rfl, -⟩ | ⟨-, rfl | rfl, -⟩ | ⟨-, rfl | rfl, -⟩ <;> simp only [okI, Bool.and_eq_true, decide_eq_true_eq] at hI
            · exact hI.1.1.1.1
            · exact hI.1.1
            · exact hI.1.1.1
            · exact hI.1.1.1.1
            · exact hI.1.1.1.1
          intro ad H locs lsM cells slots h0 h1 hw hr hc hsl
          have hwav : WF σ [] av := ⟨hw.1, fun v hv => (by cases hv), fun v hv => hw.2.2.1 v (by rw [hst]; exact List.mem_append_left _ (List.mem_reverse.mpr hv)), hw.2.2.2⟩
          refine g_call (Q := Q) (n0 := n0) (ad0 := ad0) (c0 := c0) (s0 := s0) hC0 hp hkind (cd_dec hb4 hcd) hst hlen hrc hok hlv hlb (y := y') (fun ad => hM b' _ av σ y' f ad hlv hb'3 he hwav hfl hpsc) ⟨hgc.1, hgc.2.1⟩ ⟨by have := hy'.1; omega, by have := hy'.2; omega⟩ (fun h0y => ?_) (fun h1y => ?_) (fun k' hky hk2 => ?_) ad H locs lsM cells slots h0 h1 hw hr hc hsl
          · obtain ⟨yn, yv, yσ⟩ := y'
            dsimp only at h0y hgc h
            subst h0y
            exact ih _ _ _ _ h hlb (by rw [hgc.2.2]; exact hpsc)
          · obtain ⟨yn, yv, yσ⟩ := y'
            dsimp only at h1y hgc h
            subst h1y
            exact ih _ _ _ _ h hlb (by rw [hgc.2.2]; exact hpsc)
          · obtain ⟨yn, yv, yσ⟩ := y'
            dsimp only at hky hgc h
            subst hky
            unfold aft at h
            dsimp only at h
            cases hh : hnd b pc k' with
            | none =>
              rw [hh] at h
              dsimp only at h
              cases h
              exact hxout pc ls k' yσ hk2 hh rfl
            | some hp9 =>
              rw [hh] at h
              dsimp only at h
              split at h
              · cases h
              · rename_i c' ha
                split at ha
                · rename_i j9 e9
                  split at ha
                  · rename_i e8
                    cases ha
                    exact g_catch hb4 hx hb hts hown hEn htab hk2 hh (Or.inl ⟨rfl, rfl⟩) (cd_dec hb4 e9) e8 (ih _ _ _ _ h (by simpa using hlb) (by rw [hgc.2.2]; exact hpsc))
                  · cases ha
                · rename_i j9 e9
                  split at ha
                  · rename_i e8
                    cases ha
                    exact g_catch hb4 hx hb hts hown hEn htab hk2 hh (Or.inr ⟨j9, rfl, rfl, rfl⟩) (cd_dec hb4 e9) e8 (ih _ _ _ _ h (by simpa using hlb) (by rw [hgc.2.2]; exact hpsc))
                  · cases ha
                · cases ha
              · rename_i y9 ha
                split at ha
                · split at ha <;> cases ha
                · split at ha <;> cases ha
                · cases ha
      · cases h
/-- every method does what the pure machine does: by levels -/
theorem snd_all (hl : l.stackTraces = false) (hnv : nv.category = 1) : ∀ (L b k : Nat) (av : List Value) (σ : pS) (y : pZ) (f : Nat) (ad : Nat → Nat), lv b k ≤ L → b < 353 → ev f b k 0 (elo (mxl b) av) [] σ = some y → WF σ [] av → (flt av).length ≤ mxl b → psc σ = sc →
    vx_Met l (yM b) (wsM b) (rmM b k (pcl y.2.2 - pcl σ) (psl y.2.2 - psl σ)) (PcM z G nv sc ad σ av) (QcM z G nv ad σ y) (XcM z G ad σ y) (pcl y.2.2 - pcl σ) (psl y.2.2 - psl σ) (fun q => z ≤ q) := by
  intro L
  induction L with
  | zero =>
    intro b k av σ y f ad h1 h2
    have := lv_12 (b := b) (k := k) (by omega)
    omega
  | succ L ih =>
    intro b k av σ y f ad hL hb3 hev hw hfl hpsc
    have hN := okN_at (show b < 354 by omega)
    have ho := own_ok hN.1 hN.2.1
    have hgr := ev_gr hev
    have body : ∀ (p : Program) (e : Jvm.Env) (s : State) (m : MethodId) (args : Array Value) (below : List Frame) (meth : Method) (c : Code) (s₁ : State), BodyLoose p l (yM b) (headSpec (wsM b) (rmM b k (pcl y.2.2 - pcl σ) (psl y.2.2 - psl σ))) (byt b) (mxl b) (rty b) e s m args below meth c s₁ → c.maxLocals = mxl b → c.exceptionTable.toList = tableOf (hns b) → PcM z G nv sc ad σ av args s →
        W p l e (headSpec (wsM b) (rmM b k (pcl y.2.2 - pcl σ) (psl y.2.2 - psl σ))).room s m args below meth c s.heap [] 0 0 (vx_MQ below (QcM z G nv ad σ y) (XcM z G ad σ y) args s (pcl y.2.2 - pcl σ) (psl y.2.2 - psl σ) (fun q => z ≤ q)) (entryFrame m args (mxl b)) := by
      intro p e s m args below meth c s₁ B hml htab hPc
      obtain ⟨rfl, hz, hP, hD, hK, hEn⟩ := hPc
      have hts : ∀ w ∈ wsM b, w.before (av.map (em ad nv)).toArray s = true := atoms_spec (ws := wsM b) B.pre
      have hC : Cx b k p l (rmM b k (pcl y.2.2 - pcl σ) (psl y.2.2 - psl σ)) s m (av.map (em ad nv)).toArray meth c z G nv sc ad :=
        ⟨B.exec, B.bytes, hml, by rw [← m_cls hb3]; exact findClass_of_methodNamed B.named, fun w hw => hts w (List.mem_cons_of_mem _ hw), B.notSynchronized, Nat.le_refl _, Nat.le_refl _, fun hi => by rw [(name_of_methodNamed B.named B.method).1]; exact of_decide_eq_true hi, htab, hl, hK, hEn, hz, hnv, by omega, hEn.2.2.2.2.2.2.2.2.2.2.2.2.2⟩
      rw [lg_entry_eq]
      have hdd : ∀ v ∈ av, ∀ x, v ≠ .double x := fun v hv x e => by
        have := hw.2.2.1 v hv
        rw [e] at this
        exact this
      have hmc : pcl y.2.2 = pcl σ + (pcl y.2.2 - pcl σ) := by have := hgr.1; omega
      have hms : psl y.2.2 = psl σ + (psl y.2.2 - psl σ) := by have := hgr.2.1; omega
      have hgo := g_runs (Q := vx_MQ below (QcM z G nv ad σ y) (XcM z G ad σ y) (av.map (em ad nv)).toArray s (pcl y.2.2 - pcl σ) (psl y.2.2 - psl σ) (fun q => z ≤ q)) (σ0 := σ) (n0 := pn σ) (c0 := pcl σ) (s0 := psl σ) (e := e) (below := below) hC B.returns rfl hmc hms ⟨Nat.le_refl _, Nat.le_refl _⟩
        (fun b' k' av' σ' y' f' ad' hlt hb' he hwf hfl' hps => ih b' k' av' σ' y' f' ad' (by omega) hb' he hwf hfl' hps)
        (fun pc ls st σ' hlb hs => g_end hC B.returns hlb hs rfl hmc hms ⟨Nat.le_refl _, Nat.le_refl _⟩ _ rfl)
        (fun pc ls k' σ' hk2 hh hy => g_out (by omega) hC.2.2.2.2.1 hC.2.2.2.1 hC.2.2.2.2.2.1 hEn htab hk2 hh rfl hy (by subst hy; exact hmc) (by subst hy; exact hms))
        f 0 (elo (mxl b) av) [] σ hev (elo_len hfl) hpsc
      refine hgo ad s.heap [] _ 0 0 (Nat.le_refl _) (fun a _ => rfl) ⟨hw.1, fun v hv => ?_, fun v hv => (by cases hv), hw.2.2.2⟩ ⟨hP, hD, va_S.rf, elo_has hnv hdd hfl⟩ (by omega) (by omega)
      rw [elo_eq] at hv
      rcases List.mem_append.mp hv with g | g
      · unfold flt at g
        obtain ⟨u, hu, hu2⟩ := List.mem_flatMap.mp g
        split at hu2
        · rcases List.mem_cons.mp hu2 with rfl | hu2
          · trivial
          · rw [List.mem_singleton.mp hu2]; trivial
        · rw [List.mem_singleton.mp hu2]; exact hw.2.2.1 _ hu
      · rw [List.eq_of_mem_replicate g]; trivial
    have hpl : plainName (yM b).cls = true := by rw [m_cls hb3]; exact ho.1
    by_cases hn : hns b = []
    · refine vx_ofW (ws' := TB) hpl (by unfold wsM; rw [cwd_nil hn]) (fun p e s m args below meth c s₁ B hml ht hPc => body p e s m args below meth c s₁ B hml ?_ hPc)
      rw [hn]
      cases he : c.exceptionTable.toList with
      | nil => rfl
      | cons a as => exact (ht a (by rw [he]; exact List.mem_cons_self)).elim
    · refine vx_ofWH (ws' := TB) (hh := hns b) hpl (by unfold wsM; rw [cwd_cons hn]) (fun p e s m args below meth c s₁ B hml hPc => body p e s m args below meth c s₁ B hml ?_ hPc)
      refine vx_table (x := yM b) B (bytes := byt b) (maxL' := mxl b) (ret' := rty b) ?_
      have := atoms_spec (ws := wsM b) B.pre _ List.mem_cons_self
      rw [cwd_cons hn] at this
      exact this
end SNDG
