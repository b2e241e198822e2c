/-! ===== drawn days: the class ===== -/
section YEARS1
variable {P T : Nat} {W R : Rl} {A B : Wd} {σ τ υ σ0 σ1 : pS} {q t p o n m k a b r w : Nat} {x : Wd × (Nat → Int32)} {x0 x1 x2 y s : Int32}
theorem Sp.m54 (s : Sp P T W R σ0 q x τ) {i : Nat} : Sp P T W R σ0 q x (sI τ 54 i y) := by
  refine ⟨s.1.mI (Or.inr (by omega)), s.2.1.fv (Fq.refl.mI (S := fun a => a = 54) (V := fun _ _ => False) rfl) (fun _ _ v => v.elim) id (fun i hi => by omega) (fun i hi => by rcases s.2.1.isp with z | z <;> omega), ?_, s.2.2.2.1, fun j hj => ?_⟩
  · have e : gI (sI τ 54 i y) 47 11 = gI τ 47 11 := gI_c (by decide)
    unfold STL
    rw [e]; exact s.2.2.1
  · rw [gI_c (by decide)]; exact s.2.2.2.2 j hj
theorem c152 (h : CN P T W R A σ0 q) (s : Sp P T W R σ0 q x τ) (hT0 : 0 < T) {sd : Int32} (e : gI τ 54 2 = drF sd) : Wp (pcall 152 [.ref 54, .int (drV sd 6)] τ) (RV (fun υ => Sp P T W R σ0 q ((smtS P T sd x.1).2, x.2) υ ∧ gI υ 54 2 = (smtS P T sd x.1).1)) := by
  have hT := h.1.1.T; have hP := h.1.1.P
  have hP0 : 0 < P := by obtain ⟨o, ho, -⟩ := h.1.1.own hT0; omega
  obtain ⟨r, hr, er⟩ := dr_ok sd (n := 6) (by omega) (by omega)
  refine Wp.le (M_152 rfl s.lay) ?_
  unfold smtS
  rw [if_neg (show ¬ T = 0 by omega), er]
  by_cases h2 : ι r ≤ ι 2
  · have h2' : ¬ ι 2 < ι r := by rw [Int32.not_lt]; exact h2
    rw [ι_le (by omega) (by omega)] at h2
    rw [if_pos (by rw [ι_le (by omega) (by omega)]; exact h2), if_neg h2', c87 (h.cq s.cq).1, bI_ret, c151 s.lay hT0 (by omega), bI_ret, e]
    obtain ⟨t, ht, et⟩ := dr_ok (drF sd) hT0 (by omega)
    have s1 := s.m54 (y := drF (drF sd)) (i := 2)
    rw [et, ix_ι (show t < 2147483648 by omega)]
    rcases (by omega : r = 0 ∨ r = 1 ∨ r = 2) with rfl | rfl | rfl
    · rw [if_neg (by decide), if_pos rfl, c86 (h.cq s1.cq).1, bI_ret, c151 s1.lay hP0 (by omega), bI_ret, gI_s]
      have s2 := s1.m54 (y := drF (drF (drF sd))) (i := 2)
      rw [c151 s2.lay (by omega) (by omega), bI_ret, gI_s]
      have s3 := s2.m54 (y := drF (drF (drF (drF sd)))) (i := 2)
      obtain ⟨p, hp, ep⟩ := dr_ok (drF (drF sd)) hP0 (by omega)
      obtain ⟨v, hv, ev⟩ := dr_ok (drF (drF (drF sd))) (n := 10) (by omega) (by omega)
      rw [ep, ev, ix_ι (show p < 2147483648 by omega)]
      have s4 := s3.anyw (m := 12 * p + t) (o := v) (by omega)
      have e95 : ∀ σ, LayR (gR σ) → pcall 95 [.ref 47, .int (ι p), .int (ι t), .int (ι v)] σ = some (0, .null, sI (sI σ (47 + 4) (12 * p + t) (ι v)) 47 11 (ι 0)) := by
        intro σ hL
        refine (M_95 (by decide) rfl hL).eq ?_
        rw [ι_mul, ι_add, Nat.mul_comm p 12, if_neg (by rw [ι_lt (by omega) (by omega)]; omega), if_neg (by rw [ι_le (by omega) (by omega)]; omega), gd_inb (by omega) (by omega), ix_ι (by omega)]
      rw [e95 _ s3.lay, bV_ret]
      exact ⟨_, rfl, _, _, rfl, s4, by rw [gI_c (by decide), gI_c (by decide), gI_s]⟩
    · rw [if_pos (by decide), if_neg (by decide), if_neg (by decide), if_pos rfl]
      have s4 := s1.any (t := t) (o := 0) (by omega) ht
      have e81 : ∀ σ, LayR (gR σ) → pcall 81 [.ref 47, .int (ι t), .int (ι 0)] σ = some (0, .null, sI (sI σ (47 + 2) t (ι 0)) 47 11 (ι 0)) := by
        intro σ hL
        refine (M_81 (by decide) rfl hL).eq ?_
        rw [if_neg (by rw [ι_lt (by omega) (by omega)]; omega), if_neg (by rw [ι_le (by omega) (by omega)]; omega), gd_inb (by omega) (by omega), ix_ι (by omega)]
      rw [e81 _ s1.lay, bV_ret]
      exact ⟨_, rfl, _, _, rfl, s4, by rw [gI_c (by decide), gI_c (by decide), gI_s]⟩
    · rw [if_pos (by decide), if_pos (by decide), if_neg (by decide), if_neg (by decide), c86 (h.cq s1.cq).1, bI_ret, c151 s1.lay hP0 (by omega), bI_ret, gI_s]
      have s2 := s1.m54 (y := drF (drF (drF sd))) (i := 2)
      obtain ⟨p, hp, ep⟩ := dr_ok (drF (drF sd)) hP0 (by omega)
      rw [ep]
      have s4 := s2.anyo (t := t) (o := p) hp ht
      have e80 : ∀ σ, LayR (gR σ) → pcall 80 [.ref 47, .int (ι t), .int (ι p)] σ = some (0, .null, sI (sI σ (47 + 1) t (ι p)) 47 11 (ι 0)) := by
        intro σ hL
        refine (M_80 (by decide) rfl hL).eq ?_
        rw [if_neg (by rw [ι_lt (by omega) (by omega)]; omega), if_neg (by rw [ι_le (by omega) (by omega)]; omega), gd_inb (by omega) (by omega), ix_ι (by omega)]
      rw [e80 _ s2.lay, bV_ret]
      exact ⟨_, rfl, _, _, rfl, s4, by rw [gI_c (by decide), gI_c (by decide), gI_s]⟩
  · have h2' : ι 2 < ι r := by rw [← Int32.not_le]; exact h2
    rw [if_neg h2, if_pos h2']
    exact ⟨_, rfl, _, _, rfl, s, e⟩
def yrG (P T : Nat) (W R : Rl) (A : Wd) (sd : Int32) (n : Nat) : Int32 × (Wd × (Nat → Int32)) := fd (fun _ z => yrF P T W R z) n (sd, (A, fun _ => ι 0))
theorem c150 (h : CN P T W R A σ0 q) (f : CQ σ0 σ) {sd : Int32} (hn : n < 2147483648) : Wp (pcall 150 [.ref 54, .int sd, .int (ι n)] σ) (RA 47 (Sp P T W R σ0 q (yrG P T W R A sd n).2)) := by
  have hT := h.1.1.T
  refine Wp.le (M_150 rfl (h.cq f).1.lay) ?_
  have f1 : CQ σ0 (sI σ 54 2 sd) := ⟨f.1.mI (Or.inr (by omega)), by rw [gI_c (by decide)]; exact f.2⟩
  refine Wp.cV (b84 h f1) fun τ s => ?_
  refine Wp.g s.1.lay ?_
  have e54 : gI τ 54 2 = sd := by rw [s.2.i (by unfold gG Sc; omega), gI_s]
  refine Wp.loop (α := Value × pS) n (fun k a => C_150_18 (.int sd) (ι n) (ι k) a.1 a.2) (fun k a => Sp P T W R σ0 q (yrG P T W R A sd k).2 a.2 ∧ gI a.2 54 2 = (yrG P T W R A sd k).1) ?_ ?_ (t := 0) (a := (.retAddr 0, τ)) (Nat.zero_le _) ⟨s.1, e54⟩
  · rintro k ⟨v, τ⟩ hk ⟨s, e⟩ c
    dsimp only at s e
    have eg : yrG P T W R A sd (k + 1) = yrF P T W R (yrG P T W R A sd k) := rfl
    rw [eg] at c
    generalize yrG P T W R A sd k = z at s e c
    refine Wp.le (T_150_18 rfl s.lay) ?_
    rw [if_neg (by rw [ι_le (by omega) (by omega)]; omega), c151 s.lay (by omega) (by omega), bI_ret, e]
    have s1 := s.m54 (y := drF z.1) (i := 2)
    rw [c87 (h.cq s1.cq).1, bI_ret]
    by_cases hz : T = 0
    · rw [if_pos (by rw [hz]; decide)]
      refine Wp.cI (b71' (⟨s1, Fq.refl⟩ : Sg P T W R σ0 _ q z.2 _)) fun υ s2 => ?_
      simp (disch := omega) only [ι_lt_t, ι_lt_f, ι_le_t, ι_le_f, ι_eq_f, ι_m1, ι_add, ι_mul, ι_pm, ι_sub, ix_ι, gd_inb, gd_t, eq_self, if_true, if_false, not_true_eq_false, not_false_eq_true, ite_self, ]
      have es : smtS P T z.1 z.2.1 = (drF z.1, z.2.1) := by unfold smtS; rw [if_pos hz]
      refine c (_, υ) ⟨?_, ?_⟩
      · show Sp P T W R σ0 q (dayF P T W R ((smtS P T z.1 z.2.1).2, z.2.2)) υ
        rw [es]; exact s2.1
      · show gI υ 54 2 = (smtS P T z.1 z.2.1).1
        rw [es, s2.2.i (by unfold gG Sc; omega), gI_s]
    · rw [if_neg (by rw [ι_le (by omega) (by omega)]; omega)]
      refine Wp.cV (c152 h s1 (by omega) gI_s) fun τ2 s2 => ?_
      refine Wp.cI (b71' (⟨s2.1, Fq.refl⟩ : Sg P T W R σ0 _ q _ _)) fun υ s3 => ?_
      simp (disch := omega) only [ι_lt_t, ι_lt_f, ι_le_t, ι_le_f, ι_eq_f, ι_m1, ι_add, ι_mul, ι_pm, ι_sub, ix_ι, gd_inb, gd_t, eq_self, if_true, if_false, not_true_eq_false, not_false_eq_true, ite_self, ]
      refine c (_, υ) ⟨s3.1, ?_⟩
      show gI υ 54 2 = (smtS P T z.1 z.2.1).1
      rw [s3.2.i (by unfold gG Sc; omega), s2.2]
  · rintro ⟨v, τ⟩ ⟨s, e⟩
    dsimp only at s e
    refine Wp.le (T_150_18 rfl s.lay) ?_
    rw [if_pos (by rw [ι_le (by omega) (by omega)]; exact Nat.le_refl _)]
    exact ⟨_, rfl, _, rfl, s⟩
end YEARS1
