/-! ===== the reference takes over what is told ===== -/
section TAKE
variable {σ τ υ σ0 μ ν0 μ0 : pS} {a n k b e i j c w q pl : Nat} {g f : Bool} {L : Rl} {s y r : Int32} {d : Dx} {v v1 v2 : Value} {Q : pZ → Prop}
theorem p238 {a0 n0 h : Nat} (ha : kd a0 = (100, n0)) (hL : LayR (gR σ)) (hn : n0 = 2 * h) (hh : h < 1000) : Wp (pcall 238 [.ref a0] σ) (RV (fun τ => Fr (fun b => b = a0) σ τ ∧ (∀ i, i < h → gI τ a0 i = gI σ a0 (h + i)) ∧ ∀ i, h ≤ i → gI τ a0 i = gI σ a0 i)) := by
  subst hn
  have eh : ι (2 * h) / ι 2 = ι h := by rw [ι_div (by omega) (by omega)]; congr 1; omega
  refine Wp.le (M_238 ha rfl hL) ?_
  refine Wp.loop (α := pS) h (fun t τ => C_238_2 a0 (2 * h) (ι t) τ) (fun t τ => Fr (fun b => b = a0) σ τ ∧ (∀ i, i < t → gI τ a0 i = gI σ a0 (h + i)) ∧ ∀ i, t ≤ i → gI τ a0 i = gI σ a0 i) ?_ ?_ (t := 0) (a := σ) (Nat.zero_le _) ⟨Fr.refl, fun i hi => absurd hi (Nat.not_lt_zero i), fun _ _ => rfl⟩
  · rintro t τ ht ⟨fr, hx, hy⟩ k
    refine Wp.le (T_238_2 ha rfl (by rw [fr.r]; exact hL)) ?_
    rw [eh, if_neg (by rw [ι_le (by omega) (by omega)]; omega), ι_add, gd_inb (by omega) (by omega), gd_inb (by omega) (by omega), ix_ι (by omega), ix_ι (by omega), ι_add, hy _ (by omega)]
    refine k _ ⟨fr.mI rfl, fun i hi => ?_, fun i hi => ?_⟩
    · by_cases e : i = t
      · subst e; rw [gI_s]
      · rw [gI_n e]; exact hx i (by omega)
    · rw [gI_n (by omega)]; exact hy i (by omega)
  · rintro τ ⟨fr, hx, hy⟩
    refine Wp.le (T_238_2 ha rfl (by rw [fr.r]; exact hL)) ?_
    rw [eh, if_pos (Int32.le_refl _)]; exact Wp.retV ⟨fr, hx, hy⟩
theorem t134 (hL : LayR (gR σ)) {p P T H : Nat} (hp : p < 8) (hT : T ≤ 12) (hP : P ≤ 8) (hH : H < 1000) (e0 : gI σ 65 0 = ι P) (e1 : gI σ 65 1 = ι T) (e2 : gI σ 65 2 = ι H) (ok : ∀ τ v1 v2, Fr (fun a => a = 77 ∨ a = 78) σ τ → (∀ i, i < 12 * p → gI τ 77 i = gI σ 77 i) → (∀ i, i < p → gI τ 78 i = gI σ 78 i) → (p < P → (∀ u, u < T → gI τ 77 (12 * p + u) = gI σ 69 (12 * p + u)) ∧ gI τ 78 p = if H = 0 then (shl' (ι 1) (ι P) - ι 1) &&& (shl' (ι 1) (ι p) ^^^ ν 1) else gI σ 70 p) → Wp (C_237_110 (ι (p + 1)) v1 v2 τ) Q) : Wp (C_237_134 (ι p) (bz (decide (p < P))) (ι 0) σ) Q := by
  refine Wp.loop (α := pS) 12 (fun t τ => C_237_134 (ι p) (bz (decide (p < P))) (ι t) τ) (fun t τ => Fr (fun a => a = 77) σ τ ∧ (∀ i, i < 12 * p → gI τ 77 i = gI σ 77 i) ∧ (p < P → ∀ u, u < t → u < T → gI τ 77 (12 * p + u) = gI σ 69 (12 * p + u))) ?_ ?_ (t := 0) (a := σ) (Nat.zero_le _) ⟨Fr.refl, fun _ _ => rfl, fun _ u hu => absurd hu (Nat.not_lt_zero u)⟩
  · rintro t τ ht ⟨fr, hx, hy⟩ k
    refine Wp.le (T_237_134 rfl (by rw [fr.r]; exact hL)) ?_
    have e1t : gI τ 65 1 = ι T := by rw [fr.i (by omega)]; exact e1
    rw [if_neg (by rw [ι_le (by omega) (by omega)]; omega), if1, e1t, ι_mul, ι_add, gd_inb (by omega) (by omega), gd_inb (by omega) (by omega), gd_inb (by omega) (by omega), ix_ι (by omega), ι_add]
    have go : ∀ y, (p < P → t < T → y = gI σ 69 (12 * p + t)) → Wp (C_237_134 (ι p) (bz (decide (p < P))) (ι (t + 1)) (sI τ 77 (12 * p + t) y)) Q := fun y hy' => by
      refine k _ ⟨fr.mI rfl, fun i hi => ?_, fun hp' u hu hu' => ?_⟩
      · rw [gI_n (by omega)]; exact hx i hi
      · by_cases e : u = t
        · subst e; rw [gI_s]; exact hy' hp' hu'
        · rw [gI_n (by omega)]; exact hy hp' u (by omega) hu'
    by_cases ep : p < P
    · rw [if_pos (decide_eq_true ep)]
      by_cases et : T ≤ t
      · rw [if_pos (by rw [ι_le (by omega) (by omega)]; exact et)]; exact go _ (fun _ h => by omega)
      · rw [if_neg (by rw [ι_le (by omega) (by omega)]; exact et)]; exact go _ (fun _ _ => fr.i (by omega) _)
    · rw [if_neg (by rw [decide_eq_false ep]; decide)]; exact go _ (fun h => absurd h ep)
  · rintro τ ⟨fr, hx, hy⟩
    refine Wp.le (T_237_134 rfl (by rw [fr.r]; exact hL)) ?_
    have e0t : gI τ 65 0 = ι P := by rw [fr.i (by omega)]; exact e0
    have e2t : gI τ 65 2 = ι H := by rw [fr.i (by omega)]; exact e2
    rw [if_pos (Int32.le_refl _), if2, e2t, e0t, gd_inb (by omega) (by omega), gd_inb (by omega) (by omega), gd_inb (by omega) (by omega), ix_ι (by omega), ι_add]
    have go : ∀ y, (p < P → y = if H = 0 then (shl' (ι 1) (ι P) - ι 1) &&& (shl' (ι 1) (ι p) ^^^ ν 1) else gI σ 70 p) → Wp (C_237_110 (ι (p + 1)) (.int (bz (decide (p < P)))) (.int (ι 12)) (sI τ 78 p y)) Q := fun y hy' => by
      refine ok _ _ _ ((fr.mono fun a s => Or.inl s).mI (Or.inr rfl)) (fun i hi => ?_) (fun i hi => ?_) (fun hp' => ⟨fun u hu => ?_, ?_⟩)
      · rw [gI_c (by omega)]; exact hx i hi
      · rw [gI_n (by omega), fr.i (by omega)]
      · rw [gI_c (by omega)]; exact hy hp' u (by omega) hu
      · rw [gI_s]; exact hy' hp'
    by_cases ep : p < P
    · rw [if_pos (decide_eq_true ep)]
      by_cases eh : H = 0
      · rw [if_pos (by rw [ι_le (by omega) (by omega)]; omega)]; exact go _ (fun _ => by rw [if_pos eh])
      · rw [if_neg (by rw [ι_le (by omega) (by omega)]; omega)]; exact go _ (fun _ => by rw [if_neg eh]; exact fr.i (by omega) _)
    · rw [if_neg (by rw [decide_eq_false ep]; decide), gd_inb (by omega) (by omega)]; exact go _ (fun h => absurd h ep)
theorem t110 {P T H : Nat} (hT : T ≤ 12) (hP : P ≤ 8) (hH : H < 1000) (hL : LayR (gR σ)) (e0 : gI σ 65 0 = ι P) (e1 : gI σ 65 1 = ι T) (e2 : gI σ 65 2 = ι H) : Wp (C_237_110 (ι 0) v1 v2 σ) (RV (fun υ => ∃ τ, υ = sI (sI (sI τ 61 32 (ι 0)) 61 33 (ι 0)) 61 50 (ι 0) ∧ Fr (fun a => a = 77 ∨ a = 78) σ τ ∧ ∀ p, p < P → (∀ u, u < T → gI τ 77 (12 * p + u) = gI σ 69 (12 * p + u)) ∧ gI τ 78 p = if H = 0 then (shl' (ι 1) (ι P) - ι 1) &&& (shl' (ι 1) (ι p) ^^^ ν 1) else gI σ 70 p)) := by
  have key : ∀ m p τ v1 v2, p + m = 8 → Fr (fun a => a = 77 ∨ a = 78) σ τ → (∀ r, r < p → r < P → (∀ u, u < T → gI τ 77 (12 * r + u) = gI σ 69 (12 * r + u)) ∧ gI τ 78 r = if H = 0 then (shl' (ι 1) (ι P) - ι 1) &&& (shl' (ι 1) (ι r) ^^^ ν 1) else gI σ 70 r) → Wp (C_237_110 (ι p) v1 v2 τ) (RV (fun υ => ∃ τ, υ = sI (sI (sI τ 61 32 (ι 0)) 61 33 (ι 0)) 61 50 (ι 0) ∧ Fr (fun a => a = 77 ∨ a = 78) σ τ ∧ ∀ p, p < P → (∀ u, u < T → gI τ 77 (12 * p + u) = gI σ 69 (12 * p + u)) ∧ gI τ 78 p = if H = 0 then (shl' (ι 1) (ι P) - ι 1) &&& (shl' (ι 1) (ι p) ^^^ ν 1) else gI σ 70 p)) := by
    intro m
    induction m with
    | zero =>
      intro p τ v1 v2 hp fr hx
      obtain rfl : p = 8 := by omega
      refine Wp.le (T_237_110 rfl (by rw [fr.r]; exact hL)) ?_
      rw [if_pos (Int32.le_refl _)]
      exact Wp.retV ⟨τ, rfl, fr, fun p hp => hx p (by omega) hp⟩
    | succ m ih =>
      intro p τ v1 v2 hp fr hx
      have Lt : LayR (gR τ) := by rw [fr.r]; exact hL
      refine Wp.le (T_237_110 rfl Lt) ?_
      have e0t : gI τ 65 0 = ι P := by rw [fr.i (by omega)]; exact e0
      have w : Wp (C_237_134 (ι p) (bz (decide (p < P))) (ι 0) τ) (RV (fun υ => ∃ τ, υ = sI (sI (sI τ 61 32 (ι 0)) 61 33 (ι 0)) 61 50 (ι 0) ∧ Fr (fun a => a = 77 ∨ a = 78) σ τ ∧ ∀ p, p < P → (∀ u, u < T → gI τ 77 (12 * p + u) = gI σ 69 (12 * p + u)) ∧ gI τ 78 p = if H = 0 then (shl' (ι 1) (ι P) - ι 1) &&& (shl' (ι 1) (ι p) ^^^ ν 1) else gI σ 70 p)) := by
        refine t134 Lt (H := H) (T := T) (by omega) hT hP hH e0t (by rw [fr.i (by omega)]; exact e1) (by rw [fr.i (by omega)]; exact e2) fun υ v3 v4 f2 c1 c2 c3 => ih (p + 1) υ v3 v4 (by omega) (fr.trans f2) fun r hr hrP => ?_
        by_cases e : r = p
        · subst e
          obtain ⟨b1, b2⟩ := c3 hrP
          exact ⟨fun u hu => by rw [b1 u hu, fr.i (by omega)], by rw [b2, fr.i (by omega)]⟩
        · obtain ⟨b1, b2⟩ := hx r (by omega) hrP
          exact ⟨fun u hu => by rw [c1 _ (by omega)]; exact b1 u hu, by rw [c2 r (by omega)]; exact b2⟩
      rw [if_neg (by rw [ι_le (by omega) (by omega)]; omega), e0t]
      by_cases ep : p < P
      · rw [if_neg (by rw [ι_le (by omega) (by omega)]; omega)]
        rw [decide_eq_true ep] at w; exact w
      · rw [if_pos (by rw [ι_le (by omega) (by omega)]; omega)]
        rw [decide_eq_false ep] at w; exact w
  exact key 8 0 σ v1 v2 (by omega) Fr.refl fun r hr => absurd hr (Nat.not_lt_zero r)
theorem t63 {T : Nat} (hT : T ≤ 12) (hL : LayR (gR σ)) (e1 : gI σ 65 1 = ι T) (ok : ∀ τ v1 v2, Fr (fun a => a = 75 ∨ a = 76) σ τ → (∀ u, u < T → gI τ 75 u = gI σ 68 u ∧ gI τ 76 u = ι 0) → Wp (C_237_110 (ι 0) v1 v2 τ) Q) : Wp (C_237_63 (ι 0) v1 v2 σ) Q := by
  refine Wp.loop (α := pS) 12 (fun t τ => C_237_63 (ι t) v1 v2 τ) (fun t τ => Fr (fun a => a = 75 ∨ a = 76) σ τ ∧ ∀ u, u < t → u < T → gI τ 75 u = gI σ 68 u ∧ gI τ 76 u = ι 0) ?_ ?_ (t := 0) (a := σ) (Nat.zero_le _) ⟨Fr.refl, fun u hu => absurd hu (Nat.not_lt_zero u)⟩
  · rintro t τ ht ⟨fr, hx⟩ k
    refine Wp.le (T_237_63 rfl (by rw [fr.r]; exact hL)) ?_
    have e1t : gI τ 65 1 = ι T := by rw [fr.i (by omega)]; exact e1
    rw [if_neg (by rw [ι_le (by omega) (by omega)]; omega), e1t, gd_inb (by omega) (by omega), gd_inb (by omega) (by omega), gd_inb (by omega) (by omega), ix_ι (by omega), ι_add, gd_inb (by omega) (by omega), gd_inb (by omega) (by omega)]
    have go : ∀ y, (t < T → y = gI σ 68 t) → Wp (C_237_63 (ι (t + 1)) v1 v2 (sI (sI τ 75 t y) 76 t (ι 0))) Q := fun y hy => by
      refine k _ ⟨(fr.mI (Or.inl rfl)).mI (Or.inr rfl), fun u hu hu' => ?_⟩
      by_cases e : u = t
      · subst e; exact ⟨by rw [gI_c (by omega), gI_s]; exact hy hu', gI_s⟩
      · rw [gI_c (by omega), gI_n e, gI_n e, gI_c (by omega)]; exact hx u (by omega) hu'
    by_cases e : T ≤ t
    · rw [if_pos (by rw [ι_le (by omega) (by omega)]; exact e)]; exact go _ (fun h => by omega)
    · rw [if_neg (by rw [ι_le (by omega) (by omega)]; exact e)]; exact go _ (fun h => fr.i (by omega) _)
  · rintro τ ⟨fr, hx⟩
    refine Wp.le (T_237_63 rfl (by rw [fr.r]; exact hL)) ?_
    rw [if_pos (Int32.le_refl _)]; exact ok τ v1 v2 fr fun u hu => hx u (by omega) hu
def Tk (a : Nat) : Prop := a = 61 ∨ (65 ≤ a ∧ a ≤ 72) ∨ (75 ≤ a ∧ a ≤ 78)
theorem take_ok (h : DM d μ) (od : okDx d) (hd : d.1.2.2 ≤ 700) (hL : LayR (gR μ)) (h36 : gI μ 61 36 = ι 0) : Wp (pcall 237 [.ref 61] μ) (RV (fun τ => CM d.1.1 d.1.2.1 d.2.2.1.1 d.2.2.2.1 (bgW d) τ ∧ (gI τ 61 32 = ι 0 ∧ gI τ 61 33 = ι 0 ∧ gI τ 61 50 = ι 0) ∧ (∀ i, i ≠ 31 → i ≠ 32 → i ≠ 33 → i ≠ 50 → gI τ 61 i = gI μ 61 i) ∧ Fr Tk μ τ)) := by
  have hP := od.1; have hT := od.2.1
  have o := od
  obtain ⟨-, -, -, -, -, -, -, -, a9, a10⟩ := o
  have w7 : d.2.2.1.1.1 ≤ 700 := a9.1.1
  have r7 : d.2.2.2.1.1 ≤ 700 := a10.1.1
  refine Wp.le (M_237 rfl hL) ?_
  obtain ⟨z, z1, u1, τ1, rfl, f1, g1, -⟩ := p238 (σ := μ) (a0 := 65) (n0 := 10) (h := 5) rfl hL rfl (by omega)
  have L1 : LayR (gR τ1) := by rw [f1.r]; exact hL
  obtain ⟨z, z2, u2, τ2, rfl, f2, g2, -⟩ := p238 (σ := τ1) (a0 := 66) (n0 := 16) (h := 8) rfl L1 rfl (by omega)
  have L2 : LayR (gR τ2) := by rw [f2.r]; exact L1
  obtain ⟨z, z3, u3, τ3, rfl, f3, g3, -⟩ := p238 (σ := τ2) (a0 := 67) (n0 := 24) (h := 12) rfl L2 rfl (by omega)
  have L3 : LayR (gR τ3) := by rw [f3.r]; exact L2
  obtain ⟨z, z4, u4, τ4, rfl, f4, g4, -⟩ := p238 (σ := τ3) (a0 := 68) (n0 := 24) (h := 12) rfl L3 rfl (by omega)
  have L4 : LayR (gR τ4) := by rw [f4.r]; exact L3
  obtain ⟨z, z5, u5, τ5, rfl, f5, g5, -⟩ := p238 (σ := τ4) (a0 := 69) (n0 := 192) (h := 96) rfl L4 rfl (by omega)
  have L5 : LayR (gR τ5) := by rw [f5.r]; exact L4
  obtain ⟨z, z6, u6, τ6, rfl, f6, g6, -⟩ := p238 (σ := τ5) (a0 := 70) (n0 := 16) (h := 8) rfl L5 rfl (by omega)
  have L6 : LayR (gR τ6) := by rw [f6.r]; exact L5
  obtain ⟨z, z7, u7, τ7, rfl, f7, g7, -⟩ := p238 (σ := τ6) (a0 := 71) (n0 := 1400) (h := 700) rfl L6 rfl (by omega)
  have L7 : LayR (gR τ7) := by rw [f7.r]; exact L6
  obtain ⟨z, z8, u8, τ8, rfl, f8, g8, -⟩ := p238 (σ := τ7) (a0 := 72) (n0 := 1400) (h := 700) rfl L7 rfl (by omega)
  have L8 : LayR (gR τ8) := by rw [f8.r]; exact L7
  rw [z1, bV_ret, z2, bV_ret, z3, bV_ret, z4, bV_ret, z5, bV_ret, z6, bV_ret, z7, bV_ret, z8, bV_ret]
  have k1 : ∀ a, a ≠ 65 → ∀ i, gI τ1 a i = gI μ a i := fun a ha i => f1.i ha i
  have k2 : ∀ a, a ≠ 66 → ∀ i, gI τ2 a i = gI τ1 a i := fun a ha i => f2.i ha i
  have k3 : ∀ a, a ≠ 67 → ∀ i, gI τ3 a i = gI τ2 a i := fun a ha i => f3.i ha i
  have k4 : ∀ a, a ≠ 68 → ∀ i, gI τ4 a i = gI τ3 a i := fun a ha i => f4.i ha i
  have k5 : ∀ a, a ≠ 69 → ∀ i, gI τ5 a i = gI τ4 a i := fun a ha i => f5.i ha i
  have k6 : ∀ a, a ≠ 70 → ∀ i, gI τ6 a i = gI τ5 a i := fun a ha i => f6.i ha i
  have k7 : ∀ a, a ≠ 71 → ∀ i, gI τ7 a i = gI τ6 a i := fun a ha i => f7.i ha i
  have k8 : ∀ a, a ≠ 72 → ∀ i, gI τ8 a i = gI τ7 a i := fun a ha i => f8.i ha i
  have F8 : Fr Tk μ τ8 := (((((((f1.mono fun a s => by unfold Tk; omega).trans (f2.mono fun a s => by unfold Tk; omega)).trans (f3.mono fun a s => by unfold Tk; omega)).trans (f4.mono fun a s => by unfold Tk; omega)).trans (f5.mono fun a s => by unfold Tk; omega)).trans (f6.mono fun a s => by unfold Tk; omega)).trans (f7.mono fun a s => by unfold Tk; omega)).trans (f8.mono fun a s => by unfold Tk; omega)
  have b65 : ∀ i, i < 5 → gI τ8 65 i = gI μ 65 (5 + i) := fun i hi => by simp (disch := omega) only [k8, k7, k6, k5, k4, k3, k2]; exact g1 i hi
  have b66 : ∀ i, i < 8 → gI τ8 66 i = gI μ 66 (8 + i) := fun i hi => by simp (disch := omega) only [k8, k7, k6, k5, k4, k3]; rw [g2 i hi]; exact k1 _ (by omega) _
  have b67 : ∀ i, i < 12 → gI τ8 67 i = gI μ 67 (12 + i) := fun i hi => by simp (disch := omega) only [k8, k7, k6, k5, k4]; rw [g3 i hi]; simp (disch := omega) only [k2, k1]
  have b68 : ∀ i, i < 12 → gI τ8 68 i = gI μ 68 (12 + i) := fun i hi => by simp (disch := omega) only [k8, k7, k6, k5]; rw [g4 i hi]; simp (disch := omega) only [k3, k2, k1]
  have b69 : ∀ i, i < 96 → gI τ8 69 i = gI μ 69 (96 + i) := fun i hi => by simp (disch := omega) only [k8, k7, k6]; rw [g5 i hi]; simp (disch := omega) only [k4, k3, k2, k1]
  have b70 : ∀ i, i < 8 → gI τ8 70 i = gI μ 70 (8 + i) := fun i hi => by simp (disch := omega) only [k8, k7]; rw [g6 i hi]; simp (disch := omega) only [k5, k4, k3, k2, k1]
  have b71 : ∀ i, i < 700 → gI τ8 71 i = gI μ 71 (700 + i) := fun i hi => by simp (disch := omega) only [k8]; rw [g7 i hi]; simp (disch := omega) only [k6, k5, k4, k3, k2, k1]
  have b72 : ∀ i, i < 700 → gI τ8 72 i = gI μ 72 (700 + i) := fun i hi => by rw [g8 i hi]; simp (disch := omega) only [k7, k6, k5, k4, k3, k2, k1]
  have b61 : ∀ i, gI τ8 61 i = gI μ 61 i := fun i => by simp (disch := omega) only [k8, k7, k6, k5, k4, k3, k2, k1]
  clear g1 g2 g3 g4 g5 g6 g7 g8 k1 k2 k3 k4 k5 k6 k7 k8 z1 z2 z3 z4 z5 z6 z7 z8 f1 f2 f3 f4 f5 f6 f7 f8
  have k31 : ∀ a, a ≠ 61 → ∀ i, gI (sI τ8 61 31 (ι 0)) a i = gI τ8 a i := fun a ha i => gI_c ha
  have e0 : gI (sI τ8 61 31 (ι 0)) 65 0 = ι d.1.1 := by rw [k31 65 (by omega), b65 0 (by omega)]; exact h.pp
  have e1 : gI (sI τ8 61 31 (ι 0)) 65 1 = ι d.1.2.1 := by rw [k31 65 (by omega), b65 1 (by omega)]; exact h.tt
  have e2 : gI (sI τ8 61 31 (ι 0)) 65 2 = ι d.1.2.2 := by rw [k31 65 (by omega), b65 2 (by omega)]; exact h.hh
  refine t63 hT L8 e1 fun υ v1 v2 fa ha => ?_
  have La : LayR (gR υ) := by rw [fa.r]; exact L8
  refine (t110 (H := d.1.2.2) hT hP (by omega) La (by rw [fa.i (by omega)]; exact e0) (by rw [fa.i (by omega)]; exact e1) (by rw [fa.i (by omega)]; exact e2)).mono ?_
  rintro zz ⟨v3, w, rfl, w', rfl, fb, hb⟩
  have kx : ∀ a, a ≠ 61 → a ≠ 75 → a ≠ 76 → a ≠ 77 → a ≠ 78 → ∀ i, gI (sI (sI (sI w' 61 32 (ι 0)) 61 33 (ι 0)) 61 50 (ι 0)) a i = gI τ8 a i := fun a h1 h2 h3 h4 h5 i => by
    rw [gI_c h1, gI_c h1, gI_c h1, fb.i (by omega), fa.i (by omega), k31 a h1]
  have k75 : ∀ a, a = 75 ∨ a = 76 → ∀ i, gI (sI (sI (sI w' 61 32 (ι 0)) 61 33 (ι 0)) 61 50 (ι 0)) a i = gI υ a i := fun a h1 i => by
    rw [gI_c (by omega), gI_c (by omega), gI_c (by omega), fb.i (by omega)]
  have k77 : ∀ a, a = 77 ∨ a = 78 → ∀ i, gI (sI (sI (sI w' 61 32 (ι 0)) 61 33 (ι 0)) 61 50 (ι 0)) a i = gI w' a i := fun a h1 i => by
    rw [gI_c (by omega), gI_c (by omega), gI_c (by omega)]
  have k61 : ∀ i, i ≠ 32 → i ≠ 33 → i ≠ 50 → gI (sI (sI (sI w' 61 32 (ι 0)) 61 33 (ι 0)) 61 50 (ι 0)) 61 i = gI (sI τ8 61 31 (ι 0)) 61 i := fun i h1 h2 h3 => by
    rw [gI_n h3, gI_n h2, gI_n h1, fb.i (by omega), fa.i (by omega)]
  refine ⟨v3, _, rfl, ⟨od.wld, by rw [gR_sI, gR_sI, gR_sI, fb.r]; exact La, ?_, ?_, ?_, ?_, a9.wf, a10.wf, fun i hi => ?_, fun i hi => ?_, ?_, ?_, fun t ht => ?_, fun t ht => ?_, fun p hp t ht => ?_, fun p hp => ?_, fun p hp => ?_, fun t ht => ?_⟩, ⟨by simp (disch := omega) only [gI_s, gI_n, gI_c, uq_s, uq_n, uq_c], by simp (disch := omega) only [gI_s, gI_n, gI_c, uq_s, uq_n, uq_c], by simp (disch := omega) only [gI_s, gI_n, gI_c, uq_s, uq_n, uq_c]⟩, fun i h1 h2 h3 h4 => by rw [k61 i h2 h3 h4, gI_n h1, b61], ?_⟩
  · rw [kx 65 (by omega) (by omega) (by omega) (by omega) (by omega), b65 0 (by omega)]; exact h.pp
  · rw [kx 65 (by omega) (by omega) (by omega) (by omega) (by omega), b65 1 (by omega)]; exact h.tt
  · rw [kx 65 (by omega) (by omega) (by omega) (by omega) (by omega), b65 3 (by omega)]; exact h.w8
  · rw [kx 65 (by omega) (by omega) (by omega) (by omega) (by omega), b65 4 (by omega)]; exact h.r9
  · rw [kx 71 (by omega) (by omega) (by omega) (by omega) (by omega), b71 i (by omega)]; exact h.ws i hi
  · rw [kx 72 (by omega) (by omega) (by omega) (by omega) (by omega), b72 i (by omega)]; exact h.rs i hi
  · rw [k61 31 (by omega) (by omega) (by omega), gI_s, bgW_0 (by omega)]
  · rw [k61 36 (by omega) (by omega) (by omega), gI_n (by omega), b61, h36, bgW_0 (by omega)]
  · rw [k75 75 (by omega), (ha t ht).1, k31 68 (by omega), b68 t (by omega), bgW_o (by omega)]; exact h.ow t ht
  · rw [k75 76 (by omega), (ha t ht).2, bgW_0 (by omega)]
  · rw [k77 77 (by omega), (hb p hp).1 t ht, fa.i (by omega), k31 69 (by omega), b69 _ (by omega), bgW_o (by omega)]; exact h.wo p hp t ht
  · rw [k77 78 (by omega), (hb p hp).2, fa.i (by omega), k31 70 (by omega), b70 p (by omega), h.hg p hp, bgW_3]
  · rw [kx 66 (by omega) (by omega) (by omega) (by omega) (by omega), b66 p (by omega), bgW_o (by omega)]; exact h.bo p hp
  · rw [kx 67 (by omega) (by omega) (by omega) (by omega) (by omega), b67 t (by omega), bgW_o (by omega)]; exact h.fi t ht
  · exact ((((F8.mI (by unfold Tk; omega)).trans (fa.mono fun a s => by unfold Tk; omega)).trans (fb.mono fun a s => by unfold Tk; omega)).mI (by unfold Tk; omega)).mI (by unfold Tk; omega) |>.mI (by unfold Tk; omega)
end TAKE
