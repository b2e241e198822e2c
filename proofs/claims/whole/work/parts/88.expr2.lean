/-! ===== expressions: tests, not, and, or; a whole one ===== -/
section EXPR3
variable {σ τ υ σ0 μ μ0 : pS} {n k b e i j c w q pl D d : Nat} {x : Nat → Nat} {tk : Nat × Nat × Nat} {g : Bool} {L : Rl} {s y : Int32} {z z0 z1 z2 : Zx}
theorem bV_bV {p : Option pZ} {f F : pS → Option pZ} : bV (bV p f) F = bV p (fun σ => bV (f σ) F) := by
  rcases p with _ | ⟨k, v, σ⟩
  · rfl
  · match k with
    | 0 => rfl
    | 1 => rfl
    | k + 2 => rfl
theorem bV_bI {p : Option pZ} {f : Int32 → pS → Option pZ} {F : pS → Option pZ} : bV (bI p f) F = bI p (fun r σ => bV (f r σ) F) := by
  rcases p with _ | ⟨k, v, σ⟩
  · rfl
  · match k with
    | 0 => rfl
    | 1 => cases v <;> rfl
    | k + 2 => cases v <;> rfl
theorem bV_ite {c : Prop} [Decidable c] {a b : Option pZ} {F : pS → Option pZ} : bV (if c then a else b) F = if c then bV a F else bV b F := by split <;> rfl
theorem bV_bG {K : Nat → Prop} [DecidablePred K] {o : Option Nat} {f : Nat → Option pZ} {F : pS → Option pZ} : bV (bG K o f) F = bG K o (fun q => bV (f q) F) := by
  cases o with
  | none => rfl
  | some q => show bV (if K q then f q else none) F = if K q then bV (f q) F else none; split <;> rfl
theorem Le.bV {t d : Option pZ} {F : pS → Option pZ} (h : Le t d) : Le (bV t F) (bV d F) := by
  intro z hz
  cases ht : t with
  | none => rw [ht] at hz; cases hz
  | some y => rw [h y ht]; rw [ht] at hz; exact hz
theorem test_ok {v3 : Value} {F G : pS → Option pZ} {Q : pZ → pZ → Prop} (hq : isP q) (t : Txt n x) (hk : k ≤ 5) (ex : ExOK n x g q (k + 1) σ0 μ0) (iv : Ivx n x g z) (hd : dpt z.2.2 z.2.1 ≤ 5 * k + 2) (h1 : PT n x g q z σ0 σ) (h2 : MT n x g z μ0 μ)
    (hG : G = fun σ4 => C_224_95 k (.int (ι k)) (ι j) (ι 0) σ4)
    (ok : ∀ z' σ μ, goodZ n x g z z' 1 → mayT x z.1 = true → PT n x g q z' σ0 σ → MT n x g z' μ0 μ → R2 (F σ) (G μ) Q)
    (bad : ∀ c pl σ μ, (mayT x z.1 = false → c = 1 ∧ pl = z.1.2.1) → FT g q c pl σ0 σ → FM g c pl μ0 μ → R2 (F σ) (G μ) Q) :
    R2 (bV (pcall 61 [.ref 24, .int (ι k)] σ) F) (bV (pcall 225 [.ref 61, .int (ι k)] μ) fun σ2 => bI (pcall 222 [.ref 61, .int (ι 60)] σ2) fun r3 σ3 => if ¬ r3 = ι 0 then C_224_62 k (ι k) (ι j) v3 σ3 else bI (pcall 222 [.ref 61, .int (ι 61)] σ3) fun r4 σ4 => if r4 = ι 0 then C_224_95 k (.int (ι k)) (ι j) (ι 0) σ4 else C_224_62 k (ι k) (ι j) v3 σ4) Q := by
  refine R2.le1 (Le.bV (M_61 rfl h1.lay)) ?_
  simp (disch := (simp (disch := omega) only [lv_22, lv_23, lv_43, lv_48, lv_50, lv_52, lv_57, lv_58, lv_59, lv_60, lv_61, lv_62, lv_63, lv_64, lv_65, lv_66, lv_212, lv_218, lv_219, lv_220, lv_221, lv_222, lv_223, lv_224, lv_225, lv_226, lv_227, lv_228, lv_230, lv_231, rk_57, rk_59, rk_60, rk_61, rk_62, rk_63, rk_64, rk_221, rk_223, rk_224, rk_225, rk_226, rk_227, ι_add] <;> omega)) only [gd_pos]
  simp only [bV_bV, bV_bI, bV_ite, bV_ret]
  rw [rk_61 (by omega)]
  obtain ⟨zc, zm, ec, em, hQ⟩ := sum_ok hq t hk ex iv (by omega) h1 h2
  rw [ec, em]
  rcases hQ with ⟨z1, g1, hm, ⟨v, τ, rfl, q1⟩, ⟨v', μ', rfl, q2⟩⟩ | ⟨c, pl, hm, ⟨v, τ, rfl, f1⟩, ⟨v', μ', rfl, f2⟩⟩
  · have hok := g1.1.1
    rw [bV_ret, bV_ret, e58 t hok q1 (by omega), bI_ret, if2, e222 t hok q2 (by omega), bI_ret, if2]
    have go : (sgS x z1.1 60 = true ∨ sgS x z1.1 61 = true) → R2 (bV (C_61_23 k (ι k) (.retAddr 0) τ) F) (C_224_62 k (ι k) (ι j) v3 μ') Q := by
      intro hs
      have h0 : z1.1.1 ≠ 0 := by rcases hs with e | e <;> (rw [sg_3 e]; omega)
      have hsub : ∀ σ μ, PT n x g q (nxZ n x z1) σ0 σ → MT n x g (nxZ n x z1) μ0 μ → R2 (pcall 62 [.ref 24, .int (ι k)] σ) (pcall 225 [.ref 61, .int (ι k)] μ) (XR n x g q (nxZ n x z1) 1 σ0 μ0) := fun σ μ p1 p2 => sum_ok hq t hk ex (g1.1.nx t) (by show dpt z1.2.2 z1.2.1 ≤ _; have := g1.2.1; omega) p1 p2
      refine R2.lee (Le.bV (T_61_23 rfl q1.lay)) (T_224_62 rfl q2.lay) ?_
      simp (disch := (simp (disch := omega) only [lv_22, lv_23, lv_43, lv_48, lv_50, lv_52, lv_57, lv_58, lv_59, lv_60, lv_61, lv_62, lv_63, lv_64, lv_65, lv_66, lv_212, lv_218, lv_219, lv_220, lv_221, lv_222, lv_223, lv_224, lv_225, lv_226, lv_227, lv_228, lv_230, lv_231, rk_57, rk_59, rk_60, rk_61, rk_62, rk_63, rk_64, rk_221, rk_223, rk_224, rk_225, rk_226, rk_227, ι_add] <;> omega)) only [gd_pos]
      simp only [bV_bV, bV_bI, bV_ite, bV_bG, bV_ret]
      rw [e58 t hok q1 (by omega), bI_ret, if1, e222 t hok q2 (by omega), bI_ret, if1]
      subst hG
      cases e1 : sgS x z1.1 60 with
      | true =>
        rw [if_pos rfl, if_pos rfl]
        exact opstep hq t iv g1 h0 q1 q2 hsub (c := 3) (by omega) (by omega) (by decide) (by cases g <;> decide) (fun z' σ μ a _ c d => ok z' σ μ a hm c d) (fun c pl σ μ a b => bad c pl σ μ (fun g => by rw [hm] at g; cases g) a b)
      | false =>
        rw [if_neg (by decide), if_neg (by decide)]
        exact opstep hq t iv g1 h0 q1 q2 hsub (c := 4) (by omega) (by omega) (by decide) (by cases g <;> decide) (fun z' σ μ a _ c d => ok z' σ μ a hm c d) (fun c pl σ μ a b => bad c pl σ μ (fun g => by rw [hm] at g; cases g) a b)
    cases e1 : sgS x z1.1 60 with
    | true =>
      rw [if_pos rfl, if_pos rfl]
      exact go (Or.inl e1)
    | false =>
      rw [if_neg (by decide), if_neg (by decide), e58 t hok q1 (by omega), bI_ret, if1, e222 t hok q2 (by omega), bI_ret, if1]
      cases e2 : sgS x z1.1 61 with
      | true =>
        rw [if_pos rfl, if_pos rfl]
        exact go (Or.inr e2)
      | false =>
        rw [if_neg (by decide), if_neg (by decide)]
        subst hG
        exact ok z1 τ μ' g1 hm q1 q2
  · rw [bV_ret, bV_ret, f58 f1, bI_ret, if_neg (fun g => g rfl), fm222 f2, bI_ret, if_neg (fun g => g rfl), f58 f1, bI_ret, if_pos rfl, fm222 f2, bI_ret, if_pos rfl]
    subst hG
    exact bad c pl τ μ' hm f1 f2
theorem stk_not : stk (ν 22) = 1 := by decide
/-- the steps 'not' are laid -/
theorem not_c {v v' : Value} (hq : isP q) (t : Txt n x) (hk : k ≤ 6) (hj : j ≤ 6) (iv0 : Ivx n x g z0) (hm : mayT x z0.1 = true) : ∀ m i (z1 : Zx) σ μ, i + m = j → okTk n x z1.1 → wfp g z1.2 → dpt z1.2.2 z1.2.1 = dpt z0.2.2 z0.2.1 + 1 → z1.2.1 + z0.1.2.1 + m ≤ z0.2.1 + z1.1.2.1 → z0.1.2.1 ≤ z1.1.2.1 → PT n x g q z1 σ0 σ → MT n x g z1 μ0 μ → R2 (C_60_48 k v (ι j) (ι i) σ) (C_224_95 k v' (ι j) (ι i) μ) (XR n x g q z0 1 σ0 μ0) := by
  have h7 := t.1
  intro m
  induction m with
  | zero =>
    intro i z1 σ μ hi ok wf hd hl hb h1 h2
    refine R2.lee (T_60_48 rfl h1.lay) (T_224_95 rfl h2.lay) ?_
    rw [if_pos (by rw [ι_le (by omega) (by omega)]; omega), if_pos (by rw [ι_le (by omega) (by omega)]; omega)]
    exact R2.good ⟨⟨ok, wf, by have := iv0.2.2; omega⟩, hd, by omega, hb⟩ hm h1 h2
  | succ m ih =>
    intro i z1 σ μ hi ok wf hd hl hb h1 h2
    have L7 : z1.2.1 < 700 := by have := iv0.2.2; have := ok.1; have := ok.2.1; omega
    refine R2.lee (T_60_48 rfl h1.lay) (T_224_95 rfl h2.lay) ?_
    simp (disch := (simp (disch := omega) only [lv_22, lv_23, lv_43, lv_48, lv_50, lv_52, lv_57, lv_58, lv_59, lv_60, lv_61, lv_62, lv_63, lv_64, lv_65, lv_66, lv_212, lv_218, lv_219, lv_220, lv_221, lv_222, lv_223, lv_224, lv_225, lv_226, lv_227, lv_228, lv_230, lv_231, rk_57, rk_59, rk_60, rk_61, rk_62, rk_63, rk_64, rk_221, rk_223, rk_224, rk_225, rk_226, rk_227, ι_add] <;> omega)) only [gd_pos]
    rw [if_neg (by rw [ι_le (by omega) (by omega)]; omega), if_neg (by rw [ι_le (by omega) (by omega)]; omega), h1.u9 hq]
    obtain ⟨a1, ea1, v1, τ1, rfl, p1⟩ := e22 (s := ν 22) hq h1 L7 (nofact_op 2 (by omega))
    obtain ⟨a2, ea2, v2, τ2, rfl, p2⟩ := e230 (s := ν 22) (y := ν 28) h2 L7 (by cases g <;> decide)
    rw [ea1, bV_ret, ea2, bV_ret, ι_add]
    have hw := wfp_psh (g := g) (s := ν 22) (d' := dpt z1.2.2 z1.2.1) wf L7 (okst_op (c := 2) (by omega)) (by rw [stk_not]; exact ⟨by omega, rfl⟩)
    refine ih (i + 1) (z1.1, psh z1.2 (ν 22)) τ1 τ2 (by omega) ok hw.1 (by rw [hw.2]; exact hd) ?_ hb p1 p2
    show z1.2.1 + 1 + z0.1.2.1 + m ≤ z0.2.1 + z1.1.2.1; omega
theorem not_l (hq : isP q) (t : Txt n x) (hk : k ≤ 5) (ex : ExOK n x g q (k + 1) σ0 μ0) (iv0 : Ivx n x g z0) (hd : dpt z0.2.2 z0.2.1 ≤ 5 * k + 2) : ∀ m j (z : Zx) σ μ v v', j + m = 6 → okTk n x z.1 → z.2 = z0.2 → z0.1.2.1 + j ≤ z.1.2.1 → (z = z0 ∨ mayT x z0.1 = true) → PT n x g q z σ0 σ → MT n x g z μ0 μ → R2 (C_60_2 k (ι k) (ι j) v σ) (C_224_2 k (ι k) (ι j) v' μ) (XR n x g q z0 1 σ0 μ0) := by
  have h7 := t.1
  intro m
  have no : ∀ j (z : Zx) σ μ v3, j ≤ 6 → okTk n x z.1 → z.2 = z0.2 → z0.1.2.1 + j ≤ z.1.2.1 → (z = z0 ∨ mayT x z0.1 = true) → PT n x g q z σ0 σ → MT n x g z μ0 μ → R2 (bV (pcall 61 [.ref 24, .int (ι k)] σ) fun σ2 => C_60_48 k (.int (ι k)) (ι j) (ι 0) σ2) (bV (pcall 225 [.ref 61, .int (ι k)] μ) fun σ2 => bI (pcall 222 [.ref 61, .int (ι 60)] σ2) fun r3 σ3 => if ¬ r3 = ι 0 then C_224_62 k (ι k) (ι j) v3 σ3 else bI (pcall 222 [.ref 61, .int (ι 61)] σ3) fun r4 σ4 => if r4 = ι 0 then C_224_95 k (.int (ι k)) (ι j) (ι 0) σ4 else C_224_62 k (ι k) (ι j) v3 σ4) (XR n x g q z0 1 σ0 μ0) := by
    intro j z σ μ v3 hj ok ez hb hz h1 h2
    have iv : Ivx n x g z := ⟨ok, by rw [ez]; exact iv0.2.1, by rw [ez]; have := iv0.2.2; omega⟩
    refine test_ok hq t hk ex iv (by rw [ez]; exact hd) h1 h2 rfl (fun z' σ μ g1 hm p1 p2 => ?_) (fun c pl σ μ hm f1 f2 => ?_)
    · have hm0 : mayT x z0.1 = true := by rcases hz with e | e; (rw [← e]; exact hm); exact e
      have c1 := g1.2.1; have c2 := g1.2.2.1; have c3 := g1.2.2.2
      rw [ez] at c1 c2
      exact not_c hq t (by omega) hj iv0 hm0 j 0 z' σ μ (by omega) g1.1.1 g1.1.2.1 c1 (by omega) (by omega) p1 p2
    · refine R2.bad (c := c) (pl := pl) (fun g0 => ?_) (f60c hq (by omega) hj j 0 σ (by omega) f1) (Wp.of (fm224c (by omega) (by omega) f2 j 0 (by omega)) ⟨_, _, rfl, f2⟩)
      rcases hz with e | e
      · rw [← e] at g0 ⊢; exact hm g0
      · rw [e] at g0; cases g0
  induction m with
  | zero =>
    intro j z σ μ v v' hj ok ez hb hz h1 h2
    refine R2.lee (T_60_2 rfl h1.lay) (T_224_2 rfl h2.lay) ?_
    simp (disch := (simp (disch := omega) only [lv_22, lv_23, lv_43, lv_48, lv_50, lv_52, lv_57, lv_58, lv_59, lv_60, lv_61, lv_62, lv_63, lv_64, lv_65, lv_66, lv_212, lv_218, lv_219, lv_220, lv_221, lv_222, lv_223, lv_224, lv_225, lv_226, lv_227, lv_228, lv_230, lv_231, rk_57, rk_59, rk_60, rk_61, rk_62, rk_63, rk_64, rk_221, rk_223, rk_224, rk_225, rk_226, rk_227, ι_add] <;> omega)) only [gd_pos]
    rw [if_pos (by rw [ι_le (by omega) (by omega)]; omega), e48 t ok h1 (by omega) (by omega), bI_ret, if1, e219 t ok h2 (by omega) (by omega), bI_ret, if1]
    cases ew : wdS x z.1 1007 with
    | true =>
      have hmay : mayT x z0.1 = true := by
        rcases hz with e | e
        · rw [← e]; unfold mayT; rw [wd_1 ew]; rfl
        · exact e
      rw [if_pos rfl, if_pos rfl, show j = 6 by omega, if_neg (fun g => g rfl)]
      refine R2.bad (c := 2) (pl := z.1.2.1) (fun g => by rw [hmay] at g; cases g) ?_ ?_
      · refine Wp.cV (e50 hq h1 (by omega) (by omega)) fun τ f => ?_
        exact Wp.cV (f61 hq (by omega) f) fun τ f => f60c hq (by omega) (by omega) 6 0 τ (by omega) f
      · refine Wp.cV (e220 h2 (by omega) (by omega)) fun τ f => ?_
        rw [if_pos f.n22, ι_add, fm224b (by omega) (by omega) f]
        exact Wp.retV f
    | false =>
      rw [if_neg (by decide), if_neg (by decide)]
      exact no j z σ μ v' (by omega) ok ez hb hz h1 h2
  | succ m ih =>
    intro j z σ μ v v' hj ok ez hb hz h1 h2
    refine R2.lee (T_60_2 rfl h1.lay) (T_224_2 rfl h2.lay) ?_
    simp (disch := (simp (disch := omega) only [lv_22, lv_23, lv_43, lv_48, lv_50, lv_52, lv_57, lv_58, lv_59, lv_60, lv_61, lv_62, lv_63, lv_64, lv_65, lv_66, lv_212, lv_218, lv_219, lv_220, lv_221, lv_222, lv_223, lv_224, lv_225, lv_226, lv_227, lv_228, lv_230, lv_231, rk_57, rk_59, rk_60, rk_61, rk_62, rk_63, rk_64, rk_221, rk_223, rk_224, rk_225, rk_226, rk_227, ι_add] <;> omega)) only [gd_pos]
    rw [if_neg (by rw [ι_le (by omega) (by omega)]; omega), e48 t ok h1 (by omega) (by omega), bI_ret, if1, e219 t ok h2 (by omega) (by omega), bI_ret, if1]
    cases ew : wdS x z.1 1007 with
    | true =>
      have hmay : mayT x z0.1 = true := by
        rcases hz with e | e
        · rw [← e]; unfold mayT; rw [wd_1 ew]; rfl
        · exact e
      rw [if_pos rfl, if_pos rfl, if_pos (by rw [ι_eq (by omega) (by omega)]; omega), h2.1.2.1, if_neg (fun g => g rfl)]
      obtain ⟨a1, ea1, v1, τ1, rfl, p1⟩ := e43 hq t ok h1
      obtain ⟨a2, ea2, v2, τ2, rfl, p2⟩ := e212 t ok h2
      rw [ea1, bV_ret, ea2, bV_ret, ι_add]
      have hbe := ok.2.2.2.1 (by rw [wd_1 ew]; omega)
      have hnx := nx_ok t ok
      exact ih (j + 1) (nxZ n x z) τ1 τ2 v v' (by omega) hnx.1 ez (by have := hnx.2; omega) (Or.inr hmay) p1 p2
    | false =>
      rw [if_neg (by decide), if_neg (by decide), e48 t ok h1 (by omega) (by omega), bI_ret, if1, ew, if_neg (by decide)]
      exact no j z σ μ v' (by omega) ok ez hb hz h1 h2
theorem not_ok (hq : isP q) (t : Txt n x) (hk : k ≤ 5) (ex : ExOK n x g q (k + 1) σ0 μ0) (iv : Ivx n x g z) (hd : dpt z.2.2 z.2.1 ≤ 5 * k + 2) (h1 : PT n x g q z σ0 σ) (h2 : MT n x g z μ0 μ) : R2 (pcall 60 [.ref 24, .int (ι k)] σ) (pcall 224 [.ref 61, .int (ι k)] μ) (XR n x g q z 1 σ0 μ0) := by
  refine R2.lee (M_60 rfl h1.lay) (M_224 rfl h2.lay) ?_
  rw [rk_60 (by omega), rk_224 (by omega)]
  exact not_l hq t hk ex iv hd 6 0 z σ μ _ _ (by omega) iv.1 rfl (Nat.le_refl _) (Or.inl rfl) h1 h2
theorem lp59 (hq : isP q) (t : Txt n x) (hk : k ≤ 5) (ex : ExOK n x g q (k + 1) σ0 μ0) (iv0 : Ivx n x g z0) (hm : mayT x z0.1 = true) (hd : dpt z0.2.2 z0.2.1 ≤ 5 * k + 1) : ∀ f (z : Zx) σ μ i (v' : Value), n - z.1.2.1 ≤ f → i ≤ z.1.2.1 → goodZ n x g z0 z 1 → PT n x g q z σ0 σ → MT n x g z μ0 μ → R2 (C_59_7 k (ι k) (ι i) σ) (C_223_5 k (ι k) μ) (XR n x g q z0 1 σ0 μ0) := by
  have h7 := t.1
  intro f
  induction f with
  | zero =>
    intro z σ μ i v' hf hi gz h1 h2
    have hok := gz.1.1
    have hs : wdS x z.1 1016 = false := by
      cases e : wdS x z.1 1016 with
      | false => rfl
      | true => have := hok.2.2.2.1 (by rw [wd_1 e]; omega); have := hok.2.1; omega
    refine R2.lee (T_59_7 rfl h1.lay) (T_223_5 rfl h2.lay) ?_
    simp (disch := (simp (disch := omega) only [lv_22, lv_23, lv_43, lv_48, lv_50, lv_52, lv_57, lv_58, lv_59, lv_60, lv_61, lv_62, lv_63, lv_64, lv_65, lv_66, lv_212, lv_218, lv_219, lv_220, lv_221, lv_222, lv_223, lv_224, lv_225, lv_226, lv_227, lv_228, lv_230, lv_231, rk_57, rk_59, rk_60, rk_61, rk_62, rk_63, rk_64, rk_221, rk_223, rk_224, rk_225, rk_226, rk_227, ι_add] <;> omega)) only [gd_pos]
    rw [e48 t hok h1 (by omega) (by omega), bI_ret, if1, e219 t hok h2 (by omega) (by omega), bI_ret, if1, hs]
    simp only [Bool.false_eq_true, if_false, ite_self]
    exact R2.good gz hm h1 h2
  | succ f ih =>
    intro z σ μ i v' hf hi gz h1 h2
    have hok := gz.1.1
    refine R2.lee (T_59_7 rfl h1.lay) (T_223_5 rfl h2.lay) ?_
    simp (disch := (simp (disch := omega) only [lv_22, lv_23, lv_43, lv_48, lv_50, lv_52, lv_57, lv_58, lv_59, lv_60, lv_61, lv_62, lv_63, lv_64, lv_65, lv_66, lv_212, lv_218, lv_219, lv_220, lv_221, lv_222, lv_223, lv_224, lv_225, lv_226, lv_227, lv_228, lv_230, lv_231, rk_57, rk_59, rk_60, rk_61, rk_62, rk_63, rk_64, rk_221, rk_223, rk_224, rk_225, rk_226, rk_227, ι_add] <;> omega)) only [gd_pos]
    rw [e48 t hok h1 (by omega) (by omega), bI_ret, if1, e219 t hok h2 (by omega) (by omega), bI_ret, if1]
    cases e1 : wdS x z.1 1016 with
    | true =>
      have h0 : z.1.1 ≠ 0 := by rw [wd_1 e1]; omega
      have hb := hok.2.2.2.1 h0
      have he := hok.2.1
      have hsub : ∀ σ μ, PT n x g q (nxZ n x z) σ0 σ → MT n x g (nxZ n x z) μ0 μ → R2 (pcall 60 [.ref 24, .int (ι k)] σ) (pcall 224 [.ref 61, .int (ι k)] μ) (XR n x g q (nxZ n x z) 1 σ0 μ0) := fun σ μ p1 p2 => not_ok hq t hk ex (gz.1.nx t) (by show dpt z.2.2 z.2.1 ≤ _; have := gz.2.1; omega) p1 p2
      rw [if_neg (by rw [ι_le (by omega) (by omega)]; omega), if_pos rfl, if_pos rfl]
      refine opstep hq t iv0 gz h0 h1 h2 hsub (c := 1) (by omega) (by omega) (by decide) (by cases g <;> decide) (fun z' σ μ g1 lt p1 p2 => ?_) (fun c pl σ μ f1 f2 => ?_)
      · have := g1.1.1.1; have := g1.1.1.2.1
        rw [ι_add]; exact ih z' σ μ (i + 1) v' (by omega) (by omega) g1 p1 p2
      · exact R2.bad (c := c) (pl := pl) (fun g => by rw [hm] at g; cases g) (f59b hq (by omega) f1) (Wp.of (fm223b (by omega) f2) ⟨_, _, rfl, f2⟩)
    | false =>
      simp only [Bool.false_eq_true, if_false, ite_self]
      exact R2.good gz hm h1 h2
theorem and_ok (hq : isP q) (t : Txt n x) (hk : k ≤ 5) (ex : ExOK n x g q (k + 1) σ0 μ0) (iv : Ivx n x g z) (hd : dpt z.2.2 z.2.1 ≤ 5 * k + 1) (h1 : PT n x g q z σ0 σ) (h2 : MT n x g z μ0 μ) : R2 (pcall 59 [.ref 24, .int (ι k)] σ) (pcall 223 [.ref 61, .int (ι k)] μ) (XR n x g q z 1 σ0 μ0) := by
  refine R2.lee (M_59 rfl h1.lay) (M_223 rfl h2.lay) ?_
  simp (disch := (simp (disch := omega) only [lv_22, lv_23, lv_43, lv_48, lv_50, lv_52, lv_57, lv_58, lv_59, lv_60, lv_61, lv_62, lv_63, lv_64, lv_65, lv_66, lv_212, lv_218, lv_219, lv_220, lv_221, lv_222, lv_223, lv_224, lv_225, lv_226, lv_227, lv_228, lv_230, lv_231, rk_57, rk_59, rk_60, rk_61, rk_62, rk_63, rk_64, rk_221, rk_223, rk_224, rk_225, rk_226, rk_227, ι_add] <;> omega)) only [gd_pos]
  rw [rk_59 (by omega), rk_223 (by omega)]
  obtain ⟨zc, zm, ec, em, hQ⟩ := not_ok hq t hk ex iv (by omega) h1 h2
  rw [ec, em]
  rcases hQ with ⟨z1, g1, hm, ⟨v, τ, rfl, q1⟩, ⟨v', μ', rfl, q2⟩⟩ | ⟨c, pl, hm, ⟨v, τ, rfl, f1⟩, ⟨v', μ', rfl, f2⟩⟩
  · rw [bV_ret, bV_ret]
    exact lp59 hq t hk ex iv hm hd (n - z1.1.2.1) z1 τ μ' 0 .null (Nat.le_refl _) (Nat.zero_le _) g1 q1 q2
  · rw [bV_ret, bV_ret]
    exact R2.bad (c := c) (pl := pl) hm (f59b hq (by omega) f1) (Wp.of (fm223b (by omega) f2) ⟨_, _, rfl, f2⟩)
theorem lp57 (hq : isP q) (t : Txt n x) (hk : k ≤ 5) (ex : ExOK n x g q (k + 1) σ0 μ0) (iv0 : Ivx n x g z0) (hm : mayT x z0.1 = true) (hd : dpt z0.2.2 z0.2.1 ≤ 5 * k + 0) : ∀ f (z : Zx) σ μ i (v' : Value), n - z.1.2.1 ≤ f → i ≤ z.1.2.1 → goodZ n x g z0 z 1 → PT n x g q z σ0 σ → MT n x g z μ0 μ → R2 (C_57_47 k (ι k) (ι i) σ) (C_221_67 k (ι k) v' μ) (XR n x g q z0 1 σ0 μ0) := by
  have h7 := t.1
  intro f
  induction f with
  | zero =>
    intro z σ μ i v' hf hi gz h1 h2
    have hok := gz.1.1
    have hs : wdS x z.1 1017 = false := by
      cases e : wdS x z.1 1017 with
      | false => rfl
      | true => have := hok.2.2.2.1 (by rw [wd_1 e]; omega); have := hok.2.1; omega
    refine R2.lee (T_57_47 rfl h1.lay) (T_221_67 rfl h2.lay) ?_
    simp (disch := (simp (disch := omega) only [lv_22, lv_23, lv_43, lv_48, lv_50, lv_52, lv_57, lv_58, lv_59, lv_60, lv_61, lv_62, lv_63, lv_64, lv_65, lv_66, lv_212, lv_218, lv_219, lv_220, lv_221, lv_222, lv_223, lv_224, lv_225, lv_226, lv_227, lv_228, lv_230, lv_231, rk_57, rk_59, rk_60, rk_61, rk_62, rk_63, rk_64, rk_221, rk_223, rk_224, rk_225, rk_226, rk_227, ι_add] <;> omega)) only [gd_pos]
    rw [e48 t hok h1 (by omega) (by omega), bI_ret, if1, e219 t hok h2 (by omega) (by omega), bI_ret, if1, hs]
    simp only [Bool.false_eq_true, if_false, ite_self]
    exact R2.good gz hm h1 h2
  | succ f ih =>
    intro z σ μ i v' hf hi gz h1 h2
    have hok := gz.1.1
    refine R2.lee (T_57_47 rfl h1.lay) (T_221_67 rfl h2.lay) ?_
    simp (disch := (simp (disch := omega) only [lv_22, lv_23, lv_43, lv_48, lv_50, lv_52, lv_57, lv_58, lv_59, lv_60, lv_61, lv_62, lv_63, lv_64, lv_65, lv_66, lv_212, lv_218, lv_219, lv_220, lv_221, lv_222, lv_223, lv_224, lv_225, lv_226, lv_227, lv_228, lv_230, lv_231, rk_57, rk_59, rk_60, rk_61, rk_62, rk_63, rk_64, rk_221, rk_223, rk_224, rk_225, rk_226, rk_227, ι_add] <;> omega)) only [gd_pos]
    rw [e48 t hok h1 (by omega) (by omega), bI_ret, if1, e219 t hok h2 (by omega) (by omega), bI_ret, if1]
    cases e1 : wdS x z.1 1017 with
    | true =>
      have h0 : z.1.1 ≠ 0 := by rw [wd_1 e1]; omega
      have hb := hok.2.2.2.1 h0
      have he := hok.2.1
      have hsub : ∀ σ μ, PT n x g q (nxZ n x z) σ0 σ → MT n x g (nxZ n x z) μ0 μ → R2 (pcall 59 [.ref 24, .int (ι k)] σ) (pcall 223 [.ref 61, .int (ι k)] μ) (XR n x g q (nxZ n x z) 1 σ0 μ0) := fun σ μ p1 p2 => and_ok hq t hk ex (gz.1.nx t) (by show dpt z.2.2 z.2.1 ≤ _; have := gz.2.1; omega) p1 p2
      rw [if_neg (by rw [ι_le (by omega) (by omega)]; omega), if_pos rfl, if_pos rfl]
      refine opstep hq t iv0 gz h0 h1 h2 hsub (c := 0) (by omega) (by omega) (by decide) (by cases g <;> decide) (fun z' σ μ g1 lt p1 p2 => ?_) (fun c pl σ μ f1 f2 => ?_)
      · have := g1.1.1.1; have := g1.1.1.2.1
        rw [ι_add]; exact ih z' σ μ (i + 1) v' (by omega) (by omega) g1 p1 p2
      · exact R2.bad (c := c) (pl := pl) (fun g => by rw [hm] at g; cases g) (f57b hq (by omega) f1) (Wp.of (fm221b (by omega) f2) ⟨_, _, rfl, f2⟩)
    | false =>
      simp only [Bool.false_eq_true, if_false, ite_self]
      exact R2.good gz hm h1 h2
/-- how the reference begins an expression -/
theorem m221 (t : Txt n x) (ok : okTk n x z.1) (hk : k ≤ 6) (h2 : MT n x g z μ0 μ) : Le (C_221_38 k (ι k) (.retAddr 0) (bz (mayT x z.1)) μ) (pcall 221 [.ref 61, .int (ι k)] μ) := by
  have e2 := tk5 ok h2 (show 2 = 1 ∨ 2 = 2 ∨ 2 = 3 ∨ 2 = 0 by omega)
  have e1 := tk5 ok h2 (show 1 = 1 ∨ 1 = 2 ∨ 1 = 3 ∨ 1 = 0 by omega)
  have m := M_221 (x0 := ι k) rfl h2.lay
  revert m
  simp (disch := (simp (disch := omega) only [lv_22, lv_23, lv_43, lv_48, lv_50, lv_52, lv_57, lv_58, lv_59, lv_60, lv_61, lv_62, lv_63, lv_64, lv_65, lv_66, lv_212, lv_218, lv_219, lv_220, lv_221, lv_222, lv_223, lv_224, lv_225, lv_226, lv_227, lv_228, lv_230, lv_231, rk_57, rk_59, rk_60, rk_61, rk_62, rk_63, rk_64, rk_221, rk_223, rk_224, rk_225, rk_226, rk_227, ι_add] <;> omega)) only [gd_pos]
  rw [h2.1.2.1, if_pos rfl, rk_221 (by omega), e222 t ok h2 (by omega), bI_ret, if1]
  unfold mayT
  by_cases a2 : z.1.1 = 2
  · rw [if_pos (e2.mpr a2), decide_eq_true a2]; exact id
  rw [if_neg (fun g => a2 (e2.mp g)), decide_eq_false a2]
  by_cases a1 : z.1.1 = 1
  · rw [if_pos (e1.mpr a1), decide_eq_true a1]; exact id
  rw [if_neg (fun g => a1 (e1.mp g)), decide_eq_false a1]
  cases sgS x z.1 40 with
  | true => rw [if_pos rfl]; exact id
  | false => rw [if_neg (by decide)]; exact id
theorem expr_ok (hq : isP q) (t : Txt n x) (hk : k ≤ 5) (ex : ExOK n x g q (k + 1) σ0 μ0) : ExOK n x g q k σ0 μ0 := by
  intro z σ μ iv hd h1 h2
  obtain ⟨zc, zm, ec, em, hQ⟩ := and_ok hq t hk ex iv (by omega) h1 h2
  refine R2.lee (M_57 rfl h1.lay) (m221 t iv.1 (by omega) h2) ?_
  refine R2.le2 (T_221_38 rfl h2.lay) ?_
  simp (disch := (simp (disch := omega) only [lv_22, lv_23, lv_43, lv_48, lv_50, lv_52, lv_57, lv_58, lv_59, lv_60, lv_61, lv_62, lv_63, lv_64, lv_65, lv_66, lv_212, lv_218, lv_219, lv_220, lv_221, lv_222, lv_223, lv_224, lv_225, lv_226, lv_227, lv_228, lv_230, lv_231, rk_57, rk_59, rk_60, rk_61, rk_62, rk_63, rk_64, rk_221, rk_223, rk_224, rk_225, rk_226, rk_227, ι_add] <;> omega)) only [gd_pos]
  rw [rk_57 (by omega), if_pos (by rw [ι_le (by omega) (by omega)]; exact hk), if2]
  cases hmay : mayT x z.1 with
  | false =>
    rcases hQ with ⟨z1, g1, hm, -⟩ | ⟨c, pl, hm, ⟨v, τ, rfl, f1⟩, -⟩
    · rw [hm] at hmay; cases hmay
    · obtain ⟨rfl, rfl⟩ := hm hmay
      rw [ec, bV_ret, if_neg (by decide)]
      refine R2.bad (c := 1) (pl := z.1.2.1) (fun _ => ⟨rfl, rfl⟩) (f57b hq (by omega) f1) ?_
      refine Wp.cV (e220 h2 (by omega) (by omega)) fun τ f => ?_
      rw [fm223 (by omega) f, bV_ret, fm221b (by omega) f]
      exact Wp.retV f
  | true =>
    rw [if_pos rfl, if_pos (by rw [ι_eq (by omega) (by omega)]; omega), ec, em]
    rcases hQ with ⟨z1, g1, hm, ⟨v, τ, rfl, q1⟩, ⟨v', μ', rfl, q2⟩⟩ | ⟨c, pl, hm, ⟨v, τ, rfl, f1⟩, ⟨v', μ', rfl, f2⟩⟩
    · rw [bV_ret, bV_ret]
      exact lp57 hq t hk ex iv hm (by omega) (n - z1.1.2.1) z1 τ μ' 0 _ (Nat.le_refl _) (Nat.zero_le _) g1 q1 q2
    · rw [bV_ret, bV_ret]
      exact R2.bad (c := c) (pl := pl) hm (f57b hq (by omega) f1) (Wp.of (fm221b (by omega) f2) ⟨_, _, rfl, f2⟩)
/-- too deep -/
theorem expr_6 (hq : isP q) (t : Txt n x) : ExOK n x g q 6 σ0 μ0 := by
  intro z σ μ iv hd h1 h2
  refine R2.lee (M_57 rfl h1.lay) (m221 t iv.1 (by omega) h2) ?_
  refine R2.le2 (T_221_38 rfl h2.lay) ?_
  simp (disch := (simp (disch := omega) only [lv_22, lv_23, lv_43, lv_48, lv_50, lv_52, lv_57, lv_58, lv_59, lv_60, lv_61, lv_62, lv_63, lv_64, lv_65, lv_66, lv_212, lv_218, lv_219, lv_220, lv_221, lv_222, lv_223, lv_224, lv_225, lv_226, lv_227, lv_228, lv_230, lv_231, rk_57, rk_59, rk_60, rk_61, rk_62, rk_63, rk_64, rk_221, rk_223, rk_224, rk_225, rk_226, rk_227, ι_add] <;> omega)) only [gd_pos]
  rw [if_neg (by decide), if2]
  simp only [not_true_eq_false, if_false]
  have ec : ∀ c, c ≠ 0 → c ≤ 5 → Wp (bV (pcall 50 [.ref 24, .int (ι c)] σ) fun σ2 => some (0, .null, σ2)) (RV (FT g q c z.1.2.1 σ0)) := fun c h h5 => Wp.cV (e50 hq h1 h h5) fun τ f => Wp.retV f
  have em : ∀ c, c ≠ 0 → c ≤ 5 → Wp (bV (pcall 220 [.ref 61, .int (ι c)] μ) fun σ2 => bV (pcall 223 [.ref 61, .int (ι 6)] σ2) fun σ3 => C_221_67 6 (ι 6) (.int (bz (mayT x z.1))) σ3) (RV (FM g c z.1.2.1 μ0)) := fun c h h5 => Wp.cV (e220 h2 h h5) fun τ f => by
    rw [fm223 (by omega) f, bV_ret, fm221b (by omega) f]
    exact Wp.retV f
  by_cases a2 : z.1.1 = 2
  · have hmay : mayT x z.1 = true := by unfold mayT; rw [decide_eq_true a2]; rfl
    rw [if_pos (by rw [tc5 iv.1 h1 (by omega)]; exact a2), if_pos hmay]
    exact R2.bad (c := 2) (pl := z.1.2.1) (fun g => by rw [hmay] at g; cases g) (ec 2 (by omega) (by omega)) (em 2 (by omega) (by omega))
  rw [if_neg (by rw [tc5 iv.1 h1 (by omega)]; exact a2)]
  by_cases a1 : z.1.1 = 1
  · have hmay : mayT x z.1 = true := by unfold mayT; rw [decide_eq_true a1, Bool.or_true]; rfl
    rw [if_pos (by rw [tc5 iv.1 h1 (by omega)]; exact a1), if_pos hmay]
    exact R2.bad (c := 2) (pl := z.1.2.1) (fun g => by rw [hmay] at g; cases g) (ec 2 (by omega) (by omega)) (em 2 (by omega) (by omega))
  rw [if_neg (by rw [tc5 iv.1 h1 (by omega)]; exact a1), e58 t iv.1 h1 (by omega), bI_ret, if1]
  cases es : sgS x z.1 40 with
  | true =>
    have hmay : mayT x z.1 = true := by unfold mayT; rw [es, Bool.or_true]
    rw [if_pos rfl, if_pos hmay]
    exact R2.bad (c := 2) (pl := z.1.2.1) (fun g => by rw [hmay] at g; cases g) (ec 2 (by omega) (by omega)) (em 2 (by omega) (by omega))
  | false =>
    have hmay : mayT x z.1 = false := by unfold mayT; rw [es, decide_eq_false a2, decide_eq_false a1]; rfl
    rw [if_neg (by decide), if_neg (by rw [hmay]; decide)]
    exact R2.bad (c := 1) (pl := z.1.2.1) (fun _ => ⟨rfl, rfl⟩) (ec 1 (by omega) (by omega)) (em 1 (by omega) (by omega))
theorem expr_all (hq : isP q) (t : Txt n x) : ∀ m k, k + m = 6 → ExOK n x g q k σ0 μ0 := by
  intro m
  induction m with
  | zero => intro k hk; rw [show k = 6 by omega]; exact expr_6 hq t
  | succ m ih => intro k hk; exact expr_ok hq t (by omega) (ih (k + 1) (by omega))
end EXPR3
