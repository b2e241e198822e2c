/-! ===== the law at the machine ===== -/
section LAWZ
/-- the text's constant that stands for it -/
def rpL : List (Nat × Nat) := [(0, 92), (0, 349), (6, 80), (6, 89), (6, 95), (6, 97), (6, 102), (6, 185), (6, 205), (6, 207), (6, 209), (6, 211), (6, 213), (6, 215), (6, 217), (6, 219), (6, 183), (6, 175), (6, 111), (0, 168), (0, 370), (0, 189), (0, 372), (0, 213), (0, 374), (0, 376)]
def rpT (n : Nat) : Jvm.Term := .string (own (rpL.getD n (0, 0)).1) (rpL.getD n (0, 0)).2
def fl1 : List Cond := flatC (Jvm.Cond.and given_1 narrow_1)
def posX : List Nat := [33, 359, 67, 77, 86, 94, 103, 112, 119, 126, 133, 141, 149, 156, 166, 175, 185, 192, 198, 206, 233, 251, 279, 296, 323, 339]
def posE : List (Nat × Nat) := [(11, 384), (13, 393), (19, 401), (21, 409), (23, 418), (25, 427), (27, 435), (29, 446), (34, 456), (36, 467), (273, 477), (275, 486), (251, 494), (259, 502), (264, 509), (280, 520), (285, 530)]
def expX (n : Nat) : List Cond := [Cond.exactly (rpT n) "java/lang/String", Cond.eq (.field (rpT n) "java/lang/String" "code\x72" "B") (.int 0), Cond.arrayOf (.field (rpT n) "java/lang/String" "value" "[B") .byte, Cond.eq (.length (.field (rpT n) "java/lang/String" "value" "[B")) (.int (Int32.ofNat (slen n)))] ++ (List.range (slen n)).map (fun j => Cond.eq (.elem (.field (rpT n) "java/lang/String" "value" "[B") (.int (Int32.ofNat j))) (.int (sby n j)))
def okX (n : Nat) : Bool := decide ((fl1.drop (posX.getD n 0)).take (4 + slen n) = expX n) && Nat.blt (slen n) 1000
set_option maxRecDepth 100000 in
theorem okX_0 : okX 0 = true := by decide +kernel
set_option maxRecDepth 100000 in
theorem okX_1 : okX 1 = true := by decide +kernel
set_option maxRecDepth 100000 in
theorem okX_2 : okX 2 = true := by decide +kernel
set_option maxRecDepth 100000 in
theorem okX_3 : okX 3 = true := by decide +kernel
set_option maxRecDepth 100000 in
theorem okX_4 : okX 4 = true := by decide +kernel
set_option maxRecDepth 100000 in
theorem okX_5 : okX 5 = true := by decide +kernel
set_option maxRecDepth 100000 in
theorem okX_6 : okX 6 = true := by decide +kernel
set_option maxRecDepth 100000 in
theorem okX_7 : okX 7 = true := by decide +kernel
set_option maxRecDepth 100000 in
theorem okX_8 : okX 8 = true := by decide +kernel
set_option maxRecDepth 100000 in
theorem okX_9 : okX 9 = true := by decide +kernel
set_option maxRecDepth 100000 in
theorem okX_10 : okX 10 = true := by decide +kernel
set_option maxRecDepth 100000 in
theorem okX_11 : okX 11 = true := by decide +kernel
set_option maxRecDepth 100000 in
theorem okX_12 : okX 12 = true := by decide +kernel
set_option maxRecDepth 100000 in
theorem okX_13 : okX 13 = true := by decide +kernel
set_option maxRecDepth 100000 in
theorem okX_14 : okX 14 = true := by decide +kernel
set_option maxRecDepth 100000 in
theorem okX_15 : okX 15 = true := by decide +kernel
set_option maxRecDepth 100000 in
theorem okX_16 : okX 16 = true := by decide +kernel
set_option maxRecDepth 100000 in
theorem okX_17 : okX 17 = true := by decide +kernel
set_option maxRecDepth 100000 in
theorem okX_18 : okX 18 = true := by decide +kernel
set_option maxRecDepth 100000 in
theorem okX_19 : okX 19 = true := by decide +kernel
set_option maxRecDepth 100000 in
theorem okX_20 : okX 20 = true := by decide +kernel
set_option maxRecDepth 100000 in
theorem okX_21 : okX 21 = true := by decide +kernel
set_option maxRecDepth 100000 in
theorem okX_22 : okX 22 = true := by decide +kernel
set_option maxRecDepth 100000 in
theorem okX_23 : okX 23 = true := by decide +kernel
set_option maxRecDepth 100000 in
theorem okX_24 : okX 24 = true := by decide +kernel
set_option maxRecDepth 100000 in
theorem okX_25 : okX 25 = true := by decide +kernel
theorem okX_at : ∀ n, n < 26 → okX n = true := by
  intro n hn
  rcases (by omega : n = 0 ∨ n = 1 ∨ n = 2 ∨ n = 3 ∨ n = 4 ∨ n = 5 ∨ n = 6 ∨ n = 7 ∨ n = 8 ∨ n = 9 ∨ n = 10 ∨ n = 11 ∨ n = 12 ∨ n = 13 ∨ n = 14 ∨ n = 15 ∨ n = 16 ∨ n = 17 ∨ n = 18 ∨ n = 19 ∨ n = 20 ∨ n = 21 ∨ n = 22 ∨ n = 23 ∨ n = 24 ∨ n = 25) with rfl | rfl | rfl | rfl | rfl | rfl | rfl | rfl | rfl | rfl | rfl | rfl | rfl | rfl | rfl | rfl | rfl | rfl | rfl | rfl | rfl | rfl | rfl | rfl | rfl | rfl
  · exact okX_0
  · exact okX_1
  · exact okX_2
  · exact okX_3
  · exact okX_4
  · exact okX_5
  · exact okX_6
  · exact okX_7
  · exact okX_8
  · exact okX_9
  · exact okX_10
  · exact okX_11
  · exact okX_12
  · exact okX_13
  · exact okX_14
  · exact okX_15
  · exact okX_16
  · exact okX_17
  · exact okX_18
  · exact okX_19
  · exact okX_20
  · exact okX_21
  · exact okX_22
  · exact okX_23
  · exact okX_24
  · exact okX_25
def okZc (c : Nat) (q : Nat × Nat × Int × Nat) : Bool := match q.2.1 with
  | 2 => (Nat.beq c (rpL.getD q.2.2.1.toNat (0, 0)).1 && Nat.beq q.1 (rpL.getD q.2.2.1.toNat (0, 0)).2) || decide (fl1[(asc posE q.1).getD 0]? = some (Cond.eq (rpT q.2.2.1.toNat) (.string (own c) q.1)))
  | _ => true
set_option maxRecDepth 100000 in
theorem okZc_all : ckT okZc 0 plCL = true := by decide +kernel
set_option maxRecDepth 100000 in
theorem okQ_all : ((fl1[6]? = some (Cond.eq (.static "java/lang/String" "COMPACT_STRINGS" "Z") (.int 1)) ∧ fl1[7]? = some (Cond.isRef (.static "jdk/internal/util/Preconditions" "SIOOBE_FORMATTER" "Ljava/util/function/BiFunction;")) ∧ fl1[4]? = some (Cond.isRef (.static "java/lang/Throwable" "UNASSIGNED_STACK" "[Ljava/lang/StackTraceElement;")) ∧ fl1[5]? = some (Cond.isRef (.static "java/lang/Throwable" "SUPPRESSED_SENTINEL" "Ljava/util/List;"))) ∧ fl1[21]? = some (Cond.not (.castable "java/util/NoSuchElementException" "java/lang/IllegalArgumentException")) ∧ fl1[32]? = some (Cond.not (.castable "java/lang/IllegalArgumentException" "java/util/NoSuchElementException"))) := ⟨⟨rfl, rfl, rfl, rfl⟩, rfl, rfl⟩
theorem mem_tk {α : Type} {l e : List α} {k n : Nat} (h : (l.drop k).take n = e) {x : α} (hx : x ∈ e) : x ∈ l := List.mem_of_mem_drop (List.mem_of_mem_take (by rw [h]; exact hx))
theorem lw_t {i : Nat} {w : Cond} {A : Array Value} {s : State} (hts : ∀ w ∈ lw_tbl, w.before A s = true) (h : tq i = some w) : w.before A s = true := hts w (tq_lw h)
theorem law_env {s : State} {b L : Nat} {xs : Nat → Int32} (hts : ∀ w ∈ lw_tbl, w.before #[Value.ref b] s = true) (hg : (Jvm.Cond.and given_1 narrow_1).before #[Value.ref b] s = true) (hX : va_X b L xs s s.heap) (hb : b < s.heap.size) :
    ∃ (ad : Nat → Nat) (nv : Value), nv.category = 1 ∧ EnvM s.heap.size nv (L, xs) ad s ∧ ad 3000 = b := by
  have hA : ∀ a : Nat, a < s.heap.size → ¬ s.heap.size ≤ a := fun a h => Nat.not_le.mpr h
  have hq : ∀ c ∈ fl1, c.before #[Value.ref b] s = true := flat_of_before _ hg
  have h0 : ∀ n : Nat, ∃ q : Nat × Nat, n < 26 → (rpT n).eval #[Value.ref b] s none [] s = some (.ref q.1) ∧ va_O "java/lang/String" q.1 (fun q => s.heap.size ≤ q) s s.heap ∧ va_OF "java/lang/String" "code\x72" "B" (.int 0) q.1 (fun q => s.heap.size ≤ q) s s.heap ∧ va_OF "java/lang/String" "value" "[B" (.ref q.2) q.1 (fun q => s.heap.size ≤ q) s s.heap ∧ va_T .byte q.2 (slen n) (fun j => .int (sby n j)) (fun q => s.heap.size ≤ q) s s.heap := by
    intro n
    by_cases hn : n < 26
    · have h1 := okX_at n hn
      simp only [okX, Bool.and_eq_true, decide_eq_true_eq] at h1
      obtain ⟨h2, h3⟩ := h1
      have a6 : slen n < 2 ^ 31 := Nat.lt_trans (Nat.blt_eq.mp h3) (by decide)
      have a1 := mem_tk h2 (x := Cond.exactly (rpT n) "java/lang/String") (List.mem_append_left _ (by simp))
      have a2 := mem_tk h2 (x := Cond.eq (.field (rpT n) "java/lang/String" "code\x72" "B") (.int 0)) (List.mem_append_left _ (by simp))
      have a3 := mem_tk h2 (x := Cond.arrayOf (.field (rpT n) "java/lang/String" "value" "[B") .byte) (List.mem_append_left _ (by simp))
      have a4 := mem_tk h2 (x := Cond.eq (.length (.field (rpT n) "java/lang/String" "value" "[B")) (.int (Int32.ofNat (slen n)))) (List.mem_append_left _ (by simp))
      have a5 : ∀ j, j < slen n → Cond.eq (.elem (.field (rpT n) "java/lang/String" "value" "[B") (.int (Int32.ofNat j))) (.int (sby n j)) ∈ fl1 := fun j hj => mem_tk h2 (List.mem_append_right _ (List.mem_map.mpr ⟨j, List.mem_range.mpr hj, rfl⟩))
      obtain ⟨a, c, cA, kA, q1, q2, q3, q4, q5, q6, -⟩ := Cond.exactly_spec (args := #[Value.ref b]) (first := s) (o := none) (s := s) (idx := []) (t := rpT n) (cls := "java/lang/String") (hq _ a1)
      obtain ⟨t, ht, hT⟩ := va_Tof (f := fun j => .int (sby n j)) (A := fun q => s.heap.size ≤ q) a6 (hq _ a3) (va_eqt (hq _ a4)) (fun j hj => va_eqt (hq _ (a5 j hj))) hA
      exact ⟨(a, t), fun _ => ⟨q1, ⟨cA, q3, q5, by rw [q6]; exact q2, hA a (Array.getElem?_eq_some_iff.mp q3).1⟩, vk_OFof q1 (va_eqt (hq _ a2)) hA, vk_OFof q1 ht hA, hT⟩⟩
    · exact ⟨(0, 0), fun h => absurd h hn⟩
  obtain ⟨f, hf⟩ := Classical.axiomOfChoice h0
  obtain ⟨⟨o1, o2, o3, o4⟩, o5, o6⟩ := okQ_all
  replace o1 := List.mem_of_getElem? o1
  replace o2 := List.mem_of_getElem? o2
  replace o3 := List.mem_of_getElem? o3
  replace o4 := List.mem_of_getElem? o4
  replace o5 := List.mem_of_getElem? o5
  replace o6 := List.mem_of_getElem? o6
  have hini : (Cond.initialized "java/lang/String").before #[Value.ref b] s = true := lw_t hts (i := 16) rfl
  have hinT : (Cond.initialized "java/lang/Throwable").before #[Value.ref b] s = true := lw_t hts (i := 11) rfl
  have hinP : (Cond.initialized "jdk/internal/util/Preconditions").before #[Value.ref b] s = true := lw_t hts (i := 18) rfl
  obtain ⟨nv, hv, hc⟩ : ∃ nv : Value, (Term.static "jdk/internal/util/Preconditions" "SIOOBE_FORMATTER" "Ljava/util/function/BiFunction;").eval #[Value.ref b] s none [] s = some nv ∧ nv.category = 1 := by
    have h := hq _ o2
    cases hv : (Term.static "jdk/internal/util/Preconditions" "SIOOBE_FORMATTER" "Ljava/util/function/BiFunction;").eval #[Value.ref b] s none [] s with
    | none => simp [Cond.before, Cond.holds, Cond.value, hv] at h
    | some w =>
      simp only [Cond.before, Cond.holds, Cond.value, hv] at h
      cases w with
      | null => exact ⟨_, rfl, rfl⟩
      | ref t => exact ⟨_, rfl, rfl⟩
      | _ => simp at h
  refine ⟨fun a => if a = 3000 then b else if 2000 ≤ a then (f (a - 2000)).2 else (f (a - 1000)).1, nv, hc, ⟨?_, ?_, ?_, ?_, ?_, ?_, ?_, ?_, ?_, ?_, ?_, ?_, ?_, ?_⟩, if_pos rfl⟩
  · intro i hi
    have e1 : (if 1000 + i = 3000 then b else if 2000 ≤ 1000 + i then (f (1000 + i - 2000)).2 else (f (1000 + i - 1000)).1) = (f i).1 := by
      rw [if_neg (by omega), if_neg (by omega), Nat.add_sub_cancel_left]
    have e2 : (if 2000 + i = 3000 then b else if 2000 ≤ 2000 + i then (f (2000 + i - 2000)).2 else (f (2000 + i - 1000)).1) = (f i).2 := by
      rw [if_neg (by omega), if_pos (by omega), Nat.add_sub_cancel_left]
    simp only [e1, e2]
    exact (hf i hi).2
  · intro c i n x hp
    have h1 := plC_ok hp
    have h2 := ckT_at okZc_all (asc_mem hp)
    rw [Nat.zero_add] at h2
    simp only [okK, Bool.and_eq_true, decide_eq_true_eq] at h1
    simp only [okZc, Bool.or_eq_true, Bool.and_eq_true, decide_eq_true_eq] at h2
    obtain ⟨⟨h3, h4⟩, h5⟩ := h1
    have h6 : n.toNat < 26 := by omega
    have e1 : (if 1000 + n.toNat = 3000 then b else if 2000 ≤ 1000 + n.toNat then (f (1000 + n.toNat - 2000)).2 else (f (1000 + n.toNat - 1000)).1) = (f n.toNat).1 := by
      rw [if_neg (by omega), if_neg (by omega), Nat.add_sub_cancel_left]
    simp only [e1]
    refine vk_R.of (A := #[Value.ref b]) (lw_t hts h5) ?_
    have h7 := (hf n.toNat h6).1
    rcases h2 with h2 | h2
    · have h8 : rpT n.toNat = .string (own c) i := by unfold rpT; rw [← Nat.eq_of_beq_eq_true h2.1, ← Nat.eq_of_beq_eq_true h2.2]
      rw [← h8]; exact h7
    · exact va_eqR (hq _ (List.mem_of_getElem? h2)) h7
  · exact va_Zof (lw_t hts (i := 2113) rfl) hini (va_eqi (hq _ o1)) hA
  · exact va_Zof (lw_t hts (i := 2129) rfl) hinP hv hA
  · exact vx_Zqof (lw_t hts (i := 2027) rfl) hinT (hq _ o3) hA
  · exact vx_Zqof (lw_t hts (i := 2029) rfl) hinT (hq _ o4) hA
  · exact va_Nc.of (hq _ o6)
  · exact va_Nc.of (hq _ o5)
  · intro N hN
    rcases List.mem_cons.mp hN with rfl | hN
    · exact va_tabs rfl rfl (lw_t hts (i := 2004) rfl)
    rcases List.mem_cons.mp hN with rfl | hN
    · exact va_tabs rfl rfl (lw_t hts (i := 2006) rfl)
    rcases List.mem_cons.mp hN with rfl | hN
    · exact va_tabs rfl rfl (lw_t hts (i := 2008) rfl)
    · cases hN
  · simp only [if_true]; exact hX
  · simp only [if_true]; exact hb
  · simp only [if_true]; exact hA b hb
  · intro c i b' n k x hp hk
    have h1 := lw_t hts (plM_link hp)
    rcases hk with rfl | rfl
    · exact va_Nw.of rfl h1
    · exact va_Nw.of rfl h1
  · exact va_AO.of (lw_t hts (i := 5169) rfl)
/-- the classes' layouts, the arrays' classes -/
theorem law_K {s : State} {A : Array Value} (hts : ∀ w ∈ lw_tbl, w.before A s = true) : ∃ G : pG, va_K G.1 pCls (tyG G) s := by
  have htb : ∀ w ∈ TB, w.before A s = true := fun w h => hts w (tb_lw w h)
  have h0 : ∀ ci : Nat, ∃ q : ClassId × (Nat → Nat), ci < 10 → u_Kn s (pcN ci) (pcT ci) (nf ci) q.1 q.2 := by
    intro ci
    by_cases h : ci < 10
    · obtain ⟨cC, iS, h1⟩ := u_known htb (u_in h) (htb _ (okC_at h).2.2.1)
      exact ⟨(cC, iS), fun _ => h1⟩
    · exact ⟨(0, fun _ => 0), fun h' => absurd h' h⟩
  obtain ⟨f, hf⟩ := Classical.axiomOfChoice h0
  obtain ⟨cI, kI, oI, i1, i2, i3⟩ := Cond.arrayClass_spec (htb _ pr_12)
  obtain ⟨cJ, kJ, oJ, j1, j2, j3⟩ := Cond.arrayClass_spec (htb _ pr_13)
  obtain ⟨oS, cS, kS, s1, s2, s3, s4, s5⟩ := Cond.arrayOver_spec (n := "java/lang/String") (args := A) (first := s) (o := none) (idx := []) (s := s) (lw_t hts (i := 5169) rfl)
  refine ⟨((fun ci => (f ci).1, fun ci => (f ci).2), cI, cJ, cS), fun c q hq => ?_, fun k q hq => ?_⟩
  · have hc : c < 10 := (List.getElem?_eq_some_iff.mp hq).1
    have h1 := pCls_at c hc
    rw [hq] at h1
    cases h1
    exact hf c hc
  · have hk : k < 3 := (List.getElem?_eq_some_iff.mp hq).1
    rcases (by omega : k = 0 ∨ k = 1 ∨ k = 2) with rfl | rfl | rfl
    · cases hq
      exact ⟨fun n z => ⟨fun k h => (by cases h), kI, i2, oI, i3⟩, i1⟩
    · cases hq
      exact ⟨fun n z => ⟨fun k h => (by cases h), kJ, j2, oJ, j3⟩, j1⟩
    · cases hq
      exact ⟨fun n z => ⟨fun k h => (by cases h), kS, s3, oS, s4⟩, kS, oS, s3, s4, s1, s5⟩
/-- the store at the law's start -/
def σ00 (L : Nat) (xs : Nat → Int32) : pS := (0, 0, 0, fun _ _ => 0, fun _ _ => 0, fun _ _ => none, (L, xs))
def lw_At2 (p : Program) (s : State) (m : MethodId) (meth : Method) (c : Code) (b L : Nat) (xs : Nat → Int32) : Prop := lw_At p s m meth c b L xs ∧ c.exceptionTable.toList = []
theorem law_traces {l : Launch} (hf : l.flags = flags0) : l.stackTraces = false := by
  unfold Launch.stackTraces
  rw [hf]
  decide
set_option maxRecDepth 100000 in
theorem law_b353 : byt 353 = code ∧ mxl 353 = 7 ∧ rty 353 = some .boolean ∧ own (po 353) = R_law ∧ isin 353 = false ∧ hns 353 = [] ∧ lv 353 0 = 85 := ⟨rfl, rfl, rfl, rfl, by decide +kernel, rfl, rfl⟩
/-- from the pure run to the machine's -/
theorem law_runs {p : Program} {e : Jvm.Env} {s : State} {m : MethodId} {below : List Frame} {meth : Method} {c : Code} (l : Launch) (hflags : l.flags = flags0) {b L : Nat} {xs : Nat → Int32} (C0 : lw_At2 p s m meth c b L xs) {f : Nat} {σ' : pS}
    (hev : ev f 353 0 0 (elo 7 [.ref 3000]) [] (σ00 L xs) = some (1, .int 1, σ')) (hc' : pcl σ' ≤ 601024) (hs' : psl σ' ≤ 7293034) :
    W p l e room_1 s m #[Value.ref b] below meth c s.heap [] 0 0 (lw_Z below #[Value.ref b] s) (entryFrame m ([Value.ref b] : List Value).toArray 7) := by
  obtain ⟨⟨hx, hb, hr, hml, hown, hts, hX, hbs, hlk, hg⟩, htab⟩ := C0
  obtain ⟨ad, nv, hnv, hEn, had⟩ := law_env hts hg hX hbs
  obtain ⟨G, hK⟩ := law_K hts
  obtain ⟨e1, e2, e3, e4, e5, e6, e7⟩ := law_b353
  have hl := law_traces hflags
  have hC : Cx 353 0 p l room_1 s m #[Value.ref b] meth c s.heap.size G nv (L, xs) ad :=
    ⟨hx, by rw [e1]; exact hb, by rw [e2]; exact hml, by rw [e4]; exact hown, fun w hw => hts w (tb_lw w hw), hlk, by rw [e7]; decide, by rw [e7]; decide, fun h => by (rw [e5] at h; cases h), by rw [e6]; exact htab, hl, hK, hEn, Nat.le_refl _, hnv, by omega, hEn.2.2.2.2.2.2.2.2.2.2.2.2.2⟩
  have hgo := g_runs (Q := lw_Z below #[Value.ref b] s) (σ0 := σ00 L xs) (n0 := 0) (c0 := 0) (s0 := 0) (e := e) (below := below) (y := (1, .int 1, σ')) (mc := pcl σ') (ms := psl σ') hC (by rw [hr, e3]; rfl) rfl (Nat.zero_add _).symm (Nat.zero_add _).symm ⟨hc', hs'⟩
    (fun b' k' av' σ1 y' f' ad' hlt hb' he hwf hfl' hps => snd_all hl hnv (lv b' k') b' k' av' σ1 y' f' ad' (Nat.le_refl _) hb' he hwf hfl' hps)
    (fun pc ls st σ1 hlb hs => by
      intro ad1 H locs lsM cells slots h0 h1 hw hr1 hcc hss
      rcases stp_end hs with ⟨v, ty, g1, rfl, g3, g4, g5⟩ | ⟨v, g1, rfl, g3, g5⟩ | ⟨v, o, g1, rfl, g3, g5⟩ | ⟨g1, rfl, g3, g5⟩ | ⟨k9, x, pl, g1, g2, g3, g4⟩
      · cases g5
        refine va_forget (s := s) (fun q hq => hr1.2.2.1.2.2 q hq) (W.widen (k := 601024) (n := 7293034) (by omega) (by omega) ?_)
        have hd := cd_dec (by omega) g1
        rw [e1] at hd
        exact lw_ret hx hb hr hlk hd
      · cases g5
      · cases g5
      · cases g5
      · have := thr_k g4
        have h2 := congrArg Prod.fst this
        simp only at h2
        omega)
    (fun pc ls k' σ1 hk2 hh hy => by
      have h2 := congrArg Prod.fst hy
      simp only at h2
      omega)
    f 0 (elo 7 [.ref 3000]) [] (σ00 L xs) hev (by rw [e2]; exact elo_len (by decide)) rfl
  have h9 : entryFrame m ([Value.ref b] : List Value).toArray 7 = entryFrame m ([Value.ref 3000].map (em ad nv)).toArray 7 := by
    show _ = entryFrame m ([Value.ref (ad 3000)] : List Value).toArray 7
    rw [had]
  rw [h9, lg_entry_eq]
  refine hgo ad s.heap [] _ 0 0 (Nat.le_refl _) (fun a _ => rfl) ⟨Nat.zero_le _, fun v hv => ?_, fun v hv => (by cases hv), fun a i q h => (by cases h)⟩ ⟨?_, ?_, va_S.rf, elo_has hnv (fun v hv x e => (by rw [List.mem_singleton.mp hv] at e; cases e)) (by decide)⟩ rfl rfl
  · rw [elo_eq] at hv
    rcases List.mem_append.mp hv with g | g
    · rw [show flt [Value.ref 3000] = [Value.ref 3000] from rfl] at g
      rw [List.mem_singleton.mp g]
      exact Or.inr (show (1000 : Nat) ≤ 3000 by decide)
    · rw [List.eq_of_mem_replicate g]; trivial
  · intro k q hq
    cases hq
  · exact ⟨fun i j p q hi => (by cases hi), fun k q hq => (by cases hq)⟩
end LAWZ
