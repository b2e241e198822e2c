/-! ===== throws, calls, copies ===== -/
section SNDE
variable {p : Program} {l : Launch} {e : Jvm.Env} {R : Room} {s : State} {m : MethodId} {args : Array Value} {below : List Frame} {meth : Method} {c : Code} {Q : State → Prop} {z : Nat} {G : pG} {nv : Value} {c0 s0 n0 : Nat} {ad0 ad : Nat → Nat} {pc : Nat} {ls st : List Value} {σ : pS} {cc : ByteArray} {sc : Nat × (Nat → Int32)}
/-- what is there besides the store, in a later state -/
theorem EnvM.mv {U : State} (h : EnvM z nv sc ad s) (hW : s.WarmedH U.vm) (hq : ∀ a : Nat, a < s.heap.size → ¬ z ≤ a → U.heap[a]? = s.heap[a]?) : EnvM z nv sc ad U := by
  obtain ⟨h1, h2, h3, h4, h5, h6, h7, h8, h9, h10, h11, h12, h13⟩ := h
  have hA := hW.alike
  refine ⟨fun i hi => ⟨((h1 i hi).1.kept hq).moved hA, ((h1 i hi).2.1.kept hq).moved hA, ((h1 i hi).2.2.1.kept hq).moved hA, ((h1 i hi).2.2.2.kept hq).moved hA⟩, fun c i n x hp => (h2 c i n x hp).warm hW, (h3.kept hq).moved hA, (h4.kept hq).moved hA, (h5.kept hq).moved hA, (h6.kept hq).moved hA, h7.moved hA, h8.moved hA, fun N hN => ?_, (h10.kept (hq _ h11 h12)).moved hA, ?_, h12, fun c i b n k x hp hk => (h13.1 c i b n k x hp hk).warmM hW, h13.2.moved hA⟩
  rotate_left
  · have := hq _ h11 h12
    rw [Array.getElem?_eq_getElem h11] at this
    exact (Array.getElem?_eq_some_iff.mp this).1
  have h20 : (Cond.declares (Bundle.initS N)).before #[] (s.setVm U.vm) = true := by
    rw [Cond.declares_setVm hA]
    exact h9 N hN
  have e := Cond.onTables_vm (A := #[]) (A' := #[]) (U := s) (U' := U) U.vm (Cond.declares (Bundle.initS N)) rfl
  have hU : U.setVm U.vm = U := rfl
  rw [hU] at e
  rw [← e]
  exact h20
theorem pcM_blind {av : List Value} : FrameBlind (PcM z G nv sc ad σ av) := by
  intro a U g mk h
  obtain ⟨h1, h2, h3, h4, h5, h6⟩ := h
  exact ⟨h1, h2, h3, h4, va_K.moved (u := U) (U := U.calling g mk a) (Vm.Alike.refl U.vm) h5, h6.mv (U := U.calling g mk a) (State.WarmedH.refl U) (fun _ _ _ => rfl)⟩
/-- a callee's start, at the call -/
theorem pcM_at {av : List Value} {H : Heap} {locs : List Loc} {lsM : Array Slot} (hK : va_K G.1 pCls (tyG G) s) (hEn : EnvM z nv sc ad s) (hz : z ≤ s.heap.size) (hr : RL z G ad nv s σ ls H locs lsM) {a : Array Value} (ha : a = (av.map (em ad nv)).toArray) : ∀ U : State, U.heap = H → s.WarmedH U.vm → PcM z G nv sc ad σ av a U := by
  intro U hU hW
  refine ⟨ha, by rw [hU]; exact Nat.le_trans hz hr.2.2.1.1, by rw [hU]; exact hr.1, hr.2.1, va_K.moved hW.alike hK, hEn.mv hW (fun a h1 h2 => by rw [hU]; exact hr.2.2.1.2.1 a h1 h2)⟩
theorem good_cwd (b : Nat) : goodWord (cwd b) = true := by
  unfold cwd
  split <;> rfl
theorem good_in {b : Nat} (h : b < 353) : GoodIn TB (wsM b) := by
  intro w hw
  rcases List.mem_cons.mp hw with rfl | hw
  · exact ⟨tq_tb (m_code h) (good_cwd b), good_of_word (good_cwd b)⟩
  · exact ⟨hw, tb_good w hw⟩
theorem cwd_nil {b : Nat} (h : hns b = []) : cwd b = .code (yM b) (byt b) (mxl b) (rty b) := by
  unfold cwd; rw [h]
theorem cwd_cons {b : Nat} (h : hns b ≠ []) : cwd b = .codeWith (yM b) (byt b) (mxl b) (rty b) (hns b) := by
  unfold cwd
  split
  · rename_i e; exact absurd e h
  · rfl
theorem okN_at {b : Nat} (h : b < 354) : po b < 19 ∧ po b ≠ 14 ∧ mxl b ≤ 22 ∧ (hns b ≠ [] → ist b = true) ∧ (ini b = true → rty b = none) := by
  have h1 := List.all_eq_true.mp okN_all b (List.mem_range.mpr h)
  simp only [okN, Bool.and_eq_true, decide_eq_true_eq] at h1
  obtain ⟨⟨⟨⟨h2, h3⟩, h4⟩, h5⟩, h6⟩ := h1
  refine ⟨h2, fun e => ?_, Nat.le_of_ble_eq_true h4, fun hn => ?_, fun hi => ?_⟩
  · rw [e] at h3; cases h3
  · split at h5
    · rename_i e; exact absurd e hn
    · exact h5
  · rw [hi] at h6
    simp only [cond_true, Bool.and_eq_true] at h6
    have h7 := h6.2
    split at h7
    · rename_i e; exact e
    · cases h7
theorem own_ok {c : Nat} (h : c < 19) (h14 : c ≠ 14) : plainName (own c) = true ∧ own c ≠ "java/lang/invoke/MethodHandle" ∧ own c ≠ "java/lang/invoke/VarHandle" := by
  have h1 := List.all_eq_true.mp own_plain c (List.mem_range.mpr h)
  simp only [Bool.or_eq_true, Bool.and_eq_true, decide_eq_true_eq] at h1
  rcases h1 with h1 | h1
  · exact absurd (Nat.eq_of_beq_eq_true h1) h14
  · exact ⟨h1.1.1, h1.1.2, h1.2⟩
theorem m_init {b : Nat} (h : b < 353) (hi : ini b = true) : (yM b).name = "<init>" := by
  have h1 := m_ini h
  rw [hi] at h1
  exact of_decide_eq_true h1
theorem tbg {w : Cond} (hts : ∀ w ∈ TB, w.before args s = true) {i : Nat} (h : tq i = some w) (hg : goodWord w = true) : w.before args s = true := hts w (tq_tb h hg)
/-- the words of a call of a method without a table of its own -/
theorem g_callB {b mc ms o i : Nat} (hb3 : b < 353) (hn : hns b = []) (hts : ∀ w ∈ TB, w.before args s = true) (hl : (Cond.methodLink (own o) i (yM b)).before args s = true) {kk : Nat} (hR : lv b kk + 1 ≤ R.frames ∧ 41 + 41 * lv b kk ≤ R.locals) :
    CallB R s args (own o) i (yM b) (byt b) (mxl b) (rty b) (wsM b) (rmM b kk mc ms) mc ms (npa b) := by
  have hN := okN_at (show b < 354 by omega)
  have ho := own_ok hN.1 hN.2.1
  refine callB_of (ws' := TB) (npa b) hts (good_in hb3) (by unfold wsM; rw [cwd_nil hn]) rfl rfl ?_ hl ?_ ⟨hR.1, ?_⟩
  · rw [m_cls hb3]; exact hts _ (ini_ok hN.1)
  · rw [m_cls hb3]; exact ⟨ho.2.1, ho.2.2, m_par hb3⟩
  · have := hN.2.2.1
    show 8 + (mxl b + 11) + 41 * lv b kk ≤ R.locals
    omega
theorem g_callN {b mc ms o i : Nat} (hb3 : b < 353) (hn : hns b = []) (hts : ∀ w ∈ TB, w.before args s = true) (hl : va_Nw (.methodLinkNest (own o) i (yM b) "HedgeWants") s) {kk : Nat} (hR : lv b kk + 1 ≤ R.frames ∧ 41 + 41 * lv b kk ≤ R.locals) :
    va_CN R s args (own o) i (yM b) "HedgeWants" (byt b) (mxl b) (rty b) (wsM b) (rmM b kk mc ms) mc ms (npa b) := by
  have hN := okN_at (show b < 354 by omega)
  have ho := own_ok hN.1 hN.2.1
  refine va_cnB (ws' := TB) (npa b) hts (good_in hb3) (by unfold wsM; rw [cwd_nil hn]) rfl rfl hl ?_ ?_ ⟨hR.1, ?_⟩
  · rw [m_cls hb3]; exact hts _ (ini_ok hN.1)
  · rw [m_cls hb3]; exact ⟨ho.2.1, ho.2.2, m_par hb3⟩
  · have := hN.2.2.1
    show 8 + (mxl b + 11) + 41 * lv b kk ≤ R.locals
    omega
theorem g_callH {b mc ms o i : Nat} (hb3 : b < 353) (hn : hns b ≠ []) (hts : ∀ w ∈ TB, w.before args s = true) (hl : (Cond.methodLink (own o) i (yM b)).before args s = true) {kk : Nat} (hR : lv b kk + 1 ≤ R.frames ∧ 41 + 41 * lv b kk ≤ R.locals) :
    vx_CSW R s args (own o) i (yM b) (byt b) (mxl b) (rty b) (hns b) (wsM b) (rmM b kk mc ms) mc ms (npa b) := by
  have hN := okN_at (show b < 354 by omega)
  have ho := own_ok hN.1 hN.2.1
  have hcw : Cond.codeWith (yM b) (byt b) (mxl b) (rty b) (hns b) ∈ wsM b := by unfold wsM; rw [cwd_cons hn]; exact List.mem_cons_self
  have hi : ist b = true := hN.2.2.2.1 hn
  have him := m_im hb3
  unfold imw at him
  rw [hi] at him
  refine ⟨⟨rfl, rfl, hR.1, ?_, pay_in hts (good_in hb3), hcw⟩, hts _ ((good_in hb3) _ hcw).1, ?_, ?_, fun sig h => ?_, hl, tbg hts him rfl⟩
  · have := hN.2.2.1
    show 8 + (mxl b + 11) + 41 * lv b kk ≤ R.locals
    omega
  · rw [m_cls hb3]; exact hts _ (ini_ok hN.1)
  · rw [m_cls hb3]; exact ⟨ho.2.1, ho.2.2⟩
  · have h2 := m_par hb3
    rw [h] at h2
    exact (Option.some.inj h2).symm
/-- the receiver -/
theorem rcv_at {b a : Nat} {H : Heap} {locs : List Loc} {lsM : Array Slot} (hb3 : b < 353) (hEn : EnvM z nv sc ad s) (hK : va_K G.1 pCls (tyG G) s) (hr : RL z G ad nv s σ ls H locs lsM) (hv : rcv b a = true) (ha : okv (pn σ) (.ref a)) : ∃ cellB : Cell, H[ad a]? = some cellB ∧ cellB.vm.isStatics = false ∧ s.vm.findClass (yM b).cls = some cellB.cls := by
  unfold rcv at hv
  rw [m_cls hb3]
  split at hv
  · rename_i h16
    obtain ⟨t, ht, hq⟩ := kd_txt (of_decide_eq_true hv)
    rw [h16, hq]
    exact vx_txt (hEn.1 t ht).1 hr.2.2.1
  · obtain ⟨hk, h10⟩ := of_decide_eq_true hv
    have hlt := wf_lt hk (by omega) ha
    have h2 := va_recv hK hr.1 (ci := po b) (q0 := a) (pCls_at (po b) h10) (by rw [wsO_at hlt, ent_obj h10 hk])
    rw [(okC_at h10).1]
    exact h2
theorem tk_spec : ∀ {n : Nat} {st a r : List Value}, tk n st = some (a, r) → st = a ++ r ∧ a.length = n := by
  intro n
  induction n with
  | zero => intro st a r h; cases h; exact ⟨rfl, rfl⟩
  | succ n ih =>
    intro st a r h
    cases st with
    | nil => cases h
    | cons v st =>
      simp only [tk] at h
      cases hq : tk n st with
      | none => rw [hq] at h; cases h
      | some q =>
        obtain ⟨a', r'⟩ := q
        rw [hq] at h
        cases h
        obtain ⟨e1, e2⟩ := ih hq
        exact ⟨by rw [e1]; rfl, by rw [List.length_cons, e2]⟩
theorem sum_cat (ad : Nat → Nat) {nv : Value} (hnv : nv.category = 1) (l : List Value) : ((l.map (em ad nv)).map fun v => v.category).sum = (l.map fun v => v.category).sum := by
  induction l with
  | nil => rfl
  | cons v l ih => simp only [List.map_cons, List.sum_cons, ih, em_cat ad hnv]
/-- at most eight words lie below a call's arguments -/
def okR (l : List Value) : Prop := (l.map fun v => v.category).sum ≤ 8
/-- what a method's body stands on -/
def Cx (b k : Nat) (p : Program) (l : Launch) (R : Room) (s : State) (m : MethodId) (args : Array Value) (meth : Method) (c : Code) (z : Nat) (G : pG) (nv : Value) (sc : Nat × (Nat → Int32)) (ad0 : Nat → Nat) : Prop :=
  p.tables.exec = Jvm.exec ∧ c.code = byt b ∧ c.maxLocals = mxl b ∧ s.vm.findClass (own (po b)) = some m.cls ∧ (∀ w ∈ TB, w.before args s = true) ∧ meth.locks = false ∧ lv b k ≤ R.frames ∧ 41 * lv b k ≤ R.locals ∧ (isin b = true → meth.name = "<init>") ∧ c.exceptionTable.toList = tableOf (hns b) ∧ l.stackTraces = false ∧ va_K G.1 pCls (tyG G) s ∧ EnvM z nv sc ad0 s ∧ z ≤ s.heap.size ∧ nv.category = 1 ∧ b < 354 ∧ va_AO "java/lang/String" s
set_option maxRecDepth 100000 in
theorem pr_iae : (Cond.initialized "java/lang/IllegalArgumentException") ∈ TB := tq_tb (i := 14) rfl (by decide +kernel)
set_option maxRecDepth 100000 in
theorem pr_nse : (Cond.initialized "java/util/NoSuchElementException") ∈ TB := tq_tb (i := 25) rfl (by decide +kernel)
theorem xot_0 (ik : Nat) : ∀ w ∈ Cond.classLink (own 0) ik "java/lang/IllegalArgumentException" :: Cond.initialized "java/lang/IllegalArgumentException" :: xw_0, vx_ot w = true := by
  have h := List.all_eq_true.mp xw_0_ot
  intro w hw
  rcases List.mem_cons.mp hw with rfl | hw
  · rfl
  · exact h w (List.mem_cons_of_mem _ hw)
theorem xot_1 (ik : Nat) : ∀ w ∈ Cond.classLink (own 0) ik "java/util/NoSuchElementException" :: Cond.initialized "java/util/NoSuchElementException" :: xw_1, vx_ot w = true := by
  have h := List.all_eq_true.mp xw_1_ot
  intro w hw
  rcases List.mem_cons.mp hw with rfl | hw
  · rfl
  · exact h w (List.mem_cons_of_mem _ hw)

/-- a call, by the contract of the callee -/
theorem g_call {b k b' op i pc : Nat} {av rest : List Value} {y : pZ} {x : Nat} {n kd' : Nat} {ins : Instr} (hC : Cx b k p l R s m args meth c z G nv sc ad0) (hp : plM (po b) i = some (b', n, kd', x))
    (hkind : (op = 0 ∧ kd' = 0 ∧ ins = .invokevirtual i) ∨ (op = 1 ∧ (kd' = 1 ∨ kd' = 9) ∧ ins = .invokestatic i) ∨ (op = 2 ∧ (kd' = 2 ∨ kd' = 3) ∧ ins = .invokespecial i))
    (hd : decode (byt b) pc = .ok (ins, 3)) (hst : st = av.reverse ++ rest) (hlen : av.length = n) (hrcv : op ≠ 1 → ∃ a as, av = .ref a :: as ∧ rcv b' a = true) (hok : okR rest) (hlv : lv b' (rk b' av) < lv b k)
    (hlb : ls.length = mxl b) (hM : ∀ ad : Nat → Nat, vx_Met l (yM b') (wsM b') (rmM b' (rk b' av) (pcl y.2.2 - pcl σ) (psl y.2.2 - psl σ)) (PcM z G nv sc ad σ av) (QcM z G nv ad σ y) (XcM z G ad σ y) (pcl y.2.2 - pcl σ) (psl y.2.2 - psl σ) (fun q => z ≤ q))
    (hy : pcl σ ≤ pcl y.2.2 ∧ psl σ ≤ psl y.2.2) (hRc : pcl y.2.2 ≤ c0 + R.cells ∧ psl y.2.2 ≤ s0 + R.slots)
    (k0 : y.1 = 0 → Go p l e R s m args below meth c Q z G nv c0 s0 n0 ad0 (pc + 3) ls rest y.2.2)
    (k1 : y.1 = 1 → Go p l e R s m args below meth c Q z G nv c0 s0 n0 ad0 (pc + 3) ls (y.2.1 :: rest) y.2.2)
    (kx : ∀ k, y.1 = k + 2 → k < 2 → Gx p l e R s m args below meth c Q z G nv c0 s0 n0 ad0 pc ls k y.2.2) :
    Go p l e R s m args below meth c Q z G nv c0 s0 n0 ad0 pc ls st σ := by
  intro ad H locs lsM cells slots h0 h1 hw hr hc hs
  obtain ⟨hx, hb, hml, hown, hts, hlk, hRf, hRl, hin, htab, htr, hK, hEn0, hz, hnv, hb4, -⟩ := hC
  have hEn : EnvM z nv sc ad s := hEn0.ext (fun a ha => h1 a (Or.inr ha))
  have hI := plM_ok hp
  have hL := plM_link hp
  have hwr : WF σ ls rest := hw.st (fun v hv => hw.2.2.1 v (by rw [hst]; exact List.mem_append_right _ hv))
  have hR : lv b' (rk b' av) + 1 ≤ R.frames ∧ 41 + 41 * lv b' (rk b' av) ≤ R.locals := ⟨by omega, by omega⟩
  have hsum : ((rest.map (em ad nv)).map fun v => v.category).sum ≤ 8 := by rw [sum_cat ad hnv]; exact hok
  have hf : cells + (pcl y.2.2 - pcl σ) ≤ R.cells ∧ slots + (psl y.2.2 - psl σ) ≤ R.slots := ⟨by omega, by omega⟩
  have hmc : pcl y.2.2 = pcl σ + (pcl y.2.2 - pcl σ) := by omega
  have hms : psl y.2.2 = psl σ + (psl y.2.2 - psl σ) := by omega
  have hS : CallFix p m c (byt b) (mxl b) s args TB (own (po b)) := ⟨hx, hb, hml, hown, hts⟩
  have hsz : lsM.size = mxl b := by rw [hr.2.2.2.1]; exact hlb
  have hstk : st.map (em ad nv) = (av.map (em ad nv)).reverse ++ rest.map (em ad nv) := by rw [hst, List.map_append, List.map_reverse]
  rw [hstk]
  rcases hkind with ⟨rfl, rfl, rfl⟩ | ⟨rfl, hk, rfl⟩ | ⟨rfl, hk, rfl⟩
  · -- virtual
    simp only [okI, Bool.and_eq_true, decide_eq_true_eq] at hI
    obtain ⟨⟨⟨⟨i1, i2⟩, i3⟩, i4⟩, i5⟩ := hI
    have hst' : ist b' = false := by simpa using i2
    have hin' : ini b' = false := by simpa using i3
    have hnil : hns b' = [] := by simpa using i5
    have hnp : npa b' + 1 = n := Nat.eq_of_beq_eq_true i4
    obtain ⟨a, as, rfl, hv⟩ := hrcv (by decide)
    have him := m_im i1
    unfold imw at him
    rw [hst'] at him
    have hse := m_sel i1 hst' hin'
    have hoa : okv (pn σ) (.ref a) := hw.2.2.1 _ (by rw [hst]; simp)
    have e1 : ((Value.ref a :: as).map (em ad nv)).reverse ++ rest.map (em ad nv) = (as.map (em ad nv)).reverse ++ .ref (ad a) :: rest.map (em ad nv) := by simp [em]
    rw [e1]
    refine g_run (vx_runV (b := ad a) (As := as.map (em ad nv)) (C := (yM b').cls) (n := npa b') hS (hM ad) ⟨g_callB i1 hnil hts (tbg hts hL rfl) hR, tbg hts him rfl, tbg hts hse rfl⟩ ⟨pcM_blind, rcv_at i1 hEn hK hr hv hoa, pcM_at hK hEn hz hr rfl⟩ rfl (by rw [List.length_map]; rw [List.length_cons] at hlen; omega) hsz rfl (lv_room hsum) hd hf) h0 h1 hwr hr hc hs hmc hms k0 k1 kx
  · -- static
    rcases hk with rfl | rfl
    · simp only [okI, Bool.and_eq_true, decide_eq_true_eq] at hI
      obtain ⟨⟨i1, i2⟩, i3⟩ := hI
      have hnp : npa b' = n := Nat.eq_of_beq_eq_true i3
      have him := m_im i1
      unfold imw at him
      rw [i2] at him
      by_cases hnil : hns b' = []
      · exact g_run (vx_runS (As := av.map (em ad nv)) (n := npa b') hS (hM ad) ⟨g_callB i1 hnil hts (tbg hts hL rfl) hR, tbg hts him rfl⟩ ⟨pcM_blind, pcM_at hK hEn hz hr rfl⟩ rfl (by rw [List.length_map]; omega) hsz rfl (lv_room hsum) hd hf) h0 h1 hwr hr hc hs hmc hms k0 k1 kx
      · exact g_run (vx_runSX (As := av.map (em ad nv)) (n := npa b') hS (hM ad) (g_callH i1 hnil hts (tbg hts hL rfl) hR) ⟨pcM_blind, pcM_at hK hEn hz hr rfl⟩ rfl (by rw [List.length_map]; omega) hsz rfl (lv_room hsum) hd hf) h0 h1 hwr hr hc hs hmc hms k0 k1 kx
    · simp only [okI, Bool.and_eq_true, decide_eq_true_eq] at hI
      obtain ⟨⟨⟨i1, i2⟩, i3⟩, i5⟩ := hI
      have hnil : hns b' = [] := by simpa using i5
      have hnp : npa b' = n := Nat.eq_of_beq_eq_true i3
      have him := m_im i1
      unfold imw at him
      rw [i2] at him
      exact g_run (vx_runSN (As := av.map (em ad nv)) (n := npa b') hS (hM ad) ⟨g_callN i1 hnil hts (hEn.2.2.2.2.2.2.2.2.2.2.2.2.1 _ _ _ _ _ _ hp (Or.inr rfl)) hR, tbg hts him rfl, trivial⟩ ⟨pcM_blind, pcM_at hK hEn hz hr rfl⟩ rfl (by rw [List.length_map]; omega) hsz rfl (lv_room hsum) hd hf) h0 h1 hwr hr hc hs hmc hms k0 k1 kx
  · -- special
    obtain ⟨a, as, rfl, hv⟩ := hrcv (by decide)
    have e1 : ((Value.ref a :: as).map (em ad nv)).reverse ++ rest.map (em ad nv) = (as.map (em ad nv)).reverse ++ .ref (ad a) :: rest.map (em ad nv) := by simp [em]
    rw [e1]
    rcases hk with rfl | rfl
    · simp only [okI, Bool.and_eq_true, decide_eq_true_eq] at hI
      obtain ⟨⟨⟨⟨i1, i2⟩, i3⟩, i4⟩, i5⟩ := hI
      have hst' : ist b' = false := by simpa using i2
      have hnil : hns b' = [] := by simpa using i5
      have hnp : npa b' + 1 = n := Nat.eq_of_beq_eq_true i4
      have hret := (okN_at (show b' < 354 by omega)).2.2.2.2 i3
      have him := m_im i1
      unfold imw at him
      rw [hst'] at him
      have hcb := g_callB (mc := pcl y.2.2 - pcl σ) (ms := psl y.2.2 - psl σ) (R := R) i1 hnil hts (tbg hts hL rfl) hR
      rw [hret] at hcb
      exact g_run (vx_runI (b := ad a) (As := as.map (em ad nv)) (n := npa b') hS (hM ad) ⟨hcb, m_init i1 i3, tbg hts him rfl⟩ ⟨pcM_blind, pcM_at hK hEn hz hr rfl⟩ rfl (by rw [List.length_map]; rw [List.length_cons] at hlen; omega) hsz rfl (lv_room hsum) hd hf) h0 h1 hwr hr hc hs hmc hms k0 k1 kx
    · simp only [okI, Bool.and_eq_true, decide_eq_true_eq] at hI
      obtain ⟨⟨⟨⟨i1, i2⟩, i3⟩, i4⟩, i5⟩ := hI
      have hst' : ist b' = false := by simpa using i2
      have hnil : hns b' = [] := by simpa using i5
      have hnp : npa b' + 1 = n := Nat.eq_of_beq_eq_true i4
      have hret := (okN_at (show b' < 354 by omega)).2.2.2.2 i3
      have him := m_im i1
      unfold imw at him
      rw [hst'] at him
      have hcb := g_callN (mc := pcl y.2.2 - pcl σ) (ms := psl y.2.2 - psl σ) (R := R) i1 hnil hts (hEn.2.2.2.2.2.2.2.2.2.2.2.2.1 _ _ _ _ _ _ hp (Or.inl rfl)) hR
      rw [hret] at hcb
      exact g_run (vx_runIN (b := ad a) (As := as.map (em ad nv)) (n := npa b') hS (hM ad) ⟨hcb, m_init i1 i3, tbg hts him rfl⟩ ⟨pcM_blind, pcM_at hK hEn hz hr rfl⟩ rfl (by rw [List.length_map]; rw [List.length_cons] at hlen; omega) hsz rfl (lv_room hsum) hd hf) h0 h1 hwr hr hc hs hmc hms k0 k1 kx
/-- System.arraycopy, of rows of ints -/
theorem g_copy {b k i b' n0' x : Nat} {n dp sp : Int32} {d q ns nd : Nat} (hC : Cx b k p l R s m args meth c z G nv sc ad0) (hlb : ls.length = mxl b) (hp : plM (po b) i = some (b', n0', 5, x)) (hks : kd q = (100, ns)) (hkd : kd d = (100, nd)) (hok : okR st) (h12 : 2 ≤ lv b k)
    (h1n : ¬ (sp < 0 ∨ dp < 0 ∨ n < 0 ∨ ns < sp.toNatClampNeg + n.toNatClampNeg ∨ nd < dp.toNatClampNeg + n.toNatClampNeg)) (hd : decode (byt b) pc = .ok (.invokestatic i, 3))
    (kk : Go p l e R s m args below meth c Q z G nv c0 s0 n0 ad0 (pc + 3) (ls) (st) (sA σ d (va_cpy (gI σ q) (gI σ d) sp.toNatClampNeg dp.toNatClampNeg n.toNatClampNeg))) : Go p l e R s m args below meth c Q z G nv c0 s0 n0 ad0 (pc) (ls) (.int n :: .int dp :: .ref d :: .int sp :: .ref q :: st) (σ) := by
  intro ad H locs lsM cells slots h0 h1 hw hr hc hs
  obtain ⟨hx, hb, hml, hown, hts, hlk, hRf, hRl, hin, htab, htr, hK, hEn0, hz, hnv, hb4, -⟩ := hC
  have hL := plM_link hp
  have hq : q < pn σ := wf_lt hks (by omega) hw.tl.tl.tl.tl.hd
  have hdd : d < pn σ := wf_lt hkd (by omega) hw.tl.tl.hd
  have hE : wsO G ad (sA σ d (va_cpy (gI σ q) (gI σ d) sp.toNatClampNeg dp.toNatClampNeg n.toNatClampNeg)) = (wsO G ad σ).set d (ad d, .inl (G.2.1, nd, .inl (va_cpy (gI σ q) (gI σ d) sp.toNatClampNeg dp.toNatClampNeg n.toNatClampNeg))) := by
    rw [wsO_set (σ := σ) (a := d) (σ' := sA σ d (va_cpy (gI σ q) (gI σ d) sp.toNatClampNeg dp.toNatClampNeg n.toNatClampNeg)) rfl (fun b hb => ent_sA hb), ent_I hkd]
    have e9 : gI (sA σ d (va_cpy (gI σ q) (gI σ d) sp.toNatClampNeg dp.toNatClampNeg n.toNatClampNeg)) d = va_cpy (gI σ q) (gI σ d) sp.toNatClampNeg dp.toNatClampNeg n.toNatClampNeg := by funext j; rw [gI_sA, if_pos rfl]
    rw [e9]
  have hnw : nativeFrameWords "java/lang/System" "arraycopy" 5 ≤ 40 := by decide +kernel
  have hsum : ((st.map (em ad nv)).map fun v => v.category).sum ≤ 8 := by rw [sum_cat ad hnv]; exact hok
  exact va_copyi (own := own (po b)) hx hb (by rw [hml, hr.2.2.2.1]; exact hlb.symm) hown (tbg hts hL rfl) (hts _ pr_2) (hts _ pr_3) (hts _ pr_4) hK hr.1 hr.2.1 hr.2.2.1 q d 0 0 (by rw [wsO_at hq, ent_I hks]) (by rw [wsO_at hdd, ent_I hkd]) tyG_I tyG_I rfl
    (fun h => h1n (Or.inl h)) (fun h => h1n (Or.inr (Or.inl h))) (fun h => h1n (Or.inr (Or.inr (Or.inl h)))) (by omega) (by omega) (fun _ _ => rfl) (by omega) (by omega) hd
    (fun H1 locs1 hP1 hD1 hS1 => kk ad H1 locs1 lsM cells slots h0 h1 (hw.tl.tl.tl.tl.tl.sA _ _) ⟨by rw [hE]; exact hP1, by rw [hE]; exact hD1, hS1, hr.2.2.2⟩ hc hs)
theorem g_max {b k i b' n0' w : Nat} {x y : Int32} (hC : Cx b k p l R s m args meth c z G nv sc ad0) (hlb : ls.length = mxl b) (hp : plM (po b) i = some (b', n0', 6, w)) (hok : okR st) (h12 : 2 ≤ lv b k) (hR : pcl σ ≤ c0 + R.cells ∧ psl σ ≤ s0 + R.slots) (hd : decode (byt b) pc = .ok (.invokestatic i, 3)) (kk : Go p l e R s m args below meth c Q z G nv c0 s0 n0 ad0 (pc + 3) (ls) (.int (imax x y) :: st) (σ)) : Go p l e R s m args below meth c Q z G nv c0 s0 n0 ad0 (pc) (ls) (.int y :: .int x :: st) (σ) := by
  intro ad H locs lsM cells slots h0 h1 hw hr hc hs
  obtain ⟨hx, hb, hml, hown, hts, hlk, hRf, hRl, hin, htab, htr, hK, hEn0, hz, hnv, hb4, -⟩ := hC
  have hL := plM_link hp
  have hsum : ((st.map (em ad nv)).map fun v => v.category).sum ≤ 8 := by rw [sum_cat ad hnv]; exact hok
  exact va_mmax (own := own (po b)) hx hb (by rw [hml, hr.2.2.2.1]; exact hlb.symm) hown (tbg hts hL rfl) (hts _ pr_5) (hts _ pr_11) (hts _ pr_6) (by omega) (by omega) (by omega) (by omega) hd (kk ad H locs lsM cells slots h0 h1 (hw.tl.tl.ps trivial) hr hc hs)
theorem g_min {b k i b' n0' w : Nat} {x y : Int32} (hC : Cx b k p l R s m args meth c z G nv sc ad0) (hlb : ls.length = mxl b) (hp : plM (po b) i = some (b', n0', 7, w)) (hok : okR st) (h12 : 2 ≤ lv b k) (hR : pcl σ ≤ c0 + R.cells ∧ psl σ ≤ s0 + R.slots) (hd : decode (byt b) pc = .ok (.invokestatic i, 3)) (kk : Go p l e R s m args below meth c Q z G nv c0 s0 n0 ad0 (pc + 3) (ls) (.int (imin x y) :: st) (σ)) : Go p l e R s m args below meth c Q z G nv c0 s0 n0 ad0 (pc) (ls) (.int y :: .int x :: st) (σ) := by
  intro ad H locs lsM cells slots h0 h1 hw hr hc hs
  obtain ⟨hx, hb, hml, hown, hts, hlk, hRf, hRl, hin, htab, htr, hK, hEn0, hz, hnv, hb4, -⟩ := hC
  have hL := plM_link hp
  have hsum : ((st.map (em ad nv)).map fun v => v.category).sum ≤ 8 := by rw [sum_cat ad hnv]; exact hok
  exact va_mmin (own := own (po b)) hx hb (by rw [hml, hr.2.2.2.1]; exact hlb.symm) hown (tbg hts hL rfl) (hts _ pr_7) (hts _ pr_11) (hts _ pr_8) (by omega) (by omega) (by omega) (by omega) hd (kk ad H locs lsM cells slots h0 h1 (hw.tl.tl.ps trivial) hr hc hs)
theorem g_lmax {b k i b' n0' w : Nat} {x y : Int64} (hC : Cx b k p l R s m args meth c z G nv sc ad0) (hlb : ls.length = mxl b) (hp : plM (po b) i = some (b', n0', 8, w)) (hok : okR st) (h12 : 2 ≤ lv b k) (hR : pcl σ ≤ c0 + R.cells ∧ psl σ ≤ s0 + R.slots) (hd : decode (byt b) pc = .ok (.invokestatic i, 3)) (kk : Go p l e R s m args below meth c Q z G nv c0 s0 n0 ad0 (pc + 3) (ls) (.long (lmax x y) :: st) (σ)) : Go p l e R s m args below meth c Q z G nv c0 s0 n0 ad0 (pc) (ls) (.long y :: .long x :: st) (σ) := by
  intro ad H locs lsM cells slots h0 h1 hw hr hc hs
  obtain ⟨hx, hb, hml, hown, hts, hlk, hRf, hRl, hin, htab, htr, hK, hEn0, hz, hnv, hb4, -⟩ := hC
  have hL := plM_link hp
  have hsum : ((st.map (em ad nv)).map fun v => v.category).sum ≤ 8 := by rw [sum_cat ad hnv]; exact hok
  exact va_mmax_long (own := own (po b)) hx hb (by rw [hml, hr.2.2.2.1]; exact hlb.symm) hown (tbg hts hL rfl) (hts _ pr_9) (hts _ pr_11) (hts _ pr_10) (by omega) (by omega) (by omega) (by omega) hd (kk ad H locs lsM cells slots h0 h1 (hw.tl.tl.ps trivial) hr hc hs)
theorem g_obj {b k i b' n0' w : Nat} {a : Nat} (hC : Cx b k p l R s m args meth c z G nv sc ad0) (hlb : ls.length = mxl b) (hp : plM (po b) i = some (b', n0', 4, w)) (hok : okR st) (h12 : 2 ≤ lv b k) (hd : decode (byt b) pc = .ok (.invokespecial i, 3)) (kk : Go p l e R s m args below meth c Q z G nv c0 s0 n0 ad0 (pc + 3) (ls) (st) (σ)) : Go p l e R s m args below meth c Q z G nv c0 s0 n0 ad0 (pc) (ls) (.ref a :: st) (σ) := by
  intro ad H locs lsM cells slots h0 h1 hw hr hc hs
  obtain ⟨hx, hb, hml, hown, hts, hlk, hRf, hRl, hin, htab, htr, hK, hEn0, hz, hnv, hb4, -⟩ := hC
  have hL := plM_link hp
  have hsum : ((st.map (em ad nv)).map fun v => v.category).sum ≤ 8 := by rw [sum_cat ad hnv]; exact hok
  refine W.objInit (own := own (po b)) hx hb hown (tbg hts hL rfl) (hts _ pr_0) (hts _ pr_1) rfl (by rw [hml]; show lsM.size = _; rw [hr.2.2.2.1]; exact hlb) rfl hd (by omega) ?_ (kk ad H locs lsM cells slots h0 h1 hw.tl hr hc hs)
  have := lv_room (m := m) (pc := pc) (ls := lsM) (rest := em ad nv (.ref a) :: st.map (em ad nv)) hsum
  show 2 * (F0 m pc lsM (em ad nv (.ref a) :: st.map (em ad nv))).monitorRoom + _ + 12 ≤ _
  omega
/-- throw new E(text) -/
theorem g_thr {b k x : Nat} {y : pZ} {ik pl : Nat} {σ0 : pS} {mc ms : Nat} {Qc : Array Value → State → Outcome → State → Prop} (hC : Cx b k p l R s m args meth c z G nv sc ad0) (hlb : ls.length = mxl b) (hp : plK (po b) ik = some (x, pl)) (hx100 : 100 ≤ x) (hs : a_thr b x pc st σ = some (.inr (.inl y))) (hok : okR st) (h12 : 12 ≤ lv b k) (hd : decode (byt b) pc = .ok (.new ik, 3))
    (hn0 : n0 = pn σ0) (hmc : pcl y.2.2 = c0 + mc) (hms : psl y.2.2 = s0 + ms) (hR : mc ≤ R.cells ∧ ms ≤ R.slots) :
    Go p l e R s m args below meth c (vx_MQ below Qc (XcM z G ad0 σ0 y) args s mc ms (fun q => z ≤ q)) z G nv c0 s0 n0 ad0 pc ls st σ := by
  intro ad H locs lsM cells slots h0 h1 hw hr hc hsl
  obtain ⟨hx, hb, hml, hown, hts, hlk, hRf, hRl, hin, htab, htr, hK, hEn0, hz, hnv, hb4, -⟩ := hC
  have hEn : EnvM z nv sc ad s := hEn0.ext (fun a ha => h1 a (Or.inr ha))
  have hsum : ((st.map (em ad nv)).map fun v => v.category).sum ≤ 8 := by rw [sum_cat ad hnv]; exact hok
  have hlsz : lsM.size = c.maxLocals := by rw [hml, hr.2.2.2.1]; exact hlb
  -- the shape of the code
  have key : ∃ (is kl ic : Nat) (n : Int) (q : Nat), plC (po b) is = some (2, n, q) ∧ (cd b (pc + 4) = some (.ldc is, 2) ∧ kl = 2 ∨ cd b (pc + 4) = some (.ldc_w is, 3) ∧ kl = 3) ∧ cd b (pc + 3) = some (.dup, 1) ∧ cd b (pc + 4 + kl) = some (.invokespecial ic, 3) ∧ cd b (pc + 4 + kl + 3) = some (.athrow, 1) ∧ po b = 0 ∧ ic = icx x ∧ y = (x - 98, .null, sX σ) := by
    unfold a_thr at hs
    split at hs
    · rename_i i e1 e2
      split at hs
      · rename_i n q ic e3 e4 e5
        split at hs
        · rename_i h9
          cases hs
          exact ⟨i, 2, ic, n, q, e3, Or.inl ⟨e2, rfl⟩, e1, e4, e5, h9.1, h9.2.1, rfl⟩
        · cases hs
      · cases hs
    · rename_i i e1 e2
      split at hs
      · rename_i n q ic e3 e4 e5
        split at hs
        · rename_i h9
          cases hs
          exact ⟨i, 3, ic, n, q, e3, Or.inr ⟨e2, rfl⟩, e1, e4, e5, h9.1, h9.2.1, rfl⟩
        · cases hs
      · cases hs
    · cases hs
  obtain ⟨is, kl, ic, n, q, g1, g2, g3, g4, g5, g6, g7, rfl⟩ := key
  have hnil := (m_hnd hb4).2 g6
  have hkx := plK_ok hp
  have hstr := hEn.2.1 _ _ _ _ g1
  have hd4 : decode (byt b) (pc + 4) = .ok (.ldc is, 2) ∧ kl = 2 ∨ decode (byt b) (pc + 4) = .ok (.ldc_w is, 3) ∧ kl = 3 := by
    rcases g2 with ⟨g2, e⟩ | ⟨g2, e⟩
    · exact Or.inl ⟨cd_dec hb4 g2, e⟩
    · exact Or.inr ⟨cd_dec hb4 g2, e⟩
  have hout : ∀ x ∈ c.exceptionTable.toList, covers x (pc + 4 + kl + 3) = false := by
    rw [htab, hnil]
    intro x hx
    cases hx
  have hxc : ∀ (j : Nat), j < 2 → x = 100 + j → ∀ t : State, s.vm.Alike t.vm → H.size ≤ t.heap.size → (∀ q : Nat, q < H.size → t.heap[q]? = H[q]?) → XcM z G ad0 σ0 (x - 98, .null, sX σ) (exn j) s t := by
    intro j hj hxj t hA hsz hq
    refine ⟨ad, j, by show x - 98 = j + 2; omega, hj, rfl, fun a ha => h1 a (by omega), by show pn σ0 ≤ pn σ; omega, ⟨hw.1, fun v hv => (by cases hv), fun v hv => (by cases hv), hw.2.2.2⟩, ?_, hr.2.1, ?_⟩
    · refine va_P.kept hr.1 (fun k' q' hk' => hq q'.1 ?_)
      exact (hr.1 k' q' hk').lt
    · exact ⟨Nat.le_trans hr.2.2.1.1 hsz, fun q hq1 hq2 => by rw [hq q (Nat.lt_of_lt_of_le hq1 hr.2.2.1.1)]; exact hr.2.2.1.2.1 q hq1 hq2⟩
  have hc1 : pcl (sX σ) = pcl σ + 1 := rfl
  have hs1 : psl (sX σ) = psl σ + 6 := rfl
  have hmc' : pcl (sX σ) = c0 + mc := hmc
  have hms' : psl (sX σ) = s0 + ms := hms
  have hlink := hts _ hkx.1
  rw [g6] at hlink hstr hown
  rcases hkx.2 with h9 | h9 | rfl | rfl
  · omega
  · omega
  · have g7 : ic = 94 := g7
    subst g7
    exact xt_throw (own := own 0) (r := ["java/lang/Exception"]) (ix := 7) (rx := prog_18_method_2_code) (cls := "java/lang/IllegalArgumentException") (Y0 := "java/lang/RuntimeException") (A := fun q => z ≤ q) hx hb htr (by decide +kernel) (by decide +kernel) (by decide +kernel) (by decide +kernel) hown (by decide +kernel) (by decide +kernel) (by decide +kernel) hlink (hts _ pr_iae) hstr (xw_0_at hts hEn) (xot_0 ik) hEn.2.2.2.2.1 hEn.2.2.2.2.2.1 hr.2.2.1 hlsz hd (cd_dec hb4 g3) hd4 (cd_dec hb4 g4) (cd_dec hb4 g5) hout (by show 1 + 4 < R.frames; omega) (by show _ + (13 * (1 + 2) + 43) ≤ R.locals; omega) (by omega) (by omega) hlk (hxc 0 (by decide) rfl) hr.2.2.1.2.2 (by omega) (by omega)
  · have g7 : ic = 170 := g7
    subst g7
    exact xt_throw (own := own 0) (r := ["java/lang/Exception"]) (ix := 13) (rx := prog_30_method_4_code) (cls := "java/util/NoSuchElementException") (Y0 := "java/lang/RuntimeException") (A := fun q => z ≤ q) hx hb htr (by decide +kernel) (by decide +kernel) (by decide +kernel) (by decide +kernel) hown (by decide +kernel) (by decide +kernel) (by decide +kernel) hlink (hts _ pr_nse) hstr (xw_1_at hts hEn) (xot_1 ik) hEn.2.2.2.2.1 hEn.2.2.2.2.2.1 hr.2.2.1 hlsz hd (cd_dec hb4 g3) hd4 (cd_dec hb4 g4) (cd_dec hb4 g5) hout (by show 1 + 4 < R.frames; omega) (by show _ + (13 * (1 + 2) + 43) ≤ R.locals; omega) (by omega) (by omega) hlk (hxc 1 (by decide) rfl) hr.2.2.1.2.2 (by omega) (by omega)
end SNDE
