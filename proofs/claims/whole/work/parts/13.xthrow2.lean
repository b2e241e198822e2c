/-! ===== 'throw new E(text)' as it stands in the class ===== -/
section XT2
variable {p : Program} {l : Launch} {e : Jvm.Env} {R : Room} {s : State} {m : MethodId} {args : Array Value} {below : List Frame} {meth : Method} {c : Code} {H : Heap} {locs : List Loc} {cells slots : Nat} {ls : Array Slot} {rest : List Value}
set_option maxHeartbeats 1000000 in
theorem xt_throw {cc : ByteArray} {pc : Nat} (hexec : p.tables.exec = Jvm.exec) (hb : c.code = cc) (hl : l.stackTraces = false) {own cls text Y0 : String} {r : List String} {ik is ic ix mc ms sa kl : Nat} {rx : ByteArray} {A free : Nat → Prop} {Qc : Array Value → State → Outcome → State → Prop} {XC : String → State → State → Prop}
    (x0 : decode rx 0 = .ok (.aload_n 0, 1)) (x1 : decode rx 1 = .ok (.aload_n 1, 1)) (x2 : decode rx 2 = .ok (.invokespecial ix, 3)) (x5 : decode rx 5 = .ok (.return_, 1))
    (hown : s.vm.findClass own = some m.cls) (hcls : Bundle.fit cls = true) (hY0 : Bundle.fit Y0 = true) (hnames : ∀ n ∈ r, Bundle.fit n = true)
    (hk : (Cond.classLink own ik cls).before args s = true) (hini : (Cond.initialized cls).before args s = true) (hstr : vk_R own is text sa s) (hat : ∀ w ∈ (xt_atoms own ic cls Y0 r ix rx).filter vx_no, w.before args s = true)
    (hgood : ∀ w ∈ Cond.classLink own ik cls :: Cond.initialized cls :: (xt_atoms own ic cls Y0 r ix rx).filter vx_no, vx_ot w = true)
    (hU : vx_Zq Bundle.tN "UNASSIGNED_STACK" Bundle.steD A s s.heap) (hN : vx_Zq Bundle.tN "SUPPRESSED_SENTINEL" Bundle.listD A s s.heap) (hS : va_S A s.heap H locs) (hsize : ls.size = c.maxLocals)
    (d0 : decode cc pc = .ok (.new ik, 3)) (d3 : decode cc (pc + 3) = .ok (.dup, 1)) (d4 : decode cc (pc + 4) = .ok (.ldc is, 2) ∧ kl = 2 ∨ decode cc (pc + 4) = .ok (.ldc_w is, 3) ∧ kl = 3) (d7 : decode cc (pc + 4 + kl) = .ok (.invokespecial ic, 3)) (d10 : decode cc (pc + 4 + kl + 3) = .ok (.athrow, 1))
    (hout : ∀ x ∈ c.exceptionTable.toList, covers x (pc + 4 + kl + 3) = false)
    (hRframes : r.length + 4 < R.frames) (hRlocals : (rest.map fun v => v.category).sum + (13 * (r.length + 2) + 43) ≤ R.locals) (hRcells : cells + 1 ≤ R.cells) (hRslots : slots + 6 ≤ R.slots) (hlocks : meth.locks = false)
    (hx : ∀ t : State, s.vm.Alike t.vm → H.size ≤ t.heap.size → (∀ q : Nat, q < H.size → t.heap[q]? = H[q]?) → XC cls s t)
    (hf : ∀ z ∈ locs, free z.base) (hc : cells + 1 ≤ mc) (hs : slots + 6 ≤ ms) :
    W p l e R s m args below meth c H locs cells slots (vx_MQ below Qc XC args s mc ms free) (F0 m pc ls rest) := by
  intro T hT X
  have htr : e.platform.stackTraces = false := (show e.platform.stackTraces = l.stackTraces by rw [X.admits.platform]).trans hl
  have Y := vx_rebase X (R' := { frames := R.frames, locals := R.locals, cells := 1, slots := 6 }) (Nat.le_refl _) (Nat.le_refl _) hRcells hRslots
  obtain ⟨s', hA⟩ : ∃ z, z = (T.setVm s.vm).setFrames (.invoking m args :: below) := ⟨_, rfl⟩
  rw [← hA] at Y
  have hvm : s'.vm = s.vm := by rw [hA]; rfl
  have hhp : s'.heap = H := by rw [hA]; exact hT
  have hW0 : s.WarmedH s'.vm := by rw [hvm]; exact State.WarmedH.refl s
  have hat' : ∀ w ∈ (xt_atoms own ic cls Y0 r ix rx).filter vx_no, w.before args s' = true := fun w hw => vx_ot_at hW0 hvm.symm (hgood w (List.mem_cons_of_mem _ (List.mem_cons_of_mem _ hw))) (hat w hw)
  have hk' : (Cond.classLink own ik cls).before args s' = true := vx_ot_at hW0 hvm.symm (hgood _ List.mem_cons_self) hk
  have hini' : (Cond.initialized cls).before args s' = true := vx_ot_at hW0 hvm.symm (hgood _ (List.mem_cons_of_mem _ List.mem_cons_self)) hini
  have hU' : vx_Zq Bundle.tN "UNASSIGNED_STACK" Bundle.steD A s' s'.heap := by rw [hhp]; exact vx_Zq.moved hW0.alike (hU.kept hS.2.1)
  have hN' : vx_Zq Bundle.tN "SUPPRESSED_SENTINEL" Bundle.listD A s' s'.heap := by rw [hhp]; exact vx_Zq.moved hW0.alike (hN.kept hS.2.1)
  have h : ∀ w ∈ xt_atoms own ic cls Y0 r ix rx, w.before args s' = true := vx_own hat' (vx_isRefq hU'.1) (vx_isRefq hN'.1) hU'.2.word hN'.2.word
  have hown' : s'.vm.findClass own = some m.cls := by rw [hvm]; exact hown
  have hins : (Cond.instantiable cls 6).before args s' = true := h _ (by simp [xt_atoms, xt_tail])
  obtain ⟨vm₁, cX, kX, hfX, hkX, -, -, X₁, st1⟩ := Y.newCold hexec (own := own) (C := cls) (index := ik) (n := 6) hown' hk' hins hini'
    (g := F0 m pc ls rest) rfl (by rw [hb]; exact d0) (Nat.le_refl _) (Nat.le_refl _)
  generalize hT1 : (T.setVm vm₁).pushCell { cls := cX, slots := kX.instanceTypes.map defaultValue, vm := .none } = T1 at X₁ st1
  have hcat : (Value.ref T.heap.size).category = 1 := rfl
  have hcellA : T1.heap[T.heap.size]? = some (freshCell cX kX) := by rw [← hT1]; exact State.heap_pushCell_size _ _
  have d3' : decode c.code (pc + 3) = .ok (.dup, 1) := by rw [hb]; exact d3
  have hstr' : vk_R own is text sa s' := vk_R.warm hW0 hstr
  obtain ⟨U, hsteps, hrun, hend, hW, hsame, ce, hce, hcv, hcl0⟩ := xt_ctor X₁ hexec htr (own := own) (cls := cls) (Y0 := Y0) (r := r) (ic := ic) x0 x1 x2 x5 hown' hcls hY0 hnames h (fun x hx => nomatch hx) hfX hkX hcellA (by rw [hhp, hT]; exact Nat.le_refl _) (msg := .ref sa) rfl
    (g := { method := m, pc := pc + 4 + kl, locals := ls, stack := .ref sa :: .ref T.heap.size :: .ref T.heap.size :: rest, locked := none }) rfl hsize rfl rfl (rest := rest) rfl
    (by rw [hb]; exact d7) (by rw [hb]; exact d10) hout hRframes (by simp only [List.map_cons, List.sum_cons, hcat]; omega) hlocks
  obtain ⟨f1, f2⟩ := vx_frame hsame
  rw [hhp] at f1 f2
  have hWs : s.WarmedH U.vm := State.WarmedH.trans hW0 hW
  have hcl : s.vm.findClass cls = some ce.cls := by rw [hvm] at hcl0; exact hcl0
  have hall : s.sameButNew ({ U with vm := s.vm } : State) locs mc ms := by
    subst hA
    obtain ⟨e1, e2⟩ := hsame
    rw [State.setFrames_setFrames] at e1
    have h2 : (T.setVm s.vm).sameButNew ({ U with vm := s.vm } : State) [] (0 + 1) (0 + 6) := ⟨e1, e2⟩
    have h3 := X.same.trans h2
    rw [List.append_nil] at h3
    exact h3.mono hc hs
  refine ⟨U, ?_, .threw T.heap.size, hrun, hend, Or.inr ⟨T.heap.size, rfl, cls, ce, locs, hx U hWs.alike f1 (fun q hq => f2 q hq (fun z hz => nomatch hz)), hce, hcv, hcl, hWs, hall, hf⟩⟩
  refine st1 _ ?_
  show Steps p.tables e below (T1.setTop { method := m, pc := pc + 3, locals := ls, stack := .ref T.heap.size :: rest, locked := none }) _
  jvm_step X₁.here [X₁.here.top, hexec, d3', Value.category]
  rcases d4 with ⟨d4, rfl⟩ | ⟨d4, rfl⟩
  · exact X₁.ldcString hexec (own := own) (text := text) (index := is) (a := sa) hown' hstr'.1 hstr'.2
      (g := { method := m, pc := pc + 4, locals := ls, stack := .ref T.heap.size :: .ref T.heap.size :: rest, locked := none }) rfl (by rw [hb]; exact d4) _ hsteps
  · exact X₁.ldcStringW hexec (own := own) (text := text) (index := is) (a := sa) hown' hstr'.1 hstr'.2
      (g := { method := m, pc := pc + 4, locals := ls, stack := .ref T.heap.size :: .ref T.heap.size :: rest, locked := none }) rfl (by rw [hb]; exact d4) _ hsteps
def xw_0 : List Cond := (xt_atoms "HedgeWants" 94 "java/lang/IllegalArgumentException" "java/lang/RuntimeException" ["java/lang/Exception"] 7 prog_18_method_2_code).filter vx_no
set_option maxRecDepth 100000 in
theorem xw_0_pl : [11, 2022, 2031, 2034, 2037, 2039, 2023, 2024, 32, 33, 2025, 2030, 2035, 2055, 2012, 2056, 2014, 2057, 2016, 2026, 2028, 2018, 2051, 2052, 2054, 2018, 2042, 2043, 2044, 2045, 2045, 2046, 2047, 2048, 2048, 2049, 2050, 2051, 2041, 2001, 2009, 2010, 2011, 2013, 2015, 2017, 2021, 2020, 2019].map tq = (xw_0.filter (fun w => match w with | .castable _ _ => false | .declares _ => false | _ => true)).map some := rfl
set_option maxRecDepth 100000 in
theorem xw_0_ot : (Cond.classLink "HedgeWants" 90 "java/lang/IllegalArgumentException" :: Cond.initialized "java/lang/IllegalArgumentException" :: xw_0).all vx_ot = true := by decide +kernel
set_option maxRecDepth 100000 in
theorem xw_0_gd : (xw_0.filter (fun w => match w with | .castable _ _ => false | .declares _ => false | _ => true)).all goodWord = true := by decide +kernel
theorem xw_0_cs : ∀ C T : String, Cond.castable C T ∈ xw_0 → C = "java/lang/IllegalArgumentException" ∧ T = "java/lang/IllegalArgumentException" := by
  intro C T h
  unfold xw_0 xt_atoms xt_tail Bundle.throwableAtoms Bundle.throwableSAtoms Bundle.passSAtoms Bundle.chainSAtoms Bundle.chainSAtoms Bundle.passSAtoms at h
  have h2 := (List.mem_filter.mp h).1
  simpa using h2
theorem xw_0_dc : ∀ x : MethodName, Cond.declares x ∈ xw_0 → ∃ N ∈ (["java/lang/RuntimeException", "java/lang/Exception", "java/lang/Throwable"] : List String), x = Bundle.initS N := by
  intro x h
  unfold xw_0 xt_atoms xt_tail Bundle.throwableAtoms Bundle.throwableSAtoms Bundle.passSAtoms Bundle.chainSAtoms Bundle.chainSAtoms Bundle.passSAtoms at h
  have h2 := (List.mem_filter.mp h).1
  simp at h2
  rcases h2 with rfl | rfl | rfl
  · exact ⟨_, by simp, rfl⟩
  · exact ⟨_, by simp, rfl⟩
  · exact ⟨_, List.mem_cons_of_mem _ (List.mem_cons_of_mem _ List.mem_cons_self), rfl⟩
theorem xw_0_at {z : Nat} {nv : Value} {sc : Nat × (Nat → Int32)} {ad : Nat → Nat} (hts : ∀ w ∈ TB, w.before args s = true) (hEn : EnvM z nv sc ad s) : ∀ w ∈ xw_0, w.before args s = true := by
  intro w hw
  by_cases hc : ∃ C T, w = Cond.castable C T
  · obtain ⟨C, T, rfl⟩ := hc
    obtain ⟨rfl, rfl⟩ := xw_0_cs C T hw
    exact cast_self hEn.2.2.2.2.2.2.1
  · by_cases hd : ∃ x, w = Cond.declares x
    · obtain ⟨x, rfl⟩ := hd
      obtain ⟨N, hN, rfl⟩ := xw_0_dc x hw
      exact va_any rfl (hEn.2.2.2.2.2.2.2.2.1 N hN)
    have hm : w ∈ xw_0.filter (fun w => match w with | .castable _ _ => false | .declares _ => false | _ => true) := by
      refine List.mem_filter.mpr ⟨hw, ?_⟩
      cases w <;> first | rfl | exact absurd ⟨_, _, rfl⟩ hc | exact absurd ⟨_, rfl⟩ hd
    have hg := List.all_eq_true.mp xw_0_gd w hm
    have h1 : some w ∈ [11, 2022, 2031, 2034, 2037, 2039, 2023, 2024, 32, 33, 2025, 2030, 2035, 2055, 2012, 2056, 2014, 2057, 2016, 2026, 2028, 2018, 2051, 2052, 2054, 2018, 2042, 2043, 2044, 2045, 2045, 2046, 2047, 2048, 2048, 2049, 2050, 2051, 2041, 2001, 2009, 2010, 2011, 2013, 2015, 2017, 2021, 2020, 2019].map tq := by rw [xw_0_pl]; exact List.mem_map.mpr ⟨w, hm, rfl⟩
    obtain ⟨i, -, hi⟩ := List.mem_map.mp h1
    exact hts w (tq_tb hi hg)
def xw_1 : List Cond := (xt_atoms "HedgeWants" 170 "java/util/NoSuchElementException" "java/lang/RuntimeException" ["java/lang/Exception"] 13 prog_30_method_4_code).filter vx_no
set_option maxRecDepth 100000 in
theorem xw_1_pl : [11, 2022, 2031, 2034, 2037, 2039, 2023, 2024, 32, 33, 2025, 2030, 2035, 2055, 2012, 2056, 2014, 2057, 2016, 2026, 2028, 2018, 2051, 2052, 2054, 2018, 3169, 3170, 3171, 2045, 2045, 2046, 2047, 2048, 2048, 2049, 2050, 2051, 3168, 3159, 3161, 2033, 3162, 3163, 3164, 3165, 2021, 2020, 3166].map tq = (xw_1.filter (fun w => match w with | .castable _ _ => false | .declares _ => false | _ => true)).map some := rfl
set_option maxRecDepth 100000 in
theorem xw_1_ot : (Cond.classLink "HedgeWants" 166 "java/util/NoSuchElementException" :: Cond.initialized "java/util/NoSuchElementException" :: xw_1).all vx_ot = true := by decide +kernel
set_option maxRecDepth 100000 in
theorem xw_1_gd : (xw_1.filter (fun w => match w with | .castable _ _ => false | .declares _ => false | _ => true)).all goodWord = true := by decide +kernel
theorem xw_1_cs : ∀ C T : String, Cond.castable C T ∈ xw_1 → C = "java/util/NoSuchElementException" ∧ T = "java/util/NoSuchElementException" := by
  intro C T h
  unfold xw_1 xt_atoms xt_tail Bundle.throwableAtoms Bundle.throwableSAtoms Bundle.passSAtoms Bundle.chainSAtoms Bundle.chainSAtoms Bundle.passSAtoms at h
  have h2 := (List.mem_filter.mp h).1
  simpa using h2
theorem xw_1_dc : ∀ x : MethodName, Cond.declares x ∈ xw_1 → ∃ N ∈ (["java/lang/RuntimeException", "java/lang/Exception", "java/lang/Throwable"] : List String), x = Bundle.initS N := by
  intro x h
  unfold xw_1 xt_atoms xt_tail Bundle.throwableAtoms Bundle.throwableSAtoms Bundle.passSAtoms Bundle.chainSAtoms Bundle.chainSAtoms Bundle.passSAtoms at h
  have h2 := (List.mem_filter.mp h).1
  simp at h2
  rcases h2 with rfl | rfl | rfl
  · exact ⟨_, by simp, rfl⟩
  · exact ⟨_, by simp, rfl⟩
  · exact ⟨_, List.mem_cons_of_mem _ (List.mem_cons_of_mem _ List.mem_cons_self), rfl⟩
theorem xw_1_at {z : Nat} {nv : Value} {sc : Nat × (Nat → Int32)} {ad : Nat → Nat} (hts : ∀ w ∈ TB, w.before args s = true) (hEn : EnvM z nv sc ad s) : ∀ w ∈ xw_1, w.before args s = true := by
  intro w hw
  by_cases hc : ∃ C T, w = Cond.castable C T
  · obtain ⟨C, T, rfl⟩ := hc
    obtain ⟨rfl, rfl⟩ := xw_1_cs C T hw
    exact cast_self hEn.2.2.2.2.2.2.2.1
  · by_cases hd : ∃ x, w = Cond.declares x
    · obtain ⟨x, rfl⟩ := hd
      obtain ⟨N, hN, rfl⟩ := xw_1_dc x hw
      exact va_any rfl (hEn.2.2.2.2.2.2.2.2.1 N hN)
    have hm : w ∈ xw_1.filter (fun w => match w with | .castable _ _ => false | .declares _ => false | _ => true) := by
      refine List.mem_filter.mpr ⟨hw, ?_⟩
      cases w <;> first | rfl | exact absurd ⟨_, _, rfl⟩ hc | exact absurd ⟨_, rfl⟩ hd
    have hg := List.all_eq_true.mp xw_1_gd w hm
    have h1 : some w ∈ [11, 2022, 2031, 2034, 2037, 2039, 2023, 2024, 32, 33, 2025, 2030, 2035, 2055, 2012, 2056, 2014, 2057, 2016, 2026, 2028, 2018, 2051, 2052, 2054, 2018, 3169, 3170, 3171, 2045, 2045, 2046, 2047, 2048, 2048, 2049, 2050, 2051, 3168, 3159, 3161, 2033, 3162, 3163, 3164, 3165, 2021, 2020, 3166].map tq := by rw [xw_1_pl]; exact List.mem_map.mpr ⟨w, hm, rfl⟩
    obtain ⟨i, -, hi⟩ := List.mem_map.mp h1
    exact hts w (tq_tb hi hg)
end XT2
