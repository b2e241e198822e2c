/-! ===== calls, ends, throws ===== -/
section SNDD
def exn (k : Nat) : String := if k = 0 then "java/lang/IllegalArgumentException" else "java/util/NoSuchElementException"
/-- every handler's class is one of the two -/
noncomputable def okH (b : Nat) : Bool := (hns b).all (fun q => !(Nat.beq q.2.2.2 0) && (match plK (po b) q.2.2.2 with
  | some (x, _) => Nat.beq x 100 || Nat.beq x 101
  | none => false)) && (!(Nat.beq (po b) 0) || (hns b).isEmpty)
set_option maxRecDepth 100000 in
theorem okH_all : (List.range 354).all okH = true := by decide +kernel
theorem m_hnd {b : Nat} (h : b < 354) : (∀ q ∈ hns b, q.2.2.2 ≠ 0 ∧ ∃ x y, plK (po b) q.2.2.2 = some (x, y) ∧ (x = 100 ∨ x = 101)) ∧ (po b = 0 → hns b = []) := by
  have h1 := List.all_eq_true.mp okH_all b (List.mem_range.mpr h)
  simp only [okH, Bool.and_eq_true] at h1
  refine ⟨fun q hq => ?_, fun h0 => ?_⟩
  · have h2 := List.all_eq_true.mp h1.1 q hq
    simp only [Bool.and_eq_true] at h2
    obtain ⟨h3, h4⟩ := h2
    refine ⟨fun e => ?_, ?_⟩
    · rw [e] at h3; cases h3
    · split at h4
      · rename_i x y e
        refine ⟨x, y, e, ?_⟩
        simp only [Bool.or_eq_true] at h4
        rcases h4 with g | g
        · exact Or.inl (Nat.eq_of_beq_eq_true g)
        · exact Or.inr (Nat.eq_of_beq_eq_true g)
      · cases h4
  · have h5 := h1.2
    rw [h0] at h5
    simpa using h5
noncomputable def wsM (b : Nat) : List Cond := cwd b :: TB
def rmM (b k mc ms : Nat) : Room := { frames := lv b k, cells := mc, slots := ms, locals := 41 * lv b k }
/-- at a method's start -/
def PcM (z : Nat) (G : pG) (nv : Value) (sc : Nat × (Nat → Int32)) (ad : Nat → Nat) (σ : pS) (av : List Value) : Array Value → State → Prop := fun v U =>
  v = (av.map (em ad nv)).toArray ∧ z ≤ U.heap.size ∧ va_P G.1 pCls (wsO G ad σ) U.heap ∧ va_D (fun q => z ≤ q) (wsO G ad σ) ∧ va_K G.1 pCls (tyG G) U ∧ EnvM z nv sc ad U
/-- at its end, and where it throws -/
def EndM (z : Nat) (G : pG) (ad : Nat → Nat) (σ : pS) (y : pZ) (st t : State) (ad' : Nat → Nat) (w : List Value) : Prop :=
  (∀ a, (a < pn σ ∨ 1000 ≤ a) → ad' a = ad a) ∧ pn σ ≤ pn y.2.2 ∧ WF y.2.2 [] w ∧ va_P G.1 pCls (wsO G ad' y.2.2) t.heap ∧ va_D (fun q => z ≤ q) (wsO G ad' y.2.2) ∧ va_F (fun q => z ≤ q) st t
def QcM (z : Nat) (G : pG) (nv : Value) (ad : Nat → Nat) (σ : pS) (y : pZ) : Array Value → State → Outcome → State → Prop := fun _ st o t =>
  ∃ ad', (y.1 = 0 ∧ o = .returned none ∧ EndM z G ad σ y st t ad' []) ∨ (y.1 = 1 ∧ o = .returned (some (em ad' nv y.2.1)) ∧ EndM z G ad σ y st t ad' [y.2.1])
def XcM (z : Nat) (G : pG) (ad : Nat → Nat) (σ : pS) (y : pZ) : String → State → State → Prop := fun E st t =>
  ∃ ad' k, y.1 = k + 2 ∧ k < 2 ∧ E = exn k ∧ EndM z G ad σ y st t ad' []
variable {p : Program} {l : Launch} {e : Jvm.Env} {R : Room} {s : State} {m : MethodId} {args : Array Value} {below : List Frame} {meth : Method} {c : Code} {Q : State → Prop} {z : Nat} {G : pG} {nv : Value} {c0 s0 n0 : Nat} {ad0 : Nat → Nat} {pc : Nat} {ls st : List Value} {σ : pS} {cc : ByteArray} {sc : Nat × (Nat → Int32)}
/-- the exception k is thrown over the method's frame at pc -/
def Gx (p : Program) (l : Launch) (e : Jvm.Env) (R : Room) (s : State) (m : MethodId) (args : Array Value) (below : List Frame) (meth : Method) (c : Code) (Q : State → Prop) (z : Nat) (G : pG) (nv : Value) (c0 s0 n0 : Nat) (ad0 : Nat → Nat) (pc : Nat) (ls : List Value) (k : Nat) (σ : pS) : Prop :=
  ∀ (ad : Nat → Nat) (H : Heap) (locs : List Loc) (lsM : Array Slot) (cells slots : Nat) (rest : List Value) (q : Addr) (ce : Cell), n0 ≤ pn σ → (∀ a, (a < n0 ∨ 1000 ≤ a) → ad a = ad0 a) → WF σ ls [] → RL z G ad nv s σ ls H locs lsM → pcl σ = c0 + cells → psl σ = s0 + slots →
    H[q]? = some ce → ce.vm = .none → s.vm.findClass (exn k) = some ce.cls → vx_W p l e R s m args below meth c H locs cells slots Q (F0 m pc lsM rest) q
/-- a callee's run, seen from the caller -/
theorem g_run {y : pZ} {H : Heap} {locs : List Loc} {lsM : Array Slot} {cells slots mc ms : Nat} {stM rest : List Value} {ad : Nat → Nat} {a : Array Value}
    (hr : vx_Run p l e R s m args below meth c H locs cells slots mc ms (F0 m pc lsM stM) (rest.map (em ad nv)) (QcM z G nv ad σ y a) (XcM z G ad σ y) (fun q => z ≤ q))
    (h0 : n0 ≤ pn σ) (h1 : ∀ a, (a < n0 ∨ 1000 ≤ a) → ad a = ad0 a) (hw : WF σ ls rest) (hr0 : RL z G ad nv s σ ls H locs lsM) (hc : pcl σ = c0 + cells) (hs : psl σ = s0 + slots) (hmc : pcl y.2.2 = pcl σ + mc) (hms : psl y.2.2 = psl σ + ms)
    (k0 : y.1 = 0 → Go p l e R s m args below meth c Q z G nv c0 s0 n0 ad0 (pc + 3) ls rest y.2.2)
    (k1 : y.1 = 1 → Go p l e R s m args below meth c Q z G nv c0 s0 n0 ad0 (pc + 3) ls (y.2.1 :: rest) y.2.2)
    (kx : ∀ k, y.1 = k + 2 → k < 2 → Gx p l e R s m args below meth c Q z G nv c0 s0 n0 ad0 pc ls k y.2.2) :
    W p l e R s m args below meth c H locs cells slots Q (F0 m pc lsM stM) := by
  intro T hT X
  have key : ∀ {ad' : Nat → Nat} {st₀ t T' : State} {L : List Loc} {w : List Value}, st₀.heap = H → T'.heap = t.heap → (∀ q ∈ L, z ≤ q.base) → EndM z G ad σ y st₀ t ad' w →
      n0 ≤ pn y.2.2 ∧ (∀ a, (a < n0 ∨ 1000 ≤ a) → ad' a = ad0 a) ∧ (∀ v ∈ ls, okv (pn y.2.2) v) ∧ (∀ v ∈ rest, okv (pn y.2.2) v) ∧ RL z G ad' nv s y.2.2 ls T'.heap (locs ++ L) lsM ∧ rest.map (em ad' nv) = rest.map (em ad nv) := by
    intro ad' st₀ t T' L w g0 g1 gL hE
    obtain ⟨a1, a2, a3, a4, a5, a6⟩ := hE
    obtain ⟨-, -, b3⟩ := vx_keep (A0 := fun q => z ≤ q) (A1 := fun q => z ≤ q) g0 g1 hr0.2.2.1 (fun _ _ h => h) (fun _ h => h) gL a6
    refine ⟨Nat.le_trans h0 a2, fun a ha => by rw [a1 a (by omega)]; exact h1 a ha, fun v hv => (hw.2.1 v hv).mono a2, fun v hv => (hw.2.2.1 v hv).mono a2, ⟨by rw [g1]; exact a4, a5, b3, by rw [lva_ext a1 hw.2.1]; exact hr0.2.2.2⟩, map_ext a1 hw.2.2.1⟩
  rcases hr T hT X with ⟨v, st₀, t, T', L, g0, X', gL, g1, g2, ⟨ad', hq⟩, hst⟩ | ⟨q, st₀, t, T', L, E, ce, g0, X', gL, g1, g2, ⟨ad', k, hk, hk2, hE, hend⟩, hce, hcv, hcl, hst⟩
  · rcases hq with ⟨hy, ho, hE⟩ | ⟨hy, ho, hE⟩
    · cases ho
      obtain ⟨f1, f2, f3, f4, f5, f6⟩ := key g0 g1 gL hE
      obtain ⟨t2, u1, u2⟩ := k0 hy ad' T'.heap (locs ++ L) lsM (cells + mc) (slots + ms) f1 f2 ⟨hE.2.2.1.1, f3, f4, hE.2.2.1.2.2.2⟩ f5 (by omega) (by omega) T' rfl X'
      rw [f6] at u1
      exact ⟨t2, hst t2 u1, u2⟩
    · cases ho
      obtain ⟨f1, f2, f3, f4, f5, f6⟩ := key g0 g1 gL hE
      obtain ⟨t2, u1, u2⟩ := k1 hy ad' T'.heap (locs ++ L) lsM (cells + mc) (slots + ms) f1 f2 ⟨hE.2.2.1.1, f3, List.forall_mem_cons.mpr ⟨hE.2.2.1.2.2.1 _ List.mem_cons_self, f4⟩, hE.2.2.1.2.2.2⟩ f5 (by omega) (by omega) T' rfl X'
      rw [List.map_cons, f6] at u1
      exact ⟨t2, hst t2 u1, u2⟩
  · obtain ⟨f1, f2, f3, f4, f5, f6⟩ := key g0 g1 gL hend
    obtain ⟨t2, u1, u2⟩ := kx k hk hk2 ad' T'.heap (locs ++ L) lsM (cells + mc) (slots + ms) (rest.map (em ad nv)) q ce f1 f2 ⟨hend.2.2.1.1, f3, fun v hv => (by cases hv), hend.2.2.1.2.2.2⟩ f5 (by omega) (by omega) (by rw [g1]; exact hce) hcv (by rw [← hE]; exact hcl) T' rfl X'
    exact ⟨t2, hst.trans u1, u2⟩
/-- a handler takes it -/
theorem hfd_some {o pc k h : Nat} : ∀ {L : List (Nat × Nat × Nat × Nat)}, hfd o pc k L = some h → ∃ pre x suf, L = pre ++ x :: suf ∧ (∀ q ∈ pre, ¬ (q.1 ≤ pc ∧ pc < q.2.1 ∧ (plK o q.2.2.2).map (fun q => q.1) = some (100 + k))) ∧ x.1 ≤ pc ∧ pc < x.2.1 ∧ (plK o x.2.2.2).map (fun q => q.1) = some (100 + k) ∧ x.2.2.1 = h := by
  intro L
  induction L with
  | nil => intro hh; cases hh
  | cons q L ih =>
    intro hh
    obtain ⟨s, t, h', ix⟩ := q
    simp only [hfd] at hh
    split at hh
    · rename_i hc
      cases hh
      exact ⟨[], (s, t, h, ix), L, rfl, fun q hq => (by cases hq), hc.1, hc.2.1, hc.2.2, rfl⟩
    · rename_i hc
      obtain ⟨pre, x, suf, e1, e2, e3⟩ := ih hh
      exact ⟨(s, t, h', ix) :: pre, x, suf, by rw [e1]; rfl, List.forall_mem_cons.mpr ⟨hc, e2⟩, e3⟩
theorem hfd_none {o pc k : Nat} : ∀ {L : List (Nat × Nat × Nat × Nat)}, hfd o pc k L = none → ∀ q ∈ L, ¬ (q.1 ≤ pc ∧ pc < q.2.1 ∧ (plK o q.2.2.2).map (fun q => q.1) = some (100 + k)) := by
  intro L
  induction L with
  | nil => intro _ q hq; cases hq
  | cons q L ih =>
    intro hh
    obtain ⟨s, t, h', ix⟩ := q
    simp only [hfd] at hh
    split at hh
    · cases hh
    · rename_i hc
      exact List.forall_mem_cons.mpr ⟨hc, ih hh⟩
theorem knm_exn {k : Nat} (hk : k < 2) : knm (100 + k) = exn k := by
  match k, hk with
  | 0, _ => rfl
  | 1, _ => rfl
  | n + 2, h => omega
theorem cast_self {C T : String} (h : va_Nc C T s) : (Cond.castable C C).before args s = true := by
  obtain ⟨c, t, h1, h2, h3⟩ := h
  simp [Cond.before, Cond.holds, Cond.value, h1, assignable_self]
/-- past a row that doesn't take it -/
theorem h_pass {b : Nat} (hb4 : b < 354) (hts : ∀ w ∈ TB, w.before args s = true) (hEn : EnvM z nv sc ad0 s) {pc k : Nat} (hk : k < 2) {q : Nat × Nat × Nat × Nat} (hq : q ∈ hns b) (hno : ¬ (q.1 ≤ pc ∧ pc < q.2.1 ∧ (plK (po b) q.2.2.2).map (fun q => q.1) = some (100 + k))) :
    covers ⟨q.1, q.2.1, q.2.2.1, q.2.2.2⟩ pc = false ∨ ((⟨q.1, q.2.1, q.2.2.1, q.2.2.2⟩ : ExceptionTableEntry).catchType ≠ 0 ∧ ∃ nm : String, (Cond.classLink (own (po b)) (⟨q.1, q.2.1, q.2.2.1, q.2.2.2⟩ : ExceptionTableEntry).catchType nm).before args s = true ∧ va_Nc (exn k) nm s) := by
  obtain ⟨h0, x, y, hx, hxy⟩ := (m_hnd hb4).1 q hq
  by_cases hcov : q.1 ≤ pc ∧ pc < q.2.1
  · have hne : x ≠ 100 + k := by
      intro e
      exact hno ⟨hcov.1, hcov.2, by rw [hx, e]; rfl⟩
    refine Or.inr ⟨h0, knm x, hts _ (plK_ok hx).1, ?_⟩
    obtain ⟨-, -, -, -, -, -, n1, n2, -⟩ := hEn
    rcases (by omega : (k = 0 ∧ x = 101) ∨ (k = 1 ∧ x = 100)) with ⟨rfl, rfl⟩ | ⟨rfl, rfl⟩
    · exact n1
    · exact n2
  · left
    simp only [covers, Bool.and_eq_false_iff, decide_eq_false_iff_not]
    omega
theorem g_catch {b : Nat} (hb4 : b < 354) (hx : p.tables.exec = Jvm.exec) (hb : c.code = cc) (hts : ∀ w ∈ TB, w.before args s = true) (hown : s.vm.findClass (own (po b)) = some m.cls) (hEn : EnvM z nv sc ad0 s) (htab : c.exceptionTable.toList = tableOf (hns b)) {pc k h n len : Nat} {i : Instr} (hk : k < 2) (hh : hnd b pc k = some h)
    (hi : i = .astore n ∧ len = 2 ∨ ∃ j : Fin 4, i = .astore_n j ∧ (j : Nat) = n ∧ len = 1) (hd : decode cc h = .ok (i, len)) (hn : n < ls.length) (kk : Go p l e R s m args below meth c Q z G nv c0 s0 n0 ad0 (h + len) (ls.set n (.retAddr 0)) ([]) (σ)) : Gx p l e R s m args below meth c Q z G nv c0 s0 n0 ad0 pc ls k σ := by
  intro ad H locs lsM cells slots rest q ce h0 h1 hw hr hc hs hce hcv hcl
  obtain ⟨pre, x, suf, e1, e2, e3, e4, e5, e6⟩ := hfd_some hh
  have hxm : x ∈ hns b := by unfold hns; rw [e1]; simp
  obtain ⟨hx0, y1, y2, hy, -⟩ := (m_hnd hb4).1 x hxm
  have hy1 : y1 = 100 + k := by rw [hy] at e5; exact Option.some.inj e5
  subst hy1
  have hlk := hts _ (plK_ok hy).1
  rw [knm_exn hk] at hlk
  have hcast : (Cond.castable (exn k) (exn k)).before args s = true := by
    match k, hk with
    | 0, _ => exact cast_self hEn.2.2.2.2.2.2.1
    | 1, _ => exact cast_self hEn.2.2.2.2.2.2.2.1
    | n + 2, h => omega
  refine vx_catch (E := exn k) (name := exn k) (own := own (po b)) hown (tableOf pre) ⟨x.1, x.2.1, x.2.2.1, x.2.2.2⟩ (tableOf suf) (by rw [htab]; show tableOf (hnL.getD b []) = _; rw [e1]; simp [tableOf]) (fun w hw => ?_) ?_ hx0 hlk hcast hce hcv hcl ?_
  · obtain ⟨q', hq', rfl⟩ := List.mem_map.mp hw
    exact h_pass (pc := pc) hb4 hts (hEn.ext (fun a ha => rfl)) hk (by unfold hns; rw [e1]; exact List.mem_append_left _ hq') (e2 q' hq')
  · simp only [covers, Bool.and_eq_true, decide_eq_true_eq]
    exact ⟨e3, e4⟩
  · show W p l e R s m args below meth c H locs cells slots Q (F0 m x.2.2.1 lsM [.ref q])
    rw [e6]
    have fin : ∀ lsM2, lv_has lsM2 ls.length ((n, .ref q) :: (lva ad nv ls).filter (fun q => !(q.1 == n) && !(q.1 + 1 == n && q.2.category == 2))) → W p l e R s m args below meth c H locs cells slots Q (F0 m (h + len) lsM2 []) := fun lsM2 hl2 =>
      kk ad H locs lsM2 cells slots h0 h1 (hw.set _ trivial) ⟨hr.1, hr.2.1, hr.2.2.1, lva_set hl2 (fun u hu => by
        obtain ⟨g, g2⟩ := cl_cases hu
        rw [List.getElem?_set_self hn] at g
        cases g
        rcases g2 with ⟨x, g⟩ | ⟨a, g⟩ | ⟨x, g, g3⟩ <;> cases g) (by intro h; cases h)⟩ hc hs
    rcases hi with ⟨rfl, rfl⟩ | ⟨j, rfl, rfl, rfl⟩
    · exact lv_astore hx hb hd hr.2.2.2 hn rfl fin
    · exact lv_astore_n hx hb hd rfl hr.2.2.2 hn rfl fin
/-- it leaves a method -/
theorem g_out {b : Nat} (hb4 : b < 354) (hts : ∀ w ∈ TB, w.before args s = true) (hown : s.vm.findClass (own (po b)) = some m.cls) (hlocks : meth.locks = false) (hEn : EnvM z nv sc ad0 s) (htab : c.exceptionTable.toList = tableOf (hns b)) {pc k : Nat} {Qc : Array Value → State → Outcome → State → Prop} {σ0 : pS} {y : pZ} {mc ms : Nat} (hk : k < 2) (hh : hnd b pc k = none)
    (hn0 : n0 = pn σ0) (hy : y = (k + 2, .null, σ)) (hmc : pcl σ = c0 + mc) (hms : psl σ = s0 + ms) : Gx p l e R s m args below meth c (vx_MQ below Qc (XcM z G ad0 σ0 y) args s mc ms (fun q => z ≤ q)) z G nv c0 s0 n0 ad0 pc ls k σ := by
  intro ad H locs lsM cells slots rest q ce h0 h1 hw hr hc hs hce hcv hcl
  refine vx_outP (own := own (po b)) (E := exn k) hown hlocks (fun w hw => ?_) hce hcv hcl (fun t ht hvm => ?_) hr.2.2.1.2.2 (by omega) (by omega)
  · rw [htab] at hw
    obtain ⟨q', hq', rfl⟩ := List.mem_map.mp hw
    exact h_pass (pc := pc) hb4 hts (hEn.ext (fun a ha => rfl)) hk hq' (hfd_none hh q' hq')
  · subst hy
    refine ⟨ad, k, rfl, hk, rfl, fun a ha => h1 a (by omega), by show pn σ0 ≤ pn σ; omega, ⟨hw.1, fun v hv => (by cases hv), fun v hv => (by cases hv), hw.2.2.2⟩, by rw [ht]; exact hr.1, hr.2.1, hr.2.2.1.F ht⟩
end SNDD
