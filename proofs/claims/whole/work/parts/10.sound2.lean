/-! ===== an instruction of the pure machine is one of the machine's ===== -/
section SNDB
def WF (σ : pS) (ls st : List Value) : Prop := pn σ ≤ 1000 ∧ (∀ v ∈ ls, okv (pn σ) v) ∧ (∀ v ∈ st, okv (pn σ) v) ∧ ∀ a i q, gR σ a i = some q → q < pn σ ∨ 1000 ≤ q
def RL (z : Nat) (G : pG) (ad : Nat → Nat) (nv : Value) (s : State) (σ : pS) (ls : List Value) (H : Heap) (locs : List Loc) (lsM : Array Slot) : Prop :=
  va_P G.1 pCls (wsO G ad σ) H ∧ va_D (fun q => z ≤ q) (wsO G ad σ) ∧ va_S (fun q => z ≤ q) s.heap H locs ∧ lv_has lsM ls.length (lva ad nv ls)
def Go (p : Program) (l : Launch) (e : Env) (R : Room) (s : State) (m : MethodId) (args : Array Value) (below : List Frame) (meth : Method) (c : Code) (Q : State → Prop) (z : Nat) (G : pG) (nv : Value) (c0 s0 n0 : Nat) (ad0 : Nat → Nat) (pc : Nat) (ls st : List Value) (σ : pS) : Prop :=
  ∀ (ad : Nat → Nat) (H : Heap) (locs : List Loc) (lsM : Array Slot) (cells slots : Nat), n0 ≤ pn σ → (∀ a, (a < n0 ∨ 1000 ≤ a) → ad a = ad0 a) → WF σ ls st → RL z G ad nv s σ ls H locs lsM → pcl σ = c0 + cells → psl σ = s0 + slots →
    W p l e R s m args below meth c H locs cells slots Q (F0 m pc lsM (st.map (em ad nv)))
theorem WF.st {σ : pS} {ls st st' : List Value} (h : WF σ ls st) (h' : ∀ v ∈ st', okv (pn σ) v) : WF σ ls st' := ⟨h.1, h.2.1, h', h.2.2.2⟩
theorem WF.tl {σ : pS} {ls st : List Value} {v : Value} (h : WF σ ls (v :: st)) : WF σ ls st := h.st (fun u hu => h.2.2.1 u (List.mem_cons_of_mem _ hu))
theorem WF.hd {σ : pS} {ls st : List Value} {v : Value} (h : WF σ ls (v :: st)) : okv (pn σ) v := h.2.2.1 v List.mem_cons_self
theorem WF.ps {σ : pS} {ls st : List Value} {v : Value} (h : WF σ ls st) (hv : okv (pn σ) v) : WF σ ls (v :: st) := h.st (List.forall_mem_cons.mpr ⟨hv, h.2.2.1⟩)
theorem WF.set {σ : pS} {ls st : List Value} {v : Value} (h : WF σ ls st) (i : Nat) (hv : okv (pn σ) v) : WF σ (ls.set i v) st := ⟨h.1, fun u hu => by
  rcases List.mem_or_eq_of_mem_set hu with q | q
  · exact h.2.1 u q
  · rw [q]; exact hv, h.2.2⟩
theorem WF.sI {σ : pS} {ls st : List Value} (h : WF σ ls st) (a i : Nat) (x : Int32) : WF (sI σ a i x) ls st := h
theorem WF.sJ {σ : pS} {ls st : List Value} (h : WF σ ls st) (a i : Nat) (x : Int64) : WF (sJ σ a i x) ls st := h
theorem WF.sA {σ : pS} {ls st : List Value} (h : WF σ ls st) (a : Nat) (f : Nat → Int32) : WF (sA σ a f) ls st := h
theorem WF.sR {σ : pS} {ls st : List Value} (h : WF σ ls st) (a i : Nat) {q : Nat} (hq : q < pn σ ∨ 1000 ≤ q) : WF (sR σ a i (some q)) ls st := ⟨h.1, h.2.1, h.2.2.1, fun b j r hr => by
  rw [gR_sR] at hr
  split at hr
  · split at hr
    · cases hr; exact hq
    · exact h.2.2.2 _ _ _ hr
  · exact h.2.2.2 _ _ _ hr⟩
variable {p : Program} {l : Launch} {e : Env} {R : Room} {s : State} {m : MethodId} {args : Array Value} {below : List Frame} {meth : Method} {c : Code} {Q : State → Prop} {z : Nat} {G : pG} {nv : Value} {c0 s0 n0 : Nat} {ad0 : Nat → Nat} {pc : Nat} {ls st : List Value} {σ : pS} {cc : ByteArray}
theorem g_iconst (hx : p.tables.exec = Jvm.exec) (hb : c.code = cc) {n : Int} (hd : decode cc pc = .ok (.iconst n, 1)) (k : Go p l e R s m args below meth c Q z G nv c0 s0 n0 ad0 (pc + 1) (ls) (.int (Int32.ofInt n) :: st) (σ)) : Go p l e R s m args below meth c Q z G nv c0 s0 n0 ad0 (pc) (ls) (st) (σ) := by
  intro ad H locs lsM cells slots h0 h1 hw hr hc hs
  exact lv_iconst hx hb hd rfl (k ad H locs lsM cells slots h0 h1 (hw.ps trivial) hr hc hs)
theorem g_bipush (hx : p.tables.exec = Jvm.exec) (hb : c.code = cc) {n : Int} (hd : decode cc pc = .ok (.bipush n, 2)) (k : Go p l e R s m args below meth c Q z G nv c0 s0 n0 ad0 (pc + 2) (ls) (.int (Int8.ofInt n).toInt32 :: st) (σ)) : Go p l e R s m args below meth c Q z G nv c0 s0 n0 ad0 (pc) (ls) (st) (σ) := by
  intro ad H locs lsM cells slots h0 h1 hw hr hc hs
  exact lv_bipush hx hb hd rfl (k ad H locs lsM cells slots h0 h1 (hw.ps trivial) hr hc hs)
theorem g_sipush (hx : p.tables.exec = Jvm.exec) (hb : c.code = cc) {n : Int} (hd : decode cc pc = .ok (.sipush n, 3)) (k : Go p l e R s m args below meth c Q z G nv c0 s0 n0 ad0 (pc + 3) (ls) (.int (Int16.ofInt n).toInt32 :: st) (σ)) : Go p l e R s m args below meth c Q z G nv c0 s0 n0 ad0 (pc) (ls) (st) (σ) := by
  intro ad H locs lsM cells slots h0 h1 hw hr hc hs
  exact lv_sipush hx hb hd rfl (k ad H locs lsM cells slots h0 h1 (hw.ps trivial) hr hc hs)
theorem g_lconst (hx : p.tables.exec = Jvm.exec) (hb : c.code = cc) {n : Fin 2} (hd : decode cc pc = .ok (.lconst n, 1)) (k : Go p l e R s m args below meth c Q z G nv c0 s0 n0 ad0 (pc + 1) (ls) (.long (Int64.ofNat (n : Nat)) :: st) (σ)) : Go p l e R s m args below meth c Q z G nv c0 s0 n0 ad0 (pc) (ls) (st) (σ) := by
  intro ad H locs lsM cells slots h0 h1 hw hr hc hs
  exact lv_lconst hx hb hd rfl (k ad H locs lsM cells slots h0 h1 (hw.ps trivial) hr hc hs)
theorem g_iload (hx : p.tables.exec = Jvm.exec) (hb : c.code = cc) {n : Nat} {x : Int32} (hd : decode cc pc = .ok (.iload n, 2)) (hl : ls[(n : Nat)]? = some (.int x)) (k : Go p l e R s m args below meth c Q z G nv c0 s0 n0 ad0 (pc + 2) (ls) (.int x :: st) (σ)) : Go p l e R s m args below meth c Q z G nv c0 s0 n0 ad0 (pc) (ls) (st) (σ) := by
  intro ad H locs lsM cells slots h0 h1 hw hr hc hs
  exact lv_iload hx hb hd (lva_at hr.2.2.2 (cl_int hl)) (k ad H locs lsM cells slots h0 h1 (hw.ps trivial) hr hc hs)
theorem g_iload_n (hx : p.tables.exec = Jvm.exec) (hb : c.code = cc) {n : Fin 4} {x : Int32} (hd : decode cc pc = .ok (.iload_n n, 1)) (hl : ls[(n : Nat)]? = some (.int x)) (k : Go p l e R s m args below meth c Q z G nv c0 s0 n0 ad0 (pc + 1) (ls) (.int x :: st) (σ)) : Go p l e R s m args below meth c Q z G nv c0 s0 n0 ad0 (pc) (ls) (st) (σ) := by
  intro ad H locs lsM cells slots h0 h1 hw hr hc hs
  exact lv_iload_n hx hb hd rfl (lva_at hr.2.2.2 (cl_int hl)) (k ad H locs lsM cells slots h0 h1 (hw.ps trivial) hr hc hs)
theorem g_lload (hx : p.tables.exec = Jvm.exec) (hb : c.code = cc) {n : Nat} {x : Int64} (hd : decode cc pc = .ok (.lload n, 2)) (hl : ls[(n : Nat)]? = some (.long x)) (hl2 : ls[(n : Nat) + 1]? = some (.retAddr 1)) (k : Go p l e R s m args below meth c Q z G nv c0 s0 n0 ad0 (pc + 2) (ls) (.long x :: st) (σ)) : Go p l e R s m args below meth c Q z G nv c0 s0 n0 ad0 (pc) (ls) (st) (σ) := by
  intro ad H locs lsM cells slots h0 h1 hw hr hc hs
  exact lv_lload hx hb hd (lva_at hr.2.2.2 (cl_long hl hl2)) (k ad H locs lsM cells slots h0 h1 (hw.ps trivial) hr hc hs)
theorem g_lload_n (hx : p.tables.exec = Jvm.exec) (hb : c.code = cc) {n : Fin 4} {x : Int64} (hd : decode cc pc = .ok (.lload_n n, 1)) (hl : ls[(n : Nat)]? = some (.long x)) (hl2 : ls[(n : Nat) + 1]? = some (.retAddr 1)) (k : Go p l e R s m args below meth c Q z G nv c0 s0 n0 ad0 (pc + 1) (ls) (.long x :: st) (σ)) : Go p l e R s m args below meth c Q z G nv c0 s0 n0 ad0 (pc) (ls) (st) (σ) := by
  intro ad H locs lsM cells slots h0 h1 hw hr hc hs
  exact lv_lload_n hx hb hd rfl (lva_at hr.2.2.2 (cl_long hl hl2)) (k ad H locs lsM cells slots h0 h1 (hw.ps trivial) hr hc hs)
theorem g_aload (hx : p.tables.exec = Jvm.exec) (hb : c.code = cc) {n : Nat} {x : Nat} (hd : decode cc pc = .ok (.aload n, 2)) (hl : ls[(n : Nat)]? = some (.ref x)) (k : Go p l e R s m args below meth c Q z G nv c0 s0 n0 ad0 (pc + 2) (ls) (.ref x :: st) (σ)) : Go p l e R s m args below meth c Q z G nv c0 s0 n0 ad0 (pc) (ls) (st) (σ) := by
  intro ad H locs lsM cells slots h0 h1 hw hr hc hs
  exact lv_aload hx hb hd (lva_at hr.2.2.2 (cl_ref hl)) (k ad H locs lsM cells slots h0 h1 (hw.ps (hw.2.1 _ (List.mem_of_getElem? hl))) hr hc hs)
theorem g_aload_n (hx : p.tables.exec = Jvm.exec) (hb : c.code = cc) {n : Fin 4} {x : Nat} (hd : decode cc pc = .ok (.aload_n n, 1)) (hl : ls[(n : Nat)]? = some (.ref x)) (k : Go p l e R s m args below meth c Q z G nv c0 s0 n0 ad0 (pc + 1) (ls) (.ref x :: st) (σ)) : Go p l e R s m args below meth c Q z G nv c0 s0 n0 ad0 (pc) (ls) (st) (σ) := by
  intro ad H locs lsM cells slots h0 h1 hw hr hc hs
  exact lv_aload_n hx hb hd rfl (lva_at hr.2.2.2 (cl_ref hl)) (k ad H locs lsM cells slots h0 h1 (hw.ps (hw.2.1 _ (List.mem_of_getElem? hl))) hr hc hs)
theorem g_istore (hx : p.tables.exec = Jvm.exec) (hb : c.code = cc) {n : Nat} {x : Int32} (hd : decode cc pc = .ok (.istore n, 2)) (hn : (n : Nat) < ls.length) (k : Go p l e R s m args below meth c Q z G nv c0 s0 n0 ad0 (pc + 2) (ls.set (n : Nat) (.int x)) (st) (σ)) : Go p l e R s m args below meth c Q z G nv c0 s0 n0 ad0 (pc) (ls) (.int x :: st) (σ) := by
  intro ad H locs lsM cells slots h0 h1 hw hr hc hs
  refine lv_istore hx hb hd hr.2.2.2 hn rfl (fun lsM2 hl2 => ?_)
  refine k ad H locs lsM2 cells slots h0 h1 (hw.tl.set _ hw.hd) ⟨hr.1, hr.2.1, hr.2.2.1, lva_set hl2 (fun u hu => ?_) (by intro h; cases h)⟩ hc hs
  obtain ⟨g, -⟩ := cl_cases hu
  rw [List.getElem?_set_self hn] at g
  cases g
  rfl
theorem g_istore_n (hx : p.tables.exec = Jvm.exec) (hb : c.code = cc) {n : Fin 4} {x : Int32} (hd : decode cc pc = .ok (.istore_n n, 1)) (hn : (n : Nat) < ls.length) (k : Go p l e R s m args below meth c Q z G nv c0 s0 n0 ad0 (pc + 1) (ls.set (n : Nat) (.int x)) (st) (σ)) : Go p l e R s m args below meth c Q z G nv c0 s0 n0 ad0 (pc) (ls) (.int x :: st) (σ) := by
  intro ad H locs lsM cells slots h0 h1 hw hr hc hs
  refine lv_istore_n hx hb hd rfl hr.2.2.2 hn rfl (fun lsM2 hl2 => ?_)
  refine k ad H locs lsM2 cells slots h0 h1 (hw.tl.set _ hw.hd) ⟨hr.1, hr.2.1, hr.2.2.1, lva_set hl2 (fun u hu => ?_) (by intro h; cases h)⟩ hc hs
  obtain ⟨g, -⟩ := cl_cases hu
  rw [List.getElem?_set_self hn] at g
  cases g
  rfl
theorem g_astore (hx : p.tables.exec = Jvm.exec) (hb : c.code = cc) {n : Nat} {x : Nat} (hd : decode cc pc = .ok (.astore n, 2)) (hn : (n : Nat) < ls.length) (k : Go p l e R s m args below meth c Q z G nv c0 s0 n0 ad0 (pc + 2) (ls.set (n : Nat) (.ref x)) (st) (σ)) : Go p l e R s m args below meth c Q z G nv c0 s0 n0 ad0 (pc) (ls) (.ref x :: st) (σ) := by
  intro ad H locs lsM cells slots h0 h1 hw hr hc hs
  refine lv_astore hx hb hd hr.2.2.2 hn rfl (fun lsM2 hl2 => ?_)
  refine k ad H locs lsM2 cells slots h0 h1 (hw.tl.set _ hw.hd) ⟨hr.1, hr.2.1, hr.2.2.1, lva_set hl2 (fun u hu => ?_) (by intro h; cases h)⟩ hc hs
  obtain ⟨g, -⟩ := cl_cases hu
  rw [List.getElem?_set_self hn] at g
  cases g
  rfl
theorem g_astore_n (hx : p.tables.exec = Jvm.exec) (hb : c.code = cc) {n : Fin 4} {x : Nat} (hd : decode cc pc = .ok (.astore_n n, 1)) (hn : (n : Nat) < ls.length) (k : Go p l e R s m args below meth c Q z G nv c0 s0 n0 ad0 (pc + 1) (ls.set (n : Nat) (.ref x)) (st) (σ)) : Go p l e R s m args below meth c Q z G nv c0 s0 n0 ad0 (pc) (ls) (.ref x :: st) (σ) := by
  intro ad H locs lsM cells slots h0 h1 hw hr hc hs
  refine lv_astore_n hx hb hd rfl hr.2.2.2 hn rfl (fun lsM2 hl2 => ?_)
  refine k ad H locs lsM2 cells slots h0 h1 (hw.tl.set _ hw.hd) ⟨hr.1, hr.2.1, hr.2.2.1, lva_set hl2 (fun u hu => ?_) (by intro h; cases h)⟩ hc hs
  obtain ⟨g, -⟩ := cl_cases hu
  rw [List.getElem?_set_self hn] at g
  cases g
  rfl
theorem g_lstore (hx : p.tables.exec = Jvm.exec) (hb : c.code = cc) {n : Nat} {x : Int64} (hd : decode cc pc = .ok (.lstore n, 2)) (hn : (n : Nat) + 1 < ls.length) (k : Go p l e R s m args below meth c Q z G nv c0 s0 n0 ad0 (pc + 2) ((ls.set (n : Nat) (.long x)).set ((n : Nat) + 1) (.retAddr 1)) (st) (σ)) : Go p l e R s m args below meth c Q z G nv c0 s0 n0 ad0 (pc) (ls) (.long x :: st) (σ) := by
  intro ad H locs lsM cells slots h0 h1 hw hr hc hs
  refine lv_lstore hx hb hd hr.2.2.2 hn rfl (fun lsM2 hl2 => ?_)
  exact k ad H locs lsM2 cells slots h0 h1 ((hw.tl.set (v := .long x) _ trivial).set (v := .retAddr 1) _ trivial) ⟨hr.1, hr.2.1, hr.2.2.1, lva_setJ hn hl2⟩ hc hs
theorem g_lstore_n (hx : p.tables.exec = Jvm.exec) (hb : c.code = cc) {n : Fin 4} {x : Int64} (hd : decode cc pc = .ok (.lstore_n n, 1)) (hn : (n : Nat) + 1 < ls.length) (k : Go p l e R s m args below meth c Q z G nv c0 s0 n0 ad0 (pc + 1) ((ls.set (n : Nat) (.long x)).set ((n : Nat) + 1) (.retAddr 1)) (st) (σ)) : Go p l e R s m args below meth c Q z G nv c0 s0 n0 ad0 (pc) (ls) (.long x :: st) (σ) := by
  intro ad H locs lsM cells slots h0 h1 hw hr hc hs
  refine lv_lstore_n hx hb hd rfl hr.2.2.2 hn rfl (fun lsM2 hl2 => ?_)
  exact k ad H locs lsM2 cells slots h0 h1 ((hw.tl.set (v := .long x) _ trivial).set (v := .retAddr 1) _ trivial) ⟨hr.1, hr.2.1, hr.2.2.1, lva_setJ hn hl2⟩ hc hs
theorem g_pop (hx : p.tables.exec = Jvm.exec) (hb : c.code = cc) (hnv : nv.category = 1) {v : Value} (hd : decode cc pc = .ok (.pop, 1)) (hv : v.category = 1) (k : Go p l e R s m args below meth c Q z G nv c0 s0 n0 ad0 (pc + 1) (ls) (st) (σ)) : Go p l e R s m args below meth c Q z G nv c0 s0 n0 ad0 (pc) (ls) (v :: st) (σ) := by
  intro ad H locs lsM cells slots h0 h1 hw hr hc hs
  exact lv_pop hx hb hd (by rw [em_cat ad hnv]; exact hv) (k ad H locs lsM cells slots h0 h1 hw.tl hr hc hs)
theorem g_dup (hx : p.tables.exec = Jvm.exec) (hb : c.code = cc) (hnv : nv.category = 1) {v : Value} (hd : decode cc pc = .ok (.dup, 1)) (hv : v.category = 1) (k : Go p l e R s m args below meth c Q z G nv c0 s0 n0 ad0 (pc + 1) (ls) (v :: v :: st) (σ)) : Go p l e R s m args below meth c Q z G nv c0 s0 n0 ad0 (pc) (ls) (v :: st) (σ) := by
  intro ad H locs lsM cells slots h0 h1 hw hr hc hs
  exact lv_dup hx hb hd (by rw [em_cat ad hnv]; exact hv) (k ad H locs lsM cells slots h0 h1 (hw.ps hw.hd) hr hc hs)
theorem g_dup2 (hx : p.tables.exec = Jvm.exec) (hb : c.code = cc) (hnv : nv.category = 1) {v w : Value} (hd : decode cc pc = .ok (.dup2, 1)) (hv : v.category = 1) (hv2 : w.category = 1) (k : Go p l e R s m args below meth c Q z G nv c0 s0 n0 ad0 (pc + 1) (ls) (v :: w :: v :: w :: st) (σ)) : Go p l e R s m args below meth c Q z G nv c0 s0 n0 ad0 (pc) (ls) (v :: w :: st) (σ) := by
  intro ad H locs lsM cells slots h0 h1 hw hr hc hs
  exact lv_dup2_11 hx hb hd (by rw [em_cat ad hnv]; exact hv) (by rw [em_cat ad hnv]; exact hv2) (k ad H locs lsM cells slots h0 h1 ((hw.ps hw.tl.hd).ps hw.hd) hr hc hs)
theorem g_iadd (hx : p.tables.exec = Jvm.exec) (hb : c.code = cc) {x y : Int32} (hd : decode cc pc = .ok (.iadd, 1)) (k : Go p l e R s m args below meth c Q z G nv c0 s0 n0 ad0 (pc + 1) (ls) (.int (x + y) :: st) (σ)) : Go p l e R s m args below meth c Q z G nv c0 s0 n0 ad0 (pc) (ls) (.int y :: .int x :: st) (σ) := by
  intro ad H locs lsM cells slots h0 h1 hw hr hc hs
  exact lv_iadd hx hb hd (k ad H locs lsM cells slots h0 h1 (hw.tl.tl.ps trivial) hr hc hs)
theorem g_isub (hx : p.tables.exec = Jvm.exec) (hb : c.code = cc) {x y : Int32} (hd : decode cc pc = .ok (.isub, 1)) (k : Go p l e R s m args below meth c Q z G nv c0 s0 n0 ad0 (pc + 1) (ls) (.int (x - y) :: st) (σ)) : Go p l e R s m args below meth c Q z G nv c0 s0 n0 ad0 (pc) (ls) (.int y :: .int x :: st) (σ) := by
  intro ad H locs lsM cells slots h0 h1 hw hr hc hs
  exact lv_isub hx hb hd (k ad H locs lsM cells slots h0 h1 (hw.tl.tl.ps trivial) hr hc hs)
theorem g_imul (hx : p.tables.exec = Jvm.exec) (hb : c.code = cc) {x y : Int32} (hd : decode cc pc = .ok (.imul, 1)) (k : Go p l e R s m args below meth c Q z G nv c0 s0 n0 ad0 (pc + 1) (ls) (.int (x * y) :: st) (σ)) : Go p l e R s m args below meth c Q z G nv c0 s0 n0 ad0 (pc) (ls) (.int y :: .int x :: st) (σ) := by
  intro ad H locs lsM cells slots h0 h1 hw hr hc hs
  exact lv_imul hx hb hd (k ad H locs lsM cells slots h0 h1 (hw.tl.tl.ps trivial) hr hc hs)
theorem g_iand (hx : p.tables.exec = Jvm.exec) (hb : c.code = cc) {x y : Int32} (hd : decode cc pc = .ok (.iand, 1)) (k : Go p l e R s m args below meth c Q z G nv c0 s0 n0 ad0 (pc + 1) (ls) (.int (x &&& y) :: st) (σ)) : Go p l e R s m args below meth c Q z G nv c0 s0 n0 ad0 (pc) (ls) (.int y :: .int x :: st) (σ) := by
  intro ad H locs lsM cells slots h0 h1 hw hr hc hs
  exact lv_iand hx hb hd (k ad H locs lsM cells slots h0 h1 (hw.tl.tl.ps trivial) hr hc hs)
theorem g_ior (hx : p.tables.exec = Jvm.exec) (hb : c.code = cc) {x y : Int32} (hd : decode cc pc = .ok (.ior, 1)) (k : Go p l e R s m args below meth c Q z G nv c0 s0 n0 ad0 (pc + 1) (ls) (.int (x ||| y) :: st) (σ)) : Go p l e R s m args below meth c Q z G nv c0 s0 n0 ad0 (pc) (ls) (.int y :: .int x :: st) (σ) := by
  intro ad H locs lsM cells slots h0 h1 hw hr hc hs
  exact lv_ior hx hb hd (k ad H locs lsM cells slots h0 h1 (hw.tl.tl.ps trivial) hr hc hs)
theorem g_ixor (hx : p.tables.exec = Jvm.exec) (hb : c.code = cc) {x y : Int32} (hd : decode cc pc = .ok (.ixor, 1)) (k : Go p l e R s m args below meth c Q z G nv c0 s0 n0 ad0 (pc + 1) (ls) (.int (x ^^^ y) :: st) (σ)) : Go p l e R s m args below meth c Q z G nv c0 s0 n0 ad0 (pc) (ls) (.int y :: .int x :: st) (σ) := by
  intro ad H locs lsM cells slots h0 h1 hw hr hc hs
  exact lv_ixor hx hb hd (k ad H locs lsM cells slots h0 h1 (hw.tl.tl.ps trivial) hr hc hs)
theorem g_ishl (hx : p.tables.exec = Jvm.exec) (hb : c.code = cc) {x y : Int32} (hd : decode cc pc = .ok (.ishl, 1)) (k : Go p l e R s m args below meth c Q z G nv c0 s0 n0 ad0 (pc + 1) (ls) (.int (shl' x y) :: st) (σ)) : Go p l e R s m args below meth c Q z G nv c0 s0 n0 ad0 (pc) (ls) (.int y :: .int x :: st) (σ) := by
  intro ad H locs lsM cells slots h0 h1 hw hr hc hs
  exact lv_ishl hx hb hd (k ad H locs lsM cells slots h0 h1 (hw.tl.tl.ps trivial) hr hc hs)
theorem g_ishr (hx : p.tables.exec = Jvm.exec) (hb : c.code = cc) {x y : Int32} (hd : decode cc pc = .ok (.ishr, 1)) (k : Go p l e R s m args below meth c Q z G nv c0 s0 n0 ad0 (pc + 1) (ls) (.int (shr' x y) :: st) (σ)) : Go p l e R s m args below meth c Q z G nv c0 s0 n0 ad0 (pc) (ls) (.int y :: .int x :: st) (σ) := by
  intro ad H locs lsM cells slots h0 h1 hw hr hc hs
  exact lv_ishr hx hb hd (k ad H locs lsM cells slots h0 h1 (hw.tl.tl.ps trivial) hr hc hs)
theorem g_iushr (hx : p.tables.exec = Jvm.exec) (hb : c.code = cc) {x y : Int32} (hd : decode cc pc = .ok (.iushr, 1)) (k : Go p l e R s m args below meth c Q z G nv c0 s0 n0 ad0 (pc + 1) (ls) (.int (ushr x y) :: st) (σ)) : Go p l e R s m args below meth c Q z G nv c0 s0 n0 ad0 (pc) (ls) (.int y :: .int x :: st) (σ) := by
  intro ad H locs lsM cells slots h0 h1 hw hr hc hs
  exact lv_iushr hx hb hd rfl (k ad H locs lsM cells slots h0 h1 (hw.tl.tl.ps trivial) hr hc hs)
theorem g_idiv (hx : p.tables.exec = Jvm.exec) (hb : c.code = cc) {x y : Int32} (hd : decode cc pc = .ok (.idiv, 1)) (hy : ¬ y = 0) (k : Go p l e R s m args below meth c Q z G nv c0 s0 n0 ad0 (pc + 1) (ls) (.int (x / y) :: st) (σ)) : Go p l e R s m args below meth c Q z G nv c0 s0 n0 ad0 (pc) (ls) (.int y :: .int x :: st) (σ) := by
  intro ad H locs lsM cells slots h0 h1 hw hr hc hs
  exact lv_idiv hx hb hd hy (k ad H locs lsM cells slots h0 h1 (hw.tl.tl.ps trivial) hr hc hs)
theorem g_irem (hx : p.tables.exec = Jvm.exec) (hb : c.code = cc) {x y : Int32} (hd : decode cc pc = .ok (.irem, 1)) (hy : ¬ y = 0) (k : Go p l e R s m args below meth c Q z G nv c0 s0 n0 ad0 (pc + 1) (ls) (.int (irem' x y) :: st) (σ)) : Go p l e R s m args below meth c Q z G nv c0 s0 n0 ad0 (pc) (ls) (.int y :: .int x :: st) (σ) := by
  intro ad H locs lsM cells slots h0 h1 hw hr hc hs
  exact lv_irem hx hb hd hy (k ad H locs lsM cells slots h0 h1 (hw.tl.tl.ps trivial) hr hc hs)
theorem g_ladd (hx : p.tables.exec = Jvm.exec) (hb : c.code = cc) {x y : Int64} (hd : decode cc pc = .ok (.ladd, 1)) (k : Go p l e R s m args below meth c Q z G nv c0 s0 n0 ad0 (pc + 1) (ls) (.long (x + y) :: st) (σ)) : Go p l e R s m args below meth c Q z G nv c0 s0 n0 ad0 (pc) (ls) (.long y :: .long x :: st) (σ) := by
  intro ad H locs lsM cells slots h0 h1 hw hr hc hs
  exact lv_ladd hx hb hd (k ad H locs lsM cells slots h0 h1 (hw.tl.tl.ps trivial) hr hc hs)
theorem g_lmul (hx : p.tables.exec = Jvm.exec) (hb : c.code = cc) {x y : Int64} (hd : decode cc pc = .ok (.lmul, 1)) (k : Go p l e R s m args below meth c Q z G nv c0 s0 n0 ad0 (pc + 1) (ls) (.long (x * y) :: st) (σ)) : Go p l e R s m args below meth c Q z G nv c0 s0 n0 ad0 (pc) (ls) (.long y :: .long x :: st) (σ) := by
  intro ad H locs lsM cells slots h0 h1 hw hr hc hs
  exact lv_lmul hx hb hd (k ad H locs lsM cells slots h0 h1 (hw.tl.tl.ps trivial) hr hc hs)
theorem g_ldiv (hx : p.tables.exec = Jvm.exec) (hb : c.code = cc) {x y : Int64} (hd : decode cc pc = .ok (.ldiv, 1)) (hy : ¬ y = 0) (k : Go p l e R s m args below meth c Q z G nv c0 s0 n0 ad0 (pc + 1) (ls) (.long (x / y) :: st) (σ)) : Go p l e R s m args below meth c Q z G nv c0 s0 n0 ad0 (pc) (ls) (.long y :: .long x :: st) (σ) := by
  intro ad H locs lsM cells slots h0 h1 hw hr hc hs
  exact lv_ldiv hx hb hd hy (k ad H locs lsM cells slots h0 h1 (hw.tl.tl.ps trivial) hr hc hs)
theorem g_lrem (hx : p.tables.exec = Jvm.exec) (hb : c.code = cc) {x y : Int64} (hd : decode cc pc = .ok (.lrem, 1)) (hy : ¬ y = 0) (k : Go p l e R s m args below meth c Q z G nv c0 s0 n0 ad0 (pc + 1) (ls) (.long (lrem' x y) :: st) (σ)) : Go p l e R s m args below meth c Q z G nv c0 s0 n0 ad0 (pc) (ls) (.long y :: .long x :: st) (σ) := by
  intro ad H locs lsM cells slots h0 h1 hw hr hc hs
  exact lv_lrem hx hb hd hy (k ad H locs lsM cells slots h0 h1 (hw.tl.tl.ps trivial) hr hc hs)
theorem g_lcmp (hx : p.tables.exec = Jvm.exec) (hb : c.code = cc) {x y : Int64} (hd : decode cc pc = .ok (.lcmp, 1)) (k : Go p l e R s m args below meth c Q z G nv c0 s0 n0 ad0 (pc + 1) (ls) (.int (lg_cmp x y) :: st) (σ)) : Go p l e R s m args below meth c Q z G nv c0 s0 n0 ad0 (pc) (ls) (.long y :: .long x :: st) (σ) := by
  intro ad H locs lsM cells slots h0 h1 hw hr hc hs
  exact W.lcmp hx hb hd (k ad H locs lsM cells slots h0 h1 (hw.tl.tl.ps trivial) hr hc hs)
theorem g_i2l (hx : p.tables.exec = Jvm.exec) (hb : c.code = cc) {x : Int32} (hd : decode cc pc = .ok (.i2l, 1)) (k : Go p l e R s m args below meth c Q z G nv c0 s0 n0 ad0 (pc + 1) (ls) (.long x.toInt64 :: st) (σ)) : Go p l e R s m args below meth c Q z G nv c0 s0 n0 ad0 (pc) (ls) (.int x :: st) (σ) := by
  intro ad H locs lsM cells slots h0 h1 hw hr hc hs
  exact lv_i2l hx hb hd rfl (k ad H locs lsM cells slots h0 h1 (hw.tl.ps trivial) hr hc hs)
theorem g_l2i (hx : p.tables.exec = Jvm.exec) (hb : c.code = cc) {x : Int64} (hd : decode cc pc = .ok (.l2i, 1)) (k : Go p l e R s m args below meth c Q z G nv c0 s0 n0 ad0 (pc + 1) (ls) (.int x.toInt32 :: st) (σ)) : Go p l e R s m args below meth c Q z G nv c0 s0 n0 ad0 (pc) (ls) (.long x :: st) (σ) := by
  intro ad H locs lsM cells slots h0 h1 hw hr hc hs
  exact lv_l2i hx hb hd rfl (k ad H locs lsM cells slots h0 h1 (hw.tl.ps trivial) hr hc hs)
theorem g_i2c (hx : p.tables.exec = Jvm.exec) (hb : c.code = cc) {x : Int32} (hd : decode cc pc = .ok (.i2c, 1)) (k : Go p l e R s m args below meth c Q z G nv c0 s0 n0 ad0 (pc + 1) (ls) (.int (x.toUInt32 % 65536).toInt32 :: st) (σ)) : Go p l e R s m args below meth c Q z G nv c0 s0 n0 ad0 (pc) (ls) (.int x :: st) (σ) := by
  intro ad H locs lsM cells slots h0 h1 hw hr hc hs
  exact lv_i2c hx hb hd rfl (k ad H locs lsM cells slots h0 h1 (hw.tl.ps trivial) hr hc hs)
theorem g_i2b (hx : p.tables.exec = Jvm.exec) (hb : c.code = cc) {x : Int32} (hd : decode cc pc = .ok (.i2b, 1)) (k : Go p l e R s m args below meth c Q z G nv c0 s0 n0 ad0 (pc + 1) (ls) (.int x.toInt8.toInt32 :: st) (σ)) : Go p l e R s m args below meth c Q z G nv c0 s0 n0 ad0 (pc) (ls) (.int x :: st) (σ) := by
  intro ad H locs lsM cells slots h0 h1 hw hr hc hs
  exact lv_i2b hx hb hd rfl (k ad H locs lsM cells slots h0 h1 (hw.tl.ps trivial) hr hc hs)
theorem g_if (hx : p.tables.exec = Jvm.exec) (hb : c.code = cc) {op : ClassFile.Cond} {off : Int} {x : Int32} {tgt : Nat} (hd : decode cc pc = .ok (.ifCond op off, 3)) (ht : (pc : Int) + off = (tgt : Int)) (kt : cop op x 0 = true → Go p l e R s m args below meth c Q z G nv c0 s0 n0 ad0 (tgt) (ls) (st) (σ)) (kf : ¬ cop op x 0 = true → Go p l e R s m args below meth c Q z G nv c0 s0 n0 ad0 (pc + 3) (ls) (st) (σ)) : Go p l e R s m args below meth c Q z G nv c0 s0 n0 ad0 (pc) (ls) (.int x :: st) (σ) := by
  intro ad H locs lsM cells slots h0 h1 hw hr hc hs
  cases op with
  | eq => exact lv_if_eq hx hb hd ht (fun q => kt (by simp only [cop, decide_eq_true_eq]; exact q) ad H locs lsM cells slots h0 h1 hw.tl hr hc hs) (fun q => kf (by simp only [cop, decide_eq_true_eq]; exact q) ad H locs lsM cells slots h0 h1 hw.tl hr hc hs)
  | ne => exact lv_if_ne hx hb hd ht (fun q => kt (by simp only [cop, decide_eq_true_eq]; exact q) ad H locs lsM cells slots h0 h1 hw.tl hr hc hs) (fun q => kf (by simp only [cop, decide_eq_true_eq]; exact fun h => h q) ad H locs lsM cells slots h0 h1 hw.tl hr hc hs)
  | lt => exact lv_if_lt hx hb hd ht (fun q => kt (by simp only [cop, decide_eq_true_eq]; exact q) ad H locs lsM cells slots h0 h1 hw.tl hr hc hs) (fun q => kf (by simp only [cop, decide_eq_true_eq]; exact q) ad H locs lsM cells slots h0 h1 hw.tl hr hc hs)
  | ge => exact lv_if_ge hx hb hd ht (fun q => kt (by simp only [cop, decide_eq_true_eq]; exact q) ad H locs lsM cells slots h0 h1 hw.tl hr hc hs) (fun q => kf (by simp only [cop, decide_eq_true_eq]; exact q) ad H locs lsM cells slots h0 h1 hw.tl hr hc hs)
  | gt => exact lv_if_gt hx hb hd ht (fun q => kt (by simp only [cop, decide_eq_true_eq]; exact q) ad H locs lsM cells slots h0 h1 hw.tl hr hc hs) (fun q => kf (by simp only [cop, decide_eq_true_eq]; exact q) ad H locs lsM cells slots h0 h1 hw.tl hr hc hs)
  | le => exact lv_if_le hx hb hd ht (fun q => kt (by simp only [cop, decide_eq_true_eq]; exact q) ad H locs lsM cells slots h0 h1 hw.tl hr hc hs) (fun q => kf (by simp only [cop, decide_eq_true_eq]; exact q) ad H locs lsM cells slots h0 h1 hw.tl hr hc hs)
theorem g_icmp (hx : p.tables.exec = Jvm.exec) (hb : c.code = cc) {op : ClassFile.Cond} {off : Int} {x y : Int32} {tgt : Nat} (hd : decode cc pc = .ok (.if_icmp op off, 3)) (ht : (pc : Int) + off = (tgt : Int)) (kt : cop op x y = true → Go p l e R s m args below meth c Q z G nv c0 s0 n0 ad0 (tgt) (ls) (st) (σ)) (kf : ¬ cop op x y = true → Go p l e R s m args below meth c Q z G nv c0 s0 n0 ad0 (pc + 3) (ls) (st) (σ)) : Go p l e R s m args below meth c Q z G nv c0 s0 n0 ad0 (pc) (ls) (.int y :: .int x :: st) (σ) := by
  intro ad H locs lsM cells slots h0 h1 hw hr hc hs
  cases op with
  | eq => exact lv_icmp_eq hx hb hd ht (fun q => kt (by simp only [cop, decide_eq_true_eq]; exact q) ad H locs lsM cells slots h0 h1 hw.tl.tl hr hc hs) (fun q => kf (by simp only [cop, decide_eq_true_eq]; exact q) ad H locs lsM cells slots h0 h1 hw.tl.tl hr hc hs)
  | ne => exact lv_icmp_ne hx hb hd ht (fun q => kt (by simp only [cop, decide_eq_true_eq]; exact q) ad H locs lsM cells slots h0 h1 hw.tl.tl hr hc hs) (fun q => kf (by simp only [cop, decide_eq_true_eq]; exact fun h => h q) ad H locs lsM cells slots h0 h1 hw.tl.tl hr hc hs)
  | lt => exact lv_icmp_lt hx hb hd ht (fun q => kt (by simp only [cop, decide_eq_true_eq]; exact q) ad H locs lsM cells slots h0 h1 hw.tl.tl hr hc hs) (fun q => kf (by simp only [cop, decide_eq_true_eq]; exact q) ad H locs lsM cells slots h0 h1 hw.tl.tl hr hc hs)
  | ge => exact lv_icmp_ge hx hb hd ht (fun q => kt (by simp only [cop, decide_eq_true_eq]; exact q) ad H locs lsM cells slots h0 h1 hw.tl.tl hr hc hs) (fun q => kf (by simp only [cop, decide_eq_true_eq]; exact q) ad H locs lsM cells slots h0 h1 hw.tl.tl hr hc hs)
  | gt => exact lv_icmp_gt hx hb hd ht (fun q => kt (by simp only [cop, decide_eq_true_eq]; exact q) ad H locs lsM cells slots h0 h1 hw.tl.tl hr hc hs) (fun q => kf (by simp only [cop, decide_eq_true_eq]; exact q) ad H locs lsM cells slots h0 h1 hw.tl.tl hr hc hs)
  | le => exact lv_icmp_le hx hb hd ht (fun q => kt (by simp only [cop, decide_eq_true_eq]; exact q) ad H locs lsM cells slots h0 h1 hw.tl.tl hr hc hs) (fun q => kf (by simp only [cop, decide_eq_true_eq]; exact q) ad H locs lsM cells slots h0 h1 hw.tl.tl hr hc hs)
theorem g_goto (hx : p.tables.exec = Jvm.exec) (hb : c.code = cc) {off : Int} {tgt : Nat} (hd : decode cc pc = .ok (.goto off, 3)) (ht : (pc : Int) + off = (tgt : Int)) (k : Go p l e R s m args below meth c Q z G nv c0 s0 n0 ad0 (tgt) (ls) (st) (σ)) : Go p l e R s m args below meth c Q z G nv c0 s0 n0 ad0 (pc) (ls) (st) (σ) := by
  intro ad H locs lsM cells slots h0 h1 hw hr hc hs
  exact lv_goto hx hb hd ht (k ad H locs lsM cells slots h0 h1 hw hr hc hs)
theorem g_iinc (hx : p.tables.exec = Jvm.exec) (hb : c.code = cc) {n : Nat} {d : Int} {x : Int32} (hd : decode cc pc = .ok (.iinc n d, 3)) (hl : ls[n]? = some (.int x)) (k : Go p l e R s m args below meth c Q z G nv c0 s0 n0 ad0 (pc + 3) (ls.set n (.int (x + Int32.ofInt d))) (st) (σ)) : Go p l e R s m args below meth c Q z G nv c0 s0 n0 ad0 (pc) (ls) (st) (σ) := by
  intro ad H locs lsM cells slots h0 h1 hw hr hc hs
  have hn : n < ls.length := (List.getElem?_eq_some_iff.mp hl).1
  obtain ⟨j, hj⟩ := List.getElem?_of_mem (lva_mem (ad := ad) (nv := nv) (ls := ls) (q := (n, .int x)) |>.mpr ⟨.int x, cl_int hl, rfl⟩)
  refine lv_iinc (k := j) hx hb hd hr.2.2.2 hj rfl hn rfl (fun lsM2 hl2 => ?_)
  refine k ad H locs lsM2 cells slots h0 h1 (hw.set _ trivial) ⟨hr.1, hr.2.1, hr.2.2.1, lva_set hl2 (fun u hu => ?_) (by intro h; cases h)⟩ hc hs
  obtain ⟨g, -⟩ := cl_cases hu
  rw [List.getElem?_set_self hn] at g
  cases g
  rfl
theorem g_tabOut (hx : p.tables.exec = Jvm.exec) (hb : c.code = cc) {dflt lo hi : Int} {offs : Array Int} {len : Nat} {x : Int32} {tgt : Nat} (hd : decode cc pc = .ok (.tableswitch dflt lo hi offs, len)) (h : x.toInt < lo ∨ hi < x.toInt) (ht : (pc : Int) + dflt = (tgt : Int)) (k : Go p l e R s m args below meth c Q z G nv c0 s0 n0 ad0 (tgt) (ls) (st) (σ)) : Go p l e R s m args below meth c Q z G nv c0 s0 n0 ad0 (pc) (ls) (.int x :: st) (σ) := by
  intro ad H locs lsM cells slots h0 h1 hw hr hc hs
  exact lv_tableOut hx hb hd h ht (k ad H locs lsM cells slots h0 h1 hw.tl hr hc hs)
theorem g_tabIn (hx : p.tables.exec = Jvm.exec) (hb : c.code = cc) {dflt lo hi : Int} {offs : Array Int} {len : Nat} {x : Int32} {off : Int} {tgt : Nat} (hd : decode cc pc = .ok (.tableswitch dflt lo hi offs, len)) (h : ¬ (x.toInt < lo ∨ hi < x.toInt)) (ho : offs[(x.toInt - lo).toNat]? = some off) (ht : (pc : Int) + off = (tgt : Int)) (k : Go p l e R s m args below meth c Q z G nv c0 s0 n0 ad0 (tgt) (ls) (st) (σ)) : Go p l e R s m args below meth c Q z G nv c0 s0 n0 ad0 (pc) (ls) (.int x :: st) (σ) := by
  intro ad H locs lsM cells slots h0 h1 hw hr hc hs
  exact lv_tableIn hx hb hd (fun q => h (Or.inl q)) (fun q => h (Or.inr q)) ho ht (k ad H locs lsM cells slots h0 h1 hw.tl hr hc hs)
theorem g_look (hx : p.tables.exec = Jvm.exec) (hb : c.code = cc) {dflt : Int} {ps : Array (Int × Int)} {len : Nat} {x : Int32} {tgt : Nat} (hd : decode cc pc = .ok (.lookupswitch dflt ps, len)) (hp : (ps.toList.zip (ps.toList.drop 1)).all (fun (a, next) => a.1 < next.1) = true) (ht : (pc : Int) + Op.lookupswitch.offset ps.toList dflt x.toInt = (tgt : Int)) (k : Go p l e R s m args below meth c Q z G nv c0 s0 n0 ad0 (tgt) (ls) (st) (σ)) : Go p l e R s m args below meth c Q z G nv c0 s0 n0 ad0 (pc) (ls) (.int x :: st) (σ) := by
  intro ad H locs lsM cells slots h0 h1 hw hr hc hs
  exact lv_lookup hx hb hd hp rfl ht (k ad H locs lsM cells slots h0 h1 hw.tl hr hc hs)
end SNDB
