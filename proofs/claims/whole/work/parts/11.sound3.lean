/-! ===== fields, arrays, new cells, texts ===== -/
section SNDC
theorem kd_lt {a q x : Nat} (h : kd a = (q, x)) (hq : q < 104) : a < 1000 := by
  unfold kd at h
  cases h1 : Nat.beq a 3000 with
  | true => rw [h1] at h; simp only [cond_true, Prod.mk.injEq] at h; omega
  | false =>
    rw [h1] at h; simp only [cond_false] at h
    cases h2 : Nat.ble 2000 a with
    | true => rw [h2] at h; simp only [cond_true, Prod.mk.injEq] at h; omega
    | false =>
      rw [h2] at h; simp only [cond_false] at h
      cases h3 : Nat.ble 1000 a with
      | true => rw [h3] at h; simp only [cond_true, Prod.mk.injEq] at h; omega
      | false =>
        rcases Nat.lt_or_ge a 1000 with g | g
        · exact g
        · rw [Nat.ble_eq_true_of_le g] at h3; cases h3
theorem wf_lt {n a q x : Nat} (h : kd a = (q, x)) (hq : q < 104) (hv : okv n (.ref a)) : a < n := by
  have h2 := kd_lt h hq
  rcases hv with g | g
  · exact g
  · exact absurd h2 (Nat.not_lt.mpr g)
theorem okC_at {ci : Nat} (h : ci < 10) : own ci = pcN ci ∧ (∀ k, k < nf ci → u_lay (pcN ci) (pcT ci) k ∈ TB ∧ (pcT ci k).1 = pcN ci ∧ (pcT ci k).2.2.2 = (ft ci k).2 ∧ parseFieldDescriptor (pcT ci k).2.2.1 = some (pcY ci k) ∧ okY ci k = true ∧ ∀ j, j < nf ci → k ≠ j → (pcT ci k).2.1 ≠ (pcT ci j).2.1) ∧ (Cond.instantiable (pcN ci) (nf ci)) ∈ TB ∧ (Cond.initialized (pcN ci)) ∈ TB := by
  have h1 := List.all_eq_true.mp okC_all ci (List.mem_range.mpr h)
  simp only [okC, Bool.and_eq_true, decide_eq_true_eq, List.all_eq_true, List.mem_range, Bool.or_eq_true] at h1
  obtain ⟨⟨⟨h1, h2⟩, h3⟩, h4⟩ := h1
  refine ⟨h1, fun k hk => ?_, hasT_tb h3, hasT_tb h4⟩
  obtain ⟨⟨⟨⟨⟨a1, a2⟩, a3⟩, a4⟩, a5⟩, a6⟩ := h2 k hk
  exact ⟨hasT_tb a1, a2, a3, a4, a5, fun j hj hkj => (a6 j hj).resolve_left hkj⟩
theorem u_in {ci : Nat} (h : ci < 10) : ∀ w ∈ u_ws (pcN ci) (pcT ci) (nf ci), w ∈ TB := by
  intro w hw
  unfold u_ws at hw
  obtain ⟨k, hk, rfl⟩ := List.mem_map.mp hw
  exact ((okC_at h).2.1 k (List.mem_range.mp hk)).1
variable {G : pG} {ad ad' : Nat → Nat} {σ σ' : pS} {nv : Value}
theorem ent_obj {a ci : Nat} (h : ci < 10) (hk : kd a = (ci, 0)) : ent G ad σ a = .inr (ci, entO ad σ ci a) := by
  unfold ent; rw [hk]; exact entK_obj h
theorem ent_I {a n : Nat} (hk : kd a = (100, n)) : ent G ad σ a = .inl (G.2.1, n, .inl (gI σ a)) := by
  unfold ent; rw [hk]; rfl
theorem ent_J {a n : Nat} (hk : kd a = (101, n)) : ent G ad σ a = .inl (G.2.2.1, n, .inr (.inl (gJ σ a))) := by
  unfold ent; rw [hk]; rfl
theorem ent_S {a n : Nat} (hk : kd a = (102, n)) : ent G ad σ a = .inl (G.2.2.2, n, .inr (.inr (.inr (.inr (fun i => (gR σ a i).map ad))))) := by
  unfold ent; rw [hk]; rfl
/-- what a field holds -/
def fvP (σ : pS) (ci a j : Nat) : Value := match (ft ci j).1 with
  | 0 => .int (gI σ a j)
  | 1 => .int (gI σ a j)
  | 2 => .long (gJ σ a j)
  | _ => va_rf (gR σ a j)
theorem em_rf {r : Option Nat} : em ad nv (va_rf r) = va_rf (r.map ad) := by cases r <;> rfl
theorem em_fvP {ci a j : Nat} : em ad nv (fvP σ ci a j) = fvv ad σ ci a j := by
  unfold fvP fvv
  generalize (ft ci j).1 = x
  match x with
  | 0 => rfl
  | 1 => rfl
  | 2 => rfl
  | n + 3 => exact em_rf
theorem ent_ext {n b : Nat} (h : ∀ a, (a < n ∨ 1000 ≤ a) → ad' a = ad a) (hr : ∀ i r, gR σ b i = some r → r < n ∨ 1000 ≤ r) : ent G ad' σ b = ent G ad σ b := by
  have hm : ∀ i, (gR σ b i).map ad' = (gR σ b i).map ad := by
    intro i
    cases hg : gR σ b i with
    | none => rfl
    | some r => show some (ad' r) = some (ad r); rw [h r (hr i r hg)]
  have hO : ∀ ci, entO ad' σ ci b = entO ad σ ci b := by
    intro ci
    unfold entO
    congr 1
    funext j
    unfold fvv
    rw [hm j]
  unfold ent
  generalize kd b = q
  obtain ⟨ci, n⟩ := q
  unfold entK
  split <;> simp_all
theorem wsO_new {m q : Nat} (hn : pn σ < 1000) (hr : ∀ a i r, gR σ a i = some r → r < pn σ ∨ 1000 ≤ r) (h : ∀ a, a ≠ pn σ → ad' a = ad a) (hq : ad' (pn σ) = q) : wsO G ad' (sN σ m) = wsO G ad σ ++ [(q, ent G ad' (sN σ m) (pn σ))] := by
  have hp : pn (sN σ m) = pn σ + 1 := rfl
  unfold wsO
  rw [hp, List.range_succ, List.map_append, List.map_singleton, hq]
  congr 1
  apply List.map_congr_left
  intro b hb
  have hb' : b < pn σ := List.mem_range.mp hb
  have hne : b ≠ pn σ := by omega
  have e1 : ent G ad' (sN σ m) b = ent G ad' σ b := ent_eq (a := 0) (by funext j; show (if b = pn σ then _ else _) = _; rw [if_neg hne]) (by funext j; show (if b = pn σ then _ else _) = _; rw [if_neg hne]) (by funext j; show (if b = pn σ then _ else _) = _; rw [if_neg hne])
  have e2 : ent G ad' σ b = ent G ad σ b := ent_ext (n := pn σ) (fun a ha => h a (by omega)) (fun i r hg => hr b i r hg)
  rw [h b hne, e1, e2]
theorem tyG_I : (tyG G)[0]? = some (G.2.1, .int) := rfl
theorem tyG_J : (tyG G)[1]? = some (G.2.2.1, .long) := rfl
theorem tyG_S : (tyG G)[2]? = some (G.2.2.2, .object "java/lang/String") := rfl
/-- what is there besides the store: texts, two statics, what a throw needs -/
def EnvM (z : Nat) (nv : Value) (sc : Nat × (Nat → Int32)) (ad : Nat → Nat) (s : State) : Prop :=
  (∀ i, i < 26 → va_O "java/lang/String" (ad (1000 + i)) (fun q => z ≤ q) s s.heap ∧ va_OF "java/lang/String" "code\x72" "B" (.int 0) (ad (1000 + i)) (fun q => z ≤ q) s s.heap ∧ va_OF "java/lang/String" "value" "[B" (.ref (ad (2000 + i))) (ad (1000 + i)) (fun q => z ≤ q) s s.heap ∧ va_T .byte (ad (2000 + i)) (slen i) (fun j => .int (sby i j)) (fun q => z ≤ q) s s.heap) ∧
  (∀ c i n x, plC c i = some (2, n, x) → vk_R (own c) i (strL.getD n.toNat "") (ad (1000 + n.toNat)) s) ∧
  va_Z "java/lang/String" "COMPACT_STRINGS" "Z" (.int 1) (fun q => z ≤ q) s s.heap ∧
  va_Z "jdk/internal/util/Preconditions" "SIOOBE_FORMATTER" "Ljava/util/function/BiFunction;" nv (fun q => z ≤ q) s s.heap ∧
  vx_Zq Bundle.tN "UNASSIGNED_STACK" Bundle.steD (fun q => z ≤ q) s s.heap ∧ vx_Zq Bundle.tN "SUPPRESSED_SENTINEL" Bundle.listD (fun q => z ≤ q) s s.heap ∧
  va_Nc "java/lang/IllegalArgumentException" "java/util/NoSuchElementException" s ∧ va_Nc "java/util/NoSuchElementException" "java/lang/IllegalArgumentException" s ∧
  (∀ N ∈ (["java/lang/RuntimeException", "java/lang/Exception", "java/lang/Throwable"] : List String), (Cond.declares (Bundle.initS N)).before #[] s = true) ∧
  va_X (ad 3000) sc.1 sc.2 s s.heap ∧ ad 3000 < s.heap.size ∧ ¬ z ≤ ad 3000 ∧
  (∀ c i b n k x, plM c i = some (b, n, k, x) → (k = 3 ∨ k = 9) → va_Nw (.methodLinkNest (own c) i (yM b) "HedgeWants") s) ∧ va_AO "java/lang/String" s
theorem EnvM.ext {z : Nat} {s : State} {sc : Nat × (Nat → Int32)} (h : EnvM z nv sc ad s) (hE : ∀ a, 1000 ≤ a → ad' a = ad a) : EnvM z nv sc ad' s := by
  obtain ⟨h1, h2, h3, h4, h5, h6, h7, h8, h9, h10, h11, h12, h13⟩ := h
  refine ⟨fun i hi => ?_, fun c i n x hp => ?_, h3, h4, h5, h6, h7, h8, h9, by rw [hE _ (by omega)]; exact h10, by rw [hE _ (by omega)]; exact h11, by rw [hE _ (by omega)]; exact h12, h13⟩
  · rw [hE _ (by omega), hE _ (by omega)]
    exact h1 i hi
  · rw [hE _ (by omega)]
    exact h2 c i n x hp
set_option maxRecDepth 100000 in
theorem kdL_all : (List.range 99).all (fun a => !(Nat.beq (kdL.getD a (999, 0)).1 200) && !(Nat.beq (kdL.getD a (999, 0)).1 203) && !(Nat.beq (kdL.getD a (999, 0)).1 104)) = true := by decide +kernel
theorem kdL_len : kdL.length = 99 := rfl
theorem kdL_no (a : Nat) (h : a < kdL.length) : (kdL.getD a (999, 0)).1 ≠ 200 := by
  have := List.all_eq_true.mp kdL_all a (List.mem_range.mpr (by rw [kdL_len] at h; exact h))
  intro e
  rw [e] at this
  simp at this
theorem kdL_no4 (a : Nat) (h : a < kdL.length) : (kdL.getD a (999, 0)).1 ≠ 104 := by
  have := List.all_eq_true.mp kdL_all a (List.mem_range.mpr (by rw [kdL_len] at h; exact h))
  intro e
  rw [e] at this
  simp at this
theorem kdL_no2 (a : Nat) (h : a < kdL.length) : (kdL.getD a (999, 0)).1 ≠ 203 := by
  have := List.all_eq_true.mp kdL_all a (List.mem_range.mpr (by rw [kdL_len] at h; exact h))
  intro e
  rw [e] at this
  simp at this
theorem kd_txt {q : Nat} (h : (kd q).1 = 200 ∧ (kd q).2 < 26) : ∃ t, t < 26 ∧ q = 1000 + t := by
  unfold kd at h
  cases h1 : Nat.beq q 3000 with
  | true => rw [h1] at h; simp only [cond_true] at h; omega
  | false =>
    rw [h1] at h; simp only [cond_false] at h
    cases h2 : Nat.ble 2000 q with
    | true => rw [h2] at h; simp only [cond_true] at h; omega
    | false =>
      rw [h2] at h; simp only [cond_false] at h
      cases h3 : Nat.ble 1000 q with
      | true =>
        rw [h3] at h; simp only [cond_true] at h
        have := Nat.le_of_ble_eq_true h3
        exact ⟨q - 1000, h.2, by omega⟩
      | false =>
        rw [h3] at h; simp only [cond_false] at h
        have h9 : ∀ a, (kdL.getD a (999, 0)).1 ≠ 200 := by
          intro a
          rcases Nat.lt_or_ge a kdL.length with g | g
          · have := kdL_no a g
            exact this
          · rw [List.getD_eq_getElem?_getD, List.getElem?_eq_none g]; decide
        exact absurd h.1 (h9 q)
theorem kd_byt {q t : Nat} (h : kd q = (203, t)) : q = 2000 + t := by
  unfold kd at h
  cases h1 : Nat.beq q 3000 with
  | true => rw [h1] at h; simp only [cond_true] at h; simp only [Prod.mk.injEq] at h; omega
  | false =>
    rw [h1] at h; simp only [cond_false] at h
    cases h2 : Nat.ble 2000 q with
    | true =>
      rw [h2] at h; simp only [cond_true, Prod.mk.injEq] at h
      have := Nat.le_of_ble_eq_true h2
      omega
    | false =>
      rw [h2] at h; simp only [cond_false] at h
      cases h3 : Nat.ble 1000 q with
      | true => rw [h3] at h; simp only [cond_true] at h; simp only [Prod.mk.injEq] at h; omega
      | false =>
        rw [h3] at h; simp only [cond_false] at h
        rcases Nat.lt_or_ge q kdL.length with g | g
        · have := kdL_no2 q g
          rw [h] at this
          exact absurd rfl this
        · rw [List.getD_eq_getElem?_getD, List.getElem?_eq_none g] at h; cases h
theorem kd_scr {a x : Nat} (h : kd a = (104, x)) : a = 3000 := by
  unfold kd at h
  cases h1 : Nat.beq a 3000 with
  | true => exact Nat.eq_of_beq_eq_true h1
  | false =>
    rw [h1] at h; simp only [cond_false] at h
    cases h2 : Nat.ble 2000 a with
    | true => rw [h2] at h; simp only [cond_true, Prod.mk.injEq] at h; omega
    | false =>
      rw [h2] at h; simp only [cond_false] at h
      cases h3 : Nat.ble 1000 a with
      | true => rw [h3] at h; simp only [cond_true, Prod.mk.injEq] at h; omega
      | false =>
        rw [h3] at h; simp only [cond_false] at h
        rcases Nat.lt_or_ge a kdL.length with g | g
        · have := kdL_no4 a g
          rw [h] at this
          exact absurd rfl this
        · rw [List.getD_eq_getElem?_getD, List.getElem?_eq_none g] at h; cases h
theorem vx_txt {E : String} {a z : Nat} {s : State} {H : Heap} {locs : List Loc} (h : va_O E a (fun q => z ≤ q) s s.heap) (hS : va_S (fun q => z ≤ q) s.heap H locs) : ∃ cell : Cell, H[a]? = some cell ∧ cell.vm.isStatics = false ∧ s.vm.findClass E = some cell.cls := by
  obtain ⟨cell, h1, h2, h3, h4⟩ := h
  exact ⟨cell, by rw [hS.2.1 a (Array.getElem?_eq_some_iff.mp h1).1 h4]; exact h1, h2, h3⟩
theorem assignable_self (vm : Vm) (c : ClassId) : vm.assignable c c = true := by
  show vm.assignableAux _ c c = true
  unfold Vm.assignableAux
  simp
theorem plC_I {c i : Nat} {n : Int} {x : Nat} (h : plC c i = some (0, n, x)) : (Cond.constant (own c) i (Int32.ofInt n)) ∈ TB := hasT_tb (plC_ok h)
theorem plC_J {c i : Nat} {n : Int} {x : Nat} (h : plC c i = some (1, n, x)) : (Cond.constantLong (own c) i (Int64.ofInt n)) ∈ TB := hasT_tb (plC_ok h)
set_option maxRecDepth 100000 in
theorem tw_value : (Cond.fieldLink "java/lang/String" 9 "java/lang/String" "value" "[B") ∈ TB := tq_tb (i := 8126) rfl (by decide +kernel)
set_option maxRecDepth 100000 in
theorem tw_coder : (Cond.fieldLink "java/lang/String" 15 "java/lang/String" "code\x72" "B") ∈ TB := tq_tb (i := 8127) rfl (by decide +kernel)
set_option maxRecDepth 100000 in
theorem tw_compact : (Cond.fieldLink "java/lang/String" 38 "java/lang/String" "COMPACT_STRINGS" "Z") ∈ TB := tq_tb (i := 2112) rfl (by decide +kernel)
set_option maxRecDepth 100000 in
theorem tw_sioobe : (Cond.fieldLink "java/lang/String" 1053 "jdk/internal/util/Preconditions" "SIOOBE_FORMATTER" "Ljava/util/function/BiFunction;") ∈ TB := tq_tb (i := 2128) rfl (by decide +kernel)
set_option maxRecDepth 100000 in
theorem tw_strcl : (Cond.classLink "HedgeWantsModel" 9 "java/lang/String") ∈ TB := tq_tb (i := 5168) rfl (by decide +kernel)
theorem okv.mono {n n' : Nat} (h : n ≤ n') {v : Value} (hv : okv n v) : okv n' v := by
  cases v with
  | ref a =>
    rcases hv with g | g
    · exact Or.inl (Nat.lt_of_lt_of_le g h)
    · exact Or.inr g
  | double x => exact hv.elim
  | _ => trivial
theorem WF.new {ls st : List Value} (h : WF σ ls st) (hn : pn σ < 1000) (m : Nat) : WF (sN σ m) ls (.ref (pn σ) :: st) := by
  have hle : pn σ ≤ pn (sN σ m) := Nat.le_succ _
  refine ⟨by show pn σ + 1 ≤ 1000; omega, fun v hv => (h.2.1 v hv).mono hle, List.forall_mem_cons.mpr ⟨Or.inl (by show pn σ < pn σ + 1; omega), fun v hv => (h.2.2.1 v hv).mono hle⟩, fun a i q hq => ?_⟩
  have hq' : (if a = pn σ then none else gR σ a i) = some q := hq
  split at hq'
  · cases hq'
  · rcases h.2.2.2 a i q hq' with g | g
    · exact Or.inl (Nat.lt_of_lt_of_le g hle)
    · exact Or.inr g
variable {p : Program} {l : Launch} {e : Jvm.Env} {R : Room} {s : State} {m : MethodId} {args : Array Value} {below : List Frame} {meth : Method} {c : Code} {Q : State → Prop} {z : Nat} {c0 s0 n0 : Nat} {ad0 : Nat → Nat} {pc : Nat} {ls st : List Value} {cc : ByteArray} {sc : Nat × (Nat → Int32)}
theorem g_getO (hx : p.tables.exec = Jvm.exec) (hb : c.code = cc) (hts : ∀ w ∈ TB, w.before args s = true) {o : Nat} (hown : s.vm.findClass (own o) = some m.cls) (hK : va_K G.1 pCls (tyG G) s) {i ci f x a : Nat} (hp : plF o i = some (ci, f, x)) (hk : kd a = (ci, 0)) (hd : decode cc pc = .ok (.getfield i, 3)) (k : Go p l e R s m args below meth c Q z G nv c0 s0 n0 ad0 (pc + 3) (ls) (fvP σ ci a f :: st) (σ)) : Go p l e R s m args below meth c Q z G nv c0 s0 n0 ad0 (pc) (ls) (.ref a :: st) (σ) := by
  intro ad H locs lsM cells slots h0 h1 hw hr hc hs
  obtain ⟨h10, hf, hl⟩ := plF_ok hp
  have ha := wf_lt hk (by omega) hw.hd
  have hD := (okC_at h10).2.1 f hf
  refine va_get hx hb (Ts := TB) hts (u_in h10) hown hK hr.1 a (ci := ci) (C := pcN ci) (T := pcT ci) (N := nf ci) (by rw [wsO_at ha, ent_obj h10 hk]) (pCls_at ci h10) f hf (ref := pcN ci) (hts _ hl) (fun y hy => by rw [hD.2.1] at hy; exact hy) (entO_get hf) hd ?_
  have := k ad H locs lsM cells slots h0 h1 (hw.tl.ps ?_) hr hc hs
  · rw [List.map_cons, em_fvP] at this; exact this
  · unfold fvP
    split
    · trivial
    · trivial
    · trivial
    · cases hg : gR σ a f with
      | none => trivial
      | some q => exact hw.2.2.2 _ _ _ hg
theorem g_putI (hx : p.tables.exec = Jvm.exec) (hb : c.code = cc) (hts : ∀ w ∈ TB, w.before args s = true) {o : Nat} (hown : s.vm.findClass (own o) = some m.cls) (hK : va_K G.1 pCls (tyG G) s) {i ci f y a : Nat} {x : Int32} (hp : plF o i = some (ci, f, y)) (hk : kd a = (ci, 0)) (hf0 : (ft ci f).1 = 0) (hfin : (ft ci f).2 = false ∨ meth.name = "<init>" ∧ o = ci) (hd : decode cc pc = .ok (.putfield i, 3)) (k : Go p l e R s m args below meth c Q z G nv c0 s0 n0 ad0 (pc + 3) (ls) (st) (sI σ a f x)) : Go p l e R s m args below meth c Q z G nv c0 s0 n0 ad0 (pc) (ls) (.int x :: .ref a :: st) (σ) := by
  intro ad H locs lsM cells slots h0 h1 hw hr hc hs
  obtain ⟨h10, hf, hl⟩ := plF_ok hp
  have ha := wf_lt hk (by omega) hw.tl.hd
  have hD := (okC_at h10).2.1 f hf
  have hy := hD.2.2.2.2.1
  unfold okY at hy
  rw [hf0] at hy
  have hnm : ∀ a, a < nf ci → ∀ b, b < nf ci → a ≠ b → (pcT ci a).2.1 ≠ (pcT ci b).2.1 := fun a ha b hb hab => ((okC_at h10).2.1 a ha).2.2.2.2.2 b hb hab
  have hty : ∀ k, k < nf ci → parseFieldDescriptor (pcT ci k).2.2.1 = some (pcY ci k) := fun k hk => ((okC_at h10).2.1 k hk).2.2.2.1
  have hyy : pcY ci f = .int := by simpa using hy
  have hn : narrow (pcY ci f) (.int x) = .int x := by rw [hyy]; rfl
  have hfit : fits (pcY ci f) (.int x) = true := by rw [hyy]; rfl
  have hE : wsO G ad (sI σ a f x) = (wsO G ad σ).set a (ad a, .inr (ci, (entO ad σ ci a).set f (.int x))) := by
    rw [wsO_set (σ := σ) (σ' := sI σ a f x) (a := a) rfl (fun b hb => ent_sI hb), ent_obj h10 hk, entO_sI (Or.inl hf0)]
  have fin : ∀ (H1 : Heap) (locs1 : List Loc), va_P G.1 pCls ((wsO G ad σ).set a (ad a, .inr (ci, (entO ad σ ci a).set f (.int x)))) H1 → va_D (fun q => z ≤ q) ((wsO G ad σ).set a (ad a, .inr (ci, (entO ad σ ci a).set f (.int x)))) → va_S (fun q => z ≤ q) s.heap H1 locs1 → W p l e R s m args below meth c H1 locs1 cells slots Q (F0 m (pc + 3) lsM (st.map (em ad nv))) := fun H1 locs1 hP1 hD1 hS1 => k ad H1 locs1 lsM cells slots h0 h1 (hw.tl.tl.sI _ _ _) ⟨by rw [hE]; exact hP1, by rw [hE]; exact hD1, hS1, hr.2.2.2⟩ hc hs
  cases hfi : (ft ci f).2 with
  | false => exact va_put hx hb (Ts := TB) hts (u_in h10) (pcY ci) hty hnm hown hK hr.1 hr.2.1 hr.2.2.1 a (ci := ci) (C := pcN ci) (T := pcT ci) (N := nf ci) (by rw [wsO_at ha, ent_obj h10 hk]) (pCls_at ci h10) f hf (ref := pcN ci) (hts _ hl) (fun y hy => by rw [hD.2.1] at hy; exact hy) (by rw [hD.2.2.1]; exact hfi) hD.2.2.2.1 hn hfit (by rw [entO_len]; exact hf) hd fin
  | true =>
    have h9 := hfin.resolve_left (by rw [hfi]; intro q; cases q)
    exact va_putF hx hb (Ts := TB) hts (u_in h10) (pcY ci) hty hnm hown hK hr.1 hr.2.1 hr.2.2.1 a (ci := ci) (C := pcN ci) (T := pcT ci) (N := nf ci) (by rw [wsO_at ha, ent_obj h10 hk]) (pCls_at ci h10) f hf (ref := pcN ci) (hts _ hl) (fun y hy => by rw [hD.2.1] at hy; exact hy) (by rw [hD.2.2.1]; exact hfi) h9.1 (by rw [hD.2.1, h9.2]; exact (okC_at h10).1.symm) hD.2.2.2.1 hn hfit (by rw [entO_len]; exact hf) hd fin
theorem g_putZ (hx : p.tables.exec = Jvm.exec) (hb : c.code = cc) (hts : ∀ w ∈ TB, w.before args s = true) {o : Nat} (hown : s.vm.findClass (own o) = some m.cls) (hK : va_K G.1 pCls (tyG G) s) {i ci f y a : Nat} {x : Int32} (hp : plF o i = some (ci, f, y)) (hk : kd a = (ci, 0)) (hf0 : (ft ci f).1 = 1) (hv : x = 0 ∨ x = 1) (hfin : (ft ci f).2 = false ∨ meth.name = "<init>" ∧ o = ci) (hd : decode cc pc = .ok (.putfield i, 3)) (k : Go p l e R s m args below meth c Q z G nv c0 s0 n0 ad0 (pc + 3) (ls) (st) (sI σ a f x)) : Go p l e R s m args below meth c Q z G nv c0 s0 n0 ad0 (pc) (ls) (.int x :: .ref a :: st) (σ) := by
  intro ad H locs lsM cells slots h0 h1 hw hr hc hs
  obtain ⟨h10, hf, hl⟩ := plF_ok hp
  have ha := wf_lt hk (by omega) hw.tl.hd
  have hD := (okC_at h10).2.1 f hf
  have hy := hD.2.2.2.2.1
  unfold okY at hy
  rw [hf0] at hy
  have hnm : ∀ a, a < nf ci → ∀ b, b < nf ci → a ≠ b → (pcT ci a).2.1 ≠ (pcT ci b).2.1 := fun a ha b hb hab => ((okC_at h10).2.1 a ha).2.2.2.2.2 b hb hab
  have hty : ∀ k, k < nf ci → parseFieldDescriptor (pcT ci k).2.2.1 = some (pcY ci k) := fun k hk => ((okC_at h10).2.1 k hk).2.2.2.1
  have hyy : pcY ci f = .boolean := by simpa using hy
  have hn : narrow (pcY ci f) (.int x) = .int x := by rw [hyy]; rcases hv with rfl | rfl <;> rfl
  have hfit : fits (pcY ci f) (.int x) = true := by rw [hyy]; rcases hv with rfl | rfl <;> rfl
  have hE : wsO G ad (sI σ a f x) = (wsO G ad σ).set a (ad a, .inr (ci, (entO ad σ ci a).set f (.int x))) := by
    rw [wsO_set (σ := σ) (σ' := sI σ a f x) (a := a) rfl (fun b hb => ent_sI hb), ent_obj h10 hk, entO_sI (Or.inr hf0)]
  have fin : ∀ (H1 : Heap) (locs1 : List Loc), va_P G.1 pCls ((wsO G ad σ).set a (ad a, .inr (ci, (entO ad σ ci a).set f (.int x)))) H1 → va_D (fun q => z ≤ q) ((wsO G ad σ).set a (ad a, .inr (ci, (entO ad σ ci a).set f (.int x)))) → va_S (fun q => z ≤ q) s.heap H1 locs1 → W p l e R s m args below meth c H1 locs1 cells slots Q (F0 m (pc + 3) lsM (st.map (em ad nv))) := fun H1 locs1 hP1 hD1 hS1 => k ad H1 locs1 lsM cells slots h0 h1 (hw.tl.tl.sI _ _ _) ⟨by rw [hE]; exact hP1, by rw [hE]; exact hD1, hS1, hr.2.2.2⟩ hc hs
  cases hfi : (ft ci f).2 with
  | false => exact va_put hx hb (Ts := TB) hts (u_in h10) (pcY ci) hty hnm hown hK hr.1 hr.2.1 hr.2.2.1 a (ci := ci) (C := pcN ci) (T := pcT ci) (N := nf ci) (by rw [wsO_at ha, ent_obj h10 hk]) (pCls_at ci h10) f hf (ref := pcN ci) (hts _ hl) (fun y hy => by rw [hD.2.1] at hy; exact hy) (by rw [hD.2.2.1]; exact hfi) hD.2.2.2.1 hn hfit (by rw [entO_len]; exact hf) hd fin
  | true =>
    have h9 := hfin.resolve_left (by rw [hfi]; intro q; cases q)
    exact va_putF hx hb (Ts := TB) hts (u_in h10) (pcY ci) hty hnm hown hK hr.1 hr.2.1 hr.2.2.1 a (ci := ci) (C := pcN ci) (T := pcT ci) (N := nf ci) (by rw [wsO_at ha, ent_obj h10 hk]) (pCls_at ci h10) f hf (ref := pcN ci) (hts _ hl) (fun y hy => by rw [hD.2.1] at hy; exact hy) (by rw [hD.2.2.1]; exact hfi) h9.1 (by rw [hD.2.1, h9.2]; exact (okC_at h10).1.symm) hD.2.2.2.1 hn hfit (by rw [entO_len]; exact hf) hd fin
theorem g_putJ (hx : p.tables.exec = Jvm.exec) (hb : c.code = cc) (hts : ∀ w ∈ TB, w.before args s = true) {o : Nat} (hown : s.vm.findClass (own o) = some m.cls) (hK : va_K G.1 pCls (tyG G) s) {i ci f y a : Nat} {x : Int64} (hp : plF o i = some (ci, f, y)) (hk : kd a = (ci, 0)) (hf0 : (ft ci f).1 = 2) (hfin : (ft ci f).2 = false ∨ meth.name = "<init>" ∧ o = ci) (hd : decode cc pc = .ok (.putfield i, 3)) (k : Go p l e R s m args below meth c Q z G nv c0 s0 n0 ad0 (pc + 3) (ls) (st) (sJ σ a f x)) : Go p l e R s m args below meth c Q z G nv c0 s0 n0 ad0 (pc) (ls) (.long x :: .ref a :: st) (σ) := by
  intro ad H locs lsM cells slots h0 h1 hw hr hc hs
  obtain ⟨h10, hf, hl⟩ := plF_ok hp
  have ha := wf_lt hk (by omega) hw.tl.hd
  have hD := (okC_at h10).2.1 f hf
  have hy := hD.2.2.2.2.1
  unfold okY at hy
  rw [hf0] at hy
  have hnm : ∀ a, a < nf ci → ∀ b, b < nf ci → a ≠ b → (pcT ci a).2.1 ≠ (pcT ci b).2.1 := fun a ha b hb hab => ((okC_at h10).2.1 a ha).2.2.2.2.2 b hb hab
  have hty : ∀ k, k < nf ci → parseFieldDescriptor (pcT ci k).2.2.1 = some (pcY ci k) := fun k hk => ((okC_at h10).2.1 k hk).2.2.2.1
  have hyy : pcY ci f = .long := by simpa using hy
  have hn : narrow (pcY ci f) (.long x) = .long x := by rw [hyy]; rfl
  have hfit : fits (pcY ci f) (.long x) = true := by rw [hyy]; rfl
  have hE : wsO G ad (sJ σ a f x) = (wsO G ad σ).set a (ad a, .inr (ci, (entO ad σ ci a).set f (.long x))) := by
    rw [wsO_set (σ := σ) (σ' := sJ σ a f x) (a := a) rfl (fun b hb => ent_sJ hb), ent_obj h10 hk, entO_sJ hf0]
  have fin : ∀ (H1 : Heap) (locs1 : List Loc), va_P G.1 pCls ((wsO G ad σ).set a (ad a, .inr (ci, (entO ad σ ci a).set f (.long x)))) H1 → va_D (fun q => z ≤ q) ((wsO G ad σ).set a (ad a, .inr (ci, (entO ad σ ci a).set f (.long x)))) → va_S (fun q => z ≤ q) s.heap H1 locs1 → W p l e R s m args below meth c H1 locs1 cells slots Q (F0 m (pc + 3) lsM (st.map (em ad nv))) := fun H1 locs1 hP1 hD1 hS1 => k ad H1 locs1 lsM cells slots h0 h1 (hw.tl.tl.sJ _ _ _) ⟨by rw [hE]; exact hP1, by rw [hE]; exact hD1, hS1, hr.2.2.2⟩ hc hs
  cases hfi : (ft ci f).2 with
  | false => exact va_put hx hb (Ts := TB) hts (u_in h10) (pcY ci) hty hnm hown hK hr.1 hr.2.1 hr.2.2.1 a (ci := ci) (C := pcN ci) (T := pcT ci) (N := nf ci) (by rw [wsO_at ha, ent_obj h10 hk]) (pCls_at ci h10) f hf (ref := pcN ci) (hts _ hl) (fun y hy => by rw [hD.2.1] at hy; exact hy) (by rw [hD.2.2.1]; exact hfi) hD.2.2.2.1 hn hfit (by rw [entO_len]; exact hf) hd fin
  | true =>
    have h9 := hfin.resolve_left (by rw [hfi]; intro q; cases q)
    exact va_putF hx hb (Ts := TB) hts (u_in h10) (pcY ci) hty hnm hown hK hr.1 hr.2.1 hr.2.2.1 a (ci := ci) (C := pcN ci) (T := pcT ci) (N := nf ci) (by rw [wsO_at ha, ent_obj h10 hk]) (pCls_at ci h10) f hf (ref := pcN ci) (hts _ hl) (fun y hy => by rw [hD.2.1] at hy; exact hy) (by rw [hD.2.2.1]; exact hfi) h9.1 (by rw [hD.2.1, h9.2]; exact (okC_at h10).1.symm) hD.2.2.2.1 hn hfit (by rw [entO_len]; exact hf) hd fin
theorem g_putR (hx : p.tables.exec = Jvm.exec) (hb : c.code = cc) (hts : ∀ w ∈ TB, w.before args s = true) {o : Nat} (hown : s.vm.findClass (own o) = some m.cls) (hK : va_K G.1 pCls (tyG G) s) {i ci f y a : Nat} {x : Nat} (hp : plF o i = some (ci, f, y)) (hk : kd a = (ci, 0)) (hf0 : (ft ci f).1 = 3) (hfin : (ft ci f).2 = false ∨ meth.name = "<init>" ∧ o = ci) (hd : decode cc pc = .ok (.putfield i, 3)) (k : Go p l e R s m args below meth c Q z G nv c0 s0 n0 ad0 (pc + 3) (ls) (st) (sR σ a f (some x))) : Go p l e R s m args below meth c Q z G nv c0 s0 n0 ad0 (pc) (ls) (.ref x :: .ref a :: st) (σ) := by
  intro ad H locs lsM cells slots h0 h1 hw hr hc hs
  obtain ⟨h10, hf, hl⟩ := plF_ok hp
  have ha := wf_lt hk (by omega) hw.tl.hd
  have hD := (okC_at h10).2.1 f hf
  have hy := hD.2.2.2.2.1
  unfold okY at hy
  rw [hf0] at hy
  have hnm : ∀ a, a < nf ci → ∀ b, b < nf ci → a ≠ b → (pcT ci a).2.1 ≠ (pcT ci b).2.1 := fun a ha b hb hab => ((okC_at h10).2.1 a ha).2.2.2.2.2 b hb hab
  have hty : ∀ k, k < nf ci → parseFieldDescriptor (pcT ci k).2.2.1 = some (pcY ci k) := fun k hk => ((okC_at h10).2.1 k hk).2.2.2.1
  have hn : narrow (pcY ci f) (.ref (ad x)) = .ref (ad x) := by cases pcY ci f <;> rfl
  have hfit : fits (pcY ci f) (.ref (ad x)) = true := by cases hq : pcY ci f <;> rw [hq] at hy <;> first | rfl | cases hy
  have hE : wsO G ad (sR σ a f (some x)) = (wsO G ad σ).set a (ad a, .inr (ci, (entO ad σ ci a).set f (.ref (ad x)))) := by
    rw [wsO_set (σ := σ) (σ' := sR σ a f (some x)) (a := a) rfl (fun b hb => ent_sR hb), ent_obj h10 hk, entO_sR hf0]
  have fin : ∀ (H1 : Heap) (locs1 : List Loc), va_P G.1 pCls ((wsO G ad σ).set a (ad a, .inr (ci, (entO ad σ ci a).set f (.ref (ad x))))) H1 → va_D (fun q => z ≤ q) ((wsO G ad σ).set a (ad a, .inr (ci, (entO ad σ ci a).set f (.ref (ad x))))) → va_S (fun q => z ≤ q) s.heap H1 locs1 → W p l e R s m args below meth c H1 locs1 cells slots Q (F0 m (pc + 3) lsM (st.map (em ad nv))) := fun H1 locs1 hP1 hD1 hS1 => k ad H1 locs1 lsM cells slots h0 h1 (hw.tl.tl.sR _ _ hw.hd) ⟨by rw [hE]; exact hP1, by rw [hE]; exact hD1, hS1, hr.2.2.2⟩ hc hs
  cases hfi : (ft ci f).2 with
  | false => exact va_put hx hb (Ts := TB) hts (u_in h10) (pcY ci) hty hnm hown hK hr.1 hr.2.1 hr.2.2.1 a (ci := ci) (C := pcN ci) (T := pcT ci) (N := nf ci) (by rw [wsO_at ha, ent_obj h10 hk]) (pCls_at ci h10) f hf (ref := pcN ci) (hts _ hl) (fun y hy => by rw [hD.2.1] at hy; exact hy) (by rw [hD.2.2.1]; exact hfi) hD.2.2.2.1 hn hfit (by rw [entO_len]; exact hf) hd fin
  | true =>
    have h9 := hfin.resolve_left (by rw [hfi]; intro q; cases q)
    exact va_putF hx hb (Ts := TB) hts (u_in h10) (pcY ci) hty hnm hown hK hr.1 hr.2.1 hr.2.2.1 a (ci := ci) (C := pcN ci) (T := pcT ci) (N := nf ci) (by rw [wsO_at ha, ent_obj h10 hk]) (pCls_at ci h10) f hf (ref := pcN ci) (hts _ hl) (fun y hy => by rw [hD.2.1] at hy; exact hy) (by rw [hD.2.2.1]; exact hfi) h9.1 (by rw [hD.2.1, h9.2]; exact (okC_at h10).1.symm) hD.2.2.2.1 hn hfit (by rw [entO_len]; exact hf) hd fin
theorem g_iald (hx : p.tables.exec = Jvm.exec) (hb : c.code = cc) (hK : va_K G.1 pCls (tyG G) s) {i : Int32} {a n : Nat} (hk : kd a = (100, n)) (hi : ¬ (i < 0 ∨ n ≤ i.toNatClampNeg)) (hd : decode cc pc = .ok (.iaload, 1)) (k : Go p l e R s m args below meth c Q z G nv c0 s0 n0 ad0 (pc + 1) (ls) (.int (gI σ a i.toNatClampNeg) :: st) (σ)) : Go p l e R s m args below meth c Q z G nv c0 s0 n0 ad0 (pc) (ls) (.int i :: .ref a :: st) (σ) := by
  intro ad H locs lsM cells slots h0 h1 hw hr hc hs
  have ha := wf_lt hk (by omega) hw.tl.hd
  exact va_iald hx hb hK hr.1 a 0 (by rw [wsO_at ha, ent_I hk]) tyG_I hi hd (k ad H locs lsM cells slots h0 h1 (hw.tl.tl.ps trivial) hr hc hs)
theorem g_lald (hx : p.tables.exec = Jvm.exec) (hb : c.code = cc) (hK : va_K G.1 pCls (tyG G) s) {i : Int32} {a n : Nat} (hk : kd a = (101, n)) (hi : ¬ (i < 0 ∨ n ≤ i.toNatClampNeg)) (hd : decode cc pc = .ok (.laload, 1)) (k : Go p l e R s m args below meth c Q z G nv c0 s0 n0 ad0 (pc + 1) (ls) (.long (gJ σ a i.toNatClampNeg) :: st) (σ)) : Go p l e R s m args below meth c Q z G nv c0 s0 n0 ad0 (pc) (ls) (.int i :: .ref a :: st) (σ) := by
  intro ad H locs lsM cells slots h0 h1 hw hr hc hs
  have ha := wf_lt hk (by omega) hw.tl.hd
  exact va_lald hx hb hK hr.1 a 1 (by rw [wsO_at ha, ent_J hk]) tyG_J hi hd (k ad H locs lsM cells slots h0 h1 (hw.tl.tl.ps trivial) hr hc hs)
theorem g_aald (hx : p.tables.exec = Jvm.exec) (hb : c.code = cc) (hK : va_K G.1 pCls (tyG G) s) {i : Int32} {a n : Nat} (hk : kd a = (102, n)) (hi : ¬ (i < 0 ∨ n ≤ i.toNatClampNeg)) (hd : decode cc pc = .ok (.aaload, 1)) (k : Go p l e R s m args below meth c Q z G nv c0 s0 n0 ad0 (pc + 1) (ls) (va_rf (gR σ a i.toNatClampNeg) :: st) (σ)) : Go p l e R s m args below meth c Q z G nv c0 s0 n0 ad0 (pc) (ls) (.int i :: .ref a :: st) (σ) := by
  intro ad H locs lsM cells slots h0 h1 hw hr hc hs
  have ha := wf_lt hk (by omega) hw.tl.hd
  refine va_aldq hx hb hK hr.1 a 2 (by rw [wsO_at ha, ent_S hk]) tyG_S hi hd ?_
  have := k ad H locs lsM cells slots h0 h1 (hw.tl.tl.ps ?_) hr hc hs
  · rw [List.map_cons, em_rf] at this; exact this
  · cases hg : gR σ a i.toNatClampNeg with
    | none => trivial
    | some q => exact hw.2.2.2 _ _ _ hg
theorem g_iast (hx : p.tables.exec = Jvm.exec) (hb : c.code = cc) (hK : va_K G.1 pCls (tyG G) s) {i : Int32} {x : Int32} {a n : Nat} (hk : kd a = (100, n)) (hi : ¬ (i < 0 ∨ n ≤ i.toNatClampNeg)) (hd : decode cc pc = .ok (.iastore, 1)) (k : Go p l e R s m args below meth c Q z G nv c0 s0 n0 ad0 (pc + 1) (ls) (st) (sI σ a i.toNatClampNeg x)) : Go p l e R s m args below meth c Q z G nv c0 s0 n0 ad0 (pc) (ls) (.int x :: .int i :: .ref a :: st) (σ) := by
  intro ad H locs lsM cells slots h0 h1 hw hr hc hs
  have ha := wf_lt hk (by omega) hw.tl.tl.hd
  have hE : wsO G ad (sI σ a i.toNatClampNeg x) = (wsO G ad σ).set a (ad a, .inl (G.2.1, n, .inl (upd (gI σ a) i.toNatClampNeg x))) := by
    rw [wsO_set (σ := σ) (σ' := sI σ a i.toNatClampNeg x) (a := a) rfl (fun b hb => ent_sI hb), ent_I hk]
    have e9 : gI (sI σ a i.toNatClampNeg x) a = upd (gI σ a) i.toNatClampNeg x := by funext j; simp [gI_sI, upd]
    rw [e9]
  exact va_iast hx hb hK hr.1 hr.2.1 hr.2.2.1 a 0 (by rw [wsO_at ha, ent_I hk]) tyG_I hi hd (fun H1 locs1 hP1 hD1 hS1 => k ad H1 locs1 lsM cells slots h0 h1 (hw.tl.tl.tl.sI _ _ _) ⟨by rw [hE]; exact hP1, by rw [hE]; exact hD1, hS1, hr.2.2.2⟩ hc hs)
theorem g_last (hx : p.tables.exec = Jvm.exec) (hb : c.code = cc) (hK : va_K G.1 pCls (tyG G) s) {i : Int32} {x : Int64} {a n : Nat} (hk : kd a = (101, n)) (hi : ¬ (i < 0 ∨ n ≤ i.toNatClampNeg)) (hd : decode cc pc = .ok (.lastore, 1)) (k : Go p l e R s m args below meth c Q z G nv c0 s0 n0 ad0 (pc + 1) (ls) (st) (sJ σ a i.toNatClampNeg x)) : Go p l e R s m args below meth c Q z G nv c0 s0 n0 ad0 (pc) (ls) (.long x :: .int i :: .ref a :: st) (σ) := by
  intro ad H locs lsM cells slots h0 h1 hw hr hc hs
  have ha := wf_lt hk (by omega) hw.tl.tl.hd
  have hE : wsO G ad (sJ σ a i.toNatClampNeg x) = (wsO G ad σ).set a (ad a, .inl (G.2.2.1, n, .inr (.inl (vp_updL (gJ σ a) i.toNatClampNeg x)))) := by
    rw [wsO_set (σ := σ) (σ' := sJ σ a i.toNatClampNeg x) (a := a) rfl (fun b hb => ent_sJ hb), ent_J hk]
    have e9 : gJ (sJ σ a i.toNatClampNeg x) a = vp_updL (gJ σ a) i.toNatClampNeg x := by funext j; simp [gJ_sJ, vp_updL]
    rw [e9]
  exact va_last hx hb hK hr.1 hr.2.1 hr.2.2.1 a 1 (by rw [wsO_at ha, ent_J hk]) tyG_J hi hd (fun H1 locs1 hP1 hD1 hS1 => k ad H1 locs1 lsM cells slots h0 h1 (hw.tl.tl.tl.sJ _ _ _) ⟨by rw [hE]; exact hP1, by rw [hE]; exact hD1, hS1, hr.2.2.2⟩ hc hs)
theorem g_aast (hx : p.tables.exec = Jvm.exec) (hb : c.code = cc) (hK : va_K G.1 pCls (tyG G) s) (hEn : EnvM z nv sc ad0 s) {i : Int32} {q a n : Nat} (hk : kd a = (102, n)) (hi : ¬ (i < 0 ∨ n ≤ i.toNatClampNeg)) (hq : (kd q).1 = 200 ∧ (kd q).2 < 26) (hd : decode cc pc = .ok (.aastore, 1)) (k : Go p l e R s m args below meth c Q z G nv c0 s0 n0 ad0 (pc + 1) (ls) (st) (sR σ a i.toNatClampNeg (some q))) : Go p l e R s m args below meth c Q z G nv c0 s0 n0 ad0 (pc) (ls) (.ref q :: .int i :: .ref a :: st) (σ) := by
  intro ad H locs lsM cells slots h0 h1 hw hr hc hs
  have ha := wf_lt hk (by omega) hw.tl.tl.hd
  have hE : wsO G ad (sR σ a i.toNatClampNeg (some q)) = (wsO G ad σ).set a (ad a, .inl (G.2.2.2, n, .inr (.inr (.inr (.inr (va_up (fun i => (gR σ a i).map ad) i.toNatClampNeg (some (ad q)))))))) := by
    rw [wsO_set (σ := σ) (σ' := sR σ a i.toNatClampNeg (some q)) (a := a) rfl (fun b hb => ent_sR hb), ent_S hk]
    have e9 : (fun j => (gR (sR σ a i.toNatClampNeg (some q)) a j).map ad) = va_up (fun i => (gR σ a i).map ad) i.toNatClampNeg (some (ad q)) := by
      funext j
      simp only [gR_sR, va_up, if_true]
      split <;> simp
    rw [e9]
  obtain ⟨t, ht, hqt⟩ := kd_txt hq
  have hO := ((hEn.ext (ad' := ad) (fun a ha => h1 a (Or.inr ha))).1 t ht).1
  rw [hqt]
  rw [hqt] at hE
  refine vb_astq hx hb hK hr.1 hr.2.1 hr.2.2.1 a 2 (E := "java/lang/String") (C := "java/lang/String") (by rw [wsO_at ha, ent_S hk]) tyG_S (vx_txt hO hr.2.2.1) (fun comp c9 e1 e2 => ?_) hi hd (fun H1 locs1 hP1 hD1 hS1 => ?_)
  · rw [e1] at e2; cases e2; exact assignable_self _ _
  · have k2 := k ad H1 locs1 lsM cells slots h0 h1 (hw.tl.tl.tl.sR _ _ hw.hd)
    rw [hqt] at k2
    exact k2 ⟨by rw [hE]; exact hP1, by rw [hE]; exact hD1, hS1, hr.2.2.2⟩ hc hs
theorem g_alenI (hx : p.tables.exec = Jvm.exec) (hb : c.code = cc) (hK : va_K G.1 pCls (tyG G) s) {a n : Nat} (hk : kd a = (100, n)) (hd : decode cc pc = .ok (.arraylength, 1)) (k : Go p l e R s m args below meth c Q z G nv c0 s0 n0 ad0 (pc + 1) (ls) (.int (Int32.ofNat n) :: st) (σ)) : Go p l e R s m args below meth c Q z G nv c0 s0 n0 ad0 (pc) (ls) (.ref a :: st) (σ) := by
  intro ad H locs lsM cells slots h0 h1 hw hr hc hs
  have ha := wf_lt hk (by omega) hw.hd
  exact va_alen (x := (n, .inl (gI σ a))) hx hb hK hr.1 a 0 (by rw [wsO_at ha, ent_I hk]) tyG_I rfl hd (k ad H locs lsM cells slots h0 h1 (hw.tl.ps trivial) hr hc hs)
theorem g_alenJ (hx : p.tables.exec = Jvm.exec) (hb : c.code = cc) (hK : va_K G.1 pCls (tyG G) s) {a n : Nat} (hk : kd a = (101, n)) (hd : decode cc pc = .ok (.arraylength, 1)) (k : Go p l e R s m args below meth c Q z G nv c0 s0 n0 ad0 (pc + 1) (ls) (.int (Int32.ofNat n) :: st) (σ)) : Go p l e R s m args below meth c Q z G nv c0 s0 n0 ad0 (pc) (ls) (.ref a :: st) (σ) := by
  intro ad H locs lsM cells slots h0 h1 hw hr hc hs
  have ha := wf_lt hk (by omega) hw.hd
  exact va_alen (x := (n, .inr (.inl (gJ σ a)))) hx hb hK hr.1 a 1 (by rw [wsO_at ha, ent_J hk]) tyG_J rfl hd (k ad H locs lsM cells slots h0 h1 (hw.tl.ps trivial) hr hc hs)
theorem g_alenS (hx : p.tables.exec = Jvm.exec) (hb : c.code = cc) (hK : va_K G.1 pCls (tyG G) s) {a n : Nat} (hk : kd a = (102, n)) (hd : decode cc pc = .ok (.arraylength, 1)) (k : Go p l e R s m args below meth c Q z G nv c0 s0 n0 ad0 (pc + 1) (ls) (.int (Int32.ofNat n) :: st) (σ)) : Go p l e R s m args below meth c Q z G nv c0 s0 n0 ad0 (pc) (ls) (.ref a :: st) (σ) := by
  intro ad H locs lsM cells slots h0 h1 hw hr hc hs
  have ha := wf_lt hk (by omega) hw.hd
  exact va_alen (x := (n, .inr (.inr (.inr (.inr (fun i => (gR σ a i).map ad)))))) hx hb hK hr.1 a 2 (by rw [wsO_at ha, ent_S hk]) tyG_S rfl hd (k ad H locs lsM cells slots h0 h1 (hw.tl.ps trivial) hr hc hs)
theorem g_alenB (hx : p.tables.exec = Jvm.exec) (hb : c.code = cc) (hEn : EnvM z nv sc ad0 s) {a n : Nat} (hk : kd a = (203, n)) (hn : n < 26) (hd : decode cc pc = .ok (.arraylength, 1)) (k : Go p l e R s m args below meth c Q z G nv c0 s0 n0 ad0 (pc + 1) (ls) (.int (Int32.ofNat (slen n)) :: st) (σ)) : Go p l e R s m args below meth c Q z G nv c0 s0 n0 ad0 (pc) (ls) (.ref a :: st) (σ) := by
  intro ad H locs lsM cells slots h0 h1 hw hr hc hs
  have hE := hEn.ext (ad' := ad) (fun a ha => h1 a (Or.inr ha))
  have ha := kd_byt hk
  refine va_tlen hx hb (t := ad a) (by rw [ha]; exact (hE.1 n hn).2.2.2) hr.2.2.1 rfl hd (k ad H locs lsM cells slots h0 h1 (hw.tl.ps trivial) hr hc hs)
theorem g_sld (hx : p.tables.exec = Jvm.exec) (hb : c.code = cc) (hEn : EnvM z nv sc ad0 s) (hpsc : psc σ = sc) {i : Int32} {a n : Nat} (hk : kd a = (104, n)) (hi : ¬ (i < 0 ∨ (psc σ).1 ≤ i.toNatClampNeg)) (hd : decode cc pc = .ok (.iaload, 1)) (k : Go p l e R s m args below meth c Q z G nv c0 s0 n0 ad0 (pc + 1) (ls) (.int ((psc σ).2 i.toNatClampNeg) :: st) (σ)) : Go p l e R s m args below meth c Q z G nv c0 s0 n0 ad0 (pc) (ls) (.int i :: .ref a :: st) (σ) := by
  intro ad H locs lsM cells slots h0 h1 hw hr hc hs
  have hE := hEn.ext (ad' := ad) (fun a ha => h1 a (Or.inr ha))
  obtain ⟨-, -, -, -, -, -, -, -, -, x1, x2, x3, -⟩ := hE
  have ha := kd_scr hk
  subst ha
  rw [hpsc] at hi k
  exact va_sld (b := ad 3000) hx hb x1 x2 x3 hr.2.2.1 hi hd (k ad H locs lsM cells slots h0 h1 (hw.tl.tl.ps trivial) hr hc hs)
theorem g_slen (hx : p.tables.exec = Jvm.exec) (hb : c.code = cc) (hEn : EnvM z nv sc ad0 s) (hpsc : psc σ = sc) {a n : Nat} (hk : kd a = (104, n)) (hd : decode cc pc = .ok (.arraylength, 1)) (k : Go p l e R s m args below meth c Q z G nv c0 s0 n0 ad0 (pc + 1) (ls) (.int (Int32.ofNat (psc σ).1) :: st) (σ)) : Go p l e R s m args below meth c Q z G nv c0 s0 n0 ad0 (pc) (ls) (.ref a :: st) (σ) := by
  intro ad H locs lsM cells slots h0 h1 hw hr hc hs
  have hE := hEn.ext (ad' := ad) (fun a ha => h1 a (Or.inr ha))
  obtain ⟨-, -, -, -, -, -, -, -, -, x1, x2, x3, -⟩ := hE
  have ha := kd_scr hk
  subst ha
  rw [hpsc] at k
  exact va_slen (b := ad 3000) hx hb x1 x2 x3 hr.2.2.1 hd (k ad H locs lsM cells slots h0 h1 (hw.tl.ps trivial) hr hc hs)
theorem g_bald (hx : p.tables.exec = Jvm.exec) (hb : c.code = cc) (hEn : EnvM z nv sc ad0 s) {i : Int32} {a n : Nat} (hk : kd a = (203, n)) (hn : n < 26) (hi : ¬ (i < 0 ∨ slen n ≤ i.toNatClampNeg)) (hd : decode cc pc = .ok (.baload, 1)) (k : Go p l e R s m args below meth c Q z G nv c0 s0 n0 ad0 (pc + 1) (ls) (.int (sby n i.toNatClampNeg) :: st) (σ)) : Go p l e R s m args below meth c Q z G nv c0 s0 n0 ad0 (pc) (ls) (.int i :: .ref a :: st) (σ) := by
  intro ad H locs lsM cells slots h0 h1 hw hr hc hs
  have hE := hEn.ext (ad' := ad) (fun a ha => h1 a (Or.inr ha))
  have ha := kd_byt hk
  refine va_tb (f := fun j => .int (sby n j)) hx hb (t := ad a) (by rw [ha]; exact (hE.1 n hn).2.2.2) hr.2.2.1 hi rfl hd (k ad H locs lsM cells slots h0 h1 (hw.tl.tl.ps trivial) hr hc hs)
theorem g_getV (hx : p.tables.exec = Jvm.exec) (hb : c.code = cc) (hts : ∀ w ∈ TB, w.before args s = true) (hown : s.vm.findClass ("java/lang/String") = some m.cls) (hEn : EnvM z nv sc ad0 s) {a : Nat} (hk : (kd a).1 = 200 ∧ (kd a).2 < 26) (hd : decode cc pc = .ok (.getfield 9, 3)) (k : Go p l e R s m args below meth c Q z G nv c0 s0 n0 ad0 (pc + 3) (ls) (.ref (a + 1000) :: st) (σ)) : Go p l e R s m args below meth c Q z G nv c0 s0 n0 ad0 (pc) (ls) (.ref a :: st) (σ) := by
  intro ad H locs lsM cells slots h0 h1 hw hr hc hs
  have hE := hEn.ext (ad' := ad) (fun a ha => h1 a (Or.inr ha))
  obtain ⟨t, ht, hq⟩ := kd_txt hk
  subst hq
  refine vk_getf hx hb (o := "java/lang/String") (ref := "java/lang/String") (hE.1 t ht).2.2.1 hr.2.2.1 hown (hts _ tw_value) (fun _ h => h) hd ?_
  have k2 := k ad H locs lsM cells slots h0 h1 (hw.tl.ps (Or.inr (Nat.le_add_left _ _))) hr hc hs
  rw [show 1000 + t + 1000 = 2000 + t by omega] at k2
  exact k2
theorem g_getC (hx : p.tables.exec = Jvm.exec) (hb : c.code = cc) (hts : ∀ w ∈ TB, w.before args s = true) (hown : s.vm.findClass ("java/lang/String") = some m.cls) (hEn : EnvM z nv sc ad0 s) {a : Nat} (hk : (kd a).1 = 200 ∧ (kd a).2 < 26) (hd : decode cc pc = .ok (.getfield 15, 3)) (k : Go p l e R s m args below meth c Q z G nv c0 s0 n0 ad0 (pc + 3) (ls) (.int 0 :: st) (σ)) : Go p l e R s m args below meth c Q z G nv c0 s0 n0 ad0 (pc) (ls) (.ref a :: st) (σ) := by
  intro ad H locs lsM cells slots h0 h1 hw hr hc hs
  have hE := hEn.ext (ad' := ad) (fun a ha => h1 a (Or.inr ha))
  obtain ⟨t, ht, hq⟩ := kd_txt hk
  subst hq
  exact vk_getf hx hb (o := "java/lang/String") (ref := "java/lang/String") (hE.1 t ht).2.1 hr.2.2.1 hown (hts _ tw_coder) (fun _ h => h) hd (k ad H locs lsM cells slots h0 h1 (hw.tl.ps trivial) hr hc hs)
theorem g_statC (hx : p.tables.exec = Jvm.exec) (hb : c.code = cc) (hts : ∀ w ∈ TB, w.before args s = true) (hown : s.vm.findClass ("java/lang/String") = some m.cls) (hEn : EnvM z nv sc ad0 s) (hd : decode cc pc = .ok (.getstatic 38, 3)) (k : Go p l e R s m args below meth c Q z G nv c0 s0 n0 ad0 (pc + 3) (ls) (.int 1 :: st) (σ)) : Go p l e R s m args below meth c Q z G nv c0 s0 n0 ad0 (pc) (ls) (st) (σ) := by
  intro ad H locs lsM cells slots h0 h1 hw hr hc hs
  have hE := hEn.ext (ad' := ad) (fun a ha => h1 a (Or.inr ha))
  exact va_gets hx hb (ref := "java/lang/String") hE.2.2.1 hr.2.2.1 hown (hts _ tw_compact) (fun _ h => h) hd (k ad H locs lsM cells slots h0 h1 (hw.ps trivial) hr hc hs)
theorem g_statF (hx : p.tables.exec = Jvm.exec) (hb : c.code = cc) (hts : ∀ w ∈ TB, w.before args s = true) (hown : s.vm.findClass ("java/lang/String") = some m.cls) (hEn : EnvM z nv sc ad0 s) (hd : decode cc pc = .ok (.getstatic 1053, 3)) (k : Go p l e R s m args below meth c Q z G nv c0 s0 n0 ad0 (pc + 3) (ls) (.retAddr 3 :: st) (σ)) : Go p l e R s m args below meth c Q z G nv c0 s0 n0 ad0 (pc) (ls) (st) (σ) := by
  intro ad H locs lsM cells slots h0 h1 hw hr hc hs
  have hE := hEn.ext (ad' := ad) (fun a ha => h1 a (Or.inr ha))
  exact va_gets hx hb (ref := "jdk/internal/util/Preconditions") hE.2.2.2.1 hr.2.2.1 hown (hts _ tw_sioobe) (fun _ h => h) hd (k ad H locs lsM cells slots h0 h1 (hw.ps trivial) hr hc hs)
theorem g_ldcI (hx : p.tables.exec = Jvm.exec) (hb : c.code = cc) (hts : ∀ w ∈ TB, w.before args s = true) {o : Nat} (hown : s.vm.findClass (own o) = some m.cls) {i : Nat} {n : Int} {x : Nat} (hp : plC o i = some (0, n, x)) (hd : decode cc pc = .ok (.ldc i, 2)) (k : Go p l e R s m args below meth c Q z G nv c0 s0 n0 ad0 (pc + 2) (ls) (.int (Int32.ofInt n) :: st) (σ)) : Go p l e R s m args below meth c Q z G nv c0 s0 n0 ad0 (pc) (ls) (st) (σ) := by
  intro ad H locs lsM cells slots h0 h1 hw hr hc hs
  exact lv_ldc hx hb hown (hts _ (plC_I hp)) hd (k ad H locs lsM cells slots h0 h1 (hw.ps trivial) hr hc hs)
theorem g_ldcwI (hx : p.tables.exec = Jvm.exec) (hb : c.code = cc) (hts : ∀ w ∈ TB, w.before args s = true) {o : Nat} (hown : s.vm.findClass (own o) = some m.cls) {i : Nat} {n : Int} {x : Nat} (hp : plC o i = some (0, n, x)) (hd : decode cc pc = .ok (.ldc_w i, 3)) (k : Go p l e R s m args below meth c Q z G nv c0 s0 n0 ad0 (pc + 3) (ls) (.int (Int32.ofInt n) :: st) (σ)) : Go p l e R s m args below meth c Q z G nv c0 s0 n0 ad0 (pc) (ls) (st) (σ) := by
  intro ad H locs lsM cells slots h0 h1 hw hr hc hs
  exact lv_ldcw hx hb hown (hts _ (plC_I hp)) hd (k ad H locs lsM cells slots h0 h1 (hw.ps trivial) hr hc hs)
theorem g_ldcJ (hx : p.tables.exec = Jvm.exec) (hb : c.code = cc) (hts : ∀ w ∈ TB, w.before args s = true) {o : Nat} (hown : s.vm.findClass (own o) = some m.cls) {i : Nat} {n : Int} {x : Nat} (hp : plC o i = some (1, n, x)) (hd : decode cc pc = .ok (.ldc2_w i, 3)) (k : Go p l e R s m args below meth c Q z G nv c0 s0 n0 ad0 (pc + 3) (ls) (.long (Int64.ofInt n) :: st) (σ)) : Go p l e R s m args below meth c Q z G nv c0 s0 n0 ad0 (pc) (ls) (st) (σ) := by
  intro ad H locs lsM cells slots h0 h1 hw hr hc hs
  exact lv_ldc2 hx hb hown (hts _ (plC_J hp)) hd (k ad H locs lsM cells slots h0 h1 (hw.ps trivial) hr hc hs)
theorem g_ldcS (hx : p.tables.exec = Jvm.exec) (hb : c.code = cc) {o : Nat} (hown : s.vm.findClass (own o) = some m.cls) (hEn : EnvM z nv sc ad0 s) {i : Nat} {n : Int} {x : Nat} (hp : plC o i = some (2, n, x)) (hd : decode cc pc = .ok (.ldc i, 2)) (k : Go p l e R s m args below meth c Q z G nv c0 s0 n0 ad0 (pc + 2) (ls) (.ref (1000 + n.toNat) :: st) (σ)) : Go p l e R s m args below meth c Q z G nv c0 s0 n0 ad0 (pc) (ls) (st) (σ) := by
  intro ad H locs lsM cells slots h0 h1 hw hr hc hs
  have hE := hEn.ext (ad' := ad) (fun a ha => h1 a (Or.inr ha))
  exact va_ldcS hx hb hown (hE.2.1 _ _ _ _ hp) hd (k ad H locs lsM cells slots h0 h1 (hw.ps (Or.inr (Nat.le_add_right _ _))) hr hc hs)
theorem g_ldcwS (hx : p.tables.exec = Jvm.exec) (hb : c.code = cc) {o : Nat} (hown : s.vm.findClass (own o) = some m.cls) (hEn : EnvM z nv sc ad0 s) {i : Nat} {n : Int} {x : Nat} (hp : plC o i = some (2, n, x)) (hd : decode cc pc = .ok (.ldc_w i, 3)) (k : Go p l e R s m args below meth c Q z G nv c0 s0 n0 ad0 (pc + 3) (ls) (.ref (1000 + n.toNat) :: st) (σ)) : Go p l e R s m args below meth c Q z G nv c0 s0 n0 ad0 (pc) (ls) (st) (σ) := by
  intro ad H locs lsM cells slots h0 h1 hw hr hc hs
  have hE := hEn.ext (ad' := ad) (fun a ha => h1 a (Or.inr ha))
  intro T hT X
  obtain ⟨t, a1, b1⟩ := k ad H locs lsM cells slots h0 h1 (hw.ps (Or.inr (Nat.le_add_right _ _))) hr hc hs T hT X
  exact ⟨t, X.ldcStringW hx hown (hE.2.1 _ _ _ _ hp).1 (hE.2.1 _ _ _ _ hp).2 (g := F0 m pc _ _) rfl (by rw [hb]; exact hd) t a1, b1⟩
theorem g_new (hx : p.tables.exec = Jvm.exec) (hb : c.code = cc) (hts : ∀ w ∈ TB, w.before args s = true) {o : Nat} (hown : s.vm.findClass (own o) = some m.cls) (hK : va_K G.1 pCls (tyG G) s) (hz : z ≤ s.heap.size) {i ci x : Nat} (hp : plK o i = some (ci, x)) (h10 : ci < 10) (hk : kd (pn σ) = (ci, 0)) (hn : pn σ < 1000) (hR : pcl σ + 1 ≤ c0 + R.cells ∧ psl σ + nf ci ≤ s0 + R.slots) (hd : decode cc pc = .ok (.new i, 3)) (k : Go p l e R s m args below meth c Q z G nv c0 s0 n0 ad0 (pc + 3) (ls) (.ref (pn σ) :: st) (sN σ (nf ci))) : Go p l e R s m args below meth c Q z G nv c0 s0 n0 ad0 (pc) (ls) (st) (σ) := by
  intro ad H locs lsM cells slots h0 h1 hw hr hc hs
  have hkn : knm ci = pcN ci := by unfold knm; rw [if_pos h10]
  have hL := (plK_ok hp).1
  rw [hkn] at hL
  have hC := okC_at h10
  have hty : ∀ k, k < nf ci → parseFieldDescriptor (pcT ci k).2.2.1 = some (pcY ci k) := fun k hk => (hC.2.1 k hk).2.2.2.1
  refine va_new hx hb (Ts := TB) (C := pcN ci) (T := pcT ci) (N := nf ci) (ci := ci) hts (u_in h10) (pcY ci) hty hown (hts _ hL) (hts _ hC.2.2.1) (hts _ hC.2.2.2) hK hr.1 hr.2.1 hr.2.2.1 (fun q hq => Nat.le_trans hz hq) (pCls_at ci h10) (fs := entO ad (sN σ (nf ci)) ci (pn σ)) (fun j hj => ?_) (by omega) (by omega) hd (fun q H1 hP1 hD1 hS1 => ?_)
  · have hy := (hC.2.1 j hj).2.2.2.2.1
    have e1 : vp_V (entO ad (sN σ (nf ci)) ci (pn σ)) j = fvv ad (sN σ (nf ci)) ci (pn σ) j := by
      unfold vp_V; rw [List.getD_eq_getElem?_getD, entO_get hj]; rfl
    rw [e1]
    have z1 : gI (sN σ (nf ci)) (pn σ) j = 0 := if_pos rfl
    have z2 : gJ (sN σ (nf ci)) (pn σ) j = 0 := if_pos rfl
    have z3 : gR (sN σ (nf ci)) (pn σ) j = none := if_pos rfl
    unfold okY at hy
    unfold fvv
    rw [z1, z2, z3]
    revert hy
    generalize (ft ci j).1 = x
    intro hy
    match x, hy with
    | 0, hy => rw [of_decide_eq_true hy]; rfl
    | 1, hy => rw [of_decide_eq_true hy]; rfl
    | 2, hy => rw [of_decide_eq_true hy]; rfl
    | 3, hy => cases hq2 : pcY ci j <;> rw [hq2] at hy <;> first | rfl | cases hy
    | n + 4, hy => cases hy
  · have hne : ∀ a, a ≠ pn σ → (fun x => if x = pn σ then q else ad x) a = ad a := fun a ha => if_neg ha
    have heq : (fun x => if x = pn σ then q else ad x) (pn σ) = q := if_pos rfl
    generalize (fun x => if x = pn σ then q else ad x) = ad2 at hne heq
    have hWs := wsO_new (G := G) (σ := σ) (m := nf ci) hn hw.2.2.2 hne heq
    have eO : entO ad2 (sN σ (nf ci)) ci (pn σ) = entO ad (sN σ (nf ci)) ci (pn σ) := by
      unfold entO; congr 1; funext j; unfold fvv
      have z3 : gR (sN σ (nf ci)) (pn σ) j = none := if_pos rfl
      rw [z3]; rfl
    rw [ent_obj h10 hk, eO] at hWs
    have hx2 : ∀ a, (a < pn σ ∨ 1000 ≤ a) → ad2 a = ad a := fun a ha => hne a (by omega)
    have k2 := k ad2 H1 locs lsM (cells + 1) (slots + nf ci) (Nat.le_trans h0 (Nat.le_succ _)) (fun a ha => by rw [hx2 a (by omega)]; exact h1 a ha) (hw.new hn _) ⟨by rw [hWs]; exact hP1, by rw [hWs]; exact hD1, hS1, by rw [lva_ext hx2 hw.2.1]; exact hr.2.2.2⟩ (by show pcl σ + 1 = _; omega) (by show psl σ + _ = _; omega)
    rw [List.map_cons, map_ext hx2 hw.2.2.1] at k2
    have e3 : em ad2 nv (.ref (pn σ)) = .ref q := by show Value.ref (ad2 (pn σ)) = _; rw [heq]
    rw [e3] at k2
    exact k2
theorem g_newaI (hx : p.tables.exec = Jvm.exec) (hb : c.code = cc) (hts : ∀ w ∈ TB, w.before args s = true) (hK : va_K G.1 pCls (tyG G) s) (hz : z ≤ s.heap.size) {n : Int32} (h0n : ¬ n < 0) (hbig : n.toNatClampNeg ≤ 1000000) (hk : kd (pn σ) = (100, n.toNatClampNeg)) (hn : pn σ < 1000) (hR : pcl σ + 1 ≤ c0 + R.cells ∧ psl σ + n.toNatClampNeg ≤ s0 + R.slots) (hd : decode cc pc = .ok (.newarray .int, 2)) (k : Go p l e R s m args below meth c Q z G nv c0 s0 n0 ad0 (pc + 2) (ls) (.ref (pn σ) :: st) (sN σ n.toNatClampNeg)) : Go p l e R s m args below meth c Q z G nv c0 s0 n0 ad0 (pc) (ls) (.int n :: st) (σ) := by
  intro ad H locs lsM cells slots h0 h1 hw hr hc hs
  refine va_newa (atype := .int) hx hb (hts _ pr_12) (ty := .int) rfl hK hr.1 hr.2.1 hr.2.2.1 (fun q hq => Nat.le_trans hz hq) (N' := n.toNatClampNeg) (a0 := (n.toNatClampNeg, .inl (fun _ => 0))) (fun _ => rfl) h0n rfl (by show _ * 4 ≤ _; omega) (by omega) (by omega) hd (fun q cA H1 hK1 hP1 hD1 hS1 => ?_)
  have hcA : cA = G.2.1 := by
    have e1 : s.vm.findClass ("[" ++ (FieldType.int).toString) = some cA := (hK1.2 3 (cA, .int) rfl).2
    have e2 : s.vm.findClass ("[" ++ (FieldType.int).toString) = some G.2.1 := (hK.2 0 _ tyG_I).2
    exact Option.some.inj (e1.symm.trans e2)
  subst hcA
  have hne : ∀ a, a ≠ pn σ → (fun x => if x = pn σ then q else ad x) a = ad a := fun a ha => if_neg ha
  have heq : (fun x => if x = pn σ then q else ad x) (pn σ) = q := if_pos rfl
  generalize (fun x => if x = pn σ then q else ad x) = ad2 at hne heq
  have hWs := wsO_new (G := G) (σ := σ) (m := n.toNatClampNeg) hn hw.2.2.2 hne heq
  have z1 : gI (sN σ n.toNatClampNeg) (pn σ) = fun _ => 0 := funext fun j => if_pos rfl
  rw [ent_I hk, z1] at hWs
  have hx2 : ∀ a, (a < pn σ ∨ 1000 ≤ a) → ad2 a = ad a := fun a ha => hne a (by omega)
  have k2 := k ad2 H1 locs lsM (cells + 1) (slots + n.toNatClampNeg) (Nat.le_trans h0 (Nat.le_succ _)) (fun a ha => by rw [hx2 a (by omega)]; exact h1 a ha) (hw.tl.new hn _) ⟨by rw [hWs]; exact hP1, by rw [hWs]; exact hD1, hS1, by rw [lva_ext hx2 hw.2.1]; exact hr.2.2.2⟩ (by show pcl σ + 1 = _; omega) (by show psl σ + _ = _; omega)
  rw [List.map_cons, map_ext hx2 hw.tl.2.2.1] at k2
  have e3 : em ad2 nv (.ref (pn σ)) = .ref q := by show Value.ref (ad2 (pn σ)) = _; rw [heq]
  rw [e3] at k2
  exact k2
theorem g_newaJ (hx : p.tables.exec = Jvm.exec) (hb : c.code = cc) (hts : ∀ w ∈ TB, w.before args s = true) (hK : va_K G.1 pCls (tyG G) s) (hz : z ≤ s.heap.size) {n : Int32} (h0n : ¬ n < 0) (hbig : n.toNatClampNeg ≤ 1000000) (hk : kd (pn σ) = (101, n.toNatClampNeg)) (hn : pn σ < 1000) (hR : pcl σ + 1 ≤ c0 + R.cells ∧ psl σ + n.toNatClampNeg ≤ s0 + R.slots) (hd : decode cc pc = .ok (.newarray .long, 2)) (k : Go p l e R s m args below meth c Q z G nv c0 s0 n0 ad0 (pc + 2) (ls) (.ref (pn σ) :: st) (sN σ n.toNatClampNeg)) : Go p l e R s m args below meth c Q z G nv c0 s0 n0 ad0 (pc) (ls) (.int n :: st) (σ) := by
  intro ad H locs lsM cells slots h0 h1 hw hr hc hs
  refine va_newa (atype := .long) hx hb (hts _ pr_13) (ty := .long) rfl hK hr.1 hr.2.1 hr.2.2.1 (fun q hq => Nat.le_trans hz hq) (N' := n.toNatClampNeg) (a0 := (n.toNatClampNeg, .inr (.inl (fun _ => 0)))) (fun _ => rfl) h0n rfl (by show _ * 8 ≤ _; omega) (by omega) (by omega) hd (fun q cA H1 hK1 hP1 hD1 hS1 => ?_)
  have hcA : cA = G.2.2.1 := by
    have e1 : s.vm.findClass ("[" ++ (FieldType.long).toString) = some cA := (hK1.2 3 (cA, .long) rfl).2
    have e2 : s.vm.findClass ("[" ++ (FieldType.long).toString) = some G.2.2.1 := (hK.2 1 _ tyG_J).2
    exact Option.some.inj (e1.symm.trans e2)
  subst hcA
  have hne : ∀ a, a ≠ pn σ → (fun x => if x = pn σ then q else ad x) a = ad a := fun a ha => if_neg ha
  have heq : (fun x => if x = pn σ then q else ad x) (pn σ) = q := if_pos rfl
  generalize (fun x => if x = pn σ then q else ad x) = ad2 at hne heq
  have hWs := wsO_new (G := G) (σ := σ) (m := n.toNatClampNeg) hn hw.2.2.2 hne heq
  have z1 : gJ (sN σ n.toNatClampNeg) (pn σ) = fun _ => 0 := funext fun j => if_pos rfl
  rw [ent_J hk, z1] at hWs
  have hx2 : ∀ a, (a < pn σ ∨ 1000 ≤ a) → ad2 a = ad a := fun a ha => hne a (by omega)
  have k2 := k ad2 H1 locs lsM (cells + 1) (slots + n.toNatClampNeg) (Nat.le_trans h0 (Nat.le_succ _)) (fun a ha => by rw [hx2 a (by omega)]; exact h1 a ha) (hw.tl.new hn _) ⟨by rw [hWs]; exact hP1, by rw [hWs]; exact hD1, hS1, by rw [lva_ext hx2 hw.2.1]; exact hr.2.2.2⟩ (by show pcl σ + 1 = _; omega) (by show psl σ + _ = _; omega)
  rw [List.map_cons, map_ext hx2 hw.tl.2.2.1] at k2
  have e3 : em ad2 nv (.ref (pn σ)) = .ref q := by show Value.ref (ad2 (pn σ)) = _; rw [heq]
  rw [e3] at k2
  exact k2
theorem g_newaS (hx : p.tables.exec = Jvm.exec) (hb : c.code = cc) (hts : ∀ w ∈ TB, w.before args s = true) (hK : va_K G.1 pCls (tyG G) s) (hown : s.vm.findClass "HedgeWantsModel" = some m.cls) (hAO : va_AO "java/lang/String" s) (hz : z ≤ s.heap.size) {n : Int32} (h0n : ¬ n < 0) (hbig : n.toNatClampNeg ≤ 1000000) (hk : kd (pn σ) = (102, n.toNatClampNeg)) (hn : pn σ < 1000) (hR : pcl σ + 1 ≤ c0 + R.cells ∧ psl σ + n.toNatClampNeg ≤ s0 + R.slots) (hd : decode cc pc = .ok (.anewarray 9, 3)) (k : Go p l e R s m args below meth c Q z G nv c0 s0 n0 ad0 (pc + 3) (ls) (.ref (pn σ) :: st) (sN σ n.toNatClampNeg)) : Go p l e R s m args below meth c Q z G nv c0 s0 n0 ad0 (pc) (ls) (.int n :: st) (σ) := by
  intro ad H locs lsM cells slots h0 h1 hw hr hc hs
  refine va_newq hx hb hown (hts _ tw_strcl) hAO hK hr.1 hr.2.1 hr.2.2.1 (fun q hq => Nat.le_trans hz hq) (N' := n.toNatClampNeg) h0n rfl (by omega) (by omega) (by omega) hd (fun q cA H1 hK1 hP1 hD1 hS1 => ?_)
  have hcA : cA = G.2.2.2 := by
    obtain ⟨-, -, -, -, -, e1⟩ := (hK1.2 3 (cA, .object "java/lang/String") rfl).2
    obtain ⟨-, -, -, -, -, e2⟩ := (hK.2 2 _ tyG_S).2
    exact Option.some.inj (e1.symm.trans e2)
  subst hcA
  have hne : ∀ a, a ≠ pn σ → (fun x => if x = pn σ then q else ad x) a = ad a := fun a ha => if_neg ha
  have heq : (fun x => if x = pn σ then q else ad x) (pn σ) = q := if_pos rfl
  generalize (fun x => if x = pn σ then q else ad x) = ad2 at hne heq
  have hWs := wsO_new (G := G) (σ := σ) (m := n.toNatClampNeg) hn hw.2.2.2 hne heq
  have z1 : (fun i => (gR (sN σ n.toNatClampNeg) (pn σ) i).map ad2) = fun _ => none := funext fun j => by
    have z3 : gR (sN σ n.toNatClampNeg) (pn σ) j = none := if_pos rfl
    rw [z3]; rfl
  rw [ent_S hk, z1] at hWs
  have hx2 : ∀ a, (a < pn σ ∨ 1000 ≤ a) → ad2 a = ad a := fun a ha => hne a (by omega)
  have k2 := k ad2 H1 locs lsM (cells + 1) (slots + n.toNatClampNeg) (Nat.le_trans h0 (Nat.le_succ _)) (fun a ha => by rw [hx2 a (by omega)]; exact h1 a ha) (hw.tl.new hn _) ⟨by rw [hWs]; exact hP1, by rw [hWs]; exact hD1, hS1, by rw [lva_ext hx2 hw.2.1]; exact hr.2.2.2⟩ (by show pcl σ + 1 = _; omega) (by show psl σ + _ = _; omega)
  rw [List.map_cons, map_ext hx2 hw.tl.2.2.1] at k2
  have e3 : em ad2 nv (.ref (pn σ)) = .ref q := by show Value.ref (ad2 (pn σ)) = _; rw [heq]
  rw [e3] at k2
  exact k2
end SNDC
