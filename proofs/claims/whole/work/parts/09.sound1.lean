/-! ===== the pure store and the heap ===== -/
section SNDA
theorem rmap_set {α : Type} (n a : Nat) (f g : Nat → α) (h : ∀ j, j < n → j ≠ a → g j = f j) : (List.range n).map g = ((List.range n).map f).set a (g a) := by
  apply List.ext_getElem?
  intro i
  by_cases hi : i < n
  · by_cases ha : i = a
    · subst ha
      rw [List.getElem?_set_self (by simpa using hi)]
      simp [hi]
    · rw [List.getElem?_set_ne (Ne.symm ha)]
      simp [hi, h i hi ha]
  · rw [List.getElem?_eq_none (by simpa using hi), List.getElem?_eq_none (by simpa using hi)]
/-- addresses, and the one static reference that isn't told -/
def em (ad : Nat → Nat) (nv : Value) : Value → Value
  | .ref a => .ref (ad a)
  | .retAddr 3 => nv
  | v => v
def okv (n : Nat) : Value → Prop
  | .ref a => a < n ∨ 1000 ≤ a
  | .double _ => False
  | _ => True
abbrev pG : Type := va_G × ClassId × ClassId × ClassId
def tyG (G : pG) : List (ClassId × FieldType) := [(G.2.1, .int), (G.2.2.1, .long), (G.2.2.2, .object "java/lang/String")]
def fvv (ad : Nat → Nat) (σ : pS) (ci a j : Nat) : Value := match (ft ci j).1 with
  | 0 => .int (gI σ a j)
  | 1 => .int (gI σ a j)
  | 2 => .long (gJ σ a j)
  | _ => va_rf ((gR σ a j).map ad)
def entO (ad : Nat → Nat) (σ : pS) (ci a : Nat) : List Value := (List.range (nf ci)).map (fun j => fvv ad σ ci a j)
def entK (G : pG) (ad : Nat → Nat) (σ : pS) (a : Nat) : Nat × Nat → va_E
  | (100, n) => .inl (G.2.1, n, .inl (gI σ a))
  | (101, n) => .inl (G.2.2.1, n, .inr (.inl (gJ σ a)))
  | (102, n) => .inl (G.2.2.2, n, .inr (.inr (.inr (.inr (fun i => (gR σ a i).map ad)))))
  | (ci, _) => .inr (ci, entO ad σ ci a)
def ent (G : pG) (ad : Nat → Nat) (σ : pS) (a : Nat) : va_E := entK G ad σ a (kd a)
def wsO (G : pG) (ad : Nat → Nat) (σ : pS) : va_W := (List.range (pn σ)).map (fun a => (ad a, ent G ad σ a))
variable {G : pG} {ad ad' : Nat → Nat} {σ σ' : pS} {nv : Value}
theorem entK_obj {a ci x : Nat} (h : ci < 10) : entK G ad σ a (ci, x) = .inr (ci, entO ad σ ci a) := by
  match ci, h with
  | 0, _ => rfl
  | 1, _ => rfl
  | 2, _ => rfl
  | 3, _ => rfl
  | 4, _ => rfl
  | 5, _ => rfl
  | 6, _ => rfl
  | 7, _ => rfl
  | 8, _ => rfl
  | 9, _ => rfl
  | n + 10, h => omega
theorem wsO_at {a : Nat} (h : a < pn σ) : (wsO G ad σ)[a]? = some (ad a, ent G ad σ a) := by
  simp [wsO, h]
theorem wsO_set {a : Nat} (hn : pn σ' = pn σ) (h : ∀ b, b ≠ a → ent G ad σ' b = ent G ad σ b) : wsO G ad σ' = (wsO G ad σ).set a (ad a, ent G ad σ' a) := by
  unfold wsO
  rw [hn]
  exact rmap_set _ _ _ _ (fun j _ hj => by rw [h j hj])
theorem gI_sI {a i b j : Nat} {x : Int32} : gI (sI σ a i x) b j = if b = a then if j = i then x else gI σ b j else gI σ b j := rfl
theorem gJ_sJ {a i b j : Nat} {x : Int64} : gJ (sJ σ a i x) b j = if b = a then if j = i then x else gJ σ b j else gJ σ b j := rfl
theorem gR_sR {a i b j : Nat} {x : Option Nat} : gR (sR σ a i x) b j = if b = a then if j = i then x else gR σ b j else gR σ b j := rfl
theorem gI_sA {a b j : Nat} {f : Nat → Int32} : gI (sA σ a f) b j = if b = a then f j else gI σ b j := rfl
theorem ent_eq {a b : Nat} (hI : gI σ' b = gI σ b) (hJ : gJ σ' b = gJ σ b) (hR : gR σ' b = gR σ b) : ent G ad σ' b = ent G ad σ b := by
  have hO : ∀ ci, entO ad σ' ci b = entO ad σ ci b := by
    intro ci
    unfold entO
    congr 1
    funext j
    unfold fvv
    rw [hI, hJ, hR]
  unfold ent
  generalize kd b = q
  obtain ⟨ci, n⟩ := q
  unfold entK
  split <;> simp_all
theorem ent_sI {a i b : Nat} {x : Int32} (h : b ≠ a) : ent G ad (sI σ a i x) b = ent G ad σ b := ent_eq (a := 0) (by funext j; rw [gI_sI, if_neg h]) rfl rfl
theorem ent_sJ {a i b : Nat} {x : Int64} (h : b ≠ a) : ent G ad (sJ σ a i x) b = ent G ad σ b := ent_eq (a := 0) rfl (by funext j; rw [gJ_sJ, if_neg h]) rfl
theorem ent_sR {a i b : Nat} {x : Option Nat} (h : b ≠ a) : ent G ad (sR σ a i x) b = ent G ad σ b := ent_eq (a := 0) rfl rfl (by funext j; rw [gR_sR, if_neg h])
theorem ent_sA {a b : Nat} {f : Nat → Int32} (h : b ≠ a) : ent G ad (sA σ a f) b = ent G ad σ b := ent_eq (a := 0) (by funext j; rw [gI_sA, if_neg h]) rfl rfl
theorem entO_get {ci a k : Nat} (h : k < nf ci) : (entO ad σ ci a)[k]? = some (fvv ad σ ci a k) := by
  simp [entO, h]
theorem entO_len {ci a : Nat} : (entO ad σ ci a).length = nf ci := by simp [entO]
theorem entO_sI {ci a k : Nat} {x : Int32} (h : (ft ci k).1 = 0 ∨ (ft ci k).1 = 1) : entO ad (sI σ a k x) ci a = (entO ad σ ci a).set k (.int x) := by
  have e : fvv ad (sI σ a k x) ci a k = .int x := by
    unfold fvv
    rcases h with h | h <;> rw [h] <;> simp [gI_sI]
  rw [← e]
  exact rmap_set _ _ _ _ (fun j _ hj => by
    unfold fvv
    rw [gI_sI, if_pos rfl, if_neg hj]
    rfl)
theorem entO_sJ {ci a k : Nat} {x : Int64} (h : (ft ci k).1 = 2) : entO ad (sJ σ a k x) ci a = (entO ad σ ci a).set k (.long x) := by
  have e : fvv ad (sJ σ a k x) ci a k = .long x := by
    unfold fvv
    rw [h]
    simp [gJ_sJ]
  rw [← e]
  exact rmap_set _ _ _ _ (fun j _ hj => by
    unfold fvv
    rw [gJ_sJ, if_pos rfl, if_neg hj]
    rfl)
theorem entO_sR {ci a k q : Nat} (h : (ft ci k).1 = 3) : entO ad (sR σ a k (some q)) ci a = (entO ad σ ci a).set k (.ref (ad q)) := by
  have e : fvv ad (sR σ a k (some q)) ci a k = .ref (ad q) := by
    unfold fvv
    rw [h]
    simp [gR_sR, va_rf]
  rw [← e]
  exact rmap_set _ _ _ _ (fun j _ hj => by
    unfold fvv
    rw [gR_sR, if_pos rfl, if_neg hj]
    rfl)
/-- what a local is known to hold -/
def cl (ls : List Value) (i : Nat) : Option Value := match ls[i]? with
  | some (.int x) => some (.int x)
  | some (.ref a) => some (.ref a)
  | some (.long x) => match ls[i + 1]? with
    | some (.retAddr 1) => some (.long x)
    | _ => none
  | _ => none
def lva (ad : Nat → Nat) (nv : Value) (ls : List Value) : List (Nat × Value) := (List.range ls.length).filterMap (fun i => (cl ls i).map (fun v => (i, em ad nv v)))
theorem cl_lt {ls : List Value} {i : Nat} {v : Value} (h : cl ls i = some v) : i < ls.length := by
  unfold cl at h
  rcases Nat.lt_or_ge i ls.length with q | q
  · exact q
  · rw [List.getElem?_eq_none q] at h
    cases h
theorem lva_mem {ls : List Value} {q : Nat × Value} : q ∈ lva ad nv ls ↔ ∃ v, cl ls q.1 = some v ∧ q.2 = em ad nv v := by
  unfold lva
  rw [List.mem_filterMap]
  constructor
  · rintro ⟨i, -, hi⟩
    cases hc : cl ls i with
    | none => rw [hc] at hi; cases hi
    | some v =>
      rw [hc] at hi
      cases hi
      exact ⟨v, hc, rfl⟩
  · rintro ⟨v, hc, he⟩
    refine ⟨q.1, List.mem_range.mpr (cl_lt hc), ?_⟩
    rw [hc]
    show some (q.1, em ad nv v) = some q
    rw [← he]
theorem lva_at {ls : List Value} {lsM : Array Slot} {n i : Nat} {v : Value} (h : lv_has lsM n (lva ad nv ls)) (hc : cl ls i = some v) : lsM[i]? = some (.val (em ad nv v)) := h.2.2 (i, em ad nv v) (lva_mem.mpr ⟨v, hc, rfl⟩)
theorem cl_int {ls : List Value} {i : Nat} {x : Int32} (h : ls[i]? = some (.int x)) : cl ls i = some (.int x) := by simp [cl, h]
theorem cl_ref {ls : List Value} {i a : Nat} (h : ls[i]? = some (.ref a)) : cl ls i = some (.ref a) := by simp [cl, h]
theorem cl_long {ls : List Value} {i : Nat} {x : Int64} (h : ls[i]? = some (.long x)) (h2 : ls[i + 1]? = some (.retAddr 1)) : cl ls i = some (.long x) := by simp [cl, h, h2]
/-- what is known at a place, by cases -/
theorem cl_cases {ls : List Value} {i : Nat} {v : Value} (h : cl ls i = some v) : ls[i]? = some v ∧ ((∃ x, v = .int x) ∨ (∃ a, v = .ref a) ∨ ∃ x, v = .long x ∧ ls[i + 1]? = some (.retAddr 1)) := by
  unfold cl at h
  split at h
  · rename_i x e; cases h; exact ⟨e, Or.inl ⟨x, rfl⟩⟩
  · rename_i x e; cases h; exact ⟨e, Or.inr (Or.inl ⟨x, rfl⟩)⟩
  · rename_i x e
    split at h
    · rename_i e2; cases h; exact ⟨e, Or.inr (Or.inr ⟨x, rfl, e2⟩)⟩
    · cases h
  · cases h
theorem em_cat (ad : Nat → Nat) {nv : Value} (hnv : nv.category = 1) (v : Value) : (em ad nv v).category = v.category := by
  unfold em
  split
  · rfl
  · rw [hnv]; rfl
  · rfl
theorem lva_set {ls : List Value} {lsM : Array Slot} {i : Nat} {v w : Value} (h : lv_has lsM ls.length ((i, w) :: (lva ad nv ls).filter (fun q => !(q.1 == i) && !(q.1 + 1 == i && q.2.category == 2)))) (hv : ∀ u, cl (ls.set i v) i = some u → w = em ad nv u) (hn : v ≠ .retAddr 1) : lv_has lsM (ls.set i v).length (lva ad nv (ls.set i v)) := by
  refine ⟨by rw [List.length_set]; exact h.1, h.2.1, fun q hq => ?_⟩
  obtain ⟨u, hu, he⟩ := lva_mem.mp hq
  by_cases hi : q.1 = i
  · have hw := hv u (by rw [hi] at hu; exact hu)
    have h2 := h.2.2 (i, w) List.mem_cons_self
    rw [he, ← hw, hi]
    exact h2
  · refine h.2.2 q (List.mem_cons_of_mem _ (List.mem_filter.mpr ⟨?_, ?_⟩))
    · refine lva_mem.mpr ⟨u, ?_, he⟩
      obtain ⟨g1, g2⟩ := cl_cases hu
      rw [List.getElem?_set_ne (Ne.symm hi)] at g1
      rcases g2 with ⟨x, rfl⟩ | ⟨a, rfl⟩ | ⟨x, rfl, g3⟩
      · exact cl_int g1
      · exact cl_ref g1
      · refine cl_long g1 ?_
        by_cases hj : q.1 + 1 = i
        · rw [hj] at g3
          rw [List.getElem?_set_self' ] at g3
          cases hl : ls[i]? with
          | none => rw [hl] at g3; cases g3
          | some y => rw [hl] at g3; exact absurd (Option.some.inj g3) hn
        · rw [List.getElem?_set_ne (Ne.symm hj)] at g3
          exact g3
    · obtain ⟨g1, g2⟩ := cl_cases hu
      have e1 : (q.1 == i) = false := by simpa using hi
      rw [e1]
      rcases g2 with ⟨x, rfl⟩ | ⟨a, rfl⟩ | ⟨x, rfl, g3⟩
      · rw [he]; simp [em, Value.category]
      · rw [he]; simp [em, Value.category]
      · have hj : q.1 + 1 ≠ i := by
          intro hj
          rw [hj] at g3
          rw [List.getElem?_set_self'] at g3
          cases hl : ls[i]? with
          | none => rw [hl] at g3; cases g3
          | some y => rw [hl] at g3; exact absurd (Option.some.inj g3) hn
        have e2 : (q.1 + 1 == i) = false := by simpa using hj
        rw [e2]; rfl
theorem lva_setJ {ls : List Value} {lsM : Array Slot} {i : Nat} {x : Int64} (hl : i + 1 < ls.length) (h : lv_has lsM ls.length ((i, .long x) :: (lva ad nv ls).filter (fun q => !(q.1 == i) && (!(q.1 == i + 1) && !(q.1 + 1 == i && q.2.category == 2))))) : lv_has lsM ((ls.set i (.long x)).set (i + 1) (.retAddr 1)).length (lva ad nv ((ls.set i (.long x)).set (i + 1) (.retAddr 1))) := by
  have s0 : ((ls.set i (.long x)).set (i + 1) (.retAddr 1))[i]? = some (.long x) := by
    rw [List.getElem?_set_ne (by omega), List.getElem?_set_self (by omega)]
  have s1 : ((ls.set i (.long x)).set (i + 1) (.retAddr 1))[i + 1]? = some (.retAddr 1) := by
    rw [List.getElem?_set_self (by rw [List.length_set]; exact hl)]
  have s2 : ∀ j, j ≠ i → j ≠ i + 1 → ((ls.set i (.long x)).set (i + 1) (.retAddr 1))[j]? = ls[j]? := fun j h1 h2 => by
    rw [List.getElem?_set_ne (Ne.symm h2), List.getElem?_set_ne (Ne.symm h1)]
  refine ⟨by rw [List.length_set, List.length_set]; exact h.1, h.2.1, fun q hq => ?_⟩
  obtain ⟨u, hu, he⟩ := lva_mem.mp hq
  obtain ⟨g1, g2⟩ := cl_cases hu
  by_cases hi : q.1 = i
  · rw [hi, s0] at g1
    cases g1
    have h2 := h.2.2 (i, .long x) List.mem_cons_self
    rw [he, hi]
    exact h2
  · by_cases hi1 : q.1 = i + 1
    · rw [hi1, s1] at g1
      cases g1
      rcases g2 with ⟨x, g⟩ | ⟨a, g⟩ | ⟨x, g, g3⟩ <;> cases g
    · rw [s2 q.1 hi hi1] at g1
      refine h.2.2 q (List.mem_cons_of_mem _ (List.mem_filter.mpr ⟨?_, ?_⟩))
      · refine lva_mem.mpr ⟨u, ?_, he⟩
        rcases g2 with ⟨x, rfl⟩ | ⟨a, rfl⟩ | ⟨y, rfl, g3⟩
        · exact cl_int g1
        · exact cl_ref g1
        · refine cl_long g1 ?_
          by_cases hj : q.1 + 1 = i
          · rw [hj, s0] at g3; cases g3
          · by_cases hj2 : q.1 + 1 = i + 1
            · exact absurd (by omega) hi
            · rw [s2 _ hj hj2] at g3; exact g3
      · have e1 : (q.1 == i) = false := by simpa using hi
        have e2 : (q.1 == i + 1) = false := by simpa using hi1
        rw [e1, e2]
        rcases g2 with ⟨x, rfl⟩ | ⟨a, rfl⟩ | ⟨y, rfl, g3⟩
        · rw [he]; simp [em, Value.category]
        · rw [he]; simp [em, Value.category]
        · have hj : q.1 + 1 ≠ i := by
            intro hj
            rw [hj, s0] at g3
            cases g3
          have e3 : (q.1 + 1 == i) = false := by simpa using hj
          rw [e3]; rfl
/-- other addresses, the same values -/
theorem em_ext {n : Nat} (h : ∀ a, (a < n ∨ 1000 ≤ a) → ad' a = ad a) {v : Value} (hv : okv n v) : em ad' nv v = em ad nv v := by
  unfold em
  split
  · rw [h _ hv]
  · rfl
  · rfl
theorem map_ext {n : Nat} (h : ∀ a, (a < n ∨ 1000 ≤ a) → ad' a = ad a) {l : List Value} (hl : ∀ v ∈ l, okv n v) : l.map (em ad' nv) = l.map (em ad nv) :=
  List.map_congr_left (fun v hv => em_ext h (hl v hv))
theorem fm_congr {α β : Type} {f g : α → Option β} : ∀ {l : List α}, (∀ i ∈ l, f i = g i) → l.filterMap f = l.filterMap g := by
  intro l
  induction l with
  | nil => intro _; rfl
  | cons a l ih =>
    intro h
    rw [List.filterMap_cons, List.filterMap_cons, h a List.mem_cons_self, ih (fun i hi => h i (List.mem_cons_of_mem _ hi))]
theorem lva_ext {n : Nat} (h : ∀ a, (a < n ∨ 1000 ≤ a) → ad' a = ad a) {ls : List Value} (hl : ∀ v ∈ ls, okv n v) : lva ad' nv ls = lva ad nv ls := by
  unfold lva
  refine fm_congr (fun i _ => ?_)
  cases hc : cl ls i with
  | none => rfl
  | some v =>
    show some (i, em ad' nv v) = some (i, em ad nv v)
    rw [em_ext h (hl v (List.mem_of_getElem? (cl_cases hc).1))]
/-- the locals with which a method begins -/
theorem flt_cons {v : Value} {l : List Value} (h : ∀ x, v ≠ .long x) : flt (v :: l) = v :: flt l := by
  unfold flt
  rw [List.flatMap_cons]
  split
  · rename_i x; exact absurd rfl (h x)
  · rfl
theorem flt_long {x : Int64} {l : List Value} : flt (.long x :: l) = .long x :: .retAddr 1 :: flt l := rfl
theorem cl_cons {v : Value} {l : List Value} {i : Nat} : cl (v :: l) (i + 1) = cl l i := by simp [cl]
theorem flt_args (hnv : nv.category = 1) (r : List Value) (hr : ∀ i, cl r i = none) : ∀ (args : List Value) (k : Nat), (∀ v ∈ args, ∀ x, v ≠ .double x) → ∀ (i : Nat) (v : Value), cl (flt args ++ r) i = some v → (k + i, em ad nv v) ∈ lv_args k (args.map (em ad nv)) := by
  intro args
  induction args with
  | nil =>
    intro k _ i v h
    rw [show flt [] ++ r = r from rfl, hr] at h
    cases h
  | cons w args ih =>
    intro k hd i v h
    have hd' : ∀ v ∈ args, ∀ x, v ≠ .double x := fun v hv => hd v (List.mem_cons_of_mem _ hv)
    by_cases hw : ∃ x, w = .long x
    · obtain ⟨x, rfl⟩ := hw
      rw [flt_long] at h
      match i, h with
      | 0, h =>
        obtain ⟨g1, -⟩ := cl_cases h
        cases g1
        exact List.mem_cons_self
      | 1, h =>
        obtain ⟨g1, g2⟩ := cl_cases h
        cases g1
        rcases g2 with ⟨x, g⟩ | ⟨a, g⟩ | ⟨x, g, g3⟩ <;> cases g
      | i + 2, h =>
        rw [show (Value.long x :: .retAddr 1 :: flt args) ++ r = .long x :: .retAddr 1 :: (flt args ++ r) from rfl, cl_cons, cl_cons] at h
        have h2 := ih (k + 2) hd' i v h
        rw [show k + (i + 2) = k + 2 + i by omega]
        exact List.mem_cons_of_mem _ h2
    · have hw' : ∀ x, w ≠ .long x := fun x e => hw ⟨x, e⟩
      rw [flt_cons hw'] at h
      have hc : ¬ (em ad nv w).category = 2 := by
        rw [em_cat ad hnv]
        cases w with
        | long x => exact absurd rfl (hw' x)
        | double x => exact absurd rfl (hd _ List.mem_cons_self x)
        | _ => simp [Value.category]
      match i, h with
      | 0, h =>
        obtain ⟨g1, -⟩ := cl_cases h
        cases g1
        exact List.mem_cons_self
      | i + 1, h =>
        rw [show (w :: flt args) ++ r = w :: (flt args ++ r) from rfl, cl_cons] at h
        have h2 := ih (k + 1) hd' i v h
        rw [show k + (i + 1) = k + 1 + i by omega]
        refine List.mem_cons_of_mem _ ?_
        rw [if_neg hc]
        exact h2
theorem flt_sl (hnv : nv.category = 1) : ∀ (args : List Value), (∀ v ∈ args, ∀ x, v ≠ .double x) → (lg_sl (args.map (em ad nv))).length = (flt args).length := by
  intro args
  induction args with
  | nil => intro _; rfl
  | cons w args ih =>
    intro hd
    have h2 := ih (fun v hv => hd v (List.mem_cons_of_mem _ hv))
    have e : lg_sl ((w :: args).map (em ad nv)) = (if (em ad nv w).category = 2 then [.val (em ad nv w), .second] else [.val (em ad nv w)]) ++ lg_sl (args.map (em ad nv)) := by
      simp [lg_sl]
    rw [e, em_cat ad hnv]
    by_cases hw : ∃ x, w = .long x
    · obtain ⟨x, rfl⟩ := hw
      rw [flt_long, if_pos (show (Value.long x).category = 2 from rfl)]
      simp [h2]
      try omega
    · have hw' : ∀ x, w ≠ .long x := fun x e => hw ⟨x, e⟩
      have hc : ¬ w.category = 2 := by
        cases w with
        | long x => exact absurd rfl (hw' x)
        | double x => exact absurd rfl (hd _ List.mem_cons_self x)
        | _ => simp [Value.category]
      rw [flt_cons hw', if_neg hc]
      simp [h2]
      try omega
theorem elo_eq {n : Nat} {args : List Value} : elo n args = flt args ++ List.replicate (n - (flt args).length) (.retAddr 0) := rfl
theorem cl_rep {n i : Nat} : cl (List.replicate n (.retAddr 0)) i = none := by
  cases h : cl (List.replicate n (.retAddr 0)) i with
  | none => rfl
  | some v =>
    obtain ⟨g1, g2⟩ := cl_cases h
    have := List.eq_of_mem_replicate (List.mem_of_getElem? g1)
    subst this
    rcases g2 with ⟨x, g⟩ | ⟨a, g⟩ | ⟨x, g, g3⟩ <;> cases g
theorem elo_len {n : Nat} {args : List Value} (h : (flt args).length ≤ n) : (elo n args).length = n := by
  rw [elo_eq, List.length_append, List.length_replicate]
  omega
/-- at a method's entry -/
theorem elo_has (hnv : nv.category = 1) {n : Nat} {args : List Value} (hd : ∀ v ∈ args, ∀ x, v ≠ .double x) (h : (flt args).length ≤ n) :
    lv_has ((lg_sl (args.map (em ad nv)) ++ List.replicate (n - (lg_sl (args.map (em ad nv))).length) Slot.unset).toArray) (elo n args).length (lva ad nv (elo n args)) := by
  have h1 := lv_entry (args.map (em ad nv)) (n := n) (by rw [flt_sl hnv args hd]; exact h)
  refine ⟨by rw [elo_len h]; exact h1.1, h1.2.1, fun q hq => ?_⟩
  obtain ⟨v, hv, he⟩ := lva_mem.mp hq
  have h2 := flt_args (ad := ad) hnv (List.replicate (n - (flt args).length) (.retAddr 0)) (fun i => cl_rep) args 0 hd q.1 v hv
  rw [Nat.zero_add, ← he] at h2
  exact h1.2.2 q h2
end SNDA
