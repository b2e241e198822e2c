/-! ===== every call of the law, the same on both sides ===== -/
section PAIR
variable {P T : Nat} {W R : Rl} {A : Wd} {m : Me} {im : Option (Wd × Me)} {tp : Nat × (Nat → Int32)} {fp : Int32}
variable {σ τ υ μ : pS} {n k i j B : Nat} {e : Nat → Nat} {dC dM : pS → Option pZ} {x0 x1 x2 x3 x4 : Int32}
def JB (e : Nat → Nat) (B : Nat) (σ μ : pS) (zc zm : pZ) : Prop := ∃ (o : Om) (r : Nat × Int32), r.1 ≤ B ∧ oC σ (IC o) (e r.1, r.2) zc ∧ oM μ (IM o) r zm
def Pair (e : Nat → Nat) (B : Nat) (dC dM : pS → Option pZ) : Prop := ∀ o σ μ, IC o σ → IM o μ → SMr μ → R2 (dC σ) (dM μ) (JB e B σ μ)
theorem Pair.of {d1 d2 : Option pZ} (o : Om) (r : Nat × Int32) (hk : r.1 ≤ B) (w1 : Wp d1 (oC σ (IC o) r)) (w2 : Wp d2 (oM μ (IM o) r)) : R2 d1 d2 (JB id B σ μ) := by
  obtain ⟨a, ea, ha⟩ := w1
  obtain ⟨b, eb, hb⟩ := w2
  exact ⟨a, b, ea, eb, o, r, hk, ha, hb⟩
theorem ite_le {α : Type} {c : Prop} [Decidable c] {a b : Nat × α} (h1 : a.1 ≤ B) (h2 : b.1 ≤ B) : (if c then a else b).1 ≤ B := by split; exact h1; exact h2
theorem ite_lea {α β : Type} {c : Prop} [Decidable c] {a b : (Nat × α) × β} (h1 : a.1.1 ≤ B) (h2 : b.1.1 ≤ B) : (if c then a else b).1.1 ≤ B := by split; exact h1; exact h2
theorem J_prov : Pair e12 1 (fun σ => pcall 173 [.ref 0, .int x0] σ) (fun σ => pcall 210 [.ref 61, .int x0] σ) := fun o σ μ hC hM sm => by
  obtain ⟨a, b, ea, eb, o', k, w, hk, h1, h2⟩ := prov_ok (x0 := x0) hC hM sm
  exact ⟨a, b, ea, eb, o', (k, w), hk, h1, h2⟩

theorem J_324 : Pair id 1 (fun σ => pcall 174 [.ref 0, .int x0] σ) (fun σ => pcall 240 [.ref 61, .int x0] σ) := by
  rintro ⟨⟨P, T, W, R⟩, A, m, im, tp, fp, q⟩ σ μ hC hM sm
  have hC : CI P T W R A m im tp fp σ q := hC
  have hM : MI P T W R A m im tp fp μ := hM
  exact Pair.of ((P, T, W, R), A, m, im, tp, fp, q) (q_count P T W A (ι m.1.1) (ι m.2.1.1) (ι tp.1) m.2.2 x0) (by unfold q_count; repeat' (first | exact Nat.zero_le _ | exact Nat.le_refl _ | exact Nat.le_succ _ | refine ite_le ?_ ?_ | refine ite_lea ?_ ?_ | split)) (oC.qry hC (q174 hC.cnw hC.mem.1 hC.mem.2.2.1.1 hC.tln hC.mem.2.2.2)) (oM.qry hM (n240 hM.cmw hM.mem.1 hM.mem.2.2.1 hM.tln hM.mem.2.2.2.2))
theorem J_325 : Pair id 1 (fun σ => pcall 175 [.ref 0, .int x0, .int x1] σ) (fun σ => pcall 259 [.ref 61, .int x0, .int x1] σ) := by
  rintro ⟨⟨P, T, W, R⟩, A, m, im, tp, fp, q⟩ σ μ hC hM sm
  have hC : CI P T W R A m im tp fp σ q := hC
  have hM : MI P T W R A m im tp fp μ := hM
  exact Pair.of ((P, T, W, R), A, m, im, tp, fp, q) (q_person P T W A x0 x1) (by unfold q_person; repeat' (first | exact Nat.zero_le _ | exact Nat.le_refl _ | exact Nat.le_succ _ | refine ite_le ?_ ?_ | refine ite_lea ?_ ?_ | split)) (oC.qry hC (q175 hC.cnw hC.tld)) (oM.qry hM (n259 hM.cmw ))
theorem J_326 : Pair id 1 (fun σ => pcall 177 [.ref 0, .int x0, .int x1] σ) (fun σ => pcall 263 [.ref 61, .int x0, .int x1] σ) := by
  rintro ⟨⟨P, T, W, R⟩, A, m, im, tp, fp, q⟩ σ μ hC hM sm
  have hC : CI P T W R A m im tp fp σ q := hC
  have hM : MI P T W R A m im tp fp μ := hM
  exact Pair.of ((P, T, W, R), A, m, im, tp, fp, q) (q_thing P T W A x0 x1) (by unfold q_thing; repeat' (first | exact Nat.zero_le _ | exact Nat.le_refl _ | exact Nat.le_succ _ | refine ite_le ?_ ?_ | refine ite_lea ?_ ?_ | split)) (oC.qry hC (q177 hC.cnw hC.tld)) (oM.qry hM (n263 hM.cmw ))
theorem J_327 : Pair id 1 (fun σ => pcall 179 [.ref 0, .int x0, .int x1, .int x2] σ) (fun σ => pcall 267 [.ref 61, .int x0, .int x1, .int x2] σ) := by
  rintro ⟨⟨P, T, W, R⟩, A, m, im, tp, fp, q⟩ σ μ hC hM sm
  have hC : CI P T W R A m im tp fp σ q := hC
  have hM : MI P T W R A m im tp fp μ := hM
  exact Pair.of ((P, T, W, R), A, m, im, tp, fp, q) (q_look P T A x0 x1 x2) (by unfold q_look; repeat' (first | exact Nat.zero_le _ | exact Nat.le_refl _ | exact Nat.le_succ _ | refine ite_le ?_ ?_ | refine ite_lea ?_ ?_ | split)) (oC.qry hC (q179 hC.cnw )) (oM.qry hM (n267 hM.cmw ))
theorem J_334 : Pair id 2 (fun σ => pcall 187 [.ref 0, .int x0, .int x1, .int x2] σ) (fun σ => pcall 285 [.ref 61, .int x0, .int x1, .int x2] σ) := by
  rintro ⟨⟨P, T, W, R⟩, A, m, im, tp, fp, q⟩ σ μ hC hM sm
  have hC : CI P T W R A m im tp fp σ q := hC
  have hM : MI P T W R A m im tp fp μ := hM
  exact Pair.of ((P, T, W, R), A, m, im, tp, fp, q) (q_then P T W R A x0 x1 x2) (by unfold q_then; repeat' (first | exact Nat.zero_le _ | exact Nat.le_refl _ | exact Nat.le_succ _ | refine ite_le ?_ ?_ | refine ite_lea ?_ ?_ | split)) (oC.qry hC (q187 hC.cnw )) (oM.qry hM (n285 hM.cmw hM.sl0))
theorem J_335 : Pair id 2 (fun σ => pcall 189 [.ref 0, .int x0, .int x1, .int x2] σ) (fun σ => pcall 286 [.ref 61, .int x0, .int x1, .int x2] σ) := by
  rintro ⟨⟨P, T, W, R⟩, A, m, im, tp, fp, q⟩ σ μ hC hM sm
  have hC : CI P T W R A m im tp fp σ q := hC
  have hM : MI P T W R A m im tp fp μ := hM
  exact Pair.of ((P, T, W, R), A, m, im, tp, fp, q) (q_has P T W R A x0 x1 x2) (by unfold q_has; repeat' (first | exact Nat.zero_le _ | exact Nat.le_refl _ | exact Nat.le_succ _ | refine ite_le ?_ ?_ | refine ite_lea ?_ ?_ | split)) (oC.qry hC (q189 hC.cnw )) (oM.qry hM (n286 hM.cmw hM.sl0))
theorem J_336 : Pair id 1 (fun σ => pcall 190 [.ref 0, .int x0] σ) (fun σ => pcall 287 [.ref 61, .int x0] σ) := by
  rintro ⟨⟨P, T, W, R⟩, A, m, im, tp, fp, q⟩ σ μ hC hM sm
  have hC : CI P T W R A m im tp fp σ q := hC
  have hM : MI P T W R A m im tp fp μ := hM
  exact Pair.of ((P, T, W, R), A, m, im, tp, fp, q) (q_kept P T W R A x0) (by unfold q_kept; repeat' (first | exact Nat.zero_le _ | exact Nat.le_refl _ | exact Nat.le_succ _ | refine ite_le ?_ ?_ | refine ite_lea ?_ ?_ | split)) (oC.qry hC (q190 hC.cnw )) (oM.qry hM (n287 hM.cmw hM.sl0))
theorem J_337 : Pair id 2 (fun σ => pcall 191 [.ref 0, .int x0, .int x1, .int x2] σ) (fun σ => pcall 289 [.ref 61, .int x0, .int x1, .int x2] σ) := by
  rintro ⟨⟨P, T, W, R⟩, A, m, im, tp, fp, q⟩ σ μ hC hM sm
  have hC : CI P T W R A m im tp fp σ q := hC
  have hM : MI P T W R A m im tp fp μ := hM
  exact Pair.of ((P, T, W, R), A, m, im, tp, fp, q) (q_held P T W R A x0 x1 x2) (by unfold q_held; repeat' (first | exact Nat.zero_le _ | exact Nat.le_refl _ | exact Nat.le_succ _ | refine ite_le ?_ ?_ | refine ite_lea ?_ ?_ | split)) (oC.qry hC (q191 hC.cnw )) (oM.qry hM (n289 hM.cmw hM.sl0))
theorem J_338 : Pair id 2 (fun σ => pcall 192 [.ref 0, .int x0, .int x1] σ) (fun σ => pcall 290 [.ref 61, .int x0, .int x1] σ) := by
  rintro ⟨⟨P, T, W, R⟩, A, m, im, tp, fp, q⟩ σ μ hC hM sm
  have hC : CI P T W R A m im tp fp σ q := hC
  have hM : MI P T W R A m im tp fp μ := hM
  exact Pair.of ((P, T, W, R), A, m, im, tp, fp, q) (q_taken P T W R A x0 x1) (by unfold q_taken; repeat' (first | exact Nat.zero_le _ | exact Nat.le_refl _ | exact Nat.le_succ _ | refine ite_le ?_ ?_ | refine ite_lea ?_ ?_ | split)) (oC.qry hC (q192 hC.cnw )) (oM.qry hM (n290 hM.cmw hM.sl0))
theorem J_339 : Pair id 2 (fun σ => pcall 193 [.ref 0, .int x0, .int x1] σ) (fun σ => pcall 292 [.ref 61, .int x0, .int x1] σ) := by
  rintro ⟨⟨P, T, W, R⟩, A, m, im, tp, fp, q⟩ σ μ hC hM sm
  have hC : CI P T W R A m im tp fp σ q := hC
  have hM : MI P T W R A m im tp fp μ := hM
  exact Pair.of ((P, T, W, R), A, m, im, tp, fp, q) (q_later P T W R A x0 x1) (by unfold q_later; repeat' (first | exact Nat.zero_le _ | exact Nat.le_refl _ | exact Nat.le_succ _ | refine ite_le ?_ ?_ | refine ite_lea ?_ ?_ | split)) (oC.qry hC (q193 hC.cnw )) (oM.qry hM (n292 hM.cmw hM.sl0))
theorem J_340 : Pair id 1 (fun σ => pcall 194 [.ref 0, .int x0] σ) (fun σ => pcall 297 [.ref 61, .int x0] σ) := by
  rintro ⟨⟨P, T, W, R⟩, A, m, im, tp, fp, q⟩ σ μ hC hM sm
  have hC : CI P T W R A m im tp fp σ q := hC
  have hM : MI P T W R A m im tp fp μ := hM
  exact Pair.of ((P, T, W, R), A, m, im, tp, fp, q) (q_rests P T W R A x0) (by unfold q_rests; repeat' (first | exact Nat.zero_le _ | exact Nat.le_refl _ | exact Nat.le_succ _ | refine ite_le ?_ ?_ | refine ite_lea ?_ ?_ | split)) (oC.qry hC (q194 hC.cnw )) (oM.qry hM (n297 hM.cmw hM.sl0))
theorem J_341 : Pair id 1 (fun σ => pcall 195 [.ref 0, .int x0, .int x1] σ) (fun σ => pcall 300 [.ref 61, .int x0, .int x1] σ) := by
  rintro ⟨⟨P, T, W, R⟩, A, m, im, tp, fp, q⟩ σ μ hC hM sm
  have hC : CI P T W R A m im tp fp σ q := hC
  have hM : MI P T W R A m im tp fp μ := hM
  exact Pair.of ((P, T, W, R), A, m, im, tp, fp, q) (q_envies P T A x0 x1) (by unfold q_envies; repeat' (first | exact Nat.zero_le _ | exact Nat.le_refl _ | exact Nat.le_succ _ | refine ite_le ?_ ?_ | refine ite_lea ?_ ?_ | split)) (oC.qry hC (q195 hC.cnw )) (oM.qry hM (n300 hM.cmw ))
theorem J_342 : Pair id 1 (fun σ => pcall 196 [.ref 0, .int x0] σ) (fun σ => pcall 301 [.ref 61, .int x0] σ) := by
  rintro ⟨⟨P, T, W, R⟩, A, m, im, tp, fp, q⟩ σ μ hC hM sm
  have hC : CI P T W R A m im tp fp σ q := hC
  have hM : MI P T W R A m im tp fp μ := hM
  exact Pair.of ((P, T, W, R), A, m, im, tp, fp, q) (q_each P T A x0) (by unfold q_each; repeat' (first | exact Nat.zero_le _ | exact Nat.le_refl _ | exact Nat.le_succ _ | refine ite_le ?_ ?_ | refine ite_lea ?_ ?_ | split)) (oC.qry hC (q196 hC.cnw )) (oM.qry hM (n301 hM.cmw ))
theorem J_343 : Pair id 1 (fun σ => pcall 197 [.ref 0, .int x0, .int x1] σ) (fun σ => pcall 304 [.ref 61, .int x0, .int x1] σ) := by
  rintro ⟨⟨P, T, W, R⟩, A, m, im, tp, fp, q⟩ σ μ hC hM sm
  have hC : CI P T W R A m im tp fp σ q := hC
  have hM : MI P T W R A m im tp fp μ := hM
  exact Pair.of ((P, T, W, R), A, m, im, tp, fp, q) (q_far P A x0 x1) (by unfold q_far; repeat' (first | exact Nat.zero_le _ | exact Nat.le_refl _ | exact Nat.le_succ _ | refine ite_le ?_ ?_ | refine ite_lea ?_ ?_ | split)) (oC.qry hC (q197 hC.cnw )) (oM.qry hM (n304 hM.cmw ))
theorem J_344 : Pair id 1 (fun σ => pcall 198 [.ref 0, .int x0, .int x1] σ) (fun σ => pcall 305 [.ref 61, .int x0, .int x1] σ) := by
  rintro ⟨⟨P, T, W, R⟩, A, m, im, tp, fp, q⟩ σ μ hC hM sm
  have hC : CI P T W R A m im tp fp σ q := hC
  have hM : MI P T W R A m im tp fp μ := hM
  exact Pair.of ((P, T, W, R), A, m, im, tp, fp, q) (q_away P A x0 x1) (by unfold q_away; repeat' (first | exact Nat.zero_le _ | exact Nat.le_refl _ | exact Nat.le_succ _ | refine ite_le ?_ ?_ | refine ite_lea ?_ ?_ | split)) (oC.qry hC (q198 hC.cnw )) (oM.qry hM (n305 hM.cmw ))
theorem J_345 : Pair id 2 (fun σ => pcall 199 [.ref 0, .int x0, .int x1] σ) (fun σ => pcall 306 [.ref 61, .int x0, .int x1] σ) := by
  rintro ⟨⟨P, T, W, R⟩, A, m, im, tp, fp, q⟩ σ μ hC hM sm
  have hC : CI P T W R A m im tp fp σ q := hC
  have hM : MI P T W R A m im tp fp μ := hM
  exact Pair.of ((P, T, W, R), A, m, im, tp, fp, q) (q_toAsk P T W R A x0 x1) (by unfold q_toAsk; repeat' (first | exact Nat.zero_le _ | exact Nat.le_refl _ | exact Nat.le_succ _ | refine ite_le ?_ ?_ | refine ite_lea ?_ ?_ | split)) (oC.qry hC (q199 hC.cnw )) (oM.qry hM (n306 hM.cmw hM.sl0))
theorem J_346 : Pair id 1 (fun σ => pcall 200 [.ref 0, .int x0] σ) (fun σ => pcall 307 [.ref 61, .int x0] σ) := by
  rintro ⟨⟨P, T, W, R⟩, A, m, im, tp, fp, q⟩ σ μ hC hM sm
  have hC : CI P T W R A m im tp fp σ q := hC
  have hM : MI P T W R A m im tp fp μ := hM
  exact Pair.of ((P, T, W, R), A, m, im, tp, fp, q) (q_toGive P T W R A x0) (by unfold q_toGive; repeat' (first | exact Nat.zero_le _ | exact Nat.le_refl _ | exact Nat.le_succ _ | refine ite_le ?_ ?_ | refine ite_lea ?_ ?_ | split)) (oC.qry hC (q200 hC.cnw )) (oM.qry hM (n307 hM.cmw hM.sl0))
theorem J_348 : Pair id 1 (fun σ => pcall 202 [.ref 0, .int x0] σ) (fun σ => pcall 309 [.ref 61, .int x0] σ) := by
  rintro ⟨⟨P, T, W, R⟩, A, m, im, tp, fp, q⟩ σ μ hC hM sm
  have hC : CI P T W R A m im tp fp σ q := hC
  have hM : MI P T W R A m im tp fp μ := hM
  exact Pair.of ((P, T, W, R), A, m, im, tp, fp, q) (q_tastes P T W R A m.2.1 x0) (by unfold q_tastes; repeat' (first | exact Nat.zero_le _ | exact Nat.le_refl _ | exact Nat.le_succ _ | refine ite_le ?_ ?_ | refine ite_lea ?_ ?_ | split)) (oC.qry hC (q202 hC.cnw hC.mem.2.2.1 hC.mok.2.2)) (oM.qry hM (n309 hM.cmw hM.sl0 ⟨hM.mem.2.2.1, hM.mem.2.2.2.1⟩ hM.mok.2.2))
theorem J_349 : Pair id 1 (fun σ => pcall 203 [.ref 0, .int x0] σ) (fun σ => pcall 312 [.ref 61, .int x0] σ) := by
  rintro ⟨⟨P, T, W, R⟩, A, m, im, tp, fp, q⟩ σ μ hC hM sm
  have hC : CI P T W R A m im tp fp σ q := hC
  have hM : MI P T W R A m im tp fp μ := hM
  exact Pair.of ((P, T, W, R), A, m, im, tp, fp, q) (q_next P T W R A m.2.1 x0) (by unfold q_next; repeat' (first | exact Nat.zero_le _ | exact Nat.le_refl _ | exact Nat.le_succ _ | refine ite_le ?_ ?_ | refine ite_lea ?_ ?_ | split)) (oC.qry hC (q203 hC.cnw hC.mem.2.2.1 hC.mok.2.2)) (oM.qry hM (n312 hM.cmw hM.sl0 ⟨hM.mem.2.2.1, hM.mem.2.2.2.1⟩ hM.mok.2.2))
theorem J_350 : Pair id 2 (fun σ => pcall 204 [.ref 0, .int x0, .int x1, .int x2] σ) (fun σ => pcall 314 [.ref 61, .int x0, .int x1, .int x2] σ) := by
  rintro ⟨⟨P, T, W, R⟩, A, m, im, tp, fp, q⟩ σ μ hC hM sm
  have hC : CI P T W R A m im tp fp σ q := hC
  have hM : MI P T W R A m im tp fp μ := hM
  exact Pair.of ((P, T, W, R), A, m, im, tp, fp, q) (q_shy P T W R A x0 x1 x2) (by unfold q_shy; repeat' (first | exact Nat.zero_le _ | exact Nat.le_refl _ | exact Nat.le_succ _ | refine ite_le ?_ ?_ | refine ite_lea ?_ ?_ | split)) (oC.qry hC (q204 hC.cnw )) (oM.qry hM (n314 hM.cmw hM.sl0))
theorem J_351 : Pair id 2 (fun σ => pcall 205 [.ref 0, .int x0, .int x1, .int x2] σ) (fun σ => pcall 315 [.ref 61, .int x0, .int x1, .int x2] σ) := by
  rintro ⟨⟨P, T, W, R⟩, A, m, im, tp, fp, q⟩ σ μ hC hM sm
  have hC : CI P T W R A m im tp fp σ q := hC
  have hM : MI P T W R A m im tp fp μ := hM
  exact Pair.of ((P, T, W, R), A, m, im, tp, fp, q) (q_game P T W R A x0 x1 x2) (by unfold q_game; repeat' (first | exact Nat.zero_le _ | exact Nat.le_refl _ | exact Nat.le_succ _ | refine ite_le ?_ ?_ | refine ite_lea ?_ ?_ | split)) (oC.qry hC (q205 hC.cnw )) (oM.qry hM (n315 hM.cmw hM.sl0))
theorem J_352 : Pair id 2 (fun σ => pcall 206 [.ref 0, .int x0, .int x1, .int x2] σ) (fun σ => pcall 317 [.ref 61, .int x0, .int x1, .int x2] σ) := by
  rintro ⟨⟨P, T, W, R⟩, A, m, im, tp, fp, q⟩ σ μ hC hM sm
  have hC : CI P T W R A m im tp fp σ q := hC
  have hM : MI P T W R A m im tp fp μ := hM
  exact Pair.of ((P, T, W, R), A, m, im, tp, fp, q) (q_years P T W R A x0 x1 x2) (by unfold q_years; repeat' (first | exact Nat.zero_le _ | exact Nat.le_refl _ | exact Nat.le_succ _ | refine ite_le ?_ ?_ | refine ite_lea ?_ ?_ | split)) (oC.qry hC (q206 hC.cnw )) (oM.qry hM (n317 hM.cmw hM.sl0))
theorem J_d : Pair id 0 (fun σ => pcall 167 [.ref 0, .int x0] σ) (fun σ => pcall 268 [.ref 61, .int x0] σ) := by
  rintro ⟨⟨P, T, W, R⟩, A, m, im, tp, fp, q⟩ σ μ hC hM sm
  have hC : CI P T W R A m im tp fp σ q := hC
  have hM : MI P T W R A m im tp fp μ := hM
  exact Pair.of ((P, T, W, R), (a_days P T W R A m x0).2.1, (a_days P T W R A m x0).2.2, im, tp, fp, q) (a_days P T W R A m x0).1 (by unfold a_days; repeat' (first | exact Nat.zero_le _ | exact Nat.le_refl _ | exact Nat.le_succ _ | refine ite_le ?_ ?_ | refine ite_lea ?_ ?_ | split)) (o167 hC) (o268 hM)
theorem J_328 : Pair id 1 (fun σ => pcall 181 [.ref 0, .int x0, .int x1] σ) (fun σ => pcall 275 [.ref 61, .int x0, .int x1] σ) := by
  rintro ⟨⟨P, T, W, R⟩, A, m, im, tp, fp, q⟩ σ μ hC hM sm
  have hC : CI P T W R A m im tp fp σ q := hC
  have hM : MI P T W R A m im tp fp μ := hM
  exact Pair.of ((P, T, W, R), (a_ask P T W A m x0 x1).2.1, (a_ask P T W A m x0 x1).2.2, im, tp, fp, q) (a_ask P T W A m x0 x1).1 (by unfold a_ask; repeat' (first | exact Nat.zero_le _ | exact Nat.le_refl _ | exact Nat.le_succ _ | refine ite_le ?_ ?_ | refine ite_lea ?_ ?_ | split)) (o181 hC) (o275 hM)
theorem J_329 : Pair id 1 (fun σ => pcall 182 [.ref 0, .int x0] σ) (fun σ => pcall 277 [.ref 61, .int x0] σ) := by
  rintro ⟨⟨P, T, W, R⟩, A, m, im, tp, fp, q⟩ σ μ hC hM sm
  have hC : CI P T W R A m im tp fp σ q := hC
  have hM : MI P T W R A m im tp fp μ := hM
  exact Pair.of ((P, T, W, R), (a_spoil T A m x0).2.1, (a_spoil T A m x0).2.2, im, tp, fp, q) (a_spoil T A m x0).1 (by unfold a_spoil; repeat' (first | exact Nat.zero_le _ | exact Nat.le_refl _ | exact Nat.le_succ _ | refine ite_le ?_ ?_ | refine ite_lea ?_ ?_ | split)) (o182 hC) (o277 hM)
theorem J_330 : Pair id 1 (fun σ => pcall 183 [.ref 0, .int x0] σ) (fun σ => pcall 278 [.ref 61, .int x0] σ) := by
  rintro ⟨⟨P, T, W, R⟩, A, m, im, tp, fp, q⟩ σ μ hC hM sm
  have hC : CI P T W R A m im tp fp σ q := hC
  have hM : MI P T W R A m im tp fp μ := hM
  exact Pair.of ((P, T, W, R), (a_mend T A m x0).2.1, (a_mend T A m x0).2.2, im, tp, fp, q) (a_mend T A m x0).1 (by unfold a_mend; repeat' (first | exact Nat.zero_le _ | exact Nat.le_refl _ | exact Nat.le_succ _ | refine ite_le ?_ ?_ | refine ite_lea ?_ ?_ | split)) (o183 hC) (o278 hM)
theorem J_331 : Pair id 1 (fun σ => pcall 184 [.ref 0, .int x0, .int x1] σ) (fun σ => pcall 279 [.ref 61, .int x0, .int x1] σ) := by
  rintro ⟨⟨P, T, W, R⟩, A, m, im, tp, fp, q⟩ σ μ hC hM sm
  have hC : CI P T W R A m im tp fp σ q := hC
  have hM : MI P T W R A m im tp fp μ := hM
  exact Pair.of ((P, T, W, R), (a_give P T A m x0 x1).2.1, (a_give P T A m x0 x1).2.2, im, tp, fp, q) (a_give P T A m x0 x1).1 (by unfold a_give; repeat' (first | exact Nat.zero_le _ | exact Nat.le_refl _ | exact Nat.le_succ _ | refine ite_le ?_ ?_ | refine ite_lea ?_ ?_ | split)) (o184 hC) (o279 hM)
theorem J_332 : Pair id 1 (fun σ => pcall 185 [.ref 0, .int x0, .int x1, .int x2] σ) (fun σ => pcall 280 [.ref 61, .int x0, .int x1, .int x2] σ) := by
  rintro ⟨⟨P, T, W, R⟩, A, m, im, tp, fp, q⟩ σ μ hC hM sm
  have hC : CI P T W R A m im tp fp σ q := hC
  have hM : MI P T W R A m im tp fp μ := hM
  exact Pair.of ((P, T, W, R), (a_taste P T A m x0 x1 x2).2.1, (a_taste P T A m x0 x1 x2).2.2, im, tp, fp, q) (a_taste P T A m x0 x1 x2).1 (by unfold a_taste; repeat' (first | exact Nat.zero_le _ | exact Nat.le_refl _ | exact Nat.le_succ _ | refine ite_le ?_ ?_ | refine ite_lea ?_ ?_ | split)) (o185 hC) (o280 hM)
theorem J_u : Pair id 0 (fun σ => pcall 169 [.ref 0] σ) (fun σ => pcall 283 [.ref 61] σ) := by
  rintro ⟨⟨P, T, W, R⟩, A, m, im, tp, fp, q⟩ σ μ hC hM sm
  have hC : CI P T W R A m im tp fp σ q := hC
  have hM : MI P T W R A m im tp fp μ := hM
  exact Pair.of ((P, T, W, R), (a_undo A m).2.1, (a_undo A m).2.2, im, tp, fp, q) (a_undo A m).1 (by unfold a_undo; repeat' (first | exact Nat.zero_le _ | exact Nat.le_refl _ | exact Nat.le_succ _ | refine ite_le ?_ ?_ | refine ite_lea ?_ ?_ | split)) (o169 hC) (o283 hM)
theorem J_347 : Pair id 1 (fun σ => pcall 201 [.ref 0, .int x0, .int x1, .int x2] σ) (fun σ => pcall 308 [.ref 61, .int x0, .int x1, .int x2] σ) := by
  rintro ⟨⟨P, T, W, R⟩, A, m, im, tp, fp, q⟩ σ μ hC hM sm
  have hC : CI P T W R A m im tp fp σ q := hC
  have hM : MI P T W R A m im tp fp μ := hM
  exact Pair.of ((P, T, W, R), (a_see P T A m x0 x1 x2).2.1, (a_see P T A m x0 x1 x2).2.2, im, tp, fp, q) (a_see P T A m x0 x1 x2).1 (by unfold a_see; repeat' (first | exact Nat.zero_le _ | exact Nat.le_refl _ | exact Nat.le_succ _ | refine ite_le ?_ ?_ | refine ite_lea ?_ ?_ | split)) (o201 hC) (o308 hM)
theorem J_r : Pair id 0 (fun σ => pcall 172 [.ref 0] σ) (fun σ => pcall 322 [.ref 61] σ) := by
  rintro ⟨⟨P, T, W, R⟩, A, m, im, tp, fp, q⟩ σ μ hC hM sm
  have hC : CI P T W R A m im tp fp σ q := hC
  have hM : MI P T W R A m im tp fp μ := hM
  exact Pair.of ((P, T, W, R), (a_restore A m im).2.1, (a_restore A m im).2.2, im, tp, fp, q) (a_restore A m im).1 (by unfold a_restore; repeat' (first | exact Nat.zero_le _ | exact Nat.le_refl _ | exact Nat.le_succ _ | refine ite_le ?_ ?_ | refine ite_lea ?_ ?_ | split)) (o172 hC) (o322 hM)
theorem J_333 {b : Bool} : Pair id 1 (fun σ => pcall 186 [.ref 0, .int x0, .int x1, .int (bz b)] σ) (fun σ => pcall 281 [.ref 61, .int x0, .int x1, .int (bz b)] σ) := by
  rintro ⟨⟨P, T, W, R⟩, A, m, im, tp, fp, q⟩ σ μ hC hM sm
  have hC : CI P T W R A m im tp fp σ q := hC
  have hM : MI P T W R A m im tp fp μ := hM
  exact Pair.of ((P, T, W, R), (a_hedge P A m x0 x1 b).2.1, (a_hedge P A m x0 x1 b).2.2, im, tp, fp, q) (a_hedge P A m x0 x1 b).1 (by unfold a_hedge; repeat' (first | exact Nat.zero_le _ | exact Nat.le_refl _ | exact Nat.le_succ _ | refine ite_le ?_ ?_ | refine ite_lea ?_ ?_ | split)) (o186 hC) (o281 hM)
theorem J_f : Pair id 0 (fun σ => pcall 166 [.ref 0] σ) (fun σ => pcall 239 [.ref 61] σ) := by
  rintro ⟨⟨P, T, W, R⟩, A, m, im, tp, fp, q⟩ σ μ hC hM sm
  have hC : CI P T W R A m im tp fp σ q := hC
  have hM : MI P T W R A m im tp fp μ := hM
  exact Pair.of ((P, T, W, R), A, m, im, tp, fp, q) (0, fp) (Nat.zero_le _) (o166 hC) (o239 hM)
theorem J_feed : Pair id 0 (fun σ => pcall 164 [.ref 0, .int x0, .int x1, .int x2, .int x3, .int x4] σ) (fun σ => pcall 209 [.ref 61, .int x0, .int x1, .int x2, .int x3, .int x4] σ) := by
  rintro ⟨⟨P, T, W, R⟩, A, m, im, tp, fp, q⟩ σ μ hC hM sm
  have hC : CI P T W R A m im tp fp σ q := hC
  have hM : MI P T W R A m im tp fp μ := hM
  exact Pair.of ((P, T, W, R), A, m, im, (a_feed tp x0 x1 x2 x3 x4).2, fp, q) (a_feed tp x0 x1 x2 x3 x4).1 (by unfold a_feed; repeat' (first | exact Nat.zero_le _ | exact Nat.le_refl _ | exact Nat.le_succ _ | refine ite_le ?_ ?_ | refine ite_lea ?_ ?_ | split)) (o164 hC) (o209 hM)
end PAIR
