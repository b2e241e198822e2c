/-! ===== the law's start: rules (written by wip/gen/ctor.py) ===== -/
section CTOR
variable {b k pc pc' c m n : Nat} {ls st : List Value} {σ σ' τ : pS} {t : Option pZ}
def stP (z : pS) (p : Nat × (Nat → Int32)) : pS := (pn z, pcl z, psl z, gI z, gJ z, gR z, p)
theorem n_call {b' : Nat} {av rest : List Value} (h : CallQ b pc ls st σ b' av rest) (hlv : lv b' (rk b' av) < lv b k) (hh : hns b = []) (hp : pc + 3 = pc') (hy : pcall b' av σ = some (0, .null, τ)) (H : Le t (den b k pc' ls rest τ)) : Le t (den b k pc ls st σ) := fun z hz =>
  r_callV (f := fun s => den b k pc' ls rest s) h hlv hh hp (fun _ _ _ => Le.rfl') z (by rw [hy, bV_ret]; exact H z hz)
theorem n_callA {b' q : Nat} {av rest : List Value} (h : CallQ b pc ls st σ b' av rest) (hlv : lv b' (rk b' av) < lv b k) (hh : hns b = []) (hp : pc + 3 = pc') (hy : pcall b' av σ = some (1, .ref q, τ)) (H : Le t (den b k pc' ls (.ref q :: rest) τ)) : Le t (den b k pc ls st σ) := fun z hz =>
  r_callA (f := fun x s => den b k pc' ls (.ref x :: rest) s) h hlv hh hp (fun _ _ _ => Le.rfl') z (by rw [hy, bA_ret]; exact H z hz)
theorem n_new {i ci x : Nat} (h : cd b pc = some (.new i, 3)) (hp : pc + 3 = pc') (hc : po b = c) (hK : plK c i = some (ci, x)) (hn : pn σ = m) (hk : kd m = (ci, 0)) (hci : ci < 10) (hm : m < 1000) (e : sN σ (nf ci) = σ') (H : Le t (den b k pc' ls (.ref m :: st) σ')) : Le t (den b k pc ls st σ) := by
  subst hp; subst hc; subst hn; subst e
  exact r_go h (by simp only [stpI, ln, a_new, hK, jm, if_true]; rw [if_neg (by omega), if_pos ⟨hk, hci, hm⟩]) H
theorem newa_ok {kc dl : Nat} (hn9 : n ≤ 1000000) (hn : pn σ = m) (hk : kd m = (kc, n)) (hm : m < 1000) : a_newa kc dl pc ls (.int (ι n) :: st) σ = jm (pc + dl) ls (.ref m :: st) (sN σ n) := by
  subst hn
  show (if ι n < 0 ∨ 1000000 < (ι n).toNatClampNeg ∨ ¬ pn σ < 1000 ∨ ¬ kd (pn σ) = (kc, (ι n).toNatClampNeg) then none else jm (pc + dl) ls (.ref (pn σ) :: st) (sN σ (ι n).toNatClampNeg)) = _
  have e : (ι n).toNatClampNeg = n := ix_ι (by omega)
  rw [e, if_neg]
  rintro (g | g | g | g)
  · exact absurd g (by rw [show (0 : Int32) = ι 0 from rfl, ι_lt (by omega) (by omega)]; omega)
  · omega
  · exact g hm
  · exact g hk
theorem n_newaI (h : cd b pc = some (.newarray .int, 2)) (hp : pc + 2 = pc') (hn9 : n ≤ 1000000) (hn : pn σ = m) (hk : kd m = (100, n)) (hm : m < 1000) (e : sN σ n = σ') (H : Le t (den b k pc' ls (.ref m :: st) σ')) : Le t (den b k pc ls (.int (ι n) :: st) σ) := by
  subst hp; subst e
  exact r_go h (by simp only [stpI, ln, newa_ok hn9 hn hk hm, jm, if_true]) H
theorem n_newaJ (h : cd b pc = some (.newarray .long, 2)) (hp : pc + 2 = pc') (hn9 : n ≤ 1000000) (hn : pn σ = m) (hk : kd m = (101, n)) (hm : m < 1000) (e : sN σ n = σ') (H : Le t (den b k pc' ls (.ref m :: st) σ')) : Le t (den b k pc ls (.int (ι n) :: st) σ) := by
  subst hp; subst e
  exact r_go h (by simp only [stpI, ln, newa_ok hn9 hn hk hm, jm, if_true]) H
theorem n_newaR {i : Nat} (h : cd b pc = some (.anewarray i, 3)) (hp : pc + 3 = pc') (hc : po b = 9) (hi : i = 9) (hn9 : n ≤ 1000000) (hn : pn σ = m) (hk : kd m = (102, n)) (hm : m < 1000) (e : sN σ n = σ') (H : Le t (den b k pc' ls (.ref m :: st) σ')) : Le t (den b k pc ls (.int (ι n) :: st) σ) := by
  subst hp; subst e
  exact r_go h (by simp only [stpI, ln, hc, hi, and_self, newa_ok hn9 hn hk hm, jm, if_true]) H
theorem n_aast {a j q : Nat} (h : cd b pc = some (.aastore, 1)) (hp : pc + 1 = pc') (hk : kd a = (102, n)) (hj : j < n) (hj2 : j < 1000) (hq : (kd q).1 = 200 ∧ (kd q).2 < 26) (e : sR σ a j (some q) = σ') (H : Le t (den b k pc' ls st σ')) : Le t (den b k pc ls (.ref q :: .int (ι j) :: .ref a :: st) σ) := by
  subst hp; subst e
  have e2 : (ι j).toNatClampNeg = j := ix_ι (by omega)
  have hc : ¬ (ι j < 0 ∨ n ≤ (ι j).toNatClampNeg ∨ ¬ ((kd q).1 = 200 ∧ (kd q).2 < 26)) := by
    rw [e2]
    rintro (g | g | g)
    · exact absurd g (by rw [show (0 : Int32) = ι 0 from rfl, ι_lt (by omega) (by omega)]; omega)
    · omega
    · exact g hq
  refine r_go h ?_ H
  have e3 : a_aast pc ls (.ref q :: .int (ι j) :: .ref a :: st) σ = jm (pc + 1) ls st (sR σ a j (some q)) := by
    unfold a_aast
    simp only [hk]
    rw [if_neg hc, e2]
  simp only [stpI, ln, e3, jm, if_true]
theorem n_putI {i ci f x a : Nat} {v : Int32} (h : cd b pc = some (.putfield i, 3)) (hp : pc + 3 = pc') (hc : po b = c) (hpl : plF c i = some (ci, f, x)) (ht : ft ci f = (0, false)) (hk : kd a = (ci, 0)) (e : sI σ a f v = σ') (H : Le t (den b k pc' ls st σ')) : Le t (den b k pc ls (.int v :: .ref a :: st) σ) := by
  subst e; exact r_putI h hp hc hpl ht hk H
theorem n_putR {i ci f x a q : Nat} (h : cd b pc = some (.putfield i, 3)) (hp : pc + 3 = pc') (hc : po b = c) (hpl : plF c i = some (ci, f, x)) (ht : (ft ci f).1 = 3) (ht2 : (ft ci f).2 = false ∨ isin b = true ∧ c = ci) (hk : kd a = (ci, 0)) (e : sR σ a f (some q) = σ') (H : Le t (den b k pc' ls st σ')) : Le t (den b k pc ls (.ref q :: .ref a :: st) σ) := by
  subst e; exact r_putR h hp hc hpl ht ht2 hk H
end CTOR
