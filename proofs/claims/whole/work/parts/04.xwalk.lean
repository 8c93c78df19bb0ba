/-! numbers as they are printed -/
def ss_b (b : Bool) : Int32 := if b = true then 1 else 0
theorem ss_b1 {b : Bool} (h : b = true) : ss_b b = 1 := if_pos h
theorem ss_b0 {b : Bool} (h : ¬ b = true) : ss_b b = 0 := if_neg h
theorem ss_8 : (8 : Int32) = nI 8 := by decide +kernel
theorem ss_ixX (p v : Nat) : nI p * 8 + nI v = nI (8 * p + v) := by rw [ss_8, pk_mul, nI_add, Nat.mul_comm]
theorem ss_ixY (p v : Nat) : 8 * nI p + nI v = nI (8 * p + v) := by rw [ss_8, pk_mul, nI_add]
theorem ss_ixY8 (p v : Nat) : 8 * nI p + 8 + nI v = nI (8 * (p + 1) + v) := by rw [ss_8, pk_mul, nI_add, nI_add, Nat.mul_succ]
theorem ss_ixYm (p v : Nat) : 8 * nI (p + 1) - 8 + nI v = nI (8 * p + v) := by
  rw [ss_8, pk_mul, pk_sub (by omega), nI_add, show 8 * (p + 1) - 8 = 8 * p from by omega]
theorem ss_clX {p v : Nat} (hp : p ≤ 10) (hv : v < 8) : (nI p * 8 + nI v).toNatClampNeg = 8 * p + v := by rw [ss_ixX, nI_clamp (by omega)]
theorem ss_inX {p v : Nat} (hp : p ≤ 10) (hv : v < 8) : vp_in (nI p * 8 + nI v) 88 := by rw [ss_ixX]; exact vp_in_nI (by omega) (by omega)
theorem ss_clY {p v : Nat} (hp : p ≤ 10) (hv : v < 8) : (8 * nI p + nI v).toNatClampNeg = 8 * p + v := by rw [ss_ixY, nI_clamp (by omega)]
theorem ss_inY {p v : Nat} (hp : p ≤ 10) (hv : v < 8) : vp_in (8 * nI p + nI v) 88 := by rw [ss_ixY]; exact vp_in_nI (by omega) (by omega)
theorem ss_inJ {p v : Nat} (hp : p < 8) (hv : v < 8) : vp_in (8 * nI p + nI v) 64 := by rw [ss_ixY]; exact vp_in_nI (by omega) (by omega)
/-! X: the small ones -/
section
variable {post : Int32 → Prop} {n : Nat} {gk wk sd : Int32} {nb st : Nat → Int32}
theorem ss_xgood {x : Int32} (hn : n ≤ 8) (h1 : ∀ v, v < n → x = nI v → post 1) (h0 : (x < 0 ∨ nI n ≤ x) → post 0) : wpX_isGood post (nI n, gk, wk, sd, nb, st) x := by
  unfold wpX_isGood
  dsimp only
  rcases pk_ix x (n := n) (by omega) with h | h | ⟨v, hv, rfl⟩
  · exact br_t h (h0 (Or.inl h))
  · refine br_c (fun _ => h0 (Or.inr h)) (fun _ => br_t h (h0 (Or.inr h)))
  · exact br_f (nI_pos (by omega)) (br_f (nI_ge hv (by omega)) (h1 v hv rfl))
theorem ss_xround {x : Int32} (h1 : ∀ p, p ≤ 10 → x = nI p → post 1) (h0 : (x < 0 ∨ ¬ x ≤ 10) → post 0) : wpX_isRound post (nI n, gk, wk, sd, nb, st) x := by
  unfold wpX_isRound
  dsimp only
  refine br_c (fun h => h0 (Or.inl h)) (fun h => br_c (fun h2 => h0 (Or.inr (Int32.not_le.mpr h2))) (fun h2 => ?_))
  obtain ⟨p, hp, e⟩ := nI_of2 (M := 10) (n := 10) (by decide) h (Int32.not_lt.mp h2)
  exact h1 p hp e
theorem ss_xj {u v : Nat} {b : Bool} (hu : u < 8) (hv : v < 32) (e : bt (nb u) v = b) (h : post (ss_b b)) : wpX_joined post (nI n, gk, wk, sd, nb, st) (nI u) (nI v) := by
  unfold wpX_joined
  dsimp only
  rw [nI_clamp (by omega)]
  refine ⟨vp_in_nI hu (by omega), ?_⟩
  by_cases hb : b = true
  · rw [ss_b1 hb] at h
    exact br_t ((ss_test _ hv).mpr (e.trans hb)) h
  · rw [ss_b0 hb] at h
    exact br_f (fun z => hb (e.symm.trans ((ss_test _ hv).mp z))) h
theorem ss_xs {p v : Nat} {x : Int32} (hp : p ≤ 10) (hv : v < 8) (e : st (8 * p + v) = x) (h : post x) : wpX_stateAfter post (nI n, gk, wk, sd, nb, st) (nI p) (nI v) := by
  unfold wpX_stateAfter
  dsimp only
  rw [ss_clX hp hv, e]
  exact ⟨ss_inX hp hv, h⟩
/-! X: the folds -/
variable {a : Nat → Bool} {f : Nat → Int32} {p v : Nat}
theorem ss_xmaxL {s : Int32} (hn : n ≤ 8) (hp : p ≤ 10) (hv : v < n) (ha : ∀ u, u < n → bt (nb v) u = a u) (hf : ∀ u, u < n → st (8 * p + u) = f u) (h : post (ss_max a f s n)) : ∀ d j acc, j + d = n → acc = ss_max a f s j → wX_greatestAround_10 post (nI p) (nI v) (nI n) gk wk sd nb st (d + 1) acc (nI j) := by
  intro d
  induction d with
  | zero =>
    intro j acc hj he
    have : j = n := by omega
    subst this he
    exact br_t (nI_le (Nat.le_refl _) (by omega)) h
  | succ d ih =>
    intro j acc hj he
    refine br_f (nI_ge (by omega) (by omega)) (ss_xj (by omega) (by omega) (ha j (by omega)) ?_)
    by_cases hb : a j = true
    · refine br_f (by rw [ss_b1 hb]; decide) (ss_xs hp (by omega) (hf j (by omega)) ?_)
      by_cases hc : ss_max a f s j < f j
      · refine br_f (by rw [he]; exact Int32.not_le.mpr hc) (ss_xs hp (by omega) (hf j (by omega)) (nm_r (nI_1 j) (ih (j + 1) _ (by omega) ?_)))
        simp only [ss_max, hb, hc, if_true]
      · refine br_t (by rw [he]; exact Int32.not_lt.mp hc) (nm_r (nI_1 j) (ih (j + 1) _ (by omega) ?_))
        simp only [ss_max, hb, hc, if_true, if_false, he]
    · refine br_t (ss_b0 hb) (nm_r (nI_1 j) (ih (j + 1) _ (by omega) ?_))
      exact he.trans (if_neg hb).symm
theorem ss_xmax (hn : n ≤ 8) (hp : p ≤ 10) (hv : v < n) (ha : ∀ u, u < n → bt (nb v) u = a u) (hf : ∀ u, u < n → st (8 * p + u) = f u) (h : post (ss_max a f (f v) n)) : wpX_greatestAround post (nI n, gk, wk, sd, nb, st) (nI p) (nI v) := by
  unfold wpX_greatestAround
  dsimp only
  exact ss_xs hp (by omega) (hf v hv) ⟨n + 1, ss_xmaxL hn hp hv ha hf h n 0 _ (by omega) rfl⟩
theorem ss_xminL {s t : Int32} (hn : n ≤ 8) (hp : p ≤ 10) (hv : v < n) (ha : ∀ u, u < n → bt (nb v) u = a u) (hf : ∀ u, u < n → st (8 * p + u) = f u) (h : post (ss_min a f t s n)) : ∀ d j acc, j + d = n → acc = ss_min a f t s j → wX_leastAround_11 post (nI p) (nI v) t (nI n) gk wk sd nb st (d + 1) acc (nI j) := by
  intro d
  induction d with
  | zero =>
    intro j acc hj he
    have : j = n := by omega
    subst this he
    exact br_t (nI_le (Nat.le_refl _) (by omega)) h
  | succ d ih =>
    intro j acc hj he
    refine br_f (nI_ge (by omega) (by omega)) (ss_xj (by omega) (by omega) (ha j (by omega)) ?_)
    by_cases hb : a j = true
    · refine br_f (by rw [ss_b1 hb]; decide) (ss_xs hp (by omega) (hf j (by omega)) ?_)
      by_cases hc : f j + t < ss_min a f t s j
      · refine br_f (by rw [he]; exact Int32.not_le.mpr hc) (ss_xs hp (by omega) (hf j (by omega)) (nm_e (nm_r (nI_1 j) (ih (j + 1) _ (by omega) ?_))))
        simp only [ss_min, hb, hc, if_true]
      · refine br_t (by rw [he]; exact Int32.not_lt.mp hc) (nm_r (nI_1 j) (ih (j + 1) _ (by omega) ?_))
        simp only [ss_min, hb, hc, if_true, if_false, he]
    · refine br_t (ss_b0 hb) (nm_r (nI_1 j) (ih (j + 1) _ (by omega) ?_))
      exact he.trans (if_neg hb).symm
theorem ss_xmin {t : Int32} (hn : n ≤ 8) (hp : p ≤ 10) (hv : v < n) (ha : ∀ u, u < n → bt (nb v) u = a u) (hf : ∀ u, u < n → st (8 * p + u) = f u) (h : post (ss_min a f t (f v) n)) : wpX_leastAround post (nI n, gk, wk, sd, nb, st) (nI p) (nI v) t := by
  unfold wpX_leastAround
  dsimp only
  exact ss_xs hp (by omega) (hf v hv) ⟨n + 1, ss_xminL hn hp hv ha hf h n 0 _ (by omega) rfl⟩
theorem ss_xsumL (hn : n ≤ 8) (hp : p ≤ 10) (hv : v < n) (ha : ∀ u, u < n → bt (nb v) u = a u) (hf : ∀ u, u < n → st (8 * p + u) = f u) (h : post (ss_sum a f n)) : ∀ d j acc, j + d = n → acc = ss_sum a f j → wX_sumOfNeighbours_5 post (nI p) (nI v) (nI n) gk wk sd nb st (d + 1) acc (nI j) := by
  intro d
  induction d with
  | zero =>
    intro j acc hj he
    have : j = n := by omega
    subst this he
    exact br_t (nI_le (Nat.le_refl _) (by omega)) h
  | succ d ih =>
    intro j acc hj he
    refine br_f (nI_ge (by omega) (by omega)) (ss_xj (by omega) (by omega) (ha j (by omega)) ?_)
    by_cases hb : a j = true
    · refine br_f (by rw [ss_b1 hb]; decide) (ss_xs hp (by omega) (hf j (by omega)) (nm_e (nm_r (nI_1 j) (ih (j + 1) _ (by omega) ?_))))
      simp only [ss_sum, hb, if_true, he]
    · refine br_t (ss_b0 hb) (nm_r (nI_1 j) (ih (j + 1) _ (by omega) ?_))
      exact he.trans (if_neg hb).symm
theorem ss_xsum (hn : n ≤ 8) (hp : p ≤ 10) (hv : v < n) (ha : ∀ u, u < n → bt (nb v) u = a u) (hf : ∀ u, u < n → st (8 * p + u) = f u) (h : post (ss_sum a f n)) : wpX_sumOfNeighbours post (nI n, gk, wk, sd, nb, st) (nI p) (nI v) := by
  unfold wpX_sumOfNeighbours
  dsimp only
  exact ⟨n + 1, ss_xsumL hn hp hv ha hf h n 0 _ (by omega) rfl⟩
theorem ss_xxorL {s : Int32} (hn : n ≤ 8) (hp : p ≤ 10) (hv : v < n) (ha : ∀ u, u < n → bt (nb v) u = a u) (hf : ∀ u, u < n → st (8 * p + u) = f u) (h : post (ss_xor a f s n)) : ∀ d j acc, j + d = n → acc = ss_xor a f s j → wX_exclusiveOrAround_10 post (nI p) (nI v) (nI n) gk wk sd nb st (d + 1) acc (nI j) := by
  intro d
  induction d with
  | zero =>
    intro j acc hj he
    have : j = n := by omega
    subst this he
    exact br_t (nI_le (Nat.le_refl _) (by omega)) h
  | succ d ih =>
    intro j acc hj he
    refine br_f (nI_ge (by omega) (by omega)) (ss_xj (by omega) (by omega) (ha j (by omega)) ?_)
    by_cases hb : a j = true
    · refine br_f (by rw [ss_b1 hb]; decide) (ss_xs hp (by omega) (hf j (by omega)) (nm_e (nm_r (nI_1 j) (ih (j + 1) _ (by omega) ?_))))
      simp only [ss_xor, hb, if_true, he]
    · refine br_t (ss_b0 hb) (nm_r (nI_1 j) (ih (j + 1) _ (by omega) ?_))
      exact he.trans (if_neg hb).symm
theorem ss_xxor (hn : n ≤ 8) (hp : p ≤ 10) (hv : v < n) (ha : ∀ u, u < n → bt (nb v) u = a u) (hf : ∀ u, u < n → st (8 * p + u) = f u) (h : post (ss_xor a f (f v) n)) : wpX_exclusiveOrAround post (nI n, gk, wk, sd, nb, st) (nI p) (nI v) := by
  unfold wpX_exclusiveOrAround
  dsimp only
  exact ss_xs hp (by omega) (hf v hv) ⟨n + 1, ss_xxorL hn hp hv ha hf h n 0 _ (by omega) rfl⟩
theorem ss_xnx {g : Nat} (hg : g ≤ 5) (hn : n ≤ 8) (hp : p ≤ 10) (hv : v < n) (ha : ∀ u, u < n → bt (nb v) u = a u) (hf : ∀ u, u < n → st (8 * p + u) = f u) (h : post (ss_nx g n a f (f v))) : wpX_nextState post (nI n, nI g, wk, sd, nb, st) (nI p) (nI v) := by
  unfold wpX_nextState
  dsimp only
  have hg6 : g = 0 ∨ g = 1 ∨ g = 2 ∨ g = 3 ∨ g = 4 ∨ g = 5 := by omega
  rcases hg6 with rfl | rfl | rfl | rfl | rfl | rfl
  · exact br_f (by decide) (br_f (by decide) (br_t (by decide) (ss_xmax hn hp hv ha hf h)))
  · exact br_f (by decide) (br_f (by decide) (br_f (by decide) (br_t (by decide) (ss_xmin hn hp hv ha hf h))))
  · exact br_f (by decide) (br_f (by decide) (br_f (by decide) (br_f (by decide) (br_t (by decide) (ss_xs hp (by omega) (hf v hv) (ss_xsum hn hp hv ha hf h))))))
  · exact br_f (by decide) (br_f (by decide) (br_f (by decide) (br_f (by decide) (br_f (by decide) (br_t (by decide) (ss_xxor hn hp hv ha hf h))))))
  · exact br_f (by decide) (br_f (by decide) (br_f (by decide) (br_f (by decide) (br_f (by decide) (br_f (by decide) (br_t (by decide) (ss_xmin hn hp hv ha hf h)))))))
  · exact br_f (by decide) (br_t (by decide) (ss_xs hp (by omega) (hf v hv) (ss_xsum hn hp hv ha hf h)))
end
