/-! pure answers, and X's questions -/
def ss_tot (f : Nat → Int32) : Nat → Int32
  | 0 => 0
  | j + 1 => ss_tot f j + f j
def ss_kd (f : Nat → Int32) : Nat → Bool := fun v => !ss_any (fun u => decide (f u = f v)) v
def ss_ch (f h : Nat → Int32) : Nat → Bool := fun v => !decide (f v = h v)
def ss_se (T : Nat → Nat → Int32) (n : Nat) : Nat → Nat → Int32 := ss_fst (fun r => decide (ss_cnt (ss_ch (T (r + 1)) (T r)) n = 0)) (-1)
def ss_re (T : Nat → Nat → Int32) (v : Nat) (x : Int32) : Nat → Nat → Int32 := ss_fst (fun r => decide (T r v = x)) (-2)
theorem ss_ch_t {f h : Nat → Int32} {v : Nat} (e : ¬ f v = h v) : ss_ch f h v = true := by
  show (!decide (f v = h v)) = true
  rw [decide_eq_false e]; rfl
theorem ss_ch_f {f h : Nat → Int32} {v : Nat} (e : f v = h v) : ¬ ss_ch f h v = true := by
  show ¬ (!decide (f v = h v)) = true
  rw [decide_eq_true e]; decide
theorem ss_nz {c : Nat} (h : c < 100) : nI c = 0 ↔ c = 0 := by
  rw [← nI_0, nI_eq (by omega) (by omega)]
section
variable {post : Int32 → Prop} {n p : Nat} {gk wk sd : Int32} {nb st : Nat → Int32} {f : Nat → Int32}
theorem ss_xsmL (hn : n ≤ 8) (hp : p ≤ 10) (hf : ∀ u, u < n → st (8 * p + u) = f u) (h : post (ss_tot f n)) : ∀ d j acc, j + d = n → acc = ss_tot f j → wX_sum_14 post (nI p) (nI n) gk wk sd nb st (d + 1) acc (nI j) := by
  intro d
  induction d with
  | zero =>
    intro j acc hj he
    have : j = n := by omega
    subst this he
    exact br_t (nI_le (Nat.le_refl _) (by omega)) h
  | succ d ih =>
    intro j acc hj he
    refine br_f (nI_ge (by omega) (by omega)) (ss_xs hp (by omega) (hf j (by omega)) (nm_e (nm_r (nI_1 j) (ih (j + 1) _ (by omega) ?_))))
    rw [he]; rfl
theorem ss_xfiL {v : Nat} (hn : n ≤ 8) (hp : p ≤ 10) (hv : v < n) (hf : ∀ u, u < n → st (8 * p + u) = f u) (h : post (ss_b (ss_kd f v))) : ∀ d j, j + d = v → ss_any (fun u => decide (f u = f v)) j = false → wX_isFirstWithItsState_2 post (nI p) (nI v) (nI n) gk wk sd nb st (d + 1) (nI j) := by
  intro d
  induction d with
  | zero =>
    intro j hj he
    have : j = v := by omega
    subst this
    refine br_t (nI_le (Nat.le_refl _) (by omega)) ?_
    have e : ss_kd f j = true := by
      show (!ss_any (fun u => decide (f u = f j)) j) = true
      rw [he]; rfl
    rw [ss_b1 e] at h
    exact h
  | succ d ih =>
    intro j hj he
    refine br_f (nI_ge (by omega) (by omega)) (ss_xs hp (by omega) (hf j (by omega)) (ss_xs hp (by omega) (hf v hv) ?_))
    by_cases hc : f j = f v
    · have e : ¬ ss_kd f v = true := by
        show ¬ (!ss_any (fun u => decide (f u = f v)) v) = true
        rw [ss_any_iff.mpr ⟨j, by omega, decide_eq_true hc⟩]; decide
      rw [ss_b0 e] at h
      exact br_t hc h
    · refine br_f hc (nm_r (nI_1 j) (ih (j + 1) (by omega) ?_))
      show (ss_any (fun u => decide (f u = f v)) j || decide (f j = f v)) = false
      rw [he, decide_eq_false hc]; rfl
theorem ss_xfi {v : Nat} (hn : n ≤ 8) (hp : p ≤ 10) (hv : v < n) (hf : ∀ u, u < n → st (8 * p + u) = f u) (h : post (ss_b (ss_kd f v))) : wpX_isFirstWithItsState post (nI n, gk, wk, sd, nb, st) (nI p) (nI v) := by
  unfold wpX_isFirstWithItsState
  dsimp only
  exact ⟨v + 1, ss_xfiL hn hp hv hf h v 0 (by omega) rfl⟩
theorem ss_xkdL (hn : n ≤ 8) (hp : p ≤ 10) (hf : ∀ u, u < n → st (8 * p + u) = f u) (h : post (nI (ss_cnt (ss_kd f) n))) : ∀ d j acc, j + d = n → acc = nI (ss_cnt (ss_kd f) j) → wX_kinds_14 post (nI p) (nI n) gk wk sd nb st (d + 1) acc (nI j) := by
  intro d
  induction d with
  | zero =>
    intro j acc hj he
    have : j = n := by omega
    subst this he
    exact br_t (nI_le (Nat.le_refl _) (by omega)) h
  | succ d ih =>
    intro j acc hj he
    refine br_f (nI_ge (by omega) (by omega)) (ss_xfi hn hp (by omega) hf ?_)
    by_cases hb : ss_kd f j = true
    · refine br_f (by rw [ss_b1 hb]; decide) (nm_e (nm_r (nI_1 j) (ih (j + 1) _ (by omega) ?_)))
      rw [he, nI_1, ss_cnt_t hb]
    · refine br_t (ss_b0 hb) (nm_r (nI_1 j) (ih (j + 1) _ (by omega) ?_))
      rw [he, ss_cnt_f hb]
theorem ss_xchL {h1 : Nat → Int32} (hn : n ≤ 8) (hp : p < 10) (hf : ∀ u, u < n → st (8 * p + u) = f u) (hf1 : ∀ u, u < n → st (8 * (p + 1) + u) = h1 u) (h : post (nI (ss_cnt (ss_ch h1 f) n))) : ∀ d j acc, j + d = n → acc = nI (ss_cnt (ss_ch h1 f) j) → wX_countChanges_4 post (nI (p + 1)) (nI n) gk wk sd nb st (d + 1) acc (nI j) := by
  intro d
  induction d with
  | zero =>
    intro j acc hj he
    have : j = n := by omega
    subst this he
    exact br_t (nI_le (Nat.le_refl _) (by omega)) h
  | succ d ih =>
    intro j acc hj he
    refine br_f (nI_ge (by omega) (by omega)) (ss_xs (by omega) (by omega) (hf1 j (by omega)) ?_)
    rw [nI_pred]
    refine ss_xs (by omega) (by omega) (hf j (by omega)) ?_
    by_cases hc : h1 j = f j
    · refine br_t hc (nm_r (nI_1 j) (ih (j + 1) _ (by omega) ?_))
      rw [he, ss_cnt_f (ss_ch_f hc)]
    · refine br_f hc (nm_e (nm_r (nI_1 j) (ih (j + 1) _ (by omega) ?_)))
      rw [he, nI_1, ss_cnt_t (ss_ch_t hc)]
theorem ss_xch {h1 : Nat → Int32} (hn : n ≤ 8) (hp : p < 10) (hf : ∀ u, u < n → st (8 * p + u) = f u) (hf1 : ∀ u, u < n → st (8 * (p + 1) + u) = h1 u) (h : post (nI (ss_cnt (ss_ch h1 f) n))) : wpX_countChanges post (nI n, gk, wk, sd, nb, st) (nI (p + 1)) := by
  unfold wpX_countChanges
  dsimp only
  exact ⟨n + 1, ss_xchL hn hp hf hf1 h n 0 _ (by omega) rfl⟩
variable {T : Nat → Nat → Int32}
theorem ss_xseL (hn : n ≤ 8) (hT : ∀ p v, p ≤ 10 → v < n → st (8 * p + v) = T p v) : ∀ d j, j + d = 10 → post (ss_se T n d j) → wX_settled_2 post (nI n) gk wk sd nb st (d + 1) (nI j) := by
  intro d
  induction d with
  | zero =>
    intro j hj h
    exact br_t (nI_le (a := 10) (by omega) (by omega)) h
  | succ d ih =>
    intro j hj h
    refine br_f (nI_ge (b := 10) (by omega) (by omega)) ?_
    rw [nI_1]
    refine ss_xch hn (by omega) (fun u hu => hT j u (by omega) hu) (fun u hu => hT (j + 1) u (by omega) hu) ?_
    have hz := ss_nz (c := ss_cnt (ss_ch (T (j + 1)) (T j)) n) (by have := ss_cnt_le (ss_ch (T (j + 1)) (T j)) n; omega)
    by_cases hc : ss_cnt (ss_ch (T (j + 1)) (T j)) n = 0
    · have e : ss_se T n (d + 1) j = nI j := ss_fst_t (decide_eq_true hc)
      rw [e] at h
      exact br_t (hz.mpr hc) h
    · have e : ss_se T n (d + 1) j = ss_se T n d (j + 1) := ss_fst_f (fun z => hc (of_decide_eq_true z))
      rw [e] at h
      refine br_f (fun z => hc (hz.mp z)) (nm_e ?_)
      exact ih (j + 1) (by omega) h
theorem ss_xreL {v : Nat} {x : Int32} (hn : n ≤ 8) (hv : v < n) (hT : ∀ p v, p ≤ 10 → v < n → st (8 * p + v) = T p v) : ∀ d j, j + d = 11 → post (ss_re T v x d j) → wX_reached_12 post (nI v) x (nI n) gk wk sd nb st (d + 1) (nI j) := by
  intro d
  induction d with
  | zero =>
    intro j hj h
    exact br_t (nI_lt (a := 10) (by omega) (by omega)) h
  | succ d ih =>
    intro j hj h
    refine br_f (nI_nlt (b := j) (a := 10) (by omega) (by omega)) (ss_xs (by omega) (by omega) (hT j v (by omega) hv) ?_)
    by_cases hc : T j v = x
    · have e : ss_re T v x (d + 1) j = nI j := ss_fst_t (decide_eq_true hc)
      rw [e] at h
      exact br_t hc h
    · have e : ss_re T v x (d + 1) j = ss_re T v x d (j + 1) := ss_fst_f (fun z => hc (of_decide_eq_true z))
      rw [e] at h
      exact br_f hc (nm_r (nI_1 j) (ih (j + 1) (by omega) h))
end
