/-! X: the table is filled -/
section
variable {n g : Nat} {wk sd : Int32} {nb : Nat → Int32} {A : Nat → Nat → Bool} {s : Nat → Int32} {post : SX → Prop}
theorem ss_xfill10 {J : Int32 → (Nat → Int32) → (Nat → Int32) → Prop} {q : Nat} (hg : g ≤ 5) (hn : n ≤ 8) (hq : q < 10) (hA : ∀ v u, v < n → u < 32 → bt (nb v) u = A v u)
    (h : ∀ st, (∀ p v, p ≤ q + 1 → v < n → st (8 * p + v) = ss_st g n A s p v) → J (nI (q + 1 + 1)) nb st) :
    ∀ d j st, j + d = n → (∀ p v, p ≤ q → v < n → st (8 * p + v) = ss_st g n A s p v) → (∀ v, v < j → st (8 * (q + 1) + v) = ss_st g n A s (q + 1) v) → wX_fillRounds_10 post J (nI (q + 1)) (nI n) (nI g) wk sd (d + 1) (nI j) nb st := by
  intro d
  induction d with
  | zero =>
    intro j st hj h1 h2
    have : j = n := by omega
    subst this
    refine br_t (nI_le (Nat.le_refl _) (by omega)) (nm_r (nI_1 _) (h st ?_))
    intro p v hp hv
    by_cases e : p = q + 1
    · rw [e]; exact h2 v hv
    · exact h1 p v (by omega) hv
  | succ d ih =>
    intro j st hj h1 h2
    refine br_f (nI_ge (by omega) (by omega)) ?_
    rw [nI_pred]
    refine ss_xnx (a := A j) (f := ss_st g n A s q) hg hn (by omega) (by omega) (fun u hu => hA j u (by omega) (by omega)) (fun u hu => h1 q u (by omega) hu) ?_
    refine ⟨ss_inX (by omega) (by omega), nm_r (by rw [ss_clX (by omega) (by omega)]) (nm_r (nI_1 j) (ih (j + 1) _ (by omega) ?_ ?_))⟩
    · intro p v hp hv
      rw [pk_un (by omega)]
      exact h1 p v hp hv
    · intro v hv
      by_cases e : v = j
      · rw [e, pk_us]
        rfl
      · rw [pk_un (by omega)]
        exact h2 v (by omega)
theorem ss_xfill2 (hg : g ≤ 5) (hn : n ≤ 8) (hA : ∀ v u, v < n → u < 32 → bt (nb v) u = A v u)
    (h : ∀ st, (∀ p v, p ≤ 10 → v < n → st (8 * p + v) = ss_st g n A s p v) → post (nI n, nI g, wk, sd, nb, st)) :
    ∀ d q st, q + d = 10 → (∀ p v, p ≤ q → v < n → st (8 * p + v) = ss_st g n A s p v) → wX_fillRounds_2 post (nI n) (nI g) wk sd (d + 1) (nI (q + 1)) nb st := by
  intro d
  induction d with
  | zero =>
    intro q st hq h1
    have : q = 10 := by omega
    subst this
    exact br_t (by decide) (h st h1)
  | succ d ih =>
    intro q st hq h1
    refine br_f (nI_nlt (b := q + 1) (a := 10) (by omega) (by omega)) ⟨n + 1, ss_xfill10 hg hn (by omega) hA (fun st' h2 => ih (q + 1) st' (by omega) h2) n 0 st (by omega) h1 (fun v hv => absurd hv (Nat.not_lt_zero v))⟩
theorem ss_xfill {st : Nat → Int32} (hg : g ≤ 5) (hn : n ≤ 8) (hA : ∀ v u, v < n → u < 32 → bt (nb v) u = A v u) (hs : ∀ v, v < n → st v = s v)
    (h : ∀ st, (∀ p v, p ≤ 10 → v < n → st (8 * p + v) = ss_st g n A s p v) → post (nI n, nI g, wk, sd, nb, st)) : wpX_fillRounds post (nI n, nI g, wk, sd, nb, st) := by
  unfold wpX_fillRounds
  dsimp only
  refine ⟨11, ss_xfill2 hg hn hA h 10 0 st (by omega) ?_⟩
  intro p v hp hv
  have : p = 0 := by omega
  subst this
  rw [show 8 * 0 + v = v from by omega]
  exact hs v hv
end
/-! X: neighbours, edges, parts -/
section
variable {post : Int32 → Prop} {n : Nat} {gk wk sd : Int32} {nb st : Nat → Int32} {A : Nat → Nat → Bool}
theorem ss_xcnL {v : Nat} (hn : n ≤ 8) (hv : v < n) (hA : ∀ v u, v < n → u < 32 → bt (nb v) u = A v u) (h : post (nI (ss_deg A n v))) : ∀ d j acc, j + d = n → acc = nI (ss_cnt (A v) j) → wX_countNeighbours_4 post (nI v) (nI n) gk wk sd nb st (d + 1) acc (nI j) := by
  intro d
  induction d with
  | zero =>
    intro j acc hj he
    have : j = n := by omega
    subst this he
    exact br_t (nI_le (Nat.le_refl _) (by omega)) h
  | succ d ih =>
    intro j acc hj he
    refine br_f (nI_ge (by omega) (by omega)) (ss_xj (by omega) (by omega) (hA v j hv (by omega)) ?_)
    by_cases hb : A v j = true
    · refine br_f (by rw [ss_b1 hb]; decide) (nm_e (nm_r (nI_1 j) (ih (j + 1) _ (by omega) ?_)))
      rw [he, nI_1, ss_cnt_t hb]
    · refine br_t (ss_b0 hb) (nm_r (nI_1 j) (ih (j + 1) _ (by omega) ?_))
      rw [he, ss_cnt_f hb]
theorem ss_xcn {v : Nat} (hn : n ≤ 8) (hv : v < n) (hA : ∀ v u, v < n → u < 32 → bt (nb v) u = A v u) (h : post (nI (ss_deg A n v))) : wpX_countNeighbours post (nI n, gk, wk, sd, nb, st) (nI v) := by
  unfold wpX_countNeighbours
  dsimp only
  exact ⟨n + 1, ss_xcnL hn hv hA h n 0 _ (by omega) rfl⟩
theorem ss_xceL (hn : n ≤ 8) (hA : ∀ v u, v < n → u < 32 → bt (nb v) u = A v u) (h : post (nI (ss_sm (ss_deg A n) n / 2))) : ∀ d j acc, j + d = n → acc = nI (ss_sm (ss_deg A n) j) → wX_countEdges_4 post (nI n) gk wk sd nb st (d + 1) acc (nI j) := by
  intro d
  induction d with
  | zero =>
    intro j acc hj he
    have : j = n := by omega
    subst this he
    refine br_t (nI_le (Nat.le_refl _) (by omega)) ⟨by decide, ?_⟩
    have hb := ss_sm_le (f := ss_deg A j) (b := j) (fun i => ss_cnt_le _ j) j
    have hb2 : j * j ≤ 8 * 8 := Nat.mul_le_mul hn hn
    have e := pk_div (a := ss_sm (ss_deg A j) j) (d := 2) (by omega) (by omega) (by omega)
    rw [← e] at h
    exact h
  | succ d ih =>
    intro j acc hj he
    refine br_f (nI_ge (by omega) (by omega)) (ss_xcn hn (by omega) hA (nm_e (nm_r (nI_1 j) (ih (j + 1) _ (by omega) ?_))))
    rw [he, nI_add, ss_sm_s]
theorem ss_xce (hn : n ≤ 8) (hA : ∀ v u, v < n → u < 32 → bt (nb v) u = A v u) (h : post (nI (ss_sm (ss_deg A n) n / 2))) : wpX_countEdges post (nI n, gk, wk, sd, nb, st) := by
  unfold wpX_countEdges
  dsimp only
  exact ⟨n + 1, ss_xceL hn hA h n 0 _ (by omega) rfl⟩
theorem ss_xwnL {x : Int32} {S : Nat → Bool} (hn : n ≤ 8) (hA : ∀ v u, v < n → u < 32 → bt (nb v) u = A v u) (hS : ∀ i, i < 32 → bt x i = S i) (h : ∀ r, (∀ i, i < 32 → bt r i = ss_wid A n S i) → post r) : ∀ d j acc, j + d = n → (∀ i, i < 32 → bt acc i = (S i || ss_any (fun v => S v && A v i) j)) → wX_withNeighbours_4 post x (nI n) gk wk sd nb st (d + 1) acc (nI j) := by
  intro d
  induction d with
  | zero =>
    intro j acc hj he
    have : j = n := by omega
    subst this
    exact br_t (nI_le (Nat.le_refl _) (by omega)) (h acc he)
  | succ d ih =>
    intro j acc hj he
    refine br_f (nI_ge (by omega) (by omega)) ?_
    by_cases hb : S j = true
    · refine br_t ((ss_test x (by omega)).mpr ((hS j (by omega)).trans hb)) ⟨vp_in_nI (by omega) (by omega), nm_r (by rw [nI_clamp (by omega)]) (nm_r (nI_1 j) (ih (j + 1) _ (by omega) ?_))⟩
      intro i hi
      rw [b_or, he i hi, hA j i (by omega) hi]
      show _ = (S i || (ss_any (fun v => S v && A v i) j || (S j && A j i)))
      rw [hb, Bool.true_and, Bool.or_assoc]
    · refine br_f (fun z => hb ((hS j (by omega)).symm.trans ((ss_test x (by omega)).mp z))) (nm_r (nI_1 j) (ih (j + 1) _ (by omega) ?_))
      intro i hi
      rw [he i hi]
      show _ = (S i || (ss_any (fun v => S v && A v i) j || (S j && A j i)))
      rw [Bool.eq_false_iff.mpr hb, Bool.false_and, Bool.or_false]
theorem ss_xwn {x : Int32} {S : Nat → Bool} (hn : n ≤ 8) (hA : ∀ v u, v < n → u < 32 → bt (nb v) u = A v u) (hS : ∀ i, i < 32 → bt x i = S i) (h : ∀ r, (∀ i, i < 32 → bt r i = ss_wid A n S i) → post r) : wpX_withNeighbours post (nI n, gk, wk, sd, nb, st) x := by
  unfold wpX_withNeighbours
  dsimp only
  refine ⟨n + 1, ss_xwnL hn hA hS h n 0 _ (by omega) ?_⟩
  intro i hi
  rw [hS i hi]
  show _ = (S i || false)
  rw [Bool.or_false]
theorem ss_xpoL {v : Nat} (hn : n ≤ 8) (hA : ∀ v u, v < n → u < 32 → bt (nb v) u = A v u) (h : ∀ r, (∀ i, i < 32 → bt r i = ss_part A n v i) → post r) : ∀ d j acc, j + 1 + d = n → (∀ i, i < 32 → bt acc i = ss_it A n v j i) → wX_partOf_6 post (nI n) gk wk sd nb st (d + 1) acc (nI (j + 1)) := by
  intro d
  induction d with
  | zero =>
    intro j acc hj he
    refine br_t (nI_le (by omega) (by omega)) (h acc ?_)
    intro i hi
    rw [he i hi, show j = n - 1 from by omega]
    rfl
  | succ d ih =>
    intro j acc hj he
    exact br_f (nI_ge (by omega) (by omega)) (ss_xwn hn hA he (fun r hr => nm_r (nI_1 _) (ih (j + 1) _ (by omega) hr)))
theorem ss_xpo {v : Nat} (hn : n ≤ 8) (hv : v < n) (hA : ∀ v u, v < n → u < 32 → bt (nb v) u = A v u) (h : ∀ r, (∀ i, i < 32 → bt r i = ss_part A n v i) → post r) : wpX_partOf post (nI n, gk, wk, sd, nb, st) (nI v) := by
  unfold wpX_partOf
  dsimp only
  refine nm_e ⟨n - 1 + 1, ss_xpoL hn hA h (n - 1) 0 _ (by omega) ?_⟩
  intro i hi
  exact ss_one v (by omega) i hi
theorem ss_low0 {r : Int32} {v : Nat} {P : Nat → Bool} (hv : v < 8) (hr : ∀ i, i < 32 → bt r i = P i) : (r &&& (((1 : Int32) <<< (nI v &&& 31)) - 1)) = 0 ↔ (!ss_any P v) = true := by
  rw [ss_isz, Bool.not_eq_true', ss_any_no]
  constructor
  · intro h i hi
    have g := h i (by omega)
    rw [b_and, ss_low v hv i (by omega), decide_eq_true hi, Bool.and_true, hr i (by omega)] at g
    exact g
  · intro h i hi
    rw [b_and, ss_low v hv i hi, hr i hi]
    by_cases e : i < v
    · rw [h i e, Bool.false_and]
    · rw [decide_eq_false e, Bool.and_false]
theorem ss_xcpL (hn : n ≤ 8) (hA : ∀ v u, v < n → u < 32 → bt (nb v) u = A v u) (h : post (nI (ss_lo A n))) : ∀ d j acc, j + d = n → acc = nI (ss_cnt (fun v => !ss_any (ss_part A n v) v) j) → wX_countParts_4 post (nI n) gk wk sd nb st (d + 1) acc (nI j) := by
  intro d
  induction d with
  | zero =>
    intro j acc hj he
    have : j = n := by omega
    subst this he
    exact br_t (nI_le (Nat.le_refl _) (by omega)) h
  | succ d ih =>
    intro j acc hj he
    refine br_f (nI_ge (by omega) (by omega)) (nm_e (ss_xpo hn (by omega) hA (fun r hr => ?_)))
    have k := ss_low0 (v := j) (by omega) hr
    by_cases hb : (!ss_any (ss_part A n j) j) = true
    · refine br_t (k.mpr hb) (nm_e (nm_r (nI_1 j) (ih (j + 1) _ (by omega) ?_)))
      rw [he, nI_1, ss_cnt_t (p := fun v => !ss_any (ss_part A n v) v) hb]
    · refine br_f (fun z => hb (k.mp z)) (nm_r (nI_1 j) (ih (j + 1) _ (by omega) ?_))
      rw [he, ss_cnt_f (p := fun v => !ss_any (ss_part A n v) v) hb]
theorem ss_xcp (hn : n ≤ 8) (hA : ∀ v u, v < n → u < 32 → bt (nb v) u = A v u) (h : post (nI (ss_lo A n))) : wpX_countParts post (nI n, gk, wk, sd, nb, st) := by
  unfold wpX_countParts
  dsimp only
  exact ⟨n + 1, ss_xcpL hn hA h n 0 _ (by omega) rfl⟩
end
