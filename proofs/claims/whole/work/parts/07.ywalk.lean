/-! Y: the small ones, edges -/
section
variable {post : Int32 → Prop} {n : Nat} {kk wk : Int32} {jn fs st lb : Nat → Int32} {A : Nat → Nat → Bool}
theorem ss_ybad {x : Int32} (hn : n ≤ 8) (h0 : ∀ v, v < n → x = nI v → post 0) (h1 : (x < 0 ∨ nI n ≤ x) → post 1) : wpY_bad post (nI n, kk, wk, jn, fs, st, lb) x := by
  unfold wpY_bad
  dsimp only
  rcases pk_ix x (n := n) (by omega) with h | h | ⟨v, hv, rfl⟩
  · exact br_t h (h1 (Or.inl h))
  · exact br_c (fun _ => h1 (Or.inr h)) (fun _ => br_t h (h1 (Or.inr h)))
  · exact br_f (nI_pos (by omega)) (br_f (nI_ge hv (by omega)) (br_t (nI_le (b := 7) (by omega) (by omega)) (h0 v hv rfl)))
theorem ss_yround {x : Int32} (h0 : ∀ p, p ≤ 10 → x = nI p → post 0) (h1 : (x < 0 ∨ ¬ x ≤ 10) → post 1) : wpY_badRound post (nI n, kk, wk, jn, fs, st, lb) x := by
  unfold wpY_badRound
  dsimp only
  refine br_c (fun h => h1 (Or.inl h)) (fun h => br_c (fun h2 => ?_) (fun h2 => h1 (Or.inr h2)))
  obtain ⟨p, hp, e⟩ := nI_of2 (M := 10) (n := 10) (by decide) h h2
  exact h0 p hp e
/-- one test of joined -/
theorem ss_yj {P Q : Prop} {u v : Nat} (hu : u < 8) (hv : v < 8) (e : jn (8 * u + v) = ss_b (A u v)) (hf : ¬ A u v = true → P) (ht : A u v = true → Q) : vp_in (8 * nI u + nI v) 64 ∧ ((jn (8 * nI u + nI v).toNatClampNeg = 0 → P) ∧ (¬ jn (8 * nI u + nI v).toNatClampNeg = 0 → Q)) := by
  refine ⟨ss_inJ hu hv, ?_⟩
  rw [ss_clY (by omega) hv, e]
  by_cases hb : A u v = true
  · exact br_f (by rw [ss_b1 hb]; decide) (ht hb)
  · exact br_t (ss_b0 hb) (hf hb)
theorem ss_yneL {v : Nat} (hn : n ≤ 8) (hv : v < n) (hj : ∀ u v, u < n → v < n → jn (8 * u + v) = ss_b (A u v)) (h : post (nI (ss_deg A n v))) : ∀ d j acc, j + d = n → acc = nI (ss_cnt (A v) j) → wY_neighbours_4 post (nI v) (nI n) kk wk jn fs st lb (d + 1) acc (nI j) := by
  intro d
  induction d with
  | zero =>
    intro j acc hjd he
    have : j = n := by omega
    subst this he
    exact br_t (nI_le (Nat.le_refl _) (by omega)) h
  | succ d ih =>
    intro j acc hjd he
    refine br_f (nI_ge (by omega) (by omega)) (ss_yj (by omega) (by omega) (hj v j hv (by omega)) (fun hb => nm_r (nI_1 j) (ih (j + 1) _ (by omega) ?_)) (fun hb => nm_e (nm_r (nI_1 j) (ih (j + 1) _ (by omega) ?_))))
    · rw [he, ss_cnt_f hb]
    · rw [he, nI_1, ss_cnt_t hb]
theorem ss_yne {v : Nat} (hn : n ≤ 8) (hv : v < n) (hj : ∀ u v, u < n → v < n → jn (8 * u + v) = ss_b (A u v)) (h : post (nI (ss_deg A n v))) : wpY_neighbours post (nI n, kk, wk, jn, fs, st, lb) (nI v) := by
  unfold wpY_neighbours
  dsimp only
  exact ⟨n + 1, ss_yneL hn hv hj h n 0 _ (by omega) rfl⟩
theorem ss_ye16 {J : Int32 → Int32 → Prop} {u c : Nat} (hn : n ≤ 8) (hu : u < n) (hj : ∀ u v, u < n → v < n → jn (8 * u + v) = ss_b (A u v)) (h : J (nI (c + ss_up A n u)) (nI (u + 1))) : ∀ d j acc, j + d = n → u < j → acc = nI (c + ss_up A j u) → wY_edges_16 post J (nI u) (nI n) kk wk jn fs st lb (d + 1) acc (nI j) := by
  intro d
  induction d with
  | zero =>
    intro j acc hjd huj he
    have : j = n := by omega
    subst this he
    exact br_t (nI_le (Nat.le_refl _) (by omega)) (nm_r (nI_1 u) h)
  | succ d ih =>
    intro j acc hjd huj he
    have e : (decide (u < j) && A u j) = A u j := by rw [decide_eq_true huj, Bool.true_and]
    refine br_f (nI_ge (by omega) (by omega)) (ss_yj (by omega) (by omega) (hj u j hu (by omega)) (fun hb => nm_r (nI_1 j) (ih (j + 1) _ (by omega) (by omega) ?_)) (fun hb => nm_e (nm_r (nI_1 j) (ih (j + 1) _ (by omega) (by omega) ?_))))
    · have e2 : ss_up A (j + 1) u = ss_up A j u := ss_cnt_f (by rw [e]; exact hb)
      rw [he, e2]
    · have e2 : ss_up A (j + 1) u = ss_up A j u + 1 := ss_cnt_t (by rw [e]; exact hb)
      rw [he, nI_1, e2, Nat.add_assoc]
theorem ss_ye4 (hn : n ≤ 8) (hj : ∀ u v, u < n → v < n → jn (8 * u + v) = ss_b (A u v)) (h : post (nI (ss_sm (ss_up A n) n))) : ∀ d j acc, j + d = n → acc = nI (ss_sm (ss_up A n) j) → wY_edges_4 post (nI n) kk wk jn fs st lb (d + 1) acc (nI j) := by
  intro d
  induction d with
  | zero =>
    intro j acc hjd he
    have : j = n := by omega
    subst this he
    exact br_t (nI_le (Nat.le_refl _) (by omega)) h
  | succ d ih =>
    intro j acc hjd he
    refine br_f (nI_ge (by omega) (by omega)) (nm_r (nI_1 j) ⟨d + 1, ss_ye16 (c := ss_sm (ss_up A n) j) hn (by omega) hj (ih (j + 1) _ (by omega) rfl) d (j + 1) acc (by omega) (by omega) ?_⟩)
    have e : ss_up A (j + 1) j = 0 := ss_cnt_0 _ (fun i hi => by
      show (decide (j < i) && A j i) = false
      rw [decide_eq_false (by omega), Bool.false_and])
    rw [he, e, Nat.add_zero]
theorem ss_ye (hn : n ≤ 8) (hj : ∀ u v, u < n → v < n → jn (8 * u + v) = ss_b (A u v)) (h : post (nI (ss_sm (ss_up A n) n))) : wpY_edges post (nI n, kk, wk, jn, fs, st, lb) := by
  unfold wpY_edges
  dsimp only
  exact ⟨n + 1, ss_ye4 hn hj h n 0 _ (by omega) rfl⟩
end
/-! Y: the labels -/
section
variable {post : Int32 → SY → Prop} {n : Nat} {kk wk : Int32} {jn fs st : Nat → Int32} {A : Nat → Nat → Bool}
theorem ss_nb (b : Bool) : narrow .boolean (.int (ss_b b)) = .int (ss_b b) := by cases b <;> rfl
theorem ss_yl14 {J : Int32 → Int32 → (Nat → Int32) → (Nat → Int32) → (Nat → Int32) → (Nat → Int32) → Prop} {L0 : Nat → Nat} {u : Nat} (hn : n ≤ 8) (hA : ∀ u i, u < n → A u i = true → i < n) (hu : u < n) (hj : ∀ u v, u < n → v < n → jn (8 * u + v) = ss_b (A u v))
    (h : ∀ L any lb, (∀ i, i < 8 → lb i = nI (L i)) → ss_J A n L0 u n L any → J (ss_b any) (nI (u + 1)) jn fs st lb) :
    ∀ d j L any lb, j + d = n → (∀ i, i < 8 → lb i = nI (L i)) → ss_J A n L0 u j L any → wY_lower_14 post J (nI u) (nI n) kk wk (d + 1) (ss_b any) (nI j) jn fs st lb := by
  intro d
  induction d with
  | zero =>
    intro j L any lb hjd hL hJ
    have : j = n := by omega
    subst this
    exact br_t (nI_le (Nat.le_refl _) (by omega)) (nm_r (nI_1 u) (h L any lb hL hJ))
  | succ d ih =>
    intro j L any lb hjd hL hJ
    refine br_f (nI_ge (by omega) (by omega)) (ss_yj (by omega) (by omega) (hj u j hu (by omega)) (fun hb => nm_r (nI_1 j) (ih (j + 1) L any lb (by omega) hL (ss_Jno hJ (fun z => absurd z hb)))) (fun hb => ?_))
    refine ⟨vp_in_nI (by omega) (by omega), vp_in_nI (by omega) (by omega), ?_⟩
    rw [nI_clamp (n := u) (by omega), nI_clamp (n := j) (by omega), hL u (by omega), hL j (by omega)]
    have b1 := ss_part_lt hA hu (hJ.2.1 u hu)
    have b2 := ss_part_lt hA (by omega) (hJ.2.1 j (by omega))
    by_cases hc : L j < L u
    · refine br_f (nI_ge hc (by omega)) ⟨vp_in_nI (by omega) (by omega), vp_in_nI (by omega) (by omega), nm_e (nm_r (nI_1 j) (ih (j + 1) (ss_put L u (L j)) true _ (by omega) ?_ (ss_Jset hA hu hJ hb hc)))⟩
      intro i hi
      by_cases e : i = u
      · subst e
        rw [pk_us]
        show _ = nI (if i = i then L j else L i)
        rw [if_pos rfl]
      · rw [pk_un e]
        show _ = nI (if i = u then L j else L i)
        rw [if_neg e, hL i hi]
    · exact br_t (nI_le (by omega) (by omega)) (nm_r (nI_1 j) (ih (j + 1) L any lb (by omega) hL (ss_Jno hJ (fun _ => by omega))))
theorem ss_yl4 {L0 : Nat → Nat} (hn : n ≤ 8) (hA : ∀ u i, u < n → A u i = true → i < n) (hj : ∀ u v, u < n → v < n → jn (8 * u + v) = ss_b (A u v))
    (h : ∀ L any lb, (∀ i, i < 8 → lb i = nI (L i)) → ss_J A n L0 n 0 L any → post (ss_b any) (nI n, kk, wk, jn, fs, st, lb)) :
    ∀ d u L any lb, u + d = n → (∀ i, i < 8 → lb i = nI (L i)) → ss_J A n L0 u 0 L any → wY_lower_4 post (nI n) kk wk (d + 1) (ss_b any) (nI u) jn fs st lb := by
  intro d
  induction d with
  | zero =>
    intro u L any lb hud hL hJ
    have : u = n := by omega
    subst this
    exact br_t (nI_le (Nat.le_refl _) (by omega)) ⟨ss_nb any, h L any lb hL hJ⟩
  | succ d ih =>
    intro u L any lb hud hL hJ
    exact br_f (nI_ge (by omega) (by omega)) ⟨n + 1, ss_yl14 hn hA (by omega) hj (fun L' any' lb' hL' hJ' => ih (u + 1) L' any' lb' (by omega) hL' (ss_Jrow hJ')) n 0 L any lb (by omega) hL hJ⟩
theorem ss_ylow {L : Nat → Nat} {lb : Nat → Int32} (hn : n ≤ 8) (hA : ∀ u i, u < n → A u i = true → i < n) (hj : ∀ u v, u < n → v < n → jn (8 * u + v) = ss_b (A u v)) (hL : ∀ i, i < 8 → lb i = nI (L i)) (hp : ∀ i, i < n → ss_part A n i (L i) = true)
    (h : ∀ L' any lb', (∀ i, i < 8 → lb' i = nI (L' i)) → ss_J A n L n 0 L' any → post (ss_b any) (nI n, kk, wk, jn, fs, st, lb')) : wpY_lower post (nI n, kk, wk, jn, fs, st, lb) := by
  unfold wpY_lower
  dsimp only
  exact ⟨n + 1, ss_yl4 hn hA hj h n 0 L false lb (by omega) hL (ss_J0 hp)⟩
theorem ss_yp50 {L : Nat → Nat} {lb : Nat → Int32} (hn : n ≤ 8) (hL : ∀ i, i < 8 → lb i = nI (L i)) (hb : ∀ i, i < n → L i < n) (h : post (nI (ss_cnt (fun v => decide (L v = v)) n)) (nI n, kk, wk, jn, fs, st, lb)) : ∀ d j acc, j + d = n → acc = nI (ss_cnt (fun v => decide (L v = v)) j) → wY_partCount_50 post (nI n) kk wk jn fs st lb (d + 1) acc (nI j) := by
  intro d
  induction d with
  | zero =>
    intro j acc hjd he
    have : j = n := by omega
    subst this he
    exact br_t (nI_le (Nat.le_refl _) (by omega)) h
  | succ d ih =>
    intro j acc hjd he
    refine br_f (nI_ge (by omega) (by omega)) ⟨vp_in_nI (by omega) (by omega), ?_⟩
    rw [nI_clamp (n := j) (by omega), hL j (by omega)]
    have b := hb j (by omega)
    have k := nI_eq (a := L j) (b := j) (by omega) (by omega)
    by_cases hc : L j = j
    · refine br_t (k.mpr hc) (nm_e (nm_r (nI_1 j) (ih (j + 1) _ (by omega) ?_)))
      rw [he, nI_1, ss_cnt_t (p := fun v => decide (L v = v)) (decide_eq_true hc)]
    · refine br_f (fun z => hc (k.mp z)) (nm_r (nI_1 j) (ih (j + 1) _ (by omega) ?_))
      rw [he, ss_cnt_f (p := fun v => decide (L v = v)) (by rw [decide_eq_false hc]; decide)]
theorem ss_yp25 (hn : n ≤ 8) (hA : ∀ u i, u < n → A u i = true → i < n) (hs : ∀ u i, u < n → A u i = true → A i u = true) (hj : ∀ u v, u < n → v < n → jn (8 * u + v) = ss_b (A u v)) (h : ∀ lb, post (nI (ss_lo A n)) (nI n, kk, wk, jn, fs, st, lb)) :
    ∀ d k L more lb, k + d = 8 → (∀ i, i < 8 → lb i = nI (L i)) → ss_Q A n k L more → wY_partCount_25 post (d + 1) (ss_b more) (nI k) (nI n) kk wk jn fs st lb := by
  intro d
  have fin : ∀ k L more lb, (more = false ∨ n ≤ k) → (∀ i, i < 8 → lb i = nI (L i)) → ss_Q A n k L more → ∃ n50 : Nat, wY_partCount_50 post (nI n) kk wk jn fs st lb n50 0 0 := by
    intro k L more lb he hL hQ
    refine ⟨n + 1, ss_yp50 hn hL (fun i hi => ss_part_lt hA hi (hQ.1 i hi)) ?_ n 0 _ (by omega) rfl⟩
    rw [ss_Qend hA hs hQ he]
    exact h lb
  induction d with
  | zero =>
    intro k L more lb hk hL hQ
    exact br_t (nI_le (a := 8) (by omega) (by omega)) (fin k L more lb (Or.inr (by omega)) hL hQ)
  | succ d ih =>
    intro k L more lb hk hL hQ
    refine br_f (nI_ge (b := 8) (by omega) (by omega)) ?_
    by_cases hm : more = true
    · refine br_f (by rw [ss_b1 hm]; decide) (ss_ylow hn hA hj hL hQ.1 (fun L' any lb' hL' hJ' => ?_))
      exact nm_r (nI_1 k) (ih (k + 1) L' any lb' (by omega) hL' (ss_Qs hA hs hQ hJ'))
    · exact br_t (ss_b0 hm) (fin k L more lb (Or.inl (Bool.eq_false_iff.mpr hm)) hL hQ)
theorem ss_yp2 (hn : n ≤ 8) (hA : ∀ u i, u < n → A u i = true → i < n) (hs : ∀ u i, u < n → A u i = true → A i u = true) (hj : ∀ u v, u < n → v < n → jn (8 * u + v) = ss_b (A u v)) (h : ∀ lb, post (nI (ss_lo A n)) (nI n, kk, wk, jn, fs, st, lb)) :
    ∀ d j lb, j + d = 8 → (∀ i, i < j → lb i = nI i) → wY_partCount_2 post (nI n) kk wk (d + 1) (nI j) jn fs st lb := by
  intro d
  induction d with
  | zero =>
    intro j lb hjd hL
    have : j = 8 := by omega
    subst this
    exact br_t (nI_le (a := 8) (b := 8) (by omega) (by omega)) ⟨9, ss_yp25 hn hA hs hj h 8 0 (fun i => i) true lb (by omega) hL (ss_Q0 A n)⟩
  | succ d ih =>
    intro j lb hjd hL
    refine br_f (nI_ge (b := 8) (by omega) (by omega)) ⟨vp_in_nI (by omega) (by omega), nm_r (by rw [nI_clamp (n := j) (by omega)]) (nm_r (nI_1 j) (ih (j + 1) _ (by omega) ?_))⟩
    intro i hi
    by_cases e : i = j
    · rw [e, pk_us]
    · rw [pk_un e]
      exact hL i (by omega)
theorem ss_ypc {lb : Nat → Int32} (hn : n ≤ 8) (hA : ∀ u i, u < n → A u i = true → i < n) (hs : ∀ u i, u < n → A u i = true → A i u = true) (hj : ∀ u v, u < n → v < n → jn (8 * u + v) = ss_b (A u v)) (h : ∀ lb, post (nI (ss_lo A n)) (nI n, kk, wk, jn, fs, st, lb)) : wpY_partCount post (nI n, kk, wk, jn, fs, st, lb) := by
  unfold wpY_partCount
  dsimp only
  exact ⟨9, ss_yp2 hn hA hs hj h 8 0 lb (by omega) (fun i hi => absurd hi (Nat.not_lt_zero i))⟩
end
