/-! what is owed -/
theorem i_vc_nodes {k : Nat} {u : SX} {v : SY} (I : i_Rel k u v) (hk : k + 4 ≤ 2049) : wpX_nodes (fun r => wpY_nodes (fun r' => r' = r ∧ i_Rel (k + 4) u v) v) u := by
  obtain ⟨n, g, wk, sd, A, s, nb, stx, jn, fs, sty, lb, rfl, rfl, h⟩ := I
  exact And.intro rfl (ss_mk h _ _ _)
theorem i_vc_edge {k : Nat} {u : SX} {v : SY} (I : i_Rel k u v) (hk : k + 4 ≤ 2049) (v1 : Int32) (v2 : Int32) (v3 : Int32) : wpX_edge (fun r u' => wpY_edge (fun r' v' => r' = r ∧ i_Rel (k + 4) u' v') v v1 v2 v3) u v1 v2 v3 := by
  obtain ⟨n, g, wk, sd, A, s, nb, stx, jn, fs, sty, lb, rfl, rfl, h⟩ := I
  have R := h
  obtain ⟨hn, hg, hX, hj, hA, hs, hi, hr, hf, hT⟩ := h
  unfold wpX_edge
  dsimp only
  refine ss_xgood hn (fun x hx ex => br_f (by decide) ?_) (fun hb => br_t rfl ?_)
  · subst ex
    refine ss_xgood hn (fun y hy ey => br_f (by decide) ?_) (fun hb => br_t rfl ?_)
    · subst ey
      by_cases e : x = y
      · subst e
        refine br_t rfl ?_
        unfold wpY_edge
        dsimp only
        exact ss_yok hn hx (br_t rfl (ss_yok hn hx (br_t rfl (br_t rfl ⟨rfl, ss_mk R _ _ _⟩))))
      · have en : ¬ nI x = nI y := fun z => e ((nI_eq (by omega) (by omega)).mp z)
        have hs0 : ∀ v, v < n → stx v = s v := by
          intro v hv
          have t := hT 0 v (by omega) hv
          rw [show 8 * 0 + v = v from by omega] at t
          exact t
        have fin : ∀ z : Int32, z = ss_b (A x y) → wX_edge_40 (fun r u' => wpY_edge (fun r' v' => r' = r ∧ i_Rel (k + 4) u' v') (nI n, nI g, wk, jn, fs, sty, lb) (nI x) (nI y) v3) (nI x) (nI y) v3 z (nI n) (nI g) wk sd nb stx := by
          intro z ez
          refine ss_xe40 hg hn hx hy e hX hs0 (fun nb' st' hX' hT' => ?_)
          unfold wpY_edge
          dsimp only
          have fy : ∀ z' : Int32, z' = ss_b (A x y) → wY_edge_45 (fun r' v' => r' = z ∧ i_Rel (k + 4) (nI n, nI g, wk, sd, nb', st') v') (nI x) (nI y) v3 z' (nI n) (nI g) wk jn fs sty lb := by
            intro z' ez'
            refine ss_ye45 hn hx hy hj (fun jn' hj' => ⟨ez'.trans ez.symm, ?_⟩)
            exact ss_mk (A := ss_set A x y (!decide (v3 = 0))) (s := s) ⟨hn, hg, hX', hj', ss_set_in hx hy hA, ss_set_sym hs, ss_set_irr e hi, hr, hf, hT'⟩ _ _ _
          exact ss_yok hn hx (br_t rfl (ss_yok hn hy (br_t rfl (br_f en (ss_yj (by omega) (by omega) (hj x y hx hy) (fun hb => fy 0 (ss_b0 hb).symm) (fun hb => fy 1 (ss_b1 hb).symm))))))
        refine br_f en (ss_xj (by omega) (by omega) (hX x y hx (by omega)) ?_)
        by_cases hb : A x y = true
        · exact br_f (by rw [ss_b1 hb]; decide) (fin 1 (ss_b1 hb).symm)
        · exact br_t (ss_b0 hb) (fin 0 (ss_b0 hb).symm)
    · unfold wpY_edge
      dsimp only
      exact ss_yok hn hx (br_t rfl (ss_yno hn hb (br_f (by decide) ⟨rfl, ss_mk R _ _ _⟩)))
  · unfold wpY_edge
    dsimp only
    exact ss_yno hn hb (br_f (by decide) ⟨rfl, ss_mk R _ _ _⟩)
theorem i_vc_start {k : Nat} {u : SX} {v : SY} (I : i_Rel k u v) (hk : k + 4 ≤ 2049) (v1 : Int32) (v2 : Int32) : wpX_start (fun r u' => wpY_start (fun r' v' => r' = r ∧ i_Rel (k + 4) u' v') v v1 v2) u v1 v2 := by
  obtain ⟨n, g, wk, sd, A, s, nb, stx, jn, fs, sty, lb, rfl, rfl, h⟩ := I
  have R := h
  obtain ⟨hn, hg, hX, hj, hA, hs, hi, hr, hf, hT⟩ := h
  unfold wpX_start
  dsimp only
  refine ss_xgood hn (fun x hx ex => br_f (by decide) ?_) (fun hb => br_t rfl ?_)
  · subst ex
    have hs0 : ∀ v, v < n → stx v = s v := by
      intro v hv
      have t := hT 0 v (by omega) hv
      rw [show 8 * 0 + v = v from by omega] at t
      exact t
    refine br_c (fun h1 => ?_) (fun h1 => br_c (fun h2 => ?_) (fun h2 => ?_))
    · unfold wpY_start
      dsimp only
      exact ss_yok hn hx (br_t rfl (br_t h1 ⟨rfl, ss_mk R _ _ _⟩))
    · refine ss_xs (p := 0) (by omega) (by omega) (hT 0 x (by omega) hx) ⟨vp_in_nI (by omega) (by omega), nm_r (by rw [nI_clamp (n := x) (by omega)]) ?_⟩
      have hu : ∀ (q : Nat → Int32), (∀ v, v < n → q v = s v) → ∀ v, v < n → upd q x v2 v = upd s x v2 v := by
        intro q hq v hv
        by_cases e : v = x
        · rw [e, pk_us, pk_us]
        · rw [pk_un e, pk_un e, hq v hv]
      have hr' : ∀ v, v < n → (upd s x v2 v).toInt ≤ 1000 := by
        intro v hv
        by_cases e : v = x
        · rw [e, pk_us]
          rw [Int32.le_iff_toInt_le] at h2
          exact h2
        · rw [pk_un e]
          exact hr v hv
      refine ss_xfill (A := A) (s := upd s x v2) hg hn hX (hu stx hs0) (fun st' hT' => ?_)
      unfold wpY_start
      dsimp only
      refine ss_yok hn hx (br_t rfl (br_f h1 (br_t h2 ⟨vp_in_nI (by omega) (by omega), nm_e ⟨vp_in_nI (by omega) (by omega), nm_r (by rw [nI_clamp (n := x) (by omega)]) ⟨?_, ?_⟩⟩⟩)))
      · rw [nI_clamp (n := x) (by omega), hf x hx]
        rfl
      · exact ss_mk (A := A) (s := upd s x v2) ⟨hn, hg, hX, hj, hA, hs, hi, hr', hu fs hf, hT'⟩ _ _ _
    · unfold wpY_start
      dsimp only
      exact ss_yok hn hx (br_t rfl (br_f h1 (br_f h2 ⟨rfl, ss_mk R _ _ _⟩)))
  · unfold wpY_start
    dsimp only
    exact ss_yno hn hb (br_f (by decide) ⟨rfl, ss_mk R _ _ _⟩)
theorem i_vc_program {k : Nat} {u : SX} {v : SY} (I : i_Rel k u v) (hk : k + 4 ≤ 2049) (v1 : Int32) : wpX_program (fun r u' => wpY_program (fun r' v' => r' = r ∧ i_Rel (k + 4) u' v') v v1) u v1 := by
  obtain ⟨n, g, wk, sd, A, s, nb, stx, jn, fs, sty, lb, rfl, rfl, h⟩ := I
  have R := h
  obtain ⟨hn, hg, hX, hj, hA, hs, hi, hr, hf, hT⟩ := h
  have hs0 : ∀ v, v < n → stx v = s v := by
    intro v hv
    have t := hT 0 v (by omega) hv
    rw [show 8 * 0 + v = v from by omega] at t
    exact t
  unfold wpX_program
  dsimp only
  refine br_c (fun h0 => br_t h0 ⟨rfl, ss_mk R _ _ _⟩) (fun h0 => br_c (fun h5 => ?_) (fun h5 => br_f h0 (br_f h5 ⟨rfl, ss_mk R _ _ _⟩)))
  obtain ⟨g', hg', rfl⟩ := nI_of2 (M := 5) (n := 5) (by decide) h0 h5
  refine ss_xfill (A := A) (s := s) hg' hn hX hs0 (fun st' hT' => ?_)
  exact br_f h0 (br_t h5 ⟨rfl, ss_mk (A := A) (s := s) ⟨hn, hg', hX, hj, hA, hs, hi, hr, hf, hT'⟩ _ _ _⟩)
theorem i_vc_method {k : Nat} {u : SX} {v : SY} (I : i_Rel k u v) (hk : k + 4 ≤ 2049) (v1 : Int32) : wpX_method (fun r u' => wpY_method (fun r' v' => r' = r ∧ i_Rel (k + 4) u' v') v v1) u v1 := by
  obtain ⟨n, g, wk, sd, A, s, nb, stx, jn, fs, sty, lb, rfl, rfl, h⟩ := I
  unfold wpX_method
  dsimp only
  exact br_c (fun h0 => br_t h0 ⟨rfl, ss_mk h _ _ _⟩) (fun h0 => br_c (fun h1 => br_f h0 (br_t h1 ⟨rfl, ss_mk h _ _ _⟩)) (fun h1 => br_f h0 (br_f h1 ⟨rfl, ss_mk h _ _ _⟩)))
theorem i_vc_schedule {k : Nat} {u : SX} {v : SY} (I : i_Rel k u v) (hk : k + 4 ≤ 2049) (v1 : Int32) : wpX_schedule (fun u' => wpY_schedule (fun v' => i_Rel (k + 4) u' v') v v1) u v1 := by
  obtain ⟨n, g, wk, sd, A, s, nb, stx, jn, fs, sty, lb, rfl, rfl, h⟩ := I
  exact ss_mk (sd := v1) h (k + 4) sty lb
theorem i_vc_edges {k : Nat} {u : SX} {v : SY} (I : i_Rel k u v) (hk : k + 4 ≤ 2049) : wpX_edges (fun r => wpY_edges (fun r' => r' = r ∧ i_Rel (k + 4) u v) v) u := by
  obtain ⟨n, g, wk, sd, A, s, nb, stx, jn, fs, sty, lb, rfl, rfl, h⟩ := I
  have R := h
  obtain ⟨hn, hg, hX, hj, hA, hs, hi, hr, hf, hT⟩ := h
  unfold wpX_edges
  dsimp only
  refine ss_xce hn hX (ss_ye hn hj ⟨?_, ss_mk R _ _ _⟩)
  rw [ss_R_edges R]
theorem i_vc_degree {k : Nat} {u : SX} {v : SY} (I : i_Rel k u v) (hk : k + 4 ≤ 2049) (v1 : Int32) : wpX_degree (fun r => wpY_degree (fun r' => r' = r ∧ i_Rel (k + 4) u v) v v1) u v1 := by
  obtain ⟨n, g, wk, sd, A, s, nb, stx, jn, fs, sty, lb, rfl, rfl, h⟩ := I
  have R := h
  obtain ⟨hn, hg, hX, hj, hA, hs, hi, hr, hf, hT⟩ := h
  unfold wpX_degree wpY_degree
  dsimp only
  refine ss_xgood hn (fun x hx ex => br_f (by decide) ?_) (fun hb => br_t rfl (ss_yno hn hb (br_f (by decide) ⟨rfl, ss_mk R _ _ _⟩)))
  subst ex
  exact ss_xcn hn hx hX (ss_yok hn hx (br_t rfl (ss_yne hn hx hj ⟨rfl, ss_mk R _ _ _⟩)))
theorem i_vc_parts {k : Nat} {u : SX} {v : SY} (I : i_Rel k u v) (hk : k + 4 ≤ 2049) : wpX_parts (fun r => wpY_parts (fun r' v' => r' = r ∧ i_Rel (k + 4) u v') v) u := by
  obtain ⟨n, g, wk, sd, A, s, nb, stx, jn, fs, sty, lb, rfl, rfl, h⟩ := I
  have R := h
  obtain ⟨hn, hg, hX, hj, hA, hs, hi, hr, hf, hT⟩ := h
  unfold wpX_parts wpY_parts
  dsimp only
  exact ss_xcp hn hX (ss_ypc hn hA hs hj (fun lb' => ⟨rfl, ss_mk R _ _ _⟩))
theorem i_vc_state {k : Nat} {u : SX} {v : SY} (I : i_Rel k u v) (hk : k + 4 ≤ 2049) (v1 : Int32) (v2 : Int32) : wpX_state (fun r => wpY_state (fun r' v' => r' = r ∧ i_Rel (k + 4) u v') v v1 v2) u v1 v2 := by
  obtain ⟨n, g, wk, sd, A, s, nb, stx, jn, fs, sty, lb, rfl, rfl, h⟩ := I
  have R := h
  obtain ⟨hn, hg, hX, hj, hA, hs, hi, hr, hf, hT⟩ := h
  unfold wpX_state wpY_state
  dsimp only
  refine ss_xgood hn (fun x hx ex => br_f (by decide) ?_) (fun hb => br_t rfl (ss_yno hn hb (br_f (by decide) ⟨rfl, ss_mk R _ _ _⟩)))
  subst ex
  refine ss_xround (fun p hp ep => br_f (by decide) ?_) (fun hb => br_t rfl (ss_yok hn hx (br_t rfl (ss_yrno hb (br_f (by decide) ⟨rfl, ss_mk R _ _ _⟩)))))
  subst ep
  refine ss_xs hp (by omega) (hT p x hp hx) (ss_yok hn hx (br_t rfl (ss_yrok hp (br_t rfl (ss_yw hg hn hj hr hf (fun st' hT' => ?_))))))
  refine ⟨ss_inY hp (by omega), ?_, ss_mk R _ _ _⟩
  rw [ss_clY hp (by omega)]
  exact hT' p x hp hx
theorem i_vc_sum {k : Nat} {u : SX} {v : SY} (I : i_Rel k u v) (hk : k + 4 ≤ 2049) (v1 : Int32) : wpX_sum (fun r => wpY_sum (fun r' v' => r' = r ∧ i_Rel (k + 4) u v') v v1) u v1 := by
  obtain ⟨n, g, wk, sd, A, s, nb, stx, jn, fs, sty, lb, rfl, rfl, h⟩ := I
  have R := h
  obtain ⟨hn, hg, hX, hj, hA, hs, hi, hr, hf, hT⟩ := h
  unfold wpX_sum wpY_sum
  dsimp only
  refine ss_xround (fun p hp ep => br_f (by decide) ?_) (fun hb => br_t rfl (ss_yrno hb (br_f (by decide) ⟨rfl, ss_mk R _ _ _⟩)))
  subst ep
  refine ⟨n + 1, ss_xsmL (f := ss_st g n A s p) hn hp (fun u hu => hT p u hp hu) ?_ n 0 _ (by omega) rfl⟩
  exact ss_yrok hp (br_t rfl (ss_yw hg hn hj hr hf (fun st' hT' => ⟨n + 1, ss_ysmL (f := ss_st g n A s p) hn hp (fun u hu => hT' p u hp hu) ⟨rfl, ss_mk R _ _ _⟩ n 0 _ (by omega) rfl⟩)))
theorem i_vc_kinds {k : Nat} {u : SX} {v : SY} (I : i_Rel k u v) (hk : k + 4 ≤ 2049) (v1 : Int32) : wpX_kinds (fun r => wpY_kinds (fun r' v' => r' = r ∧ i_Rel (k + 4) u v') v v1) u v1 := by
  obtain ⟨n, g, wk, sd, A, s, nb, stx, jn, fs, sty, lb, rfl, rfl, h⟩ := I
  have R := h
  obtain ⟨hn, hg, hX, hj, hA, hs, hi, hr, hf, hT⟩ := h
  unfold wpX_kinds wpY_kinds
  dsimp only
  refine ss_xround (fun p hp ep => br_f (by decide) ?_) (fun hb => br_t rfl (ss_yrno hb (br_f (by decide) ⟨rfl, ss_mk R _ _ _⟩)))
  subst ep
  refine ⟨n + 1, ss_xkdL (f := ss_st g n A s p) hn hp (fun u hu => hT p u hp hu) ?_ n 0 _ (by omega) rfl⟩
  exact ss_yrok hp (br_t rfl (ss_yw hg hn hj hr hf (fun st' hT' => ⟨n + 1, ss_yk18 (f := ss_st g n A s p) hn hp (fun u hu => hT' p u hp hu) ⟨rfl, ss_mk R _ _ _⟩ n 0 (by omega)⟩)))
theorem i_vc_settled {k : Nat} {u : SX} {v : SY} (I : i_Rel k u v) (hk : k + 4 ≤ 2049) : wpX_settled (fun r => wpY_settled (fun r' v' => r' = r ∧ i_Rel (k + 4) u v') v) u := by
  obtain ⟨n, g, wk, sd, A, s, nb, stx, jn, fs, sty, lb, rfl, rfl, h⟩ := I
  have R := h
  obtain ⟨hn, hg, hX, hj, hA, hs, hi, hr, hf, hT⟩ := h
  unfold wpX_settled wpY_settled
  dsimp only
  refine ⟨11, ss_xseL hn hT 10 0 (by omega) ?_⟩
  exact ss_yw hg hn hj hr hf (fun st' hT' => ⟨11, ss_yseL hn hT' 10 0 (by omega) ⟨rfl, ss_mk R _ _ _⟩⟩)
theorem ss_neg1 {x : Int32} (h : x < 0) : x < 1 := by
  rw [Int32.lt_iff_toInt_lt] at *
  have e1 : (1 : Int32).toInt = 1 := by decide
  have e2 : (0 : Int32).toInt = 0 := by decide
  omega
theorem i_vc_changes {k : Nat} {u : SX} {v : SY} (I : i_Rel k u v) (hk : k + 4 ≤ 2049) (v1 : Int32) : wpX_changes (fun r => wpY_changes (fun r' v' => r' = r ∧ i_Rel (k + 4) u v') v v1) u v1 := by
  obtain ⟨n, g, wk, sd, A, s, nb, stx, jn, fs, sty, lb, rfl, rfl, h⟩ := I
  have R := h
  obtain ⟨hn, hg, hX, hj, hA, hs, hi, hr, hf, hT⟩ := h
  unfold wpX_changes wpY_changes
  dsimp only
  refine ss_xround (fun p hp ep => br_f (by decide) ?_) (fun hb => br_t rfl ?_)
  · subst ep
    by_cases e : p = 0
    · subst e
      exact br_t rfl (br_t (by decide) ⟨rfl, ss_mk R _ _ _⟩)
    · obtain ⟨q, rfl⟩ : ∃ q, p = q + 1 := ⟨p - 1, by omega⟩
      refine br_f (nI_ne0 (by omega) (by omega)) (ss_xch (f := ss_st g n A s q) (h1 := ss_st g n A s (q + 1)) hn (by omega) (fun u hu => hT q u (by omega) hu) (fun u hu => hT (q + 1) u (by omega) hu) ?_)
      refine br_f (nI_nlt (b := 1) (by omega) (by omega)) (br_t (nI_le (b := 10) hp (by omega)) (ss_yw hg hn hj hr hf (fun st' hT' => ?_)))
      exact ss_ymv (f := ss_st g n A s q) (h1 := ss_st g n A s (q + 1)) hn (by omega) (fun u hu => hT' q u (by omega) hu) (fun u hu => hT' (q + 1) u (by omega) hu) ⟨rfl, ss_mk R _ _ _⟩
  · rcases hb with hb | hb
    · exact br_t (ss_neg1 hb) ⟨rfl, ss_mk R _ _ _⟩
    · exact br_c (fun _ => ⟨rfl, ss_mk R _ _ _⟩) (fun _ => br_f hb ⟨rfl, ss_mk R _ _ _⟩)
theorem i_vc_reached {k : Nat} {u : SX} {v : SY} (I : i_Rel k u v) (hk : k + 4 ≤ 2049) (v1 : Int32) (v2 : Int32) : wpX_reached (fun r => wpY_reached (fun r' v' => r' = r ∧ i_Rel (k + 4) u v') v v1 v2) u v1 v2 := by
  obtain ⟨n, g, wk, sd, A, s, nb, stx, jn, fs, sty, lb, rfl, rfl, h⟩ := I
  have R := h
  obtain ⟨hn, hg, hX, hj, hA, hs, hi, hr, hf, hT⟩ := h
  unfold wpX_reached wpY_reached
  dsimp only
  refine ss_xgood hn (fun x hx ex => br_f (by decide) ?_) (fun hb => br_t rfl (ss_yno hn hb (br_f (by decide) ⟨rfl, ss_mk R _ _ _⟩)))
  subst ex
  refine ⟨12, ss_xreL hn hx hT 11 0 (by omega) ?_⟩
  exact ss_yok hn hx (br_t rfl (ss_yw hg hn hj hr hf (fun st' hT' => ⟨12, ss_yreL hn hx hT' 11 0 (by omega) ⟨rfl, ss_mk R _ _ _⟩⟩)))
theorem i_vc_overhead {k : Nat} {u : SX} {v : SY} (I : i_Rel k u v) (hk : k + 4 ≤ 2049) (v1 : Int32) : wpX_overhead (fun r => wpY_overhead (fun r' v' => r' = r ∧ i_Rel (k + 4) u v') v v1) u v1 := by
  obtain ⟨n, g, wk, sd, A, s, nb, stx, jn, fs, sty, lb, rfl, rfl, h⟩ := I
  have R := h
  obtain ⟨hn, hg, hX, hj, hA, hs, hi, hr, hf, hT⟩ := h
  unfold wpX_overhead wpY_overhead wpX_overheadOfOneRound
  dsimp only
  refine ss_xround (fun p hp ep => br_f (by decide) ?_) (fun hb => br_t rfl (ss_yrno hb (br_f (by decide) ⟨rfl, ss_mk R _ _ _⟩)))
  subst ep
  refine ss_xce hn hX ?_
  rw [ss_R_edges R]
  refine br_c (fun h0 => ?_) (fun h0 => ss_xcp hn hX ?_)
  · exact ss_yrok hp (br_t rfl (ss_ye hn hj (ss_ypc hn hA hs hj (fun lb' => br_t h0 ⟨rfl, ss_mk R _ _ _⟩))))
  · exact ss_yrok hp (br_t rfl (ss_ye hn hj (ss_ypc hn hA hs hj (fun lb' => br_f h0 ⟨rfl, ss_mk R _ _ _⟩))))
