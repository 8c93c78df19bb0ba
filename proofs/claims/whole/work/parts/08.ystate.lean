/-! Y: the step and the table -/
section
variable {post : Int32 → Prop} {n p v : Nat} {wk : Int32} {jn fs st lb : Nat → Int32} {A : Nat → Nat → Bool} {f : Nat → Int32}
theorem ss_y82 {J : Int32 → Int32 → Int32 → Int32 → Int32 → Int32 → Int32 → Prop} {x1 x2 x3 x4 x5 x6 x7 x8 x11 fn fk fw : Int32} {any : Bool} {j : Nat}
    (h : J x4 (if x11 < x5 then x11 else x5) (if any = true then (if x11 < x6 then x11 else x6) else x11) (x7 + x11) (x8 ^^^ x11) 1 (nI (j + 1))) : wY_next_82 post J x1 x2 x3 x4 x5 x6 x7 x8 (ss_b any) (nI j) x11 fn fk fw jn fs st lb := by
  have k : ∀ y5, J x4 y5 (if any = true then (if x11 < x6 then x11 else x6) else x11) (x7 + x11) (x8 ^^^ x11) 1 (nI (j + 1)) → wY_next_93 post J x1 x2 x3 x4 y5 x6 x7 x8 (ss_b any) (nI j) x11 fn fk fw jn fs st lb := by
    intro y5 h
    by_cases hb : any = true
    · rw [if_pos hb] at h
      refine br_f (by rw [ss_b1 hb]; decide) ?_
      by_cases hc : x11 < x6
      · rw [if_pos hc] at h
        exact br_f (Int32.not_le.mpr hc) (nm_e (nm_e (nm_r (nI_1 j) h)))
      · rw [if_neg hc] at h
        exact br_t (Int32.not_lt.mp hc) (nm_e (nm_e (nm_r (nI_1 j) h)))
    · rw [if_neg hb] at h
      exact br_t (ss_b0 hb) (nm_e (nm_e (nm_r (nI_1 j) h)))
  by_cases hc : x11 < x5
  · rw [if_pos hc] at h
    exact br_f (Int32.not_le.mpr hc) (k _ h)
  · rw [if_neg hc] at h
    exact br_t (Int32.not_lt.mp hc) (k _ h)
theorem ss_yend {g : Nat} {a : Nat → Bool} {s x4 x5 x6 x7 x8 x9 : Int32} (hg : g ≤ 5) (hr : g = 4 → ∀ u, u < n → (f u).toInt ≤ 1000) (e4 : x4 = ss_max a f s n) (e5 : x5 = ss_min a f 0 s n) (e6 : x6 = ss_lst a f n) (e7 : x7 = ss_sum a f n) (e8 : x8 = ss_xor a f s n) (e9 : x9 = ss_b (ss_any a n)) (h : post (ss_nx g n a f s)) :
    (nI g = 0 → post x4) ∧ (¬ nI g = 0 → (nI g = 1 → post x5) ∧ (¬ nI g = 1 → (nI g = 2 → post (s + x7)) ∧ (¬ nI g = 2 → (nI g = 3 → post x8) ∧ (¬ nI g = 3 → (nI g = 4 → (x9 = 0 → post s) ∧ (¬ x9 = 0 → (s ≤ 1 + x6 → post s) ∧ (¬ s ≤ 1 + x6 → post (1 + x6)))) ∧ (¬ nI g = 4 → post (3 * s - x7)))))) := by
  subst e4 e5 e6 e7 e8 e9
  have hg6 : g = 0 ∨ g = 1 ∨ g = 2 ∨ g = 3 ∨ g = 4 ∨ g = 5 := by omega
  rcases hg6 with rfl | rfl | rfl | rfl | rfl | rfl
  · exact br_t (by decide) h
  · exact br_f (by decide) (br_t (by decide) h)
  · exact br_f (by decide) (br_f (by decide) (br_t (by decide) h))
  · exact br_f (by decide) (br_f (by decide) (br_f (by decide) (br_t (by decide) h)))
  · refine br_f (by decide) (br_f (by decide) (br_f (by decide) (br_f (by decide) (br_t (by decide) ?_))))
    have e := (ss_least (a := a) (s := s) n (hr rfl)).2
    have h' : post (ss_min a f 1 s n) := h
    rw [e] at h'
    rw [Int32.add_comm 1 (ss_lst a f n)]
    by_cases hb : ss_any a n = true
    · refine br_f (by rw [ss_b1 hb]; decide) ?_
      by_cases hc : ss_lst a f n + 1 < s
      · rw [if_pos ⟨hb, hc⟩] at h'
        exact br_f (Int32.not_le.mpr hc) h'
      · rw [if_neg (fun z => hc z.2)] at h'
        exact br_t (Int32.not_lt.mp hc) h'
    · rw [if_neg (fun z => hb z.1)] at h'
      exact br_t (ss_b0 hb) h'
  · exact br_f (by decide) (br_f (by decide) (br_f (by decide) (br_f (by decide) (br_f (by decide) h))))
theorem ss_ynL {g : Nat} {s : Int32} (hg : g ≤ 5) (hn : n ≤ 8) (hp : p ≤ 10) (hv : v < n) (hj : ∀ u v, u < n → v < n → jn (8 * u + v) = ss_b (A u v)) (hf : ∀ u, u < n → st (8 * p + u) = f u) (hr : g = 4 → ∀ u, u < n → (f u).toInt ≤ 1000) (h : post (ss_nx g n (A v) f s)) :
    ∀ d j x4 x5 x6 x7 x8 any, j + d = n → x4 = ss_max (A v) f s j → x5 = ss_min (A v) f 0 s j → x6 = ss_lst (A v) f j → x7 = ss_sum (A v) f j → x8 = ss_xor (A v) f s j → any = ss_any (A v) j → wY_next_33 post (nI v) (nI p) s (nI n) (nI g) wk jn fs st lb (d + 1) x4 x5 x6 x7 x8 (ss_b any) (nI j) := by
  intro d
  induction d with
  | zero =>
    intro j x4 x5 x6 x7 x8 any hjd e4 e5 e6 e7 e8 e9
    have : j = n := by omega
    subst this
    exact br_t (nI_le (Nat.le_refl _) (by omega)) (ss_yend hg hr e4 e5 e6 e7 e8 (congrArg ss_b e9) h)
  | succ d ih =>
    intro j x4 x5 x6 x7 x8 any hjd e4 e5 e6 e7 e8 e9
    refine br_f (nI_ge (by omega) (by omega)) (ss_yj (by omega) (by omega) (hj v j hv (by omega)) (fun hb => nm_r (nI_1 j) (ih (j + 1) x4 x5 x6 x7 x8 any (by omega) (e4.trans (if_neg hb).symm) (e5.trans (if_neg hb).symm) (e6.trans (if_neg hb).symm) (e7.trans (if_neg hb).symm) (e8.trans (if_neg hb).symm) ?_)) (fun hb => ?_))
    · show any = (ss_any (A v) j || A v j)
      rw [Bool.eq_false_iff.mpr hb, Bool.or_false, e9]
    · refine ⟨ss_inY hp (by omega), nm_r (by rw [ss_clY hp (by omega), hf j (by omega)]) ?_⟩
      have e5' : (if f j < x5 then f j else x5) = ss_min (A v) f 0 s (j + 1) := by
        show _ = if A v j = true then (if f j + 0 < ss_min (A v) f 0 s j then f j + 0 else ss_min (A v) f 0 s j) else ss_min (A v) f 0 s j
        rw [if_pos hb, Int32.add_zero, e5]
      have e6' : (if any = true then (if f j < x6 then f j else x6) else f j) = ss_lst (A v) f (j + 1) := by
        show _ = if A v j = true then (if ss_any (A v) j = true then (if f j < ss_lst (A v) f j then f j else ss_lst (A v) f j) else f j) else ss_lst (A v) f j
        rw [if_pos hb, e6, e9]
      have e7' : x7 + f j = ss_sum (A v) f (j + 1) := by
        show _ = if A v j = true then ss_sum (A v) f j + f j else ss_sum (A v) f j
        rw [if_pos hb, e7]
      have e8' : x8 ^^^ f j = ss_xor (A v) f s (j + 1) := by
        show _ = if A v j = true then ss_xor (A v) f s j ^^^ f j else ss_xor (A v) f s j
        rw [if_pos hb, e8]
      have e9' : true = ss_any (A v) (j + 1) := by
        show true = (ss_any (A v) j || A v j)
        rw [hb, Bool.or_true]
      have e4s : ss_max (A v) f s (j + 1) = if ss_max (A v) f s j < f j then f j else ss_max (A v) f s j := if_pos hb
      by_cases hc : ss_max (A v) f s j < f j
      · rw [if_pos hc] at e4s
        exact br_f (by rw [e4]; exact Int32.not_le.mpr hc) (ss_y82 (ih (j + 1) _ _ _ _ _ true (by omega) e4s.symm e5' e6' e7' e8' e9'))
      · rw [if_neg hc] at e4s
        exact br_t (by rw [e4]; exact Int32.not_lt.mp hc) (ss_y82 (ih (j + 1) _ _ _ _ _ true (by omega) (e4.trans e4s.symm) e5' e6' e7' e8' e9'))
theorem ss_yn {g : Nat} (hg : g ≤ 5) (hn : n ≤ 8) (hp : p ≤ 10) (hv : v < n) (hj : ∀ u v, u < n → v < n → jn (8 * u + v) = ss_b (A u v)) (hf : ∀ u, u < n → st (8 * p + u) = f u) (hr : g = 4 → ∀ u, u < n → (f u).toInt ≤ 1000) (h : post (ss_nx g n (A v) f (f v))) : wpY_next post (nI n, nI g, wk, jn, fs, st, lb) (nI v) (nI p) := by
  unfold wpY_next
  dsimp only
  exact ⟨ss_inY hp (by omega), nm_r (by rw [ss_clY hp (by omega), hf v hv]) ⟨n + 1, ss_ynL hg hn hp hv hj hf hr h n 0 _ _ _ _ _ false (by omega) rfl rfl rfl rfl rfl rfl⟩⟩
end
section
variable {post : SY → Prop} {n g : Nat} {wk : Int32} {jn fs lb : Nat → Int32} {A : Nat → Nat → Bool} {s : Nat → Int32}
theorem ss_yw44 {J : Int32 → (Nat → Int32) → (Nat → Int32) → (Nat → Int32) → (Nat → Int32) → Prop} {q : Nat} (hg : g ≤ 5) (hn : n ≤ 8) (hq : q < 10) (hj : ∀ u v, u < n → v < n → jn (8 * u + v) = ss_b (A u v)) (hr : ∀ v, v < n → (s v).toInt ≤ 1000)
    (h : ∀ st, (∀ p v, p ≤ q + 1 → v < n → st (8 * p + v) = ss_st g n A s p v) → J (nI (q + 1)) jn fs st lb) :
    ∀ d j st, j + d = n → (∀ p v, p ≤ q → v < n → st (8 * p + v) = ss_st g n A s p v) → (∀ v, v < j → st (8 * (q + 1) + v) = ss_st g n A s (q + 1) v) → wY_work_44 post J (nI q) (nI n) (nI g) wk (d + 1) (nI j) jn fs st lb := by
  intro d
  induction d with
  | zero =>
    intro j st hjd h1 h2
    have : j = n := by omega
    subst this
    refine br_t (nI_le (Nat.le_refl _) (by omega)) (nm_r (nI_1 _) (h st ?_))
    intro p v hp hv
    by_cases e : p = q + 1
    · rw [e]; exact h2 v hv
    · exact h1 p v (by omega) hv
  | succ d ih =>
    intro j st hjd h1 h2
    refine br_f (nI_ge (by omega) (by omega)) (br_f (nI_ge (b := 8) (by omega) (by omega)) ?_)
    refine ss_yn (f := ss_st g n A s q) hg hn (by omega) (by omega) hj (fun u hu => h1 q u (by omega) hu) (fun e u hu => by subst e; exact ss_st4 hr q u hu) ?_
    rw [ss_ixY8]
    refine ⟨vp_in_nI (by omega) (by omega), nm_r (by rw [nI_clamp (by omega)]) (nm_r (nI_1 j) (ih (j + 1) _ (by omega) ?_ ?_))⟩
    · intro p v hp hv
      rw [pk_un (by omega)]
      exact h1 p v hp hv
    · intro v hv
      by_cases e : v = j
      · rw [e, pk_us]
        rfl
      · rw [pk_un (by omega)]
        exact h2 v (by omega)
theorem ss_yw36 (hg : g ≤ 5) (hn : n ≤ 8) (hj : ∀ u v, u < n → v < n → jn (8 * u + v) = ss_b (A u v)) (hr : ∀ v, v < n → (s v).toInt ≤ 1000)
    (h : ∀ st, (∀ p v, p ≤ 10 → v < n → st (8 * p + v) = ss_st g n A s p v) → post (nI n, nI g, wk, jn, fs, st, lb)) :
    ∀ d q st, q + d = 10 → (∀ p v, p ≤ q → v < n → st (8 * p + v) = ss_st g n A s p v) → wY_work_36 post (nI n) (nI g) wk (d + 1) (nI q) jn fs st lb := by
  intro d
  induction d with
  | zero =>
    intro q st hq h1
    have : q = 10 := by omega
    subst this
    exact br_t (by decide) (h st h1)
  | succ d ih =>
    intro q st hq h1
    exact br_f (nI_ge (b := 10) (by omega) (by omega)) ⟨n + 1, ss_yw44 hg hn (by omega) hj hr (fun st' h2 => ih (q + 1) st' (by omega) h2) n 0 st (by omega) h1 (fun v hv => absurd hv (Nat.not_lt_zero v))⟩
theorem ss_yw2 (hg : g ≤ 5) (hn : n ≤ 8) (hj : ∀ u v, u < n → v < n → jn (8 * u + v) = ss_b (A u v)) (hr : ∀ v, v < n → (s v).toInt ≤ 1000) (hs : ∀ v, v < n → fs v = s v)
    (h : ∀ st, (∀ p v, p ≤ 10 → v < n → st (8 * p + v) = ss_st g n A s p v) → post (nI n, nI g, wk, jn, fs, st, lb)) :
    ∀ d j st, j + d = n → (∀ v, v < j → st v = s v) → wY_work_2 post (nI n) (nI g) wk (d + 1) (nI j) jn fs st lb := by
  intro d
  induction d with
  | zero =>
    intro j st hjd h1
    have : j = n := by omega
    subst this
    refine br_t (nI_le (Nat.le_refl _) (by omega)) ⟨11, ss_yw36 hg hn hj hr h 10 0 st (by omega) ?_⟩
    intro p v hp hv
    have : p = 0 := by omega
    subst this
    rw [show 8 * 0 + v = v from by omega]
    exact h1 v hv
  | succ d ih =>
    intro j st hjd h1
    refine br_f (nI_ge (by omega) (by omega)) (br_f (nI_ge (b := 8) (by omega) (by omega)) ⟨vp_in_nI (by omega) (by omega), vp_in_nI (by omega) (by omega), nm_r (by rw [nI_clamp (n := j) (by omega)]) (nm_r (nI_1 j) (ih (j + 1) _ (by omega) ?_))⟩)
    intro v hv
    by_cases e : v = j
    · rw [e, pk_us]
      exact hs j (by omega)
    · rw [pk_un e]
      exact h1 v (by omega)
theorem ss_yw {st : Nat → Int32} (hg : g ≤ 5) (hn : n ≤ 8) (hj : ∀ u v, u < n → v < n → jn (8 * u + v) = ss_b (A u v)) (hr : ∀ v, v < n → (s v).toInt ≤ 1000) (hs : ∀ v, v < n → fs v = s v)
    (h : ∀ st, (∀ p v, p ≤ 10 → v < n → st (8 * p + v) = ss_st g n A s p v) → post (nI n, nI g, wk, jn, fs, st, lb)) : wpY_work post (nI n, nI g, wk, jn, fs, st, lb) := by
  unfold wpY_work
  dsimp only
  exact ⟨n + 1, ss_yw2 hg hn hj hr hs h n 0 st (by omega) (fun v hv => absurd hv (Nat.not_lt_zero v))⟩
end
/-! Y: the questions over a full table -/
section
variable {post : Int32 → SY → Prop} {n p : Nat} {kk wk : Int32} {jn fs st lb : Nat → Int32} {f : Nat → Int32}
theorem ss_ysmL (hn : n ≤ 8) (hp : p ≤ 10) (hf : ∀ u, u < n → st (8 * p + u) = f u) (h : post (ss_tot f n) (nI n, kk, wk, jn, fs, st, lb)) : ∀ d j acc, j + d = n → acc = ss_tot f j → wY_sum_18 post (nI p) (nI n) kk wk jn fs st lb (d + 1) acc (nI j) := by
  intro d
  induction d with
  | zero =>
    intro j acc hj he
    have : j = n := by omega
    subst this he
    exact br_t (nI_le (Nat.le_refl _) (by omega)) h
  | succ d ih =>
    intro j acc hj he
    refine br_f (nI_ge (by omega) (by omega)) ⟨ss_inY hp (by omega), nm_r (by rw [ss_clY hp (by omega), hf j (by omega)]) (nm_r (nI_1 j) (ih (j + 1) _ (by omega) ?_))⟩
    rw [he]; rfl
theorem ss_yk32 {J : Int32 → Int32 → Prop} {v c : Nat} (hn : n ≤ 8) (hp : p ≤ 10) (hv : v < n) (hf : ∀ u, u < n → st (8 * p + u) = f u) (h : J (nI (c + (if ss_kd f v = true then 1 else 0))) (nI (v + 1))) : ∀ d j, j + d = v → wY_kinds_32 post J (nI p) (nI c) (nI v) (nI n) kk wk jn fs st lb (d + 1) (ss_b (!ss_any (fun u => decide (f u = f v)) j)) (nI j) := by
  intro d
  induction d with
  | zero =>
    intro j hj
    have : j = v := by omega
    subst this
    refine br_t (nI_le (Nat.le_refl _) (by omega)) ?_
    by_cases hb : (!ss_any (fun u => decide (f u = f j)) j) = true
    · have hb' : ss_kd f j = true := hb
      rw [if_pos hb'] at h
      exact br_f (by rw [ss_b1 hb]; decide) (nm_r (nI_1 c) (nm_r (nI_1 j) h))
    · have hb' : ¬ ss_kd f j = true := hb
      rw [if_neg hb'] at h
      exact br_t (ss_b0 hb) (nm_r (nI_1 j) h)
  | succ d ih =>
    intro j hj
    refine br_f (nI_ge (by omega) (by omega)) ⟨ss_inY hp (by omega), ss_inY hp (by omega), ?_⟩
    rw [ss_clY hp (by omega), ss_clY hp (by omega), hf j (by omega), hf v hv]
    have k := ih (j + 1) (by omega)
    by_cases hc : f j = f v
    · have e : (!ss_any (fun u => decide (f u = f v)) (j + 1)) = false := by
        show (!(ss_any (fun u => decide (f u = f v)) j || decide (f j = f v))) = false
        rw [decide_eq_true hc, Bool.or_true]; rfl
      rw [e] at k
      exact br_t hc (nm_r (nI_1 j) k)
    · have e : (!ss_any (fun u => decide (f u = f v)) (j + 1)) = (!ss_any (fun u => decide (f u = f v)) j) := by
        show (!(ss_any (fun u => decide (f u = f v)) j || decide (f j = f v))) = _
        rw [decide_eq_false hc, Bool.or_false]
      rw [e] at k
      exact br_f hc (nm_r (nI_1 j) k)
theorem ss_yk18 (hn : n ≤ 8) (hp : p ≤ 10) (hf : ∀ u, u < n → st (8 * p + u) = f u) (h : post (nI (ss_cnt (ss_kd f) n)) (nI n, kk, wk, jn, fs, st, lb)) : ∀ d j, j + d = n → wY_kinds_18 post (nI p) (nI n) kk wk jn fs st lb (d + 1) (nI (ss_cnt (ss_kd f) j)) (nI j) := by
  intro d
  induction d with
  | zero =>
    intro j hj
    have : j = n := by omega
    subst this
    exact br_t (nI_le (Nat.le_refl _) (by omega)) h
  | succ d ih =>
    intro j hj
    exact br_f (nI_ge (by omega) (by omega)) ⟨j + 1, ss_yk32 hn hp (by omega) hf (ih (j + 1) (by omega)) j 0 (by omega)⟩
end
section
variable {post : Int32 → Prop} {n p : Nat} {kk wk : Int32} {jn fs st lb : Nat → Int32} {f h1 : Nat → Int32}
theorem ss_ymvL (hn : n ≤ 8) (hp : p < 10) (hf : ∀ u, u < n → st (8 * p + u) = f u) (hf1 : ∀ u, u < n → st (8 * (p + 1) + u) = h1 u) (h : post (nI (ss_cnt (ss_ch h1 f) n))) : ∀ d j acc, j + d = n → acc = nI (ss_cnt (ss_ch h1 f) j) → wY_moved_4 post (nI (p + 1)) (nI n) kk wk jn fs st lb (d + 1) acc (nI j) := by
  intro d
  induction d with
  | zero =>
    intro j acc hj he
    have : j = n := by omega
    subst this he
    exact br_t (nI_le (Nat.le_refl _) (by omega)) h
  | succ d ih =>
    intro j acc hj he
    refine br_f (nI_ge (by omega) (by omega)) ⟨ss_inY (by omega) (by omega), ?_⟩
    rw [ss_ixYm, ss_clY (by omega) (by omega), nI_clamp (by omega), hf1 j (by omega), hf j (by omega)]
    refine ⟨vp_in_nI (by omega) (by omega), ?_⟩
    by_cases hc : h1 j = f j
    · refine br_t hc (nm_r (nI_1 j) (ih (j + 1) _ (by omega) ?_))
      rw [he, ss_cnt_f (ss_ch_f hc)]
    · refine br_f hc (nm_e (nm_r (nI_1 j) (ih (j + 1) _ (by omega) ?_)))
      rw [he, nI_1, ss_cnt_t (ss_ch_t hc)]
theorem ss_ymv (hn : n ≤ 8) (hp : p < 10) (hf : ∀ u, u < n → st (8 * p + u) = f u) (hf1 : ∀ u, u < n → st (8 * (p + 1) + u) = h1 u) (h : post (nI (ss_cnt (ss_ch h1 f) n))) : wpY_moved post (nI n, kk, wk, jn, fs, st, lb) (nI (p + 1)) := by
  unfold wpY_moved
  dsimp only
  exact ⟨n + 1, ss_ymvL hn hp hf hf1 h n 0 _ (by omega) rfl⟩
end
section
variable {post : Int32 → SY → Prop} {n : Nat} {kk wk : Int32} {jn fs st lb : Nat → Int32} {T : Nat → Nat → Int32}
theorem ss_yseL (hn : n ≤ 8) (hT : ∀ p v, p ≤ 10 → v < n → st (8 * p + v) = T p v) : ∀ d j, j + d = 10 → post (ss_se T n d j) (nI n, kk, wk, jn, fs, st, lb) → wY_settled_6 post (nI n) kk wk jn fs st lb (d + 1) (nI j) := by
  intro d
  induction d with
  | zero =>
    intro j hj h
    exact br_t (nI_le (a := 10) (by omega) (by omega)) h
  | succ d ih =>
    intro j hj h
    refine br_f (nI_ge (b := 10) (by omega) (by omega)) ?_
    rw [nI_1]
    refine ss_ymv hn (by omega) (fun u hu => hT j u (by omega) hu) (fun u hu => hT (j + 1) u (by omega) hu) ?_
    have hz := ss_nz (c := ss_cnt (ss_ch (T (j + 1)) (T j)) n) (by have := ss_cnt_le (ss_ch (T (j + 1)) (T j)) n; omega)
    by_cases hc : ss_cnt (ss_ch (T (j + 1)) (T j)) n = 0
    · have e : ss_se T n (d + 1) j = nI j := ss_fst_t (decide_eq_true hc)
      rw [e] at h
      exact br_t (hz.mpr hc) h
    · have e : ss_se T n (d + 1) j = ss_se T n d (j + 1) := ss_fst_f (fun z => hc (of_decide_eq_true z))
      rw [e] at h
      refine br_f (fun z => hc (hz.mp z)) (nm_e ?_)
      exact ih (j + 1) (by omega) h
theorem ss_yreL {v : Nat} {x : Int32} (hn : n ≤ 8) (hv : v < n) (hT : ∀ p v, p ≤ 10 → v < n → st (8 * p + v) = T p v) : ∀ d j, j + d = 11 → post (ss_re T v x d j) (nI n, kk, wk, jn, fs, st, lb) → wY_reached_16 post (nI v) x (nI n) kk wk jn fs st lb (d + 1) (nI j) := by
  intro d
  induction d with
  | zero =>
    intro j hj h
    exact br_t (nI_le (a := 11) (by omega) (by omega)) h
  | succ d ih =>
    intro j hj h
    refine br_f (nI_ge (b := 11) (by omega) (by omega)) ⟨ss_inY (by omega) (by omega), ?_⟩
    rw [ss_clY (by omega) (by omega), hT j v (by omega) hv]
    by_cases hc : T j v = x
    · have e : ss_re T v x (d + 1) j = nI j := ss_fst_t (decide_eq_true hc)
      rw [e] at h
      exact br_t hc h
    · have e : ss_re T v x (d + 1) j = ss_re T v x d (j + 1) := ss_fst_f (fun z => hc (of_decide_eq_true z))
      rw [e] at h
      exact br_f hc (nm_r (nI_1 j) (ih (j + 1) (by omega) h))
end
