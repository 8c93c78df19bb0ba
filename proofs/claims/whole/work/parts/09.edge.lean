/-! one edge set or taken away -/
theorem ss_orb (x : Int32) {m y : Nat} (hm : m < 32) (hy : y < 32) : bt (x ||| ((1 : Int32) <<< (nI m &&& 31))) y = if y = m then true else bt x y := by
  rw [b_or, ss_one m hm y hy]
  by_cases e : y = m
  · rw [if_pos e, decide_eq_true e, Bool.or_true]
  · rw [if_neg e, decide_eq_false e, Bool.or_false]
theorem ss_anb (x : Int32) {m y : Nat} (hm : m < 32) (hy : y < 32) : bt (x &&& (((1 : Int32) <<< (nI m &&& 31)) ^^^ (-1))) y = if y = m then false else bt x y := by
  rw [b_and, b_xor, ss_one m hm y hy, b_m1 y hy]
  by_cases e : y = m
  · rw [if_pos e, decide_eq_true e]; simp
  · rw [if_neg e, decide_eq_false e]; simp
def ss_set (A : Nat → Nat → Bool) (u v : Nat) (b : Bool) : Nat → Nat → Bool := fun x y => if (x = u ∧ y = v) ∨ (x = v ∧ y = u) then b else A x y
theorem ss_set_t {A : Nat → Nat → Bool} {u v x y : Nat} {b : Bool} (h : (x = u ∧ y = v) ∨ (x = v ∧ y = u)) : ss_set A u v b x y = b := if_pos h
theorem ss_set_f {A : Nat → Nat → Bool} {u v x y : Nat} {b : Bool} (h : ¬ ((x = u ∧ y = v) ∨ (x = v ∧ y = u))) : ss_set A u v b x y = A x y := if_neg h
section
variable {n u v : Nat} {A : Nat → Nat → Bool} {b : Bool}
theorem ss_set_in (hu : u < n) (hv : v < n) (hA : ∀ u i, u < n → A u i = true → i < n) : ∀ x i, x < n → ss_set A u v b x i = true → i < n := by
  intro x i hx h
  by_cases e : (x = u ∧ i = v) ∨ (x = v ∧ i = u)
  · omega
  · rw [ss_set_f e] at h
    exact hA x i hx h
theorem ss_set_sym (hs : ∀ u i, u < n → A u i = true → A i u = true) : ∀ x i, x < n → ss_set A u v b x i = true → ss_set A u v b i x = true := by
  intro x i hx h
  by_cases e : (x = u ∧ i = v) ∨ (x = v ∧ i = u)
  · rw [ss_set_t e] at h
    rw [ss_set_t (by omega), h]
  · rw [ss_set_f e] at h
    rw [ss_set_f (by omega)]
    exact hs x i hx h
theorem ss_set_irr (hne : u ≠ v) (hi : ∀ u, u < n → A u u = false) : ∀ x, x < n → ss_set A u v b x x = false := by
  intro x hx
  rw [ss_set_f (by omega)]
  exact hi x hx
theorem ss_setX {nb : Nat → Int32} {w1 w2 : Int32} (hne : u ≠ v) (hX : ∀ v u, v < n → u < 32 → bt (nb v) u = A v u) (h1 : ∀ y, y < 32 → bt w1 y = if y = v then b else A u y) (h2 : ∀ y, y < 32 → bt w2 y = if y = u then b else A v y) : ∀ x y, x < n → y < 32 → bt (upd (upd nb u w1) v w2 x) y = ss_set A u v b x y := by
  intro x y hx hy
  by_cases e : x = v
  · subst e
    rw [pk_us, h2 y hy]
    by_cases e2 : y = u
    · rw [if_pos e2, ss_set_t (by omega)]
    · rw [if_neg e2, ss_set_f (by omega)]
  · rw [pk_un e]
    by_cases e3 : x = u
    · subst e3
      rw [pk_us, h1 y hy]
      by_cases e2 : y = v
      · rw [if_pos e2, ss_set_t (by omega)]
      · rw [if_neg e2, ss_set_f (by omega)]
    · rw [pk_un e3, hX x y hx hy, ss_set_f (by omega)]
theorem ss_setY {jn : Nat → Int32} (hn : n ≤ 8) (hu : u < n) (hv : v < n) (hj : ∀ u v, u < n → v < n → jn (8 * u + v) = ss_b (A u v)) : ∀ x y, x < n → y < n → upd (upd jn (8 * u + v) (ss_b b)) (8 * v + u) (ss_b b) (8 * x + y) = ss_b (ss_set A u v b x y) := by
  intro x y hx hy
  by_cases e : x = v ∧ y = u
  · rw [ss_set_t (Or.inr e), e.1, e.2, pk_us]
  · rw [pk_un (by omega)]
    by_cases e2 : x = u ∧ y = v
    · rw [ss_set_t (Or.inl e2), e2.1, e2.2, pk_us]
    · rw [pk_un (by omega), ss_set_f (by omega)]
      exact hj x y hx hy
end
theorem ss_nar0 : vp_nar .boolean 0 = ss_b false := rfl
theorem ss_nar1 : vp_nar .boolean 1 = ss_b true := rfl
section
variable {post : Int32 → SX → Prop} {n g u v : Nat} {wk sd z : Int32} {nb st : Nat → Int32} {A : Nat → Nat → Bool} {s : Nat → Int32}
theorem ss_xe40 {x3 : Int32} (hg : g ≤ 5) (hn : n ≤ 8) (hu : u < n) (hv : v < n) (hne : u ≠ v) (hX : ∀ v u, v < n → u < 32 → bt (nb v) u = A v u) (hs : ∀ v, v < n → st v = s v)
    (h : ∀ nb' st', (∀ x y, x < n → y < 32 → bt (nb' x) y = ss_set A u v (!decide (x3 = 0)) x y) → (∀ p w, p ≤ 10 → w < n → st' (8 * p + w) = ss_st g n (ss_set A u v (!decide (x3 = 0))) s p w) → post z (nI n, nI g, wk, sd, nb', st')) : wX_edge_40 post (nI u) (nI v) x3 z (nI n) (nI g) wk sd nb st := by
  have f101 : ∀ nb', (∀ x y, x < n → y < 32 → bt (nb' x) y = ss_set A u v (!decide (x3 = 0)) x y) → wX_edge_101 post z (nI n) (nI g) wk sd nb' st := by
    intro nb' hX'
    unfold wX_edge_101
    exact ss_xfill hg hn hX' hs (fun st' hT' => h nb' st' hX' hT')
  have i1 : vp_in (nI u) 8 := vp_in_nI (by omega) (by omega)
  have i2 : vp_in (nI v) 8 := vp_in_nI (by omega) (by omega)
  have c1 : (nI u).toNatClampNeg = u := nI_clamp (by omega)
  have c2 : (nI v).toNatClampNeg = v := nI_clamp (by omega)
  by_cases e : x3 = 0
  · have eb : (!decide (x3 = 0)) = false := by rw [decide_eq_true e]; rfl
    refine br_t e ⟨i1, i1, nm_r (by rw [c1]) ⟨i2, i2, nm_r (by rw [c2]) (f101 _ ?_)⟩⟩
    rw [eb]
    refine ss_setX hne hX (fun y hy => ?_) (fun y hy => ?_)
    · rw [ss_anb _ (by omega) hy, hX u y hu hy]
    · rw [ss_anb _ (by omega) hy, pk_un (Ne.symm hne), hX v y hv hy]
  · have eb : (!decide (x3 = 0)) = true := by rw [decide_eq_false e]; rfl
    refine br_f e ⟨i1, i1, nm_r (by rw [c1]) ⟨i2, i2, nm_r (by rw [c2]) (f101 _ ?_)⟩⟩
    rw [eb]
    refine ss_setX hne hX (fun y hy => ?_) (fun y hy => ?_)
    · rw [ss_orb _ (by omega) hy, hX u y hu hy]
    · rw [ss_orb _ (by omega) hy, pk_un (Ne.symm hne), hX v y hv hy]
end
section
variable {post : Int32 → SY → Prop} {n u v : Nat} {kk wk z : Int32} {jn fs st lb : Nat → Int32} {A : Nat → Nat → Bool}
theorem ss_ye45 {x3 : Int32} (hn : n ≤ 8) (hu : u < n) (hv : v < n) (hj : ∀ u v, u < n → v < n → jn (8 * u + v) = ss_b (A u v))
    (h : ∀ jn', (∀ x y, x < n → y < n → jn' (8 * x + y) = ss_b (ss_set A u v (!decide (x3 = 0)) x y)) → post z (nI n, kk, wk, jn', fs, st, lb)) : wY_edge_45 post (nI u) (nI v) x3 z (nI n) kk wk jn fs st lb := by
  have i1 : vp_in (8 * nI u + nI v) 64 := ss_inJ (by omega) (by omega)
  have i2 : vp_in (8 * nI v + nI u) 64 := ss_inJ (by omega) (by omega)
  have c1 : (8 * nI u + nI v).toNatClampNeg = 8 * u + v := ss_clY (by omega) (by omega)
  have c2 : (8 * nI v + nI u).toNatClampNeg = 8 * v + u := ss_clY (by omega) (by omega)
  by_cases e : x3 = 0
  · have eb : (!decide (x3 = 0)) = false := by rw [decide_eq_true e]; rfl
    rw [eb] at h
    exact br_t e (And.intro i1 (nm_r (by rw [c1, ss_nar0]) (br_t e (And.intro i2 (nm_r (by rw [c2, ss_nar0]) (h _ (ss_setY hn hu hv hj)))))))
  · have eb : (!decide (x3 = 0)) = true := by rw [decide_eq_false e]; rfl
    rw [eb] at h
    exact br_f e (And.intro i1 (nm_r (by rw [c1, ss_nar1]) (br_f e (And.intro i2 (nm_r (by rw [c2, ss_nar1]) (h _ (ss_setY hn hu hv hj)))))))
end
