/-! pure: sums, edges, states, labels -/
def ss_sm (f : Nat → Nat) : Nat → Nat
  | 0 => 0
  | j + 1 => ss_sm f j + f j
theorem ss_sm_s (f : Nat → Nat) (j : Nat) : ss_sm f (j + 1) = ss_sm f j + f j := rfl
theorem ss_sm_congr {f g : Nat → Nat} : ∀ n, (∀ i, i < n → f i = g i) → ss_sm f n = ss_sm g n := by
  intro n
  induction n with
  | zero => intro _; rfl
  | succ n ih =>
    intro h
    rw [ss_sm_s, ss_sm_s, ih (fun i hi => h i (by omega)), h n (by omega)]
theorem ss_sm_add (f g : Nat → Nat) : ∀ n, ss_sm (fun i => f i + g i) n = ss_sm f n + ss_sm g n := by
  intro n
  induction n with
  | zero => rfl
  | succ n ih =>
    rw [ss_sm_s, ss_sm_s, ss_sm_s, ih]
    show ss_sm f n + ss_sm g n + (f n + g n) = _
    omega
theorem ss_sm_cnt (p : Nat → Bool) : ∀ n, ss_sm (fun i => if p i = true then 1 else 0) n = ss_cnt p n := by
  intro n
  induction n with
  | zero => rfl
  | succ n ih => rw [ss_sm_s, ih]; rfl
theorem ss_sm_le {f : Nat → Nat} {b : Nat} (h : ∀ i, f i ≤ b) : ∀ n, ss_sm f n ≤ n * b := by
  intro n
  induction n with
  | zero => exact Nat.zero_le _
  | succ n ih =>
    rw [ss_sm_s, Nat.succ_mul]
    have := h n
    omega
theorem ss_cnt_s (p : Nat → Bool) (j : Nat) : ss_cnt p (j + 1) = ss_cnt p j + (if p j = true then 1 else 0) := rfl
theorem ss_cnt_0 {p : Nat → Bool} : ∀ n, (∀ i, i < n → p i = false) → ss_cnt p n = 0 := by
  intro n
  induction n with
  | zero => intro _; rfl
  | succ n ih =>
    intro h
    rw [ss_cnt_f (by rw [h n (by omega)]; decide), ih (fun i hi => h i (by omega))]
def ss_deg (A : Nat → Nat → Bool) (n v : Nat) : Nat := ss_cnt (A v) n
def ss_up (A : Nat → Nat → Bool) (n u : Nat) : Nat := ss_cnt (fun v => decide (u < v) && A u v) n
theorem ss_edges {A : Nat → Nat → Bool} {m : Nat} (hs : ∀ u v, u < m → v < m → A u v = A v u) (hi : ∀ u, u < m → A u u = false) : ∀ n, n ≤ m → ss_sm (ss_deg A n) n = 2 * ss_sm (ss_up A n) n := by
  intro n
  induction n with
  | zero => intro _; rfl
  | succ n ih =>
    intro hn
    have hD : ss_sm (ss_deg A (n + 1)) n = ss_sm (ss_deg A n) n + ss_cnt (A n) n := by
      have e1 : ss_sm (ss_deg A (n + 1)) n = ss_sm (fun i => ss_deg A n i + (if A i n = true then 1 else 0)) n := ss_sm_congr n (fun i _ => rfl)
      rw [e1, ss_sm_add, ss_sm_cnt (fun i => A i n)]
      rw [ss_cnt_congr (p := fun i => A i n) (q := A n) n (fun i h => hs i n (by omega) (by omega))]
    have hU : ss_sm (ss_up A (n + 1)) n = ss_sm (ss_up A n) n + ss_cnt (A n) n := by
      have e1 : ss_sm (ss_up A (n + 1)) n = ss_sm (fun i => ss_up A n i + (if A i n = true then 1 else 0)) n := by
        apply ss_sm_congr n
        intro i h
        show ss_cnt _ n + (if (decide (i < n) && A i n) = true then 1 else 0) = _
        rw [decide_eq_true h, Bool.true_and]
        rfl
      rw [e1, ss_sm_add, ss_sm_cnt (fun i => A i n)]
      rw [ss_cnt_congr (p := fun i => A i n) (q := A n) n (fun i h => hs i n (by omega) (by omega))]
    have h1 : ss_deg A (n + 1) n = ss_cnt (A n) n := ss_cnt_f (by rw [hi n (by omega)]; decide)
    have h2 : ss_up A (n + 1) n = 0 := ss_cnt_0 _ (fun i h => by
      show (decide (n < i) && A n i) = false
      rw [decide_eq_false (by omega), Bool.false_and])
    rw [ss_sm_s, ss_sm_s, hD, hU, h1, h2, ih (by omega)]
    omega
/-! the states -/
def ss_max (a : Nat → Bool) (f : Nat → Int32) (s : Int32) : Nat → Int32
  | 0 => s
  | j + 1 => if a j = true then (if ss_max a f s j < f j then f j else ss_max a f s j) else ss_max a f s j
def ss_min (a : Nat → Bool) (f : Nat → Int32) (d s : Int32) : Nat → Int32
  | 0 => s
  | j + 1 => if a j = true then (if f j + d < ss_min a f d s j then f j + d else ss_min a f d s j) else ss_min a f d s j
def ss_sum (a : Nat → Bool) (f : Nat → Int32) : Nat → Int32
  | 0 => 0
  | j + 1 => if a j = true then ss_sum a f j + f j else ss_sum a f j
def ss_xor (a : Nat → Bool) (f : Nat → Int32) (s : Int32) : Nat → Int32
  | 0 => s
  | j + 1 => if a j = true then ss_xor a f s j ^^^ f j else ss_xor a f s j
def ss_lst (a : Nat → Bool) (f : Nat → Int32) : Nat → Int32
  | 0 => 0
  | j + 1 => if a j = true then (if ss_any a j = true then (if f j < ss_lst a f j then f j else ss_lst a f j) else f j) else ss_lst a f j
theorem ss_max_congr {a : Nat → Bool} {f g : Nat → Int32} {s : Int32} : ∀ n, (∀ i, i < n → f i = g i) → ss_max a f s n = ss_max a g s n := by
  intro n
  induction n with
  | zero => intro _; rfl
  | succ n ih => intro h; simp only [ss_max, ih (fun i hi => h i (by omega)), h n (by omega)]
theorem ss_min_congr {a : Nat → Bool} {f g : Nat → Int32} {d s : Int32} : ∀ n, (∀ i, i < n → f i = g i) → ss_min a f d s n = ss_min a g d s n := by
  intro n
  induction n with
  | zero => intro _; rfl
  | succ n ih => intro h; simp only [ss_min, ih (fun i hi => h i (by omega)), h n (by omega)]
theorem ss_sum_congr {a : Nat → Bool} {f g : Nat → Int32} : ∀ n, (∀ i, i < n → f i = g i) → ss_sum a f n = ss_sum a g n := by
  intro n
  induction n with
  | zero => intro _; rfl
  | succ n ih => intro h; simp only [ss_sum, ih (fun i hi => h i (by omega)), h n (by omega)]
theorem ss_xor_congr {a : Nat → Bool} {f g : Nat → Int32} {s : Int32} : ∀ n, (∀ i, i < n → f i = g i) → ss_xor a f s n = ss_xor a g s n := by
  intro n
  induction n with
  | zero => intro _; rfl
  | succ n ih => intro h; simp only [ss_xor, ih (fun i hi => h i (by omega)), h n (by omega)]
def ss_nx (g n : Nat) (a : Nat → Bool) (f : Nat → Int32) (s : Int32) : Int32 :=
  if g = 0 then ss_max a f s n
  else if g = 1 then ss_min a f 0 s n
  else if g = 2 then s + ss_sum a f n
  else if g = 3 then ss_xor a f s n
  else if g = 4 then ss_min a f 1 s n
  else 3 * s - ss_sum a f n
theorem ss_nx_congr {g n : Nat} {a : Nat → Bool} {f h : Nat → Int32} {s : Int32} (e : ∀ i, i < n → f i = h i) : ss_nx g n a f s = ss_nx g n a h s := by
  unfold ss_nx
  rw [ss_max_congr n e, ss_min_congr n e, ss_sum_congr n e, ss_xor_congr n e, ss_min_congr n e]
def ss_st (g n : Nat) (A : Nat → Nat → Bool) (s : Nat → Int32) : Nat → Nat → Int32
  | 0 => s
  | p + 1 => fun v => ss_nx g n (A v) (ss_st g n A s p) (ss_st g n A s p v)
theorem ss_min_le (a : Nat → Bool) (f : Nat → Int32) (d s : Int32) : ∀ n, (ss_min a f d s n).toInt ≤ s.toInt := by
  intro n
  induction n with
  | zero => exact Int.le_refl _
  | succ n ih =>
    unfold ss_min
    split
    · split
      · rename_i h
        rw [Int32.lt_iff_toInt_lt] at h
        omega
      · exact ih
    · exact ih
theorem ss_p1 {x : Int32} (h : x.toInt ≤ 1000) : (x + 1).toInt = x.toInt + 1 := by
  have h2 := Int32.le_toInt x
  rw [Int32.toInt_add, show (1 : Int32).toInt = 1 from by decide]
  exact Int.bmod_eq_of_le (by omega) (by omega)
theorem ss_least {a : Nat → Bool} {f : Nat → Int32} {s : Int32} : ∀ n, (∀ i, i < n → (f i).toInt ≤ 1000) → (ss_any a n = true → (ss_lst a f n).toInt ≤ 1000) ∧ ss_min a f 1 s n = (if ss_any a n = true ∧ ss_lst a f n + 1 < s then ss_lst a f n + 1 else s) := by
  intro n
  induction n with
  | zero => intro _; exact ⟨fun h => (nomatch h), (if_neg (fun h => nomatch h.1)).symm⟩
  | succ n ih =>
    intro h
    obtain ⟨i1, i2⟩ := ih (fun i hi => h i (by omega))
    have hn := h n (by omega)
    by_cases ha : a n = true
    · have e3 : ss_any a (n + 1) = true := by
        show (ss_any a n || a n) = true
        rw [ha, Bool.or_true]
      have e1 : ss_min a f 1 s (n + 1) = if f n + 1 < ss_min a f 1 s n then f n + 1 else ss_min a f 1 s n := if_pos ha
      have e2 : ss_lst a f (n + 1) = if ss_any a n = true then (if f n < ss_lst a f n then f n else ss_lst a f n) else f n := if_pos ha
      have q1 := ss_p1 hn
      by_cases hb : ss_any a n = true
      · have j1 := i1 hb
        have q2 := ss_p1 j1
        rw [if_pos hb] at e2
        rw [e3, e1, i2, e2]
        simp only [hb, true_and, Int32.lt_iff_toInt_lt]
        constructor
        · intro _
          split <;> omega
        · apply Int32.toInt_inj.mp
          by_cases c1 : (ss_lst a f n + 1).toInt < s.toInt
          · rw [if_pos c1]
            by_cases c2 : (f n).toInt < (ss_lst a f n).toInt
            · rw [if_pos c2, if_pos (by omega), if_pos (by omega)]
            · rw [if_neg c2, if_neg (by omega), if_pos c1]
          · rw [if_neg c1]
            by_cases c2 : (f n).toInt < (ss_lst a f n).toInt
            · rw [if_pos c2]
            · rw [if_neg c2, if_neg c1, if_neg (by omega)]
      · rw [if_neg hb] at e2
        have e4 : ss_min a f 1 s n = s := by rw [i2, if_neg (fun z => hb z.1)]
        rw [e3, e1, e2, e4]
        simp only [true_and]
        exact ⟨fun _ => hn, trivial⟩
    · have e3 : ss_any a (n + 1) = ss_any a n := by
        show (ss_any a n || a n) = _
        rw [Bool.eq_false_iff.mpr ha, Bool.or_false]
      have e1 : ss_min a f 1 s (n + 1) = ss_min a f 1 s n := if_neg ha
      have e2 : ss_lst a f (n + 1) = ss_lst a f n := if_neg ha
      rw [e3, e1, e2]
      exact ⟨i1, i2⟩
theorem ss_st4 {n : Nat} {A : Nat → Nat → Bool} {s : Nat → Int32} (h : ∀ v, v < n → (s v).toInt ≤ 1000) : ∀ p v, v < n → (ss_st 4 n A s p v).toInt ≤ 1000 := by
  intro p
  induction p with
  | zero => exact h
  | succ p ih =>
    intro v hv
    have e : ss_st 4 n A s (p + 1) v = ss_min (A v) (ss_st 4 n A s p) 1 (ss_st 4 n A s p v) n := rfl
    rw [e]
    have := ss_min_le (A v) (ss_st 4 n A s p) 1 (ss_st 4 n A s p v) n
    have := ih v hv
    omega
theorem ss_max_no {a : Nat → Bool} {f : Nat → Int32} {s : Int32} : ∀ n, (∀ i, a i = false) → ss_max a f s n = s := by
  intro n
  induction n with
  | zero => intro _; rfl
  | succ n ih =>
    intro h
    have e1 : ss_max a f s (n + 1) = ss_max a f s n := if_neg (by rw [h n]; decide)
    rw [e1, ih h]
theorem ss_st0 {n : Nat} : ∀ p v, ss_st 0 n (fun _ _ => false) (fun _ => 0) p v = 0 := by
  intro p
  induction p with
  | zero => intro v; rfl
  | succ p ih =>
    intro v
    have e : ss_st 0 n (fun _ _ => false) (fun _ => 0) (p + 1) v = ss_max (fun _ => false) (ss_st 0 n (fun _ _ => false) (fun _ => 0) p) (ss_st 0 n (fun _ _ => false) (fun _ => 0) p v) n := rfl
    rw [e, ss_max_no n (fun _ => rfl), ih v]
/-! the first that .. -/
def ss_fst (p : Nat → Bool) (z : Int32) : Nat → Nat → Int32
  | 0, _ => z
  | d + 1, j => if p j = true then nI j else ss_fst p z d (j + 1)
theorem ss_fst_t {p : Nat → Bool} {z : Int32} {d j : Nat} (h : p j = true) : ss_fst p z (d + 1) j = nI j := if_pos h
theorem ss_fst_f {p : Nat → Bool} {z : Int32} {d j : Nat} (h : ¬ p j = true) : ss_fst p z (d + 1) j = ss_fst p z d (j + 1) := if_neg h
/-! labels -/
def ss_lo (A : Nat → Nat → Bool) (n : Nat) : Nat := ss_cnt (fun v => !ss_any (ss_part A n v) v) n
theorem ss_lab {A : Nat → Nat → Bool} {n : Nat} {L : Nat → Nat} (hA : ∀ u i, u < n → A u i = true → i < n) (hs : ∀ u i, u < n → A u i = true → A i u = true) (h1 : ∀ i, i < n → ss_part A n i (L i) = true) (h2 : ∀ m i, m < n → ss_part A n m i = true → L i ≤ m) : ss_cnt (fun v => decide (L v = v)) n = ss_lo A n := by
  apply ss_cnt_congr
  intro v hv
  show decide (L v = v) = !ss_any (ss_part A n v) v
  by_cases e : L v = v
  · rw [decide_eq_true e]
    have : ss_any (ss_part A n v) v = false := by
      apply ss_any_no.mpr
      intro i hi
      cases hp : ss_part A n v i
      · rfl
      · have g := h2 i v (by omega) (ss_part_sym hA hs hv hp)
        omega
    rw [this]; rfl
  · rw [decide_eq_false e]
    have g := h2 v v hv (ss_part_refl A n v)
    have : ss_any (ss_part A n v) v = true := ss_any_iff.mpr ⟨L v, by omega, h1 v hv⟩
    rw [this]; rfl
def ss_put (L : Nat → Nat) (u x : Nat) : Nat → Nat := fun i => if i = u then x else L i
/-- the labels within one pass: row u, column v reached; L0 those at its start -/
def ss_J (A : Nat → Nat → Bool) (n : Nat) (L0 : Nat → Nat) (u v : Nat) (L : Nat → Nat) (any : Bool) : Prop :=
  (∀ i, L i ≤ L0 i) ∧ (∀ i, i < n → ss_part A n i (L i) = true) ∧ (∀ x y, x < u → y < n → A x y = true → L x ≤ L0 y) ∧ (∀ y, y < v → A u y = true → L u ≤ L0 y) ∧ (any = false → ∀ i, L i = L0 i)
theorem ss_J0 {A : Nat → Nat → Bool} {n : Nat} {L : Nat → Nat} (h : ∀ i, i < n → ss_part A n i (L i) = true) : ss_J A n L 0 0 L false := ⟨fun _ => Nat.le_refl _, h, fun x _ hx => absurd hx (Nat.not_lt_zero x), fun y hy => absurd hy (Nat.not_lt_zero y), fun _ _ => rfl⟩
theorem ss_Jrow {A : Nat → Nat → Bool} {n u : Nat} {L0 L : Nat → Nat} {any : Bool} (h : ss_J A n L0 u n L any) : ss_J A n L0 (u + 1) 0 L any := by
  obtain ⟨h1, h2, h3, h4, h5⟩ := h
  refine ⟨h1, h2, ?_, fun y hy => absurd hy (Nat.not_lt_zero y), h5⟩
  intro x y hx hy ha
  by_cases e : x = u
  · subst e; exact h4 y hy ha
  · exact h3 x y (by omega) hy ha
theorem ss_Jno {A : Nat → Nat → Bool} {n u v : Nat} {L0 L : Nat → Nat} {any : Bool} (h : ss_J A n L0 u v L any) (hn : A u v = true → L u ≤ L v) : ss_J A n L0 u (v + 1) L any := by
  obtain ⟨h1, h2, h3, h4, h5⟩ := h
  refine ⟨h1, h2, h3, ?_, h5⟩
  intro y hy ha
  by_cases e : y = v
  · subst e
    exact Nat.le_trans (hn ha) (h1 y)
  · exact h4 y (by omega) ha
theorem ss_Jset {A : Nat → Nat → Bool} {n u v : Nat} {L0 L : Nat → Nat} {any : Bool} (hA : ∀ u i, u < n → A u i = true → i < n) (hu : u < n) (h : ss_J A n L0 u v L any) (ha : A u v = true) (hl : L v < L u) : ss_J A n L0 u (v + 1) (ss_put L u (L v)) true := by
  obtain ⟨h1, h2, h3, h4, h5⟩ := h
  have hv := hA u v hu ha
  have k : ∀ i, ss_put L u (L v) i ≤ L i := by
    intro i
    show (if i = u then L v else L i) ≤ L i
    split
    · rename_i e; rw [e]; omega
    · exact Nat.le_refl _
  have ku : ss_put L u (L v) u = L v := if_pos rfl
  refine ⟨fun i => Nat.le_trans (k i) (h1 i), ?_, ?_, ?_, fun z => nomatch z⟩
  · intro i hi
    show ss_part A n i (if i = u then L v else L i) = true
    split
    · rename_i e
      rw [e]
      exact ss_part_tr hA hu (ss_part_cl hA hu u v hu (ss_part_refl A n u) ha) (h2 v hv)
    · exact h2 i hi
  · intro x y hx hy hxy
    exact Nat.le_trans (k x) (h3 x y hx hy hxy)
  · intro y hy hay
    rw [ku]
    by_cases e : y = v
    · rw [e]; exact h1 v
    · have := h4 y (by omega) hay
      omega
/-- the labels ahead of pass k -/
def ss_Q (A : Nat → Nat → Bool) (n k : Nat) (L : Nat → Nat) (more : Bool) : Prop :=
  (∀ i, i < n → ss_part A n i (L i) = true) ∧ (∀ m i, m < n → i < n → ss_it A n m k i = true → L i ≤ m) ∧ (more = false → ∀ x y, x < n → y < n → A x y = true → L x ≤ L y)
theorem ss_Q0 (A : Nat → Nat → Bool) (n : Nat) : ss_Q A n 0 (fun i => i) true := by
  refine ⟨fun i _ => ss_part_refl A n i, ?_, fun z => nomatch z⟩
  intro m i _ _ h
  have e : i = m := of_decide_eq_true h
  show i ≤ m
  omega
theorem ss_Qs {A : Nat → Nat → Bool} {n k : Nat} {L0 L : Nat → Nat} {more any : Bool} (hA : ∀ u i, u < n → A u i = true → i < n) (hs : ∀ u i, u < n → A u i = true → A i u = true) (h : ss_Q A n k L0 more) (hJ : ss_J A n L0 n 0 L any) : ss_Q A n (k + 1) L any := by
  obtain ⟨q1, q2, q3⟩ := h
  obtain ⟨h1, h2, h3, h4, h5⟩ := hJ
  refine ⟨h2, ?_, ?_⟩
  · intro m i hm hi hit
    rcases ss_wid_iff.mp hit with g | ⟨u, hu, g1, g2⟩
    · exact Nat.le_trans (h1 i) (q2 m i hm hi g)
    · exact Nat.le_trans (h3 i u hi hu (hs u i hu g2)) (q2 m u hm hu g1)
  · intro e x y hx hy hxy
    rw [h5 e y]
    exact h3 x y hx hy hxy
theorem ss_it_mono {A : Nat → Nat → Bool} {n v i : Nat} : ∀ d k, ss_it A n v k i = true → ss_it A n v (k + d) i = true := by
  intro d
  induction d with
  | zero => intro k h; exact h
  | succ d ih => intro k h; exact ss_wid_iff.mpr (Or.inl (ih k h))
theorem ss_Qend {A : Nat → Nat → Bool} {n k : Nat} {L : Nat → Nat} {more : Bool} (hA : ∀ u i, u < n → A u i = true → i < n) (hs : ∀ u i, u < n → A u i = true → A i u = true) (h : ss_Q A n k L more) (he : more = false ∨ n ≤ k) : ss_cnt (fun v => decide (L v = v)) n = ss_lo A n := by
  obtain ⟨q1, q2, q3⟩ := h
  refine ss_lab hA hs q1 ?_
  intro m i hm hp
  have hi := ss_part_lt hA hm hp
  rcases he with he | he
  · have c : ss_cl A n (fun i => decide (L i ≤ m)) := by
      intro u j hu h1 h2
      have h1' : L u ≤ m := of_decide_eq_true h1
      have := q3 he j u (hA u j hu h2) hu (hs u j hu h2)
      exact decide_eq_true (by omega)
    have hmm : L m ≤ m := q2 m m hm hm (ss_it_refl A n m k)
    exact of_decide_eq_true (ss_part_min (S := fun i => decide (L i ≤ m)) c (decide_eq_true hmm) hp)
  · refine q2 m i hm hi ?_
    have := ss_it_mono (A := A) (n := n) (v := m) (i := i) (k - (n - 1)) (n - 1) hp
    rw [show n - 1 + (k - (n - 1)) = k from by omega] at this
    exact this
