/-! pure: counts, closures, parts of a graph -/
def ss_any (p : Nat → Bool) : Nat → Bool
  | 0 => false
  | j + 1 => ss_any p j || p j
theorem ss_any_iff {p : Nat → Bool} {n : Nat} : ss_any p n = true ↔ ∃ i, i < n ∧ p i = true := by
  induction n with
  | zero => exact ⟨fun h => (nomatch h), fun ⟨i, h, _⟩ => absurd h (Nat.not_lt_zero i)⟩
  | succ n ih =>
    show (ss_any p n || p n) = true ↔ _
    rw [Bool.or_eq_true, ih]
    constructor
    · intro h
      rcases h with ⟨i, h, hp⟩ | h
      · exact ⟨i, by omega, hp⟩
      · exact ⟨n, by omega, h⟩
    · intro ⟨i, h, hp⟩
      by_cases e : i = n
      · subst e; exact Or.inr hp
      · exact Or.inl ⟨i, by omega, hp⟩
theorem ss_any_no {p : Nat → Bool} {n : Nat} : ss_any p n = false ↔ ∀ i, i < n → p i = false := by
  constructor
  · intro h i hi
    cases hp : p i
    · rfl
    · exact absurd (ss_any_iff.mpr ⟨i, hi, hp⟩) (by rw [h]; decide)
  · intro h
    cases hp : ss_any p n
    · rfl
    · obtain ⟨i, hi, hq⟩ := ss_any_iff.mp hp
      rw [h i hi] at hq
      exact absurd hq (by decide)
def ss_cnt (p : Nat → Bool) : Nat → Nat
  | 0 => 0
  | j + 1 => ss_cnt p j + (if p j = true then 1 else 0)
theorem ss_cnt_t {p : Nat → Bool} {j : Nat} (h : p j = true) : ss_cnt p (j + 1) = ss_cnt p j + 1 := by
  show _ + (if p j = true then 1 else 0) = _
  rw [if_pos h]
theorem ss_cnt_f {p : Nat → Bool} {j : Nat} (h : ¬ p j = true) : ss_cnt p (j + 1) = ss_cnt p j := by
  show _ + (if p j = true then 1 else 0) = _
  rw [if_neg h]; rfl
theorem ss_cnt_le (p : Nat → Bool) : ∀ n, ss_cnt p n ≤ n := by
  intro n
  induction n with
  | zero => exact Nat.le_refl 0
  | succ n ih =>
    by_cases h : p n = true
    · rw [ss_cnt_t h]; omega
    · rw [ss_cnt_f h]; omega
theorem ss_cnt_full {p : Nat → Bool} : ∀ n, n ≤ ss_cnt p n → ∀ i, i < n → p i = true := by
  intro n
  induction n with
  | zero => intro _ i hi; omega
  | succ n ih =>
    intro hn i hi
    by_cases h : p n = true
    · rw [ss_cnt_t h] at hn
      by_cases e : i = n
      · rw [e]; exact h
      · exact ih (by omega) i (by omega)
    · rw [ss_cnt_f h] at hn
      have := ss_cnt_le p n
      omega
theorem ss_cnt_mono {p q : Nat → Bool} (h : ∀ i, p i = true → q i = true) : ∀ n, ss_cnt p n ≤ ss_cnt q n := by
  intro n
  induction n with
  | zero => exact Nat.le_refl 0
  | succ n ih =>
    by_cases hp : p n = true
    · rw [ss_cnt_t hp, ss_cnt_t (h n hp)]; omega
    · rw [ss_cnt_f hp]
      by_cases hq : q n = true
      · rw [ss_cnt_t hq]; omega
      · rw [ss_cnt_f hq]; omega
theorem ss_cnt_lt {p q : Nat → Bool} (h : ∀ i, p i = true → q i = true) {j : Nat} (hp : p j = false) (hq : q j = true) : ∀ n, j < n → ss_cnt p n < ss_cnt q n := by
  intro n
  induction n with
  | zero => intro hj; omega
  | succ n ih =>
    intro hj
    by_cases e : j = n
    · subst e
      rw [ss_cnt_t hq, ss_cnt_f (by rw [hp]; decide)]
      have := ss_cnt_mono h j
      omega
    · have hl := ih (by omega)
      by_cases hp : p n = true
      · rw [ss_cnt_t hp, ss_cnt_t (h n hp)]; omega
      · rw [ss_cnt_f hp]
        by_cases hq : q n = true
        · rw [ss_cnt_t hq]; omega
        · rw [ss_cnt_f hq]; omega
theorem ss_cnt_pos {p : Nat → Bool} {j : Nat} (hp : p j = true) : ∀ n, j < n → 0 < ss_cnt p n := by
  intro n
  induction n with
  | zero => intro hj; omega
  | succ n ih =>
    intro hj
    by_cases e : j = n
    · subst e
      rw [ss_cnt_t hp]; omega
    · have hl := ih (by omega)
      show 0 < ss_cnt p n + _
      omega
theorem ss_cnt_congr {p q : Nat → Bool} : ∀ n, (∀ i, i < n → p i = q i) → ss_cnt p n = ss_cnt q n := by
  intro n
  induction n with
  | zero => intro _; rfl
  | succ n ih =>
    intro h
    show ss_cnt p n + (if p n = true then 1 else 0) = ss_cnt q n + (if q n = true then 1 else 0)
    rw [ih (fun i hi => h i (by omega)), h n (by omega)]
/-! closures -/
def ss_wid (A : Nat → Nat → Bool) (n : Nat) (S : Nat → Bool) : Nat → Bool := fun i => S i || ss_any (fun v => S v && A v i) n
def ss_it (A : Nat → Nat → Bool) (n v : Nat) : Nat → Nat → Bool
  | 0 => fun i => decide (i = v)
  | k + 1 => ss_wid A n (ss_it A n v k)
def ss_cl (A : Nat → Nat → Bool) (n : Nat) (S : Nat → Bool) : Prop := ∀ u i, u < n → S u = true → A u i = true → S i = true
theorem ss_wid_iff {A : Nat → Nat → Bool} {n : Nat} {S : Nat → Bool} {i : Nat} : ss_wid A n S i = true ↔ (S i = true ∨ ∃ u, u < n ∧ S u = true ∧ A u i = true) := by
  show (S i || ss_any (fun v => S v && A v i) n) = true ↔ _
  rw [Bool.or_eq_true, ss_any_iff]
  constructor
  · intro h
    rcases h with h | ⟨u, hu, h⟩
    · exact Or.inl h
    · have h2 : (S u && A u i) = true := h
      rw [Bool.and_eq_true] at h2
      exact Or.inr ⟨u, hu, h2.1, h2.2⟩
  · intro h
    rcases h with h | ⟨u, hu, h1, h2⟩
    · exact Or.inl h
    · exact Or.inr ⟨u, hu, by show (S u && A u i) = true; rw [h1, h2]; rfl⟩
theorem ss_wid_cl {A : Nat → Nat → Bool} {n : Nat} {S : Nat → Bool} (h : ss_cl A n S) : ss_wid A n S = S := by
  funext i
  apply Bool.eq_iff_iff.mpr
  rw [ss_wid_iff]
  constructor
  · intro g
    rcases g with g | ⟨u, hu, h1, h2⟩
    · exact g
    · exact h u i hu h1 h2
  · exact Or.inl
theorem ss_grow {A : Nat → Nat → Bool} {n v : Nat} (hA : ∀ u i, u < n → A u i = true → i < n) (hv : v < n) : ∀ k, ss_cl A n (ss_it A n v k) ∨ k + 1 ≤ ss_cnt (ss_it A n v k) n := by
  intro k
  induction k with
  | zero =>
    refine Or.inr (ss_cnt_pos (j := v) ?_ n hv)
    show decide (v = v) = true
    exact decide_eq_true rfl
  | succ k ih =>
    by_cases hc : ss_cl A n (ss_it A n v k)
    · refine Or.inl ?_
      show ss_cl A n (ss_wid A n (ss_it A n v k))
      rw [ss_wid_cl hc]
      exact hc
    · have hk := ih.resolve_left hc
      have : ∃ u i, u < n ∧ ss_it A n v k u = true ∧ A u i = true ∧ ¬ ss_it A n v k i = true := by
        apply Classical.byContradiction
        intro hn
        apply hc
        intro u i hu h1 h2
        apply Classical.byContradiction
        intro h3
        exact hn ⟨u, i, hu, h1, h2, h3⟩
      obtain ⟨u, i, hu, h1, h2, h3⟩ := this
      refine Or.inr ?_
      have hl : ss_cnt (ss_it A n v k) n < ss_cnt (ss_it A n v (k + 1)) n := by
        refine ss_cnt_lt (j := i) (fun j hj => ss_wid_iff.mpr (Or.inl hj)) ?_ (ss_wid_iff.mpr (Or.inr ⟨u, hu, h1, h2⟩)) n (hA u i hu h2)
        cases hb : ss_it A n v k i
        · rfl
        · exact absurd hb h3
      omega
def ss_part (A : Nat → Nat → Bool) (n v : Nat) : Nat → Bool := ss_it A n v (n - 1)
theorem ss_part_cl {A : Nat → Nat → Bool} {n v : Nat} (hA : ∀ u i, u < n → A u i = true → i < n) (hv : v < n) : ss_cl A n (ss_part A n v) := by
  rcases ss_grow hA hv (n - 1) with h | h
  · exact h
  · intro u i hu h1 h2
    have h' : n - 1 + 1 ≤ ss_cnt (ss_part A n v) n := h
    exact ss_cnt_full n (by omega) i (hA u i hu h2)
theorem ss_it_refl (A : Nat → Nat → Bool) (n v : Nat) : ∀ k, ss_it A n v k v = true := by
  intro k
  induction k with
  | zero => exact decide_eq_true rfl
  | succ k ih => exact ss_wid_iff.mpr (Or.inl ih)
theorem ss_part_refl (A : Nat → Nat → Bool) (n v : Nat) : ss_part A n v v = true := ss_it_refl A n v _
theorem ss_it_min {A : Nat → Nat → Bool} {n v : Nat} {S : Nat → Bool} (hS : ss_cl A n S) (h : S v = true) : ∀ k i, ss_it A n v k i = true → S i = true := by
  intro k
  induction k with
  | zero =>
    intro i hi
    have e : i = v := of_decide_eq_true hi
    rw [e]; exact h
  | succ k ih =>
    intro i hi
    rcases ss_wid_iff.mp hi with g | ⟨u, hu, h1, h2⟩
    · exact ih i g
    · exact hS u i hu (ih u h1) h2
theorem ss_part_min {A : Nat → Nat → Bool} {n v : Nat} {S : Nat → Bool} (hS : ss_cl A n S) (h : S v = true) {i : Nat} (hi : ss_part A n v i = true) : S i = true := ss_it_min hS h _ i hi
theorem ss_part_lt {A : Nat → Nat → Bool} {n v : Nat} (hA : ∀ u i, u < n → A u i = true → i < n) (hv : v < n) {i : Nat} (hi : ss_part A n v i = true) : i < n := by
  have := ss_part_min (S := fun j => decide (j < n)) (fun u j hu _ h2 => decide_eq_true (hA u j hu h2)) (decide_eq_true hv) hi
  exact of_decide_eq_true this
theorem ss_part_tr {A : Nat → Nat → Bool} {n u v : Nat} (hA : ∀ u i, u < n → A u i = true → i < n) (hu : u < n) (h : ss_part A n u v = true) {i : Nat} (hi : ss_part A n v i = true) : ss_part A n u i = true := ss_part_min (ss_part_cl hA hu) h hi
theorem ss_part_sym {A : Nat → Nat → Bool} {n v : Nat} (hA : ∀ u i, u < n → A u i = true → i < n) (hs : ∀ u i, u < n → A u i = true → A i u = true) (hv : v < n) {i : Nat} (hi : ss_part A n v i = true) : ss_part A n i v = true := by
  refine ss_part_min (S := fun j => ss_part A n j v) ?_ (ss_part_refl A n v) hi
  intro a b ha h1 h2
  have hb := hA a b ha h2
  have hba : ss_part A n b a = true := ss_part_cl hA hb b a hb (ss_part_refl A n b) (hs a b ha h2)
  exact ss_part_tr hA hb hba h1
