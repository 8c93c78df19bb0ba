section
/-! rows of kit/rows, pasted -/
theorem pk_us {f : Nat → Int32} {k : Nat} {x : Int32} : upd f k x k = x := if_pos rfl
theorem pk_un {f : Nat → Int32} {k j : Nat} {x : Int32} (h : j ≠ k) : upd f k x j = f j := if_neg h
theorem pk_sub {a b : Nat} (h : b ≤ a) : nI a - nI b = nI (a - b) := by
  obtain ⟨c, rfl⟩ : ∃ c, a = c + b := ⟨a - b, by omega⟩
  rw [← nI_add, Int32.add_sub_cancel, Nat.add_sub_cancel]
theorem pk_m1 (n : Nat) : nI (n + 1) + (-1) = nI n := by
  rw [← nI_1, Int32.add_assoc, show (1 : Int32) + (-1) = 0 from rfl, Int32.add_zero]
theorem pk_mul (a b : Nat) : nI a * nI b = nI (a * b) := (Int32.ofNat_mul a b).symm
theorem pk_div {a d : Nat} (ha : a < 2 ^ 31) (h0 : 0 < d) (hd : d < 2 ^ 31) : nI a / nI d = nI (a / d) := by
  apply Int32.toInt_inj.mp
  rw [lg_idiv_nonneg (by rw [nI_toInt ha]; omega) (by rw [nI_toInt hd]; omega), nI_toInt ha, nI_toInt hd, nI_toInt (Nat.lt_of_le_of_lt (Nat.div_le_self a d) ha)]
  first | rfl | exact (Int.natCast_ediv _ _).symm
theorem pk_ix (x : Int32) {n : Nat} (hn : n < 2 ^ 31) : x < 0 ∨ nI n ≤ x ∨ ∃ j : Nat, j < n ∧ x = nI j := by
  by_cases h : x < 0
  · exact Or.inl h
  · obtain ⟨j, hj, rfl⟩ := nI_of h
    by_cases h2 : j < n
    · exact Or.inr (Or.inr ⟨j, h2, rfl⟩)
    · exact Or.inr (Or.inl (nI_le (by omega) hj))
theorem pk_le {x y : Int32} {A B : Prop} (a b : Nat) (f : a ≤ b → A) (g : b < a → B) (hx : x = nI a := by rfl) (hy : y = nI b := by rfl) (ha : a < 2 ^ 31 := by omega) (hb : b < 2 ^ 31 := by omega) : (x ≤ y → A) ∧ (¬ x ≤ y → B) := by
  subst hx hy
  rw [nI_leI ha hb]
  exact ⟨f, fun z => g (by omega)⟩
theorem pk_lt {x y : Int32} {A B : Prop} (a b : Nat) (f : a < b → A) (g : b ≤ a → B) (hx : x = nI a := by rfl) (hy : y = nI b := by rfl) (ha : a < 2 ^ 31 := by omega) (hb : b < 2 ^ 31 := by omega) : (x < y → A) ∧ (¬ x < y → B) := by
  subst hx hy
  rw [nI_ltI ha hb]
  exact ⟨f, fun z => g (by omega)⟩
theorem pk_eq {x y : Int32} {A B : Prop} (a b : Nat) (f : a = b → A) (g : a ≠ b → B) (hx : x = nI a := by rfl) (hy : y = nI b := by rfl) (ha : a < 2 ^ 31 := by omega) (hb : b < 2 ^ 31 := by omega) : (x = y → A) ∧ (¬ x = y → B) := by
  subst hx hy
  rw [nI_eq ha hb]
  exact ⟨f, g⟩
theorem pk_in {x : Int32} (n N : Nat) (h : n < N) (hx : x = nI n := by rfl) (hN : N < 2 ^ 31 := by omega) : vp_in x N := by
  subst hx
  exact vp_in_nI h hN
theorem pk_cl {x : Int32} (n : Nat) (hx : x = nI n := by rfl) (h : n < 2 ^ 31 := by omega) : x.toNatClampNeg = n := by
  subst hx
  exact nI_clamp h
theorem pk_tn {n : Nat} (h : n < 2 ^ 32) : (nI n).toBitVec.toNat = n := Nat.mod_eq_of_lt h
def bt (x : Int32) (i : Nat) : Bool := x.toBitVec.getLsbD i
theorem b_ext {x y : Int32} (h : ∀ i, i < 32 → bt x i = bt y i) : x = y := Int32.toBitVec_inj.mp (BitVec.eq_of_getLsbD_eq (fun i hi => h i hi))
theorem b_or (x y : Int32) (i : Nat) : bt (x ||| y) i = (bt x i || bt y i) := by unfold bt; rw [Int32.toBitVec_or, BitVec.getLsbD_or]
theorem b_and (x y : Int32) (i : Nat) : bt (x &&& y) i = (bt x i && bt y i) := by unfold bt; rw [Int32.toBitVec_and, BitVec.getLsbD_and]
theorem b_xor (x y : Int32) (i : Nat) : bt (x ^^^ y) i = (bt x i ^^ bt y i) := by unfold bt; rw [Int32.toBitVec_xor, BitVec.getLsbD_xor]
theorem b_big {x : Int32} {i : Nat} (h : 32 ≤ i) : bt x i = false := BitVec.getLsbD_of_ge _ _ h
theorem b_m1 : ∀ i, i < 32 → bt (-1) i = true := by decide +kernel
theorem b_0 (i : Nat) : bt 0 i = false := BitVec.getLsbD_zero
theorem s_l : ∀ n, n < 32 → ((nI n &&& 31).toBitVec.smod 32).toNat = n := by decide +kernel
theorem b_shl (n : Nat) (hn : n < 32) (x : Int32) {i : Nat} (hi : i < 32) : bt (x <<< (nI n &&& 31)) i = (decide (n ≤ i) && bt x (i - n)) := by
  unfold bt
  rw [Int32.toBitVec_shiftLeft]
  show (x.toBitVec <<< ((nI n &&& 31).toBitVec.smod 32).toNat).getLsbD i = _
  rw [s_l n hn, BitVec.getLsbD_shiftLeft]
  rcases Nat.lt_or_ge i n with h | h
  · simp [h, Nat.not_le.mpr h]
  · simp [hi, h, Nat.not_lt.mpr h]
theorem b_sshr (n : Nat) (hn : n < 32) (x : Int32) {i : Nat} (hi : i < 32) : bt (x >>> (nI n &&& 31)) i = if n + i < 32 then bt x (n + i) else bt x 31 := by
  unfold bt
  rw [Int32.toBitVec_shiftRight]
  show (x.toBitVec.sshiftRight ((nI n &&& 31).toBitVec.smod 32).toNat).getLsbD i = _
  rw [s_l n hn, BitVec.getLsbD_sshiftRight, BitVec.msb_eq_getLsbD_last]
  simp [hi]
/-! bits of the neighbour sets -/
theorem ss_one : ∀ v, v < 32 → ∀ i, i < 32 → bt ((1 : Int32) <<< (nI v &&& 31)) i = decide (i = v) := by decide +kernel
theorem ss_low : ∀ v, v < 8 → ∀ i, i < 32 → bt (((1 : Int32) <<< (nI v &&& 31)) - 1) i = decide (i < v) := by decide +kernel
theorem ss_bt1 : ∀ i, i < 32 → bt 1 i = decide (i = 0) := by decide +kernel
theorem ss_test (x : Int32) {v : Nat} (hv : v < 32) : ((x >>> (nI v &&& 31)) &&& 1) = 1 ↔ bt x v = true := by
  have h0 : bt ((x >>> (nI v &&& 31)) &&& 1) 0 = bt x v := by
    rw [b_and, b_sshr v hv x (by omega), ss_bt1 0 (by omega)]
    simp [hv]
  constructor
  · intro h
    rw [← h0, h]
    decide +kernel
  · intro h
    apply b_ext
    intro i hi
    by_cases e : i = 0
    · subst e
      rw [h0, h]
      decide +kernel
    · rw [b_and, ss_bt1 i hi, decide_eq_false e, Bool.and_false]
theorem ss_isz {x : Int32} : x = 0 ↔ ∀ i, i < 32 → bt x i = false := by
  constructor
  · intro h i hi
    rw [h, b_0]
  · intro h
    apply b_ext
    intro i hi
    rw [h i hi, b_0]
end
section
/-! pure: counts, closures, parts of a graph -/
def ss_any (p : Nat → Bool) : Nat → Bool
  | 0 => false
  | j + 1 => ss_any p j || p j
theorem ss_any_iff {p : Nat → Bool} {n : Nat} : ss_any p n = true ↔ ∃ i, i < n ∧ p i = true := by
  induction n with
  | zero => exact ⟨fun h => (nomatch h), fun ⟨i, h, _⟩ => absurd h (Nat.not_lt_zero i)⟩
  | succ n ih =>
    show (ss_any p n || p n) = true ↔ _
    rw [Bool.or_eq_true, ih]
    constructor
    · intro h
      rcases h with ⟨i, h, hp⟩ | h
      · exact ⟨i, by omega, hp⟩
      · exact ⟨n, by omega, h⟩
    · intro ⟨i, h, hp⟩
      by_cases e : i = n
      · subst e; exact Or.inr hp
      · exact Or.inl ⟨i, by omega, hp⟩
theorem ss_any_no {p : Nat → Bool} {n : Nat} : ss_any p n = false ↔ ∀ i, i < n → p i = false := by
  constructor
  · intro h i hi
    cases hp : p i
    · rfl
    · exact absurd (ss_any_iff.mpr ⟨i, hi, hp⟩) (by rw [h]; decide)
  · intro h
    cases hp : ss_any p n
    · rfl
    · obtain ⟨i, hi, hq⟩ := ss_any_iff.mp hp
      rw [h i hi] at hq
      exact absurd hq (by decide)
def ss_cnt (p : Nat → Bool) : Nat → Nat
  | 0 => 0
  | j + 1 => ss_cnt p j + (if p j = true then 1 else 0)
theorem ss_cnt_t {p : Nat → Bool} {j : Nat} (h : p j = true) : ss_cnt p (j + 1) = ss_cnt p j + 1 := by
  show _ + (if p j = true then 1 else 0) = _
  rw [if_pos h]
theorem ss_cnt_f {p : Nat → Bool} {j : Nat} (h : ¬ p j = true) : ss_cnt p (j + 1) = ss_cnt p j := by
  show _ + (if p j = true then 1 else 0) = _
  rw [if_neg h]; rfl
theorem ss_cnt_le (p : Nat → Bool) : ∀ n, ss_cnt p n ≤ n := by
  intro n
  induction n with
  | zero => exact Nat.le_refl 0
  | succ n ih =>
    by_cases h : p n = true
    · rw [ss_cnt_t h]; omega
    · rw [ss_cnt_f h]; omega
theorem ss_cnt_full {p : Nat → Bool} : ∀ n, n ≤ ss_cnt p n → ∀ i, i < n → p i = true := by
  intro n
  induction n with
  | zero => intro _ i hi; omega
  | succ n ih =>
    intro hn i hi
    by_cases h : p n = true
    · rw [ss_cnt_t h] at hn
      by_cases e : i = n
      · rw [e]; exact h
      · exact ih (by omega) i (by omega)
    · rw [ss_cnt_f h] at hn
      have := ss_cnt_le p n
      omega
theorem ss_cnt_mono {p q : Nat → Bool} (h : ∀ i, p i = true → q i = true) : ∀ n, ss_cnt p n ≤ ss_cnt q n := by
  intro n
  induction n with
  | zero => exact Nat.le_refl 0
  | succ n ih =>
    by_cases hp : p n = true
    · rw [ss_cnt_t hp, ss_cnt_t (h n hp)]; omega
    · rw [ss_cnt_f hp]
      by_cases hq : q n = true
      · rw [ss_cnt_t hq]; omega
      · rw [ss_cnt_f hq]; omega
theorem ss_cnt_lt {p q : Nat → Bool} (h : ∀ i, p i = true → q i = true) {j : Nat} (hp : p j = false) (hq : q j = true) : ∀ n, j < n → ss_cnt p n < ss_cnt q n := by
  intro n
  induction n with
  | zero => intro hj; omega
  | succ n ih =>
    intro hj
    by_cases e : j = n
    · subst e
      rw [ss_cnt_t hq, ss_cnt_f (by rw [hp]; decide)]
      have := ss_cnt_mono h j
      omega
    · have hl := ih (by omega)
      by_cases hp : p n = true
      · rw [ss_cnt_t hp, ss_cnt_t (h n hp)]; omega
      · rw [ss_cnt_f hp]
        by_cases hq : q n = true
        · rw [ss_cnt_t hq]; omega
        · rw [ss_cnt_f hq]; omega
theorem ss_cnt_pos {p : Nat → Bool} {j : Nat} (hp : p j = true) : ∀ n, j < n → 0 < ss_cnt p n := by
  intro n
  induction n with
  | zero => intro hj; omega
  | succ n ih =>
    intro hj
    by_cases e : j = n
    · subst e
      rw [ss_cnt_t hp]; omega
    · have hl := ih (by omega)
      show 0 < ss_cnt p n + _
      omega
theorem ss_cnt_congr {p q : Nat → Bool} : ∀ n, (∀ i, i < n → p i = q i) → ss_cnt p n = ss_cnt q n := by
  intro n
  induction n with
  | zero => intro _; rfl
  | succ n ih =>
    intro h
    show ss_cnt p n + (if p n = true then 1 else 0) = ss_cnt q n + (if q n = true then 1 else 0)
    rw [ih (fun i hi => h i (by omega)), h n (by omega)]
/-! closures -/
def ss_wid (A : Nat → Nat → Bool) (n : Nat) (S : Nat → Bool) : Nat → Bool := fun i => S i || ss_any (fun v => S v && A v i) n
def ss_it (A : Nat → Nat → Bool) (n v : Nat) : Nat → Nat → Bool
  | 0 => fun i => decide (i = v)
  | k + 1 => ss_wid A n (ss_it A n v k)
def ss_cl (A : Nat → Nat → Bool) (n : Nat) (S : Nat → Bool) : Prop := ∀ u i, u < n → S u = true → A u i = true → S i = true
theorem ss_wid_iff {A : Nat → Nat → Bool} {n : Nat} {S : Nat → Bool} {i : Nat} : ss_wid A n S i = true ↔ (S i = true ∨ ∃ u, u < n ∧ S u = true ∧ A u i = true) := by
  show (S i || ss_any (fun v => S v && A v i) n) = true ↔ _
  rw [Bool.or_eq_true, ss_any_iff]
  constructor
  · intro h
    rcases h with h | ⟨u, hu, h⟩
    · exact Or.inl h
    · have h2 : (S u && A u i) = true := h
      rw [Bool.and_eq_true] at h2
      exact Or.inr ⟨u, hu, h2.1, h2.2⟩
  · intro h
    rcases h with h | ⟨u, hu, h1, h2⟩
    · exact Or.inl h
    · exact Or.inr ⟨u, hu, by show (S u && A u i) = true; rw [h1, h2]; rfl⟩
theorem ss_wid_cl {A : Nat → Nat → Bool} {n : Nat} {S : Nat → Bool} (h : ss_cl A n S) : ss_wid A n S = S := by
  funext i
  apply Bool.eq_iff_iff.mpr
  rw [ss_wid_iff]
  constructor
  · intro g
    rcases g with g | ⟨u, hu, h1, h2⟩
    · exact g
    · exact h u i hu h1 h2
  · exact Or.inl
theorem ss_grow {A : Nat → Nat → Bool} {n v : Nat} (hA : ∀ u i, u < n → A u i = true → i < n) (hv : v < n) : ∀ k, ss_cl A n (ss_it A n v k) ∨ k + 1 ≤ ss_cnt (ss_it A n v k) n := by
  intro k
  induction k with
  | zero =>
    refine Or.inr (ss_cnt_pos (j := v) ?_ n hv)
    show decide (v = v) = true
    exact decide_eq_true rfl
  | succ k ih =>
    by_cases hc : ss_cl A n (ss_it A n v k)
    · refine Or.inl ?_
      show ss_cl A n (ss_wid A n (ss_it A n v k))
      rw [ss_wid_cl hc]
      exact hc
    · have hk := ih.resolve_left hc
      have : ∃ u i, u < n ∧ ss_it A n v k u = true ∧ A u i = true ∧ ¬ ss_it A n v k i = true := by
        apply Classical.byContradiction
        intro hn
        apply hc
        intro u i hu h1 h2
        apply Classical.byContradiction
        intro h3
        exact hn ⟨u, i, hu, h1, h2, h3⟩
      obtain ⟨u, i, hu, h1, h2, h3⟩ := this
      refine Or.inr ?_
      have hl : ss_cnt (ss_it A n v k) n < ss_cnt (ss_it A n v (k + 1)) n := by
        refine ss_cnt_lt (j := i) (fun j hj => ss_wid_iff.mpr (Or.inl hj)) ?_ (ss_wid_iff.mpr (Or.inr ⟨u, hu, h1, h2⟩)) n (hA u i hu h2)
        cases hb : ss_it A n v k i
        · rfl
        · exact absurd hb h3
      omega
def ss_part (A : Nat → Nat → Bool) (n v : Nat) : Nat → Bool := ss_it A n v (n - 1)
theorem ss_part_cl {A : Nat → Nat → Bool} {n v : Nat} (hA : ∀ u i, u < n → A u i = true → i < n) (hv : v < n) : ss_cl A n (ss_part A n v) := by
  rcases ss_grow hA hv (n - 1) with h | h
  · exact h
  · intro u i hu h1 h2
    have h' : n - 1 + 1 ≤ ss_cnt (ss_part A n v) n := h
    exact ss_cnt_full n (by omega) i (hA u i hu h2)
theorem ss_it_refl (A : Nat → Nat → Bool) (n v : Nat) : ∀ k, ss_it A n v k v = true := by
  intro k
  induction k with
  | zero => exact decide_eq_true rfl
  | succ k ih => exact ss_wid_iff.mpr (Or.inl ih)
theorem ss_part_refl (A : Nat → Nat → Bool) (n v : Nat) : ss_part A n v v = true := ss_it_refl A n v _
theorem ss_it_min {A : Nat → Nat → Bool} {n v : Nat} {S : Nat → Bool} (hS : ss_cl A n S) (h : S v = true) : ∀ k i, ss_it A n v k i = true → S i = true := by
  intro k
  induction k with
  | zero =>
    intro i hi
    have e : i = v := of_decide_eq_true hi
    rw [e]; exact h
  | succ k ih =>
    intro i hi
    rcases ss_wid_iff.mp hi with g | ⟨u, hu, h1, h2⟩
    · exact ih i g
    · exact hS u i hu (ih u h1) h2
theorem ss_part_min {A : Nat → Nat → Bool} {n v : Nat} {S : Nat → Bool} (hS : ss_cl A n S) (h : S v = true) {i : Nat} (hi : ss_part A n v i = true) : S i = true := ss_it_min hS h _ i hi
theorem ss_part_lt {A : Nat → Nat → Bool} {n v : Nat} (hA : ∀ u i, u < n → A u i = true → i < n) (hv : v < n) {i : Nat} (hi : ss_part A n v i = true) : i < n := by
  have := ss_part_min (S := fun j => decide (j < n)) (fun u j hu _ h2 => decide_eq_true (hA u j hu h2)) (decide_eq_true hv) hi
  exact of_decide_eq_true this
theorem ss_part_tr {A : Nat → Nat → Bool} {n u v : Nat} (hA : ∀ u i, u < n → A u i = true → i < n) (hu : u < n) (h : ss_part A n u v = true) {i : Nat} (hi : ss_part A n v i = true) : ss_part A n u i = true := ss_part_min (ss_part_cl hA hu) h hi
theorem ss_part_sym {A : Nat → Nat → Bool} {n v : Nat} (hA : ∀ u i, u < n → A u i = true → i < n) (hs : ∀ u i, u < n → A u i = true → A i u = true) (hv : v < n) {i : Nat} (hi : ss_part A n v i = true) : ss_part A n i v = true := by
  refine ss_part_min (S := fun j => ss_part A n j v) ?_ (ss_part_refl A n v) hi
  intro a b ha h1 h2
  have hb := hA a b ha h2
  have hba : ss_part A n b a = true := ss_part_cl hA hb b a hb (ss_part_refl A n b) (hs a b ha h2)
  exact ss_part_tr hA hb hba h1
end
section
/-! pure: sums, edges, states, labels -/
def ss_sm (f : Nat → Nat) : Nat → Nat
  | 0 => 0
  | j + 1 => ss_sm f j + f j
theorem ss_sm_s (f : Nat → Nat) (j : Nat) : ss_sm f (j + 1) = ss_sm f j + f j := rfl
theorem ss_sm_congr {f g : Nat → Nat} : ∀ n, (∀ i, i < n → f i = g i) → ss_sm f n = ss_sm g n := by
  intro n
  induction n with
  | zero => intro _; rfl
  | succ n ih =>
    intro h
    rw [ss_sm_s, ss_sm_s, ih (fun i hi => h i (by omega)), h n (by omega)]
theorem ss_sm_add (f g : Nat → Nat) : ∀ n, ss_sm (fun i => f i + g i) n = ss_sm f n + ss_sm g n := by
  intro n
  induction n with
  | zero => rfl
  | succ n ih =>
    rw [ss_sm_s, ss_sm_s, ss_sm_s, ih]
    show ss_sm f n + ss_sm g n + (f n + g n) = _
    omega
theorem ss_sm_cnt (p : Nat → Bool) : ∀ n, ss_sm (fun i => if p i = true then 1 else 0) n = ss_cnt p n := by
  intro n
  induction n with
  | zero => rfl
  | succ n ih => rw [ss_sm_s, ih]; rfl
theorem ss_sm_le {f : Nat → Nat} {b : Nat} (h : ∀ i, f i ≤ b) : ∀ n, ss_sm f n ≤ n * b := by
  intro n
  induction n with
  | zero => exact Nat.zero_le _
  | succ n ih =>
    rw [ss_sm_s, Nat.succ_mul]
    have := h n
    omega
theorem ss_cnt_s (p : Nat → Bool) (j : Nat) : ss_cnt p (j + 1) = ss_cnt p j + (if p j = true then 1 else 0) := rfl
theorem ss_cnt_0 {p : Nat → Bool} : ∀ n, (∀ i, i < n → p i = false) → ss_cnt p n = 0 := by
  intro n
  induction n with
  | zero => intro _; rfl
  | succ n ih =>
    intro h
    rw [ss_cnt_f (by rw [h n (by omega)]; decide), ih (fun i hi => h i (by omega))]
def ss_deg (A : Nat → Nat → Bool) (n v : Nat) : Nat := ss_cnt (A v) n
def ss_up (A : Nat → Nat → Bool) (n u : Nat) : Nat := ss_cnt (fun v => decide (u < v) && A u v) n
theorem ss_edges {A : Nat → Nat → Bool} {m : Nat} (hs : ∀ u v, u < m → v < m → A u v = A v u) (hi : ∀ u, u < m → A u u = false) : ∀ n, n ≤ m → ss_sm (ss_deg A n) n = 2 * ss_sm (ss_up A n) n := by
  intro n
  induction n with
  | zero => intro _; rfl
  | succ n ih =>
    intro hn
    have hD : ss_sm (ss_deg A (n + 1)) n = ss_sm (ss_deg A n) n + ss_cnt (A n) n := by
      have e1 : ss_sm (ss_deg A (n + 1)) n = ss_sm (fun i => ss_deg A n i + (if A i n = true then 1 else 0)) n := ss_sm_congr n (fun i _ => rfl)
      rw [e1, ss_sm_add, ss_sm_cnt (fun i => A i n)]
      rw [ss_cnt_congr (p := fun i => A i n) (q := A n) n (fun i h => hs i n (by omega) (by omega))]
    have hU : ss_sm (ss_up A (n + 1)) n = ss_sm (ss_up A n) n + ss_cnt (A n) n := by
      have e1 : ss_sm (ss_up A (n + 1)) n = ss_sm (fun i => ss_up A n i + (if A i n = true then 1 else 0)) n := by
        apply ss_sm_congr n
        intro i h
        show ss_cnt _ n + (if (decide (i < n) && A i n) = true then 1 else 0) = _
        rw [decide_eq_true h, Bool.true_and]
        rfl
      rw [e1, ss_sm_add, ss_sm_cnt (fun i => A i n)]
      rw [ss_cnt_congr (p := fun i => A i n) (q := A n) n (fun i h => hs i n (by omega) (by omega))]
    have h1 : ss_deg A (n + 1) n = ss_cnt (A n) n := ss_cnt_f (by rw [hi n (by omega)]; decide)
    have h2 : ss_up A (n + 1) n = 0 := ss_cnt_0 _ (fun i h => by
      show (decide (n < i) && A n i) = false
      rw [decide_eq_false (by omega), Bool.false_and])
    rw [ss_sm_s, ss_sm_s, hD, hU, h1, h2, ih (by omega)]
    omega
/-! the states -/
def ss_max (a : Nat → Bool) (f : Nat → Int32) (s : Int32) : Nat → Int32
  | 0 => s
  | j + 1 => if a j = true then (if ss_max a f s j < f j then f j else ss_max a f s j) else ss_max a f s j
def ss_min (a : Nat → Bool) (f : Nat → Int32) (d s : Int32) : Nat → Int32
  | 0 => s
  | j + 1 => if a j = true then (if f j + d < ss_min a f d s j then f j + d else ss_min a f d s j) else ss_min a f d s j
def ss_sum (a : Nat → Bool) (f : Nat → Int32) : Nat → Int32
  | 0 => 0
  | j + 1 => if a j = true then ss_sum a f j + f j else ss_sum a f j
def ss_xor (a : Nat → Bool) (f : Nat → Int32) (s : Int32) : Nat → Int32
  | 0 => s
  | j + 1 => if a j = true then ss_xor a f s j ^^^ f j else ss_xor a f s j
def ss_lst (a : Nat → Bool) (f : Nat → Int32) : Nat → Int32
  | 0 => 0
  | j + 1 => if a j = true then (if ss_any a j = true then (if f j < ss_lst a f j then f j else ss_lst a f j) else f j) else ss_lst a f j
theorem ss_max_congr {a : Nat → Bool} {f g : Nat → Int32} {s : Int32} : ∀ n, (∀ i, i < n → f i = g i) → ss_max a f s n = ss_max a g s n := by
  intro n
  induction n with
  | zero => intro _; rfl
  | succ n ih => intro h; simp only [ss_max, ih (fun i hi => h i (by omega)), h n (by omega)]
theorem ss_min_congr {a : Nat → Bool} {f g : Nat → Int32} {d s : Int32} : ∀ n, (∀ i, i < n → f i = g i) → ss_min a f d s n = ss_min a g d s n := by
  intro n
  induction n with
  | zero => intro _; rfl
  | succ n ih => intro h; simp only [ss_min, ih (fun i hi => h i (by omega)), h n (by omega)]
theorem ss_sum_congr {a : Nat → Bool} {f g : Nat → Int32} : ∀ n, (∀ i, i < n → f i = g i) → ss_sum a f n = ss_sum a g n := by
  intro n
  induction n with
  | zero => intro _; rfl
  | succ n ih => intro h; simp only [ss_sum, ih (fun i hi => h i (by omega)), h n (by omega)]
theorem ss_xor_congr {a : Nat → Bool} {f g : Nat → Int32} {s : Int32} : ∀ n, (∀ i, i < n → f i = g i) → ss_xor a f s n = ss_xor a g s n := by
  intro n
  induction n with
  | zero => intro _; rfl
  | succ n ih => intro h; simp only [ss_xor, ih (fun i hi => h i (by omega)), h n (by omega)]
def ss_nx (g n : Nat) (a : Nat → Bool) (f : Nat → Int32) (s : Int32) : Int32 :=
  if g = 0 then ss_max a f s n
  else if g = 1 then ss_min a f 0 s n
  else if g = 2 then s + ss_sum a f n
  else if g = 3 then ss_xor a f s n
  else if g = 4 then ss_min a f 1 s n
  else 3 * s - ss_sum a f n
theorem ss_nx_congr {g n : Nat} {a : Nat → Bool} {f h : Nat → Int32} {s : Int32} (e : ∀ i, i < n → f i = h i) : ss_nx g n a f s = ss_nx g n a h s := by
  unfold ss_nx
  rw [ss_max_congr n e, ss_min_congr n e, ss_sum_congr n e, ss_xor_congr n e, ss_min_congr n e]
def ss_st (g n : Nat) (A : Nat → Nat → Bool) (s : Nat → Int32) : Nat → Nat → Int32
  | 0 => s
  | p + 1 => fun v => ss_nx g n (A v) (ss_st g n A s p) (ss_st g n A s p v)
theorem ss_min_le (a : Nat → Bool) (f : Nat → Int32) (d s : Int32) : ∀ n, (ss_min a f d s n).toInt ≤ s.toInt := by
  intro n
  induction n with
  | zero => exact Int.le_refl _
  | succ n ih =>
    unfold ss_min
    split
    · split
      · rename_i h
        rw [Int32.lt_iff_toInt_lt] at h
        omega
      · exact ih
    · exact ih
theorem ss_p1 {x : Int32} (h : x.toInt ≤ 1000) : (x + 1).toInt = x.toInt + 1 := by
  have h2 := Int32.le_toInt x
  rw [Int32.toInt_add, show (1 : Int32).toInt = 1 from by decide]
  exact Int.bmod_eq_of_le (by omega) (by omega)
theorem ss_least {a : Nat → Bool} {f : Nat → Int32} {s : Int32} : ∀ n, (∀ i, i < n → (f i).toInt ≤ 1000) → (ss_any a n = true → (ss_lst a f n).toInt ≤ 1000) ∧ ss_min a f 1 s n = (if ss_any a n = true ∧ ss_lst a f n + 1 < s then ss_lst a f n + 1 else s) := by
  intro n
  induction n with
  | zero => intro _; exact ⟨fun h => (nomatch h), (if_neg (fun h => nomatch h.1)).symm⟩
  | succ n ih =>
    intro h
    obtain ⟨i1, i2⟩ := ih (fun i hi => h i (by omega))
    have hn := h n (by omega)
    by_cases ha : a n = true
    · have e3 : ss_any a (n + 1) = true := by
        show (ss_any a n || a n) = true
        rw [ha, Bool.or_true]
      have e1 : ss_min a f 1 s (n + 1) = if f n + 1 < ss_min a f 1 s n then f n + 1 else ss_min a f 1 s n := if_pos ha
      have e2 : ss_lst a f (n + 1) = if ss_any a n = true then (if f n < ss_lst a f n then f n else ss_lst a f n) else f n := if_pos ha
      have q1 := ss_p1 hn
      by_cases hb : ss_any a n = true
      · have j1 := i1 hb
        have q2 := ss_p1 j1
        rw [if_pos hb] at e2
        rw [e3, e1, i2, e2]
        simp only [hb, true_and, Int32.lt_iff_toInt_lt]
        constructor
        · intro _
          split <;> omega
        · apply Int32.toInt_inj.mp
          by_cases c1 : (ss_lst a f n + 1).toInt < s.toInt
          · rw [if_pos c1]
            by_cases c2 : (f n).toInt < (ss_lst a f n).toInt
            · rw [if_pos c2, if_pos (by omega), if_pos (by omega)]
            · rw [if_neg c2, if_neg (by omega), if_pos c1]
          · rw [if_neg c1]
            by_cases c2 : (f n).toInt < (ss_lst a f n).toInt
            · rw [if_pos c2]
            · rw [if_neg c2, if_neg c1, if_neg (by omega)]
      · rw [if_neg hb] at e2
        have e4 : ss_min a f 1 s n = s := by rw [i2, if_neg (fun z => hb z.1)]
        rw [e3, e1, e2, e4]
        simp only [true_and]
        exact ⟨fun _ => hn, trivial⟩
    · have e3 : ss_any a (n + 1) = ss_any a n := by
        show (ss_any a n || a n) = _
        rw [Bool.eq_false_iff.mpr ha, Bool.or_false]
      have e1 : ss_min a f 1 s (n + 1) = ss_min a f 1 s n := if_neg ha
      have e2 : ss_lst a f (n + 1) = ss_lst a f n := if_neg ha
      rw [e3, e1, e2]
      exact ⟨i1, i2⟩
theorem ss_st4 {n : Nat} {A : Nat → Nat → Bool} {s : Nat → Int32} (h : ∀ v, v < n → (s v).toInt ≤ 1000) : ∀ p v, v < n → (ss_st 4 n A s p v).toInt ≤ 1000 := by
  intro p
  induction p with
  | zero => exact h
  | succ p ih =>
    intro v hv
    have e : ss_st 4 n A s (p + 1) v = ss_min (A v) (ss_st 4 n A s p) 1 (ss_st 4 n A s p v) n := rfl
    rw [e]
    have := ss_min_le (A v) (ss_st 4 n A s p) 1 (ss_st 4 n A s p v) n
    have := ih v hv
    omega
theorem ss_max_no {a : Nat → Bool} {f : Nat → Int32} {s : Int32} : ∀ n, (∀ i, a i = false) → ss_max a f s n = s := by
  intro n
  induction n with
  | zero => intro _; rfl
  | succ n ih =>
    intro h
    have e1 : ss_max a f s (n + 1) = ss_max a f s n := if_neg (by rw [h n]; decide)
    rw [e1, ih h]
theorem ss_st0 {n : Nat} : ∀ p v, ss_st 0 n (fun _ _ => false) (fun _ => 0) p v = 0 := by
  intro p
  induction p with
  | zero => intro v; rfl
  | succ p ih =>
    intro v
    have e : ss_st 0 n (fun _ _ => false) (fun _ => 0) (p + 1) v = ss_max (fun _ => false) (ss_st 0 n (fun _ _ => false) (fun _ => 0) p) (ss_st 0 n (fun _ _ => false) (fun _ => 0) p v) n := rfl
    rw [e, ss_max_no n (fun _ => rfl), ih v]
/-! the first that .. -/
def ss_fst (p : Nat → Bool) (z : Int32) : Nat → Nat → Int32
  | 0, _ => z
  | d + 1, j => if p j = true then nI j else ss_fst p z d (j + 1)
theorem ss_fst_t {p : Nat → Bool} {z : Int32} {d j : Nat} (h : p j = true) : ss_fst p z (d + 1) j = nI j := if_pos h
theorem ss_fst_f {p : Nat → Bool} {z : Int32} {d j : Nat} (h : ¬ p j = true) : ss_fst p z (d + 1) j = ss_fst p z d (j + 1) := if_neg h
/-! labels -/
def ss_lo (A : Nat → Nat → Bool) (n : Nat) : Nat := ss_cnt (fun v => !ss_any (ss_part A n v) v) n
theorem ss_lab {A : Nat → Nat → Bool} {n : Nat} {L : Nat → Nat} (hA : ∀ u i, u < n → A u i = true → i < n) (hs : ∀ u i, u < n → A u i = true → A i u = true) (h1 : ∀ i, i < n → ss_part A n i (L i) = true) (h2 : ∀ m i, m < n → ss_part A n m i = true → L i ≤ m) : ss_cnt (fun v => decide (L v = v)) n = ss_lo A n := by
  apply ss_cnt_congr
  intro v hv
  show decide (L v = v) = !ss_any (ss_part A n v) v
  by_cases e : L v = v
  · rw [decide_eq_true e]
    have : ss_any (ss_part A n v) v = false := by
      apply ss_any_no.mpr
      intro i hi
      cases hp : ss_part A n v i
      · rfl
      · have g := h2 i v (by omega) (ss_part_sym hA hs hv hp)
        omega
    rw [this]; rfl
  · rw [decide_eq_false e]
    have g := h2 v v hv (ss_part_refl A n v)
    have : ss_any (ss_part A n v) v = true := ss_any_iff.mpr ⟨L v, by omega, h1 v hv⟩
    rw [this]; rfl
def ss_put (L : Nat → Nat) (u x : Nat) : Nat → Nat := fun i => if i = u then x else L i
/-- the labels within one pass: row u, column v reached; L0 those at its start -/
def ss_J (A : Nat → Nat → Bool) (n : Nat) (L0 : Nat → Nat) (u v : Nat) (L : Nat → Nat) (any : Bool) : Prop :=
  (∀ i, L i ≤ L0 i) ∧ (∀ i, i < n → ss_part A n i (L i) = true) ∧ (∀ x y, x < u → y < n → A x y = true → L x ≤ L0 y) ∧ (∀ y, y < v → A u y = true → L u ≤ L0 y) ∧ (any = false → ∀ i, L i = L0 i)
theorem ss_J0 {A : Nat → Nat → Bool} {n : Nat} {L : Nat → Nat} (h : ∀ i, i < n → ss_part A n i (L i) = true) : ss_J A n L 0 0 L false := ⟨fun _ => Nat.le_refl _, h, fun x _ hx => absurd hx (Nat.not_lt_zero x), fun y hy => absurd hy (Nat.not_lt_zero y), fun _ _ => rfl⟩
theorem ss_Jrow {A : Nat → Nat → Bool} {n u : Nat} {L0 L : Nat → Nat} {any : Bool} (h : ss_J A n L0 u n L any) : ss_J A n L0 (u + 1) 0 L any := by
  obtain ⟨h1, h2, h3, h4, h5⟩ := h
  refine ⟨h1, h2, ?_, fun y hy => absurd hy (Nat.not_lt_zero y), h5⟩
  intro x y hx hy ha
  by_cases e : x = u
  · subst e; exact h4 y hy ha
  · exact h3 x y (by omega) hy ha
theorem ss_Jno {A : Nat → Nat → Bool} {n u v : Nat} {L0 L : Nat → Nat} {any : Bool} (h : ss_J A n L0 u v L any) (hn : A u v = true → L u ≤ L v) : ss_J A n L0 u (v + 1) L any := by
  obtain ⟨h1, h2, h3, h4, h5⟩ := h
  refine ⟨h1, h2, h3, ?_, h5⟩
  intro y hy ha
  by_cases e : y = v
  · subst e
    exact Nat.le_trans (hn ha) (h1 y)
  · exact h4 y (by omega) ha
theorem ss_Jset {A : Nat → Nat → Bool} {n u v : Nat} {L0 L : Nat → Nat} {any : Bool} (hA : ∀ u i, u < n → A u i = true → i < n) (hu : u < n) (h : ss_J A n L0 u v L any) (ha : A u v = true) (hl : L v < L u) : ss_J A n L0 u (v + 1) (ss_put L u (L v)) true := by
  obtain ⟨h1, h2, h3, h4, h5⟩ := h
  have hv := hA u v hu ha
  have k : ∀ i, ss_put L u (L v) i ≤ L i := by
    intro i
    show (if i = u then L v else L i) ≤ L i
    split
    · rename_i e; rw [e]; omega
    · exact Nat.le_refl _
  have ku : ss_put L u (L v) u = L v := if_pos rfl
  refine ⟨fun i => Nat.le_trans (k i) (h1 i), ?_, ?_, ?_, fun z => nomatch z⟩
  · intro i hi
    show ss_part A n i (if i = u then L v else L i) = true
    split
    · rename_i e
      rw [e]
      exact ss_part_tr hA hu (ss_part_cl hA hu u v hu (ss_part_refl A n u) ha) (h2 v hv)
    · exact h2 i hi
  · intro x y hx hy hxy
    exact Nat.le_trans (k x) (h3 x y hx hy hxy)
  · intro y hy hay
    rw [ku]
    by_cases e : y = v
    · rw [e]; exact h1 v
    · have := h4 y (by omega) hay
      omega
/-- the labels ahead of pass k -/
def ss_Q (A : Nat → Nat → Bool) (n k : Nat) (L : Nat → Nat) (more : Bool) : Prop :=
  (∀ i, i < n → ss_part A n i (L i) = true) ∧ (∀ m i, m < n → i < n → ss_it A n m k i = true → L i ≤ m) ∧ (more = false → ∀ x y, x < n → y < n → A x y = true → L x ≤ L y)
theorem ss_Q0 (A : Nat → Nat → Bool) (n : Nat) : ss_Q A n 0 (fun i => i) true := by
  refine ⟨fun i _ => ss_part_refl A n i, ?_, fun z => nomatch z⟩
  intro m i _ _ h
  have e : i = m := of_decide_eq_true h
  show i ≤ m
  omega
theorem ss_Qs {A : Nat → Nat → Bool} {n k : Nat} {L0 L : Nat → Nat} {more any : Bool} (hA : ∀ u i, u < n → A u i = true → i < n) (hs : ∀ u i, u < n → A u i = true → A i u = true) (h : ss_Q A n k L0 more) (hJ : ss_J A n L0 n 0 L any) : ss_Q A n (k + 1) L any := by
  obtain ⟨q1, q2, q3⟩ := h
  obtain ⟨h1, h2, h3, h4, h5⟩ := hJ
  refine ⟨h2, ?_, ?_⟩
  · intro m i hm hi hit
    rcases ss_wid_iff.mp hit with g | ⟨u, hu, g1, g2⟩
    · exact Nat.le_trans (h1 i) (q2 m i hm hi g)
    · exact Nat.le_trans (h3 i u hi hu (hs u i hu g2)) (q2 m u hm hu g1)
  · intro e x y hx hy hxy
    rw [h5 e y]
    exact h3 x y hx hy hxy
theorem ss_it_mono {A : Nat → Nat → Bool} {n v i : Nat} : ∀ d k, ss_it A n v k i = true → ss_it A n v (k + d) i = true := by
  intro d
  induction d with
  | zero => intro k h; exact h
  | succ d ih => intro k h; exact ss_wid_iff.mpr (Or.inl (ih k h))
theorem ss_Qend {A : Nat → Nat → Bool} {n k : Nat} {L : Nat → Nat} {more : Bool} (hA : ∀ u i, u < n → A u i = true → i < n) (hs : ∀ u i, u < n → A u i = true → A i u = true) (h : ss_Q A n k L more) (he : more = false ∨ n ≤ k) : ss_cnt (fun v => decide (L v = v)) n = ss_lo A n := by
  obtain ⟨q1, q2, q3⟩ := h
  refine ss_lab hA hs q1 ?_
  intro m i hm hp
  have hi := ss_part_lt hA hm hp
  rcases he with he | he
  · have c : ss_cl A n (fun i => decide (L i ≤ m)) := by
      intro u j hu h1 h2
      have h1' : L u ≤ m := of_decide_eq_true h1
      have := q3 he j u (hA u j hu h2) hu (hs u j hu h2)
      exact decide_eq_true (by omega)
    have hmm : L m ≤ m := q2 m m hm hm (ss_it_refl A n m k)
    exact of_decide_eq_true (ss_part_min (S := fun i => decide (L i ≤ m)) c (decide_eq_true hmm) hp)
  · refine q2 m i hm hi ?_
    have := ss_it_mono (A := A) (n := n) (v := m) (i := i) (k - (n - 1)) (n - 1) hp
    rw [show n - 1 + (k - (n - 1)) = k from by omega] at this
    exact this
end
section
/-! numbers as they are printed -/
def ss_b (b : Bool) : Int32 := if b = true then 1 else 0
theorem ss_b1 {b : Bool} (h : b = true) : ss_b b = 1 := if_pos h
theorem ss_b0 {b : Bool} (h : ¬ b = true) : ss_b b = 0 := if_neg h
theorem ss_8 : (8 : Int32) = nI 8 := by decide +kernel
theorem ss_ixX (p v : Nat) : nI p * 8 + nI v = nI (8 * p + v) := by rw [ss_8, pk_mul, nI_add, Nat.mul_comm]
theorem ss_ixY (p v : Nat) : 8 * nI p + nI v = nI (8 * p + v) := by rw [ss_8, pk_mul, nI_add]
theorem ss_ixY8 (p v : Nat) : 8 * nI p + 8 + nI v = nI (8 * (p + 1) + v) := by rw [ss_8, pk_mul, nI_add, nI_add, Nat.mul_succ]
theorem ss_ixYm (p v : Nat) : 8 * nI (p + 1) - 8 + nI v = nI (8 * p + v) := by
  rw [ss_8, pk_mul, pk_sub (by omega), nI_add, show 8 * (p + 1) - 8 = 8 * p from by omega]
theorem ss_clX {p v : Nat} (hp : p ≤ 10) (hv : v < 8) : (nI p * 8 + nI v).toNatClampNeg = 8 * p + v := by rw [ss_ixX, nI_clamp (by omega)]
theorem ss_inX {p v : Nat} (hp : p ≤ 10) (hv : v < 8) : vp_in (nI p * 8 + nI v) 88 := by rw [ss_ixX]; exact vp_in_nI (by omega) (by omega)
theorem ss_clY {p v : Nat} (hp : p ≤ 10) (hv : v < 8) : (8 * nI p + nI v).toNatClampNeg = 8 * p + v := by rw [ss_ixY, nI_clamp (by omega)]
theorem ss_inY {p v : Nat} (hp : p ≤ 10) (hv : v < 8) : vp_in (8 * nI p + nI v) 88 := by rw [ss_ixY]; exact vp_in_nI (by omega) (by omega)
theorem ss_inJ {p v : Nat} (hp : p < 8) (hv : v < 8) : vp_in (8 * nI p + nI v) 64 := by rw [ss_ixY]; exact vp_in_nI (by omega) (by omega)
/-! X: the small ones -/
section
variable {post : Int32 → Prop} {n : Nat} {gk wk sd : Int32} {nb st : Nat → Int32}
theorem ss_xgood {x : Int32} (hn : n ≤ 8) (h1 : ∀ v, v < n → x = nI v → post 1) (h0 : (x < 0 ∨ nI n ≤ x) → post 0) : wpX_isGood post (nI n, gk, wk, sd, nb, st) x := by
  unfold wpX_isGood
  dsimp only
  rcases pk_ix x (n := n) (by omega) with h | h | ⟨v, hv, rfl⟩
  · exact br_t h (h0 (Or.inl h))
  · refine br_c (fun _ => h0 (Or.inr h)) (fun _ => br_t h (h0 (Or.inr h)))
  · exact br_f (nI_pos (by omega)) (br_f (nI_ge hv (by omega)) (h1 v hv rfl))
theorem ss_xround {x : Int32} (h1 : ∀ p, p ≤ 10 → x = nI p → post 1) (h0 : (x < 0 ∨ ¬ x ≤ 10) → post 0) : wpX_isRound post (nI n, gk, wk, sd, nb, st) x := by
  unfold wpX_isRound
  dsimp only
  refine br_c (fun h => h0 (Or.inl h)) (fun h => br_c (fun h2 => h0 (Or.inr (Int32.not_le.mpr h2))) (fun h2 => ?_))
  obtain ⟨p, hp, e⟩ := nI_of2 (M := 10) (n := 10) (by decide) h (Int32.not_lt.mp h2)
  exact h1 p hp e
theorem ss_xj {u v : Nat} {b : Bool} (hu : u < 8) (hv : v < 32) (e : bt (nb u) v = b) (h : post (ss_b b)) : wpX_joined post (nI n, gk, wk, sd, nb, st) (nI u) (nI v) := by
  unfold wpX_joined
  dsimp only
  rw [nI_clamp (by omega)]
  refine ⟨vp_in_nI hu (by omega), ?_⟩
  by_cases hb : b = true
  · rw [ss_b1 hb] at h
    exact br_t ((ss_test _ hv).mpr (e.trans hb)) h
  · rw [ss_b0 hb] at h
    exact br_f (fun z => hb (e.symm.trans ((ss_test _ hv).mp z))) h
theorem ss_xs {p v : Nat} {x : Int32} (hp : p ≤ 10) (hv : v < 8) (e : st (8 * p + v) = x) (h : post x) : wpX_stateAfter post (nI n, gk, wk, sd, nb, st) (nI p) (nI v) := by
  unfold wpX_stateAfter
  dsimp only
  rw [ss_clX hp hv, e]
  exact ⟨ss_inX hp hv, h⟩
/-! X: the folds -/
variable {a : Nat → Bool} {f : Nat → Int32} {p v : Nat}
theorem ss_xmaxL {s : Int32} (hn : n ≤ 8) (hp : p ≤ 10) (hv : v < n) (ha : ∀ u, u < n → bt (nb v) u = a u) (hf : ∀ u, u < n → st (8 * p + u) = f u) (h : post (ss_max a f s n)) : ∀ d j acc, j + d = n → acc = ss_max a f s j → wX_greatestAround_10 post (nI p) (nI v) (nI n) gk wk sd nb st (d + 1) acc (nI j) := by
  intro d
  induction d with
  | zero =>
    intro j acc hj he
    have : j = n := by omega
    subst this he
    exact br_t (nI_le (Nat.le_refl _) (by omega)) h
  | succ d ih =>
    intro j acc hj he
    refine br_f (nI_ge (by omega) (by omega)) (ss_xj (by omega) (by omega) (ha j (by omega)) ?_)
    by_cases hb : a j = true
    · refine br_f (by rw [ss_b1 hb]; decide) (ss_xs hp (by omega) (hf j (by omega)) ?_)
      by_cases hc : ss_max a f s j < f j
      · refine br_f (by rw [he]; exact Int32.not_le.mpr hc) (ss_xs hp (by omega) (hf j (by omega)) (nm_r (nI_1 j) (ih (j + 1) _ (by omega) ?_)))
        simp only [ss_max, hb, hc, if_true]
      · refine br_t (by rw [he]; exact Int32.not_lt.mp hc) (nm_r (nI_1 j) (ih (j + 1) _ (by omega) ?_))
        simp only [ss_max, hb, hc, if_true, if_false, he]
    · refine br_t (ss_b0 hb) (nm_r (nI_1 j) (ih (j + 1) _ (by omega) ?_))
      exact he.trans (if_neg hb).symm
theorem ss_xmax (hn : n ≤ 8) (hp : p ≤ 10) (hv : v < n) (ha : ∀ u, u < n → bt (nb v) u = a u) (hf : ∀ u, u < n → st (8 * p + u) = f u) (h : post (ss_max a f (f v) n)) : wpX_greatestAround post (nI n, gk, wk, sd, nb, st) (nI p) (nI v) := by
  unfold wpX_greatestAround
  dsimp only
  exact ss_xs hp (by omega) (hf v hv) ⟨n + 1, ss_xmaxL hn hp hv ha hf h n 0 _ (by omega) rfl⟩
theorem ss_xminL {s t : Int32} (hn : n ≤ 8) (hp : p ≤ 10) (hv : v < n) (ha : ∀ u, u < n → bt (nb v) u = a u) (hf : ∀ u, u < n → st (8 * p + u) = f u) (h : post (ss_min a f t s n)) : ∀ d j acc, j + d = n → acc = ss_min a f t s j → wX_leastAround_11 post (nI p) (nI v) t (nI n) gk wk sd nb st (d + 1) acc (nI j) := by
  intro d
  induction d with
  | zero =>
    intro j acc hj he
    have : j = n := by omega
    subst this he
    exact br_t (nI_le (Nat.le_refl _) (by omega)) h
  | succ d ih =>
    intro j acc hj he
    refine br_f (nI_ge (by omega) (by omega)) (ss_xj (by omega) (by omega) (ha j (by omega)) ?_)
    by_cases hb : a j = true
    · refine br_f (by rw [ss_b1 hb]; decide) (ss_xs hp (by omega) (hf j (by omega)) ?_)
      by_cases hc : f j + t < ss_min a f t s j
      · refine br_f (by rw [he]; exact Int32.not_le.mpr hc) (ss_xs hp (by omega) (hf j (by omega)) (nm_e (nm_r (nI_1 j) (ih (j + 1) _ (by omega) ?_))))
        simp only [ss_min, hb, hc, if_true]
      · refine br_t (by rw [he]; exact Int32.not_lt.mp hc) (nm_r (nI_1 j) (ih (j + 1) _ (by omega) ?_))
        simp only [ss_min, hb, hc, if_true, if_false, he]
    · refine br_t (ss_b0 hb) (nm_r (nI_1 j) (ih (j + 1) _ (by omega) ?_))
      exact he.trans (if_neg hb).symm
theorem ss_xmin {t : Int32} (hn : n ≤ 8) (hp : p ≤ 10) (hv : v < n) (ha : ∀ u, u < n → bt (nb v) u = a u) (hf : ∀ u, u < n → st (8 * p + u) = f u) (h : post (ss_min a f t (f v) n)) : wpX_leastAround post (nI n, gk, wk, sd, nb, st) (nI p) (nI v) t := by
  unfold wpX_leastAround
  dsimp only
  exact ss_xs hp (by omega) (hf v hv) ⟨n + 1, ss_xminL hn hp hv ha hf h n 0 _ (by omega) rfl⟩
theorem ss_xsumL (hn : n ≤ 8) (hp : p ≤ 10) (hv : v < n) (ha : ∀ u, u < n → bt (nb v) u = a u) (hf : ∀ u, u < n → st (8 * p + u) = f u) (h : post (ss_sum a f n)) : ∀ d j acc, j + d = n → acc = ss_sum a f j → wX_sumOfNeighbours_5 post (nI p) (nI v) (nI n) gk wk sd nb st (d + 1) acc (nI j) := by
  intro d
  induction d with
  | zero =>
    intro j acc hj he
    have : j = n := by omega
    subst this he
    exact br_t (nI_le (Nat.le_refl _) (by omega)) h
  | succ d ih =>
    intro j acc hj he
    refine br_f (nI_ge (by omega) (by omega)) (ss_xj (by omega) (by omega) (ha j (by omega)) ?_)
    by_cases hb : a j = true
    · refine br_f (by rw [ss_b1 hb]; decide) (ss_xs hp (by omega) (hf j (by omega)) (nm_e (nm_r (nI_1 j) (ih (j + 1) _ (by omega) ?_))))
      simp only [ss_sum, hb, if_true, he]
    · refine br_t (ss_b0 hb) (nm_r (nI_1 j) (ih (j + 1) _ (by omega) ?_))
      exact he.trans (if_neg hb).symm
theorem ss_xsum (hn : n ≤ 8) (hp : p ≤ 10) (hv : v < n) (ha : ∀ u, u < n → bt (nb v) u = a u) (hf : ∀ u, u < n → st (8 * p + u) = f u) (h : post (ss_sum a f n)) : wpX_sumOfNeighbours post (nI n, gk, wk, sd, nb, st) (nI p) (nI v) := by
  unfold wpX_sumOfNeighbours
  dsimp only
  exact ⟨n + 1, ss_xsumL hn hp hv ha hf h n 0 _ (by omega) rfl⟩
theorem ss_xxorL {s : Int32} (hn : n ≤ 8) (hp : p ≤ 10) (hv : v < n) (ha : ∀ u, u < n → bt (nb v) u = a u) (hf : ∀ u, u < n → st (8 * p + u) = f u) (h : post (ss_xor a f s n)) : ∀ d j acc, j + d = n → acc = ss_xor a f s j → wX_exclusiveOrAround_10 post (nI p) (nI v) (nI n) gk wk sd nb st (d + 1) acc (nI j) := by
  intro d
  induction d with
  | zero =>
    intro j acc hj he
    have : j = n := by omega
    subst this he
    exact br_t (nI_le (Nat.le_refl _) (by omega)) h
  | succ d ih =>
    intro j acc hj he
    refine br_f (nI_ge (by omega) (by omega)) (ss_xj (by omega) (by omega) (ha j (by omega)) ?_)
    by_cases hb : a j = true
    · refine br_f (by rw [ss_b1 hb]; decide) (ss_xs hp (by omega) (hf j (by omega)) (nm_e (nm_r (nI_1 j) (ih (j + 1) _ (by omega) ?_))))
      simp only [ss_xor, hb, if_true, he]
    · refine br_t (ss_b0 hb) (nm_r (nI_1 j) (ih (j + 1) _ (by omega) ?_))
      exact he.trans (if_neg hb).symm
theorem ss_xxor (hn : n ≤ 8) (hp : p ≤ 10) (hv : v < n) (ha : ∀ u, u < n → bt (nb v) u = a u) (hf : ∀ u, u < n → st (8 * p + u) = f u) (h : post (ss_xor a f (f v) n)) : wpX_exclusiveOrAround post (nI n, gk, wk, sd, nb, st) (nI p) (nI v) := by
  unfold wpX_exclusiveOrAround
  dsimp only
  exact ss_xs hp (by omega) (hf v hv) ⟨n + 1, ss_xxorL hn hp hv ha hf h n 0 _ (by omega) rfl⟩
theorem ss_xnx {g : Nat} (hg : g ≤ 5) (hn : n ≤ 8) (hp : p ≤ 10) (hv : v < n) (ha : ∀ u, u < n → bt (nb v) u = a u) (hf : ∀ u, u < n → st (8 * p + u) = f u) (h : post (ss_nx g n a f (f v))) : wpX_nextState post (nI n, nI g, wk, sd, nb, st) (nI p) (nI v) := by
  unfold wpX_nextState
  dsimp only
  have hg6 : g = 0 ∨ g = 1 ∨ g = 2 ∨ g = 3 ∨ g = 4 ∨ g = 5 := by omega
  rcases hg6 with rfl | rfl | rfl | rfl | rfl | rfl
  · exact br_f (by decide) (br_f (by decide) (br_t (by decide) (ss_xmax hn hp hv ha hf h)))
  · exact br_f (by decide) (br_f (by decide) (br_f (by decide) (br_t (by decide) (ss_xmin hn hp hv ha hf h))))
  · exact br_f (by decide) (br_f (by decide) (br_f (by decide) (br_f (by decide) (br_t (by decide) (ss_xs hp (by omega) (hf v hv) (ss_xsum hn hp hv ha hf h))))))
  · exact br_f (by decide) (br_f (by decide) (br_f (by decide) (br_f (by decide) (br_f (by decide) (br_t (by decide) (ss_xxor hn hp hv ha hf h))))))
  · exact br_f (by decide) (br_f (by decide) (br_f (by decide) (br_f (by decide) (br_f (by decide) (br_f (by decide) (br_t (by decide) (ss_xmin hn hp hv ha hf h)))))))
  · exact br_f (by decide) (br_t (by decide) (ss_xs hp (by omega) (hf v hv) (ss_xsum hn hp hv ha hf h)))
end
end
section
/-! X: the table is filled -/
section
variable {n g : Nat} {wk sd : Int32} {nb : Nat → Int32} {A : Nat → Nat → Bool} {s : Nat → Int32} {post : SX → Prop}
theorem ss_xfill10 {J : Int32 → (Nat → Int32) → (Nat → Int32) → Prop} {q : Nat} (hg : g ≤ 5) (hn : n ≤ 8) (hq : q < 10) (hA : ∀ v u, v < n → u < 32 → bt (nb v) u = A v u)
    (h : ∀ st, (∀ p v, p ≤ q + 1 → v < n → st (8 * p + v) = ss_st g n A s p v) → J (nI (q + 1 + 1)) nb st) :
    ∀ d j st, j + d = n → (∀ p v, p ≤ q → v < n → st (8 * p + v) = ss_st g n A s p v) → (∀ v, v < j → st (8 * (q + 1) + v) = ss_st g n A s (q + 1) v) → wX_fillRounds_10 post J (nI (q + 1)) (nI n) (nI g) wk sd (d + 1) (nI j) nb st := by
  intro d
  induction d with
  | zero =>
    intro j st hj h1 h2
    have : j = n := by omega
    subst this
    refine br_t (nI_le (Nat.le_refl _) (by omega)) (nm_r (nI_1 _) (h st ?_))
    intro p v hp hv
    by_cases e : p = q + 1
    · rw [e]; exact h2 v hv
    · exact h1 p v (by omega) hv
  | succ d ih =>
    intro j st hj h1 h2
    refine br_f (nI_ge (by omega) (by omega)) ?_
    rw [nI_pred]
    refine ss_xnx (a := A j) (f := ss_st g n A s q) hg hn (by omega) (by omega) (fun u hu => hA j u (by omega) (by omega)) (fun u hu => h1 q u (by omega) hu) ?_
    refine ⟨ss_inX (by omega) (by omega), nm_r (by rw [ss_clX (by omega) (by omega)]) (nm_r (nI_1 j) (ih (j + 1) _ (by omega) ?_ ?_))⟩
    · intro p v hp hv
      rw [pk_un (by omega)]
      exact h1 p v hp hv
    · intro v hv
      by_cases e : v = j
      · rw [e, pk_us]
        rfl
      · rw [pk_un (by omega)]
        exact h2 v (by omega)
theorem ss_xfill2 (hg : g ≤ 5) (hn : n ≤ 8) (hA : ∀ v u, v < n → u < 32 → bt (nb v) u = A v u)
    (h : ∀ st, (∀ p v, p ≤ 10 → v < n → st (8 * p + v) = ss_st g n A s p v) → post (nI n, nI g, wk, sd, nb, st)) :
    ∀ d q st, q + d = 10 → (∀ p v, p ≤ q → v < n → st (8 * p + v) = ss_st g n A s p v) → wX_fillRounds_2 post (nI n) (nI g) wk sd (d + 1) (nI (q + 1)) nb st := by
  intro d
  induction d with
  | zero =>
    intro q st hq h1
    have : q = 10 := by omega
    subst this
    exact br_t (by decide) (h st h1)
  | succ d ih =>
    intro q st hq h1
    refine br_f (nI_nlt (b := q + 1) (a := 10) (by omega) (by omega)) ⟨n + 1, ss_xfill10 hg hn (by omega) hA (fun st' h2 => ih (q + 1) st' (by omega) h2) n 0 st (by omega) h1 (fun v hv => absurd hv (Nat.not_lt_zero v))⟩
theorem ss_xfill {st : Nat → Int32} (hg : g ≤ 5) (hn : n ≤ 8) (hA : ∀ v u, v < n → u < 32 → bt (nb v) u = A v u) (hs : ∀ v, v < n → st v = s v)
    (h : ∀ st, (∀ p v, p ≤ 10 → v < n → st (8 * p + v) = ss_st g n A s p v) → post (nI n, nI g, wk, sd, nb, st)) : wpX_fillRounds post (nI n, nI g, wk, sd, nb, st) := by
  unfold wpX_fillRounds
  dsimp only
  refine ⟨11, ss_xfill2 hg hn hA h 10 0 st (by omega) ?_⟩
  intro p v hp hv
  have : p = 0 := by omega
  subst this
  rw [show 8 * 0 + v = v from by omega]
  exact hs v hv
end
/-! X: neighbours, edges, parts -/
section
variable {post : Int32 → Prop} {n : Nat} {gk wk sd : Int32} {nb st : Nat → Int32} {A : Nat → Nat → Bool}
theorem ss_xcnL {v : Nat} (hn : n ≤ 8) (hv : v < n) (hA : ∀ v u, v < n → u < 32 → bt (nb v) u = A v u) (h : post (nI (ss_deg A n v))) : ∀ d j acc, j + d = n → acc = nI (ss_cnt (A v) j) → wX_countNeighbours_4 post (nI v) (nI n) gk wk sd nb st (d + 1) acc (nI j) := by
  intro d
  induction d with
  | zero =>
    intro j acc hj he
    have : j = n := by omega
    subst this he
    exact br_t (nI_le (Nat.le_refl _) (by omega)) h
  | succ d ih =>
    intro j acc hj he
    refine br_f (nI_ge (by omega) (by omega)) (ss_xj (by omega) (by omega) (hA v j hv (by omega)) ?_)
    by_cases hb : A v j = true
    · refine br_f (by rw [ss_b1 hb]; decide) (nm_e (nm_r (nI_1 j) (ih (j + 1) _ (by omega) ?_)))
      rw [he, nI_1, ss_cnt_t hb]
    · refine br_t (ss_b0 hb) (nm_r (nI_1 j) (ih (j + 1) _ (by omega) ?_))
      rw [he, ss_cnt_f hb]
theorem ss_xcn {v : Nat} (hn : n ≤ 8) (hv : v < n) (hA : ∀ v u, v < n → u < 32 → bt (nb v) u = A v u) (h : post (nI (ss_deg A n v))) : wpX_countNeighbours post (nI n, gk, wk, sd, nb, st) (nI v) := by
  unfold wpX_countNeighbours
  dsimp only
  exact ⟨n + 1, ss_xcnL hn hv hA h n 0 _ (by omega) rfl⟩
theorem ss_xceL (hn : n ≤ 8) (hA : ∀ v u, v < n → u < 32 → bt (nb v) u = A v u) (h : post (nI (ss_sm (ss_deg A n) n / 2))) : ∀ d j acc, j + d = n → acc = nI (ss_sm (ss_deg A n) j) → wX_countEdges_4 post (nI n) gk wk sd nb st (d + 1) acc (nI j) := by
  intro d
  induction d with
  | zero =>
    intro j acc hj he
    have : j = n := by omega
    subst this he
    refine br_t (nI_le (Nat.le_refl _) (by omega)) ⟨by decide, ?_⟩
    have hb := ss_sm_le (f := ss_deg A j) (b := j) (fun i => ss_cnt_le _ j) j
    have hb2 : j * j ≤ 8 * 8 := Nat.mul_le_mul hn hn
    have e := pk_div (a := ss_sm (ss_deg A j) j) (d := 2) (by omega) (by omega) (by omega)
    rw [← e] at h
    exact h
  | succ d ih =>
    intro j acc hj he
    refine br_f (nI_ge (by omega) (by omega)) (ss_xcn hn (by omega) hA (nm_e (nm_r (nI_1 j) (ih (j + 1) _ (by omega) ?_))))
    rw [he, nI_add, ss_sm_s]
theorem ss_xce (hn : n ≤ 8) (hA : ∀ v u, v < n → u < 32 → bt (nb v) u = A v u) (h : post (nI (ss_sm (ss_deg A n) n / 2))) : wpX_countEdges post (nI n, gk, wk, sd, nb, st) := by
  unfold wpX_countEdges
  dsimp only
  exact ⟨n + 1, ss_xceL hn hA h n 0 _ (by omega) rfl⟩
theorem ss_xwnL {x : Int32} {S : Nat → Bool} (hn : n ≤ 8) (hA : ∀ v u, v < n → u < 32 → bt (nb v) u = A v u) (hS : ∀ i, i < 32 → bt x i = S i) (h : ∀ r, (∀ i, i < 32 → bt r i = ss_wid A n S i) → post r) : ∀ d j acc, j + d = n → (∀ i, i < 32 → bt acc i = (S i || ss_any (fun v => S v && A v i) j)) → wX_withNeighbours_4 post x (nI n) gk wk sd nb st (d + 1) acc (nI j) := by
  intro d
  induction d with
  | zero =>
    intro j acc hj he
    have : j = n := by omega
    subst this
    exact br_t (nI_le (Nat.le_refl _) (by omega)) (h acc he)
  | succ d ih =>
    intro j acc hj he
    refine br_f (nI_ge (by omega) (by omega)) ?_
    by_cases hb : S j = true
    · refine br_t ((ss_test x (by omega)).mpr ((hS j (by omega)).trans hb)) ⟨vp_in_nI (by omega) (by omega), nm_r (by rw [nI_clamp (by omega)]) (nm_r (nI_1 j) (ih (j + 1) _ (by omega) ?_))⟩
      intro i hi
      rw [b_or, he i hi, hA j i (by omega) hi]
      show _ = (S i || (ss_any (fun v => S v && A v i) j || (S j && A j i)))
      rw [hb, Bool.true_and, Bool.or_assoc]
    · refine br_f (fun z => hb ((hS j (by omega)).symm.trans ((ss_test x (by omega)).mp z))) (nm_r (nI_1 j) (ih (j + 1) _ (by omega) ?_))
      intro i hi
      rw [he i hi]
      show _ = (S i || (ss_any (fun v => S v && A v i) j || (S j && A j i)))
      rw [Bool.eq_false_iff.mpr hb, Bool.false_and, Bool.or_false]
theorem ss_xwn {x : Int32} {S : Nat → Bool} (hn : n ≤ 8) (hA : ∀ v u, v < n → u < 32 → bt (nb v) u = A v u) (hS : ∀ i, i < 32 → bt x i = S i) (h : ∀ r, (∀ i, i < 32 → bt r i = ss_wid A n S i) → post r) : wpX_withNeighbours post (nI n, gk, wk, sd, nb, st) x := by
  unfold wpX_withNeighbours
  dsimp only
  refine ⟨n + 1, ss_xwnL hn hA hS h n 0 _ (by omega) ?_⟩
  intro i hi
  rw [hS i hi]
  show _ = (S i || false)
  rw [Bool.or_false]
theorem ss_xpoL {v : Nat} (hn : n ≤ 8) (hA : ∀ v u, v < n → u < 32 → bt (nb v) u = A v u) (h : ∀ r, (∀ i, i < 32 → bt r i = ss_part A n v i) → post r) : ∀ d j acc, j + 1 + d = n → (∀ i, i < 32 → bt acc i = ss_it A n v j i) → wX_partOf_6 post (nI n) gk wk sd nb st (d + 1) acc (nI (j + 1)) := by
  intro d
  induction d with
  | zero =>
    intro j acc hj he
    refine br_t (nI_le (by omega) (by omega)) (h acc ?_)
    intro i hi
    rw [he i hi, show j = n - 1 from by omega]
    rfl
  | succ d ih =>
    intro j acc hj he
    exact br_f (nI_ge (by omega) (by omega)) (ss_xwn hn hA he (fun r hr => nm_r (nI_1 _) (ih (j + 1) _ (by omega) hr)))
theorem ss_xpo {v : Nat} (hn : n ≤ 8) (hv : v < n) (hA : ∀ v u, v < n → u < 32 → bt (nb v) u = A v u) (h : ∀ r, (∀ i, i < 32 → bt r i = ss_part A n v i) → post r) : wpX_partOf post (nI n, gk, wk, sd, nb, st) (nI v) := by
  unfold wpX_partOf
  dsimp only
  refine nm_e ⟨n - 1 + 1, ss_xpoL hn hA h (n - 1) 0 _ (by omega) ?_⟩
  intro i hi
  exact ss_one v (by omega) i hi
theorem ss_low0 {r : Int32} {v : Nat} {P : Nat → Bool} (hv : v < 8) (hr : ∀ i, i < 32 → bt r i = P i) : (r &&& (((1 : Int32) <<< (nI v &&& 31)) - 1)) = 0 ↔ (!ss_any P v) = true := by
  rw [ss_isz, Bool.not_eq_true', ss_any_no]
  constructor
  · intro h i hi
    have g := h i (by omega)
    rw [b_and, ss_low v hv i (by omega), decide_eq_true hi, Bool.and_true, hr i (by omega)] at g
    exact g
  · intro h i hi
    rw [b_and, ss_low v hv i hi, hr i hi]
    by_cases e : i < v
    · rw [h i e, Bool.false_and]
    · rw [decide_eq_false e, Bool.and_false]
theorem ss_xcpL (hn : n ≤ 8) (hA : ∀ v u, v < n → u < 32 → bt (nb v) u = A v u) (h : post (nI (ss_lo A n))) : ∀ d j acc, j + d = n → acc = nI (ss_cnt (fun v => !ss_any (ss_part A n v) v) j) → wX_countParts_4 post (nI n) gk wk sd nb st (d + 1) acc (nI j) := by
  intro d
  induction d with
  | zero =>
    intro j acc hj he
    have : j = n := by omega
    subst this he
    exact br_t (nI_le (Nat.le_refl _) (by omega)) h
  | succ d ih =>
    intro j acc hj he
    refine br_f (nI_ge (by omega) (by omega)) (nm_e (ss_xpo hn (by omega) hA (fun r hr => ?_)))
    have k := ss_low0 (v := j) (by omega) hr
    by_cases hb : (!ss_any (ss_part A n j) j) = true
    · refine br_t (k.mpr hb) (nm_e (nm_r (nI_1 j) (ih (j + 1) _ (by omega) ?_)))
      rw [he, nI_1, ss_cnt_t (p := fun v => !ss_any (ss_part A n v) v) hb]
    · refine br_f (fun z => hb (k.mp z)) (nm_r (nI_1 j) (ih (j + 1) _ (by omega) ?_))
      rw [he, ss_cnt_f (p := fun v => !ss_any (ss_part A n v) v) hb]
theorem ss_xcp (hn : n ≤ 8) (hA : ∀ v u, v < n → u < 32 → bt (nb v) u = A v u) (h : post (nI (ss_lo A n))) : wpX_countParts post (nI n, gk, wk, sd, nb, st) := by
  unfold wpX_countParts
  dsimp only
  exact ⟨n + 1, ss_xcpL hn hA h n 0 _ (by omega) rfl⟩
end
end
section
/-! pure answers, and X's questions -/
def ss_tot (f : Nat → Int32) : Nat → Int32
  | 0 => 0
  | j + 1 => ss_tot f j + f j
def ss_kd (f : Nat → Int32) : Nat → Bool := fun v => !ss_any (fun u => decide (f u = f v)) v
def ss_ch (f h : Nat → Int32) : Nat → Bool := fun v => !decide (f v = h v)
def ss_se (T : Nat → Nat → Int32) (n : Nat) : Nat → Nat → Int32 := ss_fst (fun r => decide (ss_cnt (ss_ch (T (r + 1)) (T r)) n = 0)) (-1)
def ss_re (T : Nat → Nat → Int32) (v : Nat) (x : Int32) : Nat → Nat → Int32 := ss_fst (fun r => decide (T r v = x)) (-2)
theorem ss_ch_t {f h : Nat → Int32} {v : Nat} (e : ¬ f v = h v) : ss_ch f h v = true := by
  show (!decide (f v = h v)) = true
  rw [decide_eq_false e]; rfl
theorem ss_ch_f {f h : Nat → Int32} {v : Nat} (e : f v = h v) : ¬ ss_ch f h v = true := by
  show ¬ (!decide (f v = h v)) = true
  rw [decide_eq_true e]; decide
theorem ss_nz {c : Nat} (h : c < 100) : nI c = 0 ↔ c = 0 := by
  rw [← nI_0, nI_eq (by omega) (by omega)]
section
variable {post : Int32 → Prop} {n p : Nat} {gk wk sd : Int32} {nb st : Nat → Int32} {f : Nat → Int32}
theorem ss_xsmL (hn : n ≤ 8) (hp : p ≤ 10) (hf : ∀ u, u < n → st (8 * p + u) = f u) (h : post (ss_tot f n)) : ∀ d j acc, j + d = n → acc = ss_tot f j → wX_sum_14 post (nI p) (nI n) gk wk sd nb st (d + 1) acc (nI j) := by
  intro d
  induction d with
  | zero =>
    intro j acc hj he
    have : j = n := by omega
    subst this he
    exact br_t (nI_le (Nat.le_refl _) (by omega)) h
  | succ d ih =>
    intro j acc hj he
    refine br_f (nI_ge (by omega) (by omega)) (ss_xs hp (by omega) (hf j (by omega)) (nm_e (nm_r (nI_1 j) (ih (j + 1) _ (by omega) ?_))))
    rw [he]; rfl
theorem ss_xfiL {v : Nat} (hn : n ≤ 8) (hp : p ≤ 10) (hv : v < n) (hf : ∀ u, u < n → st (8 * p + u) = f u) (h : post (ss_b (ss_kd f v))) : ∀ d j, j + d = v → ss_any (fun u => decide (f u = f v)) j = false → wX_isFirstWithItsState_2 post (nI p) (nI v) (nI n) gk wk sd nb st (d + 1) (nI j) := by
  intro d
  induction d with
  | zero =>
    intro j hj he
    have : j = v := by omega
    subst this
    refine br_t (nI_le (Nat.le_refl _) (by omega)) ?_
    have e : ss_kd f j = true := by
      show (!ss_any (fun u => decide (f u = f j)) j) = true
      rw [he]; rfl
    rw [ss_b1 e] at h
    exact h
  | succ d ih =>
    intro j hj he
    refine br_f (nI_ge (by omega) (by omega)) (ss_xs hp (by omega) (hf j (by omega)) (ss_xs hp (by omega) (hf v hv) ?_))
    by_cases hc : f j = f v
    · have e : ¬ ss_kd f v = true := by
        show ¬ (!ss_any (fun u => decide (f u = f v)) v) = true
        rw [ss_any_iff.mpr ⟨j, by omega, decide_eq_true hc⟩]; decide
      rw [ss_b0 e] at h
      exact br_t hc h
    · refine br_f hc (nm_r (nI_1 j) (ih (j + 1) (by omega) ?_))
      show (ss_any (fun u => decide (f u = f v)) j || decide (f j = f v)) = false
      rw [he, decide_eq_false hc]; rfl
theorem ss_xfi {v : Nat} (hn : n ≤ 8) (hp : p ≤ 10) (hv : v < n) (hf : ∀ u, u < n → st (8 * p + u) = f u) (h : post (ss_b (ss_kd f v))) : wpX_isFirstWithItsState post (nI n, gk, wk, sd, nb, st) (nI p) (nI v) := by
  unfold wpX_isFirstWithItsState
  dsimp only
  exact ⟨v + 1, ss_xfiL hn hp hv hf h v 0 (by omega) rfl⟩
theorem ss_xkdL (hn : n ≤ 8) (hp : p ≤ 10) (hf : ∀ u, u < n → st (8 * p + u) = f u) (h : post (nI (ss_cnt (ss_kd f) n))) : ∀ d j acc, j + d = n → acc = nI (ss_cnt (ss_kd f) j) → wX_kinds_14 post (nI p) (nI n) gk wk sd nb st (d + 1) acc (nI j) := by
  intro d
  induction d with
  | zero =>
    intro j acc hj he
    have : j = n := by omega
    subst this he
    exact br_t (nI_le (Nat.le_refl _) (by omega)) h
  | succ d ih =>
    intro j acc hj he
    refine br_f (nI_ge (by omega) (by omega)) (ss_xfi hn hp (by omega) hf ?_)
    by_cases hb : ss_kd f j = true
    · refine br_f (by rw [ss_b1 hb]; decide) (nm_e (nm_r (nI_1 j) (ih (j + 1) _ (by omega) ?_)))
      rw [he, nI_1, ss_cnt_t hb]
    · refine br_t (ss_b0 hb) (nm_r (nI_1 j) (ih (j + 1) _ (by omega) ?_))
      rw [he, ss_cnt_f hb]
theorem ss_xchL {h1 : Nat → Int32} (hn : n ≤ 8) (hp : p < 10) (hf : ∀ u, u < n → st (8 * p + u) = f u) (hf1 : ∀ u, u < n → st (8 * (p + 1) + u) = h1 u) (h : post (nI (ss_cnt (ss_ch h1 f) n))) : ∀ d j acc, j + d = n → acc = nI (ss_cnt (ss_ch h1 f) j) → wX_countChanges_4 post (nI (p + 1)) (nI n) gk wk sd nb st (d + 1) acc (nI j) := by
  intro d
  induction d with
  | zero =>
    intro j acc hj he
    have : j = n := by omega
    subst this he
    exact br_t (nI_le (Nat.le_refl _) (by omega)) h
  | succ d ih =>
    intro j acc hj he
    refine br_f (nI_ge (by omega) (by omega)) (ss_xs (by omega) (by omega) (hf1 j (by omega)) ?_)
    rw [nI_pred]
    refine ss_xs (by omega) (by omega) (hf j (by omega)) ?_
    by_cases hc : h1 j = f j
    · refine br_t hc (nm_r (nI_1 j) (ih (j + 1) _ (by omega) ?_))
      rw [he, ss_cnt_f (ss_ch_f hc)]
    · refine br_f hc (nm_e (nm_r (nI_1 j) (ih (j + 1) _ (by omega) ?_)))
      rw [he, nI_1, ss_cnt_t (ss_ch_t hc)]
theorem ss_xch {h1 : Nat → Int32} (hn : n ≤ 8) (hp : p < 10) (hf : ∀ u, u < n → st (8 * p + u) = f u) (hf1 : ∀ u, u < n → st (8 * (p + 1) + u) = h1 u) (h : post (nI (ss_cnt (ss_ch h1 f) n))) : wpX_countChanges post (nI n, gk, wk, sd, nb, st) (nI (p + 1)) := by
  unfold wpX_countChanges
  dsimp only
  exact ⟨n + 1, ss_xchL hn hp hf hf1 h n 0 _ (by omega) rfl⟩
variable {T : Nat → Nat → Int32}
theorem ss_xseL (hn : n ≤ 8) (hT : ∀ p v, p ≤ 10 → v < n → st (8 * p + v) = T p v) : ∀ d j, j + d = 10 → post (ss_se T n d j) → wX_settled_2 post (nI n) gk wk sd nb st (d + 1) (nI j) := by
  intro d
  induction d with
  | zero =>
    intro j hj h
    exact br_t (nI_le (a := 10) (by omega) (by omega)) h
  | succ d ih =>
    intro j hj h
    refine br_f (nI_ge (b := 10) (by omega) (by omega)) ?_
    rw [nI_1]
    refine ss_xch hn (by omega) (fun u hu => hT j u (by omega) hu) (fun u hu => hT (j + 1) u (by omega) hu) ?_
    have hz := ss_nz (c := ss_cnt (ss_ch (T (j + 1)) (T j)) n) (by have := ss_cnt_le (ss_ch (T (j + 1)) (T j)) n; omega)
    by_cases hc : ss_cnt (ss_ch (T (j + 1)) (T j)) n = 0
    · have e : ss_se T n (d + 1) j = nI j := ss_fst_t (decide_eq_true hc)
      rw [e] at h
      exact br_t (hz.mpr hc) h
    · have e : ss_se T n (d + 1) j = ss_se T n d (j + 1) := ss_fst_f (fun z => hc (of_decide_eq_true z))
      rw [e] at h
      refine br_f (fun z => hc (hz.mp z)) (nm_e ?_)
      exact ih (j + 1) (by omega) h
theorem ss_xreL {v : Nat} {x : Int32} (hn : n ≤ 8) (hv : v < n) (hT : ∀ p v, p ≤ 10 → v < n → st (8 * p + v) = T p v) : ∀ d j, j + d = 11 → post (ss_re T v x d j) → wX_reached_12 post (nI v) x (nI n) gk wk sd nb st (d + 1) (nI j) := by
  intro d
  induction d with
  | zero =>
    intro j hj h
    exact br_t (nI_lt (a := 10) (by omega) (by omega)) h
  | succ d ih =>
    intro j hj h
    refine br_f (nI_nlt (b := j) (a := 10) (by omega) (by omega)) (ss_xs (by omega) (by omega) (hT j v (by omega) hv) ?_)
    by_cases hc : T j v = x
    · have e : ss_re T v x (d + 1) j = nI j := ss_fst_t (decide_eq_true hc)
      rw [e] at h
      exact br_t hc h
    · have e : ss_re T v x (d + 1) j = ss_re T v x d (j + 1) := ss_fst_f (fun z => hc (of_decide_eq_true z))
      rw [e] at h
      exact br_f hc (nm_r (nI_1 j) (ih (j + 1) (by omega) h))
end
end
section
/-! Y: the small ones, edges -/
section
variable {post : Int32 → Prop} {n : Nat} {kk wk : Int32} {jn fs st lb : Nat → Int32} {A : Nat → Nat → Bool}
theorem ss_ybad {x : Int32} (hn : n ≤ 8) (h0 : ∀ v, v < n → x = nI v → post 0) (h1 : (x < 0 ∨ nI n ≤ x) → post 1) : wpY_bad post (nI n, kk, wk, jn, fs, st, lb) x := by
  unfold wpY_bad
  dsimp only
  rcases pk_ix x (n := n) (by omega) with h | h | ⟨v, hv, rfl⟩
  · exact br_t h (h1 (Or.inl h))
  · exact br_c (fun _ => h1 (Or.inr h)) (fun _ => br_t h (h1 (Or.inr h)))
  · exact br_f (nI_pos (by omega)) (br_f (nI_ge hv (by omega)) (br_t (nI_le (b := 7) (by omega) (by omega)) (h0 v hv rfl)))
theorem ss_yround {x : Int32} (h0 : ∀ p, p ≤ 10 → x = nI p → post 0) (h1 : (x < 0 ∨ ¬ x ≤ 10) → post 1) : wpY_badRound post (nI n, kk, wk, jn, fs, st, lb) x := by
  unfold wpY_badRound
  dsimp only
  refine br_c (fun h => h1 (Or.inl h)) (fun h => br_c (fun h2 => ?_) (fun h2 => h1 (Or.inr h2)))
  obtain ⟨p, hp, e⟩ := nI_of2 (M := 10) (n := 10) (by decide) h h2
  exact h0 p hp e
/-- one test of joined -/
theorem ss_yj {P Q : Prop} {u v : Nat} (hu : u < 8) (hv : v < 8) (e : jn (8 * u + v) = ss_b (A u v)) (hf : ¬ A u v = true → P) (ht : A u v = true → Q) : vp_in (8 * nI u + nI v) 64 ∧ ((jn (8 * nI u + nI v).toNatClampNeg = 0 → P) ∧ (¬ jn (8 * nI u + nI v).toNatClampNeg = 0 → Q)) := by
  refine ⟨ss_inJ hu hv, ?_⟩
  rw [ss_clY (by omega) hv, e]
  by_cases hb : A u v = true
  · exact br_f (by rw [ss_b1 hb]; decide) (ht hb)
  · exact br_t (ss_b0 hb) (hf hb)
theorem ss_yneL {v : Nat} (hn : n ≤ 8) (hv : v < n) (hj : ∀ u v, u < n → v < n → jn (8 * u + v) = ss_b (A u v)) (h : post (nI (ss_deg A n v))) : ∀ d j acc, j + d = n → acc = nI (ss_cnt (A v) j) → wY_neighbours_4 post (nI v) (nI n) kk wk jn fs st lb (d + 1) acc (nI j) := by
  intro d
  induction d with
  | zero =>
    intro j acc hjd he
    have : j = n := by omega
    subst this he
    exact br_t (nI_le (Nat.le_refl _) (by omega)) h
  | succ d ih =>
    intro j acc hjd he
    refine br_f (nI_ge (by omega) (by omega)) (ss_yj (by omega) (by omega) (hj v j hv (by omega)) (fun hb => nm_r (nI_1 j) (ih (j + 1) _ (by omega) ?_)) (fun hb => nm_e (nm_r (nI_1 j) (ih (j + 1) _ (by omega) ?_))))
    · rw [he, ss_cnt_f hb]
    · rw [he, nI_1, ss_cnt_t hb]
theorem ss_yne {v : Nat} (hn : n ≤ 8) (hv : v < n) (hj : ∀ u v, u < n → v < n → jn (8 * u + v) = ss_b (A u v)) (h : post (nI (ss_deg A n v))) : wpY_neighbours post (nI n, kk, wk, jn, fs, st, lb) (nI v) := by
  unfold wpY_neighbours
  dsimp only
  exact ⟨n + 1, ss_yneL hn hv hj h n 0 _ (by omega) rfl⟩
theorem ss_ye16 {J : Int32 → Int32 → Prop} {u c : Nat} (hn : n ≤ 8) (hu : u < n) (hj : ∀ u v, u < n → v < n → jn (8 * u + v) = ss_b (A u v)) (h : J (nI (c + ss_up A n u)) (nI (u + 1))) : ∀ d j acc, j + d = n → u < j → acc = nI (c + ss_up A j u) → wY_edges_16 post J (nI u) (nI n) kk wk jn fs st lb (d + 1) acc (nI j) := by
  intro d
  induction d with
  | zero =>
    intro j acc hjd huj he
    have : j = n := by omega
    subst this he
    exact br_t (nI_le (Nat.le_refl _) (by omega)) (nm_r (nI_1 u) h)
  | succ d ih =>
    intro j acc hjd huj he
    have e : (decide (u < j) && A u j) = A u j := by rw [decide_eq_true huj, Bool.true_and]
    refine br_f (nI_ge (by omega) (by omega)) (ss_yj (by omega) (by omega) (hj u j hu (by omega)) (fun hb => nm_r (nI_1 j) (ih (j + 1) _ (by omega) (by omega) ?_)) (fun hb => nm_e (nm_r (nI_1 j) (ih (j + 1) _ (by omega) (by omega) ?_))))
    · have e2 : ss_up A (j + 1) u = ss_up A j u := ss_cnt_f (by rw [e]; exact hb)
      rw [he, e2]
    · have e2 : ss_up A (j + 1) u = ss_up A j u + 1 := ss_cnt_t (by rw [e]; exact hb)
      rw [he, nI_1, e2, Nat.add_assoc]
theorem ss_ye4 (hn : n ≤ 8) (hj : ∀ u v, u < n → v < n → jn (8 * u + v) = ss_b (A u v)) (h : post (nI (ss_sm (ss_up A n) n))) : ∀ d j acc, j + d = n → acc = nI (ss_sm (ss_up A n) j) → wY_edges_4 post (nI n) kk wk jn fs st lb (d + 1) acc (nI j) := by
  intro d
  induction d with
  | zero =>
    intro j acc hjd he
    have : j = n := by omega
    subst this he
    exact br_t (nI_le (Nat.le_refl _) (by omega)) h
  | succ d ih =>
    intro j acc hjd he
    refine br_f (nI_ge (by omega) (by omega)) (nm_r (nI_1 j) ⟨d + 1, ss_ye16 (c := ss_sm (ss_up A n) j) hn (by omega) hj (ih (j + 1) _ (by omega) rfl) d (j + 1) acc (by omega) (by omega) ?_⟩)
    have e : ss_up A (j + 1) j = 0 := ss_cnt_0 _ (fun i hi => by
      show (decide (j < i) && A j i) = false
      rw [decide_eq_false (by omega), Bool.false_and])
    rw [he, e, Nat.add_zero]
theorem ss_ye (hn : n ≤ 8) (hj : ∀ u v, u < n → v < n → jn (8 * u + v) = ss_b (A u v)) (h : post (nI (ss_sm (ss_up A n) n))) : wpY_edges post (nI n, kk, wk, jn, fs, st, lb) := by
  unfold wpY_edges
  dsimp only
  exact ⟨n + 1, ss_ye4 hn hj h n 0 _ (by omega) rfl⟩
end
/-! Y: the labels -/
section
variable {post : Int32 → SY → Prop} {n : Nat} {kk wk : Int32} {jn fs st : Nat → Int32} {A : Nat → Nat → Bool}
theorem ss_nb (b : Bool) : narrow .boolean (.int (ss_b b)) = .int (ss_b b) := by cases b <;> rfl
theorem ss_yl14 {J : Int32 → Int32 → (Nat → Int32) → (Nat → Int32) → (Nat → Int32) → (Nat → Int32) → Prop} {L0 : Nat → Nat} {u : Nat} (hn : n ≤ 8) (hA : ∀ u i, u < n → A u i = true → i < n) (hu : u < n) (hj : ∀ u v, u < n → v < n → jn (8 * u + v) = ss_b (A u v))
    (h : ∀ L any lb, (∀ i, i < 8 → lb i = nI (L i)) → ss_J A n L0 u n L any → J (ss_b any) (nI (u + 1)) jn fs st lb) :
    ∀ d j L any lb, j + d = n → (∀ i, i < 8 → lb i = nI (L i)) → ss_J A n L0 u j L any → wY_lower_14 post J (nI u) (nI n) kk wk (d + 1) (ss_b any) (nI j) jn fs st lb := by
  intro d
  induction d with
  | zero =>
    intro j L any lb hjd hL hJ
    have : j = n := by omega
    subst this
    exact br_t (nI_le (Nat.le_refl _) (by omega)) (nm_r (nI_1 u) (h L any lb hL hJ))
  | succ d ih =>
    intro j L any lb hjd hL hJ
    refine br_f (nI_ge (by omega) (by omega)) (ss_yj (by omega) (by omega) (hj u j hu (by omega)) (fun hb => nm_r (nI_1 j) (ih (j + 1) L any lb (by omega) hL (ss_Jno hJ (fun z => absurd z hb)))) (fun hb => ?_))
    refine ⟨vp_in_nI (by omega) (by omega), vp_in_nI (by omega) (by omega), ?_⟩
    rw [nI_clamp (n := u) (by omega), nI_clamp (n := j) (by omega), hL u (by omega), hL j (by omega)]
    have b1 := ss_part_lt hA hu (hJ.2.1 u hu)
    have b2 := ss_part_lt hA (by omega) (hJ.2.1 j (by omega))
    by_cases hc : L j < L u
    · refine br_f (nI_ge hc (by omega)) ⟨vp_in_nI (by omega) (by omega), vp_in_nI (by omega) (by omega), nm_e (nm_r (nI_1 j) (ih (j + 1) (ss_put L u (L j)) true _ (by omega) ?_ (ss_Jset hA hu hJ hb hc)))⟩
      intro i hi
      by_cases e : i = u
      · subst e
        rw [pk_us]
        show _ = nI (if i = i then L j else L i)
        rw [if_pos rfl]
      · rw [pk_un e]
        show _ = nI (if i = u then L j else L i)
        rw [if_neg e, hL i hi]
    · exact br_t (nI_le (by omega) (by omega)) (nm_r (nI_1 j) (ih (j + 1) L any lb (by omega) hL (ss_Jno hJ (fun _ => by omega))))
theorem ss_yl4 {L0 : Nat → Nat} (hn : n ≤ 8) (hA : ∀ u i, u < n → A u i = true → i < n) (hj : ∀ u v, u < n → v < n → jn (8 * u + v) = ss_b (A u v))
    (h : ∀ L any lb, (∀ i, i < 8 → lb i = nI (L i)) → ss_J A n L0 n 0 L any → post (ss_b any) (nI n, kk, wk, jn, fs, st, lb)) :
    ∀ d u L any lb, u + d = n → (∀ i, i < 8 → lb i = nI (L i)) → ss_J A n L0 u 0 L any → wY_lower_4 post (nI n) kk wk (d + 1) (ss_b any) (nI u) jn fs st lb := by
  intro d
  induction d with
  | zero =>
    intro u L any lb hud hL hJ
    have : u = n := by omega
    subst this
    exact br_t (nI_le (Nat.le_refl _) (by omega)) ⟨ss_nb any, h L any lb hL hJ⟩
  | succ d ih =>
    intro u L any lb hud hL hJ
    exact br_f (nI_ge (by omega) (by omega)) ⟨n + 1, ss_yl14 hn hA (by omega) hj (fun L' any' lb' hL' hJ' => ih (u + 1) L' any' lb' (by omega) hL' (ss_Jrow hJ')) n 0 L any lb (by omega) hL hJ⟩
theorem ss_ylow {L : Nat → Nat} {lb : Nat → Int32} (hn : n ≤ 8) (hA : ∀ u i, u < n → A u i = true → i < n) (hj : ∀ u v, u < n → v < n → jn (8 * u + v) = ss_b (A u v)) (hL : ∀ i, i < 8 → lb i = nI (L i)) (hp : ∀ i, i < n → ss_part A n i (L i) = true)
    (h : ∀ L' any lb', (∀ i, i < 8 → lb' i = nI (L' i)) → ss_J A n L n 0 L' any → post (ss_b any) (nI n, kk, wk, jn, fs, st, lb')) : wpY_lower post (nI n, kk, wk, jn, fs, st, lb) := by
  unfold wpY_lower
  dsimp only
  exact ⟨n + 1, ss_yl4 hn hA hj h n 0 L false lb (by omega) hL (ss_J0 hp)⟩
theorem ss_yp50 {L : Nat → Nat} {lb : Nat → Int32} (hn : n ≤ 8) (hL : ∀ i, i < 8 → lb i = nI (L i)) (hb : ∀ i, i < n → L i < n) (h : post (nI (ss_cnt (fun v => decide (L v = v)) n)) (nI n, kk, wk, jn, fs, st, lb)) : ∀ d j acc, j + d = n → acc = nI (ss_cnt (fun v => decide (L v = v)) j) → wY_partCount_50 post (nI n) kk wk jn fs st lb (d + 1) acc (nI j) := by
  intro d
  induction d with
  | zero =>
    intro j acc hjd he
    have : j = n := by omega
    subst this he
    exact br_t (nI_le (Nat.le_refl _) (by omega)) h
  | succ d ih =>
    intro j acc hjd he
    refine br_f (nI_ge (by omega) (by omega)) ⟨vp_in_nI (by omega) (by omega), ?_⟩
    rw [nI_clamp (n := j) (by omega), hL j (by omega)]
    have b := hb j (by omega)
    have k := nI_eq (a := L j) (b := j) (by omega) (by omega)
    by_cases hc : L j = j
    · refine br_t (k.mpr hc) (nm_e (nm_r (nI_1 j) (ih (j + 1) _ (by omega) ?_)))
      rw [he, nI_1, ss_cnt_t (p := fun v => decide (L v = v)) (decide_eq_true hc)]
    · refine br_f (fun z => hc (k.mp z)) (nm_r (nI_1 j) (ih (j + 1) _ (by omega) ?_))
      rw [he, ss_cnt_f (p := fun v => decide (L v = v)) (by rw [decide_eq_false hc]; decide)]
theorem ss_yp25 (hn : n ≤ 8) (hA : ∀ u i, u < n → A u i = true → i < n) (hs : ∀ u i, u < n → A u i = true → A i u = true) (hj : ∀ u v, u < n → v < n → jn (8 * u + v) = ss_b (A u v)) (h : ∀ lb, post (nI (ss_lo A n)) (nI n, kk, wk, jn, fs, st, lb)) :
    ∀ d k L more lb, k + d = 8 → (∀ i, i < 8 → lb i = nI (L i)) → ss_Q A n k L more → wY_partCount_25 post (d + 1) (ss_b more) (nI k) (nI n) kk wk jn fs st lb := by
  intro d
  have fin : ∀ k L more lb, (more = false ∨ n ≤ k) → (∀ i, i < 8 → lb i = nI (L i)) → ss_Q A n k L more → ∃ n50 : Nat, wY_partCount_50 post (nI n) kk wk jn fs st lb n50 0 0 := by
    intro k L more lb he hL hQ
    refine ⟨n + 1, ss_yp50 hn hL (fun i hi => ss_part_lt hA hi (hQ.1 i hi)) ?_ n 0 _ (by omega) rfl⟩
    rw [ss_Qend hA hs hQ he]
    exact h lb
  induction d with
  | zero =>
    intro k L more lb hk hL hQ
    exact br_t (nI_le (a := 8) (by omega) (by omega)) (fin k L more lb (Or.inr (by omega)) hL hQ)
  | succ d ih =>
    intro k L more lb hk hL hQ
    refine br_f (nI_ge (b := 8) (by omega) (by omega)) ?_
    by_cases hm : more = true
    · refine br_f (by rw [ss_b1 hm]; decide) (ss_ylow hn hA hj hL hQ.1 (fun L' any lb' hL' hJ' => ?_))
      exact nm_r (nI_1 k) (ih (k + 1) L' any lb' (by omega) hL' (ss_Qs hA hs hQ hJ'))
    · exact br_t (ss_b0 hm) (fin k L more lb (Or.inl (Bool.eq_false_iff.mpr hm)) hL hQ)
theorem ss_yp2 (hn : n ≤ 8) (hA : ∀ u i, u < n → A u i = true → i < n) (hs : ∀ u i, u < n → A u i = true → A i u = true) (hj : ∀ u v, u < n → v < n → jn (8 * u + v) = ss_b (A u v)) (h : ∀ lb, post (nI (ss_lo A n)) (nI n, kk, wk, jn, fs, st, lb)) :
    ∀ d j lb, j + d = 8 → (∀ i, i < j → lb i = nI i) → wY_partCount_2 post (nI n) kk wk (d + 1) (nI j) jn fs st lb := by
  intro d
  induction d with
  | zero =>
    intro j lb hjd hL
    have : j = 8 := by omega
    subst this
    exact br_t (nI_le (a := 8) (b := 8) (by omega) (by omega)) ⟨9, ss_yp25 hn hA hs hj h 8 0 (fun i => i) true lb (by omega) hL (ss_Q0 A n)⟩
  | succ d ih =>
    intro j lb hjd hL
    refine br_f (nI_ge (b := 8) (by omega) (by omega)) ⟨vp_in_nI (by omega) (by omega), nm_r (by rw [nI_clamp (n := j) (by omega)]) (nm_r (nI_1 j) (ih (j + 1) _ (by omega) ?_))⟩
    intro i hi
    by_cases e : i = j
    · rw [e, pk_us]
    · rw [pk_un e]
      exact hL i (by omega)
theorem ss_ypc {lb : Nat → Int32} (hn : n ≤ 8) (hA : ∀ u i, u < n → A u i = true → i < n) (hs : ∀ u i, u < n → A u i = true → A i u = true) (hj : ∀ u v, u < n → v < n → jn (8 * u + v) = ss_b (A u v)) (h : ∀ lb, post (nI (ss_lo A n)) (nI n, kk, wk, jn, fs, st, lb)) : wpY_partCount post (nI n, kk, wk, jn, fs, st, lb) := by
  unfold wpY_partCount
  dsimp only
  exact ⟨9, ss_yp2 hn hA hs hj h 8 0 lb (by omega) (fun i hi => absurd hi (Nat.not_lt_zero i))⟩
end
end
section
/-! Y: the step and the table -/
section
variable {post : Int32 → Prop} {n p v : Nat} {wk : Int32} {jn fs st lb : Nat → Int32} {A : Nat → Nat → Bool} {f : Nat → Int32}
theorem ss_y82 {J : Int32 → Int32 → Int32 → Int32 → Int32 → Int32 → Int32 → Prop} {x1 x2 x3 x4 x5 x6 x7 x8 x11 fn fk fw : Int32} {any : Bool} {j : Nat}
    (h : J x4 (if x11 < x5 then x11 else x5) (if any = true then (if x11 < x6 then x11 else x6) else x11) (x7 + x11) (x8 ^^^ x11) 1 (nI (j + 1))) : wY_next_82 post J x1 x2 x3 x4 x5 x6 x7 x8 (ss_b any) (nI j) x11 fn fk fw jn fs st lb := by
  have k : ∀ y5, J x4 y5 (if any = true then (if x11 < x6 then x11 else x6) else x11) (x7 + x11) (x8 ^^^ x11) 1 (nI (j + 1)) → wY_next_93 post J x1 x2 x3 x4 y5 x6 x7 x8 (ss_b any) (nI j) x11 fn fk fw jn fs st lb := by
    intro y5 h
    by_cases hb : any = true
    · rw [if_pos hb] at h
      refine br_f (by rw [ss_b1 hb]; decide) ?_
      by_cases hc : x11 < x6
      · rw [if_pos hc] at h
        exact br_f (Int32.not_le.mpr hc) (nm_e (nm_e (nm_r (nI_1 j) h)))
      · rw [if_neg hc] at h
        exact br_t (Int32.not_lt.mp hc) (nm_e (nm_e (nm_r (nI_1 j) h)))
    · rw [if_neg hb] at h
      exact br_t (ss_b0 hb) (nm_e (nm_e (nm_r (nI_1 j) h)))
  by_cases hc : x11 < x5
  · rw [if_pos hc] at h
    exact br_f (Int32.not_le.mpr hc) (k _ h)
  · rw [if_neg hc] at h
    exact br_t (Int32.not_lt.mp hc) (k _ h)
theorem ss_yend {g : Nat} {a : Nat → Bool} {s x4 x5 x6 x7 x8 x9 : Int32} (hg : g ≤ 5) (hr : g = 4 → ∀ u, u < n → (f u).toInt ≤ 1000) (e4 : x4 = ss_max a f s n) (e5 : x5 = ss_min a f 0 s n) (e6 : x6 = ss_lst a f n) (e7 : x7 = ss_sum a f n) (e8 : x8 = ss_xor a f s n) (e9 : x9 = ss_b (ss_any a n)) (h : post (ss_nx g n a f s)) :
    (nI g = 0 → post x4) ∧ (¬ nI g = 0 → (nI g = 1 → post x5) ∧ (¬ nI g = 1 → (nI g = 2 → post (s + x7)) ∧ (¬ nI g = 2 → (nI g = 3 → post x8) ∧ (¬ nI g = 3 → (nI g = 4 → (x9 = 0 → post s) ∧ (¬ x9 = 0 → (s ≤ 1 + x6 → post s) ∧ (¬ s ≤ 1 + x6 → post (1 + x6)))) ∧ (¬ nI g = 4 → post (3 * s - x7)))))) := by
  subst e4 e5 e6 e7 e8 e9
  have hg6 : g = 0 ∨ g = 1 ∨ g = 2 ∨ g = 3 ∨ g = 4 ∨ g = 5 := by omega
  rcases hg6 with rfl | rfl | rfl | rfl | rfl | rfl
  · exact br_t (by decide) h
  · exact br_f (by decide) (br_t (by decide) h)
  · exact br_f (by decide) (br_f (by decide) (br_t (by decide) h))
  · exact br_f (by decide) (br_f (by decide) (br_f (by decide) (br_t (by decide) h)))
  · refine br_f (by decide) (br_f (by decide) (br_f (by decide) (br_f (by decide) (br_t (by decide) ?_))))
    have e := (ss_least (a := a) (s := s) n (hr rfl)).2
    have h' : post (ss_min a f 1 s n) := h
    rw [e] at h'
    rw [Int32.add_comm 1 (ss_lst a f n)]
    by_cases hb : ss_any a n = true
    · refine br_f (by rw [ss_b1 hb]; decide) ?_
      by_cases hc : ss_lst a f n + 1 < s
      · rw [if_pos ⟨hb, hc⟩] at h'
        exact br_f (Int32.not_le.mpr hc) h'
      · rw [if_neg (fun z => hc z.2)] at h'
        exact br_t (Int32.not_lt.mp hc) h'
    · rw [if_neg (fun z => hb z.1)] at h'
      exact br_t (ss_b0 hb) h'
  · exact br_f (by decide) (br_f (by decide) (br_f (by decide) (br_f (by decide) (br_f (by decide) h))))
theorem ss_ynL {g : Nat} {s : Int32} (hg : g ≤ 5) (hn : n ≤ 8) (hp : p ≤ 10) (hv : v < n) (hj : ∀ u v, u < n → v < n → jn (8 * u + v) = ss_b (A u v)) (hf : ∀ u, u < n → st (8 * p + u) = f u) (hr : g = 4 → ∀ u, u < n → (f u).toInt ≤ 1000) (h : post (ss_nx g n (A v) f s)) :
    ∀ d j x4 x5 x6 x7 x8 any, j + d = n → x4 = ss_max (A v) f s j → x5 = ss_min (A v) f 0 s j → x6 = ss_lst (A v) f j → x7 = ss_sum (A v) f j → x8 = ss_xor (A v) f s j → any = ss_any (A v) j → wY_next_33 post (nI v) (nI p) s (nI n) (nI g) wk jn fs st lb (d + 1) x4 x5 x6 x7 x8 (ss_b any) (nI j) := by
  intro d
  induction d with
  | zero =>
    intro j x4 x5 x6 x7 x8 any hjd e4 e5 e6 e7 e8 e9
    have : j = n := by omega
    subst this
    exact br_t (nI_le (Nat.le_refl _) (by omega)) (ss_yend hg hr e4 e5 e6 e7 e8 (congrArg ss_b e9) h)
  | succ d ih =>
    intro j x4 x5 x6 x7 x8 any hjd e4 e5 e6 e7 e8 e9
    refine br_f (nI_ge (by omega) (by omega)) (ss_yj (by omega) (by omega) (hj v j hv (by omega)) (fun hb => nm_r (nI_1 j) (ih (j + 1) x4 x5 x6 x7 x8 any (by omega) (e4.trans (if_neg hb).symm) (e5.trans (if_neg hb).symm) (e6.trans (if_neg hb).symm) (e7.trans (if_neg hb).symm) (e8.trans (if_neg hb).symm) ?_)) (fun hb => ?_))
    · show any = (ss_any (A v) j || A v j)
      rw [Bool.eq_false_iff.mpr hb, Bool.or_false, e9]
    · refine ⟨ss_inY hp (by omega), nm_r (by rw [ss_clY hp (by omega), hf j (by omega)]) ?_⟩
      have e5' : (if f j < x5 then f j else x5) = ss_min (A v) f 0 s (j + 1) := by
        show _ = if A v j = true then (if f j + 0 < ss_min (A v) f 0 s j then f j + 0 else ss_min (A v) f 0 s j) else ss_min (A v) f 0 s j
        rw [if_pos hb, Int32.add_zero, e5]
      have e6' : (if any = true then (if f j < x6 then f j else x6) else f j) = ss_lst (A v) f (j + 1) := by
        show _ = if A v j = true then (if ss_any (A v) j = true then (if f j < ss_lst (A v) f j then f j else ss_lst (A v) f j) else f j) else ss_lst (A v) f j
        rw [if_pos hb, e6, e9]
      have e7' : x7 + f j = ss_sum (A v) f (j + 1) := by
        show _ = if A v j = true then ss_sum (A v) f j + f j else ss_sum (A v) f j
        rw [if_pos hb, e7]
      have e8' : x8 ^^^ f j = ss_xor (A v) f s (j + 1) := by
        show _ = if A v j = true then ss_xor (A v) f s j ^^^ f j else ss_xor (A v) f s j
        rw [if_pos hb, e8]
      have e9' : true = ss_any (A v) (j + 1) := by
        show true = (ss_any (A v) j || A v j)
        rw [hb, Bool.or_true]
      have e4s : ss_max (A v) f s (j + 1) = if ss_max (A v) f s j < f j then f j else ss_max (A v) f s j := if_pos hb
      by_cases hc : ss_max (A v) f s j < f j
      · rw [if_pos hc] at e4s
        exact br_f (by rw [e4]; exact Int32.not_le.mpr hc) (ss_y82 (ih (j + 1) _ _ _ _ _ true (by omega) e4s.symm e5' e6' e7' e8' e9'))
      · rw [if_neg hc] at e4s
        exact br_t (by rw [e4]; exact Int32.not_lt.mp hc) (ss_y82 (ih (j + 1) _ _ _ _ _ true (by omega) (e4.trans e4s.symm) e5' e6' e7' e8' e9'))
theorem ss_yn {g : Nat} (hg : g ≤ 5) (hn : n ≤ 8) (hp : p ≤ 10) (hv : v < n) (hj : ∀ u v, u < n → v < n → jn (8 * u + v) = ss_b (A u v)) (hf : ∀ u, u < n → st (8 * p + u) = f u) (hr : g = 4 → ∀ u, u < n → (f u).toInt ≤ 1000) (h : post (ss_nx g n (A v) f (f v))) : wpY_next post (nI n, nI g, wk, jn, fs, st, lb) (nI v) (nI p) := by
  unfold wpY_next
  dsimp only
  exact ⟨ss_inY hp (by omega), nm_r (by rw [ss_clY hp (by omega), hf v hv]) ⟨n + 1, ss_ynL hg hn hp hv hj hf hr h n 0 _ _ _ _ _ false (by omega) rfl rfl rfl rfl rfl rfl⟩⟩
end
section
variable {post : SY → Prop} {n g : Nat} {wk : Int32} {jn fs lb : Nat → Int32} {A : Nat → Nat → Bool} {s : Nat → Int32}
theorem ss_yw44 {J : Int32 → (Nat → Int32) → (Nat → Int32) → (Nat → Int32) → (Nat → Int32) → Prop} {q : Nat} (hg : g ≤ 5) (hn : n ≤ 8) (hq : q < 10) (hj : ∀ u v, u < n → v < n → jn (8 * u + v) = ss_b (A u v)) (hr : ∀ v, v < n → (s v).toInt ≤ 1000)
    (h : ∀ st, (∀ p v, p ≤ q + 1 → v < n → st (8 * p + v) = ss_st g n A s p v) → J (nI (q + 1)) jn fs st lb) :
    ∀ d j st, j + d = n → (∀ p v, p ≤ q → v < n → st (8 * p + v) = ss_st g n A s p v) → (∀ v, v < j → st (8 * (q + 1) + v) = ss_st g n A s (q + 1) v) → wY_work_44 post J (nI q) (nI n) (nI g) wk (d + 1) (nI j) jn fs st lb := by
  intro d
  induction d with
  | zero =>
    intro j st hjd h1 h2
    have : j = n := by omega
    subst this
    refine br_t (nI_le (Nat.le_refl _) (by omega)) (nm_r (nI_1 _) (h st ?_))
    intro p v hp hv
    by_cases e : p = q + 1
    · rw [e]; exact h2 v hv
    · exact h1 p v (by omega) hv
  | succ d ih =>
    intro j st hjd h1 h2
    refine br_f (nI_ge (by omega) (by omega)) (br_f (nI_ge (b := 8) (by omega) (by omega)) ?_)
    refine ss_yn (f := ss_st g n A s q) hg hn (by omega) (by omega) hj (fun u hu => h1 q u (by omega) hu) (fun e u hu => by subst e; exact ss_st4 hr q u hu) ?_
    rw [ss_ixY8]
    refine ⟨vp_in_nI (by omega) (by omega), nm_r (by rw [nI_clamp (by omega)]) (nm_r (nI_1 j) (ih (j + 1) _ (by omega) ?_ ?_))⟩
    · intro p v hp hv
      rw [pk_un (by omega)]
      exact h1 p v hp hv
    · intro v hv
      by_cases e : v = j
      · rw [e, pk_us]
        rfl
      · rw [pk_un (by omega)]
        exact h2 v (by omega)
theorem ss_yw36 (hg : g ≤ 5) (hn : n ≤ 8) (hj : ∀ u v, u < n → v < n → jn (8 * u + v) = ss_b (A u v)) (hr : ∀ v, v < n → (s v).toInt ≤ 1000)
    (h : ∀ st, (∀ p v, p ≤ 10 → v < n → st (8 * p + v) = ss_st g n A s p v) → post (nI n, nI g, wk, jn, fs, st, lb)) :
    ∀ d q st, q + d = 10 → (∀ p v, p ≤ q → v < n → st (8 * p + v) = ss_st g n A s p v) → wY_work_36 post (nI n) (nI g) wk (d + 1) (nI q) jn fs st lb := by
  intro d
  induction d with
  | zero =>
    intro q st hq h1
    have : q = 10 := by omega
    subst this
    exact br_t (by decide) (h st h1)
  | succ d ih =>
    intro q st hq h1
    exact br_f (nI_ge (b := 10) (by omega) (by omega)) ⟨n + 1, ss_yw44 hg hn (by omega) hj hr (fun st' h2 => ih (q + 1) st' (by omega) h2) n 0 st (by omega) h1 (fun v hv => absurd hv (Nat.not_lt_zero v))⟩
theorem ss_yw2 (hg : g ≤ 5) (hn : n ≤ 8) (hj : ∀ u v, u < n → v < n → jn (8 * u + v) = ss_b (A u v)) (hr : ∀ v, v < n → (s v).toInt ≤ 1000) (hs : ∀ v, v < n → fs v = s v)
    (h : ∀ st, (∀ p v, p ≤ 10 → v < n → st (8 * p + v) = ss_st g n A s p v) → post (nI n, nI g, wk, jn, fs, st, lb)) :
    ∀ d j st, j + d = n → (∀ v, v < j → st v = s v) → wY_work_2 post (nI n) (nI g) wk (d + 1) (nI j) jn fs st lb := by
  intro d
  induction d with
  | zero =>
    intro j st hjd h1
    have : j = n := by omega
    subst this
    refine br_t (nI_le (Nat.le_refl _) (by omega)) ⟨11, ss_yw36 hg hn hj hr h 10 0 st (by omega) ?_⟩
    intro p v hp hv
    have : p = 0 := by omega
    subst this
    rw [show 8 * 0 + v = v from by omega]
    exact h1 v hv
  | succ d ih =>
    intro j st hjd h1
    refine br_f (nI_ge (by omega) (by omega)) (br_f (nI_ge (b := 8) (by omega) (by omega)) ⟨vp_in_nI (by omega) (by omega), vp_in_nI (by omega) (by omega), nm_r (by rw [nI_clamp (n := j) (by omega)]) (nm_r (nI_1 j) (ih (j + 1) _ (by omega) ?_))⟩)
    intro v hv
    by_cases e : v = j
    · rw [e, pk_us]
      exact hs j (by omega)
    · rw [pk_un e]
      exact h1 v (by omega)
theorem ss_yw {st : Nat → Int32} (hg : g ≤ 5) (hn : n ≤ 8) (hj : ∀ u v, u < n → v < n → jn (8 * u + v) = ss_b (A u v)) (hr : ∀ v, v < n → (s v).toInt ≤ 1000) (hs : ∀ v, v < n → fs v = s v)
    (h : ∀ st, (∀ p v, p ≤ 10 → v < n → st (8 * p + v) = ss_st g n A s p v) → post (nI n, nI g, wk, jn, fs, st, lb)) : wpY_work post (nI n, nI g, wk, jn, fs, st, lb) := by
  unfold wpY_work
  dsimp only
  exact ⟨n + 1, ss_yw2 hg hn hj hr hs h n 0 st (by omega) (fun v hv => absurd hv (Nat.not_lt_zero v))⟩
end
/-! Y: the questions over a full table -/
section
variable {post : Int32 → SY → Prop} {n p : Nat} {kk wk : Int32} {jn fs st lb : Nat → Int32} {f : Nat → Int32}
theorem ss_ysmL (hn : n ≤ 8) (hp : p ≤ 10) (hf : ∀ u, u < n → st (8 * p + u) = f u) (h : post (ss_tot f n) (nI n, kk, wk, jn, fs, st, lb)) : ∀ d j acc, j + d = n → acc = ss_tot f j → wY_sum_18 post (nI p) (nI n) kk wk jn fs st lb (d + 1) acc (nI j) := by
  intro d
  induction d with
  | zero =>
    intro j acc hj he
    have : j = n := by omega
    subst this he
    exact br_t (nI_le (Nat.le_refl _) (by omega)) h
  | succ d ih =>
    intro j acc hj he
    refine br_f (nI_ge (by omega) (by omega)) ⟨ss_inY hp (by omega), nm_r (by rw [ss_clY hp (by omega), hf j (by omega)]) (nm_r (nI_1 j) (ih (j + 1) _ (by omega) ?_))⟩
    rw [he]; rfl
theorem ss_yk32 {J : Int32 → Int32 → Prop} {v c : Nat} (hn : n ≤ 8) (hp : p ≤ 10) (hv : v < n) (hf : ∀ u, u < n → st (8 * p + u) = f u) (h : J (nI (c + (if ss_kd f v = true then 1 else 0))) (nI (v + 1))) : ∀ d j, j + d = v → wY_kinds_32 post J (nI p) (nI c) (nI v) (nI n) kk wk jn fs st lb (d + 1) (ss_b (!ss_any (fun u => decide (f u = f v)) j)) (nI j) := by
  intro d
  induction d with
  | zero =>
    intro j hj
    have : j = v := by omega
    subst this
    refine br_t (nI_le (Nat.le_refl _) (by omega)) ?_
    by_cases hb : (!ss_any (fun u => decide (f u = f j)) j) = true
    · have hb' : ss_kd f j = true := hb
      rw [if_pos hb'] at h
      exact br_f (by rw [ss_b1 hb]; decide) (nm_r (nI_1 c) (nm_r (nI_1 j) h))
    · have hb' : ¬ ss_kd f j = true := hb
      rw [if_neg hb'] at h
      exact br_t (ss_b0 hb) (nm_r (nI_1 j) h)
  | succ d ih =>
    intro j hj
    refine br_f (nI_ge (by omega) (by omega)) ⟨ss_inY hp (by omega), ss_inY hp (by omega), ?_⟩
    rw [ss_clY hp (by omega), ss_clY hp (by omega), hf j (by omega), hf v hv]
    have k := ih (j + 1) (by omega)
    by_cases hc : f j = f v
    · have e : (!ss_any (fun u => decide (f u = f v)) (j + 1)) = false := by
        show (!(ss_any (fun u => decide (f u = f v)) j || decide (f j = f v))) = false
        rw [decide_eq_true hc, Bool.or_true]; rfl
      rw [e] at k
      exact br_t hc (nm_r (nI_1 j) k)
    · have e : (!ss_any (fun u => decide (f u = f v)) (j + 1)) = (!ss_any (fun u => decide (f u = f v)) j) := by
        show (!(ss_any (fun u => decide (f u = f v)) j || decide (f j = f v))) = _
        rw [decide_eq_false hc, Bool.or_false]
      rw [e] at k
      exact br_f hc (nm_r (nI_1 j) k)
theorem ss_yk18 (hn : n ≤ 8) (hp : p ≤ 10) (hf : ∀ u, u < n → st (8 * p + u) = f u) (h : post (nI (ss_cnt (ss_kd f) n)) (nI n, kk, wk, jn, fs, st, lb)) : ∀ d j, j + d = n → wY_kinds_18 post (nI p) (nI n) kk wk jn fs st lb (d + 1) (nI (ss_cnt (ss_kd f) j)) (nI j) := by
  intro d
  induction d with
  | zero =>
    intro j hj
    have : j = n := by omega
    subst this
    exact br_t (nI_le (Nat.le_refl _) (by omega)) h
  | succ d ih =>
    intro j hj
    exact br_f (nI_ge (by omega) (by omega)) ⟨j + 1, ss_yk32 hn hp (by omega) hf (ih (j + 1) (by omega)) j 0 (by omega)⟩
end
section
variable {post : Int32 → Prop} {n p : Nat} {kk wk : Int32} {jn fs st lb : Nat → Int32} {f h1 : Nat → Int32}
theorem ss_ymvL (hn : n ≤ 8) (hp : p < 10) (hf : ∀ u, u < n → st (8 * p + u) = f u) (hf1 : ∀ u, u < n → st (8 * (p + 1) + u) = h1 u) (h : post (nI (ss_cnt (ss_ch h1 f) n))) : ∀ d j acc, j + d = n → acc = nI (ss_cnt (ss_ch h1 f) j) → wY_moved_4 post (nI (p + 1)) (nI n) kk wk jn fs st lb (d + 1) acc (nI j) := by
  intro d
  induction d with
  | zero =>
    intro j acc hj he
    have : j = n := by omega
    subst this he
    exact br_t (nI_le (Nat.le_refl _) (by omega)) h
  | succ d ih =>
    intro j acc hj he
    refine br_f (nI_ge (by omega) (by omega)) ⟨ss_inY (by omega) (by omega), ?_⟩
    rw [ss_ixYm, ss_clY (by omega) (by omega), nI_clamp (by omega), hf1 j (by omega), hf j (by omega)]
    refine ⟨vp_in_nI (by omega) (by omega), ?_⟩
    by_cases hc : h1 j = f j
    · refine br_t hc (nm_r (nI_1 j) (ih (j + 1) _ (by omega) ?_))
      rw [he, ss_cnt_f (ss_ch_f hc)]
    · refine br_f hc (nm_e (nm_r (nI_1 j) (ih (j + 1) _ (by omega) ?_)))
      rw [he, nI_1, ss_cnt_t (ss_ch_t hc)]
theorem ss_ymv (hn : n ≤ 8) (hp : p < 10) (hf : ∀ u, u < n → st (8 * p + u) = f u) (hf1 : ∀ u, u < n → st (8 * (p + 1) + u) = h1 u) (h : post (nI (ss_cnt (ss_ch h1 f) n))) : wpY_moved post (nI n, kk, wk, jn, fs, st, lb) (nI (p + 1)) := by
  unfold wpY_moved
  dsimp only
  exact ⟨n + 1, ss_ymvL hn hp hf hf1 h n 0 _ (by omega) rfl⟩
end
section
variable {post : Int32 → SY → Prop} {n : Nat} {kk wk : Int32} {jn fs st lb : Nat → Int32} {T : Nat → Nat → Int32}
theorem ss_yseL (hn : n ≤ 8) (hT : ∀ p v, p ≤ 10 → v < n → st (8 * p + v) = T p v) : ∀ d j, j + d = 10 → post (ss_se T n d j) (nI n, kk, wk, jn, fs, st, lb) → wY_settled_6 post (nI n) kk wk jn fs st lb (d + 1) (nI j) := by
  intro d
  induction d with
  | zero =>
    intro j hj h
    exact br_t (nI_le (a := 10) (by omega) (by omega)) h
  | succ d ih =>
    intro j hj h
    refine br_f (nI_ge (b := 10) (by omega) (by omega)) ?_
    rw [nI_1]
    refine ss_ymv hn (by omega) (fun u hu => hT j u (by omega) hu) (fun u hu => hT (j + 1) u (by omega) hu) ?_
    have hz := ss_nz (c := ss_cnt (ss_ch (T (j + 1)) (T j)) n) (by have := ss_cnt_le (ss_ch (T (j + 1)) (T j)) n; omega)
    by_cases hc : ss_cnt (ss_ch (T (j + 1)) (T j)) n = 0
    · have e : ss_se T n (d + 1) j = nI j := ss_fst_t (decide_eq_true hc)
      rw [e] at h
      exact br_t (hz.mpr hc) h
    · have e : ss_se T n (d + 1) j = ss_se T n d (j + 1) := ss_fst_f (fun z => hc (of_decide_eq_true z))
      rw [e] at h
      refine br_f (fun z => hc (hz.mp z)) (nm_e ?_)
      exact ih (j + 1) (by omega) h
theorem ss_yreL {v : Nat} {x : Int32} (hn : n ≤ 8) (hv : v < n) (hT : ∀ p v, p ≤ 10 → v < n → st (8 * p + v) = T p v) : ∀ d j, j + d = 11 → post (ss_re T v x d j) (nI n, kk, wk, jn, fs, st, lb) → wY_reached_16 post (nI v) x (nI n) kk wk jn fs st lb (d + 1) (nI j) := by
  intro d
  induction d with
  | zero =>
    intro j hj h
    exact br_t (nI_le (a := 11) (by omega) (by omega)) h
  | succ d ih =>
    intro j hj h
    refine br_f (nI_ge (b := 11) (by omega) (by omega)) ⟨ss_inY (by omega) (by omega), ?_⟩
    rw [ss_clY (by omega) (by omega), hT j v (by omega) hv]
    by_cases hc : T j v = x
    · have e : ss_re T v x (d + 1) j = nI j := ss_fst_t (decide_eq_true hc)
      rw [e] at h
      exact br_t hc h
    · have e : ss_re T v x (d + 1) j = ss_re T v x d (j + 1) := ss_fst_f (fun z => hc (of_decide_eq_true z))
      rw [e] at h
      exact br_f hc (nm_r (nI_1 j) (ih (j + 1) (by omega) h))
end
end
section
/-! one edge set or taken away -/
theorem ss_orb (x : Int32) {m y : Nat} (hm : m < 32) (hy : y < 32) : bt (x ||| ((1 : Int32) <<< (nI m &&& 31))) y = if y = m then true else bt x y := by
  rw [b_or, ss_one m hm y hy]
  by_cases e : y = m
  · rw [if_pos e, decide_eq_true e, Bool.or_true]
  · rw [if_neg e, decide_eq_false e, Bool.or_false]
theorem ss_anb (x : Int32) {m y : Nat} (hm : m < 32) (hy : y < 32) : bt (x &&& (((1 : Int32) <<< (nI m &&& 31)) ^^^ (-1))) y = if y = m then false else bt x y := by
  rw [b_and, b_xor, ss_one m hm y hy, b_m1 y hy]
  by_cases e : y = m
  · rw [if_pos e, decide_eq_true e]; simp
  · rw [if_neg e, decide_eq_false e]; simp
def ss_set (A : Nat → Nat → Bool) (u v : Nat) (b : Bool) : Nat → Nat → Bool := fun x y => if (x = u ∧ y = v) ∨ (x = v ∧ y = u) then b else A x y
theorem ss_set_t {A : Nat → Nat → Bool} {u v x y : Nat} {b : Bool} (h : (x = u ∧ y = v) ∨ (x = v ∧ y = u)) : ss_set A u v b x y = b := if_pos h
theorem ss_set_f {A : Nat → Nat → Bool} {u v x y : Nat} {b : Bool} (h : ¬ ((x = u ∧ y = v) ∨ (x = v ∧ y = u))) : ss_set A u v b x y = A x y := if_neg h
section
variable {n u v : Nat} {A : Nat → Nat → Bool} {b : Bool}
theorem ss_set_in (hu : u < n) (hv : v < n) (hA : ∀ u i, u < n → A u i = true → i < n) : ∀ x i, x < n → ss_set A u v b x i = true → i < n := by
  intro x i hx h
  by_cases e : (x = u ∧ i = v) ∨ (x = v ∧ i = u)
  · omega
  · rw [ss_set_f e] at h
    exact hA x i hx h
theorem ss_set_sym (hs : ∀ u i, u < n → A u i = true → A i u = true) : ∀ x i, x < n → ss_set A u v b x i = true → ss_set A u v b i x = true := by
  intro x i hx h
  by_cases e : (x = u ∧ i = v) ∨ (x = v ∧ i = u)
  · rw [ss_set_t e] at h
    rw [ss_set_t (by omega), h]
  · rw [ss_set_f e] at h
    rw [ss_set_f (by omega)]
    exact hs x i hx h
theorem ss_set_irr (hne : u ≠ v) (hi : ∀ u, u < n → A u u = false) : ∀ x, x < n → ss_set A u v b x x = false := by
  intro x hx
  rw [ss_set_f (by omega)]
  exact hi x hx
theorem ss_setX {nb : Nat → Int32} {w1 w2 : Int32} (hne : u ≠ v) (hX : ∀ v u, v < n → u < 32 → bt (nb v) u = A v u) (h1 : ∀ y, y < 32 → bt w1 y = if y = v then b else A u y) (h2 : ∀ y, y < 32 → bt w2 y = if y = u then b else A v y) : ∀ x y, x < n → y < 32 → bt (upd (upd nb u w1) v w2 x) y = ss_set A u v b x y := by
  intro x y hx hy
  by_cases e : x = v
  · subst e
    rw [pk_us, h2 y hy]
    by_cases e2 : y = u
    · rw [if_pos e2, ss_set_t (by omega)]
    · rw [if_neg e2, ss_set_f (by omega)]
  · rw [pk_un e]
    by_cases e3 : x = u
    · subst e3
      rw [pk_us, h1 y hy]
      by_cases e2 : y = v
      · rw [if_pos e2, ss_set_t (by omega)]
      · rw [if_neg e2, ss_set_f (by omega)]
    · rw [pk_un e3, hX x y hx hy, ss_set_f (by omega)]
theorem ss_setY {jn : Nat → Int32} (hn : n ≤ 8) (hu : u < n) (hv : v < n) (hj : ∀ u v, u < n → v < n → jn (8 * u + v) = ss_b (A u v)) : ∀ x y, x < n → y < n → upd (upd jn (8 * u + v) (ss_b b)) (8 * v + u) (ss_b b) (8 * x + y) = ss_b (ss_set A u v b x y) := by
  intro x y hx hy
  by_cases e : x = v ∧ y = u
  · rw [ss_set_t (Or.inr e), e.1, e.2, pk_us]
  · rw [pk_un (by omega)]
    by_cases e2 : x = u ∧ y = v
    · rw [ss_set_t (Or.inl e2), e2.1, e2.2, pk_us]
    · rw [pk_un (by omega), ss_set_f (by omega)]
      exact hj x y hx hy
end
theorem ss_nar0 : vp_nar .boolean 0 = ss_b false := rfl
theorem ss_nar1 : vp_nar .boolean 1 = ss_b true := rfl
section
variable {post : Int32 → SX → Prop} {n g u v : Nat} {wk sd z : Int32} {nb st : Nat → Int32} {A : Nat → Nat → Bool} {s : Nat → Int32}
theorem ss_xe40 {x3 : Int32} (hg : g ≤ 5) (hn : n ≤ 8) (hu : u < n) (hv : v < n) (hne : u ≠ v) (hX : ∀ v u, v < n → u < 32 → bt (nb v) u = A v u) (hs : ∀ v, v < n → st v = s v)
    (h : ∀ nb' st', (∀ x y, x < n → y < 32 → bt (nb' x) y = ss_set A u v (!decide (x3 = 0)) x y) → (∀ p w, p ≤ 10 → w < n → st' (8 * p + w) = ss_st g n (ss_set A u v (!decide (x3 = 0))) s p w) → post z (nI n, nI g, wk, sd, nb', st')) : wX_edge_40 post (nI u) (nI v) x3 z (nI n) (nI g) wk sd nb st := by
  have f101 : ∀ nb', (∀ x y, x < n → y < 32 → bt (nb' x) y = ss_set A u v (!decide (x3 = 0)) x y) → wX_edge_101 post z (nI n) (nI g) wk sd nb' st := by
    intro nb' hX'
    unfold wX_edge_101
    exact ss_xfill hg hn hX' hs (fun st' hT' => h nb' st' hX' hT')
  have i1 : vp_in (nI u) 8 := vp_in_nI (by omega) (by omega)
  have i2 : vp_in (nI v) 8 := vp_in_nI (by omega) (by omega)
  have c1 : (nI u).toNatClampNeg = u := nI_clamp (by omega)
  have c2 : (nI v).toNatClampNeg = v := nI_clamp (by omega)
  by_cases e : x3 = 0
  · have eb : (!decide (x3 = 0)) = false := by rw [decide_eq_true e]; rfl
    refine br_t e ⟨i1, i1, nm_r (by rw [c1]) ⟨i2, i2, nm_r (by rw [c2]) (f101 _ ?_)⟩⟩
    rw [eb]
    refine ss_setX hne hX (fun y hy => ?_) (fun y hy => ?_)
    · rw [ss_anb _ (by omega) hy, hX u y hu hy]
    · rw [ss_anb _ (by omega) hy, pk_un (Ne.symm hne), hX v y hv hy]
  · have eb : (!decide (x3 = 0)) = true := by rw [decide_eq_false e]; rfl
    refine br_f e ⟨i1, i1, nm_r (by rw [c1]) ⟨i2, i2, nm_r (by rw [c2]) (f101 _ ?_)⟩⟩
    rw [eb]
    refine ss_setX hne hX (fun y hy => ?_) (fun y hy => ?_)
    · rw [ss_orb _ (by omega) hy, hX u y hu hy]
    · rw [ss_orb _ (by omega) hy, pk_un (Ne.symm hne), hX v y hv hy]
end
section
variable {post : Int32 → SY → Prop} {n u v : Nat} {kk wk z : Int32} {jn fs st lb : Nat → Int32} {A : Nat → Nat → Bool}
theorem ss_ye45 {x3 : Int32} (hn : n ≤ 8) (hu : u < n) (hv : v < n) (hj : ∀ u v, u < n → v < n → jn (8 * u + v) = ss_b (A u v))
    (h : ∀ jn', (∀ x y, x < n → y < n → jn' (8 * x + y) = ss_b (ss_set A u v (!decide (x3 = 0)) x y)) → post z (nI n, kk, wk, jn', fs, st, lb)) : wY_edge_45 post (nI u) (nI v) x3 z (nI n) kk wk jn fs st lb := by
  have i1 : vp_in (8 * nI u + nI v) 64 := ss_inJ (by omega) (by omega)
  have i2 : vp_in (8 * nI v + nI u) 64 := ss_inJ (by omega) (by omega)
  have c1 : (8 * nI u + nI v).toNatClampNeg = 8 * u + v := ss_clY (by omega) (by omega)
  have c2 : (8 * nI v + nI u).toNatClampNeg = 8 * v + u := ss_clY (by omega) (by omega)
  by_cases e : x3 = 0
  · have eb : (!decide (x3 = 0)) = false := by rw [decide_eq_true e]; rfl
    rw [eb] at h
    exact br_t e (And.intro i1 (nm_r (by rw [c1, ss_nar0]) (br_t e (And.intro i2 (nm_r (by rw [c2, ss_nar0]) (h _ (ss_setY hn hu hv hj)))))))
  · have eb : (!decide (x3 = 0)) = true := by rw [decide_eq_false e]; rfl
    rw [eb] at h
    exact br_f e (And.intro i1 (nm_r (by rw [c1, ss_nar1]) (br_f e (And.intro i2 (nm_r (by rw [c2, ss_nar1]) (h _ (ss_setY hn hu hv hj)))))))
end
end
section
/-! the relation, and good and bad arguments on both sides -/
def ss_R (n g : Nat) (A : Nat → Nat → Bool) (s nb stx jn fs : Nat → Int32) : Prop :=
  n ≤ 8 ∧ g ≤ 5 ∧ (∀ v u, v < n → u < 32 → bt (nb v) u = A v u) ∧ (∀ u v, u < n → v < n → jn (8 * u + v) = ss_b (A u v)) ∧ (∀ u i, u < n → A u i = true → i < n) ∧ (∀ u i, u < n → A u i = true → A i u = true) ∧ (∀ u, u < n → A u u = false) ∧ (∀ v, v < n → (s v).toInt ≤ 1000) ∧ (∀ v, v < n → fs v = s v) ∧ (∀ p v, p ≤ 10 → v < n → stx (8 * p + v) = ss_st g n A s p v)
/-- both keep the same nodes, program, method; X's bit sets and Y's table are one graph A, Y's first are the starts s, X's table has the states of every round; Y's table of states and its labels are free -/
def i_Rel (_ : Nat) (u : SX) (v : SY) : Prop :=
  ∃ (n g : Nat) (wk sd : Int32) (A : Nat → Nat → Bool) (s nb stx jn fs sty lb : Nat → Int32), u = (nI n, nI g, wk, sd, nb, stx) ∧ v = (nI n, nI g, wk, jn, fs, sty, lb) ∧ ss_R n g A s nb stx jn fs
theorem ss_mk {n g : Nat} {wk sd : Int32} {A : Nat → Nat → Bool} {s nb stx jn fs : Nat → Int32} (h : ss_R n g A s nb stx jn fs) (k : Nat) (sty lb : Nat → Int32) : i_Rel k (nI n, nI g, wk, sd, nb, stx) (nI n, nI g, wk, jn, fs, sty, lb) := ⟨n, g, wk, sd, A, s, nb, stx, jn, fs, sty, lb, rfl, rfl, h⟩
theorem i_up {k : Nat} {u : SX} {v : SY} (h : i_Rel k u v) : i_Rel (k + 4) u v := h
theorem ss_init {n : Nat} (hn : n ≤ 8) : i_Rel 1 (nI n, 0, 0, 0, (fun _ => 0), (fun _ => 0)) (nI n, 0, 0, (fun _ => 0), (fun _ => 0), (fun _ => 0), (fun _ => 0)) := by
  refine ⟨n, 0, 0, 0, fun _ _ => false, fun _ => 0, fun _ => 0, fun _ => 0, fun _ => 0, fun _ => 0, fun _ => 0, fun _ => 0, rfl, rfl, hn, by omega, ?_, ?_, ?_, ?_, ?_, ?_, ?_, ?_⟩
  · intro v u _ _; exact b_0 u
  · intro u v _ _; rfl
  · intro u i _ h; exact nomatch h
  · intro u i _ h; exact nomatch h
  · intro u _; rfl
  · intro v _; exact (by decide : (0 : Int32).toInt ≤ 1000)
  · intro v _; rfl
  · intro p v _ _; exact (ss_st0 p v).symm
theorem i_vc0 (k0 : Int32) : wpX_init (fun u => wpY_init (fun v => i_Rel 1 u v) k0) k0 := by
  by_cases h2 : 2 ≤ k0
  · by_cases h8 : k0 ≤ 8
    · have h0 : ¬ k0 < 0 := by
        rw [Int32.lt_iff_toInt_lt]
        rw [Int32.le_iff_toInt_le] at h2
        have e1 : (2 : Int32).toInt = 2 := by decide
        have e2 : (0 : Int32).toInt = 0 := by decide
        omega
      obtain ⟨n, hn, rfl⟩ := nI_of2 (M := 8) (n := 8) (by decide) h0 h8
      exact br_t h2 (br_t h8 (br_t h2 (br_t h8 (ss_init hn))))
    · exact br_t h2 (br_f h8 (br_t h2 (br_f h8 (ss_init (n := 8) (by omega)))))
  · exact br_f h2 (br_f h2 (ss_init (n := 2) (by omega)))
section
variable {post : Int32 → Prop} {n : Nat} {kk wk : Int32} {jn fs st lb : Nat → Int32}
theorem ss_nbad {v : Nat} (hv : v < n) (hn : n ≤ 8) : ¬ (nI v < 0 ∨ nI n ≤ nI v) := by
  intro z
  rcases z with z | z
  · exact nI_pos (by omega) z
  · exact nI_ge hv (by omega) z
theorem ss_nbadR {p : Nat} (hp : p ≤ 10) : ¬ (nI p < 0 ∨ ¬ nI p ≤ 10) := by
  intro z
  rcases z with z | z
  · exact nI_pos (by omega) z
  · exact z (nI_le (b := 10) hp (by omega))
theorem ss_yok {v : Nat} (hn : n ≤ 8) (hv : v < n) (h : post 0) : wpY_bad post (nI n, kk, wk, jn, fs, st, lb) (nI v) := ss_ybad hn (fun _ _ _ => h) (fun z => absurd z (ss_nbad hv hn))
theorem ss_yno {x : Int32} (hn : n ≤ 8) (hb : x < 0 ∨ nI n ≤ x) (h : post 1) : wpY_bad post (nI n, kk, wk, jn, fs, st, lb) x := ss_ybad hn (fun v hv e => by subst e; exact absurd hb (ss_nbad hv hn)) (fun _ => h)
theorem ss_yrok {p : Nat} (hp : p ≤ 10) (h : post 0) : wpY_badRound post (nI n, kk, wk, jn, fs, st, lb) (nI p) := ss_yround (fun _ _ _ => h) (fun z => absurd z (ss_nbadR hp))
theorem ss_yrno {x : Int32} (hb : x < 0 ∨ ¬ x ≤ 10) (h : post 1) : wpY_badRound post (nI n, kk, wk, jn, fs, st, lb) x := ss_yround (fun p hp e => by subst e; exact absurd hb (ss_nbadR hp)) (fun _ => h)
end
theorem ss_R_edges {n g : Nat} {A : Nat → Nat → Bool} {s nb stx jn fs : Nat → Int32} (h : ss_R n g A s nb stx jn fs) : ss_sm (ss_deg A n) n / 2 = ss_sm (ss_up A n) n := by
  obtain ⟨hn, hg, hX, hj, hA, hs, hi, hr, hf, hT⟩ := h
  rw [ss_edges (m := n) ?_ hi n (Nat.le_refl n), Nat.mul_div_cancel_left _ (by omega)]
  intro u v hu hv
  apply Bool.eq_iff_iff.mpr
  exact ⟨hs u v hu, hs v u hv⟩
end
section
/-! what is owed -/
theorem i_vc_nodes {k : Nat} {u : SX} {v : SY} (I : i_Rel k u v) (hk : k + 4 ≤ 2049) : wpX_nodes (fun r => wpY_nodes (fun r' => r' = r ∧ i_Rel (k + 4) u v) v) u := by
  obtain ⟨n, g, wk, sd, A, s, nb, stx, jn, fs, sty, lb, rfl, rfl, h⟩ := I
  exact And.intro rfl (ss_mk h _ _ _)
theorem i_vc_edge {k : Nat} {u : SX} {v : SY} (I : i_Rel k u v) (hk : k + 4 ≤ 2049) (v1 : Int32) (v2 : Int32) (v3 : Int32) : wpX_edge (fun r u' => wpY_edge (fun r' v' => r' = r ∧ i_Rel (k + 4) u' v') v v1 v2 v3) u v1 v2 v3 := by
  obtain ⟨n, g, wk, sd, A, s, nb, stx, jn, fs, sty, lb, rfl, rfl, h⟩ := I
  have R := h
  obtain ⟨hn, hg, hX, hj, hA, hs, hi, hr, hf, hT⟩ := h
  unfold wpX_edge
  dsimp only
  refine ss_xgood hn (fun x hx ex => br_f (by decide) ?_) (fun hb => br_t rfl ?_)
  · subst ex
    refine ss_xgood hn (fun y hy ey => br_f (by decide) ?_) (fun hb => br_t rfl ?_)
    · subst ey
      by_cases e : x = y
      · subst e
        refine br_t rfl ?_
        unfold wpY_edge
        dsimp only
        exact ss_yok hn hx (br_t rfl (ss_yok hn hx (br_t rfl (br_t rfl ⟨rfl, ss_mk R _ _ _⟩))))
      · have en : ¬ nI x = nI y := fun z => e ((nI_eq (by omega) (by omega)).mp z)
        have hs0 : ∀ v, v < n → stx v = s v := by
          intro v hv
          have t := hT 0 v (by omega) hv
          rw [show 8 * 0 + v = v from by omega] at t
          exact t
        have fin : ∀ z : Int32, z = ss_b (A x y) → wX_edge_40 (fun r u' => wpY_edge (fun r' v' => r' = r ∧ i_Rel (k + 4) u' v') (nI n, nI g, wk, jn, fs, sty, lb) (nI x) (nI y) v3) (nI x) (nI y) v3 z (nI n) (nI g) wk sd nb stx := by
          intro z ez
          refine ss_xe40 hg hn hx hy e hX hs0 (fun nb' st' hX' hT' => ?_)
          unfold wpY_edge
          dsimp only
          have fy : ∀ z' : Int32, z' = ss_b (A x y) → wY_edge_45 (fun r' v' => r' = z ∧ i_Rel (k + 4) (nI n, nI g, wk, sd, nb', st') v') (nI x) (nI y) v3 z' (nI n) (nI g) wk jn fs sty lb := by
            intro z' ez'
            refine ss_ye45 hn hx hy hj (fun jn' hj' => ⟨ez'.trans ez.symm, ?_⟩)
            exact ss_mk (A := ss_set A x y (!decide (v3 = 0))) (s := s) ⟨hn, hg, hX', hj', ss_set_in hx hy hA, ss_set_sym hs, ss_set_irr e hi, hr, hf, hT'⟩ _ _ _
          exact ss_yok hn hx (br_t rfl (ss_yok hn hy (br_t rfl (br_f en (ss_yj (by omega) (by omega) (hj x y hx hy) (fun hb => fy 0 (ss_b0 hb).symm) (fun hb => fy 1 (ss_b1 hb).symm))))))
        refine br_f en (ss_xj (by omega) (by omega) (hX x y hx (by omega)) ?_)
        by_cases hb : A x y = true
        · exact br_f (by rw [ss_b1 hb]; decide) (fin 1 (ss_b1 hb).symm)
        · exact br_t (ss_b0 hb) (fin 0 (ss_b0 hb).symm)
    · unfold wpY_edge
      dsimp only
      exact ss_yok hn hx (br_t rfl (ss_yno hn hb (br_f (by decide) ⟨rfl, ss_mk R _ _ _⟩)))
  · unfold wpY_edge
    dsimp only
    exact ss_yno hn hb (br_f (by decide) ⟨rfl, ss_mk R _ _ _⟩)
theorem i_vc_start {k : Nat} {u : SX} {v : SY} (I : i_Rel k u v) (hk : k + 4 ≤ 2049) (v1 : Int32) (v2 : Int32) : wpX_start (fun r u' => wpY_start (fun r' v' => r' = r ∧ i_Rel (k + 4) u' v') v v1 v2) u v1 v2 := by
  obtain ⟨n, g, wk, sd, A, s, nb, stx, jn, fs, sty, lb, rfl, rfl, h⟩ := I
  have R := h
  obtain ⟨hn, hg, hX, hj, hA, hs, hi, hr, hf, hT⟩ := h
  unfold wpX_start
  dsimp only
  refine ss_xgood hn (fun x hx ex => br_f (by decide) ?_) (fun hb => br_t rfl ?_)
  · subst ex
    have hs0 : ∀ v, v < n → stx v = s v := by
      intro v hv
      have t := hT 0 v (by omega) hv
      rw [show 8 * 0 + v = v from by omega] at t
      exact t
    refine br_c (fun h1 => ?_) (fun h1 => br_c (fun h2 => ?_) (fun h2 => ?_))
    · unfold wpY_start
      dsimp only
      exact ss_yok hn hx (br_t rfl (br_t h1 ⟨rfl, ss_mk R _ _ _⟩))
    · refine ss_xs (p := 0) (by omega) (by omega) (hT 0 x (by omega) hx) ⟨vp_in_nI (by omega) (by omega), nm_r (by rw [nI_clamp (n := x) (by omega)]) ?_⟩
      have hu : ∀ (q : Nat → Int32), (∀ v, v < n → q v = s v) → ∀ v, v < n → upd q x v2 v = upd s x v2 v := by
        intro q hq v hv
        by_cases e : v = x
        · rw [e, pk_us, pk_us]
        · rw [pk_un e, pk_un e, hq v hv]
      have hr' : ∀ v, v < n → (upd s x v2 v).toInt ≤ 1000 := by
        intro v hv
        by_cases e : v = x
        · rw [e, pk_us]
          rw [Int32.le_iff_toInt_le] at h2
          exact h2
        · rw [pk_un e]
          exact hr v hv
      refine ss_xfill (A := A) (s := upd s x v2) hg hn hX (hu stx hs0) (fun st' hT' => ?_)
      unfold wpY_start
      dsimp only
      refine ss_yok hn hx (br_t rfl (br_f h1 (br_t h2 ⟨vp_in_nI (by omega) (by omega), nm_e ⟨vp_in_nI (by omega) (by omega), nm_r (by rw [nI_clamp (n := x) (by omega)]) ⟨?_, ?_⟩⟩⟩)))
      · rw [nI_clamp (n := x) (by omega), hf x hx]
        rfl
      · exact ss_mk (A := A) (s := upd s x v2) ⟨hn, hg, hX, hj, hA, hs, hi, hr', hu fs hf, hT'⟩ _ _ _
    · unfold wpY_start
      dsimp only
      exact ss_yok hn hx (br_t rfl (br_f h1 (br_f h2 ⟨rfl, ss_mk R _ _ _⟩)))
  · unfold wpY_start
    dsimp only
    exact ss_yno hn hb (br_f (by decide) ⟨rfl, ss_mk R _ _ _⟩)
theorem i_vc_program {k : Nat} {u : SX} {v : SY} (I : i_Rel k u v) (hk : k + 4 ≤ 2049) (v1 : Int32) : wpX_program (fun r u' => wpY_program (fun r' v' => r' = r ∧ i_Rel (k + 4) u' v') v v1) u v1 := by
  obtain ⟨n, g, wk, sd, A, s, nb, stx, jn, fs, sty, lb, rfl, rfl, h⟩ := I
  have R := h
  obtain ⟨hn, hg, hX, hj, hA, hs, hi, hr, hf, hT⟩ := h
  have hs0 : ∀ v, v < n → stx v = s v := by
    intro v hv
    have t := hT 0 v (by omega) hv
    rw [show 8 * 0 + v = v from by omega] at t
    exact t
  unfold wpX_program
  dsimp only
  refine br_c (fun h0 => br_t h0 ⟨rfl, ss_mk R _ _ _⟩) (fun h0 => br_c (fun h5 => ?_) (fun h5 => br_f h0 (br_f h5 ⟨rfl, ss_mk R _ _ _⟩)))
  obtain ⟨g', hg', rfl⟩ := nI_of2 (M := 5) (n := 5) (by decide) h0 h5
  refine ss_xfill (A := A) (s := s) hg' hn hX hs0 (fun st' hT' => ?_)
  exact br_f h0 (br_t h5 ⟨rfl, ss_mk (A := A) (s := s) ⟨hn, hg', hX, hj, hA, hs, hi, hr, hf, hT'⟩ _ _ _⟩)
theorem i_vc_method {k : Nat} {u : SX} {v : SY} (I : i_Rel k u v) (hk : k + 4 ≤ 2049) (v1 : Int32) : wpX_method (fun r u' => wpY_method (fun r' v' => r' = r ∧ i_Rel (k + 4) u' v') v v1) u v1 := by
  obtain ⟨n, g, wk, sd, A, s, nb, stx, jn, fs, sty, lb, rfl, rfl, h⟩ := I
  unfold wpX_method
  dsimp only
  exact br_c (fun h0 => br_t h0 ⟨rfl, ss_mk h _ _ _⟩) (fun h0 => br_c (fun h1 => br_f h0 (br_t h1 ⟨rfl, ss_mk h _ _ _⟩)) (fun h1 => br_f h0 (br_f h1 ⟨rfl, ss_mk h _ _ _⟩)))
theorem i_vc_schedule {k : Nat} {u : SX} {v : SY} (I : i_Rel k u v) (hk : k + 4 ≤ 2049) (v1 : Int32) : wpX_schedule (fun u' => wpY_schedule (fun v' => i_Rel (k + 4) u' v') v v1) u v1 := by
  obtain ⟨n, g, wk, sd, A, s, nb, stx, jn, fs, sty, lb, rfl, rfl, h⟩ := I
  exact ss_mk (sd := v1) h (k + 4) sty lb
theorem i_vc_edges {k : Nat} {u : SX} {v : SY} (I : i_Rel k u v) (hk : k + 4 ≤ 2049) : wpX_edges (fun r => wpY_edges (fun r' => r' = r ∧ i_Rel (k + 4) u v) v) u := by
  obtain ⟨n, g, wk, sd, A, s, nb, stx, jn, fs, sty, lb, rfl, rfl, h⟩ := I
  have R := h
  obtain ⟨hn, hg, hX, hj, hA, hs, hi, hr, hf, hT⟩ := h
  unfold wpX_edges
  dsimp only
  refine ss_xce hn hX (ss_ye hn hj ⟨?_, ss_mk R _ _ _⟩)
  rw [ss_R_edges R]
theorem i_vc_degree {k : Nat} {u : SX} {v : SY} (I : i_Rel k u v) (hk : k + 4 ≤ 2049) (v1 : Int32) : wpX_degree (fun r => wpY_degree (fun r' => r' = r ∧ i_Rel (k + 4) u v) v v1) u v1 := by
  obtain ⟨n, g, wk, sd, A, s, nb, stx, jn, fs, sty, lb, rfl, rfl, h⟩ := I
  have R := h
  obtain ⟨hn, hg, hX, hj, hA, hs, hi, hr, hf, hT⟩ := h
  unfold wpX_degree wpY_degree
  dsimp only
  refine ss_xgood hn (fun x hx ex => br_f (by decide) ?_) (fun hb => br_t rfl (ss_yno hn hb (br_f (by decide) ⟨rfl, ss_mk R _ _ _⟩)))
  subst ex
  exact ss_xcn hn hx hX (ss_yok hn hx (br_t rfl (ss_yne hn hx hj ⟨rfl, ss_mk R _ _ _⟩)))
theorem i_vc_parts {k : Nat} {u : SX} {v : SY} (I : i_Rel k u v) (hk : k + 4 ≤ 2049) : wpX_parts (fun r => wpY_parts (fun r' v' => r' = r ∧ i_Rel (k + 4) u v') v) u := by
  obtain ⟨n, g, wk, sd, A, s, nb, stx, jn, fs, sty, lb, rfl, rfl, h⟩ := I
  have R := h
  obtain ⟨hn, hg, hX, hj, hA, hs, hi, hr, hf, hT⟩ := h
  unfold wpX_parts wpY_parts
  dsimp only
  exact ss_xcp hn hX (ss_ypc hn hA hs hj (fun lb' => ⟨rfl, ss_mk R _ _ _⟩))
theorem i_vc_state {k : Nat} {u : SX} {v : SY} (I : i_Rel k u v) (hk : k + 4 ≤ 2049) (v1 : Int32) (v2 : Int32) : wpX_state (fun r => wpY_state (fun r' v' => r' = r ∧ i_Rel (k + 4) u v') v v1 v2) u v1 v2 := by
  obtain ⟨n, g, wk, sd, A, s, nb, stx, jn, fs, sty, lb, rfl, rfl, h⟩ := I
  have R := h
  obtain ⟨hn, hg, hX, hj, hA, hs, hi, hr, hf, hT⟩ := h
  unfold wpX_state wpY_state
  dsimp only
  refine ss_xgood hn (fun x hx ex => br_f (by decide) ?_) (fun hb => br_t rfl (ss_yno hn hb (br_f (by decide) ⟨rfl, ss_mk R _ _ _⟩)))
  subst ex
  refine ss_xround (fun p hp ep => br_f (by decide) ?_) (fun hb => br_t rfl (ss_yok hn hx (br_t rfl (ss_yrno hb (br_f (by decide) ⟨rfl, ss_mk R _ _ _⟩)))))
  subst ep
  refine ss_xs hp (by omega) (hT p x hp hx) (ss_yok hn hx (br_t rfl (ss_yrok hp (br_t rfl (ss_yw hg hn hj hr hf (fun st' hT' => ?_))))))
  refine ⟨ss_inY hp (by omega), ?_, ss_mk R _ _ _⟩
  rw [ss_clY hp (by omega)]
  exact hT' p x hp hx
theorem i_vc_sum {k : Nat} {u : SX} {v : SY} (I : i_Rel k u v) (hk : k + 4 ≤ 2049) (v1 : Int32) : wpX_sum (fun r => wpY_sum (fun r' v' => r' = r ∧ i_Rel (k + 4) u v') v v1) u v1 := by
  obtain ⟨n, g, wk, sd, A, s, nb, stx, jn, fs, sty, lb, rfl, rfl, h⟩ := I
  have R := h
  obtain ⟨hn, hg, hX, hj, hA, hs, hi, hr, hf, hT⟩ := h
  unfold wpX_sum wpY_sum
  dsimp only
  refine ss_xround (fun p hp ep => br_f (by decide) ?_) (fun hb => br_t rfl (ss_yrno hb (br_f (by decide) ⟨rfl, ss_mk R _ _ _⟩)))
  subst ep
  refine ⟨n + 1, ss_xsmL (f := ss_st g n A s p) hn hp (fun u hu => hT p u hp hu) ?_ n 0 _ (by omega) rfl⟩
  exact ss_yrok hp (br_t rfl (ss_yw hg hn hj hr hf (fun st' hT' => ⟨n + 1, ss_ysmL (f := ss_st g n A s p) hn hp (fun u hu => hT' p u hp hu) ⟨rfl, ss_mk R _ _ _⟩ n 0 _ (by omega) rfl⟩)))
theorem i_vc_kinds {k : Nat} {u : SX} {v : SY} (I : i_Rel k u v) (hk : k + 4 ≤ 2049) (v1 : Int32) : wpX_kinds (fun r => wpY_kinds (fun r' v' => r' = r ∧ i_Rel (k + 4) u v') v v1) u v1 := by
  obtain ⟨n, g, wk, sd, A, s, nb, stx, jn, fs, sty, lb, rfl, rfl, h⟩ := I
  have R := h
  obtain ⟨hn, hg, hX, hj, hA, hs, hi, hr, hf, hT⟩ := h
  unfold wpX_kinds wpY_kinds
  dsimp only
  refine ss_xround (fun p hp ep => br_f (by decide) ?_) (fun hb => br_t rfl (ss_yrno hb (br_f (by decide) ⟨rfl, ss_mk R _ _ _⟩)))
  subst ep
  refine ⟨n + 1, ss_xkdL (f := ss_st g n A s p) hn hp (fun u hu => hT p u hp hu) ?_ n 0 _ (by omega) rfl⟩
  exact ss_yrok hp (br_t rfl (ss_yw hg hn hj hr hf (fun st' hT' => ⟨n + 1, ss_yk18 (f := ss_st g n A s p) hn hp (fun u hu => hT' p u hp hu) ⟨rfl, ss_mk R _ _ _⟩ n 0 (by omega)⟩)))
theorem i_vc_settled {k : Nat} {u : SX} {v : SY} (I : i_Rel k u v) (hk : k + 4 ≤ 2049) : wpX_settled (fun r => wpY_settled (fun r' v' => r' = r ∧ i_Rel (k + 4) u v') v) u := by
  obtain ⟨n, g, wk, sd, A, s, nb, stx, jn, fs, sty, lb, rfl, rfl, h⟩ := I
  have R := h
  obtain ⟨hn, hg, hX, hj, hA, hs, hi, hr, hf, hT⟩ := h
  unfold wpX_settled wpY_settled
  dsimp only
  refine ⟨11, ss_xseL hn hT 10 0 (by omega) ?_⟩
  exact ss_yw hg hn hj hr hf (fun st' hT' => ⟨11, ss_yseL hn hT' 10 0 (by omega) ⟨rfl, ss_mk R _ _ _⟩⟩)
theorem ss_neg1 {x : Int32} (h : x < 0) : x < 1 := by
  rw [Int32.lt_iff_toInt_lt] at *
  have e1 : (1 : Int32).toInt = 1 := by decide
  have e2 : (0 : Int32).toInt = 0 := by decide
  omega
theorem i_vc_changes {k : Nat} {u : SX} {v : SY} (I : i_Rel k u v) (hk : k + 4 ≤ 2049) (v1 : Int32) : wpX_changes (fun r => wpY_changes (fun r' v' => r' = r ∧ i_Rel (k + 4) u v') v v1) u v1 := by
  obtain ⟨n, g, wk, sd, A, s, nb, stx, jn, fs, sty, lb, rfl, rfl, h⟩ := I
  have R := h
  obtain ⟨hn, hg, hX, hj, hA, hs, hi, hr, hf, hT⟩ := h
  unfold wpX_changes wpY_changes
  dsimp only
  refine ss_xround (fun p hp ep => br_f (by decide) ?_) (fun hb => br_t rfl ?_)
  · subst ep
    by_cases e : p = 0
    · subst e
      exact br_t rfl (br_t (by decide) ⟨rfl, ss_mk R _ _ _⟩)
    · obtain ⟨q, rfl⟩ : ∃ q, p = q + 1 := ⟨p - 1, by omega⟩
      refine br_f (nI_ne0 (by omega) (by omega)) (ss_xch (f := ss_st g n A s q) (h1 := ss_st g n A s (q + 1)) hn (by omega) (fun u hu => hT q u (by omega) hu) (fun u hu => hT (q + 1) u (by omega) hu) ?_)
      refine br_f (nI_nlt (b := 1) (by omega) (by omega)) (br_t (nI_le (b := 10) hp (by omega)) (ss_yw hg hn hj hr hf (fun st' hT' => ?_)))
      exact ss_ymv (f := ss_st g n A s q) (h1 := ss_st g n A s (q + 1)) hn (by omega) (fun u hu => hT' q u (by omega) hu) (fun u hu => hT' (q + 1) u (by omega) hu) ⟨rfl, ss_mk R _ _ _⟩
  · rcases hb with hb | hb
    · exact br_t (ss_neg1 hb) ⟨rfl, ss_mk R _ _ _⟩
    · exact br_c (fun _ => ⟨rfl, ss_mk R _ _ _⟩) (fun _ => br_f hb ⟨rfl, ss_mk R _ _ _⟩)
theorem i_vc_reached {k : Nat} {u : SX} {v : SY} (I : i_Rel k u v) (hk : k + 4 ≤ 2049) (v1 : Int32) (v2 : Int32) : wpX_reached (fun r => wpY_reached (fun r' v' => r' = r ∧ i_Rel (k + 4) u v') v v1 v2) u v1 v2 := by
  obtain ⟨n, g, wk, sd, A, s, nb, stx, jn, fs, sty, lb, rfl, rfl, h⟩ := I
  have R := h
  obtain ⟨hn, hg, hX, hj, hA, hs, hi, hr, hf, hT⟩ := h
  unfold wpX_reached wpY_reached
  dsimp only
  refine ss_xgood hn (fun x hx ex => br_f (by decide) ?_) (fun hb => br_t rfl (ss_yno hn hb (br_f (by decide) ⟨rfl, ss_mk R _ _ _⟩)))
  subst ex
  refine ⟨12, ss_xreL hn hx hT 11 0 (by omega) ?_⟩
  exact ss_yok hn hx (br_t rfl (ss_yw hg hn hj hr hf (fun st' hT' => ⟨12, ss_yreL hn hx hT' 11 0 (by omega) ⟨rfl, ss_mk R _ _ _⟩⟩)))
theorem i_vc_overhead {k : Nat} {u : SX} {v : SY} (I : i_Rel k u v) (hk : k + 4 ≤ 2049) (v1 : Int32) : wpX_overhead (fun r => wpY_overhead (fun r' v' => r' = r ∧ i_Rel (k + 4) u v') v v1) u v1 := by
  obtain ⟨n, g, wk, sd, A, s, nb, stx, jn, fs, sty, lb, rfl, rfl, h⟩ := I
  have R := h
  obtain ⟨hn, hg, hX, hj, hA, hs, hi, hr, hf, hT⟩ := h
  unfold wpX_overhead wpY_overhead wpX_overheadOfOneRound
  dsimp only
  refine ss_xround (fun p hp ep => br_f (by decide) ?_) (fun hb => br_t rfl (ss_yrno hb (br_f (by decide) ⟨rfl, ss_mk R _ _ _⟩)))
  subst ep
  refine ss_xce hn hX ?_
  rw [ss_R_edges R]
  refine br_c (fun h0 => ?_) (fun h0 => ss_xcp hn hX ?_)
  · exact ss_yrok hp (br_t rfl (ss_ye hn hj (ss_ypc hn hA hs hj (fun lb' => br_t h0 ⟨rfl, ss_mk R _ _ _⟩))))
  · exact ss_yrok hp (br_t rfl (ss_ye hn hj (ss_ypc hn hA hs hj (fun lb' => br_f h0 ⟨rfl, ss_mk R _ _ _⟩))))
end
