/-! the relation, and good and bad arguments on both sides -/
def ss_R (n g : Nat) (A : Nat → Nat → Bool) (s nb stx jn fs : Nat → Int32) : Prop :=
  n ≤ 8 ∧ g ≤ 5 ∧ (∀ v u, v < n → u < 32 → bt (nb v) u = A v u) ∧ (∀ u v, u < n → v < n → jn (8 * u + v) = ss_b (A u v)) ∧ (∀ u i, u < n → A u i = true → i < n) ∧ (∀ u i, u < n → A u i = true → A i u = true) ∧ (∀ u, u < n → A u u = false) ∧ (∀ v, v < n → (s v).toInt ≤ 1000) ∧ (∀ v, v < n → fs v = s v) ∧ (∀ p v, p ≤ 10 → v < n → stx (8 * p + v) = ss_st g n A s p v)
/-- both keep the same nodes, program, method; X's bit sets and Y's table are one graph A, Y's first are the starts s, X's table has the states of every round; Y's table of states and its labels are free -/
def i_Rel (_ : Nat) (u : SX) (v : SY) : Prop :=
  ∃ (n g : Nat) (wk sd : Int32) (A : Nat → Nat → Bool) (s nb stx jn fs sty lb : Nat → Int32), u = (nI n, nI g, wk, sd, nb, stx) ∧ v = (nI n, nI g, wk, jn, fs, sty, lb) ∧ ss_R n g A s nb stx jn fs
theorem ss_mk {n g : Nat} {wk sd : Int32} {A : Nat → Nat → Bool} {s nb stx jn fs : Nat → Int32} (h : ss_R n g A s nb stx jn fs) (k : Nat) (sty lb : Nat → Int32) : i_Rel k (nI n, nI g, wk, sd, nb, stx) (nI n, nI g, wk, jn, fs, sty, lb) := ⟨n, g, wk, sd, A, s, nb, stx, jn, fs, sty, lb, rfl, rfl, h⟩
theorem i_up {k : Nat} {u : SX} {v : SY} (h : i_Rel k u v) : i_Rel (k + 4) u v := h
theorem ss_init {n : Nat} (hn : n ≤ 8) : i_Rel 1 (nI n, 0, 0, 0, (fun _ => 0), (fun _ => 0)) (nI n, 0, 0, (fun _ => 0), (fun _ => 0), (fun _ => 0), (fun _ => 0)) := by
  refine ⟨n, 0, 0, 0, fun _ _ => false, fun _ => 0, fun _ => 0, fun _ => 0, fun _ => 0, fun _ => 0, fun _ => 0, fun _ => 0, rfl, rfl, hn, by omega, ?_, ?_, ?_, ?_, ?_, ?_, ?_, ?_⟩
  · intro v u _ _; exact b_0 u
  · intro u v _ _; rfl
  · intro u i _ h; exact nomatch h
  · intro u i _ h; exact nomatch h
  · intro u _; rfl
  · intro v _; exact (by decide : (0 : Int32).toInt ≤ 1000)
  · intro v _; rfl
  · intro p v _ _; exact (ss_st0 p v).symm
theorem i_vc0 (k0 : Int32) : wpX_init (fun u => wpY_init (fun v => i_Rel 1 u v) k0) k0 := by
  by_cases h2 : 2 ≤ k0
  · by_cases h8 : k0 ≤ 8
    · have h0 : ¬ k0 < 0 := by
        rw [Int32.lt_iff_toInt_lt]
        rw [Int32.le_iff_toInt_le] at h2
        have e1 : (2 : Int32).toInt = 2 := by decide
        have e2 : (0 : Int32).toInt = 0 := by decide
        omega
      obtain ⟨n, hn, rfl⟩ := nI_of2 (M := 8) (n := 8) (by decide) h0 h8
      exact br_t h2 (br_t h8 (br_t h2 (br_t h8 (ss_init hn))))
    · exact br_t h2 (br_f h8 (br_t h2 (br_f h8 (ss_init (n := 8) (by omega)))))
  · exact br_f h2 (br_f h2 (ss_init (n := 2) (by omega)))
section
variable {post : Int32 → Prop} {n : Nat} {kk wk : Int32} {jn fs st lb : Nat → Int32}
theorem ss_nbad {v : Nat} (hv : v < n) (hn : n ≤ 8) : ¬ (nI v < 0 ∨ nI n ≤ nI v) := by
  intro z
  rcases z with z | z
  · exact nI_pos (by omega) z
  · exact nI_ge hv (by omega) z
theorem ss_nbadR {p : Nat} (hp : p ≤ 10) : ¬ (nI p < 0 ∨ ¬ nI p ≤ 10) := by
  intro z
  rcases z with z | z
  · exact nI_pos (by omega) z
  · exact z (nI_le (b := 10) hp (by omega))
theorem ss_yok {v : Nat} (hn : n ≤ 8) (hv : v < n) (h : post 0) : wpY_bad post (nI n, kk, wk, jn, fs, st, lb) (nI v) := ss_ybad hn (fun _ _ _ => h) (fun z => absurd z (ss_nbad hv hn))
theorem ss_yno {x : Int32} (hn : n ≤ 8) (hb : x < 0 ∨ nI n ≤ x) (h : post 1) : wpY_bad post (nI n, kk, wk, jn, fs, st, lb) x := ss_ybad hn (fun v hv e => by subst e; exact absurd hb (ss_nbad hv hn)) (fun _ => h)
theorem ss_yrok {p : Nat} (hp : p ≤ 10) (h : post 0) : wpY_badRound post (nI n, kk, wk, jn, fs, st, lb) (nI p) := ss_yround (fun _ _ _ => h) (fun z => absurd z (ss_nbadR hp))
theorem ss_yrno {x : Int32} (hb : x < 0 ∨ ¬ x ≤ 10) (h : post 1) : wpY_badRound post (nI n, kk, wk, jn, fs, st, lb) x := ss_yround (fun p hp e => by subst e; exact absurd hb (ss_nbadR hp)) (fun _ => h)
end
theorem ss_R_edges {n g : Nat} {A : Nat → Nat → Bool} {s nb stx jn fs : Nat → Int32} (h : ss_R n g A s nb stx jn fs) : ss_sm (ss_deg A n) n / 2 = ss_sm (ss_up A n) n := by
  obtain ⟨hn, hg, hX, hj, hA, hs, hi, hr, hf, hT⟩ := h
  rw [ss_edges (m := n) ?_ hi n (Nat.le_refl n), Nat.mul_div_cancel_left _ (by omega)]
  intro u v hu hv
  apply Bool.eq_iff_iff.mpr
  exact ⟨hs u v hu, hs v u hv⟩
