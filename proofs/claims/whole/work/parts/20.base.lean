theorem ix_nI {n : Nat} (h : n < 2 ^ 31) : ix (nI n) = n := nI_clamp h
theorem ix_0 : ix 0 = 0 := by decide
theorem ix_1 : ix 1 = 1 := by decide
theorem ix_2 : ix 2 = 2 := by decide
theorem ix_3 : ix 3 = 3 := by decide
theorem ix_4 : ix 4 = 4 := by decide
theorem vl_0 : vp_in 0 99 := vp_in_nI (n := 0) (by decide) (by decide)
theorem vl_1 : vp_in 1 99 := vp_in_nI (n := 1) (by decide) (by decide)
theorem vl_2 : vp_in 2 99 := vp_in_nI (n := 2) (by decide) (by decide)
theorem vl_3 : vp_in 3 99 := vp_in_nI (n := 3) (by decide) (by decide)
theorem vl_4 : vp_in 4 99 := vp_in_nI (n := 4) (by decide) (by decide)
theorem ib {α : Type} (b : Bool) (A B : α) : (if b2i b = 0 then A else B) = (if b = true then B else A) := by
  cases b
  · rw [if_pos (by decide), if_neg (by decide)]
  · rw [if_neg (by decide), if_pos rfl]
theorem bs {α β : Type} (a : α) (k : α → Option β) : (some a).bind k = k a := rfl
theorem lt_t (x y : Int32) : (x < y) ↔ x.toInt < y.toInt := Int32.lt_iff_toInt_lt
theorem le_t (x y : Int32) : (x ≤ y) ↔ x.toInt ≤ y.toInt := Int32.le_iff_toInt_le
theorem rng1 (x a b : Int32) : (if x < a then some false else if b ≤ x then some false else some true) = some (decide (a ≤ x ∧ x < b)) := by
  simp only [lt_t, le_t]
  by_cases h1 : x.toInt < a.toInt
  · rw [if_pos h1, decide_eq_false (by omega)]
  · rw [if_neg h1]
    by_cases h2 : b.toInt ≤ x.toInt
    · rw [if_pos h2, decide_eq_false (by omega)]
    · rw [if_neg h2, decide_eq_true (by omega)]
theorem rng2 (x a b : Int32) : (if x < a then some false else if b < x then some false else some true) = some (decide (a ≤ x ∧ x ≤ b)) := by
  simp only [lt_t, le_t]
  by_cases h1 : x.toInt < a.toInt
  · rw [if_pos h1, decide_eq_false (by omega)]
  · rw [if_neg h1]
    by_cases h2 : b.toInt < x.toInt
    · rw [if_pos h2, decide_eq_false (by omega)]
    · rw [if_neg h2, decide_eq_true (by omega)]
/-- x is one of 0 .. n-1 -/
def inR (x n : Int32) : Bool := decide (0 ≤ x ∧ x < n)
theorem inR_t {x : Int32} {n : Nat} (hn : n < 2 ^ 31) (h : inR x (nI n) = true) : ∃ j, j < n ∧ x = nI j := by
  have h := of_decide_eq_true h
  obtain ⟨j, hj, rfl⟩ := nI_of (x := x) (by rw [lt_t]; have := h.1; rw [le_t] at this; omega)
  have h2 := h.2
  rw [nI_ltI hj hn] at h2
  exact ⟨j, h2, rfl⟩
theorem inR_nI {j n : Nat} (hn : n < 2 ^ 31) (h : j < n) : inR (nI j) (nI n) = true := decide_eq_true ⟨nI_pos' (by omega), nI_lt h hn⟩
-- the class's predicates
theorem x_has0 (r : Nat) (x : Int32) (M : Mem) : f_X0_has r x M = some (inR x (M r 0)) := rng1 x 0 (M r 0)
theorem x_has5 (r : Nat) (x : Int32) (M : Mem) : f_X5_has r x M = some (inR x (M r 0)) := rng1 x 0 (M r 0)
theorem x_isKind (x : Int32) (M : Mem) : f_X6_isKind x M = some (inR x 7) := rng1 x 0 7
theorem x_isSaying (x : Int32) (M : Mem) : f_X6_isSaying x M = some (inR x 4096) := rng1 x 0 4096
theorem x_isMark (x : Int32) (M : Mem) : f_X6_isMark x M = some (inR x 12) := rng1 x 0 12
theorem r2R (x : Int32) (n : Nat) (hn : n + 1 < 2 ^ 31) : decide (0 ≤ x ∧ x ≤ nI n) = inR x (nI (n + 1)) := by
  unfold inR
  congr 1
  simp only [lt_t, le_t, nI_toInt (show n < 2 ^ 31 by omega), nI_toInt hn]
  apply propext
  omega
theorem x_isAhead (x : Int32) (M : Mem) : f_X6_isAhead x M = some (inR x 61) := (rng2 x 0 60).trans (congrArg some (r2R x 60 (by decide)))
theorem x_isSpot (x : Int32) (M : Mem) : f_X6_isSpot x M = some (inR x 10) := rng1 x 0 10
theorem x_isSheet (x : Int32) (M : Mem) : f_X6_isSheet x M = some (inR x 4) := rng1 x 0 4
theorem x_areTwo (r : Nat) (x y : Int32) (M : Mem) : f_X0_areTwo r x y M = some (inR x (M r 0) && (inR y (M r 0) && decide (¬ x = y))) := by
  unfold f_X0_areTwo
  simp only [x_has0, bs, ib]
  cases inR x (M r 0)
  · rfl
  · cases inR y (M r 0)
    · rfl
    · by_cases h : x = y
      · simp [h]
      · simp [h]
-- the reference's predicates
theorem m_in (x lo hi : Int32) (M : Mem) : f_X7_in x.toInt64 lo.toInt64 hi.toInt64 M = some (decide (lo ≤ x ∧ x ≤ hi)) := by
  have e : ∀ y z : Int32, (y.toInt64 < z.toInt64) ↔ y.toInt < z.toInt := fun y z => by rw [Int64.lt_iff_toInt_lt, Int32.toInt_toInt64, Int32.toInt_toInt64]
  have e2 : ∀ y z : Int32, (y.toInt64 = z.toInt64) ↔ y.toInt = z.toInt := fun y z => by rw [← Int64.toInt_inj, Int32.toInt_toInt64, Int32.toInt_toInt64]
  unfold f_X7_in lg_cmp
  simp only [gt_iff_lt, e, e2, le_t]
  have d1 : ¬ (1 : Int32) < 0 := by decide
  have d2 : ¬ (0 : Int32) < 0 := by decide
  have d3 : (-1 : Int32) < 0 := by decide
  have d4 : (0 : Int32) < 1 := by decide
  have d5 : ¬ (0 : Int32) < -1 := by decide
  by_cases h1 : lo.toInt < x.toInt
  · rw [if_pos h1, if_neg d1]
    by_cases h2 : hi.toInt < x.toInt
    · rw [if_pos h2, if_pos d4, decide_eq_false (by omega)]
    · rw [if_neg h2]
      by_cases h3 : x.toInt = hi.toInt
      · rw [if_pos h3, if_neg d2, decide_eq_true (by omega)]
      · rw [if_neg h3, if_neg d5, decide_eq_true (by omega)]
  · rw [if_neg h1]
    by_cases h0 : x.toInt = lo.toInt
    · rw [if_pos h0, if_neg d2]
      by_cases h2 : hi.toInt < x.toInt
      · rw [if_pos h2, if_pos d4, decide_eq_false (by omega)]
      · rw [if_neg h2]
        by_cases h3 : x.toInt = hi.toInt
        · rw [if_pos h3, if_neg d2, decide_eq_true (by omega)]
        · rw [if_neg h3, if_neg d5, decide_eq_true (by omega)]
    · rw [if_neg h0, if_pos d3, decide_eq_false (by omega)]
theorem m_inN (x : Int32) (n : Nat) (hn : n + 1 < 2 ^ 31) (M : Mem) : f_X7_in x.toInt64 (0 : Int32).toInt64 (nI n).toInt64 M = some (inR x (nI (n + 1))) := (m_in x 0 (nI n) M).trans (congrArg some (r2R x n hn))
theorem m_isSaying (x : Int32) (M : Mem) : f_X7_isSaying x M = some (inR x 4096) := by
  unfold f_X7_isSaying
  rw [show f_X7_in x.toInt64 (0 : Int64) (4095 : Int64) M = some (inR x 4096) from m_inN x 4095 (by decide) M]
  rfl
theorem m_isMark (x : Int32) (M : Mem) : f_X7_isMark x M = some (inR x 12) := by
  unfold f_X7_isMark
  rw [show f_X7_in x.toInt64 (0 : Int64) (11 : Int64) M = some (inR x 12) from m_inN x 11 (by decide) M]
  rfl
theorem m_isSpan (x : Int32) (M : Mem) : f_X7_isSpan x M = some (inR x 61) := by
  unfold f_X7_isSpan
  rw [show f_X7_in x.toInt64 (0 : Int64) (60 : Int64) M = some (inR x 61) from m_inN x 60 (by decide) M]
  rfl
theorem m_isOne (x : Int32) (M : Mem) : f_X7_isOne x M = some (inR x 4) := by
  unfold f_X7_isOne
  rw [show f_X7_in x.toInt64 (0 : Int64) (3 : Int64) M = some (inR x 4) from m_inN x 3 (by decide) M]
  rfl
theorem m_isLetter (x : Int32) (M : Mem) : f_X7_isLetter x M = some (decide ((97 : Int32) ≤ x ∧ x ≤ 122)) := by
  unfold f_X7_isLetter
  rw [show f_X7_in x.toInt64 (97 : Int64) (122 : Int64) M = some (decide ((97 : Int32) ≤ x ∧ x ≤ 122)) from m_in x 97 122 M]
  rfl
theorem m_isDigit (x : Int32) (M : Mem) : f_X7_isDigit x M = some (decide ((48 : Int32) ≤ x ∧ x ≤ 57)) := by
  unfold f_X7_isDigit
  rw [show f_X7_in x.toInt64 (48 : Int64) (57 : Int64) M = some (decide ((48 : Int32) ≤ x ∧ x ≤ 57)) from m_in x 48 57 M]
  rfl
theorem x_isLetter (x : Int32) (M : Mem) : f_X2_isLetter x M = some (decide ((97 : Int32) ≤ x ∧ x ≤ 122)) := rng2 x 97 122
theorem x_isDigit (x : Int32) (M : Mem) : f_X2_isDigit x M = some (decide ((48 : Int32) ≤ x ∧ x ≤ 57)) := rng2 x 48 57
theorem inR_pred (x : Int32) (n : Nat) (hn : n < 2 ^ 30) : decide (0 ≤ x ∧ x ≤ nI n - 1) = inR x (nI n) := by
  unfold inR
  congr 1
  have e : (nI n - 1).toInt = (n : Int) - 1 := pk_sub_toInt (a := n) (b := 1) hn (by decide)
  simp only [lt_t, le_t, e, nI_toInt (show n < 2 ^ 31 by omega)]
  apply propext
  omega
theorem m_isWriter (x : Int32) {M : Mem} {n : Nat} (hn : n ≤ 6) (h : M 60 0 = nI n) : f_X7_isWriter x M = some (inR x (nI n)) := by
  unfold f_X7_isWriter
  rw [ck_pos vl_0, ix_0, h, show f_X7_in x.toInt64 (0 : Int64) (nI n - 1).toInt64 M = some (inR x (nI n)) from (m_in x 0 _ M).trans (congrArg some (inR_pred x n (by omega)))]
  rfl
theorem m_isPerson (x : Int32) {M : Mem} {n : Nat} (hn : n ≤ 8) (h : M 60 1 = nI n) : f_X7_isPerson x M = some (inR x (nI n)) := by
  unfold f_X7_isPerson
  rw [ck_pos vl_1, ix_1, h, show f_X7_in x.toInt64 (0 : Int64) (nI n - 1).toInt64 M = some (inR x (nI n)) from (m_in x 0 _ M).trans (congrArg some (inR_pred x n (by omega)))]
  rfl
theorem m_isTwo (x y : Int32) {M : Mem} {n : Nat} (hn : n ≤ 8) (h : M 60 1 = nI n) : f_X7_isTwo x y M = some (inR x (nI n) && (inR y (nI n) && decide (¬ x = y))) := by
  unfold f_X7_isTwo
  simp only [m_isPerson _ hn h, bs, ib]
  cases inR x (nI n)
  · rfl
  · cases inR y (nI n)
    · rfl
    · by_cases h : x = y
      · simp [h]
      · simp [h]
-- places of the reference's row
theorem m_at (w k : Nat) (M : Mem) : f_X7_at (nI w) (nI k) M = some (nI (5 + 6 * w + k)) := by
  unfold f_X7_at
  rw [show (5 : Int32) + (6 : Int32) * nI w + nI k = nI (5 + 6 * w + k) by rw [show (6 : Int32) = nI 6 from rfl, show (5 : Int32) = nI 5 from rfl, pk_mul, nI_add, nI_add]]
theorem m_where (p k : Nat) (M : Mem) : f_X7_where (nI p) (nI k) M = some (nI (41 + 5 * p + k)) := by
  unfold f_X7_where
  rw [show (41 : Int32) + (5 : Int32) * nI p + nI k = nI (41 + 5 * p + k) by rw [show (5 : Int32) = nI 5 from rfl, show (41 : Int32) = nI 41 from rfl, pk_mul, nI_add, nI_add]]
theorem m_its {w k : Nat} (hw : w < 6) (hk : k < 6) (M : Mem) : f_X7_its (nI w) (nI k) M = some (M 60 (5 + 6 * w + k)) := by
  unfold f_X7_its
  rw [m_at, bs, ck_pos (vp_in_nI (by omega) (by decide)), ix_nI (by omega)]
theorem m_told {p k : Nat} (hp : p < 8) (hk : k < 5) (M : Mem) : f_X7_told (nI p) (nI k) M = some (M 60 (41 + 5 * p + k)) := by
  unfold f_X7_told
  rw [m_where, bs, ck_pos (vp_in_nI (by omega) (by decide)), ix_nI (by omega)]
