section WORDS
variable {t : Nat} {T : Nat → Nat} {M N : Mem} {i a e s : Nat}
def swd : List (List Nat) := [[112, 101, 114, 115, 111, 110], [116, 105, 101], [119, 114, 105, 116, 101, 114], [115, 111, 102, 116], [102, 111, 114, 109], [112, 111, 101, 116], [99, 108, 101, 114, 107], [100, 101, 97, 102], [116, 101, 114, 115, 101], [99, 117, 116, 115], [97, 100, 100, 115], [119, 104, 101, 110], [112, 114, 105, 99, 101], [98, 121], [116, 114, 117, 116, 104], [112, 101, 110, 99, 101]]
def chN (r k : Nat) : Nat := (swd.getD r []).getD k 0
def sl (r : Nat) : Nat := slen.getD r 0
theorem sc_n : ∀ r, r < 16 → ∀ k, k < sl r → scI r (nI k) = nI (chN r k) := by decide +kernel
theorem ch_l : ∀ r, r < 16 → ∀ k, k < sl r → isLt (chN r k) = true := by decide +kernel
theorem sl_6 : ∀ r, r < 16 → sl r ≤ 6 ∧ 0 < sl r := by decide +kernel
def KN : List Nat := [542723566, 20773, 790941874, 638164, 212557, 539828, 3544651, 136230, 21154405, 120467, 37011, 762030, 17376357, 89, 21583496, 16955493]
def pw (w : Nat → Nat) : Nat → Nat
  | 0 => 0
  | n + 1 => 32 * pw w n + (w n - 96)
theorem kn_pw : ∀ r, r < 16 → pw (chN r) (sl r) = KN.getD r 0 := by decide +kernel
theorem kn_le : ∀ r, r < 16 → KN.getD r 0 ≤ 36028797018963967 ∧ 0 < KN.getD r 0 := by decide +kernel
def hN (T : Nat → Nat) (a : Nat) : Nat → Nat
  | 0 => 0
  | n + 1 => if hN T a n ≤ 36028797018963967 then 32 * hN T a n + (T (a + n) - 96) else hN T a n
theorem hN_lt : ∀ n, (∀ k, k < n → isLt (T (a + k)) = true) → hN T a n < 2 ^ 61
  | 0, _ => by show 0 < _; decide
  | n + 1, h => by
    have ih := hN_lt n (fun k hk => h k (by omega))
    have := of_decide_eq_true (h n (by omega))
    unfold hN
    split
    · omega
    · exact ih
theorem hu (w : Nat → Nat) : ∀ L n, (∀ k, k < n → isLt (T (a + k)) = true) → (∀ k, k < L → isLt (w k) = true) → pw w L ≤ 36028797018963967 → (hN T a n = pw w L ↔ n = L ∧ ∀ k, k < L → T (a + k) = w k) := by
  intro L
  induction L with
  | zero =>
    intro n h1 _ _
    constructor
    · intro h
      refine ⟨?_, fun k hk => by omega⟩
      cases n with
      | zero => rfl
      | succ n =>
        exfalso
        have := of_decide_eq_true (h1 n (by omega))
        have h' : (if hN T a n ≤ 36028797018963967 then 32 * hN T a n + (T (a + n) - 96) else hN T a n) = 0 := h
        split at h' <;> omega
    · rintro ⟨rfl, -⟩
      rfl
  | succ L ih =>
    intro n h1 h2 h3
    have wl := of_decide_eq_true (h2 L (by omega))
    have h3' : 32 * pw w L + (w L - 96) ≤ 36028797018963967 := h3
    show hN T a n = 32 * pw w L + (w L - 96) ↔ _
    constructor
    · intro h
      cases n with
      | zero =>
        exfalso
        have h' : 0 = 32 * pw w L + (w L - 96) := h
        omega
      | succ n =>
        have tl := of_decide_eq_true (h1 n (by omega))
        have h' : (if hN T a n ≤ 36028797018963967 then 32 * hN T a n + (T (a + n) - 96) else hN T a n) = 32 * pw w L + (w L - 96) := h
        split at h'
        · obtain ⟨e1, e2⟩ := (ih n (fun k hk => h1 k (by omega)) (fun k hk => h2 k (by omega)) (by omega)).mp (by omega)
          subst e1
          refine ⟨rfl, fun k hk => ?_⟩
          by_cases z : k = n
          · subst z; omega
          · exact e2 k (by omega)
        · omega
    · rintro ⟨rfl, e2⟩
      have e3 := (ih L (fun k hk => h1 k (by omega)) (fun k hk => h2 k (by omega)) (by omega)).mpr ⟨rfl, fun k hk => e2 k (by omega)⟩
      show (if hN T a L ≤ 36028797018963967 then 32 * hN T a L + (T (a + L) - 96) else hN T a L) = _
      rw [e3, if_pos (by omega), e2 L (by omega)]
def wd (T : Nat → Nat) (a e s r : Nat) : Bool := decide (s = 1 ∧ e - a = sl r ∧ ∀ k, k < sl r → T (a + k) = chN r k)
theorem x_word_l {r : Nat} (hr : r < 16) (h : CX t T M a e s) (hl : a + sl r ≤ t) : ∀ (d m i : Nat), i + d = sl r → d < m → ∃ b : Bool, f_X2_isWord_l28 r m (nI i) M = some b ∧ (b = true ↔ ∀ k, i ≤ k → k < sl r → T (a + k) = chN r k) := by
  have ht := h.1.1
  have h6 := sl_6 r hr
  intro d
  induction d with
  | zero =>
    intro m i hi hm
    obtain ⟨m, rfl⟩ : ∃ k, m = k + 1 := ⟨m - 1, by omega⟩
    refine ⟨true, ?_, fun _ k a b => by omega, fun _ => rfl⟩
    show f_X2_isWord_b28 r (f_X2_isWord_l28 r m) (nI i) M = _
    unfold f_X2_isWord_b28
    rw [show slI r = nI (sl r) from rfl, if_pos (nI_le (by omega) (by omega))]
  | succ d ih =>
    intro m i hi hm
    obtain ⟨m, rfl⟩ : ∃ k, m = k + 1 := ⟨m - 1, by omega⟩
    show ∃ b : Bool, f_X2_isWord_b28 r (f_X2_isWord_l28 r m) (nI i) M = some b ∧ _
    unfold f_X2_isWord_b28
    have hc := h.1.2.2.1 (a + i) (by omega)
    have cl := of_decide_eq_true (ch_l r hr i (by omega))
    rw [show slI r = nI (sl r) from rfl, if_neg (nI_ge (by omega) (by omega)), h.2.1, nI_add, ck_pos (vp_in_nI (by omega) (by decide)), ck_pos (show vp_in (nI i) (slen.getD r 0) from vp_in_nI (show i < sl r by omega) (show sl r < 2 ^ 31 by omega)), ix_nI (by omega), h.1.2.2.2 (a + i) (by omega), sc_n r hr i (by omega), nI_1]
    by_cases z : T (a + i) = chN r i
    · obtain ⟨b, b1, b2⟩ := ih m (i + 1) (by omega) (by omega)
      rw [if_pos (by rw [z]), b1]
      refine ⟨b, rfl, b2.trans ?_⟩
      constructor
      · intro y k k1 k2
        by_cases x : k = i
        · rw [x]; exact z
        · exact y k (by omega) k2
      · intro y k k1 k2
        exact y k (by omega) k2
    · rw [if_neg (fun y => z ((nI_eq (by omega) (by omega)).mp y))]
      exact ⟨false, rfl, fun y => absurd y Bool.false_ne_true, fun y => absurd (y i (Nat.le_refl _) (by omega)) z⟩
theorem x_word {r : Nat} (hr : r < 16) (h : CX t T M a e s) (sh : Sh t T a e s) : f_X2_isWord r M = some (wd T a e s r) := by
  have ht := h.1.1
  have h6 := sl_6 r hr
  have h5 := sh.s5
  have hle := sh.le
  unfold f_X2_isWord wd
  rw [h.2.2.2.1]
  by_cases z : s = 1
  · subst z
    have hlt := sh.lt (by omega)
    rw [if_pos (show nI 1 = (1 : Int32) from rfl), h.2.2.1 (by omega), h.2.1, pk_sub (by omega), show slI r = nI (sl r) from rfl]
    by_cases y : e - a = sl r
    · obtain ⟨b, b1, b2⟩ := x_word_l hr h (by omega) (sl r) FU 0 (by omega) (show sl r < 5000 by omega)
      rw [if_pos (by rw [y]), show f_X2_isWord_l28 r FU 0 M = _ from b1]
      congr 1
      apply Bool.eq_iff_iff.mpr
      rw [decide_eq_true_eq, b2]
      exact ⟨fun x => ⟨rfl, y, fun k hk => x k (by omega) hk⟩, fun x k _ hk => x.2.2 k hk⟩
    · rw [if_neg (fun x => y ((nI_eq (by omega) (by omega)).mp x)), decide_eq_false (fun x => y x.2.1)]
  · rw [if_neg (show ¬ nI s = (1 : Int32) from fun x => z ((nI_eq (b := 1) (by omega) (by omega)).mp x)), decide_eq_false (fun x => z x.1)]
-- the reference
theorem lg_le (x y : Int64) : lg_cmp x y ≤ 0 ↔ ¬ y < x := by
  unfold lg_cmp
  by_cases h : y < x
  · rw [if_pos h]
    exact ⟨fun z => absurd z (by decide), fun z => absurd h z⟩
  · rw [if_neg h]
    refine ⟨fun _ => h, fun _ => ?_⟩
    split <;> decide
theorem lg_eq0 (x y : Int64) : lg_cmp x y = 0 ↔ x = y := by
  unfold lg_cmp
  by_cases h : y < x
  · rw [if_pos h]
    refine ⟨fun z => absurd z (by decide), fun z => ?_⟩
    rw [z] at h
    exact absurd h Int64.lt_irrefl
  · rw [if_neg h]
    by_cases z : x = y
    · rw [if_pos z]; exact ⟨fun _ => z, fun _ => rfl⟩
    · rw [if_neg z]; exact ⟨fun y => absurd y (by decide), fun y => absurd y z⟩
noncomputable def wL (T : Nat → Nat) (a : Nat) : Nat → Int64
  | 0 => 0
  | n + 1 => if lg_cmp (wL T a n) (36028797018963967 : Int64) ≤ 0 then ((32 : Int64) * wL T a n) + Int32.toInt64 (nI (T (a + n)) - (96 : Int32)) else wL T a n
theorem wL_hN : ∀ n, (∀ k, k < n → isLt (T (a + k)) = true) → wL T a n = lN (hN T a n)
  | 0, _ => rfl
  | n + 1, h => by
    have ih := wL_hN n (fun k hk => h k (by omega))
    have lt := hN_lt n (fun k hk => h k (by omega))
    have tl := of_decide_eq_true (h n (by omega))
    unfold wL hN
    rw [ih, show (36028797018963967 : Int64) = lN 36028797018963967 from rfl]
    by_cases z : hN T a n ≤ 36028797018963967
    · rw [if_pos ((lg_le _ _).mpr (fun y => by have := (pk_lLT (by omega) (by omega)).mp y; omega)), if_pos z, show (96 : Int32) = nI 96 from rfl, pk_sub (by omega), nI_l (by omega), show (32 : Int64) = lN 32 from rfl, lN_mul, lN_add]
    · rw [if_neg (fun y => (lg_le _ _).mp y ((pk_lLT (by omega) (by omega)).mpr (by omega))), if_neg z]
theorem m_word_l (h : CN t T N a e) (hle : e ≤ t) : ∀ (d m n : Nat), a + n + d = e → d < m → f_X7_word_l7 m (wL T a n) (nI (a + n)) N = if N 59 17 = 0 then (f_X7_byteAt (nI a) N).bind fun r_2 => (f_X7_isLetter r_2 N).bind fun r_3 => if (b2i r_3) = 0 then some (0 : Int64) else some (wL T a (e - a)) else some (0 : Int64) := by
  have ht := h.1.1
  intro d
  induction d with
  | zero =>
    intro m n hi hm
    obtain ⟨m, rfl⟩ : ∃ k, m = k + 1 := ⟨m - 1, by omega⟩
    show f_X7_word_b7 (f_X7_word_l7 m) (wL T a n) (nI (a + n)) N = _
    unfold f_X7_word_b7
    rw [h.2.2, if_pos (nI_le (by omega) (by omega)), h.2.1, show e - a = n by omega]
  | succ d ih =>
    intro m n hi hm
    obtain ⟨m, rfl⟩ : ∃ k, m = k + 1 := ⟨m - 1, by omega⟩
    show f_X7_word_b7 (f_X7_word_l7 m) (wL T a n) (nI (a + n)) N = _
    unfold f_X7_word_b7
    rw [h.2.2, if_neg (nI_ge (by omega) (by omega)), ck_pos (vp_in_nI (by omega) (by decide)), ix_nI (by omega), h.1.2.2.2 (a + n) (by omega), nI_1]
    have ih' := ih m (n + 1) (by omega) (by omega)
    rw [show a + n + 1 = a + (n + 1) by omega, ← ih']
    show _ = f_X7_word_l7 m (if lg_cmp (wL T a n) (36028797018963967 : Int64) ≤ 0 then ((32 : Int64) * wL T a n) + Int32.toInt64 (nI (T (a + n)) - (96 : Int32)) else wL T a n) (nI (a + (n + 1))) N
    simp only [letv]
    by_cases z : lg_cmp (wL T a n) (36028797018963967 : Int64) ≤ 0
    · rw [if_pos z, if_pos z]
    · rw [if_neg z, if_neg z]
theorem m_word (h : CN t T N a e) (sh : Sh t T a e s) : f_X7_word N = some (if N 59 17 = 0 ∧ s = 1 then lN (hN T a (e - a)) else 0) := by
  have ht := h.1.1
  have hle := sh.le
  have hae : a ≤ e := by by_cases z : s = 4
                         · obtain ⟨-, y | ⟨-, y⟩⟩ := sh <;> omega
                         · exact Nat.le_of_lt (sh.lt z)
  have hat := sh.1
  unfold f_X7_word
  simp only [letv]
  rw [h.2.1]
  have hl := m_word_l h hle (e - a) FU 0 (by omega) (show e - a < 5000 by omega)
  rw [show f_X7_word_l7 FU (0 : Int64) (nI a) N = _ from hl, m_byte h.1 hat, bs, m_let h.1, bs, ib]
  by_cases w : N 59 17 = 0
  · rw [if_pos w]
    obtain ⟨-, z | ⟨hat, z | z | z | z⟩⟩ := sh
    · rw [decide_eq_false (by omega), Bool.false_and, if_neg Bool.false_ne_true, if_neg (show ¬ (N 59 17 = 0 ∧ s = 1) from fun y => by omega)]
    · obtain ⟨rfl, z1, z2⟩ := z
      rw [decide_eq_true hat, z1, Bool.true_and, if_pos rfl, if_pos (show N 59 17 = 0 ∧ 1 = 1 from ⟨w, rfl⟩), wL_hN (e - a) (fun k hk => z2.2.2.1 (a + k) (by omega) (by omega))]
    · have z3 : isLt (T a) = false := by
        have := of_decide_eq_true z.2.1
        exact decide_eq_false (by omega)
      rw [z3, Bool.and_false, if_neg Bool.false_ne_true, if_neg (show ¬ (N 59 17 = 0 ∧ s = 1) from fun y => by omega)]
    · rw [z.2.1, show isLt 59 = false from rfl, Bool.and_false, if_neg Bool.false_ne_true, if_neg (show ¬ (N 59 17 = 0 ∧ s = 1) from fun y => by omega)]
    · rw [z.2.1, Bool.and_false, if_neg Bool.false_ne_true, if_neg (show ¬ (N 59 17 = 0 ∧ s = 1) from fun y => by omega)]
  · rw [if_neg w, if_neg (fun y => w y.1)]
/-- what the reference's word is compared with -/
def wv (T : Nat → Nat) (N : Mem) (a e s : Nat) : Int64 := if N 59 17 = 0 ∧ s = 1 then lN (hN T a (e - a)) else 0
theorem wv_0 (w : N 59 17 = 0) (sh : Sh t T a e s) {r : Nat} (hr : r < 16) : (lg_cmp (wv T N a e s) (lN (KN.getD r 0)) = 0) = (wd T a e s r = true) := by
  have h6 := sl_6 r hr
  have hk := kn_le r hr
  unfold wv wd
  rw [decide_eq_true_eq, lg_eq0]
  apply propext
  by_cases z : s = 1
  · subst z
    have hlt := sh.lt (by omega)
    have hl : ∀ k, k < e - a → isLt (T (a + k)) = true := by
      obtain ⟨-, z | ⟨hat, z | z | z | z⟩⟩ := sh
      · omega
      · exact fun k hk => z.2.2.2.2.1 (a + k) (by omega) (by omega)
      · omega
      · omega
      · omega
    have hb := hN_lt (e - a) hl
    rw [if_pos ⟨w, rfl⟩, pk_lEQ (by omega) (by omega), ← kn_pw r hr, hu (chN r) (sl r) (e - a) hl (ch_l r hr) (by rw [kn_pw r hr]; omega)]
    exact ⟨fun x => ⟨rfl, x⟩, fun x => x.2⟩
  · rw [if_neg (fun y => z y.2), show (0 : Int64) = lN 0 from rfl, pk_lEQ (by omega) (by omega)]
    constructor
    · intro y; omega
    · intro y; exact absurd y.1 z
theorem wv_w (w : N 59 17 = 1) : wv T N a e s = 0 := by
  unfold wv
  rw [if_neg (fun y => by rw [w] at y; exact absurd y.1 (by decide))]
end WORDS
