section NUMS
variable {t : Nat} {T : Nat → Nat} {M N : Mem} {i a e s a' e' s' : Nat}
def mN (T : Nat → Nat) (a : Nat) : Nat → Nat
  | 0 => 0
  | n + 1 => if mN T a n ≤ 99999 then 10 * mN T a n + T (a + n) - 48 else mN T a n
theorem mN_v : ∀ n, (∀ k, k < n → isDg (T (a + k)) = true) → vN T a n = min (mN T a n) 100000 ∧ mN T a n ≤ 999999
  | 0, _ => ⟨rfl, Nat.zero_le _⟩
  | n + 1, h => by
    obtain ⟨ih, l⟩ := mN_v n (fun k hk => h k (by omega))
    have := of_decide_eq_true (h n (by omega))
    unfold vN mN
    rw [ih]
    split <;> omega
def nu (T : Nat → Nat) (a e s : Nat) (x : Int32) : Bool := decide (s = 2 ∧ ¬ x < nI (vN T a (e - a)))
theorem x_isNum (h : CX t T M a e s) (sh : Sh t T a e s) : f_X2_isNumber M = some (decide (s = 2)) := by
  have h5 := sh.s5
  unfold f_X2_isNumber
  rw [h.2.2.2.1]
  by_cases z : s = 2
  · rw [z, if_pos (by decide), decide_eq_true rfl]
  · rw [if_neg (show ¬ nI s = (2 : Int32) from fun x => z ((nI_eq (b := 2) (by omega) (by omega)).mp x)), decide_eq_false z]
theorem x_isUp (h : CX t T M a e s) (sh : Sh t T a e s) (x : Int32) : f_X2_isNumberUpTo x M = some (nu T a e s x) := by
  have h5 := sh.s5
  unfold f_X2_isNumberUpTo nu
  rw [h.2.2.2.1]
  by_cases z : s = 2
  · subst z
    rw [if_pos (by decide), h.2.2.2.2 rfl]
    by_cases y : x < nI (vN T a (e - a))
    · rw [if_pos y, decide_eq_false (fun w => w.2 y)]
    · rw [if_neg y, decide_eq_true ⟨rfl, y⟩]
  · rw [if_neg (show ¬ nI s = (2 : Int32) from fun x => z ((nI_eq (b := 2) (by omega) (by omega)).mp x)), decide_eq_false (fun w => z w.1)]
theorem x_isSign (h : CX t T M a e s) (sh : Sh t T a e s) : f_X2_isSign M = some (decide (s = 3)) := by
  have h5 := sh.s5
  unfold f_X2_isSign
  rw [h.2.2.2.1]
  by_cases z : s = 3
  · rw [z, if_pos (by decide), decide_eq_true rfl]
  · rw [if_neg (show ¬ nI s = (3 : Int32) from fun x => z ((nI_eq (b := 3) (by omega) (by omega)).mp x)), decide_eq_false z]
theorem x_isEnd (h : CX t T M a e s) (sh : Sh t T a e s) : f_X2_isAtEnd M = some (decide (s = 4)) := by
  have h5 := sh.s5
  unfold f_X2_isAtEnd
  rw [h.2.2.2.1]
  by_cases z : s = 4
  · rw [z, if_pos (by decide), decide_eq_true rfl]
  · rw [if_neg (show ¬ nI s = (4 : Int32) from fun x => z ((nI_eq (b := 4) (by omega) (by omega)).mp x)), decide_eq_false z]
theorem x_val (h : CX t T M a e s) (hs : s = 2) : M 49 3 = nI (vN T a (e - a)) := h.2.2.2.2 hs
-- the reference
def F4 : Nat → Nat → Prop := fun i k => i = 59 ∧ 14 ≤ k ∧ k ≤ 17
theorem F59_4 : ∀ i k, F59 i k → F4 i k := fun i k h => by unfold F59 at h; unfold F4; omega
theorem up_self {i c : Nat} {v : Int32} (h : M i c = v) : up M i c v = M := by
  funext x y
  rw [up_ap]
  split
  · next z => rw [z.1, z.2, h]
  · rfl
theorem nd_ok (w : N 59 17 = 0) (h : CN t T N a e) (k : Tk t T e a' e' s') : ∃ N1, f_X7_needs 1 N = some N1 ∧ N1 59 17 = 0 ∧ N1 59 16 = N 59 16 ∧ CN t T N1 a' e' ∧ Fr F4 N N1 := by
  obtain ⟨N1, e1, c1, f1⟩ := cn_tok h k
  refine ⟨N1, ?_, ?_, ?_, c1, f1.mono F59_4⟩
  · unfold f_X7_needs
    rw [if_pos w, if_neg (by decide)]
    simp only [letv]
    rw [up_self w, if_pos w, e1, bs]
  · rw [f1 _ _ (by unfold F59; omega)]; exact w
  · exact f1 _ _ (by unfold F59; omega)
theorem nd_no (w : N 59 17 = 0) : f_X7_needs 0 N = some (up N 59 17 1) := by
  unfold f_X7_needs
  rw [if_pos w, if_pos rfl]
  simp only [letv]
  rw [if_neg (by rw [up_ap, if_pos ⟨rfl, rfl⟩]; decide)]
theorem ne1 (w : N 59 17 = 1) : ¬ N 59 17 = 0 := by rw [w]; decide
theorem nd_w (w : N 59 17 = 1) (x : Int32) : f_X7_needs x N = some N := by
  unfold f_X7_needs
  rw [if_neg (ne1 w)]
  simp only [letv]
  rw [up_self w, if_neg (ne1 w)]
theorem nu_w (w : N 59 17 = 1) (x y : Int32) : f_X7_number x y N = some N := by
  unfold f_X7_number
  rw [if_neg (ne1 w)]
theorem dg_s (sh : Sh t T a e s) : (decide (a < t) && isDg (T a)) = decide (s = 2) := by
  obtain ⟨-, z | ⟨hat, z | z | z | z⟩⟩ := sh
  · rw [decide_eq_false (show ¬ a < t by omega), decide_eq_false (by omega)]; rfl
  · have z3 : isDg (T a) = false := by
      have := of_decide_eq_true z.2.1
      exact decide_eq_false (by omega)
    rw [z3, Bool.and_false, decide_eq_false (by omega)]
  · rw [z.2.1, decide_eq_true hat, decide_eq_true z.1]; rfl
  · rw [z.2.1, show isDg 59 = false from rfl, Bool.and_false, decide_eq_false (by omega)]
  · rw [z.2.2.1, Bool.and_false, decide_eq_false (by omega)]
theorem sh_dg (sh : Sh t T a e 2) : ∀ k, k < e - a → isDg (T (a + k)) = true := by
  obtain ⟨-, z | ⟨hat, z | z | z | z⟩⟩ := sh
  · omega
  · omega
  · exact fun k hk => z.2.2.2.2.1 (a + k) (by omega) (by omega)
  · omega
  · omega
theorem m_num_l (h : CN t T N a e) (hle : e ≤ t) (hd : ∀ k, k < e - a → isDg (T (a + k)) = true) (x1 x2 : Int32) : ∀ (d m n : Nat), a + n + d = e → d < m → f_X7_number_l29 m x1 x2 (b2i true) (nI (mN T a n)) (nI (a + n)) N = f_X7_number_j79 x1 x2 (b2i true) (nI (mN T a (e - a))) N := by
  have ht := h.1.1
  intro d
  induction d with
  | zero =>
    intro m n hi hm
    obtain ⟨m, rfl⟩ : ∃ k, m = k + 1 := ⟨m - 1, by omega⟩
    show f_X7_number_b29 (f_X7_number_l29 m) x1 x2 (b2i true) (nI (mN T a n)) (nI (a + n)) N = _
    unfold f_X7_number_b29
    rw [h.2.2, if_pos (nI_le (by omega) (by omega)), show e - a = n by omega]
  | succ d ih =>
    intro m n hi hm
    obtain ⟨m, rfl⟩ : ∃ k, m = k + 1 := ⟨m - 1, by omega⟩
    have l := (mN_v (T := T) (a := a) n (fun k hk => hd k (by omega))).2
    have dg := of_decide_eq_true (hd n (by omega))
    have hc := h.1.2.2.1 (a + n) (by omega)
    rw [← ih m (n + 1) (by omega) (by omega)]
    show f_X7_number_b29 (f_X7_number_l29 m) x1 x2 (b2i true) (nI (mN T a n)) (nI (a + n)) N = f_X7_number_l29 m x1 x2 (b2i true) (nI (if mN T a n ≤ 99999 then 10 * mN T a n + T (a + n) - 48 else mN T a n)) (nI (a + (n + 1))) N
    unfold f_X7_number_b29
    rw [h.2.2, if_neg (nI_ge (by omega) (by omega)), if_neg (show ¬ b2i true = 0 by rw [b2i_t]; decide), ck_pos (vp_in_nI (by omega) (by decide)), ix_nI (by omega), h.1.2.2.2 (a + n) (by omega), nI_1]
    simp only [letv]
    by_cases z : mN T a n ≤ 99999
    · rw [if_pos (show nI (mN T a n) ≤ (99999 : Int32) from nI_le (b := 99999) z (by omega)), if_pos z, show (10 : Int32) = nI 10 from rfl, pk_mul, nI_add, show (48 : Int32) = nI 48 from rfl, pk_sub (by omega)]
      rfl
    · rw [if_neg (show ¬ nI (mN T a n) ≤ (99999 : Int32) from nI_ge (a := 99999) (by omega) (by omega)), if_neg z]
      rfl
theorem b2i_ne : ¬ b2i true = 0 := by rw [b2i_t]; decide
/-- a number that is asked for -/
theorem m_num (w : N 59 17 = 0) (h : CN t T N a e) (sh : Sh t T a e s) {x : Int32} (hx : x ≤ 99999) (k : Tk t T e a' e' s') : ∃ N1, f_X7_number 0 x N = some N1 ∧ Fr F4 N N1 ∧ ((nu T a e s x = true ∧ N1 59 17 = 0 ∧ N1 59 16 = nI (vN T a (e - a)) ∧ CN t T N1 a' e') ∨ (nu T a e s x = false ∧ N1 59 17 = 1 ∧ CN t T N1 a e)) := by
  have hle := sh.le
  have ht := h.1.1
  unfold f_X7_number
  rw [if_pos w, h.2.1, m_byte h.1 sh.1, bs, m_dig h.1, bs, dg_s sh]
  simp only [letv]
  by_cases z : s = 2
  · subst z
    have hlt := sh.lt (by omega)
    have hd := sh_dg sh
    obtain ⟨v1, v2⟩ := mN_v (T := T) (a := a) (e - a) hd
    have e1 := m_num_l h hle hd 0 x (e - a) FU 0 (by omega) (show e - a < 5000 by omega)
    rw [show decide (2 = 2) = true from rfl, show f_X7_number_l29 FU 0 x (b2i true) 0 (nI a) N = _ from e1]
    unfold f_X7_number_j79
    simp only [letv]
    have f0 : Fr F4 N (up N 59 16 (nI (mN T a (e - a)))) := Fr.rf.put rfl (by unfold F4; omega)
    have w0 : (up N 59 16 (nI (mN T a (e - a)))) 59 17 = 0 := by rw [up_ap, if_neg (by omega)]; exact w
    have h0 := h.fr (N1 := up N 59 16 (nI (mN T a (e - a)))) (U := fun i k => i = 59 ∧ k = 16) (Fr.rf.put rfl ⟨rfl, rfl⟩) (by omega) (fun k => by omega)
    rw [if_neg b2i_ne, show f_X7_in (nI (mN T a (e - a))).toInt64 (Int32.toInt64 0) x.toInt64 _ = _ from m_in _ 0 x _, bs, ib]
    have hx2 : x.toInt ≤ 99999 := by rw [le_t] at hx; exact hx
    have key : decide ((0 : Int32) ≤ nI (mN T a (e - a)) ∧ nI (mN T a (e - a)) ≤ x) = nu T a e 2 x := by
      unfold nu
      apply decide_eq_decide.mpr
      simp only [le_t, lt_t, nI_toInt (show mN T a (e - a) < 2 ^ 31 by omega), nI_toInt (show vN T a (e - a) < 2 ^ 31 by omega)]
      rw [v1]
      have z0 : (0 : Int32).toInt = 0 := rfl
      rw [z0]
      have hmn : (min (mN T a (e - a)) 100000 : Nat) = mN T a (e - a) ∨ ((min (mN T a (e - a)) 100000 : Nat) = 100000 ∧ 100000 < mN T a (e - a)) := by omega
      constructor
      · intro y
        refine ⟨trivial, ?_⟩
        rcases hmn with q | q
        · rw [q]; omega
        · omega
      · rintro ⟨-, y⟩
        rcases hmn with q | q
        · rw [q] at y; omega
        · rw [q.1] at y; omega
    rw [key]
    cases hn : nu T a e 2 x
    · rw [if_neg Bool.false_ne_true, nd_no w0, bs]
      refine ⟨_, rfl, f0.put rfl (by unfold F4; omega), Or.inr ⟨rfl, by rw [up_ap, if_pos ⟨rfl, rfl⟩], h0.fr (U := fun i k => i = 59 ∧ k = 17) (Fr.rf.put rfl ⟨rfl, rfl⟩) (by omega) (fun k => by omega)⟩⟩
    · obtain ⟨N1, e2, w1, v1', c1, f1⟩ := nd_ok w0 h0 k
      rw [if_pos rfl, e2, bs]
      refine ⟨N1, rfl, f0.trans f1, Or.inl ⟨rfl, w1, ?_, c1⟩⟩
      rw [v1', up_ap, if_pos ⟨rfl, rfl⟩]
      have hn2 := (of_decide_eq_true (hn : decide _ = true)).2
      rw [lt_t, nI_toInt (show vN T a (e - a) < 2 ^ 31 by omega)] at hn2
      have ev : vN T a (e - a) = mN T a (e - a) := by omega
      rw [ev]
  · rw [decide_eq_false z]
    have hnu : nu T a e s x = false := decide_eq_false (fun y => z y.1)
    have e1 : f_X7_number_l29 FU 0 x (b2i false) 0 (nI a) N = f_X7_number_j79 0 x (b2i false) 0 N := by
      show f_X7_number_b29 (f_X7_number_l29 4999) 0 x (b2i false) 0 (nI a) N = _
      unfold f_X7_number_b29
      split
      · rfl
      · rw [if_pos b2i_f]
    rw [e1]
    unfold f_X7_number_j79
    simp only [letv]
    have w0 : (up N 59 16 0) 59 17 = 0 := by rw [up_ap, if_neg (by omega)]; exact w
    rw [if_pos b2i_f, nd_no w0, bs]
    refine ⟨_, rfl, (Fr.rf.put rfl (by unfold F4; omega)).put rfl (by unfold F4; omega), Or.inr ⟨hnu, by rw [up_ap, if_pos ⟨rfl, rfl⟩], h.fr (U := fun i k => i = 59 ∧ (k = 16 ∨ k = 17)) ((Fr.rf.put rfl ⟨rfl, Or.inl rfl⟩).put rfl ⟨rfl, Or.inr rfl⟩) (by omega) (fun k => by omega)⟩⟩
end NUMS
