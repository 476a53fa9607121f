section MARKS
variable {t : Nat} {T : Nat → Nat} {M N : Mem} {i a e s a' e' s' : Nat}
/-- both stand before the same token, and nothing was wrong yet -/
def Gd2 (t : Nat) (T : Nat → Nat) (M N : Mem) (a e s : Nat) : Prop := CX t T M a e s ∧ CN t T N a e ∧ Sh t T a e s ∧ N 59 17 = 0
/-- something was wrong, at the same place -/
def Bd (t : Nat) (T : Nat → Nat) (M N : Mem) : Prop := ∃ a e s, M 49 2 = nI a ∧ CN t T N a e ∧ Sh t T a e s ∧ N 59 17 = 1
theorem Gd2.bad {N1 : Mem} (h : Gd2 t T M N a e s) (c : CN t T N1 a e) (w : N1 59 17 = 1) : Bd t T M N1 := ⟨a, e, s, h.1.2.1, c, h.2.2.1, w⟩
/-- the two move to the next token -/
theorem g_step (h : Gd2 t T M N a e s) (h5 : s ≠ 5) (h4 : s ≠ 4) : ∃ a' e' s', Tk t T e a' e' s' ∧ a < a' := by
  obtain ⟨a', e', s', k⟩ := tk_ex T h.2.2.1.le
  have := h.2.2.1.lt h4
  have := k.1.1
  exact ⟨a', e', s', k, by omega⟩
theorem nu_s {x : Int32} (h : nu T a e s x = true) : s = 2 := (of_decide_eq_true (h : decide _ = true)).1
theorem nu_le {x : Int32} {n : Nat} (hn : n < 2 ^ 31) (hx : x = nI n) (h : nu T a e s x = true) : vN T a (e - a) ≤ n := by
  have h2 := (of_decide_eq_true (h : decide _ = true)).2
  have := vN_le T a (e - a)
  rw [hx] at h2
  by_cases z : vN T a (e - a) ≤ n
  · exact z
  · exact absurd (nI_lt (by omega) (by omega)) h2
/-- the end of the reference's loop where something was wrong -/
theorem mk_w (m : Nat) (hm : 0 < m) (w : N 59 17 = 1) (x y : Int32) : f_X7_marks_l13 m x y N = some (x, N) := by
  obtain ⟨m, rfl⟩ : ∃ k, m = k + 1 := ⟨m - 1, by omega⟩
  show f_X7_marks_b13 (f_X7_marks_l13 m) x y N = _
  unfold f_X7_marks_b13
  split
  · rfl
  · rw [if_neg (ne1 w)]
theorem mk_bad (m : Nat) (h : Gd2 t T M N a e s) (hn : nu T a e s 11 = false) (x y : Int32) (hy : ¬ y = 0) (hm : 1 < m) : ∃ v N1, f_X7_marks_l13 m x y N = some (v, N1) ∧ Fr F4 N N1 ∧ Bd t T M N1 := by
  obtain ⟨m, rfl⟩ : ∃ k, m = k + 1 := ⟨m - 1, by omega⟩
  obtain ⟨a', e', s', k⟩ := tk_ex T h.2.2.1.le
  obtain ⟨N1, e1, f1, z | z⟩ := m_num h.2.2.2 h.2.1 h.2.2.1 (x := 11) (by decide) k
  · rw [hn] at z
    exact absurd z.1 Bool.false_ne_true
  obtain ⟨-, w1, c1⟩ := z
  refine ⟨x ||| 0, N1, ?_, f1, h.bad c1 w1⟩
  show f_X7_marks_b13 (f_X7_marks_l13 m) x y N = _
  unfold f_X7_marks_b13
  rw [if_neg hy, if_pos h.2.2.2, e1, bs, if_neg (ne1 w1)]
  simp only [letv]
  rw [c1.2.1, m_byte c1.1 h.2.2.1.1, bs, m_dig c1.1, bs, mk_w m (by omega) w1]
theorem mk_loop {r1 r2 idx : Nat} (hi : idx < aln r2) (ha : aln r2 < 2 ^ 31) (h49 : r2 < 49) : ∀ (d m m' j a e s : Nat) (x : Int32) (M N : Mem), a + d = t → d + 1 < m → d + 1 < m' → j ≤ a → Lt x 4096 → Gd2 t T M N a e s → (∃ v M1 N1 a' e' s', f_X3_perhapsMarks_l38 r1 r2 m (nI idx) x (nI j) M = some (true, M1) ∧ f_X7_marks_l13 m' x (b2i (decide (s = 2))) N = some (v, N1) ∧ Lt v 4096 ∧ Gd2 t T M1 N1 a' e' s' ∧ a ≤ a' ∧ Fr F49 (up M r2 idx v) M1 ∧ Fr F4 N N1) ∨ (∃ v M1 N1, f_X3_perhapsMarks_l38 r1 r2 m (nI idx) x (nI j) M = some (false, M1) ∧ f_X7_marks_l13 m' x (b2i (decide (s = 2))) N = some (v, N1) ∧ Fr F49 M M1 ∧ Fr F4 N N1 ∧ Bd t T M1 N1) := by
  intro d
  induction d using Nat.strongRecOn with
  | _ d ih =>
  intro m m' j a e s x M N hd hm hm' hj hx h
  obtain ⟨m, rfl⟩ : ∃ k, m = k + 1 := ⟨m - 1, by omega⟩
  obtain ⟨m', rfl⟩ : ∃ k, m' = k + 1 := ⟨m' - 1, by omega⟩
  have ht := h.1.1.1
  have hsh := h.2.2.1
  show (∃ v M1 N1 a' e' s', f_X3_perhapsMarks_b38 r1 r2 (f_X3_perhapsMarks_l38 r1 r2 m) (nI idx) x (nI j) M = some (true, M1) ∧ _) ∨ (∃ v M1 N1, f_X3_perhapsMarks_b38 r1 r2 (f_X3_perhapsMarks_l38 r1 r2 m) (nI idx) x (nI j) M = some (false, M1) ∧ _)
  unfold f_X3_perhapsMarks_b38
  simp only [ck_pos (vp_in_nI hi ha), ix_nI (show idx < 2 ^ 31 by omega), letv, x_isNum h.1 hsh, bs, ib]
  by_cases hs : s = 2
  case neg =>
    left
    have f0 : Fr (fun i k => i = r2 ∧ k = idx) M (up M r2 idx x) := Fr.rf.put rfl ⟨rfl, rfl⟩
    refine ⟨x, up M r2 idx x, N, a, e, s, ?_, ?_, hx, ⟨h.1.fr f0 (fun k => by omega) (fun k => by omega), h.2⟩, Nat.le_refl _, Fr.rf, Fr.rf⟩
    · rw [decide_eq_false hs, if_neg Bool.false_ne_true]
      split <;> rfl
    · show f_X7_marks_b13 (f_X7_marks_l13 m') x (b2i (decide (s = 2))) N = _
      unfold f_X7_marks_b13
      rw [decide_eq_false hs, if_pos b2i_f]
  subst hs
  have hae := hsh.lt (by omega)
  have hle := hsh.le
  rw [if_neg (show ¬ (120 : Int32) ≤ nI j from nI_ge (b := 120) (by omega) (by omega)), decide_eq_true rfl, if_pos rfl, x_isUp h.1 hsh, bs]
  cases hn : nu T a e 2 11
  · right
    obtain ⟨v, N1, e1, f1, b1⟩ := mk_bad (m' + 1) h hn x (b2i true) b2i_ne (by omega)
    exact ⟨v, M, N1, rfl, e1, Fr.rf, f1, b1⟩
  obtain ⟨a', e', s', k, hlt⟩ := g_step h (by omega) (by omega)
  obtain ⟨M1, x1, cx1, fx1⟩ := cx_step h.1 (by omega) k
  obtain ⟨N1, e1, f1, z | z⟩ := m_num h.2.2.2 h.2.1 hsh (x := 11) (by decide) k
  case inr => rw [hn] at z; exact absurd z.1 (by decide)
  obtain ⟨-, w1, v1, c1⟩ := z
  have hv := nu_le (n := 11) (by decide) rfl hn
  have hx' : Lt (x ||| ((1 : Int32) <<< (nI (vN T a (e - a)) &&& 31))) 4096 := or_lt hx (sh12 (by omega))
  have g1 : Gd2 t T M1 N1 a' e' s' := ⟨cx1, c1, k.2, w1⟩
  have ha't := k.2.1
  have hmod : f_X7_marks_l13 (m' + 1) x (b2i true) N = f_X7_marks_l13 m' (x ||| ((1 : Int32) <<< (nI (vN T a (e - a)) &&& 31))) (b2i (decide (s' = 2))) N1 := by
    show f_X7_marks_b13 (f_X7_marks_l13 m') x (b2i true) N = _
    unfold f_X7_marks_b13
    rw [if_neg b2i_ne, if_pos h.2.2.2, e1, bs, if_pos w1]
    simp only [letv]
    rw [v1, c1.2.1, m_byte c1.1 ha't, bs, m_dig c1.1, bs, dg_s k.2]
  rw [if_pos rfl, x_val h.1 rfl, x1, bs, nI_1, hmod]
  rcases ih (t - a') (by omega) m m' (j + 1) a' e' s' (x ||| ((1 : Int32) <<< (nI (vN T a (e - a)) &&& 31))) M1 N1 (by omega) (by omega) (by omega) (by omega) hx' g1 with ⟨v, M2, N2, a2, e2, s2, q1, q2, q3, q4, q5, q6, q7⟩ | ⟨v, M2, N2, q1, q2, q3, q4, q5⟩
  · left
    refine ⟨v, M2, N2, a2, e2, s2, q1, q2, q3, q4, by omega, fun i k hik => ?_, f1.trans q7⟩
    rw [q6 i k hik, up_ap, up_ap, fx1 i k hik]
  · right
    exact ⟨v, M2, N2, q1, q2, fx1.trans q3, f1.trans q4, q5⟩
/-- marks, if the word stands there -/
theorem mk_rel {r1 r2 idx : Nat} (hr : r1 < 16) (hi : idx < aln r2) (ha : aln r2 < 2 ^ 31) (h49 : r2 < 49) (h : Gd2 t T M N a e s) (h0 : M r2 idx = 0) : (∃ v M1 N1 a' e' s', f_X3_perhapsMarks r1 r2 (nI idx) M = some (true, M1) ∧ f_X7_marks (b2i (wd T a e s r1)) N = some (v, N1) ∧ Lt v 4096 ∧ Gd2 t T M1 N1 a' e' s' ∧ a ≤ a' ∧ Fr F49 (up M r2 idx v) M1 ∧ Fr F4 N N1) ∨ (∃ v M1 N1, f_X3_perhapsMarks r1 r2 (nI idx) M = some (false, M1) ∧ f_X7_marks (b2i (wd T a e s r1)) N = some (v, N1) ∧ Fr F49 M M1 ∧ Fr F4 N N1 ∧ Bd t T M1 N1) := by
  have hsh := h.2.2.1
  have ht := h.1.1.1
  unfold f_X3_perhapsMarks f_X7_marks
  rw [x_word hr h.1 hsh, bs, ib]
  cases hw : wd T a e s r1
  · left
    refine ⟨0, M, N, a, e, s, rfl, ?_, ⟨0, by decide, rfl⟩, h, Nat.le_refl _, by rw [up_self h0]; exact Fr.rf, Fr.rf⟩
    rw [if_pos b2i_f]
    show f_X7_marks_b13 (f_X7_marks_l13 4999) 0 (b2i false) N = _
    unfold f_X7_marks_b13
    rw [if_pos b2i_f]
  have hs : s = 1 := (of_decide_eq_true (hw : decide _ = true)).1
  obtain ⟨a', e', s', k, hlt⟩ := g_step h (by omega) (by omega)
  obtain ⟨M1, x1, cx1, fx1⟩ := cx_step h.1 (by omega) k
  obtain ⟨N1, e1, w1, v1, c1, f1⟩ := nd_ok h.2.2.2 h.2.1 k
  have g1 : Gd2 t T M1 N1 a' e' s' := ⟨cx1, c1, k.2, w1⟩
  have ha't := k.2.1
  rw [if_pos rfl, if_neg b2i_ne, x1, bs, x_isNum cx1 k.2, bs, ib, e1, bs]
  by_cases hs' : s' = 2
  · subst hs'
    rw [decide_eq_true rfl, if_pos rfl]
    have hmod := mk_loop (T := T) (t := t) (r1 := r1) hi ha h49 (t - a') FU FU 0 a' e' 2 0 M1 N1 (by omega) (show t - a' + 1 < 5000 by omega) (show t - a' + 1 < 5000 by omega) (by omega) ⟨0, by decide, rfl⟩ g1
    rcases hmod with ⟨v, M2, N2, a2, e2, s2, q1, q2, q3, q4, q5, q6, q7⟩ | ⟨v, M2, N2, q1, q2, q3, q4, q5⟩
    · left
      refine ⟨v, M2, N2, a2, e2, s2, q1, q2, q3, q4, by omega, fun i k hik => ?_, f1.trans q7⟩
      rw [q6 i k hik, up_ap, up_ap, fx1 i k hik]
    · right
      exact ⟨v, M2, N2, q1, q2, fx1.trans q3, f1.trans q4, q5⟩
  · right
    rw [decide_eq_false hs', if_neg Bool.false_ne_true]
    obtain ⟨v, N2, q1, q2, q3⟩ := mk_bad FU g1 (decide_eq_false (fun y => hs' y.1)) 0 (b2i true) b2i_ne (by decide)
    exact ⟨v, M1, N2, rfl, q1, fx1, f1.trans q2, q3⟩
theorem mk_rel_w (w : N 59 17 = 1) (x : Int32) : ∃ v, f_X7_marks x N = some (v, N) := by
  unfold f_X7_marks
  split
  · exact ⟨_, mk_w FU (by decide) w _ _⟩
  · rw [nd_w w, bs]
    exact ⟨_, mk_w FU (by decide) w _ _⟩
theorem ph_w (w : N 59 17 = 1) (x y z : Int32) : ∃ v, f_X7_perhaps x y z N = some (v, N) := by
  unfold f_X7_perhaps
  split
  · exact ⟨_, rfl⟩
  · rw [nd_w w, bs, nu_w w, bs]
    exact ⟨_, rfl⟩
/-- a number, if the word stands there -/
theorem ph_rel {r1 r3 idx hi : Nat} (hr : r1 < 16) (hix : idx < aln r3) (ha : aln r3 < 2 ^ 31) (h49 : r3 < 49) (hh : hi ≤ 99999) (h : Gd2 t T M N a e s) {df : Int32} (h0 : M r3 idx = df) (hdf : Lt df (hi + 1)) : (∃ v M1 N1 a' e' s', f_X3_perhapsNumber r1 (nI hi) r3 (nI idx) M = some (true, M1) ∧ f_X7_perhaps (b2i (wd T a e s r1)) (nI hi) df N = some (v, N1) ∧ Lt v (hi + 1) ∧ Gd2 t T M1 N1 a' e' s' ∧ a ≤ a' ∧ Fr F49 (up M r3 idx v) M1 ∧ Fr F4 N N1) ∨ (∃ v M1 N1, f_X3_perhapsNumber r1 (nI hi) r3 (nI idx) M = some (false, M1) ∧ f_X7_perhaps (b2i (wd T a e s r1)) (nI hi) df N = some (v, N1) ∧ Fr F49 M M1 ∧ Fr F4 N N1 ∧ Bd t T M1 N1) := by
  have hsh := h.2.2.1
  have ht := h.1.1.1
  unfold f_X3_perhapsNumber f_X7_perhaps
  rw [x_word hr h.1 hsh, bs, ib]
  cases hw : wd T a e s r1
  · left
    exact ⟨df, M, N, a, e, s, rfl, by rw [if_pos b2i_f], hdf, h, Nat.le_refl _, by rw [up_self h0]; exact Fr.rf, Fr.rf⟩
  have hs : s = 1 := (of_decide_eq_true (hw : decide _ = true)).1
  obtain ⟨a', e', s', k, hlt⟩ := g_step h (by omega) (by omega)
  obtain ⟨M1, x1, cx1, fx1⟩ := cx_step h.1 (by omega) k
  obtain ⟨N1, e1, w1, v1, c1, f1⟩ := nd_ok h.2.2.2 h.2.1 k
  have g1 : Gd2 t T M1 N1 a' e' s' := ⟨cx1, c1, k.2, w1⟩
  obtain ⟨a2, e2, s2, k2⟩ := tk_ex T k.2.le
  obtain ⟨N2, e3, f2, z⟩ := m_num w1 c1 k.2 (x := nI hi) (show nI hi ≤ nI 99999 from nI_le hh (by omega)) k2
  rw [if_pos rfl, if_neg b2i_ne, x1, bs, x_isUp cx1 k.2, bs, ib, e1, bs, e3, bs]
  rcases z with ⟨z1, w2, v2, c2⟩ | ⟨z1, w2, c2⟩
  · left
    have hs' := nu_s z1
    subst hs'
    have hv := nu_le (n := hi) (by omega) rfl z1
    have hlt2 := k.2.lt (by omega)
    have f0 : Fr (fun i k => i = r3 ∧ k = idx) M1 (up M1 r3 idx (nI (vN T a' (e' - a')))) := Fr.rf.put rfl ⟨rfl, rfl⟩
    obtain ⟨M2, x2, cx2, fx2⟩ := cx_step (cx1.fr f0 (fun k => by omega) (fun k => by omega)) (by omega) k2
    have := k2.1.1
    refine ⟨nI (vN T a' (e' - a')), M2, N2, a2, e2, s2, ?_, by rw [v2], ⟨_, by omega, rfl⟩, ⟨cx2, c2, k2.2, w2⟩, by omega, fun i k hik => ?_, f1.trans f2⟩
    · rw [z1, if_pos rfl, ck_pos (vp_in_nI hix ha), ix_nI (by omega)]
      simp only [letv]
      rw [x_val cx1 rfl, x2, bs]
    · rw [fx2 i k hik, up_ap, up_ap, fx1 i k hik]
  · right
    rw [z1, if_neg Bool.false_ne_true]
    exact ⟨_, M1, N2, rfl, rfl, fx1, f1.trans f2, g1.bad c2 w2⟩
end MARKS
