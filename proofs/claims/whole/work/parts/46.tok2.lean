section TOK2
variable {t : Nat} {T : Nat → Nat} {M N : Mem} {i a e s : Nat}
def Sh (t : Nat) (T : Nat → Nat) (a e s : Nat) : Prop := a ≤ t ∧ ((s = 4 ∧ a = t ∧ e = a) ∨ (a < t ∧ ((s = 1 ∧ isLt (T a) = true ∧ Run isLt T t a e) ∨ (s = 2 ∧ isDg (T a) = true ∧ Run isDg T t a e) ∨ (s = 3 ∧ T a = 59 ∧ e = a + 1) ∨ (s = 5 ∧ isLt (T a) = false ∧ isDg (T a) = false ∧ T a ≠ 59 ∧ e = a + 1))))
def Tk (t : Nat) (T : Nat → Nat) (i a e s : Nat) : Prop := Run isSp T t i a ∧ Sh t T a e s
theorem tk_ex (T : Nat → Nat) (h : i ≤ t) : ∃ a e s, Tk t T i a e s := by
  obtain ⟨a, r⟩ := run_ex isSp T h
  have ha := r.2.1
  by_cases z : a < t
  · cases h1 : isLt (T a)
    · cases h2 : isDg (T a)
      · by_cases h3 : T a = 59
        · exact ⟨a, a + 1, 3, r, ha, Or.inr ⟨z, Or.inr (Or.inr (Or.inl ⟨rfl, h3, rfl⟩))⟩⟩
        · exact ⟨a, a + 1, 5, r, ha, Or.inr ⟨z, Or.inr (Or.inr (Or.inr ⟨rfl, h1, h2, h3, rfl⟩))⟩⟩
      · obtain ⟨e, r2⟩ := run_ex isDg T ha
        exact ⟨a, e, 2, r, ha, Or.inr ⟨z, Or.inr (Or.inl ⟨rfl, h2, r2⟩)⟩⟩
    · obtain ⟨e, r2⟩ := run_ex isLt T ha
      exact ⟨a, e, 1, r, ha, Or.inr ⟨z, Or.inl ⟨rfl, h1, r2⟩⟩⟩
  · exact ⟨a, a, 4, r, ha, Or.inl ⟨rfl, by omega, rfl⟩⟩
theorem run_lt {P : Nat → Bool} (h : P (T a) = true) (ha : a < t) (r : Run P T t a e) : a < e := by
  obtain ⟨r1, r2, r3, r4⟩ := r
  by_cases z : a = e
  · subst z
    rw [r4 ha] at h
    cases h
  · omega
theorem Sh.lt (h : Sh t T a e s) (h4 : s ≠ 4) : a < e := by
  obtain ⟨-, z | ⟨ha, z | z | z | z⟩⟩ := h
  · omega
  · exact run_lt z.2.1 ha z.2.2
  · exact run_lt z.2.1 ha z.2.2
  · omega
  · omega
theorem Sh.le (h : Sh t T a e s) : e ≤ t := by
  obtain ⟨-, z | ⟨ha, z | z | z | z⟩⟩ := h
  · omega
  · exact z.2.2.2.1
  · exact z.2.2.2.1
  · omega
  · omega
theorem Sh.s5 (h : Sh t T a e s) : s ≤ 5 ∧ 1 ≤ s := by
  obtain ⟨-, z | ⟨ha, z | z | z | z⟩⟩ := h <;> omega
def CX (t : Nat) (T : Nat → Nat) (M : Mem) (a e s : Nat) : Prop := TXc t T M ∧ M 49 2 = nI a ∧ (s ≠ 5 → M 49 4 = nI e) ∧ M 49 5 = nI s ∧ (s = 2 → M 49 3 = nI (vN T a (e - a)))
def CN (t : Nat) (T : Nat → Nat) (N : Mem) (a e : Nat) : Prop := TXm t T N ∧ N 59 14 = nI a ∧ N 59 15 = nI e
theorem CX.fr {M1 : Mem} {U : Nat → Nat → Prop} (h : CX t T M a e s) (f : Fr U M M1) (h1 : ∀ k, ¬ U 49 k) (h2 : ∀ k, ¬ U 50 k) : CX t T M1 a e s :=
  ⟨h.1.fr f (h1 _) h2, (f _ _ (h1 _)).trans h.2.1, fun z => (f _ _ (h1 _)).trans (h.2.2.1 z), (f _ _ (h1 _)).trans h.2.2.2.1, fun z => (f _ _ (h1 _)).trans (h.2.2.2.2 z)⟩
theorem CN.fr {N1 : Mem} {U : Nat → Nat → Prop} (h : CN t T N a e) (f : Fr U N N1) (h1 : ¬ U 59 13 ∧ ¬ U 59 14 ∧ ¬ U 59 15) (h2 : ∀ k, ¬ U 65 k) : CN t T N1 a e :=
  ⟨h.1.fr f h1.1 h2, (f _ _ h1.2.1).trans h.2.1, (f _ _ h1.2.2).trans h.2.2⟩
def F49 : Nat → Nat → Prop := fun i k => i = 49 ∧ k ≠ 1
theorem x_step (h : TXc t T M) (h4 : M 49 4 = nI i) (k : Tk t T i a e s) : ∃ M1, f_X2_step M = some M1 ∧ CX t T M1 a e s ∧ Fr F49 M M1 := by
  obtain ⟨r, ha, sh⟩ := k
  have ht := h.1
  obtain ⟨M0, e0, f4, fr0⟩ := x_sp i a (FU + 1) h r (show a - i < 5000 + 1 by omega) h4
  have h0 := h.fr fr0 (by omega) (fun k => by omega)
  have fr1 : Fr F49 M (up M0 49 2 (nI a)) := (fr0.mono (fun i k z => by unfold F49; omega)).put rfl (by unfold F49; omega)
  have h5 : TXc t T (up M0 49 2 (nI a)) := h.fr fr1 (by unfold F49; omega) (fun k => by unfold F49; omega)
  have g4 : (up M0 49 2 (nI a)) 49 4 = nI a := by rw [up_ap, if_neg (by omega)]; exact f4
  have g2 : (up M0 49 2 (nI a)) 49 2 = nI a := by rw [up_ap, if_pos ⟨rfl, rfl⟩]
  have es : f_X2_step M = f_X2_step_j38 M0 := e0
  rw [es]
  unfold f_X2_step_j38
  rw [f4]
  generalize up M0 49 2 (nI a) = M5 at *
  simp only [letv]
  rw [g4, h5.2.1]
  obtain z | ⟨hat, z⟩ := sh
  · obtain ⟨rfl, rfl, rfl⟩ := z
    rw [if_neg (nI_nlt (by omega) (by omega))]
    have f2 : Fr F49 M5 (up M5 49 5 4) := Fr.rf.put rfl (by unfold F49; omega)
    exact ⟨_, rfl, ⟨h5.fr f2 (by unfold F49; omega) (fun k => by unfold F49; omega), by rw [up_ap, if_neg (by omega)]; exact g2, fun _ => by rw [up_ap, if_neg (by omega)]; exact g4, by rw [up_ap, if_pos ⟨rfl, rfl⟩]; rfl, fun z => by omega⟩, fr1.trans f2⟩
  have hc := h5.2.2.1 a hat
  rw [if_pos (nI_lt hat (by omega)), ck_pos (vp_in_nI (by omega) (by decide)), ix_nI (by omega), h5.2.2.2 a hat, x_isLetter, dL hc, bs, ib]
  simp only [ck_pos (show vp_in (nI a) 120 from vp_in_nI (by omega) (by decide))]
  obtain z | z | z | z := z
  · obtain ⟨rfl, z1, z2⟩ := z
    rw [z1, if_pos rfl]
    unfold f_X2_takeWord
    have f2 : Fr F49 M5 (up M5 49 5 1) := Fr.rf.put rfl (by unfold F49; omega)
    obtain ⟨M1, e1, b4, f3⟩ := x_letters a e FU (h5.fr f2 (by unfold F49; omega) (fun k => by unfold F49; omega)) z2 (show e - a < 5000 by have := z2.2.1; omega) (by rw [up_ap, if_neg (by omega)]; exact g4)
    have f5 : Fr F49 M5 M1 := f2.trans (f3.mono (fun i k z => by unfold F49; omega))
    simp only [letv]
    rw [e1]
    exact ⟨M1, rfl, ⟨h5.fr f5 (by unfold F49; omega) (fun k => by unfold F49; omega), by rw [f3 _ _ (by omega), up_ap, if_neg (by omega)]; exact g2, fun _ => b4, by rw [f3 _ _ (by omega), up_ap, if_pos ⟨rfl, rfl⟩]; rfl, fun z => by omega⟩, fr1.trans f5⟩
  · obtain ⟨rfl, z1, z2⟩ := z
    have z3 : isLt (T a) = false := by
      have := of_decide_eq_true z1
      exact decide_eq_false (by omega)
    rw [z3, if_neg (by decide), x_isDigit, dD hc, z1, bs, ib, if_pos rfl]
    unfold f_X2_takeNumber
    have f2 : Fr F49 M5 (up (up M5 49 5 2) 49 3 0) := (Fr.rf.put rfl (by unfold F49; omega)).put rfl (by unfold F49; omega)
    obtain ⟨M1, e1, b4, b3, f3⟩ := x_digits a e FU (h5.fr f2 (by unfold F49; omega) (fun k => by unfold F49; omega)) z2 (show e - a < 5000 by have := z2.2.1; omega) (by rw [up_ap, if_neg (by omega), up_ap, if_neg (by omega)]; exact g4) (by rw [up_ap, if_pos ⟨rfl, rfl⟩])
    have f5 : Fr F49 M5 M1 := f2.trans (f3.mono (fun i k z => by unfold F49; omega))
    simp only [letv]
    rw [e1]
    exact ⟨M1, rfl, ⟨h5.fr f5 (by unfold F49; omega) (fun k => by unfold F49; omega), by rw [f3 _ _ (by omega), up_ap, if_neg (by omega), up_ap, if_neg (by omega)]; exact g2, fun _ => b4, by rw [f3 _ _ (by omega), up_ap, if_neg (by omega), up_ap, if_pos ⟨rfl, rfl⟩]; rfl, fun _ => b3⟩, fr1.trans f5⟩
  · obtain ⟨rfl, z1, rfl⟩ := z
    rw [z1, show isLt 59 = false from rfl, if_neg (by decide), x_isDigit, dD (by omega), show isDg 59 = false from rfl, bs, ib, if_neg (by decide), if_pos (by decide)]
    have f2 : Fr F49 M5 (up (up M5 49 5 3) 49 4 (nI (a + 1))) := (Fr.rf.put rfl (by unfold F49; omega)).put rfl (by unfold F49; omega)
    rw [up_ap M5 49 5 3 49 4, if_neg (by omega), g4, nI_1]
    exact ⟨_, rfl, ⟨h5.fr f2 (by unfold F49; omega) (fun k => by unfold F49; omega), by rw [up_ap, if_neg (by omega), up_ap, if_neg (by omega)]; exact g2, fun _ => by rw [up_ap, if_pos ⟨rfl, rfl⟩], by rw [up_ap, if_neg (by omega), up_ap, if_pos ⟨rfl, rfl⟩]; rfl, fun z => by omega⟩, fr1.trans f2⟩
  · obtain ⟨rfl, z1, z2, z3, rfl⟩ := z
    rw [z1, if_neg (by decide), x_isDigit, dD hc, z2, bs, ib, if_neg (by decide), if_neg (show ¬ nI (T a) = (59 : Int32) from fun y => z3 ((nI_eq (a := T a) (b := 59) (by omega) (by omega)).mp y))]
    have f2 : Fr F49 M5 (up M5 49 5 5) := Fr.rf.put rfl (by unfold F49; omega)
    exact ⟨_, rfl, ⟨h5.fr f2 (by unfold F49; omega) (fun k => by unfold F49; omega), by rw [up_ap, if_neg (by omega)]; exact g2, fun y => absurd rfl y, by rw [up_ap, if_pos ⟨rfl, rfl⟩]; rfl, fun z => by omega⟩, fr1.trans f2⟩
theorem cx_step (h : CX t T M a e s) (h5 : s ≠ 5) {a' e' s' : Nat} (k : Tk t T e a' e' s') : ∃ M1, f_X2_step M = some M1 ∧ CX t T M1 a' e' s' ∧ Fr F49 M M1 := x_step h.1 (h.2.2.1 h5) k
-- the reference
def byI (t : Nat) (T : Nat → Nat) (i : Nat) : Int32 := if i < t then nI (T i) else -1
theorem m_byte (h : TXm t T N) (hi : i ≤ t) : f_X7_byteAt (nI i) N = some (byI t T i) := by
  have ht := h.1
  unfold f_X7_byteAt byI
  rw [h.2.1]
  by_cases z : i < t
  · rw [if_neg (nI_ge z (by omega)), if_pos z, ck_pos (vp_in_nI (by omega) (by decide)), ix_nI (by omega), h.2.2.2 i z]
  · rw [if_pos (nI_le (by omega) (by omega)), if_neg z]
theorem m_let (h : TXm t T N) {N' : Mem} : f_X7_isLetter (byI t T i) N' = some (decide (i < t) && isLt (T i)) := by
  rw [m_isLetter]
  unfold byI
  by_cases z : i < t
  · rw [if_pos z, dL (h.2.2.1 i z), decide_eq_true z]; rfl
  · rw [if_neg z, decide_eq_false z]; rfl
theorem m_dig (h : TXm t T N) {N' : Mem} : f_X7_isDigit (byI t T i) N' = some (decide (i < t) && isDg (T i)) := by
  rw [m_isDigit]
  unfold byI
  by_cases z : i < t
  · rw [if_pos z, dD (h.2.2.1 i z), decide_eq_true z]; rfl
  · rw [if_neg z, decide_eq_false z]; rfl
def F59 : Nat → Nat → Prop := fun i k => i = 59 ∧ (k = 14 ∨ k = 15)
theorem m_let_l (j m : Nat) (h : TXm t T N) (hr : Run isLt T t i j) (hm : j - i < m) (h5 : N 59 15 = nI i) : ∃ N1, f_X7_token_l86 m (b2i true) (b2i false) N = some N1 ∧ N1 59 15 = nI j ∧ Fr (fun i k => i = 59 ∧ k = 15) N N1 := by
  obtain ⟨r1, r2, r3, r4⟩ := hr
  have ht := h.1
  have key : ∀ (d m i : Nat) (N : Mem), i + d = j → d < m → (∀ k, i ≤ k → k < j → isLt (T k) = true) → TXm t T N → N 59 15 = nI i → ∃ N1, f_X7_token_l86 m (b2i true) (b2i false) N = some N1 ∧ N1 59 15 = nI j ∧ Fr (fun i k => i = 59 ∧ k = 15) N N1 := by
    intro d
    induction d with
    | zero =>
      intro m i N hi hm hp h h4
      obtain ⟨m, rfl⟩ : ∃ k, m = k + 1 := ⟨m - 1, by omega⟩
      have hij : i = j := by omega
      subst hij
      refine ⟨N, ?_, h4, Fr.rf⟩
      show f_X7_token_b86 (f_X7_token_l86 m) (b2i true) (b2i false) N = _
      unfold f_X7_token_b86 f_X7_token_j104
      simp only [h4, m_byte h r2, bs, m_let h, m_dig h, ib, letv]
      have : (decide (i < t) && isLt (T i)) = false := by
        by_cases z : i < t
        · rw [r4 z, Bool.and_false]
        · rw [decide_eq_false z, Bool.false_and]
      rw [this]
      rfl
    | succ d ih =>
      intro m i N hi hm hp h h4
      obtain ⟨m, rfl⟩ : ∃ k, m = k + 1 := ⟨m - 1, by omega⟩
      have z : i < t := by omega
      have hs := hp i (Nat.le_refl _) (by omega)
      have f : Fr (fun i k => i = 59 ∧ k = 15) N (up N 59 15 (nI (i + 1))) := Fr.rf.put rfl ⟨rfl, rfl⟩
      obtain ⟨N1, a, b, c⟩ := ih m (i + 1) (up N 59 15 (nI (i + 1))) (by omega) (by omega) (fun k a b => hp k (by omega) b) (h.fr f (by omega) (fun k => by omega)) (by rw [up_ap, if_pos ⟨rfl, rfl⟩])
      refine ⟨N1, ?_, b, f.trans c⟩
      rw [← a]
      show f_X7_token_b86 (f_X7_token_l86 m) (b2i true) (b2i false) N = _
      unfold f_X7_token_b86
      simp only [h4, m_byte h (show i ≤ t by omega), bs, m_let h, m_dig h, ib, letv, hs, decide_eq_true z, nI_1]
      rfl
  exact key (j - i) m i N (by omega) hm (fun k a b => r3 k a b) h h5
theorem m_dig_l (j m : Nat) (h : TXm t T N) (hr : Run isDg T t i j) (hm : j - i < m) (h5 : N 59 15 = nI i) : ∃ N1, f_X7_token_l86 m (b2i false) (b2i true) N = some N1 ∧ N1 59 15 = nI j ∧ Fr (fun i k => i = 59 ∧ k = 15) N N1 := by
  obtain ⟨r1, r2, r3, r4⟩ := hr
  have ht := h.1
  have key : ∀ (d m i : Nat) (N : Mem), i + d = j → d < m → (∀ k, i ≤ k → k < j → isDg (T k) = true) → TXm t T N → N 59 15 = nI i → ∃ N1, f_X7_token_l86 m (b2i false) (b2i true) N = some N1 ∧ N1 59 15 = nI j ∧ Fr (fun i k => i = 59 ∧ k = 15) N N1 := by
    intro d
    induction d with
    | zero =>
      intro m i N hi hm hp h h4
      obtain ⟨m, rfl⟩ : ∃ k, m = k + 1 := ⟨m - 1, by omega⟩
      have hij : i = j := by omega
      subst hij
      refine ⟨N, ?_, h4, Fr.rf⟩
      show f_X7_token_b86 (f_X7_token_l86 m) (b2i false) (b2i true) N = _
      unfold f_X7_token_b86 f_X7_token_j104
      simp only [h4, m_byte h r2, bs, m_let h, m_dig h, ib, letv]
      have : (decide (i < t) && isDg (T i)) = false := by
        by_cases z : i < t
        · rw [r4 z, Bool.and_false]
        · rw [decide_eq_false z, Bool.false_and]
      rw [this]
      rfl
    | succ d ih =>
      intro m i N hi hm hp h h4
      obtain ⟨m, rfl⟩ : ∃ k, m = k + 1 := ⟨m - 1, by omega⟩
      have z : i < t := by omega
      have hs := hp i (Nat.le_refl _) (by omega)
      have f : Fr (fun i k => i = 59 ∧ k = 15) N (up N 59 15 (nI (i + 1))) := Fr.rf.put rfl ⟨rfl, rfl⟩
      obtain ⟨N1, a, b, c⟩ := ih m (i + 1) (up N 59 15 (nI (i + 1))) (by omega) (by omega) (fun k a b => hp k (by omega) b) (h.fr f (by omega) (fun k => by omega)) (by rw [up_ap, if_pos ⟨rfl, rfl⟩])
      refine ⟨N1, ?_, b, f.trans c⟩
      rw [← a]
      show f_X7_token_b86 (f_X7_token_l86 m) (b2i false) (b2i true) N = _
      unfold f_X7_token_b86 f_X7_token_j104
      simp only [h4, m_byte h (show i ≤ t by omega), bs, m_let h, m_dig h, ib, letv, hs, decide_eq_true z, nI_1]
      rfl
  exact key (j - i) m i N (by omega) hm (fun k a b => r3 k a b) h h5
theorem m_none_0 (m : Nat) (hm : 0 < m) (x y : Int32) (hx : x = 0) (hy : y = 0) (N : Mem) : f_X7_token_l86 m x y N = some N := by
  obtain ⟨m, rfl⟩ : ∃ k, m = k + 1 := ⟨m - 1, by omega⟩
  show f_X7_token_b86 (f_X7_token_l86 m) x y N = _
  unfold f_X7_token_b86 f_X7_token_j104
  rw [if_pos hx, if_pos hy]
theorem b2i_f : b2i false = 0 := rfl
theorem b2i_t : b2i true = 1 := rfl
theorem m_none_l (m : Nat) (hm : 0 < m) (N : Mem) : f_X7_token_l86 m (b2i false) (b2i false) N = some N := m_none_0 m hm _ _ b2i_f b2i_f N
theorem Run.next {P : Nat → Bool} {e : Nat} (r : Run P T t a e) (h : a < e) : Run P T t (a + 1) e := ⟨by omega, r.2.1, fun k x y => r.2.2.1 k (by omega) y, r.2.2.2⟩
theorem m_token_at (m : Nat) (hm : 0 < m) (h : TXm t T N) (h4 : N 59 14 = nI a) (hn : a < t → isSp (T a) = false) (sh : Sh t T a e s) : ∃ N1, f_X7_token_l8 m N = some N1 ∧ CN t T N1 a e ∧ Fr F59 N N1 := by
  obtain ⟨m, rfl⟩ : ∃ k, m = k + 1 := ⟨m - 1, by omega⟩
  have ht := h.1
  have hle := sh.le
  have hlt := sh.lt
  obtain ⟨ha, sh⟩ := sh
  show ∃ N1, f_X7_token_b8 (f_X7_token_l8 m) N = some N1 ∧ _
  unfold f_X7_token_b8
  simp only [h4, m_byte h ha, bs, m_let h, m_dig h, h.2.1, letv]
  have n32 : ¬ byI t T a = 32 := by
    unfold byI
    by_cases z : a < t
    · rw [if_pos z]
      intro y
      have y' := (nI_eq (a := T a) (b := 32) (by have := h.2.2.1 a z; omega) (by omega)).mp y
      have := hn z
      rw [y'] at this
      cases this
    · rw [if_neg z]; decide
  rw [if_neg n32]
  obtain z | ⟨hat, z⟩ := sh
  · obtain ⟨rfl, rfl, rfl⟩ := z
    have f : Fr F59 N (up N 59 15 (nI e)) := Fr.rf.put rfl (by unfold F59; omega)
    rw [if_pos (nI_le (by omega) (by omega)), decide_eq_false (by omega), Bool.false_and, Bool.false_and, m_none_l FU (by decide)]
    exact ⟨_, rfl, ⟨h.fr f (by unfold F59; omega) (fun k => by unfold F59; omega), by rw [up_ap, if_neg (by omega)]; exact h4, by rw [up_ap, if_pos ⟨rfl, rfl⟩]⟩, f⟩
  have f : Fr F59 N (up N 59 15 (nI (a + 1))) := Fr.rf.put rfl (by unfold F59; omega)
  have h1 := h.fr f (by unfold F59; omega) (fun k => by unfold F59; omega)
  rw [if_neg (nI_ge hat (by omega)), decide_eq_true hat, Bool.true_and, Bool.true_and, nI_1]
  obtain z | z | z | z := z
  · obtain ⟨rfl, z1, z2⟩ := z
    have z3 : isDg (T a) = false := by
      have := of_decide_eq_true z1
      exact decide_eq_false (by omega)
    obtain ⟨N1, e1, e2, f2⟩ := m_let_l e FU h1 (z2.next (hlt (by omega))) (show e - (a + 1) < 5000 by omega) (by rw [up_ap, if_pos ⟨rfl, rfl⟩])
    rw [z1, z3, e1]
    exact ⟨N1, rfl, ⟨h1.fr f2 (by omega) (fun k => by omega), by rw [f2 _ _ (by omega), up_ap, if_neg (by omega)]; exact h4, e2⟩, f.trans (f2.mono (fun i k z => by unfold F59; omega))⟩
  · obtain ⟨rfl, z1, z2⟩ := z
    have z3 : isLt (T a) = false := by
      have := of_decide_eq_true z1
      exact decide_eq_false (by omega)
    obtain ⟨N1, e1, e2, f2⟩ := m_dig_l e FU h1 (z2.next (hlt (by omega))) (show e - (a + 1) < 5000 by omega) (by rw [up_ap, if_pos ⟨rfl, rfl⟩])
    rw [z1, z3, e1]
    exact ⟨N1, rfl, ⟨h1.fr f2 (by omega) (fun k => by omega), by rw [f2 _ _ (by omega), up_ap, if_neg (by omega)]; exact h4, e2⟩, f.trans (f2.mono (fun i k z => by unfold F59; omega))⟩
  · obtain ⟨rfl, z1, rfl⟩ := z
    rw [z1, show isLt 59 = false from rfl, show isDg 59 = false from rfl, m_none_l FU (by decide)]
    exact ⟨_, rfl, ⟨h1, by rw [up_ap, if_neg (by omega)]; exact h4, by rw [up_ap, if_pos ⟨rfl, rfl⟩]⟩, f⟩
  · obtain ⟨rfl, z1, z2, z3, rfl⟩ := z
    rw [z1, z2, m_none_l FU (by decide)]
    exact ⟨_, rfl, ⟨h1, by rw [up_ap, if_neg (by omega)]; exact h4, by rw [up_ap, if_pos ⟨rfl, rfl⟩]⟩, f⟩
theorem m_sp_l (m : Nat) (h : TXm t T N) (k : Tk t T i a e s) (hm : a - i < m) (h4 : N 59 14 = nI i) : ∃ N1, f_X7_token_l8 m N = some N1 ∧ CN t T N1 a e ∧ Fr F59 N N1 := by
  obtain ⟨⟨r1, r2, r3, r4⟩, sh⟩ := k
  have ht := h.1
  have key : ∀ (d m i : Nat) (N : Mem), i + d = a → d < m → (∀ k, i ≤ k → k < a → isSp (T k) = true) → TXm t T N → N 59 14 = nI i → ∃ N1, f_X7_token_l8 m N = some N1 ∧ CN t T N1 a e ∧ Fr F59 N N1 := by
    intro d
    induction d with
    | zero =>
      intro m i N hi hm hp h h4
      have hij : i = a := by omega
      subst hij
      exact m_token_at m (by omega) h h4 r4 sh
    | succ d ih =>
      intro m i N hi hm hp h h4
      obtain ⟨m, rfl⟩ : ∃ k, m = k + 1 := ⟨m - 1, by omega⟩
      have z : i < t := by omega
      have hs := hp i (Nat.le_refl _) (by omega)
      have hs' : T i = 32 := of_decide_eq_true hs
      have f : Fr F59 N (up N 59 14 (nI (i + 1))) := Fr.rf.put rfl (by unfold F59; omega)
      obtain ⟨N1, b1, b2, c⟩ := ih m (i + 1) (up N 59 14 (nI (i + 1))) (by omega) (by omega) (fun k a b => hp k (by omega) b) (h.fr f (by unfold F59; omega) (fun k => by unfold F59; omega)) (by rw [up_ap, if_pos ⟨rfl, rfl⟩])
      refine ⟨N1, ?_, b2, f.trans c⟩
      rw [← b1]
      show f_X7_token_b8 (f_X7_token_l8 m) N = _
      unfold f_X7_token_b8
      have eb : byI t T i = 32 := by unfold byI; rw [if_pos z, hs']; rfl
      simp only [h4, m_byte h (show i ≤ t by omega), bs, letv, nI_1]
      rw [if_pos eb]
  exact key (a - i) m i N (by omega) hm (fun k a b => r3 k a b) h h4
theorem cn_tok {a0 : Nat} (h : CN t T N a0 i) (k : Tk t T i a e s) : ∃ N1, f_X7_token N = some N1 ∧ CN t T N1 a e ∧ Fr F59 N N1 := by
  have ht := h.1.1
  have f : Fr F59 N (up N 59 14 (nI i)) := Fr.rf.put rfl (by unfold F59; omega)
  obtain ⟨N1, e1, e2, f2⟩ := m_sp_l FU (h.1.fr f (by unfold F59; omega) (fun k => by unfold F59; omega)) k (show a - i < 5000 by have := k.1.2.1; omega) (by rw [up_ap, if_pos ⟨rfl, rfl⟩])
  refine ⟨N1, ?_, e2, f.trans f2⟩
  unfold f_X7_token
  rw [h.2.2]
  exact e1
end TOK2
