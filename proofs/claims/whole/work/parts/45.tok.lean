section TOK
variable {t : Nat} {T : Nat → Nat} {M N : Mem}
def isLt (c : Nat) : Bool := decide (97 ≤ c ∧ c ≤ 122)
def isDg (c : Nat) : Bool := decide (48 ≤ c ∧ c ≤ 57)
def isSp (c : Nat) : Bool := decide (c = 32)
def Run (P : Nat → Bool) (T : Nat → Nat) (t i j : Nat) : Prop := i ≤ j ∧ j ≤ t ∧ (∀ k, i ≤ k → k < j → P (T k) = true) ∧ (j < t → P (T j) = false)
theorem run_ex (P : Nat → Bool) (T : Nat → Nat) {t i : Nat} (h : i ≤ t) : ∃ j, Run P T t i j := by
  have key : ∀ d i, i + d = t → ∃ j, Run P T t i j := by
    intro d
    induction d with
    | zero => intro i h; exact ⟨i, Nat.le_refl _, by omega, fun k a b => by omega, fun z => by omega⟩
    | succ d ih =>
      intro i h
      cases hp : P (T i)
      · exact ⟨i, Nat.le_refl _, by omega, fun k a b => by omega, fun _ => hp⟩
      · obtain ⟨j, a, b, c, e⟩ := ih (i + 1) (by omega)
        refine ⟨j, by omega, b, fun k x y => ?_, e⟩
        by_cases z : k = i
        · rw [z]; exact hp
        · exact c k (by omega) y
  exact key (t - i) i (by omega)
theorem dL {c : Nat} (h : c < 256) : decide ((97 : Int32) ≤ nI c ∧ nI c ≤ 122) = isLt c := by
  unfold isLt
  congr 1
  apply propext
  show nI 97 ≤ nI c ∧ nI c ≤ nI 122 ↔ _
  rw [nI_leI (by omega) (by omega), nI_leI (by omega) (by omega)]
theorem dD {c : Nat} (h : c < 256) : decide ((48 : Int32) ≤ nI c ∧ nI c ≤ 57) = isDg c := by
  unfold isDg
  congr 1
  apply propext
  show nI 48 ≤ nI c ∧ nI c ≤ nI 57 ↔ _
  rw [nI_leI (by omega) (by omega), nI_leI (by omega) (by omega)]
def TXc (t : Nat) (T : Nat → Nat) (M : Mem) : Prop := t ≤ 120 ∧ M 49 1 = nI t ∧ (∀ k, k < t → T k < 256) ∧ ∀ k, k < t → M 50 k = nI (T k)
def TXm (t : Nat) (T : Nat → Nat) (N : Mem) : Prop := t ≤ 120 ∧ N 59 13 = nI t ∧ (∀ k, k < t → T k < 256) ∧ ∀ k, k < t → N 65 k = nI (T k)
theorem TXc.fr {M1 : Mem} {U : Nat → Nat → Prop} (h : TXc t T M) (f : Fr U M M1) (h1 : ¬ U 49 1) (h2 : ∀ k, ¬ U 50 k) : TXc t T M1 :=
  ⟨h.1, (f _ _ h1).trans h.2.1, h.2.2.1, fun k hk => (f _ _ (h2 k)).trans (h.2.2.2 k hk)⟩
theorem TXm.fr {N1 : Mem} {U : Nat → Nat → Prop} (h : TXm t T N) (f : Fr U N N1) (h1 : ¬ U 59 13) (h2 : ∀ k, ¬ U 65 k) : TXm t T N1 :=
  ⟨h.1, (f _ _ h1).trans h.2.1, h.2.2.1, fun k hk => (f _ _ (h2 k)).trans (h.2.2.2 k hk)⟩
def vN (T : Nat → Nat) (a : Nat) : Nat → Nat
  | 0 => 0
  | n + 1 => min (10 * vN T a n + T (a + n) - 48) 100000
theorem vN_le (T : Nat → Nat) (a : Nat) : ∀ n, vN T a n ≤ 100000
  | 0 => Nat.zero_le _
  | n + 1 => by unfold vN; omega
/-- the spaces before a token -/
theorem x_sp (i j : Nat) (m : Nat) (h : TXc t T M) (hr : Run isSp T t i j) (hm : j - i < m) (h4 : M 49 4 = nI i) : ∃ M1, f_X2_step_l0 m M = f_X2_step_j38 M1 ∧ M1 49 4 = nI j ∧ Fr (fun i k => i = 49 ∧ k = 4) M M1 := by
  obtain ⟨r1, r2, r3, r4⟩ := hr
  have ht := h.1
  have key : ∀ (d m i : Nat) (M : Mem), i + d = j → d < m → (∀ k, i ≤ k → k < j → isSp (T k) = true) → TXc t T M → M 49 4 = nI i → ∃ M1, f_X2_step_l0 m M = f_X2_step_j38 M1 ∧ M1 49 4 = nI j ∧ Fr (fun i k => i = 49 ∧ k = 4) M M1 := by
    intro d
    induction d with
    | zero =>
      intro m i M hi hm hp h h4
      obtain ⟨m, rfl⟩ : ∃ k, m = k + 1 := ⟨m - 1, by omega⟩
      have hij : i = j := by omega
      subst hij
      refine ⟨M, ?_, h4, Fr.rf⟩
      show f_X2_step_b0 (f_X2_step_l0 m) M = _
      unfold f_X2_step_b0
      rw [h.2.1, h4]
      by_cases z : i < t
      · rw [if_neg (nI_ge z (by omega)), ck_pos (vp_in_nI (by omega) (by decide)), ix_nI (by omega), h.2.2.2 i z]
        have := r4 z
        unfold isSp at this
        have hc := h.2.2.1 i z
        rw [if_neg]
        intro e
        have e' := (nI_eq (a := T i) (b := 32) (by omega) (by omega)).mp e
        rw [e'] at this
        cases this
      · rw [if_pos (nI_le (by omega) (by omega))]
    | succ d ih =>
      intro m i M hi hm hp h h4
      obtain ⟨m, rfl⟩ : ∃ k, m = k + 1 := ⟨m - 1, by omega⟩
      have z : i < t := by omega
      have hs := hp i (Nat.le_refl _) (by omega)
      unfold isSp at hs
      have hs' : T i = 32 := of_decide_eq_true hs
      have f : Fr (fun i k => i = 49 ∧ k = 4) M (up M 49 4 (nI (i + 1))) := Fr.rf.put rfl ⟨rfl, rfl⟩
      obtain ⟨M1, a, b, c⟩ := ih m (i + 1) (up M 49 4 (nI (i + 1))) (by omega) (by omega) (fun k a b => hp k (by omega) b) (h.fr f (by omega) (fun k => by omega)) (by rw [up_ap, if_pos ⟨rfl, rfl⟩])
      refine ⟨M1, ?_, b, f.trans c⟩
      rw [← a]
      show f_X2_step_b0 (f_X2_step_l0 m) M = _
      unfold f_X2_step_b0
      rw [h.2.1, h4, if_neg (nI_ge z (by omega)), ck_pos (vp_in_nI (by omega) (by decide)), ix_nI (by omega), h.2.2.2 i z, hs', if_pos (by decide)]
      simp only [letv, nI_1]
  exact key (j - i) m i M (by omega) hm (fun k a b => r3 k a b) h h4
theorem x_letters (i j : Nat) (m : Nat) (h : TXc t T M) (hr : Run isLt T t i j) (hm : j - i < m) (h4 : M 49 4 = nI i) : ∃ M1, f_X2_takeWord_l5 m M = some M1 ∧ M1 49 4 = nI j ∧ Fr (fun i k => i = 49 ∧ k = 4) M M1 := by
  obtain ⟨r1, r2, r3, r4⟩ := hr
  have ht := h.1
  have key : ∀ (d m i : Nat) (M : Mem), i + d = j → d < m → (∀ k, i ≤ k → k < j → isLt (T k) = true) → TXc t T M → M 49 4 = nI i → ∃ M1, f_X2_takeWord_l5 m M = some M1 ∧ M1 49 4 = nI j ∧ Fr (fun i k => i = 49 ∧ k = 4) M M1 := by
    intro d
    induction d with
    | zero =>
      intro m i M hi hm hp h h4
      obtain ⟨m, rfl⟩ : ∃ k, m = k + 1 := ⟨m - 1, by omega⟩
      have hij : i = j := by omega
      subst hij
      refine ⟨M, ?_, h4, Fr.rf⟩
      show f_X2_takeWord_b5 (f_X2_takeWord_l5 m) M = _
      unfold f_X2_takeWord_b5
      rw [h.2.1, h4]
      by_cases z : i < t
      · rw [if_neg (nI_ge z (by omega)), ck_pos (vp_in_nI (by omega) (by decide)), ix_nI (by omega), h.2.2.2 i z, x_isLetter, dL (h.2.2.1 i z), r4 z]
        rfl
      · rw [if_pos (nI_le (by omega) (by omega))]
    | succ d ih =>
      intro m i M hi hm hp h h4
      obtain ⟨m, rfl⟩ : ∃ k, m = k + 1 := ⟨m - 1, by omega⟩
      have z : i < t := by omega
      have hs := hp i (Nat.le_refl _) (by omega)
      have f : Fr (fun i k => i = 49 ∧ k = 4) M (up M 49 4 (nI (i + 1))) := Fr.rf.put rfl ⟨rfl, rfl⟩
      obtain ⟨M1, a, b, c⟩ := ih m (i + 1) (up M 49 4 (nI (i + 1))) (by omega) (by omega) (fun k a b => hp k (by omega) b) (h.fr f (by omega) (fun k => by omega)) (by rw [up_ap, if_pos ⟨rfl, rfl⟩])
      refine ⟨M1, ?_, b, f.trans c⟩
      rw [← a]
      show f_X2_takeWord_b5 (f_X2_takeWord_l5 m) M = _
      unfold f_X2_takeWord_b5
      rw [h.2.1, h4, if_neg (nI_ge z (by omega)), ck_pos (vp_in_nI (by omega) (by decide)), ix_nI (by omega), h.2.2.2 i z, x_isLetter, dL (h.2.2.1 i z), hs, bs, ib, if_pos rfl]
      simp only [letv, nI_1]
  exact key (j - i) m i M (by omega) hm (fun k a b => r3 k a b) h h4
theorem x_digits (a j : Nat) (m : Nat) (h : TXc t T M) (hr : Run isDg T t a j) (hm : j - a < m) (h4 : M 49 4 = nI a) (h3 : M 49 3 = 0) : ∃ M1, f_X2_takeNumber_l10 m M = some M1 ∧ M1 49 4 = nI j ∧ M1 49 3 = nI (vN T a (j - a)) ∧ Fr (fun i k => i = 49 ∧ (k = 3 ∨ k = 4)) M M1 := by
  obtain ⟨r1, r2, r3, r4⟩ := hr
  have ht := h.1
  have key : ∀ (d m i : Nat) (M : Mem), i + d = j → a ≤ i → d < m → TXc t T M → M 49 4 = nI i → M 49 3 = nI (vN T a (i - a)) → ∃ M1, f_X2_takeNumber_l10 m M = some M1 ∧ M1 49 4 = nI j ∧ M1 49 3 = nI (vN T a (j - a)) ∧ Fr (fun i k => i = 49 ∧ (k = 3 ∨ k = 4)) M M1 := by
    intro d
    induction d with
    | zero =>
      intro m i M hi hai hm h h4 h3
      obtain ⟨m, rfl⟩ : ∃ k, m = k + 1 := ⟨m - 1, by omega⟩
      have hij : i = j := by omega
      subst hij
      refine ⟨M, ?_, h4, h3, Fr.rf⟩
      show f_X2_takeNumber_b10 (f_X2_takeNumber_l10 m) M = _
      unfold f_X2_takeNumber_b10
      rw [h.2.1, h4]
      by_cases z : i < t
      · rw [if_neg (nI_ge z (by omega)), ck_pos (vp_in_nI (by omega) (by decide)), ix_nI (by omega), h.2.2.2 i z, x_isDigit, dD (h.2.2.1 i z), r4 z]
        rfl
      · rw [if_pos (nI_le (by omega) (by omega))]
    | succ d ih =>
      intro m i M hi hai hm h h4 h3
      obtain ⟨m, rfl⟩ : ∃ k, m = k + 1 := ⟨m - 1, by omega⟩
      have z : i < t := by omega
      have hc := h.2.2.1 i z
      have hs := r3 i hai (by omega)
      have hs2 := of_decide_eq_true hs
      have hv := vN_le T a (i - a)
      have f : Fr (fun i k => i = 49 ∧ (k = 3 ∨ k = 4)) M (up (up M 49 3 (nI (vN T a (i + 1 - a)))) 49 4 (nI (i + 1))) := (Fr.rf.put rfl ⟨rfl, Or.inl rfl⟩).put rfl ⟨rfl, Or.inr rfl⟩
      obtain ⟨M1, e1, e2, e3, c⟩ := ih m (i + 1) _ (by omega) (by omega) (by omega) (h.fr f (by omega) (fun k => by omega)) (by rw [up_ap, if_pos ⟨rfl, rfl⟩]) (by rw [up_ap, if_neg (by omega), up_ap, if_pos ⟨rfl, rfl⟩])
      refine ⟨M1, ?_, e2, e3, f.trans c⟩
      rw [← e1]
      show f_X2_takeNumber_b10 (f_X2_takeNumber_l10 m) M = _
      unfold f_X2_takeNumber_b10
      have en : mnI ((10 : Int32) * nI (vN T a (i - a)) + nI (T i) - 48) 100000 = nI (vN T a (i + 1 - a)) := by
        rw [show (10 : Int32) = nI 10 from rfl, pk_mul, nI_add, show (48 : Int32) = nI 48 from rfl, pk_sub (by omega), show i + 1 - a = (i - a) + 1 by omega]
        show mnI _ (nI 100000) = nI (min (10 * vN T a (i - a) + T (a + (i - a)) - 48) 100000)
        rw [show a + (i - a) = i by omega]
        unfold mnI
        by_cases y : 100000 < 10 * vN T a (i - a) + T i - 48
        · rw [if_pos (nI_lt y (by omega)), Nat.min_eq_right (by omega)]
        · rw [if_neg (nI_nlt (by omega) (by omega)), Nat.min_eq_left (by omega)]
      rw [h.2.1, h4, if_neg (nI_ge z (by omega)), ck_pos (vp_in_nI (by omega) (by decide)), ix_nI (by omega), h.2.2.2 i z, x_isDigit, dD hc, hs, bs, ib, if_pos rfl, ck_pos (vp_in_nI (by omega) (by decide)), h3, en]
      simp only [letv]
      rw [up_ap M 49 3 _ 49 4, if_neg (by omega), h4, nI_1]
  exact key (j - a) m a M (by omega) (Nat.le_refl _) hm h h4 (by rw [Nat.sub_self]; exact h3)
end TOK
