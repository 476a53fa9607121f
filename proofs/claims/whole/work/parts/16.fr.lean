def Fr (T : Nat → Nat → Prop) (M M' : Mem) : Prop := ∀ i k, ¬ T i k → M' i k = M i k
theorem Fr.rf {T : Nat → Nat → Prop} {M : Mem} : Fr T M M := fun _ _ _ => rfl
theorem Fr.trans {T : Nat → Nat → Prop} {M M1 M2 : Mem} (h : Fr T M M1) (h2 : Fr T M1 M2) : Fr T M M2 := fun i k hn => (h2 i k hn).trans (h i k hn)
theorem Fr.mono {T T' : Nat → Nat → Prop} {M M1 : Mem} (h : Fr T M M1) (hs : ∀ i k, T i k → T' i k) : Fr T' M M1 := fun i k hn => h i k (fun z => hn (hs i k z))
theorem Fr.put {T : Nat → Nat → Prop} {M M1 M2 : Mem} {a b : Nat} {v : Int32} (h : Fr T M M1) (e : M2 = up M1 a b v) (ht : T a b) : Fr T M M2 := by
  intro i k hn
  rw [← h i k hn, e]
  show (if i = a then upd (M1 a) b v else M1 i) k = M1 i k
  by_cases h1 : i = a
  · rw [if_pos h1]
    show (if k = b then v else M1 a k) = M1 i k
    by_cases h2 : k = b
    · subst h1; subst h2; exact absurd ht hn
    · rw [if_neg h2, h1]
  · rw [if_neg h1]
theorem Fr.cp {T : Nat → Nat → Prop} {M M1 M2 : Mem} {a b : Nat} {sp dp n : Int32} (h : Fr T M M1) (e : M2 = cpM M1 a sp b dp n) (ht : ∀ k, T b k) : Fr T M M2 := by
  intro i k hn
  rw [← h i k hn, e]
  show (if i = b then va_cpy (M1 a) (M1 b) (ix sp) (ix dp) (ix n) else M1 i) k = M1 i k
  by_cases h1 : i = b
  · subst h1; exact absurd (ht k) hn
  · rw [if_neg h1]
theorem letv_ex {α β : Type} {a : α} {k : α → β} {R : β} (h : letv a k = R) : ∃ y, y = a ∧ k y = R := ⟨a, rfl, h⟩
theorem ite_or {α : Type} {c : Prop} [Decidable c] {A B R : α} (h : (if c then A else B) = R) : A = R ∨ B = R := by
  by_cases hc : c
  · rw [if_pos hc] at h; exact Or.inl h
  · rw [if_neg hc] at h; exact Or.inr h
theorem fr_X0_become {r0 r1 : Nat} {M : Mem} {R : Mem} (h : f_X0_become r0 r1 M = some R) : Fr (fun i k => (r0 ≤ i ∧ i < r0 + 7)) M R := by
  have F : Fr (fun i k => (r0 ≤ i ∧ i < r0 + 7)) M M := Fr.rf
  unfold f_X0_become at h
  obtain ⟨M_1, hM_1, h⟩ := letv_ex h
  replace F := F.put hM_1 (by omega)
  obtain ⟨_, h⟩ := ck_some h
  obtain ⟨M_2, hM_2, h⟩ := letv_ex h
  replace F := F.cp hM_2 (fun k => by omega)
  obtain ⟨_, h⟩ := ck_some h
  obtain ⟨M_4, hM_4, h⟩ := letv_ex h
  replace F := F.cp hM_4 (fun k => by omega)
  obtain ⟨_, h⟩ := ck_some h
  obtain ⟨M_6, hM_6, h⟩ := letv_ex h
  replace F := F.cp hM_6 (fun k => by omega)
  obtain ⟨_, h⟩ := ck_some h
  obtain ⟨M_8, hM_8, h⟩ := letv_ex h
  replace F := F.cp hM_8 (fun k => by omega)
  obtain ⟨_, h⟩ := ck_some h
  obtain ⟨M_10, hM_10, h⟩ := letv_ex h
  replace F := F.cp hM_10 (fun k => by omega)
  obtain ⟨_, h⟩ := ck_some h
  obtain ⟨M_12, hM_12, h⟩ := letv_ex h
  replace F := F.cp hM_12 (fun k => by omega)
  rw [← Option.some.inj h]; exact F
theorem fr_X0_addOne {r0 : Nat} {x1 : Int32} {M : Mem} {R : Int32 × Mem} (h : f_X0_addOne r0 x1 M = some R) : Fr (fun i k => (r0 ≤ i ∧ i < r0 + 7)) M R.2 := by
  have F : Fr (fun i k => (r0 ≤ i ∧ i < r0 + 7)) M M := Fr.rf
  unfold f_X0_addOne at h
  rcases ite_or h with h | h
  · obtain ⟨x2_1, _, h⟩ := letv_ex h
    obtain ⟨M_2, hM_2, h⟩ := letv_ex h
    replace F := F.put hM_2 (by omega)
    obtain ⟨_, h⟩ := ck_some h
    obtain ⟨M_4, hM_4, h⟩ := letv_ex h
    replace F := F.put hM_4 (by omega)
    obtain ⟨_, h⟩ := ck_some h
    obtain ⟨M_6, hM_6, h⟩ := letv_ex h
    replace F := F.put hM_6 (by omega)
    obtain ⟨_, h⟩ := ck_some h
    obtain ⟨M_8, hM_8, h⟩ := letv_ex h
    replace F := F.put hM_8 (by omega)
    obtain ⟨_, h⟩ := ck_some h
    obtain ⟨M_10, hM_10, h⟩ := letv_ex h
    replace F := F.put hM_10 (by omega)
    obtain ⟨_, h⟩ := ck_some h
    obtain ⟨M_12, hM_12, h⟩ := letv_ex h
    replace F := F.put hM_12 (by omega)
    obtain ⟨_, h⟩ := ck_some h
    obtain ⟨M_14, hM_14, h⟩ := letv_ex h
    replace F := F.put hM_14 (by omega)
    rw [← Option.some.inj h]; exact F
  · rw [← Option.some.inj h]; exact F
theorem fr_X0_bind {r0 : Nat} {x1 : Int32} {x2 : Int32} {x3 : Int32} {M : Mem} {R : Mem} (h : f_X0_bind r0 x1 x2 x3 M = some R) : Fr (fun i k => (r0 ≤ i ∧ i < r0 + 7)) M R := by
  have F : Fr (fun i k => (r0 ≤ i ∧ i < r0 + 7)) M M := Fr.rf
  unfold f_X0_bind at h
  rcases ite_or h with h | h
  · obtain ⟨_, h⟩ := ck_some h
    obtain ⟨_, h⟩ := ck_some h
    obtain ⟨M_3, hM_3, h⟩ := letv_ex h
    replace F := F.put hM_3 (by omega)
    obtain ⟨_, h⟩ := ck_some h
    obtain ⟨_, h⟩ := ck_some h
    obtain ⟨M_6, hM_6, h⟩ := letv_ex h
    replace F := F.put hM_6 (by omega)
    rw [← Option.some.inj h]; exact F
  · obtain ⟨_, h⟩ := ck_some h
    obtain ⟨_, h⟩ := ck_some h
    obtain ⟨M_9, hM_9, h⟩ := letv_ex h
    replace F := F.put hM_9 (by omega)
    obtain ⟨_, h⟩ := ck_some h
    obtain ⟨_, h⟩ := ck_some h
    obtain ⟨M_12, hM_12, h⟩ := letv_ex h
    replace F := F.put hM_12 (by omega)
    rw [← Option.some.inj h]; exact F
theorem fr_X1_lay_b25 {k25 : Int32 → Int32 → Mem → Option (Int32 × Mem)} (hk25 : ∀ (x1 : Int32) (x4 : Int32) (M : Mem) (R : Int32 × Mem), k25 x1 x4 M = some R → Fr (fun i k => (52 ≤ i ∧ i < 52 + 4)) M R.2) {x1 : Int32} {x4 : Int32} {M : Mem} {R : Int32 × Mem} (h : f_X1_lay_b25 k25 x1 x4 M = some R) : Fr (fun i k => (52 ≤ i ∧ i < 52 + 4)) M R.2 := by
  have F : Fr (fun i k => (52 ≤ i ∧ i < 52 + 4)) M M := Fr.rf
  unfold f_X1_lay_b25 at h
  rcases ite_or h with h | h
  · obtain ⟨_, h⟩ := ck_some h
    rw [← Option.some.inj h]; exact F
  · obtain ⟨_, h⟩ := ck_some h
    obtain ⟨M_9, hM_9, h⟩ := letv_ex h
    replace F := F.put hM_9 (by omega)
    exact F.trans (hk25 _ _ _ _ h)
theorem fr_X1_lay_l25 : ∀ (n : Nat) (x1 : Int32) (x4 : Int32) (M : Mem) (R : Int32 × Mem), f_X1_lay_l25 n x1 x4 M = some R → Fr (fun i k => (52 ≤ i ∧ i < 52 + 4)) M R.2 := by
  intro n
  induction n with
  | zero => intro x1 x4 M R h; cases h
  | succ n ih => intro x1 x4 M R h; exact fr_X1_lay_b25 ih h
theorem fr_X1_lay {x1 : Int32} {x2 : Int32} {x3 : Int32} {M : Mem} {R : Int32 × Mem} (h : f_X1_lay x1 x2 x3 M = some R) : Fr (fun i k => (52 ≤ i ∧ i < 52 + 4)) M R.2 := by
  have F : Fr (fun i k => (52 ≤ i ∧ i < 52 + 4)) M M := Fr.rf
  unfold f_X1_lay at h
  obtain ⟨_, h⟩ := ck_some h
  obtain ⟨M_2, hM_2, h⟩ := letv_ex h
  replace F := F.put hM_2 (by omega)
  rcases ite_or h with h | h
  · obtain ⟨_, h⟩ := ck_some h
    obtain ⟨M_6, hM_6, h⟩ := letv_ex h
    replace F := F.put hM_6 (by omega)
    exact F.trans (fr_X1_lay_l25 _ _ _ _ _ h)
  · obtain ⟨_, h⟩ := ck_some h
    obtain ⟨M_4, hM_4, h⟩ := letv_ex h
    replace F := F.put hM_4 (by omega)
    exact F.trans (fr_X1_lay_l25 _ _ _ _ _ h)
theorem fr_X1_note_j18 {x1 : Int32} {x2 : Int32} {x3 : Int32} {x4 : Int32} {M : Mem} {R : Mem} (h : f_X1_note_j18 x1 x2 x3 x4 M = some R) : Fr (fun i k => (52 ≤ i ∧ i < 52 + 4)) M R := by
  have F : Fr (fun i k => (52 ≤ i ∧ i < 52 + 4)) M M := Fr.rf
  unfold f_X1_note_j18 at h
  obtain ⟨_, h⟩ := ck_some h
  rcases ite_or h with h | h
  · obtain ⟨x4_6, _, h⟩ := letv_ex h
    obtain ⟨_, h⟩ := ck_some h
    obtain ⟨M_8, hM_8, h⟩ := letv_ex h
    replace F := F.put hM_8 (by omega)
    rw [← Option.some.inj h]; exact F
  · obtain ⟨_, h⟩ := ck_some h
    obtain ⟨M_5, hM_5, h⟩ := letv_ex h
    replace F := F.put hM_5 (by omega)
    rw [← Option.some.inj h]; exact F
theorem fr_X1_note {x1 : Int32} {x2 : Int32} {x3 : Int32} {M : Mem} {R : Mem} (h : f_X1_note x1 x2 x3 M = some R) : Fr (fun i k => (52 ≤ i ∧ i < 52 + 4)) M R := by
  have F : Fr (fun i k => (52 ≤ i ∧ i < 52 + 4)) M M := Fr.rf
  unfold f_X1_note at h
  obtain ⟨_, h⟩ := ck_some h
  rcases ite_or h with h | h
  · obtain ⟨x4_2, _, h⟩ := letv_ex h
    exact F.trans (fr_X1_note_j18 h)
  · exact F.trans (fr_X1_note_j18 h)
theorem fr_X1_move {x1 : Int32} {x2 : Int32} {x3 : Int32} {x4 : Int32} {x5 : Int32} {M : Mem} {R : Mem} (h : f_X1_move x1 x2 x3 x4 x5 M = some R) : Fr (fun i k => (52 ≤ i ∧ i < 52 + 4)) M R := by
  have F : Fr (fun i k => (52 ≤ i ∧ i < 52 + 4)) M M := Fr.rf
  unfold f_X1_move at h
  obtain ⟨_, h⟩ := ck_some h
  obtain ⟨M_1, hM_1, h⟩ := letv_ex h
  replace F := F.cp hM_1 (fun k => by omega)
  rw [← Option.some.inj h]; exact F
theorem fr_X2_take_b4 {k4 : Int32 → Int32 → Mem → Option (Mem)} (hk4 : ∀ (x1 : Int32) (x3 : Int32) (M : Mem) (R : Mem), k4 x1 x3 M = some R → Fr (fun i k => (49 ≤ i ∧ i < 49 + 2)) M R) {x1 : Int32} {x3 : Int32} {M : Mem} {R : Mem} (h : f_X2_take_b4 k4 x1 x3 M = some R) : Fr (fun i k => (49 ≤ i ∧ i < 49 + 2)) M R := by
  have F : Fr (fun i k => (49 ≤ i ∧ i < 49 + 2)) M M := Fr.rf
  unfold f_X2_take_b4 at h
  rcases ite_or h with h | h
  · rw [← Option.some.inj h]; exact F
  · rcases ite_or h with h | h
    · rw [← Option.some.inj h]; exact F
    · obtain ⟨_, h⟩ := ck_some h
      obtain ⟨M_3, hM_3, h⟩ := letv_ex h
      replace F := F.put hM_3 (by omega)
      obtain ⟨M_4, hM_4, h⟩ := letv_ex h
      replace F := F.put hM_4 (by omega)
      exact F.trans (hk4 _ _ _ _ h)
theorem fr_X2_take_l4 : ∀ (n : Nat) (x1 : Int32) (x3 : Int32) (M : Mem) (R : Mem), f_X2_take_l4 n x1 x3 M = some R → Fr (fun i k => (49 ≤ i ∧ i < 49 + 2)) M R := by
  intro n
  induction n with
  | zero => intro x1 x3 M R h; cases h
  | succ n ih => intro x1 x3 M R h; exact fr_X2_take_b4 ih h
theorem fr_X2_take {x1 : Int32} {x2 : Int32} {M : Mem} {R : Mem} (h : f_X2_take x1 x2 M = some R) : Fr (fun i k => (49 ≤ i ∧ i < 49 + 2)) M R := by
  have F : Fr (fun i k => (49 ≤ i ∧ i < 49 + 2)) M M := Fr.rf
  unfold f_X2_take at h
  obtain ⟨x3_1, _, h⟩ := letv_ex h
  exact F.trans (fr_X2_take_l4 _ _ _ _ _ h)
theorem fr_X2_takeNumber_b10 {k10 : Mem → Option (Mem)} (hk10 : ∀ (M : Mem) (R : Mem), k10 M = some R → Fr (fun i k => (49 ≤ i ∧ i < 49 + 2)) M R) {M : Mem} {R : Mem} (h : f_X2_takeNumber_b10 k10 M = some R) : Fr (fun i k => (49 ≤ i ∧ i < 49 + 2)) M R := by
  have F : Fr (fun i k => (49 ≤ i ∧ i < 49 + 2)) M M := Fr.rf
  unfold f_X2_takeNumber_b10 at h
  rcases ite_or h with h | h
  · rw [← Option.some.inj h]; exact F
  · obtain ⟨_, h⟩ := ck_some h
    obtain ⟨r_4, hr_4, h⟩ := bnd h
    clear hr_4
    rcases ite_or h with h | h
    · rw [← Option.some.inj h]; exact F
    · obtain ⟨_, h⟩ := ck_some h
      obtain ⟨M_6, hM_6, h⟩ := letv_ex h
      replace F := F.put hM_6 (by omega)
      obtain ⟨M_7, hM_7, h⟩ := letv_ex h
      replace F := F.put hM_7 (by omega)
      exact F.trans (hk10 _ _ h)
theorem fr_X2_takeNumber_l10 : ∀ (n : Nat) (M : Mem) (R : Mem), f_X2_takeNumber_l10 n M = some R → Fr (fun i k => (49 ≤ i ∧ i < 49 + 2)) M R := by
  intro n
  induction n with
  | zero => intro M R h; cases h
  | succ n ih => intro M R h; exact fr_X2_takeNumber_b10 ih h
theorem fr_X2_takeNumber {M : Mem} {R : Mem} (h : f_X2_takeNumber M = some R) : Fr (fun i k => (49 ≤ i ∧ i < 49 + 2)) M R := by
  have F : Fr (fun i k => (49 ≤ i ∧ i < 49 + 2)) M M := Fr.rf
  unfold f_X2_takeNumber at h
  obtain ⟨M_1, hM_1, h⟩ := letv_ex h
  replace F := F.put hM_1 (by omega)
  obtain ⟨M_2, hM_2, h⟩ := letv_ex h
  replace F := F.put hM_2 (by omega)
  exact F.trans (fr_X2_takeNumber_l10 _ _ _ h)
theorem fr_X2_takeWord_b5 {k5 : Mem → Option (Mem)} (hk5 : ∀ (M : Mem) (R : Mem), k5 M = some R → Fr (fun i k => (49 ≤ i ∧ i < 49 + 2)) M R) {M : Mem} {R : Mem} (h : f_X2_takeWord_b5 k5 M = some R) : Fr (fun i k => (49 ≤ i ∧ i < 49 + 2)) M R := by
  have F : Fr (fun i k => (49 ≤ i ∧ i < 49 + 2)) M M := Fr.rf
  unfold f_X2_takeWord_b5 at h
  rcases ite_or h with h | h
  · rw [← Option.some.inj h]; exact F
  · obtain ⟨_, h⟩ := ck_some h
    obtain ⟨r_3, hr_3, h⟩ := bnd h
    clear hr_3
    rcases ite_or h with h | h
    · rw [← Option.some.inj h]; exact F
    · obtain ⟨M_4, hM_4, h⟩ := letv_ex h
      replace F := F.put hM_4 (by omega)
      exact F.trans (hk5 _ _ h)
theorem fr_X2_takeWord_l5 : ∀ (n : Nat) (M : Mem) (R : Mem), f_X2_takeWord_l5 n M = some R → Fr (fun i k => (49 ≤ i ∧ i < 49 + 2)) M R := by
  intro n
  induction n with
  | zero => intro M R h; cases h
  | succ n ih => intro M R h; exact fr_X2_takeWord_b5 ih h
theorem fr_X2_takeWord {M : Mem} {R : Mem} (h : f_X2_takeWord M = some R) : Fr (fun i k => (49 ≤ i ∧ i < 49 + 2)) M R := by
  have F : Fr (fun i k => (49 ≤ i ∧ i < 49 + 2)) M M := Fr.rf
  unfold f_X2_takeWord at h
  obtain ⟨M_1, hM_1, h⟩ := letv_ex h
  replace F := F.put hM_1 (by omega)
  exact F.trans (fr_X2_takeWord_l5 _ _ _ h)
theorem fr_X2_step_j38 {M : Mem} {R : Mem} (h : f_X2_step_j38 M = some R) : Fr (fun i k => (49 ≤ i ∧ i < 49 + 2)) M R := by
  have F : Fr (fun i k => (49 ≤ i ∧ i < 49 + 2)) M M := Fr.rf
  unfold f_X2_step_j38 at h
  obtain ⟨M_5, hM_5, h⟩ := letv_ex h
  replace F := F.put hM_5 (by omega)
  rcases ite_or h with h | h
  · obtain ⟨_, h⟩ := ck_some h
    obtain ⟨r_7, hr_7, h⟩ := bnd h
    clear hr_7
    rcases ite_or h with h | h
    · obtain ⟨_, h⟩ := ck_some h
      obtain ⟨r_9, hr_9, h⟩ := bnd h
      clear hr_9
      rcases ite_or h with h | h
      · obtain ⟨_, h⟩ := ck_some h
        rcases ite_or h with h | h
        · obtain ⟨M_12, hM_12, h⟩ := letv_ex h
          replace F := F.put hM_12 (by omega)
          obtain ⟨M_13, hM_13, h⟩ := letv_ex h
          replace F := F.put hM_13 (by omega)
          rw [← Option.some.inj h]; exact F
        · obtain ⟨M_11, hM_11, h⟩ := letv_ex h
          replace F := F.put hM_11 (by omega)
          rw [← Option.some.inj h]; exact F
      · obtain ⟨r_14, hr_14, h⟩ := bnd h
        replace F := F.trans ((fr_X2_takeNumber hr_14).mono (fun i k h => by omega))
        rw [← Option.some.inj h]; exact F
    · obtain ⟨r_15, hr_15, h⟩ := bnd h
      replace F := F.trans ((fr_X2_takeWord hr_15).mono (fun i k h => by omega))
      rw [← Option.some.inj h]; exact F
  · obtain ⟨M_16, hM_16, h⟩ := letv_ex h
    replace F := F.put hM_16 (by omega)
    rw [← Option.some.inj h]; exact F
theorem fr_X2_step_b0 {k0 : Mem → Option (Mem)} (hk0 : ∀ (M : Mem) (R : Mem), k0 M = some R → Fr (fun i k => (49 ≤ i ∧ i < 49 + 2)) M R) {M : Mem} {R : Mem} (h : f_X2_step_b0 k0 M = some R) : Fr (fun i k => (49 ≤ i ∧ i < 49 + 2)) M R := by
  have F : Fr (fun i k => (49 ≤ i ∧ i < 49 + 2)) M M := Fr.rf
  unfold f_X2_step_b0 at h
  rcases ite_or h with h | h
  · exact F.trans (fr_X2_step_j38 h)
  · obtain ⟨_, h⟩ := ck_some h
    rcases ite_or h with h | h
    · obtain ⟨M_4, hM_4, h⟩ := letv_ex h
      replace F := F.put hM_4 (by omega)
      exact F.trans (hk0 _ _ h)
    · exact F.trans (fr_X2_step_j38 h)
theorem fr_X2_step_l0 : ∀ (n : Nat) (M : Mem) (R : Mem), f_X2_step_l0 n M = some R → Fr (fun i k => (49 ≤ i ∧ i < 49 + 2)) M R := by
  intro n
  induction n with
  | zero => intro M R h; cases h
  | succ n ih => intro M R h; exact fr_X2_step_b0 ih h
theorem fr_X2_step {M : Mem} {R : Mem} (h : f_X2_step M = some R) : Fr (fun i k => (49 ≤ i ∧ i < 49 + 2)) M R := by
  have F : Fr (fun i k => (49 ≤ i ∧ i < 49 + 2)) M M := Fr.rf
  unfold f_X2_step at h
  rcases ite_or h with h | h
  · exact F.trans (fr_X2_step_j38 h)
  · obtain ⟨_, h⟩ := ck_some h
    rcases ite_or h with h | h
    · obtain ⟨M_2, hM_2, h⟩ := letv_ex h
      replace F := F.put hM_2 (by omega)
      exact F.trans (fr_X2_step_l0 _ _ _ h)
    · exact F.trans (fr_X2_step_j38 h)
theorem fr_X2_rewind {M : Mem} {R : Mem} (h : f_X2_rewind M = some R) : Fr (fun i k => (49 ≤ i ∧ i < 49 + 2)) M R := by
  have F : Fr (fun i k => (49 ≤ i ∧ i < 49 + 2)) M M := Fr.rf
  unfold f_X2_rewind at h
  obtain ⟨M_1, hM_1, h⟩ := letv_ex h
  replace F := F.put hM_1 (by omega)
  obtain ⟨r_2, hr_2, h⟩ := bnd h
  replace F := F.trans ((fr_X2_step hr_2).mono (fun i k h => by omega))
  rw [← Option.some.inj h]; exact F
theorem fr_X3_perhapsMarks_b38 {r1 r2 : Nat} {k38 : Int32 → Int32 → Int32 → Mem → Option (Bool × Mem)} (hk38 : ∀ (x3 : Int32) (x4 : Int32) (x5 : Int32) (M : Mem) (R : Bool × Mem), k38 x3 x4 x5 M = some R → Fr (fun i k => i = r2 ∨ (49 ≤ i ∧ i < 49 + 2)) M R.2) {x3 : Int32} {x4 : Int32} {x5 : Int32} {M : Mem} {R : Bool × Mem} (h : f_X3_perhapsMarks_b38 r1 r2 k38 x3 x4 x5 M = some R) : Fr (fun i k => i = r2 ∨ (49 ≤ i ∧ i < 49 + 2)) M R.2 := by
  have F : Fr (fun i k => i = r2 ∨ (49 ≤ i ∧ i < 49 + 2)) M M := Fr.rf
  unfold f_X3_perhapsMarks_b38 at h
  rcases ite_or h with h | h
  · obtain ⟨_, h⟩ := ck_some h
    obtain ⟨M_5, hM_5, h⟩ := letv_ex h
    replace F := F.put hM_5 (by omega)
    rw [← Option.some.inj h]; exact F
  · obtain ⟨r_6, hr_6, h⟩ := bnd h
    clear hr_6
    rcases ite_or h with h | h
    · obtain ⟨_, h⟩ := ck_some h
      obtain ⟨M_8, hM_8, h⟩ := letv_ex h
      replace F := F.put hM_8 (by omega)
      rw [← Option.some.inj h]; exact F
    · obtain ⟨r_9, hr_9, h⟩ := bnd h
      clear hr_9
      rcases ite_or h with h | h
      · rw [← Option.some.inj h]; exact F
      · obtain ⟨x4_10, _, h⟩ := letv_ex h
        obtain ⟨r_11, hr_11, h⟩ := bnd h
        replace F := F.trans ((fr_X2_step hr_11).mono (fun i k h => by omega))
        exact F.trans (hk38 _ _ _ _ _ h)
theorem fr_X3_perhapsMarks_l38 {r1 r2 : Nat} : ∀ (n : Nat) (x3 : Int32) (x4 : Int32) (x5 : Int32) (M : Mem) (R : Bool × Mem), f_X3_perhapsMarks_l38 r1 r2 n x3 x4 x5 M = some R → Fr (fun i k => i = r2 ∨ (49 ≤ i ∧ i < 49 + 2)) M R.2 := by
  intro n
  induction n with
  | zero => intro x3 x4 x5 M R h; cases h
  | succ n ih => intro x3 x4 x5 M R h; exact fr_X3_perhapsMarks_b38 (r1 := r1) (r2 := r2) ih h
theorem fr_X3_perhapsMarks {r1 r2 : Nat} {x3 : Int32} {M : Mem} {R : Bool × Mem} (h : f_X3_perhapsMarks r1 r2 x3 M = some R) : Fr (fun i k => i = r2 ∨ (49 ≤ i ∧ i < 49 + 2)) M R.2 := by
  have F : Fr (fun i k => i = r2 ∨ (49 ≤ i ∧ i < 49 + 2)) M M := Fr.rf
  unfold f_X3_perhapsMarks at h
  obtain ⟨r_1, hr_1, h⟩ := bnd h
  clear hr_1
  rcases ite_or h with h | h
  · rw [← Option.some.inj h]; exact F
  · obtain ⟨r_2, hr_2, h⟩ := bnd h
    replace F := F.trans ((fr_X2_step hr_2).mono (fun i k h => by omega))
    obtain ⟨r_3, hr_3, h⟩ := bnd h
    clear hr_3
    rcases ite_or h with h | h
    · rw [← Option.some.inj h]; exact F
    · exact F.trans (fr_X3_perhapsMarks_l38 (r1 := r1) (r2 := r2) _ _ _ _ _ _ h)
theorem fr_X3_perhapsNumber {r1 r3 : Nat} {x2 : Int32} {x4 : Int32} {M : Mem} {R : Bool × Mem} (h : f_X3_perhapsNumber r1 x2 r3 x4 M = some R) : Fr (fun i k => i = r3 ∨ (49 ≤ i ∧ i < 49 + 2)) M R.2 := by
  have F : Fr (fun i k => i = r3 ∨ (49 ≤ i ∧ i < 49 + 2)) M M := Fr.rf
  unfold f_X3_perhapsNumber at h
  obtain ⟨r_1, hr_1, h⟩ := bnd h
  clear hr_1
  rcases ite_or h with h | h
  · rw [← Option.some.inj h]; exact F
  · obtain ⟨r_2, hr_2, h⟩ := bnd h
    replace F := F.trans ((fr_X2_step hr_2).mono (fun i k h => by omega))
    obtain ⟨r_3, hr_3, h⟩ := bnd h
    clear hr_3
    rcases ite_or h with h | h
    · rw [← Option.some.inj h]; exact F
    · obtain ⟨_, h⟩ := ck_some h
      obtain ⟨M_5, hM_5, h⟩ := letv_ex h
      replace F := F.put hM_5 (by omega)
      obtain ⟨r_6, hr_6, h⟩ := bnd h
      replace F := F.trans ((fr_X2_step hr_6).mono (fun i k h => by omega))
      rw [← Option.some.inj h]; exact F
theorem fr_X3_newPerson {M : Mem} {R : Bool × Mem} (h : f_X3_newPerson M = some R) : Fr (fun i k => (17 ≤ i ∧ i < 17 + 16) ∨ (49 ≤ i ∧ i < 49 + 2)) M R.2 := by
  have F : Fr (fun i k => (17 ≤ i ∧ i < 17 + 16) ∨ (49 ≤ i ∧ i < 49 + 2)) M M := Fr.rf
  unfold f_X3_newPerson at h
  rcases ite_or h with h | h
  · obtain ⟨r_1, hr_1, h⟩ := bnd h
    replace F := F.trans ((fr_X2_step hr_1).mono (fun i k h => by omega))
    obtain ⟨r_2, hr_2, h⟩ := bnd h
    clear hr_2
    rcases ite_or h with h | h
    · rw [← Option.some.inj h]; exact F
    · obtain ⟨r_3, hr_3, h⟩ := bnd h
      replace F := F.trans ((fr_X2_step hr_3).mono (fun i k h => by omega))
      obtain ⟨r_4, hr_4, h⟩ := bnd h
      clear hr_4
      rcases ite_or h with h | h
      · rw [← Option.some.inj h]; exact F
      · obtain ⟨r_5, hr_5, h⟩ := bnd h
        replace F := F.trans ((fr_X0_addOne hr_5).mono (fun i k h => by omega))
        rcases ite_or h with h | h
        · obtain ⟨r_6, hr_6, h⟩ := bnd h
          replace F := F.trans ((fr_X2_step hr_6).mono (fun i k h => by omega))
          obtain ⟨r_7, hr_7, h⟩ := bnd h
          replace F := F.trans ((fr_X3_perhapsMarks hr_7).mono (fun i k h => by omega))
          rcases ite_or h with h | h
          · rw [← Option.some.inj h]; exact F
          · obtain ⟨r_8, hr_8, h⟩ := bnd h
            replace F := F.trans ((fr_X3_perhapsNumber hr_8).mono (fun i k h => by omega))
            rcases ite_or h with h | h
            · rw [← Option.some.inj h]; exact F
            · rw [← Option.some.inj h]; exact F
        · rw [← Option.some.inj h]; exact F
  · rw [← Option.some.inj h]; exact F
theorem fr_X3_newTie {M : Mem} {R : Bool × Mem} (h : f_X3_newTie M = some R) : Fr (fun i k => (17 ≤ i ∧ i < 17 + 16) ∨ (49 ≤ i ∧ i < 49 + 2)) M R.2 := by
  have F : Fr (fun i k => (17 ≤ i ∧ i < 17 + 16) ∨ (49 ≤ i ∧ i < 49 + 2)) M M := Fr.rf
  unfold f_X3_newTie at h
  obtain ⟨x1_1, _, h⟩ := letv_ex h
  obtain ⟨r_2, hr_2, h⟩ := bnd h
  replace F := F.trans ((fr_X2_step hr_2).mono (fun i k h => by omega))
  obtain ⟨r_3, hr_3, h⟩ := bnd h
  clear hr_3
  rcases ite_or h with h | h
  · rw [← Option.some.inj h]; exact F
  · obtain ⟨x2_4, _, h⟩ := letv_ex h
    obtain ⟨r_5, hr_5, h⟩ := bnd h
    replace F := F.trans ((fr_X2_step hr_5).mono (fun i k h => by omega))
    obtain ⟨r_6, hr_6, h⟩ := bnd h
    clear hr_6
    rcases ite_or h with h | h
    · rw [← Option.some.inj h]; exact F
    · rcases ite_or h with h | h
      · rw [← Option.some.inj h]; exact F
      · obtain ⟨r_7, hr_7, h⟩ := bnd h
        replace F := F.trans ((fr_X0_bind hr_7).mono (fun i k h => by omega))
        obtain ⟨r_8, hr_8, h⟩ := bnd h
        replace F := F.trans ((fr_X2_step hr_8).mono (fun i k h => by omega))
        rw [← Option.some.inj h]; exact F
theorem fr_X5_addOne {r0 : Nat} {x1 : Int32} {M : Mem} {R : Int32 × Mem} (h : f_X5_addOne r0 x1 M = some R) : Fr (fun i k => (r0 ≤ i ∧ i < r0 + 7)) M R.2 := by
  have F : Fr (fun i k => (r0 ≤ i ∧ i < r0 + 7)) M M := Fr.rf
  unfold f_X5_addOne at h
  rcases ite_or h with h | h
  · obtain ⟨x2_1, _, h⟩ := letv_ex h
    obtain ⟨M_2, hM_2, h⟩ := letv_ex h
    replace F := F.put hM_2 (by omega)
    obtain ⟨_, h⟩ := ck_some h
    obtain ⟨M_4, hM_4, h⟩ := letv_ex h
    replace F := F.put hM_4 (by omega)
    obtain ⟨_, h⟩ := ck_some h
    obtain ⟨M_6, hM_6, h⟩ := letv_ex h
    replace F := F.put hM_6 (by omega)
    obtain ⟨_, h⟩ := ck_some h
    obtain ⟨M_8, hM_8, h⟩ := letv_ex h
    replace F := F.put hM_8 (by omega)
    obtain ⟨_, h⟩ := ck_some h
    obtain ⟨M_10, hM_10, h⟩ := letv_ex h
    replace F := F.put hM_10 (by omega)
    obtain ⟨_, h⟩ := ck_some h
    obtain ⟨M_12, hM_12, h⟩ := letv_ex h
    replace F := F.put hM_12 (by omega)
    obtain ⟨_, h⟩ := ck_some h
    obtain ⟨M_14, hM_14, h⟩ := letv_ex h
    replace F := F.put hM_14 (by omega)
    rw [← Option.some.inj h]; exact F
  · rw [← Option.some.inj h]; exact F
theorem fr_X3_newWriter {x1 : Int32} {M : Mem} {R : Bool × Mem} (h : f_X3_newWriter x1 M = some R) : Fr (fun i k => (17 ≤ i ∧ i < 17 + 16) ∨ (49 ≤ i ∧ i < 49 + 2)) M R.2 := by
  have F : Fr (fun i k => (17 ≤ i ∧ i < 17 + 16) ∨ (49 ≤ i ∧ i < 49 + 2)) M M := Fr.rf
  unfold f_X3_newWriter at h
  obtain ⟨r_1, hr_1, h⟩ := bnd h
  replace F := F.trans ((fr_X5_addOne hr_1).mono (fun i k h => by omega))
  rcases ite_or h with h | h
  · obtain ⟨r_2, hr_2, h⟩ := bnd h
    replace F := F.trans ((fr_X2_step hr_2).mono (fun i k h => by omega))
    obtain ⟨r_3, hr_3, h⟩ := bnd h
    replace F := F.trans ((fr_X3_perhapsMarks hr_3).mono (fun i k h => by omega))
    rcases ite_or h with h | h
    · rw [← Option.some.inj h]; exact F
    · obtain ⟨r_4, hr_4, h⟩ := bnd h
      replace F := F.trans ((fr_X3_perhapsMarks hr_4).mono (fun i k h => by omega))
      rcases ite_or h with h | h
      · rw [← Option.some.inj h]; exact F
      · obtain ⟨r_5, hr_5, h⟩ := bnd h
        replace F := F.trans ((fr_X3_perhapsMarks hr_5).mono (fun i k h => by omega))
        rcases ite_or h with h | h
        · rw [← Option.some.inj h]; exact F
        · obtain ⟨r_6, hr_6, h⟩ := bnd h
          replace F := F.trans ((fr_X3_perhapsNumber hr_6).mono (fun i k h => by omega))
          rcases ite_or h with h | h
          · rw [← Option.some.inj h]; exact F
          · rw [← Option.some.inj h]; exact F
  · rw [← Option.some.inj h]; exact F
theorem fr_X3_item {M : Mem} {R : Bool × Mem} (h : f_X3_item M = some R) : Fr (fun i k => (17 ≤ i ∧ i < 17 + 16) ∨ (49 ≤ i ∧ i < 49 + 2)) M R.2 := by
  have F : Fr (fun i k => (17 ≤ i ∧ i < 17 + 16) ∨ (49 ≤ i ∧ i < 49 + 2)) M M := Fr.rf
  unfold f_X3_item at h
  obtain ⟨r_1, hr_1, h⟩ := bnd h
  clear hr_1
  rcases ite_or h with h | h
  · obtain ⟨r_2, hr_2, h⟩ := bnd h
    clear hr_2
    rcases ite_or h with h | h
    · obtain ⟨r_3, hr_3, h⟩ := bnd h
      clear hr_3
      rcases ite_or h with h | h
      · rw [← Option.some.inj h]; exact F
      · obtain ⟨r_4, hr_4, h⟩ := bnd h
        replace F := F.trans ((fr_X3_newWriter hr_4).mono (fun i k h => by omega))
        rcases ite_or h with h | h
        · rw [← Option.some.inj h]; exact F
        · rw [← Option.some.inj h]; exact F
    · obtain ⟨r_5, hr_5, h⟩ := bnd h
      replace F := F.trans ((fr_X3_newTie hr_5).mono (fun i k h => by omega))
      rw [← Option.some.inj h]; exact F
  · obtain ⟨r_6, hr_6, h⟩ := bnd h
    replace F := F.trans ((fr_X3_newPerson hr_6).mono (fun i k h => by omega))
    rw [← Option.some.inj h]; exact F
theorem fr_X3_wholeText_b9 {k9 : Int32 → Mem → Option (Int32 × Mem)} (hk9 : ∀ (x1 : Int32) (M : Mem) (R : Int32 × Mem), k9 x1 M = some R → Fr (fun i k => (17 ≤ i ∧ i < 17 + 16) ∨ (49 ≤ i ∧ i < 49 + 2)) M R.2) {x1 : Int32} {M : Mem} {R : Int32 × Mem} (h : f_X3_wholeText_b9 k9 x1 M = some R) : Fr (fun i k => (17 ≤ i ∧ i < 17 + 16) ∨ (49 ≤ i ∧ i < 49 + 2)) M R.2 := by
  have F : Fr (fun i k => (17 ≤ i ∧ i < 17 + 16) ∨ (49 ≤ i ∧ i < 49 + 2)) M M := Fr.rf
  unfold f_X3_wholeText_b9 at h
  rcases ite_or h with h | h
  · rw [← Option.some.inj h]; exact F
  · obtain ⟨r_2, hr_2, h⟩ := bnd h
    replace F := F.trans ((fr_X3_item hr_2).mono (fun i k h => by omega))
    rcases ite_or h with h | h
    · rw [← Option.some.inj h]; exact F
    · obtain ⟨r_3, hr_3, h⟩ := bnd h
      clear hr_3
      rcases ite_or h with h | h
      · obtain ⟨r_4, hr_4, h⟩ := bnd h
        clear hr_4
        rcases ite_or h with h | h
        · rw [← Option.some.inj h]; exact F
        · obtain ⟨r_5, hr_5, h⟩ := bnd h
          replace F := F.trans ((fr_X2_step hr_5).mono (fun i k h => by omega))
          exact F.trans (hk9 _ _ _ h)
      · rw [← Option.some.inj h]; exact F
theorem fr_X3_wholeText_l9 : ∀ (n : Nat) (x1 : Int32) (M : Mem) (R : Int32 × Mem), f_X3_wholeText_l9 n x1 M = some R → Fr (fun i k => (17 ≤ i ∧ i < 17 + 16) ∨ (49 ≤ i ∧ i < 49 + 2)) M R.2 := by
  intro n
  induction n with
  | zero => intro x1 M R h; cases h
  | succ n ih => intro x1 M R h; exact fr_X3_wholeText_b9 ih h
theorem fr_X3_wholeText {M : Mem} {R : Int32 × Mem} (h : f_X3_wholeText M = some R) : Fr (fun i k => (17 ≤ i ∧ i < 17 + 16) ∨ (49 ≤ i ∧ i < 49 + 2)) M R.2 := by
  have F : Fr (fun i k => (17 ≤ i ∧ i < 17 + 16) ∨ (49 ≤ i ∧ i < 49 + 2)) M M := Fr.rf
  unfold f_X3_wholeText at h
  obtain ⟨r_1, hr_1, h⟩ := bnd h
  replace F := F.trans ((fr_X2_rewind hr_1).mono (fun i k h => by omega))
  exact F.trans (fr_X3_wholeText_l9 _ _ _ _ h)
theorem fr_X5_become {r0 r1 : Nat} {M : Mem} {R : Mem} (h : f_X5_become r0 r1 M = some R) : Fr (fun i k => (r0 ≤ i ∧ i < r0 + 7)) M R := by
  have F : Fr (fun i k => (r0 ≤ i ∧ i < r0 + 7)) M M := Fr.rf
  unfold f_X5_become at h
  obtain ⟨M_1, hM_1, h⟩ := letv_ex h
  replace F := F.put hM_1 (by omega)
  obtain ⟨_, h⟩ := ck_some h
  obtain ⟨M_2, hM_2, h⟩ := letv_ex h
  replace F := F.cp hM_2 (fun k => by omega)
  obtain ⟨_, h⟩ := ck_some h
  obtain ⟨M_4, hM_4, h⟩ := letv_ex h
  replace F := F.cp hM_4 (fun k => by omega)
  obtain ⟨_, h⟩ := ck_some h
  obtain ⟨M_6, hM_6, h⟩ := letv_ex h
  replace F := F.cp hM_6 (fun k => by omega)
  obtain ⟨_, h⟩ := ck_some h
  obtain ⟨M_8, hM_8, h⟩ := letv_ex h
  replace F := F.cp hM_8 (fun k => by omega)
  obtain ⟨_, h⟩ := ck_some h
  obtain ⟨M_10, hM_10, h⟩ := letv_ex h
  replace F := F.cp hM_10 (fun k => by omega)
  obtain ⟨_, h⟩ := ck_some h
  obtain ⟨M_12, hM_12, h⟩ := letv_ex h
  replace F := F.cp hM_12 (fun k => by omega)
  rw [← Option.some.inj h]; exact F
theorem fr_X4_become {r0 r1 : Nat} {M : Mem} {R : Mem} (h : f_X4_become r0 r1 M = some R) : Fr (fun i k => (r0 ≤ i ∧ i < r0 + 16)) M R := by
  have F : Fr (fun i k => (r0 ≤ i ∧ i < r0 + 16)) M M := Fr.rf
  unfold f_X4_become at h
  obtain ⟨r_1, hr_1, h⟩ := bnd h
  replace F := F.trans ((fr_X5_become hr_1).mono (fun i k h => by omega))
  obtain ⟨r_2, hr_2, h⟩ := bnd h
  replace F := F.trans ((fr_X0_become hr_2).mono (fun i k h => by omega))
  obtain ⟨_, h⟩ := ck_some h
  obtain ⟨M_3, hM_3, h⟩ := letv_ex h
  replace F := F.cp hM_3 (fun k => by omega)
  obtain ⟨M_5, hM_5, h⟩ := letv_ex h
  replace F := F.put hM_5 (by omega)
  obtain ⟨M_6, hM_6, h⟩ := letv_ex h
  replace F := F.put hM_6 (by omega)
  obtain ⟨M_7, hM_7, h⟩ := letv_ex h
  replace F := F.put hM_7 (by omega)
  obtain ⟨M_8, hM_8, h⟩ := letv_ex h
  replace F := F.put hM_8 (by omega)
  rw [← Option.some.inj h]; exact F
theorem fr_X4_pay {r0 : Nat} {x1 : Int32} {M : Mem} {R : Mem} (h : f_X4_pay r0 x1 M = some R) : Fr (fun i k => (r0 ≤ i ∧ i < r0 + 16)) M R := by
  have F : Fr (fun i k => (r0 ≤ i ∧ i < r0 + 16)) M M := Fr.rf
  unfold f_X4_pay at h
  obtain ⟨_, h⟩ := ck_some h
  obtain ⟨x2_2, _, h⟩ := letv_ex h
  obtain ⟨_, h⟩ := ck_some h
  rcases ite_or h with h | h
  · obtain ⟨r_4, hr_4, h⟩ := bnd h
    clear hr_4
    rcases ite_or h with h | h
    · rw [← Option.some.inj h]; exact F
    · obtain ⟨_, h⟩ := ck_some h
      obtain ⟨_, h⟩ := ck_some h
      obtain ⟨_, h⟩ := ck_some h
      obtain ⟨M_8, hM_8, h⟩ := letv_ex h
      replace F := F.put hM_8 (by omega)
      obtain ⟨_, h⟩ := ck_some h
      obtain ⟨_, h⟩ := ck_some h
      obtain ⟨_, h⟩ := ck_some h
      obtain ⟨M_12, hM_12, h⟩ := letv_ex h
      replace F := F.put hM_12 (by omega)
      obtain ⟨M_13, hM_13, h⟩ := letv_ex h
      replace F := F.put hM_13 (by omega)
      rw [← Option.some.inj h]; exact F
  · rw [← Option.some.inj h]; exact F
theorem fr_X4_letter {r0 : Nat} {x1 : Int32} {x2 : Int32} {x3 : Int32} {M : Mem} {R : Int32 × Mem} (h : f_X4_letter r0 x1 x2 x3 M = some R) : Fr (fun i k => (r0 ≤ i ∧ i < r0 + 16)) M R.2 := by
  have F : Fr (fun i k => (r0 ≤ i ∧ i < r0 + 16)) M M := Fr.rf
  unfold f_X4_letter at h
  obtain ⟨_, h⟩ := ck_some h
  obtain ⟨r_2, hr_2, h⟩ := bnd h
  clear hr_2
  rcases ite_or h with h | h
  · rw [← Option.some.inj h]; exact F
  · obtain ⟨_, h⟩ := ck_some h
    obtain ⟨r_4, hr_4, h⟩ := bnd h
    clear hr_4
    rcases ite_or h with h | h
    · obtain ⟨r_5, hr_5, h⟩ := bnd h
      replace F := F.trans ((fr_X4_pay hr_5).mono (fun i k h => by omega))
      obtain ⟨r_6, hr_6, h⟩ := bnd h
      replace F := F.trans ((fr_X4_pay hr_6).mono (fun i k h => by omega))
      obtain ⟨r_7, hr_7, h⟩ := bnd h
      clear hr_7
      obtain ⟨r_8, hr_8, h⟩ := bnd h
      clear hr_8
      obtain ⟨_, h⟩ := ck_some h
      obtain ⟨_, h⟩ := ck_some h
      obtain ⟨M_11, hM_11, h⟩ := letv_ex h
      replace F := F.put hM_11 (by omega)
      obtain ⟨M_12, hM_12, h⟩ := letv_ex h
      replace F := F.put hM_12 (by omega)
      rw [← Option.some.inj h]; exact F
    · rw [← Option.some.inj h]; exact F
theorem fr_X4_passOne_b17 {r0 : Nat} {k2 : Int32 → Mem → Option (Mem)} {k17 : Int32 → Int32 → Mem → Option (Mem)} (hk2 : ∀ (x1 : Int32) (M : Mem) (R : Mem), k2 x1 M = some R → Fr (fun i k => (r0 ≤ i ∧ i < r0 + 16)) M R) (hk17 : ∀ (x1 : Int32) (x2 : Int32) (M : Mem) (R : Mem), k17 x1 x2 M = some R → Fr (fun i k => (r0 ≤ i ∧ i < r0 + 16)) M R) {x1 : Int32} {x2 : Int32} {M : Mem} {R : Mem} (h : f_X4_passOne_b17 r0 k2 k17 x1 x2 M = some R) : Fr (fun i k => (r0 ≤ i ∧ i < r0 + 16)) M R := by
  have F : Fr (fun i k => (r0 ≤ i ∧ i < r0 + 16)) M M := Fr.rf
  unfold f_X4_passOne_b17 at h
  rcases ite_or h with h | h
  · exact F.trans (hk2 _ _ _ h)
  · obtain ⟨r_2, hr_2, h⟩ := bnd h
    clear hr_2
    rcases ite_or h with h | h
    · exact F.trans (hk17 _ _ _ _ h)
    · obtain ⟨r_3, hr_3, h⟩ := bnd h
      clear hr_3
      obtain ⟨r_4, hr_4, h⟩ := bnd h
      replace F := F.trans ((fr_X4_letter hr_4).mono (fun i k h => by omega))
      obtain ⟨r_5, hr_5, h⟩ := bnd h
      clear hr_5
      obtain ⟨r_6, hr_6, h⟩ := bnd h
      replace F := F.trans ((fr_X4_letter hr_6).mono (fun i k h => by omega))
      exact F.trans (hk17 _ _ _ _ h)
theorem fr_X4_passOne_l17 {r0 : Nat} {k2 : Int32 → Mem → Option (Mem)} (hk2 : ∀ (x1 : Int32) (M : Mem) (R : Mem), k2 x1 M = some R → Fr (fun i k => (r0 ≤ i ∧ i < r0 + 16)) M R) : ∀ (n : Nat) (x1 : Int32) (x2 : Int32) (M : Mem) (R : Mem), f_X4_passOne_l17 r0 k2 n x1 x2 M = some R → Fr (fun i k => (r0 ≤ i ∧ i < r0 + 16)) M R := by
  intro n
  induction n with
  | zero => intro x1 x2 M R h; cases h
  | succ n ih => intro x1 x2 M R h; exact fr_X4_passOne_b17 (r0 := r0) hk2 ih h
theorem fr_X4_passOne_b2 {r0 : Nat} {k2 : Int32 → Mem → Option (Mem)} (hk2 : ∀ (x1 : Int32) (M : Mem) (R : Mem), k2 x1 M = some R → Fr (fun i k => (r0 ≤ i ∧ i < r0 + 16)) M R) {x1 : Int32} {M : Mem} {R : Mem} (h : f_X4_passOne_b2 r0 k2 x1 M = some R) : Fr (fun i k => (r0 ≤ i ∧ i < r0 + 16)) M R := by
  have F : Fr (fun i k => (r0 ≤ i ∧ i < r0 + 16)) M M := Fr.rf
  unfold f_X4_passOne_b2 at h
  rcases ite_or h with h | h
  · rw [← Option.some.inj h]; exact F
  · obtain ⟨x2_1, _, h⟩ := letv_ex h
    exact F.trans (fr_X4_passOne_l17 (r0 := r0) hk2 _ _ _ _ _ h)
theorem fr_X4_passOne_l2 {r0 : Nat} : ∀ (n : Nat) (x1 : Int32) (M : Mem) (R : Mem), f_X4_passOne_l2 r0 n x1 M = some R → Fr (fun i k => (r0 ≤ i ∧ i < r0 + 16)) M R := by
  intro n
  induction n with
  | zero => intro x1 M R h; cases h
  | succ n ih => intro x1 M R h; exact fr_X4_passOne_b2 (r0 := r0) ih h
theorem fr_X4_passOne {r0 : Nat} {M : Mem} {R : Mem} (h : f_X4_passOne r0 M = some R) : Fr (fun i k => (r0 ≤ i ∧ i < r0 + 16)) M R := by
  have F : Fr (fun i k => (r0 ≤ i ∧ i < r0 + 16)) M M := Fr.rf
  unfold f_X4_passOne at h
  exact F.trans (fr_X4_passOne_l2 (r0 := r0) _ _ _ _ h)
theorem fr_X4_passYears_b2 {r0 : Nat} {k2 : Int32 → Int32 → Mem → Option (Mem)} (hk2 : ∀ (x1 : Int32) (x2 : Int32) (M : Mem) (R : Mem), k2 x1 x2 M = some R → Fr (fun i k => (r0 ≤ i ∧ i < r0 + 16)) M R) {x1 : Int32} {x2 : Int32} {M : Mem} {R : Mem} (h : f_X4_passYears_b2 r0 k2 x1 x2 M = some R) : Fr (fun i k => (r0 ≤ i ∧ i < r0 + 16)) M R := by
  have F : Fr (fun i k => (r0 ≤ i ∧ i < r0 + 16)) M M := Fr.rf
  unfold f_X4_passYears_b2 at h
  rcases ite_or h with h | h
  · obtain ⟨M_1, hM_1, h⟩ := letv_ex h
    replace F := F.put hM_1 (by omega)
    rw [← Option.some.inj h]; exact F
  · obtain ⟨x3_2, _, h⟩ := letv_ex h
    obtain ⟨r_3, hr_3, h⟩ := bnd h
    replace F := F.trans ((fr_X4_passOne hr_3).mono (fun i k h => by omega))
    rcases ite_or h with h | h
    · obtain ⟨M_4, hM_4, h⟩ := letv_ex h
      replace F := F.put hM_4 (by omega)
      rw [← Option.some.inj h]; exact F
    · exact F.trans (hk2 _ _ _ _ h)
theorem fr_X4_passYears_l2 {r0 : Nat} : ∀ (n : Nat) (x1 : Int32) (x2 : Int32) (M : Mem) (R : Mem), f_X4_passYears_l2 r0 n x1 x2 M = some R → Fr (fun i k => (r0 ≤ i ∧ i < r0 + 16)) M R := by
  intro n
  induction n with
  | zero => intro x1 x2 M R h; cases h
  | succ n ih => intro x1 x2 M R h; exact fr_X4_passYears_b2 (r0 := r0) ih h
theorem fr_X4_passYears {r0 : Nat} {x1 : Int32} {M : Mem} {R : Mem} (h : f_X4_passYears r0 x1 M = some R) : Fr (fun i k => (r0 ≤ i ∧ i < r0 + 16)) M R := by
  have F : Fr (fun i k => (r0 ≤ i ∧ i < r0 + 16)) M M := Fr.rf
  unfold f_X4_passYears at h
  exact F.trans (fr_X4_passYears_l2 (r0 := r0) _ _ _ _ _ h)
theorem fr_X4_draw {r0 : Nat} {M : Mem} {R : Int32 × Mem} (h : f_X4_draw r0 M = some R) : Fr (fun i k => (r0 ≤ i ∧ i < r0 + 16)) M R.2 := by
  have F : Fr (fun i k => (r0 ≤ i ∧ i < r0 + 16)) M M := Fr.rf
  unfold f_X4_draw at h
  obtain ⟨M_1, hM_1, h⟩ := letv_ex h
  replace F := F.put hM_1 (by omega)
  rw [← Option.some.inj h]; exact F
theorem fr_J7_fill_53178_b5 {r0 : Nat} {k5 : Int32 → Int32 → Int32 → Mem → Option (Mem)} (hk5 : ∀ (x1 : Int32) (x2 : Int32) (x3 : Int32) (M : Mem) (R : Mem), k5 x1 x2 x3 M = some R → Fr (fun i k => i = r0) M R) {x1 : Int32} {x2 : Int32} {x3 : Int32} {M : Mem} {R : Mem} (h : f_J7_fill_53178_b5 r0 k5 x1 x2 x3 M = some R) : Fr (fun i k => i = r0) M R := by
  have F : Fr (fun i k => i = r0) M M := Fr.rf
  unfold f_J7_fill_53178_b5 at h
  rcases ite_or h with h | h
  · rw [← Option.some.inj h]; exact F
  · obtain ⟨_, h⟩ := ck_some h
    obtain ⟨M_3, hM_3, h⟩ := letv_ex h
    replace F := F.put hM_3 (by omega)
    exact F.trans (hk5 _ _ _ _ _ h)
theorem fr_J7_fill_53178_l5 {r0 : Nat} : ∀ (n : Nat) (x1 : Int32) (x2 : Int32) (x3 : Int32) (M : Mem) (R : Mem), f_J7_fill_53178_l5 r0 n x1 x2 x3 M = some R → Fr (fun i k => i = r0) M R := by
  intro n
  induction n with
  | zero => intro x1 x2 x3 M R h; cases h
  | succ n ih => intro x1 x2 x3 M R h; exact fr_J7_fill_53178_b5 (r0 := r0) ih h
theorem fr_J7_fill_53178 {r0 : Nat} {x1 : Int32} {M : Mem} {R : Mem} (h : f_J7_fill_53178 r0 x1 M = some R) : Fr (fun i k => i = r0) M R := by
  have F : Fr (fun i k => i = r0) M M := Fr.rf
  unfold f_J7_fill_53178 at h
  obtain ⟨x3_1, _, h⟩ := letv_ex h
  exact F.trans (fr_J7_fill_53178_l5 (r0 := r0) _ _ _ _ _ _ h)
theorem fr_X5_reach_b7 {r0 r2 : Nat} {k7 : Int32 → Int32 → Mem → Option (Mem)} (hk7 : ∀ (x1 : Int32) (x3 : Int32) (M : Mem) (R : Mem), k7 x1 x3 M = some R → Fr (fun i k => i = r2) M R) {x1 : Int32} {x3 : Int32} {M : Mem} {R : Mem} (h : f_X5_reach_b7 r0 r2 k7 x1 x3 M = some R) : Fr (fun i k => i = r2) M R := by
  have F : Fr (fun i k => i = r2) M M := Fr.rf
  unfold f_X5_reach_b7 at h
  rcases ite_or h with h | h
  · rw [← Option.some.inj h]; exact F
  · obtain ⟨r_2, hr_2, h⟩ := bnd h
    clear hr_2
    obtain ⟨x5_3, _, h⟩ := letv_ex h
    rcases ite_or h with h | h
    · exact F.trans (hk7 _ _ _ _ h)
    · rcases ite_or h with h | h
      · exact F.trans (hk7 _ _ _ _ h)
      · obtain ⟨_, h⟩ := ck_some h
        obtain ⟨_, h⟩ := ck_some h
        obtain ⟨M_6, hM_6, h⟩ := letv_ex h
        replace F := F.put hM_6 (by omega)
        exact F.trans (hk7 _ _ _ _ h)
theorem fr_X5_reach_l7 {r0 r2 : Nat} : ∀ (n : Nat) (x1 : Int32) (x3 : Int32) (M : Mem) (R : Mem), f_X5_reach_l7 r0 r2 n x1 x3 M = some R → Fr (fun i k => i = r2) M R := by
  intro n
  induction n with
  | zero => intro x1 x3 M R h; cases h
  | succ n ih => intro x1 x3 M R h; exact fr_X5_reach_b7 (r0 := r0) (r2 := r2) ih h
theorem fr_X5_reach {r0 r2 : Nat} {x1 : Int32} {M : Mem} {R : Mem} (h : f_X5_reach r0 x1 r2 M = some R) : Fr (fun i k => i = r2) M R := by
  have F : Fr (fun i k => i = r2) M M := Fr.rf
  unfold f_X5_reach at h
  obtain ⟨r_1, hr_1, h⟩ := bnd h
  replace F := F.trans ((fr_J7_fill_53178 hr_1).mono (fun i k h => by omega))
  exact F.trans (fr_X5_reach_l7 (r0 := r0) (r2 := r2) _ _ _ _ _ h)
theorem fr_X6_found {x1 : Int32} {M : Mem} {R : Int32 × Mem} (h : f_X6_found x1 M = some R) : Fr (fun i k => i = 56) M R.2 := by
  have F : Fr (fun i k => i = 56) M M := Fr.rf
  unfold f_X6_found at h
  obtain ⟨x2_1, _, h⟩ := letv_ex h
  rcases ite_or h with h | h
  · rw [← Option.some.inj h]; exact F
  · rcases ite_or h with h | h
    · rw [← Option.some.inj h]; exact F
    · obtain ⟨_, h⟩ := ck_some h
      obtain ⟨_, h⟩ := ck_some h
      obtain ⟨M_4, hM_4, h⟩ := letv_ex h
      replace F := F.put hM_4 (by omega)
      rw [← Option.some.inj h]; exact F
theorem fr_X6_writer {x1 : Int32} {M : Mem} {R : Int32 × Mem} (h : f_X6_writer x1 M = some R) : Fr (fun i k => i = 56 ∨ (1 ≤ i ∧ i < 1 + 16)) M R.2 := by
  have F : Fr (fun i k => i = 56 ∨ (1 ≤ i ∧ i < 1 + 16)) M M := Fr.rf
  unfold f_X6_writer at h
  obtain ⟨r_1, hr_1, h⟩ := bnd h
  clear hr_1
  rcases ite_or h with h | h
  · obtain ⟨r_4, hr_4, h⟩ := bnd h
    replace F := F.trans ((fr_X6_found hr_4).mono (fun i k h => by omega))
    rw [← Option.some.inj h]; exact F
  · obtain ⟨r_2, hr_2, h⟩ := bnd h
    replace F := F.trans ((fr_X5_addOne hr_2).mono (fun i k h => by omega))
    rcases ite_or h with h | h
    · rw [← Option.some.inj h]; exact F
    · obtain ⟨r_3, hr_3, h⟩ := bnd h
      replace F := F.trans ((fr_X6_found hr_3).mono (fun i k h => by omega))
      rw [← Option.some.inj h]; exact F
theorem fr_X6_writerOf {x1 : Int32} {x2 : Int32} {M : Mem} {R : Int32 × Mem} (h : f_X6_writerOf x1 x2 M = some R) : Fr (fun i k => i = 56) M R.2 := by
  have F : Fr (fun i k => i = 56) M M := Fr.rf
  unfold f_X6_writerOf at h
  obtain ⟨r_1, hr_1, h⟩ := bnd h
  clear hr_1
  cases r_1 with
  | none =>
    obtain ⟨r_4, hr_4, h⟩ := bnd h
    clear hr_4
    rcases ite_or h with h | h
    · obtain ⟨r_5, hr_5, h⟩ := bnd h
      replace F := F.trans ((fr_X6_found hr_5).mono (fun i k h => by omega))
      rw [← Option.some.inj h]; exact F
    · obtain ⟨r_6, hr_6, h⟩ := bnd h
      replace F := F.trans ((fr_X6_found hr_6).mono (fun i k h => by omega))
      rw [← Option.some.inj h]; exact F
  | some a_2 =>
    obtain ⟨hk, h⟩ := ck_some h
    obtain ⟨r_7, hr_7, h⟩ := bnd h
    clear hr_7
    rcases ite_or h with h | h
    · obtain ⟨r_8, hr_8, h⟩ := bnd h
      replace F := F.trans ((fr_X6_found hr_8).mono (fun i k h => by omega))
      rw [← Option.some.inj h]; exact F
    · obtain ⟨_, h⟩ := ck_some h
      rw [← Option.some.inj h]; exact F
theorem fr_X6_person {x1 : Int32} {M : Mem} {R : Int32 × Mem} (h : f_X6_person x1 M = some R) : Fr (fun i k => i = 56 ∨ (1 ≤ i ∧ i < 1 + 16)) M R.2 := by
  have F : Fr (fun i k => i = 56 ∨ (1 ≤ i ∧ i < 1 + 16)) M M := Fr.rf
  unfold f_X6_person at h
  obtain ⟨r_1, hr_1, h⟩ := bnd h
  clear hr_1
  rcases ite_or h with h | h
  · obtain ⟨r_4, hr_4, h⟩ := bnd h
    replace F := F.trans ((fr_X6_found hr_4).mono (fun i k h => by omega))
    rw [← Option.some.inj h]; exact F
  · obtain ⟨r_2, hr_2, h⟩ := bnd h
    replace F := F.trans ((fr_X0_addOne hr_2).mono (fun i k h => by omega))
    rcases ite_or h with h | h
    · rw [← Option.some.inj h]; exact F
    · obtain ⟨r_3, hr_3, h⟩ := bnd h
      replace F := F.trans ((fr_X6_found hr_3).mono (fun i k h => by omega))
      rw [← Option.some.inj h]; exact F
theorem fr_X6_of {x1 : Int32} {x2 : Int32} {M : Mem} {R : Int32 × Mem} (h : f_X6_of x1 x2 M = some R) : Fr (fun i k => i = 56) M R.2 := by
  have F : Fr (fun i k => i = 56) M M := Fr.rf
  unfold f_X6_of at h
  obtain ⟨r_1, hr_1, h⟩ := bnd h
  clear hr_1
  rcases ite_or h with h | h
  · obtain ⟨r_8, hr_8, h⟩ := bnd h
    replace F := F.trans ((fr_X6_found hr_8).mono (fun i k h => by omega))
    rw [← Option.some.inj h]; exact F
  · rcases ite_or h with h | h
    · obtain ⟨r_7, hr_7, h⟩ := bnd h
      clear hr_7
      rw [← Option.some.inj h]; exact F
    · obtain ⟨r_2, hr_2, h⟩ := bnd h
      clear hr_2
      cases r_2 with
      | none =>
        obtain ⟨r_5, hr_5, h⟩ := bnd h
        replace F := F.trans ((fr_X6_found hr_5).mono (fun i k h => by omega))
        rw [← Option.some.inj h]; exact F
      | some a_3 =>
        obtain ⟨hk, h⟩ := ck_some h
        obtain ⟨_, h⟩ := ck_some h
        rw [← Option.some.inj h]; exact F
theorem fr_X6_tie {x1 : Int32} {x2 : Int32} {x3 : Int32} {M : Mem} {R : Int32 × Mem} (h : f_X6_tie x1 x2 x3 M = some R) : Fr (fun i k => i = 56 ∨ (1 ≤ i ∧ i < 1 + 16)) M R.2 := by
  have F : Fr (fun i k => i = 56 ∨ (1 ≤ i ∧ i < 1 + 16)) M M := Fr.rf
  unfold f_X6_tie at h
  obtain ⟨r_1, hr_1, h⟩ := bnd h
  clear hr_1
  rcases ite_or h with h | h
  · obtain ⟨r_5, hr_5, h⟩ := bnd h
    replace F := F.trans ((fr_X6_found hr_5).mono (fun i k h => by omega))
    rw [← Option.some.inj h]; exact F
  · obtain ⟨r_2, hr_2, h⟩ := bnd h
    clear hr_2
    rcases ite_or h with h | h
    · obtain ⟨r_3, hr_3, h⟩ := bnd h
      replace F := F.trans ((fr_X0_bind hr_3).mono (fun i k h => by omega))
      rw [← Option.some.inj h]; exact F
    · obtain ⟨r_4, hr_4, h⟩ := bnd h
      replace F := F.trans ((fr_X0_bind hr_4).mono (fun i k h => by omega))
      rw [← Option.some.inj h]; exact F
theorem fr_X6_ties {x1 : Int32} {M : Mem} {R : Int32 × Mem} (h : f_X6_ties x1 M = some R) : Fr (fun i k => i = 56) M R.2 := by
  have F : Fr (fun i k => i = 56) M M := Fr.rf
  unfold f_X6_ties at h
  obtain ⟨r_1, hr_1, h⟩ := bnd h
  clear hr_1
  rcases ite_or h with h | h
  · obtain ⟨r_3, hr_3, h⟩ := bnd h
    replace F := F.trans ((fr_X6_found hr_3).mono (fun i k h => by omega))
    rw [← Option.some.inj h]; exact F
  · obtain ⟨_, h⟩ := ck_some h
    rw [← Option.some.inj h]; exact F
theorem fr_X6_puts {x1 : Int32} {x2 : Int32} {M : Mem} {R : Int32 × Mem} (h : f_X6_puts x1 x2 M = some R) : Fr (fun i k => i = 56) M R.2 := by
  have F : Fr (fun i k => i = 56) M M := Fr.rf
  unfold f_X6_puts at h
  obtain ⟨r_1, hr_1, h⟩ := bnd h
  clear hr_1
  rcases ite_or h with h | h
  · obtain ⟨r_2, hr_2, h⟩ := bnd h
    replace F := F.trans ((fr_X6_found hr_2).mono (fun i k h => by omega))
    rw [← Option.some.inj h]; exact F
  · obtain ⟨r_3, hr_3, h⟩ := bnd h
    clear hr_3
    rcases ite_or h with h | h
    · obtain ⟨r_5, hr_5, h⟩ := bnd h
      replace F := F.trans ((fr_X6_found hr_5).mono (fun i k h => by omega))
      rw [← Option.some.inj h]; exact F
    · obtain ⟨r_4, hr_4, h⟩ := bnd h
      clear hr_4
      rw [← Option.some.inj h]; exact F
theorem fr_X6_says {x1 : Int32} {M : Mem} {R : Int32 × Mem} (h : f_X6_says x1 M = some R) : Fr (fun i k => i = 56) M R.2 := by
  have F : Fr (fun i k => i = 56) M M := Fr.rf
  unfold f_X6_says at h
  obtain ⟨r_1, hr_1, h⟩ := bnd h
  clear hr_1
  rcases ite_or h with h | h
  · obtain ⟨r_3, hr_3, h⟩ := bnd h
    replace F := F.trans ((fr_X6_found hr_3).mono (fun i k h => by omega))
    rw [← Option.some.inj h]; exact F
  · obtain ⟨r_2, hr_2, h⟩ := bnd h
    clear hr_2
    rw [← Option.some.inj h]; exact F
theorem fr_X6_read {x1 : Int32} {x2 : Int32} {x3 : Int32} {M : Mem} {R : Int32 × Mem} (h : f_X6_read x1 x2 x3 M = some R) : Fr (fun i k => i = 56) M R.2 := by
  have F : Fr (fun i k => i = 56) M M := Fr.rf
  unfold f_X6_read at h
  obtain ⟨r_1, hr_1, h⟩ := bnd h
  clear hr_1
  rcases ite_or h with h | h
  · obtain ⟨r_2, hr_2, h⟩ := bnd h
    replace F := F.trans ((fr_X6_found hr_2).mono (fun i k h => by omega))
    rw [← Option.some.inj h]; exact F
  · obtain ⟨r_3, hr_3, h⟩ := bnd h
    clear hr_3
    rcases ite_or h with h | h
    · obtain ⟨r_6, hr_6, h⟩ := bnd h
      replace F := F.trans ((fr_X6_found hr_6).mono (fun i k h => by omega))
      rw [← Option.some.inj h]; exact F
    · obtain ⟨r_4, hr_4, h⟩ := bnd h
      clear hr_4
      obtain ⟨r_5, hr_5, h⟩ := bnd h
      clear hr_5
      rw [← Option.some.inj h]; exact F
theorem fr_X6_send {x1 : Int32} {x2 : Int32} {x3 : Int32} {M : Mem} {R : Int32 × Mem} (h : f_X6_send x1 x2 x3 M = some R) : Fr (fun i k => i = 56 ∨ (1 ≤ i ∧ i < 1 + 16)) M R.2 := by
  have F : Fr (fun i k => i = 56 ∨ (1 ≤ i ∧ i < 1 + 16)) M M := Fr.rf
  unfold f_X6_send at h
  obtain ⟨r_1, hr_1, h⟩ := bnd h
  clear hr_1
  rcases ite_or h with h | h
  · obtain ⟨r_2, hr_2, h⟩ := bnd h
    replace F := F.trans ((fr_X6_found hr_2).mono (fun i k h => by omega))
    rw [← Option.some.inj h]; exact F
  · obtain ⟨r_3, hr_3, h⟩ := bnd h
    clear hr_3
    rcases ite_or h with h | h
    · obtain ⟨r_6, hr_6, h⟩ := bnd h
      replace F := F.trans ((fr_X6_found hr_6).mono (fun i k h => by omega))
      rw [← Option.some.inj h]; exact F
    · obtain ⟨r_4, hr_4, h⟩ := bnd h
      replace F := F.trans ((fr_X4_letter hr_4).mono (fun i k h => by omega))
      rcases ite_or h with h | h
      · rw [← Option.some.inj h]; exact F
      · obtain ⟨r_5, hr_5, h⟩ := bnd h
        replace F := F.trans ((fr_X6_found hr_5).mono (fun i k h => by omega))
        rw [← Option.some.inj h]; exact F
theorem fr_X6_years {x1 : Int32} {M : Mem} {R : Int32 × Mem} (h : f_X6_years x1 M = some R) : Fr (fun i k => i = 56 ∨ (1 ≤ i ∧ i < 1 + 16)) M R.2 := by
  have F : Fr (fun i k => i = 56 ∨ (1 ≤ i ∧ i < 1 + 16)) M M := Fr.rf
  unfold f_X6_years at h
  rcases ite_or h with h | h
  · obtain ⟨r_1, hr_1, h⟩ := bnd h
    replace F := F.trans ((fr_X6_found hr_1).mono (fun i k h => by omega))
    rw [← Option.some.inj h]; exact F
  · rcases ite_or h with h | h
    · obtain ⟨r_2, hr_2, h⟩ := bnd h
      clear hr_2
      rcases ite_or h with h | h
      · obtain ⟨r_5, hr_5, h⟩ := bnd h
        replace F := F.trans ((fr_X6_found hr_5).mono (fun i k h => by omega))
        rw [← Option.some.inj h]; exact F
      · obtain ⟨x2_3, _, h⟩ := letv_ex h
        obtain ⟨r_4, hr_4, h⟩ := bnd h
        replace F := F.trans ((fr_X4_passYears hr_4).mono (fun i k h => by omega))
        rw [← Option.some.inj h]; exact F
    · obtain ⟨r_6, hr_6, h⟩ := bnd h
      replace F := F.trans ((fr_X6_found hr_6).mono (fun i k h => by omega))
      rw [← Option.some.inj h]; exact F
theorem fr_X6_now {x1 : Int32} {M : Mem} {R : Int32 × Mem} (h : f_X6_now x1 M = some R) : Fr (fun i k => i = 56) M R.2 := by
  have F : Fr (fun i k => i = 56) M M := Fr.rf
  unfold f_X6_now at h
  rcases ite_or h with h | h
  · rw [← Option.some.inj h]; exact F
  · rcases ite_or h with h | h
    · rw [← Option.some.inj h]; exact F
    · rcases ite_or h with h | h
      · obtain ⟨r_1, hr_1, h⟩ := bnd h
        clear hr_1
        rw [← Option.some.inj h]; exact F
      · rcases ite_or h with h | h
        · obtain ⟨r_2, hr_2, h⟩ := bnd h
          clear hr_2
          rw [← Option.some.inj h]; exact F
        · rcases ite_or h with h | h
          · obtain ⟨r_3, hr_3, h⟩ := bnd h
            clear hr_3
            rw [← Option.some.inj h]; exact F
          · rcases ite_or h with h | h
            · obtain ⟨r_4, hr_4, h⟩ := bnd h
              clear hr_4
              obtain ⟨r_5, hr_5, h⟩ := bnd h
              clear hr_5
              rw [← Option.some.inj h]; exact F
            · obtain ⟨r_6, hr_6, h⟩ := bnd h
              replace F := F.trans ((fr_X6_found hr_6).mono (fun i k h => by omega))
              rw [← Option.some.inj h]; exact F
theorem fr_X6_who {x1 : Int32} {M : Mem} {R : Int32 × Mem} (h : f_X6_who x1 M = some R) : Fr (fun i k => i = 56) M R.2 := by
  have F : Fr (fun i k => i = 56) M M := Fr.rf
  unfold f_X6_who at h
  obtain ⟨r_1, hr_1, h⟩ := bnd h
  clear hr_1
  rcases ite_or h with h | h
  · obtain ⟨r_3, hr_3, h⟩ := bnd h
    replace F := F.trans ((fr_X6_found hr_3).mono (fun i k h => by omega))
    rw [← Option.some.inj h]; exact F
  · obtain ⟨r_2, hr_2, h⟩ := bnd h
    clear hr_2
    rw [← Option.some.inj h]; exact F
theorem fr_X6_ahead {x1 : Int32} {x2 : Int32} {M : Mem} {R : Int32 × Mem} (h : f_X6_ahead x1 x2 M = some R) : Fr (fun i k => i = 56 ∨ (17 ≤ i ∧ i < 17 + 16)) M R.2 := by
  have F : Fr (fun i k => i = 56 ∨ (17 ≤ i ∧ i < 17 + 16)) M M := Fr.rf
  unfold f_X6_ahead at h
  obtain ⟨r_1, hr_1, h⟩ := bnd h
  clear hr_1
  rcases ite_or h with h | h
  · obtain ⟨r_2, hr_2, h⟩ := bnd h
    replace F := F.trans ((fr_X6_found hr_2).mono (fun i k h => by omega))
    rw [← Option.some.inj h]; exact F
  · rcases ite_or h with h | h
    · obtain ⟨r_3, hr_3, h⟩ := bnd h
      replace F := F.trans ((fr_X6_found hr_3).mono (fun i k h => by omega))
      rw [← Option.some.inj h]; exact F
    · rcases ite_or h with h | h
      · obtain ⟨r_4, hr_4, h⟩ := bnd h
        clear hr_4
        rcases ite_or h with h | h
        · obtain ⟨r_10, hr_10, h⟩ := bnd h
          replace F := F.trans ((fr_X6_found hr_10).mono (fun i k h => by omega))
          rw [← Option.some.inj h]; exact F
        · obtain ⟨r_5, hr_5, h⟩ := bnd h
          replace F := F.trans ((fr_X4_become hr_5).mono (fun i k h => by omega))
          obtain ⟨r_6, hr_6, h⟩ := bnd h
          replace F := F.trans ((fr_X4_passYears hr_6).mono (fun i k h => by omega))
          rcases ite_or h with h | h
          · rw [← Option.some.inj h]; exact F
          · rcases ite_or h with h | h
            · obtain ⟨r_7, hr_7, h⟩ := bnd h
              clear hr_7
              rw [← Option.some.inj h]; exact F
            · rcases ite_or h with h | h
              · obtain ⟨r_8, hr_8, h⟩ := bnd h
                clear hr_8
                rw [← Option.some.inj h]; exact F
              · obtain ⟨_, h⟩ := ck_some h
                rw [← Option.some.inj h]; exact F
      · obtain ⟨r_11, hr_11, h⟩ := bnd h
        replace F := F.trans ((fr_X6_found hr_11).mono (fun i k h => by omega))
        rw [← Option.some.inj h]; exact F
theorem fr_X6_when_b60 {k60 : Int32 → Int32 → Int32 → Mem → Option (Int32 × Mem)} (hk60 : ∀ (x1 : Int32) (x2 : Int32) (x3 : Int32) (M : Mem) (R : Int32 × Mem), k60 x1 x2 x3 M = some R → Fr (fun i k => i = 56 ∨ (17 ≤ i ∧ i < 17 + 16)) M R.2) {x1 : Int32} {x2 : Int32} {x3 : Int32} {M : Mem} {R : Int32 × Mem} (h : f_X6_when_b60 k60 x1 x2 x3 M = some R) : Fr (fun i k => i = 56 ∨ (17 ≤ i ∧ i < 17 + 16)) M R.2 := by
  have F : Fr (fun i k => i = 56 ∨ (17 ≤ i ∧ i < 17 + 16)) M M := Fr.rf
  unfold f_X6_when_b60 at h
  rcases ite_or h with h | h
  · obtain ⟨r_8, hr_8, h⟩ := bnd h
    replace F := F.trans ((fr_X6_found hr_8).mono (fun i k h => by omega))
    rw [← Option.some.inj h]; exact F
  · obtain ⟨_, h⟩ := ck_some h
    rcases ite_or h with h | h
    · obtain ⟨r_10, hr_10, h⟩ := bnd h
      replace F := F.trans ((fr_X4_passYears hr_10).mono (fun i k h => by omega))
      exact F.trans (hk60 _ _ _ _ _ h)
    · rw [← Option.some.inj h]; exact F
theorem fr_X6_when_l60 : ∀ (n : Nat) (x1 : Int32) (x2 : Int32) (x3 : Int32) (M : Mem) (R : Int32 × Mem), f_X6_when_l60 n x1 x2 x3 M = some R → Fr (fun i k => i = 56 ∨ (17 ≤ i ∧ i < 17 + 16)) M R.2 := by
  intro n
  induction n with
  | zero => intro x1 x2 x3 M R h; cases h
  | succ n ih => intro x1 x2 x3 M R h; exact fr_X6_when_b60 ih h
theorem fr_X6_when {x1 : Int32} {x2 : Int32} {M : Mem} {R : Int32 × Mem} (h : f_X6_when x1 x2 M = some R) : Fr (fun i k => i = 56 ∨ (17 ≤ i ∧ i < 17 + 16)) M R.2 := by
  have F : Fr (fun i k => i = 56 ∨ (17 ≤ i ∧ i < 17 + 16)) M M := Fr.rf
  unfold f_X6_when at h
  obtain ⟨r_1, hr_1, h⟩ := bnd h
  clear hr_1
  rcases ite_or h with h | h
  · obtain ⟨r_2, hr_2, h⟩ := bnd h
    replace F := F.trans ((fr_X6_found hr_2).mono (fun i k h => by omega))
    rw [← Option.some.inj h]; exact F
  · obtain ⟨r_3, hr_3, h⟩ := bnd h
    clear hr_3
    rcases ite_or h with h | h
    · obtain ⟨r_7, hr_7, h⟩ := bnd h
      replace F := F.trans ((fr_X6_found hr_7).mono (fun i k h => by omega))
      rw [← Option.some.inj h]; exact F
    · obtain ⟨r_4, hr_4, h⟩ := bnd h
      clear hr_4
      rcases ite_or h with h | h
      · obtain ⟨r_6, hr_6, h⟩ := bnd h
        replace F := F.trans ((fr_X6_found hr_6).mono (fun i k h => by omega))
        rw [← Option.some.inj h]; exact F
      · obtain ⟨r_5, hr_5, h⟩ := bnd h
        replace F := F.trans ((fr_X4_become hr_5).mono (fun i k h => by omega))
        exact F.trans (fr_X6_when_l60 _ _ _ _ _ _ h)
theorem fr_X6_believersWithout {x1 : Int32} {x2 : Int32} {x3 : Int32} {M : Mem} {R : Int32 × Mem} (h : f_X6_believersWithout x1 x2 x3 M = some R) : Fr (fun i k => (17 ≤ i ∧ i < 17 + 16)) M R.2 := by
  have F : Fr (fun i k => (17 ≤ i ∧ i < 17 + 16)) M M := Fr.rf
  unfold f_X6_believersWithout at h
  obtain ⟨r_1, hr_1, h⟩ := bnd h
  replace F := F.trans ((fr_X4_become hr_1).mono (fun i k h => by omega))
  obtain ⟨_, h⟩ := ck_some h
  obtain ⟨M_3, hM_3, h⟩ := letv_ex h
  replace F := F.put hM_3 (by omega)
  obtain ⟨r_4, hr_4, h⟩ := bnd h
  replace F := F.trans ((fr_X4_passYears hr_4).mono (fun i k h => by omega))
  obtain ⟨r_5, hr_5, h⟩ := bnd h
  clear hr_5
  rw [← Option.some.inj h]; exact F
theorem fr_X6_without {x1 : Int32} {x2 : Int32} {x3 : Int32} {M : Mem} {R : Int32 × Mem} (h : f_X6_without x1 x2 x3 M = some R) : Fr (fun i k => i = 56 ∨ (17 ≤ i ∧ i < 17 + 16)) M R.2 := by
  have F : Fr (fun i k => i = 56 ∨ (17 ≤ i ∧ i < 17 + 16)) M M := Fr.rf
  unfold f_X6_without at h
  obtain ⟨r_1, hr_1, h⟩ := bnd h
  clear hr_1
  rcases ite_or h with h | h
  · obtain ⟨r_2, hr_2, h⟩ := bnd h
    replace F := F.trans ((fr_X6_found hr_2).mono (fun i k h => by omega))
    rw [← Option.some.inj h]; exact F
  · obtain ⟨r_3, hr_3, h⟩ := bnd h
    clear hr_3
    rcases ite_or h with h | h
    · obtain ⟨r_4, hr_4, h⟩ := bnd h
      replace F := F.trans ((fr_X6_found hr_4).mono (fun i k h => by omega))
      rw [← Option.some.inj h]; exact F
    · obtain ⟨r_5, hr_5, h⟩ := bnd h
      clear hr_5
      rcases ite_or h with h | h
      · obtain ⟨r_9, hr_9, h⟩ := bnd h
        replace F := F.trans ((fr_X6_found hr_9).mono (fun i k h => by omega))
        rw [← Option.some.inj h]; exact F
      · obtain ⟨r_6, hr_6, h⟩ := bnd h
        clear hr_6
        rcases ite_or h with h | h
        · obtain ⟨r_8, hr_8, h⟩ := bnd h
          replace F := F.trans ((fr_X6_found hr_8).mono (fun i k h => by omega))
          rw [← Option.some.inj h]; exact F
        · obtain ⟨r_7, hr_7, h⟩ := bnd h
          replace F := F.trans ((fr_X6_believersWithout hr_7).mono (fun i k h => by omega))
          rw [← Option.some.inj h]; exact F
theorem fr_X6_added_b79 {k79 : Int32 → Int32 → Int32 → Int32 → Int32 → Mem → Option (Int32 × Mem)} (hk79 : ∀ (x1 : Int32) (x2 : Int32) (x3 : Int32) (x4 : Int32) (x5 : Int32) (M : Mem) (R : Int32 × Mem), k79 x1 x2 x3 x4 x5 M = some R → Fr (fun i k => i = 56 ∨ (17 ≤ i ∧ i < 17 + 16)) M R.2) {x1 : Int32} {x2 : Int32} {x3 : Int32} {x4 : Int32} {x5 : Int32} {M : Mem} {R : Int32 × Mem} (h : f_X6_added_b79 k79 x1 x2 x3 x4 x5 M = some R) : Fr (fun i k => i = 56 ∨ (17 ≤ i ∧ i < 17 + 16)) M R.2 := by
  have F : Fr (fun i k => i = 56 ∨ (17 ≤ i ∧ i < 17 + 16)) M M := Fr.rf
  unfold f_X6_added_b79 at h
  rcases ite_or h with h | h
  · rw [← Option.some.inj h]; exact F
  · obtain ⟨r_11, hr_11, h⟩ := bnd h
    replace F := F.trans ((fr_X6_believersWithout hr_11).mono (fun i k h => by omega))
    obtain ⟨r_12, hr_12, h⟩ := bnd h
    clear hr_12
    rcases ite_or h with h | h
    · exact F.trans (hk79 _ _ _ _ _ _ _ h)
    · obtain ⟨x4_13, _, h⟩ := letv_ex h
      exact F.trans (hk79 _ _ _ _ _ _ _ h)
theorem fr_X6_added_l79 : ∀ (n : Nat) (x1 : Int32) (x2 : Int32) (x3 : Int32) (x4 : Int32) (x5 : Int32) (M : Mem) (R : Int32 × Mem), f_X6_added_l79 n x1 x2 x3 x4 x5 M = some R → Fr (fun i k => i = 56 ∨ (17 ≤ i ∧ i < 17 + 16)) M R.2 := by
  intro n
  induction n with
  | zero => intro x1 x2 x3 x4 x5 M R h; cases h
  | succ n ih => intro x1 x2 x3 x4 x5 M R h; exact fr_X6_added_b79 ih h
theorem fr_X6_added {x1 : Int32} {x2 : Int32} {M : Mem} {R : Int32 × Mem} (h : f_X6_added x1 x2 M = some R) : Fr (fun i k => i = 56 ∨ (17 ≤ i ∧ i < 17 + 16)) M R.2 := by
  have F : Fr (fun i k => i = 56 ∨ (17 ≤ i ∧ i < 17 + 16)) M M := Fr.rf
  unfold f_X6_added at h
  obtain ⟨r_1, hr_1, h⟩ := bnd h
  clear hr_1
  rcases ite_or h with h | h
  · obtain ⟨r_2, hr_2, h⟩ := bnd h
    replace F := F.trans ((fr_X6_found hr_2).mono (fun i k h => by omega))
    rw [← Option.some.inj h]; exact F
  · obtain ⟨r_3, hr_3, h⟩ := bnd h
    clear hr_3
    rcases ite_or h with h | h
    · obtain ⟨r_10, hr_10, h⟩ := bnd h
      replace F := F.trans ((fr_X6_found hr_10).mono (fun i k h => by omega))
      rw [← Option.some.inj h]; exact F
    · obtain ⟨r_4, hr_4, h⟩ := bnd h
      clear hr_4
      rcases ite_or h with h | h
      · obtain ⟨r_9, hr_9, h⟩ := bnd h
        replace F := F.trans ((fr_X6_found hr_9).mono (fun i k h => by omega))
        rw [← Option.some.inj h]; exact F
      · obtain ⟨r_5, hr_5, h⟩ := bnd h
        replace F := F.trans ((fr_X4_become hr_5).mono (fun i k h => by omega))
        obtain ⟨r_6, hr_6, h⟩ := bnd h
        replace F := F.trans ((fr_X4_passYears hr_6).mono (fun i k h => by omega))
        obtain ⟨r_7, hr_7, h⟩ := bnd h
        clear hr_7
        obtain ⟨r_8, hr_8, h⟩ := bnd h
        clear hr_8
        exact F.trans (fr_X6_added_l79 _ _ _ _ _ _ _ _ h)
theorem fr_X6_best_b56 {k56 : Int32 → Int32 → Int32 → Int32 → Int32 → Int32 → Mem → Option (Int32 × Mem)} (hk56 : ∀ (x1 : Int32) (x2 : Int32) (x3 : Int32) (x4 : Int32) (x5 : Int32) (x6 : Int32) (M : Mem) (R : Int32 × Mem), k56 x1 x2 x3 x4 x5 x6 M = some R → Fr (fun i k => i = 56 ∨ (17 ≤ i ∧ i < 17 + 16)) M R.2) {x1 : Int32} {x2 : Int32} {x3 : Int32} {x4 : Int32} {x5 : Int32} {x6 : Int32} {M : Mem} {R : Int32 × Mem} (h : f_X6_best_b56 k56 x1 x2 x3 x4 x5 x6 M = some R) : Fr (fun i k => i = 56 ∨ (17 ≤ i ∧ i < 17 + 16)) M R.2 := by
  have F : Fr (fun i k => i = 56 ∨ (17 ≤ i ∧ i < 17 + 16)) M M := Fr.rf
  unfold f_X6_best_b56 at h
  rcases ite_or h with h | h
  · rw [← Option.some.inj h]; exact F
  · obtain ⟨r_7, hr_7, h⟩ := bnd h
    replace F := F.trans ((fr_X4_become hr_7).mono (fun i k h => by omega))
    obtain ⟨_, h⟩ := ck_some h
    obtain ⟨M_9, hM_9, h⟩ := letv_ex h
    replace F := F.put hM_9 (by omega)
    obtain ⟨r_10, hr_10, h⟩ := bnd h
    replace F := F.trans ((fr_X4_passYears hr_10).mono (fun i k h => by omega))
    obtain ⟨_, h⟩ := ck_some h
    obtain ⟨_, h⟩ := ck_some h
    obtain ⟨r_13, hr_13, h⟩ := bnd h
    clear hr_13
    rcases ite_or h with h | h
    · exact F.trans (hk56 _ _ _ _ _ _ _ _ h)
    · exact F.trans (hk56 _ _ _ _ _ _ _ _ h)
theorem fr_X6_best_l56 : ∀ (n : Nat) (x1 : Int32) (x2 : Int32) (x3 : Int32) (x4 : Int32) (x5 : Int32) (x6 : Int32) (M : Mem) (R : Int32 × Mem), f_X6_best_l56 n x1 x2 x3 x4 x5 x6 M = some R → Fr (fun i k => i = 56 ∨ (17 ≤ i ∧ i < 17 + 16)) M R.2 := by
  intro n
  induction n with
  | zero => intro x1 x2 x3 x4 x5 x6 M R h; cases h
  | succ n ih => intro x1 x2 x3 x4 x5 x6 M R h; exact fr_X6_best_b56 ih h
theorem fr_X6_best {x1 : Int32} {x2 : Int32} {x3 : Int32} {M : Mem} {R : Int32 × Mem} (h : f_X6_best x1 x2 x3 M = some R) : Fr (fun i k => i = 56 ∨ (17 ≤ i ∧ i < 17 + 16)) M R.2 := by
  have F : Fr (fun i k => i = 56 ∨ (17 ≤ i ∧ i < 17 + 16)) M M := Fr.rf
  unfold f_X6_best at h
  obtain ⟨r_1, hr_1, h⟩ := bnd h
  clear hr_1
  rcases ite_or h with h | h
  · obtain ⟨r_2, hr_2, h⟩ := bnd h
    replace F := F.trans ((fr_X6_found hr_2).mono (fun i k h => by omega))
    rw [← Option.some.inj h]; exact F
  · obtain ⟨r_3, hr_3, h⟩ := bnd h
    clear hr_3
    rcases ite_or h with h | h
    · obtain ⟨r_6, hr_6, h⟩ := bnd h
      replace F := F.trans ((fr_X6_found hr_6).mono (fun i k h => by omega))
      rw [← Option.some.inj h]; exact F
    · obtain ⟨r_4, hr_4, h⟩ := bnd h
      clear hr_4
      rcases ite_or h with h | h
      · obtain ⟨r_5, hr_5, h⟩ := bnd h
        replace F := F.trans ((fr_X6_found hr_5).mono (fun i k h => by omega))
        rw [← Option.some.inj h]; exact F
      · exact F.trans (fr_X6_best_l56 _ _ _ _ _ _ _ _ _ h)
theorem fr_X6_howManyWithTie {x1 : Int32} {x2 : Int32} {x3 : Int32} {x4 : Int32} {M : Mem} {R : Int32 × Mem} (h : f_X6_howManyWithTie x1 x2 x3 x4 M = some R) : Fr (fun i k => (17 ≤ i ∧ i < 17 + 16)) M R.2 := by
  have F : Fr (fun i k => (17 ≤ i ∧ i < 17 + 16)) M M := Fr.rf
  unfold f_X6_howManyWithTie at h
  obtain ⟨r_1, hr_1, h⟩ := bnd h
  replace F := F.trans ((fr_X4_become hr_1).mono (fun i k h => by omega))
  obtain ⟨r_2, hr_2, h⟩ := bnd h
  replace F := F.trans ((fr_X0_bind hr_2).mono (fun i k h => by omega))
  obtain ⟨r_3, hr_3, h⟩ := bnd h
  replace F := F.trans ((fr_X4_passYears hr_3).mono (fun i k h => by omega))
  obtain ⟨r_4, hr_4, h⟩ := bnd h
  clear hr_4
  obtain ⟨r_5, hr_5, h⟩ := bnd h
  clear hr_5
  rw [← Option.some.inj h]; exact F
theorem fr_X6_bridge_b68 {k47 : Int32 → Int32 → Int32 → Int32 → Int32 → Mem → Option (Int32 × Mem)} {k68 : Int32 → Int32 → Int32 → Int32 → Int32 → Int32 → Mem → Option (Int32 × Mem)} (hk47 : ∀ (x1 : Int32) (x2 : Int32) (x3 : Int32) (x4 : Int32) (x5 : Int32) (M : Mem) (R : Int32 × Mem), k47 x1 x2 x3 x4 x5 M = some R → Fr (fun i k => i = 56 ∨ (17 ≤ i ∧ i < 17 + 16)) M R.2) (hk68 : ∀ (x1 : Int32) (x2 : Int32) (x3 : Int32) (x4 : Int32) (x5 : Int32) (x6 : Int32) (M : Mem) (R : Int32 × Mem), k68 x1 x2 x3 x4 x5 x6 M = some R → Fr (fun i k => i = 56 ∨ (17 ≤ i ∧ i < 17 + 16)) M R.2) {x1 : Int32} {x2 : Int32} {x3 : Int32} {x4 : Int32} {x5 : Int32} {x6 : Int32} {M : Mem} {R : Int32 × Mem} (h : f_X6_bridge_b68 k47 k68 x1 x2 x3 x4 x5 x6 M = some R) : Fr (fun i k => i = 56 ∨ (17 ≤ i ∧ i < 17 + 16)) M R.2 := by
  have F : Fr (fun i k => i = 56 ∨ (17 ≤ i ∧ i < 17 + 16)) M M := Fr.rf
  unfold f_X6_bridge_b68 at h
  rcases ite_or h with h | h
  · exact F.trans (hk47 _ _ _ _ _ _ _ h)
  · obtain ⟨r_9, hr_9, h⟩ := bnd h
    clear hr_9
    rcases ite_or h with h | h
    · obtain ⟨r_10, hr_10, h⟩ := bnd h
      replace F := F.trans ((fr_X6_howManyWithTie hr_10).mono (fun i k h => by omega))
      rcases ite_or h with h | h
      · exact F.trans (hk68 _ _ _ _ _ _ _ _ h)
      · obtain ⟨x3_11, _, h⟩ := letv_ex h
        exact F.trans (hk68 _ _ _ _ _ _ _ _ h)
    · exact F.trans (hk68 _ _ _ _ _ _ _ _ h)
theorem fr_X6_bridge_l68 {k47 : Int32 → Int32 → Int32 → Int32 → Int32 → Mem → Option (Int32 × Mem)} (hk47 : ∀ (x1 : Int32) (x2 : Int32) (x3 : Int32) (x4 : Int32) (x5 : Int32) (M : Mem) (R : Int32 × Mem), k47 x1 x2 x3 x4 x5 M = some R → Fr (fun i k => i = 56 ∨ (17 ≤ i ∧ i < 17 + 16)) M R.2) : ∀ (n : Nat) (x1 : Int32) (x2 : Int32) (x3 : Int32) (x4 : Int32) (x5 : Int32) (x6 : Int32) (M : Mem) (R : Int32 × Mem), f_X6_bridge_l68 k47 n x1 x2 x3 x4 x5 x6 M = some R → Fr (fun i k => i = 56 ∨ (17 ≤ i ∧ i < 17 + 16)) M R.2 := by
  intro n
  induction n with
  | zero => intro x1 x2 x3 x4 x5 x6 M R h; cases h
  | succ n ih => intro x1 x2 x3 x4 x5 x6 M R h; exact fr_X6_bridge_b68 hk47 ih h
theorem fr_X6_bridge_b47 {k47 : Int32 → Int32 → Int32 → Int32 → Int32 → Mem → Option (Int32 × Mem)} (hk47 : ∀ (x1 : Int32) (x2 : Int32) (x3 : Int32) (x4 : Int32) (x5 : Int32) (M : Mem) (R : Int32 × Mem), k47 x1 x2 x3 x4 x5 M = some R → Fr (fun i k => i = 56 ∨ (17 ≤ i ∧ i < 17 + 16)) M R.2) {x1 : Int32} {x2 : Int32} {x3 : Int32} {x4 : Int32} {x5 : Int32} {M : Mem} {R : Int32 × Mem} (h : f_X6_bridge_b47 k47 x1 x2 x3 x4 x5 M = some R) : Fr (fun i k => i = 56 ∨ (17 ≤ i ∧ i < 17 + 16)) M R.2 := by
  have F : Fr (fun i k => i = 56 ∨ (17 ≤ i ∧ i < 17 + 16)) M M := Fr.rf
  unfold f_X6_bridge_b47 at h
  rcases ite_or h with h | h
  · rcases ite_or h with h | h
    · rw [← Option.some.inj h]; exact F
    · obtain ⟨r_7, hr_7, h⟩ := bnd h
      replace F := F.trans ((fr_X6_found hr_7).mono (fun i k h => by omega))
      rw [← Option.some.inj h]; exact F
  · obtain ⟨x6_8, _, h⟩ := letv_ex h
    exact F.trans (fr_X6_bridge_l68 hk47 _ _ _ _ _ _ _ _ _ h)
theorem fr_X6_bridge_l47 : ∀ (n : Nat) (x1 : Int32) (x2 : Int32) (x3 : Int32) (x4 : Int32) (x5 : Int32) (M : Mem) (R : Int32 × Mem), f_X6_bridge_l47 n x1 x2 x3 x4 x5 M = some R → Fr (fun i k => i = 56 ∨ (17 ≤ i ∧ i < 17 + 16)) M R.2 := by
  intro n
  induction n with
  | zero => intro x1 x2 x3 x4 x5 M R h; cases h
  | succ n ih => intro x1 x2 x3 x4 x5 M R h; exact fr_X6_bridge_b47 ih h
theorem fr_X6_bridge {x1 : Int32} {x2 : Int32} {M : Mem} {R : Int32 × Mem} (h : f_X6_bridge x1 x2 M = some R) : Fr (fun i k => i = 56 ∨ (17 ≤ i ∧ i < 17 + 16)) M R.2 := by
  have F : Fr (fun i k => i = 56 ∨ (17 ≤ i ∧ i < 17 + 16)) M M := Fr.rf
  unfold f_X6_bridge at h
  obtain ⟨r_1, hr_1, h⟩ := bnd h
  clear hr_1
  rcases ite_or h with h | h
  · obtain ⟨r_2, hr_2, h⟩ := bnd h
    replace F := F.trans ((fr_X6_found hr_2).mono (fun i k h => by omega))
    rw [← Option.some.inj h]; exact F
  · obtain ⟨r_3, hr_3, h⟩ := bnd h
    clear hr_3
    rcases ite_or h with h | h
    · obtain ⟨r_6, hr_6, h⟩ := bnd h
      replace F := F.trans ((fr_X6_found hr_6).mono (fun i k h => by omega))
      rw [← Option.some.inj h]; exact F
    · obtain ⟨r_4, hr_4, h⟩ := bnd h
      clear hr_4
      rcases ite_or h with h | h
      · obtain ⟨r_5, hr_5, h⟩ := bnd h
        replace F := F.trans ((fr_X6_found hr_5).mono (fun i k h => by omega))
        rw [← Option.some.inj h]; exact F
      · exact F.trans (fr_X6_bridge_l47 _ _ _ _ _ _ _ _ h)
theorem fr_X6_many {x1 : Int32} {x2 : Int32} {M : Mem} {R : Int32 × Mem} (h : f_X6_many x1 x2 M = some R) : Fr (fun i k => i = 56) M R.2 := by
  have F : Fr (fun i k => i = 56) M M := Fr.rf
  unfold f_X6_many at h
  obtain ⟨r_1, hr_1, h⟩ := bnd h
  clear hr_1
  rcases ite_or h with h | h
  · obtain ⟨r_2, hr_2, h⟩ := bnd h
    replace F := F.trans ((fr_X6_found hr_2).mono (fun i k h => by omega))
    rw [← Option.some.inj h]; exact F
  · obtain ⟨r_3, hr_3, h⟩ := bnd h
    clear hr_3
    rcases ite_or h with h | h
    · obtain ⟨r_5, hr_5, h⟩ := bnd h
      replace F := F.trans ((fr_X6_found hr_5).mono (fun i k h => by omega))
      rw [← Option.some.inj h]; exact F
    · obtain ⟨r_4, hr_4, h⟩ := bnd h
      clear hr_4
      rw [← Option.some.inj h]; exact F
theorem fr_X6_said_b51 {k51 : Int32 → Int32 → Int32 → Int32 → Int32 → Int32 → Int32 → Mem → Option (Int32 × Mem)} (hk51 : ∀ (x1 : Int32) (x2 : Int32) (x3 : Int32) (x4 : Int32) (x5 : Int32) (x6 : Int32) (x7 : Int32) (M : Mem) (R : Int32 × Mem), k51 x1 x2 x3 x4 x5 x6 x7 M = some R → Fr (fun i k => i = 56) M R.2) {x1 : Int32} {x2 : Int32} {x3 : Int32} {x4 : Int32} {x5 : Int32} {x6 : Int32} {x7 : Int32} {M : Mem} {R : Int32 × Mem} (h : f_X6_said_b51 k51 x1 x2 x3 x4 x5 x6 x7 M = some R) : Fr (fun i k => i = 56) M R.2 := by
  have F : Fr (fun i k => i = 56) M M := Fr.rf
  unfold f_X6_said_b51 at h
  rcases ite_or h with h | h
  · rcases ite_or h with h | h
    · rcases ite_or h with h | h
      · rw [← Option.some.inj h]; exact F
      · rcases ite_or h with h | h
        · rw [← Option.some.inj h]; exact F
        · rw [← Option.some.inj h]; exact F
    · obtain ⟨r_7, hr_7, h⟩ := bnd h
      replace F := F.trans ((fr_X6_found hr_7).mono (fun i k h => by omega))
      rw [← Option.some.inj h]; exact F
  · obtain ⟨r_8, hr_8, h⟩ := bnd h
    clear hr_8
    rcases ite_or h with h | h
    · rcases ite_or h with h | h
      · obtain ⟨x5_9, _, h⟩ := letv_ex h
        obtain ⟨x6_10, _, h⟩ := letv_ex h
        exact F.trans (hk51 _ _ _ _ _ _ _ _ _ h)
      · obtain ⟨x5_11, _, h⟩ := letv_ex h
        obtain ⟨x6_12, _, h⟩ := letv_ex h
        exact F.trans (hk51 _ _ _ _ _ _ _ _ _ h)
    · exact F.trans (hk51 _ _ _ _ _ _ _ _ _ h)
theorem fr_X6_said_l51 : ∀ (n : Nat) (x1 : Int32) (x2 : Int32) (x3 : Int32) (x4 : Int32) (x5 : Int32) (x6 : Int32) (x7 : Int32) (M : Mem) (R : Int32 × Mem), f_X6_said_l51 n x1 x2 x3 x4 x5 x6 x7 M = some R → Fr (fun i k => i = 56) M R.2 := by
  intro n
  induction n with
  | zero => intro x1 x2 x3 x4 x5 x6 x7 M R h; cases h
  | succ n ih => intro x1 x2 x3 x4 x5 x6 x7 M R h; exact fr_X6_said_b51 ih h
theorem fr_X6_said {x1 : Int32} {x2 : Int32} {x3 : Int32} {M : Mem} {R : Int32 × Mem} (h : f_X6_said x1 x2 x3 M = some R) : Fr (fun i k => i = 56) M R.2 := by
  have F : Fr (fun i k => i = 56) M M := Fr.rf
  unfold f_X6_said at h
  obtain ⟨r_1, hr_1, h⟩ := bnd h
  clear hr_1
  rcases ite_or h with h | h
  · obtain ⟨r_2, hr_2, h⟩ := bnd h
    replace F := F.trans ((fr_X6_found hr_2).mono (fun i k h => by omega))
    rw [← Option.some.inj h]; exact F
  · obtain ⟨r_3, hr_3, h⟩ := bnd h
    clear hr_3
    rcases ite_or h with h | h
    · obtain ⟨r_4, hr_4, h⟩ := bnd h
      replace F := F.trans ((fr_X6_found hr_4).mono (fun i k h => by omega))
      rw [← Option.some.inj h]; exact F
    · rcases ite_or h with h | h
      · obtain ⟨r_5, hr_5, h⟩ := bnd h
        replace F := F.trans ((fr_X6_found hr_5).mono (fun i k h => by omega))
        rw [← Option.some.inj h]; exact F
      · rcases ite_or h with h | h
        · exact F.trans (fr_X6_said_l51 _ _ _ _ _ _ _ _ _ _ h)
        · obtain ⟨r_6, hr_6, h⟩ := bnd h
          replace F := F.trans ((fr_X6_found hr_6).mono (fun i k h => by omega))
          rw [← Option.some.inj h]; exact F
theorem fr_X6_hands_b18 {k18 : Int32 → Int32 → Int32 → Mem → Option (Int32 × Mem)} (hk18 : ∀ (x1 : Int32) (x2 : Int32) (x3 : Int32) (M : Mem) (R : Int32 × Mem), k18 x1 x2 x3 M = some R → Fr (fun i k => i = 56) M R.2) {x1 : Int32} {x2 : Int32} {x3 : Int32} {M : Mem} {R : Int32 × Mem} (h : f_X6_hands_b18 k18 x1 x2 x3 M = some R) : Fr (fun i k => i = 56) M R.2 := by
  have F : Fr (fun i k => i = 56) M M := Fr.rf
  unfold f_X6_hands_b18 at h
  rcases ite_or h with h | h
  · rw [← Option.some.inj h]; exact F
  · obtain ⟨r_3, hr_3, h⟩ := bnd h
    clear hr_3
    rcases ite_or h with h | h
    · exact F.trans (hk18 _ _ _ _ _ h)
    · obtain ⟨x2_4, _, h⟩ := letv_ex h
      exact F.trans (hk18 _ _ _ _ _ h)
theorem fr_X6_hands_l18 : ∀ (n : Nat) (x1 : Int32) (x2 : Int32) (x3 : Int32) (M : Mem) (R : Int32 × Mem), f_X6_hands_l18 n x1 x2 x3 M = some R → Fr (fun i k => i = 56) M R.2 := by
  intro n
  induction n with
  | zero => intro x1 x2 x3 M R h; cases h
  | succ n ih => intro x1 x2 x3 M R h; exact fr_X6_hands_b18 ih h
theorem fr_X6_hands {x1 : Int32} {M : Mem} {R : Int32 × Mem} (h : f_X6_hands x1 M = some R) : Fr (fun i k => i = 56) M R.2 := by
  have F : Fr (fun i k => i = 56) M M := Fr.rf
  unfold f_X6_hands at h
  obtain ⟨r_1, hr_1, h⟩ := bnd h
  clear hr_1
  rcases ite_or h with h | h
  · obtain ⟨r_2, hr_2, h⟩ := bnd h
    replace F := F.trans ((fr_X6_found hr_2).mono (fun i k h => by omega))
    rw [← Option.some.inj h]; exact F
  · exact F.trans (fr_X6_hands_l18 _ _ _ _ _ _ h)
theorem fr_X6_likeliest_b21 {k21 : Int32 → Int32 → Int32 → Int32 → Mem → Option (Int32 × Mem)} (hk21 : ∀ (x1 : Int32) (x2 : Int32) (x3 : Int32) (x4 : Int32) (M : Mem) (R : Int32 × Mem), k21 x1 x2 x3 x4 M = some R → Fr (fun i k => i = 56) M R.2) {x1 : Int32} {x2 : Int32} {x3 : Int32} {x4 : Int32} {M : Mem} {R : Int32 × Mem} (h : f_X6_likeliest_b21 k21 x1 x2 x3 x4 M = some R) : Fr (fun i k => i = 56) M R.2 := by
  have F : Fr (fun i k => i = 56) M M := Fr.rf
  unfold f_X6_likeliest_b21 at h
  rcases ite_or h with h | h
  · rcases ite_or h with h | h
    · rw [← Option.some.inj h]; exact F
    · obtain ⟨r_3, hr_3, h⟩ := bnd h
      replace F := F.trans ((fr_X6_found hr_3).mono (fun i k h => by omega))
      rw [← Option.some.inj h]; exact F
  · obtain ⟨r_4, hr_4, h⟩ := bnd h
    clear hr_4
    rcases ite_or h with h | h
    · exact F.trans (hk21 _ _ _ _ _ _ h)
    · exact F.trans (hk21 _ _ _ _ _ _ h)
theorem fr_X6_likeliest_l21 : ∀ (n : Nat) (x1 : Int32) (x2 : Int32) (x3 : Int32) (x4 : Int32) (M : Mem) (R : Int32 × Mem), f_X6_likeliest_l21 n x1 x2 x3 x4 M = some R → Fr (fun i k => i = 56) M R.2 := by
  intro n
  induction n with
  | zero => intro x1 x2 x3 x4 M R h; cases h
  | succ n ih => intro x1 x2 x3 x4 M R h; exact fr_X6_likeliest_b21 ih h
theorem fr_X6_likeliest {x1 : Int32} {M : Mem} {R : Int32 × Mem} (h : f_X6_likeliest x1 M = some R) : Fr (fun i k => i = 56) M R.2 := by
  have F : Fr (fun i k => i = 56) M M := Fr.rf
  unfold f_X6_likeliest at h
  obtain ⟨r_1, hr_1, h⟩ := bnd h
  clear hr_1
  rcases ite_or h with h | h
  · obtain ⟨r_2, hr_2, h⟩ := bnd h
    replace F := F.trans ((fr_X6_found hr_2).mono (fun i k h => by omega))
    rw [← Option.some.inj h]; exact F
  · exact F.trans (fr_X6_likeliest_l21 _ _ _ _ _ _ _ h)
theorem fr_X6_near_b42 {k42 : Int32 → Int32 → Int32 → Int32 → Int32 → Mem → Option (Int32 × Mem)} (hk42 : ∀ (x1 : Int32) (x2 : Int32) (x3 : Int32) (x4 : Int32) (x5 : Int32) (M : Mem) (R : Int32 × Mem), k42 x1 x2 x3 x4 x5 M = some R → Fr (fun i k => i = 56) M R.2) {x1 : Int32} {x2 : Int32} {x3 : Int32} {x4 : Int32} {x5 : Int32} {M : Mem} {R : Int32 × Mem} (h : f_X6_near_b42 k42 x1 x2 x3 x4 x5 M = some R) : Fr (fun i k => i = 56) M R.2 := by
  have F : Fr (fun i k => i = 56) M M := Fr.rf
  unfold f_X6_near_b42 at h
  rcases ite_or h with h | h
  · rcases ite_or h with h | h
    · rw [← Option.some.inj h]; exact F
    · obtain ⟨r_7, hr_7, h⟩ := bnd h
      replace F := F.trans ((fr_X6_found hr_7).mono (fun i k h => by omega))
      rw [← Option.some.inj h]; exact F
  · obtain ⟨r_8, hr_8, h⟩ := bnd h
    clear hr_8
    rcases ite_or h with h | h
    · obtain ⟨r_9, hr_9, h⟩ := bnd h
      clear hr_9
      obtain ⟨x4_10, _, h⟩ := letv_ex h
      exact F.trans (hk42 _ _ _ _ _ _ _ h)
    · exact F.trans (hk42 _ _ _ _ _ _ _ h)
theorem fr_X6_near_l42 : ∀ (n : Nat) (x1 : Int32) (x2 : Int32) (x3 : Int32) (x4 : Int32) (x5 : Int32) (M : Mem) (R : Int32 × Mem), f_X6_near_l42 n x1 x2 x3 x4 x5 M = some R → Fr (fun i k => i = 56) M R.2 := by
  intro n
  induction n with
  | zero => intro x1 x2 x3 x4 x5 M R h; cases h
  | succ n ih => intro x1 x2 x3 x4 x5 M R h; exact fr_X6_near_b42 ih h
theorem fr_X6_near {x1 : Int32} {x2 : Int32} {x3 : Int32} {M : Mem} {R : Int32 × Mem} (h : f_X6_near x1 x2 x3 M = some R) : Fr (fun i k => i = 56) M R.2 := by
  have F : Fr (fun i k => i = 56) M M := Fr.rf
  unfold f_X6_near at h
  obtain ⟨r_1, hr_1, h⟩ := bnd h
  clear hr_1
  rcases ite_or h with h | h
  · obtain ⟨r_2, hr_2, h⟩ := bnd h
    replace F := F.trans ((fr_X6_found hr_2).mono (fun i k h => by omega))
    rw [← Option.some.inj h]; exact F
  · obtain ⟨r_3, hr_3, h⟩ := bnd h
    clear hr_3
    rcases ite_or h with h | h
    · obtain ⟨r_4, hr_4, h⟩ := bnd h
      replace F := F.trans ((fr_X6_found hr_4).mono (fun i k h => by omega))
      rw [← Option.some.inj h]; exact F
    · obtain ⟨r_5, hr_5, h⟩ := bnd h
      clear hr_5
      rcases ite_or h with h | h
      · obtain ⟨r_6, hr_6, h⟩ := bnd h
        replace F := F.trans ((fr_X6_found hr_6).mono (fun i k h => by omega))
        rw [← Option.some.inj h]; exact F
      · exact F.trans (fr_X6_near_l42 _ _ _ _ _ _ _ _ h)
theorem fr_X6_honest_b25 {k25 : Int32 → Int32 → Int32 → Mem → Option (Int32 × Mem)} (hk25 : ∀ (x1 : Int32) (x2 : Int32) (x3 : Int32) (M : Mem) (R : Int32 × Mem), k25 x1 x2 x3 M = some R → Fr (fun i k => i = 56) M R.2) {x1 : Int32} {x2 : Int32} {x3 : Int32} {M : Mem} {R : Int32 × Mem} (h : f_X6_honest_b25 k25 x1 x2 x3 M = some R) : Fr (fun i k => i = 56) M R.2 := by
  have F : Fr (fun i k => i = 56) M M := Fr.rf
  unfold f_X6_honest_b25 at h
  rcases ite_or h with h | h
  · rw [← Option.some.inj h]; exact F
  · obtain ⟨r_3, hr_3, h⟩ := bnd h
    clear hr_3
    rcases ite_or h with h | h
    · exact F.trans (hk25 _ _ _ _ _ h)
    · exact F.trans (hk25 _ _ _ _ _ h)
theorem fr_X6_honest_l25 : ∀ (n : Nat) (x1 : Int32) (x2 : Int32) (x3 : Int32) (M : Mem) (R : Int32 × Mem), f_X6_honest_l25 n x1 x2 x3 M = some R → Fr (fun i k => i = 56) M R.2 := by
  intro n
  induction n with
  | zero => intro x1 x2 x3 M R h; cases h
  | succ n ih => intro x1 x2 x3 M R h; exact fr_X6_honest_b25 ih h
theorem fr_X6_honest {x1 : Int32} {M : Mem} {R : Int32 × Mem} (h : f_X6_honest x1 M = some R) : Fr (fun i k => i = 56) M R.2 := by
  have F : Fr (fun i k => i = 56) M M := Fr.rf
  unfold f_X6_honest at h
  obtain ⟨r_1, hr_1, h⟩ := bnd h
  clear hr_1
  rcases ite_or h with h | h
  · obtain ⟨r_2, hr_2, h⟩ := bnd h
    replace F := F.trans ((fr_X6_found hr_2).mono (fun i k h => by omega))
    rw [← Option.some.inj h]; exact F
  · exact F.trans (fr_X6_honest_l25 _ _ _ _ _ _ h)
theorem fr_X6_round_b29 {k29 : Int32 → Int32 → Int32 → Mem → Option (Int32 × Mem)} (hk29 : ∀ (x2 : Int32) (x3 : Int32) (x4 : Int32) (M : Mem) (R : Int32 × Mem), k29 x2 x3 x4 M = some R → Fr (fun i k => i = 56) M R.2) {x2 : Int32} {x3 : Int32} {x4 : Int32} {M : Mem} {R : Int32 × Mem} (h : f_X6_round_b29 k29 x2 x3 x4 M = some R) : Fr (fun i k => i = 56) M R.2 := by
  have F : Fr (fun i k => i = 56) M M := Fr.rf
  unfold f_X6_round_b29 at h
  rcases ite_or h with h | h
  · rw [← Option.some.inj h]; exact F
  · obtain ⟨r_5, hr_5, h⟩ := bnd h
    clear hr_5
    exact F.trans (hk29 _ _ _ _ _ h)
theorem fr_X6_round_l29 : ∀ (n : Nat) (x2 : Int32) (x3 : Int32) (x4 : Int32) (M : Mem) (R : Int32 × Mem), f_X6_round_l29 n x2 x3 x4 M = some R → Fr (fun i k => i = 56) M R.2 := by
  intro n
  induction n with
  | zero => intro x2 x3 x4 M R h; cases h
  | succ n ih => intro x2 x3 x4 M R h; exact fr_X6_round_b29 ih h
theorem fr_X6_round {x1 : Int32} {x2 : Int32} {M : Mem} {R : Int32 × Mem} (h : f_X6_round x1 x2 M = some R) : Fr (fun i k => i = 56) M R.2 := by
  have F : Fr (fun i k => i = 56) M M := Fr.rf
  unfold f_X6_round at h
  obtain ⟨r_1, hr_1, h⟩ := bnd h
  clear hr_1
  rcases ite_or h with h | h
  · obtain ⟨r_2, hr_2, h⟩ := bnd h
    replace F := F.trans ((fr_X6_found hr_2).mono (fun i k h => by omega))
    rw [← Option.some.inj h]; exact F
  · rcases ite_or h with h | h
    · obtain ⟨r_3, hr_3, h⟩ := bnd h
      replace F := F.trans ((fr_X6_found hr_3).mono (fun i k h => by omega))
      rw [← Option.some.inj h]; exact F
    · rcases ite_or h with h | h
      · exact F.trans (fr_X6_round_l29 _ _ _ _ _ _ h)
      · obtain ⟨r_4, hr_4, h⟩ := bnd h
        replace F := F.trans ((fr_X6_found hr_4).mono (fun i k h => by omega))
        rw [← Option.some.inj h]; exact F
theorem fr_X6_settles_b46 {k25 : Int32 → Int32 → Mem → Option (Int32 × Mem)} {k46 : Int32 → Int32 → Int32 → Mem → Option (Int32 × Mem)} (hk25 : ∀ (x2 : Int32) (x3 : Int32) (M : Mem) (R : Int32 × Mem), k25 x2 x3 M = some R → Fr (fun i k => i = 56 ∨ i = 57) M R.2) (hk46 : ∀ (x2 : Int32) (x3 : Int32) (x4 : Int32) (M : Mem) (R : Int32 × Mem), k46 x2 x3 x4 M = some R → Fr (fun i k => i = 56 ∨ i = 57) M R.2) {x2 : Int32} {x3 : Int32} {x4 : Int32} {M : Mem} {R : Int32 × Mem} (h : f_X6_settles_b46 k25 k46 x2 x3 x4 M = some R) : Fr (fun i k => i = 56 ∨ i = 57) M R.2 := by
  have F : Fr (fun i k => i = 56 ∨ i = 57) M M := Fr.rf
  unfold f_X6_settles_b46 at h
  rcases ite_or h with h | h
  · obtain ⟨_, h⟩ := ck_some h
    obtain ⟨M_8, hM_8, h⟩ := letv_ex h
    replace F := F.put hM_8 (by omega)
    exact F.trans (hk25 _ _ _ _ h)
  · obtain ⟨_, h⟩ := ck_some h
    rcases ite_or h with h | h
    · rw [← Option.some.inj h]; exact F
    · exact F.trans (hk46 _ _ _ _ _ h)
theorem fr_X6_settles_l46 {k25 : Int32 → Int32 → Mem → Option (Int32 × Mem)} (hk25 : ∀ (x2 : Int32) (x3 : Int32) (M : Mem) (R : Int32 × Mem), k25 x2 x3 M = some R → Fr (fun i k => i = 56 ∨ i = 57) M R.2) : ∀ (n : Nat) (x2 : Int32) (x3 : Int32) (x4 : Int32) (M : Mem) (R : Int32 × Mem), f_X6_settles_l46 k25 n x2 x3 x4 M = some R → Fr (fun i k => i = 56 ∨ i = 57) M R.2 := by
  intro n
  induction n with
  | zero => intro x2 x3 x4 M R h; cases h
  | succ n ih => intro x2 x3 x4 M R h; exact fr_X6_settles_b46 hk25 ih h
theorem fr_X6_settles_b25 {k25 : Int32 → Int32 → Mem → Option (Int32 × Mem)} (hk25 : ∀ (x2 : Int32) (x3 : Int32) (M : Mem) (R : Int32 × Mem), k25 x2 x3 M = some R → Fr (fun i k => i = 56 ∨ i = 57) M R.2) {x2 : Int32} {x3 : Int32} {M : Mem} {R : Int32 × Mem} (h : f_X6_settles_b25 k25 x2 x3 M = some R) : Fr (fun i k => i = 56 ∨ i = 57) M R.2 := by
  have F : Fr (fun i k => i = 56 ∨ i = 57) M M := Fr.rf
  unfold f_X6_settles_b25 at h
  rcases ite_or h with h | h
  · obtain ⟨r_5, hr_5, h⟩ := bnd h
    replace F := F.trans ((fr_X6_found hr_5).mono (fun i k h => by omega))
    rw [← Option.some.inj h]; exact F
  · obtain ⟨r_6, hr_6, h⟩ := bnd h
    clear hr_6
    exact F.trans (fr_X6_settles_l46 hk25 _ _ _ _ _ _ h)
theorem fr_X6_settles_l25 : ∀ (n : Nat) (x2 : Int32) (x3 : Int32) (M : Mem) (R : Int32 × Mem), f_X6_settles_l25 n x2 x3 M = some R → Fr (fun i k => i = 56 ∨ i = 57) M R.2 := by
  intro n
  induction n with
  | zero => intro x2 x3 M R h; cases h
  | succ n ih => intro x2 x3 M R h; exact fr_X6_settles_b25 ih h
theorem fr_X6_settles {x1 : Int32} {M : Mem} {R : Int32 × Mem} (h : f_X6_settles x1 M = some R) : Fr (fun i k => i = 56 ∨ i = 57) M R.2 := by
  have F : Fr (fun i k => i = 56 ∨ i = 57) M M := Fr.rf
  unfold f_X6_settles at h
  obtain ⟨r_1, hr_1, h⟩ := bnd h
  clear hr_1
  rcases ite_or h with h | h
  · obtain ⟨r_4, hr_4, h⟩ := bnd h
    replace F := F.trans ((fr_X6_found hr_4).mono (fun i k h => by omega))
    rw [← Option.some.inj h]; exact F
  · obtain ⟨_, h⟩ := ck_some h
    obtain ⟨M_3, hM_3, h⟩ := letv_ex h
    replace F := F.put hM_3 (by omega)
    exact F.trans (fr_X6_settles_l25 _ _ _ _ _ h)
theorem fr_X6_court {x1 : Int32} {x2 : Int32} {x3 : Int32} {M : Mem} {R : Int32 × Mem} (h : f_X6_court x1 x2 x3 M = some R) : Fr (fun i k => i = 56) M R.2 := by
  have F : Fr (fun i k => i = 56) M M := Fr.rf
  unfold f_X6_court at h
  obtain ⟨r_1, hr_1, h⟩ := bnd h
  clear hr_1
  rcases ite_or h with h | h
  · obtain ⟨r_2, hr_2, h⟩ := bnd h
    replace F := F.trans ((fr_X6_found hr_2).mono (fun i k h => by omega))
    rw [← Option.some.inj h]; exact F
  · obtain ⟨r_3, hr_3, h⟩ := bnd h
    clear hr_3
    rcases ite_or h with h | h
    · obtain ⟨r_4, hr_4, h⟩ := bnd h
      replace F := F.trans ((fr_X6_found hr_4).mono (fun i k h => by omega))
      rw [← Option.some.inj h]; exact F
    · obtain ⟨r_5, hr_5, h⟩ := bnd h
      clear hr_5
      rcases ite_or h with h | h
      · obtain ⟨r_10, hr_10, h⟩ := bnd h
        replace F := F.trans ((fr_X6_found hr_10).mono (fun i k h => by omega))
        rw [← Option.some.inj h]; exact F
      · obtain ⟨r_6, hr_6, h⟩ := bnd h
        clear hr_6
        obtain ⟨r_7, hr_7, h⟩ := bnd h
        clear hr_7
        obtain ⟨r_8, hr_8, h⟩ := bnd h
        clear hr_8
        obtain ⟨r_9, hr_9, h⟩ := bnd h
        clear hr_9
        rw [← Option.some.inj h]; exact F
theorem fr_X6_witness_b51 {k30 : Int32 → Int32 → Int32 → Int32 → Mem → Option (Int32 × Mem)} {k51 : Int32 → Int32 → Int32 → Int32 → Int32 → Int32 → Mem → Option (Int32 × Mem)} (hk30 : ∀ (x1 : Int32) (x2 : Int32) (x3 : Int32) (x4 : Int32) (M : Mem) (R : Int32 × Mem), k30 x1 x2 x3 x4 M = some R → Fr (fun i k => i = 56) M R.2) (hk51 : ∀ (x1 : Int32) (x2 : Int32) (x3 : Int32) (x4 : Int32) (x5 : Int32) (x6 : Int32) (M : Mem) (R : Int32 × Mem), k51 x1 x2 x3 x4 x5 x6 M = some R → Fr (fun i k => i = 56) M R.2) {x1 : Int32} {x2 : Int32} {x3 : Int32} {x4 : Int32} {x5 : Int32} {x6 : Int32} {M : Mem} {R : Int32 × Mem} (h : f_X6_witness_b51 k30 k51 x1 x2 x3 x4 x5 x6 M = some R) : Fr (fun i k => i = 56) M R.2 := by
  have F : Fr (fun i k => i = 56) M M := Fr.rf
  unfold f_X6_witness_b51 at h
  rcases ite_or h with h | h
  · rcases ite_or h with h | h
    · exact F.trans (hk30 _ _ _ _ _ _ h)
    · exact F.trans (hk30 _ _ _ _ _ _ h)
  · obtain ⟨r_3, hr_3, h⟩ := bnd h
    clear hr_3
    obtain ⟨r_4, hr_4, h⟩ := bnd h
    clear hr_4
    rcases ite_or h with h | h
    · exact F.trans (hk51 _ _ _ _ _ _ _ _ h)
    · exact F.trans (hk51 _ _ _ _ _ _ _ _ h)
theorem fr_X6_witness_l51 {k30 : Int32 → Int32 → Int32 → Int32 → Mem → Option (Int32 × Mem)} (hk30 : ∀ (x1 : Int32) (x2 : Int32) (x3 : Int32) (x4 : Int32) (M : Mem) (R : Int32 × Mem), k30 x1 x2 x3 x4 M = some R → Fr (fun i k => i = 56) M R.2) : ∀ (n : Nat) (x1 : Int32) (x2 : Int32) (x3 : Int32) (x4 : Int32) (x5 : Int32) (x6 : Int32) (M : Mem) (R : Int32 × Mem), f_X6_witness_l51 k30 n x1 x2 x3 x4 x5 x6 M = some R → Fr (fun i k => i = 56) M R.2 := by
  intro n
  induction n with
  | zero => intro x1 x2 x3 x4 x5 x6 M R h; cases h
  | succ n ih => intro x1 x2 x3 x4 x5 x6 M R h; exact fr_X6_witness_b51 hk30 ih h
theorem fr_X6_witness_b30 {k30 : Int32 → Int32 → Int32 → Int32 → Mem → Option (Int32 × Mem)} (hk30 : ∀ (x1 : Int32) (x2 : Int32) (x3 : Int32) (x4 : Int32) (M : Mem) (R : Int32 × Mem), k30 x1 x2 x3 x4 M = some R → Fr (fun i k => i = 56) M R.2) {x1 : Int32} {x2 : Int32} {x3 : Int32} {x4 : Int32} {M : Mem} {R : Int32 × Mem} (h : f_X6_witness_b30 k30 x1 x2 x3 x4 M = some R) : Fr (fun i k => i = 56) M R.2 := by
  have F : Fr (fun i k => i = 56) M M := Fr.rf
  unfold f_X6_witness_b30 at h
  rcases ite_or h with h | h
  · rw [← Option.some.inj h]; exact F
  · exact F.trans (fr_X6_witness_l51 hk30 _ _ _ _ _ _ _ _ _ h)
theorem fr_X6_witness_l30 : ∀ (n : Nat) (x1 : Int32) (x2 : Int32) (x3 : Int32) (x4 : Int32) (M : Mem) (R : Int32 × Mem), f_X6_witness_l30 n x1 x2 x3 x4 M = some R → Fr (fun i k => i = 56) M R.2 := by
  intro n
  induction n with
  | zero => intro x1 x2 x3 x4 M R h; cases h
  | succ n ih => intro x1 x2 x3 x4 M R h; exact fr_X6_witness_b30 ih h
theorem fr_X6_witness {x1 : Int32} {M : Mem} {R : Int32 × Mem} (h : f_X6_witness x1 M = some R) : Fr (fun i k => i = 56) M R.2 := by
  have F : Fr (fun i k => i = 56) M M := Fr.rf
  unfold f_X6_witness at h
  obtain ⟨r_1, hr_1, h⟩ := bnd h
  clear hr_1
  rcases ite_or h with h | h
  · obtain ⟨r_2, hr_2, h⟩ := bnd h
    replace F := F.trans ((fr_X6_found hr_2).mono (fun i k h => by omega))
    rw [← Option.some.inj h]; exact F
  · exact F.trans (fr_X6_witness_l30 _ _ _ _ _ _ _ h)
theorem fr_X6_price_b58 {k58 : Int32 → Int32 → Int32 → Int32 → Int32 → Mem → Option (Int32 × Mem)} (hk58 : ∀ (x1 : Int32) (x2 : Int32) (x3 : Int32) (x4 : Int32) (x5 : Int32) (M : Mem) (R : Int32 × Mem), k58 x1 x2 x3 x4 x5 M = some R → Fr (fun i k => i = 56 ∨ (17 ≤ i ∧ i < 17 + 16)) M R.2) {x1 : Int32} {x2 : Int32} {x3 : Int32} {x4 : Int32} {x5 : Int32} {M : Mem} {R : Int32 × Mem} (h : f_X6_price_b58 k58 x1 x2 x3 x4 x5 M = some R) : Fr (fun i k => i = 56 ∨ (17 ≤ i ∧ i < 17 + 16)) M R.2 := by
  have F : Fr (fun i k => i = 56 ∨ (17 ≤ i ∧ i < 17 + 16)) M M := Fr.rf
  unfold f_X6_price_b58 at h
  rcases ite_or h with h | h
  · rw [← Option.some.inj h]; exact F
  · obtain ⟨r_7, hr_7, h⟩ := bnd h
    replace F := F.trans ((fr_X4_become hr_7).mono (fun i k h => by omega))
    obtain ⟨_, h⟩ := ck_some h
    obtain ⟨M_9, hM_9, h⟩ := letv_ex h
    replace F := F.put hM_9 (by omega)
    obtain ⟨r_10, hr_10, h⟩ := bnd h
    replace F := F.trans ((fr_X4_passYears hr_10).mono (fun i k h => by omega))
    obtain ⟨_, h⟩ := ck_some h
    rcases ite_or h with h | h
    · exact F.trans (hk58 _ _ _ _ _ _ _ h)
    · obtain ⟨_, h⟩ := ck_some h
      obtain ⟨x4_13, _, h⟩ := letv_ex h
      exact F.trans (hk58 _ _ _ _ _ _ _ h)
theorem fr_X6_price_l58 : ∀ (n : Nat) (x1 : Int32) (x2 : Int32) (x3 : Int32) (x4 : Int32) (x5 : Int32) (M : Mem) (R : Int32 × Mem), f_X6_price_l58 n x1 x2 x3 x4 x5 M = some R → Fr (fun i k => i = 56 ∨ (17 ≤ i ∧ i < 17 + 16)) M R.2 := by
  intro n
  induction n with
  | zero => intro x1 x2 x3 x4 x5 M R h; cases h
  | succ n ih => intro x1 x2 x3 x4 x5 M R h; exact fr_X6_price_b58 ih h
theorem fr_X6_price {x1 : Int32} {x2 : Int32} {M : Mem} {R : Int32 × Mem} (h : f_X6_price x1 x2 M = some R) : Fr (fun i k => i = 56 ∨ (17 ≤ i ∧ i < 17 + 16)) M R.2 := by
  have F : Fr (fun i k => i = 56 ∨ (17 ≤ i ∧ i < 17 + 16)) M M := Fr.rf
  unfold f_X6_price at h
  obtain ⟨r_1, hr_1, h⟩ := bnd h
  clear hr_1
  rcases ite_or h with h | h
  · obtain ⟨r_2, hr_2, h⟩ := bnd h
    replace F := F.trans ((fr_X6_found hr_2).mono (fun i k h => by omega))
    rw [← Option.some.inj h]; exact F
  · rcases ite_or h with h | h
    · obtain ⟨r_3, hr_3, h⟩ := bnd h
      replace F := F.trans ((fr_X6_found hr_3).mono (fun i k h => by omega))
      rw [← Option.some.inj h]; exact F
    · rcases ite_or h with h | h
      · obtain ⟨r_4, hr_4, h⟩ := bnd h
        clear hr_4
        rcases ite_or h with h | h
        · obtain ⟨r_5, hr_5, h⟩ := bnd h
          replace F := F.trans ((fr_X6_found hr_5).mono (fun i k h => by omega))
          rw [← Option.some.inj h]; exact F
        · exact F.trans (fr_X6_price_l58 _ _ _ _ _ _ _ _ h)
      · obtain ⟨r_6, hr_6, h⟩ := bnd h
        replace F := F.trans ((fr_X6_found hr_6).mono (fun i k h => by omega))
        rw [← Option.some.inj h]; exact F
theorem fr_X6_school_b76 {k76 : Int32 → Int32 → Int32 → Mem → Option (Int32 × Mem)} (hk76 : ∀ (x1 : Int32) (x2 : Int32) (x3 : Int32) (M : Mem) (R : Int32 × Mem), k76 x1 x2 x3 M = some R → Fr (fun i k => i = 56 ∨ (17 ≤ i ∧ i < 17 + 16)) M R.2) {x1 : Int32} {x2 : Int32} {x3 : Int32} {M : Mem} {R : Int32 × Mem} (h : f_X6_school_b76 k76 x1 x2 x3 M = some R) : Fr (fun i k => i = 56 ∨ (17 ≤ i ∧ i < 17 + 16)) M R.2 := by
  have F : Fr (fun i k => i = 56 ∨ (17 ≤ i ∧ i < 17 + 16)) M M := Fr.rf
  unfold f_X6_school_b76 at h
  rcases ite_or h with h | h
  · obtain ⟨r_9, hr_9, h⟩ := bnd h
    replace F := F.trans ((fr_X4_passYears hr_9).mono (fun i k h => by omega))
    rw [← Option.some.inj h]; exact F
  · obtain ⟨_, h⟩ := ck_some h
    obtain ⟨M_11, hM_11, h⟩ := letv_ex h
    replace F := F.put hM_11 (by omega)
    obtain ⟨x3_12, _, h⟩ := letv_ex h
    exact F.trans (hk76 _ _ _ _ _ h)
theorem fr_X6_school_l76 : ∀ (n : Nat) (x1 : Int32) (x2 : Int32) (x3 : Int32) (M : Mem) (R : Int32 × Mem), f_X6_school_l76 n x1 x2 x3 M = some R → Fr (fun i k => i = 56 ∨ (17 ≤ i ∧ i < 17 + 16)) M R.2 := by
  intro n
  induction n with
  | zero => intro x1 x2 x3 M R h; cases h
  | succ n ih => intro x1 x2 x3 M R h; exact fr_X6_school_b76 ih h
theorem fr_X6_school {x1 : Int32} {M : Mem} {R : Int32 × Mem} (h : f_X6_school x1 M = some R) : Fr (fun i k => i = 56 ∨ (17 ≤ i ∧ i < 17 + 16)) M R.2 := by
  have F : Fr (fun i k => i = 56 ∨ (17 ≤ i ∧ i < 17 + 16)) M M := Fr.rf
  unfold f_X6_school at h
  rcases ite_or h with h | h
  · obtain ⟨r_1, hr_1, h⟩ := bnd h
    replace F := F.trans ((fr_X6_found hr_1).mono (fun i k h => by omega))
    rw [← Option.some.inj h]; exact F
  · rcases ite_or h with h | h
    · obtain ⟨r_2, hr_2, h⟩ := bnd h
      clear hr_2
      rcases ite_or h with h | h
      · obtain ⟨r_7, hr_7, h⟩ := bnd h
        replace F := F.trans ((fr_X6_found hr_7).mono (fun i k h => by omega))
        rw [← Option.some.inj h]; exact F
      · obtain ⟨r_3, hr_3, h⟩ := bnd h
        replace F := F.trans ((fr_X4_become hr_3).mono (fun i k h => by omega))
        obtain ⟨r_4, hr_4, h⟩ := bnd h
        replace F := F.trans ((fr_X4_passYears hr_4).mono (fun i k h => by omega))
        obtain ⟨x2_5, _, h⟩ := letv_ex h
        obtain ⟨r_6, hr_6, h⟩ := bnd h
        replace F := F.trans ((fr_X4_become hr_6).mono (fun i k h => by omega))
        exact F.trans (fr_X6_school_l76 _ _ _ _ _ _ h)
    · obtain ⟨r_8, hr_8, h⟩ := bnd h
      replace F := F.trans ((fr_X6_found hr_8).mono (fun i k h => by omega))
      rw [← Option.some.inj h]; exact F
theorem fr_X6_gossip_b43 {k43 : Int32 → Int32 → Int32 → Mem → Option (Int32 × Mem)} (hk43 : ∀ (x1 : Int32) (x2 : Int32) (x3 : Int32) (M : Mem) (R : Int32 × Mem), k43 x1 x2 x3 M = some R → Fr (fun i k => i = 56 ∨ (1 ≤ i ∧ i < 1 + 16)) M R.2) {x1 : Int32} {x2 : Int32} {x3 : Int32} {M : Mem} {R : Int32 × Mem} (h : f_X6_gossip_b43 k43 x1 x2 x3 M = some R) : Fr (fun i k => i = 56 ∨ (1 ≤ i ∧ i < 1 + 16)) M R.2 := by
  have F : Fr (fun i k => i = 56 ∨ (1 ≤ i ∧ i < 1 + 16)) M M := Fr.rf
  unfold f_X6_gossip_b43 at h
  rcases ite_or h with h | h
  · obtain ⟨r_5, hr_5, h⟩ := bnd h
    clear hr_5
    rw [← Option.some.inj h]; exact F
  · obtain ⟨r_6, hr_6, h⟩ := bnd h
    replace F := F.trans ((fr_X4_draw hr_6).mono (fun i k h => by omega))
    obtain ⟨_, h⟩ := ck_some h
    obtain ⟨x4_8, _, h⟩ := letv_ex h
    obtain ⟨_, h⟩ := ck_some h
    obtain ⟨r_10, hr_10, h⟩ := bnd h
    replace F := F.trans ((fr_X4_draw hr_10).mono (fun i k h => by omega))
    obtain ⟨_, h⟩ := ck_some h
    obtain ⟨M_12, hM_12, h⟩ := letv_ex h
    replace F := F.put hM_12 (by omega)
    exact F.trans (hk43 _ _ _ _ _ h)
theorem fr_X6_gossip_l43 : ∀ (n : Nat) (x1 : Int32) (x2 : Int32) (x3 : Int32) (M : Mem) (R : Int32 × Mem), f_X6_gossip_l43 n x1 x2 x3 M = some R → Fr (fun i k => i = 56 ∨ (1 ≤ i ∧ i < 1 + 16)) M R.2 := by
  intro n
  induction n with
  | zero => intro x1 x2 x3 M R h; cases h
  | succ n ih => intro x1 x2 x3 M R h; exact fr_X6_gossip_b43 ih h
theorem fr_X6_gossip {x1 : Int32} {M : Mem} {R : Int32 × Mem} (h : f_X6_gossip x1 M = some R) : Fr (fun i k => i = 56 ∨ (1 ≤ i ∧ i < 1 + 16)) M R.2 := by
  have F : Fr (fun i k => i = 56 ∨ (1 ≤ i ∧ i < 1 + 16)) M M := Fr.rf
  unfold f_X6_gossip at h
  rcases ite_or h with h | h
  · obtain ⟨r_1, hr_1, h⟩ := bnd h
    replace F := F.trans ((fr_X6_found hr_1).mono (fun i k h => by omega))
    rw [← Option.some.inj h]; exact F
  · rcases ite_or h with h | h
    · obtain ⟨x2_2, _, h⟩ := letv_ex h
      rcases ite_or h with h | h
      · exact F.trans (fr_X6_gossip_l43 _ _ _ _ _ _ h)
      · obtain ⟨r_3, hr_3, h⟩ := bnd h
        replace F := F.trans ((fr_X6_found hr_3).mono (fun i k h => by omega))
        rw [← Option.some.inj h]; exact F
    · obtain ⟨r_4, hr_4, h⟩ := bnd h
      replace F := F.trans ((fr_X6_found hr_4).mono (fun i k h => by omega))
      rw [← Option.some.inj h]; exact F
theorem fr_X6_seed {x1 : Int32} {M : Mem} {R : Int32 × Mem} (h : f_X6_seed x1 M = some R) : Fr (fun i k => (1 ≤ i ∧ i < 1 + 16)) M R.2 := by
  have F : Fr (fun i k => (1 ≤ i ∧ i < 1 + 16)) M M := Fr.rf
  unfold f_X6_seed at h
  obtain ⟨x2_1, _, h⟩ := letv_ex h
  obtain ⟨M_2, hM_2, h⟩ := letv_ex h
  replace F := F.put hM_2 (by omega)
  rw [← Option.some.inj h]; exact F
theorem fr_X6_feed {x1 : Int32} {x2 : Int32} {M : Mem} {R : Int32 × Mem} (h : f_X6_feed x1 x2 M = some R) : Fr (fun i k => i = 56 ∨ (49 ≤ i ∧ i < 49 + 2)) M R.2 := by
  have F : Fr (fun i k => i = 56 ∨ (49 ≤ i ∧ i < 49 + 2)) M M := Fr.rf
  unfold f_X6_feed at h
  rcases ite_or h with h | h
  · obtain ⟨r_1, hr_1, h⟩ := bnd h
    replace F := F.trans ((fr_X6_found hr_1).mono (fun i k h => by omega))
    rw [← Option.some.inj h]; exact F
  · rcases ite_or h with h | h
    · rcases ite_or h with h | h
      · obtain ⟨r_2, hr_2, h⟩ := bnd h
        replace F := F.trans ((fr_X2_take hr_2).mono (fun i k h => by omega))
        rw [← Option.some.inj h]; exact F
      · obtain ⟨r_3, hr_3, h⟩ := bnd h
        replace F := F.trans ((fr_X6_found hr_3).mono (fun i k h => by omega))
        rw [← Option.some.inj h]; exact F
    · obtain ⟨r_4, hr_4, h⟩ := bnd h
      replace F := F.trans ((fr_X6_found hr_4).mono (fun i k h => by omega))
      rw [← Option.some.inj h]; exact F
theorem fr_X6_wipe {M : Mem} {R : Int32 × Mem} (h : f_X6_wipe M = some R) : Fr (fun i k => (49 ≤ i ∧ i < 49 + 2)) M R.2 := by
  have F : Fr (fun i k => (49 ≤ i ∧ i < 49 + 2)) M M := Fr.rf
  unfold f_X6_wipe at h
  obtain ⟨x1_1, _, h⟩ := letv_ex h
  obtain ⟨M_2, hM_2, h⟩ := letv_ex h
  replace F := F.put hM_2 (by omega)
  rw [← Option.some.inj h]; exact F
theorem fr_X6_text {M : Mem} {R : Int32 × Mem} (h : f_X6_text M = some R) : Fr (fun i k => (1 ≤ i ∧ i < 1 + 16) ∨ (17 ≤ i ∧ i < 17 + 16) ∨ (49 ≤ i ∧ i < 49 + 2)) M R.2 := by
  have F : Fr (fun i k => (1 ≤ i ∧ i < 1 + 16) ∨ (17 ≤ i ∧ i < 17 + 16) ∨ (49 ≤ i ∧ i < 49 + 2)) M M := Fr.rf
  unfold f_X6_text at h
  obtain ⟨r_1, hr_1, h⟩ := bnd h
  replace F := F.trans ((fr_X4_become hr_1).mono (fun i k h => by omega))
  obtain ⟨r_2, hr_2, h⟩ := bnd h
  replace F := F.trans ((fr_X3_wholeText hr_2).mono (fun i k h => by omega))
  rcases ite_or h with h | h
  · obtain ⟨M_3, hM_3, h⟩ := letv_ex h
    replace F := F.put hM_3 (by omega)
    rw [← Option.some.inj h]; exact F
  · obtain ⟨r_4, hr_4, h⟩ := bnd h
    replace F := F.trans ((fr_X4_become hr_4).mono (fun i k h => by omega))
    obtain ⟨M_5, hM_5, h⟩ := letv_ex h
    replace F := F.put hM_5 (by omega)
    rw [← Option.some.inj h]; exact F
theorem fr_X6_hold {x1 : Int32} {x2 : Int32} {M : Mem} {R : Int32 × Mem} (h : f_X6_hold x1 x2 M = some R) : Fr (fun i k => i = 56 ∨ (1 ≤ i ∧ i < 1 + 16)) M R.2 := by
  have F : Fr (fun i k => i = 56 ∨ (1 ≤ i ∧ i < 1 + 16)) M M := Fr.rf
  unfold f_X6_hold at h
  obtain ⟨r_1, hr_1, h⟩ := bnd h
  clear hr_1
  rcases ite_or h with h | h
  · obtain ⟨r_2, hr_2, h⟩ := bnd h
    replace F := F.trans ((fr_X6_found hr_2).mono (fun i k h => by omega))
    rw [← Option.some.inj h]; exact F
  · rcases ite_or h with h | h
    · obtain ⟨_, h⟩ := ck_some h
      obtain ⟨M_4, hM_4, h⟩ := letv_ex h
      replace F := F.put hM_4 (by omega)
      rw [← Option.some.inj h]; exact F
    · obtain ⟨r_5, hr_5, h⟩ := bnd h
      clear hr_5
      rcases ite_or h with h | h
      · obtain ⟨r_8, hr_8, h⟩ := bnd h
        replace F := F.trans ((fr_X6_found hr_8).mono (fun i k h => by omega))
        rw [← Option.some.inj h]; exact F
      · obtain ⟨_, h⟩ := ck_some h
        obtain ⟨M_7, hM_7, h⟩ := letv_ex h
        replace F := F.put hM_7 (by omega)
        rw [← Option.some.inj h]; exact F
theorem fr_X6_as {x1 : Int32} {x2 : Int32} {M : Mem} {R : Int32 × Mem} (h : f_X6_as x1 x2 M = some R) : Fr (fun i k => i = 56) M R.2 := by
  have F : Fr (fun i k => i = 56) M M := Fr.rf
  unfold f_X6_as at h
  obtain ⟨r_1, hr_1, h⟩ := bnd h
  clear hr_1
  rcases ite_or h with h | h
  · obtain ⟨r_2, hr_2, h⟩ := bnd h
    replace F := F.trans ((fr_X6_found hr_2).mono (fun i k h => by omega))
    rw [← Option.some.inj h]; exact F
  · obtain ⟨r_3, hr_3, h⟩ := bnd h
    clear hr_3
    rcases ite_or h with h | h
    · obtain ⟨r_11, hr_11, h⟩ := bnd h
      replace F := F.trans ((fr_X6_found hr_11).mono (fun i k h => by omega))
      rw [← Option.some.inj h]; exact F
    · obtain ⟨_, h⟩ := ck_some h
      obtain ⟨x3_5, _, h⟩ := letv_ex h
      obtain ⟨r_6, hr_6, h⟩ := bnd h
      clear hr_6
      rcases ite_or h with h | h
      · obtain ⟨r_10, hr_10, h⟩ := bnd h
        replace F := F.trans ((fr_X6_found hr_10).mono (fun i k h => by omega))
        rw [← Option.some.inj h]; exact F
      · obtain ⟨_, h⟩ := ck_some h
        obtain ⟨r_8, hr_8, h⟩ := bnd h
        clear hr_8
        rcases ite_or h with h | h
        · obtain ⟨r_9, hr_9, h⟩ := bnd h
          replace F := F.trans ((fr_X6_found hr_9).mono (fun i k h => by omega))
          rw [← Option.some.inj h]; exact F
        · rw [← Option.some.inj h]; exact F
theorem fr_X6_sheet {x1 : Int32} {x2 : Int32} {x3 : Int32} {M : Mem} {R : Int32 × Mem} (h : f_X6_sheet x1 x2 x3 M = some R) : Fr (fun i k => i = 56 ∨ (52 ≤ i ∧ i < 52 + 4)) M R.2 := by
  have F : Fr (fun i k => i = 56 ∨ (52 ≤ i ∧ i < 52 + 4)) M M := Fr.rf
  unfold f_X6_sheet at h
  obtain ⟨r_1, hr_1, h⟩ := bnd h
  clear hr_1
  rcases ite_or h with h | h
  · obtain ⟨r_2, hr_2, h⟩ := bnd h
    replace F := F.trans ((fr_X6_found hr_2).mono (fun i k h => by omega))
    rw [← Option.some.inj h]; exact F
  · obtain ⟨r_3, hr_3, h⟩ := bnd h
    clear hr_3
    rcases ite_or h with h | h
    · obtain ⟨r_7, hr_7, h⟩ := bnd h
      replace F := F.trans ((fr_X6_found hr_7).mono (fun i k h => by omega))
      rw [← Option.some.inj h]; exact F
    · rcases ite_or h with h | h
      · rcases ite_or h with h | h
        · obtain ⟨r_4, hr_4, h⟩ := bnd h
          replace F := F.trans ((fr_X1_lay hr_4).mono (fun i k h => by omega))
          rw [← Option.some.inj h]; exact F
        · obtain ⟨r_5, hr_5, h⟩ := bnd h
          replace F := F.trans ((fr_X6_found hr_5).mono (fun i k h => by omega))
          rw [← Option.some.inj h]; exact F
      · obtain ⟨r_6, hr_6, h⟩ := bnd h
        replace F := F.trans ((fr_X6_found hr_6).mono (fun i k h => by omega))
        rw [← Option.some.inj h]; exact F
theorem fr_X6_write {x1 : Int32} {x2 : Int32} {x3 : Int32} {M : Mem} {R : Int32 × Mem} (h : f_X6_write x1 x2 x3 M = some R) : Fr (fun i k => i = 56 ∨ (52 ≤ i ∧ i < 52 + 4)) M R.2 := by
  have F : Fr (fun i k => i = 56 ∨ (52 ≤ i ∧ i < 52 + 4)) M M := Fr.rf
  unfold f_X6_write at h
  obtain ⟨r_1, hr_1, h⟩ := bnd h
  clear hr_1
  rcases ite_or h with h | h
  · obtain ⟨r_8, hr_8, h⟩ := bnd h
    replace F := F.trans ((fr_X6_found hr_8).mono (fun i k h => by omega))
    rw [← Option.some.inj h]; exact F
  · obtain ⟨r_2, hr_2, h⟩ := bnd h
    clear hr_2
    rcases ite_or h with h | h
    · rcases ite_or h with h | h
      · obtain ⟨r_3, hr_3, h⟩ := bnd h
        replace F := F.trans ((fr_X6_found hr_3).mono (fun i k h => by omega))
        rw [← Option.some.inj h]; exact F
      · obtain ⟨_, h⟩ := ck_some h
        rcases ite_or h with h | h
        · obtain ⟨r_5, hr_5, h⟩ := bnd h
          replace F := F.trans ((fr_X1_note hr_5).mono (fun i k h => by omega))
          rw [← Option.some.inj h]; exact F
        · obtain ⟨r_6, hr_6, h⟩ := bnd h
          replace F := F.trans ((fr_X6_found hr_6).mono (fun i k h => by omega))
          rw [← Option.some.inj h]; exact F
    · obtain ⟨r_7, hr_7, h⟩ := bnd h
      replace F := F.trans ((fr_X6_found hr_7).mono (fun i k h => by omega))
      rw [← Option.some.inj h]; exact F
theorem fr_X6_copy {x1 : Int32} {x2 : Int32} {x3 : Int32} {x4 : Int32} {x5 : Int32} {M : Mem} {R : Int32 × Mem} (h : f_X6_copy x1 x2 x3 x4 x5 M = some R) : Fr (fun i k => i = 56 ∨ (52 ≤ i ∧ i < 52 + 4)) M R.2 := by
  have F : Fr (fun i k => i = 56 ∨ (52 ≤ i ∧ i < 52 + 4)) M M := Fr.rf
  unfold f_X6_copy at h
  obtain ⟨r_1, hr_1, h⟩ := bnd h
  clear hr_1
  rcases ite_or h with h | h
  · obtain ⟨r_2, hr_2, h⟩ := bnd h
    replace F := F.trans ((fr_X6_found hr_2).mono (fun i k h => by omega))
    rw [← Option.some.inj h]; exact F
  · obtain ⟨r_3, hr_3, h⟩ := bnd h
    clear hr_3
    rcases ite_or h with h | h
    · obtain ⟨r_16, hr_16, h⟩ := bnd h
      replace F := F.trans ((fr_X6_found hr_16).mono (fun i k h => by omega))
      rw [← Option.some.inj h]; exact F
    · obtain ⟨r_4, hr_4, h⟩ := bnd h
      clear hr_4
      rcases ite_or h with h | h
      · obtain ⟨r_6, hr_6, h⟩ := bnd h
        clear hr_6
        rcases ite_or h with h | h
        · obtain ⟨_, h⟩ := ck_some h
          obtain ⟨_, h⟩ := ck_some h
          rcases ite_or h with h | h
          · obtain ⟨r_9, hr_9, h⟩ := bnd h
            clear hr_9
            rcases ite_or h with h | h
            · obtain ⟨r_10, hr_10, h⟩ := bnd h
              replace F := F.trans ((fr_X6_found hr_10).mono (fun i k h => by omega))
              rw [← Option.some.inj h]; exact F
            · obtain ⟨r_11, hr_11, h⟩ := bnd h
              clear hr_11
              rcases ite_or h with h | h
              · obtain ⟨r_13, hr_13, h⟩ := bnd h
                replace F := F.trans ((fr_X6_found hr_13).mono (fun i k h => by omega))
                rw [← Option.some.inj h]; exact F
              · obtain ⟨r_12, hr_12, h⟩ := bnd h
                replace F := F.trans ((fr_X1_move hr_12).mono (fun i k h => by omega))
                rw [← Option.some.inj h]; exact F
          · obtain ⟨r_14, hr_14, h⟩ := bnd h
            replace F := F.trans ((fr_X6_found hr_14).mono (fun i k h => by omega))
            rw [← Option.some.inj h]; exact F
        · obtain ⟨r_15, hr_15, h⟩ := bnd h
          replace F := F.trans ((fr_X6_found hr_15).mono (fun i k h => by omega))
          rw [← Option.some.inj h]; exact F
      · obtain ⟨r_5, hr_5, h⟩ := bnd h
        replace F := F.trans ((fr_X6_found hr_5).mono (fun i k h => by omega))
        rw [← Option.some.inj h]; exact F
theorem fr_X6_load_b57 {k57 : Int32 → Int32 → Int32 → Mem → Option (Int32 × Mem)} (hk57 : ∀ (x1 : Int32) (x2 : Int32) (x3 : Int32) (M : Mem) (R : Int32 × Mem), k57 x1 x2 x3 M = some R → Fr (fun i k => i = 56 ∨ (1 ≤ i ∧ i < 1 + 16)) M R.2) {x1 : Int32} {x2 : Int32} {x3 : Int32} {M : Mem} {R : Int32 × Mem} (h : f_X6_load_b57 k57 x1 x2 x3 M = some R) : Fr (fun i k => i = 56 ∨ (1 ≤ i ∧ i < 1 + 16)) M R.2 := by
  have F : Fr (fun i k => i = 56 ∨ (1 ≤ i ∧ i < 1 + 16)) M M := Fr.rf
  unfold f_X6_load_b57 at h
  rcases ite_or h with h | h
  · rw [← Option.some.inj h]; exact F
  · obtain ⟨r_7, hr_7, h⟩ := bnd h
    clear hr_7
    obtain ⟨r_8, hr_8, h⟩ := bnd h
    clear hr_8
    rcases ite_or h with h | h
    · rw [← Option.some.inj h]; exact F
    · obtain ⟨_, h⟩ := ck_some h
      obtain ⟨M_10, hM_10, h⟩ := letv_ex h
      replace F := F.put hM_10 (by omega)
      exact F.trans (hk57 _ _ _ _ _ h)
theorem fr_X6_load_l57 : ∀ (n : Nat) (x1 : Int32) (x2 : Int32) (x3 : Int32) (M : Mem) (R : Int32 × Mem), f_X6_load_l57 n x1 x2 x3 M = some R → Fr (fun i k => i = 56 ∨ (1 ≤ i ∧ i < 1 + 16)) M R.2 := by
  intro n
  induction n with
  | zero => intro x1 x2 x3 M R h; cases h
  | succ n ih => intro x1 x2 x3 M R h; exact fr_X6_load_b57 ih h
theorem fr_X6_load {x1 : Int32} {M : Mem} {R : Int32 × Mem} (h : f_X6_load x1 M = some R) : Fr (fun i k => i = 56 ∨ (1 ≤ i ∧ i < 1 + 16)) M R.2 := by
  have F : Fr (fun i k => i = 56 ∨ (1 ≤ i ∧ i < 1 + 16)) M M := Fr.rf
  unfold f_X6_load at h
  obtain ⟨r_1, hr_1, h⟩ := bnd h
  clear hr_1
  rcases ite_or h with h | h
  · obtain ⟨r_6, hr_6, h⟩ := bnd h
    replace F := F.trans ((fr_X6_found hr_6).mono (fun i k h => by omega))
    rw [← Option.some.inj h]; exact F
  · obtain ⟨r_2, hr_2, h⟩ := bnd h
    clear hr_2
    rcases ite_or h with h | h
    · obtain ⟨_, h⟩ := ck_some h
      obtain ⟨x2_4, _, h⟩ := letv_ex h
      exact F.trans (fr_X6_load_l57 _ _ _ _ _ _ h)
    · obtain ⟨r_5, hr_5, h⟩ := bnd h
      replace F := F.trans ((fr_X6_found hr_5).mono (fun i k h => by omega))
      rw [← Option.some.inj h]; exact F
theorem fr_X6_judge_b70 {k70 : Int32 → Int32 → Mem → Option (Int32 × Mem)} (hk70 : ∀ (x1 : Int32) (x3 : Int32) (M : Mem) (R : Int32 × Mem), k70 x1 x3 M = some R → Fr (fun i k => i = 56 ∨ i = 58) M R.2) {x1 : Int32} {x3 : Int32} {M : Mem} {R : Int32 × Mem} (h : f_X6_judge_b70 k70 x1 x3 M = some R) : Fr (fun i k => i = 56 ∨ i = 58) M R.2 := by
  have F : Fr (fun i k => i = 56 ∨ i = 58) M M := Fr.rf
  unfold f_X6_judge_b70 at h
  obtain ⟨_, h⟩ := ck_some h
  rcases ite_or h with h | h
  · rw [← Option.some.inj h]; exact F
  · obtain ⟨r_9, hr_9, h⟩ := bnd h
    clear hr_9
    obtain ⟨r_10, hr_10, h⟩ := bnd h
    clear hr_10
    rcases ite_or h with h | h
    · rw [← Option.some.inj h]; exact F
    · obtain ⟨_, h⟩ := ck_some h
      rcases ite_or h with h | h
      · rw [← Option.some.inj h]; exact F
      · exact F.trans (hk70 _ _ _ _ h)
theorem fr_X6_judge_l70 : ∀ (n : Nat) (x1 : Int32) (x3 : Int32) (M : Mem) (R : Int32 × Mem), f_X6_judge_l70 n x1 x3 M = some R → Fr (fun i k => i = 56 ∨ i = 58) M R.2 := by
  intro n
  induction n with
  | zero => intro x1 x3 M R h; cases h
  | succ n ih => intro x1 x3 M R h; exact fr_X6_judge_b70 ih h
theorem fr_X6_judge {x1 : Int32} {x2 : Int32} {M : Mem} {R : Int32 × Mem} (h : f_X6_judge x1 x2 M = some R) : Fr (fun i k => i = 56 ∨ i = 58) M R.2 := by
  have F : Fr (fun i k => i = 56 ∨ i = 58) M M := Fr.rf
  unfold f_X6_judge at h
  obtain ⟨r_1, hr_1, h⟩ := bnd h
  clear hr_1
  rcases ite_or h with h | h
  · obtain ⟨r_7, hr_7, h⟩ := bnd h
    replace F := F.trans ((fr_X6_found hr_7).mono (fun i k h => by omega))
    rw [← Option.some.inj h]; exact F
  · obtain ⟨r_2, hr_2, h⟩ := bnd h
    clear hr_2
    rcases ite_or h with h | h
    · obtain ⟨r_3, hr_3, h⟩ := bnd h
      clear hr_3
      rcases ite_or h with h | h
      · obtain ⟨r_5, hr_5, h⟩ := bnd h
        replace F := F.trans ((fr_X6_found hr_5).mono (fun i k h => by omega))
        rw [← Option.some.inj h]; exact F
      · obtain ⟨r_4, hr_4, h⟩ := bnd h
        replace F := F.trans ((fr_X5_reach hr_4).mono (fun i k h => by omega))
        exact F.trans (fr_X6_judge_l70 _ _ _ _ _ h)
    · obtain ⟨r_6, hr_6, h⟩ := bnd h
      replace F := F.trans ((fr_X6_found hr_6).mono (fun i k h => by omega))
      rw [← Option.some.inj h]; exact F
theorem fr_X6_image {M : Mem} {R : Int32 × Mem} (h : f_X6_image M = some R) : Fr (fun i k => (i = 0 ∧ k = 3) ∨ (33 ≤ i ∧ i < 33 + 16)) M R.2 := by
  have F : Fr (fun i k => (i = 0 ∧ k = 3) ∨ (33 ≤ i ∧ i < 33 + 16)) M M := Fr.rf
  unfold f_X6_image at h
  obtain ⟨r_1, hr_1, h⟩ := bnd h
  replace F := F.trans ((fr_X4_become hr_1).mono (fun i k h => by omega))
  obtain ⟨M_2, hM_2, h⟩ := letv_ex h
  replace F := F.put hM_2 (by omega)
  rw [← Option.some.inj h]; exact F
theorem fr_X6_undo {M : Mem} {R : Int32 × Mem} (h : f_X6_undo M = some R) : Fr (fun i k => i = 56 ∨ (1 ≤ i ∧ i < 1 + 16)) M R.2 := by
  have F : Fr (fun i k => i = 56 ∨ (1 ≤ i ∧ i < 1 + 16)) M M := Fr.rf
  unfold f_X6_undo at h
  rcases ite_or h with h | h
  · obtain ⟨r_2, hr_2, h⟩ := bnd h
    replace F := F.trans ((fr_X6_found hr_2).mono (fun i k h => by omega))
    rw [← Option.some.inj h]; exact F
  · obtain ⟨r_1, hr_1, h⟩ := bnd h
    replace F := F.trans ((fr_X4_become hr_1).mono (fun i k h => by omega))
    rw [← Option.some.inj h]; exact F
theorem fr_X6_tear {M : Mem} {R : Int32 × Mem} (h : f_X6_tear M = some R) : Fr (fun i k => (i = 0 ∧ k = 3)) M R.2 := by
  have F : Fr (fun i k => (i = 0 ∧ k = 3)) M M := Fr.rf
  unfold f_X6_tear at h
  rcases ite_or h with h | h
  · obtain ⟨M_1, hM_1, h⟩ := letv_ex h
    replace F := F.put hM_1 (by omega)
    rw [← Option.some.inj h]; exact F
  · obtain ⟨M_2, hM_2, h⟩ := letv_ex h
    replace F := F.put hM_2 (by omega)
    rw [← Option.some.inj h]; exact F
theorem fr_X6_count {x1 : Int32} {M : Mem} {R : Int32 × Mem} (h : f_X6_count x1 M = some R) : Fr (fun i k => i = 56) M R.2 := by
  have F : Fr (fun i k => i = 56) M M := Fr.rf
  unfold f_X6_count at h
  rcases ite_or h with h | h
  · rw [← Option.some.inj h]; exact F
  · rcases ite_or h with h | h
    · rw [← Option.some.inj h]; exact F
    · rcases ite_or h with h | h
      · obtain ⟨r_1, hr_1, h⟩ := bnd h
        clear hr_1
        rw [← Option.some.inj h]; exact F
      · rcases ite_or h with h | h
        · obtain ⟨r_2, hr_2, h⟩ := bnd h
          clear hr_2
          rw [← Option.some.inj h]; exact F
        · rcases ite_or h with h | h
          · obtain ⟨r_3, hr_3, h⟩ := bnd h
            clear hr_3
            rw [← Option.some.inj h]; exact F
          · rcases ite_or h with h | h
            · rw [← Option.some.inj h]; exact F
            · rcases ite_or h with h | h
              · rw [← Option.some.inj h]; exact F
              · rcases ite_or h with h | h
                · obtain ⟨r_4, hr_4, h⟩ := bnd h
                  clear hr_4
                  rw [← Option.some.inj h]; exact F
                · obtain ⟨r_5, hr_5, h⟩ := bnd h
                  replace F := F.trans ((fr_X6_found hr_5).mono (fun i k h => by omega))
                  rw [← Option.some.inj h]; exact F
theorem fr_X6_status_b33 {k33 : Int32 → Int32 → Mem → Option (Int32 × Mem)} (hk33 : ∀ (x2 : Int32) (x3 : Int32) (M : Mem) (R : Int32 × Mem), k33 x2 x3 M = some R → Fr (fun i k => i = 56) M R.2) {x2 : Int32} {x3 : Int32} {M : Mem} {R : Int32 × Mem} (h : f_X6_status_b33 k33 x2 x3 M = some R) : Fr (fun i k => i = 56) M R.2 := by
  have F : Fr (fun i k => i = 56) M M := Fr.rf
  unfold f_X6_status_b33 at h
  rcases ite_or h with h | h
  · rw [← Option.some.inj h]; exact F
  · obtain ⟨_, h⟩ := ck_some h
    obtain ⟨x2_5, _, h⟩ := letv_ex h
    exact F.trans (hk33 _ _ _ _ h)
theorem fr_X6_status_l33 : ∀ (n : Nat) (x2 : Int32) (x3 : Int32) (M : Mem) (R : Int32 × Mem), f_X6_status_l33 n x2 x3 M = some R → Fr (fun i k => i = 56) M R.2 := by
  intro n
  induction n with
  | zero => intro x2 x3 M R h; cases h
  | succ n ih => intro x2 x3 M R h; exact fr_X6_status_b33 ih h
theorem fr_X6_status {x1 : Int32} {M : Mem} {R : Int32 × Mem} (h : f_X6_status x1 M = some R) : Fr (fun i k => i = 56) M R.2 := by
  have F : Fr (fun i k => i = 56) M M := Fr.rf
  unfold f_X6_status at h
  rcases ite_or h with h | h
  · rcases ite_or h with h | h
    · exact F.trans (fr_X6_status_l33 _ _ _ _ _ h)
    · obtain ⟨r_1, hr_1, h⟩ := bnd h
      replace F := F.trans ((fr_X6_found hr_1).mono (fun i k h => by omega))
      rw [← Option.some.inj h]; exact F
  · rcases ite_or h with h | h
    · rcases ite_or h with h | h
      · exact F.trans (fr_X6_status_l33 _ _ _ _ _ h)
      · obtain ⟨r_2, hr_2, h⟩ := bnd h
        replace F := F.trans ((fr_X6_found hr_2).mono (fun i k h => by omega))
        rw [← Option.some.inj h]; exact F
    · obtain ⟨_, h⟩ := ck_some h
      rw [← Option.some.inj h]; exact F
theorem fr_X7_finds {x1 : Int32} {M : Mem} {R : Int32 × Mem} (h : f_X7_finds x1 M = some R) : Fr (fun i k => i = 63) M R.2 := by
  have F : Fr (fun i k => i = 63) M M := Fr.rf
  unfold f_X7_finds at h
  obtain ⟨_, h⟩ := ck_some h
  obtain ⟨_, h⟩ := ck_some h
  obtain ⟨M_3, hM_3, h⟩ := letv_ex h
  replace F := F.put hM_3 (by omega)
  rw [← Option.some.inj h]; exact F
theorem fr_X7_draw {M : Mem} {R : Int32 × Mem} (h : f_X7_draw M = some R) : Fr (fun i k => i = 60) M R.2 := by
  have F : Fr (fun i k => i = 60) M M := Fr.rf
  unfold f_X7_draw at h
  obtain ⟨_, h⟩ := ck_some h
  obtain ⟨_, h⟩ := ck_some h
  obtain ⟨M_3, hM_3, h⟩ := letv_ex h
  replace F := F.put hM_3 (by omega)
  obtain ⟨_, h⟩ := ck_some h
  rw [← Option.some.inj h]; exact F
theorem fr_X7_saves_b2 {k2 : Int32 → Mem → Option (Mem)} (hk2 : ∀ (x1 : Int32) (M : Mem) (R : Mem), k2 x1 M = some R → Fr (fun i k => i = 62) M R) {x1 : Int32} {M : Mem} {R : Mem} (h : f_X7_saves_b2 k2 x1 M = some R) : Fr (fun i k => i = 62) M R := by
  have F : Fr (fun i k => i = 62) M M := Fr.rf
  unfold f_X7_saves_b2 at h
  rcases ite_or h with h | h
  · rw [← Option.some.inj h]; exact F
  · obtain ⟨_, h⟩ := ck_some h
    obtain ⟨_, h⟩ := ck_some h
    obtain ⟨M_3, hM_3, h⟩ := letv_ex h
    replace F := F.put hM_3 (by omega)
    exact F.trans (hk2 _ _ _ h)
theorem fr_X7_saves_l2 : ∀ (n : Nat) (x1 : Int32) (M : Mem) (R : Mem), f_X7_saves_l2 n x1 M = some R → Fr (fun i k => i = 62) M R := by
  intro n
  induction n with
  | zero => intro x1 M R h; cases h
  | succ n ih => intro x1 M R h; exact fr_X7_saves_b2 ih h
theorem fr_X7_saves {M : Mem} {R : Mem} (h : f_X7_saves M = some R) : Fr (fun i k => i = 62) M R := by
  have F : Fr (fun i k => i = 62) M M := Fr.rf
  unfold f_X7_saves at h
  exact F.trans (fr_X7_saves_l2 _ _ _ _ h)
theorem fr_X7_putsBack_b2 {k2 : Int32 → Mem → Option (Mem)} (hk2 : ∀ (x1 : Int32) (M : Mem) (R : Mem), k2 x1 M = some R → Fr (fun i k => i = 60) M R) {x1 : Int32} {M : Mem} {R : Mem} (h : f_X7_putsBack_b2 k2 x1 M = some R) : Fr (fun i k => i = 60) M R := by
  have F : Fr (fun i k => i = 60) M M := Fr.rf
  unfold f_X7_putsBack_b2 at h
  rcases ite_or h with h | h
  · rw [← Option.some.inj h]; exact F
  · obtain ⟨_, h⟩ := ck_some h
    obtain ⟨_, h⟩ := ck_some h
    obtain ⟨M_3, hM_3, h⟩ := letv_ex h
    replace F := F.put hM_3 (by omega)
    exact F.trans (hk2 _ _ _ h)
theorem fr_X7_putsBack_l2 : ∀ (n : Nat) (x1 : Int32) (M : Mem) (R : Mem), f_X7_putsBack_l2 n x1 M = some R → Fr (fun i k => i = 60) M R := by
  intro n
  induction n with
  | zero => intro x1 M R h; cases h
  | succ n ih => intro x1 M R h; exact fr_X7_putsBack_b2 ih h
theorem fr_X7_putsBack {M : Mem} {R : Mem} (h : f_X7_putsBack M = some R) : Fr (fun i k => i = 60) M R := by
  have F : Fr (fun i k => i = 60) M M := Fr.rf
  unfold f_X7_putsBack at h
  exact F.trans (fr_X7_putsBack_l2 _ _ _ _ h)
theorem fr_X7_newWriter_b9 {k9 : Int32 → Int32 → Int32 → Mem → Option (Int32 × Mem)} (hk9 : ∀ (x1 : Int32) (x2 : Int32) (x3 : Int32) (M : Mem) (R : Int32 × Mem), k9 x1 x2 x3 M = some R → Fr (fun i k => i = 60) M R.2) {x1 : Int32} {x2 : Int32} {x3 : Int32} {M : Mem} {R : Int32 × Mem} (h : f_X7_newWriter_b9 k9 x1 x2 x3 M = some R) : Fr (fun i k => i = 60) M R.2 := by
  have F : Fr (fun i k => i = 60) M M := Fr.rf
  unfold f_X7_newWriter_b9 at h
  rcases ite_or h with h | h
  · obtain ⟨r_3, hr_3, h⟩ := bnd h
    clear hr_3
    obtain ⟨_, h⟩ := ck_some h
    obtain ⟨M_5, hM_5, h⟩ := letv_ex h
    replace F := F.put hM_5 (by omega)
    obtain ⟨r_6, hr_6, h⟩ := bnd h
    clear hr_6
    obtain ⟨_, h⟩ := ck_some h
    obtain ⟨M_8, hM_8, h⟩ := letv_ex h
    replace F := F.put hM_8 (by omega)
    obtain ⟨_, h⟩ := ck_some h
    obtain ⟨_, h⟩ := ck_some h
    obtain ⟨M_11, hM_11, h⟩ := letv_ex h
    replace F := F.put hM_11 (by omega)
    rw [← Option.some.inj h]; exact F
  · obtain ⟨r_12, hr_12, h⟩ := bnd h
    clear hr_12
    obtain ⟨_, h⟩ := ck_some h
    obtain ⟨M_14, hM_14, h⟩ := letv_ex h
    replace F := F.put hM_14 (by omega)
    exact F.trans (hk9 _ _ _ _ _ h)
theorem fr_X7_newWriter_l9 : ∀ (n : Nat) (x1 : Int32) (x2 : Int32) (x3 : Int32) (M : Mem) (R : Int32 × Mem), f_X7_newWriter_l9 n x1 x2 x3 M = some R → Fr (fun i k => i = 60) M R.2 := by
  intro n
  induction n with
  | zero => intro x1 x2 x3 M R h; cases h
  | succ n ih => intro x1 x2 x3 M R h; exact fr_X7_newWriter_b9 ih h
theorem fr_X7_newWriter {x1 : Int32} {M : Mem} {R : Int32 × Mem} (h : f_X7_newWriter x1 M = some R) : Fr (fun i k => i = 60) M R.2 := by
  have F : Fr (fun i k => i = 60) M M := Fr.rf
  unfold f_X7_newWriter at h
  obtain ⟨_, h⟩ := ck_some h
  obtain ⟨x2_2, _, h⟩ := letv_ex h
  exact F.trans (fr_X7_newWriter_l9 _ _ _ _ _ _ h)
theorem fr_X7_writer {x1 : Int32} {M : Mem} {R : Int32 × Mem} (h : f_X7_writer x1 M = some R) : Fr (fun i k => i = 60 ∨ i = 63) M R.2 := by
  have F : Fr (fun i k => i = 60 ∨ i = 63) M M := Fr.rf
  unfold f_X7_writer at h
  obtain ⟨r_1, hr_1, h⟩ := bnd h
  clear hr_1
  rcases ite_or h with h | h
  · obtain ⟨r_5, hr_5, h⟩ := bnd h
    replace F := F.trans ((fr_X7_finds hr_5).mono (fun i k h => by omega))
    rw [← Option.some.inj h]; exact F
  · obtain ⟨_, h⟩ := ck_some h
    rcases ite_or h with h | h
    · obtain ⟨r_4, hr_4, h⟩ := bnd h
      replace F := F.trans ((fr_X7_finds hr_4).mono (fun i k h => by omega))
      rw [← Option.some.inj h]; exact F
    · obtain ⟨r_3, hr_3, h⟩ := bnd h
      replace F := F.trans ((fr_X7_newWriter hr_3).mono (fun i k h => by omega))
      rw [← Option.some.inj h]; exact F
theorem fr_X7_writerOf {x1 : Int32} {x2 : Int32} {M : Mem} {R : Int32 × Mem} (h : f_X7_writerOf x1 x2 M = some R) : Fr (fun i k => i = 63) M R.2 := by
  have F : Fr (fun i k => i = 63) M M := Fr.rf
  unfold f_X7_writerOf at h
  obtain ⟨r_1, hr_1, h⟩ := bnd h
  clear hr_1
  rcases ite_or h with h | h
  · obtain ⟨r_2, hr_2, h⟩ := bnd h
    replace F := F.trans ((fr_X7_finds hr_2).mono (fun i k h => by omega))
    rw [← Option.some.inj h]; exact F
  · obtain ⟨r_3, hr_3, h⟩ := bnd h
    clear hr_3
    rcases ite_or h with h | h
    · obtain ⟨r_4, hr_4, h⟩ := bnd h
      replace F := F.trans ((fr_X7_finds hr_4).mono (fun i k h => by omega))
      rw [← Option.some.inj h]; exact F
    · obtain ⟨r_5, hr_5, h⟩ := bnd h
      clear hr_5
      rw [← Option.some.inj h]; exact F
theorem fr_X7_law {x1 : Int32} {x2 : Int32} {x3 : Int32} {M : Mem} {R : Int32 × Mem} (h : f_X7_law x1 x2 x3 M = some R) : Fr (fun i k => i = 60 ∨ i = 63) M R.2 := by
  have F : Fr (fun i k => i = 60 ∨ i = 63) M M := Fr.rf
  unfold f_X7_law at h
  obtain ⟨r_1, hr_1, h⟩ := bnd h
  clear hr_1
  rcases ite_or h with h | h
  · obtain ⟨r_2, hr_2, h⟩ := bnd h
    replace F := F.trans ((fr_X7_finds hr_2).mono (fun i k h => by omega))
    rw [← Option.some.inj h]; exact F
  · obtain ⟨r_3, hr_3, h⟩ := bnd h
    clear hr_3
    rcases ite_or h with h | h
    · obtain ⟨r_8, hr_8, h⟩ := bnd h
      replace F := F.trans ((fr_X7_finds hr_8).mono (fun i k h => by omega))
      rw [← Option.some.inj h]; exact F
    · obtain ⟨r_4, hr_4, h⟩ := bnd h
      clear hr_4
      obtain ⟨r_5, hr_5, h⟩ := bnd h
      clear hr_5
      obtain ⟨_, h⟩ := ck_some h
      obtain ⟨M_7, hM_7, h⟩ := letv_ex h
      replace F := F.put hM_7 (by omega)
      rw [← Option.some.inj h]; exact F
theorem fr_X7_newPerson {x1 : Int32} {M : Mem} {R : Int32 × Mem} (h : f_X7_newPerson x1 M = some R) : Fr (fun i k => i = 60) M R.2 := by
  have F : Fr (fun i k => i = 60) M M := Fr.rf
  unfold f_X7_newPerson at h
  obtain ⟨_, h⟩ := ck_some h
  obtain ⟨x2_2, _, h⟩ := letv_ex h
  obtain ⟨r_3, hr_3, h⟩ := bnd h
  clear hr_3
  obtain ⟨_, h⟩ := ck_some h
  obtain ⟨M_5, hM_5, h⟩ := letv_ex h
  replace F := F.put hM_5 (by omega)
  obtain ⟨r_6, hr_6, h⟩ := bnd h
  clear hr_6
  obtain ⟨_, h⟩ := ck_some h
  obtain ⟨M_8, hM_8, h⟩ := letv_ex h
  replace F := F.put hM_8 (by omega)
  obtain ⟨r_9, hr_9, h⟩ := bnd h
  clear hr_9
  obtain ⟨_, h⟩ := ck_some h
  obtain ⟨M_11, hM_11, h⟩ := letv_ex h
  replace F := F.put hM_11 (by omega)
  obtain ⟨r_12, hr_12, h⟩ := bnd h
  clear hr_12
  obtain ⟨_, h⟩ := ck_some h
  obtain ⟨M_14, hM_14, h⟩ := letv_ex h
  replace F := F.put hM_14 (by omega)
  obtain ⟨r_15, hr_15, h⟩ := bnd h
  clear hr_15
  obtain ⟨_, h⟩ := ck_some h
  obtain ⟨M_17, hM_17, h⟩ := letv_ex h
  replace F := F.put hM_17 (by omega)
  obtain ⟨_, h⟩ := ck_some h
  obtain ⟨M_19, hM_19, h⟩ := letv_ex h
  replace F := F.put hM_19 (by omega)
  obtain ⟨_, h⟩ := ck_some h
  obtain ⟨_, h⟩ := ck_some h
  obtain ⟨M_22, hM_22, h⟩ := letv_ex h
  replace F := F.put hM_22 (by omega)
  rw [← Option.some.inj h]; exact F
theorem fr_X7_person {x1 : Int32} {M : Mem} {R : Int32 × Mem} (h : f_X7_person x1 M = some R) : Fr (fun i k => i = 60 ∨ i = 63) M R.2 := by
  have F : Fr (fun i k => i = 60 ∨ i = 63) M M := Fr.rf
  unfold f_X7_person at h
  obtain ⟨r_1, hr_1, h⟩ := bnd h
  clear hr_1
  rcases ite_or h with h | h
  · obtain ⟨r_5, hr_5, h⟩ := bnd h
    replace F := F.trans ((fr_X7_finds hr_5).mono (fun i k h => by omega))
    rw [← Option.some.inj h]; exact F
  · obtain ⟨_, h⟩ := ck_some h
    rcases ite_or h with h | h
    · obtain ⟨r_4, hr_4, h⟩ := bnd h
      replace F := F.trans ((fr_X7_finds hr_4).mono (fun i k h => by omega))
      rw [← Option.some.inj h]; exact F
    · obtain ⟨r_3, hr_3, h⟩ := bnd h
      replace F := F.trans ((fr_X7_newPerson hr_3).mono (fun i k h => by omega))
      rw [← Option.some.inj h]; exact F
theorem fr_X7_of {x1 : Int32} {x2 : Int32} {M : Mem} {R : Int32 × Mem} (h : f_X7_of x1 x2 M = some R) : Fr (fun i k => i = 63) M R.2 := by
  have F : Fr (fun i k => i = 63) M M := Fr.rf
  unfold f_X7_of at h
  obtain ⟨r_1, hr_1, h⟩ := bnd h
  clear hr_1
  rcases ite_or h with h | h
  · obtain ⟨r_2, hr_2, h⟩ := bnd h
    replace F := F.trans ((fr_X7_finds hr_2).mono (fun i k h => by omega))
    rw [← Option.some.inj h]; exact F
  · obtain ⟨r_3, hr_3, h⟩ := bnd h
    clear hr_3
    rcases ite_or h with h | h
    · obtain ⟨r_6, hr_6, h⟩ := bnd h
      replace F := F.trans ((fr_X7_finds hr_6).mono (fun i k h => by omega))
      rw [← Option.some.inj h]; exact F
    · rcases ite_or h with h | h
      · obtain ⟨r_4, hr_4, h⟩ := bnd h
        clear hr_4
        rw [← Option.some.inj h]; exact F
      · obtain ⟨r_5, hr_5, h⟩ := bnd h
        clear hr_5
        rw [← Option.some.inj h]; exact F
theorem fr_X7_change {x1 : Int32} {x2 : Int32} {x3 : Int32} {M : Mem} {R : Int32 × Mem} (h : f_X7_change x1 x2 x3 M = some R) : Fr (fun i k => i = 60 ∨ i = 63) M R.2 := by
  have F : Fr (fun i k => i = 60 ∨ i = 63) M M := Fr.rf
  unfold f_X7_change at h
  obtain ⟨r_1, hr_1, h⟩ := bnd h
  clear hr_1
  rcases ite_or h with h | h
  · obtain ⟨r_2, hr_2, h⟩ := bnd h
    replace F := F.trans ((fr_X7_finds hr_2).mono (fun i k h => by omega))
    rw [← Option.some.inj h]; exact F
  · obtain ⟨r_3, hr_3, h⟩ := bnd h
    clear hr_3
    rcases ite_or h with h | h
    · obtain ⟨r_8, hr_8, h⟩ := bnd h
      replace F := F.trans ((fr_X7_finds hr_8).mono (fun i k h => by omega))
      rw [← Option.some.inj h]; exact F
    · obtain ⟨r_4, hr_4, h⟩ := bnd h
      clear hr_4
      obtain ⟨r_5, hr_5, h⟩ := bnd h
      clear hr_5
      obtain ⟨_, h⟩ := ck_some h
      obtain ⟨M_7, hM_7, h⟩ := letv_ex h
      replace F := F.put hM_7 (by omega)
      rw [← Option.some.inj h]; exact F
theorem fr_X7_joins_j43 {x1 : Int32} {x2 : Int32} {x3 : Int32} {t1 : Int32} {t2 : Int32} {M : Mem} {R : Mem} (h : f_X7_joins_j43 x1 x2 x3 t1 t2 M = some R) : Fr (fun i k => i = 60) M R := by
  have F : Fr (fun i k => i = 60) M M := Fr.rf
  unfold f_X7_joins_j43 at h
  obtain ⟨_, h⟩ := ck_some h
  obtain ⟨M_4, hM_4, h⟩ := letv_ex h
  replace F := F.put hM_4 (by omega)
  rcases ite_or h with h | h
  · obtain ⟨_, h⟩ := ck_some h
    obtain ⟨_, h⟩ := ck_some h
    obtain ⟨M_7, hM_7, h⟩ := letv_ex h
    replace F := F.put hM_7 (by omega)
    rw [← Option.some.inj h]; exact F
  · obtain ⟨_, h⟩ := ck_some h
    obtain ⟨_, h⟩ := ck_some h
    obtain ⟨M_10, hM_10, h⟩ := letv_ex h
    replace F := F.put hM_10 (by omega)
    rw [← Option.some.inj h]; exact F
theorem fr_X7_joins {x1 : Int32} {x2 : Int32} {x3 : Int32} {M : Mem} {R : Mem} (h : f_X7_joins x1 x2 x3 M = some R) : Fr (fun i k => i = 60) M R := by
  have F : Fr (fun i k => i = 60) M M := Fr.rf
  unfold f_X7_joins at h
  rcases ite_or h with h | h
  · obtain ⟨_, h⟩ := ck_some h
    exact F.trans (fr_X7_joins_j43 h)
  · obtain ⟨_, h⟩ := ck_some h
    exact F.trans (fr_X7_joins_j43 h)
theorem fr_X7_tie {x1 : Int32} {x2 : Int32} {x3 : Int32} {M : Mem} {R : Int32 × Mem} (h : f_X7_tie x1 x2 x3 M = some R) : Fr (fun i k => i = 60 ∨ i = 63) M R.2 := by
  have F : Fr (fun i k => i = 60 ∨ i = 63) M M := Fr.rf
  unfold f_X7_tie at h
  obtain ⟨r_1, hr_1, h⟩ := bnd h
  clear hr_1
  rcases ite_or h with h | h
  · obtain ⟨r_6, hr_6, h⟩ := bnd h
    replace F := F.trans ((fr_X7_finds hr_6).mono (fun i k h => by omega))
    rw [← Option.some.inj h]; exact F
  · obtain ⟨_, h⟩ := ck_some h
    obtain ⟨r_3, hr_3, h⟩ := bnd h
    clear hr_3
    rcases ite_or h with h | h
    · obtain ⟨r_4, hr_4, h⟩ := bnd h
      replace F := F.trans ((fr_X7_joins hr_4).mono (fun i k h => by omega))
      rw [← Option.some.inj h]; exact F
    · obtain ⟨r_5, hr_5, h⟩ := bnd h
      replace F := F.trans ((fr_X7_joins hr_5).mono (fun i k h => by omega))
      rw [← Option.some.inj h]; exact F
theorem fr_X7_ties {x1 : Int32} {M : Mem} {R : Int32 × Mem} (h : f_X7_ties x1 M = some R) : Fr (fun i k => i = 63) M R.2 := by
  have F : Fr (fun i k => i = 63) M M := Fr.rf
  unfold f_X7_ties at h
  obtain ⟨r_1, hr_1, h⟩ := bnd h
  clear hr_1
  rcases ite_or h with h | h
  · obtain ⟨r_2, hr_2, h⟩ := bnd h
    replace F := F.trans ((fr_X7_finds hr_2).mono (fun i k h => by omega))
    rw [← Option.some.inj h]; exact F
  · obtain ⟨_, h⟩ := ck_some h
    rw [← Option.some.inj h]; exact F
theorem fr_X7_puts {x1 : Int32} {x2 : Int32} {M : Mem} {R : Int32 × Mem} (h : f_X7_puts x1 x2 M = some R) : Fr (fun i k => i = 63) M R.2 := by
  have F : Fr (fun i k => i = 63) M M := Fr.rf
  unfold f_X7_puts at h
  obtain ⟨r_1, hr_1, h⟩ := bnd h
  clear hr_1
  rcases ite_or h with h | h
  · obtain ⟨r_2, hr_2, h⟩ := bnd h
    replace F := F.trans ((fr_X7_finds hr_2).mono (fun i k h => by omega))
    rw [← Option.some.inj h]; exact F
  · obtain ⟨r_3, hr_3, h⟩ := bnd h
    clear hr_3
    rcases ite_or h with h | h
    · obtain ⟨r_4, hr_4, h⟩ := bnd h
      replace F := F.trans ((fr_X7_finds hr_4).mono (fun i k h => by omega))
      rw [← Option.some.inj h]; exact F
    · obtain ⟨r_5, hr_5, h⟩ := bnd h
      clear hr_5
      rw [← Option.some.inj h]; exact F
theorem fr_X7_says {x1 : Int32} {M : Mem} {R : Int32 × Mem} (h : f_X7_says x1 M = some R) : Fr (fun i k => i = 63) M R.2 := by
  have F : Fr (fun i k => i = 63) M M := Fr.rf
  unfold f_X7_says at h
  obtain ⟨r_1, hr_1, h⟩ := bnd h
  clear hr_1
  rcases ite_or h with h | h
  · obtain ⟨r_2, hr_2, h⟩ := bnd h
    replace F := F.trans ((fr_X7_finds hr_2).mono (fun i k h => by omega))
    rw [← Option.some.inj h]; exact F
  · obtain ⟨r_3, hr_3, h⟩ := bnd h
    clear hr_3
    rw [← Option.some.inj h]; exact F
theorem fr_X7_read {x1 : Int32} {x2 : Int32} {x3 : Int32} {M : Mem} {R : Int32 × Mem} (h : f_X7_read x1 x2 x3 M = some R) : Fr (fun i k => i = 63) M R.2 := by
  have F : Fr (fun i k => i = 63) M M := Fr.rf
  unfold f_X7_read at h
  obtain ⟨r_1, hr_1, h⟩ := bnd h
  clear hr_1
  rcases ite_or h with h | h
  · obtain ⟨r_2, hr_2, h⟩ := bnd h
    replace F := F.trans ((fr_X7_finds hr_2).mono (fun i k h => by omega))
    rw [← Option.some.inj h]; exact F
  · obtain ⟨r_3, hr_3, h⟩ := bnd h
    clear hr_3
    rcases ite_or h with h | h
    · obtain ⟨r_4, hr_4, h⟩ := bnd h
      replace F := F.trans ((fr_X7_finds hr_4).mono (fun i k h => by omega))
      rw [← Option.some.inj h]; exact F
    · obtain ⟨r_5, hr_5, h⟩ := bnd h
      clear hr_5
      obtain ⟨r_6, hr_6, h⟩ := bnd h
      clear hr_6
      rw [← Option.some.inj h]; exact F
theorem fr_X7_pays {x1 : Int32} {M : Mem} {R : Mem} (h : f_X7_pays x1 M = some R) : Fr (fun i k => i = 60) M R := by
  have F : Fr (fun i k => i = 60) M M := Fr.rf
  unfold f_X7_pays at h
  obtain ⟨r_1, hr_1, h⟩ := bnd h
  clear hr_1
  obtain ⟨r_2, hr_2, h⟩ := bnd h
  clear hr_2
  obtain ⟨_, h⟩ := ck_some h
  obtain ⟨_, h⟩ := ck_some h
  obtain ⟨M_5, hM_5, h⟩ := letv_ex h
  replace F := F.put hM_5 (by omega)
  obtain ⟨r_6, hr_6, h⟩ := bnd h
  clear hr_6
  obtain ⟨r_7, hr_7, h⟩ := bnd h
  clear hr_7
  obtain ⟨_, h⟩ := ck_some h
  obtain ⟨_, h⟩ := ck_some h
  obtain ⟨M_10, hM_10, h⟩ := letv_ex h
  replace F := F.put hM_10 (by omega)
  rw [← Option.some.inj h]; exact F
theorem fr_X7_letter {x1 : Int32} {x2 : Int32} {x3 : Int32} {M : Mem} {R : Int32 × Mem} (h : f_X7_letter x1 x2 x3 M = some R) : Fr (fun i k => i = 60 ∨ (i = 59 ∧ k = 5)) M R.2 := by
  have F : Fr (fun i k => i = 60 ∨ (i = 59 ∧ k = 5)) M M := Fr.rf
  unfold f_X7_letter at h
  obtain ⟨r_1, hr_1, h⟩ := bnd h
  clear hr_1
  obtain ⟨r_2, hr_2, h⟩ := bnd h
  clear hr_2
  rcases ite_or h with h | h
  · rw [← Option.some.inj h]; exact F
  · obtain ⟨r_3, hr_3, h⟩ := bnd h
    clear hr_3
    obtain ⟨r_4, hr_4, h⟩ := bnd h
    clear hr_4
    rcases ite_or h with h | h
    · obtain ⟨r_5, hr_5, h⟩ := bnd h
      clear hr_5
      obtain ⟨r_6, hr_6, h⟩ := bnd h
      clear hr_6
      obtain ⟨r_7, hr_7, h⟩ := bnd h
      clear hr_7
      obtain ⟨_, h⟩ := ck_some h
      obtain ⟨_, h⟩ := ck_some h
      obtain ⟨M_10, hM_10, h⟩ := letv_ex h
      replace F := F.put hM_10 (by omega)
      obtain ⟨r_11, hr_11, h⟩ := bnd h
      replace F := F.trans ((fr_X7_pays hr_11).mono (fun i k h => by omega))
      obtain ⟨r_12, hr_12, h⟩ := bnd h
      replace F := F.trans ((fr_X7_pays hr_12).mono (fun i k h => by omega))
      obtain ⟨r_13, hr_13, h⟩ := bnd h
      clear hr_13
      obtain ⟨r_14, hr_14, h⟩ := bnd h
      clear hr_14
      obtain ⟨M_15, hM_15, h⟩ := letv_ex h
      replace F := F.put hM_15 (by omega)
      obtain ⟨_, h⟩ := ck_some h
      obtain ⟨_, h⟩ := ck_some h
      obtain ⟨M_18, hM_18, h⟩ := letv_ex h
      replace F := F.put hM_18 (by omega)
      rw [← Option.some.inj h]; exact F
    · rw [← Option.some.inj h]; exact F
theorem fr_X7_send {x1 : Int32} {x2 : Int32} {x3 : Int32} {M : Mem} {R : Int32 × Mem} (h : f_X7_send x1 x2 x3 M = some R) : Fr (fun i k => i = 60 ∨ i = 63 ∨ (i = 59 ∧ k = 5)) M R.2 := by
  have F : Fr (fun i k => i = 60 ∨ i = 63 ∨ (i = 59 ∧ k = 5)) M M := Fr.rf
  unfold f_X7_send at h
  obtain ⟨r_1, hr_1, h⟩ := bnd h
  clear hr_1
  rcases ite_or h with h | h
  · obtain ⟨r_2, hr_2, h⟩ := bnd h
    replace F := F.trans ((fr_X7_finds hr_2).mono (fun i k h => by omega))
    rw [← Option.some.inj h]; exact F
  · obtain ⟨r_3, hr_3, h⟩ := bnd h
    clear hr_3
    rcases ite_or h with h | h
    · obtain ⟨r_6, hr_6, h⟩ := bnd h
      replace F := F.trans ((fr_X7_finds hr_6).mono (fun i k h => by omega))
      rw [← Option.some.inj h]; exact F
    · obtain ⟨r_4, hr_4, h⟩ := bnd h
      replace F := F.trans ((fr_X7_letter hr_4).mono (fun i k h => by omega))
      rcases ite_or h with h | h
      · rw [← Option.some.inj h]; exact F
      · obtain ⟨r_5, hr_5, h⟩ := bnd h
        replace F := F.trans ((fr_X7_finds hr_5).mono (fun i k h => by omega))
        rw [← Option.some.inj h]; exact F
theorem fr_X7_year_b16 {k2 : Int32 → Mem → Option (Mem)} {k16 : Int32 → Int32 → Mem → Option (Mem)} (hk2 : ∀ (x1 : Int32) (M : Mem) (R : Mem), k2 x1 M = some R → Fr (fun i k => i = 60 ∨ (i = 59 ∧ k = 5)) M R) (hk16 : ∀ (x1 : Int32) (x2 : Int32) (M : Mem) (R : Mem), k16 x1 x2 M = some R → Fr (fun i k => i = 60 ∨ (i = 59 ∧ k = 5)) M R) {x1 : Int32} {x2 : Int32} {M : Mem} {R : Mem} (h : f_X7_year_b16 k2 k16 x1 x2 M = some R) : Fr (fun i k => i = 60 ∨ (i = 59 ∧ k = 5)) M R := by
  have F : Fr (fun i k => i = 60 ∨ (i = 59 ∧ k = 5)) M M := Fr.rf
  unfold f_X7_year_b16 at h
  obtain ⟨_, h⟩ := ck_some h
  rcases ite_or h with h | h
  · exact F.trans (hk2 _ _ _ h)
  · obtain ⟨_, h⟩ := ck_some h
    obtain ⟨r_8, hr_8, h⟩ := bnd h
    clear hr_8
    rcases ite_or h with h | h
    · exact F.trans (hk16 _ _ _ _ h)
    · obtain ⟨r_9, hr_9, h⟩ := bnd h
      clear hr_9
      obtain ⟨r_10, hr_10, h⟩ := bnd h
      replace F := F.trans ((fr_X7_letter hr_10).mono (fun i k h => by omega))
      obtain ⟨r_11, hr_11, h⟩ := bnd h
      clear hr_11
      obtain ⟨r_12, hr_12, h⟩ := bnd h
      replace F := F.trans ((fr_X7_letter hr_12).mono (fun i k h => by omega))
      exact F.trans (hk16 _ _ _ _ h)
theorem fr_X7_year_l16 {k2 : Int32 → Mem → Option (Mem)} (hk2 : ∀ (x1 : Int32) (M : Mem) (R : Mem), k2 x1 M = some R → Fr (fun i k => i = 60 ∨ (i = 59 ∧ k = 5)) M R) : ∀ (n : Nat) (x1 : Int32) (x2 : Int32) (M : Mem) (R : Mem), f_X7_year_l16 k2 n x1 x2 M = some R → Fr (fun i k => i = 60 ∨ (i = 59 ∧ k = 5)) M R := by
  intro n
  induction n with
  | zero => intro x1 x2 M R h; cases h
  | succ n ih => intro x1 x2 M R h; exact fr_X7_year_b16 hk2 ih h
theorem fr_X7_year_b2 {k2 : Int32 → Mem → Option (Mem)} (hk2 : ∀ (x1 : Int32) (M : Mem) (R : Mem), k2 x1 M = some R → Fr (fun i k => i = 60 ∨ (i = 59 ∧ k = 5)) M R) {x1 : Int32} {M : Mem} {R : Mem} (h : f_X7_year_b2 k2 x1 M = some R) : Fr (fun i k => i = 60 ∨ (i = 59 ∧ k = 5)) M R := by
  have F : Fr (fun i k => i = 60 ∨ (i = 59 ∧ k = 5)) M M := Fr.rf
  unfold f_X7_year_b2 at h
  obtain ⟨_, h⟩ := ck_some h
  rcases ite_or h with h | h
  · obtain ⟨_, h⟩ := ck_some h
    obtain ⟨_, h⟩ := ck_some h
    obtain ⟨M_4, hM_4, h⟩ := letv_ex h
    replace F := F.put hM_4 (by omega)
    rw [← Option.some.inj h]; exact F
  · obtain ⟨x2_5, _, h⟩ := letv_ex h
    exact F.trans (fr_X7_year_l16 hk2 _ _ _ _ _ h)
theorem fr_X7_year_l2 : ∀ (n : Nat) (x1 : Int32) (M : Mem) (R : Mem), f_X7_year_l2 n x1 M = some R → Fr (fun i k => i = 60 ∨ (i = 59 ∧ k = 5)) M R := by
  intro n
  induction n with
  | zero => intro x1 M R h; cases h
  | succ n ih => intro x1 M R h; exact fr_X7_year_b2 ih h
theorem fr_X7_year {M : Mem} {R : Mem} (h : f_X7_year M = some R) : Fr (fun i k => i = 60 ∨ (i = 59 ∧ k = 5)) M R := by
  have F : Fr (fun i k => i = 60 ∨ (i = 59 ∧ k = 5)) M M := Fr.rf
  unfold f_X7_year at h
  exact F.trans (fr_X7_year_l2 _ _ _ _ h)
theorem fr_X7_yearsGo_b9 {k9 : Int32 → Int32 → Int32 → Mem → Option (Int32 × Mem)} (hk9 : ∀ (x1 : Int32) (x2 : Int32) (x3 : Int32) (M : Mem) (R : Int32 × Mem), k9 x1 x2 x3 M = some R → Fr (fun i k => i = 60 ∨ (i = 59 ∧ k = 5)) M R.2) {x1 : Int32} {x2 : Int32} {x3 : Int32} {M : Mem} {R : Int32 × Mem} (h : f_X7_yearsGo_b9 k9 x1 x2 x3 M = some R) : Fr (fun i k => i = 60 ∨ (i = 59 ∧ k = 5)) M R.2 := by
  have F : Fr (fun i k => i = 60 ∨ (i = 59 ∧ k = 5)) M M := Fr.rf
  unfold f_X7_yearsGo_b9 at h
  rcases ite_or h with h | h
  · obtain ⟨_, h⟩ := ck_some h
    rw [← Option.some.inj h]; exact F
  · obtain ⟨r_4, hr_4, h⟩ := bnd h
    replace F := F.trans ((fr_X7_year hr_4).mono (fun i k h => by omega))
    exact F.trans (hk9 _ _ _ _ _ h)
theorem fr_X7_yearsGo_l9 : ∀ (n : Nat) (x1 : Int32) (x2 : Int32) (x3 : Int32) (M : Mem) (R : Int32 × Mem), f_X7_yearsGo_l9 n x1 x2 x3 M = some R → Fr (fun i k => i = 60 ∨ (i = 59 ∧ k = 5)) M R.2 := by
  intro n
  induction n with
  | zero => intro x1 x2 x3 M R h; cases h
  | succ n ih => intro x1 x2 x3 M R h; exact fr_X7_yearsGo_b9 ih h
theorem fr_X7_yearsGo {x1 : Int32} {M : Mem} {R : Int32 × Mem} (h : f_X7_yearsGo x1 M = some R) : Fr (fun i k => i = 60 ∨ (i = 59 ∧ k = 5)) M R.2 := by
  have F : Fr (fun i k => i = 60 ∨ (i = 59 ∧ k = 5)) M M := Fr.rf
  unfold f_X7_yearsGo at h
  obtain ⟨_, h⟩ := ck_some h
  obtain ⟨x2_2, _, h⟩ := letv_ex h
  exact F.trans (fr_X7_yearsGo_l9 _ _ _ _ _ _ h)
theorem fr_X7_years {x1 : Int32} {M : Mem} {R : Int32 × Mem} (h : f_X7_years x1 M = some R) : Fr (fun i k => i = 60 ∨ i = 63 ∨ (i = 59 ∧ k = 5)) M R.2 := by
  have F : Fr (fun i k => i = 60 ∨ i = 63 ∨ (i = 59 ∧ k = 5)) M M := Fr.rf
  unfold f_X7_years at h
  obtain ⟨r_1, hr_1, h⟩ := bnd h
  clear hr_1
  rcases ite_or h with h | h
  · obtain ⟨r_5, hr_5, h⟩ := bnd h
    replace F := F.trans ((fr_X7_finds hr_5).mono (fun i k h => by omega))
    rw [← Option.some.inj h]; exact F
  · obtain ⟨r_2, hr_2, h⟩ := bnd h
    clear hr_2
    rcases ite_or h with h | h
    · obtain ⟨r_3, hr_3, h⟩ := bnd h
      replace F := F.trans ((fr_X7_yearsGo hr_3).mono (fun i k h => by omega))
      rw [← Option.some.inj h]; exact F
    · obtain ⟨r_4, hr_4, h⟩ := bnd h
      replace F := F.trans ((fr_X7_finds hr_4).mono (fun i k h => by omega))
      rw [← Option.some.inj h]; exact F
theorem fr_X7_now {x1 : Int32} {M : Mem} {R : Int32 × Mem} (h : f_X7_now x1 M = some R) : Fr (fun i k => i = 63) M R.2 := by
  have F : Fr (fun i k => i = 63) M M := Fr.rf
  unfold f_X7_now at h
  rcases ite_or h with h | h
  · obtain ⟨_, h⟩ := ck_some h
    rw [← Option.some.inj h]; exact F
  · rcases ite_or h with h | h
    · obtain ⟨_, h⟩ := ck_some h
      rw [← Option.some.inj h]; exact F
    · rcases ite_or h with h | h
      · obtain ⟨r_3, hr_3, h⟩ := bnd h
        clear hr_3
        rw [← Option.some.inj h]; exact F
      · rcases ite_or h with h | h
        · obtain ⟨r_4, hr_4, h⟩ := bnd h
          clear hr_4
          rw [← Option.some.inj h]; exact F
        · rcases ite_or h with h | h
          · obtain ⟨r_5, hr_5, h⟩ := bnd h
            clear hr_5
            rw [← Option.some.inj h]; exact F
          · rcases ite_or h with h | h
            · obtain ⟨r_6, hr_6, h⟩ := bnd h
              clear hr_6
              rw [← Option.some.inj h]; exact F
            · obtain ⟨r_7, hr_7, h⟩ := bnd h
              replace F := F.trans ((fr_X7_finds hr_7).mono (fun i k h => by omega))
              rw [← Option.some.inj h]; exact F
theorem fr_X7_who {x1 : Int32} {M : Mem} {R : Int32 × Mem} (h : f_X7_who x1 M = some R) : Fr (fun i k => i = 63) M R.2 := by
  have F : Fr (fun i k => i = 63) M M := Fr.rf
  unfold f_X7_who at h
  obtain ⟨r_1, hr_1, h⟩ := bnd h
  clear hr_1
  rcases ite_or h with h | h
  · obtain ⟨r_2, hr_2, h⟩ := bnd h
    replace F := F.trans ((fr_X7_finds hr_2).mono (fun i k h => by omega))
    rw [← Option.some.inj h]; exact F
  · obtain ⟨r_3, hr_3, h⟩ := bnd h
    clear hr_3
    rw [← Option.some.inj h]; exact F
theorem fr_X7_ahead {x1 : Int32} {x2 : Int32} {M : Mem} {R : Int32 × Mem} (h : f_X7_ahead x1 x2 M = some R) : Fr (fun i k => i = 60 ∨ i = 62 ∨ i = 63 ∨ (i = 59 ∧ k = 5)) M R.2 := by
  have F : Fr (fun i k => i = 60 ∨ i = 62 ∨ i = 63 ∨ (i = 59 ∧ k = 5)) M M := Fr.rf
  unfold f_X7_ahead at h
  obtain ⟨r_1, hr_1, h⟩ := bnd h
  clear hr_1
  rcases ite_or h with h | h
  · obtain ⟨r_2, hr_2, h⟩ := bnd h
    replace F := F.trans ((fr_X7_finds hr_2).mono (fun i k h => by omega))
    rw [← Option.some.inj h]; exact F
  · obtain ⟨_, h⟩ := ck_some h
    obtain ⟨r_4, hr_4, h⟩ := bnd h
    clear hr_4
    rcases ite_or h with h | h
    · obtain ⟨r_16, hr_16, h⟩ := bnd h
      replace F := F.trans ((fr_X7_finds hr_16).mono (fun i k h => by omega))
      rw [← Option.some.inj h]; exact F
    · obtain ⟨r_5, hr_5, h⟩ := bnd h
      clear hr_5
      rcases ite_or h with h | h
      · obtain ⟨r_6, hr_6, h⟩ := bnd h
        replace F := F.trans ((fr_X7_saves hr_6).mono (fun i k h => by omega))
        obtain ⟨r_7, hr_7, h⟩ := bnd h
        replace F := F.trans ((fr_X7_yearsGo hr_7).mono (fun i k h => by omega))
        rcases ite_or h with h | h
        · obtain ⟨r_14, hr_14, h⟩ := bnd h
          replace F := F.trans ((fr_X7_putsBack hr_14).mono (fun i k h => by omega))
          rw [← Option.some.inj h]; exact F
        · rcases ite_or h with h | h
          · obtain ⟨r_12, hr_12, h⟩ := bnd h
            clear hr_12
            obtain ⟨r_13, hr_13, h⟩ := bnd h
            replace F := F.trans ((fr_X7_putsBack hr_13).mono (fun i k h => by omega))
            rw [← Option.some.inj h]; exact F
          · rcases ite_or h with h | h
            · obtain ⟨r_10, hr_10, h⟩ := bnd h
              clear hr_10
              obtain ⟨r_11, hr_11, h⟩ := bnd h
              replace F := F.trans ((fr_X7_putsBack hr_11).mono (fun i k h => by omega))
              rw [← Option.some.inj h]; exact F
            · obtain ⟨r_8, hr_8, h⟩ := bnd h
              clear hr_8
              obtain ⟨r_9, hr_9, h⟩ := bnd h
              replace F := F.trans ((fr_X7_putsBack hr_9).mono (fun i k h => by omega))
              rw [← Option.some.inj h]; exact F
      · obtain ⟨r_15, hr_15, h⟩ := bnd h
        replace F := F.trans ((fr_X7_finds hr_15).mono (fun i k h => by omega))
        rw [← Option.some.inj h]; exact F
theorem fr_X7_when_b44 {k44 : Int32 → Int32 → Int32 → Mem → Option (Int32 × Mem)} (hk44 : ∀ (x1 : Int32) (x2 : Int32) (x3 : Int32) (M : Mem) (R : Int32 × Mem), k44 x1 x2 x3 M = some R → Fr (fun i k => i = 60 ∨ i = 62 ∨ i = 63 ∨ (i = 59 ∧ k = 5)) M R.2) {x1 : Int32} {x2 : Int32} {x3 : Int32} {M : Mem} {R : Int32 × Mem} (h : f_X7_when_b44 k44 x1 x2 x3 M = some R) : Fr (fun i k => i = 60 ∨ i = 62 ∨ i = 63 ∨ (i = 59 ∧ k = 5)) M R.2 := by
  have F : Fr (fun i k => i = 60 ∨ i = 62 ∨ i = 63 ∨ (i = 59 ∧ k = 5)) M M := Fr.rf
  unfold f_X7_when_b44 at h
  rcases ite_or h with h | h
  · obtain ⟨r_8, hr_8, h⟩ := bnd h
    replace F := F.trans ((fr_X7_putsBack hr_8).mono (fun i k h => by omega))
    rcases ite_or h with h | h
    · rw [← Option.some.inj h]; exact F
    · obtain ⟨r_9, hr_9, h⟩ := bnd h
      replace F := F.trans ((fr_X7_finds hr_9).mono (fun i k h => by omega))
      rw [← Option.some.inj h]; exact F
  · obtain ⟨r_10, hr_10, h⟩ := bnd h
    clear hr_10
    obtain ⟨r_11, hr_11, h⟩ := bnd h
    clear hr_11
    rcases ite_or h with h | h
    · obtain ⟨r_14, hr_14, h⟩ := bnd h
      replace F := F.trans ((fr_X7_year hr_14).mono (fun i k h => by omega))
      exact F.trans (hk44 _ _ _ _ _ h)
    · obtain ⟨r_12, hr_12, h⟩ := bnd h
      replace F := F.trans ((fr_X7_putsBack hr_12).mono (fun i k h => by omega))
      rcases ite_or h with h | h
      · rw [← Option.some.inj h]; exact F
      · obtain ⟨r_13, hr_13, h⟩ := bnd h
        replace F := F.trans ((fr_X7_finds hr_13).mono (fun i k h => by omega))
        rw [← Option.some.inj h]; exact F
theorem fr_X7_when_l44 : ∀ (n : Nat) (x1 : Int32) (x2 : Int32) (x3 : Int32) (M : Mem) (R : Int32 × Mem), f_X7_when_l44 n x1 x2 x3 M = some R → Fr (fun i k => i = 60 ∨ i = 62 ∨ i = 63 ∨ (i = 59 ∧ k = 5)) M R.2 := by
  intro n
  induction n with
  | zero => intro x1 x2 x3 M R h; cases h
  | succ n ih => intro x1 x2 x3 M R h; exact fr_X7_when_b44 ih h
theorem fr_X7_when {x1 : Int32} {x2 : Int32} {M : Mem} {R : Int32 × Mem} (h : f_X7_when x1 x2 M = some R) : Fr (fun i k => i = 60 ∨ i = 62 ∨ i = 63 ∨ (i = 59 ∧ k = 5)) M R.2 := by
  have F : Fr (fun i k => i = 60 ∨ i = 62 ∨ i = 63 ∨ (i = 59 ∧ k = 5)) M M := Fr.rf
  unfold f_X7_when at h
  obtain ⟨r_1, hr_1, h⟩ := bnd h
  clear hr_1
  rcases ite_or h with h | h
  · obtain ⟨r_2, hr_2, h⟩ := bnd h
    replace F := F.trans ((fr_X7_finds hr_2).mono (fun i k h => by omega))
    rw [← Option.some.inj h]; exact F
  · obtain ⟨r_3, hr_3, h⟩ := bnd h
    clear hr_3
    rcases ite_or h with h | h
    · obtain ⟨r_7, hr_7, h⟩ := bnd h
      replace F := F.trans ((fr_X7_finds hr_7).mono (fun i k h => by omega))
      rw [← Option.some.inj h]; exact F
    · obtain ⟨r_4, hr_4, h⟩ := bnd h
      clear hr_4
      rcases ite_or h with h | h
      · obtain ⟨r_5, hr_5, h⟩ := bnd h
        replace F := F.trans ((fr_X7_saves hr_5).mono (fun i k h => by omega))
        exact F.trans (fr_X7_when_l44 _ _ _ _ _ _ h)
      · obtain ⟨r_6, hr_6, h⟩ := bnd h
        replace F := F.trans ((fr_X7_finds hr_6).mono (fun i k h => by omega))
        rw [← Option.some.inj h]; exact F
theorem fr_X7_believers {x1 : Int32} {x2 : Int32} {x3 : Int32} {M : Mem} {R : Int32 × Mem} (h : f_X7_believers x1 x2 x3 M = some R) : Fr (fun i k => i = 60 ∨ i = 62 ∨ (i = 59 ∧ k = 5)) M R.2 := by
  have F : Fr (fun i k => i = 60 ∨ i = 62 ∨ (i = 59 ∧ k = 5)) M M := Fr.rf
  unfold f_X7_believers at h
  obtain ⟨r_1, hr_1, h⟩ := bnd h
  replace F := F.trans ((fr_X7_saves hr_1).mono (fun i k h => by omega))
  rcases ite_or h with h | h
  · obtain ⟨r_2, hr_2, h⟩ := bnd h
    replace F := F.trans ((fr_X7_yearsGo hr_2).mono (fun i k h => by omega))
    obtain ⟨r_3, hr_3, h⟩ := bnd h
    clear hr_3
    obtain ⟨r_4, hr_4, h⟩ := bnd h
    replace F := F.trans ((fr_X7_putsBack hr_4).mono (fun i k h => by omega))
    rw [← Option.some.inj h]; exact F
  · obtain ⟨r_5, hr_5, h⟩ := bnd h
    clear hr_5
    obtain ⟨_, h⟩ := ck_some h
    obtain ⟨M_7, hM_7, h⟩ := letv_ex h
    replace F := F.put hM_7 (by omega)
    obtain ⟨r_8, hr_8, h⟩ := bnd h
    replace F := F.trans ((fr_X7_yearsGo hr_8).mono (fun i k h => by omega))
    obtain ⟨r_9, hr_9, h⟩ := bnd h
    clear hr_9
    obtain ⟨r_10, hr_10, h⟩ := bnd h
    replace F := F.trans ((fr_X7_putsBack hr_10).mono (fun i k h => by omega))
    rw [← Option.some.inj h]; exact F
theorem fr_X7_without {x1 : Int32} {x2 : Int32} {x3 : Int32} {M : Mem} {R : Int32 × Mem} (h : f_X7_without x1 x2 x3 M = some R) : Fr (fun i k => i = 60 ∨ i = 62 ∨ i = 63 ∨ (i = 59 ∧ k = 5)) M R.2 := by
  have F : Fr (fun i k => i = 60 ∨ i = 62 ∨ i = 63 ∨ (i = 59 ∧ k = 5)) M M := Fr.rf
  unfold f_X7_without at h
  obtain ⟨r_1, hr_1, h⟩ := bnd h
  clear hr_1
  rcases ite_or h with h | h
  · obtain ⟨r_2, hr_2, h⟩ := bnd h
    replace F := F.trans ((fr_X7_finds hr_2).mono (fun i k h => by omega))
    rw [← Option.some.inj h]; exact F
  · obtain ⟨r_3, hr_3, h⟩ := bnd h
    clear hr_3
    rcases ite_or h with h | h
    · obtain ⟨r_4, hr_4, h⟩ := bnd h
      replace F := F.trans ((fr_X7_finds hr_4).mono (fun i k h => by omega))
      rw [← Option.some.inj h]; exact F
    · obtain ⟨r_5, hr_5, h⟩ := bnd h
      clear hr_5
      rcases ite_or h with h | h
      · obtain ⟨r_9, hr_9, h⟩ := bnd h
        replace F := F.trans ((fr_X7_finds hr_9).mono (fun i k h => by omega))
        rw [← Option.some.inj h]; exact F
      · obtain ⟨r_6, hr_6, h⟩ := bnd h
        clear hr_6
        rcases ite_or h with h | h
        · obtain ⟨r_7, hr_7, h⟩ := bnd h
          replace F := F.trans ((fr_X7_believers hr_7).mono (fun i k h => by omega))
          rw [← Option.some.inj h]; exact F
        · obtain ⟨r_8, hr_8, h⟩ := bnd h
          replace F := F.trans ((fr_X7_finds hr_8).mono (fun i k h => by omega))
          rw [← Option.some.inj h]; exact F
theorem fr_X7_added_b53 {k53 : Int32 → Int32 → Int32 → Int32 → Int32 → Mem → Option (Int32 × Mem)} (hk53 : ∀ (x1 : Int32) (x2 : Int32) (x3 : Int32) (x4 : Int32) (x5 : Int32) (M : Mem) (R : Int32 × Mem), k53 x1 x2 x3 x4 x5 M = some R → Fr (fun i k => i = 60 ∨ i = 62 ∨ i = 63 ∨ (i = 59 ∧ k = 5)) M R.2) {x1 : Int32} {x2 : Int32} {x3 : Int32} {x4 : Int32} {x5 : Int32} {M : Mem} {R : Int32 × Mem} (h : f_X7_added_b53 k53 x1 x2 x3 x4 x5 M = some R) : Fr (fun i k => i = 60 ∨ i = 62 ∨ i = 63 ∨ (i = 59 ∧ k = 5)) M R.2 := by
  have F : Fr (fun i k => i = 60 ∨ i = 62 ∨ i = 63 ∨ (i = 59 ∧ k = 5)) M M := Fr.rf
  unfold f_X7_added_b53 at h
  obtain ⟨_, h⟩ := ck_some h
  rcases ite_or h with h | h
  · rw [← Option.some.inj h]; exact F
  · obtain ⟨r_10, hr_10, h⟩ := bnd h
    replace F := F.trans ((fr_X7_believers hr_10).mono (fun i k h => by omega))
    obtain ⟨r_11, hr_11, h⟩ := bnd h
    clear hr_11
    rcases ite_or h with h | h
    · obtain ⟨x4_12, _, h⟩ := letv_ex h
      exact F.trans (hk53 _ _ _ _ _ _ _ h)
    · obtain ⟨x4_13, _, h⟩ := letv_ex h
      exact F.trans (hk53 _ _ _ _ _ _ _ h)
theorem fr_X7_added_l53 : ∀ (n : Nat) (x1 : Int32) (x2 : Int32) (x3 : Int32) (x4 : Int32) (x5 : Int32) (M : Mem) (R : Int32 × Mem), f_X7_added_l53 n x1 x2 x3 x4 x5 M = some R → Fr (fun i k => i = 60 ∨ i = 62 ∨ i = 63 ∨ (i = 59 ∧ k = 5)) M R.2 := by
  intro n
  induction n with
  | zero => intro x1 x2 x3 x4 x5 M R h; cases h
  | succ n ih => intro x1 x2 x3 x4 x5 M R h; exact fr_X7_added_b53 ih h
theorem fr_X7_added {x1 : Int32} {x2 : Int32} {M : Mem} {R : Int32 × Mem} (h : f_X7_added x1 x2 M = some R) : Fr (fun i k => i = 60 ∨ i = 62 ∨ i = 63 ∨ (i = 59 ∧ k = 5)) M R.2 := by
  have F : Fr (fun i k => i = 60 ∨ i = 62 ∨ i = 63 ∨ (i = 59 ∧ k = 5)) M M := Fr.rf
  unfold f_X7_added at h
  obtain ⟨r_1, hr_1, h⟩ := bnd h
  clear hr_1
  rcases ite_or h with h | h
  · obtain ⟨r_2, hr_2, h⟩ := bnd h
    replace F := F.trans ((fr_X7_finds hr_2).mono (fun i k h => by omega))
    rw [← Option.some.inj h]; exact F
  · obtain ⟨r_3, hr_3, h⟩ := bnd h
    clear hr_3
    rcases ite_or h with h | h
    · obtain ⟨r_8, hr_8, h⟩ := bnd h
      replace F := F.trans ((fr_X7_finds hr_8).mono (fun i k h => by omega))
      rw [← Option.some.inj h]; exact F
    · obtain ⟨r_4, hr_4, h⟩ := bnd h
      clear hr_4
      rcases ite_or h with h | h
      · obtain ⟨r_5, hr_5, h⟩ := bnd h
        replace F := F.trans ((fr_X7_believers hr_5).mono (fun i k h => by omega))
        obtain ⟨r_6, hr_6, h⟩ := bnd h
        clear hr_6
        exact F.trans (fr_X7_added_l53 _ _ _ _ _ _ _ _ h)
      · obtain ⟨r_7, hr_7, h⟩ := bnd h
        replace F := F.trans ((fr_X7_finds hr_7).mono (fun i k h => by omega))
        rw [← Option.some.inj h]; exact F
theorem fr_X7_best_j117 {k51 : Int32 → Int32 → Int32 → Int32 → Int32 → Int32 → Mem → Option (Int32 × Mem)} (hk51 : ∀ (x1 : Int32) (x2 : Int32) (x3 : Int32) (x4 : Int32) (x5 : Int32) (x6 : Int32) (M : Mem) (R : Int32 × Mem), k51 x1 x2 x3 x4 x5 x6 M = some R → Fr (fun i k => i = 60 ∨ i = 62 ∨ i = 63 ∨ (i = 59 ∧ k = 5)) M R.2) {x1 : Int32} {x2 : Int32} {x3 : Int32} {x5 : Int32} {x6 : Int32} {x8 : Int32} {t0 : Int32} {M : Mem} {R : Int32 × Mem} (h : f_X7_best_j117 k51 x1 x2 x3 x5 x6 x8 t0 M = some R) : Fr (fun i k => i = 60 ∨ i = 62 ∨ i = 63 ∨ (i = 59 ∧ k = 5)) M R.2 := by
  have F : Fr (fun i k => i = 60 ∨ i = 62 ∨ i = 63 ∨ (i = 59 ∧ k = 5)) M M := Fr.rf
  unfold f_X7_best_j117 at h
  rcases ite_or h with h | h
  · exact F.trans (hk51 _ _ _ _ _ _ _ _ h)
  · exact F.trans (hk51 _ _ _ _ _ _ _ _ h)
theorem fr_X7_best_b51 {k51 : Int32 → Int32 → Int32 → Int32 → Int32 → Int32 → Mem → Option (Int32 × Mem)} (hk51 : ∀ (x1 : Int32) (x2 : Int32) (x3 : Int32) (x4 : Int32) (x5 : Int32) (x6 : Int32) (M : Mem) (R : Int32 × Mem), k51 x1 x2 x3 x4 x5 x6 M = some R → Fr (fun i k => i = 60 ∨ i = 62 ∨ i = 63 ∨ (i = 59 ∧ k = 5)) M R.2) {x1 : Int32} {x2 : Int32} {x3 : Int32} {x4 : Int32} {x5 : Int32} {x6 : Int32} {M : Mem} {R : Int32 × Mem} (h : f_X7_best_b51 k51 x1 x2 x3 x4 x5 x6 M = some R) : Fr (fun i k => i = 60 ∨ i = 62 ∨ i = 63 ∨ (i = 59 ∧ k = 5)) M R.2 := by
  have F : Fr (fun i k => i = 60 ∨ i = 62 ∨ i = 63 ∨ (i = 59 ∧ k = 5)) M M := Fr.rf
  unfold f_X7_best_b51 at h
  obtain ⟨_, h⟩ := ck_some h
  rcases ite_or h with h | h
  · rw [← Option.some.inj h]; exact F
  · obtain ⟨r_9, hr_9, h⟩ := bnd h
    clear hr_9
    obtain ⟨_, h⟩ := ck_some h
    obtain ⟨M_11, hM_11, h⟩ := letv_ex h
    replace F := F.put hM_11 (by omega)
    obtain ⟨r_12, hr_12, h⟩ := bnd h
    replace F := F.trans ((fr_X7_yearsGo hr_12).mono (fun i k h => by omega))
    obtain ⟨r_13, hr_13, h⟩ := bnd h
    clear hr_13
    obtain ⟨r_14, hr_14, h⟩ := bnd h
    clear hr_14
    obtain ⟨r_15, hr_15, h⟩ := bnd h
    clear hr_15
    obtain ⟨r_16, hr_16, h⟩ := bnd h
    replace F := F.trans ((fr_X7_putsBack hr_16).mono (fun i k h => by omega))
    rcases ite_or h with h | h
    · exact F.trans (fr_X7_best_j117 hk51 h)
    · exact F.trans (fr_X7_best_j117 hk51 h)
theorem fr_X7_best_l51 : ∀ (n : Nat) (x1 : Int32) (x2 : Int32) (x3 : Int32) (x4 : Int32) (x5 : Int32) (x6 : Int32) (M : Mem) (R : Int32 × Mem), f_X7_best_l51 n x1 x2 x3 x4 x5 x6 M = some R → Fr (fun i k => i = 60 ∨ i = 62 ∨ i = 63 ∨ (i = 59 ∧ k = 5)) M R.2 := by
  intro n
  induction n with
  | zero => intro x1 x2 x3 x4 x5 x6 M R h; cases h
  | succ n ih => intro x1 x2 x3 x4 x5 x6 M R h; exact fr_X7_best_b51 ih h
theorem fr_X7_best {x1 : Int32} {x2 : Int32} {x3 : Int32} {M : Mem} {R : Int32 × Mem} (h : f_X7_best x1 x2 x3 M = some R) : Fr (fun i k => i = 60 ∨ i = 62 ∨ i = 63 ∨ (i = 59 ∧ k = 5)) M R.2 := by
  have F : Fr (fun i k => i = 60 ∨ i = 62 ∨ i = 63 ∨ (i = 59 ∧ k = 5)) M M := Fr.rf
  unfold f_X7_best at h
  obtain ⟨r_1, hr_1, h⟩ := bnd h
  clear hr_1
  rcases ite_or h with h | h
  · obtain ⟨r_2, hr_2, h⟩ := bnd h
    replace F := F.trans ((fr_X7_finds hr_2).mono (fun i k h => by omega))
    rw [← Option.some.inj h]; exact F
  · obtain ⟨r_3, hr_3, h⟩ := bnd h
    clear hr_3
    rcases ite_or h with h | h
    · obtain ⟨r_7, hr_7, h⟩ := bnd h
      replace F := F.trans ((fr_X7_finds hr_7).mono (fun i k h => by omega))
      rw [← Option.some.inj h]; exact F
    · obtain ⟨r_4, hr_4, h⟩ := bnd h
      clear hr_4
      rcases ite_or h with h | h
      · obtain ⟨r_5, hr_5, h⟩ := bnd h
        replace F := F.trans ((fr_X7_saves hr_5).mono (fun i k h => by omega))
        exact F.trans (fr_X7_best_l51 _ _ _ _ _ _ _ _ _ h)
      · obtain ⟨r_6, hr_6, h⟩ := bnd h
        replace F := F.trans ((fr_X7_finds hr_6).mono (fun i k h => by omega))
        rw [← Option.some.inj h]; exact F
theorem fr_X7_bridge_j139 {k44 : Int32 → Int32 → Int32 → Int32 → Int32 → Mem → Option (Int32 × Mem)} {k61 : Int32 → Int32 → Int32 → Int32 → Int32 → Int32 → Mem → Option (Int32 × Mem)} (hk44 : ∀ (x1 : Int32) (x2 : Int32) (x3 : Int32) (x4 : Int32) (x5 : Int32) (M : Mem) (R : Int32 × Mem), k44 x1 x2 x3 x4 x5 M = some R → Fr (fun i k => i = 60 ∨ i = 62 ∨ i = 63 ∨ (i = 59 ∧ k = 5)) M R.2) (hk61 : ∀ (x1 : Int32) (x2 : Int32) (x3 : Int32) (x4 : Int32) (x5 : Int32) (x6 : Int32) (M : Mem) (R : Int32 × Mem), k61 x1 x2 x3 x4 x5 x6 M = some R → Fr (fun i k => i = 60 ∨ i = 62 ∨ i = 63 ∨ (i = 59 ∧ k = 5)) M R.2) {x1 : Int32} {x2 : Int32} {x4 : Int32} {x5 : Int32} {x6 : Int32} {x7 : Int32} {t0 : Int32} {M : Mem} {R : Int32 × Mem} (h : f_X7_bridge_j139 k44 k61 x1 x2 x4 x5 x6 x7 t0 M = some R) : Fr (fun i k => i = 60 ∨ i = 62 ∨ i = 63 ∨ (i = 59 ∧ k = 5)) M R.2 := by
  have F : Fr (fun i k => i = 60 ∨ i = 62 ∨ i = 63 ∨ (i = 59 ∧ k = 5)) M M := Fr.rf
  unfold f_X7_bridge_j139 at h
  rcases ite_or h with h | h
  · exact F.trans (hk61 _ _ _ _ _ _ _ _ h)
  · exact F.trans (hk61 _ _ _ _ _ _ _ _ h)
theorem fr_X7_bridge_b61 {k44 : Int32 → Int32 → Int32 → Int32 → Int32 → Mem → Option (Int32 × Mem)} {k61 : Int32 → Int32 → Int32 → Int32 → Int32 → Int32 → Mem → Option (Int32 × Mem)} (hk44 : ∀ (x1 : Int32) (x2 : Int32) (x3 : Int32) (x4 : Int32) (x5 : Int32) (M : Mem) (R : Int32 × Mem), k44 x1 x2 x3 x4 x5 M = some R → Fr (fun i k => i = 60 ∨ i = 62 ∨ i = 63 ∨ (i = 59 ∧ k = 5)) M R.2) (hk61 : ∀ (x1 : Int32) (x2 : Int32) (x3 : Int32) (x4 : Int32) (x5 : Int32) (x6 : Int32) (M : Mem) (R : Int32 × Mem), k61 x1 x2 x3 x4 x5 x6 M = some R → Fr (fun i k => i = 60 ∨ i = 62 ∨ i = 63 ∨ (i = 59 ∧ k = 5)) M R.2) {x1 : Int32} {x2 : Int32} {x3 : Int32} {x4 : Int32} {x5 : Int32} {x6 : Int32} {M : Mem} {R : Int32 × Mem} (h : f_X7_bridge_b61 k44 k61 x1 x2 x3 x4 x5 x6 M = some R) : Fr (fun i k => i = 60 ∨ i = 62 ∨ i = 63 ∨ (i = 59 ∧ k = 5)) M R.2 := by
  have F : Fr (fun i k => i = 60 ∨ i = 62 ∨ i = 63 ∨ (i = 59 ∧ k = 5)) M M := Fr.rf
  unfold f_X7_bridge_b61 at h
  obtain ⟨_, h⟩ := ck_some h
  rcases ite_or h with h | h
  · exact F.trans (hk44 _ _ _ _ _ _ _ h)
  · obtain ⟨_, h⟩ := ck_some h
    obtain ⟨r_12, hr_12, h⟩ := bnd h
    clear hr_12
    rcases ite_or h with h | h
    · obtain ⟨r_13, hr_13, h⟩ := bnd h
      replace F := F.trans ((fr_X7_joins hr_13).mono (fun i k h => by omega))
      obtain ⟨r_14, hr_14, h⟩ := bnd h
      replace F := F.trans ((fr_X7_believers hr_14).mono (fun i k h => by omega))
      obtain ⟨r_15, hr_15, h⟩ := bnd h
      clear hr_15
      obtain ⟨r_16, hr_16, h⟩ := bnd h
      replace F := F.trans ((fr_X7_joins hr_16).mono (fun i k h => by omega))
      rcases ite_or h with h | h
      · exact F.trans (fr_X7_bridge_j139 hk44 hk61 h)
      · exact F.trans (fr_X7_bridge_j139 hk44 hk61 h)
    · exact F.trans (hk61 _ _ _ _ _ _ _ _ h)
theorem fr_X7_bridge_l61 {k44 : Int32 → Int32 → Int32 → Int32 → Int32 → Mem → Option (Int32 × Mem)} (hk44 : ∀ (x1 : Int32) (x2 : Int32) (x3 : Int32) (x4 : Int32) (x5 : Int32) (M : Mem) (R : Int32 × Mem), k44 x1 x2 x3 x4 x5 M = some R → Fr (fun i k => i = 60 ∨ i = 62 ∨ i = 63 ∨ (i = 59 ∧ k = 5)) M R.2) : ∀ (n : Nat) (x1 : Int32) (x2 : Int32) (x3 : Int32) (x4 : Int32) (x5 : Int32) (x6 : Int32) (M : Mem) (R : Int32 × Mem), f_X7_bridge_l61 k44 n x1 x2 x3 x4 x5 x6 M = some R → Fr (fun i k => i = 60 ∨ i = 62 ∨ i = 63 ∨ (i = 59 ∧ k = 5)) M R.2 := by
  intro n
  induction n with
  | zero => intro x1 x2 x3 x4 x5 x6 M R h; cases h
  | succ n ih => intro x1 x2 x3 x4 x5 x6 M R h; exact fr_X7_bridge_b61 hk44 ih h
theorem fr_X7_bridge_b44 {k44 : Int32 → Int32 → Int32 → Int32 → Int32 → Mem → Option (Int32 × Mem)} (hk44 : ∀ (x1 : Int32) (x2 : Int32) (x3 : Int32) (x4 : Int32) (x5 : Int32) (M : Mem) (R : Int32 × Mem), k44 x1 x2 x3 x4 x5 M = some R → Fr (fun i k => i = 60 ∨ i = 62 ∨ i = 63 ∨ (i = 59 ∧ k = 5)) M R.2) {x1 : Int32} {x2 : Int32} {x3 : Int32} {x4 : Int32} {x5 : Int32} {M : Mem} {R : Int32 × Mem} (h : f_X7_bridge_b44 k44 x1 x2 x3 x4 x5 M = some R) : Fr (fun i k => i = 60 ∨ i = 62 ∨ i = 63 ∨ (i = 59 ∧ k = 5)) M R.2 := by
  have F : Fr (fun i k => i = 60 ∨ i = 62 ∨ i = 63 ∨ (i = 59 ∧ k = 5)) M M := Fr.rf
  unfold f_X7_bridge_b44 at h
  obtain ⟨_, h⟩ := ck_some h
  rcases ite_or h with h | h
  · rcases ite_or h with h | h
    · rw [← Option.some.inj h]; exact F
    · obtain ⟨r_8, hr_8, h⟩ := bnd h
      replace F := F.trans ((fr_X7_finds hr_8).mono (fun i k h => by omega))
      rw [← Option.some.inj h]; exact F
  · obtain ⟨x6_9, _, h⟩ := letv_ex h
    exact F.trans (fr_X7_bridge_l61 hk44 _ _ _ _ _ _ _ _ _ h)
theorem fr_X7_bridge_l44 : ∀ (n : Nat) (x1 : Int32) (x2 : Int32) (x3 : Int32) (x4 : Int32) (x5 : Int32) (M : Mem) (R : Int32 × Mem), f_X7_bridge_l44 n x1 x2 x3 x4 x5 M = some R → Fr (fun i k => i = 60 ∨ i = 62 ∨ i = 63 ∨ (i = 59 ∧ k = 5)) M R.2 := by
  intro n
  induction n with
  | zero => intro x1 x2 x3 x4 x5 M R h; cases h
  | succ n ih => intro x1 x2 x3 x4 x5 M R h; exact fr_X7_bridge_b44 ih h
theorem fr_X7_bridge {x1 : Int32} {x2 : Int32} {M : Mem} {R : Int32 × Mem} (h : f_X7_bridge x1 x2 M = some R) : Fr (fun i k => i = 60 ∨ i = 62 ∨ i = 63 ∨ (i = 59 ∧ k = 5)) M R.2 := by
  have F : Fr (fun i k => i = 60 ∨ i = 62 ∨ i = 63 ∨ (i = 59 ∧ k = 5)) M M := Fr.rf
  unfold f_X7_bridge at h
  obtain ⟨r_1, hr_1, h⟩ := bnd h
  clear hr_1
  rcases ite_or h with h | h
  · obtain ⟨r_2, hr_2, h⟩ := bnd h
    replace F := F.trans ((fr_X7_finds hr_2).mono (fun i k h => by omega))
    rw [← Option.some.inj h]; exact F
  · obtain ⟨r_3, hr_3, h⟩ := bnd h
    clear hr_3
    rcases ite_or h with h | h
    · obtain ⟨r_6, hr_6, h⟩ := bnd h
      replace F := F.trans ((fr_X7_finds hr_6).mono (fun i k h => by omega))
      rw [← Option.some.inj h]; exact F
    · obtain ⟨r_4, hr_4, h⟩ := bnd h
      clear hr_4
      rcases ite_or h with h | h
      · exact F.trans (fr_X7_bridge_l44 _ _ _ _ _ _ _ _ h)
      · obtain ⟨r_5, hr_5, h⟩ := bnd h
        replace F := F.trans ((fr_X7_finds hr_5).mono (fun i k h => by omega))
        rw [← Option.some.inj h]; exact F
theorem fr_X7_findSaid_j67 {k31 : Int32 → Int32 → Int32 → Int32 → Mem → Option (Mem)} (hk31 : ∀ (x1 : Int32) (x2 : Int32) (x3 : Int32) (x4 : Int32) (M : Mem) (R : Mem), k31 x1 x2 x3 x4 M = some R → Fr (fun i k => (i = 59 ∧ k = 10) ∨ (i = 59 ∧ k = 6) ∨ (i = 59 ∧ k = 7) ∨ (i = 59 ∧ k = 8) ∨ (i = 59 ∧ k = 9)) M R) {x1 : Int32} {x2 : Int32} {x3 : Int32} {x4 : Int32} {t1 : Int32} {M : Mem} {R : Mem} (h : f_X7_findSaid_j67 k31 x1 x2 x3 x4 t1 M = some R) : Fr (fun i k => (i = 59 ∧ k = 10) ∨ (i = 59 ∧ k = 6) ∨ (i = 59 ∧ k = 7) ∨ (i = 59 ∧ k = 8) ∨ (i = 59 ∧ k = 9)) M R := by
  have F : Fr (fun i k => (i = 59 ∧ k = 10) ∨ (i = 59 ∧ k = 6) ∨ (i = 59 ∧ k = 7) ∨ (i = 59 ∧ k = 8) ∨ (i = 59 ∧ k = 9)) M M := Fr.rf
  unfold f_X7_findSaid_j67 at h
  obtain ⟨M_7, hM_7, h⟩ := letv_ex h
  replace F := F.put hM_7 (by omega)
  obtain ⟨M_8, hM_8, h⟩ := letv_ex h
  replace F := F.put hM_8 (by omega)
  obtain ⟨M_9, hM_9, h⟩ := letv_ex h
  replace F := F.put hM_9 (by omega)
  obtain ⟨M_10, hM_10, h⟩ := letv_ex h
  replace F := F.put hM_10 (by omega)
  obtain ⟨r_11, hr_11, h⟩ := bnd h
  clear hr_11
  rcases ite_or h with h | h
  · obtain ⟨M_12, hM_12, h⟩ := letv_ex h
    replace F := F.put hM_12 (by omega)
    exact F.trans (hk31 _ _ _ _ _ _ h)
  · obtain ⟨M_13, hM_13, h⟩ := letv_ex h
    replace F := F.put hM_13 (by omega)
    exact F.trans (hk31 _ _ _ _ _ _ h)
theorem fr_X7_findSaid_b31 {k31 : Int32 → Int32 → Int32 → Int32 → Mem → Option (Mem)} (hk31 : ∀ (x1 : Int32) (x2 : Int32) (x3 : Int32) (x4 : Int32) (M : Mem) (R : Mem), k31 x1 x2 x3 x4 M = some R → Fr (fun i k => (i = 59 ∧ k = 10) ∨ (i = 59 ∧ k = 6) ∨ (i = 59 ∧ k = 7) ∨ (i = 59 ∧ k = 8) ∨ (i = 59 ∧ k = 9)) M R) {x1 : Int32} {x2 : Int32} {x3 : Int32} {x4 : Int32} {M : Mem} {R : Mem} (h : f_X7_findSaid_b31 k31 x1 x2 x3 x4 M = some R) : Fr (fun i k => (i = 59 ∧ k = 10) ∨ (i = 59 ∧ k = 6) ∨ (i = 59 ∧ k = 7) ∨ (i = 59 ∧ k = 8) ∨ (i = 59 ∧ k = 9)) M R := by
  have F : Fr (fun i k => (i = 59 ∧ k = 10) ∨ (i = 59 ∧ k = 6) ∨ (i = 59 ∧ k = 7) ∨ (i = 59 ∧ k = 8) ∨ (i = 59 ∧ k = 9)) M M := Fr.rf
  unfold f_X7_findSaid_b31 at h
  rcases ite_or h with h | h
  · rw [← Option.some.inj h]; exact F
  · obtain ⟨r_6, hr_6, h⟩ := bnd h
    clear hr_6
    rcases ite_or h with h | h
    · rcases ite_or h with h | h
      · exact F.trans (fr_X7_findSaid_j67 hk31 h)
      · exact F.trans (fr_X7_findSaid_j67 hk31 h)
    · exact F.trans (hk31 _ _ _ _ _ _ h)
theorem fr_X7_findSaid_l31 : ∀ (n : Nat) (x1 : Int32) (x2 : Int32) (x3 : Int32) (x4 : Int32) (M : Mem) (R : Mem), f_X7_findSaid_l31 n x1 x2 x3 x4 M = some R → Fr (fun i k => (i = 59 ∧ k = 10) ∨ (i = 59 ∧ k = 6) ∨ (i = 59 ∧ k = 7) ∨ (i = 59 ∧ k = 8) ∨ (i = 59 ∧ k = 9)) M R := by
  intro n
  induction n with
  | zero => intro x1 x2 x3 x4 M R h; cases h
  | succ n ih => intro x1 x2 x3 x4 M R h; exact fr_X7_findSaid_b31 ih h
theorem fr_X7_findSaid {x1 : Int32} {x2 : Int32} {x3 : Int32} {M : Mem} {R : Mem} (h : f_X7_findSaid x1 x2 x3 M = some R) : Fr (fun i k => (i = 59 ∧ k = 10) ∨ (i = 59 ∧ k = 6) ∨ (i = 59 ∧ k = 7) ∨ (i = 59 ∧ k = 8) ∨ (i = 59 ∧ k = 9)) M R := by
  have F : Fr (fun i k => (i = 59 ∧ k = 10) ∨ (i = 59 ∧ k = 6) ∨ (i = 59 ∧ k = 7) ∨ (i = 59 ∧ k = 8) ∨ (i = 59 ∧ k = 9)) M M := Fr.rf
  unfold f_X7_findSaid at h
  obtain ⟨M_1, hM_1, h⟩ := letv_ex h
  replace F := F.put hM_1 (by omega)
  obtain ⟨M_2, hM_2, h⟩ := letv_ex h
  replace F := F.put hM_2 (by omega)
  obtain ⟨M_3, hM_3, h⟩ := letv_ex h
  replace F := F.put hM_3 (by omega)
  obtain ⟨M_4, hM_4, h⟩ := letv_ex h
  replace F := F.put hM_4 (by omega)
  obtain ⟨M_5, hM_5, h⟩ := letv_ex h
  replace F := F.put hM_5 (by omega)
  exact F.trans (fr_X7_findSaid_l31 _ _ _ _ _ _ _ h)
theorem fr_X7_many {x1 : Int32} {x2 : Int32} {M : Mem} {R : Int32 × Mem} (h : f_X7_many x1 x2 M = some R) : Fr (fun i k => i = 63 ∨ (i = 59 ∧ k = 10) ∨ (i = 59 ∧ k = 6) ∨ (i = 59 ∧ k = 7) ∨ (i = 59 ∧ k = 8) ∨ (i = 59 ∧ k = 9)) M R.2 := by
  have F : Fr (fun i k => i = 63 ∨ (i = 59 ∧ k = 10) ∨ (i = 59 ∧ k = 6) ∨ (i = 59 ∧ k = 7) ∨ (i = 59 ∧ k = 8) ∨ (i = 59 ∧ k = 9)) M M := Fr.rf
  unfold f_X7_many at h
  obtain ⟨r_1, hr_1, h⟩ := bnd h
  clear hr_1
  rcases ite_or h with h | h
  · obtain ⟨r_2, hr_2, h⟩ := bnd h
    replace F := F.trans ((fr_X7_finds hr_2).mono (fun i k h => by omega))
    rw [← Option.some.inj h]; exact F
  · obtain ⟨r_3, hr_3, h⟩ := bnd h
    clear hr_3
    rcases ite_or h with h | h
    · obtain ⟨r_5, hr_5, h⟩ := bnd h
      replace F := F.trans ((fr_X7_finds hr_5).mono (fun i k h => by omega))
      rw [← Option.some.inj h]; exact F
    · obtain ⟨r_4, hr_4, h⟩ := bnd h
      replace F := F.trans ((fr_X7_findSaid hr_4).mono (fun i k h => by omega))
      rw [← Option.some.inj h]; exact F
theorem fr_X7_said {x1 : Int32} {x2 : Int32} {x3 : Int32} {M : Mem} {R : Int32 × Mem} (h : f_X7_said x1 x2 x3 M = some R) : Fr (fun i k => i = 63 ∨ (i = 59 ∧ k = 10) ∨ (i = 59 ∧ k = 6) ∨ (i = 59 ∧ k = 7) ∨ (i = 59 ∧ k = 8) ∨ (i = 59 ∧ k = 9)) M R.2 := by
  have F : Fr (fun i k => i = 63 ∨ (i = 59 ∧ k = 10) ∨ (i = 59 ∧ k = 6) ∨ (i = 59 ∧ k = 7) ∨ (i = 59 ∧ k = 8) ∨ (i = 59 ∧ k = 9)) M M := Fr.rf
  unfold f_X7_said at h
  obtain ⟨r_1, hr_1, h⟩ := bnd h
  clear hr_1
  rcases ite_or h with h | h
  · obtain ⟨r_2, hr_2, h⟩ := bnd h
    replace F := F.trans ((fr_X7_finds hr_2).mono (fun i k h => by omega))
    rw [← Option.some.inj h]; exact F
  · obtain ⟨r_3, hr_3, h⟩ := bnd h
    clear hr_3
    rcases ite_or h with h | h
    · obtain ⟨r_4, hr_4, h⟩ := bnd h
      replace F := F.trans ((fr_X7_finds hr_4).mono (fun i k h => by omega))
      rw [← Option.some.inj h]; exact F
    · obtain ⟨r_5, hr_5, h⟩ := bnd h
      clear hr_5
      rcases ite_or h with h | h
      · obtain ⟨r_8, hr_8, h⟩ := bnd h
        replace F := F.trans ((fr_X7_finds hr_8).mono (fun i k h => by omega))
        rw [← Option.some.inj h]; exact F
      · obtain ⟨r_6, hr_6, h⟩ := bnd h
        replace F := F.trans ((fr_X7_findSaid hr_6).mono (fun i k h => by omega))
        rcases ite_or h with h | h
        · obtain ⟨r_7, hr_7, h⟩ := bnd h
          replace F := F.trans ((fr_X7_finds hr_7).mono (fun i k h => by omega))
          rw [← Option.some.inj h]; exact F
        · rcases ite_or h with h | h
          · rw [← Option.some.inj h]; exact F
          · rcases ite_or h with h | h
            · rw [← Option.some.inj h]; exact F
            · rw [← Option.some.inj h]; exact F
theorem fr_X7_hands_b18 {k18 : Int32 → Int32 → Int32 → Mem → Option (Int32 × Mem)} (hk18 : ∀ (x1 : Int32) (x2 : Int32) (x3 : Int32) (M : Mem) (R : Int32 × Mem), k18 x1 x2 x3 M = some R → Fr (fun i k => i = 63 ∨ (i = 59 ∧ k = 10) ∨ (i = 59 ∧ k = 6) ∨ (i = 59 ∧ k = 7) ∨ (i = 59 ∧ k = 8) ∨ (i = 59 ∧ k = 9)) M R.2) {x1 : Int32} {x2 : Int32} {x3 : Int32} {M : Mem} {R : Int32 × Mem} (h : f_X7_hands_b18 k18 x1 x2 x3 M = some R) : Fr (fun i k => i = 63 ∨ (i = 59 ∧ k = 10) ∨ (i = 59 ∧ k = 6) ∨ (i = 59 ∧ k = 7) ∨ (i = 59 ∧ k = 8) ∨ (i = 59 ∧ k = 9)) M R.2 := by
  have F : Fr (fun i k => i = 63 ∨ (i = 59 ∧ k = 10) ∨ (i = 59 ∧ k = 6) ∨ (i = 59 ∧ k = 7) ∨ (i = 59 ∧ k = 8) ∨ (i = 59 ∧ k = 9)) M M := Fr.rf
  unfold f_X7_hands_b18 at h
  obtain ⟨_, h⟩ := ck_some h
  rcases ite_or h with h | h
  · rw [← Option.some.inj h]; exact F
  · obtain ⟨r_4, hr_4, h⟩ := bnd h
    replace F := F.trans ((fr_X7_findSaid hr_4).mono (fun i k h => by omega))
    rcases ite_or h with h | h
    · obtain ⟨x2_5, _, h⟩ := letv_ex h
      exact F.trans (hk18 _ _ _ _ _ h)
    · obtain ⟨x2_6, _, h⟩ := letv_ex h
      exact F.trans (hk18 _ _ _ _ _ h)
theorem fr_X7_hands_l18 : ∀ (n : Nat) (x1 : Int32) (x2 : Int32) (x3 : Int32) (M : Mem) (R : Int32 × Mem), f_X7_hands_l18 n x1 x2 x3 M = some R → Fr (fun i k => i = 63 ∨ (i = 59 ∧ k = 10) ∨ (i = 59 ∧ k = 6) ∨ (i = 59 ∧ k = 7) ∨ (i = 59 ∧ k = 8) ∨ (i = 59 ∧ k = 9)) M R.2 := by
  intro n
  induction n with
  | zero => intro x1 x2 x3 M R h; cases h
  | succ n ih => intro x1 x2 x3 M R h; exact fr_X7_hands_b18 ih h
theorem fr_X7_hands {x1 : Int32} {M : Mem} {R : Int32 × Mem} (h : f_X7_hands x1 M = some R) : Fr (fun i k => i = 63 ∨ (i = 59 ∧ k = 10) ∨ (i = 59 ∧ k = 6) ∨ (i = 59 ∧ k = 7) ∨ (i = 59 ∧ k = 8) ∨ (i = 59 ∧ k = 9)) M R.2 := by
  have F : Fr (fun i k => i = 63 ∨ (i = 59 ∧ k = 10) ∨ (i = 59 ∧ k = 6) ∨ (i = 59 ∧ k = 7) ∨ (i = 59 ∧ k = 8) ∨ (i = 59 ∧ k = 9)) M M := Fr.rf
  unfold f_X7_hands at h
  obtain ⟨r_1, hr_1, h⟩ := bnd h
  clear hr_1
  rcases ite_or h with h | h
  · obtain ⟨r_2, hr_2, h⟩ := bnd h
    replace F := F.trans ((fr_X7_finds hr_2).mono (fun i k h => by omega))
    rw [← Option.some.inj h]; exact F
  · exact F.trans (fr_X7_hands_l18 _ _ _ _ _ _ h)
theorem fr_X7_likeliest_j54 {k21 : Int32 → Int32 → Int32 → Int32 → Mem → Option (Int32 × Mem)} (hk21 : ∀ (x1 : Int32) (x2 : Int32) (x3 : Int32) (x4 : Int32) (M : Mem) (R : Int32 × Mem), k21 x1 x2 x3 x4 M = some R → Fr (fun i k => i = 63 ∨ (i = 59 ∧ k = 10) ∨ (i = 59 ∧ k = 6) ∨ (i = 59 ∧ k = 7) ∨ (i = 59 ∧ k = 8) ∨ (i = 59 ∧ k = 9)) M R.2) {x1 : Int32} {x3 : Int32} {x4 : Int32} {t0 : Int32} {M : Mem} {R : Int32 × Mem} (h : f_X7_likeliest_j54 k21 x1 x3 x4 t0 M = some R) : Fr (fun i k => i = 63 ∨ (i = 59 ∧ k = 10) ∨ (i = 59 ∧ k = 6) ∨ (i = 59 ∧ k = 7) ∨ (i = 59 ∧ k = 8) ∨ (i = 59 ∧ k = 9)) M R.2 := by
  have F : Fr (fun i k => i = 63 ∨ (i = 59 ∧ k = 10) ∨ (i = 59 ∧ k = 6) ∨ (i = 59 ∧ k = 7) ∨ (i = 59 ∧ k = 8) ∨ (i = 59 ∧ k = 9)) M M := Fr.rf
  unfold f_X7_likeliest_j54 at h
  rcases ite_or h with h | h
  · exact F.trans (hk21 _ _ _ _ _ _ h)
  · obtain ⟨x3_6, _, h⟩ := letv_ex h
    exact F.trans (hk21 _ _ _ _ _ _ h)
theorem fr_X7_likeliest_b21 {k21 : Int32 → Int32 → Int32 → Int32 → Mem → Option (Int32 × Mem)} (hk21 : ∀ (x1 : Int32) (x2 : Int32) (x3 : Int32) (x4 : Int32) (M : Mem) (R : Int32 × Mem), k21 x1 x2 x3 x4 M = some R → Fr (fun i k => i = 63 ∨ (i = 59 ∧ k = 10) ∨ (i = 59 ∧ k = 6) ∨ (i = 59 ∧ k = 7) ∨ (i = 59 ∧ k = 8) ∨ (i = 59 ∧ k = 9)) M R.2) {x1 : Int32} {x2 : Int32} {x3 : Int32} {x4 : Int32} {M : Mem} {R : Int32 × Mem} (h : f_X7_likeliest_b21 k21 x1 x2 x3 x4 M = some R) : Fr (fun i k => i = 63 ∨ (i = 59 ∧ k = 10) ∨ (i = 59 ∧ k = 6) ∨ (i = 59 ∧ k = 7) ∨ (i = 59 ∧ k = 8) ∨ (i = 59 ∧ k = 9)) M R.2 := by
  have F : Fr (fun i k => i = 63 ∨ (i = 59 ∧ k = 10) ∨ (i = 59 ∧ k = 6) ∨ (i = 59 ∧ k = 7) ∨ (i = 59 ∧ k = 8) ∨ (i = 59 ∧ k = 9)) M M := Fr.rf
  unfold f_X7_likeliest_b21 at h
  obtain ⟨_, h⟩ := ck_some h
  rcases ite_or h with h | h
  · rcases ite_or h with h | h
    · rw [← Option.some.inj h]; exact F
    · obtain ⟨r_4, hr_4, h⟩ := bnd h
      replace F := F.trans ((fr_X7_finds hr_4).mono (fun i k h => by omega))
      rw [← Option.some.inj h]; exact F
  · obtain ⟨r_5, hr_5, h⟩ := bnd h
    replace F := F.trans ((fr_X7_findSaid hr_5).mono (fun i k h => by omega))
    rcases ite_or h with h | h
    · exact F.trans (fr_X7_likeliest_j54 hk21 h)
    · exact F.trans (fr_X7_likeliest_j54 hk21 h)
theorem fr_X7_likeliest_l21 : ∀ (n : Nat) (x1 : Int32) (x2 : Int32) (x3 : Int32) (x4 : Int32) (M : Mem) (R : Int32 × Mem), f_X7_likeliest_l21 n x1 x2 x3 x4 M = some R → Fr (fun i k => i = 63 ∨ (i = 59 ∧ k = 10) ∨ (i = 59 ∧ k = 6) ∨ (i = 59 ∧ k = 7) ∨ (i = 59 ∧ k = 8) ∨ (i = 59 ∧ k = 9)) M R.2 := by
  intro n
  induction n with
  | zero => intro x1 x2 x3 x4 M R h; cases h
  | succ n ih => intro x1 x2 x3 x4 M R h; exact fr_X7_likeliest_b21 ih h
theorem fr_X7_likeliest {x1 : Int32} {M : Mem} {R : Int32 × Mem} (h : f_X7_likeliest x1 M = some R) : Fr (fun i k => i = 63 ∨ (i = 59 ∧ k = 10) ∨ (i = 59 ∧ k = 6) ∨ (i = 59 ∧ k = 7) ∨ (i = 59 ∧ k = 8) ∨ (i = 59 ∧ k = 9)) M R.2 := by
  have F : Fr (fun i k => i = 63 ∨ (i = 59 ∧ k = 10) ∨ (i = 59 ∧ k = 6) ∨ (i = 59 ∧ k = 7) ∨ (i = 59 ∧ k = 8) ∨ (i = 59 ∧ k = 9)) M M := Fr.rf
  unfold f_X7_likeliest at h
  obtain ⟨r_1, hr_1, h⟩ := bnd h
  clear hr_1
  rcases ite_or h with h | h
  · obtain ⟨r_2, hr_2, h⟩ := bnd h
    replace F := F.trans ((fr_X7_finds hr_2).mono (fun i k h => by omega))
    rw [← Option.some.inj h]; exact F
  · exact F.trans (fr_X7_likeliest_l21 _ _ _ _ _ _ _ h)
theorem fr_X7_near {x1 : Int32} {x2 : Int32} {x3 : Int32} {M : Mem} {R : Int32 × Mem} (h : f_X7_near x1 x2 x3 M = some R) : Fr (fun i k => i = 63 ∨ (i = 59 ∧ k = 10) ∨ (i = 59 ∧ k = 6) ∨ (i = 59 ∧ k = 7) ∨ (i = 59 ∧ k = 8) ∨ (i = 59 ∧ k = 9)) M R.2 := by
  have F : Fr (fun i k => i = 63 ∨ (i = 59 ∧ k = 10) ∨ (i = 59 ∧ k = 6) ∨ (i = 59 ∧ k = 7) ∨ (i = 59 ∧ k = 8) ∨ (i = 59 ∧ k = 9)) M M := Fr.rf
  unfold f_X7_near at h
  obtain ⟨r_1, hr_1, h⟩ := bnd h
  clear hr_1
  rcases ite_or h with h | h
  · obtain ⟨r_2, hr_2, h⟩ := bnd h
    replace F := F.trans ((fr_X7_finds hr_2).mono (fun i k h => by omega))
    rw [← Option.some.inj h]; exact F
  · obtain ⟨r_3, hr_3, h⟩ := bnd h
    clear hr_3
    rcases ite_or h with h | h
    · obtain ⟨r_4, hr_4, h⟩ := bnd h
      replace F := F.trans ((fr_X7_finds hr_4).mono (fun i k h => by omega))
      rw [← Option.some.inj h]; exact F
    · obtain ⟨r_5, hr_5, h⟩ := bnd h
      clear hr_5
      rcases ite_or h with h | h
      · obtain ⟨r_8, hr_8, h⟩ := bnd h
        replace F := F.trans ((fr_X7_finds hr_8).mono (fun i k h => by omega))
        rw [← Option.some.inj h]; exact F
      · obtain ⟨r_6, hr_6, h⟩ := bnd h
        replace F := F.trans ((fr_X7_findSaid hr_6).mono (fun i k h => by omega))
        rcases ite_or h with h | h
        · obtain ⟨r_7, hr_7, h⟩ := bnd h
          replace F := F.trans ((fr_X7_finds hr_7).mono (fun i k h => by omega))
          rw [← Option.some.inj h]; exact F
        · rw [← Option.some.inj h]; exact F
theorem fr_X7_honest_b19 {k19 : Int32 → Int32 → Int32 → Mem → Option (Int32 × Mem)} (hk19 : ∀ (x1 : Int32) (x2 : Int32) (x3 : Int32) (M : Mem) (R : Int32 × Mem), k19 x1 x2 x3 M = some R → Fr (fun i k => i = 63) M R.2) {x1 : Int32} {x2 : Int32} {x3 : Int32} {M : Mem} {R : Int32 × Mem} (h : f_X7_honest_b19 k19 x1 x2 x3 M = some R) : Fr (fun i k => i = 63) M R.2 := by
  have F : Fr (fun i k => i = 63) M M := Fr.rf
  unfold f_X7_honest_b19 at h
  rcases ite_or h with h | h
  · rw [← Option.some.inj h]; exact F
  · obtain ⟨r_3, hr_3, h⟩ := bnd h
    clear hr_3
    rcases ite_or h with h | h
    · obtain ⟨x2_5, _, h⟩ := letv_ex h
      exact F.trans (hk19 _ _ _ _ _ h)
    · obtain ⟨x2_4, _, h⟩ := letv_ex h
      exact F.trans (hk19 _ _ _ _ _ h)
theorem fr_X7_honest_l19 : ∀ (n : Nat) (x1 : Int32) (x2 : Int32) (x3 : Int32) (M : Mem) (R : Int32 × Mem), f_X7_honest_l19 n x1 x2 x3 M = some R → Fr (fun i k => i = 63) M R.2 := by
  intro n
  induction n with
  | zero => intro x1 x2 x3 M R h; cases h
  | succ n ih => intro x1 x2 x3 M R h; exact fr_X7_honest_b19 ih h
theorem fr_X7_honest {x1 : Int32} {M : Mem} {R : Int32 × Mem} (h : f_X7_honest x1 M = some R) : Fr (fun i k => i = 63) M R.2 := by
  have F : Fr (fun i k => i = 63) M M := Fr.rf
  unfold f_X7_honest at h
  obtain ⟨r_1, hr_1, h⟩ := bnd h
  clear hr_1
  rcases ite_or h with h | h
  · obtain ⟨r_2, hr_2, h⟩ := bnd h
    replace F := F.trans ((fr_X7_finds hr_2).mono (fun i k h => by omega))
    rw [← Option.some.inj h]; exact F
  · exact F.trans (fr_X7_honest_l19 _ _ _ _ _ _ h)
theorem fr_X7_round_b31 {k31 : Int32 → Int32 → Int32 → Mem → Option (Int32 × Mem)} (hk31 : ∀ (x2 : Int32) (x3 : Int32) (x4 : Int32) (M : Mem) (R : Int32 × Mem), k31 x2 x3 x4 M = some R → Fr (fun i k => i = 63) M R.2) {x2 : Int32} {x3 : Int32} {x4 : Int32} {M : Mem} {R : Int32 × Mem} (h : f_X7_round_b31 k31 x2 x3 x4 M = some R) : Fr (fun i k => i = 63) M R.2 := by
  have F : Fr (fun i k => i = 63) M M := Fr.rf
  unfold f_X7_round_b31 at h
  rcases ite_or h with h | h
  · rw [← Option.some.inj h]; exact F
  · obtain ⟨r_5, hr_5, h⟩ := bnd h
    clear hr_5
    exact F.trans (hk31 _ _ _ _ _ h)
theorem fr_X7_round_l31 : ∀ (n : Nat) (x2 : Int32) (x3 : Int32) (x4 : Int32) (M : Mem) (R : Int32 × Mem), f_X7_round_l31 n x2 x3 x4 M = some R → Fr (fun i k => i = 63) M R.2 := by
  intro n
  induction n with
  | zero => intro x2 x3 x4 M R h; cases h
  | succ n ih => intro x2 x3 x4 M R h; exact fr_X7_round_b31 ih h
theorem fr_X7_round {x1 : Int32} {x2 : Int32} {M : Mem} {R : Int32 × Mem} (h : f_X7_round x1 x2 M = some R) : Fr (fun i k => i = 63) M R.2 := by
  have F : Fr (fun i k => i = 63) M M := Fr.rf
  unfold f_X7_round at h
  obtain ⟨r_1, hr_1, h⟩ := bnd h
  clear hr_1
  rcases ite_or h with h | h
  · obtain ⟨r_2, hr_2, h⟩ := bnd h
    replace F := F.trans ((fr_X7_finds hr_2).mono (fun i k h => by omega))
    rw [← Option.some.inj h]; exact F
  · obtain ⟨r_3, hr_3, h⟩ := bnd h
    clear hr_3
    rcases ite_or h with h | h
    · obtain ⟨r_4, hr_4, h⟩ := bnd h
      replace F := F.trans ((fr_X7_finds hr_4).mono (fun i k h => by omega))
      rw [← Option.some.inj h]; exact F
    · exact F.trans (fr_X7_round_l31 _ _ _ _ _ _ h)
theorem fr_X7_settles_b49 {k23 : Int32 → Mem → Option (Int32 × Mem)} {k49 : Int32 → Int32 → Mem → Option (Int32 × Mem)} (hk23 : ∀ (x2 : Int32) (M : Mem) (R : Int32 × Mem), k23 x2 M = some R → Fr (fun i k => i = 63 ∨ i = 64) M R.2) (hk49 : ∀ (x2 : Int32) (x3 : Int32) (M : Mem) (R : Int32 × Mem), k49 x2 x3 M = some R → Fr (fun i k => i = 63 ∨ i = 64) M R.2) {x2 : Int32} {x3 : Int32} {M : Mem} {R : Int32 × Mem} (h : f_X7_settles_b49 k23 k49 x2 x3 M = some R) : Fr (fun i k => i = 63 ∨ i = 64) M R.2 := by
  have F : Fr (fun i k => i = 63 ∨ i = 64) M M := Fr.rf
  unfold f_X7_settles_b49 at h
  rcases ite_or h with h | h
  · exact F.trans (hk23 _ _ _ h)
  · obtain ⟨_, h⟩ := ck_some h
    obtain ⟨_, h⟩ := ck_some h
    rcases ite_or h with h | h
    · rw [← Option.some.inj h]; exact F
    · exact F.trans (hk49 _ _ _ _ h)
theorem fr_X7_settles_l49 {k23 : Int32 → Mem → Option (Int32 × Mem)} (hk23 : ∀ (x2 : Int32) (M : Mem) (R : Int32 × Mem), k23 x2 M = some R → Fr (fun i k => i = 63 ∨ i = 64) M R.2) : ∀ (n : Nat) (x2 : Int32) (x3 : Int32) (M : Mem) (R : Int32 × Mem), f_X7_settles_l49 k23 n x2 x3 M = some R → Fr (fun i k => i = 63 ∨ i = 64) M R.2 := by
  intro n
  induction n with
  | zero => intro x2 x3 M R h; cases h
  | succ n ih => intro x2 x3 M R h; exact fr_X7_settles_b49 hk23 ih h
theorem fr_X7_settles_b23 {k23 : Int32 → Mem → Option (Int32 × Mem)} (hk23 : ∀ (x2 : Int32) (M : Mem) (R : Int32 × Mem), k23 x2 M = some R → Fr (fun i k => i = 63 ∨ i = 64) M R.2) {x2 : Int32} {M : Mem} {R : Int32 × Mem} (h : f_X7_settles_b23 k23 x2 M = some R) : Fr (fun i k => i = 63 ∨ i = 64) M R.2 := by
  have F : Fr (fun i k => i = 63 ∨ i = 64) M M := Fr.rf
  unfold f_X7_settles_b23 at h
  rcases ite_or h with h | h
  · obtain ⟨r_5, hr_5, h⟩ := bnd h
    replace F := F.trans ((fr_X7_finds hr_5).mono (fun i k h => by omega))
    rw [← Option.some.inj h]; exact F
  · obtain ⟨_, h⟩ := ck_some h
    obtain ⟨r_7, hr_7, h⟩ := bnd h
    clear hr_7
    obtain ⟨_, h⟩ := ck_some h
    obtain ⟨M_9, hM_9, h⟩ := letv_ex h
    replace F := F.put hM_9 (by omega)
    exact F.trans (fr_X7_settles_l49 hk23 _ _ _ _ _ h)
theorem fr_X7_settles_l23 : ∀ (n : Nat) (x2 : Int32) (M : Mem) (R : Int32 × Mem), f_X7_settles_l23 n x2 M = some R → Fr (fun i k => i = 63 ∨ i = 64) M R.2 := by
  intro n
  induction n with
  | zero => intro x2 M R h; cases h
  | succ n ih => intro x2 M R h; exact fr_X7_settles_b23 ih h
theorem fr_X7_settles {x1 : Int32} {M : Mem} {R : Int32 × Mem} (h : f_X7_settles x1 M = some R) : Fr (fun i k => i = 63 ∨ i = 64) M R.2 := by
  have F : Fr (fun i k => i = 63 ∨ i = 64) M M := Fr.rf
  unfold f_X7_settles at h
  obtain ⟨r_1, hr_1, h⟩ := bnd h
  clear hr_1
  rcases ite_or h with h | h
  · obtain ⟨r_4, hr_4, h⟩ := bnd h
    replace F := F.trans ((fr_X7_finds hr_4).mono (fun i k h => by omega))
    rw [← Option.some.inj h]; exact F
  · obtain ⟨_, h⟩ := ck_some h
    obtain ⟨M_3, hM_3, h⟩ := letv_ex h
    replace F := F.put hM_3 (by omega)
    exact F.trans (fr_X7_settles_l23 _ _ _ _ h)
theorem fr_X7_court {x1 : Int32} {x2 : Int32} {x3 : Int32} {M : Mem} {R : Int32 × Mem} (h : f_X7_court x1 x2 x3 M = some R) : Fr (fun i k => i = 63) M R.2 := by
  have F : Fr (fun i k => i = 63) M M := Fr.rf
  unfold f_X7_court at h
  obtain ⟨r_1, hr_1, h⟩ := bnd h
  clear hr_1
  rcases ite_or h with h | h
  · obtain ⟨r_2, hr_2, h⟩ := bnd h
    replace F := F.trans ((fr_X7_finds hr_2).mono (fun i k h => by omega))
    rw [← Option.some.inj h]; exact F
  · obtain ⟨r_3, hr_3, h⟩ := bnd h
    clear hr_3
    rcases ite_or h with h | h
    · obtain ⟨r_4, hr_4, h⟩ := bnd h
      replace F := F.trans ((fr_X7_finds hr_4).mono (fun i k h => by omega))
      rw [← Option.some.inj h]; exact F
    · obtain ⟨r_5, hr_5, h⟩ := bnd h
      clear hr_5
      rcases ite_or h with h | h
      · obtain ⟨r_10, hr_10, h⟩ := bnd h
        replace F := F.trans ((fr_X7_finds hr_10).mono (fun i k h => by omega))
        rw [← Option.some.inj h]; exact F
      · obtain ⟨r_6, hr_6, h⟩ := bnd h
        clear hr_6
        obtain ⟨r_7, hr_7, h⟩ := bnd h
        clear hr_7
        obtain ⟨r_8, hr_8, h⟩ := bnd h
        clear hr_8
        obtain ⟨r_9, hr_9, h⟩ := bnd h
        clear hr_9
        rw [← Option.some.inj h]; exact F
theorem fr_X7_witness_j95 {k24 : Int32 → Int32 → Int32 → Int32 → Mem → Option (Int32 × Mem)} (hk24 : ∀ (x1 : Int32) (x2 : Int32) (x3 : Int32) (x4 : Int32) (M : Mem) (R : Int32 × Mem), k24 x1 x2 x3 x4 M = some R → Fr (fun i k => i = 63) M R.2) {x1 : Int32} {x3 : Int32} {x4 : Int32} {x5 : Int32} {t0 : Int32} {M : Mem} {R : Int32 × Mem} (h : f_X7_witness_j95 k24 x1 x3 x4 x5 t0 M = some R) : Fr (fun i k => i = 63) M R.2 := by
  have F : Fr (fun i k => i = 63) M M := Fr.rf
  unfold f_X7_witness_j95 at h
  rcases ite_or h with h | h
  · exact F.trans (hk24 _ _ _ _ _ _ h)
  · exact F.trans (hk24 _ _ _ _ _ _ h)
theorem fr_X7_witness_b41 {k24 : Int32 → Int32 → Int32 → Int32 → Mem → Option (Int32 × Mem)} {k41 : Int32 → Int32 → Int32 → Int32 → Int32 → Int32 → Mem → Option (Int32 × Mem)} (hk24 : ∀ (x1 : Int32) (x2 : Int32) (x3 : Int32) (x4 : Int32) (M : Mem) (R : Int32 × Mem), k24 x1 x2 x3 x4 M = some R → Fr (fun i k => i = 63) M R.2) (hk41 : ∀ (x1 : Int32) (x2 : Int32) (x3 : Int32) (x4 : Int32) (x5 : Int32) (x6 : Int32) (M : Mem) (R : Int32 × Mem), k41 x1 x2 x3 x4 x5 x6 M = some R → Fr (fun i k => i = 63) M R.2) {x1 : Int32} {x2 : Int32} {x3 : Int32} {x4 : Int32} {x5 : Int32} {x6 : Int32} {M : Mem} {R : Int32 × Mem} (h : f_X7_witness_b41 k24 k41 x1 x2 x3 x4 x5 x6 M = some R) : Fr (fun i k => i = 63) M R.2 := by
  have F : Fr (fun i k => i = 63) M M := Fr.rf
  unfold f_X7_witness_b41 at h
  rcases ite_or h with h | h
  · rcases ite_or h with h | h
    · exact F.trans (fr_X7_witness_j95 hk24 h)
    · exact F.trans (fr_X7_witness_j95 hk24 h)
  · obtain ⟨r_4, hr_4, h⟩ := bnd h
    clear hr_4
    obtain ⟨r_5, hr_5, h⟩ := bnd h
    clear hr_5
    rcases ite_or h with h | h
    · obtain ⟨x5_7, _, h⟩ := letv_ex h
      exact F.trans (hk41 _ _ _ _ _ _ _ _ h)
    · obtain ⟨x5_6, _, h⟩ := letv_ex h
      exact F.trans (hk41 _ _ _ _ _ _ _ _ h)
theorem fr_X7_witness_l41 {k24 : Int32 → Int32 → Int32 → Int32 → Mem → Option (Int32 × Mem)} (hk24 : ∀ (x1 : Int32) (x2 : Int32) (x3 : Int32) (x4 : Int32) (M : Mem) (R : Int32 × Mem), k24 x1 x2 x3 x4 M = some R → Fr (fun i k => i = 63) M R.2) : ∀ (n : Nat) (x1 : Int32) (x2 : Int32) (x3 : Int32) (x4 : Int32) (x5 : Int32) (x6 : Int32) (M : Mem) (R : Int32 × Mem), f_X7_witness_l41 k24 n x1 x2 x3 x4 x5 x6 M = some R → Fr (fun i k => i = 63) M R.2 := by
  intro n
  induction n with
  | zero => intro x1 x2 x3 x4 x5 x6 M R h; cases h
  | succ n ih => intro x1 x2 x3 x4 x5 x6 M R h; exact fr_X7_witness_b41 hk24 ih h
theorem fr_X7_witness_b24 {k24 : Int32 → Int32 → Int32 → Int32 → Mem → Option (Int32 × Mem)} (hk24 : ∀ (x1 : Int32) (x2 : Int32) (x3 : Int32) (x4 : Int32) (M : Mem) (R : Int32 × Mem), k24 x1 x2 x3 x4 M = some R → Fr (fun i k => i = 63) M R.2) {x1 : Int32} {x2 : Int32} {x3 : Int32} {x4 : Int32} {M : Mem} {R : Int32 × Mem} (h : f_X7_witness_b24 k24 x1 x2 x3 x4 M = some R) : Fr (fun i k => i = 63) M R.2 := by
  have F : Fr (fun i k => i = 63) M M := Fr.rf
  unfold f_X7_witness_b24 at h
  obtain ⟨_, h⟩ := ck_some h
  rcases ite_or h with h | h
  · rw [← Option.some.inj h]; exact F
  · exact F.trans (fr_X7_witness_l41 hk24 _ _ _ _ _ _ _ _ _ h)
theorem fr_X7_witness_l24 : ∀ (n : Nat) (x1 : Int32) (x2 : Int32) (x3 : Int32) (x4 : Int32) (M : Mem) (R : Int32 × Mem), f_X7_witness_l24 n x1 x2 x3 x4 M = some R → Fr (fun i k => i = 63) M R.2 := by
  intro n
  induction n with
  | zero => intro x1 x2 x3 x4 M R h; cases h
  | succ n ih => intro x1 x2 x3 x4 M R h; exact fr_X7_witness_b24 ih h
theorem fr_X7_witness {x1 : Int32} {M : Mem} {R : Int32 × Mem} (h : f_X7_witness x1 M = some R) : Fr (fun i k => i = 63) M R.2 := by
  have F : Fr (fun i k => i = 63) M M := Fr.rf
  unfold f_X7_witness at h
  obtain ⟨r_1, hr_1, h⟩ := bnd h
  clear hr_1
  rcases ite_or h with h | h
  · obtain ⟨r_2, hr_2, h⟩ := bnd h
    replace F := F.trans ((fr_X7_finds hr_2).mono (fun i k h => by omega))
    rw [← Option.some.inj h]; exact F
  · exact F.trans (fr_X7_witness_l24 _ _ _ _ _ _ _ h)
theorem fr_X7_price_j105 {k54 : Int32 → Int32 → Int32 → Int32 → Int32 → Mem → Option (Int32 × Mem)} (hk54 : ∀ (x1 : Int32) (x2 : Int32) (x3 : Int32) (x4 : Int32) (x5 : Int32) (M : Mem) (R : Int32 × Mem), k54 x1 x2 x3 x4 x5 M = some R → Fr (fun i k => i = 60 ∨ i = 62 ∨ i = 63 ∨ (i = 59 ∧ k = 5)) M R.2) {x1 : Int32} {x2 : Int32} {x4 : Int32} {x5 : Int32} {x7 : Int32} {t0 : Int32} {M : Mem} {R : Int32 × Mem} (h : f_X7_price_j105 k54 x1 x2 x4 x5 x7 t0 M = some R) : Fr (fun i k => i = 60 ∨ i = 62 ∨ i = 63 ∨ (i = 59 ∧ k = 5)) M R.2 := by
  have F : Fr (fun i k => i = 60 ∨ i = 62 ∨ i = 63 ∨ (i = 59 ∧ k = 5)) M M := Fr.rf
  unfold f_X7_price_j105 at h
  rcases ite_or h with h | h
  · exact F.trans (hk54 _ _ _ _ _ _ _ h)
  · exact F.trans (hk54 _ _ _ _ _ _ _ h)
theorem fr_X7_price_b54 {k54 : Int32 → Int32 → Int32 → Int32 → Int32 → Mem → Option (Int32 × Mem)} (hk54 : ∀ (x1 : Int32) (x2 : Int32) (x3 : Int32) (x4 : Int32) (x5 : Int32) (M : Mem) (R : Int32 × Mem), k54 x1 x2 x3 x4 x5 M = some R → Fr (fun i k => i = 60 ∨ i = 62 ∨ i = 63 ∨ (i = 59 ∧ k = 5)) M R.2) {x1 : Int32} {x2 : Int32} {x3 : Int32} {x4 : Int32} {x5 : Int32} {M : Mem} {R : Int32 × Mem} (h : f_X7_price_b54 k54 x1 x2 x3 x4 x5 M = some R) : Fr (fun i k => i = 60 ∨ i = 62 ∨ i = 63 ∨ (i = 59 ∧ k = 5)) M R.2 := by
  have F : Fr (fun i k => i = 60 ∨ i = 62 ∨ i = 63 ∨ (i = 59 ∧ k = 5)) M M := Fr.rf
  unfold f_X7_price_b54 at h
  rcases ite_or h with h | h
  · rw [← Option.some.inj h]; exact F
  · obtain ⟨r_8, hr_8, h⟩ := bnd h
    clear hr_8
    obtain ⟨_, h⟩ := ck_some h
    obtain ⟨M_10, hM_10, h⟩ := letv_ex h
    replace F := F.put hM_10 (by omega)
    obtain ⟨r_11, hr_11, h⟩ := bnd h
    replace F := F.trans ((fr_X7_yearsGo hr_11).mono (fun i k h => by omega))
    obtain ⟨r_12, hr_12, h⟩ := bnd h
    clear hr_12
    obtain ⟨r_13, hr_13, h⟩ := bnd h
    replace F := F.trans ((fr_X7_putsBack hr_13).mono (fun i k h => by omega))
    rcases ite_or h with h | h
    · exact F.trans (fr_X7_price_j105 hk54 h)
    · exact F.trans (fr_X7_price_j105 hk54 h)
theorem fr_X7_price_l54 : ∀ (n : Nat) (x1 : Int32) (x2 : Int32) (x3 : Int32) (x4 : Int32) (x5 : Int32) (M : Mem) (R : Int32 × Mem), f_X7_price_l54 n x1 x2 x3 x4 x5 M = some R → Fr (fun i k => i = 60 ∨ i = 62 ∨ i = 63 ∨ (i = 59 ∧ k = 5)) M R.2 := by
  intro n
  induction n with
  | zero => intro x1 x2 x3 x4 x5 M R h; cases h
  | succ n ih => intro x1 x2 x3 x4 x5 M R h; exact fr_X7_price_b54 ih h
theorem fr_X7_price {x1 : Int32} {x2 : Int32} {M : Mem} {R : Int32 × Mem} (h : f_X7_price x1 x2 M = some R) : Fr (fun i k => i = 60 ∨ i = 62 ∨ i = 63 ∨ (i = 59 ∧ k = 5)) M R.2 := by
  have F : Fr (fun i k => i = 60 ∨ i = 62 ∨ i = 63 ∨ (i = 59 ∧ k = 5)) M M := Fr.rf
  unfold f_X7_price at h
  obtain ⟨r_1, hr_1, h⟩ := bnd h
  clear hr_1
  rcases ite_or h with h | h
  · obtain ⟨r_2, hr_2, h⟩ := bnd h
    replace F := F.trans ((fr_X7_finds hr_2).mono (fun i k h => by omega))
    rw [← Option.some.inj h]; exact F
  · obtain ⟨r_3, hr_3, h⟩ := bnd h
    clear hr_3
    rcases ite_or h with h | h
    · obtain ⟨r_7, hr_7, h⟩ := bnd h
      replace F := F.trans ((fr_X7_finds hr_7).mono (fun i k h => by omega))
      rw [← Option.some.inj h]; exact F
    · obtain ⟨r_4, hr_4, h⟩ := bnd h
      clear hr_4
      rcases ite_or h with h | h
      · obtain ⟨r_5, hr_5, h⟩ := bnd h
        replace F := F.trans ((fr_X7_saves hr_5).mono (fun i k h => by omega))
        exact F.trans (fr_X7_price_l54 _ _ _ _ _ _ _ _ h)
      · obtain ⟨r_6, hr_6, h⟩ := bnd h
        replace F := F.trans ((fr_X7_finds hr_6).mono (fun i k h => by omega))
        rw [← Option.some.inj h]; exact F
theorem fr_X7_school_b60 {k60 : Int32 → Int32 → Int32 → Mem → Option (Int32 × Mem)} (hk60 : ∀ (x1 : Int32) (x2 : Int32) (x3 : Int32) (M : Mem) (R : Int32 × Mem), k60 x1 x2 x3 M = some R → Fr (fun i k => i = 60 ∨ i = 62 ∨ i = 63 ∨ (i = 59 ∧ k = 5)) M R.2) {x1 : Int32} {x2 : Int32} {x3 : Int32} {M : Mem} {R : Int32 × Mem} (h : f_X7_school_b60 k60 x1 x2 x3 M = some R) : Fr (fun i k => i = 60 ∨ i = 62 ∨ i = 63 ∨ (i = 59 ∧ k = 5)) M R.2 := by
  have F : Fr (fun i k => i = 60 ∨ i = 62 ∨ i = 63 ∨ (i = 59 ∧ k = 5)) M M := Fr.rf
  unfold f_X7_school_b60 at h
  obtain ⟨_, h⟩ := ck_some h
  rcases ite_or h with h | h
  · obtain ⟨M_11, hM_11, h⟩ := letv_ex h
    replace F := F.put hM_11 (by omega)
    obtain ⟨r_12, hr_12, h⟩ := bnd h
    replace F := F.trans ((fr_X7_year hr_12).mono (fun i k h => by omega))
    obtain ⟨r_13, hr_13, h⟩ := bnd h
    replace F := F.trans ((fr_X7_putsBack hr_13).mono (fun i k h => by omega))
    rw [← Option.some.inj h]; exact F
  · obtain ⟨r_14, hr_14, h⟩ := bnd h
    clear hr_14
    obtain ⟨_, h⟩ := ck_some h
    obtain ⟨M_16, hM_16, h⟩ := letv_ex h
    replace F := F.put hM_16 (by omega)
    obtain ⟨x3_17, _, h⟩ := letv_ex h
    exact F.trans (hk60 _ _ _ _ _ h)
theorem fr_X7_school_l60 : ∀ (n : Nat) (x1 : Int32) (x2 : Int32) (x3 : Int32) (M : Mem) (R : Int32 × Mem), f_X7_school_l60 n x1 x2 x3 M = some R → Fr (fun i k => i = 60 ∨ i = 62 ∨ i = 63 ∨ (i = 59 ∧ k = 5)) M R.2 := by
  intro n
  induction n with
  | zero => intro x1 x2 x3 M R h; cases h
  | succ n ih => intro x1 x2 x3 M R h; exact fr_X7_school_b60 ih h
theorem fr_X7_school {x1 : Int32} {M : Mem} {R : Int32 × Mem} (h : f_X7_school x1 M = some R) : Fr (fun i k => i = 60 ∨ i = 62 ∨ i = 63 ∨ (i = 59 ∧ k = 5)) M R.2 := by
  have F : Fr (fun i k => i = 60 ∨ i = 62 ∨ i = 63 ∨ (i = 59 ∧ k = 5)) M M := Fr.rf
  unfold f_X7_school at h
  obtain ⟨r_1, hr_1, h⟩ := bnd h
  clear hr_1
  rcases ite_or h with h | h
  · obtain ⟨r_9, hr_9, h⟩ := bnd h
    replace F := F.trans ((fr_X7_finds hr_9).mono (fun i k h => by omega))
    rw [← Option.some.inj h]; exact F
  · obtain ⟨r_2, hr_2, h⟩ := bnd h
    clear hr_2
    rcases ite_or h with h | h
    · obtain ⟨r_3, hr_3, h⟩ := bnd h
      replace F := F.trans ((fr_X7_saves hr_3).mono (fun i k h => by omega))
      obtain ⟨M_4, hM_4, h⟩ := letv_ex h
      replace F := F.put hM_4 (by omega)
      obtain ⟨r_5, hr_5, h⟩ := bnd h
      replace F := F.trans ((fr_X7_year hr_5).mono (fun i k h => by omega))
      obtain ⟨x2_6, _, h⟩ := letv_ex h
      obtain ⟨r_7, hr_7, h⟩ := bnd h
      replace F := F.trans ((fr_X7_putsBack hr_7).mono (fun i k h => by omega))
      exact F.trans (fr_X7_school_l60 _ _ _ _ _ _ h)
    · obtain ⟨r_8, hr_8, h⟩ := bnd h
      replace F := F.trans ((fr_X7_finds hr_8).mono (fun i k h => by omega))
      rw [← Option.some.inj h]; exact F
theorem fr_X7_gossip_b37 {k37 : Int32 → Int32 → Mem → Option (Int32 × Mem)} (hk37 : ∀ (x1 : Int32) (x2 : Int32) (M : Mem) (R : Int32 × Mem), k37 x1 x2 M = some R → Fr (fun i k => i = 60 ∨ i = 63) M R.2) {x1 : Int32} {x2 : Int32} {M : Mem} {R : Int32 × Mem} (h : f_X7_gossip_b37 k37 x1 x2 M = some R) : Fr (fun i k => i = 60 ∨ i = 63) M R.2 := by
  have F : Fr (fun i k => i = 60 ∨ i = 63) M M := Fr.rf
  unfold f_X7_gossip_b37 at h
  rcases ite_or h with h | h
  · obtain ⟨r_5, hr_5, h⟩ := bnd h
    clear hr_5
    rw [← Option.some.inj h]; exact F
  · obtain ⟨r_6, hr_6, h⟩ := bnd h
    replace F := F.trans ((fr_X7_draw hr_6).mono (fun i k h => by omega))
    obtain ⟨_, h⟩ := ck_some h
    obtain ⟨_, h⟩ := ck_some h
    obtain ⟨x3_9, _, h⟩ := letv_ex h
    obtain ⟨r_10, hr_10, h⟩ := bnd h
    clear hr_10
    obtain ⟨_, h⟩ := ck_some h
    obtain ⟨r_12, hr_12, h⟩ := bnd h
    replace F := F.trans ((fr_X7_draw hr_12).mono (fun i k h => by omega))
    obtain ⟨_, h⟩ := ck_some h
    obtain ⟨M_14, hM_14, h⟩ := letv_ex h
    replace F := F.put hM_14 (by omega)
    exact F.trans (hk37 _ _ _ _ h)
theorem fr_X7_gossip_l37 : ∀ (n : Nat) (x1 : Int32) (x2 : Int32) (M : Mem) (R : Int32 × Mem), f_X7_gossip_l37 n x1 x2 M = some R → Fr (fun i k => i = 60 ∨ i = 63) M R.2 := by
  intro n
  induction n with
  | zero => intro x1 x2 M R h; cases h
  | succ n ih => intro x1 x2 M R h; exact fr_X7_gossip_b37 ih h
theorem fr_X7_gossip {x1 : Int32} {M : Mem} {R : Int32 × Mem} (h : f_X7_gossip x1 M = some R) : Fr (fun i k => i = 60 ∨ i = 63) M R.2 := by
  have F : Fr (fun i k => i = 60 ∨ i = 63) M M := Fr.rf
  unfold f_X7_gossip at h
  obtain ⟨r_1, hr_1, h⟩ := bnd h
  clear hr_1
  rcases ite_or h with h | h
  · obtain ⟨r_4, hr_4, h⟩ := bnd h
    replace F := F.trans ((fr_X7_finds hr_4).mono (fun i k h => by omega))
    rw [← Option.some.inj h]; exact F
  · obtain ⟨_, h⟩ := ck_some h
    rcases ite_or h with h | h
    · obtain ⟨r_3, hr_3, h⟩ := bnd h
      replace F := F.trans ((fr_X7_finds hr_3).mono (fun i k h => by omega))
      rw [← Option.some.inj h]; exact F
    · exact F.trans (fr_X7_gossip_l37 _ _ _ _ _ h)
theorem fr_X7_seed {x1 : Int32} {M : Mem} {R : Int32 × Mem} (h : f_X7_seed x1 M = some R) : Fr (fun i k => i = 60) M R.2 := by
  have F : Fr (fun i k => i = 60) M M := Fr.rf
  unfold f_X7_seed at h
  obtain ⟨_, h⟩ := ck_some h
  obtain ⟨x2_2, _, h⟩ := letv_ex h
  obtain ⟨_, h⟩ := ck_some h
  obtain ⟨M_4, hM_4, h⟩ := letv_ex h
  replace F := F.put hM_4 (by omega)
  rw [← Option.some.inj h]; exact F
theorem fr_X7_feed_b41 {k41 : Int32 → Int32 → Mem → Option (Int32 × Mem)} (hk41 : ∀ (x1 : Int32) (x3 : Int32) (M : Mem) (R : Int32 × Mem), k41 x1 x3 M = some R → Fr (fun i k => i = 63 ∨ i = 65 ∨ (i = 59 ∧ k = 13)) M R.2) {x1 : Int32} {x3 : Int32} {M : Mem} {R : Int32 × Mem} (h : f_X7_feed_b41 k41 x1 x3 M = some R) : Fr (fun i k => i = 63 ∨ i = 65 ∨ (i = 59 ∧ k = 13)) M R.2 := by
  have F : Fr (fun i k => i = 63 ∨ i = 65 ∨ (i = 59 ∧ k = 13)) M M := Fr.rf
  unfold f_X7_feed_b41 at h
  rcases ite_or h with h | h
  · rw [← Option.some.inj h]; exact F
  · obtain ⟨_, h⟩ := ck_some h
    obtain ⟨M_6, hM_6, h⟩ := letv_ex h
    replace F := F.put hM_6 (by omega)
    obtain ⟨M_7, hM_7, h⟩ := letv_ex h
    replace F := F.put hM_7 (by omega)
    exact F.trans (hk41 _ _ _ _ h)
theorem fr_X7_feed_l41 : ∀ (n : Nat) (x1 : Int32) (x3 : Int32) (M : Mem) (R : Int32 × Mem), f_X7_feed_l41 n x1 x3 M = some R → Fr (fun i k => i = 63 ∨ i = 65 ∨ (i = 59 ∧ k = 13)) M R.2 := by
  intro n
  induction n with
  | zero => intro x1 x3 M R h; cases h
  | succ n ih => intro x1 x3 M R h; exact fr_X7_feed_b41 ih h
theorem fr_X7_feed {x1 : Int32} {x2 : Int32} {M : Mem} {R : Int32 × Mem} (h : f_X7_feed x1 x2 M = some R) : Fr (fun i k => i = 63 ∨ i = 65 ∨ (i = 59 ∧ k = 13)) M R.2 := by
  have F : Fr (fun i k => i = 63 ∨ i = 65 ∨ (i = 59 ∧ k = 13)) M M := Fr.rf
  unfold f_X7_feed at h
  obtain ⟨r_1, hr_1, h⟩ := bnd h
  clear hr_1
  rcases ite_or h with h | h
  · obtain ⟨r_4, hr_4, h⟩ := bnd h
    replace F := F.trans ((fr_X7_finds hr_4).mono (fun i k h => by omega))
    rw [← Option.some.inj h]; exact F
  · rcases ite_or h with h | h
    · obtain ⟨x3_2, _, h⟩ := letv_ex h
      exact F.trans (fr_X7_feed_l41 _ _ _ _ _ h)
    · obtain ⟨r_3, hr_3, h⟩ := bnd h
      replace F := F.trans ((fr_X7_finds hr_3).mono (fun i k h => by omega))
      rw [← Option.some.inj h]; exact F
theorem fr_X7_wipe {M : Mem} {R : Int32 × Mem} (h : f_X7_wipe M = some R) : Fr (fun i k => (i = 59 ∧ k = 13)) M R.2 := by
  have F : Fr (fun i k => (i = 59 ∧ k = 13)) M M := Fr.rf
  unfold f_X7_wipe at h
  obtain ⟨x1_1, _, h⟩ := letv_ex h
  obtain ⟨M_2, hM_2, h⟩ := letv_ex h
  replace F := F.put hM_2 (by omega)
  rw [← Option.some.inj h]; exact F
theorem fr_X7_token_j104 {k86 : Int32 → Int32 → Mem → Option (Mem)} (hk86 : ∀ (x1 : Int32) (x2 : Int32) (M : Mem) (R : Mem), k86 x1 x2 M = some R → Fr (fun i k => (i = 59 ∧ k = 14) ∨ (i = 59 ∧ k = 15)) M R) {x1 : Int32} {x2 : Int32} {M : Mem} {R : Mem} (h : f_X7_token_j104 k86 x1 x2 M = some R) : Fr (fun i k => (i = 59 ∧ k = 14) ∨ (i = 59 ∧ k = 15)) M R := by
  have F : Fr (fun i k => (i = 59 ∧ k = 14) ∨ (i = 59 ∧ k = 15)) M M := Fr.rf
  unfold f_X7_token_j104 at h
  rcases ite_or h with h | h
  · rw [← Option.some.inj h]; exact F
  · obtain ⟨r_13, hr_13, h⟩ := bnd h
    clear hr_13
    obtain ⟨r_14, hr_14, h⟩ := bnd h
    clear hr_14
    rcases ite_or h with h | h
    · rw [← Option.some.inj h]; exact F
    · obtain ⟨M_15, hM_15, h⟩ := letv_ex h
      replace F := F.put hM_15 (by omega)
      exact F.trans (hk86 _ _ _ _ h)
theorem fr_X7_token_b86 {k86 : Int32 → Int32 → Mem → Option (Mem)} (hk86 : ∀ (x1 : Int32) (x2 : Int32) (M : Mem) (R : Mem), k86 x1 x2 M = some R → Fr (fun i k => (i = 59 ∧ k = 14) ∨ (i = 59 ∧ k = 15)) M R) {x1 : Int32} {x2 : Int32} {M : Mem} {R : Mem} (h : f_X7_token_b86 k86 x1 x2 M = some R) : Fr (fun i k => (i = 59 ∧ k = 14) ∨ (i = 59 ∧ k = 15)) M R := by
  have F : Fr (fun i k => (i = 59 ∧ k = 14) ∨ (i = 59 ∧ k = 15)) M M := Fr.rf
  unfold f_X7_token_b86 at h
  rcases ite_or h with h | h
  · exact F.trans (fr_X7_token_j104 hk86 h)
  · obtain ⟨r_10, hr_10, h⟩ := bnd h
    clear hr_10
    obtain ⟨r_11, hr_11, h⟩ := bnd h
    clear hr_11
    rcases ite_or h with h | h
    · exact F.trans (fr_X7_token_j104 hk86 h)
    · obtain ⟨M_12, hM_12, h⟩ := letv_ex h
      replace F := F.put hM_12 (by omega)
      exact F.trans (hk86 _ _ _ _ h)
theorem fr_X7_token_l86 : ∀ (n : Nat) (x1 : Int32) (x2 : Int32) (M : Mem) (R : Mem), f_X7_token_l86 n x1 x2 M = some R → Fr (fun i k => (i = 59 ∧ k = 14) ∨ (i = 59 ∧ k = 15)) M R := by
  intro n
  induction n with
  | zero => intro x1 x2 M R h; cases h
  | succ n ih => intro x1 x2 M R h; exact fr_X7_token_b86 ih h
theorem fr_X7_token_b8 {k8 : Mem → Option (Mem)} (hk8 : ∀ (M : Mem) (R : Mem), k8 M = some R → Fr (fun i k => (i = 59 ∧ k = 14) ∨ (i = 59 ∧ k = 15)) M R) {M : Mem} {R : Mem} (h : f_X7_token_b8 k8 M = some R) : Fr (fun i k => (i = 59 ∧ k = 14) ∨ (i = 59 ∧ k = 15)) M R := by
  have F : Fr (fun i k => (i = 59 ∧ k = 14) ∨ (i = 59 ∧ k = 15)) M M := Fr.rf
  unfold f_X7_token_b8 at h
  obtain ⟨r_2, hr_2, h⟩ := bnd h
  clear hr_2
  rcases ite_or h with h | h
  · obtain ⟨M_9, hM_9, h⟩ := letv_ex h
    replace F := F.put hM_9 (by omega)
    exact F.trans (hk8 _ _ h)
  · obtain ⟨r_3, hr_3, h⟩ := bnd h
    clear hr_3
    obtain ⟨r_4, hr_4, h⟩ := bnd h
    clear hr_4
    obtain ⟨r_5, hr_5, h⟩ := bnd h
    clear hr_5
    obtain ⟨r_6, hr_6, h⟩ := bnd h
    clear hr_6
    rcases ite_or h with h | h
    · obtain ⟨M_7, hM_7, h⟩ := letv_ex h
      replace F := F.put hM_7 (by omega)
      exact F.trans (fr_X7_token_l86 _ _ _ _ _ h)
    · obtain ⟨M_8, hM_8, h⟩ := letv_ex h
      replace F := F.put hM_8 (by omega)
      exact F.trans (fr_X7_token_l86 _ _ _ _ _ h)
theorem fr_X7_token_l8 : ∀ (n : Nat) (M : Mem) (R : Mem), f_X7_token_l8 n M = some R → Fr (fun i k => (i = 59 ∧ k = 14) ∨ (i = 59 ∧ k = 15)) M R := by
  intro n
  induction n with
  | zero => intro M R h; cases h
  | succ n ih => intro M R h; exact fr_X7_token_b8 ih h
theorem fr_X7_token {M : Mem} {R : Mem} (h : f_X7_token M = some R) : Fr (fun i k => (i = 59 ∧ k = 14) ∨ (i = 59 ∧ k = 15)) M R := by
  have F : Fr (fun i k => (i = 59 ∧ k = 14) ∨ (i = 59 ∧ k = 15)) M M := Fr.rf
  unfold f_X7_token at h
  obtain ⟨M_1, hM_1, h⟩ := letv_ex h
  replace F := F.put hM_1 (by omega)
  exact F.trans (fr_X7_token_l8 _ _ _ h)
theorem fr_X7_needs {x1 : Int32} {M : Mem} {R : Mem} (h : f_X7_needs x1 M = some R) : Fr (fun i k => (i = 59 ∧ k = 14) ∨ (i = 59 ∧ k = 15) ∨ (i = 59 ∧ k = 17)) M R := by
  have F : Fr (fun i k => (i = 59 ∧ k = 14) ∨ (i = 59 ∧ k = 15) ∨ (i = 59 ∧ k = 17)) M M := Fr.rf
  unfold f_X7_needs at h
  rcases ite_or h with h | h
  · rcases ite_or h with h | h
    · obtain ⟨M_5, hM_5, h⟩ := letv_ex h
      replace F := F.put hM_5 (by omega)
      rcases ite_or h with h | h
      · obtain ⟨r_6, hr_6, h⟩ := bnd h
        replace F := F.trans ((fr_X7_token hr_6).mono (fun i k h => by omega))
        rw [← Option.some.inj h]; exact F
      · rw [← Option.some.inj h]; exact F
    · obtain ⟨M_3, hM_3, h⟩ := letv_ex h
      replace F := F.put hM_3 (by omega)
      rcases ite_or h with h | h
      · obtain ⟨r_4, hr_4, h⟩ := bnd h
        replace F := F.trans ((fr_X7_token hr_4).mono (fun i k h => by omega))
        rw [← Option.some.inj h]; exact F
      · rw [← Option.some.inj h]; exact F
  · obtain ⟨M_1, hM_1, h⟩ := letv_ex h
    replace F := F.put hM_1 (by omega)
    rcases ite_or h with h | h
    · obtain ⟨r_2, hr_2, h⟩ := bnd h
      replace F := F.trans ((fr_X7_token hr_2).mono (fun i k h => by omega))
      rw [← Option.some.inj h]; exact F
    · rw [← Option.some.inj h]; exact F
theorem fr_X7_number_j79 {x1 : Int32} {x2 : Int32} {x3 : Int32} {x4 : Int32} {M : Mem} {R : Mem} (h : f_X7_number_j79 x1 x2 x3 x4 M = some R) : Fr (fun i k => (i = 59 ∧ k = 14) ∨ (i = 59 ∧ k = 15) ∨ (i = 59 ∧ k = 16) ∨ (i = 59 ∧ k = 17)) M R := by
  have F : Fr (fun i k => (i = 59 ∧ k = 14) ∨ (i = 59 ∧ k = 15) ∨ (i = 59 ∧ k = 16) ∨ (i = 59 ∧ k = 17)) M M := Fr.rf
  unfold f_X7_number_j79 at h
  obtain ⟨M_6, hM_6, h⟩ := letv_ex h
  replace F := F.put hM_6 (by omega)
  rcases ite_or h with h | h
  · obtain ⟨r_7, hr_7, h⟩ := bnd h
    replace F := F.trans ((fr_X7_needs hr_7).mono (fun i k h => by omega))
    rw [← Option.some.inj h]; exact F
  · obtain ⟨r_8, hr_8, h⟩ := bnd h
    clear hr_8
    rcases ite_or h with h | h
    · obtain ⟨r_9, hr_9, h⟩ := bnd h
      replace F := F.trans ((fr_X7_needs hr_9).mono (fun i k h => by omega))
      rw [← Option.some.inj h]; exact F
    · obtain ⟨r_10, hr_10, h⟩ := bnd h
      replace F := F.trans ((fr_X7_needs hr_10).mono (fun i k h => by omega))
      rw [← Option.some.inj h]; exact F
theorem fr_X7_number_b29 {k29 : Int32 → Int32 → Int32 → Int32 → Int32 → Mem → Option (Mem)} (hk29 : ∀ (x1 : Int32) (x2 : Int32) (x3 : Int32) (x4 : Int32) (x5 : Int32) (M : Mem) (R : Mem), k29 x1 x2 x3 x4 x5 M = some R → Fr (fun i k => (i = 59 ∧ k = 14) ∨ (i = 59 ∧ k = 15) ∨ (i = 59 ∧ k = 16) ∨ (i = 59 ∧ k = 17)) M R) {x1 : Int32} {x2 : Int32} {x3 : Int32} {x4 : Int32} {x5 : Int32} {M : Mem} {R : Mem} (h : f_X7_number_b29 k29 x1 x2 x3 x4 x5 M = some R) : Fr (fun i k => (i = 59 ∧ k = 14) ∨ (i = 59 ∧ k = 15) ∨ (i = 59 ∧ k = 16) ∨ (i = 59 ∧ k = 17)) M R := by
  have F : Fr (fun i k => (i = 59 ∧ k = 14) ∨ (i = 59 ∧ k = 15) ∨ (i = 59 ∧ k = 16) ∨ (i = 59 ∧ k = 17)) M M := Fr.rf
  unfold f_X7_number_b29 at h
  rcases ite_or h with h | h
  · exact F.trans (fr_X7_number_j79 h)
  · rcases ite_or h with h | h
    · exact F.trans (fr_X7_number_j79 h)
    · rcases ite_or h with h | h
      · obtain ⟨_, h⟩ := ck_some h
        obtain ⟨x4_5, _, h⟩ := letv_ex h
        exact F.trans (hk29 _ _ _ _ _ _ _ h)
      · exact F.trans (hk29 _ _ _ _ _ _ _ h)
theorem fr_X7_number_l29 : ∀ (n : Nat) (x1 : Int32) (x2 : Int32) (x3 : Int32) (x4 : Int32) (x5 : Int32) (M : Mem) (R : Mem), f_X7_number_l29 n x1 x2 x3 x4 x5 M = some R → Fr (fun i k => (i = 59 ∧ k = 14) ∨ (i = 59 ∧ k = 15) ∨ (i = 59 ∧ k = 16) ∨ (i = 59 ∧ k = 17)) M R := by
  intro n
  induction n with
  | zero => intro x1 x2 x3 x4 x5 M R h; cases h
  | succ n ih => intro x1 x2 x3 x4 x5 M R h; exact fr_X7_number_b29 ih h
theorem fr_X7_number {x1 : Int32} {x2 : Int32} {M : Mem} {R : Mem} (h : f_X7_number x1 x2 M = some R) : Fr (fun i k => (i = 59 ∧ k = 14) ∨ (i = 59 ∧ k = 15) ∨ (i = 59 ∧ k = 16) ∨ (i = 59 ∧ k = 17)) M R := by
  have F : Fr (fun i k => (i = 59 ∧ k = 14) ∨ (i = 59 ∧ k = 15) ∨ (i = 59 ∧ k = 16) ∨ (i = 59 ∧ k = 17)) M M := Fr.rf
  unfold f_X7_number at h
  rcases ite_or h with h | h
  · obtain ⟨r_1, hr_1, h⟩ := bnd h
    clear hr_1
    obtain ⟨r_2, hr_2, h⟩ := bnd h
    clear hr_2
    obtain ⟨x5_3, _, h⟩ := letv_ex h
    exact F.trans (fr_X7_number_l29 _ _ _ _ _ _ _ _ h)
  · rw [← Option.some.inj h]; exact F
theorem fr_X7_perhaps {x1 : Int32} {x2 : Int32} {x3 : Int32} {M : Mem} {R : Int32 × Mem} (h : f_X7_perhaps x1 x2 x3 M = some R) : Fr (fun i k => (i = 59 ∧ k = 14) ∨ (i = 59 ∧ k = 15) ∨ (i = 59 ∧ k = 16) ∨ (i = 59 ∧ k = 17)) M R.2 := by
  have F : Fr (fun i k => (i = 59 ∧ k = 14) ∨ (i = 59 ∧ k = 15) ∨ (i = 59 ∧ k = 16) ∨ (i = 59 ∧ k = 17)) M M := Fr.rf
  unfold f_X7_perhaps at h
  rcases ite_or h with h | h
  · rw [← Option.some.inj h]; exact F
  · obtain ⟨r_1, hr_1, h⟩ := bnd h
    replace F := F.trans ((fr_X7_needs hr_1).mono (fun i k h => by omega))
    obtain ⟨r_2, hr_2, h⟩ := bnd h
    replace F := F.trans ((fr_X7_number hr_2).mono (fun i k h => by omega))
    rw [← Option.some.inj h]; exact F
theorem fr_X7_marks_b13 {k13 : Int32 → Int32 → Mem → Option (Int32 × Mem)} (hk13 : ∀ (x2 : Int32) (x3 : Int32) (M : Mem) (R : Int32 × Mem), k13 x2 x3 M = some R → Fr (fun i k => (i = 59 ∧ k = 14) ∨ (i = 59 ∧ k = 15) ∨ (i = 59 ∧ k = 16) ∨ (i = 59 ∧ k = 17)) M R.2) {x2 : Int32} {x3 : Int32} {M : Mem} {R : Int32 × Mem} (h : f_X7_marks_b13 k13 x2 x3 M = some R) : Fr (fun i k => (i = 59 ∧ k = 14) ∨ (i = 59 ∧ k = 15) ∨ (i = 59 ∧ k = 16) ∨ (i = 59 ∧ k = 17)) M R.2 := by
  have F : Fr (fun i k => (i = 59 ∧ k = 14) ∨ (i = 59 ∧ k = 15) ∨ (i = 59 ∧ k = 16) ∨ (i = 59 ∧ k = 17)) M M := Fr.rf
  unfold f_X7_marks_b13 at h
  rcases ite_or h with h | h
  · rw [← Option.some.inj h]; exact F
  · rcases ite_or h with h | h
    · obtain ⟨r_2, hr_2, h⟩ := bnd h
      replace F := F.trans ((fr_X7_number hr_2).mono (fun i k h => by omega))
      rcases ite_or h with h | h
      · obtain ⟨x2_3, _, h⟩ := letv_ex h
        obtain ⟨r_4, hr_4, h⟩ := bnd h
        clear hr_4
        obtain ⟨r_5, hr_5, h⟩ := bnd h
        clear hr_5
        exact F.trans (hk13 _ _ _ _ h)
      · obtain ⟨x2_6, _, h⟩ := letv_ex h
        obtain ⟨r_7, hr_7, h⟩ := bnd h
        clear hr_7
        obtain ⟨r_8, hr_8, h⟩ := bnd h
        clear hr_8
        exact F.trans (hk13 _ _ _ _ h)
    · rw [← Option.some.inj h]; exact F
theorem fr_X7_marks_l13 : ∀ (n : Nat) (x2 : Int32) (x3 : Int32) (M : Mem) (R : Int32 × Mem), f_X7_marks_l13 n x2 x3 M = some R → Fr (fun i k => (i = 59 ∧ k = 14) ∨ (i = 59 ∧ k = 15) ∨ (i = 59 ∧ k = 16) ∨ (i = 59 ∧ k = 17)) M R.2 := by
  intro n
  induction n with
  | zero => intro x2 x3 M R h; cases h
  | succ n ih => intro x2 x3 M R h; exact fr_X7_marks_b13 ih h
theorem fr_X7_marks {x1 : Int32} {M : Mem} {R : Int32 × Mem} (h : f_X7_marks x1 M = some R) : Fr (fun i k => (i = 59 ∧ k = 14) ∨ (i = 59 ∧ k = 15) ∨ (i = 59 ∧ k = 16) ∨ (i = 59 ∧ k = 17)) M R.2 := by
  have F : Fr (fun i k => (i = 59 ∧ k = 14) ∨ (i = 59 ∧ k = 15) ∨ (i = 59 ∧ k = 16) ∨ (i = 59 ∧ k = 17)) M M := Fr.rf
  unfold f_X7_marks at h
  rcases ite_or h with h | h
  · exact F.trans (fr_X7_marks_l13 _ _ _ _ _ h)
  · obtain ⟨r_1, hr_1, h⟩ := bnd h
    replace F := F.trans ((fr_X7_needs hr_1).mono (fun i k h => by omega))
    exact F.trans (fr_X7_marks_l13 _ _ _ _ _ h)
theorem fr_X7_writerItem_j101 {x1 : Int32} {x2 : Int32} {x3 : Int32} {x4 : Int32} {t1 : Int32} {M : Mem} {R : Mem} (h : f_X7_writerItem_j101 x1 x2 x3 x4 t1 M = some R) : Fr (fun i k => i = 60 ∨ (i = 59 ∧ k = 14) ∨ (i = 59 ∧ k = 15) ∨ (i = 59 ∧ k = 16) ∨ (i = 59 ∧ k = 17)) M R := by
  have F : Fr (fun i k => i = 60 ∨ (i = 59 ∧ k = 14) ∨ (i = 59 ∧ k = 15) ∨ (i = 59 ∧ k = 16) ∨ (i = 59 ∧ k = 17)) M M := Fr.rf
  unfold f_X7_writerItem_j101 at h
  obtain ⟨r_10, hr_10, h⟩ := bnd h
  replace F := F.trans ((fr_X7_perhaps hr_10).mono (fun i k h => by omega))
  rcases ite_or h with h | h
  · obtain ⟨r_11, hr_11, h⟩ := bnd h
    replace F := F.trans ((fr_X7_newWriter hr_11).mono (fun i k h => by omega))
    obtain ⟨r_12, hr_12, h⟩ := bnd h
    clear hr_12
    obtain ⟨_, h⟩ := ck_some h
    obtain ⟨M_14, hM_14, h⟩ := letv_ex h
    replace F := F.put hM_14 (by omega)
    obtain ⟨r_15, hr_15, h⟩ := bnd h
    clear hr_15
    obtain ⟨_, h⟩ := ck_some h
    obtain ⟨M_17, hM_17, h⟩ := letv_ex h
    replace F := F.put hM_17 (by omega)
    obtain ⟨r_18, hr_18, h⟩ := bnd h
    clear hr_18
    obtain ⟨_, h⟩ := ck_some h
    obtain ⟨M_20, hM_20, h⟩ := letv_ex h
    replace F := F.put hM_20 (by omega)
    obtain ⟨r_21, hr_21, h⟩ := bnd h
    clear hr_21
    obtain ⟨_, h⟩ := ck_some h
    obtain ⟨M_23, hM_23, h⟩ := letv_ex h
    replace F := F.put hM_23 (by omega)
    rw [← Option.some.inj h]; exact F
  · rw [← Option.some.inj h]; exact F
theorem fr_X7_writerItem_j79 {x1 : Int32} {x2 : Int32} {x3 : Int32} {t1 : Int32} {M : Mem} {R : Mem} (h : f_X7_writerItem_j79 x1 x2 x3 t1 M = some R) : Fr (fun i k => i = 60 ∨ (i = 59 ∧ k = 14) ∨ (i = 59 ∧ k = 15) ∨ (i = 59 ∧ k = 16) ∨ (i = 59 ∧ k = 17)) M R := by
  have F : Fr (fun i k => i = 60 ∨ (i = 59 ∧ k = 14) ∨ (i = 59 ∧ k = 15) ∨ (i = 59 ∧ k = 16) ∨ (i = 59 ∧ k = 17)) M M := Fr.rf
  unfold f_X7_writerItem_j79 at h
  obtain ⟨r_8, hr_8, h⟩ := bnd h
  replace F := F.trans ((fr_X7_marks hr_8).mono (fun i k h => by omega))
  obtain ⟨r_9, hr_9, h⟩ := bnd h
  clear hr_9
  rcases ite_or h with h | h
  · exact F.trans (fr_X7_writerItem_j101 h)
  · exact F.trans (fr_X7_writerItem_j101 h)
theorem fr_X7_writerItem_j58 {x1 : Int32} {x2 : Int32} {t1 : Int32} {M : Mem} {R : Mem} (h : f_X7_writerItem_j58 x1 x2 t1 M = some R) : Fr (fun i k => i = 60 ∨ (i = 59 ∧ k = 14) ∨ (i = 59 ∧ k = 15) ∨ (i = 59 ∧ k = 16) ∨ (i = 59 ∧ k = 17)) M R := by
  have F : Fr (fun i k => i = 60 ∨ (i = 59 ∧ k = 14) ∨ (i = 59 ∧ k = 15) ∨ (i = 59 ∧ k = 16) ∨ (i = 59 ∧ k = 17)) M M := Fr.rf
  unfold f_X7_writerItem_j58 at h
  obtain ⟨r_6, hr_6, h⟩ := bnd h
  replace F := F.trans ((fr_X7_marks hr_6).mono (fun i k h => by omega))
  obtain ⟨r_7, hr_7, h⟩ := bnd h
  clear hr_7
  rcases ite_or h with h | h
  · exact F.trans (fr_X7_writerItem_j79 h)
  · exact F.trans (fr_X7_writerItem_j79 h)
theorem fr_X7_writerItem_j37 {x1 : Int32} {t1 : Int32} {M : Mem} {R : Mem} (h : f_X7_writerItem_j37 x1 t1 M = some R) : Fr (fun i k => i = 60 ∨ (i = 59 ∧ k = 14) ∨ (i = 59 ∧ k = 15) ∨ (i = 59 ∧ k = 16) ∨ (i = 59 ∧ k = 17)) M R := by
  have F : Fr (fun i k => i = 60 ∨ (i = 59 ∧ k = 14) ∨ (i = 59 ∧ k = 15) ∨ (i = 59 ∧ k = 16) ∨ (i = 59 ∧ k = 17)) M M := Fr.rf
  unfold f_X7_writerItem_j37 at h
  obtain ⟨r_4, hr_4, h⟩ := bnd h
  replace F := F.trans ((fr_X7_marks hr_4).mono (fun i k h => by omega))
  obtain ⟨r_5, hr_5, h⟩ := bnd h
  clear hr_5
  rcases ite_or h with h | h
  · exact F.trans (fr_X7_writerItem_j58 h)
  · exact F.trans (fr_X7_writerItem_j58 h)
theorem fr_X7_writerItem_j17 {x1 : Int32} {t1 : Int32} {M : Mem} {R : Mem} (h : f_X7_writerItem_j17 x1 t1 M = some R) : Fr (fun i k => i = 60 ∨ (i = 59 ∧ k = 14) ∨ (i = 59 ∧ k = 15) ∨ (i = 59 ∧ k = 16) ∨ (i = 59 ∧ k = 17)) M R := by
  have F : Fr (fun i k => i = 60 ∨ (i = 59 ∧ k = 14) ∨ (i = 59 ∧ k = 15) ∨ (i = 59 ∧ k = 16) ∨ (i = 59 ∧ k = 17)) M M := Fr.rf
  unfold f_X7_writerItem_j17 at h
  obtain ⟨r_2, hr_2, h⟩ := bnd h
  replace F := F.trans ((fr_X7_needs hr_2).mono (fun i k h => by omega))
  obtain ⟨r_3, hr_3, h⟩ := bnd h
  clear hr_3
  rcases ite_or h with h | h
  · exact F.trans (fr_X7_writerItem_j37 h)
  · exact F.trans (fr_X7_writerItem_j37 h)
theorem fr_X7_writerItem {x1 : Int32} {M : Mem} {R : Mem} (h : f_X7_writerItem x1 M = some R) : Fr (fun i k => i = 60 ∨ (i = 59 ∧ k = 14) ∨ (i = 59 ∧ k = 15) ∨ (i = 59 ∧ k = 16) ∨ (i = 59 ∧ k = 17)) M R := by
  have F : Fr (fun i k => i = 60 ∨ (i = 59 ∧ k = 14) ∨ (i = 59 ∧ k = 15) ∨ (i = 59 ∧ k = 16) ∨ (i = 59 ∧ k = 17)) M M := Fr.rf
  unfold f_X7_writerItem at h
  obtain ⟨_, h⟩ := ck_some h
  rcases ite_or h with h | h
  · exact F.trans (fr_X7_writerItem_j17 h)
  · exact F.trans (fr_X7_writerItem_j17 h)
theorem fr_X7_personItem_j96 {x1 : Int32} {x2 : Int32} {t1 : Int32} {M : Mem} {R : Mem} (h : f_X7_personItem_j96 x1 x2 t1 M = some R) : Fr (fun i k => i = 60 ∨ (i = 59 ∧ k = 14) ∨ (i = 59 ∧ k = 15) ∨ (i = 59 ∧ k = 16) ∨ (i = 59 ∧ k = 17)) M R := by
  have F : Fr (fun i k => i = 60 ∨ (i = 59 ∧ k = 14) ∨ (i = 59 ∧ k = 15) ∨ (i = 59 ∧ k = 16) ∨ (i = 59 ∧ k = 17)) M M := Fr.rf
  unfold f_X7_personItem_j96 at h
  obtain ⟨r_11, hr_11, h⟩ := bnd h
  replace F := F.trans ((fr_X7_perhaps hr_11).mono (fun i k h => by omega))
  rcases ite_or h with h | h
  · obtain ⟨r_12, hr_12, h⟩ := bnd h
    replace F := F.trans ((fr_X7_newPerson hr_12).mono (fun i k h => by omega))
    obtain ⟨r_13, hr_13, h⟩ := bnd h
    clear hr_13
    obtain ⟨_, h⟩ := ck_some h
    obtain ⟨M_15, hM_15, h⟩ := letv_ex h
    replace F := F.put hM_15 (by omega)
    obtain ⟨r_16, hr_16, h⟩ := bnd h
    clear hr_16
    obtain ⟨_, h⟩ := ck_some h
    obtain ⟨M_18, hM_18, h⟩ := letv_ex h
    replace F := F.put hM_18 (by omega)
    rw [← Option.some.inj h]; exact F
  · rw [← Option.some.inj h]; exact F
theorem fr_X7_personItem_j75 {x1 : Int32} {t1 : Int32} {M : Mem} {R : Mem} (h : f_X7_personItem_j75 x1 t1 M = some R) : Fr (fun i k => i = 60 ∨ (i = 59 ∧ k = 14) ∨ (i = 59 ∧ k = 15) ∨ (i = 59 ∧ k = 16) ∨ (i = 59 ∧ k = 17)) M R := by
  have F : Fr (fun i k => i = 60 ∨ (i = 59 ∧ k = 14) ∨ (i = 59 ∧ k = 15) ∨ (i = 59 ∧ k = 16) ∨ (i = 59 ∧ k = 17)) M M := Fr.rf
  unfold f_X7_personItem_j75 at h
  obtain ⟨r_9, hr_9, h⟩ := bnd h
  replace F := F.trans ((fr_X7_marks hr_9).mono (fun i k h => by omega))
  obtain ⟨r_10, hr_10, h⟩ := bnd h
  clear hr_10
  rcases ite_or h with h | h
  · exact F.trans (fr_X7_personItem_j96 h)
  · exact F.trans (fr_X7_personItem_j96 h)
theorem fr_X7_personItem_j37 {t1 : Int32} {M : Mem} {R : Mem} (h : f_X7_personItem_j37 t1 M = some R) : Fr (fun i k => i = 60 ∨ (i = 59 ∧ k = 14) ∨ (i = 59 ∧ k = 15) ∨ (i = 59 ∧ k = 16) ∨ (i = 59 ∧ k = 17)) M R := by
  have F : Fr (fun i k => i = 60 ∨ (i = 59 ∧ k = 14) ∨ (i = 59 ∧ k = 15) ∨ (i = 59 ∧ k = 16) ∨ (i = 59 ∧ k = 17)) M M := Fr.rf
  unfold f_X7_personItem_j37 at h
  obtain ⟨r_4, hr_4, h⟩ := bnd h
  replace F := F.trans ((fr_X7_needs hr_4).mono (fun i k h => by omega))
  obtain ⟨_, h⟩ := ck_some h
  obtain ⟨r_6, hr_6, h⟩ := bnd h
  replace F := F.trans ((fr_X7_number hr_6).mono (fun i k h => by omega))
  obtain ⟨x1_7, _, h⟩ := letv_ex h
  obtain ⟨r_8, hr_8, h⟩ := bnd h
  clear hr_8
  rcases ite_or h with h | h
  · exact F.trans (fr_X7_personItem_j75 h)
  · exact F.trans (fr_X7_personItem_j75 h)
theorem fr_X7_personItem_j17 {t1 : Int32} {M : Mem} {R : Mem} (h : f_X7_personItem_j17 t1 M = some R) : Fr (fun i k => i = 60 ∨ (i = 59 ∧ k = 14) ∨ (i = 59 ∧ k = 15) ∨ (i = 59 ∧ k = 16) ∨ (i = 59 ∧ k = 17)) M R := by
  have F : Fr (fun i k => i = 60 ∨ (i = 59 ∧ k = 14) ∨ (i = 59 ∧ k = 15) ∨ (i = 59 ∧ k = 16) ∨ (i = 59 ∧ k = 17)) M M := Fr.rf
  unfold f_X7_personItem_j17 at h
  obtain ⟨r_2, hr_2, h⟩ := bnd h
  replace F := F.trans ((fr_X7_needs hr_2).mono (fun i k h => by omega))
  obtain ⟨r_3, hr_3, h⟩ := bnd h
  clear hr_3
  rcases ite_or h with h | h
  · exact F.trans (fr_X7_personItem_j37 h)
  · exact F.trans (fr_X7_personItem_j37 h)
theorem fr_X7_personItem {M : Mem} {R : Mem} (h : f_X7_personItem M = some R) : Fr (fun i k => i = 60 ∨ (i = 59 ∧ k = 14) ∨ (i = 59 ∧ k = 15) ∨ (i = 59 ∧ k = 16) ∨ (i = 59 ∧ k = 17)) M R := by
  have F : Fr (fun i k => i = 60 ∨ (i = 59 ∧ k = 14) ∨ (i = 59 ∧ k = 15) ∨ (i = 59 ∧ k = 16) ∨ (i = 59 ∧ k = 17)) M M := Fr.rf
  unfold f_X7_personItem at h
  obtain ⟨_, h⟩ := ck_some h
  rcases ite_or h with h | h
  · exact F.trans (fr_X7_personItem_j17 h)
  · exact F.trans (fr_X7_personItem_j17 h)
theorem fr_X7_tieItem_j76 {x1 : Int32} {x2 : Int32} {M : Mem} {R : Mem} (h : f_X7_tieItem_j76 x1 x2 M = some R) : Fr (fun i k => i = 60 ∨ (i = 59 ∧ k = 14) ∨ (i = 59 ∧ k = 15) ∨ (i = 59 ∧ k = 16) ∨ (i = 59 ∧ k = 17)) M R := by
  have F : Fr (fun i k => i = 60 ∨ (i = 59 ∧ k = 14) ∨ (i = 59 ∧ k = 15) ∨ (i = 59 ∧ k = 16) ∨ (i = 59 ∧ k = 17)) M M := Fr.rf
  unfold f_X7_tieItem_j76 at h
  rcases ite_or h with h | h
  · rcases ite_or h with h | h
    · obtain ⟨M_11, hM_11, h⟩ := letv_ex h
      replace F := F.put hM_11 (by omega)
      rcases ite_or h with h | h
      · obtain ⟨r_12, hr_12, h⟩ := bnd h
        replace F := F.trans ((fr_X7_joins hr_12).mono (fun i k h => by omega))
        rw [← Option.some.inj h]; exact F
      · rw [← Option.some.inj h]; exact F
    · obtain ⟨M_13, hM_13, h⟩ := letv_ex h
      replace F := F.put hM_13 (by omega)
      rcases ite_or h with h | h
      · obtain ⟨r_14, hr_14, h⟩ := bnd h
        replace F := F.trans ((fr_X7_joins hr_14).mono (fun i k h => by omega))
        rw [← Option.some.inj h]; exact F
      · rw [← Option.some.inj h]; exact F
  · obtain ⟨M_9, hM_9, h⟩ := letv_ex h
    replace F := F.put hM_9 (by omega)
    rcases ite_or h with h | h
    · obtain ⟨r_10, hr_10, h⟩ := bnd h
      replace F := F.trans ((fr_X7_joins hr_10).mono (fun i k h => by omega))
      rw [← Option.some.inj h]; exact F
    · rw [← Option.some.inj h]; exact F
theorem fr_X7_tieItem_j58 {x1 : Int32} {t0 : Int32} {M : Mem} {R : Mem} (h : f_X7_tieItem_j58 x1 t0 M = some R) : Fr (fun i k => i = 60 ∨ (i = 59 ∧ k = 14) ∨ (i = 59 ∧ k = 15) ∨ (i = 59 ∧ k = 16) ∨ (i = 59 ∧ k = 17)) M R := by
  have F : Fr (fun i k => i = 60 ∨ (i = 59 ∧ k = 14) ∨ (i = 59 ∧ k = 15) ∨ (i = 59 ∧ k = 16) ∨ (i = 59 ∧ k = 17)) M M := Fr.rf
  unfold f_X7_tieItem_j58 at h
  rcases ite_or h with h | h
  · obtain ⟨_, h⟩ := ck_some h
    obtain ⟨r_8, hr_8, h⟩ := bnd h
    replace F := F.trans ((fr_X7_number hr_8).mono (fun i k h => by omega))
    exact F.trans (fr_X7_tieItem_j76 h)
  · exact F.trans (fr_X7_tieItem_j76 h)
theorem fr_X7_tieItem_j57 {x1 : Int32} {M : Mem} {R : Mem} (h : f_X7_tieItem_j57 x1 M = some R) : Fr (fun i k => i = 60 ∨ (i = 59 ∧ k = 14) ∨ (i = 59 ∧ k = 15) ∨ (i = 59 ∧ k = 16) ∨ (i = 59 ∧ k = 17)) M R := by
  have F : Fr (fun i k => i = 60 ∨ (i = 59 ∧ k = 14) ∨ (i = 59 ∧ k = 15) ∨ (i = 59 ∧ k = 16) ∨ (i = 59 ∧ k = 17)) M M := Fr.rf
  unfold f_X7_tieItem_j57 at h
  exact F.trans (fr_X7_tieItem_j58 h)
theorem fr_X7_tieItem_j17 {t1 : Int32} {M : Mem} {R : Mem} (h : f_X7_tieItem_j17 t1 M = some R) : Fr (fun i k => i = 60 ∨ (i = 59 ∧ k = 14) ∨ (i = 59 ∧ k = 15) ∨ (i = 59 ∧ k = 16) ∨ (i = 59 ∧ k = 17)) M R := by
  have F : Fr (fun i k => i = 60 ∨ (i = 59 ∧ k = 14) ∨ (i = 59 ∧ k = 15) ∨ (i = 59 ∧ k = 16) ∨ (i = 59 ∧ k = 17)) M M := Fr.rf
  unfold f_X7_tieItem_j17 at h
  obtain ⟨r_2, hr_2, h⟩ := bnd h
  replace F := F.trans ((fr_X7_needs hr_2).mono (fun i k h => by omega))
  obtain ⟨_, h⟩ := ck_some h
  obtain ⟨r_4, hr_4, h⟩ := bnd h
  replace F := F.trans ((fr_X7_number hr_4).mono (fun i k h => by omega))
  obtain ⟨x1_5, _, h⟩ := letv_ex h
  rcases ite_or h with h | h
  · obtain ⟨r_6, hr_6, h⟩ := bnd h
    clear hr_6
    rcases ite_or h with h | h
    · exact F.trans (fr_X7_tieItem_j57 h)
    · exact F.trans (fr_X7_tieItem_j58 h)
  · exact F.trans (fr_X7_tieItem_j57 h)
theorem fr_X7_tieItem {M : Mem} {R : Mem} (h : f_X7_tieItem M = some R) : Fr (fun i k => i = 60 ∨ (i = 59 ∧ k = 14) ∨ (i = 59 ∧ k = 15) ∨ (i = 59 ∧ k = 16) ∨ (i = 59 ∧ k = 17)) M R := by
  have F : Fr (fun i k => i = 60 ∨ (i = 59 ∧ k = 14) ∨ (i = 59 ∧ k = 15) ∨ (i = 59 ∧ k = 16) ∨ (i = 59 ∧ k = 17)) M M := Fr.rf
  unfold f_X7_tieItem at h
  obtain ⟨r_1, hr_1, h⟩ := bnd h
  clear hr_1
  rcases ite_or h with h | h
  · exact F.trans (fr_X7_tieItem_j17 h)
  · exact F.trans (fr_X7_tieItem_j17 h)
theorem fr_X7_item {M : Mem} {R : Mem} (h : f_X7_item M = some R) : Fr (fun i k => i = 60 ∨ (i = 59 ∧ k = 14) ∨ (i = 59 ∧ k = 15) ∨ (i = 59 ∧ k = 16) ∨ (i = 59 ∧ k = 17)) M R := by
  have F : Fr (fun i k => i = 60 ∨ (i = 59 ∧ k = 14) ∨ (i = 59 ∧ k = 15) ∨ (i = 59 ∧ k = 16) ∨ (i = 59 ∧ k = 17)) M M := Fr.rf
  unfold f_X7_item at h
  obtain ⟨r_1, hr_1, h⟩ := bnd h
  clear hr_1
  rcases ite_or h with h | h
  · obtain ⟨r_2, hr_2, h⟩ := bnd h
    clear hr_2
    rcases ite_or h with h | h
    · obtain ⟨r_4, hr_4, h⟩ := bnd h
      replace F := F.trans ((fr_X7_personItem hr_4).mono (fun i k h => by omega))
      rw [← Option.some.inj h]; exact F
    · obtain ⟨r_3, hr_3, h⟩ := bnd h
      replace F := F.trans ((fr_X7_tieItem hr_3).mono (fun i k h => by omega))
      rw [← Option.some.inj h]; exact F
  · obtain ⟨r_5, hr_5, h⟩ := bnd h
    replace F := F.trans ((fr_X7_writerItem hr_5).mono (fun i k h => by omega))
    rw [← Option.some.inj h]; exact F
theorem fr_X7_text_j74 {x1 : Int32} {M : Mem} {R : Int32 × Mem} (h : f_X7_text_j74 x1 M = some R) : Fr (fun i k => i = 60 ∨ i = 62 ∨ (i = 59 ∧ k = 13) ∨ (i = 59 ∧ k = 14) ∨ (i = 59 ∧ k = 15) ∨ (i = 59 ∧ k = 16) ∨ (i = 59 ∧ k = 17)) M R.2 := by
  have F : Fr (fun i k => i = 60 ∨ i = 62 ∨ (i = 59 ∧ k = 13) ∨ (i = 59 ∧ k = 14) ∨ (i = 59 ∧ k = 15) ∨ (i = 59 ∧ k = 16) ∨ (i = 59 ∧ k = 17)) M M := Fr.rf
  unfold f_X7_text_j74 at h
  obtain ⟨M_11, hM_11, h⟩ := letv_ex h
  replace F := F.put hM_11 (by omega)
  rcases ite_or h with h | h
  · rw [← Option.some.inj h]; exact F
  · obtain ⟨r_12, hr_12, h⟩ := bnd h
    replace F := F.trans ((fr_X7_putsBack hr_12).mono (fun i k h => by omega))
    rw [← Option.some.inj h]; exact F
theorem fr_X7_text_b24 {k24 : Int32 → Mem → Option (Int32 × Mem)} (hk24 : ∀ (x1 : Int32) (M : Mem) (R : Int32 × Mem), k24 x1 M = some R → Fr (fun i k => i = 60 ∨ i = 62 ∨ (i = 59 ∧ k = 13) ∨ (i = 59 ∧ k = 14) ∨ (i = 59 ∧ k = 15) ∨ (i = 59 ∧ k = 16) ∨ (i = 59 ∧ k = 17)) M R.2) {x1 : Int32} {M : Mem} {R : Int32 × Mem} (h : f_X7_text_b24 k24 x1 M = some R) : Fr (fun i k => i = 60 ∨ i = 62 ∨ (i = 59 ∧ k = 13) ∨ (i = 59 ∧ k = 14) ∨ (i = 59 ∧ k = 15) ∨ (i = 59 ∧ k = 16) ∨ (i = 59 ∧ k = 17)) M R.2 := by
  have F : Fr (fun i k => i = 60 ∨ i = 62 ∨ (i = 59 ∧ k = 13) ∨ (i = 59 ∧ k = 14) ∨ (i = 59 ∧ k = 15) ∨ (i = 59 ∧ k = 16) ∨ (i = 59 ∧ k = 17)) M M := Fr.rf
  unfold f_X7_text_b24 at h
  rcases ite_or h with h | h
  · rcases ite_or h with h | h
    · exact F.trans (fr_X7_text_j74 h)
    · obtain ⟨r_6, hr_6, h⟩ := bnd h
      clear hr_6
      rcases ite_or h with h | h
      · obtain ⟨r_9, hr_9, h⟩ := bnd h
        replace F := F.trans ((fr_X7_needs hr_9).mono (fun i k h => by omega))
        obtain ⟨r_10, hr_10, h⟩ := bnd h
        replace F := F.trans ((fr_X7_item hr_10).mono (fun i k h => by omega))
        exact F.trans (hk24 _ _ _ h)
      · obtain ⟨r_7, hr_7, h⟩ := bnd h
        replace F := F.trans ((fr_X7_needs hr_7).mono (fun i k h => by omega))
        obtain ⟨r_8, hr_8, h⟩ := bnd h
        replace F := F.trans ((fr_X7_item hr_8).mono (fun i k h => by omega))
        exact F.trans (hk24 _ _ _ h)
  · exact F.trans (fr_X7_text_j74 h)
theorem fr_X7_text_l24 : ∀ (n : Nat) (x1 : Int32) (M : Mem) (R : Int32 × Mem), f_X7_text_l24 n x1 M = some R → Fr (fun i k => i = 60 ∨ i = 62 ∨ (i = 59 ∧ k = 13) ∨ (i = 59 ∧ k = 14) ∨ (i = 59 ∧ k = 15) ∨ (i = 59 ∧ k = 16) ∨ (i = 59 ∧ k = 17)) M R.2 := by
  intro n
  induction n with
  | zero => intro x1 M R h; cases h
  | succ n ih => intro x1 M R h; exact fr_X7_text_b24 ih h
theorem fr_X7_text {M : Mem} {R : Int32 × Mem} (h : f_X7_text M = some R) : Fr (fun i k => i = 60 ∨ i = 62 ∨ (i = 59 ∧ k = 13) ∨ (i = 59 ∧ k = 14) ∨ (i = 59 ∧ k = 15) ∨ (i = 59 ∧ k = 16) ∨ (i = 59 ∧ k = 17)) M R.2 := by
  have F : Fr (fun i k => i = 60 ∨ i = 62 ∨ (i = 59 ∧ k = 13) ∨ (i = 59 ∧ k = 14) ∨ (i = 59 ∧ k = 15) ∨ (i = 59 ∧ k = 16) ∨ (i = 59 ∧ k = 17)) M M := Fr.rf
  unfold f_X7_text at h
  obtain ⟨r_1, hr_1, h⟩ := bnd h
  replace F := F.trans ((fr_X7_saves hr_1).mono (fun i k h => by omega))
  obtain ⟨M_2, hM_2, h⟩ := letv_ex h
  replace F := F.put hM_2 (by omega)
  obtain ⟨M_3, hM_3, h⟩ := letv_ex h
  replace F := F.put hM_3 (by omega)
  obtain ⟨r_4, hr_4, h⟩ := bnd h
  replace F := F.trans ((fr_X7_token hr_4).mono (fun i k h => by omega))
  obtain ⟨r_5, hr_5, h⟩ := bnd h
  replace F := F.trans ((fr_X7_item hr_5).mono (fun i k h => by omega))
  exact F.trans (fr_X7_text_l24 _ _ _ _ h)
theorem fr_X7_hold {x1 : Int32} {x2 : Int32} {M : Mem} {R : Int32 × Mem} (h : f_X7_hold x1 x2 M = some R) : Fr (fun i k => i = 60 ∨ i = 63) M R.2 := by
  have F : Fr (fun i k => i = 60 ∨ i = 63) M M := Fr.rf
  unfold f_X7_hold at h
  obtain ⟨r_1, hr_1, h⟩ := bnd h
  clear hr_1
  rcases ite_or h with h | h
  · obtain ⟨r_2, hr_2, h⟩ := bnd h
    replace F := F.trans ((fr_X7_finds hr_2).mono (fun i k h => by omega))
    rw [← Option.some.inj h]; exact F
  · rcases ite_or h with h | h
    · obtain ⟨_, h⟩ := ck_some h
      obtain ⟨M_4, hM_4, h⟩ := letv_ex h
      replace F := F.put hM_4 (by omega)
      rw [← Option.some.inj h]; exact F
    · obtain ⟨r_5, hr_5, h⟩ := bnd h
      clear hr_5
      rcases ite_or h with h | h
      · obtain ⟨r_8, hr_8, h⟩ := bnd h
        replace F := F.trans ((fr_X7_finds hr_8).mono (fun i k h => by omega))
        rw [← Option.some.inj h]; exact F
      · obtain ⟨_, h⟩ := ck_some h
        obtain ⟨M_7, hM_7, h⟩ := letv_ex h
        replace F := F.put hM_7 (by omega)
        rw [← Option.some.inj h]; exact F
theorem fr_X7_as_j82 {x2 : Int32} {x3 : Int32} {x4 : Int32} {M : Mem} {R : Int32 × Mem} (h : f_X7_as_j82 x2 x3 x4 M = some R) : Fr (fun i k => i = 63) M R.2 := by
  have F : Fr (fun i k => i = 63) M M := Fr.rf
  unfold f_X7_as_j82 at h
  rcases ite_or h with h | h
  · rcases ite_or h with h | h
    · rcases ite_or h with h | h
      · obtain ⟨r_13, hr_13, h⟩ := bnd h
        replace F := F.trans ((fr_X7_finds hr_13).mono (fun i k h => by omega))
        rw [← Option.some.inj h]; exact F
      · rw [← Option.some.inj h]; exact F
    · rcases ite_or h with h | h
      · rcases ite_or h with h | h
        · obtain ⟨r_15, hr_15, h⟩ := bnd h
          replace F := F.trans ((fr_X7_finds hr_15).mono (fun i k h => by omega))
          rw [← Option.some.inj h]; exact F
        · rw [← Option.some.inj h]; exact F
      · rcases ite_or h with h | h
        · obtain ⟨r_14, hr_14, h⟩ := bnd h
          replace F := F.trans ((fr_X7_finds hr_14).mono (fun i k h => by omega))
          rw [← Option.some.inj h]; exact F
        · rw [← Option.some.inj h]; exact F
  · rcases ite_or h with h | h
    · obtain ⟨r_12, hr_12, h⟩ := bnd h
      replace F := F.trans ((fr_X7_finds hr_12).mono (fun i k h => by omega))
      rw [← Option.some.inj h]; exact F
    · rw [← Option.some.inj h]; exact F
theorem fr_X7_as {x1 : Int32} {x2 : Int32} {M : Mem} {R : Int32 × Mem} (h : f_X7_as x1 x2 M = some R) : Fr (fun i k => i = 63) M R.2 := by
  have F : Fr (fun i k => i = 63) M M := Fr.rf
  unfold f_X7_as at h
  obtain ⟨r_1, hr_1, h⟩ := bnd h
  clear hr_1
  rcases ite_or h with h | h
  · obtain ⟨r_2, hr_2, h⟩ := bnd h
    replace F := F.trans ((fr_X7_finds hr_2).mono (fun i k h => by omega))
    rw [← Option.some.inj h]; exact F
  · obtain ⟨r_3, hr_3, h⟩ := bnd h
    clear hr_3
    rcases ite_or h with h | h
    · obtain ⟨r_11, hr_11, h⟩ := bnd h
      replace F := F.trans ((fr_X7_finds hr_11).mono (fun i k h => by omega))
      rw [← Option.some.inj h]; exact F
    · obtain ⟨_, h⟩ := ck_some h
      obtain ⟨x3_5, _, h⟩ := letv_ex h
      rcases ite_or h with h | h
      · obtain ⟨r_6, hr_6, h⟩ := bnd h
        clear hr_6
        rcases ite_or h with h | h
        · rcases ite_or h with h | h
          · obtain ⟨r_7, hr_7, h⟩ := bnd h
            replace F := F.trans ((fr_X7_finds hr_7).mono (fun i k h => by omega))
            rw [← Option.some.inj h]; exact F
          · rw [← Option.some.inj h]; exact F
        · rcases ite_or h with h | h
          · rcases ite_or h with h | h
            · obtain ⟨r_8, hr_8, h⟩ := bnd h
              replace F := F.trans ((fr_X7_finds hr_8).mono (fun i k h => by omega))
              rw [← Option.some.inj h]; exact F
            · rw [← Option.some.inj h]; exact F
          · rcases ite_or h with h | h
            · rcases ite_or h with h | h
              · rcases ite_or h with h | h
                · obtain ⟨r_9, hr_9, h⟩ := bnd h
                  replace F := F.trans ((fr_X7_finds hr_9).mono (fun i k h => by omega))
                  rw [← Option.some.inj h]; exact F
                · rw [← Option.some.inj h]; exact F
              · exact F.trans (fr_X7_as_j82 h)
            · exact F.trans (fr_X7_as_j82 h)
      · obtain ⟨r_10, hr_10, h⟩ := bnd h
        replace F := F.trans ((fr_X7_finds hr_10).mono (fun i k h => by omega))
        rw [← Option.some.inj h]; exact F
theorem fr_X7_sheet_b86 {k86 : Int32 → Int32 → Mem → Option (Int32 × Mem)} (hk86 : ∀ (x1 : Int32) (x4 : Int32) (M : Mem) (R : Int32 × Mem), k86 x1 x4 M = some R → Fr (fun i k => i = 63 ∨ i = 66 ∨ i = 67 ∨ i = 68) M R.2) {x1 : Int32} {x4 : Int32} {M : Mem} {R : Int32 × Mem} (h : f_X7_sheet_b86 k86 x1 x4 M = some R) : Fr (fun i k => i = 63 ∨ i = 66 ∨ i = 67 ∨ i = 68) M R.2 := by
  have F : Fr (fun i k => i = 63 ∨ i = 66 ∨ i = 67 ∨ i = 68) M M := Fr.rf
  unfold f_X7_sheet_b86 at h
  rcases ite_or h with h | h
  · obtain ⟨_, h⟩ := ck_some h
    rw [← Option.some.inj h]; exact F
  · obtain ⟨_, h⟩ := ck_some h
    obtain ⟨M_14, hM_14, h⟩ := letv_ex h
    replace F := F.put hM_14 (by omega)
    exact F.trans (hk86 _ _ _ _ h)
theorem fr_X7_sheet_l86 : ∀ (n : Nat) (x1 : Int32) (x4 : Int32) (M : Mem) (R : Int32 × Mem), f_X7_sheet_l86 n x1 x4 M = some R → Fr (fun i k => i = 63 ∨ i = 66 ∨ i = 67 ∨ i = 68) M R.2 := by
  intro n
  induction n with
  | zero => intro x1 x4 M R h; cases h
  | succ n ih => intro x1 x4 M R h; exact fr_X7_sheet_b86 ih h
theorem fr_X7_sheet_j36 {x1 : Int32} {x2 : Int32} {x3 : Int32} {M : Mem} {R : Int32 × Mem} (h : f_X7_sheet_j36 x1 x2 x3 M = some R) : Fr (fun i k => i = 63 ∨ i = 66 ∨ i = 67 ∨ i = 68) M R.2 := by
  have F : Fr (fun i k => i = 63 ∨ i = 66 ∨ i = 67 ∨ i = 68) M M := Fr.rf
  unfold f_X7_sheet_j36 at h
  rcases ite_or h with h | h
  · rcases ite_or h with h | h
    · obtain ⟨_, h⟩ := ck_some h
      obtain ⟨M_5, hM_5, h⟩ := letv_ex h
      replace F := F.put hM_5 (by omega)
      rcases ite_or h with h | h
      · obtain ⟨_, h⟩ := ck_some h
        obtain ⟨M_9, hM_9, h⟩ := letv_ex h
        replace F := F.put hM_9 (by omega)
        exact F.trans (fr_X7_sheet_l86 _ _ _ _ _ h)
      · obtain ⟨_, h⟩ := ck_some h
        obtain ⟨M_7, hM_7, h⟩ := letv_ex h
        replace F := F.put hM_7 (by omega)
        exact F.trans (fr_X7_sheet_l86 _ _ _ _ _ h)
    · obtain ⟨r_10, hr_10, h⟩ := bnd h
      replace F := F.trans ((fr_X7_finds hr_10).mono (fun i k h => by omega))
      rw [← Option.some.inj h]; exact F
  · obtain ⟨r_11, hr_11, h⟩ := bnd h
    replace F := F.trans ((fr_X7_finds hr_11).mono (fun i k h => by omega))
    rw [← Option.some.inj h]; exact F
theorem fr_X7_sheet {x1 : Int32} {x2 : Int32} {x3 : Int32} {M : Mem} {R : Int32 × Mem} (h : f_X7_sheet x1 x2 x3 M = some R) : Fr (fun i k => i = 63 ∨ i = 66 ∨ i = 67 ∨ i = 68) M R.2 := by
  have F : Fr (fun i k => i = 63 ∨ i = 66 ∨ i = 67 ∨ i = 68) M M := Fr.rf
  unfold f_X7_sheet at h
  obtain ⟨r_1, hr_1, h⟩ := bnd h
  clear hr_1
  rcases ite_or h with h | h
  · obtain ⟨r_2, hr_2, h⟩ := bnd h
    replace F := F.trans ((fr_X7_finds hr_2).mono (fun i k h => by omega))
    rw [← Option.some.inj h]; exact F
  · rcases ite_or h with h | h
    · exact F.trans (fr_X7_sheet_j36 h)
    · rcases ite_or h with h | h
      · exact F.trans (fr_X7_sheet_j36 h)
      · rcases ite_or h with h | h
        · exact F.trans (fr_X7_sheet_j36 h)
        · rcases ite_or h with h | h
          · exact F.trans (fr_X7_sheet_j36 h)
          · obtain ⟨r_3, hr_3, h⟩ := bnd h
            replace F := F.trans ((fr_X7_finds hr_3).mono (fun i k h => by omega))
            rw [← Option.some.inj h]; exact F
theorem fr_X7_write {x1 : Int32} {x2 : Int32} {x3 : Int32} {M : Mem} {R : Int32 × Mem} (h : f_X7_write x1 x2 x3 M = some R) : Fr (fun i k => i = 63 ∨ i = 68) M R.2 := by
  have F : Fr (fun i k => i = 63 ∨ i = 68) M M := Fr.rf
  unfold f_X7_write at h
  obtain ⟨r_1, hr_1, h⟩ := bnd h
  clear hr_1
  rcases ite_or h with h | h
  · obtain ⟨_, h⟩ := ck_some h
    obtain ⟨r_3, hr_3, h⟩ := bnd h
    clear hr_3
    rcases ite_or h with h | h
    · obtain ⟨r_8, hr_8, h⟩ := bnd h
      replace F := F.trans ((fr_X7_finds hr_8).mono (fun i k h => by omega))
      rw [← Option.some.inj h]; exact F
    · obtain ⟨_, h⟩ := ck_some h
      obtain ⟨r_5, hr_5, h⟩ := bnd h
      clear hr_5
      obtain ⟨_, h⟩ := ck_some h
      obtain ⟨M_7, hM_7, h⟩ := letv_ex h
      replace F := F.put hM_7 (by omega)
      rw [← Option.some.inj h]; exact F
  · obtain ⟨r_9, hr_9, h⟩ := bnd h
    replace F := F.trans ((fr_X7_finds hr_9).mono (fun i k h => by omega))
    rw [← Option.some.inj h]; exact F
theorem fr_X7_copy_b158 {k158 : Int32 → Int32 → Int32 → Int32 → Mem → Option (Int32 × Mem)} (hk158 : ∀ (x3 : Int32) (x4 : Int32) (x5 : Int32) (x6 : Int32) (M : Mem) (R : Int32 × Mem), k158 x3 x4 x5 x6 M = some R → Fr (fun i k => i = 63 ∨ i = 68 ∨ i = 69) M R.2) {x3 : Int32} {x4 : Int32} {x5 : Int32} {x6 : Int32} {M : Mem} {R : Int32 × Mem} (h : f_X7_copy_b158 k158 x3 x4 x5 x6 M = some R) : Fr (fun i k => i = 63 ∨ i = 68 ∨ i = 69) M R.2 := by
  have F : Fr (fun i k => i = 63 ∨ i = 68 ∨ i = 69) M M := Fr.rf
  unfold f_X7_copy_b158 at h
  rcases ite_or h with h | h
  · rw [← Option.some.inj h]; exact F
  · obtain ⟨_, h⟩ := ck_some h
    obtain ⟨_, h⟩ := ck_some h
    obtain ⟨M_24, hM_24, h⟩ := letv_ex h
    replace F := F.put hM_24 (by omega)
    exact F.trans (hk158 _ _ _ _ _ _ h)
theorem fr_X7_copy_l158 : ∀ (n : Nat) (x3 : Int32) (x4 : Int32) (x5 : Int32) (x6 : Int32) (M : Mem) (R : Int32 × Mem), f_X7_copy_l158 n x3 x4 x5 x6 M = some R → Fr (fun i k => i = 63 ∨ i = 68 ∨ i = 69) M R.2 := by
  intro n
  induction n with
  | zero => intro x3 x4 x5 x6 M R h; cases h
  | succ n ih => intro x3 x4 x5 x6 M R h; exact fr_X7_copy_b158 ih h
theorem fr_X7_copy_b121 {k121 : Int32 → Int32 → Int32 → Int32 → Int32 → Int32 → Mem → Option (Int32 × Mem)} (hk121 : ∀ (x1 : Int32) (x2 : Int32) (x3 : Int32) (x4 : Int32) (x5 : Int32) (x6 : Int32) (M : Mem) (R : Int32 × Mem), k121 x1 x2 x3 x4 x5 x6 M = some R → Fr (fun i k => i = 63 ∨ i = 68 ∨ i = 69) M R.2) {x1 : Int32} {x2 : Int32} {x3 : Int32} {x4 : Int32} {x5 : Int32} {x6 : Int32} {M : Mem} {R : Int32 × Mem} (h : f_X7_copy_b121 k121 x1 x2 x3 x4 x5 x6 M = some R) : Fr (fun i k => i = 63 ∨ i = 68 ∨ i = 69) M R.2 := by
  have F : Fr (fun i k => i = 63 ∨ i = 68 ∨ i = 69) M M := Fr.rf
  unfold f_X7_copy_b121 at h
  rcases ite_or h with h | h
  · exact F.trans (fr_X7_copy_l158 _ _ _ _ _ _ _ h)
  · obtain ⟨_, h⟩ := ck_some h
    obtain ⟨_, h⟩ := ck_some h
    obtain ⟨M_21, hM_21, h⟩ := letv_ex h
    replace F := F.put hM_21 (by omega)
    exact F.trans (hk121 _ _ _ _ _ _ _ _ h)
theorem fr_X7_copy_l121 : ∀ (n : Nat) (x1 : Int32) (x2 : Int32) (x3 : Int32) (x4 : Int32) (x5 : Int32) (x6 : Int32) (M : Mem) (R : Int32 × Mem), f_X7_copy_l121 n x1 x2 x3 x4 x5 x6 M = some R → Fr (fun i k => i = 63 ∨ i = 68 ∨ i = 69) M R.2 := by
  intro n
  induction n with
  | zero => intro x1 x2 x3 x4 x5 x6 M R h; cases h
  | succ n ih => intro x1 x2 x3 x4 x5 x6 M R h; exact fr_X7_copy_b121 ih h
theorem fr_X7_copy {x1 : Int32} {x2 : Int32} {x3 : Int32} {x4 : Int32} {x5 : Int32} {M : Mem} {R : Int32 × Mem} (h : f_X7_copy x1 x2 x3 x4 x5 M = some R) : Fr (fun i k => i = 63 ∨ i = 68 ∨ i = 69) M R.2 := by
  have F : Fr (fun i k => i = 63 ∨ i = 68 ∨ i = 69) M M := Fr.rf
  unfold f_X7_copy at h
  obtain ⟨r_1, hr_1, h⟩ := bnd h
  clear hr_1
  rcases ite_or h with h | h
  · obtain ⟨r_2, hr_2, h⟩ := bnd h
    replace F := F.trans ((fr_X7_finds hr_2).mono (fun i k h => by omega))
    rw [← Option.some.inj h]; exact F
  · obtain ⟨r_3, hr_3, h⟩ := bnd h
    clear hr_3
    rcases ite_or h with h | h
    · obtain ⟨r_18, hr_18, h⟩ := bnd h
      replace F := F.trans ((fr_X7_finds hr_18).mono (fun i k h => by omega))
      rw [← Option.some.inj h]; exact F
    · obtain ⟨_, h⟩ := ck_some h
      rcases ite_or h with h | h
      · obtain ⟨r_5, hr_5, h⟩ := bnd h
        replace F := F.trans ((fr_X7_finds hr_5).mono (fun i k h => by omega))
        rw [← Option.some.inj h]; exact F
      · obtain ⟨_, h⟩ := ck_some h
        rcases ite_or h with h | h
        · obtain ⟨r_17, hr_17, h⟩ := bnd h
          replace F := F.trans ((fr_X7_finds hr_17).mono (fun i k h => by omega))
          rw [← Option.some.inj h]; exact F
        · obtain ⟨_, h⟩ := ck_some h
          obtain ⟨_, h⟩ := ck_some h
          rcases ite_or h with h | h
          · rcases ite_or h with h | h
            · obtain ⟨r_9, hr_9, h⟩ := bnd h
              replace F := F.trans ((fr_X7_finds hr_9).mono (fun i k h => by omega))
              rw [← Option.some.inj h]; exact F
            · rcases ite_or h with h | h
              · obtain ⟨r_10, hr_10, h⟩ := bnd h
                replace F := F.trans ((fr_X7_finds hr_10).mono (fun i k h => by omega))
                rw [← Option.some.inj h]; exact F
              · rcases ite_or h with h | h
                · obtain ⟨r_11, hr_11, h⟩ := bnd h
                  replace F := F.trans ((fr_X7_finds hr_11).mono (fun i k h => by omega))
                  rw [← Option.some.inj h]; exact F
                · obtain ⟨_, h⟩ := ck_some h
                  rcases ite_or h with h | h
                  · obtain ⟨r_13, hr_13, h⟩ := bnd h
                    replace F := F.trans ((fr_X7_finds hr_13).mono (fun i k h => by omega))
                    rw [← Option.some.inj h]; exact F
                  · obtain ⟨_, h⟩ := ck_some h
                    rcases ite_or h with h | h
                    · exact F.trans (fr_X7_copy_l121 _ _ _ _ _ _ _ _ _ h)
                    · obtain ⟨r_15, hr_15, h⟩ := bnd h
                      replace F := F.trans ((fr_X7_finds hr_15).mono (fun i k h => by omega))
                      rw [← Option.some.inj h]; exact F
          · obtain ⟨r_16, hr_16, h⟩ := bnd h
            replace F := F.trans ((fr_X7_finds hr_16).mono (fun i k h => by omega))
            rw [← Option.some.inj h]; exact F
theorem fr_X7_load_b18 {k18 : Int32 → Int32 → Mem → Option (Int32 × Mem)} (hk18 : ∀ (x1 : Int32) (x3 : Int32) (M : Mem) (R : Int32 × Mem), k18 x1 x3 M = some R → Fr (fun i k => i = 60 ∨ i = 63) M R.2) {x1 : Int32} {x3 : Int32} {M : Mem} {R : Int32 × Mem} (h : f_X7_load_b18 k18 x1 x3 M = some R) : Fr (fun i k => i = 60 ∨ i = 63) M R.2 := by
  have F : Fr (fun i k => i = 60 ∨ i = 63) M M := Fr.rf
  unfold f_X7_load_b18 at h
  obtain ⟨_, h⟩ := ck_some h
  rcases ite_or h with h | h
  · rw [← Option.some.inj h]; exact F
  · obtain ⟨_, h⟩ := ck_some h
    rcases ite_or h with h | h
    · rw [← Option.some.inj h]; exact F
    · obtain ⟨_, h⟩ := ck_some h
      obtain ⟨r_6, hr_6, h⟩ := bnd h
      clear hr_6
      rcases ite_or h with h | h
      · rw [← Option.some.inj h]; exact F
      · obtain ⟨r_7, hr_7, h⟩ := bnd h
        clear hr_7
        obtain ⟨_, h⟩ := ck_some h
        obtain ⟨_, h⟩ := ck_some h
        obtain ⟨M_10, hM_10, h⟩ := letv_ex h
        replace F := F.put hM_10 (by omega)
        exact F.trans (hk18 _ _ _ _ h)
theorem fr_X7_load_l18 : ∀ (n : Nat) (x1 : Int32) (x3 : Int32) (M : Mem) (R : Int32 × Mem), f_X7_load_l18 n x1 x3 M = some R → Fr (fun i k => i = 60 ∨ i = 63) M R.2 := by
  intro n
  induction n with
  | zero => intro x1 x3 M R h; cases h
  | succ n ih => intro x1 x3 M R h; exact fr_X7_load_b18 ih h
theorem fr_X7_load {x1 : Int32} {M : Mem} {R : Int32 × Mem} (h : f_X7_load x1 M = some R) : Fr (fun i k => i = 60 ∨ i = 63) M R.2 := by
  have F : Fr (fun i k => i = 60 ∨ i = 63) M M := Fr.rf
  unfold f_X7_load at h
  obtain ⟨r_1, hr_1, h⟩ := bnd h
  clear hr_1
  rcases ite_or h with h | h
  · exact F.trans (fr_X7_load_l18 _ _ _ _ _ h)
  · obtain ⟨r_2, hr_2, h⟩ := bnd h
    replace F := F.trans ((fr_X7_finds hr_2).mono (fun i k h => by omega))
    rw [← Option.some.inj h]; exact F
theorem fr_X7_judge_j83 {k37 : Int32 → Int32 → Int32 → Int32 → Mem → Option (Int32 × Mem)} (hk37 : ∀ (x1 : Int32) (x2 : Int32) (x4 : Int32) (x5 : Int32) (M : Mem) (R : Int32 × Mem), k37 x1 x2 x4 x5 M = some R → Fr (fun i k => i = 63 ∨ (i = 59 ∧ k = 10) ∨ (i = 59 ∧ k = 6) ∨ (i = 59 ∧ k = 7) ∨ (i = 59 ∧ k = 8) ∨ (i = 59 ∧ k = 9)) M R.2) {x1 : Int32} {x2 : Int32} {x4 : Int32} {t0 : Int32} {M : Mem} {R : Int32 × Mem} (h : f_X7_judge_j83 k37 x1 x2 x4 t0 M = some R) : Fr (fun i k => i = 63 ∨ (i = 59 ∧ k = 10) ∨ (i = 59 ∧ k = 6) ∨ (i = 59 ∧ k = 7) ∨ (i = 59 ∧ k = 8) ∨ (i = 59 ∧ k = 9)) M R.2 := by
  have F : Fr (fun i k => i = 63 ∨ (i = 59 ∧ k = 10) ∨ (i = 59 ∧ k = 6) ∨ (i = 59 ∧ k = 7) ∨ (i = 59 ∧ k = 8) ∨ (i = 59 ∧ k = 9)) M M := Fr.rf
  unfold f_X7_judge_j83 at h
  rcases ite_or h with h | h
  · obtain ⟨x4_8, _, h⟩ := letv_ex h
    exact F.trans (hk37 _ _ _ _ _ _ h)
  · obtain ⟨x4_9, _, h⟩ := letv_ex h
    exact F.trans (hk37 _ _ _ _ _ _ h)
theorem fr_X7_judge_b37 {k37 : Int32 → Int32 → Int32 → Int32 → Mem → Option (Int32 × Mem)} (hk37 : ∀ (x1 : Int32) (x2 : Int32) (x4 : Int32) (x5 : Int32) (M : Mem) (R : Int32 × Mem), k37 x1 x2 x4 x5 M = some R → Fr (fun i k => i = 63 ∨ (i = 59 ∧ k = 10) ∨ (i = 59 ∧ k = 6) ∨ (i = 59 ∧ k = 7) ∨ (i = 59 ∧ k = 8) ∨ (i = 59 ∧ k = 9)) M R.2) {x1 : Int32} {x2 : Int32} {x4 : Int32} {x5 : Int32} {M : Mem} {R : Int32 × Mem} (h : f_X7_judge_b37 k37 x1 x2 x4 x5 M = some R) : Fr (fun i k => i = 63 ∨ (i = 59 ∧ k = 10) ∨ (i = 59 ∧ k = 6) ∨ (i = 59 ∧ k = 7) ∨ (i = 59 ∧ k = 8) ∨ (i = 59 ∧ k = 9)) M R.2 := by
  have F : Fr (fun i k => i = 63 ∨ (i = 59 ∧ k = 10) ∨ (i = 59 ∧ k = 6) ∨ (i = 59 ∧ k = 7) ∨ (i = 59 ∧ k = 8) ∨ (i = 59 ∧ k = 9)) M M := Fr.rf
  unfold f_X7_judge_b37 at h
  rcases ite_or h with h | h
  · rcases ite_or h with h | h
    · rw [← Option.some.inj h]; exact F
    · rw [← Option.some.inj h]; exact F
  · obtain ⟨_, h⟩ := ck_some h
    rcases ite_or h with h | h
    · rcases ite_or h with h | h
      · rw [← Option.some.inj h]; exact F
      · rw [← Option.some.inj h]; exact F
    · obtain ⟨_, h⟩ := ck_some h
      obtain ⟨r_7, hr_7, h⟩ := bnd h
      replace F := F.trans ((fr_X7_findSaid hr_7).mono (fun i k h => by omega))
      rcases ite_or h with h | h
      · exact F.trans (fr_X7_judge_j83 hk37 h)
      · exact F.trans (fr_X7_judge_j83 hk37 h)
theorem fr_X7_judge_l37 : ∀ (n : Nat) (x1 : Int32) (x2 : Int32) (x4 : Int32) (x5 : Int32) (M : Mem) (R : Int32 × Mem), f_X7_judge_l37 n x1 x2 x4 x5 M = some R → Fr (fun i k => i = 63 ∨ (i = 59 ∧ k = 10) ∨ (i = 59 ∧ k = 6) ∨ (i = 59 ∧ k = 7) ∨ (i = 59 ∧ k = 8) ∨ (i = 59 ∧ k = 9)) M R.2 := by
  intro n
  induction n with
  | zero => intro x1 x2 x4 x5 M R h; cases h
  | succ n ih => intro x1 x2 x4 x5 M R h; exact fr_X7_judge_b37 ih h
theorem fr_X7_judge {x1 : Int32} {x2 : Int32} {M : Mem} {R : Int32 × Mem} (h : f_X7_judge x1 x2 M = some R) : Fr (fun i k => i = 63 ∨ (i = 59 ∧ k = 10) ∨ (i = 59 ∧ k = 6) ∨ (i = 59 ∧ k = 7) ∨ (i = 59 ∧ k = 8) ∨ (i = 59 ∧ k = 9)) M R.2 := by
  have F : Fr (fun i k => i = 63 ∨ (i = 59 ∧ k = 10) ∨ (i = 59 ∧ k = 6) ∨ (i = 59 ∧ k = 7) ∨ (i = 59 ∧ k = 8) ∨ (i = 59 ∧ k = 9)) M M := Fr.rf
  unfold f_X7_judge at h
  obtain ⟨r_1, hr_1, h⟩ := bnd h
  clear hr_1
  rcases ite_or h with h | h
  · obtain ⟨r_2, hr_2, h⟩ := bnd h
    clear hr_2
    rcases ite_or h with h | h
    · obtain ⟨r_3, hr_3, h⟩ := bnd h
      replace F := F.trans ((fr_X7_finds hr_3).mono (fun i k h => by omega))
      rw [← Option.some.inj h]; exact F
    · exact F.trans (fr_X7_judge_l37 _ _ _ _ _ _ _ h)
  · obtain ⟨r_4, hr_4, h⟩ := bnd h
    replace F := F.trans ((fr_X7_finds hr_4).mono (fun i k h => by omega))
    rw [← Option.some.inj h]; exact F
theorem fr_X7_image_b2 {k2 : Int32 → Mem → Option (Int32 × Mem)} (hk2 : ∀ (x1 : Int32) (M : Mem) (R : Int32 × Mem), k2 x1 M = some R → Fr (fun i k => i = 61 ∨ (i = 59 ∧ k = 4)) M R.2) {x1 : Int32} {M : Mem} {R : Int32 × Mem} (h : f_X7_image_b2 k2 x1 M = some R) : Fr (fun i k => i = 61 ∨ (i = 59 ∧ k = 4)) M R.2 := by
  have F : Fr (fun i k => i = 61 ∨ (i = 59 ∧ k = 4)) M M := Fr.rf
  unfold f_X7_image_b2 at h
  rcases ite_or h with h | h
  · obtain ⟨M_1, hM_1, h⟩ := letv_ex h
    replace F := F.put hM_1 (by omega)
    rw [← Option.some.inj h]; exact F
  · obtain ⟨_, h⟩ := ck_some h
    obtain ⟨_, h⟩ := ck_some h
    obtain ⟨M_4, hM_4, h⟩ := letv_ex h
    replace F := F.put hM_4 (by omega)
    exact F.trans (hk2 _ _ _ h)
theorem fr_X7_image_l2 : ∀ (n : Nat) (x1 : Int32) (M : Mem) (R : Int32 × Mem), f_X7_image_l2 n x1 M = some R → Fr (fun i k => i = 61 ∨ (i = 59 ∧ k = 4)) M R.2 := by
  intro n
  induction n with
  | zero => intro x1 M R h; cases h
  | succ n ih => intro x1 M R h; exact fr_X7_image_b2 ih h
theorem fr_X7_image {M : Mem} {R : Int32 × Mem} (h : f_X7_image M = some R) : Fr (fun i k => i = 61 ∨ (i = 59 ∧ k = 4)) M R.2 := by
  have F : Fr (fun i k => i = 61 ∨ (i = 59 ∧ k = 4)) M M := Fr.rf
  unfold f_X7_image at h
  exact F.trans (fr_X7_image_l2 _ _ _ _ h)
theorem fr_X7_undo_b16 {k16 : Int32 → Mem → Option (Int32 × Mem)} (hk16 : ∀ (x1 : Int32) (M : Mem) (R : Int32 × Mem), k16 x1 M = some R → Fr (fun i k => i = 60 ∨ i = 63) M R.2) {x1 : Int32} {M : Mem} {R : Int32 × Mem} (h : f_X7_undo_b16 k16 x1 M = some R) : Fr (fun i k => i = 60 ∨ i = 63) M R.2 := by
  have F : Fr (fun i k => i = 60 ∨ i = 63) M M := Fr.rf
  unfold f_X7_undo_b16 at h
  rcases ite_or h with h | h
  · obtain ⟨_, h⟩ := ck_some h
    rw [← Option.some.inj h]; exact F
  · obtain ⟨_, h⟩ := ck_some h
    obtain ⟨_, h⟩ := ck_some h
    obtain ⟨M_5, hM_5, h⟩ := letv_ex h
    replace F := F.put hM_5 (by omega)
    exact F.trans (hk16 _ _ _ h)
theorem fr_X7_undo_l16 : ∀ (n : Nat) (x1 : Int32) (M : Mem) (R : Int32 × Mem), f_X7_undo_l16 n x1 M = some R → Fr (fun i k => i = 60 ∨ i = 63) M R.2 := by
  intro n
  induction n with
  | zero => intro x1 M R h; cases h
  | succ n ih => intro x1 M R h; exact fr_X7_undo_b16 ih h
theorem fr_X7_undo {M : Mem} {R : Int32 × Mem} (h : f_X7_undo M = some R) : Fr (fun i k => i = 60 ∨ i = 63) M R.2 := by
  have F : Fr (fun i k => i = 60 ∨ i = 63) M M := Fr.rf
  unfold f_X7_undo at h
  rcases ite_or h with h | h
  · obtain ⟨r_1, hr_1, h⟩ := bnd h
    replace F := F.trans ((fr_X7_finds hr_1).mono (fun i k h => by omega))
    rw [← Option.some.inj h]; exact F
  · exact F.trans (fr_X7_undo_l16 _ _ _ _ h)
theorem fr_X7_tear {M : Mem} {R : Int32 × Mem} (h : f_X7_tear M = some R) : Fr (fun i k => (i = 59 ∧ k = 4)) M R.2 := by
  have F : Fr (fun i k => (i = 59 ∧ k = 4)) M M := Fr.rf
  unfold f_X7_tear at h
  rcases ite_or h with h | h
  · obtain ⟨M_1, hM_1, h⟩ := letv_ex h
    replace F := F.put hM_1 (by omega)
    rw [← Option.some.inj h]; exact F
  · obtain ⟨M_2, hM_2, h⟩ := letv_ex h
    replace F := F.put hM_2 (by omega)
    rw [← Option.some.inj h]; exact F
theorem fr_X7_count {x1 : Int32} {M : Mem} {R : Int32 × Mem} (h : f_X7_count x1 M = some R) : Fr (fun i k => i = 63) M R.2 := by
  have F : Fr (fun i k => i = 63) M M := Fr.rf
  unfold f_X7_count at h
  rcases ite_or h with h | h
  · obtain ⟨_, h⟩ := ck_some h
    rw [← Option.some.inj h]; exact F
  · rcases ite_or h with h | h
    · obtain ⟨_, h⟩ := ck_some h
      rw [← Option.some.inj h]; exact F
    · rcases ite_or h with h | h
      · obtain ⟨r_3, hr_3, h⟩ := bnd h
        clear hr_3
        rw [← Option.some.inj h]; exact F
      · rcases ite_or h with h | h
        · obtain ⟨r_4, hr_4, h⟩ := bnd h
          clear hr_4
          rw [← Option.some.inj h]; exact F
        · rcases ite_or h with h | h
          · obtain ⟨r_5, hr_5, h⟩ := bnd h
            clear hr_5
            rw [← Option.some.inj h]; exact F
          · rcases ite_or h with h | h
            · rw [← Option.some.inj h]; exact F
            · rcases ite_or h with h | h
              · obtain ⟨_, h⟩ := ck_some h
                rw [← Option.some.inj h]; exact F
              · rcases ite_or h with h | h
                · obtain ⟨r_7, hr_7, h⟩ := bnd h
                  clear hr_7
                  rw [← Option.some.inj h]; exact F
                · obtain ⟨r_8, hr_8, h⟩ := bnd h
                  replace F := F.trans ((fr_X7_finds hr_8).mono (fun i k h => by omega))
                  rw [← Option.some.inj h]; exact F
theorem fr_X7_status_b25 {k25 : Int32 → Int32 → Int32 → Mem → Option (Int32 × Mem)} (hk25 : ∀ (x1 : Int32) (x2 : Int32) (x3 : Int32) (M : Mem) (R : Int32 × Mem), k25 x1 x2 x3 M = some R → Fr (fun i k => i = 63) M R.2) {x1 : Int32} {x2 : Int32} {x3 : Int32} {M : Mem} {R : Int32 × Mem} (h : f_X7_status_b25 k25 x1 x2 x3 M = some R) : Fr (fun i k => i = 63) M R.2 := by
  have F : Fr (fun i k => i = 63) M M := Fr.rf
  unfold f_X7_status_b25 at h
  rcases ite_or h with h | h
  · rw [← Option.some.inj h]; exact F
  · rcases ite_or h with h | h
    · obtain ⟨_, h⟩ := ck_some h
      obtain ⟨x2_4, _, h⟩ := letv_ex h
      exact F.trans (hk25 _ _ _ _ _ h)
    · rcases ite_or h with h | h
      · obtain ⟨_, h⟩ := ck_some h
        obtain ⟨x2_7, _, h⟩ := letv_ex h
        exact F.trans (hk25 _ _ _ _ _ h)
      · obtain ⟨x2_5, _, h⟩ := letv_ex h
        exact F.trans (hk25 _ _ _ _ _ h)
theorem fr_X7_status_l25 : ∀ (n : Nat) (x1 : Int32) (x2 : Int32) (x3 : Int32) (M : Mem) (R : Int32 × Mem), f_X7_status_l25 n x1 x2 x3 M = some R → Fr (fun i k => i = 63) M R.2 := by
  intro n
  induction n with
  | zero => intro x1 x2 x3 M R h; cases h
  | succ n ih => intro x1 x2 x3 M R h; exact fr_X7_status_b25 ih h
theorem fr_X7_status {x1 : Int32} {M : Mem} {R : Int32 × Mem} (h : f_X7_status x1 M = some R) : Fr (fun i k => i = 63) M R.2 := by
  have F : Fr (fun i k => i = 63) M M := Fr.rf
  unfold f_X7_status at h
  obtain ⟨r_1, hr_1, h⟩ := bnd h
  clear hr_1
  rcases ite_or h with h | h
  · obtain ⟨r_2, hr_2, h⟩ := bnd h
    replace F := F.trans ((fr_X7_finds hr_2).mono (fun i k h => by omega))
    rw [← Option.some.inj h]; exact F
  · exact F.trans (fr_X7_status_l25 _ _ _ _ _ _ h)
