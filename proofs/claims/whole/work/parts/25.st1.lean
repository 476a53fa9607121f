section ST1
variable {M N : Mem}
theorem hW {nw np : Nat} (w : RW 1 M (N 60)) (o : Ok (N 60) nw np) : M 2 0 = nI nw := w.1.1.trans o.1.2.2.1
theorem hP {nw np : Nat} (w : RW 1 M (N 60)) (o : Ok (N 60) nw np) : M 9 0 = nI np := w.1.2.1.trans o.1.2.2.2.1
theorem lt7 {x : Int32} (h : inR x 7 = true) : Lt x 7 := inR_t (n := 7) (by decide) h
theorem lt12 {x : Int32} (h : inR x 12 = true) : Lt x 12 := inR_t (n := 12) (by decide) h
theorem lt4096 {x : Int32} (h : inR x 4096 = true) : Lt x 4096 := inR_t (n := 4096) (by decide) h
theorem st_puts (h : Rel M N) (x1 x2 : Int32) : Sim (f_X6_puts x1 x2 M) (f_X7_puts x1 x2 N) := by
  obtain ⟨w, nw, np, o⟩ := h.1
  unfold f_X6_puts f_X7_puts
  rw [x_has5, hW w o, m_isWriter x1 o.1.1 o.1.2.2.1, bs, bs, ib, ib]
  cases h1 : inR x1 (nI nw)
  · exact s_B h
  rw [if_pos rfl, if_pos rfl, x_isSaying, m_isSaying, bs, bs, ib, ib]
  cases h2 : inR x2 4096
  · exact s_B h
  obtain ⟨j, hj, rfl⟩ := inR_t (by have := o.1.1; omega) h1
  rw [if_pos rfl, if_pos rfl, show f_X5_make 2 (nI j) x2 M = _ from xw_make w o hj x2, mw_put o hj (lt4096 h2)]
  exact s_ok h _
theorem st_says (h : Rel M N) (x1 : Int32) : Sim (f_X6_says x1 M) (f_X7_says x1 N) := by
  obtain ⟨w, nw, np, o⟩ := h.1
  unfold f_X6_says f_X7_says
  rw [x_has0, hP w o, m_isPerson x1 o.1.2.1 o.1.2.2.2.1, bs, bs, ib, ib]
  cases h1 : inR x1 (nI np)
  · exact s_B h
  obtain ⟨j, hj, rfl⟩ := inR_t (by have := o.1.2.1; omega) h1
  have h8 : j < 8 := Nat.lt_of_lt_of_le hj o.1.2.1
  rw [if_pos rfl, if_pos rfl, show f_X0_ownWords 9 (nI j) M = _ from xw_own w h8, mw_own h8]
  exact s_ok h _
theorem b3 {a b c : Bool} (h : (a && (b && c)) = true) : a = true ∧ b = true ∧ c = true := by
  cases a <;> cases b <;> cases c <;> simp at h ⊢
theorem st_read (h : Rel M N) (x1 x2 x3 : Int32) : Sim (f_X6_read x1 x2 x3 M) (f_X7_read x1 x2 x3 N) := by
  obtain ⟨w, nw, np, o⟩ := h.1
  unfold f_X6_read f_X7_read
  rw [x_areTwo, hP w o, m_isTwo x1 x2 o.1.2.1 o.1.2.2.2.1, bs, bs, ib, ib]
  cases h1 : (inR x1 (nI np) && (inR x2 (nI np) && decide (¬ x1 = x2)))
  · exact s_B h
  obtain ⟨a1, a2, a3⟩ := b3 h1
  rw [if_pos rfl, if_pos rfl, x_isSaying, m_isSaying, bs, bs, ib, ib]
  cases h2 : inR x3 4096
  · exact s_B h
  obtain ⟨p, hp, rfl⟩ := inR_t (by have := o.1.2.1; omega) a1
  obtain ⟨q, hq, rfl⟩ := inR_t (by have := o.1.2.1; omega) a2
  have l3 := lt4096 h2
  rw [if_pos rfl, if_pos rfl, xw_heard w o hp x3, mw_through o hp l3, bs, bs, xw_heard w o hq, mw_through o hq (th_lt o hp l3)]
  exact s_ok h _
theorem m_81 {p : Nat} (hp : p < 8) : (81 : Int32) + nI p = nI (81 + p) := nI_add 81 p
theorem st_ties (h : Rel M N) (x1 : Int32) : Sim (f_X6_ties x1 M) (f_X7_ties x1 N) := by
  obtain ⟨w, nw, np, o⟩ := h.1
  unfold f_X6_ties f_X7_ties
  rw [x_has0, hP w o, m_isPerson x1 o.1.2.1 o.1.2.2.2.1, bs, bs, ib, ib]
  cases h1 : inR x1 (nI np)
  · exact s_B h
  obtain ⟨j, hj, rfl⟩ := inR_t (by have := o.1.2.1; omega) h1
  have h8 : j < 8 := Nat.lt_of_lt_of_le hj o.1.2.1
  rw [if_pos rfl, if_pos rfl, ck_pos (vp_in_nI h8 (by decide)), m_81 h8, ck_pos (vp_in_nI (by omega) (by decide)), ix_nI (by omega), ix_nI (by omega), show M 15 j = N 60 (81 + j) from (w.2.2.1 j h8).2.2.2.2.2]
  exact s_ok h _
theorem x_row5 : ∀ k, k < 6 → f_X5_row 2 (nI k) M0 = some (some (2 + (k + 1))) := by decide
theorem x_row0 : ∀ k, k < 5 → f_X0_row 9 (nI k) M0 = some (some (9 + (k + 1))) := by decide
theorem nR {x : Int32} {n j : Nat} (hn : n < 2 ^ 31) (h : inR x (nI n) = false) (hj : j < n) : ¬ x = nI j := by
  rintro rfl
  rw [inR_nI hn hj] at h
  cases h
theorem x_row5n (r : Nat) {x : Int32} (h : inR x 6 = false) (M : Mem) : f_X5_row r x M = some none := by
  unfold f_X5_row
  rw [if_neg (show ¬ x = (0 : Int32) from nR (n := 6) (by decide) h (j := 0) (by decide)), if_neg (show ¬ x = (1 : Int32) from nR (n := 6) (by decide) h (j := 1) (by decide)), if_neg (show ¬ x = (2 : Int32) from nR (n := 6) (by decide) h (j := 2) (by decide)), if_neg (show ¬ x = (3 : Int32) from nR (n := 6) (by decide) h (j := 3) (by decide)), if_neg (show ¬ x = (4 : Int32) from nR (n := 6) (by decide) h (j := 4) (by decide)), if_neg (show ¬ x = (5 : Int32) from nR (n := 6) (by decide) h (j := 5) (by decide))]
theorem x_row0n (r : Nat) {x : Int32} (h : inR x 5 = false) (M : Mem) : f_X0_row r x M = some none := by
  unfold f_X0_row
  rw [if_neg (show ¬ x = (0 : Int32) from nR (n := 5) (by decide) h (j := 0) (by decide)), if_neg (show ¬ x = (1 : Int32) from nR (n := 5) (by decide) h (j := 1) (by decide)), if_neg (show ¬ x = (2 : Int32) from nR (n := 5) (by decide) h (j := 2) (by decide)), if_neg (show ¬ x = (3 : Int32) from nR (n := 5) (by decide) h (j := 3) (by decide)), if_neg (show ¬ x = (4 : Int32) from nR (n := 5) (by decide) h (j := 4) (by decide))]
theorem wCell {b : Nat} {M : Mem} {S : Nat → Int32} (w : RW b M S) {i k : Nat} (hi : i < 6) (hk : k < 6) : M (b + 1 + (k + 1)) i = S (5 + 6 * i + k) := by
  obtain ⟨a1, a2, a3, a4, a5, a6⟩ := w.2.1 i hi
  match k, hk with
  | 0, _ => exact a1
  | 1, _ => exact a2
  | 2, _ => exact a3
  | 3, _ => exact a4
  | 4, _ => exact a5
  | 5, _ => exact a6
theorem pCell {b : Nat} {M : Mem} {S : Nat → Int32} (w : RW b M S) {i k : Nat} (hi : i < 8) (hk : k < 5) : M (b + 8 + (k + 1)) i = S (41 + 5 * i + k) := by
  obtain ⟨a1, a2, a3, a4, a5, a6⟩ := w.2.2.1 i hi
  match k, hk with
  | 0, _ => exact a1
  | 1, _ => exact a2
  | 2, _ => exact a3
  | 3, _ => exact a4
  | 4, _ => exact a5
theorem k5 : ∀ k, k < 6 → IsK (2 + (k + 1)) 8 ∧ aln (2 + (k + 1)) = 6 := by unfold IsK; decide
theorem k0' : ∀ k, k < 5 → IsK (9 + (k + 1)) 8 ∧ aln (9 + (k + 1)) = 8 := by unfold IsK; decide
theorem st_writerOf (h : Rel M N) (x1 x2 : Int32) : Sim (f_X6_writerOf x1 x2 M) (f_X7_writerOf x1 x2 N) := by
  obtain ⟨w, nw, np, o⟩ := h.1
  have h6 := o.1.1
  unfold f_X6_writerOf f_X7_writerOf
  rw [m_isWriter x1 o.1.1 o.1.2.2.1, x_has5, hW w o, show f_X7_in x2.toInt64 0 5 N = some (inR x2 6) from m_inN x2 5 (by decide) N]
  simp only [bs, ib]
  cases h2 : inR x2 6
  · rw [x_row5n 2 h2, bs]
    cases h1 : inR x1 (nI nw)
    · exact s_B h
    · exact s_B h
  · obtain ⟨k, hk, rfl⟩ := inR_t (n := 6) (by decide) h2
    rw [show f_X5_row 2 (nI k) M = _ from x_row5 k hk, bs]
    show Sim (ck (IsK (2 + (k + 1)) 8) _) _
    rw [ck_pos (k5 k hk).1]
    cases h1 : inR x1 (nI nw)
    · exact s_B h
    · obtain ⟨j, hj, rfl⟩ := inR_t (by omega) h1
      rw [if_pos rfl, if_pos rfl, if_pos rfl, (k5 k hk).2, ck_pos (vp_in_nI (by omega) (by decide)), ix_nI (by omega), m_its (by omega) hk, bs, show M (2 + (k + 1)) j = _ from wCell w (by omega) hk]
      exact s_ok h _
def lawB (x v : Int32) : Bool := if x = 0 then inR v 7 else if x = 4 then inR v 100 else decide ((1 : Int32) ≤ x ∧ x ≤ 3) && inR v 4096
theorem x_isLaw (x v : Int32) (M : Mem) : f_X6_isLaw x v M = some (lawB x v) := by
  unfold f_X6_isLaw
  simp only [x_isKind, x_isSaying, bs]
  by_cases h0 : x = 0
  · rw [if_pos h0]; unfold lawB; rw [if_pos h0]
  rw [if_neg h0]
  by_cases h1 : x = 1
  · subst h1; rfl
  rw [if_neg h1]
  by_cases h2 : x = 2
  · subst h2; rfl
  rw [if_neg h2]
  by_cases h3 : x = 3
  · subst h3; rfl
  rw [if_neg h3]
  unfold lawB
  by_cases h4 : x = 4
  · rw [if_pos h4, if_neg h0, if_pos h4]
    exact (rng2 v 0 99).trans (congrArg some (r2R v 99 (by decide)))
  rw [if_neg h4, if_neg h0, if_neg h4, decide_eq_false (by
    have t1 := sw_ne (n := 1) h1
    have t2 := sw_ne (n := 2) h2
    have t3 := sw_ne (n := 3) h3
    rw [le_t, le_t]
    have e1 : (1 : Int32).toInt = 1 := by decide
    have e3 : (3 : Int32).toInt = 3 := by decide
    omega), Bool.false_and]
theorem m_isLaw (x v : Int32) (M : Mem) : f_X7_isLaw x v M = some (lawB x v) := by
  unfold f_X7_isLaw lawB
  rw [show f_X7_in v.toInt64 0 6 M = some (inR v 7) from m_inN v 6 (by decide) M, show f_X7_in v.toInt64 0 99 M = some (inR v 100) from m_inN v 99 (by decide) M, show f_X7_in x.toInt64 1 3 M = _ from m_in x 1 3 M, m_isSaying]
  simp only [bs, ib]
  by_cases h0 : x = 0
  · rw [if_pos h0, if_pos h0]
  rw [if_neg h0, if_neg h0]
  by_cases h4 : x = 4
  · rw [if_pos h4, if_pos h4]
  rw [if_neg h4, if_neg h4]
  cases decide ((1 : Int32) ≤ x ∧ x ≤ 3)
  · rfl
  · cases inR v 4096 <;> rfl
theorem lawB_n {x : Int32} (h : inR x 6 = false) (v : Int32) : lawB x v = false := by
  unfold lawB
  have n0 : ¬ x = (0 : Int32) := nR (n := 6) (by decide) h (j := 0) (by decide)
  have n4 : ¬ x = (4 : Int32) := nR (n := 6) (by decide) h (j := 4) (by decide)
  have t1 := sw_ne (n := 1) (nR (n := 6) (by decide) h (j := 1) (by decide))
  have t2 := sw_ne (n := 2) (nR (n := 6) (by decide) h (j := 2) (by decide))
  have t3 := sw_ne (n := 3) (nR (n := 6) (by decide) h (j := 3) (by decide))
  rw [if_neg n0, if_neg n4, decide_eq_false (by
    rw [le_t, le_t]
    have e1 : (1 : Int32).toInt = 1 := by decide
    have e3 : (3 : Int32).toInt = 3 := by decide
    omega), Bool.false_and]
def lawOK (k : Nat) (v : Int32) : Prop := k < 5 ∧ (k = 0 → Lt v 7) ∧ (1 ≤ k → k ≤ 3 → Lt v 4096) ∧ (k = 4 → Lt v 100)
theorem lawB_t {k : Nat} (hk : k < 6) {v : Int32} (h : lawB (nI k) v = true) : lawOK k v := by
  unfold lawOK
  match k, hk with
  | 0, _ => exact ⟨by omega, fun _ => inR_t (n := 7) (by decide) h, by omega, by omega⟩
  | 1, _ => exact ⟨by omega, by omega, fun _ _ => lt4096 h, by omega⟩
  | 2, _ => exact ⟨by omega, by omega, fun _ _ => lt4096 h, by omega⟩
  | 3, _ => exact ⟨by omega, by omega, fun _ _ => lt4096 h, by omega⟩
  | 4, _ => exact ⟨by omega, by omega, by omega, fun _ => inR_t (n := 100) (by decide) h⟩
  | 5, _ => exact absurd (show false = true from h) Bool.false_ne_true
theorem Rel.setL (h : Rel M N) {i c q : Nat} {v : Int32} (hi : 1 ≤ i ∧ i < 17) (w : RW 1 (up M i c v) (upd (N 60) q v)) (o : ∃ nw np, Ok (upd (N 60) q v) nw np) : Rel (up M i c v) (up N 60 q v) := by
  refine h.live (Fr.rf.put rfl (by unfold TCl; omega)) (Fr.rf.put rfl (by unfold TMl; omega)) ?_ ?_
  · rw [up_eq]; exact w
  · rw [up_eq]; exact o
theorem st_law (h : Rel M N) (x1 x2 x3 : Int32) : Sim (f_X6_law x1 x2 x3 M) (f_X7_law x1 x2 x3 N) := by
  obtain ⟨w, nw, np, o⟩ := h.1
  have h6 := o.1.1
  unfold f_X6_law f_X7_law
  rw [m_isWriter x1 o.1.1 o.1.2.2.1, x_has5, hW w o, m_isLaw, x_isLaw]
  simp only [bs, ib]
  cases h2 : inR x2 6
  · rw [x_row5n 2 h2, bs, lawB_n h2]
    cases h1 : inR x1 (nI nw)
    · exact s_B h
    · exact s_B h
  · obtain ⟨k, hk, rfl⟩ := inR_t (n := 6) (by decide) h2
    rw [show f_X5_row 2 (nI k) M = _ from x_row5 k hk, bs]
    show Sim (ck (IsK (2 + (k + 1)) 8) _) _
    rw [ck_pos (k5 k hk).1]
    cases h1 : inR x1 (nI nw)
    · exact s_B h
    cases h3 : lawB (nI k) x3
    · exact s_B h
    obtain ⟨g0, g1, g2, g3⟩ := lawB_t hk h3
    obtain ⟨j, hj, rfl⟩ := inR_t (by omega) h1
    simp only [if_true, (k5 k hk).2, ck_pos (vp_in_nI (N := 6) (show j < 6 by omega) (by decide)), ix_nI (show j < 2 ^ 31 by omega), m_its (show j < 6 by omega) hk, bs, m_at, ck_pos (vp_in_nI (N := 99) (show 5 + 6 * j + k < 99 by omega) (by decide)), ix_nI (show 5 + 6 * j + k < 2 ^ 31 by omega), letv, show M (2 + (k + 1)) j = _ from wCell w (show j < 6 by omega) hk]
    exact ⟨_, _, _, rfl, rfl, h.setL (by omega) (w.setW (by omega) hk x3) ⟨nw, np, o.setW (by omega) hk g1 g2 g3⟩⟩
end ST1
