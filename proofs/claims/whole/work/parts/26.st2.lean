section ST2
variable {M N : Mem}
def prtB (x v nw : Int32) : Bool := if x = 0 then inR v 4096 else if x = 1 then inR v 4096 else if x = 2 then inR v nw else if x = 3 then inR v 100000 else if x = 4 then inR v 2 else false
theorem inR2 (v : Int32) : (if v = 0 then some true else if v = 1 then some true else some false) = some (inR v 2) := by
  by_cases h0 : v = 0
  · subst h0; rfl
  rw [if_neg h0]
  by_cases h1 : v = 1
  · subst h1; rfl
  rw [if_neg h1]
  unfold inR
  rw [decide_eq_false (by
    have t0 := sw_ne (n := 0) h0
    have t1 := sw_ne (n := 1) h1
    rw [le_t, lt_t]
    have e0 : (0 : Int32).toInt = 0 := by decide
    have e2 : (2 : Int32).toInt = 2 := by decide
    omega)]
theorem x_isOf (x v : Int32) (M : Mem) : f_X6_isOfPerson x v M = some (prtB x v (M 2 0)) := by
  unfold f_X6_isOfPerson prtB
  simp only [x_isSaying, x_has5, bs]
  by_cases h0 : x = 0
  · rw [if_pos h0, if_pos h0]
  rw [if_neg h0, if_neg h0]
  by_cases h1 : x = 1
  · rw [if_pos h1, if_pos h1]
  rw [if_neg h1, if_neg h1]
  by_cases h2 : x = 2
  · rw [if_pos h2, if_pos h2]
  rw [if_neg h2, if_neg h2]
  by_cases h3 : x = 3
  · rw [if_pos h3, if_pos h3]
    exact (rng2 v 0 99999).trans (congrArg some (r2R v 99999 (by decide)))
  rw [if_neg h3, if_neg h3]
  by_cases h4 : x = 4
  · rw [if_pos h4, if_pos h4]
    exact inR2 v
  rw [if_neg h4, if_neg h4]
theorem m_isPart (x v : Int32) {M : Mem} {n : Nat} (hn : n ≤ 6) (h : M 60 0 = nI n) : f_X7_isPart x v M = some (prtB x v (nI n)) := by
  unfold f_X7_isPart prtB
  rw [m_isWriter v hn h, m_isSaying, show f_X7_in v.toInt64 0 99999 M = some (inR v 100000) from m_inN v 99999 (by decide) M, show f_X7_in v.toInt64 0 1 M = some (inR v 2) from m_inN v 1 (by decide) M]
  simp only [bs, ib]
  by_cases h0 : x = 0
  · rw [if_pos h0, if_pos h0]
  rw [if_neg h0, if_neg h0]
  by_cases h1 : x = 1
  · rw [if_pos h1, if_pos h1]
  rw [if_neg h1, if_neg h1]
  by_cases h2 : x = 2
  · rw [if_pos h2, if_pos h2]
  rw [if_neg h2, if_neg h2]
  by_cases h3 : x = 3
  · rw [if_pos h3, if_pos h3]
  rw [if_neg h3, if_neg h3]
  by_cases h4 : x = 4
  · rw [if_pos h4, if_pos h4]
    cases inR v 2 <;> rfl
  rw [if_neg h4, if_neg h4]
theorem prtB_n {x : Int32} (h : inR x 5 = false) (v nw : Int32) : prtB x v nw = false := by
  unfold prtB
  have n0 : ¬ x = (0 : Int32) := nR (n := 5) (by decide) h (j := 0) (by decide)
  have n1 : ¬ x = (1 : Int32) := nR (n := 5) (by decide) h (j := 1) (by decide)
  have n2 : ¬ x = (2 : Int32) := nR (n := 5) (by decide) h (j := 2) (by decide)
  have n3 : ¬ x = (3 : Int32) := nR (n := 5) (by decide) h (j := 3) (by decide)
  have n4 : ¬ x = (4 : Int32) := nR (n := 5) (by decide) h (j := 4) (by decide)
  rw [if_neg n0, if_neg n1, if_neg n2, if_neg n3, if_neg n4]
theorem lt2 {v : Int32} (h : inR v 2 = true) : v = 0 ∨ v = 1 := by
  obtain ⟨j, hj, rfl⟩ := inR_t (n := 2) (by decide) h
  match j, hj with
  | 0, _ => exact Or.inl rfl
  | 1, _ => exact Or.inr rfl
theorem prtB_t {k nw : Nat} (hk : k < 5) (hn : nw ≤ 6) {v : Int32} (h : prtB (nI k) v (nI nw) = true) : (k < 2 → Lt v 4096) ∧ (k = 2 → Lt v nw) ∧ (k = 4 → v = 0 ∨ v = 1) := by
  match k, hk with
  | 0, _ => exact ⟨fun _ => lt4096 h, by omega, by omega⟩
  | 1, _ => exact ⟨fun _ => lt4096 h, by omega, by omega⟩
  | 2, _ => exact ⟨by omega, fun _ => inR_t (by omega) h, by omega⟩
  | 3, _ => exact ⟨by omega, by omega, by omega⟩
  | 4, _ => exact ⟨by omega, by omega, fun _ => lt2 h⟩
theorem st_change (h : Rel M N) (x1 x2 x3 : Int32) : Sim (f_X6_change x1 x2 x3 M) (f_X7_change x1 x2 x3 N) := by
  obtain ⟨w, nw, np, o⟩ := h.1
  have h6 := o.1.1
  have h8 := o.1.2.1
  unfold f_X6_change f_X7_change
  rw [m_isPerson x1 h8 o.1.2.2.2.1, x_has0, hP w o, m_isPart x2 x3 h6 o.1.2.2.1, x_isOf, hW w o]
  simp only [bs, ib]
  cases h2 : inR x2 5
  · rw [x_row0n 9 h2, bs, prtB_n h2]
    cases h1 : inR x1 (nI np)
    · exact s_B h
    · exact s_B h
  · obtain ⟨k, hk, rfl⟩ := inR_t (n := 5) (by decide) h2
    rw [show f_X0_row 9 (nI k) M = _ from x_row0 k hk, bs]
    show Sim (ck (IsK (9 + (k + 1)) 8) _) _
    rw [ck_pos (k0' k hk).1]
    cases h1 : inR x1 (nI np)
    · exact s_B h
    cases h3 : prtB (nI k) x3 (nI nw)
    · exact s_B h
    obtain ⟨g1, g2, g3⟩ := prtB_t hk h6 h3
    obtain ⟨j, hj, rfl⟩ := inR_t (by omega) h1
    simp only [if_true, (k0' k hk).2, ck_pos (vp_in_nI (N := 8) (show j < 8 by omega) (by decide)), ix_nI (show j < 2 ^ 31 by omega), m_told (show j < 8 by omega) hk, bs, m_where, ck_pos (vp_in_nI (N := 99) (show 41 + 5 * j + k < 99 by omega) (by decide)), ix_nI (show 41 + 5 * j + k < 2 ^ 31 by omega), letv, show M (9 + (k + 1)) j = _ from pCell w (show j < 8 by omega) hk]
    exact ⟨_, _, _, rfl, rfl, h.setL (by omega) (w.setP (by omega) hk x3) ⟨nw, np, o.setP (by omega) hk g1 (fun z _ => g2 z) g3⟩⟩
theorem st_of (h : Rel M N) (x1 x2 : Int32) : Sim (f_X6_of x1 x2 M) (f_X7_of x1 x2 N) := by
  obtain ⟨w, nw, np, o⟩ := h.1
  have h8 := o.1.2.1
  unfold f_X6_of f_X7_of
  rw [m_isPerson x1 h8 o.1.2.2.2.1, x_has0, hP w o, show f_X7_in x2.toInt64 0 5 N = some (inR x2 6) from m_inN x2 5 (by decide) N]
  simp only [bs, ib]
  cases h1 : inR x1 (nI np)
  · exact s_B h
  obtain ⟨j, hj, rfl⟩ := inR_t (by omega) h1
  rw [if_pos rfl, if_pos rfl]
  by_cases h5 : x2 = 5
  · subst h5
    rw [if_pos rfl, show inR 5 6 = true from rfl, if_pos rfl, if_pos (by decide)]
    unfold f_X0_lies f_X7_lies
    rw [ck_pos (vp_in_nI (show j < 8 by omega) (by decide)), show f_X0_anyOf 9 (9 + 1) M = _ from xw_any w o kk_9 0 (by decide), show f_X7_told (nI j) 1 N = _ from m_told (show j < 8 by omega) (k := 1) (by decide) N, show f_X7_anybody 0 N = _ from mw_any o 0 (by decide), ix_nI (by omega)]
    simp only [bs]
    rw [show M (9 + 2) j = _ from (w.2.2.1 j (by omega)).2.1]
    exact s_ok h _
  · rw [if_neg h5]
    cases h2 : inR x2 5
    · have : inR x2 6 = false := by
        cases z : inR x2 6
        · rfl
        · obtain ⟨k, hk, rfl⟩ := inR_t (n := 6) (by decide) z
          have : k < 5 := by
            rcases Nat.lt_or_ge k 5 with y | y
            · exact y
            · exact absurd (show nI k = 5 by rw [show k = 5 by omega]; rfl) h5
          exact ((inR_nI (n := 5) (by decide) this).symm.trans h2)
      rw [x_row0n 9 h2, bs, this]
      exact s_B h
    · obtain ⟨k, hk, rfl⟩ := inR_t (n := 5) (by decide) h2
      rw [show f_X0_row 9 (nI k) M = _ from x_row0 k hk, bs]
      show Sim (ck (IsK (9 + (k + 1)) 8) _) _
      rw [ck_pos (k0' k hk).1, show inR (nI k) 6 = true from inR_nI (n := 6) (by decide) (by omega), if_pos rfl, if_neg (show ¬ (5 : Int32) ≤ nI k from nI_ge (b := 5) hk (by decide)), (k0' k hk).2, ck_pos (vp_in_nI (by omega) (by decide)), ix_nI (by omega), m_told (by omega) hk, bs, show M (9 + (k + 1)) j = _ from pCell w (by omega) hk]
      exact s_ok h _
end ST2
