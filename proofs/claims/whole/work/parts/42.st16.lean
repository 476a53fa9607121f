section ST16
variable {b : Nat} {M N : Mem} {S : Nat → Int32} {nw np : Nat}
theorem st_best (h : Rel M N) (x1 x2 x3 : Int32) : Sim (f_X6_best x1 x2 x3 M) (f_X7_best x1 x2 x3 N) := by
  obtain ⟨w, nw, np, o⟩ := h.1
  obtain ⟨y, hy, ey⟩ := o.1.2.2.2.2.1
  have h6 := o.1.1
  have h8 := o.1.2.1
  unfold f_X6_best f_X7_best
  rw [x_areTwo, hP w o, m_isTwo x1 x2 o.1.2.1 o.1.2.2.2.1, x_isAhead, m_isSpan]
  simp only [bs, ib]
  cases h1 : (inR x1 (nI np) && (inR x2 (nI np) && decide (¬ x1 = x2)))
  · exact s_B h
  cases h3 : inR x3 61
  · exact s_B h
  obtain ⟨a1, a2, a3⟩ := b3 h1
  obtain ⟨p, hp, rfl⟩ := inR_t (by omega) a1
  obtain ⟨q, hq, rfl⟩ := inR_t (by omega) a2
  obtain ⟨n, hn, rfl⟩ := inR_t (n := 61) (by decide) h3
  rw [if_pos rfl, if_pos rfl, if_pos rfl, if_pos rfl, x_hasY (b := 1) (w.1.2.2.2.1.trans ey) (by omega), m_late ey (by omega), bs, bs]
  by_cases z : y + n ≤ 999
  case neg =>
    rw [decide_eq_false z]
    exact s_S h
  obtain ⟨N0, s0, t0, e60, g0⟩ := m_sv N
  rw [decide_eq_true z, if_pos rfl, if_neg (by decide), s0, bs]
  have key : ∀ (d m m' i : Nat) (a c : Int32) (M' N' : Mem), i + d = nw → d < m → d < m' → Rel M' N' → (∀ k, k < 99 → N' 60 k = N 60 k) → (∀ k, k < 99 → N' 62 k = N 60 k) → Sim (f_X6_best_l56 m (nI p) (nI q) (nI n) a c (nI i) M') (f_X7_best_l51 m' (nI p) (nI q) (nI n) a c (nI i) N') := by
    intro d
    induction d with
    | zero =>
      intro m m' i a c M' N' hi hm hm' hR hk hs
      obtain ⟨m, rfl⟩ : ∃ k, m = k + 1 := ⟨m - 1, by omega⟩
      obtain ⟨m', rfl⟩ : ∃ k, m' = k + 1 := ⟨m' - 1, by omega⟩
      have o' := o.cg hk
      show Sim (f_X6_best_b56 (f_X6_best_l56 m) (nI p) (nI q) (nI n) a c (nI i) M') (f_X7_best_b51 (f_X7_best_l51 m') (nI p) (nI q) (nI n) a c (nI i) N')
      unfold f_X6_best_b56 f_X7_best_b51
      rw [hW hR.1.1 o', ck_pos vl_0, ix_0, o'.1.2.2.1, if_pos (nI_le (by omega) (by omega)), if_pos (nI_le (by omega) (by omega))]
      exact s_ok hR _
    | succ d ih =>
      intro m m' i a c M' N' hi hm hm' hR hk hs
      obtain ⟨m, rfl⟩ : ∃ k, m = k + 1 := ⟨m - 1, by omega⟩
      obtain ⟨m', rfl⟩ : ∃ k, m' = k + 1 := ⟨m' - 1, by omega⟩
      have o' := o.cg hk
      obtain ⟨M1, e1, w1, z1, f1⟩ := dr_start hR.1.1
      have w2 := w1.setP (p := p) (k := 2) (by omega) (by decide) (nI i)
      have o2 := o'.setP (p := p) (k := 2) (by omega) (by decide) (v := nI i) (by omega) (fun _ _ => ⟨i, by omega, rfl⟩) (by omega)
      have u60 : (up N' 60 (41 + 5 * p + 2) (nI i)) 60 = upd (N' 60) (41 + 5 * p + 2) (nI i) := up_eq
      obtain ⟨M2, N2, e3, e4, w3, o3, f2, N3, e5, hR3, k60, k62, -⟩ := dr_years hR (M1 := up M1 (17 + 8 + (2 + 1)) p (nI i)) (N1 := up N' 60 (41 + 5 * p + 2) (nI i)) (by rw [u60]; exact w2) (by rw [u60]; exact o2) (f1.put rfl (by unfold DR; omega)) ((Fr.rf (T := TRY)).put rfl (by unfold TRY; omega)) (fun k hk2 => by rw [up_ap, if_neg (by omega), hs k hk2, hk k hk2]) (y := y) (by rw [u60, upd_ne (by omega), hk 3 (by omega)]; exact ey) (n := n) (by omega)
      have l := and_ltL (o3.2.2.1 p (by omega)).1 (N2 60 (41 + 5 * q + 1))
      show Sim (f_X6_best_b56 (f_X6_best_l56 m) (nI p) (nI q) (nI n) a c (nI i) M') (f_X7_best_b51 (f_X7_best_l51 m') (nI p) (nI q) (nI n) a c (nI i) N')
      unfold f_X6_best_b56 f_X7_best_b51 f_X7_best_j117
      rw [hW hR.1.1 o', ck_pos vl_0, ix_0, o'.1.2.2.1, if_neg (nI_ge (by omega) (by omega)), if_neg (nI_ge (by omega) (by omega)), e1, bs, ck_pos (vp_in_nI (show p < 8 by omega) (by decide)), ix_nI (n := p) (by omega), show f_X7_where (nI p) 2 N' = _ from m_where p 2 N', bs, ck_pos (vp_in_nI (show 41 + 5 * p + 2 < 99 by omega) (by decide)), ix_nI (n := 41 + 5 * p + 2) (by omega)]
      simp only [letv]
      rw [show f_X4_passYears 17 (nI n) (up M1 28 p (nI i)) = _ from e3, bs, e4, bs, ck_pos (vp_in_nI (show p < 8 by omega) (by decide)), ck_pos (vp_in_nI (show q < 8 by omega) (by decide)), ix_nI (n := q) (by omega), show M2 26 p = _ from (w3.2.2.1 p (by omega)).1, show M2 27 q = _ from (w3.2.2.1 q (by omega)).2.1, show f_X7_told (nI p) 0 N2 = some (N2 60 (41 + 5 * p)) from m_told (show p < 8 by omega) (k := 0) (by decide) N2, bs, show f_X7_told (nI q) 1 N2 = _ from m_told (show q < 8 by omega) (k := 1) (by decide) N2, bs, x_bcL l, m_onesL l, bs, bs, e5, bs, nI_1]
      have hk3 : ∀ k, k < 99 → N3 60 k = N 60 k := fun k z => (k60 k z).trans (hk k z)
      have hs3 : ∀ k, k < 99 → N3 62 k = N 60 k := fun k z => (k62 k z).trans (hk k z)
      by_cases hc : nI (pcn (ix (N2 60 (41 + 5 * p) &&& N2 60 (41 + 5 * q + 1)))) ≤ c
      · rw [if_pos hc, if_pos hc, if_pos hc]
        exact ih m m' (i + 1) _ _ M2 N3 (by omega) (by omega) (by omega) hR3 hk3 hs3
      · rw [if_neg hc, if_neg hc, if_neg hc]
        exact ih m m' (i + 1) _ _ M2 N3 (by omega) (by omega) (by omega) hR3 hk3 hs3
  exact key nw FU FU 0 0 (-1) M N0 (by omega) (show nw < 5000 by omega) (show nw < 5000 by omega) (h.dr Fr.rf g0 (fun k _ => by rw [e60])) (fun k _ => by rw [e60]) t0
theorem st_price (h : Rel M N) (x1 x2 : Int32) : Sim (f_X6_price x1 x2 M) (f_X7_price x1 x2 N) := by
  obtain ⟨w, nw, np, o⟩ := h.1
  obtain ⟨y, hy, ey⟩ := o.1.2.2.2.2.1
  have h6 := o.1.1
  unfold f_X6_price f_X7_price
  rw [x_has5, hW w o, m_isWriter x1 o.1.1 o.1.2.2.1, show f_X7_in x2.toInt64 1 20 N = _ from m_in x2 1 20 N]
  simp only [bs, ib]
  cases h1 : inR x1 (nI nw)
  · exact s_B h
  rw [if_pos rfl, if_pos rfl, ifLH]
  cases h2 : decide ((1 : Int32) ≤ x2 ∧ x2 ≤ 20)
  · exact s_B h
  obtain ⟨v, hv, rfl⟩ := inR_t (by omega) h1
  obtain ⟨n, n1, n2, rfl⟩ := lohi (lo := 1) (hi := 20) (by decide) (by decide) h2
  rw [if_pos rfl, if_pos rfl, x_hasY (b := 1) (w.1.2.2.2.1.trans ey) (by omega), m_late ey (by omega), bs, bs]
  by_cases z : y + n ≤ 999
  case neg =>
    rw [decide_eq_false z]
    exact s_S h
  obtain ⟨N0, s0, t0, e60, g0⟩ := m_sv N
  rw [decide_eq_true z, if_pos rfl, if_neg (by decide), s0, bs]
  have key : ∀ (d m m' i : Nat) (a c : Int32) (M' N' : Mem), i + d = 100 → d < m → d < m' → Rel M' N' → (∀ k, k < 99 → N' 60 k = N 60 k) → (∀ k, k < 99 → N' 62 k = N 60 k) → Sim (f_X6_price_l58 m (nI v) (nI n) a c (nI i) M') (f_X7_price_l54 m' (nI v) (nI n) a c (nI i) N') := by
    intro d
    induction d with
    | zero =>
      intro m m' i a c M' N' hi hm hm' hR hk hs
      obtain ⟨m, rfl⟩ : ∃ k, m = k + 1 := ⟨m - 1, by omega⟩
      obtain ⟨m', rfl⟩ : ∃ k, m' = k + 1 := ⟨m' - 1, by omega⟩
      show Sim (f_X6_price_b58 (f_X6_price_l58 m) (nI v) (nI n) a c (nI i) M') (f_X7_price_b54 (f_X7_price_l54 m') (nI v) (nI n) a c (nI i) N')
      unfold f_X6_price_b58 f_X7_price_b54
      rw [if_pos (show (99 : Int32) < nI i from nI_lt (a := 99) (by omega) (by omega)), if_pos (show (100 : Int32) ≤ nI i from nI_le (a := 100) (by omega) (by omega))]
      exact s_ok hR _
    | succ d ih =>
      intro m m' i a c M' N' hi hm hm' hR hk hs
      obtain ⟨m, rfl⟩ : ∃ k, m = k + 1 := ⟨m - 1, by omega⟩
      obtain ⟨m', rfl⟩ : ∃ k, m' = k + 1 := ⟨m' - 1, by omega⟩
      have o' := o.cg hk
      obtain ⟨M1, e1, w1, z1, f1⟩ := dr_start hR.1.1
      have w2 := w1.setW (w := v) (k := 4) (by omega) (by decide) (nI i)
      have o2 := o'.setW (w := v) (k := 4) (by omega) (by decide) (v := nI i) (by omega) (by omega) (fun _ => ⟨i, by omega, rfl⟩)
      have u60 : (up N' 60 (5 + 6 * v + 4) (nI i)) 60 = upd (N' 60) (5 + 6 * v + 4) (nI i) := up_eq
      obtain ⟨M2, N2, e3, e4, w3, o3, f2, N3, e5, hR3, k60, k62, -⟩ := dr_years hR (M1 := up M1 (17 + 1 + (4 + 1)) v (nI i)) (N1 := up N' 60 (5 + 6 * v + 4) (nI i)) (by rw [u60]; exact w2) (by rw [u60]; exact o2) (f1.put rfl (by unfold DR; omega)) ((Fr.rf (T := TRY)).put rfl (by unfold TRY; omega)) (fun k hk2 => by rw [up_ap, if_neg (by omega), hs k hk2, hk k hk2]) (y := y) (by rw [u60, upd_ne (by omega), hk 3 (by omega)]; exact ey) (n := n) (by omega)
      show Sim (f_X6_price_b58 (f_X6_price_l58 m) (nI v) (nI n) a c (nI i) M') (f_X7_price_b54 (f_X7_price_l54 m') (nI v) (nI n) a c (nI i) N')
      unfold f_X6_price_b58 f_X7_price_b54 f_X7_price_j105
      rw [if_neg (show ¬ (99 : Int32) < nI i from nI_nlt (a := 99) (by omega) (by decide)), if_neg (show ¬ (100 : Int32) ≤ nI i from nI_ge (b := 100) (by omega) (by decide)), e1, bs, ck_pos (vp_in_nI (show v < 6 by omega) (by decide)), ix_nI (n := v) (by omega), show f_X7_at (nI v) 4 N' = _ from m_at v 4 N', bs, ck_pos (vp_in_nI (show 5 + 6 * v + 4 < 99 by omega) (by decide)), ix_nI (n := 5 + 6 * v + 4) (by omega)]
      simp only [letv]
      rw [show f_X4_passYears 17 (nI n) (up M1 23 v (nI i)) = _ from e3, bs, e4, bs, ck_pos (vp_in_nI (show v < 6 by omega) (by decide)), show M2 24 v = _ from (w3.2.1 v (by omega)).2.2.2.2.2, show f_X7_its (nI v) 5 N2 = _ from m_its (show v < 6 by omega) (k := 5) (by decide) N2, bs, e5, bs, nI_1]
      have hk3 : ∀ k, k < 99 → N3 60 k = N 60 k := fun k z => (k60 k z).trans (hk k z)
      have hs3 : ∀ k, k < 99 → N3 62 k = N 60 k := fun k z => (k62 k z).trans (hk k z)
      by_cases hc : N2 60 (5 + 6 * v + 5) ≤ c
      · rw [if_pos hc, if_pos hc, if_pos hc]
        exact ih m m' (i + 1) _ _ M2 N3 (by omega) (by omega) (by omega) hR3 hk3 hs3
      · rw [if_neg hc, if_neg hc, if_neg hc, ck_pos (vp_in_nI (show v < 6 by omega) (by decide))]
        exact ih m m' (i + 1) _ _ M2 N3 (by omega) (by omega) (by omega) hR3 hk3 hs3
  exact key 100 FU FU 0 0 (-1) M N0 (by omega) (show 100 < 5000 by omega) (show 100 < 5000 by omega) (h.dr Fr.rf g0 (fun k _ => by rw [e60])) (fun k _ => by rw [e60]) t0
end ST16
