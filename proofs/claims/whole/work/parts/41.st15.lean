section ST15
variable {b : Nat} {M N : Mem} {S : Nat → Int32} {nw np : Nat}
theorem m_sv (N : Mem) : ∃ N1, f_X7_saves N = some N1 ∧ (∀ k, k < 99 → N1 62 k = N 60 k) ∧ N1 60 = N 60 ∧ Fr TRY N N1 := by
  obtain ⟨N1, e1, s1, g1⟩ := m_saves N
  exact ⟨N1, e1, s1, funext fun k => g1 _ _ (by omega), g1.mono (fun i k z => by unfold TRY; omega)⟩
theorem st_ahead (h : Rel M N) (x1 x2 : Int32) : Sim (f_X6_ahead x1 x2 M) (f_X7_ahead x1 x2 N) := by
  obtain ⟨w, nw, np, o⟩ := h.1
  obtain ⟨y, hy, ey⟩ := o.1.2.2.2.2.1
  have h8 := o.1.2.1
  unfold f_X6_ahead f_X7_ahead
  rw [x_isAhead, m_isSpan, bs, bs, ib, ib]
  cases h1 : inR x1 61
  · exact s_B h
  obtain ⟨n, hn, rfl⟩ := inR_t (n := 61) (by decide) h1
  rw [if_pos rfl, if_pos rfl, hP w o, ck_pos vl_1, ix_1, o.1.2.2.2.1, show (3 : Int32) + nI np = nI (3 + np) from nI_add 3 np, show (2 : Int32) + nI np = nI (2 + np) from nI_add 2 np, ifL, show f_X7_in x2.toInt64 0 (nI (2 + np)).toInt64 N = some (inR x2 (nI (2 + np + 1))) from m_inN x2 (2 + np) (by omega) N, bs, ib, show 2 + np + 1 = 3 + np by omega]
  cases h2 : inR x2 (nI (3 + np))
  · exact s_B h
  obtain ⟨q, hq, rfl⟩ := inR_t (by omega) h2
  rw [if_pos rfl, if_pos rfl, x_hasY (b := 1) (w.1.2.2.2.1.trans ey) (by omega), m_late ey (by omega), bs, bs, ib, ibn]
  by_cases z : y + n ≤ 999
  case neg =>
    rw [decide_eq_false z]
    exact s_S h
  rw [decide_eq_true z, if_pos rfl, if_pos rfl]
  obtain ⟨M1, e1, w1, z1, f1⟩ := dr_start w
  obtain ⟨N1, e2, s1, e60, g1⟩ := m_sv N
  obtain ⟨M2, N2, e3, e4, w2, o2, f2, N3, e5, hR, -, -, -⟩ := dr_years h (M1 := M1) (N1 := N1) (by rw [e60]; exact w1) (by rw [e60]; exact o) f1 g1 s1 (y := y) (by rw [e60]; exact ey) (n := n) (by omega)
  rw [e1, bs, e3, bs, e2, bs, e4, bs]
  have e14 : M2 1 4 = M1 17 4 := by rw [f2 1 4 (by unfold DR; omega), w.1.2.2.2.2, w1.1.2.2.2.2]
  by_cases z0 : nI q = 0
  · rw [if_pos z0, if_pos z0, e5, bs, e14]
    exact ⟨_, M2, N3, rfl, rfl, hR⟩
  rw [if_neg z0, if_neg z0]
  by_cases z0 : nI q = 1
  · rw [if_pos z0, if_pos z0, xw_poor w2 o2, mw_poor o2, bs, bs, e5, bs]
    exact ⟨_, M2, N3, rfl, rfl, hR⟩
  rw [if_neg z0, if_neg z0]
  by_cases z0 : nI q = 2
  · rw [if_pos z0, if_pos z0, show f_X0_believedByAll 25 M2 = _ from xw_all w2 o2, mw_all o2, bs, bs, e5, bs]
    exact ⟨_, M2, N3, rfl, rfl, hR⟩
  rw [if_neg z0, if_neg z0]
  have q3 : 3 ≤ q := by
    rcases Nat.lt_or_ge q 3 with y | y
    · rename_i a0 a1
      match q, y with
      | 0, _ => exact absurd rfl a0
      | 1, _ => exact absurd rfl a1
      | 2, _ => exact absurd rfl z0
    · exact y
  obtain ⟨p, rfl⟩ : ∃ p, q = 3 + p := ⟨q - 3, by omega⟩
  rw [show nI (3 + p) - 3 = nI p by rw [show (3 : Int32) = nI 3 from rfl, pk_sub (by omega)]; congr 1; omega]
  rw [ck_pos (vp_in_nI (show p < 8 by omega) (by decide)), ix_nI (by omega), show f_X7_told (nI p) 1 N2 = _ from m_told (show p < 8 by omega) (k := 1) (by decide) N2, bs, e5, bs, show M2 27 p = _ from (w2.2.2.1 p (by omega)).2.1]
  exact ⟨_, M2, N3, rfl, rfl, hR⟩
theorem st_when (h : Rel M N) (x1 x2 : Int32) : Sim (f_X6_when x1 x2 M) (f_X7_when x1 x2 N) := by
  obtain ⟨w, nw, np, o⟩ := h.1
  obtain ⟨y, hy, ey⟩ := o.1.2.2.2.2.1
  have h8 := o.1.2.1
  unfold f_X6_when f_X7_when
  rw [x_has0, hP w o, m_isPerson x1 o.1.2.1 o.1.2.2.2.1, x_isMark, m_isMark]
  simp only [bs, ib]
  cases h1 : inR x1 (nI np)
  · exact s_B h
  cases h2 : inR x2 12
  · exact s_B h
  obtain ⟨p, hp, rfl⟩ := inR_t (by omega) h1
  obtain ⟨q, hq, rfl⟩ := lt12 h2
  rw [if_pos rfl, if_pos rfl, if_pos rfl, if_pos rfl, show f_X4_hasYears 1 60 M = _ from x_hasY (b := 1) (n := 60) (w.1.2.2.2.1.trans ey) (by omega), show f_X7_isTooLate 60 N = _ from m_late (n := 60) ey (by omega), bs, bs]
  by_cases z : y + 60 ≤ 999
  case neg =>
    rw [decide_eq_false z]
    exact s_S h
  rw [decide_eq_true z, if_pos rfl, if_neg (by decide)]
  obtain ⟨M1, e1, w1, z1, f1⟩ := dr_start w
  obtain ⟨N1, e2, s1, e60, g1⟩ := m_sv N
  rw [e1, bs, e2, bs]
  show Sim (f_X6_when_l60 FU (nI p) (nI q) (nI 0) M1) (f_X7_when_l44 FU (nI p) (nI q) (nI 0) N1)
  have key : ∀ (d m m' i : Nat) (M' N' : Mem), i + d = 61 → d < m → d < m' → RW 17 M' (N' 60) → Ok (N' 60) nw np → N' 60 3 = nI (y + i) → Fr DR M M' → Fr TRY N N' → (∀ k, k < 99 → N' 62 k = N 60 k) → Sim (f_X6_when_l60 m (nI p) (nI q) (nI i) M') (f_X7_when_l44 m' (nI p) (nI q) (nI i) N') := by
    intro d
    induction d with
    | zero =>
      intro m m' i M' N' hi hm hm' w' o' y' f' g' s'
      obtain ⟨m, rfl⟩ : ∃ k, m = k + 1 := ⟨m - 1, by omega⟩
      obtain ⟨m', rfl⟩ : ∃ k, m' = k + 1 := ⟨m' - 1, by omega⟩
      obtain ⟨N3, e5, b3, g3⟩ := m_back N'
      have hR : Rel M' N3 := h.dr f' (g'.trans (g3.mono (fun i k z => by unfold TRY; omega))) (fun k hk => (b3 k hk).trans (s' k hk))
      show Sim (f_X6_when_b60 (f_X6_when_l60 m) (nI p) (nI q) (nI i) M') (f_X7_when_b44 (f_X7_when_l44 m') (nI p) (nI q) (nI i) N')
      unfold f_X6_when_b60 f_X7_when_b44
      rw [if_pos (show (60 : Int32) < nI i from nI_lt (a := 60) (by omega) (by omega)), if_pos (show (61 : Int32) ≤ nI i from nI_le (a := 61) (by omega) (by omega)), e5, bs, if_neg (show ¬ nI i ≤ (60 : Int32) from nI_ge (a := 60) (by omega) (by omega))]
      exact s_N hR
    | succ d ih =>
      intro m m' i M' N' hi hm hm' w' o' y' f' g' s'
      obtain ⟨m, rfl⟩ : ∃ k, m = k + 1 := ⟨m - 1, by omega⟩
      obtain ⟨m', rfl⟩ : ∃ k, m' = k + 1 := ⟨m' - 1, by omega⟩
      show Sim (f_X6_when_b60 (f_X6_when_l60 m) (nI p) (nI q) (nI i) M') (f_X7_when_b44 (f_X7_when_l44 m') (nI p) (nI q) (nI i) N')
      unfold f_X6_when_b60 f_X7_when_b44
      rw [if_neg (show ¬ (60 : Int32) < nI i from nI_nlt (a := 60) (by omega) (by decide)), if_neg (show ¬ (61 : Int32) ≤ nI i from nI_ge (b := 61) (by omega) (by decide)), ck_pos (vp_in_nI (show p < 8 by omega) (by decide)), ix_nI (by omega), show M' 27 p = _ from (w'.2.2.1 p (by omega)).2.1, bit_if (o'.2.2.1 p (by omega)).2.1 hq, show f_X7_told (nI p) 1 N' = _ from m_told (show p < 8 by omega) (k := 1) (by decide) N', bs, m_has, bs, ib]
      by_cases hb : bit (N' 60 (41 + 5 * p + 1)) q = true
      · obtain ⟨N3, e5, b3, g3⟩ := m_back N'
        have hR : Rel M' N3 := h.dr f' (g'.trans (g3.mono (fun i k z => by unfold TRY; omega))) (fun k hk => (b3 k hk).trans (s' k hk))
        rw [if_pos hb, if_pos hb, e5, bs, if_pos (show nI i ≤ (60 : Int32) from nI_le (b := 60) (by omega) (by decide))]
        exact ⟨_, M', N3, rfl, rfl, hR⟩
      · obtain ⟨M2, N2, a1, a2, a3, a4, a5, -⟩ := y1_rel w' o' y' (by omega)
        have fy := fr_X4_passYears a1
        have gy := fr_X7_year a2
        rw [if_neg hb, if_neg hb, a1, a2, bs, bs, nI_1]
        exact ih m m' (i + 1) M2 N2 (by omega) (by omega) (by omega) a3 a4 (by rw [a5]; congr 1) (f'.trans (fy.mono (fun i k z => by unfold DR; omega))) (g'.trans (gy.mono (fun i k z => by unfold TRY; omega))) (fun k hk => by rw [gy _ _ (by omega)]; exact s' k hk)
  exact key 61 FU FU 0 M1 N1 (by omega) (show 61 < 5000 by decide) (show 61 < 5000 by decide) (by rw [e60]; exact w1) (by rw [e60]; exact o) (by rw [e60]; exact ey) f1 g1 s1
theorem bel_lt (S : Nat → Int32) {np m : Nat} (h8 : np ≤ 8) : Lt (belS S np m) 4096 := by
  refine Lt.mono (a := 256) (itr_P (P := fun a => Lt a 256) np 0 0 (fun i a _ hi ha => ?_) ⟨0, by decide, rfl⟩) (by decide)
  show Lt (if bit (S (41 + 5 * i + 1)) m = true then a ||| ((1 : Int32) <<< (nI i &&& 31)) else a) 256
  split
  · exact or256 ha (sh8 (by omega))
  · exact ha
/-- who believes a mark behind so many years, where one writer adds nothing -/
theorem bw_rel (h : Rel M N) (o : Ok (N 60) nw np) {v m n y : Nat} (hv : v < nw) (hm : m < 12) (ey : N 60 3 = nI y) (hn : y + n < 2000) : ∃ r M1 N1, f_X6_believersWithout (nI v) (nI m) (nI n) M = some (r, M1) ∧ f_X7_believers (nI v) (nI m) (nI n) N = some (r, N1) ∧ Rel M1 N1 ∧ (∀ k, k < 99 → N1 60 k = N 60 k) ∧ Lt r 4096 := by
  have h6 := o.1.1
  have h8 := o.1.2.1
  obtain ⟨M1, e1, w1, z1, f1⟩ := dr_start h.1.1
  obtain ⟨N1, e2, s1, e60, g1⟩ := m_sv N
  have w2 := w1.setW (w := v) (k := 2) (by omega) (by decide) 0
  have o2 := o.setW (w := v) (k := 2) (by omega) (by decide) (v := 0) (by omega) (fun _ _ => z_lt) (by omega)
  have u60 : (up N1 60 (5 + 6 * v + 2) 0) 60 = upd (N 60) (5 + 6 * v + 2) 0 := by rw [up_eq, e60]
  obtain ⟨M2, N2, e3, e4, w3, o3, f2, N3, e5, hR, k60, -, -⟩ := dr_years h (M1 := up M1 (17 + 1 + (2 + 1)) v 0) (N1 := up N1 60 (5 + 6 * v + 2) 0) (by rw [u60]; exact w2) (by rw [u60]; exact o2) (f1.put rfl (by unfold DR; omega)) (g1.put rfl (by unfold TRY; omega)) (fun k hk => by rw [up_ap, if_neg (by omega)]; exact s1 k hk) (y := y) (by rw [u60, upd_ne (by omega)]; exact ey) (n := n) hn
  refine ⟨belS (N2 60) np m, M2, N3, ?_, ?_, hR, k60, bel_lt _ h8⟩
  · unfold f_X6_believersWithout
    rw [e1, bs, ck_pos (vp_in_nI (show v < 6 by omega) (by decide)), ix_nI (by omega)]
    show (f_X4_passYears 17 (nI n) (up M1 21 v 0)).bind _ = _
    rw [show f_X4_passYears 17 (nI n) (up M1 21 v 0) = _ from e3, bs, show f_X0_believers 25 (nI m) M2 = _ from xw_bel w3 o3 hm, bs]
  · unfold f_X7_believers
    rw [e2, bs, if_neg (nI_pos (by omega)), show f_X7_at (nI v) 2 N1 = _ from m_at v 2 N1, bs, ck_pos (vp_in_nI (show 5 + 6 * v + 2 < 99 by omega) (by decide)), ix_nI (by omega)]
    simp only [letv]
    rw [e4, bs, mw_bel o3 hm, bs, e5, bs]
/-- who believes a mark behind so many years -/
theorem b1_rel (h : Rel M N) (o : Ok (N 60) nw np) {m n y : Nat} (hm : m < 12) (ey : N 60 3 = nI y) (hn : y + n < 2000) : ∃ r M1 M2 N1, f_X4_become 17 1 M = some M1 ∧ f_X4_passYears 17 (nI n) M1 = some M2 ∧ f_X0_believers 25 (nI m) M2 = some r ∧ f_X7_believers (-1) (nI m) (nI n) N = some (r, N1) ∧ Rel M2 N1 ∧ (∀ k, k < 99 → N1 60 k = N 60 k) ∧ Lt r 4096 := by
  have h8 := o.1.2.1
  obtain ⟨M1, e1, w1, z1, f1⟩ := dr_start h.1.1
  obtain ⟨N1, e2, s1, e60, g1⟩ := m_sv N
  obtain ⟨M2, N2, e3, e4, w3, o3, f2, N3, e5, hR, k60, -, -⟩ := dr_years h (M1 := M1) (N1 := N1) (by rw [e60]; exact w1) (by rw [e60]; exact o) f1 g1 s1 (y := y) (by rw [e60]; exact ey) (n := n) hn
  refine ⟨belS (N2 60) np m, M1, M2, N3, e1, e3, xw_bel w3 o3 hm, ?_, hR, k60, bel_lt _ h8⟩
  unfold f_X7_believers
  rw [e2, bs, if_pos (by decide), e4, bs, mw_bel o3 hm, bs, e5, bs]
theorem st_without (h : Rel M N) (x1 x2 x3 : Int32) : Sim (f_X6_without x1 x2 x3 M) (f_X7_without x1 x2 x3 N) := by
  obtain ⟨w, nw, np, o⟩ := h.1
  obtain ⟨y, hy, ey⟩ := o.1.2.2.2.2.1
  have h6 := o.1.1
  unfold f_X6_without f_X7_without
  rw [x_has5, hW w o, m_isWriter x1 o.1.1 o.1.2.2.1, x_isMark, m_isMark, x_isAhead, m_isSpan]
  simp only [bs, ib]
  cases h1 : inR x1 (nI nw)
  · exact s_B h
  cases h2 : inR x2 12
  · exact s_B h
  cases h3 : inR x3 61
  · exact s_B h
  obtain ⟨v, hv, rfl⟩ := inR_t (by omega) h1
  obtain ⟨m, hm, rfl⟩ := lt12 h2
  obtain ⟨n, hn, rfl⟩ := inR_t (n := 61) (by decide) h3
  rw [if_pos rfl, if_pos rfl, if_pos rfl, if_pos rfl, if_pos rfl, if_pos rfl, x_hasY (b := 1) (w.1.2.2.2.1.trans ey) (by omega), m_late ey (by omega), bs, bs]
  by_cases z : y + n ≤ 999
  case neg =>
    rw [decide_eq_false z]
    exact s_S h
  obtain ⟨r, M1, N1, a1, a2, a3, -, -⟩ := bw_rel h o hv hm ey (n := n) (by omega)
  rw [decide_eq_true z, if_pos rfl, if_neg (by decide), a1, a2]
  exact ⟨_, M1, N1, rfl, rfl, a3⟩
theorem st_added (h : Rel M N) (x1 x2 : Int32) : Sim (f_X6_added x1 x2 M) (f_X7_added x1 x2 N) := by
  obtain ⟨w, nw, np, o⟩ := h.1
  obtain ⟨y, hy, ey⟩ := o.1.2.2.2.2.1
  have h6 := o.1.1
  unfold f_X6_added f_X7_added
  rw [x_isMark, m_isMark, x_isAhead, m_isSpan]
  simp only [bs, ib]
  cases h2 : inR x1 12
  · exact s_B h
  cases h3 : inR x2 61
  · exact s_B h
  obtain ⟨m, hm, rfl⟩ := lt12 h2
  obtain ⟨n, hn, rfl⟩ := inR_t (n := 61) (by decide) h3
  rw [if_pos rfl, if_pos rfl, if_pos rfl, if_pos rfl, x_hasY (b := 1) (w.1.2.2.2.1.trans ey) (by omega), m_late ey (by omega), bs, bs]
  by_cases z : y + n ≤ 999
  case neg =>
    rw [decide_eq_false z]
    exact s_S h
  obtain ⟨r, M1, M2, N1, a1, a2, a3, a4, a5, a6, a7⟩ := b1_rel h o hm ey (n := n) (by omega)
  rw [decide_eq_true z, if_pos rfl, if_neg (by decide), a1, bs, a2, bs, a3, bs, x_bcL a7, bs, a4, bs, m_onesL a7, bs]
  generalize nI (pcn (ix r)) = c
  show Sim (f_X6_added_l79 FU (nI m) (nI n) c 0 (nI 0) M2) (f_X7_added_l53 FU (nI m) (nI n) c 0 (nI 0) N1)
  have key : ∀ (d q q' i : Nat) (a : Int32) (M' N' : Mem), i + d = nw → d < q → d < q' → Rel M' N' → (∀ k, k < 99 → N' 60 k = N 60 k) → Sim (f_X6_added_l79 q (nI m) (nI n) c a (nI i) M') (f_X7_added_l53 q' (nI m) (nI n) c a (nI i) N') := by
    intro d
    induction d with
    | zero =>
      intro q q' i a M' N' hi hm hm' hR hk
      obtain ⟨q, rfl⟩ : ∃ k, q = k + 1 := ⟨q - 1, by omega⟩
      obtain ⟨q', rfl⟩ : ∃ k, q' = k + 1 := ⟨q' - 1, by omega⟩
      have o' := o.cg hk
      show Sim (f_X6_added_b79 (f_X6_added_l79 q) (nI m) (nI n) c a (nI i) M') (f_X7_added_b53 (f_X7_added_l53 q') (nI m) (nI n) c a (nI i) N')
      unfold f_X6_added_b79 f_X7_added_b53
      rw [hW hR.1.1 o', ck_pos vl_0, ix_0, o'.1.2.2.1, if_pos (nI_le (by omega) (by omega)), if_pos (nI_le (by omega) (by omega))]
      exact s_ok hR _
    | succ d ih =>
      intro q q' i a M' N' hi hm0 hm' hR hk
      obtain ⟨q, rfl⟩ : ∃ k, q = k + 1 := ⟨q - 1, by omega⟩
      obtain ⟨q', rfl⟩ : ∃ k, q' = k + 1 := ⟨q' - 1, by omega⟩
      have o' := o.cg hk
      obtain ⟨r, M3, N3, b1, b2, b3, b4, b5⟩ := bw_rel hR o' (v := i) (by omega) hm (by rw [hk 3 (by omega)]; exact ey) (n := n) (by omega)
      show Sim (f_X6_added_b79 (f_X6_added_l79 q) (nI m) (nI n) c a (nI i) M') (f_X7_added_b53 (f_X7_added_l53 q') (nI m) (nI n) c a (nI i) N')
      unfold f_X6_added_b79 f_X7_added_b53
      rw [hW hR.1.1 o', ck_pos vl_0, ix_0, o'.1.2.2.1, if_neg (nI_ge (by omega) (by omega)), if_neg (nI_ge (by omega) (by omega)), b1, b2, bs, bs, x_bcL b5, m_onesL b5, bs, bs, nI_1, Int32.or_zero]
      have hk3 : ∀ k, k < 99 → N3 60 k = N 60 k := fun k z => (b4 k z).trans (hk k z)
      split
      · exact ih q q' (i + 1) _ M3 N3 (by omega) (by omega) (by omega) b3 hk3
      · exact ih q q' (i + 1) _ M3 N3 (by omega) (by omega) (by omega) b3 hk3
  exact key nw FU FU 0 0 M2 N1 (by omega) (show nw < 5000 by omega) (show nw < 5000 by omega) a5 a6
end ST15
