section ST17
variable {b : Nat} {M N : Mem} {S : Nat → Int32} {nw np : Nat}
theorem nI_all (x : Int32) : ∃ n, n < 2 ^ 32 ∧ x = nI n := by
  refine ⟨x.toBitVec.toNat, x.toBitVec.isLt, ?_⟩
  unfold nI
  apply Int32.toBitVec_inj.mp
  simp
theorem dr8 (x : Int32) : ∃ a, a < 2 ^ 24 ∧ (x.toUInt32 >>> (Int32.toUInt32 8 &&& Int32.toUInt32 31)).toInt32 = nI a := by
  obtain ⟨n, hn, rfl⟩ := nI_all x
  refine ⟨n / 2 ^ 8, by omega, ?_⟩
  exact pk_ushrN hn (8 : Int32) 8 (by decide)
theorem st_gossip (h : Rel M N) (x1 : Int32) : Sim (f_X6_gossip x1 M) (f_X7_gossip x1 N) := by
  obtain ⟨w, nw, np, o⟩ := h.1
  have h8 := o.1.2.1
  unfold f_X6_gossip f_X7_gossip
  rw [show f_X7_in x1.toInt64 1 12 N = _ from m_in x1 1 12 N, bs, ib, ifLH]
  cases h1 : decide ((1 : Int32) ≤ x1 ∧ x1 ≤ 12)
  · exact s_B h
  obtain ⟨n, n1, n2, rfl⟩ := lohi (lo := 1) (hi := 12) (by decide) (by decide) h1
  rw [if_pos rfl, if_pos rfl, hP w o, ck_pos vl_1, ix_1, o.1.2.2.2.1]
  simp only [letv]
  by_cases z : np = 0
  · rw [z, if_neg (by decide), if_pos (by decide)]
    exact s_S h
  rw [if_pos (show (1 : Int32) ≤ nI np from nI_le (a := 1) (by omega) (by omega)), if_neg (nI_ne0 (by omega) (by omega))]
  show Sim (f_X6_gossip_l43 FU (nI n) (nI np) (nI 0) M) (f_X7_gossip_l37 FU (nI n) (nI 0) N)
  have key : ∀ (d m m' i : Nat) (M' N' : Mem), i + d = n → d < m → d < m' → Rel M' N' → Ok (N' 60) nw np → Sim (f_X6_gossip_l43 m (nI n) (nI np) (nI i) M') (f_X7_gossip_l37 m' (nI n) (nI i) N') := by
    intro d
    induction d with
    | zero =>
      intro m m' i M' N' hi hm hm' hR o'
      obtain ⟨m, rfl⟩ : ∃ k, m = k + 1 := ⟨m - 1, by omega⟩
      obtain ⟨m', rfl⟩ : ∃ k, m' = k + 1 := ⟨m' - 1, by omega⟩
      show Sim (f_X6_gossip_b43 (f_X6_gossip_l43 m) (nI n) (nI np) (nI i) M') (f_X7_gossip_b37 (f_X7_gossip_l37 m') (nI n) (nI i) N')
      unfold f_X6_gossip_b43 f_X7_gossip_b37
      rw [if_pos (nI_le (by omega) (by omega)), if_pos (nI_le (by omega) (by omega)), show f_X0_anyOf 9 11 M' = _ from xw_any hR.1.1 o' kk_9 1 (by decide), show f_X7_anybody 1 N' = _ from mw_any o' 1 (by decide)]
      exact s_ok hR _
    | succ d ih =>
      intro m m' i M' N' hi hm hm' hR o'
      obtain ⟨m, rfl⟩ : ∃ k, m = k + 1 := ⟨m - 1, by omega⟩
      obtain ⟨m', rfl⟩ : ∃ k, m' = k + 1 := ⟨m' - 1, by omega⟩
      have w' := hR.1.1
      have ez : M' 1 5 = N' 60 2 := w'.1.2.2.1
      -- two draws
      generalize hv1 : N' 60 2 * 1103515245 + 12345 = v1 at *
      generalize hv2 : v1 * 1103515245 + 12345 = v2 at *
      obtain ⟨a1, b1, c1⟩ := dr8 v1
      obtain ⟨a2, b2, c2⟩ := dr8 v2
      have d1 : f_X4_draw 1 M' = some (nI a1, up M' 1 5 v1) := by
        unfold f_X4_draw
        simp only [letv]
        rw [ez, hv1, up_ap, if_pos ⟨rfl, rfl⟩, c1]
      have d2 : f_X4_draw 1 (up M' 1 5 v1) = some (nI a2, up (up M' 1 5 v1) 1 5 v2) := by
        unfold f_X4_draw
        simp only [letv]
        rw [up_ap M' 1 5 v1 1 5, if_pos ⟨rfl, rfl⟩, hv2, up_ap, if_pos ⟨rfl, rfl⟩, c2]
      have q1 : f_X7_draw N' = some (nI a1, up N' 60 2 v1) := by
        unfold f_X7_draw
        simp only [letv, ck_pos vl_2, ix_2]
        rw [hv1, up_ap, if_pos ⟨rfl, rfl⟩, c1]
      have q2 : f_X7_draw (up N' 60 2 v1) = some (nI a2, up (up N' 60 2 v1) 60 2 v2) := by
        unfold f_X7_draw
        simp only [letv, ck_pos vl_2, ix_2]
        rw [up_ap N' 60 2 v1 60 2, if_pos ⟨rfl, rfl⟩, hv2, up_ap, if_pos ⟨rfl, rfl⟩, c2]
      have r1 : nI a1 - nI a1 / nI np * nI np = nI (a1 % np) := pk_rem (by omega) (by omega) (by omega)
      have r2 : nI a2 - nI a2 / (12 : Int32) * (12 : Int32) = nI (a2 % 12) := pk_rem (d := 12) (by omega) (by decide) (by decide)
      have hm1 : a1 % np < np := Nat.mod_lt _ (by omega)
      have hm2 : a2 % 12 < 12 := Nat.mod_lt _ (by decide)
      have o1 := (o'.setN (Or.inl rfl) v1).setN (Or.inl rfl) v2
      have w1 := (w'.set1 (i := 1) (c := 5) (q := 2) (by unfold sgl; omega) v1).set1 (i := 1) (c := 5) (q := 2) (by unfold sgl; omega) v2
      have eb : (upd (upd (N' 60) 2 v1) 2 v2) (41 + 5 * (a1 % np) + 1) = N' 60 (41 + 5 * (a1 % np) + 1) := by rw [upd_ne (by omega), upd_ne (by omega)]
      have w2 := w1.setP (p := a1 % np) (k := 1) (by omega) (by decide) (N' 60 (41 + 5 * (a1 % np) + 1) ||| ((1 : Int32) <<< (nI (a2 % 12) &&& 31)))
      have o2 := o1.setP (p := a1 % np) (k := 1) (by omega) (by decide) (v := N' 60 (41 + 5 * (a1 % np) + 1) ||| ((1 : Int32) <<< (nI (a2 % 12) &&& 31))) (fun _ => or_lt (o'.2.2.1 _ (by omega)).2.1 (sh12 hm2)) (by omega) (by omega)
      show Sim (f_X6_gossip_b43 (f_X6_gossip_l43 m) (nI n) (nI np) (nI i) M') (f_X7_gossip_b37 (f_X7_gossip_l37 m') (nI n) (nI i) N')
      unfold f_X6_gossip_b43 f_X7_gossip_b37
      rw [if_neg (nI_ge (by omega) (by omega)), if_neg (nI_ge (by omega) (by omega)), d1, bs, ck_pos (nI_ne0 (by omega) (by omega)), r1]
      simp only [letv]
      rw [ck_pos (vp_in_nI (show a1 % np < 8 by omega) (by decide)), d2, bs, ck_pos (vp_in_nI (show a1 % np < 8 by omega) (by decide)), ix_nI (n := a1 % np) (by omega), r2, nI_1, q1, bs, ck_pos vl_1, ix_1]
      dsimp only
      rw [show up N' 60 2 v1 60 1 = nI np by rw [up_ap, if_neg (by omega)]; exact o'.1.2.2.2.1, ck_pos (nI_ne0 (by omega) (by omega)), r1, show f_X7_where (nI (a1 % np)) 1 _ = _ from m_where (a1 % np) 1 _, bs, ck_pos (vp_in_nI (show 41 + 5 * (a1 % np) + 1 < 99 by omega) (by decide)), q2, bs, ck_pos (vp_in_nI (show 41 + 5 * (a1 % np) + 1 < 99 by omega) (by decide))]
      dsimp only
      rw [ix_nI (n := 41 + 5 * (a1 % np) + 1) (by omega), r2, show up M' 1 5 v1 11 (a1 % np) = N' 60 (41 + 5 * (a1 % np) + 1) by rw [up_ap, if_neg (by omega)]; exact (w'.2.2.1 _ (by omega)).2.1, show up N' 60 2 v1 60 (41 + 5 * (a1 % np) + 1) = N' 60 (41 + 5 * (a1 % np) + 1) by rw [up_ap, if_neg (by omega)]]
      refine ih m m' (i + 1) _ _ (by omega) (by omega) (by omega) (hR.live ((((Fr.rf (T := TCl)).put rfl (by unfold TCl; omega)).put rfl (by unfold TCl; omega)).put rfl (by unfold TCl; omega)) ((((Fr.rf (T := TMl)).put rfl (by unfold TMl; omega)).put rfl (by unfold TMl; omega)).put rfl (by unfold TMl; omega)) ?_ ⟨nw, np, ?_⟩) ?_
      · rw [up_eq, up_eq, up_eq]; exact w2
      · rw [up_eq, up_eq, up_eq]; exact o2
      · rw [up_eq, up_eq, up_eq]; exact o2
  exact key n FU FU 0 M N (by omega) (show n < 5000 by omega) (show n < 5000 by omega) h o
theorem st_school (h : Rel M N) (x1 : Int32) : Sim (f_X6_school x1 M) (f_X7_school x1 N) := by
  obtain ⟨w, nw, np, o⟩ := h.1
  obtain ⟨y, hy, ey⟩ := o.1.2.2.2.2.1
  have h8 := o.1.2.1
  unfold f_X6_school f_X7_school
  rw [show f_X7_in x1.toInt64 2 8 N = _ from m_in x1 2 8 N, bs, ib, ifLH]
  cases h1 : decide ((2 : Int32) ≤ x1 ∧ x1 ≤ 8)
  · exact s_B h
  obtain ⟨n, n1, n2, rfl⟩ := lohi (lo := 2) (hi := 8) (by decide) (by decide) h1
  rw [if_pos rfl, if_pos rfl, show f_X4_hasYears 1 1 M = _ from x_hasY (b := 1) (n := 1) (w.1.2.2.2.1.trans ey) (by omega), show f_X7_isTooLate 1 N = _ from m_late (n := 1) ey (by omega), bs, bs, ib, ibn]
  by_cases z : y + 1 ≤ 999
  case neg =>
    rw [decide_eq_false z]
    exact s_S h
  rw [decide_eq_true z, if_pos rfl, if_pos rfl]
  obtain ⟨M1, e1, w1, z1, f1⟩ := dr_start w
  obtain ⟨N1, e2, s1, e60, g1⟩ := m_sv N
  have u60 : (up N1 59 5 0) 60 = N 60 := by rw [up_ne (by decide)]; exact e60
  obtain ⟨M2, N2, e3, e4, w2, o2, y2, p2⟩ := y1_rel (M := M1) (N := up N1 59 5 0) (b := 17) (nw := nw) (np := np) (by rw [u60]; exact w1) (by rw [u60]; exact o) (y := y) (by rw [u60]; exact ey) (by omega)
  rw [z1, up_ap, if_pos ⟨rfl, rfl⟩, Int32.sub_zero, Int32.sub_zero] at p2
  have f2 : Fr DR M M2 := f1.trans ((fr_X4_passYears e3).mono (fun i k z => by unfold DR; omega))
  have gy := fr_X7_year e4
  have g2 : Fr TRY N N2 := (g1.put rfl (by unfold TRY; omega)).trans (gy.mono (fun i k z => by unfold TRY; omega))
  have s2 : ∀ k, k < 99 → N2 62 k = N 60 k := fun k hk => by rw [gy _ _ (by omega), up_ap, if_neg (by omega)]; exact s1 k hk
  obtain ⟨N3, e5, b3, g3⟩ := m_back N2
  have g4 : Fr TRY N N3 := g2.trans (g3.mono (fun i k z => by unfold TRY; omega))
  have k3 : ∀ k, k < 99 → N3 60 k = N 60 k := fun k hk => (b3 k hk).trans (s2 k hk)
  have s3 : ∀ k, k < 99 → N3 62 k = N 60 k := fun k hk => by rw [g3 _ _ (by omega)]; exact s2 k hk
  have hR3 : Rel M2 N3 := h.dr f2 g4 k3
  obtain ⟨M4, e6, w4, z4, f4⟩ := dr_start hR3.1.1
  rw [e1, bs, e3, bs, e2, bs]
  simp only [letv]
  rw [e4, bs, e5, bs, e6, bs, p2]
  generalize N2 59 5 = c
  show Sim (f_X6_school_l76 FU (nI n) c (nI 0) M4) (f_X7_school_l60 FU (nI n) c (nI 0) N3)
  have key : ∀ (d m m' p : Nat) (M' N' : Mem), np ≤ p + d → p < 100 → d < m → d < m' → RW 17 M' (N' 60) → Ok (N' 60) nw np → N' 60 3 = nI y → M' 17 6 = 0 → Fr DR M M' → Fr TRY N N' → (∀ k, k < 99 → N' 62 k = N 60 k) → Sim (f_X6_school_l76 m (nI n) c (nI p) M') (f_X7_school_l60 m' (nI n) c (nI p) N') := by
    intro d
    induction d with
    | zero =>
      intro m m' p M' N' hd hp hm hm' w' o' y' z' f' g' s'
      obtain ⟨m, rfl⟩ : ∃ k, m = k + 1 := ⟨m - 1, by omega⟩
      obtain ⟨m', rfl⟩ : ∃ k, m' = k + 1 := ⟨m' - 1, by omega⟩
      have v60 : (up N' 59 5 0) 60 = N' 60 := up_ne (by decide)
      obtain ⟨M5, N5, a1, a2, a3, a4, a5, a6⟩ := y1_rel (M := M') (N := up N' 59 5 0) (b := 17) (nw := nw) (np := np) (by rw [v60]; exact w') (by rw [v60]; exact o') (y := y) (by rw [v60]; exact y') (by omega)
      rw [z', up_ap, if_pos ⟨rfl, rfl⟩, Int32.sub_zero, Int32.sub_zero] at a6
      have hy5 := fr_X7_year a2
      have f5 : Fr DR M M5 := f'.trans ((fr_X4_passYears a1).mono (fun i k z => by unfold DR; omega))
      have g5 : Fr TRY N N5 := (g'.put rfl (by unfold TRY; omega)).trans (hy5.mono (fun i k z => by unfold TRY; omega))
      have s5 : ∀ k, k < 99 → N5 62 k = N 60 k := fun k hk => by rw [hy5 _ _ (by omega), up_ap, if_neg (by omega)]; exact s' k hk
      obtain ⟨N6, e7, b6, g6⟩ := m_back N5
      have hR : Rel M5 N6 := h.dr f5 (g5.trans (g6.mono (fun i k z => by unfold TRY; omega))) (fun k hk => (b6 k hk).trans (s5 k hk))
      show Sim (f_X6_school_b76 (f_X6_school_l76 m) (nI n) c (nI p) M') (f_X7_school_b60 (f_X7_school_l60 m') (nI n) c (nI p) N')
      unfold f_X6_school_b76 f_X7_school_b60
      rw [show M' 25 0 = nI np from w'.1.2.1.trans o'.1.2.2.2.1, ck_pos vl_1, ix_1, o'.1.2.2.2.1, if_pos (nI_le (by omega) (by omega)), if_pos (nI_le (by omega) (by omega)), a1, bs]
      simp only [letv]
      rw [a2, bs, e7, bs, g6 59 5 (by omega), ← a6]
      exact ⟨_, M5, N6, rfl, rfl, hR⟩
    | succ d ih =>
      intro m m' p M' N' hd hp hm hm' w' o' y' z' f' g' s'
      by_cases hq : np ≤ p
      · obtain ⟨m, rfl⟩ : ∃ k, m = k + 1 := ⟨m - 1, by omega⟩
        obtain ⟨m', rfl⟩ : ∃ k, m' = k + 1 := ⟨m' - 1, by omega⟩
        have v60 : (up N' 59 5 0) 60 = N' 60 := up_ne (by decide)
        obtain ⟨M5, N5, a1, a2, a3, a4, a5, a6⟩ := y1_rel (M := M') (N := up N' 59 5 0) (b := 17) (nw := nw) (np := np) (by rw [v60]; exact w') (by rw [v60]; exact o') (y := y) (by rw [v60]; exact y') (by omega)
        rw [z', up_ap, if_pos ⟨rfl, rfl⟩, Int32.sub_zero, Int32.sub_zero] at a6
        have hy5 := fr_X7_year a2
        have f5 : Fr DR M M5 := f'.trans ((fr_X4_passYears a1).mono (fun i k z => by unfold DR; omega))
        have g5 : Fr TRY N N5 := (g'.put rfl (by unfold TRY; omega)).trans (hy5.mono (fun i k z => by unfold TRY; omega))
        have s5 : ∀ k, k < 99 → N5 62 k = N 60 k := fun k hk => by rw [hy5 _ _ (by omega), up_ap, if_neg (by omega)]; exact s' k hk
        obtain ⟨N6, e7, b6, g6⟩ := m_back N5
        have hR : Rel M5 N6 := h.dr f5 (g5.trans (g6.mono (fun i k z => by unfold TRY; omega))) (fun k hk => (b6 k hk).trans (s5 k hk))
        show Sim (f_X6_school_b76 (f_X6_school_l76 m) (nI n) c (nI p) M') (f_X7_school_b60 (f_X7_school_l60 m') (nI n) c (nI p) N')
        unfold f_X6_school_b76 f_X7_school_b60
        rw [show M' 25 0 = nI np from w'.1.2.1.trans o'.1.2.2.2.1, ck_pos vl_1, ix_1, o'.1.2.2.2.1, if_pos (nI_le (by omega) (by omega)), if_pos (nI_le (by omega) (by omega)), a1, bs]
        simp only [letv]
        rw [a2, bs, e7, bs, g6 59 5 (by omega), ← a6]
        exact ⟨_, M5, N6, rfl, rfl, hR⟩
      · obtain ⟨m, rfl⟩ : ∃ k, m = k + 1 := ⟨m - 1, by omega⟩
        obtain ⟨m', rfl⟩ : ∃ k, m' = k + 1 := ⟨m' - 1, by omega⟩
        have w5 := w'.setP (p := p) (k := 4) (by omega) (by decide) 1
        have o5 := o'.setP (p := p) (k := 4) (by omega) (by decide) (v := 1) (by omega) (by omega) (fun _ => Or.inr rfl)
        show Sim (f_X6_school_b76 (f_X6_school_l76 m) (nI n) c (nI p) M') (f_X7_school_b60 (f_X7_school_l60 m') (nI n) c (nI p) N')
        unfold f_X6_school_b76 f_X7_school_b60
        rw [show M' 25 0 = nI np from w'.1.2.1.trans o'.1.2.2.2.1, ck_pos vl_1, ix_1, o'.1.2.2.2.1, if_neg (nI_ge (by omega) (by omega)), if_neg (nI_ge (by omega) (by omega)), ck_pos (vp_in_nI (show p < 8 by omega) (by decide)), ix_nI (n := p) (by omega), show f_X7_where (nI p) 4 N' = _ from m_where p 4 N', bs, ck_pos (vp_in_nI (show 41 + 5 * p + 4 < 99 by omega) (by decide)), ix_nI (n := 41 + 5 * p + 4) (by omega), nI_add]
        refine ih m m' (p + n) _ _ (by omega) (by omega) (by omega) (by omega) ?_ ?_ ?_ ?_ (f'.put rfl (by unfold DR; omega)) (g'.put rfl (by unfold TRY; omega)) (fun k hk => by rw [up_ap, if_neg (by omega)]; exact s' k hk)
        · rw [up_eq]; exact w5
        · rw [up_eq]; exact o5
        · rw [up_ap, if_neg (by omega)]; exact y'
        · rw [up_ap, if_neg (by omega)]; exact z'
  have k60 : N3 60 3 = nI y := (k3 3 (by omega)).trans ey
  exact key np FU FU 0 M4 N3 (by omega) (by omega) (show np < 5000 by omega) (show np < 5000 by omega) w4 (o.cg k3) k60 z4 (f2.trans f4) g4 s3
end ST17
