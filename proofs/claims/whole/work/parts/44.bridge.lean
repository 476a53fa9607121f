section BRIDGE
variable {b : Nat} {M N : Mem} {S : Nat → Int32} {nw np : Nat}
theorem ti_cg {S S' : Nat → Int32} (h : ∀ k, k < 99 → S' k = S k) {p q : Nat} (hp : p < 8) (hq : q < 8) (z : Int32) : ∀ k, k < 99 → tiS S' p q z k = tiS S p q z k := by
  intro k hk
  have e1 : ∀ k, k < 99 → upd S' (81 + p) (tiV (S' (81 + p)) q z) k = upd S (81 + p) (tiV (S (81 + p)) q z) k := fun k hk => by
    rw [upd_if, upd_if, h (81 + p) (by omega), h k hk]
  unfold tiS
  rw [e1 (81 + q) (by omega)]
  unfold upd at e1 ⊢
  rw [e1 k hk]
theorem ht_rel (h : Rel M N) (o : Ok (N 60) nw np) {p q m n y : Nat} (hpq : p < q) (hq : q < np) (hm : m < 12) (ey : N 60 3 = nI y) (hn : y + n < 2000) (hb : bit (N 60 (81 + p)) q = false) : ∃ r c M1 N1 N2 N3, f_X6_howManyWithTie (nI p) (nI q) (nI m) (nI n) M = some (c, M1) ∧ f_X7_joins (nI p) (nI q) 1 N = some N1 ∧ f_X7_believers (-1) (nI m) (nI n) N1 = some (r, N2) ∧ f_X7_ones r N2 = some c ∧ f_X7_joins (nI p) (nI q) 0 N2 = some N3 ∧ Rel M1 N3 ∧ (∀ k, k < 99 → N3 60 k = N 60 k) := by
  have h8 := o.1.2.1
  have hp8 : p < 8 := by omega
  have hq8 : q < 8 := by omega
  obtain ⟨M1, e1, w1, z1, f1⟩ := dr_start h.1.1
  obtain ⟨M2, e2, w2⟩ := xw_bind w1 hp8 hq8 1
  have f2 : Fr DR M M2 := f1.trans ((fr_X0_bind e2).mono (fun i k z => by unfold DR; omega))
  obtain ⟨N1, a1, a60, g1⟩ := mw_joins hp8 hq8 1 N
  obtain ⟨N2, a2, s2, b60, g2⟩ := m_sv N1
  have o2 : Ok (N2 60) nw np := by rw [b60, a60]; exact o.ti (by omega) hq 1
  obtain ⟨M3, N3, e3, a3, w3, o3, -⟩ := yr_rel (M := M2) (N := N2) (b := 17) (by rw [b60, a60]; exact w2) o2 (y := y) (by rw [b60, a60]; unfold tiS; rw [upd_ne (by omega), upd_ne (by omega)]; exact ey) hn
  have f3 : Fr DR M M3 := f2.trans ((fr_X4_passYears e3).mono (fun i k z => by unfold DR; omega))
  have gy := fr_X7_yearsGo a3
  obtain ⟨N4, a4, b4, g4⟩ := m_back N3
  have k4 : ∀ k, k < 99 → N4 60 k = tiS (N 60) p q 1 k := fun k hk => by rw [b4 k hk, ← a60, ← s2 k hk]; exact gy 62 k (by omega)
  obtain ⟨N5, a5, c60, g5⟩ := mw_joins hp8 hq8 0 N4
  have k5 : ∀ k, k < 99 → N5 60 k = N 60 k := fun k hk => by
    rw [c60, ti_cg k4 hp8 hq8 0 k hk, ti_undo (fun p hp => (o.2.2.1 p hp).2.2.2.2) hp8 hq8 (by omega) hb ((o.1.2.2.2.2.2 q p hq8 hp8).1.trans hb)]
  have g6 : Fr TRY N N5 := ((((g1.mono (fun i k z => by unfold TRY; omega)).trans g2).trans (gy.mono (fun i k z => by unfold TRY; omega))).trans (g4.mono (fun i k z => by unfold TRY; omega))).trans (g5.mono (fun i k z => by unfold TRY; omega))
  have l := bel_lt (S := N3 60) (m := m) h8
  refine ⟨belS (N3 60) np m, _, M3, N1, N4, N5, ?_, a1, ?_, m_onesL l N4, a5, h.dr f3 g6 k5, k5⟩
  · unfold f_X6_howManyWithTie
    rw [e1, bs, show f_X0_bind 25 (nI p) (nI q) 1 M1 = _ from e2, bs, e3, bs, show f_X0_believers 25 (nI m) M3 = _ from xw_bel w3 o3 hm, bs, x_bcL l, bs]
  · unfold f_X7_believers
    rw [a2, bs, if_pos (by decide), a3, bs, mw_bel o3 hm, bs, a4, bs]
theorem st_bridge (h : Rel M N) (x1 x2 : Int32) : Sim (f_X6_bridge x1 x2 M) (f_X7_bridge x1 x2 N) := by
  obtain ⟨w, nw, np, o⟩ := h.1
  obtain ⟨y, hy, ey⟩ := o.1.2.2.2.2.1
  have h8 := o.1.2.1
  unfold f_X6_bridge f_X7_bridge
  rw [x_isMark, m_isMark, x_isAhead, m_isSpan]
  simp only [bs, ib]
  cases h2 : inR x1 12
  · exact s_B h
  cases h3 : inR x2 61
  · exact s_B h
  obtain ⟨mk, hm, rfl⟩ := lt12 h2
  obtain ⟨n, hn, rfl⟩ := inR_t (n := 61) (by decide) h3
  rw [if_pos rfl, if_pos rfl, if_pos rfl, if_pos rfl, x_hasY (b := 1) (w.1.2.2.2.1.trans ey) (by omega), m_late ey (by omega), bs, bs]
  by_cases z : y + n ≤ 999
  case neg =>
    rw [decide_eq_false z]
    exact s_S h
  rw [decide_eq_true z, if_pos rfl, if_neg (by decide)]
  have inner : ∀ (p : Nat) (k47 k44 : Int32 → Int32 → Int32 → Int32 → Int32 → Mem → Option (Int32 × Mem)), (∀ (a c : Int32) (M' N' : Mem), Rel M' N' → (∀ k, k < 99 → N' 60 k = N 60 k) → Sim (k47 (nI mk) (nI n) a c (nI (p + 1)) M') (k44 (nI mk) (nI n) a c (nI (p + 1)) N')) → ∀ (d m m' q : Nat) (a c : Int32) (M' N' : Mem), p < q → q + d = np → d < m → d < m' → Rel M' N' → (∀ k, k < 99 → N' 60 k = N 60 k) → Sim (f_X6_bridge_l68 k47 m (nI mk) (nI n) a c (nI p) (nI q) M') (f_X7_bridge_l61 k44 m' (nI mk) (nI n) a c (nI p) (nI q) N') := by
    intro p k47 k44 K d
    induction d with
    | zero =>
      intro m m' q a c M' N' hpq hi hm hm' hR hk
      obtain ⟨m, rfl⟩ : ∃ k, m = k + 1 := ⟨m - 1, by omega⟩
      obtain ⟨m', rfl⟩ : ∃ k, m' = k + 1 := ⟨m' - 1, by omega⟩
      have o' := o.cg hk
      show Sim (f_X6_bridge_b68 k47 (f_X6_bridge_l68 k47 m) (nI mk) (nI n) a c (nI p) (nI q) M') (f_X7_bridge_b61 k44 (f_X7_bridge_l61 k44 m') (nI mk) (nI n) a c (nI p) (nI q) N')
      unfold f_X6_bridge_b68 f_X7_bridge_b61
      rw [hP hR.1.1 o', ck_pos vl_1, ix_1, o'.1.2.2.2.1, if_pos (nI_le (by omega) (by omega)), if_pos (nI_le (by omega) (by omega))]
      rw [nI_1]
      exact K a c M' N' hR hk
    | succ d ih =>
      intro m m' q a c M' N' hpq hi hm1 hm' hR hk
      obtain ⟨m, rfl⟩ : ∃ k, m = k + 1 := ⟨m - 1, by omega⟩
      obtain ⟨m', rfl⟩ : ∃ k, m' = k + 1 := ⟨m' - 1, by omega⟩
      have o' := o.cg hk
      have hp8 : p < 8 := by omega
      have hq8 : q < 8 := by omega
      show Sim (f_X6_bridge_b68 k47 (f_X6_bridge_l68 k47 m) (nI mk) (nI n) a c (nI p) (nI q) M') (f_X7_bridge_b61 k44 (f_X7_bridge_l61 k44 m') (nI mk) (nI n) a c (nI p) (nI q) N')
      unfold f_X6_bridge_b68 f_X7_bridge_b61 f_X7_bridge_j139
      rw [hP hR.1.1 o', ck_pos vl_1, ix_1, o'.1.2.2.2.1, if_neg (nI_ge (by omega) (by omega)), if_neg (nI_ge (by omega) (by omega)), m_81 hp8, ck_pos (vp_in_nI (show 81 + p < 99 by omega) (by decide)), ix_nI (by omega), m_has, show f_X0_isTied 9 (nI p) (nI q) M' = _ from xw_tied hR.1.1 o' hp8 hq8, bs, bs, ib, ib]
      cases hb : bit (N' 60 (81 + p)) q
      case true =>
        rw [if_pos rfl, if_pos rfl]
        rw [nI_1]
        exact ih m m' (q + 1) _ _ M' N' (by omega) (by omega) (by omega) (by omega) hR hk
      rw [if_neg (by decide), if_neg (by decide)]
      obtain ⟨r, c1, M1, N1, N2, N3, e1, e2, e3, e4, e5, hR3, k3⟩ := ht_rel hR o' hpq (by omega) hm ((hk 3 (by omega)).trans ey) (n := n) (by omega) hb
      have hk3 : ∀ k, k < 99 → N3 60 k = N 60 k := fun k z => (k3 k z).trans (hk k z)
      rw [e1, e2]
      simp only [bs, letv]
      rw [e3]
      simp only [bs]
      rw [e4]
      simp only [bs]
      rw [e5]
      simp only [bs]
      by_cases hc : c1 ≤ c
      · rw [if_pos hc, if_pos hc, if_pos hc]
        rw [nI_1]
        exact ih m m' (q + 1) _ _ M1 N3 (by omega) (by omega) (by omega) (by omega) hR3 hk3
      · rw [if_neg hc, if_neg hc, if_neg hc]
        rw [nI_1]
        exact ih m m' (q + 1) _ _ M1 N3 (by omega) (by omega) (by omega) (by omega) hR3 hk3
  have key : ∀ (d m m' p : Nat) (a c : Int32) (M' N' : Mem), p + d = np → d < m → d < m' → Rel M' N' → (∀ k, k < 99 → N' 60 k = N 60 k) → Sim (f_X6_bridge_l47 m (nI mk) (nI n) a c (nI p) M') (f_X7_bridge_l44 m' (nI mk) (nI n) a c (nI p) N') := by
    intro d
    induction d with
    | zero =>
      intro m m' p a c M' N' hi hm1 hm' hR hk
      obtain ⟨m, rfl⟩ : ∃ k, m = k + 1 := ⟨m - 1, by omega⟩
      obtain ⟨m', rfl⟩ : ∃ k, m' = k + 1 := ⟨m' - 1, by omega⟩
      have o' := o.cg hk
      show Sim (f_X6_bridge_b47 (f_X6_bridge_l47 m) (nI mk) (nI n) a c (nI p) M') (f_X7_bridge_b44 (f_X7_bridge_l44 m') (nI mk) (nI n) a c (nI p) N')
      unfold f_X6_bridge_b47 f_X7_bridge_b44
      rw [hP hR.1.1 o', ck_pos vl_1, ix_1, o'.1.2.2.2.1, if_pos (nI_le (by omega) (by omega)), if_pos (nI_le (by omega) (by omega))]
      by_cases hc : 0 ≤ a
      · rw [if_pos hc, if_pos hc]
        exact s_ok hR _
      · rw [if_neg hc, if_neg hc]
        exact s_N hR
    | succ d ih =>
      intro m m' p a c M' N' hi hm1 hm' hR hk
      obtain ⟨m, rfl⟩ : ∃ k, m = k + 1 := ⟨m - 1, by omega⟩
      obtain ⟨m', rfl⟩ : ∃ k, m' = k + 1 := ⟨m' - 1, by omega⟩
      have o' := o.cg hk
      show Sim (f_X6_bridge_b47 (f_X6_bridge_l47 m) (nI mk) (nI n) a c (nI p) M') (f_X7_bridge_b44 (f_X7_bridge_l44 m') (nI mk) (nI n) a c (nI p) N')
      unfold f_X6_bridge_b47 f_X7_bridge_b44
      rw [hP hR.1.1 o', ck_pos vl_1, ix_1, o'.1.2.2.2.1, if_neg (nI_ge (by omega) (by omega)), if_neg (nI_ge (by omega) (by omega))]
      simp only [letv, nI_1]
      exact inner p _ _ (fun a c M' N' hR hk => ih m m' (p + 1) a c M' N' (by omega) (by omega) (by omega) hR hk) d FU FU (p + 1) a c M' N' (by omega) (by omega) (show d < 5000 by omega) (show d < 5000 by omega) hR hk
  exact key np FU FU 0 (-1) (-1) M N (by omega) (show np < 5000 by omega) (show np < 5000 by omega) h (fun k _ => rfl)
end BRIDGE
