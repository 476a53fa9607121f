section ST12
variable {M N : Mem} {S : Nat → Int32} {nw np : Nat}
theorem x_num {s i : Nat} (hs : s < 4) (hi : i < 40) (M : Mem) : f_X1_number (nI s) (nI i) M = some (M 55 (40 * s + i)) := by
  unfold f_X1_number
  rw [x_40, ck_pos (vp_in_nI (by omega) (by decide)), ix_nI (by omega)]
theorem st_load (h : Rel M N) (x1 : Int32) : Sim (f_X6_load x1 M) (f_X7_load x1 N) := by
  unfold f_X6_load f_X7_load
  rw [x_isSheet, m_wrong, bs, ib]
  cases h1 : inR x1 4
  · exact s_B h
  obtain ⟨s, hs, rfl⟩ := inR_t (n := 4) (by decide) h1
  obtain ⟨c1, c2, n, hn, c3⟩ := h.2.2.2.2.1 s hs
  rw [if_pos rfl, if_pos rfl, x_miss hs, bs, ib, ix_nI (by omega), c1]
  by_cases z : N 66 s = 0
  · rw [decide_eq_true z, if_pos rfl, if_pos z]
    exact s_M h
  rw [decide_eq_false z, if_neg (by decide), if_neg z, bs, if_pos rfl, ck_pos (vp_in_nI hs (by decide))]
  obtain ⟨w, nw, np, o⟩ := h.1
  have h8 := o.1.2.1
  have em : mnI (M 54 s) (M 9 0) = nI (min n np) := by
    unfold mnI
    rw [c2, c3, hP w o]
    by_cases y : np < n
    · rw [if_pos (nI_lt y (by omega)), Nat.min_eq_right (by omega)]
    · rw [if_neg (nI_nlt (by omega) (by omega)), Nat.min_eq_left (by omega)]
  rw [em]
  show Sim (f_X6_load_l57 FU (nI s) (nI (min n np)) (nI 0) M) (f_X7_load_l18 FU (nI s) (nI 0) N)
  have key : ∀ (d m m' i : Nat) (M' N' : Mem), i + d = min n np → d < m → d < m' → Rel M' N' → Ok (N' 60) nw np → N' 67 s = nI n → Sim (f_X6_load_l57 m (nI s) (nI (min n np)) (nI i) M') (f_X7_load_l18 m' (nI s) (nI i) N') := by
    intro d
    induction d with
    | zero =>
      intro m m' i M' N' hi hm hm' hR hO hZ
      obtain ⟨m, rfl⟩ : ∃ k, m = k + 1 := ⟨m - 1, by omega⟩
      obtain ⟨m', rfl⟩ : ∃ k, m' = k + 1 := ⟨m' - 1, by omega⟩
      show Sim (f_X6_load_b57 _ (nI s) (nI (min n np)) (nI i) M') (f_X7_load_b18 _ (nI s) (nI i) N')
      unfold f_X6_load_b57 f_X7_load_b18
      rw [if_pos (nI_le (by omega) (by omega)), ck_pos (vp_in_nI hs (by decide)), ix_nI (by omega), hZ, ck_pos vl_1, ix_1, hO.1.2.2.2.1]
      by_cases y : n ≤ i
      · rw [if_pos (nI_le y (by omega)), show min n np = i by omega]
        exact s_ok hR _
      · rw [if_neg (nI_ge (by omega) (by omega)), if_pos (nI_le (by omega) (by omega)), show min n np = i by omega]
        exact s_ok hR _
    | succ d ih =>
      intro m m' i M' N' hi hm hm' hR hO hZ
      obtain ⟨m, rfl⟩ : ∃ k, m = k + 1 := ⟨m - 1, by omega⟩
      obtain ⟨m', rfl⟩ : ∃ k, m' = k + 1 := ⟨m' - 1, by omega⟩
      show Sim (f_X6_load_b57 (f_X6_load_l57 m) (nI s) (nI (min n np)) (nI i) M') (f_X7_load_b18 (f_X7_load_l18 m') (nI s) (nI i) N')
      unfold f_X6_load_b57 f_X7_load_b18
      have ei : M' 55 (40 * s + i) = N' 68 (40 * s + i) := hR.2.2.2.2.2 _ (by omega)
      rw [if_neg (nI_ge (by omega) (by omega)), ck_pos (vp_in_nI hs (by decide)), ix_nI (n := s) (by omega), hZ, ck_pos vl_1, ix_1, hO.1.2.2.2.1, if_neg (nI_ge (by omega) (by omega)), if_neg (nI_ge (by omega) (by omega)), m_40, ck_pos (vp_in_nI (show 40 * s + i < 160 by omega) (by decide)), ix_nI (n := 40 * s + i) (by omega), x_num hs (by omega), bs, ei, x_isSaying, m_isSaying, bs, bs, ib, ib]
      cases h2 : inR (N' 68 (40 * s + i)) 4096
      · exact s_ok hR _
      rw [if_pos rfl, if_pos rfl, ck_pos (vp_in_nI (show i < 8 by omega) (by decide)), ix_nI (n := i) (by omega), show f_X7_where (nI i) 0 N' = _ from m_where i 0 N', bs, ck_pos (vp_in_nI (show 40 * s + i < 160 by omega) (by decide)), ck_pos (vp_in_nI (show 41 + 5 * i + 0 < 99 by omega) (by decide)), ix_nI (n := 41 + 5 * i + 0) (by omega), nI_1]
      have o1 := hO.setP (k := 0) (p := i) (by omega) (by decide) (v := N' 68 (40 * s + i)) (fun _ => lt4096 h2) (by omega) (by omega)
      refine ih m m' (i + 1) _ _ (by omega) (by omega) (by omega) (hR.setL (by decide) (hR.1.1.setP (k := 0) (p := i) (by omega) (by decide) _) ⟨nw, np, o1⟩) ?_ ?_
      · rw [up_eq]; exact o1
      · rw [up_ap, if_neg (by omega)]; exact hZ
  exact key (min n np) FU FU 0 M N (by omega) (show min n np < 5000 by omega) (show min n np < 5000 by omega) h o c3
-- feed
theorem sh_eq : ∀ i, i < 4 → ∀ x : Int32, ((x.toUInt32 >>> (Int32.toUInt32 ((8 : Int32) * nI i) &&& Int32.toUInt32 31)).toInt32 &&& (255 : Int32)) = (x >>> (((8 : Int32) * nI i) &&& 31)) &&& (255 : Int32) := by
  intro i hi x
  rw [show (8 : Int32) * nI i = nI (8 * i) from pk_mul 8 i]
  apply b_ext
  intro k hk
  rw [b_and, b_and, b_255, b_ushr (8 * i) (by omega), b_sshr (8 * i) (by omega) x hk]
  by_cases z : k < 8
  · rw [if_pos (by omega)]
  · rw [decide_eq_false z, Bool.and_false, Bool.and_false]
theorem b255_lt (x : Int32) : Lt (x &&& 255) 256 := pk_andE x 8 (by decide)
theorem Rel.tape {M1 N1 : Mem} (h : Rel M N) (f : Fr (fun i k => i = 50 ∨ (i = 49 ∧ k = 1)) M M1) (g : Fr (fun i k => i = 65 ∨ (i = 59 ∧ k = 13)) N N1) (r : RT M1 N1) : Rel M1 N1 := by
  obtain ⟨a, b, c, d, e⟩ := h
  have e60 : N1 60 = N 60 := funext fun k => g _ _ (by omega)
  exact ⟨⟨by rw [e60]; exact a.1.fr f (fun i k p q => by omega), by rw [e60]; exact a.2⟩, b.fr f g (by omega) (fun i k p q => by omega) (by omega) (fun k => by omega), c.fr f g (fun k => by omega) (fun k => by omega), r, e.fr f g (fun i k p q => by omega) (fun i k p q => by omega)⟩
theorem st_feed (h : Rel M N) (x1 x2 : Int32) : Sim (f_X6_feed x1 x2 M) (f_X7_feed x1 x2 N) := by
  obtain ⟨t, ht, t1, t2, t3⟩ := h.2.2.2.1
  unfold f_X6_feed f_X7_feed
  rw [show f_X7_in x2.toInt64 1 4 N = _ from m_in x2 1 4 N, bs, ib]
  have e1 : (1 : Int32).toInt = 1 := by decide
  have e4 : (4 : Int32).toInt = 4 := by decide
  by_cases a1 : x2 < 1
  · rw [if_pos a1, decide_eq_false (by rw [le_t]; rw [lt_t] at a1; omega)]
    exact s_B h
  rw [if_neg a1]
  by_cases a2 : x2 ≤ 4
  case neg =>
    rw [if_neg a2, decide_eq_false (fun z => a2 z.2)]
    exact s_B h
  have a1' := a1
  have a2' := a2
  rw [lt_t] at a1'
  rw [le_t] at a2'
  rw [if_pos a2, decide_eq_true (show (1 : Int32) ≤ x2 ∧ x2 ≤ 4 from ⟨by rw [le_t]; omega, a2⟩), if_pos rfl]
  obtain ⟨n, hn, rfl⟩ := nI_of (x := x2) (by rw [lt_t]; have : (0 : Int32).toInt = 0 := by decide
                                             omega)
  rw [nI_toInt hn] at a1' a2'
  rw [t1, t2, nI_add]
  by_cases a3 : nI (t + n) ≤ 120
  case neg =>
    rw [if_neg a3, if_neg a3]
    exact s_F h
  have a3' : t + n ≤ 120 := (nI_leI (b := 120) (by omega) (by decide)).mp a3
  rw [if_pos a3, if_pos a3]
  have en : nI n - 1 = nI (n - 1) := by
    obtain ⟨q, rfl⟩ : ∃ q, n = q + 1 := ⟨n - 1, by omega⟩
    exact nI_pred q
  unfold f_X2_take
  rw [en]
  show Sim ((f_X2_take_l4 FU x1 (nI (n - 1)) M).bind fun r => some (r 49 1, r)) (f_X7_feed_l41 FU x1 (nI (n - 1)) N)
  have key : ∀ (d m m' t : Nat) (M' N' : Mem), 0 < d → d ≤ 4 → d < m → d < m' → t + d ≤ 120 → M' 49 1 = nI t → N' 59 13 = nI t → (∀ k, k < t → M' 50 k = N' 65 k ∧ Lt (N' 65 k) 256) → Fr (fun i k => i = 50 ∨ (i = 49 ∧ k = 1)) M M' → Fr (fun i k => i = 65 ∨ (i = 59 ∧ k = 13)) N N' → ∃ M1 N1, f_X2_take_l4 m x1 (nI (d - 1)) M' = some M1 ∧ f_X7_feed_l41 m' x1 (nI (d - 1)) N' = some (nI (t + d), N1) ∧ M1 49 1 = nI (t + d) ∧ N1 59 13 = nI (t + d) ∧ (∀ k, k < t + d → M1 50 k = N1 65 k ∧ Lt (N1 65 k) 256) ∧ Fr (fun i k => i = 50 ∨ (i = 49 ∧ k = 1)) M M1 ∧ Fr (fun i k => i = 65 ∨ (i = 59 ∧ k = 13)) N N1 := by
    intro d
    induction d with
    | zero => intro m m' t M' N' h0; omega
    | succ d ih =>
      intro m m' t M' N' h0 h4 hm hm' ht g1 g2 g3 f1 f2
      obtain ⟨m, rfl⟩ : ∃ k, m = k + 1 := ⟨m - 1, by omega⟩
      obtain ⟨m', rfl⟩ : ∃ k, m' = k + 1 := ⟨m' - 1, by omega⟩
      let v : Int32 := (x1 >>> (((8 : Int32) * nI d) &&& 31)) &&& 255
      let M2 : Mem := up (up M' 50 t v) 49 1 (nI (t + 1))
      let N2 : Mem := up (up N' 65 t v) 59 13 (nI (t + 1))
      have s1 : f_X2_take_l4 (m + 1) x1 (nI (d + 1 - 1)) M' = f_X2_take_l4 m x1 (nI d + -1) M2 := by
        show f_X2_take_b4 (f_X2_take_l4 m) x1 (nI d) M' = _
        unfold f_X2_take_b4
        rw [if_neg (nI_pos (by omega)), g1, if_neg (show ¬ (120 : Int32) ≤ nI t from nI_ge (b := 120) (by omega) (by decide)), ck_pos (vp_in_nI (show t < 120 by omega) (by decide)), ix_nI (by omega), sh_eq d (by omega)]
        show f_X2_take_l4 m x1 (nI d + -1) (up (up M' 50 t v) 49 1 ((up M' 50 t v) 49 1 + 1)) = _
        rw [up_ap, if_neg (by omega), g1, nI_1]
      have s2 : f_X7_feed_l41 (m' + 1) x1 (nI (d + 1 - 1)) N' = f_X7_feed_l41 m' x1 (nI d + -1) N2 := by
        show f_X7_feed_b41 (f_X7_feed_l41 m') x1 (nI d) N' = _
        unfold f_X7_feed_b41
        rw [if_neg (nI_pos (by omega)), g2, ck_pos (vp_in_nI (show t < 120 by omega) (by decide)), ix_nI (by omega)]
        show f_X7_feed_l41 m' x1 (nI d + -1) (up (up N' 65 t v) 59 13 ((up N' 65 t v) 59 13 + 1)) = _
        rw [up_ap, if_neg (by omega), g2, nI_1]
      have k1 : M2 49 1 = nI (t + 1) := by show up _ 49 1 _ 49 1 = _; rw [up_ap, if_pos ⟨rfl, rfl⟩]
      have k2 : N2 59 13 = nI (t + 1) := by show up _ 59 13 _ 59 13 = _; rw [up_ap, if_pos ⟨rfl, rfl⟩]
      have k3 : ∀ k, k < t + 1 → M2 50 k = N2 65 k ∧ Lt (N2 65 k) 256 := by
        intro k hk
        have u1 : M2 50 k = if k = t then v else M' 50 k := by
          show up (up M' 50 t v) 49 1 _ 50 k = _
          rw [up_ap, if_neg (by omega), up_ap]
          by_cases z : k = t
          · rw [if_pos ⟨rfl, z⟩, if_pos z]
          · rw [if_neg (fun y => z y.2), if_neg z]
        have u2 : N2 65 k = if k = t then v else N' 65 k := by
          show up (up N' 65 t v) 59 13 _ 65 k = _
          rw [up_ap, if_neg (by omega), up_ap]
          by_cases z : k = t
          · rw [if_pos ⟨rfl, z⟩, if_pos z]
          · rw [if_neg (fun y => z y.2), if_neg z]
        rw [u1, u2]
        by_cases z : k = t
        · rw [if_pos z, if_pos z]
          exact ⟨rfl, b255_lt _⟩
        · rw [if_neg z, if_neg z]
          exact g3 k (by omega)
      have f3 : Fr (fun i k => i = 50 ∨ (i = 49 ∧ k = 1)) M M2 := (f1.put rfl (Or.inl rfl)).put rfl (Or.inr ⟨rfl, rfl⟩)
      have f4 : Fr (fun i k => i = 65 ∨ (i = 59 ∧ k = 13)) N N2 := (f2.put rfl (Or.inl rfl)).put rfl (Or.inr ⟨rfl, rfl⟩)
      rw [s1, s2]
      by_cases hd : d = 0
      · subst hd
        obtain ⟨m, rfl⟩ : ∃ k, m = k + 1 := ⟨m - 1, by omega⟩
        obtain ⟨m', rfl⟩ : ∃ k, m' = k + 1 := ⟨m' - 1, by omega⟩
        refine ⟨M2, N2, ?_, ?_, k1, k2, k3, f3, f4⟩
        · show f_X2_take_b4 (f_X2_take_l4 m) x1 (nI 0 + -1) M2 = _
          unfold f_X2_take_b4
          rw [if_pos (by decide)]
        · show f_X7_feed_b41 (f_X7_feed_l41 m') x1 (nI 0 + -1) N2 = _
          unfold f_X7_feed_b41
          rw [if_pos (by decide), k2]
      · have ed : nI d + -1 = nI (d - 1) := by
          obtain ⟨q, rfl⟩ : ∃ q, d = q + 1 := ⟨d - 1, by omega⟩
          exact pk_m1 q
        rw [ed, show t + (d + 1) = t + 1 + d by omega]
        exact ih m m' (t + 1) M2 N2 (by omega) (by omega) (by omega) (by omega) (by omega) k1 k2 k3 f3 f4
  obtain ⟨M1, N1, q1, q2, q3, q4, q5, q6, q7⟩ := key n FU FU t M N (by omega) (by omega) (show n < 5000 by omega) (show n < 5000 by omega) a3' t1 t2 t3 Fr.rf Fr.rf
  rw [q1, q2, bs, q3]
  exact ⟨_, M1, N1, rfl, rfl, h.tape q6 q7 ⟨t + n, a3', q3, q4, q5⟩⟩
end ST12
