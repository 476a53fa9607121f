section ST9
variable {M N : Mem} {S : Nat → Int32} {nw np : Nat}
theorem st_settles (h : Rel M N) (x1 : Int32) : Sim (f_X6_settles x1 M) (f_X7_settles x1 N) := by
  obtain ⟨w, nw, np, o⟩ := h.1
  unfold f_X6_settles f_X7_settles
  rw [x_isSaying, m_isSaying]
  simp only [bs, ib]
  cases h1 : inR x1 4096
  · exact s_B h
  have l1 := lt4096 h1
  rw [if_pos rfl, if_pos rfl, ck_pos (show vp_in 0 101 from vp_in_nI (n := 0) (by decide) (by decide)), ck_pos (show vp_in 0 102 from vp_in_nI (n := 0) (by decide) (by decide)), ix_0]
  show Sim (f_X6_settles_l25 FU x1 1 (up M 57 0 x1)) (f_X7_settles_l23 FU 1 (up N 64 0 x1))
  have inner : ∀ (k : Int32 → Int32 → Mem → Option (Int32 × Mem)) (k' : Int32 → Mem → Option (Int32 × Mem)) (r : Nat) (s : Int32) (M' N' : Mem), r < 101 → (∀ i, i < r → M' 57 i = N' 64 i) → N' 64 r = s → Rel M' N' → Sim (k s (nI (r + 1)) (up M' 57 r s)) (k' (nI (r + 1)) N') → ∀ (d m m' i : Nat), i + d = r → d < m → d < m' → Sim (f_X6_settles_l46 k m s (nI r) (nI i) M') (f_X7_settles_l49 k' m' (nI r) (nI i) N') := by
    intro k k' r s M' N' hr he hs hR hk d
    induction d with
    | zero =>
      intro m m' i hi hm hm'
      obtain ⟨m, rfl⟩ : ∃ k, m = k + 1 := ⟨m - 1, by omega⟩
      obtain ⟨m', rfl⟩ : ∃ k, m' = k + 1 := ⟨m' - 1, by omega⟩
      show Sim (f_X6_settles_b46 k _ s (nI r) (nI i) M') (f_X7_settles_b49 k' _ (nI r) (nI i) N')
      unfold f_X6_settles_b46 f_X7_settles_b49
      rw [if_pos (nI_le (by omega) (by omega)), if_pos (nI_le (by omega) (by omega)), ck_pos (vp_in_nI hr (by decide)), ix_nI (by omega), nI_1]
      exact hk
    | succ d ih =>
      intro m m' i hi hm hm'
      obtain ⟨m, rfl⟩ : ∃ k, m = k + 1 := ⟨m - 1, by omega⟩
      obtain ⟨m', rfl⟩ : ∃ k, m' = k + 1 := ⟨m' - 1, by omega⟩
      show Sim (f_X6_settles_b46 k (f_X6_settles_l46 k m) s (nI r) (nI i) M') (f_X7_settles_b49 k' (f_X7_settles_l49 k' m') (nI r) (nI i) N')
      unfold f_X6_settles_b46 f_X7_settles_b49
      rw [if_neg (nI_ge (by omega) (by omega)), if_neg (nI_ge (by omega) (by omega)), ck_pos (vp_in_nI (show i < 101 by omega) (by decide)), ck_pos (vp_in_nI (show i < 102 by omega) (by decide)), ck_pos (vp_in_nI (show r < 102 by omega) (by decide)), ix_nI (by omega), ix_nI (by omega), he i (by omega), hs, nI_1]
      split
      · exact s_ok hR _
      · exact ih m m' (i + 1) (by omega) (by omega) (by omega)
  have key : ∀ (d m m' r : Nat) (s : Int32) (M' N' : Mem), r + d = 101 → 0 < r → d < m → d < m' → (∀ i, i < r → M' 57 i = N' 64 i) → N' 64 (r - 1) = s → Lt s 4096 → Fr (fun i _ => i = 57) M M' → Fr (fun i _ => i = 64) N N' → Sim (f_X6_settles_l25 m s (nI r) M') (f_X7_settles_l23 m' (nI r) N') := by
    intro d
    induction d with
    | zero =>
      intro m m' r s M' N' hr h0 hm hm' he hs hl hf hg
      obtain ⟨m, rfl⟩ : ∃ k, m = k + 1 := ⟨m - 1, by omega⟩
      obtain ⟨m', rfl⟩ : ∃ k, m' = k + 1 := ⟨m' - 1, by omega⟩
      have hR : Rel M' N' := h.same (hf.mono (fun i k z => by unfold TC; omega)) (hg.mono (fun i k z => by unfold TM; omega))
      show Sim (f_X6_settles_b25 _ s (nI r) M') (f_X7_settles_b23 _ (nI r) N')
      unfold f_X6_settles_b25 f_X7_settles_b23
      rw [if_pos (show (100 : Int32) < nI r from nI_lt (a := 100) (by omega) (by omega)), if_pos (show (101 : Int32) ≤ nI r from nI_le (a := 101) (by omega) (by omega))]
      exact s_N hR
    | succ d ih =>
      intro m m' r s M' N' hr h0 hm hm' he hs hl hf hg
      obtain ⟨m, rfl⟩ : ∃ k, m = k + 1 := ⟨m - 1, by omega⟩
      obtain ⟨m', rfl⟩ : ∃ k, m' = k + 1 := ⟨m' - 1, by omega⟩
      have e60 : N' 60 = N 60 := funext fun k => hg _ _ (by omega)
      have w' : RW 1 M' (N 60) := w.fr hf (fun i k p q => by omega)
      have hR : Rel M' (up N' 64 r (rdS (N 60) nw s)) := h.same (hf.mono (fun i k z => by unfold TC; omega)) ((hg.put rfl rfl).mono (fun i k z => by unfold TM; omega))
      have hk := ih m m' (r + 1) (rdS (N 60) nw s) (up M' 57 r (rdS (N 60) nw s)) (up N' 64 r (rdS (N 60) nw s)) (by omega) (by omega) (by omega) (by omega) (by
        intro i hi
        rw [up_ap, up_ap]
        by_cases z : i = r
        · rw [if_pos ⟨rfl, z⟩, if_pos ⟨rfl, z⟩]
        · rw [if_neg (by omega), if_neg (by omega)]; exact he i (by omega)) (by rw [Nat.add_sub_cancel, up_ap, if_pos ⟨rfl, rfl⟩]) (rd_lt o hl) (hf.put rfl rfl) (hg.put rfl rfl)
      show Sim (f_X6_settles_b25 (f_X6_settles_l25 m) s (nI r) M') (f_X7_settles_b23 (f_X7_settles_l23 m') (nI r) N')
      unfold f_X6_settles_b25 f_X7_settles_b23
      have er : nI r - 1 = nI (r - 1) := by
        obtain ⟨q, rfl⟩ : ∃ q, r = q + 1 := ⟨r - 1, by omega⟩
        exact nI_pred q
      rw [if_neg (show ¬ (100 : Int32) < nI r from nI_nlt (b := r) (a := 100) (by omega) (by decide)), if_neg (show ¬ (101 : Int32) ≤ nI r from nI_ge (b := 101) (by omega) (by decide)), er, ck_pos (vp_in_nI (show r - 1 < 102 by omega) (by decide)), ix_nI (by omega), hs, mw_round (by rw [e60]; exact o) hl, bs, show f_X5_onceRound 2 s M' = _ from xw_round w' o s, bs, ck_pos (vp_in_nI (show r < 102 by omega) (by decide)), ix_nI (by omega), e60]
      exact inner _ _ r _ M' _ (by omega) (fun i hi => by rw [up_ap, if_neg (by omega)]; exact he i hi) (by rw [up_ap, if_pos ⟨rfl, rfl⟩]) hR hk r FU FU 0 (by omega) (show r < 5000 by omega) (show r < 5000 by omega)
  refine key 100 FU FU 1 x1 _ _ (by omega) (by omega) (show 100 < 5000 by omega) (show 100 < 5000 by omega) (fun i hi => ?_) ?_ l1 ((Fr.rf (T := fun i _ => i = 57)).put rfl rfl) ((Fr.rf (T := fun i _ => i = 64)).put rfl rfl)
  · obtain rfl : i = 0 := by omega
    rw [up_ap, up_ap, if_pos ⟨rfl, rfl⟩, if_pos ⟨rfl, rfl⟩]
  · rw [up_ap, if_pos ⟨rfl, rfl⟩]
-- status
theorem st_status (h : Rel M N) (x1 : Int32) : Sim (f_X6_status x1 M) (f_X7_status x1 N) := by
  have hA := h.2.2.1
  have e1 := (lp_itr (fun _ _ _ => none) (f_X6_status_b33) (fun z i (a : Int32) => z a i M) (fun i a => a + N 63 i) (fun a => some (a, M)) 7 (fun _ _ => True) (by
    intro z i a hi _
    refine ⟨?_, trivial⟩
    show f_X6_status_b33 z a (nI i) M = z _ (nI (i + 1)) M
    unfold f_X6_status_b33
    rw [if_neg (show ¬ (7 : Int32) ≤ nI i from nI_ge (b := 7) hi (by decide)), ck_pos (vp_in_nI hi (by decide)), ix_nI (by omega), hA i hi, nI_1]
    rfl) (by
    intro z a _
    show f_X6_status_b33 z a (nI 7) M = _
    unfold f_X6_status_b33
    rw [if_pos (by decide)]) 7 FU 0 0 (by omega) (show 7 < 5000 by omega) trivial).1
  have e2 := (lp_itr (fun _ _ _ _ => none) (f_X7_status_b25) (fun z i (a : Int32) => z (-1) a i N) (fun i a => a + N 63 i) (fun a => some (a, N)) 7 (fun _ _ => True) (by
    intro z i a hi _
    refine ⟨?_, trivial⟩
    show f_X7_status_b25 z (-1) a (nI i) N = z _ _ (nI (i + 1)) N
    unfold f_X7_status_b25
    rw [if_neg (show ¬ (7 : Int32) ≤ nI i from nI_ge (b := 7) hi (by decide)), if_pos (by decide), ck_pos (vp_in_nI hi (by decide)), ix_nI (by omega), nI_1]
    rfl) (by
    intro z a _
    show f_X7_status_b25 z (-1) a (nI 7) N = _
    unfold f_X7_status_b25
    rw [if_pos (by decide)]) 7 FU 0 0 (by omega) (show 7 < 5000 by omega) trivial).1
  have e3 : ∀ q, q < 7 → f_X7_status_l25 FU (nI q) 0 0 N = some (itr (fun i a => if i = q then a + N 63 i else a) 7 0 0, N) := fun q hq => (lp_itr (fun _ _ _ _ => none) (f_X7_status_b25) (fun z i (a : Int32) => z (nI q) a i N) (fun i a => if i = q then a + N 63 i else a) (fun a => some (a, N)) 7 (fun _ _ => True) (by
    intro z i a hi _
    refine ⟨?_, trivial⟩
    show f_X7_status_b25 z (nI q) a (nI i) N = z _ _ (nI (i + 1)) N
    unfold f_X7_status_b25
    rw [if_neg (show ¬ (7 : Int32) ≤ nI i from nI_ge (b := 7) hi (by decide)), if_neg (nI_pos (by omega)), ck_pos (vp_in_nI hi (by decide)), ix_nI (by omega), nI_1, Int32.add_zero]
    by_cases z1 : i = q
    · rw [if_pos (by rw [z1]), if_pos z1]; rfl
    · rw [if_neg (fun z => z1 ((nI_eq (by omega) (by omega)).mp z)), if_neg z1]; rfl) (by
    intro z a _
    show f_X7_status_b25 z (nI q) a (nI 7) N = _
    unfold f_X7_status_b25
    rw [if_pos (by decide)]) 7 FU 0 0 (by omega) (show 7 < 5000 by omega) trivial).1
  have e4 : ∀ q, q < 7 → itr (fun i (a : Int32) => if i = q then a + N 63 i else a) 7 0 0 = N 63 q := by
    intro q hq
    have : ∀ (d i : Nat) (a : Int32), itr (fun i (a : Int32) => if i = q then a + N 63 i else a) d i a = if i ≤ q ∧ q < i + d then a + N 63 q else a := by
      intro d
      induction d with
      | zero => intro i a; show a = _; rw [if_neg (by omega)]
      | succ d ih =>
        intro i a
        show itr _ d (i + 1) (if i = q then a + N 63 i else a) = _
        rw [ih]
        by_cases z : i = q
        · rw [if_pos z, if_neg (by omega), if_pos (by omega), z]
        · rw [if_neg z]
          by_cases y : i + 1 ≤ q ∧ q < i + 1 + d
          · rw [if_pos y, if_pos (by omega)]
          · rw [if_neg y, if_neg (by omega)]
    rw [this, if_pos (by omega), Int32.zero_add]
  unfold f_X6_status f_X7_status
  rw [show f_X7_in x1.toInt64 (-1) 6 N = _ from m_in x1 (-1) 6 N, bs, ib, show f_X6_status_l33 FU 0 0 M = _ from e1]
  by_cases hm : x1 = -1
  · subst hm
    rw [if_pos (by decide), if_pos rfl, if_pos (by decide), show f_X7_status_l25 FU (-1) 0 0 N = _ from e2]
    exact s_ok h _
  · by_cases h0 : x1 < 0
    · have hn : decide ((-1 : Int32) ≤ x1 ∧ x1 ≤ 6) = false := decide_eq_false (fun z => hm (by
        apply Int32.toInt_inj.mp
        have z1 := z.1
        rw [le_t] at z1
        rw [lt_t] at h0
        have e1 : (-1 : Int32).toInt = -1 := by decide
        have e0 : (0 : Int32).toInt = 0 := by decide
        omega))
      rw [if_pos h0, if_neg hm, hn]
      exact s_B h
    · rw [if_neg h0]
      by_cases h7 : (7 : Int32) ≤ x1
      · have hn : decide ((-1 : Int32) ≤ x1 ∧ x1 ≤ 6) = false := decide_eq_false (fun z => by
          have z1 := z.2
          rw [le_t] at z1 h7
          have e1 : (7 : Int32).toInt = 7 := by decide
          have e0 : (6 : Int32).toInt = 6 := by decide
          omega)
        rw [if_pos h7, if_neg hm, hn]
        exact s_B h
      · obtain ⟨q, hq31, rfl⟩ := nI_of h0
        have hq : q < 7 := by
          rcases Nat.lt_or_ge q 7 with z | z
          · exact z
          · exact absurd (nI_le (a := 7) z hq31) h7
        rw [if_neg h7, ck_pos (vp_in_nI hq (by decide)), ix_nI (by omega), decide_eq_true (show (-1 : Int32) ≤ nI q ∧ nI q ≤ 6 from ⟨by
          rw [le_t, nI_toInt hq31]
          have e1 : (-1 : Int32).toInt = -1 := by decide
          omega, nI_le (b := 6) (by omega) (by decide)⟩), if_pos rfl, e3 q hq, e4 q hq, hA q hq]
        exact s_ok h _
-- as
def uB (k w : Nat) : Bool := (w == 0) || (k == w) || (w == 1 && k == 3) || (w == 2 && (k == 4 || k == 6))
theorem un_st (w k i m : Nat) (hw : w < 7) (hk : k < 7) (hi : i < 7) (M : Mem) : f_X6_isUnder_l4 (m + 1) (nI w) (nI k) (nI i) M = if k = w then some true else f_X6_isUnder_l4 m (nI w) (und.getD k 0) (nI (i + 1)) M := by
  show f_X6_isUnder_b4 (f_X6_isUnder_l4 m) (nI w) (nI k) (nI i) M = _
  unfold f_X6_isUnder_b4
  rw [if_neg (show ¬ (7 : Int32) ≤ nI i from nI_ge (b := 7) hi (by decide)), x_isKind, bs, ib, show inR (nI k) 7 = true from inR_nI (n := 7) (by decide) hk, if_pos rfl, ck_pos (vp_in_nI hk (by decide)), ix_nI (by omega), nI_1]
  by_cases z : k = w
  · rw [if_pos (by rw [z]), if_pos z]
  · rw [if_neg (fun y => z ((nI_eq (by omega) (by omega)).mp y)), if_neg z]
    rfl
theorem un_end (w i m : Nat) (hi : i < 7) (M : Mem) : f_X6_isUnder_l4 (m + 1) (nI w) (-1) (nI i) M = some false := by
  show f_X6_isUnder_b4 (f_X6_isUnder_l4 m) (nI w) (-1) (nI i) M = _
  unfold f_X6_isUnder_b4
  rw [if_neg (show ¬ (7 : Int32) ≤ nI i from nI_ge (b := 7) hi (by decide)), x_isKind, bs, ib, show inR (-1) 7 = false from by decide]
  rfl
theorem x_under (k w : Nat) (hk : k < 7) (hw : w < 7) (M : Mem) : f_X6_isUnder (nI k) (nI w) M = some (uB k w) := by
  show f_X6_isUnder_l4 (4996 + 1 + 1 + 1 + 1) (nI w) (nI k) (nI 0) M = _
  have c0 : ∀ (m i : Nat), i < 6 → f_X6_isUnder_l4 (m + 1 + 1) (nI w) (nI 0) (nI i) M = if 0 = w then some true else some false := fun m i hi => by
    rw [un_st w 0 i (m + 1) hw (by decide) (by omega)]
    show (if 0 = w then some true else f_X6_isUnder_l4 (m + 1) (nI w) (-1) (nI (i + 1)) M) = _
    rw [un_end w (i + 1) m (by omega)]
  have c1 : ∀ (m i : Nat), i < 5 → f_X6_isUnder_l4 (m + 1 + 1 + 1) (nI w) (nI 1) (nI i) M = if 1 = w then some true else if 0 = w then some true else some false := fun m i hi => by
    rw [un_st w 1 i (m + 1 + 1) hw (by decide) (by omega)]
    show (if 1 = w then some true else f_X6_isUnder_l4 (m + 1 + 1) (nI w) (nI 0) (nI (i + 1)) M) = _
    rw [c0 m (i + 1) (by omega)]
  have c2 : ∀ (m i : Nat), i < 5 → f_X6_isUnder_l4 (m + 1 + 1 + 1) (nI w) (nI 2) (nI i) M = if 2 = w then some true else if 0 = w then some true else some false := fun m i hi => by
    rw [un_st w 2 i (m + 1 + 1) hw (by decide) (by omega)]
    show (if 2 = w then some true else f_X6_isUnder_l4 (m + 1 + 1) (nI w) (nI 0) (nI (i + 1)) M) = _
    rw [c0 m (i + 1) (by omega)]
  have fin : ∀ a c : Option Bool, a = c → a = c := fun _ _ z => z
  match k, hk with
  | 0, _ =>
    rw [c0 (4996 + 1 + 1) 0 (by decide)]
    clear c0 c1 c2
    revert w
    decide
  | 1, _ =>
    rw [c1 (4996 + 1) 0 (by decide)]
    clear c0 c1 c2
    revert w
    decide
  | 2, _ =>
    rw [c2 (4996 + 1) 0 (by decide)]
    clear c0 c1 c2
    revert w
    decide
  | 3, _ =>
    rw [un_st w 3 0 _ hw (by decide) (by decide)]
    show (if 3 = w then some true else f_X6_isUnder_l4 (4996 + 1 + 1 + 1) (nI w) (nI 1) (nI 1) M) = _
    rw [c1 4996 1 (by decide)]
    clear c0 c1 c2
    revert w
    decide
  | 4, _ =>
    rw [un_st w 4 0 _ hw (by decide) (by decide)]
    show (if 4 = w then some true else f_X6_isUnder_l4 (4996 + 1 + 1 + 1) (nI w) (nI 2) (nI 1) M) = _
    rw [c2 4996 1 (by decide)]
    clear c0 c1 c2
    revert w
    decide
  | 5, _ =>
    rw [un_st w 5 0 _ hw (by decide) (by decide)]
    show (if 5 = w then some true else f_X6_isUnder_l4 (4996 + 1 + 1 + 1) (nI w) (nI 0) (nI 1) M) = _
    rw [c0 (4996 + 1) 1 (by decide)]
    clear c0 c1 c2
    revert w
    decide
  | 6, _ =>
    rw [un_st w 6 0 _ hw (by decide) (by decide)]
    show (if 6 = w then some true else f_X6_isUnder_l4 (4996 + 1 + 1 + 1) (nI w) (nI 2) (nI 1) M) = _
    rw [c2 4996 1 (by decide)]
    clear c0 c1 c2
    revert w
    decide
end ST9
