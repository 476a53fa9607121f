section ST8
variable {M N : Mem} {S : Nat → Int32} {nw np : Nat}
theorem st_hands (h : Rel M N) (x1 : Int32) : Sim (f_X6_hands x1 M) (f_X7_hands x1 N) := by
  obtain ⟨w, nw, np, o⟩ := h.1
  have h6 := o.1.1
  unfold f_X6_hands f_X7_hands
  rw [x_isSaying, m_isSaying]
  simp only [bs, ib]
  cases h1 : inR x1 4096
  · exact s_B h
  rw [if_pos rfl, if_pos rfl]
  let st : Nat → Int32 → Int32 := fun i a => if wyS (N 60) i x1 ≤ 0 then a else a ||| ((1 : Int32) <<< (nI i &&& 31))
  have e1 := (lp_itr (fun _ _ _ _ => none) (f_X6_hands_b18) (fun z i (a : Int32) => z x1 a i M) st (fun a => some (a, M)) nw (fun _ _ => True) (by
    intro z i a hi _
    refine ⟨?_, trivial⟩
    show f_X6_hands_b18 z x1 a (nI i) M = z _ (st i a) (nI (i + 1)) M
    unfold f_X6_hands_b18
    rw [hW w o, if_neg (nI_ge hi (by omega)), show f_X5_waysTo 2 (nI i) x1 M = _ from xw_ways w o hi x1, bs, nI_1]
    simp only [st]
    split <;> rfl) (by
    intro z a _
    show f_X6_hands_b18 z x1 a (nI nw) M = _
    unfold f_X6_hands_b18
    rw [hW w o, if_pos (nI_le (by omega) (by omega))]) nw FU 0 0 (by omega) (show nw < 5000 by omega) trivial).1
  have e2 : ∀ (d m i : Nat) (a : Int32) (N' : Mem), i + d = nw → d < m → Fr TS N N' → ∃ N1, f_X7_hands_l18 m x1 a (nI i) N' = some (itr st d i a, N1) ∧ Fr TS N N1 := by
    intro d
    induction d with
    | zero =>
      intro m i a N' hi hm hf
      obtain ⟨m, rfl⟩ : ∃ k, m = k + 1 := ⟨m - 1, by omega⟩
      have e60 : N' 60 = N 60 := funext fun k => hf _ _ (by unfold TS; omega)
      refine ⟨N', ?_, hf⟩
      show f_X7_hands_b18 _ x1 a (nI i) N' = _
      unfold f_X7_hands_b18
      rw [ck_pos vl_0, ix_0, e60, o.1.2.2.1, if_pos (nI_le (by omega) (by omega))]
      rfl
    | succ d ih =>
      intro m i a N' hi hm hf
      obtain ⟨m, rfl⟩ : ∃ k, m = k + 1 := ⟨m - 1, by omega⟩
      have e60 : N' 60 = N 60 := funext fun k => hf _ _ (by unfold TS; omega)
      obtain ⟨N2, g1, g2, g3⟩ := m_find (N := N') (by rw [e60]; exact o) (show i < nw by omega) x1 z_lt
      obtain ⟨N1, g4, g5⟩ := ih m (i + 1) (st i a) N2 (by omega) (by omega) (hf.trans g3)
      refine ⟨N1, ?_, g5⟩
      show f_X7_hands_b18 (f_X7_hands_l18 m) x1 a (nI i) N' = some (itr st d (i + 1) (st i a), N1)
      rw [← g4]
      unfold f_X7_hands_b18
      rw [ck_pos vl_0, ix_0, e60, o.1.2.2.1, if_neg (nI_ge (by omega) (by omega)), g1, bs, show N2 59 6 = wyS (N 60) i x1 from (congrArg (fun t : Said => t.1) g2).trans (by rw [e60]; exact sd_1 _ _ _ _), nI_1, Int32.or_zero]
      simp only [st]
      split <;> rfl
  obtain ⟨N1, g1, g2⟩ := e2 nw FU 0 0 N (by omega) (show nw < 5000 by omega) Fr.rf
  exact ⟨_, _, _, e1, g1, h.sd g2⟩
theorem st_likeliest (h : Rel M N) (x1 : Int32) : Sim (f_X6_likeliest x1 M) (f_X7_likeliest x1 N) := by
  obtain ⟨w, nw, np, o⟩ := h.1
  have h6 := o.1.1
  unfold f_X6_likeliest f_X7_likeliest
  rw [x_isSaying, m_isSaying]
  simp only [bs, ib]
  cases h1 : inR x1 4096
  · exact s_B h
  rw [if_pos rfl, if_pos rfl]
  have key : ∀ (d m m' i : Nat) (a c : Int32) (N' : Mem), i + d = nw → d < m → d < m' → Fr TS N N' → Sim (f_X6_likeliest_l21 m x1 a c (nI i) M) (f_X7_likeliest_l21 m' x1 a c (nI i) N') := by
    intro d
    induction d with
    | zero =>
      intro m m' i a c N' hi hm hm' hf
      obtain ⟨m, rfl⟩ : ∃ k, m = k + 1 := ⟨m - 1, by omega⟩
      obtain ⟨m', rfl⟩ : ∃ k, m' = k + 1 := ⟨m' - 1, by omega⟩
      have e60 : N' 60 = N 60 := funext fun k => hf _ _ (by unfold TS; omega)
      show Sim (f_X6_likeliest_b21 _ x1 a c (nI i) M) (f_X7_likeliest_b21 _ x1 a c (nI i) N')
      unfold f_X6_likeliest_b21 f_X7_likeliest_b21
      rw [hW w o, ck_pos vl_0, ix_0, e60, o.1.2.2.1, if_pos (nI_le (by omega) (by omega)), if_pos (nI_le (by omega) (by omega))]
      split
      · exact s_ok (h.sd hf) _
      · exact s_N (h.sd hf)
    | succ d ih =>
      intro m m' i a c N' hi hm hm' hf
      obtain ⟨m, rfl⟩ : ∃ k, m = k + 1 := ⟨m - 1, by omega⟩
      obtain ⟨m', rfl⟩ : ∃ k, m' = k + 1 := ⟨m' - 1, by omega⟩
      have e60 : N' 60 = N 60 := funext fun k => hf _ _ (by unfold TS; omega)
      obtain ⟨N2, g1, g2, g3⟩ := m_find (N := N') (by rw [e60]; exact o) (show i < nw by omega) x1 z_lt
      have e6 : N2 59 6 = wyS (N 60) i x1 := (congrArg (fun t : Said => t.1) g2).trans (by rw [e60]; exact sd_1 _ _ _ _)
      show Sim (f_X6_likeliest_b21 (f_X6_likeliest_l21 m) x1 a c (nI i) M) (f_X7_likeliest_b21 (f_X7_likeliest_l21 m') x1 a c (nI i) N')
      unfold f_X6_likeliest_b21 f_X7_likeliest_b21 f_X7_likeliest_j54
      rw [hW w o, ck_pos vl_0, ix_0, e60, o.1.2.2.1, if_neg (nI_ge (by omega) (by omega)), if_neg (nI_ge (by omega) (by omega)), g1, bs, show f_X5_waysTo 2 (nI i) x1 M = _ from xw_ways w o (show i < nw by omega) x1, bs, e6, nI_1]
      by_cases hc : wyS (N 60) i x1 ≤ c
      · rw [if_pos hc, if_pos hc, if_pos hc]
        exact ih m m' (i + 1) a c N2 (by omega) (by omega) (by omega) (hf.trans g3)
      · rw [if_neg hc, if_neg hc, if_neg hc]
        exact ih m m' (i + 1) (nI i) _ N2 (by omega) (by omega) (by omega) (hf.trans g3)
  exact key nw FU FU 0 (-1) 0 N (by omega) (show nw < 5000 by omega) (show nw < 5000 by omega) Fr.rf
/-- how many sayings come out otherwise -/
def owS2 (S : Nat → Int32) (j r : Nat) : Int32 := itr (fun v c => if mkS S r (mkS S j (nI v)) = nI v then c else c + 1) 4096 0 0
theorem ow2_b (S : Nat → Int32) (j r : Nat) : Lt (owS2 S j r) 4097 := by
  have := itr_Pi (st := fun v c => if mkS S r (mkS S j (nI v)) = nI v then c else c + 1) (P := fun j (c : Int32) => Lt c (j + 1)) 4096 0 0 (fun v s _ _ hs => by
    obtain ⟨c, hc, rfl⟩ := hs
    show Lt (if mkS S r (mkS S j (nI v)) = nI v then nI c else nI c + 1) (v + 1 + 1)
    split
    · exact ⟨c, by omega, rfl⟩
    · exact ⟨c + 1, by omega, nI_1 c⟩) ⟨0, by decide, rfl⟩
  exact this
theorem st_witness (h : Rel M N) (x1 : Int32) : Sim (f_X6_witness x1 M) (f_X7_witness x1 N) := by
  obtain ⟨w, nw, np, o⟩ := h.1
  have h6 := o.1.1
  unfold f_X6_witness f_X7_witness
  rw [x_has5, hW w o, m_isWriter x1 o.1.1 o.1.2.2.1]
  simp only [bs, ib]
  cases h1 : inR x1 (nI nw)
  · exact s_B h
  obtain ⟨j, hj, rfl⟩ := inR_t (by omega) h1
  rw [if_pos rfl, if_pos rfl]
  -- one reader: both loops over the sayings
  have in1 : ∀ (k : Int32 → Int32 → Int32 → Int32 → Mem → Option (Int32 × Mem)) (a c : Int32) (r : Nat), r < nw → f_X6_witness_l51 k FU (nI j) a c (nI r) 0 0 M = if c ≤ owS2 (N 60) j r then k (nI j) a c (nI (r + 1)) M else k (nI j) (nI r) (owS2 (N 60) j r) (nI (r + 1)) M := by
    intro k a c r hr
    refine (lp_itr (fun _ _ _ _ _ _ _ => none) (f_X6_witness_b51 k) (fun z i (q : Int32) => z (nI j) a c (nI r) q i M) (fun v q => if mkS (N 60) r (mkS (N 60) j (nI v)) = nI v then q else q + 1) (fun q => if c ≤ q then k (nI j) a c (nI (r + 1)) M else k (nI j) (nI r) q (nI (r + 1)) M) 4096 (fun _ _ => True) ?_ ?_ 4096 FU 0 0 (by omega) (show 4096 < 5000 by omega) trivial).1
    · intro z i q hi _
      refine ⟨?_, trivial⟩
      show f_X6_witness_b51 k z (nI j) a c (nI r) q (nI i) M = z _ _ _ _ _ (nI (i + 1)) M
      unfold f_X6_witness_b51
      rw [if_neg (show ¬ (4096 : Int32) ≤ nI i from nI_ge (b := 4096) hi (by decide)), show f_X5_make 2 (nI j) _ M = _ from xw_make w o hj _, bs, show f_X5_make 2 (nI r) _ M = _ from xw_make w o hr _, bs, nI_1]
      split <;> rfl
    · intro z q _
      show f_X6_witness_b51 k z (nI j) a c (nI r) q (nI 4096) M = _
      unfold f_X6_witness_b51
      rw [if_pos (by decide), nI_1]
  have in2 : ∀ (k : Int32 → Int32 → Int32 → Int32 → Mem → Option (Int32 × Mem)) (a c : Int32) (r : Nat), r < nw → f_X7_witness_l41 k FU (nI j) a c (nI r) 0 0 N = if c ≤ owS2 (N 60) j r then k (nI j) a c (nI (r + 1)) N else k (nI j) (nI r) (owS2 (N 60) j r) (nI (r + 1)) N := by
    intro k a c r hr
    refine (lp_itr (fun _ _ _ _ _ _ _ => none) (f_X7_witness_b41 k) (fun z i (q : Int32) => z (nI j) a c (nI r) q i N) (fun v q => if mkS (N 60) r (mkS (N 60) j (nI v)) = nI v then q else q + 1) (fun q => if c ≤ q then k (nI j) a c (nI (r + 1)) N else k (nI j) (nI r) q (nI (r + 1)) N) 4096 (fun _ _ => True) ?_ ?_ 4096 FU 0 0 (by omega) (show 4096 < 5000 by omega) trivial).1
    · intro z i q hi _
      refine ⟨?_, trivial⟩
      show f_X7_witness_b41 k z (nI j) a c (nI r) q (nI i) N = z _ _ _ _ _ (nI (i + 1)) N
      unfold f_X7_witness_b41
      rw [if_neg (show ¬ (4096 : Int32) ≤ nI i from nI_ge (b := 4096) hi (by decide)), mw_put o hj (nI_lt4096 hi), bs, mw_put o hr (mk_ltS o hj (nI_lt4096 hi)), bs, nI_1, Int32.add_zero]
      split <;> rfl
    · intro z q _
      show f_X7_witness_b41 k z (nI j) a c (nI r) q (nI 4096) N = _
      unfold f_X7_witness_b41 f_X7_witness_j95
      rw [if_pos (by decide), nI_1]
      by_cases hc : c ≤ q
      · rw [if_pos hc, if_pos hc, if_pos hc]
      · rw [if_neg hc, if_neg hc, if_neg hc]
  have key : ∀ (d m m' i : Nat) (a c c' : Int32), i + d = nw → d < m → d < m' → (c = c' ∨ (c = 4097 ∧ c' = 9999)) → Sim (f_X6_witness_l30 m (nI j) a c (nI i) M) (f_X7_witness_l24 m' (nI j) a c' (nI i) N) := by
    intro d
    induction d with
    | zero =>
      intro m m' i a c c' hi hm hm' _
      obtain ⟨m, rfl⟩ : ∃ k, m = k + 1 := ⟨m - 1, by omega⟩
      obtain ⟨m', rfl⟩ : ∃ k, m' = k + 1 := ⟨m' - 1, by omega⟩
      show Sim (f_X6_witness_b30 _ (nI j) a c (nI i) M) (f_X7_witness_b24 _ (nI j) a c' (nI i) N)
      unfold f_X6_witness_b30 f_X7_witness_b24
      rw [hW w o, ck_pos vl_0, ix_0, o.1.2.2.1, if_pos (nI_le (by omega) (by omega)), if_pos (nI_le (by omega) (by omega))]
      exact s_ok h _
    | succ d ih =>
      intro m m' i a c c' hi hm hm' hc
      obtain ⟨m, rfl⟩ : ∃ k, m = k + 1 := ⟨m - 1, by omega⟩
      obtain ⟨m', rfl⟩ : ∃ k, m' = k + 1 := ⟨m' - 1, by omega⟩
      show Sim (f_X6_witness_b30 (f_X6_witness_l30 m) (nI j) a c (nI i) M) (f_X7_witness_b24 (f_X7_witness_l24 m') (nI j) a c' (nI i) N)
      unfold f_X6_witness_b30 f_X7_witness_b24
      rw [hW w o, ck_pos vl_0, ix_0, o.1.2.2.1, if_neg (nI_ge (by omega) (by omega)), if_neg (nI_ge (by omega) (by omega)), in1 _ _ _ i (by omega), in2 _ _ _ i (by omega)]
      rcases hc with rfl | ⟨rfl, rfl⟩
      · split
        · exact ih m m' (i + 1) a c c (by omega) (by omega) (by omega) (Or.inl rfl)
        · exact ih m m' (i + 1) (nI i) _ _ (by omega) (by omega) (by omega) (Or.inl rfl)
      · obtain ⟨q, hq, e⟩ := ow2_b (N 60) j i
        rw [e, if_neg (show ¬ (4097 : Int32) ≤ nI q from nI_ge (b := 4097) hq (by decide)), if_neg (show ¬ (9999 : Int32) ≤ nI q from nI_ge (b := 9999) (by omega) (by decide))]
        exact ih m m' (i + 1) (nI i) _ _ (by omega) (by omega) (by omega) (Or.inl rfl)
  exact key nw FU FU 0 0 4097 9999 (by omega) (show nw < 5000 by omega) (show nw < 5000 by omega) (Or.inr ⟨rfl, rfl⟩)
end ST8
