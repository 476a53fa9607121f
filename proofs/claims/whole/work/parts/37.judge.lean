section ST13
variable {M N : Mem} {S : Nat → Int32} {nw np : Nat}
/-- one of the first n sayings comes out as y -/
def Rch (S : Nat → Int32) (w n : Nat) (y : Int32) : Prop := ∃ s, s < n ∧ mkS S w (nI s) = y
theorem Rch_s (S : Nat → Int32) (w n : Nat) (y : Int32) : Rch S w (n + 1) y ↔ (mkS S w (nI n) = y ∨ Rch S w n y) := by
  constructor
  · rintro ⟨s, hs, e⟩
    rcases Nat.lt_or_ge s n with z | z
    · exact Or.inr ⟨s, z, e⟩
    · obtain rfl : s = n := by omega
      exact Or.inl e
  · rintro (e | ⟨s, hs, e⟩)
    · exact ⟨n, by omega, e⟩
    · exact ⟨s, by omega, e⟩
theorem wy_pos (S : Nat → Int32) (w : Nat) (y : Int32) : wyS S w y ≤ 0 ↔ ¬ Rch S w 4096 y := by
  have := itr_Pi (st := fun v c => if mkS S w (nI v) = y then c + 1 else c) (P := fun j (c : Int32) => ∃ q, q ≤ j ∧ c = nI q ∧ (q = 0 ↔ ¬ Rch S w j y)) 4096 0 0 (fun j s _ hj hs => by
    obtain ⟨q, hq, rfl, hz⟩ := hs
    show ∃ q', q' ≤ j + 1 ∧ (if mkS S w (nI j) = y then nI q + 1 else nI q) = nI q' ∧ _
    rw [Rch_s]
    by_cases e : mkS S w (nI j) = y
    · rw [if_pos e]
      exact ⟨q + 1, by omega, nI_1 q, by constructor
                                         · intro z; omega
                                         · intro z; exact absurd (Or.inl e) z⟩
    · rw [if_neg e]
      exact ⟨q, by omega, rfl, by rw [hz]; constructor
                                  · intro z y; exact y.elim e z
                                  · intro z y; exact z (Or.inr y)⟩) ⟨0, by omega, rfl, ⟨fun _ ⟨s, hs, _⟩ => absurd hs (Nat.not_lt_zero s), fun _ => rfl⟩⟩
  obtain ⟨q, hq, e, hz⟩ := this
  show itr _ 4096 0 0 ≤ 0 ↔ _
  rw [e]
  constructor
  · intro z
    rcases Nat.eq_zero_or_pos q with y | y
    · exact hz.mp y
    · exact absurd z (nI_nle y (by omega))
  · intro z
    rw [hz.mpr z]
    decide
theorem one_and : ∀ a, a < 32 → ∀ b, b < 32 → (((1 : Int32) <<< (nI a &&& 31)) &&& ((1 : Int32) <<< (nI b &&& 31)) = 0) = (a ≠ b) := by decide +kernel
theorem or_and {x : Int32} {a b : Nat} (ha : a < 32) (hb : b < 32) : ((x ||| ((1 : Int32) <<< (nI a &&& 31))) &&& ((1 : Int32) <<< (nI b &&& 31)) = 0) ↔ (x &&& ((1 : Int32) <<< (nI b &&& 31)) = 0 ∧ a ≠ b) := by
  have o := one_and a ha b hb
  constructor
  · intro z
    have zb : ∀ i, i < 32 → bt ((x ||| ((1 : Int32) <<< (nI a &&& 31))) &&& ((1 : Int32) <<< (nI b &&& 31))) i = false := fun i _ => by rw [z]; exact b_0 i
    refine ⟨b_ext (fun i hi => ?_), o ▸ b_ext (fun i hi => ?_)⟩
    · have := zb i hi
      rw [b_and, b_or] at this
      rw [b_and, b_0]
      cases h1 : bt x i
      · rfl
      · rw [h1] at this; simpa using this
    · have := zb i hi
      rw [b_and, b_or] at this
      rw [b_and, b_0]
      cases h1 : bt ((1 : Int32) <<< (nI a &&& 31)) i
      · rfl
      · rw [h1] at this; simpa using this
  · rintro ⟨z1, z2⟩
    rw [← o] at z2
    apply b_ext
    intro i hi
    rw [b_and, b_or, b_0]
    have y1 : bt (x &&& ((1 : Int32) <<< (nI b &&& 31))) i = false := by rw [z1]; exact b_0 i
    have y2 : bt (((1 : Int32) <<< (nI a &&& 31)) &&& ((1 : Int32) <<< (nI b &&& 31))) i = false := by rw [z2]; exact b_0 i
    rw [b_and] at y1 y2
    cases h1 : bt ((1 : Int32) <<< (nI b &&& 31)) i
    · rw [Bool.and_false]
    · rw [h1] at y1 y2
      simp at y1 y2
      simp [y1, y2]
/-- the bits of the sets that can come out of the first n sayings -/
def RB (S : Nat → Int32) (w n : Nat) (M : Mem) : Prop := ∀ v, v < 4096 → ((M 58 (v / 32) &&& ((1 : Int32) <<< (nI (v % 32) &&& 31)) = 0) ↔ ¬ Rch S w n (nI v))
theorem x_reach {w0 : Nat} (h : RW 1 M S) (o : Ok S nw np) (hw : w0 < nw) : ∃ M1, f_X5_reach 2 (nI w0) 58 M = some M1 ∧ RB S w0 4096 M1 ∧ Fr (fun i _ => i = 58) M M1 := by
  have e1 := (lp_itr (fun _ _ _ _ => none) (f_J7_fill_53178_b5 58) (fun z i (M : Mem) => z 0 i (nI 128) M) (fun i M => up M 58 (0 + i) 0) (fun M => some M) 128 (fun _ _ => True) (by
    intro z i M hi _
    refine ⟨?_, trivial⟩
    show f_J7_fill_53178_b5 58 z 0 (nI i) (nI 128) M = z 0 (nI (i + 1)) _ _
    unfold f_J7_fill_53178_b5
    rw [if_neg (nI_ge hi (by decide)), show aln 58 = 128 from rfl, ck_pos (vp_in_nI hi (by decide)), ix_nI (by omega), nI_1, Nat.zero_add]
    rfl) (by
    intro z M _
    show f_J7_fill_53178_b5 58 z 0 (nI 128) (nI 128) M = _
    unfold f_J7_fill_53178_b5
    rw [if_pos (by decide)]) 128 FU 0 M (by omega) (show 128 < 5000 by omega) trivial).1
  have q := itr_set 58 0 0 128 0 M
  generalize hZ : itr (fun i M => up M 58 (0 + i) 0) 128 0 M = Z at e1 q
  have fz : Fr (fun i _ => i = 58) M Z := fun i k z => by rw [q, if_neg (by omega)]
  have b0 : RB S w0 0 Z := by
    intro v hv
    rw [q, if_pos (by omega)]
    constructor
    · rintro - ⟨s, hs, -⟩; omega
    · intro _
      apply b_ext
      intro i hi
      rw [b_and, b_0, Bool.false_and]
  let st : Nat → Mem → Mem := fun s M => up M 58 (ix (mkS S w0 (nI s)) / 32) (M 58 (ix (mkS S w0 (nI s)) / 32) ||| ((1 : Int32) <<< (nI (ix (mkS S w0 (nI s)) % 32) &&& 31)))
  have e2 := lp_itr (fun _ _ _ => none) (f_X5_reach_b7 2 58) (fun z i (M : Mem) => z (nI w0) i M) st (fun M => some M) 4096 (fun i M' => RB S w0 i M' ∧ Fr (fun i _ => i = 58) M M') (by
    intro z i M' hi ⟨hb, hf⟩
    obtain ⟨v, hv, ev⟩ := mk_ltS o hw (nI_lt4096 hi)
    have w' : RW 1 M' S := h.fr hf (fun i k p q => by omega)
    have iv : ix (mkS S w0 (nI i)) = v := by rw [ev]; exact ix_nI (by omega)
    have e5 : nI v >>> ((5 : Int32) &&& 31) = nI (v / 32) := pk_shrN (show v < 2 ^ 31 by omega) ((5 : Int32) &&& 31) 5 (by decide)
    have e31 : nI v &&& (31 : Int32) = nI (v % 32) := pk_andN (show v < 2 ^ 32 by omega) 5 (by decide)
    refine ⟨?_, fun u hu => ?_, hf.put rfl rfl⟩
    · show f_X5_reach_b7 2 58 z (nI w0) (nI i) M' = z (nI w0) (nI (i + 1)) (st i M')
      unfold f_X5_reach_b7
      rw [if_neg (show ¬ (4096 : Int32) ≤ nI i from nI_ge (b := 4096) hi (by decide)), show f_X5_make 2 (nI w0) _ M' = _ from xw_make w' o hw _, bs, ev, e5, e31]
      simp only [letv]
      rw [if_neg (nI_pos (by omega)), show aln 58 = 128 from rfl, if_neg (nI_ge (by omega) (by decide)), ck_pos (vp_in_nI (show v / 32 < 128 by omega) (by decide)), ck_pos (vp_in_nI (show v / 32 < 128 by omega) (by decide)), ix_nI (show v / 32 < 2 ^ 31 by omega), nI_1]
      simp only [st, iv]
    · show (st i M') 58 (u / 32) &&& _ = 0 ↔ _
      simp only [st, iv]
      rw [up_ap, Rch_s, ev]
      by_cases y : u / 32 = v / 32
      · rw [if_pos ⟨rfl, y⟩, ← y, or_and (Nat.mod_lt _ (by decide)) (Nat.mod_lt _ (by decide)), hb u hu, nI_eq (by omega) (by omega)]
        constructor
        · rintro ⟨z1, z2⟩ (z3 | z3)
          · exact z2 (by rw [z3])
          · exact z1 z3
        · intro z
          exact ⟨fun z1 => z (Or.inr z1), fun z1 => z (Or.inl (by omega))⟩
      · rw [if_neg (fun z => y z.2), hb u hu, nI_eq (by omega) (by omega)]
        constructor
        · rintro z1 (z3 | z3)
          · exact y (by rw [z3])
          · exact z1 z3
        · intro z z1
          exact z (Or.inr z1)) (by
    intro z M' _
    show f_X5_reach_b7 2 58 z (nI w0) (nI 4096) M' = _
    unfold f_X5_reach_b7
    rw [if_pos (by decide)]) 4096 FU 0 Z (by omega) (show 4096 < 5000 by omega) ⟨b0, fz⟩
  refine ⟨_, ?_, e2.2.1, e2.2.2⟩
  unfold f_X5_reach f_J7_fill_53178
  show (f_J7_fill_53178_l5 58 FU 0 (nI 0) (nI 128) M).bind _ = _
  rw [show f_J7_fill_53178_l5 58 FU 0 (nI 0) (nI 128) M = _ from e1, bs]
  exact e2.1
theorem st_judge (h : Rel M N) (x1 x2 : Int32) : Sim (f_X6_judge x1 x2 M) (f_X7_judge x1 x2 N) := by
  unfold f_X6_judge f_X7_judge
  rw [x_isSheet, m_wrong, bs, ib]
  cases h1 : inR x1 4
  · exact s_B h
  obtain ⟨s, hs, rfl⟩ := inR_t (n := 4) (by decide) h1
  obtain ⟨c1, c2, n, hn, c3⟩ := h.2.2.2.2.1 s hs
  rw [if_pos rfl, if_pos rfl, x_miss hs, bs, ib, ix_nI (by omega), c1]
  by_cases z : N 66 s = 0
  · rw [decide_eq_true z, if_pos rfl, if_pos z]
    exact s_M h
  obtain ⟨w, nw, np, o⟩ := h.1
  have h6 := o.1.1
  rw [decide_eq_false z, if_neg (by decide), if_neg z, bs, if_pos rfl, x_has5, hW w o, m_isWriter x2 o.1.1 o.1.2.2.1, bs, bs, ib, ib]
  cases h2 : inR x2 (nI nw)
  · exact s_B h
  obtain ⟨j, hj, rfl⟩ := inR_t (by omega) h2
  obtain ⟨M1, e1, rb, f1⟩ := x_reach w o hj
  rw [if_pos rfl, if_pos rfl, e1, bs]
  show Sim (f_X6_judge_l70 FU (nI s) (nI 0) M1) (f_X7_judge_l37 FU (nI s) (nI j) (nI 0) 1 N)
  have m1 : M1 54 s = nI n := by rw [f1 54 s (by omega)]; exact c2.trans c3
  have key : ∀ (d m m' i : Nat) (N' : Mem), i + d = n → d + 1 < m → d + 1 < m' → Fr TS N N' → Sim (f_X6_judge_l70 m (nI s) (nI i) M1) (f_X7_judge_l37 m' (nI s) (nI j) (nI i) 1 N') := by
    intro d
    induction d with
    | zero =>
      intro m m' i N' hi hm hm' hf
      obtain ⟨m, rfl⟩ : ∃ k, m = k + 1 := ⟨m - 1, by omega⟩
      obtain ⟨m', rfl⟩ : ∃ k, m' = k + 1 := ⟨m' - 1, by omega⟩
      have e67 : N' 67 s = nI n := by rw [hf _ _ (by unfold TS; omega)]; exact c3
      have hR : Rel M1 N' := h.same (f1.mono (fun i k z => by unfold TC; omega)) (hf.mono (fun i k z => by unfold TS at z; unfold TM; omega))
      show Sim (f_X6_judge_b70 (f_X6_judge_l70 m) (nI s) (nI i) M1) (f_X7_judge_b37 (f_X7_judge_l37 m') (nI s) (nI j) (nI i) 1 N')
      unfold f_X6_judge_b70 f_X7_judge_b37
      rw [ck_pos (vp_in_nI hs (by decide)), ix_nI (by omega), m1, if_pos (nI_le (by omega) (by omega)), if_neg (by decide), ck_pos (vp_in_nI hs (by decide)), e67, if_pos (nI_le (by omega) (by omega)), if_neg (by decide)]
      exact s_ok hR _
    | succ d ih =>
      intro m m' i N' hi hm hm' hf
      obtain ⟨m, rfl⟩ : ∃ k, m = k + 1 := ⟨m - 1, by omega⟩
      obtain ⟨m', rfl⟩ : ∃ k, m' = k + 1 := ⟨m' - 1, by omega⟩
      have e67 : N' 67 s = nI n := by rw [hf _ _ (by unfold TS; omega)]; exact c3
      have e60 : N' 60 = N 60 := funext fun k => hf _ _ (by unfold TS; omega)
      have ei : M1 55 (40 * s + i) = N' 68 (40 * s + i) := by rw [f1 _ _ (by omega), hf _ _ (by unfold TS; omega)]; exact h.2.2.2.2.2 _ (by omega)
      obtain ⟨N2, g1, g2, g3⟩ := m_find (N := N') (by rw [e60]; exact o) hj (N' 68 (40 * s + i)) z_lt
      have e6 : N2 59 6 = wyS (N 60) j (N' 68 (40 * s + i)) := (congrArg (fun t : Said => t.1) g2).trans (by rw [e60]; exact sd_1 _ _ _ _)
      have hf2 := hf.trans g3
      have hR : Rel M1 N2 := h.same (f1.mono (fun i k z => by unfold TC; omega)) (hf2.mono (fun i k z => by unfold TS at z; unfold TM; omega))
      show Sim (f_X6_judge_b70 (f_X6_judge_l70 m) (nI s) (nI i) M1) (f_X7_judge_b37 (f_X7_judge_l37 m') (nI s) (nI j) (nI i) 1 N')
      -- the reference, where the number can't have come out
      have no : ¬ Rch (N 60) j 4096 (N' 68 (40 * s + i)) → f_X7_judge_b37 (f_X7_judge_l37 m') (nI s) (nI j) (nI i) 1 N' = some (1 + nI i, N2) := fun hr => by
        unfold f_X7_judge_b37
        rw [if_neg (by decide), ck_pos (vp_in_nI hs (by decide)), ix_nI (n := s) (by omega), e67, if_neg (nI_ge (by omega) (by omega)), m_40, ck_pos (vp_in_nI (show 40 * s + i < 160 by omega) (by decide)), ix_nI (n := 40 * s + i) (by omega), g1, bs, e6, if_pos ((wy_pos _ _ _).mpr hr)]
        unfold f_X7_judge_j83
        rw [if_pos rfl, Int32.add_zero]
        obtain ⟨m', rfl⟩ : ∃ k, m' = k + 1 := ⟨m' - 1, by omega⟩
        show f_X7_judge_b37 (f_X7_judge_l37 m') (nI s) (nI j) (nI i) 0 N2 = _
        unfold f_X7_judge_b37
        rw [if_pos rfl, if_pos rfl]
      have yes : Rch (N 60) j 4096 (N' 68 (40 * s + i)) → f_X7_judge_b37 (f_X7_judge_l37 m') (nI s) (nI j) (nI i) 1 N' = f_X7_judge_l37 m' (nI s) (nI j) (nI (i + 1)) 1 N2 := fun hr => by
        unfold f_X7_judge_b37
        rw [if_neg (by decide), ck_pos (vp_in_nI hs (by decide)), ix_nI (n := s) (by omega), e67, if_neg (nI_ge (by omega) (by omega)), m_40, ck_pos (vp_in_nI (show 40 * s + i < 160 by omega) (by decide)), ix_nI (n := 40 * s + i) (by omega), g1, bs, e6, if_neg (fun y => (wy_pos _ _ _).mp y hr)]
        unfold f_X7_judge_j83
        rw [if_neg (by decide), nI_1]
        rfl
      unfold f_X6_judge_b70
      rw [ck_pos (vp_in_nI hs (by decide)), ix_nI (n := s) (by omega), m1, if_neg (nI_ge (by omega) (by omega)), x_num hs (by omega), bs, ei, x_isSaying, bs, ib]
      cases h3 : inR (N' 68 (40 * s + i)) 4096
      · rw [if_neg (by decide), no (fun ⟨v, hv, e⟩ => by
          obtain ⟨u, hu, e2⟩ := mk_ltS o hj (nI_lt4096 hv)
          rw [← e, e2, show inR (nI u) 4096 = true from inR_nI (n := 4096) (by decide) hu] at h3
          cases h3)]
        exact s_ok hR _
      · obtain ⟨v, hv, ev⟩ := lt4096 h3
        have e5 : nI v >>> ((5 : Int32) &&& 31) = nI (v / 32) := pk_shrN (show v < 2 ^ 31 by omega) ((5 : Int32) &&& 31) 5 (by decide)
        have e31 : nI v &&& (31 : Int32) = nI (v % 32) := pk_andN (show v < 2 ^ 32 by omega) 5 (by decide)
        rw [if_pos rfl, ev, e5, e31, ck_pos (vp_in_nI (show v / 32 < 128 by omega) (by decide)), ix_nI (n := v / 32) (by omega), nI_1]
        by_cases hr : Rch (N 60) j 4096 (nI v)
        · rw [if_neg (fun y => (rb v hv).mp y hr), yes (by rw [ev]; exact hr)]
          exact ih m m' (i + 1) N2 (by omega) (by omega) (by omega) hf2
        · rw [if_pos ((rb v hv).mpr hr), no (by rw [ev]; exact hr)]
          exact s_ok hR _
  exact key n FU FU 0 N (by omega) (show n + 1 < 5000 by omega) (show n + 1 < 5000 by omega) Fr.rf
end ST13
