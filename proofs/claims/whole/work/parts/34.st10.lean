section ST10
variable {M N : Mem} {S : Nat → Int32} {nw np : Nat}
theorem eqn {a : Nat} (c : Nat) (ha : a < 2 ^ 31) (hc : c < 2 ^ 31) : (nI a = nI c) = (a = c) := propext (nI_eq ha hc)
theorem m_as {α : Type} (k w : Nat) (hk : k < 7) (hw : w < 7) (A F : α) : (if nI w = 0 then A else if nI k = nI w then A else if nI w = 1 then if nI k = 3 then A else (if nI w = 2 then if nI k = 4 then A else if nI k = 6 then A else F else F) else (if nI w = 2 then if nI k = 4 then A else if nI k = 6 then A else F else F)) = if uB k w = true then A else F := by
  have e0 : (nI w = 0) = (w = 0) := eqn 0 (by omega) (by decide)
  have e1 : (nI w = 1) = (w = 1) := eqn 1 (by omega) (by decide)
  have e2 : (nI w = 2) = (w = 2) := eqn 2 (by omega) (by decide)
  have e3 : (nI k = 3) = (k = 3) := eqn 3 (by omega) (by decide)
  have e4 : (nI k = 4) = (k = 4) := eqn 4 (by omega) (by decide)
  have e6 : (nI k = 6) = (k = 6) := eqn 6 (by omega) (by decide)
  have ew : (nI k = nI w) = (k = w) := eqn w (by omega) (by omega)
  simp only [e0, e1, e2, e3, e4, e6, ew]
  unfold uB
  by_cases z0 : w = 0
  · simp [z0]
  by_cases zw : k = w
  · simp [zw]
  by_cases z1 : w = 1
  · subst z1
    by_cases z3 : k = 3
    · simp [z3]
    · simp [z3, zw]
  by_cases z2 : w = 2
  · subst z2
    by_cases z4 : k = 4
    · simp [z4]
    by_cases z6 : k = 6
    · simp [z6]
    simp [z4, z6, zw]
  simp [z0, zw, z1, z2]
theorem st_as (h : Rel M N) (x1 x2 : Int32) : Sim (f_X6_as x1 x2 M) (f_X7_as x1 x2 N) := by
  obtain ⟨w, nw, np, o⟩ := h.1
  have h6 := o.1.1
  unfold f_X6_as f_X7_as f_X7_as_j82
  rw [x_isSpot, show f_X7_in x1.toInt64 0 9 N = some (inR x1 10) from m_inN x1 9 (by decide) N, x_isKind, show f_X7_in x2.toInt64 0 6 N = some (inR x2 7) from m_inN x2 6 (by decide) N]
  simp only [bs, ib]
  cases h1 : inR x1 10
  · exact s_B h
  cases h2 : inR x2 7
  · exact s_B h
  obtain ⟨q, hq, rfl⟩ := inR_t (n := 10) (by decide) h1
  obtain ⟨v, hv, rfl⟩ := inR_t (n := 7) (by decide) h2
  rw [if_pos rfl, if_pos rfl, if_pos rfl, if_pos rfl, ck_pos (vp_in_nI hq (by decide)), m_89, ck_pos (vp_in_nI (show 89 + q < 99 by omega) (by decide)), ix_nI (by omega), ix_nI (by omega), show M 16 q = _ from w.2.2.2 q hq]
  simp only [letv]
  rw [x_has5, hW w o, bs]
  rcases o.2.2.2 q hq with e | ⟨j, hj, e⟩
  · rw [e, show inR (-1) (nI nw) = false from decide_eq_false (fun z => absurd z.1 (by decide)), if_neg (show ¬ (0 : Int32) ≤ -1 by decide)]
    exact s_M h
  · obtain ⟨k, hk, e5⟩ := (o.2.1 j (by omega)).1
    rw [e, inR_nI (by omega) hj, if_pos rfl, if_pos (nI_pos' (by omega)), ck_pos (vp_in_nI (show j < 6 by omega) (by decide)), ix_nI (by omega), show f_X7_its (nI j) 0 N = _ from m_its (show j < 6 by omega) (k := 0) (by decide) N, bs, show M 3 j = _ from (w.2.1 j (by omega)).1, show N 60 (5 + 6 * j + 0) = _ from e5, e5, x_under k v hk hv, bs]
    simp only [show ¬ (1 : Int32) = 0 by decide, if_false, if_true]
    rw [m_as k v hk hv]
    cases uB k v
    · exact s_K h
    · exact s_ok h _
-- sheets
theorem m_40 (s i : Nat) : (40 : Int32) * nI s + nI i = nI (40 * s + i) := by rw [show (40 : Int32) = nI 40 from rfl, pk_mul, nI_add]
theorem x_40 (s i : Nat) : nI s * (40 : Int32) + nI i = nI (40 * s + i) := by rw [show (40 : Int32) = nI 40 from rfl, pk_mul, nI_add, Nat.mul_comm]
theorem x_miss {s : Nat} (hs : s < 4) (M : Mem) : f_X1_isMissing (nI s) M = some (decide (M 53 s = 0)) := by
  unfold f_X1_isMissing
  rw [ck_pos (vp_in_nI hs (by decide)), ix_nI (by omega)]
  by_cases z : M 53 s = 0
  · rw [if_pos z, decide_eq_true z]
  · rw [if_neg z, decide_eq_false z]
theorem m_wrong (x : Int32) (N : Mem) : f_X7_wrong x N = if inR x 4 = true then (if N 66 (ix x) = 0 then some (-1000006) else some 0) else some (-1000001) := by
  unfold f_X7_wrong
  rw [m_isOne, bs, ib]
  cases h : inR x 4
  · rfl
  · obtain ⟨s, hs, rfl⟩ := inR_t (n := 4) (by decide) h
    rw [if_pos rfl, if_pos rfl, ck_pos (vp_in_nI hs (by decide))]
/-- only sheets have changed -/
theorem Rel.sheets {M1 N1 : Mem} (h : Rel M N) (f : Fr (fun i _ => 52 ≤ i ∧ i < 52 + 4) M M1) (g : Fr (fun i _ => i = 66 ∨ i = 67 ∨ i = 68 ∨ i = 69) N N1) (r : RS M1 N1) : Rel M1 N1 := by
  obtain ⟨a, b, c, d, e⟩ := h
  have e60 : N1 60 = N 60 := funext fun k => g _ _ (by omega)
  exact ⟨⟨by rw [e60]; exact a.1.fr f (fun i k p q => by omega), by rw [e60]; exact a.2⟩, b.fr f g (by omega) (fun i k p q => by omega) (by omega) (fun k => by omega), c.fr f g (fun k => by omega) (fun k => by omega), d.fr f g (by omega) (fun k => by omega) (by omega) (fun k => by omega), r⟩
theorem itr_set (d : Nat) (v : Int32) (o : Nat) : ∀ (n i : Nat) (M : Mem) (a k : Nat), itr (fun i M => up M d (o + i) v) n i M a k = if a = d ∧ o + i ≤ k ∧ k < o + i + n then v else M a k := by
  intro n
  induction n with
  | zero => intro i M a k; show M a k = _; rw [if_neg (by omega)]
  | succ n ih =>
    intro i M a k
    show itr _ n (i + 1) (up M d (o + i) v) a k = _
    rw [ih, up_ap]
    by_cases h1 : a = d ∧ o + (i + 1) ≤ k ∧ k < o + (i + 1) + n
    · rw [if_pos h1, if_pos (by omega)]
    · rw [if_neg h1]
      by_cases h2 : a = d ∧ k = o + i
      · rw [if_pos h2, if_pos (by omega)]
      · rw [if_neg h2, if_neg (by omega)]
theorem x_lay {s : Nat} (hs : s < 4) (b n : Int32) (M : Mem) : ∃ M1, f_X1_lay (nI s) b n M = some (if b = 0 then 0 else n, M1) ∧ Fr (fun i _ => 52 ≤ i ∧ i < 52 + 4) M M1 ∧ (∀ t, M1 53 t = if t = s then b else M 53 t) ∧ (∀ t, M1 54 t = if t = s then (if b = 0 then 0 else n) else M 54 t) ∧ (∀ k, M1 55 k = if 40 * s ≤ k ∧ k < 40 * s + 40 then 0 else M 55 k) := by
  have lay : ∀ M2 : Mem, f_X1_lay_l25 FU (nI s) 0 M2 = some ((itr (fun i M => up M 55 (40 * s + i) 0) 40 0 M2) 54 s, itr (fun i M => up M 55 (40 * s + i) 0) 40 0 M2) := fun M2 => (lp_itr (fun _ _ _ => none) (f_X1_lay_b25) (fun z i (M : Mem) => z (nI s) i M) (fun i M => up M 55 (40 * s + i) 0) (fun M => some (M 54 s, M)) 40 (fun _ _ => True) (by
    intro z i M hi _
    refine ⟨?_, trivial⟩
    show f_X1_lay_b25 z (nI s) (nI i) M = z _ (nI (i + 1)) _
    unfold f_X1_lay_b25
    rw [if_neg (show ¬ (40 : Int32) ≤ nI i from nI_ge (b := 40) hi (by decide)), x_40, ck_pos (vp_in_nI (show 40 * s + i < 160 by omega) (by decide)), ix_nI (by omega), nI_1]
    rfl) (by
    intro z M _
    show f_X1_lay_b25 z (nI s) (nI 40) M = _
    unfold f_X1_lay_b25
    rw [if_pos (by decide), ck_pos (vp_in_nI hs (by decide)), ix_nI (by omega)]) 40 FU 0 M2 (by omega) (show 40 < 5000 by omega) trivial).1
  let v : Int32 := if b = 0 then 0 else n
  let M2 : Mem := up (up M 53 s b) 54 s v
  have e : f_X1_lay (nI s) b n M = f_X1_lay_l25 FU (nI s) 0 M2 := by
    unfold f_X1_lay
    simp only [ck_pos (vp_in_nI (N := 4) hs (by decide)), ix_nI (show s < 2 ^ 31 by omega), letv, M2, v]
    split <;> rfl
  have q := itr_set 55 0 (40 * s) 40 0 M2
  refine ⟨itr (fun i M => up M 55 (40 * s + i) 0) 40 0 M2, ?_, ?_, fun t => ?_, fun t => ?_, fun k => ?_⟩
  · rw [e, lay, q, if_neg (by omega)]
    show some ((up (up M 53 s b) 54 s v) 54 s, _) = _
    rw [up_ap, if_pos ⟨rfl, rfl⟩]
  · intro i k z
    rw [q, if_neg (by omega)]
    show (up (up M 53 s b) 54 s v) i k = _
    rw [up_ap, if_neg (by omega), up_ap, if_neg (by omega)]
  · rw [q, if_neg (by omega)]
    show (up (up M 53 s b) 54 s v) 53 t = _
    rw [up_ap, if_neg (by omega), up_ap]
    by_cases z : t = s
    · rw [if_pos ⟨rfl, z⟩, if_pos z]
    · rw [if_neg (by omega), if_neg z]
  · rw [q, if_neg (by omega)]
    show (up (up M 53 s b) 54 s v) 54 t = _
    rw [up_ap]
    by_cases z : t = s
    · rw [if_pos ⟨rfl, z⟩, if_pos z]
    · rw [if_neg (by omega), if_neg z, up_ap, if_neg (by omega)]
  · rw [q]
    by_cases z : 40 * s ≤ k ∧ k < 40 * s + 40
    · rw [if_pos (by omega), if_pos z]
    · rw [if_neg (by omega), if_neg z]
      show (up (up M 53 s b) 54 s v) 55 k = _
      rw [up_ap, if_neg (by omega), up_ap, if_neg (by omega)]
theorem m_lay {s : Nat} (hs : s < 4) (b n : Int32) (h0 : 0 ≤ n) (h40 : n ≤ 40) (N : Mem) : ∃ N1, f_X7_sheet_j36 (nI s) b n N = some (if b = 0 then 0 else n, N1) ∧ Fr (fun i _ => i = 66 ∨ i = 67 ∨ i = 68 ∨ i = 69) N N1 ∧ (∀ t, N1 66 t = if t = s then b else N 66 t) ∧ (∀ t, N1 67 t = if t = s then (if b = 0 then 0 else n) else N 67 t) ∧ (∀ k, N1 68 k = if 40 * s ≤ k ∧ k < 40 * s + 40 then 0 else N 68 k) := by
  have lay : ∀ M2 : Mem, f_X7_sheet_l86 FU (nI s) 0 M2 = some ((itr (fun i M => up M 68 (40 * s + i) 0) 40 0 M2) 67 s, itr (fun i M => up M 68 (40 * s + i) 0) 40 0 M2) := fun M2 => (lp_itr (fun _ _ _ => none) (f_X7_sheet_b86) (fun z i (M : Mem) => z (nI s) i M) (fun i M => up M 68 (40 * s + i) 0) (fun M => some (M 67 s, M)) 40 (fun _ _ => True) (by
    intro z i M hi _
    refine ⟨?_, trivial⟩
    show f_X7_sheet_b86 z (nI s) (nI i) M = z _ (nI (i + 1)) _
    unfold f_X7_sheet_b86
    rw [if_neg (show ¬ (40 : Int32) ≤ nI i from nI_ge (b := 40) hi (by decide)), m_40, ck_pos (vp_in_nI (show 40 * s + i < 160 by omega) (by decide)), ix_nI (by omega), nI_1]
    rfl) (by
    intro z M _
    show f_X7_sheet_b86 z (nI s) (nI 40) M = _
    unfold f_X7_sheet_b86
    rw [if_pos (by decide), ck_pos (vp_in_nI hs (by decide)), ix_nI (by omega)]) 40 FU 0 M2 (by omega) (show 40 < 5000 by omega) trivial).1
  let v : Int32 := if b = 0 then 0 else n
  let M2 : Mem := up (up N 66 s b) 67 s v
  have e : f_X7_sheet_j36 (nI s) b n N = f_X7_sheet_l86 FU (nI s) 0 M2 := by
    unfold f_X7_sheet_j36
    rw [if_pos h0, if_pos h40]
    simp only [ck_pos (vp_in_nI (N := 4) hs (by decide)), ix_nI (show s < 2 ^ 31 by omega), letv, M2, v]
    split <;> rfl
  have q := itr_set 68 0 (40 * s) 40 0 M2
  refine ⟨itr (fun i M => up M 68 (40 * s + i) 0) 40 0 M2, ?_, ?_, fun t => ?_, fun t => ?_, fun k => ?_⟩
  · rw [e, lay, q, if_neg (by omega)]
    show some ((up (up N 66 s b) 67 s v) 67 s, _) = _
    rw [up_ap, if_pos ⟨rfl, rfl⟩]
  · intro i k z
    rw [q, if_neg (by omega)]
    show (up (up N 66 s b) 67 s v) i k = _
    rw [up_ap, if_neg (by omega), up_ap, if_neg (by omega)]
  · rw [q, if_neg (by omega)]
    show (up (up N 66 s b) 67 s v) 66 t = _
    rw [up_ap, if_neg (by omega), up_ap]
    by_cases z : t = s
    · rw [if_pos ⟨rfl, z⟩, if_pos z]
    · rw [if_neg (by omega), if_neg z]
  · rw [q, if_neg (by omega)]
    show (up (up N 66 s b) 67 s v) 67 t = _
    rw [up_ap]
    by_cases z : t = s
    · rw [if_pos ⟨rfl, z⟩, if_pos z]
    · rw [if_neg (by omega), if_neg z, up_ap, if_neg (by omega)]
  · rw [q]
    by_cases z : 40 * s ≤ k ∧ k < 40 * s + 40
    · rw [if_pos (by omega), if_pos z]
    · rw [if_neg (by omega), if_neg z]
      show (up (up N 66 s b) 67 s v) 68 k = _
      rw [up_ap, if_neg (by omega), up_ap, if_neg (by omega)]
theorem st_sheet (h : Rel M N) (x1 x2 x3 : Int32) : Sim (f_X6_sheet x1 x2 x3 M) (f_X7_sheet x1 x2 x3 N) := by
  unfold f_X6_sheet f_X7_sheet
  rw [x_isSheet, m_isOne]
  simp only [bs, ib]
  cases h1 : inR x1 4
  · exact s_B h
  obtain ⟨s, hs, rfl⟩ := inR_t (n := 4) (by decide) h1
  rw [if_pos rfl, if_pos rfl]
  have lay : Sim (if 0 ≤ x3 then if x3 ≤ 40 then (f_X1_lay (nI s) x2 x3 M).bind fun r => some (r.1, r.2) else (f_X6_found (-1000001) M).bind fun r => some (r.1, r.2) else (f_X6_found (-1000007) M).bind fun r => some (r.1, r.2)) (f_X7_sheet_j36 (nI s) x2 x3 N) := by
    by_cases h0 : 0 ≤ x3
    · rw [if_pos h0]
      by_cases h40 : x3 ≤ 40
      · rw [if_pos h40]
        obtain ⟨M1, a1, a2, a3, a4, a5⟩ := x_lay hs x2 x3 M
        obtain ⟨N1, b1, b2, b3, b4, b5⟩ := m_lay hs x2 x3 h0 h40 N
        rw [a1, b1]
        refine ⟨_, M1, N1, rfl, rfl, h.sheets a2 b2 ⟨fun t ht => ?_, fun k hk => ?_⟩⟩
        · obtain ⟨c1, c2, c3⟩ := h.2.2.2.2.1 t ht
          rw [a3, a4, b3, b4]
          by_cases z : t = s
          · simp only [if_pos z]
            refine ⟨trivial, trivial, ?_⟩
            split
            · exact ⟨0, by decide, rfl⟩
            · exact (nI_of2 (x := x3) (M := 40) (n := 40) (by decide) (by rw [lt_t]; rw [le_t] at h0; omega) h40).imp fun j hj => ⟨by omega, hj.2⟩
          · simp only [if_neg z]
            exact ⟨c1, c2, c3⟩
        · rw [a5, b5, h.2.2.2.2.2 k hk]
      · rw [if_neg h40]
        unfold f_X7_sheet_j36
        rw [if_pos h0, if_neg h40]
        exact s_B h
    · rw [if_neg h0]
      unfold f_X7_sheet_j36
      rw [if_neg h0]
      exact s_Z h
  unfold f_X6_isWidth
  by_cases z0 : x2 = 0
  · rw [if_pos z0, if_pos z0, bs, if_pos rfl]; exact lay
  rw [if_neg z0, if_neg z0]
  by_cases z0 : x2 = 8
  · rw [if_pos z0, if_pos z0, bs, if_pos rfl]; exact lay
  rw [if_neg z0, if_neg z0]
  by_cases z0 : x2 = 16
  · rw [if_pos z0, if_pos z0, bs, if_pos rfl]; exact lay
  rw [if_neg z0, if_neg z0]
  by_cases z0 : x2 = 32
  · rw [if_pos z0, if_pos z0, bs, if_pos rfl]; exact lay
  rw [if_neg z0, if_neg z0, bs, if_neg (by decide)]
  exact s_B h
end ST10
