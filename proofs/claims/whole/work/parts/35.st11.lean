def bt (x : Int32) (i : Nat) : Bool := x.toBitVec.getLsbD i
theorem b_ext {x y : Int32} (h : ∀ i, i < 32 → bt x i = bt y i) : x = y := Int32.toBitVec_inj.mp (BitVec.eq_of_getLsbD_eq (fun i hi => h i hi))
theorem b_or (x y : Int32) (i : Nat) : bt (x ||| y) i = (bt x i || bt y i) := by unfold bt; rw [Int32.toBitVec_or, BitVec.getLsbD_or]
theorem b_and (x y : Int32) (i : Nat) : bt (x &&& y) i = (bt x i && bt y i) := by unfold bt; rw [Int32.toBitVec_and, BitVec.getLsbD_and]
theorem b_big {x : Int32} {i : Nat} (h : 32 ≤ i) : bt x i = false := BitVec.getLsbD_of_ge _ _ h
theorem b_255 (i : Nat) : bt 255 i = decide (i < 8) := by
  rcases Nat.lt_or_ge i 32 with h | h
  · exact (by decide +kernel : ∀ i, i < 32 → bt 255 i = decide (i < 8)) i h
  · rw [b_big h, decide_eq_false (by omega)]
theorem b_0 (i : Nat) : bt 0 i = false := BitVec.getLsbD_zero
theorem s_l : ∀ n, n < 32 → ((nI n &&& 31).toBitVec.smod 32).toNat = n := by decide +kernel
theorem s_u : ∀ n, n < 32 → (((nI n).toUInt32 &&& Int32.toUInt32 31).toBitVec % 32).toNat = n := by decide +kernel
theorem b_shl (n : Nat) (hn : n < 32) (x : Int32) {i : Nat} (hi : i < 32) : bt (x <<< (nI n &&& 31)) i = (decide (n ≤ i) && bt x (i - n)) := by
  unfold bt
  rw [Int32.toBitVec_shiftLeft]
  show (x.toBitVec <<< ((nI n &&& 31).toBitVec.smod 32).toNat).getLsbD i = _
  rw [s_l n hn, BitVec.getLsbD_shiftLeft]
  rcases Nat.lt_or_ge i n with h | h
  · simp [h, Nat.not_le.mpr h]
  · simp [hi, h, Nat.not_lt.mpr h]
theorem b_ushr (n : Nat) (hn : n < 32) (x : Int32) (i : Nat) : bt ((x.toUInt32 >>> ((nI n).toUInt32 &&& Int32.toUInt32 31)).toInt32) i = bt x (n + i) := by
  show (x.toUInt32 >>> ((nI n).toUInt32 &&& Int32.toUInt32 31)).toBitVec.getLsbD i = x.toUInt32.toBitVec.getLsbD (n + i)
  rw [UInt32.toBitVec_shiftRight]
  show (x.toUInt32.toBitVec >>> (((nI n).toUInt32 &&& Int32.toUInt32 31).toBitVec % 32).toNat).getLsbD i = _
  rw [s_u n hn, BitVec.getLsbD_ushiftRight]
theorem b_sshr (n : Nat) (hn : n < 32) (x : Int32) {i : Nat} (hi : i < 32) : bt (x >>> (nI n &&& 31)) i = if n + i < 32 then bt x (n + i) else bt x 31 := by
  unfold bt
  rw [Int32.toBitVec_shiftRight]
  show (x.toBitVec.sshiftRight ((nI n &&& 31).toBitVec.smod 32).toNat).getLsbD i = _
  rw [s_l n hn, BitVec.getLsbD_sshiftRight, BitVec.msb_eq_getLsbD_last]
  simp [hi]
section ST11
variable {M N : Mem} {S : Nat → Int32} {nw np : Nat}
theorem ifL {α : Type} (x y : Int32) (A B : α) : (if x < 0 then B else if x < y then A else B) = if inR x y = true then A else B := by
  unfold inR
  by_cases h1 : x < 0
  · rw [if_pos h1, decide_eq_false (by rw [le_t]; rw [lt_t] at h1; omega), if_neg (by decide)]
  · rw [if_neg h1]
    by_cases h2 : x < y
    · rw [if_pos h2, decide_eq_true (by rw [le_t]; rw [lt_t] at h1; exact ⟨by omega, h2⟩), if_pos rfl]
    · rw [if_neg h2, decide_eq_false (fun z => h2 z.2), if_neg (by decide)]
def nrI (b v : Int32) : Int32 := if b = 8 then v.toInt8.toInt32 else if b = 16 then v.toInt16.toInt32 else v
theorem RS.note (h : RS M N) (k : Nat) (v : Int32) : RS (up M 55 k v) (up N 68 k v) := by
  refine ⟨fun s hs => ?_, fun q hq => ?_⟩
  · rw [up_ap, up_ap, up_ap, up_ap, if_neg (by omega), if_neg (by omega), if_neg (by omega), if_neg (by omega)]
    exact h.1 s hs
  · rw [up_ap, up_ap]
    by_cases z : q = k
    · rw [if_pos ⟨rfl, z⟩, if_pos ⟨rfl, z⟩]
    · rw [if_neg (by omega), if_neg (by omega)]; exact h.2 q hq
theorem st_write (h : Rel M N) (x1 x2 x3 : Int32) : Sim (f_X6_write x1 x2 x3 M) (f_X7_write x1 x2 x3 N) := by
  unfold f_X6_write f_X7_write
  rw [x_isSheet, m_wrong, bs, ib]
  cases h1 : inR x1 4
  · exact s_B h
  obtain ⟨s, hs, rfl⟩ := inR_t (n := 4) (by decide) h1
  obtain ⟨c1, c2, n, hn, c3⟩ := h.2.2.2.2.1 s hs
  rw [if_pos rfl, if_pos rfl, x_miss hs, bs, ib, ix_nI (by omega), c1]
  by_cases z : N 66 s = 0
  · rw [decide_eq_true z, if_pos rfl, if_pos z]
    exact s_M h
  rw [decide_eq_false z, if_neg (by decide), if_neg z, bs, if_pos rfl, ck_pos (vp_in_nI hs (by decide)), ck_pos (vp_in_nI hs (by decide)), c2, c3, ifL, show f_X7_in x2.toInt64 (0 : Int64) (nI n - 1).toInt64 N = some (inR x2 (nI n)) from (m_in x2 0 _ N).trans (congrArg some (inR_pred x2 n (by omega))), bs, ib]
  cases h2 : inR x2 (nI n)
  · exact s_B h
  obtain ⟨i, hi, rfl⟩ := inR_t (by omega) h2
  have e1 : f_X1_note (nI s) (nI i) x3 M = some (up M 55 (40 * s + i) (nrI (N 66 s) x3)) := by
    unfold f_X1_note f_X1_note_j18 nrI
    simp only [ck_pos (vp_in_nI (N := 4) hs (by decide)), ix_nI (show s < 2 ^ 31 by omega), x_40, ck_pos (vp_in_nI (N := 160) (show 40 * s + i < 160 by omega) (by decide)), ix_nI (show 40 * s + i < 2 ^ 31 by omega), letv, c1]
    by_cases z8 : N 66 s = 8
    · rw [if_pos z8, if_pos z8, if_neg (by rw [z8]; decide)]
    · rw [if_neg z8, if_neg z8]
      split <;> rfl
  have e2 : f_X7_narrowed (N 66 s) x3 N = some (nrI (N 66 s) x3) := by
    unfold f_X7_narrowed nrI
    repeat' split
    all_goals rfl
  rw [if_pos rfl, if_pos rfl, e1, e2, bs, bs, m_40, ck_pos (vp_in_nI (show 40 * s + i < 160 by omega) (by decide)), ix_nI (by omega), ck_pos (vp_in_nI hs (by decide))]
  exact ⟨_, _, _, rfl, rfl, h.sheets ((Fr.rf (T := fun i _ => 52 ≤ i ∧ i < 52 + 4)).put rfl (by decide)) ((Fr.rf (T := fun i _ => i = 66 ∨ i = 67 ∨ i = 68 ∨ i = 69)).put rfl (by decide)) (h.2.2.2.2.note _ _)⟩
-- copy
theorem sub_t {a : Nat} (ha : a < 2 ^ 30) {x : Int32} (hx : ¬ x < 0) : (nI a - x).toInt = (a : Int) - x.toInt := by
  obtain ⟨j, hj, rfl⟩ := nI_of hx
  rw [Int32.toInt_sub, nI_toInt (by omega), nI_toInt hj]
  exact Int.bmod_eq_of_le (by omega) (by omega)
theorem x_from {s : Nat} (hs : s < 4) {n : Nat} (hn : n < 41) {M : Mem} (e : M 54 s = nI n) (f k : Int32) : f_X1_hasFrom (nI s) f k M = some (decide (¬ f < 0 ∧ ¬ k < 0 ∧ k.toInt + f.toInt ≤ n)) := by
  unfold f_X1_hasFrom
  rw [ck_pos (vp_in_nI hs (by decide)), ck_pos (vp_in_nI hs (by decide)), ix_nI (by omega), e]
  by_cases h1 : f < 0
  · rw [if_pos h1, decide_eq_false (fun z => z.1 h1)]
  rw [if_neg h1]
  by_cases h2 : k < 0
  · rw [if_pos h2, decide_eq_false (fun z => z.2.1 h2)]
  rw [if_neg h2]
  have t := sub_t (a := n) (by omega) h2
  have h1' := h1
  have h2' := h2
  rw [lt_t] at h1' h2'
  have z0 : (0 : Int32).toInt = 0 := by decide
  by_cases h3 : nI n < k
  · rw [if_pos h3, decide_eq_false (fun z => by
      have z1 := z.2.2
      rw [lt_t, nI_toInt (by omega)] at h3
      omega)]
  rw [if_neg h3]
  rw [lt_t, nI_toInt (by omega)] at h3
  by_cases h4 : nI n - k < f
  · rw [if_pos h4, decide_eq_false (fun z => by
      have z1 := z.2.2
      rw [lt_t, t] at h4
      omega)]
  · rw [if_neg h4, decide_eq_true ⟨h1, h2, by rw [lt_t, t] at h4; omega⟩]
theorem st_copy (h : Rel M N) (x1 x2 x3 x4 x5 : Int32) : Sim (f_X6_copy x1 x2 x3 x4 x5 M) (f_X7_copy x1 x2 x3 x4 x5 N) := by
  unfold f_X6_copy f_X7_copy
  rw [x_isSheet, x_isSheet, m_isOne, m_isOne]
  simp only [bs, ib]
  cases h1 : inR x1 4
  · exact s_B h
  cases h3 : inR x3 4
  · exact s_B h
  obtain ⟨s, hs, rfl⟩ := inR_t (n := 4) (by decide) h1
  obtain ⟨t, ht, rfl⟩ := inR_t (n := 4) (by decide) h3
  obtain ⟨c1, c2, n, hn, c3⟩ := h.2.2.2.2.1 s hs
  obtain ⟨d1, d2, m, hm, d3⟩ := h.2.2.2.2.1 t ht
  have vs := vp_in_nI (N := 4) hs (by decide)
  have vt := vp_in_nI (N := 4) ht (by decide)
  simp only [if_true, x_miss hs, x_miss ht, bs, ck_pos vs, ck_pos vt, ix_nI (show s < 2 ^ 31 by omega), ix_nI (show t < 2 ^ 31 by omega), c1, d1, x_from hs hn (c2.trans c3), x_from ht hm (d2.trans d3), c3, d3]
  by_cases z1 : N 66 s = 0
  · simp only [z1, decide_true, if_true]
    exact s_M h
  simp only [z1, decide_false, if_false]
  by_cases z2 : N 66 t = 0
  · simp only [z2, decide_true, if_true]
    exact s_M h
  simp only [z2, decide_false, if_false]
  show Sim (if N 66 s = N 66 t then _ else _) _
  by_cases z3 : N 66 s = N 66 t
  case neg =>
    rw [if_neg z3, if_neg z3]
    exact s_K h
  rw [if_pos z3, if_pos z3]
  by_cases g : (¬ x2 < 0 ∧ ¬ x5 < 0 ∧ x5.toInt + x2.toInt ≤ n) ∧ (¬ x4 < 0 ∧ ¬ x5 < 0 ∧ x5.toInt + x4.toInt ≤ m)
  case neg =>
    have e1 : (if decide (¬ x2 < 0 ∧ ¬ x5 < 0 ∧ x5.toInt + x2.toInt ≤ n) = true then (if decide (¬ x4 < 0 ∧ ¬ x5 < 0 ∧ x5.toInt + x4.toInt ≤ m) = true then (f_X1_move (nI s) x2 (nI t) x4 x5 M).bind fun r => some (x5, r) else (f_X6_found (-1000001) M).bind fun r => some (r.1, r.2)) else (f_X6_found (-1000001) M).bind fun r => some (r.1, r.2)) = (f_X6_found (-1000001) M).bind fun r => some (r.1, r.2) := by
      by_cases a : (¬ x2 < 0 ∧ ¬ x5 < 0 ∧ x5.toInt + x2.toInt ≤ n)
      · rw [if_pos (decide_eq_true a), if_neg (fun y => g ⟨a, of_decide_eq_true y⟩)]
      · rw [if_neg (fun y => a (of_decide_eq_true y))]
    rw [e1]
    have z0 : (0 : Int32).toInt = 0 := by decide
    by_cases b1 : x2 < 0
    · rw [if_pos b1]; exact s_B h
    rw [if_neg b1]
    by_cases b2 : x4 < 0
    · rw [if_pos b2]; exact s_B h
    rw [if_neg b2]
    by_cases b3 : x5 < 0
    · rw [if_pos b3]; exact s_B h
    rw [if_neg b3]
    have t1 := sub_t (a := n) (by omega) b1
    have t2 := sub_t (a := m) (by omega) b2
    by_cases b4 : nI n - x2 < x5
    · rw [if_pos b4]; exact s_B h
    rw [if_neg b4, if_neg (fun y => g ⟨⟨b1, b3, by rw [lt_t, t1] at b4; omega⟩, ⟨b2, b3, by rw [le_t, t2] at y; omega⟩⟩)]
    exact s_B h
  obtain ⟨g1, g2⟩ := g
  rw [if_pos (decide_eq_true g1), if_pos (decide_eq_true g2), if_neg g1.1, if_neg g2.1, if_neg g1.2.1]
  have t1 := sub_t (a := n) (by omega) g1.1
  have t2 := sub_t (a := m) (by omega) g2.1
  have g13 := g1.2.2
  have g23 := g2.2.2
  rw [if_neg (show ¬ nI n - x2 < x5 by rw [lt_t, t1]; omega), if_pos (show x5 ≤ nI m - x4 by rw [le_t, t2]; omega)]
  obtain ⟨f, hf, rfl⟩ := nI_of g1.1
  obtain ⟨q, hq, rfl⟩ := nI_of g2.1
  obtain ⟨c, hc, rfl⟩ := nI_of g1.2.1
  rw [nI_toInt hc, nI_toInt hf] at g13
  rw [nI_toInt hc, nI_toInt hq] at g23
  -- the class
  have e1 : f_X1_move (nI s) (nI f) (nI t) (nI q) (nI c) M = some (cpM M 55 (nI (40 * s + f)) 55 (nI (40 * t + q)) (nI c)) := by
    unfold f_X1_move
    rw [x_40, x_40, ck_pos ⟨nI_pos (by omega), nI_pos (by omega), nI_pos hc, by rw [ix_nI (by omega), ix_nI hc]; omega, by rw [ix_nI (by omega), ix_nI hc]; omega⟩]
    rfl
  -- the reference
  have e2 : ∀ N' : Mem, f_X7_copy_l158 FU (nI t) (nI q) (nI c) 0 N' = some (nI c, itr (fun i M => up M 68 (40 * t + q + i) (M 69 i)) c 0 N') := fun N' => (lp_itr (fun _ _ _ _ _ => none) (f_X7_copy_b158) (fun z i (M : Mem) => z (nI t) (nI q) (nI c) i M) (fun i M => up M 68 (40 * t + q + i) (M 69 i)) (fun M => some (nI c, M)) c (fun _ _ => True) (by
    intro z i M hi _
    refine ⟨?_, trivial⟩
    show f_X7_copy_b158 z (nI t) (nI q) (nI c) (nI i) M = z _ _ _ (nI (i + 1)) _
    unfold f_X7_copy_b158
    rw [if_neg (nI_ge hi hc), m_40, nI_add, ck_pos (vp_in_nI (show i < 40 by omega) (by decide)), ck_pos (vp_in_nI (show 40 * t + q + i < 160 by omega) (by decide)), ix_nI (by omega), ix_nI (by omega), nI_1]
    rfl) (by
    intro z M _
    show f_X7_copy_b158 z (nI t) (nI q) (nI c) (nI c) M = _
    unfold f_X7_copy_b158
    rw [if_pos (nI_le (by omega) hc)]) c FU 0 N' (by omega) (show c < 5000 by omega) trivial).1
  have e3 := (lp_itr (fun _ _ _ _ _ _ _ => none) (f_X7_copy_b121) (fun z i (M : Mem) => z (nI s) (nI f) (nI t) (nI q) (nI c) i M) (fun i M => up M 69 i (M 68 (40 * s + f + i))) (fun M => f_X7_copy_l158 FU (nI t) (nI q) (nI c) 0 M) c (fun _ _ => True) (by
    intro z i M hi _
    refine ⟨?_, trivial⟩
    show f_X7_copy_b121 z (nI s) (nI f) (nI t) (nI q) (nI c) (nI i) M = z _ _ _ _ _ (nI (i + 1)) _
    unfold f_X7_copy_b121
    rw [if_neg (nI_ge hi hc), m_40, nI_add, ck_pos (vp_in_nI (show 40 * s + f + i < 160 by omega) (by decide)), ck_pos (vp_in_nI (show i < 40 by omega) (by decide)), ix_nI (by omega), ix_nI (by omega), nI_1]
    rfl) (by
    intro z M _
    show f_X7_copy_b121 z (nI s) (nI f) (nI t) (nI q) (nI c) (nI c) M = _
    unfold f_X7_copy_b121
    rw [if_pos (nI_le (by omega) hc)]) c FU 0 N (by omega) (show c < 5000 by omega) trivial).1
  have i1 : ∀ (n i : Nat) (M : Mem) (a k : Nat), itr (fun i M => up M 69 i (M 68 (40 * s + f + i))) n i M a k = if a = 69 ∧ i ≤ k ∧ k < i + n then M 68 (40 * s + f + k) else M a k := by
    intro n
    induction n with
    | zero => intro i M a k; show M a k = _; rw [if_neg (by omega)]
    | succ n ih =>
      intro i M a k
      show itr _ n (i + 1) (up M 69 i (M 68 (40 * s + f + i))) a k = _
      rw [ih, up_ap, up_ap]
      by_cases y1 : a = 69 ∧ i + 1 ≤ k ∧ k < i + 1 + n
      · rw [if_pos y1, if_neg (by omega), if_pos (by omega)]
      · rw [if_neg y1]
        by_cases y2 : a = 69 ∧ k = i
        · rw [if_pos y2, if_pos (by omega), y2.2]
        · rw [if_neg y2, if_neg (by omega)]
  have i2 : ∀ (n i : Nat) (M : Mem) (a k : Nat), itr (fun i M => up M 68 (40 * t + q + i) (M 69 i)) n i M a k = if a = 68 ∧ 40 * t + q + i ≤ k ∧ k < 40 * t + q + i + n then M 69 (k - (40 * t + q)) else M a k := by
    intro n
    induction n with
    | zero => intro i M a k; show M a k = _; rw [if_neg (by omega)]
    | succ n ih =>
      intro i M a k
      show itr _ n (i + 1) (up M 68 (40 * t + q + i) (M 69 i)) a k = _
      rw [ih, up_ap, up_ap]
      by_cases y1 : a = 68 ∧ 40 * t + q + (i + 1) ≤ k ∧ k < 40 * t + q + (i + 1) + n
      · rw [if_pos y1, if_neg (by omega), if_pos (by omega)]
      · rw [if_neg y1]
        by_cases y2 : a = 68 ∧ k = 40 * t + q + i
        · rw [if_pos y2, if_pos (by omega), y2.2, show 40 * t + q + i - (40 * t + q) = i by omega]
        · rw [if_neg y2, if_neg (by omega)]
  have e4 : f_X7_copy_l121 FU (nI s) (nI f) (nI t) (nI q) (nI c) 0 N = _ := e3
  rw [e1, bs, e4, e2]
  refine ⟨_, _, _, rfl, rfl, h.sheets (fun i k z => by unfold cpM; rw [if_neg (by omega)]) (fun i k z => by rw [i2, if_neg (by omega), i1, if_neg (by omega)]) ⟨fun a ha => ?_, fun k hk => ?_⟩⟩
  · rw [i2, if_neg (by omega), i1, if_neg (by omega), i2, if_neg (by omega), i1, if_neg (by omega)]
    unfold cpM
    rw [if_neg (by decide), if_neg (by decide)]
    exact h.2.2.2.2.1 a ha
  · rw [i2]
    unfold cpM va_cpy
    rw [if_pos rfl, ix_nI (n := 40 * t + q) (by omega), ix_nI (n := 40 * s + f) (by omega), ix_nI hc]
    by_cases y : 40 * t + q ≤ k ∧ k < 40 * t + q + c
    · rw [if_pos y, if_pos (by omega), i1, if_pos (by omega)]
      exact h.2.2.2.2.2 _ (by omega)
    · rw [if_neg y, if_neg (by omega), i1, if_neg (by omega)]
      exact h.2.2.2.2.2 k hk
end ST11
