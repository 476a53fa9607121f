section ST4
variable {b : Nat} {M N : Mem} {S : Nat → Int32} {nw np : Nat}
theorem itr_add (f : Nat → Int32) : ∀ (d i : Nat) (a : Int32), itr (fun i a => a + f i) d i a = a + itr (fun i a => a + f i) d i 0 := by
  intro d
  induction d with
  | zero => intro i a; show a = a + 0; rw [Int32.add_zero]
  | succ d ih =>
    intro i a
    show itr _ d (i + 1) (a + f i) = a + itr _ d (i + 1) (0 + f i)
    rw [ih, ih (i + 1) (0 + f i), Int32.zero_add, Int32.add_assoc]
def sumS (S : Nat → Int32) (n o c : Nat) : Int32 := itr (fun i a => a + S (o + c * i)) n 0 0
def tieS (S : Nat → Int32) (np : Nat) : Int32 := itr (fun i a => a + nI (pcn (ix (S (81 + i))))) np 0 0
def belS (S : Nat → Int32) (np m : Nat) : Int32 := itr (fun i a => if bit (S (41 + 5 * i + 1)) m = true then a ||| ((1 : Int32) <<< (nI i &&& 31)) else a) np 0 0
theorem xw_ties (h : RW b M S) (o : Ok S nw np) : f_X0_howManyTies (b + 8) M = some (tieS S np / 2) := by
  have h8 := o.1.2.1
  refine (lp_itr _ (f_X0_howManyTies_b4 (b + 8)) (fun z i (a : Int32) => z a i M) (fun i a => a + nI (pcn (ix (S (81 + i))))) (fun a => some (a / 2)) np (fun _ _ => True) ?_ ?_ np FU 0 0 (by omega) (show np < 5000 by omega) trivial).1
  · intro z i a hi _
    refine ⟨?_, trivial⟩
    show f_X0_howManyTies_b4 (b + 8) z a (nI i) M = z _ (nI (i + 1)) M
    unfold f_X0_howManyTies_b4
    obtain ⟨t, ht, e⟩ := (o.2.2.1 i (by omega)).2.2.2.2
    rw [h.1.2.1, o.1.2.2.2.1, if_neg (nI_ge hi (by omega)), ck_pos (vp_in_nI (show i < 8 by omega) (by decide)), ix_nI (by omega), (h.2.2.1 i (by omega)).2.2.2.2.2, e, x_bc (by omega), ix_nI (by omega), nI_1]
    rfl
  · intro z a _
    show f_X0_howManyTies_b4 (b + 8) z a (nI np) M = _
    unfold f_X0_howManyTies_b4
    rw [h.1.2.1, o.1.2.2.2.1, if_pos (nI_le (by omega) (by omega))]
theorem mw_ties (o : Ok (N 60) nw np) : f_X7_tieMany N = some (tieS (N 60) np / 2) := by
  have h8 := o.1.2.1
  refine (lp_itr _ (f_X7_tieMany_b4) (fun z i (a : Int32) => z a i N) (fun i a => a + nI (pcn (ix (N 60 (81 + i))))) (fun a => some (a / 2)) np (fun _ _ => True) ?_ ?_ np FU 0 0 (by omega) (show np < 5000 by omega) trivial).1
  · intro z i a hi _
    refine ⟨?_, trivial⟩
    show f_X7_tieMany_b4 z a (nI i) N = z _ (nI (i + 1)) N
    unfold f_X7_tieMany_b4
    obtain ⟨t, ht, e⟩ := (o.2.2.1 i (by omega)).2.2.2.2
    rw [ck_pos vl_1, ix_1, o.1.2.2.2.1, if_neg (nI_ge hi (by omega)), m_81 (show i < 8 by omega), ck_pos (vp_in_nI (show 81 + i < 99 by omega) (by decide)), ix_nI (by omega), e, m_ones (by omega), ix_nI (by omega), nI_1]
    rfl
  · intro z a _
    show f_X7_tieMany_b4 z a (nI np) N = _
    unfold f_X7_tieMany_b4
    rw [ck_pos vl_1, ix_1, o.1.2.2.2.1, if_pos (nI_le (by omega) (by omega))]
theorem xw_pence (h : RW b M S) (o : Ok S nw np) : f_X0_allPence (b + 8) M = some (sumS S np 44 5) := by
  have h8 := o.1.2.1
  refine (lp_itr _ (f_X0_allPence_b4 (b + 8)) (fun z i (a : Int32) => z a i M) (fun i a => a + S (44 + 5 * i)) (fun a => some a) np (fun _ _ => True) ?_ ?_ np FU 0 0 (by omega) (show np < 5000 by omega) trivial).1
  · intro z i a hi _
    refine ⟨?_, trivial⟩
    show f_X0_allPence_b4 (b + 8) z a (nI i) M = z _ (nI (i + 1)) M
    unfold f_X0_allPence_b4
    rw [h.1.2.1, o.1.2.2.2.1, if_neg (nI_ge hi (by omega)), ck_pos (vp_in_nI (show i < 8 by omega) (by decide)), ix_nI (by omega), (h.2.2.1 i (by omega)).2.2.2.1, show 41 + 5 * i + 3 = 44 + 5 * i by omega, nI_1]
    rfl
  · intro z a _
    show f_X0_allPence_b4 (b + 8) z a (nI np) M = _
    unfold f_X0_allPence_b4
    rw [h.1.2.1, o.1.2.2.2.1, if_pos (nI_le (by omega) (by omega))]
theorem xw_lettered (h : RW b M S) (o : Ok S nw np) : f_X0_howManyLettered (b + 8) M = some (sumS S np 45 5) := by
  have h8 := o.1.2.1
  refine (lp_itr _ (f_X0_howManyLettered_b4 (b + 8)) (fun z i (a : Int32) => z a i M) (fun i a => a + S (45 + 5 * i)) (fun a => some a) np (fun _ _ => True) ?_ ?_ np FU 0 0 (by omega) (show np < 5000 by omega) trivial).1
  · intro z i a hi _
    refine ⟨?_, trivial⟩
    show f_X0_howManyLettered_b4 (b + 8) z a (nI i) M = z _ (nI (i + 1)) M
    unfold f_X0_howManyLettered_b4
    rw [h.1.2.1, o.1.2.2.2.1, if_neg (nI_ge hi (by omega)), ck_pos (vp_in_nI (show i < 8 by omega) (by decide)), ix_nI (by omega), (h.2.2.1 i (by omega)).2.2.2.2.1, show 41 + 5 * i + 4 = 45 + 5 * i by omega, nI_1]
    rfl
  · intro z a _
    show f_X0_howManyLettered_b4 (b + 8) z a (nI np) M = _
    unfold f_X0_howManyLettered_b4
    rw [h.1.2.1, o.1.2.2.2.1, if_pos (nI_le (by omega) (by omega))]
theorem xw_purses (h : RW b M S) (o : Ok S nw np) : f_X5_allPurses (b + 1) M = some (sumS S nw 10 6) := by
  have h8 := o.1.1
  refine (lp_itr _ (f_X5_allPurses_b4 (b + 1)) (fun z i (a : Int32) => z a i M) (fun i a => a + S (10 + 6 * i)) (fun a => some a) nw (fun _ _ => True) ?_ ?_ nw FU 0 0 (by omega) (show nw < 5000 by omega) trivial).1
  · intro z i a hi _
    refine ⟨?_, trivial⟩
    show f_X5_allPurses_b4 (b + 1) z a (nI i) M = z _ (nI (i + 1)) M
    unfold f_X5_allPurses_b4
    rw [h.1.1, o.1.2.2.1, if_neg (nI_ge hi (by omega)), ck_pos (vp_in_nI (show i < 6 by omega) (by decide)), ix_nI (by omega), (h.2.1 i (by omega)).2.2.2.2.2, show 5 + 6 * i + 5 = 10 + 6 * i by omega, nI_1]
    rfl
  · intro z a _
    show f_X5_allPurses_b4 (b + 1) z a (nI nw) M = _
    unfold f_X5_allPurses_b4
    rw [h.1.1, o.1.2.2.1, if_pos (nI_le (by omega) (by omega))]
theorem mw_purses (o : Ok (N 60) nw np) : f_X7_purses N = some (sumS (N 60) nw 10 6) := by
  have h8 := o.1.1
  refine (lp_itr _ (f_X7_purses_b4) (fun z i (a : Int32) => z a i N) (fun i a => a + N 60 (10 + 6 * i)) (fun a => some a) nw (fun _ _ => True) ?_ ?_ nw FU 0 0 (by omega) (show nw < 5000 by omega) trivial).1
  · intro z i a hi _
    refine ⟨?_, trivial⟩
    show f_X7_purses_b4 z a (nI i) N = z _ (nI (i + 1)) N
    unfold f_X7_purses_b4
    rw [ck_pos vl_0, ix_0, o.1.2.2.1, if_neg (nI_ge hi (by omega)), show f_X7_its (nI i) 5 N = _ from m_its (show i < 6 by omega) (k := 5) (by decide) N, bs, show 5 + 6 * i + 5 = 10 + 6 * i by omega, nI_1]
    rfl
  · intro z a _
    show f_X7_purses_b4 z a (nI nw) N = _
    unfold f_X7_purses_b4
    rw [ck_pos vl_0, ix_0, o.1.2.2.1, if_pos (nI_le (by omega) (by omega))]
theorem mw_money (o : Ok (N 60) nw np) : f_X7_money N = some (sumS (N 60) np 44 5 + sumS (N 60) nw 10 6) := by
  have h8 := o.1.2.1
  have h6 := o.1.1
  have h2 : ∀ a : Int32, f_X7_money_l31 FU a 0 N = some (a + sumS (N 60) nw 10 6) := by
    intro a
    unfold sumS
    rw [← itr_add]
    refine (lp_itr _ (f_X7_money_b31) (fun z i (a : Int32) => z a i N) (fun i a => a + N 60 (10 + 6 * i)) (fun a => some a) nw (fun _ _ => True) ?_ ?_ nw FU 0 a (by omega) (show nw < 5000 by omega) trivial).1
    · intro z i a hi _
      refine ⟨?_, trivial⟩
      show f_X7_money_b31 z a (nI i) N = z _ (nI (i + 1)) N
      unfold f_X7_money_b31
      rw [ck_pos vl_0, ix_0, o.1.2.2.1, if_neg (nI_ge hi (by omega)), show f_X7_its (nI i) 5 N = _ from m_its (show i < 6 by omega) (k := 5) (by decide) N, bs, show 5 + 6 * i + 5 = 10 + 6 * i by omega, nI_1]
      rfl
    · intro z a _
      show f_X7_money_b31 z a (nI nw) N = _
      unfold f_X7_money_b31
      rw [ck_pos vl_0, ix_0, o.1.2.2.1, if_pos (nI_le (by omega) (by omega))]
  refine (lp_itr _ (f_X7_money_b4) (fun z i (a : Int32) => z a i N) (fun i a => a + N 60 (44 + 5 * i)) (fun a => some (a + sumS (N 60) nw 10 6)) np (fun _ _ => True) ?_ ?_ np FU 0 0 (by omega) (show np < 5000 by omega) trivial).1
  · intro z i a hi _
    refine ⟨?_, trivial⟩
    show f_X7_money_b4 z a (nI i) N = z _ (nI (i + 1)) N
    unfold f_X7_money_b4
    rw [ck_pos vl_1, ix_1, o.1.2.2.2.1, if_neg (nI_ge hi (by omega)), show f_X7_told (nI i) 3 N = _ from m_told (show i < 8 by omega) (k := 3) (by decide) N, bs, show 41 + 5 * i + 3 = 44 + 5 * i by omega, nI_1]
    rfl
  · intro z a _
    show f_X7_money_b4 z a (nI np) N = _
    unfold f_X7_money_b4
    rw [ck_pos vl_1, ix_1, o.1.2.2.2.1, if_pos (nI_le (by omega) (by omega)), h2]
theorem st_now (h : Rel M N) (x1 : Int32) : Sim (f_X6_now x1 M) (f_X7_now x1 N) := by
  obtain ⟨w, nw, np, o⟩ := h.1
  unfold f_X6_now f_X7_now
  rw [ck_pos vl_3, ck_pos vl_4, ix_3, ix_4, show f_X0_howManyTies 9 M = _ from xw_ties w o, mw_ties o, show f_X0_anyOf 9 10 M = _ from xw_any w o kk_9 0 (by decide), show f_X0_anyOf 9 11 M = _ from xw_any w o kk_9 1 (by decide), show f_X7_anybody 0 N = _ from mw_any o 0 (by decide), show f_X7_anybody 1 N = _ from mw_any o 1 (by decide), show f_X0_allPence 9 M = _ from xw_pence w o, show f_X5_allPurses 2 M = _ from xw_purses w o, mw_money o, show M 1 3 = _ from w.1.2.2.2.1, show M 1 4 = _ from w.1.2.2.2.2]
  simp only [bs]
  by_cases h0 : x1 = 0
  · rw [if_pos h0, if_pos h0]; exact s_ok h _
  rw [if_neg h0, if_neg h0]
  by_cases h0 : x1 = 1
  · rw [if_pos h0, if_pos h0]; exact s_ok h _
  rw [if_neg h0, if_neg h0]
  by_cases h0 : x1 = 2
  · rw [if_pos h0, if_pos h0]; exact s_ok h _
  rw [if_neg h0, if_neg h0]
  by_cases h0 : x1 = 3
  · rw [if_pos h0, if_pos h0]; exact s_ok h _
  rw [if_neg h0, if_neg h0]
  by_cases h0 : x1 = 4
  · rw [if_pos h0, if_pos h0]; exact s_ok h _
  rw [if_neg h0, if_neg h0]
  by_cases h0 : x1 = 5
  · rw [if_pos h0, if_pos h0]; exact s_ok h _
  rw [if_neg h0, if_neg h0]
  exact s_B h
theorem xw_bel (h : RW b M S) (o : Ok S nw np) {m : Nat} (hm : m < 12) : f_X0_believers (b + 8) (nI m) M = some (belS S np m) := by
  have h8 := o.1.2.1
  refine (lp_itr _ (f_X0_believers_b4 (b + 8)) (fun z i (a : Int32) => z (nI m) a i M) (fun i a => if bit (S (41 + 5 * i + 1)) m = true then a ||| ((1 : Int32) <<< (nI i &&& 31)) else a) (fun a => some a) np (fun _ _ => True) ?_ ?_ np FU 0 0 (by omega) (show np < 5000 by omega) trivial).1
  · intro z i a hi _
    refine ⟨?_, trivial⟩
    show f_X0_believers_b4 (b + 8) z (nI m) a (nI i) M = z _ _ (nI (i + 1)) M
    unfold f_X0_believers_b4
    rw [h.1.2.1, o.1.2.2.2.1, if_neg (nI_ge hi (by omega)), ck_pos (vp_in_nI (show i < 8 by omega) (by decide)), ix_nI (by omega), (h.2.2.1 i (by omega)).2.1, bit_if (o.2.2.1 i (by omega)).2.1 hm, nI_1]
    split <;> rfl
  · intro z a _
    show f_X0_believers_b4 (b + 8) z (nI m) a (nI np) M = _
    unfold f_X0_believers_b4
    rw [h.1.2.1, o.1.2.2.2.1, if_pos (nI_le (by omega) (by omega))]
theorem mw_bel (o : Ok (N 60) nw np) {m : Nat} (hm : m < 12) : f_X7_whoBelieves (nI m) N = some (belS (N 60) np m) := by
  have h8 := o.1.2.1
  refine (lp_itr _ (f_X7_whoBelieves_b4) (fun z i (a : Int32) => z (nI m) a i N) (fun i a => if bit (N 60 (41 + 5 * i + 1)) m = true then a ||| ((1 : Int32) <<< (nI i &&& 31)) else a) (fun a => some a) np (fun _ _ => True) ?_ ?_ np FU 0 0 (by omega) (show np < 5000 by omega) trivial).1
  · intro z i a hi _
    refine ⟨?_, trivial⟩
    show f_X7_whoBelieves_b4 z (nI m) a (nI i) N = z _ _ (nI (i + 1)) N
    unfold f_X7_whoBelieves_b4
    rw [ck_pos vl_1, ix_1, o.1.2.2.2.1, if_neg (nI_ge hi (by omega)), show f_X7_told (nI i) 1 N = _ from m_told (show i < 8 by omega) (k := 1) (by decide) N, bs, m_has, bs, ib, nI_1, Int32.or_zero]
    split <;> rfl
  · intro z a _
    show f_X7_whoBelieves_b4 z (nI m) a (nI np) N = _
    unfold f_X7_whoBelieves_b4
    rw [ck_pos vl_1, ix_1, o.1.2.2.2.1, if_pos (nI_le (by omega) (by omega))]
theorem st_who (h : Rel M N) (x1 : Int32) : Sim (f_X6_who x1 M) (f_X7_who x1 N) := by
  obtain ⟨w, nw, np, o⟩ := h.1
  unfold f_X6_who f_X7_who
  rw [x_isMark, m_isMark, bs, bs, ib, ib]
  cases h1 : inR x1 12
  · exact s_B h
  obtain ⟨m, hm, rfl⟩ := lt12 h1
  rw [if_pos rfl, if_pos rfl, show f_X0_believers 9 (nI m) M = _ from xw_bel w o hm, mw_bel o hm]
  exact s_ok h _
def lieS (S : Nat → Int32) (np : Nat) : Int32 := itr (fun i a => a + nI (pcn (ix (S (41 + 5 * i + 1) &&& (orS S np 0 ^^^ -1))))) np 0 0
theorem xw_lies (h : RW b M S) (o : Ok S nw np) (hb : IsK (b + 8) 0) : f_X0_howManyLies (b + 8) M = some (lieS S np) := by
  have h8 := o.1.2.1
  unfold f_X0_howManyLies
  rw [show f_X0_anyOf (b + 8) (b + 8 + 1) M = _ from xw_any h o hb 0 (by decide), bs]
  refine (lp_itr _ (f_X0_howManyLies_b13 (b + 8)) (fun z i (a : Int32) => z (orS S np 0) a i M) (fun i a => a + nI (pcn (ix (S (41 + 5 * i + 1) &&& (orS S np 0 ^^^ -1))))) (fun a => some a) np (fun _ _ => True) ?_ ?_ np FU 0 0 (by omega) (show np < 5000 by omega) trivial).1
  · intro z i a hi _
    refine ⟨?_, trivial⟩
    show f_X0_howManyLies_b13 (b + 8) z (orS S np 0) a (nI i) M = z _ _ (nI (i + 1)) M
    unfold f_X0_howManyLies_b13
    obtain ⟨t, ht, e⟩ := and_ltL (o.2.2.1 i (by omega)).2.1 (orS S np 0 ^^^ -1)
    rw [h.1.2.1, o.1.2.2.2.1, if_neg (nI_ge hi (by omega)), ck_pos (vp_in_nI (show i < 8 by omega) (by decide)), ix_nI (by omega), (h.2.2.1 i (by omega)).2.1, e, x_bc ht, ix_nI (by omega), nI_1]
    rfl
  · intro z a _
    show f_X0_howManyLies_b13 (b + 8) z _ a (nI np) M = _
    unfold f_X0_howManyLies_b13
    rw [h.1.2.1, o.1.2.2.2.1, if_pos (nI_le (by omega) (by omega))]
theorem mw_lies (o : Ok (N 60) nw np) : f_X7_counted 0 N = some (lieS (N 60) np) := by
  have h8 := o.1.2.1
  refine (lp_itr _ (f_X7_counted_b4) (fun z i (a : Int32) => z 0 a i N) (fun i a => a + nI (pcn (ix (N 60 (41 + 5 * i + 1) &&& (orS (N 60) np 0 ^^^ -1))))) (fun a => some a) np (fun _ _ => True) ?_ ?_ np FU 0 0 (by omega) (show np < 5000 by omega) trivial).1
  · intro z i a hi _
    refine ⟨?_, trivial⟩
    show f_X7_counted_b4 z 0 a (nI i) N = z _ _ (nI (i + 1)) N
    unfold f_X7_counted_b4 f_X7_lies
    obtain ⟨t, ht, e⟩ := and_ltL (o.2.2.1 i (by omega)).2.1 (orS (N 60) np 0 ^^^ -1)
    rw [ck_pos vl_1, ix_1, o.1.2.2.2.1, if_neg (nI_ge hi (by omega)), if_pos rfl, show f_X7_told (nI i) 1 N = _ from m_told (show i < 8 by omega) (k := 1) (by decide) N, bs, show f_X7_anybody 0 N = _ from mw_any o 0 (by decide), bs, bs, e, m_ones ht, ix_nI (by omega), nI_1]
    rfl
  · intro z a _
    show f_X7_counted_b4 z 0 a (nI np) N = _
    unfold f_X7_counted_b4
    rw [ck_pos vl_1, ix_1, o.1.2.2.2.1, if_pos (nI_le (by omega) (by omega))]
theorem mw_lettered (o : Ok (N 60) nw np) : f_X7_counted 1 N = some (sumS (N 60) np 45 5) := by
  have h8 := o.1.2.1
  refine (lp_itr _ (f_X7_counted_b4) (fun z i (a : Int32) => z 1 a i N) (fun i a => a + N 60 (45 + 5 * i)) (fun a => some a) np (fun _ _ => True) ?_ ?_ np FU 0 0 (by omega) (show np < 5000 by omega) trivial).1
  · intro z i a hi _
    refine ⟨?_, trivial⟩
    show f_X7_counted_b4 z 1 a (nI i) N = z _ _ (nI (i + 1)) N
    unfold f_X7_counted_b4
    rw [ck_pos vl_1, ix_1, o.1.2.2.2.1, if_neg (nI_ge hi (by omega)), if_neg (by decide), show f_X7_told (nI i) 4 N = _ from m_told (show i < 8 by omega) (k := 4) (by decide) N, bs, show 41 + 5 * i + 4 = 45 + 5 * i by omega, nI_1]
    rfl
  · intro z a _
    show f_X7_counted_b4 z 1 a (nI np) N = _
    unfold f_X7_counted_b4
    rw [ck_pos vl_1, ix_1, o.1.2.2.2.1, if_pos (nI_le (by omega) (by omega))]
def spS (S : Nat → Int32) : Int32 := itr (fun i a => if S (89 + i) < 0 then a else a + 1) 10 0 0
theorem xw_spots (h : RW b M S) : f_X4_howManySpots b M = some (spS S) := by
  refine (lp_itr _ (f_X4_howManySpots_b4 b) (fun z i (a : Int32) => z a i M) (fun i a => if S (89 + i) < 0 then a else a + 1) (fun a => some a) 10 (fun _ _ => True) ?_ ?_ 10 FU 0 0 (by omega) (show 10 < 5000 by omega) trivial).1
  · intro z i a hi _
    refine ⟨?_, trivial⟩
    show f_X4_howManySpots_b4 b z a (nI i) M = z _ (nI (i + 1)) M
    unfold f_X4_howManySpots_b4
    rw [if_neg (show ¬ (10 : Int32) ≤ nI i from nI_ge (b := 10) hi (by decide)), ck_pos (vp_in_nI hi (by decide)), ix_nI (by omega), h.2.2.2 i hi, nI_1]
    split <;> rfl
  · intro z a _
    show f_X4_howManySpots_b4 b z a (nI 10) M = _
    unfold f_X4_howManySpots_b4
    rw [if_pos (by decide)]
theorem mw_spots (N : Mem) : f_X7_held N = some (spS (N 60)) := by
  refine (lp_itr _ (f_X7_held_b4) (fun z i (a : Int32) => z a i N) (fun i a => if N 60 (89 + i) < 0 then a else a + 1) (fun a => some a) 10 (fun _ _ => True) ?_ ?_ 10 FU 0 0 (by omega) (show 10 < 5000 by omega) trivial).1
  · intro z i a hi _
    refine ⟨?_, trivial⟩
    show f_X7_held_b4 z a (nI i) N = z _ (nI (i + 1)) N
    unfold f_X7_held_b4
    rw [if_neg (show ¬ (10 : Int32) ≤ nI i from nI_ge (b := 10) hi (by decide)), show (89 : Int32) + nI i = nI (89 + i) from nI_add 89 i, ck_pos (vp_in_nI (by omega) (by decide)), ix_nI (by omega), nI_1, Int32.add_zero]
    by_cases hz : N 60 (89 + i) < 0
    · rw [if_neg (by rw [le_t]; rw [lt_t] at hz; omega), if_pos hz]; rfl
    · rw [if_pos (by rw [le_t]; rw [lt_t] at hz; omega), if_neg hz]; rfl
  · intro z a _
    show f_X7_held_b4 z a (nI 10) N = _
    unfold f_X7_held_b4
    rw [if_pos (by decide)]
theorem st_count (h : Rel M N) (x1 : Int32) : Sim (f_X6_count x1 M) (f_X7_count x1 N) := by
  obtain ⟨w, nw, np, o⟩ := h.1
  obtain ⟨t, -, t1, t2, -⟩ := h.2.2.2.1
  unfold f_X6_count f_X7_count
  rw [ck_pos vl_0, ck_pos vl_1, ck_pos vl_2, ix_0, ix_1, ix_2, show f_X0_howManyLettered 9 M = _ from xw_lettered w o, mw_lettered o, show f_X5_allPurses 2 M = _ from xw_purses w o, mw_purses o, show f_X0_howManyLies 9 M = _ from xw_lies w o kk_9, mw_lies o, xw_spots w, mw_spots, show M 2 0 = _ from w.1.1, show M 9 0 = _ from w.1.2.1, show M 1 5 = _ from w.1.2.2.1, t1, t2]
  simp only [bs]
  by_cases h0 : x1 = 0
  · rw [if_pos h0, if_pos h0]; exact s_ok h _
  rw [if_neg h0, if_neg h0]
  by_cases h0 : x1 = 1
  · rw [if_pos h0, if_pos h0]; exact s_ok h _
  rw [if_neg h0, if_neg h0]
  by_cases h0 : x1 = 2
  · rw [if_pos h0, if_pos h0]; exact s_ok h _
  rw [if_neg h0, if_neg h0]
  by_cases h0 : x1 = 3
  · rw [if_pos h0, if_pos h0]; exact s_ok h _
  rw [if_neg h0, if_neg h0]
  by_cases h0 : x1 = 4
  · rw [if_pos h0, if_pos h0]; exact s_ok h _
  rw [if_neg h0, if_neg h0]
  by_cases h0 : x1 = 5
  · rw [if_pos h0, if_pos h0]; exact s_ok h _
  rw [if_neg h0, if_neg h0]
  by_cases h0 : x1 = 6
  · rw [if_pos h0, if_pos h0]; exact s_ok h _
  rw [if_neg h0, if_neg h0]
  by_cases h0 : x1 = 7
  · rw [if_pos h0, if_pos h0]; exact s_ok h _
  rw [if_neg h0, if_neg h0]
  exact s_B h
theorem st_seed (h : Rel M N) (x1 : Int32) : Sim (f_X6_seed x1 M) (f_X7_seed x1 N) := by
  obtain ⟨w, nw, np, o⟩ := h.1
  unfold f_X6_seed f_X7_seed
  simp only [ck_pos vl_2, ix_2, letv, show M 1 5 = _ from w.1.2.2.1]
  exact ⟨_, _, _, rfl, rfl, h.setL (by decide) (w.set1 (i := 1) (c := 5) (q := 2) (by unfold sgl; omega) x1) ⟨nw, np, o.setN (Or.inl rfl) x1⟩⟩
theorem m_89 {q : Nat} : (89 : Int32) + nI q = nI (89 + q) := nI_add 89 q
theorem st_hold (h : Rel M N) (x1 x2 : Int32) : Sim (f_X6_hold x1 x2 M) (f_X7_hold x1 x2 N) := by
  obtain ⟨w, nw, np, o⟩ := h.1
  have h6 := o.1.1
  unfold f_X6_hold f_X7_hold
  rw [x_isSpot, show f_X7_in x1.toInt64 0 9 N = some (inR x1 10) from m_inN x1 9 (by decide) N, x_has5, hW w o, m_isWriter x2 o.1.1 o.1.2.2.1]
  simp only [bs, ib]
  cases h1 : inR x1 10
  · exact s_B h
  obtain ⟨q, hq, rfl⟩ := inR_t (n := 10) (by decide) h1
  simp only [if_true, ck_pos (vp_in_nI (N := 10) hq (by decide)), ix_nI (show q < 2 ^ 31 by omega), m_89, ck_pos (vp_in_nI (N := 99) (show 89 + q < 99 by omega) (by decide)), ix_nI (show 89 + q < 2 ^ 31 by omega), letv]
  by_cases h2 : x2 = -1
  · rw [if_pos h2, if_pos h2]
    exact ⟨_, _, _, rfl, rfl, h.setL (by decide) (w.setS hq x2) ⟨nw, np, o.setS hq (Or.inl h2)⟩⟩
  · rw [if_neg h2, if_neg h2]
    cases h3 : inR x2 (nI nw)
    · exact s_B h
    · exact ⟨_, _, _, rfl, rfl, h.setL (by decide) (w.setS hq x2) ⟨nw, np, o.setS hq (Or.inr (inR_t (by omega) h3))⟩⟩
theorem st_tear (h : Rel M N) : Sim (f_X6_tear M) (f_X7_tear N) := by
  obtain ⟨a, ⟨b1, b2, b3⟩, c, d, e⟩ := h
  have f : Fr (fun i k => i = 0 ∧ k = 3) M (up M 0 3 0) := Fr.rf.put rfl ⟨rfl, rfl⟩
  have g : Fr (fun i k => i = 59 ∧ k = 4) N (up N 59 4 0) := Fr.rf.put rfl ⟨rfl, rfl⟩
  have e60 : (up N 59 4 0) 60 = N 60 := up_ne (by decide)
  have hr : Rel (up M 0 3 0) (up N 59 4 0) := by
    refine ⟨⟨by rw [e60]; exact a.1.fr f (fun i k p q => by omega), by rw [e60]; exact a.2⟩, ⟨by rw [up_ap, up_ap, if_pos ⟨rfl, rfl⟩, if_pos ⟨rfl, rfl⟩], Or.inl (by rw [up_ap, if_pos ⟨rfl, rfl⟩]), fun z => ?_⟩, c.fr f g (fun k => by omega) (fun k => by omega), d.fr f g (by omega) (fun k => by omega) (by omega) (fun k => by omega), e.fr f g (fun i k p q => by omega) (fun i k p q => by omega)⟩
    rw [up_ap, if_pos ⟨rfl, rfl⟩] at z
    exact absurd z (by decide)
  unfold f_X6_tear f_X7_tear
  rw [b1]
  split
  · exact ⟨_, _, _, rfl, rfl, hr⟩
  · exact ⟨_, _, _, rfl, rfl, hr⟩
theorem st_wipe (h : Rel M N) : Sim (f_X6_wipe M) (f_X7_wipe N) := by
  obtain ⟨a, b, c, ⟨t, ht, t1, t2, t3⟩, e⟩ := h
  have f : Fr (fun i k => i = 49 ∧ k = 1) M (up M 49 1 0) := Fr.rf.put rfl ⟨rfl, rfl⟩
  have g : Fr (fun i k => i = 59 ∧ k = 13) N (up N 59 13 0) := Fr.rf.put rfl ⟨rfl, rfl⟩
  have e60 : (up N 59 13 0) 60 = N 60 := up_ne (by decide)
  unfold f_X6_wipe f_X7_wipe
  rw [t1, t2]
  refine ⟨_, _, _, rfl, rfl, ⟨by rw [e60]; exact a.1.fr f (fun i k p q => by omega), by rw [e60]; exact a.2⟩, b.fr f g (by omega) (fun i k p q => by omega) (by omega) (fun k => by omega), c.fr f g (fun k => by omega) (fun k => by omega), ⟨0, by decide, by rw [up_ap, if_pos ⟨rfl, rfl⟩]; rfl, by rw [up_ap, if_pos ⟨rfl, rfl⟩]; rfl, fun k hk => by omega⟩, e.fr f g (fun i k p q => by omega) (fun i k p q => by omega)⟩
end ST4
