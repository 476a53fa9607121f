section ST14
variable {b : Nat} {M N : Mem} {S : Nat → Int32} {nw np : Nat}
theorem add_sub' (a c : Int32) : a + (c - a) = c := by rw [Int32.add_comm, Int32.sub_add_cancel]
theorem cm_of (w : RW b M (N 60)) (o : Ok (N 60) nw np) : CW b M (upd (N 60) 99 (M b 6)) ∧ MW (N 59 5 - M b 6) N (upd (N 60) 99 (M b 6)) ∧ Ok (upd (N 60) 99 (M b 6)) nw np :=
  ⟨⟨w.cg (fun k hk => upd_ne (by omega)), by rw [upd_eq]⟩, ⟨fun k hk _ => by rw [upd_ne (by omega)], by rw [upd_eq, add_sub']⟩, o.set99 _⟩
/-- one letter -/
theorem lt_rel (w : RW b M (N 60)) (o : Ok (N 60) nw np) {f t : Nat} (hf : f < np) (ht : t < np) {x : Int32} (hx : Lt x 4096) : ∃ r M1 N1, f_X4_letter b (nI f) (nI t) x M = some (r, M1) ∧ f_X7_letter (nI f) (nI t) x N = some (r, N1) ∧ RW b M1 (N1 60) ∧ Ok (N1 60) nw np ∧ (r = -1 ∨ Lt r 4096) := by
  obtain ⟨c, m, o1⟩ := cm_of w o
  obtain ⟨M1, e1, c1⟩ := cw_letter c o1 hf ht x
  obtain ⟨N1, e2, m1, y1⟩ := mo_letter m o1 hf ht hx
  have ek : ∀ k, k < 99 → N1 60 k = leS (upd (N 60) 99 (M b 6)) f t x k := fun k hk => by
    by_cases h3 : k = 3
    · rw [h3, y1, le_3 o1 hf ht, upd_ne (by omega)]
    · exact m1.1 k hk h3
  refine ⟨_, M1, N1, e1, e2, c1.1.cg ek, (o1.le hf ht hx).cg ek, ?_⟩
  unfold lrS
  split
  · exact Or.inr (th_lt o1 ht (th_lt o1 hf hx))
  · exact Or.inl rfl
/-- so many years -/
theorem yr_rel (w : RW b M (N 60)) (o : Ok (N 60) nw np) {y n : Nat} (hy : N 60 3 = nI y) (hn : y + n < 2000) : ∃ M1 N1, f_X4_passYears b (nI n) M = some M1 ∧ f_X7_yearsGo (nI n) N = some (M1 b 4 - M b 4, N1) ∧ RW b M1 (N1 60) ∧ Ok (N1 60) nw np ∧ N1 60 3 = nI (y + n) := by
  obtain ⟨c, m, o1⟩ := cm_of w o
  obtain ⟨M1, e1, c1⟩ := cw_years c o1 (n := n) (by omega)
  obtain ⟨N1, e2, m1, y1⟩ := mo_years m o1 (n := n) (by omega)
  have y0 : upd (N 60) 99 (M b 6) 3 = nI y := by rw [upd_ne (by omega)]; exact hy
  have ek : ∀ k, k < 99 → N1 60 k = upd (ynS np n (upd (N 60) 99 (M b 6))) 3 (upd (N 60) 99 (M b 6) 3 + nI n) k := fun k hk => by
    by_cases h3 : k = 3
    · rw [h3, y1, upd_eq, hy, y0]
    · rw [upd_ne h3]; exact m1.1 k hk h3
  refine ⟨M1, N1, e1, ?_, c1.1.cg ek, ((o1.yn n).setY (by rw [y0, nI_add]; exact ⟨y + n, hn, rfl⟩)).cg ek, by rw [y1, hy, nI_add]⟩
  rw [e2, c1.1.1.2.2.2.2, upd_ne (show (4 : Nat) ≠ 99 by omega), w.1.2.2.2.2, upd_ne (show (4 : Nat) ≠ 3 by omega)]
/-- one year -/
theorem y1_rel (w : RW b M (N 60)) (o : Ok (N 60) nw np) {y : Nat} (hy : N 60 3 = nI y) (hn : y + 1 < 2000) : ∃ M1 N1, f_X4_passYears b 1 M = some M1 ∧ f_X7_year N = some N1 ∧ RW b M1 (N1 60) ∧ Ok (N1 60) nw np ∧ N1 60 3 = nI (y + 1) ∧ M1 b 6 - M b 6 = N1 59 5 - N 59 5 := by
  obtain ⟨c, m, o1⟩ := cm_of w o
  obtain ⟨M1, e1, c1⟩ := cw_years c o1 (n := 1) (by omega)
  obtain ⟨N1, e2, m1, y1⟩ := mo_year m o1
  have y0 : upd (N 60) 99 (M b 6) 3 = nI y := by rw [upd_ne (by omega)]; exact hy
  have ek : ∀ k, k < 99 → N1 60 k = upd (ynS np 1 (upd (N 60) 99 (M b 6))) 3 (upd (N 60) 99 (M b 6) 3 + nI 1) k := fun k hk => by
    by_cases h3 : k = 3
    · rw [h3, y1, upd_eq, hy, y0]; rfl
    · rw [upd_ne h3]; exact m1.1 k hk h3
  refine ⟨M1, N1, e1, e2, c1.1.cg ek, ((o1.yn 1).setY (by rw [y0, nI_add]; exact ⟨y + 1, hn, rfl⟩)).cg ek, by rw [y1, hy, nI_1], ?_⟩
  rw [c1.2, m1.2, upd_ne (by omega)]
  show yrS np (upd (N 60) 99 (M b 6)) 99 - M b 6 = yrS np (upd (N 60) 99 (M b 6)) 99 + (N 59 5 - M b 6) - N 59 5
  generalize yrS np (upd (N 60) 99 (M b 6)) 99 = z
  rw [Int32.sub_eq_add_neg, Int32.sub_eq_add_neg (N 59 5), Int32.sub_eq_add_neg, ← Int32.add_assoc, Int32.add_assoc z, Int32.add_comm (N 59 5), ← Int32.add_assoc z, Int32.add_assoc (z + -M b 6), Int32.add_right_neg, Int32.add_zero]
theorem ifLH {α : Type} (x lo hi : Int32) (A B : α) : (if x < lo then B else if x ≤ hi then A else B) = if decide (lo ≤ x ∧ x ≤ hi) = true then A else B := by
  by_cases h1 : x < lo
  · rw [if_pos h1, decide_eq_false (by rw [le_t]; rw [lt_t] at h1; omega), if_neg (by decide)]
  · rw [if_neg h1]
    by_cases h2 : x ≤ hi
    · rw [if_pos h2, decide_eq_true (by rw [le_t]; rw [lt_t] at h1; exact ⟨by omega, h2⟩), if_pos rfl]
    · rw [if_neg h2, decide_eq_false (fun z => h2 z.2), if_neg (by decide)]
theorem lohi {x : Int32} {lo hi : Nat} (hl : lo < 2 ^ 31) (hh : hi < 2 ^ 31) (h : decide (nI lo ≤ x ∧ x ≤ nI hi) = true) : ∃ n, lo ≤ n ∧ n ≤ hi ∧ x = nI n := by
  obtain ⟨h1, h2⟩ := of_decide_eq_true h
  obtain ⟨n, hn, rfl⟩ := nI_of (x := x) (by
    rw [lt_t]
    rw [le_t, nI_toInt hl] at h1
    have : (0 : Int32).toInt = 0 := by decide
    omega)
  exact ⟨n, (nI_leI hl hn).mp h1, (nI_leI hn hh).mp h2, rfl⟩
theorem x_hasY {b y n : Nat} (hy : M b 3 = nI y) (h : y + n < 2 ^ 31) : f_X4_hasYears b (nI n) M = some (decide (y + n ≤ 999)) := by
  unfold f_X4_hasYears
  rw [hy, nI_add]
  by_cases z : y + n ≤ 999
  · rw [if_neg (show ¬ (999 : Int32) < nI (y + n) from nI_nlt (a := 999) z (by decide)), decide_eq_true z]
  · rw [if_pos (show (999 : Int32) < nI (y + n) from nI_lt (a := 999) (by omega) h), decide_eq_false z]
theorem m_late {y n : Nat} (hy : N 60 3 = nI y) (h : y + n < 2 ^ 31) : f_X7_isTooLate (nI n) N = some (!decide (y + n ≤ 999)) := by
  unfold f_X7_isTooLate
  rw [ck_pos vl_3, ix_3, hy, nI_add]
  by_cases z : y + n ≤ 999
  · rw [if_pos (show nI (y + n) ≤ (999 : Int32) from nI_le (b := 999) z (by decide)), decide_eq_true z]; rfl
  · rw [if_neg (show ¬ nI (y + n) ≤ (999 : Int32) from nI_ge (a := 999) (by omega) h), decide_eq_false z]; rfl
theorem ibn {α : Type} (c : Bool) (A B : α) : (if b2i (!c) = 0 then A else B) = if c = true then A else B := by cases c <;> rfl
theorem Rel.lv (h : Rel M N) {M1 N1 : Mem} {T U : Nat → Nat → Prop} (f : Fr T M M1) (g : Fr U N N1) (hT : ∀ i k, T i k → TCl i k) (hU : ∀ i k, U i k → TMl i k) (w : RW 1 M1 (N1 60)) (o : Ok (N1 60) nw np) : Rel M1 N1 := h.live (f.mono hT) (g.mono hU) w ⟨nw, np, o⟩
theorem st_send (h : Rel M N) (x1 x2 x3 : Int32) : Sim (f_X6_send x1 x2 x3 M) (f_X7_send x1 x2 x3 N) := by
  obtain ⟨w, nw, np, o⟩ := h.1
  have h8 := o.1.2.1
  unfold f_X6_send f_X7_send
  rw [x_areTwo, hP w o, m_isTwo x1 x2 o.1.2.1 o.1.2.2.2.1, x_isSaying, m_isSaying]
  simp only [bs, ib]
  cases h1 : (inR x1 (nI np) && (inR x2 (nI np) && decide (¬ x1 = x2)))
  · exact s_B h
  obtain ⟨a1, a2, a3⟩ := b3 h1
  cases h2 : inR x3 4096
  · exact s_B h
  obtain ⟨p, hp, rfl⟩ := inR_t (by omega) a1
  obtain ⟨q, hq, rfl⟩ := inR_t (by omega) a2
  obtain ⟨r, M1, N1, e1, e2, w1, o1, hr⟩ := lt_rel w o hp hq (lt4096 h2)
  have f1 := fr_X4_letter e1
  have f2 := fr_X7_letter e2
  have hR : Rel M1 N1 := h.lv f1 f2 (fun i k z => by unfold TCl; omega) (fun i k z => by unfold TMl; omega) w1 o1
  rw [if_pos rfl, if_pos rfl, if_pos rfl, if_pos rfl, e1, e2, bs, bs]
  rcases hr with rfl | ⟨v, hv, rfl⟩
  · rw [if_neg (show ¬ (0 : Int32) ≤ -1 by decide), if_neg (show ¬ (0 : Int32) ≤ -1 by decide)]
    exact s_S hR
  · rw [if_pos (nI_pos' (by omega)), if_pos (nI_pos' (by omega))]
    exact ⟨_, M1, N1, rfl, rfl, hR⟩
theorem st_years (h : Rel M N) (x1 : Int32) : Sim (f_X6_years x1 M) (f_X7_years x1 N) := by
  obtain ⟨w, nw, np, o⟩ := h.1
  obtain ⟨y, hy, ey⟩ := o.1.2.2.2.2.1
  unfold f_X6_years f_X7_years
  rw [show f_X7_in x1.toInt64 1 30 N = _ from m_in x1 1 30 N, bs, ib, ifLH]
  cases h1 : decide ((1 : Int32) ≤ x1 ∧ x1 ≤ 30)
  · exact s_B h
  obtain ⟨n, n1, n2, rfl⟩ := lohi (lo := 1) (hi := 30) (by decide) (by decide) h1
  rw [if_pos rfl, if_pos rfl, x_hasY (b := 1) (w.1.2.2.2.1.trans ey) (by omega), m_late ey (by omega), bs, bs, ib, ibn]
  by_cases z : y + n ≤ 999
  case neg =>
    rw [decide_eq_false z]
    exact s_S h
  rw [decide_eq_true z, if_pos rfl, if_pos rfl]
  obtain ⟨M1, N1, e1, e2, w1, o1, y1⟩ := yr_rel w o ey (n := n) (by omega)
  have f1 := fr_X4_passYears e1
  have f2 := fr_X7_yearsGo e2
  have hR : Rel M1 N1 := h.lv f1 f2 (fun i k z => by unfold TCl; omega) (fun i k z => by unfold TMl; omega) w1 o1
  rw [e2]
  simp only [letv, e1, bs]
  exact ⟨_, M1, N1, rfl, rfl, hR⟩
-- what is tried
def DR : Nat → Nat → Prop := fun i _ => 17 ≤ i ∧ i < 17 + 16
def TRY : Nat → Nat → Prop := fun i k => i = 60 ∨ i = 62 ∨ (i = 59 ∧ k = 5)
theorem Rel.dr (h : Rel M N) {M1 N1 : Mem} (f : Fr DR M M1) (g : Fr TRY N N1) (e : ∀ k, k < 99 → N1 60 k = N 60 k) : Rel M1 N1 :=
  h.live (f.mono (fun i k z => by unfold DR at z; unfold TCl; omega)) (g.mono (fun i k z => by unfold TRY at z; unfold TMl; omega)) ((h.1.1.fr f (fun i k p q => by unfold DR; omega)).cg e) (h.1.2.imp fun _ => Exists.imp fun _ o => o.cg e)
theorem dr_start (w : RW 1 M (N 60)) : ∃ M1, f_X4_become 17 1 M = some M1 ∧ RW 17 M1 (N 60) ∧ M1 17 6 = 0 ∧ Fr DR M M1 := by
  obtain ⟨M1, e1, w1, z1⟩ := xw_become (c := 17) (b := 1) (by omega) w
  exact ⟨M1, e1, w1, z1, fr_X4_become e1⟩
def poS (S : Nat → Int32) (np : Nat) : Int32 := itr (fun i a => if coS S i ≤ S (41 + 5 * i + 3) then a else a ||| ((1 : Int32) <<< (nI i &&& 31))) np 0 0
theorem xw_poor (h : RW b M S) (o : Ok S nw np) : f_X4_poor b M = some (poS S np) := by
  have h8 := o.1.2.1
  refine (lp_itr _ (f_X4_poor_b4 b) (fun z i (a : Int32) => z a i M) (fun i a => if coS S i ≤ S (41 + 5 * i + 3) then a else a ||| ((1 : Int32) <<< (nI i &&& 31))) (fun a => some a) np (fun _ _ => True) ?_ ?_ np FU 0 0 (by omega) (show np < 5000 by omega) trivial).1
  · intro z i a hi _
    refine ⟨?_, trivial⟩
    show f_X4_poor_b4 b z a (nI i) M = z _ (nI (i + 1)) M
    unfold f_X4_poor_b4
    rw [h.1.2.1, o.1.2.2.2.1, if_neg (nI_ge hi (by omega)), ck_pos (vp_in_nI (show i < 8 by omega) (by decide)), xw_fee h o hi, bs, ix_nI (by omega), (h.2.2.1 i (by omega)).2.2.2.1, nI_1]
    split <;> rfl
  · intro z a _
    show f_X4_poor_b4 b z a (nI np) M = _
    unfold f_X4_poor_b4
    rw [h.1.2.1, o.1.2.2.2.1, if_pos (nI_le (by omega) (by omega))]
theorem m_cost (o : Ok (N 60) nw np) {p : Nat} (hp : p < np) : f_X7_costOf (nI p) N = some (coS (N 60) p) := by
  have m : MW (N 59 5 - N 60 99) N (N 60) := ⟨fun _ _ _ => rfl, by rw [add_sub']⟩
  exact mo_cost m o hp
theorem mw_poor (o : Ok (N 60) nw np) : f_X7_poor N = some (poS (N 60) np) := by
  have h8 := o.1.2.1
  refine (lp_itr _ (f_X7_poor_b4) (fun z i (a : Int32) => z a i N) (fun i a => if coS (N 60) i ≤ N 60 (41 + 5 * i + 3) then a else a ||| ((1 : Int32) <<< (nI i &&& 31))) (fun a => some a) np (fun _ _ => True) ?_ ?_ np FU 0 0 (by omega) (show np < 5000 by omega) trivial).1
  · intro z i a hi _
    refine ⟨?_, trivial⟩
    show f_X7_poor_b4 z a (nI i) N = z _ (nI (i + 1)) N
    unfold f_X7_poor_b4
    rw [ck_pos vl_1, ix_1, o.1.2.2.2.1, if_neg (nI_ge hi (by omega)), show f_X7_told (nI i) 3 N = _ from m_told (show i < 8 by omega) (k := 3) (by decide) N, bs, m_cost o hi, bs, nI_1, Int32.or_zero]
    split <;> rfl
  · intro z a _
    show f_X7_poor_b4 z a (nI np) N = _
    unfold f_X7_poor_b4
    rw [ck_pos vl_1, ix_1, o.1.2.2.2.1, if_pos (nI_le (by omega) (by omega))]
def alS (S : Nat → Int32) (np : Nat) : Int32 := if np = 0 then 0 else itr (fun i a => a &&& S (41 + 5 * i + 1)) np 0 4095
theorem xw_all (h : RW b M S) (o : Ok S nw np) : f_X0_believedByAll (b + 8) M = some (alS S np) := by
  have h8 := o.1.2.1
  unfold f_X0_believedByAll alS
  rw [h.1.2.1, o.1.2.2.2.1]
  by_cases z : np = 0
  · rw [if_pos (by rw [z]; rfl), if_pos z]
  rw [if_neg (nI_ne0 (by omega) (by omega)), if_neg z]
  refine (lp_itr _ (f_X0_believedByAll_b15 (b + 8)) (fun z i (a : Int32) => z a i M) (fun i a => a &&& S (41 + 5 * i + 1)) (fun a => some a) np (fun _ _ => True) ?_ ?_ np FU 0 4095 (by omega) (show np < 5000 by omega) trivial).1
  · intro z i a hi _
    refine ⟨?_, trivial⟩
    show f_X0_believedByAll_b15 (b + 8) z a (nI i) M = z _ (nI (i + 1)) M
    unfold f_X0_believedByAll_b15
    rw [h.1.2.1, o.1.2.2.2.1, if_neg (nI_ge hi (by omega)), ck_pos (vp_in_nI (show i < 8 by omega) (by decide)), ix_nI (by omega), (h.2.2.1 i (by omega)).2.1, nI_1]
    rfl
  · intro z a _
    show f_X0_believedByAll_b15 (b + 8) z a (nI np) M = _
    unfold f_X0_believedByAll_b15
    rw [h.1.2.1, o.1.2.2.2.1, if_pos (nI_le (by omega) (by omega))]
theorem mw_all (o : Ok (N 60) nw np) : f_X7_everybody N = some (alS (N 60) np) := by
  have h8 := o.1.2.1
  unfold f_X7_everybody alS
  rw [ck_pos vl_1, ix_1, o.1.2.2.2.1]
  have key : ∀ a : Int32, f_X7_everybody_l19 FU a 0 N = some (itr (fun i a => a &&& N 60 (41 + 5 * i + 1)) np 0 a) := fun a => by
    refine (lp_itr _ (f_X7_everybody_b19) (fun z i (a : Int32) => z a i N) (fun i a => a &&& N 60 (41 + 5 * i + 1)) (fun a => some a) np (fun _ _ => True) ?_ ?_ np FU 0 a (by omega) (show np < 5000 by omega) trivial).1
    · intro z i a hi _
      refine ⟨?_, trivial⟩
      show f_X7_everybody_b19 z a (nI i) N = z _ (nI (i + 1)) N
      unfold f_X7_everybody_b19
      rw [ck_pos vl_1, ix_1, o.1.2.2.2.1, if_neg (nI_ge hi (by omega)), show f_X7_told (nI i) 1 N = _ from m_told (show i < 8 by omega) (k := 1) (by decide) N, bs, nI_1]
      rfl
    · intro z a _
      show f_X7_everybody_b19 z a (nI np) N = _
      unfold f_X7_everybody_b19
      rw [ck_pos vl_1, ix_1, o.1.2.2.2.1, if_pos (nI_le (by omega) (by omega))]
  by_cases z : np = 0
  · rw [if_pos (by rw [z]; rfl), if_pos z, key, z]
    rfl
  · rw [if_neg (nI_ne0 (by omega) (by omega)), if_neg z, key]
/-- years that are tried and put back: what both hold then, and behind it -/
theorem dr_years (h : Rel M N) {M1 N1 : Mem} (w1 : RW 17 M1 (N1 60)) (o1 : Ok (N1 60) nw np) (f1 : Fr DR M M1) (g1 : Fr TRY N N1) (s1 : ∀ k, k < 99 → N1 62 k = N 60 k) {y n : Nat} (hy : N1 60 3 = nI y) (hn : y + n < 2000) : ∃ M2 N2, f_X4_passYears 17 (nI n) M1 = some M2 ∧ f_X7_yearsGo (nI n) N1 = some (M2 17 4 - M1 17 4, N2) ∧ RW 17 M2 (N2 60) ∧ Ok (N2 60) nw np ∧ Fr DR M M2 ∧ ∃ N3, f_X7_putsBack N2 = some N3 ∧ Rel M2 N3 ∧ (∀ k, k < 99 → N3 60 k = N 60 k) ∧ (∀ k, k < 99 → N3 62 k = N 60 k) ∧ Fr TRY N N3 := by
  obtain ⟨M2, N2, e1, e2, w2, o2, y2⟩ := yr_rel w1 o1 hy hn
  have f2 : Fr DR M M2 := f1.trans ((fr_X4_passYears e1).mono (fun i k z => by unfold DR; omega))
  have gy := fr_X7_yearsGo e2
  have g2 : Fr TRY N N2 := g1.trans (gy.mono (fun i k z => by unfold TRY; omega))
  obtain ⟨N3, e3, b3, g3⟩ := m_back N2
  have g4 : Fr TRY N N3 := g2.trans (g3.mono (fun i k z => by unfold TRY; omega))
  have s2 : ∀ k, k < 99 → N2 62 k = N 60 k := fun k hk => (gy 62 k (by omega)).trans (s1 k hk)
  have e60 : ∀ k, k < 99 → N3 60 k = N 60 k := fun k hk => (b3 k hk).trans (s2 k hk)
  exact ⟨M2, N2, e1, e2, w2, o2, f2, N3, e3, h.dr f2 g4 e60, e60, fun k hk => by rw [g3 _ _ (by omega)]; exact s2 k hk, g4⟩
end ST14
