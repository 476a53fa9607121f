section YRS
variable {b : Nat} {M N : Mem} {S : Nat → Int32} {nw np : Nat}
theorem lp_ex {β ρ σ : Type} (b0 : β) (F : β → β) (ap : β → Int32 → Mem → Option ρ) (st : Nat → σ → σ) (fin : Mem → Option ρ) (n : Nat) (I : Mem → σ → Prop)
    (hs : ∀ k i M S, i < n → I M S → ∃ M1, ap (F k) (nI i) M = ap k (nI (i + 1)) M1 ∧ I M1 (st i S))
    (he : ∀ k M S, I M S → ap (F k) (nI n) M = fin M) : ∀ (d m i : Nat) (M : Mem) (S : σ), i + d = n → d < m → I M S → ∃ M1, ap (lp b0 F m) (nI i) M = fin M1 ∧ I M1 (itr st d i S) := by
  intro d
  induction d with
  | zero =>
    intro m i M S hi hm hp
    obtain ⟨m, rfl⟩ : ∃ k, m = k + 1 := ⟨m - 1, by omega⟩
    have : i = n := by omega
    subst this
    exact ⟨M, he _ M S hp, hp⟩
  | succ d ih =>
    intro m i M S hi hm hp
    obtain ⟨m, rfl⟩ : ∃ k, m = k + 1 := ⟨m - 1, by omega⟩
    obtain ⟨M1, e1, h1⟩ := hs (lp b0 F m) i M S (by omega) hp
    obtain ⟨M2, e2, h2⟩ := ih m (i + 1) M1 (st i S) (by omega) (by omega) h1
    refine ⟨M2, ?_, h2⟩
    rw [lp_s, e1]
    exact e2
/-- two letters, there and back -/
def prS (S : Nat → Int32) (p q : Nat) : Nat → Int32 := leS (leS S p q (owS S p)) q p (owS (leS S p q (owS S p)) q)
def yiS (np p : Nat) (S : Nat → Int32) : Nat → Int32 := itr (fun q S => if bit (S (81 + p)) q = true then prS S p q else S) (np - (p + 1)) (p + 1) S
def yrS (np : Nat) (S : Nat → Int32) : Nat → Int32 := itr (fun p S => yiS np p S) np 0 S
theorem Ok.pr (o : Ok S nw np) {p q : Nat} (hp : p < np) (hq : q < np) : Ok (prS S p q) nw np := by
  have o1 := o.le hp hq (ow_lt o hp)
  exact o1.le hq hp (ow_lt o1 hq)
theorem Ok.yi (o : Ok S nw np) {p : Nat} (hp : p < np) : Ok (yiS np p S) nw np := itr_P (P := fun S => Ok S nw np) _ _ S (fun q S _ hq o => by
  show Ok (if bit (S (81 + p)) q = true then prS S p q else S) nw np
  split
  · exact o.pr hp (by omega)
  · exact o) o
theorem Ok.yr (o : Ok S nw np) : Ok (yrS np S) nw np := itr_P (P := fun S => Ok S nw np) _ _ S (fun p S _ hp o => o.yi (by omega)) o
-- a year without a letter changes nothing
def Dl (B : Nat) (S S' : Nat → Int32) : Prop := S' = S ∨ ∃ c, 0 < c ∧ c ≤ B ∧ S' 4 = S 4 + nI c
theorem Dl.tr {A B : Nat} {S S1 S2 : Nat → Int32} (h : Dl A S S1) (g : Dl B S1 S2) : Dl (A + B) S S2 := by
  rcases h with rfl | ⟨c, c1, c2, c3⟩
  · exact g.imp id (fun ⟨c, c1, c2, c3⟩ => ⟨c, c1, by omega, c3⟩)
  · rcases g with rfl | ⟨d, d1, d2, d3⟩
    · exact Or.inr ⟨c, c1, by omega, c3⟩
    · exact Or.inr ⟨c + d, by omega, by omega, by rw [d3, c3, Int32.add_assoc, nI_add]⟩
theorem le_dl (S : Nat → Int32) (f t : Nat) (x : Int32) : Dl 1 S (leS S f t x) := by
  unfold leS
  split
  · refine Or.inr ⟨1, by decide, by decide, ?_⟩
    rw [upd_ne (by decide), upd_eq]
    rfl
  · exact Or.inl rfl
theorem pr_dl (S : Nat → Int32) (p q : Nat) : Dl 2 S (prS S p q) := (le_dl _ _ _ _).tr (le_dl _ _ _ _)
theorem yi_dl (S : Nat → Int32) {np p : Nat} (h8 : np ≤ 8) : Dl 16 S (yiS np p S) := by
  have := itr_Pi (st := fun q S => if bit (S (81 + p)) q = true then prS S p q else S) (P := fun j S' => Dl (2 * (j - (p + 1))) S S') (np - (p + 1)) (p + 1) S (fun j S' hj _ hd => by
    show Dl _ S (if bit (S' (81 + p)) j = true then prS S' p j else S')
    have e : 2 * (j + 1 - (p + 1)) = 2 * (j - (p + 1)) + 2 := by omega
    rw [e]
    split
    · exact hd.tr (pr_dl _ _ _)
    · exact hd.tr (Or.inl rfl)) (Or.inl rfl)
  exact this.imp id (fun ⟨c, c1, c2, c3⟩ => ⟨c, c1, by omega, c3⟩)
theorem yr_dl (S : Nat → Int32) {np : Nat} (h8 : np ≤ 8) : Dl 128 S (yrS np S) := by
  have := itr_Pi (st := fun p S => yiS np p S) (P := fun j S' => Dl (16 * j) S S') np 0 S (fun j S' _ _ hd => by
    show Dl (16 * (j + 1)) S (yiS np j S')
    exact hd.tr (yi_dl S' h8)) (Or.inl rfl)
  exact this.imp id (fun ⟨c, c1, c2, c3⟩ => ⟨c, c1, by omega, c3⟩)
theorem yr_fix {np : Nat} (h8 : np ≤ 8) (h : yrS np S 4 = S 4) : yrS np S = S := by
  rcases yr_dl S h8 with z | ⟨c, c1, c2, c3⟩
  · exact z
  · rw [h] at c3
    have : nI c = 0 := by
      have e : S 4 + 0 = S 4 + nI c := by rw [Int32.add_zero]; exact c3
      exact ((Int32.add_right_inj _).mp e).symm
    exact absurd this (nI_ne0 c1 (by omega))
theorem le_3 (o : Ok S nw np) {f t : Nat} (hf : f < np) (ht : t < np) (x : Int32) : leS S f t x 3 = S 3 := by
  have f8 := o.1.2.1
  have ef := hd_b o hf
  have et : hdS (paS S f) t < 6 := by rw [pa_hd o hf (by omega)]; exact hd_b o ht
  unfold leS
  split
  · rw [upd_ne (by omega), upd_ne (by omega), upd_ne (by omega), pa_ne (by omega) (by omega), pa_ne (by omega) (by omega)]
  · rfl
theorem pr_3 (o : Ok S nw np) {p q : Nat} (hp : p < np) (hq : q < np) : prS S p q 3 = S 3 := by
  have o1 := o.le hp hq (ow_lt o hp)
  unfold prS
  rw [le_3 o1 hq hp, le_3 o hp hq]
theorem yi_3 (o : Ok S nw np) {p : Nat} (hp : p < np) : yiS np p S 3 = S 3 := (itr_P (P := fun S' => Ok S' nw np ∧ S' 3 = S 3) _ _ S (fun q S' _ hq ⟨o', e⟩ => by
  show Ok (if bit (S' (81 + p)) q = true then prS S' p q else S') nw np ∧ (if bit (S' (81 + p)) q = true then prS S' p q else S') 3 = S 3
  split
  · exact ⟨o'.pr hp (by omega), (pr_3 o' hp (by omega)).trans e⟩
  · exact ⟨o', e⟩) ⟨o, rfl⟩).2
theorem yr_3 (o : Ok S nw np) : yrS np S 3 = S 3 := (itr_P (P := fun S' => Ok S' nw np ∧ S' 3 = S 3) _ _ S (fun p S' _ hp ⟨o', e⟩ => ⟨o'.yi (by omega), (yi_3 o' (by omega)).trans e⟩) ⟨o, rfl⟩).2
-- the class: one year
theorem cw_one (h : CW b M S) (o : Ok S nw np) : ∃ M1, f_X4_passOne b M = some M1 ∧ CW b M1 (yrS np S) := by
  have h8 := o.1.2.1
  obtain ⟨M1, e1, i1⟩ := lp_ex (fun _ _ => none) (f_X4_passOne_b2 b) (fun z i (M : Mem) => z i M) (fun p S => yiS np p S) (fun M => some M) np (fun M S => CW b M S ∧ Ok S nw np) (by
    intro k p M S hp ⟨hc, ho⟩
    obtain ⟨M1, e1, i1⟩ := lp_ex (fun _ _ _ => none) (f_X4_passOne_b17 b k) (fun z i (M : Mem) => z (nI p) i M) (fun q S => if bit (S (81 + p)) q = true then prS S p q else S) (fun M => k (nI (p + 1)) M) np (fun M S => CW b M S ∧ Ok S nw np) (by
      intro z q M S hq ⟨hc, ho⟩
      show ∃ M1, f_X4_passOne_b17 b k z (nI p) (nI q) M = z (nI p) (nI (q + 1)) M1 ∧ CW b M1 (if bit (S (81 + p)) q = true then prS S p q else S) ∧ Ok (if bit (S (81 + p)) q = true then prS S p q else S) nw np
      unfold f_X4_passOne_b17
      rw [hc.1.1.2.1, ho.1.2.2.2.1, if_neg (nI_ge hq (by omega)), xw_tied hc.1 ho (show p < 8 by omega) (show q < 8 by omega), bs, ib, nI_1]
      by_cases hb : bit (S (81 + p)) q = true
      · rw [if_pos hb, if_pos hb, xw_own hc.1 (show p < 8 by omega), bs]
        obtain ⟨M1, e1, c1⟩ := cw_letter hc ho hp hq (owS S p)
        have o1 := ho.le hp hq (ow_lt ho hp)
        obtain ⟨M2, e2, c2⟩ := cw_letter c1 o1 hq hp (owS (leS S p q (owS S p)) q)
        rw [e1, bs, xw_own c1.1 (show q < 8 by omega), bs, e2, bs]
        exact ⟨M2, rfl, c2, o1.le hq hp (ow_lt o1 hq)⟩
      · rw [if_neg hb, if_neg hb]
        exact ⟨M, rfl, hc, ho⟩) (by
      intro z M S ⟨hc, ho⟩
      show f_X4_passOne_b17 b k z (nI p) (nI np) M = _
      unfold f_X4_passOne_b17
      rw [hc.1.1.2.1, ho.1.2.2.2.1, if_pos (nI_le (by omega) (by omega)), nI_1]) (np - (p + 1)) FU (p + 1) M S (by omega) (show np - (p + 1) < 5000 by omega) ⟨hc, ho⟩
    refine ⟨M1, ?_, i1⟩
    show f_X4_passOne_b2 b k (nI p) M = k (nI (p + 1)) M1
    unfold f_X4_passOne_b2
    rw [hc.1.1.2.1, ho.1.2.2.2.1, if_neg (nI_ge hp (by omega)), nI_1]
    exact e1) (by
    intro k M S ⟨hc, ho⟩
    show f_X4_passOne_b2 b k (nI np) M = _
    unfold f_X4_passOne_b2
    rw [hc.1.1.2.1, ho.1.2.2.2.1, if_pos (nI_le (by omega) (by omega))]) np FU 0 M S (by omega) (show np < 5000 by omega) ⟨h, o⟩
  exact ⟨M1, e1, i1.1⟩
-- the reference: one year
theorem mo_own {δ : Int32} (h : MW δ N S) {p : Nat} (h8 : p < 8) : f_X7_ownOf (nI p) N = some (owS S p) := by
  unfold f_X7_ownOf owS
  rw [show f_X7_told (nI p) 0 N = some (S (41 + 5 * p)) from mo_told h h8 (k := 0) (by decide), show f_X7_told (nI p) 1 N = _ from mo_told h h8 (k := 1) (by decide)]
  rfl
theorem mo_year {δ : Int32} (h : MW δ N S) (o : Ok S nw np) : ∃ N1, f_X7_year N = some N1 ∧ MW δ N1 (yrS np S) ∧ N1 60 3 = N 60 3 + 1 := by
  have h8 := o.1.2.1
  obtain ⟨N1, e1, i1, i2, i3⟩ := lp_ex (fun _ _ => none) (f_X7_year_b2) (fun z i (M : Mem) => z i M) (fun p S => yiS np p S) (fun M => some (up M 60 3 (M 60 3 + 1))) np (fun M S => MW δ M S ∧ Ok S nw np ∧ M 60 3 = N 60 3) (by
    intro k p M S hp ⟨hc, ho, hy⟩
    obtain ⟨M1, e1, i1⟩ := lp_ex (fun _ _ _ => none) (f_X7_year_b16 k) (fun z i (M : Mem) => z (nI p) i M) (fun q S => if bit (S (81 + p)) q = true then prS S p q else S) (fun M => k (nI (p + 1)) M) np (fun M S => MW δ M S ∧ Ok S nw np ∧ M 60 3 = N 60 3) (by
      intro z q M S hq ⟨hc, ho, hy⟩
      show ∃ M1, f_X7_year_b16 k z (nI p) (nI q) M = z (nI p) (nI (q + 1)) M1 ∧ MW δ M1 (if bit (S (81 + p)) q = true then prS S p q else S) ∧ Ok (if bit (S (81 + p)) q = true then prS S p q else S) nw np ∧ M1 60 3 = N 60 3
      unfold f_X7_year_b16
      rw [ck_pos vl_1, ix_1, hc.1 1 (by omega) (by omega), ho.1.2.2.2.1, if_neg (nI_ge hq (by omega)), m_81 (show p < 8 by omega), ck_pos (vp_in_nI (show 81 + p < 99 by omega) (by decide)), ix_nI (by omega), hc.1 (81 + p) (by omega) (by omega), m_has, bs, ib, nI_1]
      by_cases hb : bit (S (81 + p)) q = true
      · rw [if_pos hb, if_pos hb, mo_own hc (show p < 8 by omega), bs]
        obtain ⟨M1, e1, c1, y1⟩ := mo_letter hc ho hp hq (ow_lt ho hp)
        have o1 := ho.le hp hq (ow_lt ho hp)
        obtain ⟨M2, e2, c2, y2⟩ := mo_letter c1 o1 hq hp (ow_lt o1 hq)
        rw [e1, bs, mo_own c1 (show q < 8 by omega), bs, e2, bs]
        exact ⟨M2, rfl, c2, o1.le hq hp (ow_lt o1 hq), by rw [y2, y1]; exact hy⟩
      · rw [if_neg hb, if_neg hb]
        exact ⟨M, rfl, hc, ho, hy⟩) (by
      intro z M S ⟨hc, ho, hy⟩
      show f_X7_year_b16 k z (nI p) (nI np) M = _
      unfold f_X7_year_b16
      rw [ck_pos vl_1, ix_1, hc.1 1 (by omega) (by omega), ho.1.2.2.2.1, if_pos (nI_le (by omega) (by omega)), nI_1]) (np - (p + 1)) FU (p + 1) M S (by omega) (show np - (p + 1) < 5000 by omega) ⟨hc, ho, hy⟩
    refine ⟨M1, ?_, i1⟩
    show f_X7_year_b2 k (nI p) M = k (nI (p + 1)) M1
    unfold f_X7_year_b2
    rw [ck_pos vl_1, ix_1, hc.1 1 (by omega) (by omega), ho.1.2.2.2.1, if_neg (nI_ge hp (by omega)), nI_1]
    exact e1) (by
    intro k M S ⟨hc, ho, hy⟩
    show f_X7_year_b2 k (nI np) M = _
    unfold f_X7_year_b2
    rw [ck_pos vl_1, ix_1, hc.1 1 (by omega) (by omega), ho.1.2.2.2.1, if_pos (nI_le (by omega) (by omega)), ck_pos vl_3, ck_pos vl_3, ix_3]
    rfl) np FU 0 N S (by omega) (show np < 5000 by omega) ⟨h, o, rfl⟩
  refine ⟨_, e1, ⟨fun k hk h3 => ?_, ?_⟩, ?_⟩
  · rw [up_ap, if_neg (fun y => h3 y.2)]; exact i1.1 k hk h3
  · rw [up_ap, if_neg (by omega)]; exact i1.2
  · rw [up_ap, if_pos ⟨rfl, rfl⟩, i3]
-- so many years
def ynS (np n : Nat) (S : Nat → Int32) : Nat → Int32 := itr (fun _ S => yrS np S) n 0 S
theorem itr_fix {np : Nat} (h : yrS np S = S) : ∀ (d i : Nat), itr (fun _ S => yrS np S) d i S = S := by
  intro d
  induction d with
  | zero => intro i; rfl
  | succ d ih => intro i; show itr _ d (i + 1) (yrS np S) = S; rw [h]; exact ih (i + 1)
theorem Ok.yn (o : Ok S nw np) (n : Nat) : Ok (ynS np n S) nw np := itr_P (P := fun S => Ok S nw np) n 0 S (fun _ S _ _ o => o.yr) o
theorem yn_3 (o : Ok S nw np) (n : Nat) : ynS np n S 3 = S 3 := (itr_P (P := fun S' => Ok S' nw np ∧ S' 3 = S 3) n 0 S (fun _ S' _ _ ⟨o', e⟩ => ⟨o'.yr, (yr_3 o').trans e⟩) ⟨o, rfl⟩).2
theorem CW.yr (h : CW b M S) (v : Int32) : CW b (up M b 3 v) (upd S 3 v) := ⟨h.1.set1 (by unfold sgl; omega) v, by rw [up_ap, if_neg (by omega), upd_ne (by omega)]; exact h.2⟩
theorem cw_years (h : CW b M S) (o : Ok S nw np) {n : Nat} (hn : n < 2000) : ∃ M1, f_X4_passYears b (nI n) M = some M1 ∧ CW b M1 (upd (ynS np n S) 3 (S 3 + nI n)) := by
  have key : ∀ (d m i : Nat) (M : Mem) (S : Nat → Int32), i + d = n → d < m → CW b M S → Ok S nw np → ∃ M1, f_X4_passYears_l2 b m (nI n) (nI i) M = some M1 ∧ CW b M1 (upd (itr (fun _ S => yrS np S) d i S) 3 (S 3 + nI n)) := by
    intro d
    induction d with
    | zero =>
      intro m i M S hi hm hc ho
      obtain ⟨m, rfl⟩ : ∃ k, m = k + 1 := ⟨m - 1, by omega⟩
      refine ⟨_, ?_, hc.yr _⟩
      show f_X4_passYears_b2 b (f_X4_passYears_l2 b m) (nI n) (nI i) M = _
      unfold f_X4_passYears_b2
      rw [if_pos (nI_le (by omega) (by omega)), hc.1.1.2.2.2.1]
      rfl
    | succ d ih =>
      intro m i M S hi hm hc ho
      obtain ⟨m, rfl⟩ : ∃ k, m = k + 1 := ⟨m - 1, by omega⟩
      obtain ⟨M1, e1, c1⟩ := cw_one hc ho
      show ∃ M2, f_X4_passYears_b2 b (f_X4_passYears_l2 b m) (nI n) (nI i) M = some M2 ∧ CW b M2 (upd (itr (fun _ S => yrS np S) d (i + 1) (yrS np S)) 3 (S 3 + nI n))
      unfold f_X4_passYears_b2
      rw [if_neg (nI_ge (by omega) (by omega)), e1]
      simp only [letv, bs]
      rw [hc.1.1.2.2.2.2, c1.1.1.2.2.2.2]
      by_cases hz : yrS np S 4 = S 4
      · rw [if_pos hz]
        have hf := yr_fix ho.1.2.1 hz
        refine ⟨_, rfl, ?_⟩
        rw [c1.1.1.2.2.2.1, yr_3 ho, hf, itr_fix hf d (i + 1)]
        rw [hf] at c1
        exact c1.yr _
      · rw [if_neg hz, nI_1]
        obtain ⟨M2, e2, c2⟩ := ih m (i + 1) M1 (yrS np S) (by omega) (by omega) c1 ho.yr
        rw [yr_3 ho] at c2
        exact ⟨M2, e2, c2⟩
  exact key n FU 0 M S (by omega) (show n < 5000 by omega) h o
theorem mo_years {δ : Int32} (h : MW δ N S) (o : Ok S nw np) {n : Nat} (hn : n < 2000) : ∃ N1, f_X7_yearsGo (nI n) N = some (ynS np n S 4 - S 4, N1) ∧ MW δ N1 (ynS np n S) ∧ N1 60 3 = N 60 3 + nI n := by
  have key : ∀ (d m i : Nat) (N' : Mem) (S' : Nat → Int32), i + d = n → d < m → MW δ N' S' → Ok S' nw np → ∃ N1, f_X7_yearsGo_l9 m (nI n) (S 4) (nI i) N' = some (itr (fun _ S => yrS np S) d i S' 4 - S 4, N1) ∧ MW δ N1 (itr (fun _ S => yrS np S) d i S') ∧ N1 60 3 = N' 60 3 + nI d := by
    intro d
    induction d with
    | zero =>
      intro m i N' S' hi hm hc ho
      obtain ⟨m, rfl⟩ : ∃ k, m = k + 1 := ⟨m - 1, by omega⟩
      refine ⟨N', ?_, hc, by rw [nI_0, Int32.add_zero]⟩
      show f_X7_yearsGo_b9 (f_X7_yearsGo_l9 m) (nI n) (S 4) (nI i) N' = _
      unfold f_X7_yearsGo_b9
      rw [if_pos (nI_le (by omega) (by omega)), ck_pos vl_4, ix_4, hc.1 4 (by omega) (by omega)]
      rfl
    | succ d ih =>
      intro m i N' S' hi hm hc ho
      obtain ⟨m, rfl⟩ : ∃ k, m = k + 1 := ⟨m - 1, by omega⟩
      obtain ⟨N1, e1, c1, y1⟩ := mo_year hc ho
      obtain ⟨N2, e2, c2, y2⟩ := ih m (i + 1) N1 (yrS np S') (by omega) (by omega) c1 ho.yr
      refine ⟨N2, ?_, c2, by rw [y2, y1, Int32.add_assoc, show (1 : Int32) + nI d = nI (1 + d) from nI_add 1 d, Nat.add_comm]⟩
      show f_X7_yearsGo_b9 (f_X7_yearsGo_l9 m) (nI n) (S 4) (nI i) N' = _
      unfold f_X7_yearsGo_b9
      rw [if_neg (nI_ge (by omega) (by omega)), e1, bs, nI_1]
      exact e2
  unfold f_X7_yearsGo
  rw [ck_pos vl_4, ix_4, h.1 4 (by omega) (by omega)]
  exact key n FU 0 N S (by omega) (show n < 5000 by omega) h o
end YRS
