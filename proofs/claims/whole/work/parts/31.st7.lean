section ST7
variable {M N : Mem} {S : Nat → Int32} {nw np : Nat}
theorem itr_Pi {σ : Type} {st : Nat → σ → σ} {P : Nat → σ → Prop} : ∀ (d i : Nat) (s : σ), (∀ j s, i ≤ j → j < i + d → P j s → P (j + 1) (st j s)) → P i s → P (i + d) (itr st d i s) := by
  intro d
  induction d with
  | zero => intro i s h hp; exact hp
  | succ d ih =>
    intro i s h hp
    have := ih (i + 1) (st i s) (fun j s a b => h j s (by omega) (by omega)) (h i s (by omega) (by omega) hp)
    rw [show i + (d + 1) = i + 1 + d by omega]
    exact this
theorem itr_rel {σ τ : Type} {st : Nat → σ → σ} {st' : Nat → τ → τ} {P : Nat → σ → τ → Prop} : ∀ (d i : Nat) (s : σ) (t : τ), (∀ j s t, i ≤ j → j < i + d → P j s t → P (j + 1) (st j s) (st' j t)) → P i s t → P (i + d) (itr st d i s) (itr st' d i t) := by
  intro d
  induction d with
  | zero => intro i s t h hp; exact hp
  | succ d ih =>
    intro i s t h hp
    have := ih (i + 1) (st i s) (st' i t) (fun j s t a b => h j s t (by omega) (by omega)) (h i s t (by omega) (by omega) hp)
    rw [show i + (d + 1) = i + 1 + d by omega]
    exact this
def wyS (S : Nat → Int32) (w : Nat) (y : Int32) : Int32 := itr (fun v c => if mkS S w (nI v) = y then c + 1 else c) 4096 0 0
theorem sd_1 (S : Nat → Int32) (w : Nat) (y x : Int32) : (sdS S w y x 4096).1 = wyS S w y := by
  unfold sdS wyS
  rw [itr_hom (fun t : Said => t.1) (st' := fun v c => if mkS S w (nI v) = y then c + 1 else c)]
  intro i s
  unfold sdT
  split <;> rfl
theorem wy_b (S : Nat → Int32) (w : Nat) (y : Int32) : Lt (wyS S w y) 4097 := by
  have := itr_Pi (st := fun v c => if mkS S w (nI v) = y then c + 1 else c) (P := fun j (c : Int32) => Lt c (j + 1)) 4096 0 0 (fun j s _ _ hs => by
    obtain ⟨c, hc, rfl⟩ := hs
    show Lt (if mkS S w (nI j) = y then nI c + 1 else nI c) (j + 1 + 1)
    split
    · exact ⟨c + 1, by omega, nI_1 c⟩
    · exact ⟨c, by omega, rfl⟩) ⟨0, by decide, rfl⟩
  exact this
theorem xw_ways {b : Nat} (h : RW b M S) (o : Ok S nw np) {w : Nat} (hw : w < nw) (y : Int32) : f_X5_waysTo (b + 1) (nI w) y M = some (wyS S w y) := by
  refine (lp_itr _ (f_X5_waysTo_b5 (b + 1)) (fun z i (a : Int32) => z (nI w) y a i M) (fun v c => if mkS S w (nI v) = y then c + 1 else c) (fun a => some a) 4096 (fun _ _ => True) ?_ ?_ 4096 FU 0 0 (by omega) (show 4096 < 5000 by omega) trivial).1
  · intro z i a hi _
    refine ⟨?_, trivial⟩
    show f_X5_waysTo_b5 (b + 1) z (nI w) y a (nI i) M = z _ _ _ (nI (i + 1)) M
    unfold f_X5_waysTo_b5
    rw [if_neg (show ¬ (4096 : Int32) ≤ nI i from nI_ge (b := 4096) hi (by decide)), xw_make h o hw, bs, nI_1]
    split <;> rfl
  · intro z a _
    show f_X5_waysTo_b5 (b + 1) z (nI w) y a (nI 4096) M = _
    unfold f_X5_waysTo_b5
    rw [if_pos (by decide)]
theorem Rel.sd (h : Rel M N) {N1 : Mem} (f : Fr TS N N1) : Rel M N1 := h.same Fr.rf (f.mono (fun i k z => by unfold TS at z; unfold TM; omega))
theorem z_lt : Lt (0 : Int32) 4096 := ⟨0, by decide, rfl⟩
theorem st_many (h : Rel M N) (x1 x2 : Int32) : Sim (f_X6_many x1 x2 M) (f_X7_many x1 x2 N) := by
  obtain ⟨w, nw, np, o⟩ := h.1
  have h6 := o.1.1
  unfold f_X6_many f_X7_many
  rw [x_has5, hW w o, m_isWriter x1 o.1.1 o.1.2.2.1, x_isSaying, m_isSaying]
  simp only [bs, ib]
  cases h1 : inR x1 (nI nw)
  · exact s_B h
  cases h2 : inR x2 4096
  · exact s_B h
  obtain ⟨j, hj, rfl⟩ := inR_t (by omega) h1
  obtain ⟨N1, e1, e2, f1⟩ := m_find o hj x2 z_lt
  rw [if_pos rfl, if_pos rfl, if_pos rfl, if_pos rfl, show f_X5_waysTo 2 (nI j) x2 M = _ from xw_ways w o hj x2, e1, bs, bs, show N1 59 6 = wyS (N 60) j x2 from (congrArg (fun t : Said => t.1) e2).trans (sd_1 _ _ _ _)]
  exact ⟨_, _, _, rfl, rfl, h.sd f1⟩
/-- the class's three numbers beside the reference's -/
def sdQ (i : Nat) (s : Int32 × Int32 × Int32) (t : Said) : Prop := t.2.1 = s.1 ∧ t.2.2.1 = s.2.1 ∧ t.2.2.2.1 = s.2.2 ∧ ((t.1 = 0 ∧ s.1 = -1) ∨ ∃ c, 0 < c ∧ c ≤ i ∧ t.1 = nI c ∧ Lt s.1 4096)
theorem st_said (h : Rel M N) (x1 x2 x3 : Int32) : Sim (f_X6_said x1 x2 x3 M) (f_X7_said x1 x2 x3 N) := by
  obtain ⟨w, nw, np, o⟩ := h.1
  have h6 := o.1.1
  unfold f_X6_said f_X7_said
  rw [x_has5, hW w o, m_isWriter x1 o.1.1 o.1.2.2.1, x_isSaying, m_isSaying, show f_X7_in x3.toInt64 0 2 N = some (inR x3 3) from m_inN x3 2 (by decide) N]
  simp only [bs, ib]
  cases h1 : inR x1 (nI nw)
  · exact s_B h
  cases h2 : inR x2 4096
  · exact s_B h
  rw [if_pos rfl, if_pos rfl, if_pos rfl, if_pos rfl, show ∀ A B : Option (Int32 × Mem), (if x3 < 0 then B else if x3 ≤ 2 then A else B) = if inR x3 3 = true then A else B from fun A B => ifR x3 2 (by decide) A B]
  cases h3 : inR x3 3
  · exact s_B h
  obtain ⟨j, hj, rfl⟩ := inR_t (by omega) h1
  obtain ⟨N1, e1, e2, f1⟩ := m_find o hj x2 z_lt
  rw [if_pos rfl, if_pos rfl, e1, bs]
  let st : Nat → Int32 × Int32 × Int32 → Int32 × Int32 × Int32 := fun v s => if mkS (N 60) j (nI v) = x2 then ((if 0 ≤ s.1 then s.1 else nI v), s.2.1 &&& nI v, s.2.2 ||| nI v) else s
  let fin : Int32 × Int32 × Int32 → Option (Int32 × Mem) := fun s => if 0 ≤ s.1 then (if x3 = 0 then some (s.1, M) else if x3 = 1 then some (s.2.1, M) else some (s.2.2, M)) else (f_X6_found (-1000004) M).bind fun r => some (r.1, r.2)
  have e3 := (lp_itr (fun _ _ _ _ _ _ _ _ => none) (f_X6_said_b51) (fun z i (s : Int32 × Int32 × Int32) => z (nI j) x2 x3 s.1 s.2.1 s.2.2 i M) st fin 4096 (fun _ _ => True) (by
    intro z i s hi _
    refine ⟨?_, trivial⟩
    show f_X6_said_b51 z (nI j) x2 x3 s.1 s.2.1 s.2.2 (nI i) M = z _ _ _ (st i s).1 (st i s).2.1 (st i s).2.2 (nI (i + 1)) M
    unfold f_X6_said_b51
    rw [if_neg (show ¬ (4096 : Int32) ≤ nI i from nI_ge (b := 4096) hi (by decide)), show f_X5_make 2 (nI j) _ M = _ from xw_make w o hj _, bs, nI_1]
    simp only [st]
    by_cases hy : mkS (N 60) j (nI i) = x2
    · rw [if_pos hy, if_pos hy]
      by_cases hs : 0 ≤ s.1
      · rw [if_pos hs, if_pos hs]; rfl
      · rw [if_neg hs, if_neg hs]; rfl
    · rw [if_neg hy, if_neg hy]) (by
    intro z s _
    show f_X6_said_b51 z (nI j) x2 x3 s.1 s.2.1 s.2.2 (nI 4096) M = _
    unfold f_X6_said_b51
    rw [if_pos (by decide)]) 4096 FU 0 ((-1 : Int32), (4095 : Int32), (0 : Int32)) (by omega) (show 4096 < 5000 by omega) trivial).1
  have q := itr_rel (st := st) (st' := sdT (N 60) j x2 0) (P := sdQ) 4096 0 ((-1 : Int32), (4095 : Int32), (0 : Int32)) (0, -1, 4095, 0, 99) (by
    intro v s t _ hv ⟨q1, q2, q3, q4⟩
    show sdQ (v + 1) (if mkS (N 60) j (nI v) = x2 then _ else s) (sdT (N 60) j x2 0 v t)
    unfold sdT
    by_cases hy : mkS (N 60) j (nI v) = x2
    · rw [if_pos hy, if_pos hy]
      rcases q4 with ⟨c1, c2⟩ | ⟨c, c1, c2, c3, l, l1, l2⟩
      · refine ⟨?_, by show t.2.2.1 &&& _ = s.2.1 &&& _; rw [q2], by show t.2.2.2.1 ||| _ = s.2.2 ||| _; rw [q3], Or.inr ⟨1, by omega, by omega, by show t.1 + 1 = nI 1; rw [c1]; rfl, ?_⟩⟩
        · show (if t.1 = 0 then nI v else t.2.1) = if 0 ≤ s.1 then s.1 else nI v
          rw [if_pos c1, c2, if_neg (by decide)]
        · show Lt (if 0 ≤ s.1 then s.1 else nI v) 4096
          rw [c2, if_neg (by decide)]
          exact nI_lt4096 (by omega)
      · have hs : 0 ≤ s.1 := by rw [l2]; exact nI_pos' (by omega)
        refine ⟨?_, by show t.2.2.1 &&& _ = s.2.1 &&& _; rw [q2], by show t.2.2.2.1 ||| _ = s.2.2 ||| _; rw [q3], Or.inr ⟨c + 1, by omega, by omega, by show t.1 + 1 = nI (c + 1); rw [c3, nI_1], ?_⟩⟩
        · show (if t.1 = 0 then nI v else t.2.1) = if 0 ≤ s.1 then s.1 else nI v
          rw [if_neg (by rw [c3]; exact nI_ne0 c1 (by omega)), if_pos hs, q1]
        · show Lt (if 0 ≤ s.1 then s.1 else nI v) 4096
          rw [if_pos hs]
          exact ⟨l, l1, l2⟩
    · rw [if_neg hy, if_neg hy]
      refine ⟨q1, q2, q3, q4.imp id (fun ⟨c, c1, c2, c3⟩ => ⟨c, c1, by omega, c3⟩)⟩) ⟨rfl, rfl, rfl, Or.inl ⟨rfl, rfl⟩⟩
  rw [show f_X6_said_l51 FU (nI j) x2 x3 (-1) 4095 0 0 M = _ from e3]
  obtain ⟨q1, q2, q3, q4⟩ := q
  change sdM N1 = itr (sdT (N 60) j x2 0) 4096 0 (0, -1, 4095, 0, 99) at e2
  rw [← e2] at q1 q2 q3 q4
  generalize itr st 4096 0 ((-1 : Int32), (4095 : Int32), (0 : Int32)) = s at q1 q2 q3 q4
  have q1 : N1 59 7 = s.1 := q1
  have q2 : N1 59 8 = s.2.1 := q2
  have q3 : N1 59 9 = s.2.2 := q3
  rcases q4 with ⟨c1, c2⟩ | ⟨c, c1, c2, c3, l, l1, l2⟩
  · have c1 : N1 59 6 = 0 := c1
    simp only [fin]
    rw [if_pos c1, c2, if_neg (show ¬ (0 : Int32) ≤ -1 by decide)]
    exact s_N (h.sd f1)
  · have c3 : N1 59 6 = nI c := c3
    simp only [fin]
    have hs0 : 0 ≤ s.1 := by rw [l2]; exact nI_pos' (by omega)
    have hc0 : ¬ N1 59 6 = 0 := by rw [c3]; exact nI_ne0 c1 (by omega)
    rw [if_pos hs0, if_neg hc0, q1, q2, q3]
    split
    · exact ⟨_, _, _, rfl, rfl, h.sd f1⟩
    split
    · exact ⟨_, _, _, rfl, rfl, h.sd f1⟩
    · exact ⟨_, _, _, rfl, rfl, h.sd f1⟩
/-- the class's nearest beside the reference's -/
def nrQ (i : Nat) (s : Int32) (t : Said) : Prop := (t.1 = 0 ∧ s = 13 ∧ t.2.2.2.2 = 99) ∨ ∃ c, 0 < c ∧ c ≤ i ∧ t.1 = nI c ∧ t.2.2.2.2 = s ∧ Lt s 13
theorem st_near (h : Rel M N) (x1 x2 x3 : Int32) : Sim (f_X6_near x1 x2 x3 M) (f_X7_near x1 x2 x3 N) := by
  obtain ⟨w, nw, np, o⟩ := h.1
  have h6 := o.1.1
  unfold f_X6_near f_X7_near
  rw [x_has5, hW w o, m_isWriter x1 o.1.1 o.1.2.2.1, x_isSaying, m_isSaying, x_isSaying, m_isSaying]
  simp only [bs, ib]
  cases h1 : inR x1 (nI nw)
  · exact s_B h
  cases h2 : inR x2 4096
  · exact s_B h
  cases h3 : inR x3 4096
  · exact s_B h
  have l2 := lt4096 h2
  obtain ⟨j, hj, rfl⟩ := inR_t (by omega) h1
  obtain ⟨N1, e1, e2, f1⟩ := m_find o hj x3 l2
  rw [if_pos rfl, if_pos rfl, if_pos rfl, if_pos rfl, if_pos rfl, if_pos rfl, e1, bs]
  let st : Nat → Int32 → Int32 := fun v s => if mkS (N 60) j (nI v) = x3 then mnI s (nI (pcn (ix (nI v ^^^ x2)))) else s
  let fin : Int32 → Option (Int32 × Mem) := fun s => if s ≤ 12 then some (s, M) else (f_X6_found (-1000004) M).bind fun r => some (r.1, r.2)
  have e3 := (lp_itr (fun _ _ _ _ _ _ => none) (f_X6_near_b42) (fun z i (s : Int32) => z (nI j) x2 x3 s i M) st fin 4096 (fun _ _ => True) (by
    intro z i s hi _
    refine ⟨?_, trivial⟩
    show f_X6_near_b42 z (nI j) x2 x3 s (nI i) M = z _ _ _ (st i s) (nI (i + 1)) M
    unfold f_X6_near_b42
    rw [if_neg (show ¬ (4096 : Int32) ≤ nI i from nI_ge (b := 4096) hi (by decide)), show f_X5_make 2 (nI j) _ M = _ from xw_make w o hj _, bs, nI_1, x_bcL (xor_lt (nI_lt4096 hi) l2), bs]
    simp only [st]
    by_cases hy : mkS (N 60) j (nI i) = x3
    · rw [if_pos hy, if_pos hy]; rfl
    · rw [if_neg hy, if_neg hy]) (by
    intro z s _
    show f_X6_near_b42 z (nI j) x2 x3 s (nI 4096) M = _
    unfold f_X6_near_b42
    rw [if_pos (by decide)]) 4096 FU 0 (13 : Int32) (by omega) (show 4096 < 5000 by omega) trivial).1
  have q := itr_rel (st := st) (st' := sdT (N 60) j x3 x2) (P := nrQ) 4096 0 (13 : Int32) (0, -1, 4095, 0, 99) (by
    intro v s t _ hv q4
    show nrQ (v + 1) (if mkS (N 60) j (nI v) = x3 then _ else s) (sdT (N 60) j x3 x2 v t)
    have hp := pcL (xor_lt (nI_lt4096 (i := v) (by omega)) l2)
    unfold sdT
    by_cases hy : mkS (N 60) j (nI v) = x3
    · rw [if_pos hy, if_pos hy]
      rcases q4 with ⟨c1, c2, c3⟩ | ⟨c, c1, c2, c3, c4, l, l1, l2⟩
      · refine Or.inr ⟨1, by omega, by omega, by show t.1 + 1 = nI 1; rw [c1]; rfl, ?_, ?_⟩
        · show (if t.2.2.2.2 ≤ _ then t.2.2.2.2 else _) = mnI s _
          unfold mnI
          rw [c3, c2, if_neg (show ¬ (99 : Int32) ≤ nI _ from nI_ge (b := 99) (by omega) (by decide)), if_pos (show nI _ < (13 : Int32) from nI_lt (b := 13) hp (by decide))]
        · unfold mnI
          rw [c2, if_pos (show nI _ < (13 : Int32) from nI_lt (b := 13) hp (by decide))]
          exact ⟨_, hp, rfl⟩
      · refine Or.inr ⟨c + 1, by omega, by omega, by show t.1 + 1 = nI (c + 1); rw [c3, nI_1], ?_, ?_⟩
        · show (if t.2.2.2.2 ≤ _ then t.2.2.2.2 else _) = mnI s _
          unfold mnI
          rw [c4, l2]
          by_cases z : l ≤ pcn (ix (nI v ^^^ x2))
          · rw [if_pos (nI_le z (by omega)), if_neg (nI_nlt z (by omega))]
          · rw [if_neg (nI_ge (by omega) (by omega)), if_pos (nI_lt (by omega) (by omega))]
        · unfold mnI
          split
          · exact ⟨_, hp, rfl⟩
          · exact ⟨l, l1, l2⟩
    · rw [if_neg hy, if_neg hy]
      exact q4.imp id (fun ⟨c, c1, c2, c3⟩ => ⟨c, c1, by omega, c3⟩)) (Or.inl ⟨rfl, rfl, rfl⟩)
  rw [show f_X6_near_l42 FU (nI j) x2 x3 13 0 M = _ from e3]
  change sdM N1 = itr (sdT (N 60) j x3 x2) 4096 0 (0, -1, 4095, 0, 99) at e2
  rw [← e2] at q
  generalize itr st 4096 0 (13 : Int32) = s at q
  simp only [fin]
  rcases q with ⟨c1, c2, c3⟩ | ⟨c, c1, c2, c3, c4, l, l1, l2⟩
  · have c1 : N1 59 6 = 0 := c1
    rw [if_pos c1, c2, if_neg (show ¬ (13 : Int32) ≤ 12 by decide)]
    exact s_N (h.sd f1)
  · have c3 : N1 59 6 = nI c := c3
    have c4 : N1 59 10 = s := c4
    have hs0 : s ≤ 12 := by rw [l2]; exact nI_le (b := 12) (by omega) (by decide)
    have hc0 : ¬ N1 59 6 = 0 := by rw [c3]; exact nI_ne0 c1 (by omega)
    rw [if_pos hs0, if_neg hc0, c4]
    exact ⟨_, _, _, rfl, rfl, h.sd f1⟩
end ST7
