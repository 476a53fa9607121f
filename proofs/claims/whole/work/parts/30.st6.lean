section ST6
variable {M N : Mem} {S : Nat → Int32} {nw np : Nat}
theorem xor_lt {x y : Int32} (hx : Lt x 4096) (hy : Lt y 4096) : Lt (x ^^^ y) 4096 := by
  obtain ⟨a, ha, rfl⟩ := hx
  obtain ⟨c, hc, rfl⟩ := hy
  refine ⟨a ^^^ c, Nat.xor_lt_two_pow (n := 12) ha hc, ?_⟩
  unfold nI
  apply Int32.toBitVec_inj.mp
  apply BitVec.eq_of_toNat_eq
  simp [Nat.xor_mod_two_pow]
theorem x_bcL {x : Int32} (h : Lt x 4096) (M : Mem) : f_J6_bitCount_0f7a4 x M = some (nI (pcn (ix x))) := by
  obtain ⟨n, hn, rfl⟩ := h
  rw [x_bc hn, ix_nI (by omega)]
theorem m_onesL {x : Int32} (h : Lt x 4096) (M : Mem) : f_X7_ones x M = some (nI (pcn (ix x))) := by
  obtain ⟨n, hn, rfl⟩ := h
  rw [m_ones hn, ix_nI (by omega)]
theorem pcL {x : Int32} (h : Lt x 4096) : pcn (ix x) < 13 := by
  obtain ⟨n, hn, rfl⟩ := h
  rw [ix_nI (by omega)]
  exact pcn_lt n hn
theorem st_court (h : Rel M N) (x1 x2 x3 : Int32) : Sim (f_X6_court x1 x2 x3 M) (f_X7_court x1 x2 x3 N) := by
  obtain ⟨w, nw, np, o⟩ := h.1
  have h6 := o.1.1
  unfold f_X6_court f_X7_court
  rw [x_has5, x_has5, hW w o, m_isWriter x1 o.1.1 o.1.2.2.1, m_isWriter x2 o.1.1 o.1.2.2.1, x_isSaying, m_isSaying]
  simp only [bs, ib]
  cases h1 : inR x1 (nI nw)
  · exact s_B h
  cases h2 : inR x2 (nI nw)
  · exact s_B h
  cases h3 : inR x3 4096
  · exact s_B h
  obtain ⟨i, hi, rfl⟩ := inR_t (by omega) h1
  obtain ⟨j, hj, rfl⟩ := inR_t (by omega) h2
  have l3 := lt4096 h3
  have l4 := mk_ltS o hi l3
  have l5 := mk_ltS o hj l4
  rw [if_pos rfl, if_pos rfl, if_pos rfl, if_pos rfl, if_pos rfl, if_pos rfl, show f_X5_make 2 (nI i) x3 M = _ from xw_make w o hi x3, mw_put o hi l3, bs, bs, show f_X5_make 2 (nI j) _ M = _ from xw_make w o hj _, mw_put o hj l4, bs, bs, x_bcL (and_ltL l3 _), m_onesL (and_ltL l3 _), bs, bs, x_bcL (and_ltL l5 _), m_onesL (and_ltL l5 _)]
  exact s_ok h _
theorem nI_lt4096 {i : Nat} (h : i < 4096) : Lt (nI i) 4096 := ⟨i, h, rfl⟩
theorem st_honest (h : Rel M N) (x1 : Int32) : Sim (f_X6_honest x1 M) (f_X7_honest x1 N) := by
  obtain ⟨w, nw, np, o⟩ := h.1
  have h6 := o.1.1
  unfold f_X6_honest f_X7_honest
  rw [x_has5, hW w o, m_isWriter x1 o.1.1 o.1.2.2.1]
  simp only [bs, ib]
  cases h1 : inR x1 (nI nw)
  · exact s_B h
  obtain ⟨j, hj, rfl⟩ := inR_t (by omega) h1
  rw [if_pos rfl, if_pos rfl]
  have e1 := (lp_itr (fun _ _ _ _ => none) (f_X6_honest_b25) (fun z i (a : Int32) => z (nI j) a i M) (fun i a => if mkS (N 60) j (nI i) = nI i then a + 1 else a) (fun a => some (a, M)) 4096 (fun _ _ => True) (by
    intro z i a hi _
    refine ⟨?_, trivial⟩
    show f_X6_honest_b25 z (nI j) a (nI i) M = z _ _ (nI (i + 1)) M
    unfold f_X6_honest_b25
    rw [if_neg (show ¬ (4096 : Int32) ≤ nI i from nI_ge (b := 4096) hi (by decide)), show f_X5_make 2 (nI j) _ M = _ from xw_make w o hj _, bs, nI_1]
    split <;> rfl) (by
    intro z a _
    show f_X6_honest_b25 z (nI j) a (nI 4096) M = _
    unfold f_X6_honest_b25
    rw [if_pos (by decide)]) 4096 FU 0 0 (by omega) (show 4096 < 5000 by omega) trivial).1
  have e2 := (lp_itr (fun _ _ _ _ => none) (f_X7_honest_b19) (fun z i (a : Int32) => z (nI j) a i N) (fun i a => if mkS (N 60) j (nI i) = nI i then a + 1 else a) (fun a => some (a, N)) 4096 (fun _ _ => True) (by
    intro z i a hi _
    refine ⟨?_, trivial⟩
    show f_X7_honest_b19 z (nI j) a (nI i) N = z _ _ (nI (i + 1)) N
    unfold f_X7_honest_b19
    rw [if_neg (show ¬ (4096 : Int32) ≤ nI i from nI_ge (b := 4096) hi (by decide)), mw_put o hj (nI_lt4096 hi), bs, nI_1, Int32.add_zero]
    split <;> rfl) (by
    intro z a _
    show f_X7_honest_b19 z (nI j) a (nI 4096) N = _
    unfold f_X7_honest_b19
    rw [if_pos (by decide)]) 4096 FU 0 0 (by omega) (show 4096 < 5000 by omega) trivial).1
  exact ⟨_, _, _, e1, e2, h⟩
-- all tables once
def rdS (S : Nat → Int32) (nw : Nat) (x : Int32) : Int32 := itr (fun i a => mkS S i a) nw 0 x
theorem rd_lt (o : Ok S nw np) {x : Int32} (hx : Lt x 4096) : Lt (rdS S nw x) 4096 := itr_P (P := fun z => Lt z 4096) nw 0 x (fun j s _ hj hs => mk_ltS o (by omega) hs) hx
theorem xw_round {b : Nat} (h : RW b M S) (o : Ok S nw np) (x : Int32) : f_X5_onceRound (b + 1) x M = some (rdS S nw x) := by
  have h6 := o.1.1
  refine (lp_itr _ (f_X5_onceRound_b4 (b + 1)) (fun z i (a : Int32) => z a i M) (fun i a => mkS S i a) (fun a => some a) nw (fun _ _ => True) ?_ ?_ nw FU 0 x (by omega) (show nw < 5000 by omega) trivial).1
  · intro z i a hi _
    refine ⟨?_, trivial⟩
    show f_X5_onceRound_b4 (b + 1) z a (nI i) M = z _ (nI (i + 1)) M
    unfold f_X5_onceRound_b4
    rw [h.1.1, o.1.2.2.1, if_neg (nI_ge hi (by omega)), xw_make h o hi, bs, nI_1]
  · intro z a _
    show f_X5_onceRound_b4 (b + 1) z a (nI nw) M = _
    unfold f_X5_onceRound_b4
    rw [h.1.1, o.1.2.2.1, if_pos (nI_le (by omega) (by omega))]
theorem mw_round {N : Mem} (o : Ok (N 60) nw np) {x : Int32} (hx : Lt x 4096) : f_X7_roundOf x N = some (rdS (N 60) nw x) := by
  have h6 := o.1.1
  refine (lp_itr _ (f_X7_roundOf_b4) (fun z i (a : Int32) => z a i N) (fun i a => mkS (N 60) i a) (fun a => some a) nw (fun _ a => Lt a 4096) ?_ ?_ nw FU 0 x (by omega) (show nw < 5000 by omega) hx).1
  · intro z i a hi ha
    refine ⟨?_, mk_ltS o hi ha⟩
    show f_X7_roundOf_b4 z a (nI i) N = z _ (nI (i + 1)) N
    unfold f_X7_roundOf_b4
    rw [ck_pos vl_0, ix_0, o.1.2.2.1, if_neg (nI_ge hi (by omega)), mw_put o hi ha, bs, nI_1]
  · intro z a _
    show f_X7_roundOf_b4 z a (nI nw) N = _
    unfold f_X7_roundOf_b4
    rw [ck_pos vl_0, ix_0, o.1.2.2.1, if_pos (nI_le (by omega) (by omega))]
theorem ifR {α : Type} (x : Int32) (n : Nat) (hn : n + 1 < 2 ^ 31) (A B : α) : (if x < 0 then B else if x ≤ nI n then A else B) = if inR x (nI (n + 1)) = true then A else B := by
  rw [← r2R x n hn]
  by_cases h1 : x < 0
  · rw [if_pos h1, decide_eq_false (by rw [le_t]; rw [lt_t] at h1; omega), if_neg (by decide)]
  · rw [if_neg h1]
    by_cases h2 : x ≤ nI n
    · rw [if_pos h2, decide_eq_true (by rw [le_t, le_t]; rw [lt_t] at h1; rw [le_t] at h2; omega), if_pos rfl]
    · rw [if_neg h2, decide_eq_false (fun z => h2 z.2), if_neg (by decide)]
theorem st_round (h : Rel M N) (x1 x2 : Int32) : Sim (f_X6_round x1 x2 M) (f_X7_round x1 x2 N) := by
  obtain ⟨w, nw, np, o⟩ := h.1
  unfold f_X6_round f_X7_round
  rw [x_isSaying, m_isSaying, show f_X7_in x2.toInt64 0 20 N = some (inR x2 21) from m_inN x2 20 (by decide) N]
  simp only [bs, ib]
  cases h1 : inR x1 4096
  · exact s_B h
  have l1 := lt4096 h1
  rw [if_pos rfl, if_pos rfl, show ∀ A B : Option (Int32 × Mem), (if x2 < 0 then B else if x2 ≤ 20 then A else B) = if inR x2 21 = true then A else B from fun A B => ifR x2 20 (by decide) A B]
  cases h2 : inR x2 21
  · exact s_B h
  obtain ⟨n, hn, rfl⟩ := inR_t (n := 21) (by decide) h2
  rw [if_pos rfl, if_pos rfl]
  have e1 := (lp_itr (fun _ _ _ _ => none) (f_X6_round_b29) (fun z i (a : Int32) => z (nI n) a i M) (fun i a => rdS (N 60) nw a) (fun a => some (a, M)) n (fun _ _ => True) (by
    intro z i a hi _
    refine ⟨?_, trivial⟩
    show f_X6_round_b29 z (nI n) a (nI i) M = z _ _ (nI (i + 1)) M
    unfold f_X6_round_b29
    rw [if_neg (nI_ge hi (by omega)), show f_X5_onceRound 2 a M = _ from xw_round w o a, bs, nI_1]) (by
    intro z a _
    show f_X6_round_b29 z (nI n) a (nI n) M = _
    unfold f_X6_round_b29
    rw [if_pos (nI_le (by omega) (by omega))]) n FU 0 x1 (by omega) (show n < 5000 by omega) trivial).1
  have e2 := (lp_itr (fun _ _ _ _ => none) (f_X7_round_b31) (fun z i (a : Int32) => z (nI n) a i N) (fun i a => rdS (N 60) nw a) (fun a => some (a, N)) n (fun _ a => Lt a 4096) (by
    intro z i a hi ha
    refine ⟨?_, rd_lt o ha⟩
    show f_X7_round_b31 z (nI n) a (nI i) N = z _ _ (nI (i + 1)) N
    unfold f_X7_round_b31
    rw [if_neg (nI_ge hi (by omega)), mw_round o ha, bs, nI_1]) (by
    intro z a _
    show f_X7_round_b31 z (nI n) a (nI n) N = _
    unfold f_X7_round_b31
    rw [if_pos (nI_le (by omega) (by omega))]) n FU 0 x1 (by omega) (show n < 5000 by omega) l1).1
  exact ⟨_, _, _, e1, e2, h⟩
-- what was said
abbrev Said : Type := Int32 × Int32 × Int32 × Int32 × Int32
/-- one saying more is asked: how many, the first, what all have, what any has, the nearest -/
def sdT (S : Nat → Int32) (w : Nat) (y x : Int32) (v : Nat) (t : Said) : Said := if mkS S w (nI v) = y then (t.1 + 1, (if t.1 = 0 then nI v else t.2.1), t.2.2.1 &&& nI v, t.2.2.2.1 ||| nI v, (if t.2.2.2.2 ≤ nI (pcn (ix (nI v ^^^ x))) then t.2.2.2.2 else nI (pcn (ix (nI v ^^^ x))))) else t
def sdS (S : Nat → Int32) (w : Nat) (y x : Int32) (n : Nat) : Said := itr (sdT S w y x) n 0 (0, -1, 4095, 0, 99)
def sdM (N : Mem) : Said := (N 59 6, N 59 7, N 59 8, N 59 9, N 59 10)
theorem itr_hom {σ τ : Type} (f : σ → τ) {st : Nat → σ → σ} {st' : Nat → τ → τ} (h : ∀ i s, f (st i s) = st' i (f s)) : ∀ (d i : Nat) (s : σ), f (itr st d i s) = itr st' d i (f s) := by
  intro d
  induction d with
  | zero => intro i s; rfl
  | succ d ih => intro i s; show f (itr st d (i + 1) (st i s)) = itr st' d (i + 1) (st' i (f s)); rw [ih, h]
def TS : Nat → Nat → Prop := fun i k => i = 59 ∧ 6 ≤ k ∧ k ≤ 10
def sdN (S : Nat → Int32) (w : Nat) (y x : Int32) (v : Nat) (N : Mem) : Mem := if mkS S w (nI v) = y then up (up (up (up (up N 59 7 (if N 59 6 = 0 then nI v else N 59 7)) 59 6 (N 59 6 + 1)) 59 8 (N 59 8 &&& nI v)) 59 9 (N 59 9 ||| nI v)) 59 10 (if N 59 10 ≤ nI (pcn (ix (nI v ^^^ x))) then N 59 10 else nI (pcn (ix (nI v ^^^ x)))) else N
theorem sdN_M (S : Nat → Int32) (w : Nat) (y x : Int32) (v : Nat) (N : Mem) : sdM (sdN S w y x v N) = sdT S w y x v (sdM N) := by
  unfold sdN sdT
  by_cases h : mkS S w (nI v) = y
  · rw [if_pos h, if_pos h]
    unfold sdM
    simp [up_ap]
  · rw [if_neg h, if_neg h]
theorem sdN_fr {S : Nat → Int32} {w : Nat} {y x : Int32} {v : Nat} {N N0 : Mem} (f : Fr TS N0 N) : Fr TS N0 (sdN S w y x v N) := by
  unfold sdN
  split
  · exact ((((f.put rfl (by unfold TS; omega)).put rfl (by unfold TS; omega)).put rfl (by unfold TS; omega)).put rfl (by unfold TS; omega)).put rfl (by unfold TS; omega)
  · exact f
theorem m_find (o : Ok (N 60) nw np) {w : Nat} (hw : w < nw) (y : Int32) {x : Int32} (hx : Lt x 4096) : ∃ N1, f_X7_findSaid (nI w) y x N = some N1 ∧ sdM N1 = sdS (N 60) w y x 4096 ∧ Fr TS N N1 := by
  let N5 : Mem := up (up (up (up (up N 59 6 0) 59 7 (-1)) 59 8 4095) 59 9 0) 59 10 99
  have f5 : Fr TS N N5 := (((((Fr.rf (T := TS) (M := N)).put rfl (by unfold TS; omega)).put rfl (by unfold TS; omega)).put rfl (by unfold TS; omega)).put rfl (by unfold TS; omega)).put rfl (by unfold TS; omega)
  have e := lp_itr (fun _ _ _ _ _ => none) (f_X7_findSaid_b31) (fun z i (N' : Mem) => z (nI w) y x i N') (sdN (N 60) w y x) (fun N' => some N') 4096 (fun _ N' => Fr TS N N') (by
    intro z i N' hi hf
    refine ⟨?_, sdN_fr hf⟩
    have e60 : N' 60 = N 60 := funext fun k => hf _ _ (by unfold TS; omega)
    show f_X7_findSaid_b31 z (nI w) y x (nI i) N' = z (nI w) y x (nI (i + 1)) (sdN (N 60) w y x i N')
    unfold f_X7_findSaid_b31 sdN
    rw [if_neg (show ¬ (4096 : Int32) ≤ nI i from nI_ge (b := 4096) hi (by decide)), mw_put (by rw [e60]; exact o) hw (nI_lt4096 hi), bs, e60]
    by_cases hy : mkS (N 60) w (nI i) = y
    · rw [if_pos hy, if_pos hy]
      unfold f_X7_findSaid_j67
      simp only [letv, m_onesL (xor_lt (nI_lt4096 hi) hx), bs, up_ap, nI_1]
      by_cases hc : N' 59 6 = 0
      · rw [if_pos hc, if_pos hc]
        simp
        split <;> rfl
      · rw [if_neg hc, if_neg hc]
        simp
        split <;> rfl
    · rw [if_neg hy, if_neg hy, nI_1]) (by
    intro z N' _
    show f_X7_findSaid_b31 z (nI w) y x (nI 4096) N' = _
    unfold f_X7_findSaid_b31
    rw [if_pos (by decide)]) 4096 FU 0 N5 (by omega) (show 4096 < 5000 by omega) f5
  refine ⟨_, e.1, ?_, e.2⟩
  rw [itr_hom sdM (fun i s => sdN_M (N 60) w y x i s)]
  unfold sdS
  congr 1
end ST6
