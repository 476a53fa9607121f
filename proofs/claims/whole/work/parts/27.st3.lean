section ST3
variable {b : Nat} {M N : Mem} {S : Nat → Int32} {nw np : Nat}
theorem and256 {x : Int32} (hx : Lt x 256) (y : Int32) : Lt (x &&& y) 256 := by
  obtain ⟨n, h, rfl⟩ := hx
  have e : nI n &&& y = (nI n &&& y) &&& 255 := by
    have e2 : nI n &&& 255 = nI n := by
      rw [pk_andN (show n < 2 ^ 32 by omega) 8 (by decide)]
      congr 1
      omega
    rw [Int32.and_assoc, Int32.and_comm y 255, ← Int32.and_assoc, e2]
  obtain ⟨j, hj, hj2⟩ := pk_andE (nI n &&& y) (m := 255) 8 (by decide)
  exact ⟨j, hj, e.trans hj2⟩
theorem or256 {x y : Int32} (hx : Lt x 256) (hy : Lt y 256) : Lt (x ||| y) 256 := by
  obtain ⟨a, ha, rfl⟩ := hx
  obtain ⟨c, hb, rfl⟩ := hy
  exact ⟨a ||| c, Nat.or_lt_two_pow (n := 8) ha hb, nx_or a c⟩
theorem sh8_0 : ∀ q, q < 8 → (1 : Int32) <<< (nI q &&& 31) = nI (2 ^ q) ∧ 2 ^ q < 256 := by decide
theorem sh8 {q : Nat} (hq : q < 8) : Lt ((1 : Int32) <<< (nI q &&& 31)) 256 := ⟨2 ^ q, (sh8_0 q hq).2, (sh8_0 q hq).1⟩
theorem sh12_0 : ∀ q, q < 12 → (1 : Int32) <<< (nI q &&& 31) = nI (2 ^ q) ∧ 2 ^ q < 4096 := by decide
theorem sh12 {q : Nat} (hq : q < 12) : Lt ((1 : Int32) <<< (nI q &&& 31)) 4096 := ⟨2 ^ q, (sh12_0 q hq).2, (sh12_0 q hq).1⟩
theorem Lt.mono {x : Int32} {a c : Nat} (h : Lt x a) (hc : a ≤ c) : Lt x c := h.imp fun j hj => ⟨by omega, hj.2⟩
/-- a tie's one end, set or taken away -/
def tiV (t : Int32) (q : Nat) (z : Int32) : Int32 := if z = 0 then t &&& (((1 : Int32) <<< (nI q &&& 31)) ^^^ (-1 : Int32)) else t ||| ((1 : Int32) <<< (nI q &&& 31))
theorem tiV_lt {t : Int32} (ht : Lt t 256) {q : Nat} (hq : q < 8) (z : Int32) : Lt (tiV t q z) 256 := by
  unfold tiV
  split
  · exact and256 ht _
  · exact or256 ht (sh8 hq)
def tiS (S : Nat → Int32) (p q : Nat) (z : Int32) : Nat → Int32 := upd (upd S (81 + p) (tiV (S (81 + p)) q z)) (81 + q) (tiV (upd S (81 + p) (tiV (S (81 + p)) q z) (81 + q)) p z)
theorem bit_z : ∀ k, k < 8 → bit 0 k = false := by decide
theorem tiV_1 : ∀ t, t < 256 → ∀ q, q < 8 → ∀ k, k < 8 → bit (nI t ||| ((1 : Int32) <<< (nI q &&& 31))) k = (decide (k = q) || bit (nI t) k) := by decide +kernel
theorem tiV_0 : ∀ t, t < 256 → ∀ q, q < 8 → ∀ k, k < 8 → bit (nI t &&& (((1 : Int32) <<< (nI q &&& 31)) ^^^ (-1 : Int32))) k = (decide (k ≠ q) && bit (nI t) k) := by decide +kernel
theorem tiV_b {t : Int32} (ht : Lt t 256) {q k : Nat} (hq : q < 8) (hk : k < 8) (z : Int32) : bit (tiV t q z) k = if k = q then decide (z ≠ 0) else bit t k := by
  obtain ⟨t, h, rfl⟩ := ht
  unfold tiV
  by_cases hz : z = 0
  · rw [if_pos hz, tiV_0 t h q hq k hk]
    by_cases e : k = q
    · rw [if_pos e]; simp [e, hz]
    · rw [if_neg e]; simp [e]
  · rw [if_neg hz, tiV_1 t h q hq k hk]
    by_cases e : k = q
    · rw [if_pos e]; simp [e, hz]
    · rw [if_neg e]; simp [e]
theorem ti_b (h : ∀ p, p < 8 → Lt (S (81 + p)) 256) {p q i k : Nat} (hp : p < 8) (hq : q < 8) (hi : i < 8) (hk : k < 8) (z : Int32) : bit (tiS S p q z (81 + i)) k = if (i = p ∧ k = q) ∨ (i = q ∧ k = p) then decide (z ≠ 0) else bit (S (81 + i)) k := by
  have e1 : ∀ i, i < 8 → Lt (upd S (81 + p) (tiV (S (81 + p)) q z) (81 + i)) 256 ∧ bit (upd S (81 + p) (tiV (S (81 + p)) q z) (81 + i)) k = if i = p ∧ k = q then decide (z ≠ 0) else bit (S (81 + i)) k := by
    intro i hi
    by_cases e : i = p
    · subst e
      rw [upd_eq, tiV_b (h i hi) hq hk]
      refine ⟨tiV_lt (h i hi) hq z, ?_⟩
      by_cases y : k = q
      · rw [if_pos y, if_pos ⟨rfl, y⟩]
      · rw [if_neg y, if_neg (fun y' => y y'.2)]
    · rw [upd_ne (by omega), if_neg (fun y => e y.1)]
      exact ⟨h i hi, rfl⟩
  unfold tiS
  by_cases e : i = q
  · subst e
    rw [upd_eq, tiV_b (e1 i hi).1 hp hk, (e1 i hi).2]
    by_cases y : k = p
    · rw [if_pos y, if_pos (Or.inr ⟨rfl, y⟩)]
    · rw [if_neg y]
      by_cases x : i = p ∧ k = i
      · rw [if_pos x, if_pos (Or.inl x)]
      · rw [if_neg x, if_neg (by omega)]
  · rw [upd_ne (by omega), (e1 i hi).2]
    by_cases x : i = p ∧ k = q
    · rw [if_pos x, if_pos (Or.inl x)]
    · rw [if_neg x, if_neg (by omega)]
theorem Ok.ti (o : Ok S nw np) {p q : Nat} (hp : p < np) (hq : q < np) (z : Int32) : Ok (tiS S p q z) nw np := by
  have h8 := o.1.2.1
  have hp' : p < 8 := by omega
  have hq' : q < 8 := by omega
  have h := fun p hp => (o.2.2.1 p hp).2.2.2.2
  refine Ok.setT2 o hp' hq' (tiV_lt (h p hp') hq' z) (tiV_lt (updP (P := fun x => Lt x 256) (fun _ => tiV_lt (h p hp') hq' z) (h q hq')) hp' z) ?_
  intro i k hi hk
  have a := o.1.2.2.2.2.2 i k hi hk
  refine ⟨?_, fun y => ?_⟩
  · refine (ti_b h hp' hq' hi hk z).trans (Eq.trans ?_ (ti_b h hp' hq' hk hi z).symm)
    by_cases x : (i = p ∧ k = q) ∨ (i = q ∧ k = p)
    · rw [if_pos x, if_pos (by omega)]
    · rw [if_neg x, if_neg (by omega)]; exact a.1
  · refine (ti_b h hp' hq' hi hk z).trans ?_
    rw [if_neg (by omega)]
    exact a.2 y
theorem tiV_u0 : ∀ t, t < 256 → ∀ q, q < 8 → bit (nI t) q = false → (nI t ||| ((1 : Int32) <<< (nI q &&& 31))) &&& (((1 : Int32) <<< (nI q &&& 31)) ^^^ (-1 : Int32)) = nI t := by decide +kernel
theorem tiV_u {t : Int32} (ht : Lt t 256) {q : Nat} (hq : q < 8) (h : bit t q = false) : tiV (tiV t q 1) q 0 = t := by
  obtain ⟨t, ht, rfl⟩ := ht
  unfold tiV
  rw [if_pos rfl, if_neg (by decide)]
  exact tiV_u0 t ht q hq h
theorem ti_undo (h : ∀ p, p < 8 → Lt (S (81 + p)) 256) {p q : Nat} (hp : p < 8) (hq : q < 8) (hpq : p ≠ q) (h1 : bit (S (81 + p)) q = false) (h2 : bit (S (81 + q)) p = false) : tiS (tiS S p q 1) p q 0 = S := by
  have n1 : 81 + p ≠ 81 + q := by omega
  have n2 : 81 + q ≠ 81 + p := by omega
  funext k
  unfold tiS
  by_cases e : k = 81 + q
  · subst e
    rw [upd_eq, upd_ne n2, upd_eq, upd_ne n2]
    exact tiV_u (h q hq) hp h2
  · rw [upd_ne e]
    by_cases e' : k = 81 + p
    · subst e'
      rw [upd_eq, upd_ne n1, upd_eq]
      exact tiV_u (h p hp) hq h1
    · rw [upd_ne e', upd_ne e, upd_ne e']
theorem xw_bind (h : RW b M S) {p q : Nat} (hp : p < 8) (hq : q < 8) (z : Int32) : ∃ M1, f_X0_bind (b + 8) (nI p) (nI q) z M = some M1 ∧ RW b M1 (tiS S p q z) := by
  have h1 := h.setT hp (tiV (S (81 + p)) q z)
  have h2 := h1.setT hq (tiV (upd S (81 + p) (tiV (S (81 + p)) q z) (81 + q)) p z)
  have e1 := (h.2.2.1 p hp).2.2.2.2.2
  have e2 := (h1.2.2.1 q hq).2.2.2.2.2
  refine ⟨_, ?_, h2⟩
  unfold f_X0_bind
  simp only [ck_pos (vp_in_nI (N := 8) hp (by decide)), ck_pos (vp_in_nI (N := 8) hq (by decide)), ix_nI (show p < 2 ^ 31 by omega), ix_nI (show q < 2 ^ 31 by omega), letv]
  unfold tiV at e2 ⊢
  by_cases hz : z = 0
  · simp only [if_pos hz] at e2 ⊢
    rw [e1, e2]
  · simp only [if_neg hz] at e2 ⊢
    rw [e1, e2]
theorem mw_joins {p q : Nat} (hp : p < 8) (hq : q < 8) (z : Int32) (N : Mem) : ∃ N1, f_X7_joins (nI p) (nI q) z N = some N1 ∧ N1 60 = tiS (N 60) p q z ∧ Fr (fun i k => i = 60) N N1 := by
  refine ⟨up (up N 60 (81 + p) (tiV (N 60 (81 + p)) q z)) 60 (81 + q) (tiV ((up N 60 (81 + p) (tiV (N 60 (81 + p)) q z)) 60 (81 + q)) p z), ?_, ?_, ((Fr.rf (T := fun i _ => i = 60)).put rfl rfl).put rfl rfl⟩
  · unfold f_X7_joins f_X7_joins_j43
    simp only [m_81 hp, m_81 hq, ck_pos (vp_in_nI (N := 99) (show 81 + p < 99 by omega) (by decide)), ck_pos (vp_in_nI (N := 99) (show 81 + q < 99 by omega) (by decide)), ix_nI (show 81 + p < 2 ^ 31 by omega), ix_nI (show 81 + q < 2 ^ 31 by omega), letv]
    unfold tiV
    by_cases hz : z = 0
    · simp only [if_pos hz]
    · simp only [if_neg hz]
  · rw [up_eq, up_eq]
    rfl
theorem xw_tied (h : RW b M S) (o : Ok S nw np) {p q : Nat} (hp : p < 8) (hq : q < 8) : f_X0_isTied (b + 8) (nI p) (nI q) M = some (bit (S (81 + p)) q) := by
  unfold f_X0_isTied
  rw [ck_pos (vp_in_nI (N := 8) hp (by decide)), ix_nI (by omega), (h.2.2.1 p hp).2.2.2.2.2, bit_if ((o.2.2.1 p hp).2.2.2.2.mono (by decide)) (by omega)]
  cases bit (S (81 + p)) q <;> rfl
theorem st_tie (h : Rel M N) (x1 x2 x3 : Int32) : Sim (f_X6_tie x1 x2 x3 M) (f_X7_tie x1 x2 x3 N) := by
  obtain ⟨w, nw, np, o⟩ := h.1
  have h8 := o.1.2.1
  unfold f_X6_tie f_X7_tie
  rw [x_areTwo, hP w o, m_isTwo x1 x2 o.1.2.1 o.1.2.2.2.1, bs, bs, ib, ib]
  cases h1 : (inR x1 (nI np) && (inR x2 (nI np) && decide (¬ x1 = x2)))
  · exact s_B h
  obtain ⟨a1, a2, a3⟩ := b3 h1
  obtain ⟨p, hp, rfl⟩ := inR_t (by omega) a1
  obtain ⟨q, hq, rfl⟩ := inR_t (by omega) a2
  have hp8 : p < 8 := by omega
  have hq8 : q < 8 := by omega
  obtain ⟨M1, e1, w1⟩ := xw_bind w hp8 hq8 x3
  obtain ⟨N1, e2, e3, f2⟩ := mw_joins hp8 hq8 x3 N
  have f1 := fr_X0_bind e1
  have hr : Rel M1 N1 := h.live (f1.mono (fun i k z => by unfold TCl; omega)) (f2.mono (fun i k z => by unfold TMl; omega)) (by rw [e3]; exact w1) ⟨nw, np, by rw [e3]; exact o.ti hp hq x3⟩
  rw [if_pos rfl, if_pos rfl, m_81 hp8, ck_pos (vp_in_nI (by omega) (by decide)), ix_nI (by omega), m_has, show f_X0_isTied 9 (nI p) (nI q) M = _ from xw_tied w o hp8 hq8, show f_X0_bind 9 (nI p) (nI q) x3 M = _ from e1, e2]
  simp only [bs, ib]
  cases bit (N 60 (81 + p)) q
  · exact ⟨_, _, _, rfl, rfl, hr⟩
  · exact ⟨_, _, _, rfl, rfl, hr⟩
-- a new writer
def nwS (S : Nat → Int32) (n : Nat) (kd : Int32) : Nat → Int32 := upd (upd (upd (upd (upd (upd (upd S (5 + 6 * n + 0) kd) (5 + 6 * n + 1) 0) (5 + 6 * n + 2) 0) (5 + 6 * n + 3) 0) (5 + 6 * n + 4) 4) (5 + 6 * n + 5) 0) 0 (nI (n + 1))
theorem Ok.newW (o : Ok S nw np) (hn : nw < 6) {kd : Int32} (hk : Lt kd 7) : Ok (nwS S nw kd) (nw + 1) np := by
  have z : Lt (0 : Int32) 4096 := ⟨0, by decide, rfl⟩
  have o0 := o.setW (k := 0) hn (by decide) (v := kd) (fun _ => hk) (by omega) (by omega)
  have o1 := o0.setW (k := 1) hn (by decide) (v := 0) (by omega) (fun _ _ => z) (by omega)
  have o2 := o1.setW (k := 2) hn (by decide) (v := 0) (by omega) (fun _ _ => z) (by omega)
  have o3 := o2.setW (k := 3) hn (by decide) (v := 0) (by omega) (fun _ _ => z) (by omega)
  have o4 := o3.setW (k := 4) hn (by decide) (v := 4) (by omega) (by omega) (fun _ => ⟨4, by decide, rfl⟩)
  have o5 := o4.setW (k := 5) hn (by decide) (v := 0) (by omega) (by omega) (by omega)
  exact o5.moreW hn
theorem xw_addW (h : RW b M S) (o : Ok S nw np) (hn : nw < 6) (kd : Int32) : ∃ M1, f_X5_addOne (b + 1) kd M = some (nI nw, M1) ∧ RW b M1 (nwS S nw kd) := by
  have w0 := h.set1 (i := b + 1) (c := 0) (q := 0) (Or.inl ⟨rfl, rfl, rfl⟩) (nI (nw + 1))
  have w1 := w0.setW (k := 0) hn (by decide) kd
  have w2 := w1.setW (k := 1) hn (by decide) 0
  have w3 := w2.setW (k := 2) hn (by decide) 0
  have w4 := w3.setW (k := 3) hn (by decide) 0
  have w5 := w4.setW (k := 4) hn (by decide) 4
  have w6 := w5.setW (k := 5) hn (by decide) 0
  refine ⟨_, ?_, w6.cg (fun k hk => ?_)⟩
  · unfold f_X5_addOne
    rw [h.1.1, o.1.2.2.1, if_pos (show nI nw < 6 from nI_lt (b := 6) hn (by decide))]
    simp only [letv, ck_pos (vp_in_nI (N := 6) hn (by decide)), ix_nI (show nw < 2 ^ 31 by omega), nI_1]
  · unfold nwS
    simp only [upd_if]
    have hk : k = 0 ∨ k = 5 + 6 * nw + 0 ∨ k = 5 + 6 * nw + 1 ∨ k = 5 + 6 * nw + 2 ∨ k = 5 + 6 * nw + 3 ∨ k = 5 + 6 * nw + 4 ∨ k = 5 + 6 * nw + 5 ∨ (k ≠ 0 ∧ k ≠ 5 + 6 * nw + 0 ∧ k ≠ 5 + 6 * nw + 1 ∧ k ≠ 5 + 6 * nw + 2 ∧ k ≠ 5 + 6 * nw + 3 ∧ k ≠ 5 + 6 * nw + 4 ∧ k ≠ 5 + 6 * nw + 5) := by omega
    rcases hk with z | z | z | z | z | z | z | ⟨z0, z1, z2, z3, z4, z5, z6⟩
    · rw [if_pos z, if_neg (by omega), if_neg (by omega), if_neg (by omega), if_neg (by omega), if_neg (by omega), if_neg (by omega), if_pos z]
    · rw [if_neg (by omega), if_neg (by omega), if_neg (by omega), if_neg (by omega), if_neg (by omega), if_neg (by omega), if_pos z, if_neg (by omega), if_neg (by omega), if_neg (by omega), if_neg (by omega), if_neg (by omega), if_pos z]
    · rw [if_neg (by omega), if_neg (by omega), if_neg (by omega), if_neg (by omega), if_neg (by omega), if_pos z, if_neg (by omega), if_neg (by omega), if_neg (by omega), if_neg (by omega), if_pos z]
    · rw [if_neg (by omega), if_neg (by omega), if_neg (by omega), if_neg (by omega), if_pos z, if_neg (by omega), if_neg (by omega), if_neg (by omega), if_pos z]
    · rw [if_neg (by omega), if_neg (by omega), if_neg (by omega), if_pos z, if_neg (by omega), if_neg (by omega), if_pos z]
    · rw [if_neg (by omega), if_neg (by omega), if_pos z, if_neg (by omega), if_pos z]
    · rw [if_neg (by omega), if_pos z, if_pos z]
    · simp only [if_neg z0, if_neg z1, if_neg z2, if_neg z3, if_neg z4, if_neg z5, if_neg z6]
theorem mw_newW {N : Mem} (o : Ok (N 60) nw np) (hn : nw < 6) (kd : Int32) : ∃ N1, f_X7_newWriter kd N = some (nI nw, N1) ∧ (∀ k, k < 99 → N1 60 k = nwS (N 60) nw kd k) ∧ Fr (fun i k => i = 60) N N1 := by
  let st : Nat → Mem → Mem := fun i M => up M 60 (5 + 6 * nw + i) 0
  let Z : Mem := itr st 6 0 N
  have hl := (lp_itr (fun _ _ _ _ => none) (f_X7_newWriter_b9) (fun z i (M : Mem) => z kd (nI nw) i M) st (fun M => f_X7_newWriter_b9 (fun _ _ _ _ => none) kd (nI nw) 6 M) 6 (fun _ _ => True) (by
    intro z i M hi _
    refine ⟨?_, trivial⟩
    show f_X7_newWriter_b9 z kd (nI nw) (nI i) M = z kd (nI nw) (nI (i + 1)) (up M 60 (5 + 6 * nw + i) 0)
    unfold f_X7_newWriter_b9
    rw [if_neg (show ¬ (6 : Int32) ≤ nI i from nI_ge (b := 6) hi (by decide)), m_at, bs, ck_pos (vp_in_nI (by omega) (by decide)), ix_nI (by omega), nI_1]
    rfl) (by
    intro z M _
    show f_X7_newWriter_b9 z kd (nI nw) (nI 6) M = f_X7_newWriter_b9 _ kd (nI nw) 6 M
    unfold f_X7_newWriter_b9
    rw [if_pos (show (6 : Int32) ≤ nI 6 by decide), if_pos (show (6 : Int32) ≤ 6 by decide)]) 6 FU 0 N (by omega) (show 6 < 5000 by decide) trivial).1
  have z0 : Z 60 0 = nI nw := by
    show (itr st 6 0 N) 60 0 = nI nw
    simp only [itr, st, up_ap]
    rw [if_neg (by omega), if_neg (by omega), if_neg (by omega), if_neg (by omega), if_neg (by omega), if_neg (by omega)]
    exact o.1.2.2.1
  have fz : Fr (fun i k => i = 60) N Z := by
    show Fr _ N (itr st 6 0 N)
    exact itr_P (P := fun M => Fr (fun i k => i = 60) N M) 6 0 N (fun j s _ _ hf => hf.put rfl rfl) Fr.rf
  refine ⟨up (up (up Z 60 (5 + 6 * nw + 0) kd) 60 (5 + 6 * nw + 4) 4) 60 0 (nI (nw + 1)), ?_, fun k hk => ?_, ((fz.put rfl rfl).put rfl rfl).put rfl rfl⟩
  · unfold f_X7_newWriter
    rw [ck_pos vl_0, ix_0, o.1.2.2.1]
    show f_X7_newWriter_l9 FU kd (nI nw) (nI 0) N = _
    refine hl.trans ?_
    show f_X7_newWriter_b9 _ kd (nI nw) 6 Z = _
    unfold f_X7_newWriter_b9
    rw [if_pos (by decide), show f_X7_at (nI nw) 0 Z = _ from m_at nw 0 Z, bs, ck_pos (vp_in_nI (by omega) (by decide)), ix_nI (by omega)]
    simp only [letv, show ∀ M, f_X7_at (nI nw) 4 M = _ from fun M => m_at nw 4 M, bs, ck_pos (vp_in_nI (N := 99) (show 5 + 6 * nw + 4 < 99 by omega) (by decide)), ix_nI (show 5 + 6 * nw + 4 < 2 ^ 31 by omega), ck_pos vl_0, ix_0]
    rw [up_ap, if_neg (by omega), up_ap, if_neg (by omega), z0, nI_1]
  · unfold nwS
    rw [up_eq]
    simp only [upd_if, up_ap, true_and]
    show _ = _
    have hZ : Z 60 k = if k = 5 + 6 * nw + 5 then 0 else if k = 5 + 6 * nw + 4 then 0 else if k = 5 + 6 * nw + 3 then 0 else if k = 5 + 6 * nw + 2 then 0 else if k = 5 + 6 * nw + 1 then 0 else if k = 5 + 6 * nw + 0 then 0 else N 60 k := by
      show (itr st 6 0 N) 60 k = _
      simp only [itr, st, up_ap, true_and, Nat.zero_add]
    rw [hZ]
    have hk : k = 0 ∨ k = 5 + 6 * nw + 0 ∨ k = 5 + 6 * nw + 1 ∨ k = 5 + 6 * nw + 2 ∨ k = 5 + 6 * nw + 3 ∨ k = 5 + 6 * nw + 4 ∨ k = 5 + 6 * nw + 5 ∨ (k ≠ 0 ∧ k ≠ 5 + 6 * nw + 0 ∧ k ≠ 5 + 6 * nw + 1 ∧ k ≠ 5 + 6 * nw + 2 ∧ k ≠ 5 + 6 * nw + 3 ∧ k ≠ 5 + 6 * nw + 4 ∧ k ≠ 5 + 6 * nw + 5) := by omega
    by_cases z : k = 0
    · rw [if_pos z, if_pos z]
    rw [if_neg z, if_neg z]
    by_cases z4 : k = 5 + 6 * nw + 4
    · rw [if_pos z4, if_neg (by omega), if_pos z4]
    rw [if_neg z4]
    by_cases z0 : k = 5 + 6 * nw + 0
    · rw [if_pos z0, if_neg (by omega), if_neg z4, if_neg (by omega), if_neg (by omega), if_neg (by omega), if_pos z0]
    rw [if_neg z0]
    by_cases z5 : k = 5 + 6 * nw + 5
    · rw [if_pos z5, if_pos z5]
    rw [if_neg z5, if_neg z5, if_neg z4, if_neg z4]
    by_cases z3 : k = 5 + 6 * nw + 3
    · rw [if_pos z3, if_pos z3]
    rw [if_neg z3, if_neg z3]
    by_cases z2 : k = 5 + 6 * nw + 2
    · rw [if_pos z2, if_pos z2]
    rw [if_neg z2, if_neg z2]
    by_cases z1 : k = 5 + 6 * nw + 1
    · rw [if_pos z1, if_pos z1]
    rw [if_neg z1, if_neg z1, if_neg z0, if_neg z0]
theorem st_writer (h : Rel M N) (x1 : Int32) : Sim (f_X6_writer x1 M) (f_X7_writer x1 N) := by
  obtain ⟨w, nw, np, o⟩ := h.1
  unfold f_X6_writer f_X7_writer
  rw [x_isKind, m_isLaw, show lawB 0 x1 = inR x1 7 from rfl, bs, bs, ib, ib]
  cases h1 : inR x1 7
  · exact s_B h
  rw [if_pos rfl, if_pos rfl, ck_pos vl_0, ix_0, o.1.2.2.1]
  by_cases hn : nw < 6
  · obtain ⟨M1, e1, w1⟩ := xw_addW w o hn x1
    obtain ⟨N1, e2, e3, f2⟩ := mw_newW o hn x1
    have f1 := fr_X5_addOne e1
    rw [show f_X5_addOne 2 x1 M = _ from e1, e2, if_neg (show ¬ nI nw = 6 from fun z => by have := (nI_eq (b := 6) (by omega) (by decide)).mp z; omega)]
    simp only [bs]
    rw [if_pos (nI_pos' (by omega))]
    refine ⟨_, _, _, rfl, rfl, h.live (f1.mono (fun i k z => by unfold TCl; omega)) (f2.mono (fun i k z => by unfold TMl; omega)) (w1.cg e3) ⟨nw + 1, np, (o.newW hn (lt7 h1)).cg e3⟩⟩
  · have e6 : nw = 6 := by have := o.1.1; omega
    have e : f_X5_addOne 2 x1 M = some (-1, M) := by
      unfold f_X5_addOne
      rw [hW w o, e6, if_neg (by decide)]
    rw [e, e6, if_pos (by decide), bs, if_neg (show ¬ (0 : Int32) ≤ -1 by decide)]
    exact s_F h
-- a new person
def npS (S : Nat → Int32) (n : Nat) (hd : Int32) : Nat → Int32 := upd (upd (upd (upd (upd (upd (upd S (41 + 5 * n + 0) 0) (41 + 5 * n + 1) 0) (41 + 5 * n + 2) hd) (41 + 5 * n + 3) 100) (41 + 5 * n + 4) 0) (81 + n) 0) 1 (nI (n + 1))
theorem Sy.zr (h : Sy S np) : Sy (upd S (81 + np) 0) np := by
  have z : ∀ i k, i < 8 → k < 8 → bit (upd S (81 + np) 0 (81 + i)) k = bit (S (81 + i)) k := by
    intro i k hi hk
    by_cases e : i = np
    · subst e
      rw [upd_eq, (h i k hi hk).1, (h k i hk hi).2 (Nat.le_refl _)]
      exact bit_z k hk
    · rw [upd_ne (by omega)]
  intro i k hi hk
  rw [z i k hi hk, z k i hk hi]
  exact h i k hi hk
theorem Ok.newP (o : Ok S nw np) (hn : np < 8) {hd : Int32} (hh : Lt hd nw) : Ok (npS S np hd) nw (np + 1) := by
  have z : Lt (0 : Int32) 4096 := ⟨0, by decide, rfl⟩
  have o0 := o.setP (k := 0) hn (by decide) (v := 0) (fun _ => z) (by omega) (by omega)
  have o1 := o0.setP (k := 1) hn (by decide) (v := 0) (fun _ => z) (by omega) (by omega)
  have o2 := o1.setP (k := 2) hn (by decide) (v := hd) (by omega) (fun _ _ => hh) (by omega)
  have o3 := o2.setP (k := 3) hn (by decide) (v := 100) (by omega) (by omega) (by omega)
  have o4 := o3.setP (k := 4) hn (by decide) (v := 0) (by omega) (by omega) (fun _ => Or.inl rfl)
  have o5 := o4.setT hn (v := 0) ⟨0, by decide, rfl⟩ (Sy.zr o4.1.2.2.2.2.2)
  refine o5.moreP hn ?_
  rw [upd_ne (by omega), upd_ne (by omega), upd_ne (by omega), upd_eq]
  exact hh
theorem xw_addP (h : RW b M S) (o : Ok S nw np) (hn : np < 8) (hd : Int32) : ∃ M1, f_X0_addOne (b + 8) hd M = some (nI np, M1) ∧ RW b M1 (npS S np hd) := by
  have w0 := h.set1 (i := b + 8) (c := 0) (q := 1) (Or.inr (Or.inl ⟨rfl, rfl, rfl⟩)) (nI (np + 1))
  have w1 := w0.setP (k := 0) hn (by decide) 0
  have w2 := w1.setP (k := 1) hn (by decide) 0
  have w3 := w2.setP (k := 2) hn (by decide) hd
  have w4 := w3.setP (k := 3) hn (by decide) 100
  have w5 := w4.setP (k := 4) hn (by decide) 0
  have w6 := w5.setT hn 0
  refine ⟨_, ?_, w6.cg (fun k hk => ?_)⟩
  · unfold f_X0_addOne
    rw [h.1.2.1, o.1.2.2.2.1, if_pos (show nI np < 8 from nI_lt (b := 8) hn (by decide))]
    simp only [letv, ck_pos (vp_in_nI (N := 8) hn (by decide)), ix_nI (show np < 2 ^ 31 by omega), nI_1]
  · unfold npS
    simp only [upd_if]
    by_cases z : k = 1
    · rw [if_pos z, if_neg (by omega), if_neg (by omega), if_neg (by omega), if_neg (by omega), if_neg (by omega), if_neg (by omega), if_pos z]
    · simp only [if_neg z]
theorem mw_newP {N : Mem} (o : Ok (N 60) nw np) (hn : np < 8) (hd : Int32) : ∃ N1, f_X7_newPerson hd N = some (nI np, N1) ∧ N1 60 = npS (N 60) np hd ∧ Fr (fun i k => i = 60) N N1 := by
  refine ⟨up (up (up (up (up (up (up N 60 (41 + 5 * np + 0) 0) 60 (41 + 5 * np + 1) 0) 60 (41 + 5 * np + 2) hd) 60 (41 + 5 * np + 3) 100) 60 (41 + 5 * np + 4) 0) 60 (81 + np) 0) 60 1 (nI (np + 1)), ?_, ?_, ((((((((Fr.rf (T := fun i _ => i = 60)).put rfl rfl).put rfl rfl).put rfl rfl).put rfl rfl).put rfl rfl).put rfl rfl).put rfl rfl)⟩
  · unfold f_X7_newPerson
    rw [ck_pos vl_1, ix_1, o.1.2.2.2.1]
    simp only [letv, show ∀ M, f_X7_where (nI np) 0 M = _ from fun M => m_where np 0 M, show ∀ M, f_X7_where (nI np) 1 M = _ from fun M => m_where np 1 M, show ∀ M, f_X7_where (nI np) 2 M = _ from fun M => m_where np 2 M, show ∀ M, f_X7_where (nI np) 3 M = _ from fun M => m_where np 3 M, show ∀ M, f_X7_where (nI np) 4 M = _ from fun M => m_where np 4 M, bs, m_81 hn, ck_pos (vp_in_nI (N := 99) (show 41 + 5 * np + 0 < 99 by omega) (by decide)), ck_pos (vp_in_nI (N := 99) (show 41 + 5 * np + 1 < 99 by omega) (by decide)), ck_pos (vp_in_nI (N := 99) (show 41 + 5 * np + 2 < 99 by omega) (by decide)), ck_pos (vp_in_nI (N := 99) (show 41 + 5 * np + 3 < 99 by omega) (by decide)), ck_pos (vp_in_nI (N := 99) (show 41 + 5 * np + 4 < 99 by omega) (by decide)), ck_pos (vp_in_nI (N := 99) (show 81 + np < 99 by omega) (by decide)), ix_nI (show 41 + 5 * np + 0 < 2 ^ 31 by omega), ix_nI (show 41 + 5 * np + 1 < 2 ^ 31 by omega), ix_nI (show 41 + 5 * np + 2 < 2 ^ 31 by omega), ix_nI (show 41 + 5 * np + 3 < 2 ^ 31 by omega), ix_nI (show 41 + 5 * np + 4 < 2 ^ 31 by omega), ix_nI (show 81 + np < 2 ^ 31 by omega), ck_pos vl_1, ix_1]
    rw [up_ap, if_neg (by omega), up_ap, if_neg (by omega), up_ap, if_neg (by omega), up_ap, if_neg (by omega), up_ap, if_neg (by omega), up_ap, if_neg (by omega), o.1.2.2.2.1, nI_1]
  · rw [up_eq, up_eq, up_eq, up_eq, up_eq, up_eq, up_eq]
    rfl
theorem st_person (h : Rel M N) (x1 : Int32) : Sim (f_X6_person x1 M) (f_X7_person x1 N) := by
  obtain ⟨w, nw, np, o⟩ := h.1
  unfold f_X6_person f_X7_person
  rw [x_has5, hW w o, m_isWriter x1 o.1.1 o.1.2.2.1, bs, bs, ib, ib]
  cases h1 : inR x1 (nI nw)
  · exact s_B h
  rw [if_pos rfl, if_pos rfl, ck_pos vl_1, ix_1, o.1.2.2.2.1]
  by_cases hn : np < 8
  · obtain ⟨M1, e1, w1⟩ := xw_addP w o hn x1
    obtain ⟨N1, e2, e3, f2⟩ := mw_newP o hn x1
    have f1 := fr_X0_addOne e1
    rw [show f_X0_addOne 9 x1 M = _ from e1, e2, if_neg (show ¬ nI np = 8 from fun z => by have := (nI_eq (b := 8) (by omega) (by decide)).mp z; omega)]
    simp only [bs]
    rw [if_pos (nI_pos' (by omega))]
    refine ⟨_, _, _, rfl, rfl, h.live (f1.mono (fun i k z => by unfold TCl; omega)) (f2.mono (fun i k z => by unfold TMl; omega)) (by rw [e3]; exact w1) ⟨nw, np + 1, by rw [e3]; exact o.newP hn (inR_t (by have := o.1.1; omega) h1)⟩⟩
  · have e6 : np = 8 := by have := o.1.2.1; omega
    have e : f_X0_addOne 9 x1 M = some (-1, M) := by
      unfold f_X0_addOne
      rw [hP w o, e6, if_neg (by decide)]
    rw [e, e6, if_pos (by decide), bs, if_neg (show ¬ (0 : Int32) ≤ -1 by decide)]
    exact s_F h
end ST3
