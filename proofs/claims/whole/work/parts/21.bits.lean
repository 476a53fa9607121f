theorem lp_s {β : Type} (b0 : β) (F : β → β) (n : Nat) : lp b0 F (n + 1) = F (lp b0 F n) := rfl
def Lt (v : Int32) (n : Nat) : Prop := ∃ j, j < n ∧ v = nI j
def M0 : Mem := fun _ _ => 0
def plI (c a h x : Int32) : Int32 := if x &&& h = 0 then x &&& (c ^^^ -1) else (x &&& (c ^^^ -1)) ||| a
def sfI (x : Int32) : Int32 := (x &&& (-3841 : Int32)) ||| ((x &&& (3840 : Int32)) >>> ((4 : Int32) &&& 31))
theorem by64 {P : Nat → Prop} (h : ∀ a, a < 64 → ∀ b, b < 64 → P (64 * a + b)) : ∀ n, n < 4096 → P n := by
  intro n hn
  have := h (n / 64) (by omega) (n % 64) (by omega)
  rwa [Nat.div_add_mod] at this
def rs : Nat → Int32 → Int32
  | 0, x => x
  | n + 1, x => rs n (x &&& (x - 1))
def lsI (n : Nat) (x : Int32) : Int32 := x &&& (rs n x ^^^ -1)
def lmI : Nat → Int32 → Int32 → Int32
  | 0, _, f => f
  | n + 1, l, f => if l = 0 then f else lmI n (l &&& (l - 1)) (f ||| (l &&& (0 - l)))
def mkI (kd c a h x : Int32) : Int32 := if kd = 1 then sfI (plI c a h x) else if kd = 2 then lsI 4 (plI c a h x) else if kd = 3 then sfI (plI c a h x) ||| a else if kd = 4 then lsI 4 (plI c a h x) ||| 1 else if kd = 5 then plI c a h (x &&& 1365) else if kd = 6 then lsI 2 (plI c a h x) else plI c a h x
def smI (x : Int32) : Int32 := (x &&& (255 : Int32)) ||| ((x >>> ((8 : Int32) &&& 31)) <<< ((4 : Int32) &&& 31))
theorem sf_eq : ∀ n, n < 4096 → sfI (nI n) = smI (nI n) := by64 (by decide +kernel)
theorem ls4_eq : ∀ n, n < 4096 → lsI 4 (nI n) = lmI 4 (nI n) 0 := by64 (by decide +kernel)
theorem ls2_eq : ∀ n, n < 4096 → lsI 2 (nI n) = lmI 2 (nI n) 0 := by64 (by decide +kernel)
theorem x_least_l (x : Int32) (M : Mem) : ∀ (d m i : Nat) (r : Int32), d < m → i + d < 2 ^ 31 → f_X5_least_l4 m x (nI (i + d)) r (nI i) M = some (x &&& (rs d r ^^^ -1)) := by
  intro d
  induction d with
  | zero =>
    intro m i r hm hi
    obtain ⟨m, rfl⟩ : ∃ k, m = k + 1 := ⟨m - 1, by omega⟩
    show f_X5_least_b4 _ x (nI (i + 0)) r (nI i) M = _
    unfold f_X5_least_b4
    rw [if_pos (nI_le (by omega) (by omega))]
    rfl
  | succ d ih =>
    intro m i r hm hi
    obtain ⟨m, rfl⟩ : ∃ k, m = k + 1 := ⟨m - 1, by omega⟩
    show f_X5_least_b4 (f_X5_least_l4 m) x (nI (i + (d + 1))) r (nI i) M = _
    unfold f_X5_least_b4
    rw [if_neg (nI_ge (by omega) (by omega)), nI_1, show i + (d + 1) = (i + 1) + d by omega]
    exact ih m (i + 1) _ (by omega) (by omega)
theorem x_least (x : Int32) (n : Nat) (hn : n < 100) (M : Mem) : f_X5_least x (nI n) M = some (lsI n x) := by
  have := x_least_l x M n FU 0 x (show n < 5000 by omega) (by omega)
  rw [Nat.zero_add] at this
  exact this
theorem m_least_l (M : Mem) : ∀ (d m i : Nat) (l f : Int32), d < m → i + d < 2 ^ 31 → f_X7_leastOf_l7 m (nI (i + d)) l f (nI i) M = some (lmI d l f) := by
  intro d
  induction d with
  | zero =>
    intro m i l f hm hi
    obtain ⟨m, rfl⟩ : ∃ k, m = k + 1 := ⟨m - 1, by omega⟩
    show f_X7_leastOf_b7 _ (nI (i + 0)) l f (nI i) M = _
    unfold f_X7_leastOf_b7
    rw [if_pos (nI_le (by omega) (by omega))]
    rfl
  | succ d ih =>
    intro m i l f hm hi
    obtain ⟨m, rfl⟩ : ∃ k, m = k + 1 := ⟨m - 1, by omega⟩
    show f_X7_leastOf_b7 (f_X7_leastOf_l7 m) (nI (i + (d + 1))) l f (nI i) M = _
    unfold f_X7_leastOf_b7
    rw [if_neg (nI_ge (by omega) (by omega))]
    unfold lmI
    by_cases hl : l = 0
    · rw [if_pos hl, if_pos hl]
    · rw [if_neg hl, if_neg hl, nI_1, show i + (d + 1) = (i + 1) + d by omega]
      exact ih m (i + 1) _ _ (by omega) (by omega)
theorem m_least (x : Int32) (n : Nat) (hn : n < 100) (M : Mem) : f_X7_leastOf x (nI n) M = some (lmI n x 0) := by
  have := m_least_l M n FU 0 x 0 (show n < 5000 by omega) (by omega)
  rw [Nat.zero_add] at this
  exact this
-- bounds
theorem and_lt {n : Nat} (h : n < 4096) (y : Int32) : Lt (nI n &&& y) 4096 := by
  have e : nI n &&& y = (nI n &&& y) &&& 4095 := by
    have e2 : nI n &&& 4095 = nI n := by
      rw [pk_andN (show n < 2 ^ 32 by omega) 12 (by decide)]
      congr 1
      omega
    rw [Int32.and_assoc, Int32.and_comm y 4095, ← Int32.and_assoc, e2]
  obtain ⟨j, hj, hj2⟩ := pk_andE (nI n &&& y) (m := 4095) 12 (by decide)
  exact ⟨j, hj, e.trans hj2⟩
theorem nx_or (a b : Nat) : nI a ||| nI b = nI (a ||| b) := by
  unfold nI
  apply Int32.toBitVec_inj.mp
  apply BitVec.eq_of_toNat_eq
  simp [Nat.or_mod_two_pow]
theorem or_lt {x y : Int32} (hx : Lt x 4096) (hy : Lt y 4096) : Lt (x ||| y) 4096 := by
  obtain ⟨a, ha, rfl⟩ := hx
  obtain ⟨b, hb, rfl⟩ := hy
  exact ⟨a ||| b, Nat.or_lt_two_pow (n := 12) ha hb, nx_or a b⟩
theorem and_ltL {x : Int32} (hx : Lt x 4096) (y : Int32) : Lt (x &&& y) 4096 := by
  obtain ⟨a, ha, rfl⟩ := hx
  exact and_lt ha y
theorem pl_lt {c a h x : Int32} (ha : Lt a 4096) (hx : Lt x 4096) : Lt (plI c a h x) 4096 := by
  unfold plI
  split
  · exact and_ltL hx _
  · exact or_lt (and_ltL hx _) ha
theorem sf_lt0 : ∀ n, n < 4096 → ix (sfI (nI n)) < 4096 ∧ sfI (nI n) = nI (ix (sfI (nI n))) := by64 (by decide +kernel)
theorem sf_lt {x : Int32} (hx : Lt x 4096) : Lt (sfI x) 4096 := by
  obtain ⟨n, hn, rfl⟩ := hx
  exact ⟨_, (sf_lt0 n hn).1, (sf_lt0 n hn).2⟩
theorem ls_lt {x : Int32} (hx : Lt x 4096) (n : Nat) : Lt (lsI n x) 4096 := and_ltL hx _
theorem mk_lt {kd c a h x : Int32} (ha : Lt a 4096) (hx : Lt x 4096) : Lt (mkI kd c a h x) 4096 := by
  have p := pl_lt (c := c) (h := h) ha hx
  have p2 := pl_lt (c := c) (h := h) ha (and_ltL hx 1365)
  have o1 : Lt (1 : Int32) 4096 := ⟨1, by decide, rfl⟩
  unfold mkI
  split
  · exact sf_lt p
  split
  · exact ls_lt p 4
  split
  · exact or_lt (sf_lt p) ha
  split
  · exact or_lt (ls_lt p 4) o1
  split
  · exact p2
  split
  · exact ls_lt p 2
  exact p
-- what a writer makes of a saying
theorem x_plain {r w : Nat} (hw : w < 6) (x : Int32) (M : Mem) : f_X5_plain r (nI w) x M = some (plI (M (r + 2) w) (M (r + 3) w) (M (r + 4) w) x) := by
  unfold f_X5_plain plI
  simp only [ck_pos (vp_in_nI (N := 6) hw (by decide)), ix_nI (show w < 2 ^ 31 by omega), letv]
  split <;> rfl
theorem x_make {r w : Nat} (hw : w < 6) {M : Mem} (hin : inR (nI w) (M r 0) = true) (x : Int32) : f_X5_make r (nI w) x M = some (mkI (M (r + 1) w) (M (r + 2) w) (M (r + 3) w) (M (r + 4) w) x) := by
  unfold f_X5_make mkI
  simp only [x_has5, hin, bs, ib, if_true, ck_pos (vp_in_nI (N := 6) hw (by decide)), ix_nI (show w < 2 ^ 31 by omega), x_plain hw, show ∀ y, f_X5_least y 4 M = some (lsI 4 y) from fun y => x_least y 4 (by decide) M, show ∀ y, f_X5_least y 2 M = some (lsI 2 y) from fun y => x_least y 2 (by decide) M, show ∀ y, f_X5_softened y M = some (sfI y) from fun y => rfl]
  repeat' split
  all_goals rfl
theorem m_plain {w : Nat} (hw : w < 6) (x : Int32) (M : Mem) : f_X7_plainOf (nI w) x M = some (plI (M 60 (5 + 6 * w + 1)) (M 60 (5 + 6 * w + 2)) (M 60 (5 + 6 * w + 3)) x) := by
  unfold f_X7_plainOf plI
  simp only [show f_X7_its (nI w) 1 M = _ from m_its hw (k := 1) (by decide) M, show f_X7_its (nI w) 2 M = _ from m_its hw (k := 2) (by decide) M, show f_X7_its (nI w) 3 M = _ from m_its hw (k := 3) (by decide) M, bs]
  split
  · rw [Int32.or_zero]
  · rfl
theorem m_put {w : Nat} (hw : w < 6) {M : Mem} {x : Int32} (ha : Lt (M 60 (5 + 6 * w + 2)) 4096) (hx : Lt x 4096) : f_X7_putBy (nI w) x M = some (mkI (M 60 (5 + 6 * w)) (M 60 (5 + 6 * w + 1)) (M 60 (5 + 6 * w + 2)) (M 60 (5 + 6 * w + 3)) x) := by
  obtain ⟨n, hn, e⟩ := pl_lt (c := M 60 (5 + 6 * w + 1)) (h := M 60 (5 + 6 * w + 3)) ha hx
  unfold f_X7_putBy mkI
  simp only [m_plain hw, show f_X7_its (nI w) 0 M = some (M 60 (5 + 6 * w)) from m_its hw (k := 0) (by decide) M, show f_X7_its (nI w) 2 M = _ from m_its hw (k := 2) (by decide) M, bs, show ∀ y, f_X7_leastOf y 4 M = some (lmI 4 y 0) from fun y => m_least y 4 (by decide) M, show ∀ y, f_X7_leastOf y 2 M = some (lmI 2 y 0) from fun y => m_least y 2 (by decide) M, e, ls4_eq n hn, ls2_eq n hn, sf_eq n hn, show ∀ y, f_X7_softened y M = some (smI y) from fun y => rfl]
  repeat' split
  all_goals rfl
-- ones
def onF : Nat → Int32 → Int32 → Option Int32
  | 0, _, _ => none
  | k + 1, a, x => if x = 0 then some a else onF k (a + 1) (x &&& (x - 1))
def pc12 : Nat → Nat → Nat
  | 0, _ => 0
  | k + 1, n => n % 2 + pc12 k (n / 2)
def pcn (n : Nat) : Nat := pc12 12 n
theorem bc_0 : ∀ n, n < 4096 → f_J6_bitCount_0f7a4 (nI n) M0 = some (nI (pcn n)) := by64 (by decide +kernel)
theorem on_0 : ∀ n, n < 4096 → onF 13 0 (nI n) = some (nI (pcn n)) := by64 (by decide +kernel)
theorem pcn_lt : ∀ n, n < 4096 → pcn n < 13 := by64 (by decide +kernel)
theorem x_bc {n : Nat} (h : n < 4096) (M : Mem) : f_J6_bitCount_0f7a4 (nI n) M = some (nI (pcn n)) := bc_0 n h
theorem m_ones_l (M : Mem) : ∀ (k m : Nat) (a x v : Int32), onF k a x = some v → k ≤ m → f_X7_ones_l4 m a x M = some v := by
  intro k
  induction k with
  | zero => intro m a x v h; cases h
  | succ k ih =>
    intro m a x v h hm
    obtain ⟨m, rfl⟩ : ∃ k, m = k + 1 := ⟨m - 1, by omega⟩
    show f_X7_ones_b4 (f_X7_ones_l4 m) a x M = _
    unfold f_X7_ones_b4
    unfold onF at h
    by_cases hx : x = 0
    · rw [if_pos hx] at h ⊢; exact h
    · rw [if_neg hx] at h ⊢; exact ih m _ _ v h (by omega)
theorem m_ones {n : Nat} (h : n < 4096) (M : Mem) : f_X7_ones (nI n) M = some (nI (pcn n)) := m_ones_l M 13 FU 0 (nI n) _ (on_0 n h) (show 13 ≤ 5000 by decide)
-- a place of a set
def bit (t : Int32) (k : Nat) : Bool := decide (((t >>> (nI k &&& 31)) &&& 1) = 1)
theorem bit_0 : ∀ t, t < 4096 → ∀ k, k < 12 → (decide ((nI t &&& ((1 : Int32) <<< (nI k &&& 31))) = 0)) = !(bit (nI t) k) := by64 (by decide +kernel)
theorem m_has (t : Int32) (k : Nat) (M : Mem) : f_X7_has t (nI k) M = some (bit t k) := by
  unfold f_X7_has bit
  split
  · rename_i h; rw [decide_eq_true h]
  · rename_i h; rw [decide_eq_false h]
theorem bit_if {α : Type} {t : Int32} {k : Nat} (ht : Lt t 4096) (hk : k < 12) (A B : α) : (if (t &&& ((1 : Int32) <<< (nI k &&& 31))) = 0 then A else B) = if bit t k = true then B else A := by
  obtain ⟨n, hn, rfl⟩ := ht
  have h := bit_0 n hn k hk
  by_cases hb : bit (nI n) k = true
  · rw [hb] at h
    rw [if_pos hb, if_neg (of_decide_eq_false h)]
  · rw [if_neg hb, if_pos (of_decide_eq_true (by rw [h]; simpa using hb))]
