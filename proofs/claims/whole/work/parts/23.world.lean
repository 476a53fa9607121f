def itr {σ : Type} (st : Nat → σ → σ) : Nat → Nat → σ → σ
  | 0, _, s => s
  | d + 1, i, s => itr st d (i + 1) (st i s)
theorem lp_itr {β σ ρ : Type} (b0 : β) (F : β → β) (ap : β → Int32 → σ → Option ρ) (st : Nat → σ → σ) (fin : σ → Option ρ) (n : Nat) (P : Nat → σ → Prop)
    (hs : ∀ k i s, i < n → P i s → ap (F k) (nI i) s = ap k (nI (i + 1)) (st i s) ∧ P (i + 1) (st i s))
    (he : ∀ k s, P n s → ap (F k) (nI n) s = fin s) : ∀ (d m i : Nat) (s : σ), i + d = n → d < m → P i s → ap (lp b0 F m) (nI i) s = fin (itr st d i s) ∧ P n (itr st d i s) := by
  intro d
  induction d with
  | zero =>
    intro m i s hi hm hp
    obtain ⟨m, rfl⟩ : ∃ k, m = k + 1 := ⟨m - 1, by omega⟩
    rw [lp_s]
    have : i = n := by omega
    subst this
    exact ⟨he _ s hp, hp⟩
  | succ d ih =>
    intro m i s hi hm hp
    obtain ⟨m, rfl⟩ : ∃ k, m = k + 1 := ⟨m - 1, by omega⟩
    rw [lp_s, (hs _ i s (by omega) hp).1]
    exact ih m (i + 1) _ (by omega) (by omega) (hs (lp b0 F m) i s (by omega) hp).2
theorem itr_cg {σ : Type} {st st' : Nat → σ → σ} : ∀ (d i : Nat) (s : σ), (∀ j s, i ≤ j → j < i + d → st j s = st' j s) → itr st d i s = itr st' d i s := by
  intro d
  induction d with
  | zero => intro i s h; rfl
  | succ d ih =>
    intro i s h
    show itr st d (i + 1) (st i s) = itr st' d (i + 1) (st' i s)
    rw [h i s (by omega) (by omega)]
    exact ih (i + 1) _ (fun j s a b => h j s (by omega) (by omega))
theorem itr_P {σ : Type} {st : Nat → σ → σ} {P : σ → Prop} : ∀ (d i : Nat) (s : σ), (∀ j s, i ≤ j → j < i + d → P s → P (st j s)) → P s → P (itr st d i s) := by
  intro d
  induction d with
  | zero => intro i s h hp; exact hp
  | succ d ih =>
    intro i s h hp
    exact ih (i + 1) _ (fun j s a b => h j s (by omega) (by omega)) (h i s (by omega) (by omega) hp)
-- words of a world's row
def mkS (S : Nat → Int32) (w : Nat) (x : Int32) : Int32 := mkI (S (5 + 6 * w)) (S (5 + 6 * w + 1)) (S (5 + 6 * w + 2)) (S (5 + 6 * w + 3)) x
def hdS (S : Nat → Int32) (p : Nat) : Nat := ix (S (41 + 5 * p + 2))
def thS (S : Nat → Int32) (p : Nat) (x : Int32) : Int32 := if S (41 + 5 * p + 4) = 1 then x else mkS S (hdS S p) x
def owS (S : Nat → Int32) (p : Nat) : Int32 := S (41 + 5 * p) ||| S (41 + 5 * p + 1)
def orS (S : Nat → Int32) (np k : Nat) : Int32 := itr (fun i a => a ||| S (41 + 5 * i + k)) np 0 0
section WORLD
variable {b : Nat} {M N : Mem} {S : Nat → Int32} {nw np : Nat}
theorem Ok.hd (o : Ok S nw np) {p : Nat} (hp : p < np) : hdS S p < nw ∧ S (41 + 5 * p + 2) = nI (hdS S p) := by
  obtain ⟨j, hj, e⟩ := (o.2.2.1 p (Nat.lt_of_lt_of_le hp o.1.2.1)).2.2.1 hp
  have : hdS S p = j := by unfold hdS; rw [e]; exact ix_nI (by have := o.1.1; omega)
  rw [this]
  exact ⟨hj, e⟩
theorem mk_ltS (o : Ok S nw np) {w : Nat} (hw : w < nw) {x : Int32} (hx : Lt x 4096) : Lt (mkS S w x) 4096 := mk_lt (o.2.1 w (Nat.lt_of_lt_of_le hw o.1.1)).2.2.1 hx
theorem th_lt (o : Ok S nw np) {p : Nat} (hp : p < np) {x : Int32} (hx : Lt x 4096) : Lt (thS S p x) 4096 := by
  unfold thS
  split
  · exact hx
  · exact mk_ltS o (o.hd hp).1 hx
theorem ow_lt (o : Ok S nw np) {p : Nat} (hp : p < np) : Lt (owS S p) 4096 := or_lt (o.2.2.1 p (Nat.lt_of_lt_of_le hp o.1.2.1)).1 (o.2.2.1 p (Nat.lt_of_lt_of_le hp o.1.2.1)).2.1
theorem xw_make (h : RW b M S) (o : Ok S nw np) {w : Nat} (hw : w < nw) (x : Int32) : f_X5_make (b + 1) (nI w) x M = some (mkS S w x) := by
  have h6 : w < 6 := Nat.lt_of_lt_of_le hw o.1.1
  obtain ⟨a1, a2, a3, a4, -, -⟩ := h.2.1 w h6
  rw [x_make h6 (by rw [h.1.1, o.1.2.2.1]; exact inR_nI (by have := o.1.1; omega) hw), a1, a2, a3, a4]
  rfl
theorem mw_put (o : Ok (N 60) nw np) {w : Nat} (hw : w < nw) {x : Int32} (hx : Lt x 4096) : f_X7_putBy (nI w) x N = some (mkS (N 60) w x) := by
  have h6 : w < 6 := Nat.lt_of_lt_of_le hw o.1.1
  exact m_put h6 (o.2.1 w h6).2.2.1 hx
theorem xw_heard (h : RW b M S) (o : Ok S nw np) {p : Nat} (hp : p < np) (x : Int32) : f_X4_heard b (nI p) x M = some (thS S p x) := by
  have h8 : p < 8 := Nat.lt_of_lt_of_le hp o.1.2.1
  obtain ⟨-, -, a3, -, a5, -⟩ := h.2.2.1 p h8
  unfold f_X4_heard thS
  rw [ck_pos (vp_in_nI h8 (by decide)), ck_pos (vp_in_nI h8 (by decide)), ix_nI (by omega), a3, a5, (o.hd hp).2]
  rcases (o.2.2.1 p h8).2.2.2.1 with e | e
  · rw [e, if_pos rfl, if_neg (by decide), xw_make h o (o.hd hp).1]; rfl
  · rw [e, if_neg (by decide), if_pos rfl]
theorem mw_through (o : Ok (N 60) nw np) {p : Nat} (hp : p < np) {x : Int32} (hx : Lt x 4096) : f_X7_through (nI p) x N = some (thS (N 60) p x) := by
  have h8 : p < 8 := Nat.lt_of_lt_of_le hp o.1.2.1
  unfold f_X7_through thS
  rw [show f_X7_told (nI p) 4 N = _ from m_told h8 (k := 4) (by decide) N, show f_X7_told (nI p) 2 N = _ from m_told h8 (k := 2) (by decide) N, bs, bs, (o.hd hp).2, mw_put o (o.hd hp).1 hx]
  split <;> rfl
theorem xw_own (h : RW b M S) {p : Nat} (h8 : p < 8) : f_X0_ownWords (b + 8) (nI p) M = some (owS S p) := by
  obtain ⟨a1, a2, -⟩ := h.2.2.1 p h8
  unfold f_X0_ownWords owS
  rw [ck_pos (vp_in_nI h8 (by decide)), ck_pos (vp_in_nI h8 (by decide)), ix_nI (by omega), a1, a2]
theorem mw_own {p : Nat} (h8 : p < 8) : f_X7_ownOf (nI p) N = some (owS (N 60) p) := by
  unfold f_X7_ownOf owS
  rw [show f_X7_told (nI p) 0 N = some (N 60 (41 + 5 * p)) from m_told h8 (k := 0) (by decide) N, show f_X7_told (nI p) 1 N = _ from m_told h8 (k := 1) (by decide) N]
  rfl
theorem xw_any (h : RW b M S) (o : Ok S nw np) (hb : IsK (b + 8) 0) (k : Nat) (hk : k < 2) : f_X0_anyOf (b + 8) (b + 8 + (k + 1)) M = some (orS S np k) := by
  have hal : aln (b + 8 + (k + 1)) = 8 := (isk_0 _ hb.1 hb.2 k (by omega)).2.2
  have h8 := o.1.2.1
  have e : ∀ i, i < 8 → M (b + 8 + (k + 1)) i = S (41 + 5 * i + k) := fun i hi => by
    obtain ⟨a1, a2, -⟩ := h.2.2.1 i hi
    match k, hk with
    | 0, _ => exact a1
    | 1, _ => exact a2
  refine (lp_itr _ (f_X0_anyOf_b4 (b + 8) (b + 8 + (k + 1))) (fun z i (a : Int32) => z a i M) (fun i a => a ||| S (41 + 5 * i + k)) (fun a => some a) np (fun _ _ => True) ?_ ?_ np FU 0 0 (by omega) (show np < 5000 by omega) trivial).1
  · intro z i a hi _
    refine ⟨?_, trivial⟩
    show f_X0_anyOf_b4 (b + 8) (b + 8 + (k + 1)) z a (nI i) M = z _ (nI (i + 1)) M
    unfold f_X0_anyOf_b4
    rw [h.1.2.1, o.1.2.2.2.1, if_neg (nI_ge hi (by omega)), hal, if_neg (nI_ge (show i < 8 by omega) (by decide)), ck_pos (vp_in_nI (show i < 8 by omega) (by decide)), ix_nI (by omega), e i (by omega), nI_1]
    rfl
  · intro z a _
    show f_X0_anyOf_b4 (b + 8) (b + 8 + (k + 1)) z a (nI np) M = _
    unfold f_X0_anyOf_b4
    rw [h.1.2.1, o.1.2.2.2.1, if_pos (nI_le (by omega) (by omega))]
theorem mw_any (o : Ok (N 60) nw np) (k : Nat) (hk : k < 5) : f_X7_anybody (nI k) N = some (orS (N 60) np k) := by
  have h8 := o.1.2.1
  refine (lp_itr _ (f_X7_anybody_b4) (fun z i (a : Int32) => z (nI k) a i N) (fun i a => a ||| N 60 (41 + 5 * i + k)) (fun a => some a) np (fun _ _ => True) ?_ ?_ np FU 0 0 (by omega) (show np < 5000 by omega) trivial).1
  · intro z i a hi _
    refine ⟨?_, trivial⟩
    show f_X7_anybody_b4 z (nI k) a (nI i) N = z (nI k) _ (nI (i + 1)) N
    unfold f_X7_anybody_b4
    rw [ck_pos vl_1, ix_1, o.1.2.2.2.1, if_neg (nI_ge hi (by omega)), m_told (by omega) hk, bs, nI_1]
    rfl
  · intro z a _
    show f_X7_anybody_b4 z (nI k) a (nI np) N = _
    unfold f_X7_anybody_b4
    rw [ck_pos vl_1, ix_1, o.1.2.2.2.1, if_pos (nI_le (by omega) (by omega))]
end WORLD
