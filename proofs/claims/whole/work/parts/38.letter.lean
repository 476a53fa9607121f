section LET
variable {b : Nat} {M N : Mem} {S : Nat → Int32} {nw np : Nat}
/-- the class's world with its count of payments, as S; the reference's row, but for its year -/
def CW (b : Nat) (M : Mem) (S : Nat → Int32) : Prop := RW b M S ∧ M b 6 = S 99
def MW (δ : Int32) (N : Mem) (S : Nat → Int32) : Prop := (∀ k, k < 99 → k ≠ 3 → N 60 k = S k) ∧ N 59 5 = S 99 + δ
def coS (S : Nat → Int32) (p : Nat) : Int32 := if S (41 + 5 * p + 4) = 1 then 0 else S (5 + 6 * hdS S p + 4)
def paS (S : Nat → Int32) (p : Nat) : Nat → Int32 := upd (upd S (41 + 5 * p + 3) (S (41 + 5 * p + 3) - coS S p)) (5 + 6 * hdS S p + 5) (S (5 + 6 * hdS S p + 5) + coS S p)
def reS (S : Nat → Int32) (f t : Nat) (x : Int32) : Int32 := thS S t (thS S f x)
def onS (S : Nat → Int32) (p : Nat) : Int32 := if S (41 + 5 * p + 4) = 1 then 0 else 1
def okB (S : Nat → Int32) (f t : Nat) : Bool := decide (¬ S (41 + 5 * f + 3) < coS S f ∧ coS S t ≤ S (41 + 5 * t + 3))
def leS (S : Nat → Int32) (f t : Nat) (x : Int32) : Nat → Int32 := if okB S f t = true then upd (upd (upd (paS (paS S f) t) (41 + 5 * t + 1) (S (41 + 5 * t + 1) ||| reS S f t x)) 4 (S 4 + 1)) 99 (S 99 + (onS S f + onS S t)) else S
def lrS (S : Nat → Int32) (f t : Nat) (x : Int32) : Int32 := if okB S f t = true then reS S f t x else -1
theorem pa_ne {p k : Nat} (h3 : k ≠ 41 + 5 * p + 3) (h5 : k ≠ 5 + 6 * hdS S p + 5) : paS S p k = S k := by unfold paS; rw [upd_ne h5, upd_ne h3]
theorem hd_b (o : Ok S nw np) {p : Nat} (hp : p < np) : hdS S p < 6 := Nat.lt_of_lt_of_le (o.hd hp).1 o.1.1
/-- payments leave a world's words as they are -/
theorem pa_hd (o : Ok S nw np) {p q : Nat} (hp : p < np) (hq : q < 8) : hdS (paS S p) q = hdS S q := by
  have h6 := hd_b o hp
  have h8 := o.1.2.1
  unfold hdS
  rw [pa_ne (by omega) (by omega)]
theorem pa_co (o : Ok S nw np) {p q : Nat} (hp : p < np) (hq : q < np) : coS (paS S p) q = coS S q := by
  have h6 := hd_b o hp
  have h7 := hd_b o hq
  have h8 := o.1.2.1
  unfold coS
  rw [pa_hd o hp (by omega), pa_ne (by omega) (by omega), pa_ne (by omega) (by omega)]
theorem pa_mk (o : Ok S nw np) {p w : Nat} (hp : p < np) (hw : w < 6) (x : Int32) : mkS (paS S p) w x = mkS S w x := by
  have h6 := hd_b o hp
  have h8 := o.1.2.1
  unfold mkS
  rw [pa_ne (by omega) (by omega), pa_ne (by omega) (by omega), pa_ne (by omega) (by omega), pa_ne (by omega) (by omega)]
theorem pa_th (o : Ok S nw np) {p q : Nat} (hp : p < np) (hq : q < np) (x : Int32) : thS (paS S p) q x = thS S q x := by
  have h6 := hd_b o hp
  have h7 := hd_b o hq
  have h8 := o.1.2.1
  unfold thS
  rw [pa_hd o hp (by omega), pa_mk o hp h7, pa_ne (by omega) (by omega)]
theorem Ok.pa (o : Ok S nw np) {p : Nat} (hp : p < np) : Ok (paS S p) nw np := by
  have h6 := hd_b o hp
  have h8 := o.1.2.1
  unfold paS
  exact (o.setP (k := 3) (p := p) (by omega) (by decide) (by omega) (by omega) (by omega)).setW (k := 5) h6 (by decide) (by omega) (by omega) (by omega)
theorem Ok.set99 (o : Ok S nw np) (v : Int32) : Ok (upd S 99 v) nw np := o.cg (fun k hk => upd_ne (by omega))
theorem Ok.le (o : Ok S nw np) {f t : Nat} (hf : f < np) (ht : t < np) {x : Int32} (hx : Lt x 4096) : Ok (leS S f t x) nw np := by
  have h8 := o.1.2.1
  unfold leS
  split
  · refine Ok.set99 (Ok.setN (Ok.setP (k := 1) (p := t) ((o.pa hf).pa ht) (by omega) (by decide) (fun _ => ?_) (by omega) (by omega)) (Or.inr rfl) _) _
    exact or_lt (o.2.2.1 t (by omega)).2.1 (th_lt o ht (th_lt o hf hx))
  · exact o
-- the class
theorem xw_fee (h : RW b M S) (o : Ok S nw np) {p : Nat} (hp : p < np) : f_X4_fee b (nI p) M = some (coS S p) := by
  have h8 : p < 8 := Nat.lt_of_lt_of_le hp o.1.2.1
  have h6 := hd_b o hp
  obtain ⟨-, -, a3, -, a5, -⟩ := h.2.2.1 p h8
  unfold f_X4_fee coS
  simp only [ck_pos (vp_in_nI (N := 8) h8 (by decide)), ix_nI (show p < 2 ^ 31 by omega), a3, a5, letv, (o.hd hp).2, x_has5, h.1.1, o.1.2.2.1, inR_nI (show nw < 2 ^ 31 by have := o.1.1; omega) (o.hd hp).1, bs, ib, if_true, ck_pos (vp_in_nI (N := 6) h6 (by decide)), ix_nI (show hdS S p < 2 ^ 31 by omega), (h.2.1 _ h6).2.2.2.2.1]
  rcases (o.2.2.1 p h8).2.2.2.1 with e | e
  · rw [e, if_pos rfl, if_neg (by decide)]
  · rw [e, if_neg (by decide), if_pos rfl]
theorem xw_pay (h : RW b M S) (o : Ok S nw np) {p : Nat} (hp : p < np) : ∃ M1, f_X4_pay b (nI p) M = some M1 ∧ RW b M1 (paS S p) ∧ M1 b 6 = M b 6 + onS S p := by
  have h8 : p < 8 := Nat.lt_of_lt_of_le hp o.1.2.1
  have h6 := hd_b o hp
  obtain ⟨-, -, a3, a4, a5, -⟩ := h.2.2.1 p h8
  unfold f_X4_pay onS
  simp only [ck_pos (vp_in_nI (N := 8) h8 (by decide)), ix_nI (show p < 2 ^ 31 by omega), a3, a5, letv, (o.hd hp).2, x_has5, h.1.1, o.1.2.2.1, inR_nI (show nw < 2 ^ 31 by have := o.1.1; omega) (o.hd hp).1, bs, ib, if_true, ck_pos (vp_in_nI (N := 6) h6 (by decide)), ix_nI (show hdS S p < 2 ^ 31 by omega)]
  rcases (o.2.2.1 p h8).2.2.2.1 with e | e
  · rw [e, if_pos rfl, if_neg (by decide)]
    have hc : coS S p = S (5 + 6 * hdS S p + 4) := by unfold coS; rw [e, if_neg (by decide)]
    have w1 := h.setP (k := 3) (p := p) h8 (by decide) (S (41 + 5 * p + 3) - coS S p)
    have w2 := w1.setW (k := 5) (w := hdS S p) h6 (by decide) (S (5 + 6 * hdS S p + 5) + coS S p)
    refine ⟨_, ?_, (w2.setX (i := b) (c := 6) (Or.inl ⟨rfl, rfl⟩) (M b 6 + 1)), ?_⟩
    · rw [a4, (h.2.1 _ h6).2.2.2.2.1, ← hc]
      have r6 : up M (b + 8 + 4) p (S (41 + 5 * p + 3) - coS S p) (b + 1 + 6) (hdS S p) = S (5 + 6 * hdS S p + 5) := by rw [up_ap, if_neg (by omega)]; exact (h.2.1 _ h6).2.2.2.2.2
      have r5 : up M (b + 8 + 4) p (S (41 + 5 * p + 3) - coS S p) (b + 1 + 5) (hdS S p) = coS S p := by rw [up_ap, if_neg (by omega), hc]; exact (h.2.1 _ h6).2.2.2.2.1
      rw [r6, r5, up_ap, if_neg (by omega), up_ap, if_neg (by omega)]
    · rw [up_ap, if_pos ⟨rfl, rfl⟩]
  · rw [e, if_neg (by decide), if_pos rfl]
    have hc : coS S p = 0 := by unfold coS; rw [e, if_pos rfl]
    refine ⟨M, rfl, h.cg (fun k _ => ?_), by rw [Int32.add_zero]⟩
    unfold paS
    rw [hc, Int32.sub_zero, Int32.add_zero]
    simp only [upd_if]
    split
    · rename_i z; rw [z]
    split
    · rename_i z; rw [z]
    rfl
theorem cw_letter (h : CW b M S) (o : Ok S nw np) {f t : Nat} (hf : f < np) (ht : t < np) (x : Int32) : ∃ M1, f_X4_letter b (nI f) (nI t) x M = some (lrS S f t x, M1) ∧ CW b M1 (leS S f t x) := by
  have f8 : f < 8 := Nat.lt_of_lt_of_le hf o.1.2.1
  have t8 : t < 8 := Nat.lt_of_lt_of_le ht o.1.2.1
  obtain ⟨w, h99⟩ := h
  obtain ⟨M1, e1, w1, p1⟩ := xw_pay w o hf
  obtain ⟨M2, e2, w2, p2⟩ := xw_pay w1 (o.pa hf) ht
  have o2 := (o.pa hf).pa ht
  have ef := hd_b o hf
  have et := hd_b o ht
  have et' : hdS (paS S f) t < 6 := by rw [pa_hd o hf t8]; exact et
  unfold f_X4_letter leS lrS okB
  rw [ck_pos (vp_in_nI f8 (by decide)), xw_fee w o hf, bs, ix_nI (n := f) (by omega), (w.2.2.1 f f8).2.2.2.1, ck_pos (vp_in_nI t8 (by decide)), xw_fee w o ht, bs, ix_nI (n := t) (by omega), (w.2.2.1 t t8).2.2.2.1]
  by_cases c1 : S (41 + 5 * f + 3) < coS S f
  · rw [if_pos c1, decide_eq_false (fun z => z.1 c1)]
    exact ⟨M, rfl, w, h99⟩
  rw [if_neg c1]
  by_cases c2 : coS S t ≤ S (41 + 5 * t + 3)
  case neg =>
    rw [if_neg c2, decide_eq_false (fun z => c2 z.2)]
    exact ⟨M, rfl, w, h99⟩
  have r1 : thS (paS (paS S f) t) f x = thS S f x := by rw [pa_th (o.pa hf) ht hf, pa_th o hf hf]
  have r2 : thS (paS (paS S f) t) t (thS S f x) = reS S f t x := by rw [pa_th (o.pa hf) ht ht, pa_th o hf ht]; rfl
  have rb : paS (paS S f) t (41 + 5 * t + 1) = S (41 + 5 * t + 1) := by rw [pa_ne (by omega) (by omega), pa_ne (by omega) (by omega)]
  have r4 : paS (paS S f) t 4 = S 4 := by rw [pa_ne (by omega) (by omega), pa_ne (by omega) (by omega)]
  rw [if_pos c2, decide_eq_true ⟨c1, c2⟩, if_pos rfl, if_pos rfl, e1, bs, e2, bs, xw_heard w2 o2 hf, bs, r1, xw_heard w2 o2 ht, bs, r2]
  have w3 := w2.setP (k := 1) (p := t) t8 (by decide) (S (41 + 5 * t + 1) ||| reS S f t x)
  have w4 := w3.set1 (i := b) (c := 4) (q := 4) (by unfold sgl; omega) (S 4 + 1)
  simp only [ck_pos (vp_in_nI (N := 8) t8 (by decide)), letv]
  rw [(w2.2.2.1 t t8).2.1, rb]
  have e4 : up M2 (b + 8 + 2) t (S (41 + 5 * t + 1) ||| reS S f t x) b 4 = S 4 := by rw [up_ap, if_neg (by omega), w2.1.2.2.2.2, r4]
  have eo : onS (paS S f) t = onS S t := by unfold onS; rw [pa_ne (by omega) (by omega)]
  rw [e4]
  refine ⟨_, rfl, w4.cg (fun k hk => upd_ne (by omega)), ?_⟩
  rw [up_ap, if_neg (by omega), up_ap, if_neg (by omega), p2, p1, h99, upd_eq, eo, Int32.add_assoc]
-- the reference
theorem mo_told {δ : Int32} (h : MW δ N S) {p k : Nat} (hp : p < 8) (hk : k < 5) : f_X7_told (nI p) (nI k) N = some (S (41 + 5 * p + k)) := by rw [m_told hp hk, h.1 _ (by omega) (by omega)]
theorem mo_its {δ : Int32} (h : MW δ N S) {w k : Nat} (hw : w < 6) (hk : k < 6) : f_X7_its (nI w) (nI k) N = some (S (5 + 6 * w + k)) := by rw [m_its hw hk, h.1 _ (by omega) (by omega)]
theorem mo_cost {δ : Int32} (h : MW δ N S) (o : Ok S nw np) {p : Nat} (hp : p < np) : f_X7_costOf (nI p) N = some (coS S p) := by
  have h8 : p < 8 := Nat.lt_of_lt_of_le hp o.1.2.1
  have h6 := hd_b o hp
  unfold f_X7_costOf coS
  rw [show f_X7_told (nI p) 4 N = _ from mo_told h h8 (k := 4) (by decide), bs, show f_X7_told (nI p) 2 N = _ from mo_told h h8 (k := 2) (by decide), bs, (o.hd hp).2, show f_X7_its (nI (hdS S p)) 4 N = _ from mo_its h h6 (k := 4) (by decide), bs]
  split <;> rfl
theorem mo_put {δ : Int32} (h : MW δ N S) (o : Ok S nw np) {w : Nat} (hw : w < nw) {x : Int32} (hx : Lt x 4096) : f_X7_putBy (nI w) x N = some (mkS S w x) := by
  have h6 : w < 6 := Nat.lt_of_lt_of_le hw o.1.1
  have e : ∀ k, k < 4 → N 60 (5 + 6 * w + k) = S (5 + 6 * w + k) := fun k hk => h.1 _ (by omega) (by omega)
  rw [m_put h6 (by rw [e 2 (by decide)]; exact (o.2.1 w h6).2.2.1) hx, show N 60 (5 + 6 * w) = S (5 + 6 * w) from e 0 (by decide), e 1 (by decide), e 2 (by decide), e 3 (by decide)]
  rfl
theorem mo_th {δ : Int32} (h : MW δ N S) (o : Ok S nw np) {p : Nat} (hp : p < np) {x : Int32} (hx : Lt x 4096) : f_X7_through (nI p) x N = some (thS S p x) := by
  have h8 : p < 8 := Nat.lt_of_lt_of_le hp o.1.2.1
  unfold f_X7_through thS
  rw [show f_X7_told (nI p) 4 N = _ from mo_told h h8 (k := 4) (by decide), show f_X7_told (nI p) 2 N = _ from mo_told h h8 (k := 2) (by decide), bs, bs, (o.hd hp).2, mo_put h o (o.hd hp).1 hx]
  split <;> rfl
theorem MW.set {δ : Int32} (h : MW δ N S) {q : Nat} (hq : q < 99) (v : Int32) : MW δ (up N 60 q v) (upd S q v) := by
  refine ⟨fun k hk h3 => ?_, ?_⟩
  · exact up_upd (by omega) (h.1 k hk h3)
  · rw [up_ap, if_neg (by omega), upd_ne (by omega)]; exact h.2
theorem mo_pays {δ : Int32} (h : MW δ N S) (o : Ok S nw np) {p : Nat} (hp : p < np) : ∃ N1, f_X7_pays (nI p) N = some N1 ∧ MW δ N1 (paS S p) ∧ N1 60 3 = N 60 3 := by
  have h8 : p < 8 := Nat.lt_of_lt_of_le hp o.1.2.1
  have h6 := hd_b o hp
  have g1 := h.set (q := 41 + 5 * p + 3) (by omega) (S (41 + 5 * p + 3) - coS S p)
  have g2 := g1.set (q := 5 + 6 * hdS S p + 5) (by omega) (S (5 + 6 * hdS S p + 5) + coS S p)
  refine ⟨_, ?_, g2, by rw [up_ap, if_neg (by omega), up_ap, if_neg (by omega)]⟩
  unfold f_X7_pays
  rw [mo_cost h o hp, bs, show f_X7_where (nI p) 3 N = _ from m_where p 3 N, bs, ck_pos (vp_in_nI (show 41 + 5 * p + 3 < 99 by omega) (by decide)), ck_pos (vp_in_nI (show 41 + 5 * p + 3 < 99 by omega) (by decide)), ix_nI (by omega), h.1 _ (by omega) (by omega)]
  simp only [letv]
  rw [show f_X7_told (nI p) 2 _ = _ from mo_told g1 h8 (k := 2) (by decide), bs, upd_ne (by omega), (o.hd hp).2, show ∀ Q, f_X7_at (nI (hdS S p)) 5 Q = _ from fun Q => m_at _ 5 Q, bs, ck_pos (vp_in_nI (show 5 + 6 * hdS S p + 5 < 99 by omega) (by decide)), ck_pos (vp_in_nI (show 5 + 6 * hdS S p + 5 < 99 by omega) (by decide)), ix_nI (by omega), g1.1 (5 + 6 * hdS S p + 5) (by omega) (by omega), upd_ne (by omega)]
theorem upd_cm {q q' : Nat} {v v' : Int32} (h : q ≠ q') : upd (upd S q v) q' v' = upd (upd S q' v') q v := by
  funext k
  simp only [upd_if]
  by_cases z : k = q
  · have z' : ¬ k = q' := by omega
    simp only [if_pos z, if_neg z']
  · simp only [if_neg z]
theorem pa_bel (o : Ok S nw np) {p t : Nat} (hp : p < np) (ht : t < 8) (v : Int32) : paS (upd S (41 + 5 * t + 1) v) p = upd (paS S p) (41 + 5 * t + 1) v := by
  have h6 := hd_b o hp
  have h8 := o.1.2.1
  have eh : hdS (upd S (41 + 5 * t + 1) v) p = hdS S p := by unfold hdS; rw [upd_ne (by omega)]
  have ec : coS (upd S (41 + 5 * t + 1) v) p = coS S p := by unfold coS; rw [eh, upd_ne (by omega), upd_ne (by omega)]
  unfold paS
  rw [ec, eh, upd_ne (by omega), upd_ne (by omega), upd_cm (S := S) (q := 41 + 5 * t + 1) (q' := 41 + 5 * p + 3) (by omega), upd_cm (q := 41 + 5 * t + 1) (q' := 5 + 6 * hdS S p + 5) (by omega)]
theorem on_2 {x y : Int32} (hx : x = 0 ∨ x = 1) (hy : y = 0 ∨ y = 1) : ((2 : Int32) - x) - y = (if x = 1 then 0 else 1) + (if y = 1 then 0 else 1) := by
  rcases hx with rfl | rfl <;> rcases hy with rfl | rfl <;> decide
theorem mo_letter {δ : Int32} (h : MW δ N S) (o : Ok S nw np) {f t : Nat} (hf : f < np) (ht : t < np) {x : Int32} (hx : Lt x 4096) : ∃ N1, f_X7_letter (nI f) (nI t) x N = some (lrS S f t x, N1) ∧ MW δ N1 (leS S f t x) ∧ N1 60 3 = N 60 3 := by
  have f8 : f < 8 := Nat.lt_of_lt_of_le hf o.1.2.1
  have t8 : t < 8 := Nat.lt_of_lt_of_le ht o.1.2.1
  unfold f_X7_letter leS lrS okB
  rw [show f_X7_told (nI f) 3 N = _ from mo_told h f8 (k := 3) (by decide), bs, mo_cost h o hf, bs, show f_X7_told (nI t) 3 N = _ from mo_told h t8 (k := 3) (by decide), bs, mo_cost h o ht, bs]
  by_cases c1 : S (41 + 5 * f + 3) < coS S f
  · rw [if_pos c1, decide_eq_false (fun z => z.1 c1)]
    exact ⟨N, rfl, h, rfl⟩
  rw [if_neg c1]
  by_cases c2 : coS S t ≤ S (41 + 5 * t + 3)
  case neg =>
    rw [if_neg c2, decide_eq_false (fun z => c2 z.2)]
    exact ⟨N, rfl, h, rfl⟩
  rw [if_pos c2, decide_eq_true ⟨c1, c2⟩, if_pos rfl, if_pos rfl, mo_th h o hf hx, bs, mo_th h o ht (th_lt o hf hx), bs, show f_X7_where (nI t) 1 N = _ from m_where t 1 N, bs, ck_pos (vp_in_nI (show 41 + 5 * t + 1 < 99 by omega) (by decide)), ck_pos (vp_in_nI (show 41 + 5 * t + 1 < 99 by omega) (by decide)), ix_nI (by omega), h.1 _ (by omega) (by omega)]
  simp only [letv]
  have g1 := h.set (q := 41 + 5 * t + 1) (by omega) (S (41 + 5 * t + 1) ||| thS S t (thS S f x))
  have o1 := o.setP (k := 1) (p := t) t8 (by decide) (v := S (41 + 5 * t + 1) ||| thS S t (thS S f x)) (fun _ => or_lt (o.2.2.1 t t8).2.1 (th_lt o ht (th_lt o hf hx))) (by omega) (by omega)
  obtain ⟨N2, e2, g2, y2⟩ := mo_pays g1 o1 hf
  have o2 := o1.pa hf
  obtain ⟨N3, e3, g3, y3⟩ := mo_pays g2 o2 ht
  have o3 := o2.pa ht
  rw [e2, bs, e3, bs, show f_X7_told (nI f) 4 N3 = _ from mo_told g3 f8 (k := 4) (by decide), bs, show f_X7_told (nI t) 4 N3 = _ from mo_told g3 t8 (k := 4) (by decide), bs, on_2 (o3.2.2.1 f f8).2.2.2.1 (o3.2.2.1 t t8).2.2.2.1]
  have eq3 : paS (paS (upd S (41 + 5 * t + 1) (S (41 + 5 * t + 1) ||| thS S t (thS S f x))) f) t = upd (paS (paS S f) t) (41 + 5 * t + 1) (S (41 + 5 * t + 1) ||| reS S f t x) := by
    rw [pa_bel o hf t8, pa_bel (o.pa hf) ht t8]
    rfl
  rw [eq3] at g3 o3 ⊢
  have ef := hd_b o hf
  have et := hd_b o ht
  have et' : hdS (paS S f) t < 6 := by rw [pa_hd o hf t8]; exact et
  have k99 : ∀ k, k = 99 ∨ k = 4 ∨ k = 41 + 5 * f + 4 ∨ k = 41 + 5 * t + 4 → upd (paS (paS S f) t) (41 + 5 * t + 1) (S (41 + 5 * t + 1) ||| reS S f t x) k = S k := fun k hk => by rw [upd_ne (by omega), pa_ne (by omega) (by omega), pa_ne (by omega) (by omega)]
  rw [k99 (41 + 5 * f + 4) (by omega), k99 (41 + 5 * t + 4) (by omega), ck_pos vl_4, ck_pos vl_4, ix_4]
  refine ⟨_, rfl, ⟨fun k hk h3 => ?_, ?_⟩, ?_⟩
  · rw [up_ap, up_ap, if_neg (show ¬ ((60 : Nat) = 59 ∧ 4 = 5) by omega), g3.1 4 (by omega) (by omega), k99 4 (by omega), upd_ne (show k ≠ 99 by omega), upd_if]
    by_cases z : k = 4
    · rw [if_pos ⟨rfl, z⟩, if_pos z]
    · rw [if_neg (fun y => z y.2), if_neg z, up_ap, if_neg (by omega)]
      exact g3.1 k hk h3
  · rw [up_ap, if_neg (by omega), up_ap, if_pos ⟨rfl, rfl⟩, g3.2, k99 99 (by omega), upd_eq]
    unfold onS
    rw [Int32.add_assoc, Int32.add_comm δ, ← Int32.add_assoc]
  · rw [up_ap, if_neg (by omega), up_ap, if_neg (by omega), y3, y2, up_ap, if_neg (by omega)]
end LET
