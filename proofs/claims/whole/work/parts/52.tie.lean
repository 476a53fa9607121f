section TIE
variable {t : Nat} {T : Nat → Nat} {M N : Mem} {i a e s a' e' s' nw np : Nat}
theorem ti_w1 (w : N 59 17 = 1) (x1 x2 : Int32) : f_X7_tieItem_j76 x1 x2 N = some N := by
  unfold f_X7_tieItem_j76
  rw [if_neg (ne1 w)]
  simp only [letv]
  rw [up_self w, if_neg (ne1 w)]
theorem ti_w2 (w : N 59 17 = 1) (x1 x2 : Int32) : f_X7_tieItem_j58 x1 x2 N = some N := by
  unfold f_X7_tieItem_j58
  rw [ck_pos vl_1, nu_w w, bs, ti_w1 w]
  exact if2 _
theorem ti_w3 (w : N 59 17 = 1) (x1 : Int32) : f_X7_tieItem_j17 x1 N = some N := by
  unfold f_X7_tieItem_j17 f_X7_tieItem_j57
  rw [nd_w w, bs, ck_pos vl_1, nu_w w, bs]
  simp only [letv]
  rw [if_neg (ne1 w), ti_w2 w]
theorem m_isN_l (h : CN t T N a e) (sh : Sh t T a e 2) (x1 : Int32) : ∀ (d m n : Nat), a + n + d = e → d < m → f_X7_isNumber_l7 m x1 (nI (mN T a n)) (nI (a + n)) N = f_X7_isNumber_j61 x1 (nI (mN T a (e - a))) N := by
  have ht := h.1.1
  have hle := sh.le
  have hd := sh_dg sh
  have hdg := dg_s sh
  intro d
  induction d with
  | zero =>
    intro m n hi hm
    obtain ⟨m, rfl⟩ : ∃ k, m = k + 1 := ⟨m - 1, by omega⟩
    show f_X7_isNumber_b7 (f_X7_isNumber_l7 m) x1 (nI (mN T a n)) (nI (a + n)) N = _
    unfold f_X7_isNumber_b7
    rw [h.2.2, if_pos (nI_le (by omega) (by omega)), show e - a = n by omega]
  | succ d ih =>
    intro m n hi hm
    obtain ⟨m, rfl⟩ : ∃ k, m = k + 1 := ⟨m - 1, by omega⟩
    have l := (mN_v (T := T) (a := a) n (fun k hk => hd k (by omega))).2
    have dg := of_decide_eq_true (hd n (by omega))
    have hc := h.1.2.2.1 (a + n) (by omega)
    rw [← ih m (n + 1) (by omega) (by omega)]
    show f_X7_isNumber_b7 (f_X7_isNumber_l7 m) x1 (nI (mN T a n)) (nI (a + n)) N = f_X7_isNumber_l7 m x1 (nI (if mN T a n ≤ 99999 then 10 * mN T a n + T (a + n) - 48 else mN T a n)) (nI (a + (n + 1))) N
    unfold f_X7_isNumber_b7
    rw [h.2.2, if_neg (nI_ge (by omega) (by omega)), h.2.1, m_byte h.1 sh.1, bs, m_dig h.1, bs, hdg, ib, decide_eq_true rfl, if_pos rfl, ck_pos (vp_in_nI (by omega) (by decide)), ix_nI (by omega), h.1.2.2.2 (a + n) (by omega), nI_1]
    simp only [letv]
    by_cases z : mN T a n ≤ 99999
    · rw [if_pos (show nI (mN T a n) ≤ (99999 : Int32) from nI_le (b := 99999) z (by omega)), if_pos z, show (10 : Int32) = nI 10 from rfl, pk_mul, nI_add, show (48 : Int32) = nI 48 from rfl, pk_sub (by omega)]
      rfl
    · rw [if_neg (show ¬ nI (mN T a n) ≤ (99999 : Int32) from nI_ge (a := 99999) (by omega) (by omega)), if_neg z]
      rfl
theorem m_isN (h : CN t T N a e) (sh : Sh t T a e s) {p : Nat} (hp : p < 100000) : f_X7_isNumber (nI p) N = some (decide (s = 2 ∧ vN T a (e - a) = p)) := by
  have ht := h.1.1
  have hle := sh.le
  unfold f_X7_isNumber
  simp only [letv]
  rw [h.2.1]
  by_cases z : s = 2
  · subst z
    have hlt := sh.lt (by omega)
    obtain ⟨v1, v2⟩ := mN_v (T := T) (a := a) (e - a) (sh_dg sh)
    have e1 := m_isN_l h sh (nI p) (e - a) FU 0 (by omega) (show e - a < 5000 by omega)
    rw [show f_X7_isNumber_l7 FU (nI p) 0 (nI a) N = _ from e1]
    unfold f_X7_isNumber_j61
    rw [h.2.1, m_byte h.1 sh.1, bs, m_dig h.1, bs, dg_s sh, ib, decide_eq_true rfl, if_pos rfl]
    by_cases y : mN T a (e - a) = p
    · rw [if_pos (by rw [y]), decide_eq_true ⟨rfl, by omega⟩]
    · rw [if_neg (fun x => y ((nI_eq (by omega) (by omega)).mp x)), decide_eq_false (fun x => y (by have := x.2; omega))]
  · have e1 : f_X7_isNumber_l7 FU (nI p) 0 (nI a) N = f_X7_isNumber_j61 (nI p) 0 N := by
      show f_X7_isNumber_b7 (f_X7_isNumber_l7 4999) (nI p) 0 (nI a) N = _
      unfold f_X7_isNumber_b7
      rw [h.2.1, m_byte h.1 sh.1, bs, m_dig h.1, bs, dg_s sh, ib, decide_eq_false z, if_neg Bool.false_ne_true]
      exact if2 _
    rw [e1]
    unfold f_X7_isNumber_j61
    rw [h.2.1, m_byte h.1 sh.1, bs, m_dig h.1, bs, dg_s sh, ib, decide_eq_false z, if_neg Bool.false_ne_true, decide_eq_false (fun x => z x.1)]
theorem it_tie (h : Gd2 t T M N a e s) (hw : wd T a e s 1 = true) (w : RW 17 M (N 60)) (o : Ok (N 60) nw np) : Out t T M N (f_X3_newTie M) (f_X7_tieItem N) a := by
  have hs : s = 1 := (of_decide_eq_true (hw : decide _ = true)).1
  have hsh := h.2.2.1
  have h8 := o.1.2.1
  unfold f_X3_newTie f_X7_tieItem
  simp only [letv]
  rw [show M 25 0 = _ from w.1.2.1, o.1.2.2.2.1, m_word' h.2.1 hsh, bs, dw h.2.2.2 hsh (r := 1) (by decide) (K := 20773) rfl (fun x => f_X7_tieItem_j17 x N), hw, b2i_t]
  unfold f_X7_tieItem_j17 f_X7_tieItem_j57
  obtain ⟨a1, e1, s1, k1, hlt1⟩ := g_step h (by omega) (by omega)
  obtain ⟨M1, x1, cx1, fx1⟩ := cx_step h.1 (by omega) k1
  obtain ⟨N1, y1, ww1, -, cn1, fy1⟩ := nd_ok h.2.2.2 h.2.1 k1
  have g1 : Gd2 t T M1 N1 a1 e1 s1 := ⟨cx1, cn1, k1.2, ww1⟩
  have n60 : N1 60 = N 60 := funext fun k => fy1 60 k (by unfold F4; omega)
  obtain ⟨a2, e2, s2, k2⟩ := tk_ex T k1.2.le
  obtain ⟨N2, y2, fy2, hz⟩ := m_num ww1 cn1 k1.2 (x := nI np - 1) (pr_le np (by omega)) k2
  rw [x1, bs, x_isUp cx1 k1.2, bs, ib, y1, bs, ck_pos vl_1, ix_1, n60, o.1.2.2.2.1, y2, bs]
  simp only [letv]
  have G2 : Fr F4 N N2 := fy1.trans fy2
  rcases hz with ⟨z1, ww2, v2, cn2⟩ | ⟨z1, ww2, cn2⟩
  case inr =>
    right
    refine ⟨M1, N2, by rw [z1, if_neg Bool.false_ne_true], ?_, g1.bad cn2 ww2, fx1.mono F49_X, G2.mono F4_M⟩
    rw [if_neg (ne1 ww2), ti_w2 ww2]
  have hs1 := nu_s z1
  subst hs1
  have hp := nu_lt (by omega) z1
  have hlt2 := k1.2.lt (by omega)
  have hr2 := k2.1.1
  obtain ⟨M2, x2, cx2, fx2⟩ := cx_step cx1 (by omega) k2
  have g2 : Gd2 t T M2 N2 a2 e2 s2 := ⟨cx2, cn2, k2.2, ww2⟩
  have F2 : Fr F49 M M2 := fx1.trans fx2
  have w2 : RW 17 M2 (N 60) := w.f49 (by omega) F2
  have m60 : N2 60 = N 60 := funext fun k => G2 60 k (by unfold F4; omega)
  generalize hpv : vN T a1 (e1 - a1) = p at *
  rw [z1, if_pos rfl, x_val cx1 rfl, hpv, x2, bs, x_isUp cx2 k2.2, bs, ib, if_pos ww2, v2, m_isN cn2 k2.2 (by omega), bs, ib]
  obtain ⟨a3, e3, s3, k3⟩ := tk_ex T k2.2.le
  obtain ⟨N3, y3, fy3, hz⟩ := m_num ww2 cn2 k2.2 (x := nI np - 1) (pr_le np (by omega)) k3
  have G3 : Fr F4 N N3 := G2.trans fy3
  by_cases q : s2 = 2 ∧ vN T a2 (e2 - a2) = p
  · right
    obtain ⟨q1, q2⟩ := q
    subst q1
    have hn : nu T a2 e2 2 (nI np - 1) = true := by
      apply decide_eq_true
      refine ⟨rfl, ?_⟩
      rw [q2]
      obtain ⟨np, rfl⟩ : ∃ k, np = k + 1 := ⟨np - 1, by omega⟩
      rw [nI_pred]
      exact nI_nlt (by omega) (by omega)
    obtain ⟨f0, c0, w0⟩ := w_put g2
    refine ⟨M2, up N2 59 17 1, ?_, ?_, g2.bad c0 w0, F2.mono F49_X, (G2.trans f0).mono F4_M⟩
    · rw [hn, if_pos rfl, x_val cx2 rfl, q2, if_pos rfl]
    · rw [decide_eq_true ⟨rfl, q2⟩, if_pos rfl]
      unfold f_X7_tieItem_j58 f_X7_tieItem_j76
      rw [if_neg (by decide), if_pos ww2, if_neg (by decide)]
      simp only [letv]
      rw [if_neg (ne1 w0)]
  rw [decide_eq_false q, if_neg Bool.false_ne_true]
  unfold f_X7_tieItem_j58
  rw [if_pos rfl, ck_pos vl_1, ix_1, m60, o.1.2.2.2.1, y3, bs]
  rcases hz with ⟨z2, ww3, v3, cn3⟩ | ⟨z2, ww3, cn3⟩
  case inr =>
    right
    refine ⟨M2, N3, by rw [z2, if_neg Bool.false_ne_true], ti_w1 ww3 _ _, g2.bad cn3 ww3, F2.mono F49_X, G3.mono F4_M⟩
  have hs2 := nu_s z2
  subst hs2
  have hq := nu_lt (by omega) z2
  have hlt3 := k2.2.lt (by omega)
  have hr3 := k3.1.1
  have hne : vN T a2 (e2 - a2) ≠ p := fun y => q ⟨rfl, y⟩
  generalize hqv : vN T a2 (e2 - a2) = r at *
  left
  obtain ⟨M3, x3, w3⟩ := xw_bind w2 (p := p) (q := r) (by omega) (by omega) 1
  have fa := fr_X0_bind x3
  have c3 : CX t T M3 a2 e2 2 := cx2.fr fa (fun k => by omega) (fun k => by omega)
  obtain ⟨M4, x4, cx4, fx4⟩ := cx_step c3 (by omega) k3
  obtain ⟨N4, y4, n4, f4⟩ := mw_joins (p := p) (q := r) (by omega) (by omega) 1 N3
  have l60 : N3 60 = N 60 := funext fun k => G3 60 k (by unfold F4; omega)
  rw [l60] at n4
  refine ⟨M4, N4, a3, e3, s3, nw, np, ?_, ?_, ⟨cx4, cn3.fr f4 (by omega) (fun k => by omega), k3.2, by rw [f4 _ _ (by omega)]; exact ww3⟩, by rw [n4]; exact w3.f49 (by omega) fx4, by rw [n4]; exact o.ti hp hq 1, by omega, (F2.mono F49_X).trans ((fa.mono (fun i k z => by unfold FX; omega)).trans (fx4.mono F49_X)), (G3.mono F4_M).trans (f4.mono (fun i k z => by unfold FM; omega))⟩
  · rw [z2, if_pos rfl, x_val cx2 rfl, hqv, if_neg (fun x => hne ((nI_eq (by omega) (by omega)).mp x)), show f_X0_bind 25 (nI p) (nI r) 1 M2 = _ from x3, bs, x4, bs]
  · unfold f_X7_tieItem_j76
    rw [if_pos ww3, if_pos rfl]
    simp only [letv]
    rw [up_self ww3, if_pos ww3, v3, y4, bs]
theorem wd_in : ∀ r, r < 16 → ∀ r', r' < 16 → (sl r = sl r' ∧ ∀ k, k < sl r → chN r k = chN r' k) → r = r' := by decide +kernel
theorem wd_u {r r' : Nat} (hr : r < 16) (hr' : r' < 16) (h : wd T a e s r = true) (h' : wd T a e s r' = true) : r = r' := by
  obtain ⟨-, a1, a2⟩ := of_decide_eq_true (h : decide _ = true)
  obtain ⟨-, b1, b2⟩ := of_decide_eq_true (h' : decide _ = true)
  refine wd_in r hr r' hr' ⟨by omega, fun k hk => ?_⟩
  rw [← a2 k hk, ← b2 k (by omega)]
/-- the kind that a word names -/
def kdW (T : Nat → Nat) (a e s : Nat) : Int32 :=
  if wd T a e s 2 = true then 0 else if wd T a e s 3 = true then 1 else if wd T a e s 4 = true then 2 else if wd T a e s 5 = true then 3 else if wd T a e s 6 = true then 4 else if wd T a e s 7 = true then 5 else if wd T a e s 8 = true then 6 else -1
theorem kd_or (T : Nat → Nat) (a e s : Nat) : (kdW T a e s = -1) ∨ ∃ k, k < 7 ∧ kdW T a e s = nI k ∧ wd T a e s (k + 2) = true := by
  unfold kdW
  cases h2 : wd T a e s 2
  case true => exact Or.inr ⟨0, by decide, rfl, h2⟩
  cases h3 : wd T a e s 3
  case true => exact Or.inr ⟨1, by decide, rfl, h3⟩
  cases h4 : wd T a e s 4
  case true => exact Or.inr ⟨2, by decide, rfl, h4⟩
  cases h5 : wd T a e s 5
  case true => exact Or.inr ⟨3, by decide, rfl, h5⟩
  cases h6 : wd T a e s 6
  case true => exact Or.inr ⟨4, by decide, rfl, h6⟩
  cases h7 : wd T a e s 7
  case true => exact Or.inr ⟨5, by decide, rfl, h7⟩
  cases h8 : wd T a e s 8
  case true => exact Or.inr ⟨6, by decide, rfl, h8⟩
  exact Or.inl rfl
theorem x_kind (h : CX t T M a e s) (sh : Sh t T a e s) : f_X3_kindOfWord M = some (kdW T a e s) := by
  unfold f_X3_kindOfWord kdW
  simp only [x_word (show 2 < 16 by decide) h sh, x_word (show 3 < 16 by decide) h sh, x_word (show 4 < 16 by decide) h sh, x_word (show 5 < 16 by decide) h sh, x_word (show 6 < 16 by decide) h sh, x_word (show 7 < 16 by decide) h sh, x_word (show 8 < 16 by decide) h sh, bs, ib]
  cases wd T a e s 2 <;> cases wd T a e s 3 <;> cases wd T a e s 4 <;> cases wd T a e s 5 <;> cases wd T a e s 6 <;> cases wd T a e s 7 <;> cases wd T a e s 8 <;> rfl
theorem dk {α : Type} (w : N 59 17 = 0) (sh : Sh t T a e s) {r : Nat} (hr : r < 16) {K : Int64} (hK : K = lN (KN.getD r 0)) (A B : α) : (if lg_cmp (wv T N a e s) K = 0 then A else B) = if wd T a e s r = true then A else B := by
  have e0 := wv_0 (N := N) w sh hr
  rw [← hK] at e0
  by_cases h : wd T a e s r = true
  · rw [if_pos h, if_pos (by rw [e0]; exact h)]
  · rw [if_neg h, if_neg (by rw [e0]; exact h)]
theorem m_kind (w : N 59 17 = 0) (h : CN t T N a e) (sh : Sh t T a e s) : f_X7_kindHere N = some (kdW T a e s) := by
  unfold f_X7_kindHere kdW
  rw [m_word' h sh, bs, dk w sh (r := 2) (by decide) (K := 790941874) rfl, dk w sh (r := 3) (by decide) (K := 638164) rfl, dk w sh (r := 4) (by decide) (K := 212557) rfl, dk w sh (r := 5) (by decide) (K := 539828) rfl, dk w sh (r := 6) (by decide) (K := 3544651) rfl, dk w sh (r := 7) (by decide) (K := 136230) rfl, dk w sh (r := 8) (by decide) (K := 21154405) rfl]
  cases wd T a e s 2 <;> cases wd T a e s 3 <;> cases wd T a e s 4 <;> cases wd T a e s 5 <;> cases wd T a e s 6 <;> cases wd T a e s 7 <;> cases wd T a e s 8 <;> rfl
end TIE
