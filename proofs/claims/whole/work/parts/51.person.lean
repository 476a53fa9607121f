section PERSON
variable {t : Nat} {T : Nat → Nat} {M N : Mem} {i a e s a' e' s' nw np : Nat}
theorem pi_w1 (w : N 59 17 = 1) (x1 x2 t1 : Int32) : f_X7_personItem_j96 x1 x2 t1 N = some N := by
  unfold f_X7_personItem_j96
  obtain ⟨v, e1⟩ := ph_w w t1 99999 100
  rw [e1, bs, if_neg (ne1 w)]
theorem pi_w2 (w : N 59 17 = 1) (c : CN t T N a e) (sh : Sh t T a e s) (x1 t1 : Int32) : f_X7_personItem_j75 x1 t1 N = some N := by
  unfold f_X7_personItem_j75
  obtain ⟨v, e1⟩ := mk_rel_w w t1
  rw [e1, bs, m_word c sh, bs, pi_w1 w, pi_w1 w]
  exact if2 _
theorem pi_w3 (w : N 59 17 = 1) (c : CN t T N a e) (sh : Sh t T a e s) (t1 : Int32) : f_X7_personItem_j37 t1 N = some N := by
  unfold f_X7_personItem_j37
  rw [nd_w w, bs, ck_pos vl_0, nu_w w, bs]
  simp only [letv]
  rw [m_word c sh, bs, pi_w2 w c sh, pi_w2 w c sh]
  exact if2 _
/-- where the reference says no at once -/
theorem w_put (h : Gd2 t T M N a e s) : Fr F4 N (up N 59 17 1) ∧ CN t T (up N 59 17 1) a e ∧ (up N 59 17 1) 59 17 = 1 :=
  ⟨Fr.rf.put rfl (by unfold F4; omega), h.2.1.fr (U := fun i k => i = 59 ∧ k = 17) (Fr.rf.put rfl ⟨rfl, rfl⟩) (by omega) (fun k => by omega), by rw [up_ap, if_pos ⟨rfl, rfl⟩]⟩
theorem pr_le (n : Nat) (hn : n ≤ 8) : nI n - 1 ≤ (99999 : Int32) := by
  rcases n with _ | n
  · decide
  · rw [nI_pred]; exact nI_le (b := 99999) (by omega) (by omega)
theorem nu_lt {n : Nat} (hn : n ≤ 8) (h : nu T a e s (nI n - 1) = true) : vN T a (e - a) < n := by
  rcases n with _ | n
  · have h2 := (of_decide_eq_true (h : decide _ = true)).2
    exfalso
    apply h2
    have := vN_le T a (e - a)
    rw [lt_t, nI_toInt (show vN T a (e - a) < 2 ^ 31 by omega)]
    have z0 : (nI 0 - 1).toInt = -1 := by decide
    rw [z0]
    omega
  · rw [nI_pred] at h
    have := nu_le (n := n) (by omega) rfl h
    omega
theorem it_person (h : Gd2 t T M N a e s) (hs : s = 1) (w : RW 17 M (N 60)) (o : Ok (N 60) nw np) : Out t T M N (f_X3_newPerson M) (f_X7_personItem N) a := by
  have hsh := h.2.2.1
  have h6 := o.1.1
  have h8 := o.1.2.1
  unfold f_X3_newPerson f_X7_personItem
  rw [ck_pos vl_1, ix_1, show M 25 0 = _ from w.1.2.1, o.1.2.2.2.1]
  by_cases z : np < 8
  case neg =>
    have e8 : np = 8 := by omega
    subst e8
    right
    obtain ⟨f0, c0, w0⟩ := w_put h
    refine ⟨M, up N 59 17 1, ?_, ?_, h.bad c0 w0, Fr.rf, f0.mono F4_M⟩
    · rw [if_neg (by decide)]
    · rw [if_pos (by decide)]
      unfold f_X7_personItem_j17
      rw [nd_no h.2.2.2, bs, m_word c0 hsh, bs, pi_w3 w0 c0 hsh, pi_w3 w0 c0 hsh]
      exact if2 _
  obtain ⟨a1, e1, s1, k1, hlt1⟩ := g_step h (by omega) (by omega)
  obtain ⟨M1, x1, cx1, fx1⟩ := cx_step h.1 (by omega) k1
  obtain ⟨N1, y1, ww1, -, cn1, fy1⟩ := nd_ok h.2.2.2 h.2.1 k1
  have g1 : Gd2 t T M1 N1 a1 e1 s1 := ⟨cx1, cn1, k1.2, ww1⟩
  rw [if_pos (show nI np < (8 : Int32) from nI_lt (b := 8) z (by omega)), if_neg (show ¬ (8 : Int32) ≤ nI np from nI_ge (b := 8) z (by omega)), x1, bs, x_word (r := 13) (by decide) cx1 k1.2, bs, ib]
  unfold f_X7_personItem_j17
  rw [y1, bs, m_word' cn1 k1.2, bs, dw ww1 k1.2 (r := 13) (by decide) (K := 89) rfl (fun x => f_X7_personItem_j37 x N1)]
  cases hby : wd T a1 e1 s1 13
  · right
    obtain ⟨f0, c0, w0⟩ := w_put g1
    refine ⟨M1, up N1 59 17 1, by rw [if_neg Bool.false_ne_true], ?_, g1.bad c0 w0, fx1.mono F49_X, (fy1.trans f0).mono F4_M⟩
    unfold f_X7_personItem_j37
    rw [b2i_f, nd_no ww1, bs, ck_pos vl_0, nu_w w0, bs]
    simp only [letv]
    rw [m_word c0 k1.2, bs, pi_w2 w0 c0 k1.2, pi_w2 w0 c0 k1.2]
    exact if2 _
  have hs1 : s1 = 1 := (of_decide_eq_true (hby : decide _ = true)).1
  obtain ⟨a2, e2, s2, k2, hlt2⟩ := g_step g1 (by omega) (by omega)
  obtain ⟨M2, x2, cx2, fx2⟩ := cx_step cx1 (by omega) k2
  obtain ⟨N2, y2, ww2, -, cn2, fy2⟩ := nd_ok ww1 cn1 k2
  have g2 : Gd2 t T M2 N2 a2 e2 s2 := ⟨cx2, cn2, k2.2, ww2⟩
  have F2 : Fr F49 M M2 := fx1.trans fx2
  have G2 : Fr F4 N N2 := fy1.trans fy2
  have w2 : RW 17 M2 (N 60) := w.f49 (by omega) F2
  have n60 : N2 60 = N 60 := funext fun k => G2 60 k (by unfold F4; omega)
  obtain ⟨a3, e3, s3, k3⟩ := tk_ex T k2.2.le
  obtain ⟨N3, y3, fy3, hz⟩ := m_num ww2 cn2 k2.2 (x := nI nw - 1) (pr_le nw (by omega)) k3
  rw [if_pos rfl, x2, bs, show M2 18 0 = _ from w2.1.1, o.1.2.2.1, x_isUp cx2 k2.2, bs, ib]
  unfold f_X7_personItem_j37
  rw [b2i_t, y2, bs, ck_pos vl_0, ix_0, n60, o.1.2.2.1, y3, bs]
  simp only [letv]
  have G3 : Fr F4 N N3 := G2.trans fy3
  rcases hz with ⟨z1, ww3, v3, cn3⟩ | ⟨z1, ww3, cn3⟩
  case inr =>
    right
    refine ⟨M2, N3, by rw [z1, if_neg Bool.false_ne_true], ?_, g2.bad cn3 ww3, F2.mono F49_X, G3.mono F4_M⟩
    rw [m_word cn3 k2.2, bs, pi_w2 ww3 cn3 k2.2, pi_w2 ww3 cn3 k2.2]
    exact if2 _
  have hs2 := nu_s z1
  subst hs2
  have hv := nu_lt (by omega) z1
  have hlt3 := k2.2.lt (by omega)
  have hr3 := k3.1.1
  obtain ⟨M3, x3, w3⟩ := xw_addP w2 o z (M2 49 3)
  rw [x_val cx2 rfl] at x3 w3
  have fa := fr_X0_addOne x3
  have c3 : CX t T M3 a2 e2 2 := cx2.fr fa (fun k => by omega) (fun k => by omega)
  obtain ⟨M4, x4, cx4, fx4⟩ := cx_step c3 (by omega) k3
  have g4 : Gd2 t T M4 N3 a3 e3 s3 := ⟨cx4, cn3, k3.2, ww3⟩
  have w4 := w3.f49 (by omega) fx4
  have F4' : Fr FX M M4 := (F2.mono F49_X).trans ((fa.mono (fun i k z => by unfold FX; omega)).trans (fx4.mono F49_X))
  rw [z1, if_pos rfl, x_val cx2 rfl, show f_X0_addOne 25 (nI (vN T a2 (e2 - a2))) M2 = _ from x3, bs, if_pos (show (0 : Int32) ≤ nI np from nI_pos' (by omega)), x4, bs, m_word' cn3 k3.2, bs, dw ww3 k3.2 (r := 14) (by decide) (K := 21583496) rfl (fun x => f_X7_personItem_j75 (N3 59 16) x N3), v3]
  unfold f_X7_personItem_j75
  dsimp only
  have hd0 : npS (N 60) np (nI (vN T a2 (e2 - a2))) (41 + 5 * np + 0) = 0 := by
    unfold npS
    rw [upd_ne (by omega), upd_ne (by omega), upd_ne (by omega), upd_ne (by omega), upd_ne (by omega), upd_ne (by omega), upd_eq]
  have hd3 : npS (N 60) np (nI (vN T a2 (e2 - a2))) (41 + 5 * np + 3) = 100 := by
    unfold npS
    rw [upd_ne (by omega), upd_ne (by omega), upd_ne (by omega), upd_eq]
  rcases mk_rel (r1 := 14) (r2 := 26) (idx := np) (by decide) z (by decide) (by decide) g4 ((w4.2.2.1 np z).1.trans hd0) with ⟨c1, M5, N5, a5, e5, s5, p1, p2, p3, g5, p5, p6, p7⟩ | ⟨c1, M5, N5, p1, p2, p6, p7, bd⟩
  case inr =>
    right
    obtain ⟨a2, e2, s2, b1, b2, b3, b4⟩ := id bd
    refine ⟨M5, N5, by rw [p1, bs, ib, if_neg Bool.false_ne_true], ?_, bd, F4'.trans (p6.mono F49_X), (G3.trans p7).mono F4_M⟩
    rw [p2, bs, m_word b2 b3, bs, pi_w1 b4, pi_w1 b4]
    exact if2 _
  have w5 := (w4.setP (p := np) (k := 0) z (by decide) c1).f49 (by omega) p6
  have F5 : Fr FX M M5 := F4'.trans (((Fr.rf (T := FX)).put rfl (by unfold FX; omega)).trans (p6.mono F49_X))
  have G5 : Fr F4 N N5 := G3.trans p7
  rw [p1, bs, ib, if_pos rfl, p2, bs, m_word' g5.2.1 g5.2.2.1, bs, dw g5.2.2.2 g5.2.2.1 (r := 15) (by decide) (K := 16955493) rfl (fun x => f_X7_personItem_j96 (nI (vN T a2 (e2 - a2))) c1 x N5)]
  unfold f_X7_personItem_j96
  have hp := ph_rel (r1 := 15) (r3 := 29) (idx := np) (hi := 99999) (by decide) z (by decide) (by decide) (by decide) g5 (df := 100) ((w5.2.2.1 np z).2.2.2.1.trans (by rw [upd_ne (by omega)]; exact hd3)) ⟨100, by decide, rfl⟩
  rcases hp with ⟨c4, M6, N6, a6, e6, s6, u1, u2, u3, g6, u5, u6, u7⟩ | ⟨c4, M6, N6, u1, u2, u6, u7, bd⟩
  case inr =>
    right
    obtain ⟨a2, e2, s2, b1, b2, b3, b4⟩ := id bd
    refine ⟨M6, N6, by rw [show f_X3_perhapsNumber 15 99999 29 (nI np) M5 = _ from u1, bs, ib, if_neg Bool.false_ne_true], ?_, bd, F5.trans (u6.mono F49_X), (G5.trans u7).mono F4_M⟩
    rw [show f_X7_perhaps (b2i (wd T a5 e5 s5 15)) 99999 100 N5 = _ from u2, bs, if_neg (ne1 b4)]
  have w6 := (w5.setP (p := np) (k := 3) z (by decide) c4).f49 (by omega) u6
  have F6 : Fr FX M M6 := F5.trans (((Fr.rf (T := FX)).put rfl (by unfold FX; omega)).trans (u6.mono F49_X))
  have G6 : Fr F4 N N6 := G5.trans u7
  have e60 : N6 60 = N 60 := funext fun k => G6 60 k (by unfold F4; omega)
  obtain ⟨N7, n1, n2, n3⟩ := mw_newP (N := N6) (by rw [e60]; exact o) z (nI (vN T a2 (e2 - a2)))
  left
  have es : (up (up N7 60 (41 + 5 * np + 0) c1) 60 (41 + 5 * np + 3) c4) 60 = upd (upd (npS (N 60) np (nI (vN T a2 (e2 - a2)))) (41 + 5 * np + 0) c1) (41 + 5 * np + 3) c4 := by
    rw [up_eq, up_eq, n2, e60]
  have fu : Fr (fun i k => i = 60) N7 (up (up N7 60 (41 + 5 * np + 0) c1) 60 (41 + 5 * np + 3) c4) := ((Fr.rf (T := fun i _ => i = 60)).put rfl rfl).put rfl rfl
  have fn := n3.trans fu
  have o1 := o.newP z (hd := nI (vN T a2 (e2 - a2))) ⟨_, hv, rfl⟩
  have o5 := (o1.setP (p := np) (k := 0) z (by decide) (v := c1) (fun _ => p3) (by omega) (by omega)).setP (p := np) (k := 3) z (by decide) (v := c4) (by omega) (by omega) (by omega)
  refine ⟨M6, _, a6, e6, s6, nw, np + 1, ?_, ?_, ⟨g6.1, g6.2.1.fr fn (by omega) (fun k => by omega), g6.2.2.1, by rw [fn _ _ (by omega)]; exact g6.2.2.2⟩, by rw [es]; exact w6, by rw [es]; exact o5, by omega, F6, (G6.mono F4_M).trans (fn.mono (fun i k z => by unfold FM; omega))⟩
  · rw [show f_X3_perhapsNumber 15 99999 29 (nI np) M5 = _ from u1, bs, ib, if_pos rfl]
  · rw [show f_X7_perhaps (b2i (wd T a5 e5 s5 15)) 99999 100 N5 = _ from u2, bs, if_pos g6.2.2.2, n1]
    simp only [bs, letv, show ∀ M, f_X7_where (nI np) 0 M = some (nI (41 + 5 * np + 0)) from fun M => m_where np 0 M, show ∀ M, f_X7_where (nI np) 3 M = some (nI (41 + 5 * np + 3)) from fun M => m_where np 3 M, ck_pos (vp_in_nI (show 41 + 5 * np + 0 < 99 by omega) (by decide)), ck_pos (vp_in_nI (show 41 + 5 * np + 3 < 99 by omega) (by decide)), ix_nI (show 41 + 5 * np + 0 < 2 ^ 31 by omega), ix_nI (show 41 + 5 * np + 3 < 2 ^ 31 by omega)]
end PERSON
