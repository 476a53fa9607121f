section ITEMS
variable {t : Nat} {T : Nat → Nat} {M N : Mem} {i a e s a' e' s' nw np : Nat}
def FX : Nat → Nat → Prop := fun i k => (17 ≤ i ∧ i < 17 + 16) ∨ (i = 49 ∧ k ≠ 1)
def FM : Nat → Nat → Prop := fun i k => i = 60 ∨ (i = 59 ∧ 14 ≤ k ∧ k ≤ 17)
theorem F49_X : ∀ i k, F49 i k → FX i k := fun i k h => by unfold F49 at h; unfold FX; omega
theorem F4_M : ∀ i k, F4 i k → FM i k := fun i k h => by unfold F4 at h; unfold FM; omega
def Out (t : Nat) (T : Nat → Nat) (M N : Mem) (A : Option (Bool × Mem)) (B : Option Mem) (a : Nat) : Prop :=
  (∃ M1 N1 a' e' s' nw np, A = some (true, M1) ∧ B = some N1 ∧ Gd2 t T M1 N1 a' e' s' ∧ RW 17 M1 (N1 60) ∧ Ok (N1 60) nw np ∧ a < a' ∧ Fr FX M M1 ∧ Fr FM N N1) ∨ (∃ M1 N1, A = some (false, M1) ∧ B = some N1 ∧ Bd t T M1 N1 ∧ Fr FX M M1 ∧ Fr FM N N1)
theorem if2 {α : Type} {c : Prop} [Decidable c] (x : α) : (if c then x else x) = x := by split <;> rfl
theorem dw {α : Type} (w : N 59 17 = 0) (sh : Sh t T a e s) {r : Nat} (hr : r < 16) {K : Int64} (hK : K = lN (KN.getD r 0)) (F : Int32 → α) : (if lg_cmp (wv T N a e s) K = 0 then F 1 else F 0) = F (b2i (wd T a e s r)) := by
  have e0 := wv_0 (N := N) w sh hr
  rw [← hK] at e0
  cases h : wd T a e s r
  · rw [h] at e0
    rw [if_neg (by rw [e0]; decide)]; rfl
  · rw [h] at e0
    rw [if_pos (by rw [e0])]; rfl
theorem wi_w1 (w : N 59 17 = 1) (x1 x2 x3 x4 t1 : Int32) : f_X7_writerItem_j101 x1 x2 x3 x4 t1 N = some N := by
  unfold f_X7_writerItem_j101
  obtain ⟨v, e1⟩ := ph_w w t1 99 4
  rw [e1, bs, if_neg (ne1 w)]
theorem wi_w2 (w : N 59 17 = 1) (c : CN t T N a e) (sh : Sh t T a e s) (x1 x2 x3 t1 : Int32) : f_X7_writerItem_j79 x1 x2 x3 t1 N = some N := by
  unfold f_X7_writerItem_j79
  obtain ⟨v, e1⟩ := mk_rel_w w t1
  rw [e1, bs, m_word c sh, bs, wi_w1 w, wi_w1 w]
  exact if2 _
theorem wi_w3 (w : N 59 17 = 1) (c : CN t T N a e) (sh : Sh t T a e s) (x1 x2 t1 : Int32) : f_X7_writerItem_j58 x1 x2 t1 N = some N := by
  unfold f_X7_writerItem_j58
  obtain ⟨v, e1⟩ := mk_rel_w w t1
  rw [e1, bs, m_word c sh, bs, wi_w2 w c sh, wi_w2 w c sh]
  exact if2 _
theorem wi_w4 (w : N 59 17 = 1) (c : CN t T N a e) (sh : Sh t T a e s) (x1 t1 : Int32) : f_X7_writerItem_j37 x1 t1 N = some N := by
  unfold f_X7_writerItem_j37
  obtain ⟨v, e1⟩ := mk_rel_w w t1
  rw [e1, bs, m_word c sh, bs, wi_w3 w c sh, wi_w3 w c sh]
  exact if2 _
theorem m_word' (h : CN t T N a e) (sh : Sh t T a e s) : f_X7_word N = some (wv T N a e s) := m_word h sh
theorem upd_cg {S S' : Nat → Int32} {n : Nat} (h : ∀ k, k < n → S' k = S k) (q : Nat) (v : Int32) : ∀ k, k < n → upd S' q v k = upd S q v k := fun k hk => by
  rw [upd_if, upd_if, h k hk]
theorem RW.f49 {S : Nat → Int32} {b : Nat} {M1 : Mem} (hb : b ≤ 33) (w : RW b M S) (f : Fr F49 M M1) : RW b M1 S := w.fr f (fun i k p q => by unfold F49; omega)
theorem it_writer {kd : Nat} (hk : kd < 7) (h : Gd2 t T M N a e s) (hs : s = 1) (w : RW 17 M (N 60)) (o : Ok (N 60) nw np) : Out t T M N (f_X3_newWriter (nI kd) M) (f_X7_writerItem (nI kd) N) a := by
  have hsh := h.2.2.1
  have h6 := o.1.1
  unfold f_X3_newWriter f_X7_writerItem
  rw [ck_pos vl_0, ix_0, o.1.2.2.1]
  by_cases z : nw < 6
  case neg =>
    have e6 : nw = 6 := by omega
    subst e6
    right
    have e1 : f_X5_addOne 18 (nI kd) M = some (-1, M) := by
      unfold f_X5_addOne
      rw [show M 18 0 = _ from w.1.1, o.1.2.2.1, if_neg (by decide)]
    have f0 : Fr F4 N (up N 59 17 1) := Fr.rf.put rfl (by unfold F4; omega)
    have c0 := h.2.1.fr (N1 := up N 59 17 1) (U := fun i k => i = 59 ∧ k = 17) (Fr.rf.put rfl ⟨rfl, rfl⟩) (by omega) (fun k => by omega)
    have w0 : (up N 59 17 1) 59 17 = 1 := by rw [up_ap, if_pos ⟨rfl, rfl⟩]
    refine ⟨M, up N 59 17 1, ?_, ?_, h.bad c0 w0, Fr.rf, f0.mono F4_M⟩
    · rw [e1, bs, if_neg (show ¬ (0 : Int32) ≤ -1 by decide)]
    · rw [if_pos (by decide)]
      unfold f_X7_writerItem_j17
      rw [nd_no h.2.2.2, bs, m_word c0 hsh, bs, wi_w4 w0 c0 hsh, wi_w4 w0 c0 hsh]
      exact if2 _
  obtain ⟨M0, e0, w0⟩ := xw_addW w o z (nI kd)
  have fa := fr_X5_addOne e0
  have c0 : CX t T M0 a e s := h.1.fr fa (fun k => by omega) (fun k => by omega)
  have fa2 : Fr FX M M0 := fa.mono (fun i k z => by unfold FX; omega)
  obtain ⟨a1, e1, s1, k1, hlt1⟩ := g_step h (by omega) (by omega)
  obtain ⟨M1, x1, cx1, fx1⟩ := cx_step c0 (by omega) k1
  obtain ⟨N1, y1, ww1, -, cn1, fy1⟩ := nd_ok h.2.2.2 h.2.1 k1
  have g1 : Gd2 t T M1 N1 a1 e1 s1 := ⟨cx1, cn1, k1.2, ww1⟩
  have w1 := w0.f49 (by omega) fx1
  have v1 : ∀ j, 1 ≤ j → j ≤ 3 → nwS (N 60) nw (nI kd) (5 + 6 * nw + j) = 0 := by
    intro j j1 j2
    unfold nwS
    rw [upd_ne (by omega), upd_ne (by omega), upd_ne (by omega)]
    by_cases q3 : j = 3
    · subst q3; rw [upd_eq]
    rw [upd_ne (by omega)]
    by_cases q2 : j = 2
    · subst q2; rw [upd_eq]
    rw [upd_ne (by omega)]
    have q1 : j = 1 := by omega
    subst q1
    rw [upd_eq]
  have v4 : nwS (N 60) nw (nI kd) (5 + 6 * nw + 4) = 4 := by
    unfold nwS
    rw [upd_ne (by omega), upd_ne (by omega), upd_eq]
  rw [show f_X5_addOne 18 (nI kd) M = _ from e0, bs, if_pos (show (0 : Int32) ≤ nI nw from nI_pos' (by omega)), x1, bs, if_neg (show ¬ (6 : Int32) ≤ nI nw from nI_ge (a := nw) (b := 6) (by omega) (by omega))]
  dsimp only
  unfold f_X7_writerItem_j17
  rw [y1, bs, m_word' cn1 k1.2, bs, dw ww1 k1.2 (r := 9) (by decide) (K := 120467) rfl (fun x => f_X7_writerItem_j37 (nI kd) x N1)]
  unfold f_X7_writerItem_j37
  rcases mk_rel (r1 := 9) (r2 := 20) (idx := nw) (by decide) z (by decide) (by decide) g1 ((w1.2.1 nw z).2.1.trans (v1 1 (by omega) (by omega))) with ⟨c1, M2, N2, a2, e2, s2, p1, p2, p3, g2, p5, p6, p7⟩ | ⟨c1, M2, N2, p1, p2, p6, p7, bd⟩
  case inr =>
    right
    obtain ⟨a2, e2, s2, b1, b2, b3, b4⟩ := id bd
    refine ⟨M2, N2, by rw [p1, bs, ib, if_neg Bool.false_ne_true], ?_, bd, fa2.trans ((fx1.trans p6).mono F49_X), (fy1.trans p7).mono F4_M⟩
    rw [p2, bs, m_word b2 b3, bs, wi_w3 b4 b2 b3, wi_w3 b4 b2 b3]
    exact if2 _
  have w2 := (w1.setW (w := nw) (k := 1) z (by decide) c1).f49 (by omega) p6
  rw [p1, bs, ib, if_pos rfl, p2, bs, m_word' g2.2.1 g2.2.2.1, bs, dw g2.2.2.2 g2.2.2.1 (r := 10) (by decide) (K := 37011) rfl (fun x => f_X7_writerItem_j58 (nI kd) c1 x N2)]
  unfold f_X7_writerItem_j58
  have F2 : Fr FX M M2 := fa2.trans ((fx1.mono F49_X).trans (((Fr.rf (T := FX)).put rfl (by unfold FX; omega)).trans (p6.mono F49_X)))
  have G2 : Fr F4 N N2 := fy1.trans p7
  rcases mk_rel (r1 := 10) (r2 := 21) (idx := nw) (by decide) z (by decide) (by decide) g2 ((w2.2.1 nw z).2.2.1.trans (by rw [upd_ne (by omega)]; exact v1 2 (by omega) (by omega))) with ⟨c2, M3, N3, a3, e3, s3, q1, q2, q3, g3, q5, q6, q7⟩ | ⟨c2, M3, N3, q1, q2, q6, q7, bd⟩
  case inr =>
    right
    obtain ⟨a2, e2, s2, b1, b2, b3, b4⟩ := id bd
    refine ⟨M3, N3, by rw [q1, bs, ib, if_neg Bool.false_ne_true], ?_, bd, F2.trans (q6.mono F49_X), (G2.trans q7).mono F4_M⟩
    rw [q2, bs, m_word b2 b3, bs, wi_w2 b4 b2 b3, wi_w2 b4 b2 b3]
    exact if2 _
  have w3 := (w2.setW (w := nw) (k := 2) z (by decide) c2).f49 (by omega) q6
  rw [q1, bs, ib, if_pos rfl, q2, bs, m_word' g3.2.1 g3.2.2.1, bs, dw g3.2.2.2 g3.2.2.1 (r := 11) (by decide) (K := 762030) rfl (fun x => f_X7_writerItem_j79 (nI kd) c1 c2 x N3)]
  unfold f_X7_writerItem_j79
  have F3 : Fr FX M M3 := F2.trans (((Fr.rf (T := FX)).put rfl (by unfold FX; omega)).trans (q6.mono F49_X))
  have G3 : Fr F4 N N3 := G2.trans q7
  rcases mk_rel (r1 := 11) (r2 := 22) (idx := nw) (by decide) z (by decide) (by decide) g3 ((w3.2.1 nw z).2.2.2.1.trans (by rw [upd_ne (by omega), upd_ne (by omega)]; exact v1 3 (by omega) (by omega))) with ⟨c3, M4, N4, a4, e4, s4, r1, r2, r3, g4, r5, r6, r7⟩ | ⟨c3, M4, N4, r1, r2, r6, r7, bd⟩
  case inr =>
    right
    obtain ⟨a2, e2, s2, b1, b2, b3, b4⟩ := id bd
    refine ⟨M4, N4, by rw [r1, bs, ib, if_neg Bool.false_ne_true], ?_, bd, F3.trans (r6.mono F49_X), (G3.trans r7).mono F4_M⟩
    rw [r2, bs, m_word b2 b3, bs, wi_w1 b4, wi_w1 b4]
    exact if2 _
  have w4 := (w3.setW (w := nw) (k := 3) z (by decide) c3).f49 (by omega) r6
  rw [r1, bs, ib, if_pos rfl, r2, bs, m_word' g4.2.1 g4.2.2.1, bs, dw g4.2.2.2 g4.2.2.1 (r := 12) (by decide) (K := 17376357) rfl (fun x => f_X7_writerItem_j101 (nI kd) c1 c2 c3 x N4)]
  unfold f_X7_writerItem_j101
  have F4' : Fr FX M M4 := F3.trans (((Fr.rf (T := FX)).put rfl (by unfold FX; omega)).trans (r6.mono F49_X))
  have G4 : Fr F4 N N4 := G3.trans r7
  have hp := ph_rel (r1 := 12) (r3 := 23) (idx := nw) (hi := 99) (by decide) z (by decide) (by decide) (by decide) g4 (df := 4) ((w4.2.1 nw z).2.2.2.2.1.trans (by rw [upd_ne (by omega), upd_ne (by omega), upd_ne (by omega)]; exact v4)) ⟨4, by decide, rfl⟩
  rcases hp with ⟨c4, M5, N5, a5, e5, s5, u1, u2, u3, g5, u5, u6, u7⟩ | ⟨c4, M5, N5, u1, u2, u6, u7, bd⟩
  case inr =>
    right
    obtain ⟨a2, e2, s2, b1, b2, b3, b4⟩ := id bd
    refine ⟨M5, N5, by rw [show f_X3_perhapsNumber 12 99 23 (nI nw) M4 = _ from u1, bs, ib, if_neg Bool.false_ne_true], ?_, bd, F4'.trans (u6.mono F49_X), (G4.trans u7).mono F4_M⟩
    rw [show f_X7_perhaps (b2i (wd T a4 e4 s4 12)) 99 4 N4 = _ from u2, bs, if_neg (ne1 b4)]
  have w5 := (w4.setW (w := nw) (k := 4) z (by decide) c4).f49 (by omega) u6
  have F5 : Fr FX M M5 := F4'.trans (((Fr.rf (T := FX)).put rfl (by unfold FX; omega)).trans (u6.mono F49_X))
  have G5 : Fr F4 N N5 := G4.trans u7
  have e60 : N5 60 = N 60 := funext fun k => G5 60 k (by unfold F4; omega)
  obtain ⟨N6, n1, n2, n3⟩ := mw_newW (N := N5) (by rw [e60]; exact o) z (nI kd)
  left
  have es : ∀ k, k < 99 → (up (up (up (up N6 60 (5 + 6 * nw + 1) c1) 60 (5 + 6 * nw + 2) c2) 60 (5 + 6 * nw + 3) c3) 60 (5 + 6 * nw + 4) c4) 60 k = upd (upd (upd (upd (nwS (N 60) nw (nI kd)) (5 + 6 * nw + 1) c1) (5 + 6 * nw + 2) c2) (5 + 6 * nw + 3) c3) (5 + 6 * nw + 4) c4 k := by
    rw [up_eq, up_eq, up_eq, up_eq]
    refine upd_cg (upd_cg (upd_cg (upd_cg ?_ _ _) _ _) _ _) _ _
    rw [← e60]
    exact n2
  have fu : Fr (fun i k => i = 60) N6 (up (up (up (up N6 60 (5 + 6 * nw + 1) c1) 60 (5 + 6 * nw + 2) c2) 60 (5 + 6 * nw + 3) c3) 60 (5 + 6 * nw + 4) c4) := ((((Fr.rf (T := fun i _ => i = 60)).put rfl rfl).put rfl rfl).put rfl rfl).put rfl rfl
  have fn := n3.trans fu
  have o1 := o.newW z (kd := nI kd) ⟨kd, hk, rfl⟩
  have o5 := (((o1.setW (w := nw) (k := 1) z (by decide) (v := c1) (by omega) (fun _ _ => p3) (by omega)).setW (w := nw) (k := 2) z (by decide) (v := c2) (by omega) (fun _ _ => q3) (by omega)).setW (w := nw) (k := 3) z (by decide) (v := c3) (by omega) (fun _ _ => r3) (by omega)).setW (w := nw) (k := 4) z (by decide) (v := c4) (by omega) (by omega) (fun _ => u3)
  refine ⟨M5, _, a5, e5, s5, nw + 1, np, ?_, ?_, ⟨g5.1, g5.2.1.fr fn (by omega) (fun k => by omega), g5.2.2.1, by rw [fn _ _ (by omega)]; exact g5.2.2.2⟩, w5.cg es, o5.cg es, by omega, F5, (G5.mono F4_M).trans (fn.mono (fun i k z => by unfold FM; omega))⟩
  · rw [show f_X3_perhapsNumber 12 99 23 (nI nw) M4 = _ from u1, bs, ib, if_pos rfl]
  · rw [show f_X7_perhaps (b2i (wd T a4 e4 s4 12)) 99 4 N4 = _ from u2, bs, if_pos g5.2.2.2, n1]
    simp only [bs, letv, show ∀ M, f_X7_at (nI nw) 1 M = some (nI (5 + 6 * nw + 1)) from fun M => m_at nw 1 M, show ∀ M, f_X7_at (nI nw) 2 M = some (nI (5 + 6 * nw + 2)) from fun M => m_at nw 2 M, show ∀ M, f_X7_at (nI nw) 3 M = some (nI (5 + 6 * nw + 3)) from fun M => m_at nw 3 M, show ∀ M, f_X7_at (nI nw) 4 M = some (nI (5 + 6 * nw + 4)) from fun M => m_at nw 4 M, ck_pos (vp_in_nI (show 5 + 6 * nw + 1 < 99 by omega) (by decide)), ck_pos (vp_in_nI (show 5 + 6 * nw + 2 < 99 by omega) (by decide)), ck_pos (vp_in_nI (show 5 + 6 * nw + 3 < 99 by omega) (by decide)), ck_pos (vp_in_nI (show 5 + 6 * nw + 4 < 99 by omega) (by decide)), ix_nI (show 5 + 6 * nw + 1 < 2 ^ 31 by omega), ix_nI (show 5 + 6 * nw + 2 < 2 ^ 31 by omega), ix_nI (show 5 + 6 * nw + 3 < 2 ^ 31 by omega), ix_nI (show 5 + 6 * nw + 4 < 2 ^ 31 by omega)]
end ITEMS
