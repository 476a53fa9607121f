section TEXT
variable {t : Nat} {T : Nat → Nat} {M N : Mem} {i a e s a' e' s' nw np : Nat}
theorem obid {α β : Type} (x : Option (α × β)) : (x.bind fun r => some (r.1, r.2)) = x := by cases x <;> rfl
theorem obid1 {α : Type} (x : Option α) : (x.bind fun r => some r) = x := by cases x <;> rfl
theorem obid2 {β : Type} (x : Option (Bool × β)) : (x.bind fun r => if b2i r.1 = 0 then some (false, r.2) else some (true, r.2)) = x := by
  cases x with
  | none => rfl
  | some r =>
    obtain ⟨b, m⟩ := r
    cases b <;> rfl
theorem ti_no (h : Gd2 t T M N a e s) (hw : wd T a e s 1 = false) : f_X7_tieItem N = some (up N 59 17 1) := by
  obtain ⟨f0, c0, w0⟩ := w_put h
  unfold f_X7_tieItem
  rw [m_word' h.2.1 h.2.2.1, bs, dw h.2.2.2 h.2.2.1 (r := 1) (by decide) (K := 20773) rfl (fun x => f_X7_tieItem_j17 x N), hw, b2i_f]
  unfold f_X7_tieItem_j17 f_X7_tieItem_j57
  rw [nd_no h.2.2.2, bs, ck_pos vl_1, nu_w w0, bs]
  simp only [letv]
  rw [if_neg (ne1 w0), ti_w2 w0]
theorem it_item (h : Gd2 t T M N a e s) (w : RW 17 M (N 60)) (o : Ok (N 60) nw np) : Out t T M N (f_X3_item M) (f_X7_item N) a := by
  have hsh := h.2.2.1
  unfold f_X3_item f_X7_item
  rw [x_word (r := 0) (by decide) h.1 hsh, bs, ib, x_word (r := 1) (by decide) h.1 hsh, bs, ib, x_kind h.1 hsh, bs, m_kind h.2.2.2 h.2.1 hsh, bs, m_word' h.2.1 hsh, bs, dk h.2.2.2 hsh (r := 0) (by decide) (K := 542723566) rfl]
  simp only [obid, obid1, obid2]
  rcases kd_or T a e s with hk | ⟨k, hk7, hk, hkw⟩
  · have nk : (-1 : Int32) < 0 := by decide
    rw [hk, if_pos nk, if_pos nk]
    cases h0 : wd T a e s 0
    · rw [if_neg Bool.false_ne_true, if_neg Bool.false_ne_true]
      cases h1 : wd T a e s 1
      · rw [if_neg Bool.false_ne_true, ti_no h h1]
        obtain ⟨f0, c0, w0⟩ := w_put h
        exact Or.inr ⟨M, _, rfl, rfl, h.bad c0 w0, Fr.rf, f0.mono F4_M⟩
      · rw [if_pos rfl]
        exact it_tie h h1 w o
    · rw [if_pos rfl, if_pos rfl]
      exact it_person h (of_decide_eq_true (h0 : decide _ = true)).1 w o
  · have n0 : wd T a e s 0 = false := by
      cases h0 : wd T a e s 0
      · rfl
      · have := wd_u (by omega) (by omega) hkw h0
        omega
    have n1 : wd T a e s 1 = false := by
      cases h0 : wd T a e s 1
      · rfl
      · have := wd_u (by omega) (by omega) hkw h0
        omega
    rw [n0, n1, if_neg Bool.false_ne_true, if_neg Bool.false_ne_true, hk, if_neg (nI_pos (by omega)), if_neg (nI_pos (by omega))]
    exact it_writer hk7 h (of_decide_eq_true (hkw : decide _ = true)).1 w o
theorem it_w (w : N 59 17 = 1) (c : CN t T N a e) (sh : Sh t T a e s) : f_X7_item N = some N := by
  have ew : f_X7_word N = some 0 := by rw [m_word' c sh, wv_w w]
  have ek : f_X7_kindHere N = some (-1) := by
    unfold f_X7_kindHere
    rw [ew, bs, if_neg (by rw [lg_eq0]; decide), if_neg (by rw [lg_eq0]; decide), if_neg (by rw [lg_eq0]; decide), if_neg (by rw [lg_eq0]; decide), if_neg (by rw [lg_eq0]; decide), if_neg (by rw [lg_eq0]; decide), if_neg (by rw [lg_eq0]; decide)]
  unfold f_X7_item
  rw [ek, bs, if_pos (by decide), ew, bs, if_neg (by rw [lg_eq0]; decide)]
  unfold f_X7_tieItem
  rw [ew, bs, ti_w3 w, ti_w3 w]
  rw [if2, bs]
def TO (t : Nat) (T : Nat → Nat) (M N : Mem) (A : Option (Int32 × Mem)) (B : Option (Int32 × Mem)) : Prop :=
  (∃ M1 N1 c nw np, A = some (nI c, M1) ∧ B = f_X7_text_j74 (nI c) N1 ∧ c < 2 ^ 31 ∧ N1 59 17 = 0 ∧ RW 17 M1 (N1 60) ∧ Ok (N1 60) nw np ∧ Fr FX M M1 ∧ Fr FM N N1) ∨ (∃ M1 N1 x a, A = some ((-1 : Int32) - nI a, M1) ∧ B = f_X7_text_j74 x N1 ∧ a ≤ 120 ∧ N1 59 17 = 1 ∧ N1 59 14 = nI a ∧ Fr FX M M1 ∧ Fr FM N N1)
theorem tx_w (m : Nat) (hm : 0 < m) (w : N 59 17 = 1) (x : Int32) : f_X7_text_l24 m x N = f_X7_text_j74 x N := by
  obtain ⟨m, rfl⟩ : ∃ k, m = k + 1 := ⟨m - 1, by omega⟩
  show f_X7_text_b24 (f_X7_text_l24 m) x N = _
  unfold f_X7_text_b24
  rw [if_neg (ne1 w)]
theorem tx_loop : ∀ (d m m' c a e s nw np : Nat) (M N : Mem), a + d = t → d + 1 < m → d + 2 < m' → 1 ≤ c → 2 * (c - 1) ≤ a → Gd2 t T M N a e s → RW 17 M (N 60) → Ok (N 60) nw np → TO t T M N (f_X3_wholeText_l9 m (nI c) M) ((f_X7_item N).bind fun N1 => f_X7_text_l24 m' (nI c) N1) := by
  intro d
  induction d using Nat.strongRecOn with
  | _ d ih =>
  intro m m' c a e s nw np M N hd hm hm' hc1 hc2 h w o
  obtain ⟨m, rfl⟩ : ∃ k, m = k + 1 := ⟨m - 1, by omega⟩
  obtain ⟨m', rfl⟩ : ∃ k, m' = k + 1 := ⟨m' - 1, by omega⟩
  have ht := h.1.1.1
  have hit := it_item h w o
  show TO t T M N (f_X3_wholeText_b9 (f_X3_wholeText_l9 m) (nI c) M) _
  unfold f_X3_wholeText_b9
  rw [if_neg (show ¬ (120 : Int32) < nI c from nI_nlt (a := 120) (b := c) (by omega) (by omega))]
  rcases hit with ⟨M1, N1, a1, e1, s1, nw1, np1, x1, y1, g1, w1, o1, hlt, F1, G1⟩ | ⟨M1, N1, x1, y1, bd, F1, G1⟩
  case inr =>
    right
    obtain ⟨a1, e1, s1, b1, b2, b3, b4⟩ := bd
    have := b3.1
    refine ⟨M1, N1, nI c, a1, ?_, ?_, by omega, b4, b2.2.1, F1, G1⟩
    · rw [x1, bs, ib, if_neg Bool.false_ne_true]
      show some ((-1 : Int32) - M1 49 2, M1) = _
      rw [b1]
    · rw [y1, bs, tx_w (m' + 1) (by omega) b4]
  have hsh := g1.2.2.1
  rw [x1, bs, ib, if_pos rfl, x_isEnd g1.1 hsh, bs, ib, y1, bs]
  show TO t T M N _ (f_X7_text_b24 (f_X7_text_l24 m') (nI c) N1)
  unfold f_X7_text_b24
  rw [if_pos g1.2.2.2, g1.2.1.2.1, g1.2.1.1.2.1, m_byte g1.2.1.1 hsh.1, bs]
  by_cases h4 : s1 = 4
  · left
    have hat : a1 = t := by obtain ⟨-, z | ⟨-, z⟩⟩ := hsh <;> omega
    refine ⟨M1, N1, c, nw1, np1, ?_, ?_, by omega, g1.2.2.2, w1, o1, F1, G1⟩
    · rw [decide_eq_true h4, if_pos rfl]
    · rw [if_pos (nI_le (by omega) (by omega))]
  have hat : a1 < t := by obtain ⟨-, z | ⟨z, -⟩⟩ := hsh <;> omega
  have hch := g1.1.1.2.2.1 a1 hat
  rw [decide_eq_false h4, if_neg Bool.false_ne_true, if_neg (nI_ge hat (by omega)), x_isSign g1.1 hsh, bs, ib]
  have eb : byI t T a1 = nI (T a1) := by unfold byI; rw [if_pos hat]
  by_cases h3 : s1 = 3
  · have h59 : T a1 = 59 := by obtain ⟨-, z | ⟨-, z | z | z | z⟩⟩ := hsh <;> omega
    obtain ⟨a2, e2, s2, k2, hlt2⟩ := g_step g1 (by omega) (by omega)
    obtain ⟨M2, x2, cx2, fx2⟩ := cx_step g1.1 (by omega) k2
    obtain ⟨N2, y2, ww2, -, cn2, fy2⟩ := nd_ok g1.2.2.2 g1.2.1 k2
    have hle := k2.2.1
    have e60 : N2 60 = N1 60 := funext fun k => fy2 60 k (by unfold F4; omega)
    have key := ih (t - a2) (by omega) m m' (c + 1) a2 e2 s2 nw1 np1 M2 N2 (by omega) (by omega) (by omega) (by omega) (by omega) ⟨cx2, cn2, k2.2, ww2⟩ (by rw [e60]; exact w1.f49 (by omega) fx2) (by rw [e60]; exact o1)
    have F2 : Fr FX M M2 := F1.trans (fx2.mono F49_X)
    have G2 : Fr FM N N2 := G1.trans (fy2.mono F4_M)
    rw [decide_eq_true h3, if_pos rfl, x2, bs, eb, h59, if_pos (by decide), y2, bs, nI_1]
    rcases key with ⟨M3, N3, c3, nw3, np3, q1, q2, q3, q4, q5, q6, q7, q8⟩ | ⟨M3, N3, x3, a3, q1, q2, q3, q4, q5, q7, q8⟩
    · exact Or.inl ⟨M3, N3, c3, nw3, np3, q1, q2, q3, q4, q5, q6, F2.trans q7, G2.trans q8⟩
    · exact Or.inr ⟨M3, N3, x3, a3, q1, q2, q3, q4, q5, F2.trans q7, G2.trans q8⟩
  · right
    have h59 : T a1 ≠ 59 := by
      obtain ⟨-, z | ⟨-, z | z | z | z⟩⟩ := hsh
      · omega
      · have := of_decide_eq_true z.2.1; omega
      · have := of_decide_eq_true z.2.1; omega
      · omega
      · exact z.2.2.2.1
    obtain ⟨f0, c0, w0⟩ := w_put g1
    refine ⟨M1, up N1 59 17 1, nI c + 1, a1, ?_, ?_, by omega, w0, c0.2.1, F1, G1.trans (f0.mono F4_M)⟩
    · rw [decide_eq_false h3, if_neg Bool.false_ne_true]
      show some ((-1 : Int32) - M1 49 2, M1) = _
      rw [g1.1.2.1]
    · rw [eb, if_neg (show ¬ nI (T a1) = (59 : Int32) from fun y => h59 ((nI_eq (b := 59) (by omega) (by omega)).mp y)), nd_no g1.2.2.2, bs, it_w w0 c0 hsh, bs, tx_w m' (by omega) w0]
theorem cn_tok2 (h : TXm t T N) (h5 : N 59 15 = nI i) (k : Tk t T i a e s) : ∃ N1, f_X7_token N = some N1 ∧ CN t T N1 a e ∧ Fr F59 N N1 := by
  have ht := h.1
  have f : Fr F59 N (up N 59 14 (nI i)) := Fr.rf.put rfl (by unfold F59; omega)
  obtain ⟨N1, e1, e2, f2⟩ := m_sp_l FU (h.fr f (by unfold F59; omega) (fun k => by unfold F59; omega)) k (show a - i < 5000 by have := k.1.2.1; omega) (by rw [up_ap, if_pos ⟨rfl, rfl⟩])
  refine ⟨N1, ?_, e2, f.trans f2⟩
  unfold f_X7_token
  rw [h5]
  exact e1
theorem ng : ∀ a, a < 121 → (-1 : Int32) - nI a < 0 := by decide +kernel
def FA : Nat → Nat → Prop := fun i k => (1 ≤ i ∧ i < 33) ∨ i = 49
def FB : Nat → Nat → Prop := fun i k => i = 60 ∨ i = 62 ∨ (i = 59 ∧ (k = 5 ∨ (13 ≤ k ∧ k ≤ 17)))
def FC : Nat → Nat → Prop := fun i k => i = 60 ∨ i = 62 ∨ (i = 59 ∧ (k = 5 ∨ (14 ≤ k ∧ k ≤ 17)))
theorem tx_rel (h : Rel M N) {M1 N1 : Mem} (f : Fr FA M M1) (g : Fr FB N N1) (h1 : M1 49 1 = 0) (h2 : N1 59 13 = 0) (w : RW 1 M1 (N1 60)) (o : ∃ nw np, Ok (N1 60) nw np) : Rel M1 N1 := by
  obtain ⟨-, b, c, -, e⟩ := h
  unfold FA at f
  unfold FB at g
  exact ⟨⟨w, o⟩, b.fr f g (by omega) (fun i k p q => by omega) (by omega) (fun k => by omega), c.fr f g (fun k => by omega) (fun k => by omega), ⟨0, by decide, h1, h2, fun k hk => absurd hk (Nat.not_lt_zero k)⟩, e.fr f g (fun i k p q => by omega) (fun i k p q => by omega)⟩
theorem st_text (h : Rel M N) : Sim (f_X6_text M) (f_X7_text N) := by
  obtain ⟨⟨w, nw, np, o⟩, hk, ha, ⟨t, ht, t1, t2, t3⟩, hs⟩ := id h
  have tT : ∀ k, k < t → ix (N 65 k) < 256 ∧ N 65 k = nI (ix (N 65 k)) := by
    intro k hk
    obtain ⟨j, hj, ej⟩ := (t3 k hk).2
    rw [ej, ix_nI (by omega)]
    exact ⟨hj, rfl⟩
  have hx : TXc t (fun k => ix (N 65 k)) M := ⟨ht, t1, fun k hk => (tT k hk).1, fun k hk => (t3 k hk).1.trans (tT k hk).2⟩
  have hm : TXm t (fun k => ix (N 65 k)) N := ⟨ht, t2, fun k hk => (tT k hk).1, fun k hk => (tT k hk).2⟩
  generalize (fun k => ix (N 65 k)) = T at hx hm
  obtain ⟨M1, x1, w1, -, fx1⟩ := dr_start w
  obtain ⟨N1, y1, s1, n60, fy1⟩ := m_sv N
  have fx2 : Fr FX M (up M1 49 4 0) := (fx1.mono (fun i k z => by unfold DR at z; unfold FX; omega)).put rfl (by unfold FX; omega)
  have fy2 : Fr FC N (up (up N1 59 15 0) 59 17 0) := ((fy1.mono (fun i k z => by unfold TRY at z; unfold FC; omega)).put rfl (by unfold FC; omega)).put rfl (by unfold FC; omega)
  obtain ⟨a, e, s, k⟩ := tk_ex T (Nat.zero_le t)
  obtain ⟨M2, x2, cx2, fx3⟩ := x_step (hx.fr fx2 (by unfold FX; omega) (fun k => by unfold FX; omega)) (i := 0) (by rw [up_ap, if_pos ⟨rfl, rfl⟩]; rfl) k
  obtain ⟨N2, y2, cn2, fy3⟩ := cn_tok2 (hm.fr fy2 (by unfold FC; omega) (fun k => by unfold FC; omega)) (i := 0) (by rw [up_ap, if_neg (by omega), up_ap, if_pos ⟨rfl, rfl⟩]; rfl) k
  have e60 : N2 60 = N 60 := by
    have z : N2 60 = (up (up N1 59 15 0) 59 17 0) 60 := funext fun k => fy3 60 k (by unfold F59; omega)
    rw [z, up_ne (by decide), up_ne (by decide), n60]
  have e62 : ∀ k, k < 99 → N2 62 k = N 60 k := fun k hk => by
    rw [fy3 62 k (by unfold F59; omega), up_ne (by decide), up_ne (by decide)]
    exact s1 k hk
  have g : Gd2 t T M2 N2 a e s := ⟨cx2, cn2, k.2, by rw [fy3 _ _ (by unfold F59; omega), up_ap, if_pos ⟨rfl, rfl⟩]⟩
  have hat := k.2.1
  have wm : RW 17 M2 (N2 60) := by
    rw [e60]
    exact w1.f49 (by omega) (((Fr.rf (T := F49)).put rfl (by unfold F49; omega)).trans fx3)
  have key : TO t T M2 N2 (f_X3_wholeText_l9 FU 1 M2) ((f_X7_item N2).bind fun N1 => f_X7_text_l24 FU 1 N1) := tx_loop (t - a) FU FU 1 a e s nw np M2 N2 (by omega) (show t - a + 1 < 5000 by omega) (show t - a + 2 < 5000 by omega) (by omega) (by omega) g wm (by rw [e60]; exact o)
  have F2 : Fr FX M M2 := fx2.trans (fx3.mono F49_X)
  have G2 : Fr FC N N2 := fy2.trans (fy3.mono (fun i k z => by unfold F59 at z; unfold FC; omega))
  unfold f_X6_text f_X7_text f_X3_wholeText f_X2_rewind
  rw [x1, bs, y1, bs]
  simp only [letv]
  rw [x2, bs, bs, y2, bs]
  rcases key with ⟨M3, N3, c, nw3, np3, q1, q2, q3, q4, w3, o3, q7, q8⟩ | ⟨M3, N3, x, a3, q1, q2, q3, q4, q5, q7, q8⟩
  · obtain ⟨M4, x4, w4, -⟩ := xw_become (c := 1) (b := 17) (Or.inl (by decide)) w3
    have f4 := fr_X4_become x4
    rw [q1, bs, q2, if_neg (nI_pos q3)]
    unfold f_X7_text_j74
    simp only [letv]
    rw [x4, bs, if_pos (by rw [up_ap, if_neg (by omega)]; exact q4)]
    have n3 : (up N3 59 13 0) 60 = N3 60 := up_ne (by decide)
    refine ⟨nI c, up M4 49 1 0, up N3 59 13 0, rfl, rfl, tx_rel h ((((F2.trans q7).mono (fun i k z => by unfold FX at z; unfold FA; omega)).trans (f4.mono (fun i k z => by unfold FA; omega))).put rfl (by unfold FA; omega)) (((G2.mono (fun i k z => by unfold FC at z; unfold FB; omega)).trans (q8.mono (fun i k z => by unfold FM at z; unfold FB; omega))).put rfl (by unfold FB; omega)) (by rw [up_ap, if_pos ⟨rfl, rfl⟩]) (by rw [up_ap, if_pos ⟨rfl, rfl⟩]) ?_ ⟨nw3, np3, by rw [n3]; exact o3⟩⟩
    rw [n3]
    exact w4.fr (T := fun i k => i = 49) (Fr.rf.put rfl rfl) (fun i k p q => by omega)
  · rw [q1, bs, q2, if_pos (ng a3 (by omega))]
    unfold f_X7_text_j74
    simp only [letv]
    have w0 : ¬ (up N3 59 13 0) 59 17 = 0 := by rw [up_ap, if_neg (by omega)]; exact ne1 q4
    obtain ⟨N4, y4, b4, f4⟩ := m_back (up N3 59 13 0)
    rw [if_neg w0, y4, bs]
    have n4 : ∀ k, k < 99 → N4 60 k = N 60 k := fun k hk => by
      rw [b4 k hk, up_ne (by decide), q8 62 k (by unfold FM; omega)]
      exact e62 k hk
    have f14 : N4 59 14 = nI a3 := by rw [f4 _ _ (by omega), up_ap, if_neg (by omega)]; exact q5
    rw [f14]
    have fm : Fr FX M M3 := F2.trans q7
    refine ⟨(-1 : Int32) - nI a3, up M3 49 1 0, N4, rfl, rfl, tx_rel h ((fm.mono (fun i k z => by unfold FX at z; unfold FA; omega)).put rfl (by unfold FA; omega)) ((((G2.mono (fun i k z => by unfold FC at z; unfold FB; omega)).trans (q8.mono (fun i k z => by unfold FM at z; unfold FB; omega))).put rfl (by unfold FB; omega)).trans (f4.mono (fun i k z => by unfold FB; omega))) (by rw [up_ap, if_pos ⟨rfl, rfl⟩]) (by rw [f4 _ _ (by omega), up_ap, if_pos ⟨rfl, rfl⟩]) ?_ ⟨nw, np, o.cg n4⟩⟩
    refine RW.cg ?_ n4
    exact (w.fr fm (fun i k p q => by unfold FX; omega)).fr (T := fun i k => i = 49) (Fr.rf.put rfl rfl) (fun i k p q => by omega)
end TEXT
