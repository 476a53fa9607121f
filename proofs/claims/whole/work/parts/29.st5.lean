section ST5
variable {M N : Mem} {S : Nat → Int32} {nw np : Nat}
theorem itr_cp {s d : Nat} (hsd : s ≠ d) : ∀ (n i : Nat) (M : Mem) (a k : Nat), itr (fun i M => up M d i (M s i)) n i M a k = if a = d ∧ i ≤ k ∧ k < i + n then M s k else M a k := by
  intro n
  induction n with
  | zero => intro i M a k; show M a k = _; rw [if_neg (by omega)]
  | succ n ih =>
    intro i M a k
    show itr _ n (i + 1) (up M d i (M s i)) a k = _
    rw [ih, up_ap, up_ap]
    by_cases h1 : a = d ∧ i + 1 ≤ k ∧ k < i + 1 + n
    · rw [if_pos h1, if_neg (by omega), if_pos (by omega)]
    · rw [if_neg h1]
      by_cases h2 : a = d ∧ k = i
      · rw [if_pos h2, if_pos (by omega), h2.2]
      · rw [if_neg h2, if_neg (by omega)]
theorem cp_fr {s d : Nat} (n : Nat) (M : Mem) : Fr (fun i _ => i = d) M (itr (fun i M => up M d i (M s i)) n 0 M) := itr_P (P := fun Z => Fr (fun i _ => i = d) M Z) n 0 M (fun j s _ _ hf => hf.put rfl rfl) Fr.rf
theorem m_saves (N : Mem) : ∃ N1, f_X7_saves N = some N1 ∧ (∀ k, k < 99 → N1 62 k = N 60 k) ∧ Fr (fun i _ => i = 62) N N1 := by
  refine ⟨_, (lp_itr _ (f_X7_saves_b2) (fun z i (M : Mem) => z i M) (fun i M => up M 62 i (M 60 i)) (fun M => some M) 99 (fun _ _ => True) ?_ ?_ 99 FU 0 N (by omega) (show 99 < 5000 by omega) trivial).1, fun k hk => ?_, cp_fr 99 N⟩
  · intro z i M hi _
    refine ⟨?_, trivial⟩
    show f_X7_saves_b2 z (nI i) M = z (nI (i + 1)) _
    unfold f_X7_saves_b2
    rw [if_neg (show ¬ (99 : Int32) ≤ nI i from nI_ge (b := 99) hi (by decide)), ck_pos (vp_in_nI hi (by decide)), ck_pos (vp_in_nI hi (by decide)), ix_nI (by omega), nI_1]
    rfl
  · intro z M _
    show f_X7_saves_b2 z (nI 99) M = _
    unfold f_X7_saves_b2
    rw [if_pos (by decide)]
  · rw [itr_cp (by decide), if_pos (by omega)]
theorem m_back (N : Mem) : ∃ N1, f_X7_putsBack N = some N1 ∧ (∀ k, k < 99 → N1 60 k = N 62 k) ∧ Fr (fun i _ => i = 60) N N1 := by
  refine ⟨_, (lp_itr _ (f_X7_putsBack_b2) (fun z i (M : Mem) => z i M) (fun i M => up M 60 i (M 62 i)) (fun M => some M) 99 (fun _ _ => True) ?_ ?_ 99 FU 0 N (by omega) (show 99 < 5000 by omega) trivial).1, fun k hk => ?_, cp_fr 99 N⟩
  · intro z i M hi _
    refine ⟨?_, trivial⟩
    show f_X7_putsBack_b2 z (nI i) M = z (nI (i + 1)) _
    unfold f_X7_putsBack_b2
    rw [if_neg (show ¬ (99 : Int32) ≤ nI i from nI_ge (b := 99) hi (by decide)), ck_pos (vp_in_nI hi (by decide)), ck_pos (vp_in_nI hi (by decide)), ix_nI (by omega), nI_1]
    rfl
  · intro z M _
    show f_X7_putsBack_b2 z (nI 99) M = _
    unfold f_X7_putsBack_b2
    rw [if_pos (by decide)]
  · rw [itr_cp (by decide), if_pos (by omega)]
theorem cp0 (M : Mem) (a b : Nat) (n : Nat) (hn : n < 2 ^ 31) (i k : Nat) : cpM M a 0 b 0 (nI n) i k = if i = b ∧ k < n then M a k else M i k := by
  unfold cpM va_cpy
  rw [ix_0, ix_nI hn]
  by_cases h1 : i = b
  · subst h1
    by_cases h2 : k < n
    · simp [h2]
    · simp [h2]
  · simp [h1]
theorem cpok (n : Nat) (hn : n < 2 ^ 31) : cpOK 0 0 (nI n) n n := ⟨by decide, by decide, nI_pos hn, by rw [ix_0, ix_nI hn]; omega, by rw [ix_0, ix_nI hn]; omega⟩
theorem cp6 (M : Mem) (a b i k : Nat) : cpM M a 0 b 0 6 i k = if i = b ∧ k < 6 then M a k else M i k := cp0 M a b 6 (by decide) i k
theorem cp8 (M : Mem) (a b i k : Nat) : cpM M a 0 b 0 8 i k = if i = b ∧ k < 8 then M a k else M i k := cp0 M a b 8 (by decide) i k
theorem cp10 (M : Mem) (a b i k : Nat) : cpM M a 0 b 0 10 i k = if i = b ∧ k < 10 then M a k else M i k := cp0 M a b 10 (by decide) i k
theorem x_become5 {r s : Nat} (hd : r + 6 < s ∨ s + 6 < r) (M : Mem) : ∃ M1, f_X5_become r s M = some M1 ∧ M1 r 0 = M s 0 ∧ (∀ k, k < 6 → M1 (r + 1) k = M (s + 1) k ∧ M1 (r + 2) k = M (s + 2) k ∧ M1 (r + 3) k = M (s + 3) k ∧ M1 (r + 4) k = M (s + 4) k ∧ M1 (r + 5) k = M (s + 5) k ∧ M1 (r + 6) k = M (s + 6) k) := by
  refine ⟨_, by unfold f_X5_become; simp only [letv, show cpOK 0 0 6 6 6 from cpok 6 (by decide), ck_pos]; rfl, ?_, fun k hk => ⟨?_, ?_, ?_, ?_, ?_, ?_⟩⟩
  all_goals
    repeat first | rw [cp6, if_neg (by omega)] | rw [cp6, if_pos (by omega)] | rw [up_ap, if_neg (by omega)] | rw [up_ap, if_pos (by omega)]
theorem x_become0 {r s : Nat} (hd : r + 6 < s ∨ s + 6 < r) (M : Mem) : ∃ M1, f_X0_become r s M = some M1 ∧ M1 r 0 = M s 0 ∧ (∀ k, k < 8 → M1 (r + 1) k = M (s + 1) k ∧ M1 (r + 2) k = M (s + 2) k ∧ M1 (r + 3) k = M (s + 3) k ∧ M1 (r + 4) k = M (s + 4) k ∧ M1 (r + 5) k = M (s + 5) k ∧ M1 (r + 6) k = M (s + 6) k) := by
  refine ⟨_, by unfold f_X0_become; simp only [letv, show cpOK 0 0 8 8 8 from cpok 8 (by decide), ck_pos]; rfl, ?_, fun k hk => ⟨?_, ?_, ?_, ?_, ?_, ?_⟩⟩
  all_goals
    repeat first | rw [cp8, if_neg (by omega)] | rw [cp8, if_pos (by omega)] | rw [up_ap, if_neg (by omega)] | rw [up_ap, if_pos (by omega)]
/-- a world becomes as another -/
theorem xw_become {c b : Nat} (hd : c + 15 < b ∨ b + 15 < c) (h : RW b M S) : ∃ M1, f_X4_become c b M = some M1 ∧ RW c M1 S ∧ M1 c 6 = 0 := by
  obtain ⟨M1, e1, a1, a2⟩ := x_become5 (r := c + 1) (s := b + 1) (by omega) M
  have F1 := fr_X5_become e1
  obtain ⟨M2, e2, b1, b2⟩ := x_become0 (r := c + 8) (s := b + 8) (by omega) M1
  have F2 := fr_X0_become e2
  have g1 : ∀ i k, (i < c + 1 ∨ c + 1 + 7 ≤ i) → M1 i k = M i k := fun i k z => F1 i k (by omega)
  have g2 : ∀ i k, (i < c + 8 ∨ c + 8 + 7 ≤ i) → M2 i k = M1 i k := fun i k z => F2 i k (by omega)
  refine ⟨_, by unfold f_X4_become; rw [e1, bs, e2, bs, ck_pos (show cpOK 0 0 10 10 10 from cpok 10 (by decide))]; rfl, ⟨⟨?_, ?_, ?_, ?_, ?_⟩, fun w hw => ?_, fun p hp => ?_, fun q hq => ?_⟩, ?_⟩
  · repeat first | rw [cp10, if_neg (by omega)] | rw [up_ap, if_neg (by omega)]
    rw [g2 _ _ (by omega), a1]; exact h.1.1
  · repeat first | rw [cp10, if_neg (by omega)] | rw [up_ap, if_neg (by omega)]
    rw [b1, g1 _ _ (by omega)]; exact h.1.2.1
  · rw [up_ap, if_neg (by omega), up_ap, if_pos (by omega)]
    repeat first | rw [cp10, if_neg (by omega)] | rw [up_ap, if_neg (by omega)]
    rw [g2 _ _ (by omega), g1 _ _ (by omega)]; exact h.1.2.2.1
  · rw [up_ap, if_neg (by omega), up_ap, if_neg (by omega), up_ap, if_neg (by omega), up_ap, if_pos (by omega)]
    rw [cp10, if_neg (by omega), g2 _ _ (by omega), g1 _ _ (by omega)]; exact h.1.2.2.2.1
  · rw [up_ap, if_neg (by omega), up_ap, if_neg (by omega), up_ap, if_pos (by omega)]
    rw [up_ap, if_neg (by omega), cp10, if_neg (by omega), g2 _ _ (by omega), g1 _ _ (by omega)]; exact h.1.2.2.2.2
  · obtain ⟨d1, d2, d3, d4, d5, d6⟩ := h.2.1 w hw
    obtain ⟨c1, c2, c3, c4, c5, c6⟩ := a2 w hw
    refine ⟨?_, ?_, ?_, ?_, ?_, ?_⟩ <;> (repeat first | rw [cp10, if_neg (by omega)] | rw [up_ap, if_neg (by omega)]) <;> rw [g2 _ _ (by omega)]
    · exact c1.trans d1
    · exact c2.trans d2
    · exact c3.trans d3
    · exact c4.trans d4
    · exact c5.trans d5
    · exact c6.trans d6
  · obtain ⟨d1, d2, d3, d4, d5, d6⟩ := h.2.2.1 p hp
    obtain ⟨c1, c2, c3, c4, c5, c6⟩ := b2 p hp
    rw [g1 _ _ (by omega)] at c1 c2 c3 c4 c5 c6
    refine ⟨?_, ?_, ?_, ?_, ?_, ?_⟩ <;> (repeat first | rw [cp10, if_neg (by omega)] | rw [up_ap, if_neg (by omega)])
    · exact c1.trans d1
    · exact c2.trans d2
    · exact c3.trans d3
    · exact c4.trans d4
    · exact c5.trans d5
    · exact c6.trans d6
  · rw [up_ap, if_neg (by omega), up_ap, if_neg (by omega), up_ap, if_neg (by omega), up_ap, if_neg (by omega), cp10, if_pos (by omega), g2 _ _ (by omega), g1 _ _ (by omega)]
    exact h.2.2.2 q hq
  · rw [up_ap, if_pos (by omega)]
theorem st_image (h : Rel M N) : Sim (f_X6_image M) (f_X7_image N) := by
  obtain ⟨w, nw, np, o⟩ := h.1
  obtain ⟨M1, e1, w1, -⟩ := xw_become (c := 33) (b := 1) (by omega) w
  have f1 := fr_X4_become e1
  have f : Fr (fun i k => (33 ≤ i ∧ i < 33 + 16) ∨ (i = 0 ∧ k = 3)) M (up M1 0 3 1) := (f1.mono (fun i k z => Or.inl z)).put rfl (Or.inr ⟨rfl, rfl⟩)
  have e2 := (lp_itr (fun _ _ => none) (f_X7_image_b2) (fun z i (M : Mem) => z i M) (fun i M => up M 61 i (M 60 i)) (fun M => some ((1 : Int32), up M 59 4 1)) 99 (fun _ _ => True) (by
    intro z i M hi _
    refine ⟨?_, trivial⟩
    show f_X7_image_b2 z (nI i) M = z (nI (i + 1)) _
    unfold f_X7_image_b2
    rw [if_neg (show ¬ (99 : Int32) ≤ nI i from nI_ge (b := 99) hi (by decide)), ck_pos (vp_in_nI hi (by decide)), ck_pos (vp_in_nI hi (by decide)), ix_nI (by omega), nI_1]
    rfl) (by
    intro z M _
    show f_X7_image_b2 z (nI 99) M = _
    unfold f_X7_image_b2
    rw [if_pos (by decide)]
    rfl) 99 FU 0 N (by omega) (show 99 < 5000 by omega) trivial).1
  have g0 := cp_fr (s := 60) (d := 61) 99 N
  have c0 : ∀ k, k < 99 → itr (fun i M => up M 61 i (M 60 i)) 99 0 N 61 k = N 60 k := fun k hk => by rw [itr_cp (by decide), if_pos (by omega)]
  generalize itr (fun i M => up M 61 i (M 60 i)) 99 0 N = Z at e2 g0 c0
  have g : Fr (fun i k => i = 61 ∨ (i = 59 ∧ k = 4)) N (up Z 59 4 1) := (g0.mono (fun i k z => Or.inl z)).put rfl (Or.inr ⟨rfl, rfl⟩)
  refine ⟨1, _, _, by unfold f_X6_image; rw [e1]; rfl, e2, ?_⟩
  obtain ⟨a, b, c, d, e⟩ := h
  have e60 : (up Z 59 4 1) 60 = N 60 := funext fun k => g _ _ (by omega)
  have e61 : ∀ k, k < 99 → (up Z 59 4 1) 61 k = N 60 k := fun k hk => by rw [up_ap, if_neg (by omega)]; exact c0 k hk
  refine ⟨⟨by rw [e60]; exact a.1.fr f (fun i k p q => by omega), by rw [e60]; exact a.2⟩, ⟨by rw [up_ap, up_ap, if_pos ⟨rfl, rfl⟩, if_pos ⟨rfl, rfl⟩], Or.inr (by rw [up_ap, if_pos ⟨rfl, rfl⟩]), fun _ => ⟨(w1.setX (i := 0) (c := 3) (by omega) 1).cg e61, nw, np, o.cg e61⟩⟩, c.fr f g (fun k => by omega) (fun k => by omega), d.fr f g (by omega) (fun k => by omega) (by omega) (fun k => by omega), e.fr f g (fun i k p q => by omega) (fun i k p q => by omega)⟩
theorem st_undo (h : Rel M N) : Sim (f_X6_undo M) (f_X7_undo N) := by
  obtain ⟨b1, b2, b3⟩ := h.2.1
  unfold f_X6_undo f_X7_undo
  rw [b1]
  rcases b2 with z | z
  · rw [z, if_pos rfl, if_pos rfl]
    exact s_N h
  rw [z, if_neg (by decide), if_neg (by decide)]
  obtain ⟨w, nw, np, o⟩ := b3 z
  obtain ⟨M1, e1, w1, -⟩ := xw_become (c := 1) (b := 33) (by omega) w
  have f1 := fr_X4_become e1
  have e2 := (lp_itr (fun _ _ => none) (f_X7_undo_b16) (fun z i (M : Mem) => z i M) (fun i M => up M 60 i (M 61 i)) (fun M => some (M 60 3, M)) 99 (fun _ _ => True) (by
    intro z i M hi _
    refine ⟨?_, trivial⟩
    show f_X7_undo_b16 z (nI i) M = z (nI (i + 1)) _
    unfold f_X7_undo_b16
    rw [if_neg (show ¬ (99 : Int32) ≤ nI i from nI_ge (b := 99) hi (by decide)), ck_pos (vp_in_nI hi (by decide)), ck_pos (vp_in_nI hi (by decide)), ix_nI (by omega), nI_1]
    rfl) (by
    intro z M _
    show f_X7_undo_b16 z (nI 99) M = _
    unfold f_X7_undo_b16
    rw [if_pos (by decide), ck_pos vl_3, ix_3]) 99 FU 0 N (by omega) (show 99 < 5000 by omega) trivial).1
  have g0 := cp_fr (s := 61) (d := 60) 99 N
  have c0 : ∀ k, k < 99 → itr (fun i M => up M 60 i (M 61 i)) 99 0 N 60 k = N 61 k := fun k hk => by rw [itr_cp (by decide), if_pos (by omega)]
  generalize itr (fun i M => up M 60 i (M 61 i)) 99 0 N = Z at e2 g0 c0
  rw [e1, bs, show f_X7_undo_l16 FU 0 N = _ from e2, show M1 1 3 = Z 60 3 from w1.1.2.2.2.1.trans (c0 3 (by decide)).symm]
  exact ⟨_, _, _, rfl, rfl, h.live (f1.mono (fun i k z => by unfold TCl; omega)) (g0.mono (fun i k z => by unfold TMl; omega)) (w1.cg c0) ⟨nw, np, o.cg c0⟩⟩
end ST5
