section BOTH
variable {M N : Mem}
theorem Rel.left {M' : Mem} (h : Rel M N) (f : Fr (fun i _ => 59 ≤ i) M M') : Rel M' N := by
  obtain ⟨a, b, c, d, e⟩ := h
  have g : Fr (fun _ _ => False) N N := Fr.rf
  exact ⟨⟨a.1.fr f (fun i k p q => by omega), a.2⟩, b.fr f g (by omega) (fun i k p q => by omega) id (fun k => id), c.fr f g (fun k => by omega) (fun k => id), d.fr f g (by omega) (fun k => by omega) id (fun k => id), e.fr f g (fun i k p q => by omega) (fun i k p q => id)⟩
theorem Rel.right {N' : Mem} (h : Rel M N) (g : Fr (fun i _ => i < 59) N N') : Rel M N' := by
  obtain ⟨a, b, c, d, e⟩ := h
  have f : Fr (fun _ _ => False) M M := Fr.rf
  have e60 : N' 60 = N 60 := funext fun k => g 60 k (by omega)
  exact ⟨⟨by rw [e60]; exact a.1, by rw [e60]; exact a.2⟩, b.fr f g id (fun i k p q => id) (by omega) (fun k => by omega), c.fr f g (fun k => id) (fun k => by omega), d.fr f g id (fun k => id) (by omega) (fun k => by omega), e.fr f g (fun i k p q => id) (fun i k p q => by omega)⟩
/-- the class, and then the reference, on one memory: the same answer, and the same relation behind it -/
def Both (F G : Mem → Option (Int32 × Mem)) : Prop := ∀ M, Rel M M → ∃ r M1 M2, F M = some (r, M1) ∧ G M1 = some (r, M2) ∧ Rel M2 M2
theorem both_of {F G : Mem → Option (Int32 × Mem)} (hS : ∀ M N, Rel M N → Sim (F M) (G N)) (fF : ∀ M R, F M = some R → Fr (fun i _ => i < 59) M R.2) (fG : ∀ M R, G M = some R → Fr (fun i _ => 59 ≤ i) M R.2) : Both F G := by
  intro M h
  obtain ⟨r0, M1, N0, a0, -, -⟩ := hS M M h
  obtain ⟨r, M1', N1, a1, b1, c1⟩ := hS M M1 (h.right (fF M _ a0))
  rw [a0] at a1
  cases a1
  exact ⟨r0, M1, N1, a0, b1, c1.left (fG M1 _ b1)⟩

theorem bo_puts (x1 : Int32) (x2 : Int32) : Both (fun M => f_X6_puts x1 x2 M) (fun N => f_X7_puts x1 x2 N) := both_of (fun M N h => st_puts h x1 x2) (fun M R h => (fr_X6_puts h).mono (fun i k z => by omega)) (fun M R h => (fr_X7_puts h).mono (fun i k z => by omega))
theorem bo_says (x1 : Int32) : Both (fun M => f_X6_says x1 M) (fun N => f_X7_says x1 N) := both_of (fun M N h => st_says h x1) (fun M R h => (fr_X6_says h).mono (fun i k z => by omega)) (fun M R h => (fr_X7_says h).mono (fun i k z => by omega))
theorem bo_read (x1 : Int32) (x2 : Int32) (x3 : Int32) : Both (fun M => f_X6_read x1 x2 x3 M) (fun N => f_X7_read x1 x2 x3 N) := both_of (fun M N h => st_read h x1 x2 x3) (fun M R h => (fr_X6_read h).mono (fun i k z => by omega)) (fun M R h => (fr_X7_read h).mono (fun i k z => by omega))
theorem bo_ties (x1 : Int32) : Both (fun M => f_X6_ties x1 M) (fun N => f_X7_ties x1 N) := both_of (fun M N h => st_ties h x1) (fun M R h => (fr_X6_ties h).mono (fun i k z => by omega)) (fun M R h => (fr_X7_ties h).mono (fun i k z => by omega))
theorem bo_writerOf (x1 : Int32) (x2 : Int32) : Both (fun M => f_X6_writerOf x1 x2 M) (fun N => f_X7_writerOf x1 x2 N) := both_of (fun M N h => st_writerOf h x1 x2) (fun M R h => (fr_X6_writerOf h).mono (fun i k z => by omega)) (fun M R h => (fr_X7_writerOf h).mono (fun i k z => by omega))
theorem bo_of (x1 : Int32) (x2 : Int32) : Both (fun M => f_X6_of x1 x2 M) (fun N => f_X7_of x1 x2 N) := both_of (fun M N h => st_of h x1 x2) (fun M R h => (fr_X6_of h).mono (fun i k z => by omega)) (fun M R h => (fr_X7_of h).mono (fun i k z => by omega))
theorem bo_tie (x1 : Int32) (x2 : Int32) (x3 : Int32) : Both (fun M => f_X6_tie x1 x2 x3 M) (fun N => f_X7_tie x1 x2 x3 N) := both_of (fun M N h => st_tie h x1 x2 x3) (fun M R h => (fr_X6_tie h).mono (fun i k z => by omega)) (fun M R h => (fr_X7_tie h).mono (fun i k z => by omega))
theorem bo_writer (x1 : Int32) : Both (fun M => f_X6_writer x1 M) (fun N => f_X7_writer x1 N) := both_of (fun M N h => st_writer h x1) (fun M R h => (fr_X6_writer h).mono (fun i k z => by omega)) (fun M R h => (fr_X7_writer h).mono (fun i k z => by omega))
theorem bo_person (x1 : Int32) : Both (fun M => f_X6_person x1 M) (fun N => f_X7_person x1 N) := both_of (fun M N h => st_person h x1) (fun M R h => (fr_X6_person h).mono (fun i k z => by omega)) (fun M R h => (fr_X7_person h).mono (fun i k z => by omega))
theorem bo_now (x1 : Int32) : Both (fun M => f_X6_now x1 M) (fun N => f_X7_now x1 N) := both_of (fun M N h => st_now h x1) (fun M R h => (fr_X6_now h).mono (fun i k z => by omega)) (fun M R h => (fr_X7_now h).mono (fun i k z => by omega))
theorem bo_who (x1 : Int32) : Both (fun M => f_X6_who x1 M) (fun N => f_X7_who x1 N) := both_of (fun M N h => st_who h x1) (fun M R h => (fr_X6_who h).mono (fun i k z => by omega)) (fun M R h => (fr_X7_who h).mono (fun i k z => by omega))
theorem bo_count (x1 : Int32) : Both (fun M => f_X6_count x1 M) (fun N => f_X7_count x1 N) := both_of (fun M N h => st_count h x1) (fun M R h => (fr_X6_count h).mono (fun i k z => by omega)) (fun M R h => (fr_X7_count h).mono (fun i k z => by omega))
theorem bo_seed (x1 : Int32) : Both (fun M => f_X6_seed x1 M) (fun N => f_X7_seed x1 N) := both_of (fun M N h => st_seed h x1) (fun M R h => (fr_X6_seed h).mono (fun i k z => by omega)) (fun M R h => (fr_X7_seed h).mono (fun i k z => by omega))
theorem bo_hold (x1 : Int32) (x2 : Int32) : Both (fun M => f_X6_hold x1 x2 M) (fun N => f_X7_hold x1 x2 N) := both_of (fun M N h => st_hold h x1 x2) (fun M R h => (fr_X6_hold h).mono (fun i k z => by omega)) (fun M R h => (fr_X7_hold h).mono (fun i k z => by omega))
theorem bo_tear  : Both (fun M => f_X6_tear M) (fun N => f_X7_tear N) := both_of (fun M N h => st_tear h ) (fun M R h => (fr_X6_tear h).mono (fun i k z => by omega)) (fun M R h => (fr_X7_tear h).mono (fun i k z => by omega))
theorem bo_wipe  : Both (fun M => f_X6_wipe M) (fun N => f_X7_wipe N) := both_of (fun M N h => st_wipe h ) (fun M R h => (fr_X6_wipe h).mono (fun i k z => by omega)) (fun M R h => (fr_X7_wipe h).mono (fun i k z => by omega))
theorem bo_image  : Both (fun M => f_X6_image M) (fun N => f_X7_image N) := both_of (fun M N h => st_image h ) (fun M R h => (fr_X6_image h).mono (fun i k z => by omega)) (fun M R h => (fr_X7_image h).mono (fun i k z => by omega))
theorem bo_undo  : Both (fun M => f_X6_undo M) (fun N => f_X7_undo N) := both_of (fun M N h => st_undo h ) (fun M R h => (fr_X6_undo h).mono (fun i k z => by omega)) (fun M R h => (fr_X7_undo h).mono (fun i k z => by omega))
theorem bo_court (x1 : Int32) (x2 : Int32) (x3 : Int32) : Both (fun M => f_X6_court x1 x2 x3 M) (fun N => f_X7_court x1 x2 x3 N) := both_of (fun M N h => st_court h x1 x2 x3) (fun M R h => (fr_X6_court h).mono (fun i k z => by omega)) (fun M R h => (fr_X7_court h).mono (fun i k z => by omega))
theorem bo_honest (x1 : Int32) : Both (fun M => f_X6_honest x1 M) (fun N => f_X7_honest x1 N) := both_of (fun M N h => st_honest h x1) (fun M R h => (fr_X6_honest h).mono (fun i k z => by omega)) (fun M R h => (fr_X7_honest h).mono (fun i k z => by omega))
theorem bo_round (x1 : Int32) (x2 : Int32) : Both (fun M => f_X6_round x1 x2 M) (fun N => f_X7_round x1 x2 N) := both_of (fun M N h => st_round h x1 x2) (fun M R h => (fr_X6_round h).mono (fun i k z => by omega)) (fun M R h => (fr_X7_round h).mono (fun i k z => by omega))
theorem bo_many (x1 : Int32) (x2 : Int32) : Both (fun M => f_X6_many x1 x2 M) (fun N => f_X7_many x1 x2 N) := both_of (fun M N h => st_many h x1 x2) (fun M R h => (fr_X6_many h).mono (fun i k z => by omega)) (fun M R h => (fr_X7_many h).mono (fun i k z => by omega))
theorem bo_said (x1 : Int32) (x2 : Int32) (x3 : Int32) : Both (fun M => f_X6_said x1 x2 x3 M) (fun N => f_X7_said x1 x2 x3 N) := both_of (fun M N h => st_said h x1 x2 x3) (fun M R h => (fr_X6_said h).mono (fun i k z => by omega)) (fun M R h => (fr_X7_said h).mono (fun i k z => by omega))
theorem bo_near (x1 : Int32) (x2 : Int32) (x3 : Int32) : Both (fun M => f_X6_near x1 x2 x3 M) (fun N => f_X7_near x1 x2 x3 N) := both_of (fun M N h => st_near h x1 x2 x3) (fun M R h => (fr_X6_near h).mono (fun i k z => by omega)) (fun M R h => (fr_X7_near h).mono (fun i k z => by omega))
theorem bo_hands (x1 : Int32) : Both (fun M => f_X6_hands x1 M) (fun N => f_X7_hands x1 N) := both_of (fun M N h => st_hands h x1) (fun M R h => (fr_X6_hands h).mono (fun i k z => by omega)) (fun M R h => (fr_X7_hands h).mono (fun i k z => by omega))
theorem bo_likeliest (x1 : Int32) : Both (fun M => f_X6_likeliest x1 M) (fun N => f_X7_likeliest x1 N) := both_of (fun M N h => st_likeliest h x1) (fun M R h => (fr_X6_likeliest h).mono (fun i k z => by omega)) (fun M R h => (fr_X7_likeliest h).mono (fun i k z => by omega))
theorem bo_witness (x1 : Int32) : Both (fun M => f_X6_witness x1 M) (fun N => f_X7_witness x1 N) := both_of (fun M N h => st_witness h x1) (fun M R h => (fr_X6_witness h).mono (fun i k z => by omega)) (fun M R h => (fr_X7_witness h).mono (fun i k z => by omega))
theorem bo_settles (x1 : Int32) : Both (fun M => f_X6_settles x1 M) (fun N => f_X7_settles x1 N) := both_of (fun M N h => st_settles h x1) (fun M R h => (fr_X6_settles h).mono (fun i k z => by omega)) (fun M R h => (fr_X7_settles h).mono (fun i k z => by omega))
theorem bo_status (x1 : Int32) : Both (fun M => f_X6_status x1 M) (fun N => f_X7_status x1 N) := both_of (fun M N h => st_status h x1) (fun M R h => (fr_X6_status h).mono (fun i k z => by omega)) (fun M R h => (fr_X7_status h).mono (fun i k z => by omega))
theorem bo_as (x1 : Int32) (x2 : Int32) : Both (fun M => f_X6_as x1 x2 M) (fun N => f_X7_as x1 x2 N) := both_of (fun M N h => st_as h x1 x2) (fun M R h => (fr_X6_as h).mono (fun i k z => by omega)) (fun M R h => (fr_X7_as h).mono (fun i k z => by omega))
theorem bo_sheet (x1 : Int32) (x2 : Int32) (x3 : Int32) : Both (fun M => f_X6_sheet x1 x2 x3 M) (fun N => f_X7_sheet x1 x2 x3 N) := both_of (fun M N h => st_sheet h x1 x2 x3) (fun M R h => (fr_X6_sheet h).mono (fun i k z => by omega)) (fun M R h => (fr_X7_sheet h).mono (fun i k z => by omega))
theorem bo_write (x1 : Int32) (x2 : Int32) (x3 : Int32) : Both (fun M => f_X6_write x1 x2 x3 M) (fun N => f_X7_write x1 x2 x3 N) := both_of (fun M N h => st_write h x1 x2 x3) (fun M R h => (fr_X6_write h).mono (fun i k z => by omega)) (fun M R h => (fr_X7_write h).mono (fun i k z => by omega))
theorem bo_copy (x1 : Int32) (x2 : Int32) (x3 : Int32) (x4 : Int32) (x5 : Int32) : Both (fun M => f_X6_copy x1 x2 x3 x4 x5 M) (fun N => f_X7_copy x1 x2 x3 x4 x5 N) := both_of (fun M N h => st_copy h x1 x2 x3 x4 x5) (fun M R h => (fr_X6_copy h).mono (fun i k z => by omega)) (fun M R h => (fr_X7_copy h).mono (fun i k z => by omega))
theorem bo_load (x1 : Int32) : Both (fun M => f_X6_load x1 M) (fun N => f_X7_load x1 N) := both_of (fun M N h => st_load h x1) (fun M R h => (fr_X6_load h).mono (fun i k z => by omega)) (fun M R h => (fr_X7_load h).mono (fun i k z => by omega))
theorem bo_feed (x1 : Int32) (x2 : Int32) : Both (fun M => f_X6_feed x1 x2 M) (fun N => f_X7_feed x1 x2 N) := both_of (fun M N h => st_feed h x1 x2) (fun M R h => (fr_X6_feed h).mono (fun i k z => by omega)) (fun M R h => (fr_X7_feed h).mono (fun i k z => by omega))
theorem bo_judge (x1 : Int32) (x2 : Int32) : Both (fun M => f_X6_judge x1 x2 M) (fun N => f_X7_judge x1 x2 N) := both_of (fun M N h => st_judge h x1 x2) (fun M R h => (fr_X6_judge h).mono (fun i k z => by omega)) (fun M R h => (fr_X7_judge h).mono (fun i k z => by omega))
theorem bo_send (x1 : Int32) (x2 : Int32) (x3 : Int32) : Both (fun M => f_X6_send x1 x2 x3 M) (fun N => f_X7_send x1 x2 x3 N) := both_of (fun M N h => st_send h x1 x2 x3) (fun M R h => (fr_X6_send h).mono (fun i k z => by omega)) (fun M R h => (fr_X7_send h).mono (fun i k z => by omega))
theorem bo_years (x1 : Int32) : Both (fun M => f_X6_years x1 M) (fun N => f_X7_years x1 N) := both_of (fun M N h => st_years h x1) (fun M R h => (fr_X6_years h).mono (fun i k z => by omega)) (fun M R h => (fr_X7_years h).mono (fun i k z => by omega))
theorem bo_ahead (x1 : Int32) (x2 : Int32) : Both (fun M => f_X6_ahead x1 x2 M) (fun N => f_X7_ahead x1 x2 N) := both_of (fun M N h => st_ahead h x1 x2) (fun M R h => (fr_X6_ahead h).mono (fun i k z => by omega)) (fun M R h => (fr_X7_ahead h).mono (fun i k z => by omega))
theorem bo_when (x1 : Int32) (x2 : Int32) : Both (fun M => f_X6_when x1 x2 M) (fun N => f_X7_when x1 x2 N) := both_of (fun M N h => st_when h x1 x2) (fun M R h => (fr_X6_when h).mono (fun i k z => by omega)) (fun M R h => (fr_X7_when h).mono (fun i k z => by omega))
theorem bo_without (x1 : Int32) (x2 : Int32) (x3 : Int32) : Both (fun M => f_X6_without x1 x2 x3 M) (fun N => f_X7_without x1 x2 x3 N) := both_of (fun M N h => st_without h x1 x2 x3) (fun M R h => (fr_X6_without h).mono (fun i k z => by omega)) (fun M R h => (fr_X7_without h).mono (fun i k z => by omega))
theorem bo_added (x1 : Int32) (x2 : Int32) : Both (fun M => f_X6_added x1 x2 M) (fun N => f_X7_added x1 x2 N) := both_of (fun M N h => st_added h x1 x2) (fun M R h => (fr_X6_added h).mono (fun i k z => by omega)) (fun M R h => (fr_X7_added h).mono (fun i k z => by omega))
theorem bo_best (x1 : Int32) (x2 : Int32) (x3 : Int32) : Both (fun M => f_X6_best x1 x2 x3 M) (fun N => f_X7_best x1 x2 x3 N) := both_of (fun M N h => st_best h x1 x2 x3) (fun M R h => (fr_X6_best h).mono (fun i k z => by omega)) (fun M R h => (fr_X7_best h).mono (fun i k z => by omega))
theorem bo_price (x1 : Int32) (x2 : Int32) : Both (fun M => f_X6_price x1 x2 M) (fun N => f_X7_price x1 x2 N) := both_of (fun M N h => st_price h x1 x2) (fun M R h => (fr_X6_price h).mono (fun i k z => by omega)) (fun M R h => (fr_X7_price h).mono (fun i k z => by omega))
theorem bo_gossip (x1 : Int32) : Both (fun M => f_X6_gossip x1 M) (fun N => f_X7_gossip x1 N) := both_of (fun M N h => st_gossip h x1) (fun M R h => (fr_X6_gossip h).mono (fun i k z => by omega)) (fun M R h => (fr_X7_gossip h).mono (fun i k z => by omega))
theorem bo_school (x1 : Int32) : Both (fun M => f_X6_school x1 M) (fun N => f_X7_school x1 N) := both_of (fun M N h => st_school h x1) (fun M R h => (fr_X6_school h).mono (fun i k z => by omega)) (fun M R h => (fr_X7_school h).mono (fun i k z => by omega))
theorem bo_bridge (x1 : Int32) (x2 : Int32) : Both (fun M => f_X6_bridge x1 x2 M) (fun N => f_X7_bridge x1 x2 N) := both_of (fun M N h => st_bridge h x1 x2) (fun M R h => (fr_X6_bridge h).mono (fun i k z => by omega)) (fun M R h => (fr_X7_bridge h).mono (fun i k z => by omega))
theorem bo_text  : Both (fun M => f_X6_text M) (fun N => f_X7_text N) := both_of (fun M N h => st_text h ) (fun M R h => (fr_X6_text h).mono (fun i k z => by omega)) (fun M R h => (fr_X7_text h).mono (fun i k z => by omega))
theorem X5_row_lt {x : Int32} {M : Mem} {a : Nat} (h : f_X5_row 2 x M = some (some a)) : a < 59 := by
  unfold f_X5_row at h
  repeat (rcases ite_or h with h | h; · (have := Option.some.inj (Option.some.inj h); omega))
  cases Option.some.inj h
theorem fr_X6_law {x1 x2 x3 : Int32} {M : Mem} {R : Int32 × Mem} (h : f_X6_law x1 x2 x3 M = some R) : Fr (fun i _ => i < 59) M R.2 := by
  have F : Fr (fun i _ => i < 59) M M := Fr.rf
  unfold f_X6_law at h
  obtain ⟨r_1, hr_1, h⟩ := bnd h
  cases r_1 with
  | none =>
    obtain ⟨r_4, hr_4, h⟩ := bnd h
    clear hr_4
    rcases ite_or h with h | h
    · obtain ⟨r_5, hr_5, h⟩ := bnd h
      replace F := F.trans ((fr_X6_found hr_5).mono (fun i k h => by omega))
      rw [← Option.some.inj h]; exact F
    · obtain ⟨r_6, hr_6, h⟩ := bnd h
      replace F := F.trans ((fr_X6_found hr_6).mono (fun i k h => by omega))
      rw [← Option.some.inj h]; exact F
  | some a_2 =>
    have ha := X5_row_lt hr_1
    obtain ⟨hk, h⟩ := ck_some h
    obtain ⟨r_7, hr_7, h⟩ := bnd h
    clear hr_7
    rcases ite_or h with h | h
    · obtain ⟨r_8, hr_8, h⟩ := bnd h
      replace F := F.trans ((fr_X6_found hr_8).mono (fun i k h => by omega))
      rw [← Option.some.inj h]; exact F
    · obtain ⟨r_9, hr_9, h⟩ := bnd h
      clear hr_9
      rcases ite_or h with h | h
      · obtain ⟨r_14, hr_14, h⟩ := bnd h
        replace F := F.trans ((fr_X6_found hr_14).mono (fun i k h => by omega))
        rw [← Option.some.inj h]; exact F
      · obtain ⟨_, h⟩ := ck_some h
        obtain ⟨x5, hx5, h⟩ := letv_ex h
        obtain ⟨_, h⟩ := ck_some h
        obtain ⟨M_13, hM_13, h⟩ := letv_ex h
        replace F := F.put hM_13 ha
        rw [← Option.some.inj h]; exact F
theorem X0_row_lt {x : Int32} {M : Mem} {a : Nat} (h : f_X0_row 9 x M = some (some a)) : a < 59 := by
  unfold f_X0_row at h
  repeat (rcases ite_or h with h | h; · (have := Option.some.inj (Option.some.inj h); omega))
  cases Option.some.inj h
theorem fr_X6_change {x1 x2 x3 : Int32} {M : Mem} {R : Int32 × Mem} (h : f_X6_change x1 x2 x3 M = some R) : Fr (fun i _ => i < 59) M R.2 := by
  have F : Fr (fun i _ => i < 59) M M := Fr.rf
  unfold f_X6_change at h
  obtain ⟨r_1, hr_1, h⟩ := bnd h
  cases r_1 with
  | none =>
    obtain ⟨r_4, hr_4, h⟩ := bnd h
    clear hr_4
    rcases ite_or h with h | h
    · obtain ⟨r_5, hr_5, h⟩ := bnd h
      replace F := F.trans ((fr_X6_found hr_5).mono (fun i k h => by omega))
      rw [← Option.some.inj h]; exact F
    · obtain ⟨r_6, hr_6, h⟩ := bnd h
      replace F := F.trans ((fr_X6_found hr_6).mono (fun i k h => by omega))
      rw [← Option.some.inj h]; exact F
  | some a_2 =>
    have ha := X0_row_lt hr_1
    obtain ⟨hk, h⟩ := ck_some h
    obtain ⟨r_7, hr_7, h⟩ := bnd h
    clear hr_7
    rcases ite_or h with h | h
    · obtain ⟨r_8, hr_8, h⟩ := bnd h
      replace F := F.trans ((fr_X6_found hr_8).mono (fun i k h => by omega))
      rw [← Option.some.inj h]; exact F
    · obtain ⟨r_9, hr_9, h⟩ := bnd h
      clear hr_9
      rcases ite_or h with h | h
      · obtain ⟨r_14, hr_14, h⟩ := bnd h
        replace F := F.trans ((fr_X6_found hr_14).mono (fun i k h => by omega))
        rw [← Option.some.inj h]; exact F
      · obtain ⟨_, h⟩ := ck_some h
        obtain ⟨x5, hx5, h⟩ := letv_ex h
        obtain ⟨_, h⟩ := ck_some h
        obtain ⟨M_13, hM_13, h⟩ := letv_ex h
        replace F := F.put hM_13 ha
        rw [← Option.some.inj h]; exact F

theorem bo_law (x1 : Int32) (x2 : Int32) (x3 : Int32) : Both (fun M => f_X6_law x1 x2 x3 M) (fun N => f_X7_law x1 x2 x3 N) := both_of (fun M N h => st_law h x1 x2 x3) (fun M R h => fr_X6_law h) (fun M R h => (fr_X7_law h).mono (fun i k z => by omega))
theorem bo_change (x1 : Int32) (x2 : Int32) (x3 : Int32) : Both (fun M => f_X6_change x1 x2 x3 M) (fun N => f_X7_change x1 x2 x3 N) := both_of (fun M N h => st_change h x1 x2 x3) (fun M R h => fr_X6_change h) (fun M R h => (fr_X7_change h).mono (fun i k z => by omega))
end BOTH
