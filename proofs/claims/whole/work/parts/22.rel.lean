/-- the world at cell b of the class, as the reference's row S has it -/
def RW (b : Nat) (M : Mem) (S : Nat → Int32) : Prop :=
  (M (b + 1) 0 = S 0 ∧ M (b + 8) 0 = S 1 ∧ M b 5 = S 2 ∧ M b 3 = S 3 ∧ M b 4 = S 4) ∧
  (∀ w, w < 6 → M (b + 1 + 1) w = S (5 + 6 * w) ∧ M (b + 1 + 2) w = S (5 + 6 * w + 1) ∧ M (b + 1 + 3) w = S (5 + 6 * w + 2) ∧ M (b + 1 + 4) w = S (5 + 6 * w + 3) ∧ M (b + 1 + 5) w = S (5 + 6 * w + 4) ∧ M (b + 1 + 6) w = S (5 + 6 * w + 5)) ∧
  (∀ p, p < 8 → M (b + 8 + 1) p = S (41 + 5 * p) ∧ M (b + 8 + 2) p = S (41 + 5 * p + 1) ∧ M (b + 8 + 3) p = S (41 + 5 * p + 2) ∧ M (b + 8 + 4) p = S (41 + 5 * p + 3) ∧ M (b + 8 + 5) p = S (41 + 5 * p + 4) ∧ M (b + 8 + 6) p = S (81 + p)) ∧
  (∀ q, q < 10 → M (b + 15) q = S (89 + q))
def Sy (S : Nat → Int32) (np : Nat) : Prop := ∀ p q, p < 8 → q < 8 → bit (S (81 + p)) q = bit (S (81 + q)) p ∧ (np ≤ q → bit (S (81 + p)) q = false)
def Ok (S : Nat → Int32) (nw np : Nat) : Prop :=
  (nw ≤ 6 ∧ np ≤ 8 ∧ S 0 = nI nw ∧ S 1 = nI np ∧ Lt (S 3) 2000 ∧ Sy S np) ∧
  (∀ w, w < 6 → Lt (S (5 + 6 * w)) 7 ∧ Lt (S (5 + 6 * w + 1)) 4096 ∧ Lt (S (5 + 6 * w + 2)) 4096 ∧ Lt (S (5 + 6 * w + 3)) 4096 ∧ Lt (S (5 + 6 * w + 4)) 100) ∧
  (∀ p, p < 8 → Lt (S (41 + 5 * p)) 4096 ∧ Lt (S (41 + 5 * p + 1)) 4096 ∧ (p < np → Lt (S (41 + 5 * p + 2)) nw) ∧ (S (41 + 5 * p + 4) = 0 ∨ S (41 + 5 * p + 4) = 1) ∧ Lt (S (81 + p)) 256) ∧
  (∀ q, q < 10 → S (89 + q) = -1 ∨ Lt (S (89 + q)) nw)
def RK (M N : Mem) : Prop := M 0 3 = N 59 4 ∧ (N 59 4 = 0 ∨ N 59 4 = 1) ∧ (N 59 4 = 1 → RW 33 M (N 61) ∧ ∃ nw np, Ok (N 61) nw np)
def RA (M N : Mem) : Prop := ∀ k, k < 7 → M 56 k = N 63 k
def RT (M N : Mem) : Prop := ∃ t, t ≤ 120 ∧ M 49 1 = nI t ∧ N 59 13 = nI t ∧ ∀ k, k < t → M 50 k = N 65 k ∧ Lt (N 65 k) 256
def RS (M N : Mem) : Prop := (∀ s, s < 4 → M 53 s = N 66 s ∧ M 54 s = N 67 s ∧ Lt (N 67 s) 41) ∧ ∀ k, k < 160 → M 55 k = N 68 k
def Rel (M N : Mem) : Prop := (RW 1 M (N 60) ∧ ∃ nw np, Ok (N 60) nw np) ∧ RK M N ∧ RA M N ∧ RT M N ∧ RS M N
def Sim (a b : Option (Int32 × Mem)) : Prop := ∃ (r : Int32) (M1 N1 : Mem), a = some (r, M1) ∧ b = some (r, N1) ∧ Rel M1 N1
theorem RW.fr {b : Nat} {M M1 : Mem} {S : Nat → Int32} {T : Nat → Nat → Prop} (h : RW b M S) (f : Fr T M M1) (hT : ∀ i k, b ≤ i → i ≤ b + 15 → ¬ T i k) : RW b M1 S := by
  have e : ∀ i, i ≤ 15 → ∀ k, M1 (b + i) k = M (b + i) k := fun i hi k => f _ _ (hT _ _ (by omega) (by omega))
  have e0 : ∀ k, M1 b k = M b k := fun k => f _ _ (hT _ _ (by omega) (by omega))
  refine ⟨⟨(e 1 (by decide) 0).trans h.1.1, (e 8 (by decide) 0).trans h.1.2.1, (e0 5).trans h.1.2.2.1, (e0 3).trans h.1.2.2.2.1, (e0 4).trans h.1.2.2.2.2⟩, fun w hw => ?_, fun p hp => ?_, fun q hq => (e 15 (by decide) q).trans (h.2.2.2 q hq)⟩
  · obtain ⟨a1, a2, a3, a4, a5, a6⟩ := h.2.1 w hw
    exact ⟨(e 2 (by decide) w).trans a1, (e 3 (by decide) w).trans a2, (e 4 (by decide) w).trans a3, (e 5 (by decide) w).trans a4, (e 6 (by decide) w).trans a5, (e 7 (by decide) w).trans a6⟩
  · obtain ⟨a1, a2, a3, a4, a5, a6⟩ := h.2.2.1 p hp
    exact ⟨(e 9 (by decide) p).trans a1, (e 10 (by decide) p).trans a2, (e 11 (by decide) p).trans a3, (e 12 (by decide) p).trans a4, (e 13 (by decide) p).trans a5, (e 14 (by decide) p).trans a6⟩
theorem RW.cg {b : Nat} {M : Mem} {S S' : Nat → Int32} (h : RW b M S) (e : ∀ k, k < 99 → S' k = S k) : RW b M S' := by
  refine ⟨?_, fun w hw => ?_, fun p hp => ?_, fun q hq => ?_⟩
  · rw [e 0 (by decide), e 1 (by decide), e 2 (by decide), e 3 (by decide), e 4 (by decide)]; exact h.1
  · rw [e (5 + 6 * w) (by omega), e (5 + 6 * w + 1) (by omega), e (5 + 6 * w + 2) (by omega), e (5 + 6 * w + 3) (by omega), e (5 + 6 * w + 4) (by omega), e (5 + 6 * w + 5) (by omega)]; exact h.2.1 w hw
  · rw [e (41 + 5 * p) (by omega), e (41 + 5 * p + 1) (by omega), e (41 + 5 * p + 2) (by omega), e (41 + 5 * p + 3) (by omega), e (41 + 5 * p + 4) (by omega), e (81 + p) (by omega)]; exact h.2.2.1 p hp
  · rw [e (89 + q) (by omega)]; exact h.2.2.2 q hq
theorem Ok.cg {S S' : Nat → Int32} {nw np : Nat} (h : Ok S nw np) (e : ∀ k, k < 99 → S' k = S k) : Ok S' nw np := by
  refine ⟨?_, fun w hw => ?_, fun p hp => ?_, fun q hq => ?_⟩
  · rw [e 0 (by decide), e 1 (by decide), e 3 (by decide)]; exact ⟨h.1.1, h.1.2.1, h.1.2.2.1, h.1.2.2.2.1, h.1.2.2.2.2.1, fun p q hp hq => by rw [e (81 + p) (by omega), e (81 + q) (by omega)]; exact h.1.2.2.2.2.2 p q hp hq⟩
  · rw [e (5 + 6 * w) (by omega), e (5 + 6 * w + 1) (by omega), e (5 + 6 * w + 2) (by omega), e (5 + 6 * w + 3) (by omega), e (5 + 6 * w + 4) (by omega)]; exact h.2.1 w hw
  · rw [e (41 + 5 * p) (by omega), e (41 + 5 * p + 1) (by omega), e (41 + 5 * p + 2) (by omega), e (41 + 5 * p + 4) (by omega), e (81 + p) (by omega)]; exact h.2.2.1 p hp
  · rw [e (89 + q) (by omega)]; exact h.2.2.2 q hq
theorem RK.fr {M N M1 N1 : Mem} {T U : Nat → Nat → Prop} (h : RK M N) (f : Fr T M M1) (g : Fr U N N1) (h1 : ¬ T 0 3) (h2 : ∀ i k, 33 ≤ i → i ≤ 48 → ¬ T i k) (h3 : ¬ U 59 4) (h4 : ∀ k, ¬ U 61 k) : RK M1 N1 := by
  obtain ⟨a, b, c⟩ := h
  have e : N1 59 4 = N 59 4 := g _ _ h3
  have e61 : N1 61 = N 61 := funext fun k => g _ _ (h4 k)
  refine ⟨by rw [e, f _ _ h1]; exact a, by rw [e]; exact b, fun z => ?_⟩
  rw [e] at z
  rw [e61]
  exact ⟨(c z).1.fr f (fun i k p q => h2 i k (by omega) (by omega)), (c z).2⟩
theorem RA.fr {M N M1 N1 : Mem} {T U : Nat → Nat → Prop} (h : RA M N) (f : Fr T M M1) (g : Fr U N N1) (h1 : ∀ k, ¬ T 56 k) (h2 : ∀ k, ¬ U 63 k) : RA M1 N1 := fun k hk => by rw [f _ _ (h1 k), g _ _ (h2 k)]; exact h k hk
theorem RT.fr {M N M1 N1 : Mem} {T U : Nat → Nat → Prop} (h : RT M N) (f : Fr T M M1) (g : Fr U N N1) (h1 : ¬ T 49 1) (h2 : ∀ k, ¬ T 50 k) (h3 : ¬ U 59 13) (h4 : ∀ k, ¬ U 65 k) : RT M1 N1 := by
  obtain ⟨t, ht, a, b, c⟩ := h
  refine ⟨t, ht, by rw [f _ _ h1]; exact a, by rw [g _ _ h3]; exact b, fun k hk => ?_⟩
  rw [f _ _ (h2 k), g _ _ (h4 k)]
  exact c k hk
theorem RS.fr {M N M1 N1 : Mem} {T U : Nat → Nat → Prop} (h : RS M N) (f : Fr T M M1) (g : Fr U N N1) (h1 : ∀ i k, 53 ≤ i → i ≤ 55 → ¬ T i k) (h2 : ∀ i k, 66 ≤ i → i ≤ 68 → ¬ U i k) : RS M1 N1 := by
  refine ⟨fun s hs => ?_, fun k hk => ?_⟩
  · rw [f 53 s (h1 _ _ (by decide) (by decide)), f 54 s (h1 _ _ (by decide) (by decide)), g 66 s (h2 _ _ (by decide) (by decide)), g 67 s (h2 _ _ (by decide) (by decide))]
    exact h.1 s hs
  · rw [f 55 k (h1 _ _ (by decide) (by decide)), g 68 k (h2 _ _ (by decide) (by decide))]
    exact h.2 k hk
/-- the cells that the class, and the reference, may write beside what is compared -/
def TC : Nat → Nat → Prop := fun i k => (17 ≤ i ∧ i < 33) ∨ i = 57 ∨ i = 58 ∨ (i = 49 ∧ k ≠ 1)
def TM : Nat → Nat → Prop := fun i k => i = 62 ∨ i = 64 ∨ i = 69 ∨ (i = 59 ∧ ((5 ≤ k ∧ k ≤ 10) ∨ (14 ≤ k ∧ k ≤ 17)))
def TCl : Nat → Nat → Prop := fun i k => (1 ≤ i ∧ i < 33) ∨ i = 57 ∨ i = 58 ∨ (i = 49 ∧ k ≠ 1)
def TMl : Nat → Nat → Prop := fun i k => i = 60 ∨ i = 62 ∨ i = 64 ∨ i = 69 ∨ (i = 59 ∧ ((5 ≤ k ∧ k ≤ 10) ∨ (14 ≤ k ∧ k ≤ 17)))
/-- only the world that is lived in has changed -/
theorem Rel.live {M N M1 N1 : Mem} (h : Rel M N) (f : Fr TCl M M1) (g : Fr TMl N N1) (w : RW 1 M1 (N1 60)) (o : ∃ nw np, Ok (N1 60) nw np) : Rel M1 N1 := by
  obtain ⟨a, b, c, d, e⟩ := h
  unfold TCl at f
  unfold TMl at g
  exact ⟨⟨w, o⟩, b.fr f g (by omega) (fun i k p q => by omega) (by omega) (fun k => by omega), c.fr f g (fun k => by omega) (fun k => by omega), d.fr f g (by omega) (fun k => by omega) (by omega) (fun k => by omega), e.fr f g (fun i k p q => by omega) (fun i k p q => by omega)⟩
/-- nothing that is compared has changed -/
theorem Rel.same {M N M1 N1 : Mem} (h : Rel M N) (f : Fr TC M M1) (g : Fr TM N N1) : Rel M1 N1 := by
  have e60 : N1 60 = N 60 := funext fun k => g _ _ (by unfold TM; omega)
  refine h.live (f.mono (fun i k => by unfold TC TCl; omega)) (g.mono (fun i k => by unfold TM TMl; omega)) ?_ ?_
  · rw [e60]; exact h.1.1.fr f (fun i k p q => by unfold TC; omega)
  · rw [e60]; exact h.1.2
theorem up_ap (M : Mem) (i k : Nat) (v : Int32) (a b : Nat) : up M i k v a b = if a = i ∧ b = k then v else M a b := by
  unfold up upd
  by_cases h1 : a = i
  · subst h1
    by_cases h2 : b = k
    · subst h2; simp
    · simp [h2]
  · simp [h1]
theorem Rel.bump {M N : Mem} (h : Rel M N) {j : Nat} : Rel (up M 56 j (M 56 j + 1)) (up N 63 j (N 63 j + 1)) := by
  have f : Fr (fun i k => i = 56) M (up M 56 j (M 56 j + 1)) := Fr.rf.put rfl rfl
  have g : Fr (fun i k => i = 63) N (up N 63 j (N 63 j + 1)) := Fr.rf.put rfl rfl
  obtain ⟨a, b, c, d, e⟩ := h
  have e60 : (up N 63 j (N 63 j + 1)) 60 = N 60 := funext fun k => g _ _ (by omega)
  refine ⟨⟨by rw [e60]; exact a.1.fr f (fun i k p q => by omega), by rw [e60]; exact a.2⟩, b.fr f g (by omega) (fun i k p q => by omega) (by omega) (fun k => by omega), fun k hk => ?_, d.fr f g (by omega) (fun k => by omega) (by omega) (fun k => by omega), e.fr f g (fun i k p q => by omega) (fun i k p q => by omega)⟩
  rw [up_ap, up_ap]
  by_cases hj : k = j
  · subst hj; rw [if_pos ⟨rfl, rfl⟩, if_pos ⟨rfl, rfl⟩, c k hk]
  · rw [if_neg (by omega), if_neg (by omega)]; exact c k hk
theorem x_found {v : Int32} {j : Nat} (hj : j < 7) (hv : (-1000001 : Int32) - v = nI j) (M : Mem) : f_X6_found v M = some (v, up M 56 j (M 56 j + 1)) := by
  unfold f_X6_found
  rw [hv]
  show (if nI j < 0 then _ else _) = _
  rw [if_neg (nI_pos (by omega)), if_neg (show ¬ (7 : Int32) ≤ nI j from nI_ge (b := 7) hj (by decide)), ck_pos (vp_in_nI hj (by decide)), ck_pos (vp_in_nI hj (by decide)), ix_nI (by omega)]
  rfl
theorem m_finds {v : Int32} {j : Nat} (hj : j < 7) (hv : (-1000001 : Int32) - v = nI j) (M : Mem) : f_X7_finds v M = some (v, up M 63 j (M 63 j + 1)) := by
  unfold f_X7_finds
  rw [hv, ck_pos (vp_in_nI hj (by decide)), ck_pos (vp_in_nI hj (by decide)), ix_nI (by omega)]
  rfl
theorem s_find {M N : Mem} (h : Rel M N) {v : Int32} (j : Nat) (hj : j < 7) (hv : (-1000001 : Int32) - v = nI j) : Sim ((f_X6_found v M).bind fun r => some (r.1, r.2)) ((f_X7_finds v N).bind fun r => some (r.1, r.2)) := by
  rw [x_found hj hv, m_finds hj hv]
  exact ⟨_, _, _, rfl, rfl, h.bump⟩
theorem s_B {M N : Mem} (h : Rel M N) : Sim ((f_X6_found (-1000001) M).bind fun r => some (r.1, r.2)) ((f_X7_finds (-1000001) N).bind fun r => some (r.1, r.2)) := s_find h 0 (by decide) (by decide)
theorem s_F {M N : Mem} (h : Rel M N) : Sim ((f_X6_found (-1000002) M).bind fun r => some (r.1, r.2)) ((f_X7_finds (-1000002) N).bind fun r => some (r.1, r.2)) := s_find h 1 (by decide) (by decide)
theorem s_K {M N : Mem} (h : Rel M N) : Sim ((f_X6_found (-1000003) M).bind fun r => some (r.1, r.2)) ((f_X7_finds (-1000003) N).bind fun r => some (r.1, r.2)) := s_find h 2 (by decide) (by decide)
theorem s_N {M N : Mem} (h : Rel M N) : Sim ((f_X6_found (-1000004) M).bind fun r => some (r.1, r.2)) ((f_X7_finds (-1000004) N).bind fun r => some (r.1, r.2)) := s_find h 3 (by decide) (by decide)
theorem s_S {M N : Mem} (h : Rel M N) : Sim ((f_X6_found (-1000005) M).bind fun r => some (r.1, r.2)) ((f_X7_finds (-1000005) N).bind fun r => some (r.1, r.2)) := s_find h 4 (by decide) (by decide)
theorem s_M {M N : Mem} (h : Rel M N) : Sim ((f_X6_found (-1000006) M).bind fun r => some (r.1, r.2)) ((f_X7_finds (-1000006) N).bind fun r => some (r.1, r.2)) := s_find h 5 (by decide) (by decide)
theorem s_Z {M N : Mem} (h : Rel M N) : Sim ((f_X6_found (-1000007) M).bind fun r => some (r.1, r.2)) ((f_X7_finds (-1000007) N).bind fun r => some (r.1, r.2)) := s_find h 6 (by decide) (by decide)
theorem s_ok {M N : Mem} (h : Rel M N) (r : Int32) : Sim (some (r, M)) (some (r, N)) := ⟨r, M, N, rfl, rfl, h⟩
