section INIT
/-- what the two constructors leave -/
def M0i : Mem := fun i k => if (i = 1 ∨ i = 17 ∨ i = 33) ∧ k = 5 then 1 else if (i = 16 ∨ i = 32 ∨ i = 48) then -1 else if i = 60 ∧ k = 2 then 1 else if i = 60 ∧ 89 ≤ k then -1 else 0
theorem M0_60 (k : Nat) : M0i 60 k = if k = 2 then 1 else if 89 ≤ k then -1 else 0 := by
  unfold M0i
  rw [if_neg (by omega), if_neg (by omega)]
  by_cases h : k = 2
  · rw [if_pos ⟨rfl, h⟩, if_pos h]
  · rw [if_neg (fun y => h y.2), if_neg h]
    by_cases h2 : 89 ≤ k
    · rw [if_pos ⟨rfl, h2⟩, if_pos h2]
    · rw [if_neg (fun y => h2 y.2), if_neg h2]
theorem M0_z {i k : Nat} (h : ¬ ((i = 1 ∨ i = 17 ∨ i = 33) ∧ k = 5)) (h1 : ¬ (i = 16 ∨ i = 32 ∨ i = 48)) (h2 : i ≠ 60) : M0i i k = 0 := by
  unfold M0i
  rw [if_neg h, if_neg h1, if_neg (fun y => h2 y.1), if_neg (fun y => h2 y.1)]
theorem M0_s {k : Nat} (h : k ≠ 2) (h2 : k < 89) : M0i 60 k = 0 := by rw [M0_60, if_neg h, if_neg (by omega)]
theorem lt0 {n : Nat} (h : 0 < n) : Lt (0 : Int32) n := ⟨0, h, rfl⟩
theorem rel_0 : Rel M0i M0i := by
  refine ⟨⟨⟨⟨?_, ?_, ?_, ?_, ?_⟩, fun w hw => ?_, fun p hp => ?_, fun q hq => ?_⟩, 0, 0, ⟨by decide, by decide, ?_, ?_, ?_, fun p q hp hq => ?_⟩, fun w hw => ?_, fun p hp => ?_, fun q hq => ?_⟩, ⟨?_, Or.inl ?_, fun z => ?_⟩, fun k hk => ?_, ⟨0, by decide, ?_, ?_, fun k hk => absurd hk (Nat.not_lt_zero k)⟩, fun s hs => ?_, fun k hk => ?_⟩
  · decide
  · decide
  · decide
  · decide
  · decide
  · refine ⟨?_, ?_, ?_, ?_, ?_, ?_⟩ <;> rw [M0_z (by omega) (by omega) (by omega), M0_s (by omega) (by omega)]
  · refine ⟨?_, ?_, ?_, ?_, ?_, ?_⟩ <;> rw [M0_z (by omega) (by omega) (by omega), M0_s (by omega) (by omega)]
  · rw [M0_60, if_neg (by omega), if_pos (by omega)]
    unfold M0i
    rw [if_neg (by omega), if_pos (by omega)]
  · decide
  · decide
  · rw [M0_s (by omega) (by omega)]; exact lt0 (by decide)
  · rw [M0_s (by omega) (by omega), M0_s (by omega) (by omega), bit_z q hq, bit_z p hp]
    exact ⟨rfl, fun _ => rfl⟩
  · rw [M0_s (by omega) (by omega), M0_s (by omega) (by omega), M0_s (by omega) (by omega), M0_s (by omega) (by omega), M0_s (by omega) (by omega)]
    exact ⟨lt0 (by decide), lt0 (by decide), lt0 (by decide), lt0 (by decide), lt0 (by decide)⟩
  · rw [M0_s (by omega) (by omega), M0_s (by omega) (by omega), M0_s (by omega) (by omega), M0_s (by omega) (by omega), M0_s (by omega) (by omega)]
    exact ⟨lt0 (by decide), lt0 (by decide), fun y => absurd y (Nat.not_lt_zero p), Or.inl rfl, lt0 (by decide)⟩
  · rw [M0_60, if_neg (by omega), if_pos (by omega)]
    exact Or.inl rfl
  · rw [M0_z (by omega) (by omega) (by omega), M0_z (by omega) (by omega) (by omega)]
  · exact M0_z (by omega) (by omega) (by omega)
  · rw [M0_z (by omega) (by omega) (by omega)] at z
    exact absurd z (by decide)
  · rw [M0_z (by omega) (by omega) (by omega), M0_z (by omega) (by omega) (by omega)]
  · exact M0_z (by omega) (by omega) (by omega)
  · exact M0_z (by omega) (by omega) (by omega)
  · rw [M0_z (by omega) (by omega) (by omega), M0_z (by omega) (by omega) (by omega), M0_z (by omega) (by omega) (by omega), M0_z (by omega) (by omega) (by omega)]
    exact ⟨rfl, rfl, lt0 (by decide)⟩
  · rw [M0_z (by omega) (by omega) (by omega), M0_z (by omega) (by omega) (by omega)]
end INIT
