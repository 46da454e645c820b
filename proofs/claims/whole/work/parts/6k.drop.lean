/-! sheets -/
theorem mSheet (p : Int32) (S : gSt) : f_X7_isSheet p S = some (bI (gin p 4), S) := by
  unfold f_X7_isSheet
  rw [in_lit p (a := 0) (b := 3) S rfl rfl, g2s, gbool_b, gin_rng]
  rfl
theorem mLane (p : Int32) (S : gSt) : f_X7_isLane p S = some (bI (gin p 4), S) := by
  unfold f_X7_isLane
  rw [in_lit p (a := 0) (b := 3) S rfl rfl, g2s, gbool_b, gin_rng]
  rfl
theorem cSheet (p : Int32) (S : gSt) : f_X6_isSheet p S = some (bI (gin p 4), S) := by
  unfold f_X6_isSheet
  rw [gin_rng]
  simp only [lt_toInt, le_toInt]
  have e : (4 : Int32).toInt = 4 := rfl
  rw [z_toInt, e]
  by_cases h1 : p.toInt < 0
  · rw [if_pos h1, show rng p 0 (((4 : Nat) : Int) - 1) = false by simp [rng]; omega]; rfl
  · rw [if_neg h1]
    by_cases h2 : 4 ≤ p.toInt
    · rw [if_pos h2, show rng p 0 (((4 : Nat) : Int) - 1) = false by simp [rng]; omega]; rfl
    · rw [if_neg h2, show rng p 0 (((4 : Nat) : Int) - 1) = true by simp [rng]; omega]; rfl
