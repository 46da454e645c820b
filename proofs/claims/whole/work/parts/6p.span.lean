/-! a span of items -/
def spn (z : Nat) (a b : Int32) : Bool := decide (0 ≤ a.toInt) && (decide (0 ≤ b.toInt) && decide (a.toInt + b.toInt ≤ z))
theorem spn_iff {z : Nat} {a b : Int32} : spn z a b = true ↔ 0 ≤ a.toInt ∧ 0 ≤ b.toInt ∧ a.toInt + b.toInt ≤ z := by simp [spn]
theorem spn_f {z : Nat} {a b : Int32} (h : ¬ (0 ≤ a.toInt ∧ 0 ≤ b.toInt ∧ a.toInt + b.toInt ≤ z)) : spn z a b = false := by
  cases e : spn z a b with
  | false => rfl
  | true => exact absurd (spn_iff.mp e) h
theorem cSpans {S : gSt} {j z : Nat} (hz : z ≤ 24) (h : S.1 (33 + j) 2 = nI z) (a b : Int32) : f_X2_spans j a b S = some (bI (spn z a b), S) := by
  unfold f_X2_spans
  rw [h]
  have ha := a.toInt_lt
  by_cases h1 : a < 0
  · rw [if_pos h1, spn_f (by rw [lt_toInt, z_toInt] at h1; omega)]; rfl
  · rw [if_neg h1]
    rw [lt_toInt, z_toInt] at h1
    by_cases h2 : b < 0
    · rw [if_pos h2, spn_f (by rw [lt_toInt, z_toInt] at h2; omega)]; rfl
    · rw [if_neg h2]
      rw [lt_toInt, z_toInt] at h2
      have e : (nI z - a).toInt = (z : Int) - a.toInt := by
        rw [Int32.toInt_sub, nI_toInt (by omega), Int.bmod_eq_of_le (by omega) (by omega)]
      by_cases h3 : nI z - a < b
      · rw [if_pos h3, spn_f (by rw [lt_toInt, e] at h3; omega)]; rfl
      · rw [if_neg h3, spn_iff.mpr (by rw [lt_toInt, e] at h3; omega)]; rfl
theorem mWhy {S : gSt} {j z l : Nat} (hj : j < 4) (hl : l < 4) (hz : z ≤ 24) (h57 : S.1 57 j = nI l) (h58 : S.1 58 j = nI z) (x a b : Int32) : f_X7_why (nI j) x a b S = some (if nI l = x then (if spn z a b then 0 else -13) else -12, S) := by
  unfold f_X7_why
  have g : gin (nI j) 4 = true := gin_t hj (by decide)
  have h0 : (0 : Int32) ≤ nI l := by rw [n_0, nI_leI (by decide) (by omega)]; omega
  rw [g, if_pos rfl, nI_clamp (by omega), h57, h58, if_pos h0, if_pos rfl, if_pos rfl]
  have ha := a.toInt_lt
  have hb := b.toInt_lt
  by_cases hx : nI l = x
  · rw [if_pos hx, if_pos hx]
    by_cases h1 : a < 0
    · rw [if_pos h1, spn_f (by rw [lt_toInt, z_toInt] at h1; omega)]; rfl
    · rw [if_neg h1]
      rw [lt_toInt, z_toInt] at h1
      by_cases h2 : b < 0
      · rw [if_pos h2, spn_f (by rw [lt_toInt, z_toInt] at h2; omega)]; rfl
      · rw [if_neg h2]
        rw [lt_toInt, z_toInt] at h2
        have e : (a.toInt64 + b.toInt64).toInt = a.toInt + b.toInt := by
          rw [Int64.toInt_add, Int32.toInt_toInt64, Int32.toInt_toInt64, Int.bmod_eq_of_le (by omega) (by omega)]
        have hc : lg_cmp (a.toInt64 + b.toInt64) (nI z).toInt64 ≤ 0 ↔ a.toInt + b.toInt ≤ z := by
          rw [← Int32.not_lt, lg_gt, Int64.lt_iff_toInt_lt, e, Int32.toInt_toInt64, nI_toInt (by omega)]
          omega
        by_cases h3 : a.toInt + b.toInt ≤ z
        · rw [if_pos (hc.mpr h3), spn_iff.mpr (by omega)]; rfl
        · rw [if_neg (fun q => h3 (hc.mp q)), spn_f (by omega)]; rfl
  · rw [if_neg hx, if_neg hx]
