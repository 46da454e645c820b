theorem mFillS {j z : Nat} (hj : j < 4) (S : gSt) : ∃ S', gLoop f_X7_sheet_s46 gFuel (nI j, nI z, 0, S) = some (nI z, S') ∧ S'.1 = S.1 ∧ (∀ k, k ≠ 59 → S'.2 k = S.2 k) ∧ (∀ i, i < 24 → S'.2 59 (24 * j + i) = 0) ∧ ∀ i, (i < 24 * j ∨ 24 * j + 24 ≤ i) → S'.2 59 i = S.2 59 i := by
  have key : ∃ R, gLoop f_X7_sheet_s46 gFuel (nI j, nI z, 0, S) = some R ∧ ∃ T : gSt, R = (nI z, T) ∧ T.1 = S.1 ∧ (∀ k, k ≠ 59 → T.2 k = S.2 k) ∧ (∀ i, i < 24 → T.2 59 (24 * j + i) = 0) ∧ ∀ i, (i < 24 * j ∨ 24 * j + 24 ≤ i) → T.2 59 i = S.2 59 i := by
    refine gLoop_up (fun i p => ∃ T : gSt, p = (nI j, nI z, nI i, T) ∧ T.1 = S.1 ∧ (∀ k, k ≠ 59 → T.2 k = S.2 k) ∧ (∀ c, c < i → T.2 59 (24 * j + c) = 0) ∧ ∀ i, (i < 24 * j ∨ 24 * j + 24 ≤ i) → T.2 59 i = S.2 59 i) _ 24 (by omega) ?_ ?_ ⟨S, rfl, rfl, fun _ _ => rfl, fun c hc => by omega, fun _ _ => rfl⟩
    · rintro i p hi ⟨T, rfl, h1, h2, h3, h4⟩
      dsimp only [f_X7_sheet_s46]
      unfold f_X7_sheet_s46_b
      rw [if_neg (by rw [n_24, nI_leI (by omega) (by omega)]; omega), n_24, pk_mul, nI_add, gin_t (by omega) (by decide), if_pos rfl, gls, nI_clamp (by omega), nI_1]
      refine ⟨_, rfl, _, rfl, h1, fun k hk => by rw [gJ_k _ hk]; exact h2 k hk, fun c hc => ?_, fun c hc => ?_⟩
      · by_cases hci : c = i
        · rw [hci, gJ_s]
        · rw [gJ_i _ (by omega)]; exact h3 c (by omega)
      · rw [gJ_i _ (by omega)]; exact h4 c hc
    · rintro p ⟨T, rfl, h1, h2, h3, h4⟩
      dsimp only [f_X7_sheet_s46]
      unfold f_X7_sheet_s46_b
      rw [if_pos (by rw [n_24, nI_leI (by omega) (by omega)]; omega)]
      exact ⟨_, rfl, T, rfl, h1, h2, h3, h4⟩
  obtain ⟨R, h1, T, rfl, h2⟩ := key
  exact ⟨T, h1, h2⟩
