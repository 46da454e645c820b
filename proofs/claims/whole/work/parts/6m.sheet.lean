theorem gJ_1 (S : gSt) (k j : Nat) (v : Int64) : (gJ S k j v).1 = S.1 := rfl
theorem gJ_s (S : gSt) (k j : Nat) (v : Int64) : (gJ S k j v).2 k j = v := by simp [gJ, va_up, vp_updL]
theorem gJ_i (S : gSt) {k j i : Nat} (h : i ≠ j) (v : Int64) : (gJ S k j v).2 k i = S.2 k i := by simp [gJ, va_up, vp_updL, h]
theorem gJ_k (S : gSt) {k j i : Nat} (h : i ≠ k) (v : Int64) : (gJ S k j v).2 i = S.2 i := by simp [gJ, va_up, h]
theorem cFill (j : Nat) (v : Int64) (S : gSt) : ∃ S', f_J7_fill_d0a16_items j v S = some S' ∧ S'.1 = S.1 ∧ (∀ k, k ≠ 37 + j → S'.2 k = S.2 k) ∧ ∀ i, i < 24 → S'.2 (37 + j) i = v := by
  unfold f_J7_fill_d0a16_items
  have key : ∃ R, gLoop (f_J7_fill_d0a16_items_s6 j) gFuel (v, 0, 24, S) = some R ∧ R.1 = S.1 ∧ (∀ k, k ≠ 37 + j → R.2 k = S.2 k) ∧ ∀ i, i < 24 → R.2 (37 + j) i = v := by
    refine gLoop_up (fun i p => ∃ T : gSt, p = (v, nI i, 24, T) ∧ T.1 = S.1 ∧ (∀ k, k ≠ 37 + j → T.2 k = S.2 k) ∧ ∀ c, c < i → T.2 (37 + j) c = v) _ 24 (by omega) ?_ ?_ ⟨S, rfl, rfl, fun _ _ => rfl, fun c hc => by omega⟩
    · rintro i p hi ⟨T, rfl, h1, h2, h3⟩
      dsimp only [f_J7_fill_d0a16_items_s6]
      unfold f_J7_fill_d0a16_items_s6_b
      rw [if_neg (by rw [n_24, nI_leI (by omega) (by omega)]; omega), gin_t hi (by decide), if_pos rfl, gls, nI_clamp (by omega), nI_1]
      refine ⟨_, rfl, _, rfl, h1, fun k hk => by rw [gJ_k _ hk]; exact h2 k hk, fun c hc => ?_⟩
      by_cases hci : c = i
      · rw [hci, gJ_s]
      · rw [gJ_i _ hci]; exact h3 c (by omega)
    · rintro p ⟨T, rfl, h1, h2, h3⟩
      dsimp only [f_J7_fill_d0a16_items_s6]
      unfold f_J7_fill_d0a16_items_s6_b
      rw [if_pos (by rw [n_24, nI_leI (by omega) (by omega)]; omega)]
      exact ⟨_, rfl, h1, h2, h3⟩
  obtain ⟨R, h1, h2⟩ := key
  exact ⟨R, by rw [h1]; rfl, h2⟩
