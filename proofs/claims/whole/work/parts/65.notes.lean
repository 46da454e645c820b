theorem mJ48 {S : gSt} {m : Nat} (hm : m ≤ 7) (h : S.1 47 8 = nI m) : ∃ S', f_X7_notes_j48 S = some S' ∧ FrM S S' ∧ S'.1 48 = S.1 48 ∧ (∀ i, i < 416 → S'.1 52 (416 * m + i) = S.1 48 i) ∧ (∀ i, i < 416 * m → S'.1 52 i = S.1 52 i) ∧ S'.1 47 8 = nI (m + 1) := by
  unfold f_X7_notes_j48
  have key : ∃ R, gLoop f_X7_notes_s50 gFuel (0, S) = some R ∧ Fr [52] S R ∧ (∀ i, i < 416 → R.1 52 (416 * m + i) = S.1 48 i) ∧ (∀ i, i < 416 * m → R.1 52 i = S.1 52 i) := by
    refine gLoop_up (fun i p => ∃ T, p = (nI i, T) ∧ Fr [52] S T ∧ (∀ c, c < i → T.1 52 (416 * m + c) = S.1 48 c) ∧ (∀ i, i < 416 * m → T.1 52 i = S.1 52 i)) _ 416 (by omega) ?_ ?_ ⟨S, rfl, Fr_rfl, fun c hc => by omega, fun i _ => rfl⟩
    · rintro i p hi ⟨T, rfl, hT, hc, ho⟩
      dsimp only [f_X7_notes_s50]
      unfold f_X7_notes_s50_b
      rw [if_neg (by rw [n_416, nI_leI (by omega) (by omega)]; omega), gin_t hi (by decide), if_pos rfl, hT.2 47 (by decide), h, n_416, pk_mul, nI_add, gin_t (by omega) (by decide), if_pos rfl, gls, nI_clamp (by omega), nI_clamp (by omega), nI_1]
      refine ⟨_, rfl, _, rfl, hT.trans (Fr_gI (by decide)), fun c hc2 => ?_, fun c hc2 => ?_⟩
      · by_cases hci : c = i
        · subst hci; rw [gI_s, hT.2 48 (by decide)]
        · rw [gI_i _ (by omega)]; exact hc c (by omega)
      · rw [gI_i _ (by omega)]; exact ho c hc2
    · rintro p ⟨T, rfl, hT, hc, ho⟩
      dsimp only [f_X7_notes_s50]
      unfold f_X7_notes_s50_b
      rw [if_pos (by rw [n_416, nI_leI (by omega) (by omega)]; omega)]
      exact ⟨_, rfl, hT, hc, ho⟩
  obtain ⟨R, hR, hF, h1, h2⟩ := key
  rw [hR, Option.bind_some, gls]
  have e47 : R.1 47 8 = nI m := by rw [hF.2 47 (by decide)]; exact h
  refine ⟨_, rfl, ?_, ?_, fun i hi => ?_, fun i hi => ?_, ?_⟩
  · refine FrM_trans (T := R) ⟨hF.1, fun k hk => hF.2 k (fun z => hk ?_), fun j _ _ _ => by rw [hF.2 47 (by decide)]⟩ (FrM_gI (by decide) (Or.inr (Or.inl rfl)))
    simp only [List.mem_cons, List.not_mem_nil, or_false] at z
    rw [z]; decide
  · rw [gI_k _ (by decide), hF.2 48 (by decide)]
  · rw [gI_k _ (by decide)]; exact h1 i hi
  · rw [gI_k _ (by decide)]; exact h2 i hi
  · rw [gI_s, e47, nI_1]
theorem mNotes {S : gSt} {q : Il × Pa} (h1 : RMn S q) (h2 : WF q) : ∃ S', f_X7_notes S = some S' ∧ FrM S S' ∧ RMn S' (q.1, push q.2 (snap q.1)) := by
  obtain ⟨hM, hP, h8⟩ := h1
  have hm := h2.2.1
  have fin : ∀ (T S' : gSt) (m : Nat) (pa : Pa), T.1 48 = S.1 48 → S'.1 48 = T.1 48 → (∀ i, i < 416 → S'.1 52 (416 * m + i) = T.1 48 i) → (∀ i, i < 416 * m → S'.1 52 i = T.1 52 i) → MP (T.1 52) q.1 pa → pa.1 = m → MI (S'.1 48) q.1 ∧ MP (S'.1 52) q.1 (m + 1, fun k => if k = m then snap q.1 else pa.2 k) := by
    intro T S' m pa e1 e2 e3 e4 hp hpm
    refine ⟨by rw [e2, e1]; exact hM, fun k hk => ?_⟩
    have hk : k < m + 1 := hk
    show MSn (fun i => S'.1 52 (416 * k + i)) q.1 (if k = m then snap q.1 else pa.2 k)
    have h6 := h2.1.1
    by_cases hkm : k = m
    · rw [if_pos hkm, hkm]
      refine ⟨?_, ?_, fun w hw => ?_, fun i hi => ?_⟩
      · show S'.1 52 (416 * m + 6) = _
        rw [e3 _ (by omega), e1]; exact hM.2.2.1
      · show S'.1 52 (416 * m + 7) = _
        rw [e3 _ (by omega), e1]; exact hM.2.2.2.1
      · show S'.1 52 (416 * m + (8 + 4 * w)) = _ ∧ S'.1 52 (416 * m + (9 + 4 * w)) = _ ∧ S'.1 52 (416 * m + (10 + 4 * w)) = _ ∧ S'.1 52 (416 * m + (11 + 4 * w)) = _
        rw [e3 _ (by omega), e3 _ (by omega), e3 _ (by omega), e3 _ (by omega), e1]
        exact hM.2.2.2.2.1 w hw
      · show S'.1 52 (416 * m + (32 + i)) = _
        rw [e3 _ (by omega), e1]; exact hM.2.2.2.2.2 i hi
    · rw [if_neg hkm]
      obtain ⟨a1, a2, a3, a4⟩ := hp k (by omega)
      refine ⟨?_, ?_, fun w hw => ?_, fun i hi => ?_⟩
      · show S'.1 52 (416 * k + 6) = _
        rw [e4 _ (by omega)]; exact a1
      · show S'.1 52 (416 * k + 7) = _
        rw [e4 _ (by omega)]; exact a2
      · show S'.1 52 (416 * k + (8 + 4 * w)) = _ ∧ S'.1 52 (416 * k + (9 + 4 * w)) = _ ∧ S'.1 52 (416 * k + (10 + 4 * w)) = _ ∧ S'.1 52 (416 * k + (11 + 4 * w)) = _
        rw [e4 _ (by omega), e4 _ (by omega), e4 _ (by omega), e4 _ (by omega)]
        exact a3 w hw
      · show S'.1 52 (416 * k + (32 + i)) = _
        rw [e4 _ (by omega)]; exact a4 i hi
  unfold f_X7_notes
  rw [h8, n_8, ieq (by omega) (by decide)]
  unfold push
  by_cases hm8 : q.2.1 = 8
  · rw [if_pos hm8, if_pos hm8]
    have key : ∃ R, gLoop f_X7_notes_s13 gFuel (416, S) = some R ∧ Fr [52] S R ∧ ∀ i, i < 2912 → R.1 52 i = S.1 52 (i + 416) := by
      refine gLoop_up (fun i p => ∃ T, p = (nI (416 + i), T) ∧ Fr [52] S T ∧ (∀ c, c < i → T.1 52 c = S.1 52 (c + 416)) ∧ ∀ c, i ≤ c → T.1 52 c = S.1 52 c) _ 2912 (by omega) ?_ ?_ ⟨S, rfl, Fr_rfl, fun c hc => by omega, fun _ _ => rfl⟩
      · rintro i p hi ⟨T, rfl, hT, hc, ho⟩
        dsimp only [f_X7_notes_s13]
        unfold f_X7_notes_s13_b
        rw [if_neg (by rw [n_3328, nI_leI (by omega) (by omega)]; omega), gin_t (by omega) (by decide), if_pos rfl, n_416, nI_sub_le (by omega), gin_t (by omega) (by decide), if_pos rfl, gls, nI_clamp (by omega), nI_clamp (by omega), nI_1, show 416 + i - 416 = i by omega]
        refine ⟨_, rfl, _, rfl, hT.trans (Fr_gI (by decide)), fun c hc2 => ?_, fun c hc2 => ?_⟩
        · by_cases hci : c = i
          · subst hci; rw [gI_s, ho _ (by omega), Nat.add_comm]
          · rw [gI_i _ hci]; exact hc c (by omega)
        · rw [gI_i _ (by omega)]; exact ho c (by omega)
      · rintro p ⟨T, rfl, hT, hc, ho⟩
        dsimp only [f_X7_notes_s13]
        unfold f_X7_notes_s13_b
        rw [if_pos (by rw [n_3328, nI_leI (by omega) (by omega)]; omega)]
        exact ⟨_, rfl, hT, hc⟩
    obtain ⟨R, hR, hF, hs⟩ := key
    rw [hR, Option.bind_some, gls]
    obtain ⟨S', a, b, c, d, e, f⟩ := mJ48 (S := gI R 47 8 7) (m := 7) (by decide) (by rw [gI_s, n_7])
    refine ⟨S', a, FrM_trans (T := R) ⟨hF.1, fun k hk => hF.2 k (fun z => hk ?_), fun j _ _ _ => by rw [hF.2 47 (by decide)]⟩ (FrM_trans (FrM_gI (by decide) (Or.inr (Or.inl rfl))) b), ?_⟩
    · simp only [List.mem_cons, List.not_mem_nil, or_false] at z
      rw [z]; decide
    · have e48 : (gI R 47 8 7).1 48 = S.1 48 := by rw [gI_k _ (by decide), hF.2 48 (by decide)]
      have hp : MP ((gI R 47 8 7).1 52) q.1 (7, fun k => q.2.2 (k + 1)) := by
        intro k hk
        have hk : k < 7 := hk
        have h6 := h2.1.1
        obtain ⟨a1, a2, a3, a4⟩ := hP (k + 1) (by omega)
        show MSn (fun i => (gI R 47 8 7).1 52 (416 * k + i)) q.1 (q.2.2 (k + 1))
        rw [gI_k _ (by decide)]
        refine ⟨?_, ?_, fun w hw => ?_, fun i hi => ?_⟩
        · show R.1 52 (416 * k + 6) = _
          rw [hs _ (by omega), show 416 * k + 6 + 416 = 416 * (k + 1) + 6 by omega]; exact a1
        · show R.1 52 (416 * k + 7) = _
          rw [hs _ (by omega), show 416 * k + 7 + 416 = 416 * (k + 1) + 7 by omega]; exact a2
        · show R.1 52 (416 * k + (8 + 4 * w)) = _ ∧ R.1 52 (416 * k + (9 + 4 * w)) = _ ∧ R.1 52 (416 * k + (10 + 4 * w)) = _ ∧ R.1 52 (416 * k + (11 + 4 * w)) = _
          rw [hs _ (by omega), hs _ (by omega), hs _ (by omega), hs _ (by omega), show 416 * k + (8 + 4 * w) + 416 = 416 * (k + 1) + (8 + 4 * w) by omega, show 416 * k + (9 + 4 * w) + 416 = 416 * (k + 1) + (9 + 4 * w) by omega, show 416 * k + (10 + 4 * w) + 416 = 416 * (k + 1) + (10 + 4 * w) by omega, show 416 * k + (11 + 4 * w) + 416 = 416 * (k + 1) + (11 + 4 * w) by omega]
          exact a3 w hw
        · show R.1 52 (416 * k + (32 + i)) = _
          rw [hs _ (by omega), show 416 * k + (32 + i) + 416 = 416 * (k + 1) + (32 + i) by omega]; exact a4 i hi
      obtain ⟨f1, f2⟩ := fin _ S' 7 (7, fun k => q.2.2 (k + 1)) e48 c d e hp rfl
      exact ⟨f1, f2, f⟩
  · rw [if_neg hm8, if_neg hm8]
    obtain ⟨S', a, b, c, d, e, f⟩ := mJ48 (S := S) (m := q.2.1) (by omega) h8
    obtain ⟨f1, f2⟩ := fin S S' q.2.1 q.2 rfl c d e hP rfl
    exact ⟨S', a, b, f1, f2, f⟩
