/-! restore -/
theorem cBecA (S : gSt) : ∃ S', f_X1_become_a S = some S' ∧ Fr [8, 9, 10, 11, 12, 13] S S' ∧ (∀ j, 5 ≤ j → j ≤ 6 → S'.1 8 j = S.1 21 j) ∧ (∀ i, i < 3072 → S'.1 9 i = S.1 22 i) ∧ (∀ i, i < 48 → S'.1 10 i = S.1 23 i) ∧ (∀ i, i < 48 → S'.1 11 i = S.1 24 i) ∧ (∀ i, i < 8 → S'.1 12 i = S.1 25 i) ∧ ∀ i, i < 8 → S'.1 13 i = S.1 26 i := by
  obtain ⟨T1, e1⟩ : ∃ T, T = cp1 S 9 22 3072 := ⟨_, rfl⟩
  obtain ⟨T2, e2⟩ : ∃ T, T = cp1 T1 10 23 48 := ⟨_, rfl⟩
  obtain ⟨T3, e3⟩ : ∃ T, T = cp1 T2 11 24 48 := ⟨_, rfl⟩
  obtain ⟨T4, e4⟩ : ∃ T, T = cp1 T3 12 25 8 := ⟨_, rfl⟩
  obtain ⟨T5, e5⟩ : ∃ T, T = cp1 T4 13 26 8 := ⟨_, rfl⟩
  have k1 : ∀ i, i ≠ 9 → T1.1 i = S.1 i := fun i h => by rw [e1, cp1_k _ h]
  have k2 : ∀ i, i ≠ 10 → T2.1 i = T1.1 i := fun i h => by rw [e2, cp1_k _ h]
  have k3 : ∀ i, i ≠ 11 → T3.1 i = T2.1 i := fun i h => by rw [e3, cp1_k _ h]
  have k4 : ∀ i, i ≠ 12 → T4.1 i = T3.1 i := fun i h => by rw [e4, cp1_k _ h]
  have k5 : ∀ i, i ≠ 13 → T5.1 i = T4.1 i := fun i h => by rw [e5, cp1_k _ h]
  have s2 : T5.2 = S.2 := by rw [e5, e4, e3, e2, e1]; rfl
  refine ⟨gI (gI T5 8 5 (T5.1 21 5)) 8 6 ((gI T5 8 5 (T5.1 21 5)).1 21 6), ?_, ⟨s2, fun k hk => ?_⟩, fun j a b => ?_, fun i hi => ?_, fun i hi => ?_, fun i hi => ?_, fun i hi => ?_, fun i hi => ?_⟩
  · rw [e5, e4, e3, e2, e1]; rfl
  · simp only [List.mem_cons, List.not_mem_nil, or_false] at hk
    rw [gI_k _ (by omega), gI_k _ (by omega), k5 k (by omega), k4 k (by omega), k3 k (by omega), k2 k (by omega), k1 k (by omega)]
  · have w8 : T5.1 21 = S.1 21 := by rw [k5 21 (by decide), k4 21 (by decide), k3 21 (by decide), k2 21 (by decide), k1 21 (by decide)]
    by_cases h6 : j = 6
    · rw [h6, gI_s, gI_k _ (by decide), w8]
    · rw [gI_i _ h6, show j = 5 by omega, gI_s, w8]
  · rw [gI_k _ (by decide), gI_k _ (by decide), k5 _ (by decide), k4 _ (by decide), k3 _ (by decide), k2 _ (by decide), e1, cp1_s _ hi]
  · rw [gI_k _ (by decide), gI_k _ (by decide), k5 _ (by decide), k4 _ (by decide), k3 _ (by decide), e2, cp1_s _ hi, k1 _ (by decide)]
  · rw [gI_k _ (by decide), gI_k _ (by decide), k5 _ (by decide), k4 _ (by decide), e3, cp1_s _ hi, k2 _ (by decide), k1 _ (by decide)]
  · rw [gI_k _ (by decide), gI_k _ (by decide), k5 _ (by decide), e4, cp1_s _ hi, k3 _ (by decide), k2 _ (by decide), k1 _ (by decide)]
  · rw [gI_k _ (by decide), gI_k _ (by decide), e5, cp1_s _ hi, k4 _ (by decide), k3 _ (by decide), k2 _ (by decide), k1 _ (by decide)]
theorem cRst {S : gSt} {q : Il × Pa} (h : RC S 14 q) (hw : WF q) : ∃ S', f_X0_become_a S = some S' ∧ Fr [1, 2, 3, 4, 5, 6, 7, 8, 9, 10, 11, 12, 13] S S' ∧ RC S' 1 q := by
  obtain ⟨T1, e1⟩ : ∃ T, T = cp1 S 2 15 5 := ⟨_, rfl⟩
  obtain ⟨T2, e2⟩ : ∃ T, T = cp1 T1 3 16 6 := ⟨_, rfl⟩
  obtain ⟨T3, e3⟩ : ∃ T, T = cp1 T2 4 17 6 := ⟨_, rfl⟩
  obtain ⟨T4, e4⟩ : ∃ T, T = cp1 T3 5 18 6 := ⟨_, rfl⟩
  obtain ⟨T5, e5⟩ : ∃ T, T = cp1 T4 6 19 6 := ⟨_, rfl⟩
  obtain ⟨T6, e6⟩ : ∃ T, T = cp1 T5 7 20 384 := ⟨_, rfl⟩
  have k1 : ∀ i, i ≠ 2 → T1.1 i = S.1 i := fun i h => by rw [e1, cp1_k _ h]
  have k2 : ∀ i, i ≠ 3 → T2.1 i = T1.1 i := fun i h => by rw [e2, cp1_k _ h]
  have k3 : ∀ i, i ≠ 4 → T3.1 i = T2.1 i := fun i h => by rw [e3, cp1_k _ h]
  have k4 : ∀ i, i ≠ 5 → T4.1 i = T3.1 i := fun i h => by rw [e4, cp1_k _ h]
  have k5 : ∀ i, i ≠ 6 → T5.1 i = T4.1 i := fun i h => by rw [e5, cp1_k _ h]
  have k6 : ∀ i, i ≠ 7 → T6.1 i = T5.1 i := fun i h => by rw [e6, cp1_k _ h]
  have s2 : T6.2 = S.2 := by rw [e6, e5, e4, e3, e2, e1]; rfl
  have k0 : ∀ i, i < 2 ∨ 7 < i → T6.1 i = S.1 i := fun i h => by rw [k6 i (by omega), k5 i (by omega), k4 i (by omega), k3 i (by omega), k2 i (by omega), k1 i (by omega)]
  obtain ⟨B, b1, b2, b3, b4, b5, b6, b7, b8⟩ := cBecA T6
  have hB : ∀ i, i < 8 ∨ 13 < i → B.1 i = T6.1 i := fun i h => b2.2 i (fun z => by
    simp only [List.mem_cons, List.not_mem_nil, or_false] at z
    omega)
  have w1 : B.1 14 = S.1 14 := by rw [hB 14 (by omega), k0 14 (by omega)]
  refine ⟨gI (gI (gI B 1 7 (B.1 14 7)) 1 8 ((gI B 1 7 (B.1 14 7)).1 14 8)) 1 9 ((gI (gI B 1 7 (B.1 14 7)) 1 8 ((gI B 1 7 (B.1 14 7)).1 14 8)).1 14 9), ?_, ⟨(b2.1.trans s2 : _), fun k hk => ?_⟩, ?_⟩
  · have : f_X0_become_a S = (f_X1_become_a T6).bind fun S13 => gLet (gI S13 1 7 (S13.1 14 7)) fun S15 => gLet (gI S15 1 8 (S15.1 14 8)) fun S16 => gLet (gI S16 1 9 (S16.1 14 9)) fun S17 => some S17 := by
      rw [e6, e5, e4, e3, e2, e1]; rfl
    rw [this, b1]; rfl
  · simp only [List.mem_cons, List.not_mem_nil, or_false] at hk
    rw [gI_k _ (by omega), gI_k _ (by omega), gI_k _ (by omega), hB k (by omega), k0 k (by omega)]
  · have g : ∀ k, k ≠ 1 → (gI (gI (gI B 1 7 (B.1 14 7)) 1 8 ((gI B 1 7 (B.1 14 7)).1 14 8)) 1 9 ((gI (gI B 1 7 (B.1 14 7)) 1 8 ((gI B 1 7 (B.1 14 7)).1 14 8)).1 14 9)).1 k = B.1 k := fun k hk => by rw [gI_k _ hk, gI_k _ hk, gI_k _ hk]
    refine RC_mv hw (fun j a b => ?_) (fun i hi => ?_) (fun i hi => ?_) (fun i hi => ?_) (fun i hi => ?_) (fun i hi => ?_) (fun i hi => ?_) (fun j a b => ?_) (fun i hi => ?_) (fun i hi => ?_) (fun i hi => ?_) (fun i hi => ?_) (fun i hi => ?_) h
    · have : j = 7 ∨ j = 8 ∨ j = 9 := by omega
      rcases this with rfl | rfl | rfl
      · rw [gI_i _ (by decide), gI_i _ (by decide), gI_s, w1]
      · rw [gI_i _ (by decide), gI_s, gI_k _ (by decide), w1]
      · rw [gI_s, gI_k _ (by decide), gI_k _ (by decide), w1]
    · rw [g _ (by decide), hB _ (by decide), k6 _ (by decide), k5 _ (by decide), k4 _ (by decide), k3 _ (by decide), k2 _ (by decide), e1, cp1_s _ hi]
    · rw [g _ (by decide), hB _ (by decide), k6 _ (by decide), k5 _ (by decide), k4 _ (by decide), k3 _ (by decide), e2, cp1_s _ hi, k1 _ (by decide)]
    · rw [g _ (by decide), hB _ (by decide), k6 _ (by decide), k5 _ (by decide), k4 _ (by decide), e3, cp1_s _ hi, k2 _ (by decide), k1 _ (by decide)]
    · rw [g _ (by decide), hB _ (by decide), k6 _ (by decide), k5 _ (by decide), e4, cp1_s _ hi, k3 _ (by decide), k2 _ (by decide), k1 _ (by decide)]
    · rw [g _ (by decide), hB _ (by decide), k6 _ (by decide), e5, cp1_s _ hi, k4 _ (by decide), k3 _ (by decide), k2 _ (by decide), k1 _ (by decide)]
    · rw [g _ (by decide), hB _ (by decide), e6, cp1_s _ hi, k5 _ (by decide), k4 _ (by decide), k3 _ (by decide), k2 _ (by decide), k1 _ (by decide)]
    · rw [g _ (by decide), b3 j a b, k0 _ (by decide)]
    · rw [g _ (by decide), b4 i hi, k0 _ (by decide)]
    · rw [g _ (by decide), b5 i hi, k0 _ (by decide)]
    · rw [g _ (by decide), b6 i hi, k0 _ (by decide)]
    · rw [g _ (by decide), b7 i hi, k0 _ (by decide)]
    · rw [g _ (by decide), b8 i hi, k0 _ (by decide)]
theorem mRst {S : gSt} (h : ¬ S.1 47 14 = 0) : ∃ S', f_X7_restore S = some (1, S') ∧ S'.2 = S.2 ∧ (∀ k, k ≠ 47 → k ≠ 48 → k ≠ 52 → S'.1 k = S.1 k) ∧ (∀ j, j ≠ 8 → S'.1 47 j = S.1 47 j) ∧ S'.1 47 8 = S.1 47 13 ∧ (∀ i, i < 416 → S'.1 48 i = S.1 56 i) ∧ ∀ i, i < 3328 → S'.1 52 i = S.1 56 (416 + i) := by
  unfold f_X7_restore
  rw [if_neg h]
  have key1 : ∃ R, gLoop f_X7_restore_s12 gFuel (0, S) = some R ∧ Fr [48] S R ∧ ∀ i, i < 416 → R.1 48 i = S.1 56 i := by
    refine gLoop_up (fun i p => ∃ T, p = (nI i, T) ∧ Fr [48] S T ∧ ∀ c, c < i → T.1 48 c = S.1 56 c) _ 416 (by omega) ?_ ?_ ⟨S, rfl, Fr_rfl, fun c hc => by omega⟩
    · rintro i p hi ⟨T, rfl, hT, hc⟩
      dsimp only [f_X7_restore_s12]
      unfold f_X7_restore_s12_b
      rw [if_neg (by rw [n_416, nI_leI (by omega) (by omega)]; omega), gin_t (show i < 3744 by omega) (by decide), if_pos rfl, gin_t hi (by decide), if_pos rfl, gls, nI_clamp (by omega), nI_1]
      refine ⟨_, rfl, _, rfl, hT.trans (Fr_gI (by decide)), fun c hc2 => ?_⟩
      by_cases hci : c = i
      · subst hci; rw [gI_s, hT.2 56 (by decide)]
      · rw [gI_i _ hci]; exact hc c (by omega)
    · rintro p ⟨T, rfl, hT, hc⟩
      dsimp only [f_X7_restore_s12]
      unfold f_X7_restore_s12_b
      rw [if_pos (by rw [n_416, nI_leI (by omega) (by omega)]; omega)]
      exact ⟨_, rfl, hT, hc⟩
  obtain ⟨R1, r1, r2, r3⟩ := key1
  have key2 : ∃ R, gLoop f_X7_restore_s39 gFuel (0, R1) = some R ∧ Fr [52] R1 R ∧ ∀ i, i < 3328 → R.1 52 i = R1.1 56 (416 + i) := by
    refine gLoop_up (fun i p => ∃ T, p = (nI i, T) ∧ Fr [52] R1 T ∧ ∀ c, c < i → T.1 52 c = R1.1 56 (416 + c)) _ 3328 (by omega) ?_ ?_ ⟨R1, rfl, Fr_rfl, fun c hc => by omega⟩
    · rintro i p hi ⟨T, rfl, hT, hc⟩
      dsimp only [f_X7_restore_s39]
      unfold f_X7_restore_s39_b
      rw [if_neg (by rw [n_3328, nI_leI (by omega) (by omega)]; omega), n_416, nI_add, gin_t (show 416 + i < 3744 by omega) (by decide), if_pos rfl, gin_t hi (by decide), if_pos rfl, gls, nI_clamp (by omega), nI_clamp (by omega), nI_1]
      refine ⟨_, rfl, _, rfl, hT.trans (Fr_gI (by decide)), fun c hc2 => ?_⟩
      by_cases hci : c = i
      · subst hci; rw [gI_s, hT.2 56 (by decide)]
      · rw [gI_i _ hci]; exact hc c (by omega)
    · rintro p ⟨T, rfl, hT, hc⟩
      dsimp only [f_X7_restore_s39]
      unfold f_X7_restore_s39_b
      rw [if_pos (by rw [n_3328, nI_leI (by omega) (by omega)]; omega)]
      exact ⟨_, rfl, hT, hc⟩
  obtain ⟨R2, t1, t2, t3⟩ := key2
  rw [r1, Option.bind_some]
  show ∃ S', ((gLoop f_X7_restore_s39 gFuel (0, R1)).bind _) = _ ∧ _
  rw [t1, Option.bind_some]
  have fr : ∀ k, k ≠ 48 → k ≠ 52 → R2.1 k = S.1 k := fun k a b => by
    rw [t2.2 k (by simp [b]), r2.2 k (by simp [a])]
  refine ⟨_, rfl, t2.1.trans r2.1, fun k a b c => ?_, fun j a => ?_, ?_, fun i hi => ?_, fun i hi => ?_⟩
  · rw [gI_k _ a, fr k b c]
  · rw [gI_i _ a, fr 47 (by decide) (by decide)]
  · rw [gI_s, fr 47 (by decide) (by decide)]
  · rw [gI_k _ (by decide), t2.2 48 (by decide), r3 i hi]
  · rw [gI_k _ (by decide), t3 i hi, r2.2 56 (by decide)]
theorem op_restore : Op f_X6_restore f_X7_restore := by
  intro S hR
  have hR0 := hR
  obtain ⟨-, hK, hT, hS⟩ := hR
  have hK0 := hK
  rcases hK with ⟨k1, k2⟩ | ⟨k1, k2, q, h1, h2, h3⟩
  · refine ⟨-4, S, S, ?_, ?_, hR0⟩
    · unfold f_X6_restore
      rw [if_pos k1]
    · unfold f_X7_restore
      rw [if_pos k2]
  · obtain ⟨A, a1, a2, a3⟩ := cRst h1 h3
    have ha : ∀ k, k < 1 ∨ 13 < k → A.1 k = S.1 k := fun k h => a2.2 k (fun z => by
      simp only [List.mem_cons, List.not_mem_nil, or_false] at z
      omega)
    obtain ⟨S2, b1, b2, b3, b4, b5, b6, b7⟩ := mRst (S := A) (by rw [ha 47 (by decide), k2]; decide)
    have e : ∀ k, k < 1 ∨ (13 < k ∧ k ≠ 47 ∧ k ≠ 48 ∧ k ≠ 52) → S2.1 k = S.1 k := fun k h => by rw [b3 k (by omega) (by omega) (by omega), ha k (by omega)]
    have e1 : ∀ k, 1 ≤ k → k ≤ 13 → S2.1 k = A.1 k := fun k x y => b3 k (by omega) (by omega) (by omega)
    have e47 : ∀ j, j ≠ 8 → S2.1 47 j = S.1 47 j := fun j x => by rw [b4 j x, ha 47 (by decide)]
    have e2 : S2.2 = S.2 := by rw [b2]; exact a2.1
    refine ⟨1, A, S2, ?_, b1, ⟨q, RC_eq (fun k x y => e1 k x (by omega)) a3, ⟨?_, ?_, ?_⟩, h3⟩, RK_eq (fun k x y => e k (by omega)) (by rw [e 0 (by decide)]) (e47 13 (by decide)) (e47 14 (by decide)) (e 56 (by decide)) hK0, RT_eq (by rw [e 27 (by decide)]) (e47 3 (by decide)) (e 28 (by decide)) (e 50 (by decide)) hT, RS_eq (fun k x y => e k (by omega)) (e 57 (by decide)) (e 58 (by decide)) (fun k _ _ => by rw [e2]) (by rw [e2]) hS⟩
    · unfold f_X6_restore
      rw [if_neg (by rw [k1]; decide), a1]; rfl
    · refine MI_mv h3.1.1 (fun i hi => ?_) h2.1
      rw [b6 i hi, ha 56 (by decide)]
    · refine MP_mv h3 (fun i hi => ?_) h2.2.1
      rw [b7 i hi, ha 56 (by decide)]
    · rw [b5, ha 47 (by decide)]; exact h2.2.2
