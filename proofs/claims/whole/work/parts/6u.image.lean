/-! image, restore: rows moved -/
theorem RC_mv {S S' : gSt} {b b' : Nat} {q : Il × Pa} (hw : WF q) (h0 : ∀ j, 7 ≤ j → j ≤ 9 → S'.1 b' j = S.1 b j) (h1 : ∀ i, i < 5 → S'.1 (b' + 1) i = S.1 (b + 1) i) (h2 : ∀ i, i < 6 → S'.1 (b' + 2) i = S.1 (b + 2) i) (h3 : ∀ i, i < 6 → S'.1 (b' + 3) i = S.1 (b + 3) i) (h4 : ∀ i, i < 6 → S'.1 (b' + 4) i = S.1 (b + 4) i) (h5 : ∀ i, i < 6 → S'.1 (b' + 5) i = S.1 (b + 5) i) (h6 : ∀ i, i < 384 → S'.1 (b' + 6) i = S.1 (b + 6) i) (h7 : ∀ j, 5 ≤ j → j ≤ 6 → S'.1 (b' + 7) j = S.1 (b + 7) j) (h8 : ∀ i, i < 3072 → S'.1 (b' + 8) i = S.1 (b + 8) i) (h9 : ∀ i, i < 48 → S'.1 (b' + 9) i = S.1 (b + 9) i) (h10 : ∀ i, i < 48 → S'.1 (b' + 10) i = S.1 (b + 10) i) (h11 : ∀ i, i < 8 → S'.1 (b' + 11) i = S.1 (b + 11) i) (h12 : ∀ i, i < 8 → S'.1 (b' + 12) i = S.1 (b + 12) i) (h : RC S b q) : RC S' b' q := by
  obtain ⟨⟨c1, c2, c3, c4, c5, c6⟩, hk, nx, hnx, hx, hc⟩ := h
  have hn := hw.1.1
  have hm := hw.2.1
  refine ⟨⟨fun i hi => by rw [h1 i hi]; exact c1 i hi, by rw [h0 7 (by decide) (by decide)]; exact c2, by rw [h0 8 (by decide) (by decide)]; exact c3, by rw [h0 9 (by decide) (by decide)]; exact c4, fun w hw2 => ?_, fun i hi => by rw [h6 i hi]; exact c6 i hi⟩, by rw [h7 6 (by decide) (by decide)]; exact hk, nx, hnx, by rw [h7 5 (by decide) (by decide)]; exact hx, fun k hk2 => ?_⟩
  · rw [h2 w (by omega), h3 w (by omega), h4 w (by omega), h5 w (by omega)]
    exact c5 w hw2
  · obtain ⟨d1, d2, d3, d4⟩ := hc k hk2
    have hj : (nx + 8 - q.2.1 + k) % 8 < 8 := Nat.mod_lt _ (by decide)
    generalize (nx + 8 - q.2.1 + k) % 8 = j at *
    refine ⟨by rw [h11 j hj]; exact d1, by rw [h12 j hj]; exact d2, fun w hw2 => ?_, fun i hi => by rw [h8 _ (by omega)]; exact d4 i hi⟩
    rw [h9 _ (by omega), h10 _ (by omega)]
    exact d3 w hw2
theorem MI_mv {f f' : Nat → Int32} {g : Il} (hn : i_n g ≤ 6) (h : ∀ i, i < 416 → f' i = f i) (hM : MI f g) : MI f' g := by
  obtain ⟨m1, m2, m3, m4, m5, m6⟩ := hM
  refine ⟨fun i hi => by rw [h _ (by omega)]; exact m1 i hi, by rw [h _ (by decide)]; exact m2, by rw [h _ (by decide)]; exact m3, by rw [h _ (by decide)]; exact m4, fun w hw => ?_, fun i hi => by rw [h _ (by omega)]; exact m6 i hi⟩
  rw [h _ (by omega), h _ (by omega), h _ (by omega), h _ (by omega)]
  exact m5 w hw
theorem MP_mv {u u' : Nat → Int32} {q : Il × Pa} (hw : WF q) (h : ∀ i, i < 3328 → u' i = u i) (hP : MP u q.1 q.2) : MP u' q.1 q.2 := by
  have hn := hw.1.1
  have hm := hw.2.1
  intro k hk
  obtain ⟨a1, a2, a3, a4⟩ := hP k hk
  refine ⟨?_, ?_, fun w hw2 => ?_, fun i hi => ?_⟩
  · show u' (416 * k + 6) = _
    rw [h _ (by omega)]; exact a1
  · show u' (416 * k + 7) = _
    rw [h _ (by omega)]; exact a2
  · show u' (416 * k + (8 + 4 * w)) = _ ∧ u' (416 * k + (9 + 4 * w)) = _ ∧ u' (416 * k + (10 + 4 * w)) = _ ∧ u' (416 * k + (11 + 4 * w)) = _
    rw [h _ (by omega), h _ (by omega), h _ (by omega), h _ (by omega)]
    exact a3 w hw2
  · show u' (416 * k + (32 + i)) = _
    rw [h _ (by omega)]; exact a4 i hi
/-- a row copied whole -/
def cp1 (S : gSt) (k s n : Nat) : gSt := gR S k (va_cpy (S.1 s) (S.1 k) 0 0 n)
theorem cp1_fr (S : gSt) (k s n : Nat) : Fr [k] S (cp1 S k s n) := Fr_gR (by simp)
theorem cp1_k (S : gSt) {k s n i : Nat} (h : i ≠ k) : (cp1 S k s n).1 i = S.1 i := gR_k _ h _
theorem cp1_s (S : gSt) {k s n i : Nat} (h : i < n) : (cp1 S k s n).1 k i = S.1 s i := by
  unfold cp1
  rw [gR_s, pk_cpy_in (Nat.zero_le _) (by omega), Nat.sub_zero, Nat.zero_add]
theorem cBecB (S : gSt) : ∃ S', f_X1_become_b S = some S' ∧ Fr [21, 22, 23, 24, 25, 26] S S' ∧ (∀ j, 5 ≤ j → j ≤ 6 → S'.1 21 j = S.1 8 j) ∧ (∀ i, i < 3072 → S'.1 22 i = S.1 9 i) ∧ (∀ i, i < 48 → S'.1 23 i = S.1 10 i) ∧ (∀ i, i < 48 → S'.1 24 i = S.1 11 i) ∧ (∀ i, i < 8 → S'.1 25 i = S.1 12 i) ∧ ∀ i, i < 8 → S'.1 26 i = S.1 13 i := by
  obtain ⟨T1, e1⟩ : ∃ T, T = cp1 S 22 9 3072 := ⟨_, rfl⟩
  obtain ⟨T2, e2⟩ : ∃ T, T = cp1 T1 23 10 48 := ⟨_, rfl⟩
  obtain ⟨T3, e3⟩ : ∃ T, T = cp1 T2 24 11 48 := ⟨_, rfl⟩
  obtain ⟨T4, e4⟩ : ∃ T, T = cp1 T3 25 12 8 := ⟨_, rfl⟩
  obtain ⟨T5, e5⟩ : ∃ T, T = cp1 T4 26 13 8 := ⟨_, rfl⟩
  have k1 : ∀ i, i ≠ 22 → T1.1 i = S.1 i := fun i h => by rw [e1, cp1_k _ h]
  have k2 : ∀ i, i ≠ 23 → T2.1 i = T1.1 i := fun i h => by rw [e2, cp1_k _ h]
  have k3 : ∀ i, i ≠ 24 → T3.1 i = T2.1 i := fun i h => by rw [e3, cp1_k _ h]
  have k4 : ∀ i, i ≠ 25 → T4.1 i = T3.1 i := fun i h => by rw [e4, cp1_k _ h]
  have k5 : ∀ i, i ≠ 26 → T5.1 i = T4.1 i := fun i h => by rw [e5, cp1_k _ h]
  have s2 : T5.2 = S.2 := by rw [e5, e4, e3, e2, e1]; rfl
  refine ⟨gI (gI T5 21 5 (T5.1 8 5)) 21 6 ((gI T5 21 5 (T5.1 8 5)).1 8 6), ?_, ⟨s2, fun k hk => ?_⟩, fun j a b => ?_, fun i hi => ?_, fun i hi => ?_, fun i hi => ?_, fun i hi => ?_, fun i hi => ?_⟩
  · rw [e5, e4, e3, e2, e1]; rfl
  · simp only [List.mem_cons, List.not_mem_nil, or_false] at hk
    rw [gI_k _ (by omega), gI_k _ (by omega), k5 k (by omega), k4 k (by omega), k3 k (by omega), k2 k (by omega), k1 k (by omega)]
  · have w8 : T5.1 8 = S.1 8 := by rw [k5 8 (by decide), k4 8 (by decide), k3 8 (by decide), k2 8 (by decide), k1 8 (by decide)]
    by_cases h6 : j = 6
    · rw [h6, gI_s, gI_k _ (by decide), w8]
    · rw [gI_i _ h6, show j = 5 by omega, gI_s, w8]
  · rw [gI_k _ (by decide), gI_k _ (by decide), k5 _ (by decide), k4 _ (by decide), k3 _ (by decide), k2 _ (by decide), e1, cp1_s _ hi]
  · rw [gI_k _ (by decide), gI_k _ (by decide), k5 _ (by decide), k4 _ (by decide), k3 _ (by decide), e2, cp1_s _ hi, k1 _ (by decide)]
  · rw [gI_k _ (by decide), gI_k _ (by decide), k5 _ (by decide), k4 _ (by decide), e3, cp1_s _ hi, k2 _ (by decide), k1 _ (by decide)]
  · rw [gI_k _ (by decide), gI_k _ (by decide), k5 _ (by decide), e4, cp1_s _ hi, k3 _ (by decide), k2 _ (by decide), k1 _ (by decide)]
  · rw [gI_k _ (by decide), gI_k _ (by decide), e5, cp1_s _ hi, k4 _ (by decide), k3 _ (by decide), k2 _ (by decide), k1 _ (by decide)]
theorem cImg {S : gSt} {q : Il × Pa} (h : RC S 1 q) (hw : WF q) : ∃ S', f_X0_become_b S = some S' ∧ Fr [14, 15, 16, 17, 18, 19, 20, 21, 22, 23, 24, 25, 26] S S' ∧ RC S' 14 q := by
  obtain ⟨T1, e1⟩ : ∃ T, T = cp1 S 15 2 5 := ⟨_, rfl⟩
  obtain ⟨T2, e2⟩ : ∃ T, T = cp1 T1 16 3 6 := ⟨_, rfl⟩
  obtain ⟨T3, e3⟩ : ∃ T, T = cp1 T2 17 4 6 := ⟨_, rfl⟩
  obtain ⟨T4, e4⟩ : ∃ T, T = cp1 T3 18 5 6 := ⟨_, rfl⟩
  obtain ⟨T5, e5⟩ : ∃ T, T = cp1 T4 19 6 6 := ⟨_, rfl⟩
  obtain ⟨T6, e6⟩ : ∃ T, T = cp1 T5 20 7 384 := ⟨_, rfl⟩
  have k1 : ∀ i, i ≠ 15 → T1.1 i = S.1 i := fun i h => by rw [e1, cp1_k _ h]
  have k2 : ∀ i, i ≠ 16 → T2.1 i = T1.1 i := fun i h => by rw [e2, cp1_k _ h]
  have k3 : ∀ i, i ≠ 17 → T3.1 i = T2.1 i := fun i h => by rw [e3, cp1_k _ h]
  have k4 : ∀ i, i ≠ 18 → T4.1 i = T3.1 i := fun i h => by rw [e4, cp1_k _ h]
  have k5 : ∀ i, i ≠ 19 → T5.1 i = T4.1 i := fun i h => by rw [e5, cp1_k _ h]
  have k6 : ∀ i, i ≠ 20 → T6.1 i = T5.1 i := fun i h => by rw [e6, cp1_k _ h]
  have s2 : T6.2 = S.2 := by rw [e6, e5, e4, e3, e2, e1]; rfl
  have k0 : ∀ i, i < 15 ∨ 20 < i → T6.1 i = S.1 i := fun i h => by rw [k6 i (by omega), k5 i (by omega), k4 i (by omega), k3 i (by omega), k2 i (by omega), k1 i (by omega)]
  obtain ⟨B, b1, b2, b3, b4, b5, b6, b7, b8⟩ := cBecB T6
  have hB : ∀ i, i < 21 ∨ 26 < i → B.1 i = T6.1 i := fun i h => b2.2 i (fun z => by
    simp only [List.mem_cons, List.not_mem_nil, or_false] at z
    omega)
  have w1 : B.1 1 = S.1 1 := by rw [hB 1 (by omega), k0 1 (by omega)]
  refine ⟨gI (gI (gI B 14 7 (B.1 1 7)) 14 8 ((gI B 14 7 (B.1 1 7)).1 1 8)) 14 9 ((gI (gI B 14 7 (B.1 1 7)) 14 8 ((gI B 14 7 (B.1 1 7)).1 1 8)).1 1 9), ?_, ⟨(b2.1.trans s2 : _), fun k hk => ?_⟩, ?_⟩
  · have : f_X0_become_b S = (f_X1_become_b T6).bind fun S13 => gLet (gI S13 14 7 (S13.1 1 7)) fun S15 => gLet (gI S15 14 8 (S15.1 1 8)) fun S16 => gLet (gI S16 14 9 (S16.1 1 9)) fun S17 => some S17 := by
      rw [e6, e5, e4, e3, e2, e1]; rfl
    rw [this, b1]; rfl
  · simp only [List.mem_cons, List.not_mem_nil, or_false] at hk
    rw [gI_k _ (by omega), gI_k _ (by omega), gI_k _ (by omega), hB k (by omega), k0 k (by omega)]
  · have g : ∀ k, k ≠ 14 → (gI (gI (gI B 14 7 (B.1 1 7)) 14 8 ((gI B 14 7 (B.1 1 7)).1 1 8)) 14 9 ((gI (gI B 14 7 (B.1 1 7)) 14 8 ((gI B 14 7 (B.1 1 7)).1 1 8)).1 1 9)).1 k = B.1 k := fun k hk => by rw [gI_k _ hk, gI_k _ hk, gI_k _ hk]
    refine RC_mv hw (fun j a b => ?_) (fun i hi => ?_) (fun i hi => ?_) (fun i hi => ?_) (fun i hi => ?_) (fun i hi => ?_) (fun i hi => ?_) (fun j a b => ?_) (fun i hi => ?_) (fun i hi => ?_) (fun i hi => ?_) (fun i hi => ?_) (fun i hi => ?_) h
    · have : j = 7 ∨ j = 8 ∨ j = 9 := by omega
      rcases this with rfl | rfl | rfl
      · rw [gI_i _ (by decide), gI_i _ (by decide), gI_s, w1]
      · rw [gI_i _ (by decide), gI_s, gI_k _ (by decide), w1]
      · rw [gI_s, gI_k _ (by decide), gI_k _ (by decide), w1]
    · rw [g _ (by decide), hB _ (by decide), k6 _ (by decide), k5 _ (by decide), k4 _ (by decide), k3 _ (by decide), k2 _ (by decide), e1, cp1_s _ hi]
    · rw [g _ (by decide), hB _ (by decide), k6 _ (by decide), k5 _ (by decide), k4 _ (by decide), k3 _ (by decide), e2, cp1_s _ hi, k1 _ (by decide)]
    · rw [g _ (by decide), hB _ (by decide), k6 _ (by decide), k5 _ (by decide), k4 _ (by decide), e3, cp1_s _ hi, k2 _ (by decide), k1 _ (by decide)]
    · rw [g _ (by decide), hB _ (by decide), k6 _ (by decide), k5 _ (by decide), e4, cp1_s _ hi, k3 _ (by decide), k2 _ (by decide), k1 _ (by decide)]
    · rw [g _ (by decide), hB _ (by decide), k6 _ (by decide), e5, cp1_s _ hi, k4 _ (by decide), k3 _ (by decide), k2 _ (by decide), k1 _ (by decide)]
    · rw [g _ (by decide), hB _ (by decide), e6, cp1_s _ hi, k5 _ (by decide), k4 _ (by decide), k3 _ (by decide), k2 _ (by decide), k1 _ (by decide)]
    · rw [g _ (by decide), b3 j a b, k0 _ (by decide)]
    · rw [g _ (by decide), b4 i hi, k0 _ (by decide)]
    · rw [g _ (by decide), b5 i hi, k0 _ (by decide)]
    · rw [g _ (by decide), b6 i hi, k0 _ (by decide)]
    · rw [g _ (by decide), b7 i hi, k0 _ (by decide)]
    · rw [g _ (by decide), b8 i hi, k0 _ (by decide)]
theorem mImg (S : gSt) : ∃ S', f_X7_image S = some (1, S') ∧ S'.2 = S.2 ∧ (∀ k, k ≠ 47 → k ≠ 56 → S'.1 k = S.1 k) ∧ (∀ j, j ≠ 13 → j ≠ 14 → S'.1 47 j = S.1 47 j) ∧ S'.1 47 13 = S.1 47 8 ∧ S'.1 47 14 = 1 ∧ (∀ i, i < 416 → S'.1 56 i = S.1 48 i) ∧ ∀ i, i < 3328 → S'.1 56 (416 + i) = S.1 52 i := by
  unfold f_X7_image
  have key1 : ∃ R, gLoop f_X7_image_s2 gFuel (0, S) = some R ∧ Fr [56] S R ∧ ∀ i, i < 416 → R.1 56 i = S.1 48 i := by
    refine gLoop_up (fun i p => ∃ T, p = (nI i, T) ∧ Fr [56] S T ∧ ∀ c, c < i → T.1 56 c = S.1 48 c) _ 416 (by omega) ?_ ?_ ⟨S, rfl, Fr_rfl, fun c hc => by omega⟩
    · rintro i p hi ⟨T, rfl, hT, hc⟩
      dsimp only [f_X7_image_s2]
      unfold f_X7_image_s2_b
      rw [if_neg (by rw [n_416, nI_leI (by omega) (by omega)]; omega), gin_t hi (by decide), if_pos rfl, gin_t (show i < 3744 by omega) (by decide), if_pos rfl, gls, nI_clamp (by omega), nI_1]
      refine ⟨_, rfl, _, rfl, hT.trans (Fr_gI (by decide)), fun c hc2 => ?_⟩
      by_cases hci : c = i
      · subst hci; rw [gI_s, hT.2 48 (by decide)]
      · rw [gI_i _ hci]; exact hc c (by omega)
    · rintro p ⟨T, rfl, hT, hc⟩
      dsimp only [f_X7_image_s2]
      unfold f_X7_image_s2_b
      rw [if_pos (by rw [n_416, nI_leI (by omega) (by omega)]; omega)]
      exact ⟨_, rfl, hT, hc⟩
  obtain ⟨R1, r1, r2, r3⟩ := key1
  have key2 : ∃ R, gLoop f_X7_image_s29 gFuel (0, R1) = some R ∧ Fr [56] R1 R ∧ (∀ i, i < 3328 → R.1 56 (416 + i) = R1.1 52 i) ∧ ∀ i, i < 416 → R.1 56 i = R1.1 56 i := by
    refine gLoop_up (fun i p => ∃ T, p = (nI i, T) ∧ Fr [56] R1 T ∧ (∀ c, c < i → T.1 56 (416 + c) = R1.1 52 c) ∧ ∀ i, i < 416 → T.1 56 i = R1.1 56 i) _ 3328 (by omega) ?_ ?_ ⟨R1, rfl, Fr_rfl, fun c hc => by omega, fun _ _ => rfl⟩
    · rintro i p hi ⟨T, rfl, hT, hc, ho⟩
      dsimp only [f_X7_image_s29]
      unfold f_X7_image_s29_b
      rw [if_neg (by rw [n_3328, nI_leI (by omega) (by omega)]; omega), gin_t hi (by decide), if_pos rfl, n_416, nI_add, gin_t (show 416 + i < 3744 by omega) (by decide), if_pos rfl, gls, nI_clamp (by omega), nI_clamp (by omega), nI_1]
      refine ⟨_, rfl, _, rfl, hT.trans (Fr_gI (by decide)), fun c hc2 => ?_, fun c hc2 => ?_⟩
      · by_cases hci : c = i
        · subst hci; rw [gI_s, hT.2 52 (by decide)]
        · rw [gI_i _ (by omega)]; exact hc c (by omega)
      · rw [gI_i _ (by omega)]; exact ho c hc2
    · rintro p ⟨T, rfl, hT, hc, ho⟩
      dsimp only [f_X7_image_s29]
      unfold f_X7_image_s29_b
      rw [if_pos (by rw [n_3328, nI_leI (by omega) (by omega)]; omega)]
      exact ⟨_, rfl, hT, hc, ho⟩
  obtain ⟨R2, t1, t2, t3, t4⟩ := key2
  rw [r1, Option.bind_some]
  show ∃ S', ((gLoop f_X7_image_s29 gFuel (0, R1)).bind _) = _ ∧ _
  rw [t1, Option.bind_some]
  have fr : ∀ k, k ≠ 56 → R2.1 k = S.1 k := fun k hk => by
    have hk2 : k ∉ [56] := by simp [hk]
    rw [t2.2 k hk2, r2.2 k hk2]
  refine ⟨_, rfl, t2.1.trans r2.1, fun k a b => ?_, fun j a b => ?_, ?_, ?_, fun i hi => ?_, fun i hi => ?_⟩
  · rw [gI_k _ a, gI_k _ a, fr k b]
  · rw [gI_i _ b, gI_i _ a, fr 47 (by decide)]
  · rw [gI_i _ (by decide), gI_s, fr 47 (by decide)]
  · rw [gI_s]
  · rw [gI_k _ (by decide), gI_k _ (by decide), t4 i hi, r3 i hi]
  · rw [gI_k _ (by decide), gI_k _ (by decide), t3 i hi, r2.2 52 (by decide)]
theorem op_image : Op f_X6_image f_X7_image := by
  intro S hR
  obtain ⟨⟨q, h1, h2, h3⟩, hK, hT, hS⟩ := hR
  obtain ⟨A, a1, a2, a3⟩ := cImg h1 h3
  have ha : ∀ k, k < 14 ∨ 26 < k → A.1 k = S.1 k := fun k h => a2.2 k (fun z => by
    simp only [List.mem_cons, List.not_mem_nil, or_false] at z
    omega)
  obtain ⟨S1, hS1⟩ : ∃ S1, S1 = gI A 0 2 1 := ⟨_, rfl⟩
  have hs1 : ∀ k, k ≠ 0 → S1.1 k = A.1 k := fun k h => by rw [hS1, gI_k _ h]
  obtain ⟨S2, b1, b2, b3, b4, b5, b6, b7, b8⟩ := mImg S1
  have e : ∀ k, (0 < k ∧ k < 14) ∨ (26 < k ∧ k ≠ 47 ∧ k ≠ 56) → S2.1 k = S.1 k := fun k h => by rw [b3 k (by omega) (by omega), hs1 k (by omega), ha k (by omega)]
  have e14 : ∀ k, 14 ≤ k → k ≤ 26 → S2.1 k = A.1 k := fun k x y => by rw [b3 k (by omega) (by omega), hs1 k (by omega)]
  have e47 : ∀ j, j ≠ 13 → j ≠ 14 → S2.1 47 j = S.1 47 j := fun j x y => by rw [b4 j x y, hs1 47 (by decide), ha 47 (by decide)]
  have e2 : S2.2 = S.2 := by rw [b2, hS1]; exact a2.1
  refine ⟨1, S1, S2, ?_, b1, ⟨q, RN_eq (fun k x y => e k (by omega)) (e47 8 (by decide) (by decide)) (e 48 (by decide)) (e 52 (by decide)) ⟨h1, h2, h3⟩⟩, Or.inr ⟨?_, b6, q, RC_eq (fun k x y => e14 k x (by omega)) a3, ⟨?_, ?_, ?_⟩, h3⟩, RT_eq (by rw [e 27 (by decide)]) (e47 3 (by decide) (by decide)) (e 28 (by decide)) (e 50 (by decide)) hT, RS_eq (fun k x y => e k (by omega)) (e 57 (by decide)) (e 58 (by decide)) (fun k _ _ => by rw [e2]) (by rw [e2]) hS⟩
  · unfold f_X6_image
    rw [a1, Option.bind_some, gls, hS1]
  · rw [b3 0 (by decide) (by decide), hS1, gI_s]
  · refine MI_mv h3.1.1 (fun i hi => ?_) h2.1
    rw [b7 i hi, hs1 48 (by decide), ha 48 (by decide)]
  · refine MP_mv h3 (fun i hi => ?_) h2.2.1
    rw [b8 i hi, hs1 52 (by decide), ha 52 (by decide)]
  · rw [b5, hs1 47 (by decide), ha 47 (by decide)]; exact h2.2.2
