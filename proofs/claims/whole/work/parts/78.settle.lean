def u_se (g : Il) (a b n : Nat) (K M C : Nat → Nat) : Il := (fun i => if i = 1 then a else if i = 2 then b else i_set g i, n, 0, i_dr g, K, M, C, fun _ => 0, fun _ => 0)
theorem WF_se {q : Il × Pa} (h : WF q) {a b n : Nat} {K M C : Nat → Nat} (ha : a ≤ 9) (hb : b ≤ 3) (hn : n ≤ 6) (hK : ∀ i, i < n → K i ≤ 4 ∧ 1 ≤ M i ∧ M i ≤ 9 ∧ C i < 64) : WF (u_se q.1 a b n K M C, (0, q.2.2)) := by
  obtain ⟨w0, w1, w2, w3, w4, w5⟩ := h.1.2.2.2.1
  exact ⟨⟨hn, Nat.zero_le _, h.1.2.2.1, ⟨w0, ha, hb, w3, w4, w5⟩, hK, fun _ => Nat.zero_le _, fun _ _ => rfl⟩, Nat.zero_le _, fun k hk => absurd hk (Nat.not_lt_zero _)⟩
theorem cSetAs {S : gSt} {q : Il × Pa} (h : RC S 1 q) {a b n : Nat} {K M C : Nat → Nat} (hn : n ≤ 6) (h6 : S.1 27 6 = nI a) (h7 : S.1 27 7 = nI b) (h8 : S.1 27 8 = nI n) (hv : ∀ i, i < n → S.1 29 i = nI (K i) ∧ S.1 30 i = nI (M i) ∧ S.1 31 i = nI (C i)) : ∃ S', f_X0_settleAs S = some S' ∧ Fr [1, 2, 3, 4, 5, 6, 7, 8] S S' ∧ RC S' 1 (u_se q.1 a b n K M C, (0, q.2.2)) := by
  obtain ⟨⟨c1, c2, c3, c4, c5, c6⟩, hk, nx, hnx, hx, hcc⟩ := h
  unfold f_X0_settleAs f_X1_forget
  rw [gls, Option.bind_some]
  obtain ⟨F, f1, f2, f3⟩ := fill7 0 (gI S 8 6 0)
  have fF : Fr [7, 8] S F := (Fr_gI (by decide)).trans (f2.mono (by decide))
  have e1 : (1 : Int32).toNatClampNeg = 1 := rfl
  have e2 : (2 : Int32).toNatClampNeg = 2 := rfl
  rw [f1, Option.bind_some, if_pos (show gin 1 5 = true from rfl), gls, if_pos (show gin 2 5 = true from rfl), gls, gls, gls, e1, e2]
  obtain ⟨G, hG⟩ : ∃ G, G = gI (gI (gI (gI F 2 1 (F.1 27 6)) 2 2 ((gI F 2 1 (F.1 27 6)).1 27 7)) 1 8 0) 1 7 0 := ⟨_, rfl⟩
  rw [← hG]
  have kG : ∀ k, k ≠ 1 → k ≠ 2 → G.1 k = F.1 k := fun k x y => by rw [hG, gI_k _ x, gI_k _ x, gI_k _ y, gI_k _ y]
  have gS : ∀ k, k ≠ 1 → k ≠ 2 → k ≠ 7 → k ≠ 8 → G.1 k = S.1 k := fun k x y z t => by rw [kG k x y, fF.2 k (by simp [z, t])]
  have g2 : G.2 = S.2 := by rw [hG]; exact fF.1
  have key : ∃ R, gLoop f_X0_settleAs_s47 gFuel (0, G) = some R ∧ Fr [1, 3, 4, 5, 6] G R ∧ R.1 1 7 = nI n ∧ (∀ j, j ≠ 7 → R.1 1 j = G.1 1 j) ∧ ∀ w, w < n → R.1 3 w = nI (K w) ∧ R.1 4 w = nI (M w) ∧ R.1 5 w = nI (C w) ∧ R.1 6 w = 0 := by
    refine gLoop_up (fun i p => ∃ T, p = (nI i, T) ∧ Fr [1, 3, 4, 5, 6] G T ∧ T.1 1 7 = nI i ∧ (∀ j, j ≠ 7 → T.1 1 j = G.1 1 j) ∧ ∀ w, w < i → T.1 3 w = nI (K w) ∧ T.1 4 w = nI (M w) ∧ T.1 5 w = nI (C w) ∧ T.1 6 w = 0) _ n (by omega) ?_ ?_ ⟨G, rfl, Fr_rfl, by rw [hG, gI_s]; rfl, fun _ _ => rfl, fun w hw => by omega⟩
    · rintro i p hi ⟨T, rfl, b1, b2, b3, b4⟩
      dsimp only [f_X0_settleAs_s47]
      unfold f_X0_settleAs_s47_b f_X0_enter
      have t27 : T.1 27 8 = nI n := by rw [b1.2 27 (by decide), gS 27 (by decide) (by decide) (by decide) (by decide)]; exact h8
      have t29 : T.1 29 i = nI (K i) := by rw [b1.2 29 (by decide), gS 29 (by decide) (by decide) (by decide) (by decide)]; exact (hv i hi).1
      have t30 : T.1 30 i = nI (M i) := by rw [b1.2 30 (by decide), gS 30 (by decide) (by decide) (by decide) (by decide)]; exact (hv i hi).2.1
      have t31 : T.1 31 i = nI (C i) := by rw [b1.2 31 (by decide), gS 31 (by decide) (by decide) (by decide) (by decide)]; exact (hv i hi).2.2
      have gi : gin (nI i) 6 = true := gin_t (by omega) (by decide)
      have ci : (nI i).toNatClampNeg = i := nI_clamp (by omega)
      rw [t27, if_neg (by rw [nI_leI (by omega) (by omega)]; omega), gi, if_pos rfl, if_pos rfl, if_pos rfl, ci, t29, t30, t31]
      simp only [gls, b2, gi, ci, if_pos, g2s]
      have e8 : (gI (gI (gI (gI T 3 i (nI (K i))) 4 i (nI (M i))) 5 i (nI (C i))) 6 i 0).1 1 7 = nI i := by rw [gI_k _ (by decide), gI_k _ (by decide), gI_k _ (by decide), gI_k _ (by decide)]; exact b2
      rw [e8, nI_1]
      refine ⟨_, rfl, _, rfl, b1.trans (((((Fr_gI (by decide)).trans (Fr_gI (by decide))).trans (Fr_gI (by decide))).trans (Fr_gI (by decide))).trans (Fr_gI (by decide))), gI_s _ _ _ _, fun j hj => ?_, fun w hw => ⟨?_, ?_, ?_, ?_⟩⟩
      · rw [gI_i _ hj, gI_k _ (by decide), gI_k _ (by decide), gI_k _ (by decide), gI_k _ (by decide)]; exact b3 j hj
      · rw [gI_k _ (by decide), gI_k _ (by decide), gI_k _ (by decide), gI_k _ (by decide)]
        by_cases hwi : w = i
        · rw [hwi, gI_s]
        · rw [gI_i _ hwi]; exact (b4 w (by omega)).1
      · rw [gI_k _ (by decide), gI_k _ (by decide), gI_k _ (by decide)]
        by_cases hwi : w = i
        · rw [hwi, gI_s]
        · rw [gI_i _ hwi, gI_k _ (by decide)]; exact (b4 w (by omega)).2.1
      · rw [gI_k _ (by decide), gI_k _ (by decide)]
        by_cases hwi : w = i
        · rw [hwi, gI_s]
        · rw [gI_i _ hwi, gI_k _ (by decide), gI_k _ (by decide)]; exact (b4 w (by omega)).2.2.1
      · rw [gI_k _ (by decide)]
        by_cases hwi : w = i
        · rw [hwi, gI_s]
        · rw [gI_i _ hwi, gI_k _ (by decide), gI_k _ (by decide), gI_k _ (by decide)]; exact (b4 w (by omega)).2.2.2
    · rintro p ⟨T, rfl, b1, b2, b3, b4⟩
      dsimp only [f_X0_settleAs_s47]
      unfold f_X0_settleAs_s47_b
      have t27 : T.1 27 8 = nI n := by rw [b1.2 27 (by decide), gS 27 (by decide) (by decide) (by decide) (by decide)]; exact h8
      rw [t27, if_pos (by rw [nI_leI (by omega) (by omega)]; omega)]
      exact ⟨_, rfl, b1, b2, b3, b4⟩
  obtain ⟨R, r1, r2, r3, r4, r5⟩ := key
  refine ⟨R, by rw [r1]; rfl, ⟨r2.1.trans g2, fun k hk => ?_⟩, ⟨fun i hi => ?_, r3, ?_, ?_, fun w hw => r5 w hw, fun i hi => ?_⟩, ?_, nx, hnx, ?_, fun k hk => absurd hk (Nat.not_lt_zero _)⟩
  · simp only [List.mem_cons, List.not_mem_nil, or_false] at hk
    rw [r2.2 k (by simp only [List.mem_cons, List.not_mem_nil, or_false]; omega), gS k (by omega) (by omega) (by omega) (by omega)]
  · rw [r2.2 (1 + 1) (by decide)]
    have f27 : F.1 27 = S.1 27 := fF.2 27 (by decide)
    have fF2 : F.1 2 = S.1 2 := fF.2 2 (by decide)
    show G.1 2 i = nI (if i = 1 then a else if i = 2 then b else i_set q.1 i)
    rw [hG, gI_k _ (by decide), gI_k _ (by decide), gI_k _ (show 27 ≠ 2 by decide), f27, h6, h7]
    by_cases i2 : i = 2
    · rw [i2, gI_s]; rfl
    · rw [gI_i _ i2]
      by_cases i1 : i = 1
      · rw [i1, gI_s]; rfl
      · rw [gI_i _ i1, fF2, if_neg i1, if_neg i2]; exact c1 i hi
  · rw [r4 8 (by decide), hG, gI_i _ (by decide), gI_s]; rfl
  · rw [r4 9 (by decide), hG, gI_i _ (by decide), gI_i _ (by decide), gI_k _ (by decide), gI_k _ (by decide), fF.2 1 (by decide)]; exact c4
  · rw [r2.2 (1 + 6) (by decide), kG _ (by decide) (by decide)]; exact f3 i hi
  · rw [r2.2 (1 + 7) (by decide), kG _ (by decide) (by decide), f2.2 8 (by decide), gI_s]; rfl
  · rw [r2.2 (1 + 7) (by decide), kG _ (by decide) (by decide), f2.2 8 (by decide), gI_i _ (by decide)]; exact hx
theorem mZero (x : Int32) (S : gSt) : ∃ S', gLoop f_X7_settle_s147 gFuel (x, 8, S) = some (x, S') ∧ Fr [48] S S' ∧ (∀ i, 8 ≤ i → i < 416 → S'.1 48 i = 0) ∧ ∀ i, i < 8 → S'.1 48 i = S.1 48 i := by
  have key : ∃ R, gLoop f_X7_settle_s147 gFuel (x, 8, S) = some R ∧ ∃ T, R = (x, T) ∧ Fr [48] S T ∧ (∀ i, 8 ≤ i → i < 416 → T.1 48 i = 0) ∧ ∀ i, i < 8 → T.1 48 i = S.1 48 i := by
    refine gLoop_up (fun i p => ∃ T, p = (x, nI (8 + i), T) ∧ Fr [48] S T ∧ (∀ c, 8 ≤ c → c < 8 + i → T.1 48 c = 0) ∧ ∀ i, i < 8 → T.1 48 i = S.1 48 i) _ 408 (by omega) ?_ ?_ ⟨S, rfl, Fr_rfl, fun c h h' => by omega, fun _ _ => rfl⟩
    · rintro i p hi ⟨T, rfl, b1, b2, b3⟩
      dsimp only [f_X7_settle_s147]
      unfold f_X7_settle_s147_b
      rw [if_neg (by rw [n_416, nI_leI (by omega) (by omega)]; omega), gin_t (show 8 + i < 416 by omega) (by decide), if_pos rfl, gls, nI_clamp (by omega), nI_1]
      refine ⟨_, rfl, _, rfl, b1.trans (Fr_gI (by decide)), fun c h h' => ?_, fun c hc => ?_⟩
      · by_cases hci : c = 8 + i
        · rw [hci, gI_s]
        · rw [gI_i _ hci]; exact b2 c h (by omega)
      · rw [gI_i _ (by omega)]; exact b3 c hc
    · rintro p ⟨T, rfl, b1, b2, b3⟩
      dsimp only [f_X7_settle_s147]
      unfold f_X7_settle_s147_b
      rw [if_pos (by decide)]
      exact ⟨_, rfl, T, rfl, b1, b2, b3⟩
  obtain ⟨R, r1, T, rfl, r2⟩ := key
  exact ⟨T, r1, r2⟩
theorem mRow {w : Nat} (hw : w < 6) (x : Int32) (S : gSt) : ∃ S', gLoop f_X7_settle_s181 gFuel (x, nI w, 0, S) = some (x, nI w, S') ∧ Fr [48] S S' ∧ (∀ j, j < 3 → S'.1 48 (8 + 4 * w + j) = S.1 51 (3 * w + j)) ∧ ∀ i, (i < 8 + 4 * w ∨ 8 + 4 * w + 3 ≤ i) → S'.1 48 i = S.1 48 i := by
  have key : ∃ R, gLoop f_X7_settle_s181 gFuel (x, nI w, 0, S) = some R ∧ ∃ T, R = (x, nI w, T) ∧ Fr [48] S T ∧ (∀ j, j < 3 → T.1 48 (8 + 4 * w + j) = S.1 51 (3 * w + j)) ∧ ∀ i, (i < 8 + 4 * w ∨ 8 + 4 * w + 3 ≤ i) → T.1 48 i = S.1 48 i := by
    refine gLoop_up (fun i p => ∃ T, p = (x, nI w, nI i, T) ∧ Fr [48] S T ∧ (∀ j, j < i → T.1 48 (8 + 4 * w + j) = S.1 51 (3 * w + j)) ∧ ∀ i, (i < 8 + 4 * w ∨ 8 + 4 * w + 3 ≤ i) → T.1 48 i = S.1 48 i) _ 3 (by omega) ?_ ?_ ⟨S, rfl, Fr_rfl, fun c h => by omega, fun _ _ => rfl⟩
    · rintro i p hi ⟨T, rfl, b1, b2, b3⟩
      dsimp only [f_X7_settle_s181]
      unfold f_X7_settle_s181_b
      rw [if_neg (by rw [n_3, nI_leI (by omega) (by omega)]; omega), mAt, n_3, pk_mul, nI_add, nI_add, gin_t (show 3 * w + i < 18 by omega) (by decide), if_pos rfl, gin_t (show 8 + 4 * w + i < 416 by omega) (by decide), if_pos rfl, gls, nI_clamp (by omega), nI_clamp (by omega), nI_1]
      refine ⟨_, rfl, _, rfl, b1.trans (Fr_gI (by decide)), fun c h => ?_, fun c hc => ?_⟩
      · by_cases hci : c = i
        · rw [hci, gI_s, b1.2 51 (by decide)]
        · rw [gI_i _ (by omega)]; exact b2 c (by omega)
      · rw [gI_i _ (by omega)]; exact b3 c hc
    · rintro p ⟨T, rfl, b1, b2, b3⟩
      dsimp only [f_X7_settle_s181]
      unfold f_X7_settle_s181_b
      rw [if_pos (by decide)]
      exact ⟨_, rfl, T, rfl, b1, b2, b3⟩
  obtain ⟨R, r1, T, rfl, r2⟩ := key
  exact ⟨T, r1, r2⟩
theorem mAllRows {n : Nat} (hn : n ≤ 6) (S : gSt) : ∃ S', gLoop f_X7_settle_s172 gFuel (nI n, 0, S) = some (nI n, S') ∧ Fr [48] S S' ∧ (∀ w j, w < n → j < 3 → S'.1 48 (8 + 4 * w + j) = S.1 51 (3 * w + j)) ∧ (∀ w, w < n → S'.1 48 (11 + 4 * w) = S.1 48 (11 + 4 * w)) ∧ ∀ i, (i < 8 ∨ 32 ≤ i) → S'.1 48 i = S.1 48 i := by
  have key : ∃ R, gLoop f_X7_settle_s172 gFuel (nI n, 0, S) = some R ∧ ∃ T, R = (nI n, T) ∧ Fr [48] S T ∧ (∀ w j, w < n → j < 3 → T.1 48 (8 + 4 * w + j) = S.1 51 (3 * w + j)) ∧ (∀ w, T.1 48 (11 + 4 * w) = S.1 48 (11 + 4 * w)) ∧ ∀ i, (i < 8 ∨ 32 ≤ i) → T.1 48 i = S.1 48 i := by
    refine gLoop_up (fun i p => ∃ T, p = (nI n, nI i, T) ∧ Fr [48] S T ∧ (∀ w j, w < i → j < 3 → T.1 48 (8 + 4 * w + j) = S.1 51 (3 * w + j)) ∧ (∀ w, T.1 48 (11 + 4 * w) = S.1 48 (11 + 4 * w)) ∧ ∀ i, (i < 8 ∨ 32 ≤ i) → T.1 48 i = S.1 48 i) _ n (by omega) ?_ ?_ ⟨S, rfl, Fr_rfl, fun w j h => by omega, fun _ => rfl, fun _ _ => rfl⟩
    · rintro i p hi ⟨T, rfl, b1, b2, b3, b4⟩
      dsimp only [f_X7_settle_s172]
      unfold f_X7_settle_s172_b
      obtain ⟨U, u1, u2, u3, u4⟩ := mRow (show i < 6 by omega) (nI n) T
      rw [if_neg (by rw [nI_leI (by omega) (by omega)]; omega), u1, Option.bind_some]
      refine ⟨_, rfl, U, by rw [nI_1], b1.trans u2, fun w j hw hj => ?_, fun w => ?_, fun c hc => ?_⟩
      · by_cases hwi : w = i
        · rw [hwi, u3 j hj, b1.2 51 (by decide)]
        · rw [u4 _ (by omega)]; exact b2 w j (by omega) hj
      · rw [u4 _ (by omega)]; exact b3 w
      · rw [u4 _ (by omega)]; exact b4 c hc
    · rintro p ⟨T, rfl, b1, b2, b3, b4⟩
      dsimp only [f_X7_settle_s172]
      unfold f_X7_settle_s172_b
      rw [if_pos (by rw [nI_leI (by omega) (by omega)]; omega)]
      exact ⟨_, rfl, T, rfl, b1, b2, b3, b4⟩
  obtain ⟨R, r1, T, rfl, r2, r3, r4, r5⟩ := key
  exact ⟨T, r1, r2, r3, fun w _ => r4 w, r5⟩
theorem mSetAs {S : gSt} {q : Il × Pa} (h : RMn S q) {a b n : Nat} {K M C : Nat → Nat} (hn : n ≤ 6) (h5 : S.1 47 5 = 0) (hv : ∀ i, i < n → S.1 51 (3 * i) = nI (K i) ∧ S.1 51 (3 * i + 1) = nI (M i) ∧ S.1 51 (3 * i + 2) = nI (C i)) : ∃ S', f_X7_settle_j94 (nI a) (nI b) (nI n) S = some (nI n, S') ∧ S'.2 = S.2 ∧ (∀ k, k ≠ 47 → k ≠ 48 → S'.1 k = S.1 k) ∧ (∀ j, j ≠ 3 → j ≠ 8 → S'.1 47 j = S.1 47 j) ∧ S'.1 47 3 = 0 ∧ RMn S' (u_se q.1 a b n K M C, (0, q.2.2)) := by
  obtain ⟨⟨m1, m2, m3, m4, m5, m6⟩, -, -⟩ := h
  unfold f_X7_settle_j94
  have e1 : (1 : Int32).toNatClampNeg = 1 := rfl
  have e2 : (2 : Int32).toNatClampNeg = 2 := rfl
  have e6 : (6 : Int32).toNatClampNeg = 6 := rfl
  have e5 : (5 : Int32).toNatClampNeg = 5 := rfl
  rw [gls, gI_i _ (show 5 ≠ 3 by decide), h5, if_pos rfl, if_pos (show gin 1 416 = true from rfl), gls, if_pos (show gin 2 416 = true from rfl), gls, if_pos (show gin 6 416 = true from rfl), gls, if_pos (show gin 5 416 = true from rfl), gls, e1, e2, e5, e6]
  obtain ⟨G, hG⟩ : ∃ G, G = gI (gI (gI (gI (gI S 47 3 0) 48 1 (nI a)) 48 2 (nI b)) 48 6 0) 48 5 (nI n) := ⟨_, rfl⟩
  rw [← hG]
  obtain ⟨Z, z1, z2, z3, z4⟩ := mZero (nI n) G
  obtain ⟨A, a1, a2, a3, a4, a5⟩ := mAllRows hn Z
  rw [z1, Option.bind_some]
  show ∃ S', ((gLoop f_X7_settle_s172 gFuel (nI n, 0, Z)).bind _) = _ ∧ _
  rw [a1, Option.bind_some]
  have fA : ∀ k, k ≠ 48 → A.1 k = G.1 k := fun k hk => by rw [a2.2 k (by simp [hk]), z2.2 k (by simp [hk])]
  have fG : ∀ k, k ≠ 47 → k ≠ 48 → G.1 k = S.1 k := fun k x y => by rw [hG, gI_k _ y, gI_k _ y, gI_k _ y, gI_k _ y, gI_k _ x]
  have G47 : G.1 47 = (gI S 47 3 0).1 47 := by rw [hG, gI_k _ (by decide), gI_k _ (by decide), gI_k _ (by decide), gI_k _ (by decide)]
  have A8 : ∀ i, i < 8 → A.1 48 i = G.1 48 i := fun i hi => by rw [a5 i (by omega), z4 i hi]
  have G8 : ∀ i, i ≠ 1 → i ≠ 2 → i ≠ 5 → i ≠ 6 → G.1 48 i = S.1 48 i := fun i x y z t => by rw [hG, gI_i _ z, gI_i _ t, gI_i _ y, gI_i _ x, gI_k _ (by decide)]
  have Z51 : Z.1 51 = S.1 51 := by rw [z2.2 51 (by decide), fG 51 (by decide) (by decide)]
  refine ⟨gI A 47 8 0, rfl, a2.1.trans (z2.1.trans (by rw [hG]; rfl)), fun k x y => ?_, fun j x y => ?_, ?_, ⟨fun i hi => ?_, ?_, ?_, ?_, fun w hw => ?_, fun i hi => ?_⟩, fun k hk => absurd hk (Nat.not_lt_zero _), by rw [gI_s]; rfl⟩
  · rw [gI_k _ x, fA k y, fG k x y]
  · rw [gI_i _ y, fA 47 (by decide), G47, gI_i _ x]
  · rw [gI_i _ (by decide), fA 47 (by decide), G47, gI_s]
  · rw [gI_k _ (show 48 ≠ 47 by decide), A8 i (by omega)]
    show G.1 48 i = nI (if i = 1 then a else if i = 2 then b else i_set q.1 i)
    by_cases i1 : i = 1
    · rw [if_pos i1, i1, hG, gI_i _ (by decide), gI_i _ (by decide), gI_i _ (by decide), gI_s]
    · rw [if_neg i1]
      by_cases i2 : i = 2
      · rw [if_pos i2, i2, hG, gI_i _ (by decide), gI_i _ (by decide), gI_s]
      · rw [if_neg i2, G8 i i1 i2 (by omega) (by omega)]; exact m1 i hi
  · rw [gI_k _ (show 48 ≠ 47 by decide), A8 5 (by decide), hG, gI_s]; rfl
  · rw [gI_k _ (show 48 ≠ 47 by decide), A8 6 (by decide), hG, gI_i _ (by decide), gI_s]; rfl
  · rw [gI_k _ (show 48 ≠ 47 by decide), A8 7 (by decide), G8 7 (by decide) (by decide) (by decide) (by decide)]; exact m4
  · have hw : w < n := hw
    obtain ⟨v1, v2, v3⟩ := hv w hw
    have t0 := a3 w 0 hw (by decide)
    have t1 := a3 w 1 hw (by decide)
    have t2 := a3 w 2 hw (by decide)
    rw [Z51] at t0 t1 t2
    rw [gI_k _ (show 48 ≠ 47 by decide)]
    refine ⟨?_, ?_, ?_, ?_⟩
    · exact t0.trans v1
    · rw [show 9 + 4 * w = 8 + 4 * w + 1 by omega]; exact t1.trans v2
    · rw [show 10 + 4 * w = 8 + 4 * w + 2 by omega]; exact t2.trans v3
    · rw [a4 w hw, z3 _ (by omega) (by omega)]; rfl
  · rw [gI_k _ (show 48 ≠ 47 by decide), a5 _ (by omega), z3 _ (by omega) (by omega)]; rfl
theorem op_settle : Op f_X6_settle f_X7_settle := by
  intro S hR
  obtain ⟨⟨q, h1, h2, h3⟩, hK, ⟨len, l1, l2, l3, l4⟩, hS⟩ := hR
  obtain ⟨L, hL⟩ : ∃ L : Nat → Nat, L = fun i => (S.1 28 i).toNatClampNeg := ⟨_, rfl⟩
  have lL : ∀ i, i < len → 32 ≤ L i ∧ L i ≤ 126 ∧ S.1 28 i = nI (L i) ∧ S.1 50 i = nI (L i) := fun i hi => by
    obtain ⟨v, v1, v2, v3, v4⟩ := l4 i hi
    have : L i = v := by rw [hL]; show (S.1 28 i).toNatClampNeg = v; rw [v3, nI_clamp (by omega)]
    rw [this]
    exact ⟨v1, v2, v3, v4⟩
  have hTP : TP L len := ⟨l1, fun i hi => ⟨(lL i hi).1, (lL i hi).2.1⟩⟩
  have hC : TC L len (gI S 27 5 0) 0 := ⟨Nat.zero_le _, by rw [gI_i _ (by decide)]; exact l2, gI_s _ _ _ _, fun i hi => by rw [gI_k _ (by decide)]; exact (lL i hi).2.2.1⟩
  have hM : ∀ S1 : gSt, S1.1 47 = S.1 47 → S1.1 50 = S.1 50 → TM L len (gI (gI S1 47 4 0) 47 5 0) 0 0 := fun S1 a b => ⟨Nat.zero_le _, by rw [gI_i _ (by decide), gI_i _ (by decide), a]; exact l3, by rw [gI_i _ (by decide), gI_s]; rfl, gI_s _ _ _ _, fun i hi => by rw [gI_k _ (by decide), gI_k _ (by decide), b]; exact (lL i hi).2.2.2⟩
  rcases pa_sim hTP with ⟨r, r1, r2, r3⟩ | ⟨a, b, n, K, M, C, a1, b1, n1, n2, n3, n4, n5⟩
  · obtain ⟨A, c1, c2⟩ := r2 S hC
    obtain ⟨S1, hS1⟩ : ∃ S1, S1 = gI A 27 4 0 := ⟨_, rfl⟩
    have k1 : ∀ k, k ≠ 27 → k ≠ 29 → k ≠ 30 → k ≠ 31 → S1.1 k = S.1 k := fun k x y z t => by rw [hS1, gI_k _ x, c2.2.1 k x y z t]
    obtain ⟨x1, x2, x3, T, t1, t2, t3, t4⟩ := r3 S1 (hM S1 (k1 47 (by decide) (by decide) (by decide) (by decide)) (k1 50 (by decide) (by decide) (by decide) (by decide)))
    have hneg : -20 - nI r ≤ 0 := by
      rw [le_toInt, z_toInt, Int32.toInt_sub, nI_toInt (by omega), show (-20 : Int32).toInt = -20 from rfl, Int.bmod_eq_of_le (by omega) (by omega)]
      omega
    have e : ∀ k, k ≠ 27 → k ≠ 29 → k ≠ 30 → k ≠ 31 → k ≠ 47 → k ≠ 51 → (gI T 47 3 0).1 k = S.1 k := fun k x y z t u v => by rw [gI_k _ u, t4.2.1 k u v, k1 k x y z t]
    have e47 : ∀ j, j ≠ 3 → j ≠ 4 → j ≠ 5 → (gI T 47 3 0).1 47 j = S.1 47 j := fun j x y z => by rw [gI_i _ x, t4.2.2 j y z, k1 47 (by decide) (by decide) (by decide) (by decide)]
    have e2 : (gI T 47 3 0).2 = S.2 := by
      show T.2 = S.2
      rw [t4.1, hS1]; exact c2.1
    refine ⟨-20 - nI r, S1, gI T 47 3 0, ?_, ?_, ⟨q, RN_eq (fun k x y => e k (by omega) (by omega) (by omega) (by omega) (by omega) (by omega)) (e47 8 (by decide) (by decide) (by decide)) (e 48 (by decide) (by decide) (by decide) (by decide) (by decide) (by decide)) (e 52 (by decide) (by decide) (by decide) (by decide) (by decide) (by decide)) ⟨h1, h2, h3⟩⟩, RK_eq (fun k x y => e k (by omega) (by omega) (by omega) (by omega) (by omega) (by omega)) (by rw [e 0 (by decide) (by decide) (by decide) (by decide) (by decide) (by decide)]) (e47 13 (by decide) (by decide) (by decide)) (e47 14 (by decide) (by decide) (by decide)) (e 56 (by decide) (by decide) (by decide) (by decide) (by decide) (by decide)) hK, ⟨0, Nat.zero_le _, ?_, ?_, fun i hi => absurd hi (Nat.not_lt_zero _)⟩, RS_eq (fun k x y => e k (by omega) (by omega) (by omega) (by omega) (by omega) (by omega)) (e 57 (by decide) (by decide) (by decide) (by decide) (by decide) (by decide)) (e 58 (by decide) (by decide) (by decide) (by decide) (by decide) (by decide)) (fun k _ _ => by rw [e2]) (by rw [e2]) hS⟩
    · unfold f_X6_settle
      rw [c1, g2s, gls, if_pos hneg, hS1]
    · rw [t1]
      unfold f_X7_settle_j94
      rw [gls, gI_i _ (show 5 ≠ 3 by decide), t2, if_neg one0, gI_i _ (show 4 ≠ 3 by decide), t3]
    · rw [gI_k _ (by decide), t4.2.1 27 (by decide) (by decide), hS1, gI_s]; rfl
    · rw [gI_s]; rfl
  · obtain ⟨A, c1, c2, c3, c4, c5, c6⟩ := n4 S hC
    obtain ⟨S0, hS0⟩ : ∃ S0, S0 = gI A 27 4 0 := ⟨_, rfl⟩
    have k0 : ∀ k, k ≠ 27 → k ≠ 29 → k ≠ 30 → k ≠ 31 → S0.1 k = S.1 k := fun k x y z t => by rw [hS0, gI_k _ x, c2.2.1 k x y z t]
    have h10 : RC S0 1 q := RC_eq (fun k x y => k0 k (by omega) (by omega) (by omega) (by omega)) h1
    obtain ⟨S1, d1, d2, d3⟩ := cSetAs h10 (a := a) (b := b) (n := n) (K := K) (M := M) (C := C) n2 (by rw [hS0, gI_i _ (by decide)]; exact c3) (by rw [hS0, gI_i _ (by decide)]; exact c4) (by rw [hS0, gI_i _ (by decide)]; exact c5) (fun i hi => by rw [hS0, gI_k _ (by decide), gI_k _ (by decide), gI_k _ (by decide)]; exact c6 i hi)
    have k1 : ∀ k, (k = 0 ∨ 8 < k) → k ≠ 27 → k ≠ 29 → k ≠ 30 → k ≠ 31 → S1.1 k = S.1 k := fun k w x y z t => by
      rw [d2.2 k (by simp only [List.mem_cons, List.not_mem_nil, or_false]; omega), k0 k x y z t]
    obtain ⟨T, t1, t2, t3, t4⟩ := n5 S1 (hM S1 (k1 47 (by decide) (by decide) (by decide) (by decide) (by decide)) (k1 50 (by decide) (by decide) (by decide) (by decide) (by decide)))
    have hT : RMn T q := by
      refine ⟨?_, ?_, ?_⟩
      · rw [t3.2.1 48 (by decide) (by decide), k1 48 (by decide) (by decide) (by decide) (by decide) (by decide)]; exact h2.1
      · rw [t3.2.1 52 (by decide) (by decide), k1 52 (by decide) (by decide) (by decide) (by decide) (by decide)]; exact h2.2.1
      · rw [t3.2.2 8 (by decide) (by decide), k1 47 (by decide) (by decide) (by decide) (by decide) (by decide)]; exact h2.2.2
    obtain ⟨S2, s1, s2, s3, s4, s5, s6⟩ := mSetAs hT (a := a) (b := b) (n := n) (K := K) (M := M) (C := C) n2 t2 t4
    have e : ∀ k, (k = 0 ∨ 8 < k) → k ≠ 27 → k ≠ 29 → k ≠ 30 → k ≠ 31 → k ≠ 47 → k ≠ 48 → k ≠ 51 → S2.1 k = S.1 k := fun k w x y z t u v o => by rw [s3 k u v, t3.2.1 k u o, k1 k w x y z t]
    have e1 : ∀ k, 1 ≤ k → k ≤ 13 → S2.1 k = S1.1 k := fun k x y => by rw [s3 k (by omega) (by omega), t3.2.1 k (by omega) (by omega)]
    have e47 : ∀ j, j ≠ 3 → j ≠ 8 → j ≠ 4 → j ≠ 5 → S2.1 47 j = S.1 47 j := fun j x y z t => by rw [s4 j x y, t3.2.2 j z t, k1 47 (by decide) (by decide) (by decide) (by decide) (by decide)]
    have e2 : S2.2 = S.2 := by rw [s2, t3.1, d2.1, hS0]; exact c2.1
    refine ⟨nI n, S1, S2, ?_, ?_, ⟨_, RC_eq (fun k x y => e1 k x (by omega)) d3, s6, WF_se h3 a1 b1 n2 n3⟩, RK_eq (fun k x y => e k (by omega) (by omega) (by omega) (by omega) (by omega) (by omega) (by omega) (by omega)) (by rw [e 0 (by decide) (by decide) (by decide) (by decide) (by decide) (by decide) (by decide) (by decide)]) (e47 13 (by decide) (by decide) (by decide) (by decide)) (e47 14 (by decide) (by decide) (by decide) (by decide)) (e 56 (by decide) (by decide) (by decide) (by decide) (by decide) (by decide) (by decide) (by decide)) hK, ⟨0, Nat.zero_le _, ?_, s5, fun i hi => absurd hi (Nat.not_lt_zero _)⟩, RS_eq (fun k x y => e k (by omega) (by omega) (by omega) (by omega) (by omega) (by omega) (by omega) (by omega)) (e 57 (by decide) (by decide) (by decide) (by decide) (by decide) (by decide) (by decide) (by decide)) (e 58 (by decide) (by decide) (by decide) (by decide) (by decide) (by decide) (by decide) (by decide)) (fun k _ _ => by rw [e2]) (by rw [e2]) hS⟩
    · unfold f_X6_settle
      rw [c1, g2s, gls, if_neg (nI_nle n1 (by omega)), ← hS0, d1]; rfl
    · rw [t1, s1]
    · rw [s3 27 (by decide) (by decide), t3.2.1 27 (by decide) (by decide), d2.2 27 (by decide), hS0, gI_s]; rfl
