theorem mUndo {S : gSt} {q : Il × Pa} (h1 : RMn S q) (h2 : WF q) (hm : 1 ≤ q.2.1) : ∃ S', f_X7_undo S = some (nI (q.2.1 - 1), S') ∧ FrM S S' ∧ RMn S' (u_un q.1 (q.2.2 (q.2.1 - 1)), (q.2.1 - 1, q.2.2)) := by
  obtain ⟨hM, hP, h8⟩ := h1
  have hm8 := h2.2.1
  have h6 := h2.1.1
  obtain ⟨m, hmm⟩ : ∃ m, m = q.2.1 - 1 := ⟨_, rfl⟩
  rw [← hmm]
  have hq : q.2.1 = m + 1 := by omega
  have e6 : (6 : Int32).toNatClampNeg = 6 := rfl
  have g6 : gin 6 416 = true := rfl
  have e7 : (7 : Int32).toNatClampNeg = 7 := rfl
  have g7 : gin 7 416 = true := rfl
  unfold f_X7_undo
  have key : ∀ S9 : gSt, ∃ R, gLoop f_X7_undo_s64 gFuel (nI (416 * m), 8, S9) = some R ∧ Fr [48] S9 R ∧ (∀ i, i < 8 → R.1 48 i = S9.1 48 i) ∧ ∀ i, 8 ≤ i → i < 416 → R.1 48 i = S9.1 52 (416 * m + i) := by
    intro S9
    refine gLoop_up (fun i p => ∃ T, p = (nI (416 * m), nI (8 + i), T) ∧ Fr [48] S9 T ∧ (∀ c, c < 8 → T.1 48 c = S9.1 48 c) ∧ ∀ c, 8 ≤ c → c < 8 + i → T.1 48 c = S9.1 52 (416 * m + c)) _ 408 (by omega) ?_ ?_ ⟨S9, rfl, Fr_rfl, fun _ _ => rfl, fun c a b => by omega⟩
    · rintro i p hi ⟨T, rfl, hT, ho, hc⟩
      dsimp only [f_X7_undo_s64]
      unfold f_X7_undo_s64_b
      rw [if_neg (by rw [n_416, nI_leI (by omega) (by omega)]; omega), nI_add, gin_t (by omega) (by decide), if_pos rfl, gin_t (by omega) (by decide), if_pos rfl, gls, nI_clamp (by omega), nI_clamp (by omega), nI_1, hT.2 52 (by decide)]
      refine ⟨_, rfl, _, rfl, hT.trans (Fr_gI (by decide)), fun c hc2 => ?_, fun c hc2 hc3 => ?_⟩
      · rw [gI_i _ (by omega)]; exact ho c hc2
      · by_cases hci : c = 8 + i
        · rw [hci, gI_s]
        · rw [gI_i _ hci]; exact hc c hc2 (by omega)
    · rintro p ⟨T, rfl, hT, ho, hc⟩
      dsimp only [f_X7_undo_s64]
      unfold f_X7_undo_s64_b
      rw [if_pos (by rw [n_416, nI_leI (by omega) (by omega)]; omega)]
      exact ⟨_, rfl, hT, ho, fun i a b => hc i a (by omega)⟩
  obtain ⟨R, hR, hF, r1, r2⟩ := key (gI (gI (gI S 47 8 (nI m)) 48 6 (S.1 52 (416 * m + 6))) 48 7 (S.1 52 (416 * m + 7)))
  have f1 : FrM S (gI (gI (gI S 47 8 (nI m)) 48 6 (S.1 52 (416 * m + 6))) 48 7 (S.1 52 (416 * m + 7))) := FrM_trans (FrM_trans (FrM_gI (by decide) (Or.inr (Or.inl rfl))) (FrM_gI (by decide) (Or.inl (by decide)))) (FrM_gI (by decide) (Or.inl (by decide)))
  have f2 : FrM (gI (gI (gI S 47 8 (nI m)) 48 6 (S.1 52 (416 * m + 6))) 48 7 (S.1 52 (416 * m + 7))) R := by
    refine ⟨hF.1, fun k hk => hF.2 k (fun z => hk ?_), fun j _ _ _ => by rw [hF.2 47 (by decide)]⟩
    simp only [List.mem_cons, List.not_mem_nil, or_false] at z
    rw [z]; decide
  have R52 : R.1 52 = S.1 52 := by rw [hF.2 52 (by decide), gI_k _ (by decide), gI_k _ (by decide), gI_k _ (by decide)]
  have R47 : R.1 47 8 = nI m := by rw [hF.2 47 (by decide), gI_k _ (by decide), gI_k _ (by decide), gI_s]
  have R6 : R.1 48 6 = S.1 52 (416 * m + 6) := by rw [r1 6 (by decide), gI_i _ (by decide), gI_s]
  have R7 : R.1 48 7 = S.1 52 (416 * m + 7) := by rw [r1 7 (by decide), gI_s]
  have Rl : ∀ i, i < 6 → R.1 48 i = S.1 48 i := fun i hi => by rw [r1 i (by omega), gI_i _ (by omega), gI_i _ (by omega), gI_k _ (by decide)]
  have Rh : ∀ i, 8 ≤ i → i < 416 → R.1 48 i = S.1 52 (416 * m + i) := fun i a b => by rw [r2 i a b, gI_k _ (by decide), gI_k _ (by decide), gI_k _ (by decide)]
  obtain ⟨s1, s2, s3, s4⟩ := hP m (by omega)
  refine ⟨R, ?_, FrM_trans f1 f2, ⟨?_, ?_, R47⟩⟩
  · rw [h8, hq, n_0, ieq (by omega) (by decide), if_neg (by omega), n_1, nI_sub_le (by omega), show m + 1 - 1 = m by omega, gls, gI_s, gls, n_416, pk_mul, n_6, n_7, nI_add, nI_add, gin_t (by omega) (by decide), if_pos rfl, gin_t (by decide) (by decide), if_pos rfl, gls, nI_clamp (by omega), nI_clamp (by omega), gI_k _ (show (52 : Nat) ≠ 47 by decide), gin_t (by omega) (by decide), if_pos rfl, gin_t (by decide) (by decide), if_pos rfl, gls, nI_clamp (by omega), nI_clamp (by omega), gI_k _ (show (52 : Nat) ≠ 48 by decide), gI_k _ (show (52 : Nat) ≠ 47 by decide), hR, Option.bind_some]
    exact congrArg (fun z => some (z, R)) R47
  · obtain ⟨m1, m2, m3, m4, m5, m6⟩ := hM
    refine ⟨fun i hi => ?_, ?_, ?_, ?_, fun w hw => ?_, fun i hi => ?_⟩
    · rw [Rl i (by omega)]; exact m1 i hi
    · rw [Rl 5 (by decide)]; exact m2
    · rw [R6]; exact s1
    · rw [R7]; exact s2
    · have hw : w < i_n q.1 := hw
      rw [Rh _ (by omega) (by omega), Rh _ (by omega) (by omega), Rh _ (by omega) (by omega), Rh _ (by omega) (by omega)]
      exact s3 w hw
    · rw [Rh _ (by omega) (by omega)]; exact s4 i hi
  · rw [R52]
    intro k hk
    have hk : k < m := hk
    exact hP k (by omega)
theorem op_undo : Op f_X6_undo f_X7_undo := by
  refine op_of (fun q => if 1 ≤ q.2.1 then nI (q.2.1 - 1) else -4) (fun q => if 1 ≤ q.2.1 then (u_un q.1 (q.2.2 (q.2.1 - 1)), (q.2.1 - 1, q.2.2)) else q) ?_ ?_ ?_
  · intro q hq
    by_cases h : 1 ≤ q.2.1
    · simp only [if_pos h]
      have h8 := hq.2.1
      have hs := hq.2.2 (q.2.1 - 1) (by omega)
      refine ⟨⟨hq.1.1, hs.1, hs.2.1, hq.1.2.2.2.1, fun w hw => ?_, hs.2.2.2⟩, ?_, fun k hk => ?_⟩
      · have := hq.1.2.2.2.2.1 w hw
        exact ⟨this.1, this.2.1, this.2.2.1, hs.2.2.1 w hw⟩
      · show q.2.1 - 1 ≤ 8
        omega
      · have hk : k < q.2.1 - 1 := hk
        exact hq.2.2 k (by omega)
    · simp only [if_neg h]; exact hq
  · intro S q h1 h2
    have h8 := h2.2.1
    have hk : S.1 8 6 = nI q.2.1 := h1.2.1
    unfold f_X6_undo
    rw [hk, n_1, ile (by decide) (by omega)]
    by_cases h : 1 ≤ q.2.1
    · simp only [if_pos h]
      obtain ⟨S', a, b, c, d⟩ := cUndo h1 h2 h
      rw [a, Option.bind_some, d]
      exact ⟨S', rfl, b, c⟩
    · simp only [if_neg h]
      exact ⟨S, rfl, Fr_rfl, h1⟩
  · intro S q h1 h2
    have h8 := h2.2.1
    by_cases h : 1 ≤ q.2.1
    · simp only [if_pos h]
      exact mUndo h1 h2 h
    · simp only [if_neg h]
      unfold f_X7_undo
      rw [h1.2.2, if_pos (by rw [show q.2.1 = 0 by omega]; rfl)]
      exact ⟨S, rfl, FrM_rfl, h1⟩
