theorem op_type (p : Int32) : Op (f_X6_type p) (f_X7_type p) := by
  intro S hR
  have hR0 := hR
  obtain ⟨⟨q, hN⟩, hK, ⟨len, l1, l2, l3, l4⟩, hS⟩ := hR
  unfold f_X6_type
  rw [n_32, n_126, rng2 p (by decide) (by decide)]
  cases hg : rng p (32 : Nat) (126 : Nat) with
  | false =>
    refine ⟨-1, S, S, rfl, ?_, hR0⟩
    unfold f_X7_type
    rw [in_lit p (a := (32 : Nat)) (b := (126 : Nat)) S rfl rfl, g2s, hg]
    rfl
  | true =>
    obtain ⟨ep, p1, p2⟩ := rngN (by decide) hg
    rw [if_pos rfl]
    unfold f_X4_put
    rw [l2]
    by_cases h60 : len < 60
    · rw [if_pos (by rw [n_60]; exact (nI_ltI (by omega) (by decide)).mpr h60), gin_t h60 (by decide), if_pos rfl, gls, gls, nI_clamp (by omega), gI_k _ (show (27 : Nat) ≠ 28 by decide), l2, nI_1, g2s, if_neg one0, gI_s]
      obtain ⟨S1, hS1⟩ : ∃ S1, S1 = gI (gI S 28 len p) 27 4 (nI (len + 1)) := ⟨_, rfl⟩
      rw [← hS1]
      have f1 : ∀ k, k ≠ 27 → k ≠ 28 → S1.1 k = S.1 k := fun k a b => by rw [hS1, gI_k _ a, gI_k _ b]
      have e3 : S1.1 47 3 = nI len := by rw [f1 47 (by decide) (by decide)]; exact l3
      refine ⟨nI (len + 1), S1, gI (gI S1 50 len p) 47 3 (nI (len + 1)), rfl, ?_, ?_⟩
      · unfold f_X7_type
        rw [in_lit p (a := (32 : Nat)) (b := (126 : Nat)) S1 rfl rfl, g2s, hg, bI_t, if_neg one0, e3, n_60, ieq (by omega) (by decide), if_neg (by omega), gin_t h60 (by decide), if_pos rfl, gls, gls, nI_clamp (by omega), gI_k _ (show (47 : Nat) ≠ 50 by decide), e3, nI_1, gI_s]
      · have f2 : ∀ k, k ≠ 27 → k ≠ 28 → k ≠ 50 → k ≠ 47 → (gI (gI S1 50 len p) 47 3 (nI (len + 1))).1 k = S.1 k := fun k a b c d => by rw [gI_k _ d, gI_k _ c, f1 k a b]
        have f3 : ∀ j, j ≠ 3 → (gI (gI S1 50 len p) 47 3 (nI (len + 1))).1 47 j = S.1 47 j := fun j hj => by rw [gI_i _ hj, gI_k _ (by decide), f1 47 (by decide) (by decide)]
        have f4 : (gI (gI S1 50 len p) 47 3 (nI (len + 1))).2 = S.2 := by rw [hS1]; rfl
        refine ⟨⟨q, RN_eq (fun k a b => f2 k (by omega) (by omega) (by omega) (by omega)) (f3 8 (by decide)) (f2 48 (by decide) (by decide) (by decide) (by decide)) (f2 52 (by decide) (by decide) (by decide) (by decide)) hN⟩, RK_eq (fun k a b => f2 k (by omega) (by omega) (by omega) (by omega)) (by rw [f2 0 (by decide) (by decide) (by decide) (by decide)]) (f3 13 (by decide)) (f3 14 (by decide)) (f2 56 (by decide) (by decide) (by decide) (by decide)) hK, ⟨len + 1, by omega, ?_, ?_, fun i hi => ?_⟩, RS_eq (fun k a b => f2 k (by omega) (by omega) (by omega) (by omega)) (f2 57 (by decide) (by decide) (by decide) (by decide)) (f2 58 (by decide) (by decide) (by decide) (by decide)) (fun k _ _ => by rw [f4]) (by rw [f4]) hS⟩
        · rw [gI_k _ (by decide), gI_k _ (by decide), hS1, gI_s]
        · rw [gI_s]
        · rw [gI_k _ (by decide), gI_k _ (by decide), gI_k _ (by decide), hS1, gI_k _ (by decide)]
          by_cases hil : i = len
          · rw [hil]
            refine ⟨p.toNatClampNeg, p1, p2, ?_, ?_⟩
            · rw [gI_s]; exact ep
            · rw [gI_s]; exact ep
          · obtain ⟨v, v1, v2, v3, v4⟩ := l4 i (by omega)
            refine ⟨v, v1, v2, ?_, ?_⟩
            · rw [gI_i _ hil]; exact v3
            · rw [gI_i _ hil, gI_k _ (by decide), gI_k _ (by decide)]; exact v4
    · have e60 : len = 60 := by omega
      refine ⟨-3, S, S, ?_, ?_, hR0⟩
      · rw [if_neg (by rw [n_60]; exact fun z => h60 ((nI_ltI (by omega) (by decide)).mp z)), g2s]; rfl
      · unfold f_X7_type
        rw [in_lit p (a := (32 : Nat)) (b := (126 : Nat)) S rfl rfl, g2s, hg, bI_t, if_neg one0, l3, n_60, ieq (by omega) (by decide), if_pos e60]
