/-- sheets changed, all else as it was -/
theorem Rel_sh {S S' : gSt} (h : Rel S) (hf : ∀ k, ¬ (33 ≤ k ∧ k ≤ 36) → k ≠ 57 → k ≠ 58 → S'.1 k = S.1 k) (hs : RS S') : Rel S' := by
  obtain ⟨⟨q, hN⟩, hK, hT, -⟩ := h
  have e : ∀ k, ¬ (33 ≤ k ∧ k ≤ 36) ∧ k ≠ 57 ∧ k ≠ 58 → S'.1 k = S.1 k := fun k z => hf k z.1 z.2.1 z.2.2
  refine ⟨⟨q, RN_eq (fun k a b => e k (by omega)) (by rw [e 47 (by decide)]) (e 48 (by decide)) (e 52 (by decide)) hN⟩, RK_eq (fun k a b => e k (by omega)) (by rw [e 0 (by decide)]) (by rw [e 47 (by decide)]) (by rw [e 47 (by decide)]) (e 56 (by decide)) hK, RT_eq (by rw [e 27 (by decide)]) (by rw [e 47 (by decide)]) (e 28 (by decide)) (e 50 (by decide)) hT, hs⟩
theorem op_drop (p : Int32) : Op (f_X6_drop p) (f_X7_drop p) := by
  intro S hR
  have hR0 := hR
  obtain ⟨-, -, -, hS⟩ := hR
  unfold f_X6_drop
  rw [cSheet, g2s]
  cases hg : gin p 4 with
  | false =>
    refine ⟨-1, S, S, rfl, ?_, hR0⟩
    unfold f_X7_drop
    rw [mSheet, g2s, hg]; rfl
  | true =>
    obtain ⟨ep, hp⟩ := gin_clamp (by decide) hg
    generalize p.toNatClampNeg = j at *
    subst ep
    rw [bI_t, if_neg one0, if_pos rfl]
    unfold f_X2_isNothing
    rcases (hS j hp).1 with ⟨l1, l2⟩ | ⟨l, z, hl, hz, l1, l2, l3, l4⟩
    · rw [l1, if_neg (by decide), g2s, if_neg one0]
      refine ⟨-11, S, S, rfl, ?_, hR0⟩
      unfold f_X7_drop
      rw [mSheet, g2s, hg, bI_t, if_neg one0, if_pos rfl, nI_clamp (by omega), l2, if_neg (by decide)]
    · have h0 : (0 : Int32) ≤ nI l := by rw [n_0, nI_leI (by decide) (by omega)]; omega
      rw [l1, if_pos h0, g2s, if_pos rfl, if_pos rfl]
      unfold f_X2_end
      rw [gls, gls, gls, g2s, l3]
      obtain ⟨S1, hS1⟩ : ∃ S1, S1 = gI (gI S (33 + j) 1 (-1)) (33 + j) 2 0 := ⟨_, rfl⟩
      rw [← hS1]
      have f1 : ∀ k, k ≠ 33 + j → S1.1 k = S.1 k := fun k a => by rw [hS1, gI_k _ a, gI_k _ a]
      refine ⟨nI z, S1, gI S1 57 j (-1), rfl, ?_, ?_⟩
      · unfold f_X7_drop
        rw [mSheet, g2s, hg, bI_t, if_neg one0, if_pos rfl, nI_clamp (by omega), f1 57 (by omega), l2, if_pos h0, if_pos rfl, gls, if_pos rfl, gI_k _ (show (58 : Nat) ≠ 57 by decide), f1 58 (by omega), l4]
      · refine Rel_sh hR0 (fun k a b c => by rw [gI_k _ b, f1 k (by omega)]) (fun i hi => ?_)
        have e2 : (gI S1 57 j (-1)).2 = S.2 := by rw [hS1]; rfl
        refine ⟨?_, fun k hk => by rw [e2]; exact (hS i hi).2 k hk⟩
        by_cases hij : i = j
        · left
          rw [hij]
          exact ⟨by rw [gI_k _ (by omega), hS1, gI_i _ (by decide), gI_s], by rw [gI_s]⟩
        · rw [gI_i _ hij, gI_k _ (show 33 + i ≠ 57 by omega), gI_k _ (show (58 : Nat) ≠ 57 by decide), f1 57 (by omega), f1 58 (by omega), f1 (33 + i) (by omega)]
          exact (hS i hi).1
