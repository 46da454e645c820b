theorem op_sheet (p l z : Int32) : Op (f_X6_sheet p l z) (f_X7_sheet p l z) := by
  intro S hR
  have hR0 := hR
  obtain ⟨-, -, -, hS⟩ := hR
  have hl2 : ∀ {α : Type} (a b : α), (if l < 0 then a else if (3 : Int32) < l then a else b) = if gin l 4 then b else a := by
    intro α a b
    rw [n_0, n_3, rng2b l (by decide) (by decide), gin_rng]
    rfl
  unfold f_X6_sheet
  rw [cSheet, g2s, hl2]
  have hm : ∀ T : gSt, f_X7_sheet p l z T = f_X7_sheet p l z T := fun _ => rfl
  cases hg : gin p 4 with
  | false =>
    refine ⟨-1, S, S, rfl, ?_, hR0⟩
    unfold f_X7_sheet
    rw [mSheet, g2s, hg]; rfl
  | true =>
    rw [bI_t, if_neg one0]
    cases hl : gin l 4 with
    | false =>
      refine ⟨-1, S, S, rfl, ?_, hR0⟩
      unfold f_X7_sheet
      rw [mSheet, g2s, hg, bI_t, if_neg one0, mLane, g2s, hl]; rfl
    | true =>
      rw [if_pos rfl]
      by_cases hz : z ≤ 24
      · rw [if_pos hz]
        by_cases hz0 : 0 ≤ z
        · rw [if_pos hz0, if_pos rfl]
          obtain ⟨ep, hp⟩ := gin_clamp (by decide) hg
          obtain ⟨el, hl3⟩ := gin_clamp (by decide) hl
          obtain ⟨ez, hz3⟩ := nat_of_nonneg hz0
          generalize p.toNatClampNeg = j at *
          generalize l.toNatClampNeg = ll at *
          generalize z.toNatClampNeg = zz at *
          subst ep el ez
          have hz24 : zz ≤ 24 := by rw [n_24, nI_leI (by omega) (by decide)] at hz; exact hz
          unfold f_X2_begin
          rw [gls, gls]
          obtain ⟨S1, a1, a2, a3, a4⟩ := cFill j 0 (gI (gI S (33 + j) 1 (nI ll)) (33 + j) 2 (nI zz))
          rw [a1, Option.bind_some, Option.bind_some]
          have f1 : ∀ k, k ≠ 33 + j → S1.1 k = S.1 k := fun k a => by rw [a2, gI_k _ a, gI_k _ a]
          obtain ⟨S2, b1, b2, b3, b4, b5⟩ := mFillS (z := zz) hp (gI (gI S1 57 j (nI ll)) 58 j (nI zz))
          refine ⟨nI zz, S1, S2, rfl, ?_, ?_⟩
          · unfold f_X7_sheet
            rw [mSheet, g2s, hg, bI_t, if_neg one0, mLane, g2s, hl, bI_t, if_neg one0, if_pos hz, if_pos hz0, if_pos rfl, gls, if_pos rfl, gls, nI_clamp (by omega), b1, Option.bind_some]
          · refine Rel_sh hR0 (fun k a b c => by rw [b2, gI_k _ c, gI_k _ b, f1 k (by omega)]) (fun i hi => ?_)
            constructor
            · by_cases hij : i = j
              · right
                rw [hij, b2]
                refine ⟨ll, zz, hl3, hz24, ?_, ?_, ?_, ?_⟩
                · rw [gI_k _ (by omega), gI_k _ (by omega), a2, gI_i _ (by decide), gI_s]
                · rw [gI_k _ (by decide), gI_s]
                · rw [gI_k _ (by omega), gI_k _ (by omega), a2, gI_s]
                · rw [gI_s]
              · rw [b2, gI_k _ (show 33 + i ≠ 58 by omega), gI_k _ (show 33 + i ≠ 57 by omega), f1 (33 + i) (by omega), gI_k _ (show (57 : Nat) ≠ 58 by decide), gI_i _ hij, f1 57 (by omega), gI_i _ hij, gI_k _ (show (58 : Nat) ≠ 57 by decide), f1 58 (by omega)]
                exact (hS i hi).1
            · intro k hk
              by_cases hij : i = j
              · rw [hij, b3 _ (by omega), b4 k hk]
                exact a4 k hk
              · rw [b3 _ (by omega), b5 _ (by omega)]
                show S1.2 (37 + i) k = S1.2 59 (24 * i + k)
                rw [a3 _ (by omega), a3 _ (by omega)]
                exact (hS i hi).2 k hk
        · rw [if_neg hz0]
          refine ⟨-14, S, S, rfl, ?_, hR0⟩
          unfold f_X7_sheet
          rw [mSheet, g2s, hg, bI_t, if_neg one0, mLane, g2s, hl, bI_t, if_neg one0, if_pos hz, if_neg hz0]
      · rw [if_neg hz]
        refine ⟨-1, S, S, rfl, ?_, hR0⟩
        unfold f_X7_sheet
        rw [mSheet, g2s, hg, bI_t, if_neg one0, mLane, g2s, hl, bI_t, if_neg one0, if_neg hz]
