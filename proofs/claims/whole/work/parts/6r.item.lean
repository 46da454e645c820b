/-- items changed, all else as it was -/
theorem Rel_it {S S' : gSt} (h : Rel S) (hf : S'.1 = S.1) (hs : ∀ j, j < 4 → ∀ i, i < 24 → S'.2 (37 + j) i = S'.2 59 (24 * j + i)) : Rel S' := by
  refine Rel_sh h (fun k _ _ _ => by rw [hf]) (fun j hj => ⟨?_, hs j hj⟩)
  rw [hf]
  exact (h.2.2.2 j hj).1
theorem op_item (p l a : Int32) (v : Int64) : Op (f_X6_item p l a v) (f_X7_item p l a v) := by
  intro S hR
  have hR0 := hR
  obtain ⟨-, -, -, hS⟩ := hR
  cases hg : gin p 4 with
  | false =>
    refine ⟨-1, S, S, ?_, ?_, hR0⟩
    · unfold f_X6_item f_X6_itemsFault
      rw [cSheet, g2s, hg]; rfl
    · unfold f_X7_item
      rw [mSheet, g2s, hg]; rfl
  | true =>
    cases hl : gin l 4 with
    | false =>
      refine ⟨-1, S, S, ?_, ?_, hR0⟩
      · unfold f_X6_item f_X6_itemsFault
        rw [cSheet, g2s, hg, bI_t, if_neg one0, hl4, hl]; rfl
      · unfold f_X7_item
        rw [mSheet, g2s, hg, bI_t, if_neg one0, mLane, g2s, hl]; rfl
    | true =>
      obtain ⟨ep, hp⟩ := gin_clamp (by decide) hg
      obtain ⟨el, hl3⟩ := gin_clamp (by decide) hl
      generalize p.toNatClampNeg = j at *
      generalize l.toNatClampNeg = ll at *
      subst ep el
      obtain ⟨k1, k2⟩ := cFault (S := S) hp (nI ll) a 1 hl
      rcases (hS j hp).1 with ⟨l1, l2⟩ | ⟨x, z, hx, hz, l1, l2, l3, l4⟩
      · refine ⟨-11, S, S, ?_, ?_, hR0⟩
        · unfold f_X6_item
          rw [k1 l1, g2s, if_neg (by decide)]
        · unfold f_X7_item f_X7_why
          rw [mSheet, g2s, hg, bI_t, if_neg one0, mLane, g2s, hl, bI_t, if_neg one0, if_pos rfl, nI_clamp (by omega), l2, if_neg (by decide), g2s, if_neg (by decide)]
      · have w := mWhy hp hx hz l2 l4 (nI ll) a 1
        have c := k2 x z hx hz l1 l3
        by_cases hxl : nI x = nI ll
        · rw [if_pos hxl] at w c
          cases hs : spn z a 1 with
          | false =>
            rw [hs] at w c
            refine ⟨-13, S, S, ?_, ?_, hR0⟩
            · unfold f_X6_item
              rw [c, g2s]; rfl
            · unfold f_X7_item
              rw [mSheet, g2s, hg, bI_t, if_neg one0, mLane, g2s, hl, bI_t, if_neg one0, w, g2s]; rfl
          | true =>
            rw [hs, if_pos rfl] at w c
            rw [spn_iff] at hs
            have e1 : (1 : Int32).toInt = 1 := rfl
            have ha : rng a 0 (23 : Nat) = true := by rw [rng_iff]; omega
            obtain ⟨ea, ha2⟩ := rng_clamp (by decide) ha
            generalize a.toNatClampNeg = aa at *
            subst ea
            refine ⟨1, gJ S (37 + j) aa (lw (nI ll) v), gJ (gJ S (37 + j) aa (lw (nI ll) v)) 59 (24 * j + aa) (lw (nI ll) v), ?_, ?_, ?_⟩
            · unfold f_X6_item
              rw [c, g2s, if_pos (by decide), hg, if_pos rfl, cLow hl3, g2s, gin_t (show aa < 24 by omega) (by decide), if_pos rfl, gls, nI_clamp (by omega), nI_clamp (by omega)]
            · have w' : f_X7_why (nI j) (nI ll) (nI aa) 1 (gJ S (37 + j) aa (lw (nI ll) v)) = some (0, gJ S (37 + j) aa (lw (nI ll) v)) := by
                have w2 := mWhy (S := gJ S (37 + j) aa (lw (nI ll) v)) hp hx hz l2 l4 (nI ll) (nI aa) 1
                rw [if_pos hxl, spn_iff.mpr hs, if_pos rfl] at w2
                exact w2
              have e96 : (24 : Int32) * nI j + nI aa = nI (24 * j + aa) := by rw [n_24, pk_mul, nI_add]
              unfold f_X7_item
              rw [mSheet, g2s, hg, bI_t, if_neg one0, mLane, g2s, hl, bI_t, if_neg one0, w', g2s, if_pos (by decide), e96, gin_t (show 24 * j + aa < 96 by omega) (by decide), if_pos rfl, gls, gls, gls, gls, nI_clamp (by omega)]
              have hq : ll = 0 ∨ ll = 1 ∨ ll = 2 ∨ ll = 3 := by omega
              unfold lw
              rcases hq with rfl | rfl | rfl | rfl <;> rfl
            · refine Rel_it hR0 rfl (fun i hi k hk => ?_)
              by_cases hik : i = j ∧ k = aa
              · obtain ⟨rfl, rfl⟩ := hik
                rw [gJ_k _ (by omega), gJ_s, gJ_s]
              · rw [gJ_i _ (show 24 * i + k ≠ 24 * j + aa by omega), gJ_k _ (show 37 + i ≠ 59 by omega), gJ_k _ (show 59 ≠ 37 + j by omega)]
                by_cases hij : i = j
                · subst hij
                  rw [gJ_i _ (by omega)]; exact (hS i hi).2 k hk
                · rw [gJ_k _ (by omega)]; exact (hS i hi).2 k hk
        · rw [if_neg hxl] at w c
          refine ⟨-12, S, S, ?_, ?_, hR0⟩
          · unfold f_X6_item
            rw [c, g2s]; rfl
          · unfold f_X7_item
            rw [mSheet, g2s, hg, bI_t, if_neg one0, mLane, g2s, hl, bI_t, if_neg one0, w, g2s]; rfl
