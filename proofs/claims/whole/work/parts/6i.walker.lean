theorem rng2b (v : Int32) {a b : Nat} (ha : a < 2 ^ 31) (hb : b < 2 ^ 31) {α : Type} (x y : α) : (if v < nI a then x else if nI b < v then x else y) = if rng v a b then y else x := by
  simp only [lt_toInt, nI_toInt ha, nI_toInt hb]
  by_cases h1 : v.toInt < a
  · rw [if_pos h1, if_neg (by rw [rng_iff]; omega)]
  · rw [if_neg h1]
    by_cases h2 : (b : Int) < v.toInt
    · rw [if_pos h2, if_neg (by rw [rng_iff]; omega)]
    · rw [if_neg h2, if_pos (by rw [rng_iff]; omega)]
theorem op_walker (p m c : Int32) : Op (f_X6_walker p m c) (f_X7_walker p m c) := by
  refine op_of (fun q => if rng p (0 : Nat) (4 : Nat) then (if rng m (1 : Nat) (9 : Nat) then (if gin c 64 then (if i_n q.1 < 6 then nI (i_n q.1) else -3) else -1) else -1) else -1) (fun q => if rng p (0 : Nat) (4 : Nat) then (if rng m (1 : Nat) (9 : Nat) then (if gin c 64 then (if i_n q.1 < 6 then (u_wk q.1 p.toNatClampNeg m.toNatClampNeg c.toNatClampNeg, (0, q.2.2)) else q) else q) else q) else q) ?_ ?_ ?_
  · intro q hq
    cases hg : rng p (0 : Nat) (4 : Nat) with
    | false => exact hq
    | true =>
      cases hm : rng m (1 : Nat) (9 : Nat) with
      | false => exact hq
      | true =>
        cases hc : gin c 64 with
        | false => exact hq
        | true =>
          obtain ⟨ep, p1, p2⟩ := rngN (by decide) hg
          obtain ⟨em, m1, m2⟩ := rngN (by decide) hm
          obtain ⟨ec, hc2⟩ := gin_clamp (by decide) hc
          simp only [if_pos]
          by_cases h6 : i_n q.1 < 6
          · rw [if_pos h6]; exact WF_wk hq h6 p2 m1 m2 hc2
          · rw [if_neg h6]; exact hq
  · intro S q h1 h2
    have hn := h2.1.1
    unfold f_X6_walker
    rw [n_0, n_4, rng2b p (by decide) (by decide), n_1, n_9, rng2b m (by decide) (by decide), isCell_sp, g2s]
    dsimp only
    cases hg : rng p (0 : Nat) (4 : Nat) with
    | false => exact ⟨S, rfl, Fr_rfl, h1⟩
    | true =>
      cases hm : rng m (1 : Nat) (9 : Nat) with
      | false => exact ⟨S, rfl, Fr_rfl, h1⟩
      | true =>
        cases hc : gin c 64 with
        | false => exact ⟨S, rfl, Fr_rfl, h1⟩
        | true =>
          obtain ⟨ep, p1, p2⟩ := rngN (by decide) hg
          obtain ⟨em, m1, m2⟩ := rngN (by decide) hm
          obtain ⟨ec, hc2⟩ := gin_clamp (by decide) hc
          rw [if_pos rfl, if_pos rfl, bI_t, if_neg (by decide), h1.1.2.1]
          simp only [if_pos]
          by_cases h6 : i_n q.1 < 6
          · rw [if_pos (by rw [n_6]; exact (nI_ltI (by omega) (by decide)).mpr h6), if_pos h6, if_pos h6]
            have := cEnter h1 h6 p.toNatClampNeg m.toNatClampNeg c.toNatClampNeg
            rw [← ep, ← em, ← ec] at this
            exact this
          · rw [if_neg (by rw [n_6]; exact fun z => h6 ((nI_ltI (by omega) (by decide)).mp z)), if_neg h6, if_neg h6]
            exact ⟨S, rfl, Fr_rfl, h1⟩
  · intro S q h1 h2
    have hn := h2.1.1
    unfold f_X7_walker
    rw [in_lit p (a := (0 : Nat)) (b := (4 : Nat)) S rfl rfl, g2s]
    dsimp only
    cases hg : rng p (0 : Nat) (4 : Nat) with
    | false => exact ⟨S, rfl, FrM_rfl, h1⟩
    | true =>
      rw [bI_t, if_neg one0, in_lit m (a := (1 : Nat)) (b := (9 : Nat)) S rfl rfl, g2s]
      cases hm : rng m (1 : Nat) (9 : Nat) with
      | false => exact ⟨S, rfl, FrM_rfl, h1⟩
      | true =>
        rw [bI_t, if_neg one0, mCell_sp, g2s]
        cases hc : gin c 64 with
        | false => exact ⟨S, rfl, FrM_rfl, h1⟩
        | true =>
          obtain ⟨ep, p1, p2⟩ := rngN (by decide) hg
          obtain ⟨em, m1, m2⟩ := rngN (by decide) hm
          obtain ⟨ec, hc2⟩ := gin_clamp (by decide) hc
          have e5 : (5 : Int32).toNatClampNeg = 5 := rfl
          have g5 : gin 5 416 = true := rfl
          obtain ⟨c1, c2, c3, c4, c5, c6⟩ := h1.1
          rw [bI_t, if_neg one0, g5, if_pos rfl, e5, c2]
          simp only [if_pos]
          rw [n_6, ieq (by omega) (by decide)]
          by_cases h6 : i_n q.1 < 6
          · rw [if_neg (by omega), if_pos h6, if_pos h6]
            generalize p.toNatClampNeg = k at *
            generalize m.toNatClampNeg = mm at *
            generalize c.toNatClampNeg = cc at *
            subst ep em ec
            obtain ⟨n, hnn⟩ : ∃ n, n = i_n q.1 := ⟨_, rfl⟩
            have hn6 : n < 6 := by omega
            have a1 : nI (8 + 4 * n) + 1 = nI (9 + 4 * n) := by rw [nI_1, show 8 + 4 * n + 1 = 9 + 4 * n by omega]
            have a2 : nI (8 + 4 * n) + 2 = nI (10 + 4 * n) := by rw [n_2, nI_add, show 8 + 4 * n + 2 = 10 + 4 * n by omega]
            have a3 : nI (8 + 4 * n) + 3 = nI (11 + 4 * n) := by rw [n_3, nI_add, show 8 + 4 * n + 3 = 11 + 4 * n by omega]
            rw [← hnn] at c2 ⊢
            have f5 : (gI (gI (gI (gI S 48 (8 + 4 * n) (nI k)) 48 (9 + 4 * n) (nI mm)) 48 (10 + 4 * n) (nI cc)) 48 (11 + 4 * n) 0).1 48 5 = nI n := by rw [gI_i _ (by omega), gI_i _ (by omega), gI_i _ (by omega), gI_i _ (by omega)]; exact c2
            simp only [mAt, gls, a1, a2, a3, gin_t (show 8 + 4 * n < 416 by omega) (by decide), gin_t (show 9 + 4 * n < 416 by omega) (by decide), gin_t (show 10 + 4 * n < 416 by omega) (by decide), gin_t (show 11 + 4 * n < 416 by omega) (by decide), if_pos, nI_clamp (show 8 + 4 * n < 2 ^ 31 by omega), nI_clamp (show 9 + 4 * n < 2 ^ 31 by omega), nI_clamp (show 10 + 4 * n < 2 ^ 31 by omega), nI_clamp (show 11 + 4 * n < 2 ^ 31 by omega)]
            rw [f5, gI_k _ (show (48 : Nat) ≠ 47 by decide), gI_s, nI_1, n_1, nI_sub_le (by omega), show n + 1 - 1 = n by omega]
            refine ⟨_, rfl, FrM_trans (FrM_trans (FrM_trans (FrM_trans (FrM_trans (FrM_gI (by decide) (Or.inl (by decide))) (FrM_gI (by decide) (Or.inl (by decide)))) (FrM_gI (by decide) (Or.inl (by decide)))) (FrM_gI (by decide) (Or.inl (by decide)))) (FrM_gI (by decide) (Or.inl (by decide)))) (FrM_gI (by decide) (Or.inr (Or.inl rfl))), ⟨?_, fun k hk => absurd hk (Nat.not_lt_zero _), by rw [gI_s]; rfl⟩⟩
            rw [gI_k _ (show (48 : Nat) ≠ 47 by decide)]
            refine ⟨fun i hi => ?_, ?_, ?_, ?_, fun w hw => ?_, fun i hi => ?_⟩
            · rw [gI_i _ (by omega), gI_i _ (by omega), gI_i _ (by omega), gI_i _ (by omega), gI_i _ (by omega)]; exact c1 i hi
            · rw [gI_s, hnn]; rfl
            · rw [gI_i _ (by omega), gI_i _ (by omega), gI_i _ (by omega), gI_i _ (by omega), gI_i _ (by omega)]; exact c3
            · rw [gI_i _ (by omega), gI_i _ (by omega), gI_i _ (by omega), gI_i _ (by omega), gI_i _ (by omega)]; exact c4
            · have hw : w < i_n q.1 + 1 := hw
              show _ = nI (if w = i_n q.1 then k else i_kd q.1 w) ∧ _ = nI (if w = i_n q.1 then mm else i_wt q.1 w) ∧ _ = nI (if w = i_n q.1 then cc else i_ce q.1 w) ∧ _ = (if w = i_n q.1 then 0 else i_sp q.1 w)
              by_cases hwn : w = i_n q.1
              · simp only [if_pos hwn]
                rw [hwn, ← hnn]
                refine ⟨?_, ?_, ?_, ?_⟩
                · rw [gI_i _ (by omega), gI_i _ (by omega), gI_i _ (by omega), gI_i _ (by omega), gI_s]
                · rw [gI_i _ (by omega), gI_i _ (by omega), gI_i _ (by omega), gI_s]
                · rw [gI_i _ (by omega), gI_i _ (by omega), gI_s]
                · rw [gI_i _ (by omega), gI_s]
              · simp only [if_neg hwn]
                have hz := c5 w (by omega)
                refine ⟨?_, ?_, ?_, ?_⟩
                · rw [gI_i _ (by omega), gI_i _ (by omega), gI_i _ (by omega), gI_i _ (by omega), gI_i _ (by omega)]; exact hz.1
                · rw [gI_i _ (by omega), gI_i _ (by omega), gI_i _ (by omega), gI_i _ (by omega), gI_i _ (by omega)]; exact hz.2.1
                · rw [gI_i _ (by omega), gI_i _ (by omega), gI_i _ (by omega), gI_i _ (by omega), gI_i _ (by omega)]; exact hz.2.2.1
                · rw [gI_i _ (by omega), gI_i _ (by omega), gI_i _ (by omega), gI_i _ (by omega), gI_i _ (by omega)]; exact hz.2.2.2
            · rw [gI_i _ (by omega), gI_i _ (by omega), gI_i _ (by omega), gI_i _ (by omega), gI_i _ (by omega)]; exact c6 i hi
          · rw [if_pos (by omega), if_neg h6, if_neg h6]
            exact ⟨S, rfl, FrM_rfl, h1⟩
