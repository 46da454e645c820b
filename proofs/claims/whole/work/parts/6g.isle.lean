/-! the isle's settings -/
def loN (j : Nat) : Nat := if j = 3 then 2 else 0
def hiN (j : Nat) : Nat := if j = 0 then 8 else if j = 1 then 9 else if j = 2 then 3 else if j = 3 then 12 else 8
def u_set (g : Il) (i v : Nat) : Il := (fun j => if j = i then v else i_set g j, i_n g, i_hr g, i_dr g, i_kd g, i_wt g, i_ce g, i_sp g, i_pr g)
theorem rng2 (v : Int32) {a b : Nat} (ha : a < 2 ^ 31) (hb : b < 2 ^ 31) {α : Type} (x y : α) : (if v < nI a then x else if v ≤ nI b then y else x) = if rng v a b then y else x := by
  simp only [lt_toInt, le_toInt, nI_toInt ha, nI_toInt hb]
  by_cases h1 : v.toInt < a
  · rw [if_pos h1, if_neg (by rw [rng_iff]; omega)]
  · rw [if_neg h1]
    by_cases h2 : v.toInt ≤ b
    · rw [if_pos h2, if_pos (by rw [rng_iff]; omega)]
    · rw [if_neg h2, if_neg (by rw [rng_iff]; omega)]
theorem rngN {v : Int32} {a b : Nat} (hb : b < 2 ^ 31) (h : rng v a b = true) : v = nI v.toNatClampNeg ∧ a ≤ v.toNatClampNeg ∧ v.toNatClampNeg ≤ b := by
  rw [rng_iff] at h
  have h0 : rng v 0 b = true := by rw [rng_iff]; omega
  obtain ⟨e, c⟩ := rng_clamp hb h0
  refine ⟨e, ?_, c⟩
  have h1 := h.1
  rw [e, nI_toInt (by omega)] at h1
  omega
theorem five {j : Nat} (h : j < 5) : j = 0 ∨ j = 1 ∨ j = 2 ∨ j = 3 ∨ j = 4 := by omega
theorem mCan {j : Nat} (hj : j < 5) (v : Int32) (S : gSt) : f_X7_canIsle (nI j) v S = some (bI (rng v (loN j) (hiN j)), S) := by
  unfold f_X7_canIsle
  rcases five hj with rfl | rfl | rfl | rfl | rfl
  · rw [if_neg (by decide), if_pos (by decide)]
    rw [in_lit v (a := (loN 0 : Nat)) (b := (hiN 0 : Nat)) S rfl rfl, g2s, gbool_b, if_pos rfl]
  · rw [if_neg (by decide), if_neg (by decide), if_pos (by decide)]
    rw [in_lit v (a := (loN 1 : Nat)) (b := (hiN 1 : Nat)) S rfl rfl, g2s, gbool_b, if_pos rfl]
  · rw [if_neg (by decide), if_neg (by decide), if_neg (by decide), if_pos (by decide)]
    rw [in_lit v (a := (loN 2 : Nat)) (b := (hiN 2 : Nat)) S rfl rfl, g2s, gbool_b, if_pos rfl]
  · rw [if_neg (by decide), if_neg (by decide), if_neg (by decide), if_neg (by decide), if_pos (by decide)]
    rw [in_lit v (a := (loN 3 : Nat)) (b := (hiN 3 : Nat)) S rfl rfl, g2s, gbool_b, if_pos rfl]
  · rw [if_neg (by decide), if_neg (by decide), if_neg (by decide), if_neg (by decide), if_neg (by decide), if_pos (by decide)]
    rw [in_lit v (a := (loN 4 : Nat)) (b := (hiN 4 : Nat)) S rfl rfl, g2s, gbool_b, if_pos rfl]
theorem hiN_lt (j : Nat) : hiN j < 2 ^ 31 := by
  unfold hiN
  split
  · decide
  · split
    · decide
    · split
      · decide
      · split <;> decide
theorem loN_lt (j : Nat) : loN j < 2 ^ 31 := by
  unfold loN
  split <;> decide
theorem WF_set {q : Il × Pa} (h : WF q) {j v : Nat} (hj : j < 5) (h1 : loN j ≤ v) (h2 : v ≤ hiN j) : WF (u_set q.1 j v, q.2) := by
  obtain ⟨a0, a1, a2, a3, a4, a5⟩ := h.1.2.2.2.1
  refine ⟨⟨h.1.1, h.1.2.1, h.1.2.2.1, ?_, h.1.2.2.2.2⟩, h.2.1, h.2.2⟩
  have f : ∀ i, i_set (u_set q.1 j v) i = if i = j then v else i_set q.1 i := fun _ => rfl
  unfold WFset
  simp only [f]
  rcases five hj with rfl | rfl | rfl | rfl | rfl
  · exact ⟨h2, a1, a2, a3, a4, a5⟩
  · exact ⟨a0, h2, a2, a3, a4, a5⟩
  · exact ⟨a0, a1, h2, a3, a4, a5⟩
  · exact ⟨a0, a1, a2, h1, h2, a5⟩
  · exact ⟨a0, a1, a2, a3, a4, h2⟩
theorem op_isle (p v : Int32) : Op (f_X6_isle p v) (f_X7_isle p v) := by
  refine op_of (fun q => if gin p 5 then (if rng v (loN p.toNatClampNeg) (hiN p.toNatClampNeg) then nI (i_set q.1 p.toNatClampNeg) else -1) else -1) (fun q => if gin p 5 then (if rng v (loN p.toNatClampNeg) (hiN p.toNatClampNeg) then (u_set q.1 p.toNatClampNeg v.toNatClampNeg, q.2) else q) else q) ?_ ?_ ?_
  · intro q hq
    cases hg : gin p 5 with
    | false => exact hq
    | true =>
      obtain ⟨ep, hp⟩ := gin_clamp (by decide) hg
      cases hd : rng v (loN p.toNatClampNeg) (hiN p.toNatClampNeg) with
      | false => rw [if_pos rfl]; exact hq
      | true =>
        obtain ⟨e, a, b⟩ := rngN (hiN_lt _) hd
        exact WF_set hq hp a b
  · intro S q h1 h2
    unfold f_X6_isle
    dsimp only
    cases hg : gin p 5 with
    | false =>
      have hg2 : ¬ gin p 5 = true := by rw [hg]; decide
      rw [gin_rng, rng_iff] at hg2
      have e4 : (4 : Int32).toInt = 4 := rfl
      by_cases h3 : p < 0
      · rw [if_pos h3]; exact ⟨S, rfl, Fr_rfl, h1⟩
      · rw [if_neg h3, if_pos (by rw [lt_toInt, z_toInt] at h3; rw [lt_toInt]; omega)]; exact ⟨S, rfl, Fr_rfl, h1⟩
    | true =>
      simp only [if_pos]
      obtain ⟨ep, hp⟩ := gin_clamp (by decide) hg
      generalize p.toNatClampNeg = j at *
      subst ep
      have elo : ([0, 0, 0, 2, 0] : List Int32).getD j 0 = nI (loN j) := by rcases five hp with rfl | rfl | rfl | rfl | rfl <;> rfl
      have ehi : ([8, 9, 3, 12, 8] : List Int32).getD j 0 = nI (hiN j) := by rcases five hp with rfl | rfl | rfl | rfl | rfl <;> rfl
      rw [if_neg (nI_pos (by omega)), if_neg (by rw [n_4, Int32.not_lt, nI_leI (by omega) (by decide)]; omega), elo, ehi, rng2 v (loN_lt _) (hiN_lt _)]
      cases hd : rng v (loN j) (hiN j) with
      | false => exact ⟨S, rfl, Fr_rfl, h1⟩
      | true =>
        obtain ⟨e, a, b⟩ := rngN (hiN_lt _) hd
        generalize v.toNatClampNeg = m at *
        subst e
        obtain ⟨c1, c2, c3, c4, c5, c6⟩ := h1.1
        have cj : S.1 2 j = nI (i_set q.1 j) := c1 j hp
        rw [if_pos rfl, gls, gls, cj]
        refine ⟨_, rfl, Fr_gI (by decide), ⟨fun i hi => ?_, ?_, ?_, ?_, fun w hw => ?_, fun i hi => ?_⟩, CP_eq (fun k x y => gI_k _ (by omega) _) h1.2⟩
        · show (gI S 2 j (nI m)).1 2 i = nI (if i = j then m else i_set q.1 i)
          by_cases hij : i = j
          · rw [if_pos hij, hij, gI_s]
          · rw [if_neg hij, gI_i _ hij]; exact c1 i hi
        · rw [gI_k _ (by decide)]; exact c2
        · rw [gI_k _ (by decide)]; exact c3
        · rw [gI_k _ (by decide)]; exact c4
        · rw [gI_k _ (by decide), gI_k _ (by decide), gI_k _ (by decide), gI_k _ (by decide)]; exact c5 w hw
        · rw [gI_k _ (by decide)]; exact c6 i hi
  · intro S q h1 h2
    have h6 := h2.1.1
    unfold f_X7_isle
    dsimp only
    cases hg : gin p 5 with
    | false =>
      have hg2 : ¬ gin p 5 = true := by rw [hg]; decide
      rw [gin_rng, rng_iff] at hg2
      have hc : f_X7_canIsle p v S = some (0, S) := by
        unfold f_X7_canIsle
        rw [if_pos (by omega)]
      rw [hc, g2s]
      exact ⟨S, rfl, FrM_rfl, h1⟩
    | true =>
      simp only [if_pos]
      obtain ⟨ep, hp⟩ := gin_clamp (by decide) hg
      generalize p.toNatClampNeg = j at *
      subst ep
      rw [mCan hp, g2s]
      cases hd : rng v (loN j) (hiN j) with
      | false => exact ⟨S, rfl, FrM_rfl, h1⟩
      | true =>
        obtain ⟨e, a, b⟩ := rngN (hiN_lt _) hd
        generalize v.toNatClampNeg = m at *
        subst e
        obtain ⟨c1, c2, c3, c4, c5, c6⟩ := h1.1
        rw [bI_t, if_neg one0, gin_t (show j < 416 by omega) (by decide)]
        simp only [if_pos, gls, c1 j hp]
        refine ⟨_, rfl, FrM_gI (by decide) (Or.inl (by decide)), ⟨⟨fun i hi => ?_, ?_, ?_, ?_, fun w hw => ?_, fun i hi => ?_⟩, ?_, ?_⟩⟩
        · show (gI S 48 j (nI m)).1 48 i = nI (if i = j then m else i_set q.1 i)
          by_cases hij : i = j
          · rw [if_pos hij, hij, gI_s]
          · rw [if_neg hij, gI_i _ hij]; exact c1 i hi
        · rw [gI_i _ (by omega)]; exact c2
        · rw [gI_i _ (by omega)]; exact c3
        · rw [gI_i _ (by omega)]; exact c4
        · rw [gI_i _ (by omega), gI_i _ (by omega), gI_i _ (by omega), gI_i _ (by omega)]; exact c5 w hw
        · rw [gI_i _ (by omega)]; exact c6 i hi
        · rw [gI_k _ (by decide)]; exact h1.2.1
        · rw [gI_k _ (by decide)]; exact h1.2.2
