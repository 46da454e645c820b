/-! crabs -/
theorem rgA (v m : Int32) (N : Nat) (h : m.toInt = N) {α : Type} (x y : α) : (if v < 0 then x else if m < v then x else y) = if rng v 0 N then y else x := by
  simp only [lt_toInt, h, z_toInt]
  by_cases h1 : v.toInt < 0
  · rw [if_pos h1, if_neg (by rw [rng_iff]; omega)]
  · rw [if_neg h1]
    by_cases h2 : (N : Int) < v.toInt
    · rw [if_pos h2, if_neg (by rw [rng_iff]; omega)]
    · rw [if_neg h2, if_pos (by rw [rng_iff]; omega)]
theorem rgB (v m : Int32) (N : Nat) (h : m.toInt = N) {α : Type} (x y : α) : (if v < 0 then x else if v ≤ m then y else x) = if rng v 0 N then y else x := by
  simp only [lt_toInt, le_toInt, h, z_toInt]
  by_cases h1 : v.toInt < 0
  · rw [if_pos h1, if_neg (by rw [rng_iff]; omega)]
  · rw [if_neg h1]
    by_cases h2 : v.toInt ≤ (N : Int)
    · rw [if_pos h2, if_pos (by rw [rng_iff]; omega)]
    · rw [if_neg h2, if_neg (by rw [rng_iff]; omega)]
def crF (k : Int32) : Nat → Int32 → Int32
  | 0, x => x
  | i + 1, x => (crF k i x * (100 - k)) / 100
theorem crF_0 (k : Int32) : ∀ i, crF k i 0 = 0
  | 0 => rfl
  | i + 1 => by
    rw [crF, crF_0 k i, Int32.zero_mul]
    decide
theorem cCrab {m : Nat} (hm : m ≤ 48) (k x : Int32) (S : gSt) : gLoop f_X6_crabs_s77 gFuel (nI m, k, x, 0, S) = some (crF k m x, S) := by
  have key : ∃ R, gLoop f_X6_crabs_s77 gFuel (nI m, k, x, 0, S) = some R ∧ R = (crF k m x, S) := by
    refine gLoop_up (fun i p => p = (nI m, k, crF k i x, nI i, S)) _ m (by omega) ?_ ?_ rfl
    · rintro i p hi rfl
      dsimp only [f_X6_crabs_s77]
      unfold f_X6_crabs_s77_b
      rw [if_neg (by rw [nI_leI (by omega) (by omega)]; omega), gls, nI_1]
      exact ⟨_, rfl, rfl⟩
    · rintro p rfl
      dsimp only [f_X6_crabs_s77]
      unfold f_X6_crabs_s77_b
      rw [if_pos (by rw [nI_leI (by omega) (by omega)]; omega)]
      exact ⟨_, rfl, rfl⟩
  obtain ⟨R, h1, rfl⟩ := key
  exact h1
theorem mCrab {m : Nat} (hm : m ≤ 48) (k x : Int32) (S : gSt) : f_X7_crabs_j90 (nI m) k x S = some (crF k m x, S) := by
  have key : ∃ R, gLoop f_X7_crabs_s95 gFuel (nI m, k, x, 0, S) = some R ∧ R = (crF k m x, S) := by
    refine gLoop_up (fun i p => p = (nI m, k, crF k i x, nI i, S)) _ m (by omega) ?_ ?_ rfl
    · rintro i p hi rfl
      dsimp only [f_X7_crabs_s95]
      unfold f_X7_crabs_s95_b
      rw [if_neg (by rw [nI_leI (by omega) (by omega)]; omega), gls, nI_1]
      exact ⟨_, rfl, rfl⟩
    · rintro p rfl
      dsimp only [f_X7_crabs_s95]
      unfold f_X7_crabs_s95_b
      rw [if_pos (by rw [nI_leI (by omega) (by omega)]; omega)]
      exact ⟨_, rfl, rfl⟩
  obtain ⟨R, h1, rfl⟩ := key
  unfold f_X7_crabs_j90
  rw [h1]; rfl
def crV (g : Il) (w d m : Nat) (k : Int32) : Int32 := if lkP (i_pr g) none (i_set g) (i_hr g) m (64 * w + d) = 0 then 0 else crF k m 1000000
/-- back: the row is as it was -/
theorem Fr_ab {S C : gSt} {ks : List Nat} (h : Fr (53 :: [48]) S C) (h48 : C.1 48 = S.1 48) (hk : 53 ∈ ks) : Fr ks S C := by
  refine ⟨h.1, fun k hk2 => ?_⟩
  by_cases z : k = 48
  · rw [z, h48]
  · refine h.2 k (fun y => ?_)
    simp only [List.mem_cons, List.not_mem_nil, or_false] at y
    rcases y with rfl | y
    · exact hk2 hk
    · exact z y
theorem op_crabs (p c n k : Int32) : Op (f_X6_crabs p c n k) (f_X7_crabs p c n k) := by
  refine op_of (fun q => if gin p (i_n q.1) then (if gin c 64 then (if rng n 0 (48 : Nat) then (if rng k 0 (100 : Nat) then crV q.1 p.toNatClampNeg c.toNatClampNeg n.toNatClampNeg k else -1) else -1) else -1) else -1) id (fun q h => h) (opC_read ?_) (opM_read ?_)
  · intro S q h1 h2
    have h6 := h2.1.1
    unfold f_X6_crabs
    rw [has_sp p h1.1.2.1 (by omega), g2s]
    cases hg : gin p (i_n q.1) with
    | false => exact ⟨S, rfl, Fr_rfl⟩
    | true =>
      rw [bI_t, if_neg one0, if_pos rfl, isCell_sp, g2s]
      cases hc : gin c 64 with
      | false => exact ⟨S, rfl, Fr_rfl⟩
      | true =>
        rw [bI_t, if_neg one0, if_pos rfl, rgA n 48 48 rfl, rgB k 100 100 rfl]
        cases hn : rng n 0 (48 : Nat) with
        | false => exact ⟨S, rfl, Fr_rfl⟩
        | true =>
          rw [if_pos rfl, if_pos rfl]
          cases hk : rng k 0 (100 : Nat) with
          | false => exact ⟨S, rfl, Fr_rfl⟩
          | true =>
            rw [if_pos rfl, if_pos rfl]
            obtain ⟨ep, hp⟩ := gin_clamp (by omega) hg
            obtain ⟨ec, hc2⟩ := gin_clamp (by decide) hc
            obtain ⟨en, hn2⟩ := rng_clamp (by decide) hn
            generalize p.toNatClampNeg = w at *
            generalize c.toNatClampNeg = d at *
            generalize n.toNatClampNeg = m at *
            subst ep ec en
            have hb := h2.1.2.2.2.2.2.1 (64 * w + d)
            have hv : S.1 7 (64 * w + d) = nI (i_pr q.1 (64 * w + d)) := h1.1.2.2.2.2.2 _ (by omega)
            have hd := dep_le (i_set q.1) (i_hr q.1) (i_pr q.1 (64 * w + d)) (d / 8) m
            have e : lkP (i_pr q.1) none (i_set q.1) (i_hr q.1) m (64 * w + d) = dep (i_set q.1) (i_hr q.1) (i_pr q.1 (64 * w + d)) (d / 8) m := by
              unfold lkP
              rw [if_neg (by simp), show (64 * w + d) % 64 = d by omega]
            rw [n_64, pk_mul, nI_add, show w * 64 + d = 64 * w + d by omega, gin_t (by omega) (by decide), if_pos rfl, nI_clamp (by omega), hv, cDep (RC_st h1 h2) hb hc2 hn2, g2s, cCrab hn2]
            unfold crV
            rw [e]
            by_cases h0 : dep (i_set q.1) (i_hr q.1) (i_pr q.1 (64 * w + d)) (d / 8) m = 0
            · rw [if_pos (by rw [h0]; rfl), if_pos h0]
              exact ⟨S, rfl, Fr_rfl⟩
            · rw [if_neg (nI_ne0 (by omega) (by omega)), if_neg h0]
              exact ⟨S, rfl, Fr_rfl⟩
  · intro S q h1 h2
    have h6 := h2.1.1
    have hr := h2.1.2.1
    unfold f_X7_crabs
    rw [mWalker_sp p h1.1.2.1 (by omega), g2s]
    cases hg : gin p (i_n q.1) with
    | false => exact ⟨S, rfl, Fr_rfl⟩
    | true =>
      rw [bI_t, if_neg one0, if_pos rfl, mCell_sp, g2s]
      cases hc : gin c 64 with
      | false => exact ⟨S, rfl, Fr_rfl⟩
      | true =>
        rw [bI_t, if_neg one0, if_pos rfl, in_lit n (a := 0) (b := (48 : Nat)) S rfl rfl, g2s]
        cases hn : rng n 0 (48 : Nat) with
        | false => exact ⟨S, rfl, Fr_rfl⟩
        | true =>
          rw [bI_t, if_neg one0, if_pos rfl, in_lit k (a := 0) (b := (100 : Nat)) S rfl rfl, g2s]
          cases hk : rng k 0 (100 : Nat) with
          | false => exact ⟨S, rfl, Fr_rfl⟩
          | true =>
            rw [bI_t, if_neg one0, if_pos rfl]
            obtain ⟨ep, hp⟩ := gin_clamp (by omega) hg
            obtain ⟨ec, hc2⟩ := gin_clamp (by decide) hc
            obtain ⟨en, hn2⟩ := rng_clamp (by decide) hn
            generalize p.toNatClampNeg = w at *
            generalize c.toNatClampNeg = d at *
            generalize n.toNatClampNeg = m at *
            subst ep ec en
            obtain ⟨A1, a1, a2, a3⟩ := mAside S
            have hM : MI (A1.1 48) q.1 := by rw [a2.2 48 (by decide)]; exact h1.1
            obtain ⟨B1, b1, b2, b3⟩ := mOn hM (WF_r h2) (h := m) (by omega)
            obtain ⟨C1, c1, c2, c3⟩ := mAB a2 a3 b2.1 (by decide) b2.2
            have hv : B1.1 48 (32 + (64 * w + d)) = nI (lkP (i_pr q.1) none (i_set q.1) (i_hr q.1) m (64 * w + d)) := by
              have := b3.2.2.2.2.2 (64 * w + d) (by omega)
              rw [u_hrs_prf (Nat.lt_of_lt_of_le (by decide) h2.1.2.2.2.1.2.2.2.1)] at this
              exact this
            have hle := lkP_le h2.1.2.2.2.2.2.1 none (i_set q.1) (i_hr q.1) m (64 * w + d)
            have hF : Fr [49, 53, 54, 55] S C1 := Fr_ab c2 c3 (by decide)
            rw [a1, Option.bind_some, b1, Option.bind_some, n_64, n_32, pk_mul, nI_add, nI_add, gin_t (by omega) (by decide), if_pos rfl, nI_clamp (by omega), show 32 + 64 * w + d = 32 + (64 * w + d) by omega, hv]
            unfold crV f_X7_crabs_j73
            rw [c1, Option.bind_some, Option.bind_some, if_pos rfl, if_neg one0, mCrab hn2, mCrab hn2, crF_0]
            by_cases h0 : lkP (i_pr q.1) none (i_set q.1) (i_hr q.1) m (64 * w + d) = 0
            · rw [if_pos (by rw [h0]; decide), if_pos h0]
              exact ⟨C1, rfl, hF⟩
            · rw [if_neg (nI_nle (by omega) (by omega)), if_neg h0]
              exact ⟨C1, rfl, hF⟩
