/-! tests on numbers -/
theorem ieq {α : Type} {a b : Nat} (ha : a < 2 ^ 31) (hb : b < 2 ^ 31) (x y : α) : (if nI a = nI b then x else y) = if a = b then x else y := by simp only [nI_eq ha hb]
theorem ile {α : Type} {a b : Nat} (ha : a < 2 ^ 31) (hb : b < 2 ^ 31) (x y : α) : (if nI a ≤ nI b then x else y) = if a ≤ b then x else y := by simp only [nI_leI ha hb]
/-! of a walker: tread, shoes -/
def trd (kd wt : Nat) : Nat := if kd = 2 ∨ kd = 3 then 2 * wt else if kd = 4 then wt + 1 else wt
def sho (n kd w : Nat) : Nat := if kd = 1 then (if n ≤ w + 1 then 0 else w + 1) else w
theorem trd_le {kd wt : Nat} (h : wt ≤ 9) : trd kd wt ≤ 18 := by
  unfold trd
  by_cases h1 : kd = 2 ∨ kd = 3
  · rw [if_pos h1]; omega
  · rw [if_neg h1]
    by_cases h2 : kd = 4
    · rw [if_pos h2]; omega
    · rw [if_neg h2]; omega
theorem trd_pos {kd wt : Nat} (h : 1 ≤ wt) : 1 ≤ trd kd wt := by
  unfold trd
  by_cases h1 : kd = 2 ∨ kd = 3
  · rw [if_pos h1]; omega
  · rw [if_neg h1]
    by_cases h2 : kd = 4
    · rw [if_pos h2]; omega
    · rw [if_neg h2]; omega
theorem sho_lt {n kd w : Nat} (h : w < n) : sho n kd w < n := by
  unfold sho
  by_cases h1 : kd = 1
  · rw [if_pos h1]
    by_cases h2 : n ≤ w + 1
    · rw [if_pos h2]; omega
    · rw [if_neg h2]; omega
  · rw [if_neg h1]; exact h
theorem kd5 {k : Nat} (h : k ≤ 4) : k = 0 ∨ k = 1 ∨ k = 2 ∨ k = 3 ∨ k = 4 := by omega
theorem cTread {S : gSt} {w kd wt : Nat} (hw : w < 6) (hk : kd ≤ 4) (h3 : S.1 3 w = nI kd) (h4 : S.1 4 w = nI wt) : f_X0_treadOf (nI w) S = some (nI (trd kd wt), S) := by
  unfold f_X0_treadOf trd
  have e : gin (nI w) 6 = true := gin_t hw (by decide)
  simp only [e, if_pos, nI_clamp (show w < 2 ^ 31 by omega), h3, h4]
  rcases kd5 hk with rfl | rfl | rfl | rfl | rfl
  · rw [if_pos (by decide), if_neg (by decide), if_neg (by decide)]
  · rw [if_pos (by decide), if_neg (by decide), if_neg (by decide)]
  · rw [if_neg (by decide), if_pos (by decide), if_pos (by decide), n_2, pk_mul]
  · rw [if_neg (by decide), if_neg (by decide), if_pos (by decide), if_pos (by decide), n_2, pk_mul]
  · rw [if_neg (by decide), if_neg (by decide), if_neg (by decide), if_pos (by decide), if_neg (by decide), if_pos (by decide), n_1, nI_add]
theorem cShoes {S : gSt} {w kd n : Nat} (hn : n ≤ 6) (hw : w < n) (hk : kd ≤ 4) (h3 : S.1 3 w = nI kd) (h7 : S.1 1 7 = nI n) : f_X0_shoesOf (nI w) S = some (nI (sho n kd w), S) := by
  unfold f_X0_shoesOf sho
  have e : gin (nI w) 6 = true := gin_t (by omega) (by decide)
  simp only [e, if_pos, nI_clamp (show w < 2 ^ 31 by omega), h3, h7]
  rw [n_1, nI_add, ieq (by omega) (by decide), ile (by omega) (by omega)]
  by_cases h1 : kd = 1
  · rw [if_pos h1, if_pos h1]
    by_cases h2 : n ≤ w + 1
    · rw [if_pos h2, if_pos h2]; rfl
    · rw [if_neg h2, if_neg h2]
  · rw [if_neg h1, if_neg h1]
theorem mAt (w : Nat) : (8 : Int32) + 4 * nI w = nI (8 + 4 * w) := by rw [n_8, n_4, pk_mul, nI_add]
theorem mKind {S : gSt} {w kd : Nat} (hw : w < 6) (h : S.1 48 (8 + 4 * w) = nI kd) : f_X7_kind (nI w) S = some (nI kd, S) := by
  unfold f_X7_kind
  rw [mAt, gin_t (by omega) (by decide), if_pos rfl, nI_clamp (by omega), h]
theorem mDeep {S : gSt} {w kd wt : Nat} (hw : w < 6) (hk : kd ≤ 4) (h : S.1 48 (8 + 4 * w) = nI kd) (h' : S.1 48 (9 + 4 * w) = nI wt) : f_X7_deep (nI w) S = some (nI (trd kd wt), S) := by
  unfold f_X7_deep trd
  rw [mAt, n_1, nI_add, gin_t (by omega) (by decide), if_pos rfl, gls, nI_clamp (by omega), show 8 + 4 * w + 1 = 9 + 4 * w by omega, h']
  simp only [mKind hw h, g2s]
  rcases kd5 hk with rfl | rfl | rfl | rfl | rfl
  · rw [if_neg (by decide), if_neg (by decide), if_neg (by decide), if_neg (by decide), if_neg (by decide)]
  · rw [if_neg (by decide), if_neg (by decide), if_neg (by decide), if_neg (by decide), if_neg (by decide)]
  · rw [if_pos (by decide), if_pos (by decide), n_2, pk_mul]
  · rw [if_neg (by decide), if_pos (by decide), if_pos (by decide), n_2, pk_mul]
  · rw [if_neg (by decide), if_neg (by decide), if_pos (by decide), if_neg (by decide), if_pos (by decide), nI_add]
theorem mShoes {S : gSt} {w kd n : Nat} (hn : n ≤ 6) (hw : w < n) (hk : kd ≤ 4) (h : S.1 48 (8 + 4 * w) = nI kd) (h5 : S.1 48 5 = nI n) : f_X7_shoesOf (nI w) S = some (nI (sho n kd w), S) := by
  unfold f_X7_shoesOf sho
  have e0 : (5 : Int32).toNatClampNeg = 5 := rfl
  have e1 : gin 5 416 = true := rfl
  rw [mKind (by omega) h, g2s, e1, e0, h5, n_1, nI_add, ieq (by omega) (by decide), if_pos rfl, ieq (by omega) (by omega)]
  by_cases h1 : kd = 1
  · rw [if_pos h1, if_pos h1]
    by_cases h2 : w + 1 = n
    · rw [if_pos h2, if_pos (by omega)]; rfl
    · rw [if_neg h2, if_neg (by omega)]
  · rw [if_neg h1, if_neg h1]
def ofV (q : Il × Pa) (w k : Nat) : Int32 := if k = 0 then nI (i_kd q.1 w) else if k = 1 then nI (i_wt q.1 w) else if k = 2 then nI (i_ce q.1 w) else if k = 3 then i_sp q.1 w else if k = 4 then nI (trd (i_kd q.1 w) (i_wt q.1 w)) else if k = 5 then nI (sho (i_n q.1) (i_kd q.1 w) w) else nI (lnd (i_pr q.1) (i_set q.1 2) (i_n q.1) w)
theorem op_ofw (p k : Int32) : Op (f_X6_of p k) (f_X7_of p k) := by
  refine op_of (fun q => if gin p (i_n q.1) then (if rng k 0 (6 : Nat) then ofV q p.toNatClampNeg k.toNatClampNeg else -1) else -1) id (fun q h => h) (opC_read ?_) (opM_read ?_)
  · intro S q h1 h2
    have h6 := h2.1.1
    unfold f_X6_of
    rw [has_sp p h1.1.2.1 (by omega), g2s]
    cases hg : gin p (i_n q.1) with
    | false => exact ⟨S, rfl, Fr_rfl⟩
    | true =>
      rw [bI_t, if_neg one0, if_pos rfl]
      cases hk : rng k 0 (6 : Nat) with
      | false =>
        have hk2 : ¬ rng k 0 (6 : Nat) = true := by rw [hk]; decide
        rw [rng_iff] at hk2
        rw [if_pos (by omega)]
        exact ⟨S, rfl, Fr_rfl⟩
      | true =>
        obtain ⟨ep, hp⟩ := gin_clamp (by omega) hg
        obtain ⟨ek, hk2⟩ := rng_clamp (by decide) hk
        have hgp : gin p 6 = true := by rw [ep]; exact gin_t (by omega) (by decide)
        obtain ⟨w1, w2, w3, w4⟩ := h1.1.2.2.2.2.1 _ hp
        have hkd := (h2.1.2.2.2.2.1 _ hp).1
        have t1 := cTread (S := S) (w := p.toNatClampNeg) (by omega) hkd w1 w2
        have t2 := cShoes (S := S) (w := p.toNatClampNeg) h6 hp hkd w1 h1.1.2.1
        rw [← ep] at t1 t2
        obtain ⟨S', a, b, c, d⟩ := cLookQ h1 h2 (Nat.zero_le 48)
        rw [lkP_0] at d
        simp only [hgp, if_pos, t1, t2, g2s]
        generalize k.toNatClampNeg = j at ek hk2
        subst ek
        rw [n_0, a, Option.bind_some, d.1 _ (by omega), if_neg (by rw [nI_toInt (by omega)]; omega)]
        have : j = 0 ∨ j = 1 ∨ j = 2 ∨ j = 3 ∨ j = 4 ∨ j = 5 ∨ j = 6 := by omega
        rcases this with rfl | rfl | rfl | rfl | rfl | rfl | rfl
        · exact ⟨S, congrArg (fun z => some (z, S)) w1, Fr_rfl⟩
        · exact ⟨S, congrArg (fun z => some (z, S)) w2, Fr_rfl⟩
        · exact ⟨S, congrArg (fun z => some (z, S)) w3, Fr_rfl⟩
        · exact ⟨S, congrArg (fun z => some (z, S)) w4, Fr_rfl⟩
        · exact ⟨S, rfl, Fr_rfl⟩
        · exact ⟨S, rfl, Fr_rfl⟩
        · exact ⟨S', rfl, b.mono (by decide)⟩
  · intro S q h1 h2
    have h6 := h2.1.1
    unfold f_X7_of
    rw [mWalker_sp p h1.1.2.1 (by omega), g2s]
    cases hg : gin p (i_n q.1) with
    | false => exact ⟨S, rfl, Fr_rfl⟩
    | true =>
      rw [bI_t, if_neg one0, if_pos rfl, in_lit k (a := 0) (b := (6 : Nat)) S rfl rfl, g2s]
      cases hk : rng k 0 (6 : Nat) with
      | false => exact ⟨S, rfl, Fr_rfl⟩
      | true =>
        rw [bI_t, if_neg one0, if_pos rfl]
        obtain ⟨ep, hp⟩ := gin_clamp (by omega) hg
        obtain ⟨ek, hk2⟩ := rng_clamp (by decide) hk
        obtain ⟨w1, w2, w3, w4⟩ := h1.1.2.2.2.2.1 _ hp
        have hkd := (h2.1.2.2.2.2.1 _ hp).1
        have t1 := mDeep (S := S) (w := p.toNatClampNeg) (by omega) hkd w1 w2
        have t2 := mShoes (S := S) (w := p.toNatClampNeg) h6 hp hkd w1 h1.1.2.1
        have t3 := mLand (MI_cl h1.1 (WF_r h2)) (w := p.toNatClampNeg) (by omega)
        rw [← ep] at t1 t2 t3
        have e0 : (8 : Int32) + 4 * p = nI (8 + 4 * p.toNatClampNeg) := by rw [← mAt, ← ep]
        rw [t1, t2, t3, g2s, g2s, g2s, e0]
        generalize k.toNatClampNeg = j at ek hk2
        subst ek
        rw [nI_add, gin_t (by omega) (by decide), if_pos rfl, nI_clamp (by omega)]
        generalize p.toNatClampNeg = w at *
        have : j = 0 ∨ j = 1 ∨ j = 2 ∨ j = 3 ∨ j = 4 ∨ j = 5 ∨ j = 6 := by omega
        rcases this with rfl | rfl | rfl | rfl | rfl | rfl | rfl
        · rw [if_neg (by decide), show 8 + 4 * w + 0 = 8 + 4 * w by omega, w1]; exact ⟨S, rfl, Fr_rfl⟩
        · rw [if_neg (by decide), show 8 + 4 * w + 1 = 9 + 4 * w by omega, w2]; exact ⟨S, rfl, Fr_rfl⟩
        · rw [if_neg (by decide), show 8 + 4 * w + 2 = 10 + 4 * w by omega, w3]; exact ⟨S, rfl, Fr_rfl⟩
        · rw [if_neg (by decide), show 8 + 4 * w + 3 = 11 + 4 * w by omega, w4]; exact ⟨S, rfl, Fr_rfl⟩
        · exact ⟨S, rfl, Fr_rfl⟩
        · exact ⟨S, rfl, Fr_rfl⟩
        · exact ⟨S, rfl, Fr_rfl⟩
