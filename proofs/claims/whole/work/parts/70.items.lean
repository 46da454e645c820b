/-! items of a sheet, asked of both -/
theorem items {S : gSt} (hS : RS S) (p l a m : Int32) : (f_X6_itemsFault p l a m S = some (-1, S) ∧ (gin p 4 = false ∨ gin l 4 = false)) ∨ (gin p 4 = true ∧ gin l 4 = true ∧ ((∃ r : Int32, r < 0 ∧ f_X6_itemsFault p l a m S = some (r, S) ∧ ∀ T : gSt, T.1 57 = S.1 57 → T.1 58 = S.1 58 → f_X7_why p l a m T = some (r, T)) ∨ ∃ j aa mm : Nat, p = nI j ∧ j < 4 ∧ a = nI aa ∧ m = nI mm ∧ aa + mm ≤ 24 ∧ f_X6_itemsFault p l a m S = some (0, S) ∧ ∀ T : gSt, T.1 57 = S.1 57 → T.1 58 = S.1 58 → f_X7_why p l a m T = some (0, T))) := by
  cases hg : gin p 4 with
  | false =>
    left
    refine ⟨?_, Or.inl rfl⟩
    unfold f_X6_itemsFault
    rw [cSheet, g2s, hg]; rfl
  | true =>
    cases hl : gin l 4 with
    | false =>
      left
      refine ⟨?_, Or.inr rfl⟩
      unfold f_X6_itemsFault
      rw [cSheet, g2s, hg, bI_t, if_neg one0, hl4, hl]; rfl
    | true =>
      right
      refine ⟨rfl, rfl, ?_⟩
      obtain ⟨ep, hp⟩ := gin_clamp (by decide) hg
      generalize p.toNatClampNeg = j at *
      subst ep
      obtain ⟨k1, k2⟩ := cFault (S := S) hp l a m hl
      rcases (hS j hp).1 with ⟨l1, l2⟩ | ⟨x, z, hx, hz, l1, l2, l3, l4⟩
      · left
        refine ⟨-11, by decide, k1 l1, fun T e1 e2 => ?_⟩
        unfold f_X7_why
        rw [hg, if_pos rfl, nI_clamp (by omega), e1, l2, if_neg (by decide)]
      · have w := fun (T : gSt) (e1 : T.1 57 = S.1 57) (e2 : T.1 58 = S.1 58) => mWhy (S := T) hp hx hz (by rw [e1]; exact l2) (by rw [e2]; exact l4) l a m
        have c := k2 x z hx hz l1 l3
        by_cases hxl : nI x = l
        · rw [if_pos hxl] at c
          cases hs : spn z a m with
          | false =>
            left
            rw [hs] at c
            refine ⟨-13, by decide, c, fun T e1 e2 => ?_⟩
            rw [w T e1 e2, if_pos hxl, hs]; rfl
          | true =>
            right
            rw [hs, if_pos rfl] at c
            have hs' := spn_iff.mp hs
            have ra : rng a 0 (24 : Nat) = true := by rw [rng_iff]; omega
            have rm : rng m 0 (24 : Nat) = true := by rw [rng_iff]; omega
            obtain ⟨ea, ha2⟩ := rng_clamp (by decide) ra
            obtain ⟨em, hm2⟩ := rng_clamp (by decide) rm
            refine ⟨j, a.toNatClampNeg, m.toNatClampNeg, rfl, hp, ea, em, ?_, c, fun T e1 e2 => ?_⟩
            · rw [ea, em, nI_toInt (by omega), nI_toInt (by omega)] at hs'
              omega
            · rw [w T e1 e2, if_pos hxl, hs, if_pos rfl]
        · left
          rw [if_neg hxl] at c
          refine ⟨-12, by decide, c, fun T e1 e2 => ?_⟩
          rw [w T e1 e2, if_neg hxl]
/-- rows that nobody asks of, and items, changed -/
theorem Rel_ii {S S' : gSt} (h : Rel S) (hf : ∀ k, k ∉ irr → S'.1 k = S.1 k) (hs : ∀ j, j < 4 → ∀ i, i < 24 → S'.2 (37 + j) i = S'.2 59 (24 * j + i)) : Rel S' := by
  have h1 : Rel (S'.1, S.2) := Rel_irr (S := S) (S' := (S'.1, S.2)) ⟨rfl, hf⟩ h
  exact Rel_it (S' := S') h1 rfl hs
theorem rngA (v m : Int32) (L N : Nat) (hL : L < 2 ^ 31) (h : m.toInt = N) (l : Int32) (hl : l.toInt = L) {α : Type} (x y : α) : (if v < l then x else if v ≤ m then y else x) = if rng v L N then y else x := by
  simp only [lt_toInt, le_toInt, h, hl]
  by_cases h1 : v.toInt < L
  · rw [if_pos h1, if_neg (by rw [rng_iff]; omega)]
  · rw [if_neg h1]
    by_cases h2 : v.toInt ≤ (N : Int)
    · rw [if_pos h2, if_pos (by rw [rng_iff]; omega)]
    · rw [if_neg h2, if_neg (by rw [rng_iff]; omega)]
/-! film -/
def fiV (g : Il) (w i : Nat) : Int64 := (nI (lnd (lkP (i_pr g) none (i_set g) (i_hr g) (i + 1)) (i_set g 2) (i_n g) w)).toInt64
theorem cFilm {S : gSt} {q : Il × Pa} (h1 : RC S 1 q) (h2 : WF q) {w j a n : Nat} (hw : w < 6) (hj : j < 4) (ha : a + n ≤ 24) : ∃ S', gLoop f_X6_film_s47 gFuel (nI w, nI n, nI j, nI a, 0, S) = some (nI n, S') ∧ (∀ k, k ∉ [41, 42, 43] → S'.1 k = S.1 k) ∧ (∀ k, k ≠ 37 + j → S'.2 k = S.2 k) ∧ (∀ i, i < n → S'.2 (37 + j) (a + i) = fiV q.1 w i) ∧ ∀ i, (i < a ∨ a + n ≤ i) → S'.2 (37 + j) i = S.2 (37 + j) i := by
  have key : ∃ R, gLoop f_X6_film_s47 gFuel (nI w, nI n, nI j, nI a, 0, S) = some R ∧ ∃ T : gSt, R = (nI n, T) ∧ (∀ k, k ∉ [41, 42, 43] → T.1 k = S.1 k) ∧ (∀ k, k ≠ 37 + j → T.2 k = S.2 k) ∧ (∀ i, i < n → T.2 (37 + j) (a + i) = fiV q.1 w i) ∧ ∀ i, (i < a ∨ a + n ≤ i) → T.2 (37 + j) i = S.2 (37 + j) i := by
    refine gLoop_up (fun i p => ∃ T : gSt, p = (nI w, nI n, nI j, nI a, nI i, T) ∧ (∀ k, k ∉ [41, 42, 43] → T.1 k = S.1 k) ∧ (∀ k, k ≠ 37 + j → T.2 k = S.2 k) ∧ (∀ c, c < i → T.2 (37 + j) (a + c) = fiV q.1 w c) ∧ ∀ i, (i < a ∨ a + n ≤ i) → T.2 (37 + j) i = S.2 (37 + j) i) _ n (by omega) ?_ ?_ ⟨S, rfl, fun _ _ => rfl, fun _ _ => rfl, fun c hc => by omega, fun _ _ => rfl⟩
    · rintro i p hi ⟨T, rfl, b1, b2, b3, b4⟩
      dsimp only [f_X6_film_s47]
      unfold f_X6_film_s47_b
      have hT : RC T 1 q := RC_eq (fun k x y => b1 k (fun z => by
        simp only [List.mem_cons, List.not_mem_nil, or_false] at z
        omega)) h1
      obtain ⟨U, u1, u2, u3, u4⟩ := cLookQ hT h2 (show i + 1 ≤ 48 by omega)
      rw [if_neg (by rw [nI_leI (by omega) (by omega)]; omega), nI_1, u1, Option.bind_some, gin_t hj (by decide), if_pos rfl, gin_t hw (by decide), if_pos rfl, nI_add, gin_t (show a + i < 24 by omega) (by decide), if_pos rfl, gls, nI_clamp (by omega), nI_clamp (by omega), nI_clamp (by omega), u4.1 w hw]
      refine ⟨_, rfl, _, rfl, fun k hk => ?_, fun k hk => ?_, fun c hc => ?_, fun c hc => ?_⟩
      · show U.1 k = S.1 k
        rw [u2.2 k hk, b1 k hk]
      · rw [gJ_k _ hk, u2.1, b2 k hk]
      · by_cases hci : c = i
        · rw [hci, gJ_s]; rfl
        · rw [gJ_i _ (by omega), u2.1]; exact b3 c (by omega)
      · rw [gJ_i _ (by omega), u2.1]; exact b4 c hc
    · rintro p ⟨T, rfl, b⟩
      dsimp only [f_X6_film_s47]
      unfold f_X6_film_s47_b
      rw [if_pos (by rw [nI_leI (by omega) (by omega)]; omega)]
      exact ⟨_, rfl, T, rfl, b⟩
  obtain ⟨R, r1, T, rfl, r2⟩ := key
  exact ⟨T, r1, r2⟩
theorem mFilm {S : gSt} {g : Il} (hM : MI (S.1 48) g) (hw0 : WFr g) {w j a n : Nat} (hh : i_hr g + n ≤ 20000) (hw : w < 6) (hj : j < 4) (ha : a + n ≤ 24) : ∃ S', gLoop f_X7_film_s64 gFuel (nI w, nI n, nI j, nI a, 0, S) = some (nI n, S') ∧ (∀ k, k ≠ 48 → S'.1 k = S.1 k) ∧ (∀ i, 416 ≤ i → S'.1 48 i = S.1 48 i) ∧ (∀ k, k ≠ 59 → S'.2 k = S.2 k) ∧ (∀ i, i < n → S'.2 59 (24 * j + a + i) = fiV g w i) ∧ ∀ i, (i < 24 * j + a ∨ 24 * j + a + n ≤ i) → S'.2 59 i = S.2 59 i := by
  have h3 : 0 < i_set g 3 := Nat.lt_of_lt_of_le (by decide) hw0.2.2.1.2.2.2.1
  have key : ∃ R, gLoop f_X7_film_s64 gFuel (nI w, nI n, nI j, nI a, 0, S) = some R ∧ ∃ T : gSt, R = (nI n, T) ∧ (∀ k, k ≠ 48 → T.1 k = S.1 k) ∧ (∀ i, 416 ≤ i → T.1 48 i = S.1 48 i) ∧ (∀ k, k ≠ 59 → T.2 k = S.2 k) ∧ (∀ i, i < n → T.2 59 (24 * j + a + i) = fiV g w i) ∧ ∀ i, (i < 24 * j + a ∨ 24 * j + a + n ≤ i) → T.2 59 i = S.2 59 i := by
    refine gLoop_up (fun i p => ∃ T : gSt, p = (nI w, nI n, nI j, nI a, nI i, T) ∧ MI (T.1 48) (u_hrs g i) ∧ (∀ k, k ≠ 48 → T.1 k = S.1 k) ∧ (∀ i, 416 ≤ i → T.1 48 i = S.1 48 i) ∧ (∀ k, k ≠ 59 → T.2 k = S.2 k) ∧ (∀ c, c < i → T.2 59 (24 * j + a + c) = fiV g w c) ∧ ∀ i, (i < 24 * j + a ∨ 24 * j + a + n ≤ i) → T.2 59 i = S.2 59 i) _ n (by omega) ?_ ?_ ⟨S, rfl, hM, fun _ _ => rfl, fun _ _ => rfl, fun _ _ => rfl, fun c hc => by omega, fun _ _ => rfl⟩
    · rintro i p hi ⟨T, rfl, b0, b1, b2, b3, b4, b5⟩
      dsimp only [f_X7_film_s64]
      unfold f_X7_film_s64_b
      obtain ⟨U, u1, u2, u3⟩ := mBy b0 (WFr_hrs hw0 i (by omega))
      have hw1 := WFr_hrs hw0 (i + 1) (by omega)
      have hcl := MI_cl (g := u_hrs g (i + 1)) u3 hw1
      obtain ⟨e1, e2, -⟩ := u_hrs_p g (i + 1)
      rw [u_hrs_prf h3, e1, e2] at hcl
      rw [if_neg (by rw [nI_leI (by omega) (by omega)]; omega), u1, Option.bind_some, mLand hcl hw, g2s, n_24, pk_mul, nI_add, nI_add, gin_t (show 24 * j + a + i < 96 by omega) (by decide), if_pos rfl, gls, nI_clamp (by omega), nI_1]
      refine ⟨_, rfl, _, rfl, u3, fun k hk => ?_, fun c hc => ?_, fun k hk => ?_, fun c hc => ?_, fun c hc => ?_⟩
      · show U.1 k = S.1 k
        rw [u2.1.2 k (by simp [hk]), b1 k hk]
      · show U.1 48 c = S.1 48 c
        rw [u2.2 c hc, b2 c hc]
      · rw [gJ_k _ hk, u2.1.1, b3 k hk]
      · by_cases hci : c = i
        · rw [hci, gJ_s]; rfl
        · rw [gJ_i _ (by omega), u2.1.1]; exact b4 c (by omega)
      · rw [gJ_i _ (by omega), u2.1.1]; exact b5 c hc
    · rintro p ⟨T, rfl, b0, b⟩
      dsimp only [f_X7_film_s64]
      unfold f_X7_film_s64_b
      rw [if_pos (by rw [nI_leI (by omega) (by omega)]; omega)]
      exact ⟨_, rfl, T, rfl, b⟩
  obtain ⟨R, r1, T, rfl, r2⟩ := key
  exact ⟨T, r1, r2⟩
theorem op_film (p n s l a : Int32) : Op (f_X6_film p n s l a) (f_X7_film p n s l a) := by
  intro S hR
  have hR0 := hR
  obtain ⟨⟨q, h1, h2, h3⟩, -, -, hS⟩ := hR
  have h6 := h3.1.1
  cases hg : gin p (i_n q.1) with
  | false =>
    refine ⟨-1, S, S, ?_, ?_, hR0⟩
    · unfold f_X6_film
      rw [has_sp p h1.1.2.1 (by omega), g2s, hg]; rfl
    · unfold f_X7_film
      rw [mWalker_sp p h2.1.2.1 (by omega), g2s, hg]; rfl
  | true =>
    cases hn : rng n (1 : Nat) (24 : Nat) with
    | false =>
      refine ⟨-1, S, S, ?_, ?_, hR0⟩
      · unfold f_X6_film
        rw [has_sp p h1.1.2.1 (by omega), g2s, hg, bI_t, if_neg one0, rngA n 24 1 24 (by decide) rfl 1 rfl, hn]; rfl
      · unfold f_X7_film
        rw [mWalker_sp p h2.1.2.1 (by omega), g2s, hg, bI_t, if_neg one0, in_lit n (a := (1 : Nat)) (b := (24 : Nat)) S rfl rfl, g2s, hn]; rfl
    | true =>
      have cc : ∀ R : Option (Int32 × gSt), (gBind2 (f_X6_itemsFault s l a n S) fun r9 S7 => if 0 ≤ r9 then (gLoop (f_X6_film_s47) gFuel (p, n, s, a, (0 : Int32), S7)).bind fun q18 => some (q18.1, q18.2) else some (r9, S7)) = R → f_X6_film p n s l a S = R := by
        rintro R rfl
        unfold f_X6_film
        rw [has_sp p h1.1.2.1 (by omega), g2s, hg, bI_t, if_neg one0, rngA n 24 1 24 (by decide) rfl 1 rfl, hn, if_pos rfl]
      have mm : ∀ (T : gSt) (R : Option (Int32 × gSt)), T.1 48 = S.1 48 → (gBind2 (f_X7_isSheet s T) fun r11 S9 => if r11 = 0 then some ((-1 : Int32), S9) else gBind2 (f_X7_isLane l S9) fun r15 S13 => if r15 = 0 then some ((-1 : Int32), S13) else gBind2 (f_X7_why s l a n S13) fun r19 S17 => if 0 ≤ r19 then (f_X7_asides S17).bind fun S21 => (gLoop (f_X7_film_s64) gFuel (p, n, s, a, (0 : Int32), S21)).bind fun q31 => (f_X7_backs q31.2).bind fun S32 => some (q31.1, S32) else some (r19, S17)) = R → f_X7_film p n s l a T = R := by
        rintro T R e rfl
        unfold f_X7_film
        rw [mWalker_sp p (n := i_n q.1) (by rw [e]; exact h2.1.2.1) (by omega), g2s, hg, bI_t, if_neg one0, in_lit n (a := (1 : Nat)) (b := (24 : Nat)) T rfl rfl, g2s, hn, bI_t, if_neg one0]
      rcases items hS s l a n with ⟨f1, f2⟩ | ⟨gs, gl, ⟨r, r0, f1, f2⟩ | ⟨j, aa, nn, rfl, hj, rfl, rfl, ha, f1, f2⟩⟩
      · refine ⟨-1, S, S, cc _ ?_, mm S _ rfl ?_, hR0⟩
        · rw [f1, g2s, if_neg (by decide)]
        · rw [mSheet, g2s]
          cases gs : gin s 4 with
          | false => rfl
          | true =>
            rcases f2 with f2 | f2
            · rw [gs] at f2; cases f2
            · rw [bI_t, if_neg one0, mLane, g2s, f2]; rfl
      · refine ⟨r, S, S, cc _ ?_, mm S _ rfl ?_, hR0⟩
        · rw [f1, g2s, if_neg (Int32.not_le.mpr r0)]
        · rw [mSheet, g2s, gs, bI_t, if_neg one0, mLane, g2s, gl, bI_t, if_neg one0, f2 S rfl rfl, g2s, if_neg (Int32.not_le.mpr r0)]
      · obtain ⟨ep, hp⟩ := gin_clamp (by omega) hg
        generalize p.toNatClampNeg = w at *
        subst ep
        obtain ⟨S1, c1, c2, c3, c4, c5⟩ := cFilm h1 h3 (w := w) (by omega) hj ha
        have e48 : S1.1 48 = S.1 48 := c2 48 (by decide)
        obtain ⟨A, a1, a2, a3⟩ := mAside S1
        have hM : MI (A.1 48) q.1 := by rw [a2.2 48 (by decide), e48]; exact h2.1
        have hr := h3.1.2.1
        obtain ⟨B, b1, b2, b3, b4, b5, b6⟩ := mFilm hM (WF_r h3) (w := w) (j := j) (a := aa) (n := nn) (by omega) (by omega) hj ha
        obtain ⟨C, d1, d2, d3⟩ := mBack B
        have x48 : C.1 48 = S.1 48 := by
          funext i
          by_cases hi : i < 416
          · rw [d3 i hi, b2 53 (by decide), a3 i hi, e48]
          · rw [d2.2 i (by omega), b3 i (by omega), a2.2 48 (by decide), e48]
        refine ⟨nI nn, S1, C, cc _ ?_, mm S1 _ e48 ?_, Rel_ii hR0 (fun k hk => ?_) (fun i hi c hc => ?_)⟩
        · rw [f1, g2s, if_pos (by decide), c1]; rfl
        · rw [mSheet, g2s, gs, bI_t, if_neg one0, mLane, g2s, gl, bI_t, if_neg one0, f2 S1 (c2 57 (by decide)) (c2 58 (by decide)), g2s, if_pos (by decide), a1, Option.bind_some, b1, Option.bind_some, d1]; rfl
        · by_cases h48 : k = 48
          · rw [h48, x48]
          · have n1 : k ≠ 53 := fun z => hk (by rw [z]; decide)
            have n2 : k ∉ [41, 42, 43] := fun z => hk (by
              simp only [List.mem_cons, List.not_mem_nil, or_false] at z
              rcases z with rfl | rfl | rfl <;> decide)
            rw [d2.1.2 k (by simp [h48]), b2 k h48, a2.2 k (by simp [n1]), c2 k n2]
        · rw [d2.1.1, b4 _ (by omega), a2.1]
          by_cases hij : i = j
          · rw [hij]
            by_cases hcc : aa ≤ c ∧ c < aa + nn
            · rw [show c = aa + (c - aa) by omega, c4 _ (by omega), ← Nat.add_assoc, b5 _ (by omega)]
            · rw [c5 _ (by omega), b6 _ (by omega), a2.1, c3 59 (by omega)]
              exact (hS j hj).2 c hc
          · rw [c3 _ (by omega), b6 _ (by omega), a2.1, c3 59 (by omega)]
            exact (hS i hi).2 c hc
