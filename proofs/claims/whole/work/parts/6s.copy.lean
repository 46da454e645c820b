/-! copy -/
theorem gQ2_1 (S : gSt) (k : Nat) (f : Nat → Int64) : (gQ2 S k f).1 = S.1 := rfl
theorem gQ2_s (S : gSt) (k : Nat) (f : Nat → Int64) : (gQ2 S k f).2 k = f := by simp [gQ2, va_up]
theorem gQ2_k (S : gSt) {k i : Nat} (h : i ≠ k) (f : Nat → Int64) : (gQ2 S k f).2 i = S.2 i := by simp [gQ2, va_up, h]
theorem mMove1 {j a n : Nat} (hj : j < 4) (ha : a + n ≤ 24) (x y : Int32) (S : gSt) : ∃ S', gLoop f_X7_copy_s91 gFuel (nI j, nI a, x, y, nI n, 0, S) = some (x, y, nI n, S') ∧ S'.1 = S.1 ∧ (∀ k, k ≠ 60 → S'.2 k = S.2 k) ∧ ∀ i, i < n → S'.2 60 i = S.2 59 (24 * j + a + i) := by
  have key : ∃ R, gLoop f_X7_copy_s91 gFuel (nI j, nI a, x, y, nI n, 0, S) = some R ∧ ∃ T : gSt, R = (x, y, nI n, T) ∧ T.1 = S.1 ∧ (∀ k, k ≠ 60 → T.2 k = S.2 k) ∧ ∀ i, i < n → T.2 60 i = S.2 59 (24 * j + a + i) := by
    refine gLoop_up (fun i p => ∃ T : gSt, p = (nI j, nI a, x, y, nI n, nI i, T) ∧ T.1 = S.1 ∧ (∀ k, k ≠ 60 → T.2 k = S.2 k) ∧ ∀ c, c < i → T.2 60 c = S.2 59 (24 * j + a + c)) _ n (by omega) ?_ ?_ ⟨S, rfl, rfl, fun _ _ => rfl, fun c hc => by omega⟩
    · rintro i p hi ⟨T, rfl, h1, h2, h3⟩
      dsimp only [f_X7_copy_s91]
      unfold f_X7_copy_s91_b
      rw [if_neg (by rw [nI_leI (by omega) (by omega)]; omega), n_24, pk_mul, nI_add, nI_add, gin_t (by omega) (by decide), if_pos rfl, gin_t (by omega) (by decide), if_pos rfl, gls, nI_clamp (by omega), nI_clamp (by omega), nI_1]
      refine ⟨_, rfl, _, rfl, h1, fun k hk => by rw [gJ_k _ hk]; exact h2 k hk, fun c hc => ?_⟩
      by_cases hci : c = i
      · rw [hci, gJ_s, h2 59 (by decide)]
      · rw [gJ_i _ hci]; exact h3 c (by omega)
    · rintro p ⟨T, rfl, h1, h2, h3⟩
      dsimp only [f_X7_copy_s91]
      unfold f_X7_copy_s91_b
      rw [if_pos (by rw [nI_leI (by omega) (by omega)]; omega)]
      exact ⟨_, rfl, T, rfl, h1, h2, h3⟩
  obtain ⟨R, h1, T, rfl, h2⟩ := key
  exact ⟨T, h1, h2⟩
theorem mMove2 {j b n : Nat} (hj : j < 4) (hb : b + n ≤ 24) (S : gSt) : ∃ S', gLoop f_X7_copy_s128 gFuel (nI j, nI b, nI n, 0, S) = some (nI n, S') ∧ S'.1 = S.1 ∧ (∀ k, k ≠ 59 → S'.2 k = S.2 k) ∧ (∀ i, i < n → S'.2 59 (24 * j + b + i) = S.2 60 i) ∧ ∀ i, (i < 24 * j + b ∨ 24 * j + b + n ≤ i) → S'.2 59 i = S.2 59 i := by
  have key : ∃ R, gLoop f_X7_copy_s128 gFuel (nI j, nI b, nI n, 0, S) = some R ∧ ∃ T : gSt, R = (nI n, T) ∧ T.1 = S.1 ∧ (∀ k, k ≠ 59 → T.2 k = S.2 k) ∧ (∀ i, i < n → T.2 59 (24 * j + b + i) = S.2 60 i) ∧ ∀ i, (i < 24 * j + b ∨ 24 * j + b + n ≤ i) → T.2 59 i = S.2 59 i := by
    refine gLoop_up (fun i p => ∃ T : gSt, p = (nI j, nI b, nI n, nI i, T) ∧ T.1 = S.1 ∧ (∀ k, k ≠ 59 → T.2 k = S.2 k) ∧ (∀ c, c < i → T.2 59 (24 * j + b + c) = S.2 60 c) ∧ ∀ i, (i < 24 * j + b ∨ 24 * j + b + n ≤ i) → T.2 59 i = S.2 59 i) _ n (by omega) ?_ ?_ ⟨S, rfl, rfl, fun _ _ => rfl, fun c hc => by omega, fun _ _ => rfl⟩
    · rintro i p hi ⟨T, rfl, h1, h2, h3, h4⟩
      dsimp only [f_X7_copy_s128]
      unfold f_X7_copy_s128_b
      rw [if_neg (by rw [nI_leI (by omega) (by omega)]; omega), n_24, pk_mul, nI_add, nI_add, gin_t (show i < 24 by omega) (by decide), if_pos rfl, gin_t (show 24 * j + b + i < 96 by omega) (by decide), if_pos rfl, gls, nI_clamp (by omega), nI_clamp (by omega), nI_1]
      refine ⟨_, rfl, _, rfl, h1, fun k hk => by rw [gJ_k _ hk]; exact h2 k hk, fun c hc => ?_, fun c hc => ?_⟩
      · by_cases hci : c = i
        · rw [hci, gJ_s, h2 60 (by decide)]
        · rw [gJ_i _ (by omega)]; exact h3 c (by omega)
      · rw [gJ_i _ (by omega)]; exact h4 c hc
    · rintro p ⟨T, rfl, h1, h2, h3, h4⟩
      dsimp only [f_X7_copy_s128]
      unfold f_X7_copy_s128_b
      rw [if_pos (by rw [nI_leI (by omega) (by omega)]; omega)]
      exact ⟨_, rfl, T, rfl, h1, h2, h3, h4⟩
  obtain ⟨R, h1, T, rfl, h2⟩ := key
  exact ⟨T, h1, h2⟩
theorem cNo1 {S : gSt} {j : Nat} (h : S.1 (33 + j) 1 = -1) : f_X2_isNothing j S = some (1, S) := by
  unfold f_X2_isNothing
  rw [h, if_neg (by decide)]
theorem cNo0 {S : gSt} {j x : Nat} (hx : x < 4) (h : S.1 (33 + j) 1 = nI x) : f_X2_isNothing j S = some (0, S) := by
  unfold f_X2_isNothing
  rw [h, if_pos (nI_pos' (by omega))]
theorem op_copy (p a t b n : Int32) : Op (f_X6_copy p a t b n) (f_X7_copy p a t b n) := by
  intro S hR
  have hR0 := hR
  obtain ⟨-, -, -, hS⟩ := hR
  cases hg : gin p 4 with
  | false =>
    refine ⟨-1, S, S, ?_, ?_, hR0⟩
    · unfold f_X6_copy
      rw [cSheet, g2s, hg]; rfl
    · unfold f_X7_copy
      rw [mSheet, g2s, hg]; rfl
  | true =>
    cases ht : gin t 4 with
    | false =>
      refine ⟨-1, S, S, ?_, ?_, hR0⟩
      · unfold f_X6_copy
        rw [cSheet, g2s, hg, bI_t, if_neg one0, cSheet, g2s, ht]; rfl
      · unfold f_X7_copy
        rw [mSheet, g2s, hg, bI_t, if_neg one0, mSheet, g2s, ht]; rfl
    | true =>
      obtain ⟨ep, hp⟩ := gin_clamp (by decide) hg
      obtain ⟨et, ht2⟩ := gin_clamp (by decide) ht
      generalize p.toNatClampNeg = j at *
      generalize t.toNatClampNeg = k at *
      subst ep et
      have cj : (nI j).toNatClampNeg = j := nI_clamp (by omega)
      have ck : (nI k).toNatClampNeg = k := nI_clamp (by omega)
      rcases (hS j hp).1 with ⟨l1, l2⟩ | ⟨x, z, hx, hz, l1, l2, l3, l4⟩
      · refine ⟨-11, S, S, ?_, ?_, hR0⟩
        · unfold f_X6_copy
          rw [cSheet, g2s, hg, bI_t, if_neg one0, cSheet, g2s, ht, bI_t, if_neg one0, if_pos rfl, if_pos rfl, cj, ck, cNo1 l1, g2s, if_neg one0]
        · unfold f_X7_copy
          rw [mSheet, g2s, hg, bI_t, if_neg one0, mSheet, g2s, ht, bI_t, if_neg one0, if_pos rfl, cj, l2, if_pos (by decide)]
      · rcases (hS k ht2).1 with ⟨m1, m2⟩ | ⟨y, v, hy, hv, m1, m2, m3, m4⟩
        · refine ⟨-11, S, S, ?_, ?_, hR0⟩
          · unfold f_X6_copy
            rw [cSheet, g2s, hg, bI_t, if_neg one0, cSheet, g2s, ht, bI_t, if_neg one0, if_pos rfl, if_pos rfl, cj, ck, cNo0 hx l1, g2s, if_pos rfl, cNo1 m1, g2s, if_neg one0]
          · unfold f_X7_copy
            rw [mSheet, g2s, hg, bI_t, if_neg one0, mSheet, g2s, ht, bI_t, if_neg one0, if_pos rfl, cj, ck, l2, if_neg (nI_pos (by omega)), if_pos rfl, m2, if_neg (by decide)]
        · have h0 : (0 : Int32) ≤ nI y := nI_pos' (by omega)
          have c0 : ∀ R : Option (Int32 × gSt), (if nI x = nI y then (gBind2 (f_X2_spans j a n S) fun r22 S20 => if r22 = 0 then some ((-13 : Int32), S20) else gBind2 (f_X2_spans k b n S20) fun r26 S24 => if r26 = 0 then some ((-13 : Int32), S24) else if gcp a b n 24 24 then gLet (gQ2 S24 (37 + k) (va_cpy (S24.2 (37 + j)) (S24.2 (37 + k)) a.toNatClampNeg b.toNatClampNeg n.toNatClampNeg)) fun S29 => some (n, S29) else none) else some ((-12 : Int32), S)) = R → f_X6_copy (nI j) a (nI k) b n S = R := by
            rintro R rfl
            unfold f_X6_copy
            rw [cSheet, g2s, hg, bI_t, if_neg one0, cSheet, g2s, ht, bI_t, if_neg one0, if_pos rfl, if_pos rfl, cj, ck, cNo0 hx l1, g2s, if_pos rfl, cNo0 hy m1, g2s, if_pos rfl, l1, m1]
          have d0 : ∀ (T : gSt) (R : Option (Int32 × gSt)), T.1 57 = S.1 57 → (gBind2 (f_X7_why (nI k) (nI x) b n T) fun r27 S25 => if r27 = 0 then (gBind2 (f_X7_why (nI j) (S25.1 57 j) a n S25) fun r32 S30 => f_X7_copy_j78 (nI j) a (nI k) b n r32 S30) else f_X7_copy_j78 (nI j) a (nI k) b n r27 S25) = R → f_X7_copy (nI j) a (nI k) b n T = R := by
            rintro T R e57 rfl
            unfold f_X7_copy
            rw [mSheet, g2s, hg, bI_t, if_neg one0, mSheet, g2s, ht, bI_t, if_neg one0, if_pos rfl, cj, ck, e57, l2, if_neg (nI_pos (by omega)), if_pos rfl, m2, if_pos h0, if_pos rfl]
            rfl
          have w3 := fun (T : gSt) (e1 : T.1 57 = S.1 57) (e2 : T.1 58 = S.1 58) => mWhy (S := T) ht2 hy hv (by rw [e1]; exact m2) (by rw [e2]; exact m4) (nI x) b n
          have w1 := fun (T : gSt) (e1 : T.1 57 = S.1 57) (e2 : T.1 58 = S.1 58) => mWhy (S := T) hp hx hz (by rw [e1]; exact l2) (by rw [e2]; exact l4) (nI x) a n
          by_cases hxy : nI x = nI y
          · have hyx : nI y = nI x := hxy.symm
            cases s1 : spn z a n with
            | false =>
              refine ⟨-13, S, S, c0 _ ?_, d0 S _ rfl ?_, hR0⟩
              · rw [if_pos hxy, cSpans hz l3, g2s, s1]; rfl
              · rw [w3 S rfl rfl, g2s, if_pos hyx]
                cases s3 : spn v b n with
                | false => rfl
                | true =>
                  rw [if_pos rfl, if_pos rfl, l2, w1 S rfl rfl, g2s, if_pos rfl, s1]; rfl
            | true =>
              cases s3 : spn v b n with
              | false =>
                refine ⟨-13, S, S, c0 _ ?_, d0 S _ rfl ?_, hR0⟩
                · rw [if_pos hxy, cSpans hz l3, g2s, s1, bI_t, if_neg one0, cSpans hv m3, g2s, s3]; rfl
                · rw [w3 S rfl rfl, g2s, if_pos hyx, s3]; rfl
              | true =>
                have s1' := spn_iff.mp s1
                have s3' := spn_iff.mp s3
                have ra : rng a 0 (24 : Nat) = true := by rw [rng_iff]; omega
                have rb : rng b 0 (24 : Nat) = true := by rw [rng_iff]; omega
                have rn : rng n 0 (24 : Nat) = true := by rw [rng_iff]; omega
                obtain ⟨ea, ha2⟩ := rng_clamp (by decide) ra
                obtain ⟨eb, hb2⟩ := rng_clamp (by decide) rb
                obtain ⟨en, hn2⟩ := rng_clamp (by decide) rn
                generalize a.toNatClampNeg = aa at *
                generalize b.toNatClampNeg = bb at *
                generalize n.toNatClampNeg = nn at *
                subst ea eb en
                rw [nI_toInt (by omega), nI_toInt (by omega)] at s1' s3'
                have q1 : aa + nn ≤ 24 := by omega
                have q3 : bb + nn ≤ 24 := by omega
                obtain ⟨S1, hS1⟩ : ∃ S1, S1 = gQ2 S (37 + k) (va_cpy (S.2 (37 + j)) (S.2 (37 + k)) aa bb nn) := ⟨_, rfl⟩
                have e1 : S1.1 = S.1 := by rw [hS1]; rfl
                obtain ⟨S2, f1, f2, f3, f4⟩ := mMove1 hp q1 (nI k) (nI bb) S1
                obtain ⟨S3, g1, g2, g3, g4, g5⟩ := mMove2 ht2 q3 S2
                refine ⟨nI nn, S1, S3, c0 _ ?_, d0 S1 _ (by rw [e1]) ?_, ?_⟩
                · rw [if_pos hxy, cSpans hz l3, g2s, s1, bI_t, if_neg one0, cSpans hv m3, g2s, s3, bI_t, if_neg one0, gcp_t q1 q3 (by decide) (by decide), if_pos rfl, gls, hS1]
                · rw [w3 S1 (by rw [e1]) (by rw [e1]), g2s, if_pos hyx, s3, if_pos rfl, if_pos rfl, e1, l2, w1 S1 (by rw [e1]) (by rw [e1]), g2s, if_pos rfl, s1, if_pos rfl]
                  unfold f_X7_copy_j78
                  rw [if_pos (by decide), f1, Option.bind_some]
                  show (gLoop f_X7_copy_s128 gFuel (nI k, nI bb, nI nn, 0, S2)).bind _ = _
                  rw [g1]; rfl
                · refine Rel_it hR0 (by rw [g2, f2, e1]) (fun i hi c hc => ?_)
                  have o1 : S3.2 (37 + i) = S1.2 (37 + i) := by rw [g3 _ (by omega), f3 _ (by omega)]
                  have o59 : ∀ c, S2.2 59 c = S.2 59 c := fun c => by rw [f3 _ (by decide), hS1, gQ2_k _ (by omega)]
                  have om : ∀ c, c < nn → S2.2 60 c = S.2 59 (24 * j + aa + c) := fun c hc => by rw [f4 c hc, hS1, gQ2_k _ (by omega)]
                  rw [o1, hS1]
                  by_cases hik : i = k
                  · rw [hik, gQ2_s]
                    by_cases hcc : bb ≤ c ∧ c < bb + nn
                    · rw [pk_cpy_in hcc.1 hcc.2, show 24 * k + c = 24 * k + bb + (c - bb) by omega, g4 _ (by omega), om _ (by omega), (hS j hp).2 _ (by omega), Nat.add_assoc]
                    · rw [pk_cpy_out (by omega), g5 _ (by omega), o59, (hS k ht2).2 c hc]
                  · rw [gQ2_k _ (by omega), g5 _ (by omega), o59]
                    exact (hS i hi).2 c hc
          · refine ⟨-12, S, S, c0 _ ?_, d0 S _ rfl ?_, hR0⟩
            · rw [if_neg hxy]
            · have w := w3 S rfl rfl
              rw [if_neg (fun z => hxy z.symm)] at w
              rw [w, g2s]; rfl
