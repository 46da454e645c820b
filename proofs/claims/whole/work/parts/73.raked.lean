theorem op_raked (s l a k : Int32) : Op (f_X6_raked s l a k) (f_X7_raked s l a k) := by
  intro S hR
  have hR0 := hR
  obtain ⟨⟨q, h1, h2, h3⟩, -, -, hS⟩ := hR
  have h6 := h3.1.1
  have e0 : (5 : Int32).toNatClampNeg = 5 := rfl
  have e1 : gin 5 416 = true := rfl
  have bad : (gin s 4 = false ∨ gin l 4 = false ∨ rng k 0 (1 : Nat) = false) → f_X7_raked s l a k S = some (-1, S) := by
    intro h
    unfold f_X7_raked
    rw [mSheet, g2s]
    cases g1 : gin s 4 with
    | false => rfl
    | true =>
      rw [bI_t, if_neg one0, mLane, g2s]
      cases g2 : gin l 4 with
      | false => rfl
      | true =>
        rw [bI_t, if_neg one0, in_lit k (a := 0) (b := (1 : Nat)) S rfl rfl, g2s]
        cases g3 : rng k 0 (1 : Nat) with
        | false => rfl
        | true =>
          rw [g1, g2, g3] at h
          rcases h with h | h | h <;> cases h
  cases hk : rng k 0 (1 : Nat) with
  | false =>
    refine ⟨-1, S, S, ?_, bad (Or.inr (Or.inr hk)), hR0⟩
    unfold f_X6_raked
    rw [rgB k 1 1 rfl, hk]; rfl
  | true =>
    have cc : ∀ R : Option (Int32 × gSt), (gBind2 (f_X6_itemsFault s l a (nI (i_n q.1)) S) fun r5 S3 => if 0 ≤ r5 then (gLoop (f_X6_raked_s40) gFuel (s, a, k, (0 : Int32), S3)).bind fun q13 => match q13 with
| .inl (v13, T13) => some (v13, T13)
| .inr (y1_13, y3_13, y4_13, S13) => (f_X3_look (0 : Int32) S13).bind fun S14 => if gin y1_13 4 then (gBind2 (f_X6_isLandOfAll (y1_13.toNatClampNeg) y3_13 S14) fun r19 S17 => (gLoop (f_X6_raked_s115) gFuel (y1_13, y3_13, y4_13, r19, (0 : Int32), (-4 : Int32), (63 : Int32), S17)).bind fun q33 => if q33.1 = 0 then some (q33.2.1, q33.2.2.2) else some (q33.2.2.1, q33.2.2.2)) else none else some (r5, S3)) = R → f_X6_raked s l a k S = R := by
      rintro R rfl
      unfold f_X6_raked
      rw [rgB k 1 1 rfl, hk, if_pos rfl, h1.1.2.1]
      rfl
    have mm : ∀ (T : gSt) (R : Option (Int32 × gSt)), gin s 4 = true → gin l 4 = true → T.1 48 = S.1 48 → (gBind2 (f_X7_why s l a (nI (i_n q.1)) T) fun r16 S14 => if 0 ≤ r16 then (gLoop (f_X7_raked_s61) gFuel (k, 24 * s + a, (0 : Int32), S14)).bind fun q26 => match q26 with
| .inl (v26, T26) => some (v26, T26)
| .inr (y4_26, y6_26, S26) => (f_X7_asides S26).bind fun S27 => (gLoop (f_X7_raked_s115) gFuel (y4_26, y6_26, (0 : Int32), (-4 : Int32), (0 : Int32), S27)).bind fun q56 => if q56.1 = 0 then some (q56.2.1, q56.2.2.2) else some (q56.2.2.1, q56.2.2.2) else some (r16, S14)) = R → f_X7_raked s l a k T = R := by
      rintro T R gs gl e rfl
      unfold f_X7_raked
      rw [mSheet, g2s, gs, bI_t, if_neg one0, mLane, g2s, gl, bI_t, if_neg one0, in_lit k (a := 0) (b := (1 : Nat)) T rfl rfl, g2s, hk, bI_t, if_neg one0, e1, if_pos rfl, e0, e, h2.1.2.1]
      rfl
    rcases items hS s l a (nI (i_n q.1)) with ⟨f1, f2⟩ | ⟨gs, gl, ⟨r, r0, f1, f2⟩ | ⟨j, aa, nn, rfl, hj, rfl, en, ha, f1, f2⟩⟩
    · refine ⟨-1, S, S, cc _ ?_, bad (f2.imp id Or.inl), hR0⟩
      rw [f1, g2s, if_neg (by decide)]
    · refine ⟨r, S, S, cc _ ?_, mm S _ gs gl rfl ?_, hR0⟩
      · rw [f1, g2s, if_neg (Int32.not_le.mpr r0)]
      · rw [f2 S rfl rfl, g2s, if_neg (Int32.not_le.mpr r0)]
    · have hnn : i_n q.1 = nn := (nI_eq (by omega) (by omega)).mp en
      rw [← hnn] at ha
      obtain ⟨V, hV⟩ : ∃ V, V = fun i => S.2 (37 + j) i := ⟨_, rfl⟩
      have v1 : ∀ i, i < 24 → S.2 (37 + j) i = V i := fun i _ => by rw [hV]
      have v2 : ∀ i, i < 24 → S.2 59 (24 * j + i) = V i := fun i hi => by rw [hV, ← (hS j hj).2 i hi]
      have k1 := cRkA k hj h1.1.2.1 v1 ha
      have eb : (24 : Int32) * nI j + nI aa = nI (24 * j + aa) := by rw [n_24, pk_mul, nI_add]
      cases ho : al (fun w => wth (V (aa + w)) 64) (i_n q.1) with
      | false =>
        have k2 := mRkA (S := S) k hj h2.1.2.1 v2 ha
        rw [ho] at k1 k2
        refine ⟨-2, S, S, cc _ ?_, mm S _ gs gl rfl ?_, hR0⟩
        · rw [f1, g2s, if_pos (by decide), k1]; rfl
        · rw [f2 S rfl rfl, g2s, if_pos (by decide), eb, k2]; rfl
      | true =>
        rw [ho] at k1
        obtain ⟨T, t1, t2, t3, t4⟩ := cLookQ h1 h3 (Nat.zero_le 48)
        rw [lkP_0] at t4
        have hTc : RC T 1 q := RC_fr (t2.mono (by decide)) h1
        have vT : ∀ i, i < 24 → T.2 (37 + j) i = V i := fun i hi => by rw [t2.1]; exact v1 i hi
        have la := cLandAll (V := V) (j := j) (a := aa) h6 hTc.1.2.1 vT ha t4
        obtain ⟨u, U, u1, u2, u3⟩ := cRkB (V := V) (j := j) (a := aa) k hTc h3 hj vT ha
        have fU : Fr [41, 42, 43] S U := t2.trans u2
        have eU48 : U.1 48 = S.1 48 := fU.2 48 (by decide)
        have vU : ∀ i, i < 24 → U.2 59 (24 * j + i) = V i := fun i hi => by rw [fU.1]; exact v2 i hi
        have k2 := mRkA (S := U) k hj (by rw [eU48]; exact h2.1.2.1) vU ha
        rw [ho] at k2
        obtain ⟨A, a1, a2, a3⟩ := mAside U
        have hMA : MI (A.1 48) q.1 := by rw [a2.2 48 (by decide), eU48]; exact h2.1
        obtain ⟨v, B, b1, b2, b3⟩ := mRkE (V := V) (j := j) (a := aa) k hMA h3 (fun i hi => by rw [a3 i hi, a2.2 48 (by decide)]) hj (fun i hi => by rw [a2.1]; exact vU i hi) ha
        have euv : u = v := Ls_eq u3 b3
        have hRel : Rel B := by
          refine Rel_irr ⟨by rw [b2.1, a2.1, fU.1], fun x hx => ?_⟩ hR0
          have n1 : x ∉ [49] := fun z => hx (by
            simp only [List.mem_cons, List.not_mem_nil, or_false] at z
            rw [z]; decide)
          have n2 : x ∉ [53] := fun z => hx (by
            simp only [List.mem_cons, List.not_mem_nil, or_false] at z
            rw [z]; decide)
          have n3 : x ∉ [41, 42, 43] := fun z => hx (by
            simp only [List.mem_cons, List.not_mem_nil, or_false] at z
            rcases z with rfl | rfl | rfl <;> decide)
          rw [b2.2 x n1, a2.2 x n2, fU.2 x n3]
        refine ⟨if k = 0 then nI (cnt (rkF V aa (i_pr q.1) (i_set q.1 2) (i_n q.1)) 64) else u, U, B, cc _ ?_, mm U _ gs gl eU48 ?_, hRel⟩
        · rw [f1, g2s, if_pos (by decide), k1, if_pos rfl, Option.bind_some]
          show ((f_X3_look 0 S).bind fun S14 => if gin (nI j) 4 then (gBind2 (f_X6_isLandOfAll ((nI j).toNatClampNeg) (nI aa) S14) fun r19 S17 => (gLoop (f_X6_raked_s115) gFuel (nI j, nI aa, k, r19, (0 : Int32), (-4 : Int32), (63 : Int32), S17)).bind fun q33 => if q33.1 = 0 then some (q33.2.1, q33.2.2.2) else some (q33.2.2.1, q33.2.2.2)) else none) = _
          have t1 : f_X3_look 0 S = some T := t1
          rw [t1, Option.bind_some, gs, if_pos rfl, nI_clamp (by omega), la, g2s, u1, Option.bind_some]
          by_cases h0 : k = 0
          · rw [if_pos h0, if_pos h0]
          · rw [if_neg h0, if_neg h0]
        · rw [f2 U (fU.2 57 (by decide)) (fU.2 58 (by decide)), g2s, if_pos (by decide), eb, k2, if_pos rfl, Option.bind_some]
          show ((f_X7_asides U).bind fun S27 => (gLoop (f_X7_raked_s115) gFuel (k, nI (24 * j + aa), (0 : Int32), (-4 : Int32), (0 : Int32), S27)).bind fun q56 => if q56.1 = 0 then some (q56.2.1, q56.2.2.2) else some (q56.2.2.1, q56.2.2.2)) = _
          rw [a1, Option.bind_some, b1, Option.bind_some, euv]
          by_cases h0 : k = 0
          · rw [if_pos h0, if_pos h0]
          · rw [if_neg h0, if_neg h0]
