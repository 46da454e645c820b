/-! settle -/
section Settle
variable {L : Nat → Nat} {len : Nat}
/-- the class's parse changes its own cells alone -/
def FrP (S S' : gSt) : Prop := S'.2 = S.2 ∧ (∀ k, k ≠ 27 → k ≠ 29 → k ≠ 30 → k ≠ 31 → S'.1 k = S.1 k) ∧ S'.1 27 4 = S.1 27 4
theorem FrP.trans {S T U : gSt} (h1 : FrP S T) (h2 : FrP T U) : FrP S U := ⟨h2.1.trans h1.1, fun k a b c d => (h2.2.1 k a b c d).trans (h1.2.1 k a b c d), h2.2.2.trans h1.2.2⟩
theorem FrP_C {S T : gSt} (h : FrC S T) : FrP S T := ⟨h.1, h.2.1, h.2.2 4 (by decide) (by decide)⟩
theorem FrP_27 {S : gSt} {j : Nat} {v : Int32} (h : j ≠ 4) : FrP S (gI S 27 j v) := ⟨rfl, fun k a _ _ _ => gI_k _ a _, gI_i _ (fun z => h z.symm) _⟩
theorem TC_27 {S : gSt} {p j : Nat} {v : Int32} (h : TC L len S p) (h4 : j ≠ 4) (h5 : j ≠ 5) : TC L len (gI S 27 j v) p := ⟨h.1, by rw [gI_i _ (fun z => h4 z.symm)]; exact h.2.1, by rw [gI_i _ (fun z => h5 z.symm)]; exact h.2.2.1, fun i hi => by rw [gI_k _ (by decide)]; exact h.2.2.2 i hi⟩
def PaN (L : Nat → Nat) (len q : Nat) : Prop := q ≤ len ∧ (∀ S, TC L len (gI S 27 5 0) 0 → ∃ S', f_X4_parse S = some (-20 - nI q, S') ∧ FrP S S') ∧ ∀ T, TM L len (gI (gI T 47 4 0) 47 5 0) 0 0 → ∃ x1 x2 x3 T', f_X7_settle T = f_X7_settle_j94 x1 x2 x3 T' ∧ T'.1 47 5 = 1 ∧ T'.1 47 4 = nI q ∧ FrR T T'
def PaY (L : Nat → Nat) (len a b n : Nat) (K M C : Nat → Nat) : Prop := a ≤ 9 ∧ b ≤ 3 ∧ 0 < n ∧ n ≤ 6 ∧ (∀ i, i < n → K i ≤ 4 ∧ 1 ≤ M i ∧ M i ≤ 9 ∧ C i < 64) ∧ (∀ S, TC L len (gI S 27 5 0) 0 → ∃ S', f_X4_parse S = some (nI n, S') ∧ FrP S S' ∧ S'.1 27 6 = nI a ∧ S'.1 27 7 = nI b ∧ S'.1 27 8 = nI n ∧ ∀ i, i < n → S'.1 29 i = nI (K i) ∧ S'.1 30 i = nI (M i) ∧ S'.1 31 i = nI (C i)) ∧ ∀ T, TM L len (gI (gI T 47 4 0) 47 5 0) 0 0 → ∃ T', f_X7_settle T = f_X7_settle_j94 (nI a) (nI b) (nI n) T' ∧ T'.1 47 5 = 0 ∧ FrR T T' ∧ ∀ i, i < n → T'.1 51 (3 * i) = nI (K i) ∧ T'.1 51 (3 * i + 1) = nI (M i) ∧ T'.1 51 (3 * i + 2) = nI (C i)
/-- behind a fault the reference goes to its end -/
theorem mFlt (hTP : TP L len) {V : gSt} {q : Nat} (h : TM L len V q 1) (hs : sB L len q = q) (x1 x2 : Int32) : ((f_X7_takes 59 V).bind fun S31 => (gLoop f_X7_settle_s33 gFuel (x1, x2, 0, S31)).bind fun q48 => f_X7_settle_j94 q48.1 q48.2.1 q48.2.2.1 q48.2.2.2) = f_X7_settle_j94 x1 x2 0 V := by
  rw [mTkF hTP h hs, Option.bind_some, show gFuel = 99999 + 1 from rfl, mEnd h.2.2.2.1, Option.bind_some]
theorem mSet0 (T : gSt) : f_X7_settle T = gBind2 (f_X7_digit (nI 0) (nI 9) (gI (gI T 47 4 0) 47 5 0)) fun r27 S25 => gBind2 (f_X7_digit (nI 0) (nI 3) S25) fun r30 S28 => (f_X7_takes 59 S28).bind fun S31 => (gLoop f_X7_settle_s33 gFuel (r27, r30, 0, S31)).bind fun q48 => f_X7_settle_j94 q48.1 q48.2.1 q48.2.2.1 q48.2.2.2 := rfl
theorem pa_sim (hTP : TP L len) : (∃ q, PaN L len q) ∨ ∃ a b n K M C, PaY L len a b n K M C := by
  have hl := hTP.1
  have z0 : (0 : Nat) ≤ len := Nat.zero_le _
  have s0 := sB_le (L := L) z0
  have c23 : ∀ S, TC L len (gI S 27 5 0) 0 → TC L len (gI (gI S 27 5 0) 27 8 0) 0 := fun S h => TC_27 h (by decide) (by decide)
  have f23 : ∀ S : gSt, FrP S (gI (gI S 27 5 0) 27 8 0) := fun S => (FrP_27 (by decide)).trans (FrP_27 (by decide))
  have fT : ∀ T : gSt, FrR T (gI (gI T 47 4 0) 47 5 0) := fun T => (FrR_47 (Or.inl rfl)).trans (FrR_47 (Or.inr rfl))
  by_cases t1 : tkc L len (48 + 0) (48 + 9) 0
  · have p1 : sB L len 0 + 1 ≤ len := by have := t1.1; omega
    have s1 := sB_le (L := L) p1
    have b1 := t1.2
    obtain ⟨q1, e1⟩ : ∃ q, q = sB L len 0 := ⟨_, rfl⟩
    rw [← e1] at b1 p1 s1
    -- the class behind WIND
    have c1 : ∀ S, TC L len (gI S 27 5 0) 0 → f_X4_parse S = (gBind2 (f_X4_take 48 51 (gI (gI (gI (gI S 27 5 0) 27 8 0) 27 5 (nI (q1 + 1))) 27 6 (nI (L q1 - 48)))) fun r31 S29 => f_X4_parse_j42 r31 S29) ∧ TC L len (gI (gI (gI (gI S 27 5 0) 27 8 0) 27 5 (nI (q1 + 1))) 27 6 (nI (L q1 - 48))) (q1 + 1) ∧ FrP S (gI (gI (gI (gI S 27 5 0) 27 8 0) 27 5 (nI (q1 + 1))) 27 6 (nI (L q1 - 48))) := by
      intro S h
      have k := cTakeY hTP (lo := 48) (hi := 57) (c23 S h) (by decide) (by decide) t1
      rw [← e1] at k
      have k : f_X4_take 48 57 _ = _ := k
      refine ⟨?_, TC_27 (TC_pl (c23 S h) p1) (by decide) (by decide), (f23 S).trans ((FrP_27 (by decide)).trans (FrP_27 (by decide)))⟩
      unfold f_X4_parse
      rw [gls, gls, k, g2s, gls, gI_s, if_pos (nI_pos' (by omega))]
    have m1 : ∀ T, TM L len (gI (gI T 47 4 0) 47 5 0) 0 0 → f_X7_settle T = (gBind2 (f_X7_digit (nI 0) (nI 3) (gI (gI (gI T 47 4 0) 47 5 0) 47 4 (nI (q1 + 1)))) fun r30 S28 => (f_X7_takes 59 S28).bind fun S31 => (gLoop f_X7_settle_s33 gFuel (nI (L q1 - 48), r30, 0, S31)).bind fun q48 => f_X7_settle_j94 q48.1 q48.2.1 q48.2.2.1 q48.2.2.2) ∧ TM L len (gI (gI (gI T 47 4 0) 47 5 0) 47 4 (nI (q1 + 1))) (q1 + 1) 0 ∧ FrR T (gI (gI (gI T 47 4 0) 47 5 0) 47 4 (nI (q1 + 1))) := by
      intro T h
      have k := mDigY hTP (lo := 0) (hi := 9) h (by decide) (by decide) t1
      rw [← e1] at k
      refine ⟨?_, TM_pl h p1, (fT T).trans (FrR_47 (Or.inl rfl))⟩
      rw [mSet0, k, g2s]
    by_cases t2 : tkc L len (48 + 0) (48 + 3) (q1 + 1)
    · have p2 : sB L len (q1 + 1) + 1 ≤ len := by have := t2.1; omega
      have s2 := sB_le (L := L) p2
      have b2 := t2.2
      obtain ⟨q2, e2⟩ : ∃ q, q = sB L len (q1 + 1) := ⟨_, rfl⟩
      rw [← e2] at b2 p2 s2
      have c2 : ∀ S, TC L len (gI S 27 5 0) 0 → ∃ U, f_X4_parse S = (gBind2 (f_X4_take 59 59 U) fun r5 S3 => if 0 ≤ r5 then (gLoop f_X4_parse_s73 gFuel (0, S3)).bind fun q21 => match q21 with
| .inl (v21, T21) => some (v21, T21)
| .inr S21 => some ((-20 : Int32) - (S21.1 27 5), S21) else some ((-20 : Int32) - (S3.1 27 5), S3)) ∧ TC L len U (q2 + 1) ∧ FrP S U ∧ U.1 27 6 = nI (L q1 - 48) ∧ U.1 27 7 = nI (L q2 - 48) := by
        intro S h
        obtain ⟨a1, a2, a3⟩ := c1 S h
        have k := cTakeY hTP (lo := 48) (hi := 51) a2 (by decide) (by decide) t2
        rw [← e2] at k
        have k : f_X4_take 48 51 _ = _ := k
        refine ⟨_, ?_, TC_27 (j := 7) (v := nI (L q2 - 48)) (TC_pl a2 p2) (by decide) (by decide), a3.trans ((FrP_27 (by decide)).trans (FrP_27 (by decide))), by rw [gI_i _ (by decide), gI_i _ (by decide), gI_s], gI_s _ _ _ _⟩
        rw [a1, k, g2s]
        unfold f_X4_parse_j42
        rw [gls, gI_s, if_neg (nI_pos (by omega))]
        rfl
      have m2 : ∀ T, TM L len (gI (gI T 47 4 0) 47 5 0) 0 0 → ∃ U, f_X7_settle T = ((f_X7_takes 59 U).bind fun S31 => (gLoop f_X7_settle_s33 gFuel (nI (L q1 - 48), nI (L q2 - 48), 0, S31)).bind fun q48 => f_X7_settle_j94 q48.1 q48.2.1 q48.2.2.1 q48.2.2.2) ∧ TM L len U (q2 + 1) 0 ∧ FrR T U := by
        intro T h
        obtain ⟨a1, a2, a3⟩ := m1 T h
        have k := mDigY hTP (lo := 0) (hi := 3) a2 (by decide) (by decide) t2
        rw [← e2] at k
        refine ⟨_, ?_, TM_pl a2 p2, a3.trans (FrR_47 (Or.inl rfl))⟩
        rw [a1, k, g2s]
      by_cases t3 : tkc L len 59 59 (q2 + 1)
      · have p3 : sB L len (q2 + 1) + 1 ≤ len := by have := t3.1; omega
        have b3 := t3.2
        rcases lp_sim hTP 6 0 (sB L len (q2 + 1) + 1) (sB L len (q2 + 1) + 1) rfl p3 p3 (Or.inl ⟨rfl, rfl⟩) with ⟨r, r1, r2, r3⟩ | ⟨n, K, M, C, n1, n2, n3, n4, n5⟩
        · left
          refine ⟨r, r1, fun S h => ?_, fun T h => ?_⟩
          · obtain ⟨U, u1, u2, u3, u4, u5⟩ := c2 S h
            have k := cTakeY hTP u2 (by decide) (by decide) t3
            have k : f_X4_take 59 59 U = _ := k
            obtain ⟨S', v1, v2⟩ := r2 _ gFuel (TC_pl u2 p3) (by decide)
            have fS : FrP S S' := u3.trans ((FrP_27 (by decide)).trans (FrP_C v2))
            rw [u1, k, g2s, if_pos (nI_pos' (by omega))]
            rcases v1 with v1 | ⟨v1, v3⟩
            · have v1 : gLoop f_X4_parse_s73 gFuel (0, gI U 27 5 (nI (sB L len (q2 + 1) + 1))) = _ := v1
              rw [v1]
              exact ⟨S', rfl, fS⟩
            · have v1 : gLoop f_X4_parse_s73 gFuel (0, gI U 27 5 (nI (sB L len (q2 + 1) + 1))) = _ := v1
              rw [v1]
              exact ⟨S', by rw [← v3]; rfl, fS⟩
          · obtain ⟨U, u1, u2, u3⟩ := m2 T h
            have k := mTkY hTP u2 (by decide) t3
            have k : f_X7_takes 59 U = _ := k
            obtain ⟨T', x3, v1, v2, v3, v4⟩ := r3 _ gFuel (nI (L q1 - 48)) (nI (L q2 - 48)) (TM_pl u2 p3) (by decide)
            have v1 : gLoop f_X7_settle_s33 gFuel (nI (L q1 - 48), nI (L q2 - 48), 0, gI U 47 4 (nI (sB L len (q2 + 1) + 1))) = _ := v1
            refine ⟨nI (L q1 - 48), nI (L q2 - 48), x3, T', ?_, v2, v3, u3.trans ((FrR_47 (Or.inl rfl)).trans v4)⟩
            rw [u1, k, Option.bind_some, v1, Option.bind_some]
        · right
          refine ⟨L q1 - 48, L q2 - 48, n, K, M, C, by omega, by omega, n1, n2, fun i hi => n3 i (Nat.zero_le _) hi, fun S h => ?_, fun T h => ?_⟩
          · obtain ⟨U, u1, u2, u3, u4, u5⟩ := c2 S h
            have k := cTakeY hTP u2 (by decide) (by decide) t3
            have k : f_X4_take 59 59 U = _ := k
            obtain ⟨S', v1, v2, v3, v4, v5⟩ := n4 _ gFuel (TC_pl u2 p3) (by decide)
            have v1 : gLoop f_X4_parse_s73 gFuel (0, gI U 27 5 (nI (sB L len (q2 + 1) + 1))) = _ := v1
            refine ⟨S', ?_, u3.trans ((FrP_27 (by decide)).trans (FrP_C v5)), ?_, ?_, v2, fun i hi => v3 i (Nat.zero_le _) hi⟩
            · rw [u1, k, g2s, if_pos (nI_pos' (by omega)), v1]; rfl
            · rw [v5.2.2 6 (by decide) (by decide), gI_i _ (by decide)]; exact u4
            · rw [v5.2.2 7 (by decide) (by decide), gI_i _ (by decide)]; exact u5
          · obtain ⟨U, u1, u2, u3⟩ := m2 T h
            have k := mTkY hTP u2 (by decide) t3
            have k : f_X7_takes 59 U = _ := k
            obtain ⟨T', v1, v2, v3, v4, v5⟩ := n5 _ gFuel (nI (L q1 - 48)) (nI (L q2 - 48)) (TM_pl u2 p3) (by decide)
            have v1 : gLoop f_X7_settle_s33 gFuel (nI (L q1 - 48), nI (L q2 - 48), 0, gI U 47 4 (nI (sB L len (q2 + 1) + 1))) = _ := v1
            refine ⟨T', ?_, v2, u3.trans ((FrR_47 (Or.inl rfl)).trans v5), fun i hi => v3 i (Nat.zero_le _) hi⟩
            rw [u1, k, Option.bind_some, v1, Option.bind_some]
      · left
        have s3 := sB_le (L := L) p2
        refine ⟨sB L len (q2 + 1), s3, fun S h => ?_, fun T h => ?_⟩
        · obtain ⟨U, u1, u2, u3, u4, u5⟩ := c2 S h
          have k := cTakeN hTP u2 (by decide) (by decide) t3
          have k : f_X4_take 59 59 U = _ := k
          refine ⟨_, ?_, u3.trans (FrP_27 (j := 5) (v := nI (sB L len (q2 + 1))) (by decide))⟩
          rw [u1, k, g2s, if_neg (by decide), gI_s]
        · obtain ⟨U, u1, u2, u3⟩ := m2 T h
          have k := mTkN hTP u2 (by decide) (by decide) t3
          have k : f_X7_takes 59 U = _ := k
          refine ⟨nI (L q1 - 48), nI (L q2 - 48), 0, gI (gI U 47 4 (nI (sB L len (q2 + 1)))) 47 5 1, ?_, gI_s _ _ _ _, by rw [gI_i _ (by decide), gI_s], u3.trans ((FrR_47 (Or.inl rfl)).trans (FrR_47 (Or.inr rfl)))⟩
          rw [u1, k, Option.bind_some, show gFuel = 99999 + 1 from rfl, mEnd (gI_s _ _ _ _), Option.bind_some]
    · left
      refine ⟨sB L len (q1 + 1), s1, fun S h => ?_, fun T h => ?_⟩
      · obtain ⟨a1, a2, a3⟩ := c1 S h
        have k := cTakeN hTP (lo := 48) (hi := 51) a2 (by decide) (by decide) t2
        have k : f_X4_take 48 51 _ = _ := k
        rw [a1, k, g2s]
        unfold f_X4_parse_j42
        rw [gls, gI_s, if_pos (by decide), gI_i _ (show 5 ≠ 7 by decide), gI_s]
        exact ⟨_, rfl, a3.trans ((FrP_27 (by decide)).trans (FrP_27 (by decide)))⟩
      · obtain ⟨a1, a2, a3⟩ := m1 T h
        obtain ⟨r, k⟩ := mDigN hTP (lo := 0) (hi := 3) a2 (by decide) (by decide) t2
        have hF := TM_fl (c := 1) (TM_pl a2 s1)
        refine ⟨nI (L q1 - 48), r, 0, gI (gI (gI (gI (gI T 47 4 0) 47 5 0) 47 4 (nI (q1 + 1))) 47 4 (nI (sB L len (q1 + 1)))) 47 5 1, ?_, gI_s _ _ _ _, by rw [gI_i _ (by decide), gI_s], a3.trans ((FrR_47 (Or.inl rfl)).trans (FrR_47 (Or.inr rfl)))⟩
        rw [a1, k, g2s, mFlt hTP hF (sB_id hl)]
  · left
    refine ⟨sB L len 0, s0, fun S h => ?_, fun T h => ?_⟩
    · have k := cTakeN hTP (lo := 48) (hi := 57) (c23 S h) (by decide) (by decide) t1
      have k : f_X4_take 48 57 _ = _ := k
      unfold f_X4_parse
      rw [gls, gls, k, g2s, gls, gI_s, if_neg (by decide)]
      unfold f_X4_parse_j42
      rw [gls, gI_s, if_pos (by decide), gI_i _ (show 5 ≠ 7 by decide), gI_i _ (show 5 ≠ 6 by decide), gI_s]
      exact ⟨_, rfl, (f23 S).trans ((FrP_27 (by decide)).trans ((FrP_27 (by decide)).trans (FrP_27 (by decide))))⟩
    · obtain ⟨r, k⟩ := mDigN hTP (lo := 0) (hi := 9) h (by decide) (by decide) t1
      have hF := TM_fl (c := 1) (TM_pl h s0)
      refine ⟨r, -1, 0, gI (gI (gI (gI T 47 4 0) 47 5 0) 47 4 (nI (sB L len 0))) 47 5 1, ?_, gI_s _ _ _ _, by rw [gI_i _ (by decide), gI_s], (fT T).trans ((FrR_47 (Or.inl rfl)).trans (FrR_47 (Or.inr rfl)))⟩
      rw [mSet0, k, g2s, mDigF (gI_s _ _ _ _), g2s, mFlt hTP hF (sB_id hl)]
end Settle
