/-! Arrays.fill -/
theorem fill42 (v : Int32) (S : gSt) : ∃ S', f_J7_fill_53178_42 v S = some S' ∧ Fr [42] S S' ∧ ∀ i, i < 384 → S'.1 42 i = v := by
  unfold f_J7_fill_53178_42
  have key : ∃ R, gLoop f_J7_fill_53178_42_s5 gFuel (v, 0, 384, S) = some R ∧ Fr [42] S R ∧ ∀ i, i < 384 → R.1 42 i = v := by
    refine gLoop_up (fun i p => ∃ T, p = (v, nI i, 384, T) ∧ Fr [42] S T ∧ ∀ c, c < i → T.1 42 c = v) _ 384 (by omega) ?_ ?_ ⟨S, rfl, Fr_rfl, fun c hc => by omega⟩
    · rintro i p hi ⟨T, rfl, hT, hc⟩
      dsimp only [f_J7_fill_53178_42_s5]
      unfold f_J7_fill_53178_42_s5_b
      rw [if_neg (by rw [n_384, nI_leI (by omega) (by omega)]; omega), gin_t hi (by decide), if_pos rfl, gls, nI_clamp (by omega), nI_1]
      refine ⟨_, rfl, _, rfl, hT.trans (Fr_gI (by decide)), fun c hc2 => ?_⟩
      by_cases hci : c = i
      · subst hci; exact gI_s _ _ _ _
      · rw [gI_i _ hci]; exact hc c (by omega)
    · rintro p ⟨T, rfl, hT, hc⟩
      dsimp only [f_J7_fill_53178_42_s5]
      unfold f_J7_fill_53178_42_s5_b
      rw [if_pos (by rw [n_384, nI_leI (by omega) (by omega)]; omega)]
      exact ⟨_, rfl, hT, hc⟩
  obtain ⟨R, h1, h2⟩ := key
  exact ⟨R, by rw [h1]; rfl, h2⟩
theorem fill43 (v : Int32) (S : gSt) : ∃ S', f_J7_fill_53178_43 v S = some S' ∧ Fr [43] S S' ∧ ∀ i, i < 6 → S'.1 43 i = v := by
  unfold f_J7_fill_53178_43
  have key : ∃ R, gLoop f_J7_fill_53178_43_s5 gFuel (v, 0, 6, S) = some R ∧ Fr [43] S R ∧ ∀ i, i < 6 → R.1 43 i = v := by
    refine gLoop_up (fun i p => ∃ T, p = (v, nI i, 6, T) ∧ Fr [43] S T ∧ ∀ c, c < i → T.1 43 c = v) _ 6 (by omega) ?_ ?_ ⟨S, rfl, Fr_rfl, fun c hc => by omega⟩
    · rintro i p hi ⟨T, rfl, hT, hc⟩
      dsimp only [f_J7_fill_53178_43_s5]
      unfold f_J7_fill_53178_43_s5_b
      rw [if_neg (by rw [n_6, nI_leI (by omega) (by omega)]; omega), gin_t hi (by decide), if_pos rfl, gls, nI_clamp (by omega), nI_1]
      refine ⟨_, rfl, _, rfl, hT.trans (Fr_gI (by decide)), fun c hc2 => ?_⟩
      by_cases hci : c = i
      · subst hci; exact gI_s _ _ _ _
      · rw [gI_i _ hci]; exact hc c (by omega)
    · rintro p ⟨T, rfl, hT, hc⟩
      dsimp only [f_J7_fill_53178_43_s5]
      unfold f_J7_fill_53178_43_s5_b
      rw [if_pos (by rw [n_6, nI_leI (by omega) (by omega)]; omega)]
      exact ⟨_, rfl, hT, hc⟩
  obtain ⟨R, h1, h2⟩ := key
  exact ⟨R, by rw [h1]; rfl, h2⟩
theorem fill7 (v : Int32) (S : gSt) : ∃ S', f_J7_fill_53178_7 v S = some S' ∧ Fr [7] S S' ∧ ∀ i, i < 384 → S'.1 7 i = v := by
  unfold f_J7_fill_53178_7
  have key : ∃ R, gLoop f_J7_fill_53178_7_s5 gFuel (v, 0, 384, S) = some R ∧ Fr [7] S R ∧ ∀ i, i < 384 → R.1 7 i = v := by
    refine gLoop_up (fun i p => ∃ T, p = (v, nI i, 384, T) ∧ Fr [7] S T ∧ ∀ c, c < i → T.1 7 c = v) _ 384 (by omega) ?_ ?_ ⟨S, rfl, Fr_rfl, fun c hc => by omega⟩
    · rintro i p hi ⟨T, rfl, hT, hc⟩
      dsimp only [f_J7_fill_53178_7_s5]
      unfold f_J7_fill_53178_7_s5_b
      rw [if_neg (by rw [n_384, nI_leI (by omega) (by omega)]; omega), gin_t hi (by decide), if_pos rfl, gls, nI_clamp (by omega), nI_1]
      refine ⟨_, rfl, _, rfl, hT.trans (Fr_gI (by decide)), fun c hc2 => ?_⟩
      by_cases hci : c = i
      · subst hci; exact gI_s _ _ _ _
      · rw [gI_i _ hci]; exact hc c (by omega)
    · rintro p ⟨T, rfl, hT, hc⟩
      dsimp only [f_J7_fill_53178_7_s5]
      unfold f_J7_fill_53178_7_s5_b
      rw [if_pos (by rw [n_384, nI_leI (by omega) (by omega)]; omega)]
      exact ⟨_, rfl, hT, hc⟩
  obtain ⟨R, h1, h2⟩ := key
  exact ⟨R, by rw [h1]; rfl, h2⟩
/-! holderOf, tally -/
/-- the survey as it stands: claims of n walkers -/
def cSv (S : gSt) (P : Nat → Nat) (r n : Nat) : Prop := n ≤ 6 ∧ (∀ i, P i ≤ 99) ∧ S.1 41 3 = nI n ∧ ∀ w c, w < n → c < 64 → S.1 42 (64 * w + c) = nI (clm P r w c)
theorem cHolder {S : gSt} {P : Nat → Nat} {r n c : Nat} (h : cSv S P r n) (hc : c < 64) : f_X3_holderOf (nI c) S = some (hI (hol P r n c), S) := by
  obtain ⟨hn, hb, h3, hcl⟩ := h
  unfold f_X3_holderOf
  have key : ∃ R, gLoop f_X3_holderOf_s8 gFuel (nI c, 0, (-4 : Int32), 0, S) = some R ∧ R = (hI (hol P r n c), S) := by
    refine gLoop_up (fun i p => p = (nI c, nI (hf (fun w => clm P r w c) i).1, hI (hf (fun w => clm P r w c) i).2, nI i, S)) _ n (by omega) ?_ ?_ rfl
    · rintro i p hi rfl
      dsimp only [f_X3_holderOf_s8]
      unfold f_X3_holderOf_s8_b
      have hle := hf_le (fun w => clm P r w c) (m := 99) (fun w => clm_le hb r w c) i
      have hcl1 := clm_le hb r i c
      rw [h3, if_neg (by rw [nI_leI (by omega) (by omega)]; omega)]
      rw [show nI i * 64 + nI c = nI (64 * i + c) by rw [n_64, pk_mul, nI_add, Nat.mul_comm]]
      rw [gin_t (by omega) (by decide), if_pos rfl, gls, nI_clamp (by omega), hcl i c hi hc, nI_1 i]
      rw [show hf (fun w => clm P r w c) (i + 1) = hst (hf (fun w => clm P r w c) i) i (clm P r i c) from rfl]
      unfold hst
      by_cases h1 : clm P r i c ≤ (hf (fun w => clm P r w c) i).1
      · rw [if_pos ((nI_leI (by omega) (by omega)).mpr h1), if_pos h1]
        by_cases h2 : clm P r i c = (hf (fun w => clm P r w c) i).1
        · rw [if_pos ((nI_eq (by omega) (by omega)).mpr h2), if_pos h2]
          exact ⟨_, rfl, rfl⟩
        · rw [if_neg (fun z => h2 ((nI_eq (by omega) (by omega)).mp z)), if_neg h2]
          exact ⟨_, rfl, rfl⟩
      · rw [if_neg (fun z => h1 ((nI_leI (by omega) (by omega)).mp z)), if_neg h1]
        exact ⟨_, rfl, rfl⟩
    · rintro p rfl
      dsimp only [f_X3_holderOf_s8]
      unfold f_X3_holderOf_s8_b
      rw [h3, if_pos (by rw [nI_leI (by omega) (by omega)]; omega)]
      exact ⟨_, rfl, rfl⟩
  obtain ⟨R, h1, rfl⟩ := key
  rw [h1]; rfl
theorem cSv_fr {S S' : gSt} {P : Nat → Nat} {r n : Nat} (h : cSv S P r n) (e : S'.1 42 = S.1 42) (e2 : S'.1 41 3 = S.1 41 3) : cSv S' P r n := by
  unfold cSv at h ⊢
  rw [e, e2]
  exact h
/-- lands and the number of cells held -/
def cLd (S : gSt) (P : Nat → Nat) (r n : Nat) : Prop := (∀ w, w < 6 → S.1 43 w = nI (lnd P r n w)) ∧ S.1 41 2 = nI (hld P r n)
theorem cTally {S : gSt} {P : Nat → Nat} {r n : Nat} (h : cSv S P r n) : ∃ S', f_X3_tally S = some S' ∧ Fr [41, 43] S S' ∧ cSv S' P r n ∧ cLd S' P r n := by
  unfold f_X3_tally
  obtain ⟨S1, a1, a2, a3⟩ := fill43 0 S
  rw [a1, Option.bind_some, gls]
  have key : ∃ R, gLoop f_X3_tally_s15 gFuel (0, gI S1 41 2 0) = some R ∧ Fr [41, 43] S R ∧ cSv R P r n ∧ cLd R P r n := by
    refine gLoop_up (fun i p => ∃ T, p = (nI i, T) ∧ Fr [41, 43] S T ∧ cSv T P r n ∧ (∀ w, w < 6 → T.1 43 w = nI (cnt (fun c => decide (hol P r n c = some w)) i)) ∧ T.1 41 2 = nI (cnt (fun c => (hol P r n c).isSome) i)) _ 64 (by omega) ?_ ?_ ⟨gI S1 41 2 0, rfl, (a2.mono (by decide)).trans (Fr_gI (by decide)), cSv_fr h (by rw [gI_k _ (by decide)]; exact a2.2 42 (by decide)) (by rw [gI_i _ (by decide), a2.2 41 (by decide)]), fun w hw => by rw [gI_k _ (by decide)]; exact a3 w hw, gI_s _ _ _ _⟩
    · rintro i p hi ⟨T, rfl, b1, b2, b3, b4⟩
      dsimp only [f_X3_tally_s15]
      unfold f_X3_tally_s15_b
      have hn := b2.1
      rw [if_neg (by rw [n_64, nI_leI (by omega) (by omega)]; omega), cHolder b2 hi, g2s, nI_1 i]
      cases ho : hol P r n i with
      | none =>
        rw [if_pos (by decide)]
        refine ⟨_, rfl, T, rfl, b1, b2, fun w hw => ?_, ?_⟩
        · rw [b3 w hw, cnt, ho]; rfl
        · rw [b4, cnt, ho]; rfl
      | some v =>
        have hv : v < n := hol_lt ho
        rw [show hI (some v) = nI v from rfl, if_neg (nI_pos (by omega)), gin_t (by omega) (by decide), if_pos rfl, if_pos rfl, gls, gls, nI_clamp (by omega), b3 v (by omega), gI_k _ (by decide : 41 ≠ 43), b4]
        refine ⟨_, rfl, _, rfl, (b1.trans (Fr_gI (by decide))).trans (Fr_gI (by decide)), cSv_fr b2 (by rw [gI_k _ (by decide), gI_k _ (by decide)]) (by rw [gI_i _ (by decide), gI_k _ (by decide)]), fun w hw => ?_, ?_⟩
        · rw [gI_k _ (by decide), cnt, ho]
          by_cases hwv : w = v
          · subst hwv
            rw [gI_s, nI_1, if_pos (by simp)]
          · rw [gI_i _ hwv, b3 w hw, if_neg (by simp; exact fun z => hwv z.symm)]; rfl
        · rw [gI_s, cnt, ho, nI_1]; rfl
    · rintro p ⟨T, rfl, b1, b2, b3, b4⟩
      dsimp only [f_X3_tally_s15]
      unfold f_X3_tally_s15_b
      rw [if_pos (by rw [n_64, nI_leI (by omega) (by omega)]; omega)]
      exact ⟨_, rfl, b1, b2, b3, b4⟩
  obtain ⟨R, h1, h2⟩ := key
  exact ⟨R, by rw [show ((0 : Int32), gI S1 41 2 0) = (0, gI S1 41 2 0) from rfl, h1]; rfl, h2⟩
