/-! trodden cells -/
theorem cnt_mono (p : Nat → Bool) {a b : Nat} (h : a ≤ b) : cnt p a ≤ cnt p b := by
  induction b with
  | zero => obtain rfl : a = 0 := by omega
            exact Nat.le_refl _
  | succ b ih =>
    by_cases h1 : a = b + 1
    · rw [h1]; exact Nat.le_refl _
    · have := ih (by omega)
      rw [cnt]
      omega
theorem cnt_congr {p p' : Nat → Bool} : ∀ n, (∀ i, i < n → p i = p' i) → cnt p n = cnt p' n
  | 0, _ => rfl
  | n + 1, h => by rw [cnt, cnt, cnt_congr n (fun i hi => h i (by omega)), h n (by omega)]
def tro (P : Nat → Nat) (n c : Nat) : Nat := cnt (fun w => decide (0 < P (64 * w + c))) n
theorem tro_s (P : Nat → Nat) (n c : Nat) : tro P (n + 1) c = tro P n c + (if 0 < P (64 * n + c) then 1 else 0) := by
  unfold tro
  rw [cnt]
  by_cases h : 0 < P (64 * n + c)
  · rw [decide_eq_true h, if_pos rfl, if_pos h]
  · rw [decide_eq_false h, if_neg h]; rfl
theorem tro_end {P : Nat → Nat} {n c : Nat} (h : ∀ i, 64 * n ≤ i → P i = 0) : ∀ k, tro P (n + k) c = tro P n c
  | 0 => rfl
  | k + 1 => by rw [← Nat.add_assoc, tro_s, tro_end h k, h _ (by omega)]; rfl
theorem tro_6 {P : Nat → Nat} {n c : Nat} (hn : n ≤ 6) (h : ∀ i, 64 * n ≤ i → P i = 0) : tro P 6 c = tro P n c := by
  rw [show 6 = n + (6 - n) by omega, tro_end h]
theorem tro_le (P : Nat → Nat) (n c : Nat) : tro P n c ≤ n := cnt_le _ _
theorem cTrod {S : gSt} {P : Nat → Nat} (hb : ∀ i, P i ≤ 99) (hP : ∀ i, i < 384 → S.1 7 i = nI (P i)) {c : Nat} (hc : c < 64) : f_X0_isTrodden (nI c) S = some (bI (decide (0 < tro P 6 c)), S) := by
  unfold f_X0_isTrodden
  have key : ∃ R, gLoop f_X0_isTrodden_s2 gFuel (nI c, S) = some R ∧ ((0 < tro P 6 c ∧ R = Sum.inl (1, S)) ∨ (tro P 6 c = 0 ∧ R = Sum.inr S)) := by
    refine gLoop_up2 (fun i p => p = (nI (64 * i + c), S) ∧ tro P i c = 0) _ 6 (by omega) ?_ ?_ ⟨by rw [Nat.mul_zero, Nat.zero_add], rfl⟩
    · rintro i p hi ⟨rfl, h0⟩
      have hbi := hb (64 * i + c)
      dsimp only [f_X0_isTrodden_s2]
      unfold f_X0_isTrodden_s2_b
      rw [if_neg (by rw [n_384, nI_leI (by omega) (by omega)]; omega), gin_t (by omega) (by decide), if_pos rfl, nI_clamp (by omega), hP _ (by omega)]
      by_cases h1 : P (64 * i + c) ≤ 0
      · rw [if_pos (by rw [n_0, nI_leI (by omega) (by omega)]; exact h1), n_64, nI_add]
        exact Or.inl ⟨_, rfl, by rw [show 64 * i + c + 64 = 64 * (i + 1) + c by omega], by rw [tro_s, h0, if_neg (by omega)]⟩
      · rw [if_neg (by rw [n_0, nI_leI (by omega) (by omega)]; exact h1)]
        refine Or.inr ⟨_, rfl, Or.inl ⟨?_, rfl⟩⟩
        have h2 := cnt_mono (fun w => decide (0 < P (64 * w + c))) (show i + 1 ≤ 6 by omega)
        have h3 : tro P (i + 1) c = 1 := by rw [tro_s, h0, if_pos (by omega)]
        unfold tro at h3 ⊢
        omega
    · rintro p ⟨rfl, h0⟩
      dsimp only [f_X0_isTrodden_s2]
      unfold f_X0_isTrodden_s2_b
      rw [if_pos (by rw [n_384, nI_leI (by omega) (by omega)]; omega)]
      exact ⟨_, rfl, Or.inr ⟨h0, rfl⟩⟩
  obtain ⟨R, h1, ⟨h2, rfl⟩ | ⟨h2, rfl⟩⟩ := key
  · rw [h1, decide_eq_true h2]; rfl
  · rw [h1, h2]; rfl
def trc (P : Nat → Nat) (n : Nat) : Nat := cnt (fun c => decide (0 < tro P n c)) 64
theorem trc_6 {P : Nat → Nat} {n : Nat} (hn : n ≤ 6) (h : ∀ i, 64 * n ≤ i → P i = 0) : trc P 6 = trc P n := cnt_congr _ (fun c _ => by rw [tro_6 hn h])
theorem cTrc {S : gSt} {P : Nat → Nat} (hb : ∀ i, P i ≤ 99) (hP : ∀ i, i < 384 → S.1 7 i = nI (P i)) : f_X0_troddenCells S = some (nI (trc P 6), S) := by
  unfold f_X0_troddenCells
  have key : ∃ R, gLoop f_X0_troddenCells_s4 gFuel (0, 0, S) = some R ∧ R = (nI (trc P 6), S) := by
    refine gLoop_up (fun i p => p = (nI (cnt (fun c => decide (0 < tro P 6 c)) i), nI i, S)) _ 64 (by omega) ?_ ?_ rfl
    · rintro i p hi rfl
      dsimp only [f_X0_troddenCells_s4]
      unfold f_X0_troddenCells_s4_b
      rw [if_neg (by rw [n_64, nI_leI (by omega) (by omega)]; omega), cTrod hb hP hi, g2s, cnt]
      cases h1 : decide (0 < tro P 6 i) with
      | false => rw [bI_f, if_pos rfl, nI_1 i]; exact ⟨_, rfl, rfl⟩
      | true => rw [bI_t, if_neg one0, nI_1 i, nI_1, if_pos rfl]; exact ⟨_, rfl, rfl⟩
    · rintro p rfl
      dsimp only [f_X0_troddenCells_s4]
      unfold f_X0_troddenCells_s4_b
      rw [if_pos (by rw [n_64, nI_leI (by omega) (by omega)]; omega)]
      exact ⟨_, rfl, rfl⟩
  obtain ⟨R, h1, rfl⟩ := key
  rw [h1]; rfl
theorem mPrints {S : gSt} {P : Nat → Nat} {r n c : Nat} (h : mCl S P r n) (hc : c < 64) : f_X7_prints (nI c) S = some (nI (tro P n c), S) := by
  obtain ⟨hP, hb, hr, hn, h2, h5⟩ := h
  unfold f_X7_prints
  have e0 : (5 : Int32).toNatClampNeg = 5 := rfl
  have e1 : gin 5 416 = true := rfl
  have key : ∃ R, gLoop f_X7_prints_s4 gFuel (nI c, 0, 0, S) = some R ∧ R = (nI (tro P n c), S) := by
    refine gLoop_up (fun i p => p = (nI c, nI (tro P i c), nI i, S)) _ n (by omega) ?_ ?_ rfl
    · rintro i p hi rfl
      have hbi := hb (64 * i + c)
      dsimp only [f_X7_prints_s4]
      unfold f_X7_prints_s4_b
      rw [e1, if_pos rfl, e0, h5, if_neg (by rw [nI_leI (by omega) (by omega)]; omega), n_64, n_32, pk_mul, nI_add, nI_add, gin_t (by omega) (by decide), if_pos rfl, nI_clamp (by omega), show 32 + 64 * i + c = 32 + (64 * i + c) by omega, hP _ (by omega), gls, gls, nI_1 i, tro_s]
      by_cases h1 : P (64 * i + c) ≤ 0
      · rw [if_pos (by rw [n_0, nI_leI (by omega) (by omega)]; exact h1), if_neg (by omega)]
        exact ⟨_, rfl, by rw [n_0, nI_add]⟩
      · rw [if_neg (by rw [n_0, nI_leI (by omega) (by omega)]; exact h1), if_pos (by omega)]
        exact ⟨_, rfl, by rw [nI_1]⟩
    · rintro p rfl
      dsimp only [f_X7_prints_s4]
      unfold f_X7_prints_s4_b
      rw [e1, if_pos rfl, e0, h5, if_pos (by rw [nI_leI (by omega) (by omega)]; omega)]
      exact ⟨_, rfl, rfl⟩
  obtain ⟨R, h1, rfl⟩ := key
  rw [h1]; rfl
def cntV (q : Il × Pa) (k : Nat) : Nat := if k = 0 then i_n q.1 else if k = 1 then i_hr q.1 else if k ≤ 6 then i_set q.1 (k - 2) else if k = 7 then q.2.1 else if k = 8 then hld (i_pr q.1) (i_set q.1 2) (i_n q.1) else trc (i_pr q.1) (i_n q.1)
theorem ten {j : Nat} (h : j ≤ 9) : j = 0 ∨ j = 1 ∨ j = 2 ∨ j = 3 ∨ j = 4 ∨ j = 5 ∨ j = 6 ∨ j = 7 ∨ j = 8 ∨ j = 9 := by omega
theorem op_count (p : Int32) : Op (f_X6_count p) (f_X7_count p) := by
  refine op_of (fun q => if rng p 0 (9 : Nat) then nI (cntV q p.toNatClampNeg) else -1) id (fun q h => h) (opC_read ?_) (opM_read ?_)
  · intro S q h1 h2
    have h6 := h2.1.1
    unfold f_X6_count
    cases hk : rng p 0 (9 : Nat) with
    | false =>
      have hk2 : ¬ rng p 0 (9 : Nat) = true := by rw [hk]; decide
      rw [rng_iff] at hk2
      have hj : f_X6_count_j23 p S = some (-1, S) := by
        unfold f_X6_count_j23
        rw [if_pos (by omega)]
      rw [hj]
      have e6 : (6 : Int32).toInt = 6 := rfl
      have e2 : (2 : Int32).toInt = 2 := rfl
      by_cases h3 : p < 2
      · rw [if_pos h3]; exact ⟨S, rfl, Fr_rfl⟩
      · rw [if_neg h3, if_pos (by rw [lt_toInt] at h3 ⊢; omega)]; exact ⟨S, rfl, Fr_rfl⟩
    | true =>
      obtain ⟨ek, hk2⟩ := rng_clamp (by decide) hk
      generalize p.toNatClampNeg = j at ek hk2
      subst ek
      obtain ⟨S', a, b, c, d⟩ := cLookQ h1 h2 (Nat.zero_le 48)
      rw [lkP_0] at d
      have hs := h1.1.1
      have ht := cTrc h2.1.2.2.2.2.2.1 h1.1.2.2.2.2.2
      rw [trc_6 h6 h2.1.2.2.2.2.2.2] at ht
      rcases ten hk2 with rfl | rfl | rfl | rfl | rfl | rfl | rfl | rfl | rfl | rfl
      · exact ⟨S, congrArg (fun z => some (z, S)) h1.1.2.1, Fr_rfl⟩
      · exact ⟨S, congrArg (fun z => some (z, S)) h1.1.2.2.1, Fr_rfl⟩
      · exact ⟨S, congrArg (fun z => some (z, S)) (hs 0 (by decide)), Fr_rfl⟩
      · exact ⟨S, congrArg (fun z => some (z, S)) (hs 1 (by decide)), Fr_rfl⟩
      · exact ⟨S, congrArg (fun z => some (z, S)) (hs 2 (by decide)), Fr_rfl⟩
      · exact ⟨S, congrArg (fun z => some (z, S)) (hs 3 (by decide)), Fr_rfl⟩
      · exact ⟨S, congrArg (fun z => some (z, S)) (hs 4 (by decide)), Fr_rfl⟩
      · exact ⟨S, congrArg (fun z => some (z, S)) h1.2.1, Fr_rfl⟩
      · refine ⟨S', ?_, b.mono (by decide)⟩
        rw [if_neg (by decide), if_pos (by decide)]
        unfold f_X6_count_j23
        rw [n_0, a, Option.bind_some, d.2]
        rfl
      · refine ⟨S, ?_, Fr_rfl⟩
        rw [if_neg (by decide), if_pos (by decide)]
        unfold f_X6_count_j23
        rw [ht, g2s]
        rfl
  · intro S q h1 h2
    have h6 := h2.1.1
    have hcl := MI_cl h1.1 (WF_r h2)
    unfold f_X7_count
    have key : ∃ R, gLoop f_X7_count_s4 gFuel (p, 0, 0, S) = some R ∧ R = (p, nI (trc (i_pr q.1) (i_n q.1)), S) := by
      refine gLoop_up (fun i t => t = (p, nI (cnt (fun c => decide (0 < tro (i_pr q.1) (i_n q.1) c)) i), nI i, S)) _ 64 (by omega) ?_ ?_ rfl
      · rintro i t hi rfl
        have hl := tro_le (i_pr q.1) (i_n q.1) i
        dsimp only [f_X7_count_s4]
        unfold f_X7_count_s4_b
        rw [if_neg (by rw [n_64, nI_leI (by omega) (by omega)]; omega), mPrints hcl hi, g2s, gls, gls, cnt, nI_1 i]
        by_cases h3 : 0 < tro (i_pr q.1) (i_n q.1) i
        · rw [if_neg (by rw [n_0, nI_leI (by omega) (by omega)]; omega), decide_eq_true h3, if_pos rfl]
          exact ⟨_, rfl, by rw [nI_1]⟩
        · rw [if_pos (by rw [n_0, nI_leI (by omega) (by omega)]; omega), decide_eq_false h3]
          exact ⟨_, rfl, by rw [n_0, nI_add]; rfl⟩
      · rintro t rfl
        dsimp only [f_X7_count_s4]
        unfold f_X7_count_s4_b
        rw [if_pos (by rw [n_64, nI_leI (by omega) (by omega)]; omega)]
        exact ⟨_, rfl, rfl⟩
    obtain ⟨R, hR, rfl⟩ := key
    rw [hR, Option.bind_some]
    dsimp only
    cases hk : rng p 0 (9 : Nat) with
    | false =>
      have hk2 : ¬ rng p 0 (9 : Nat) = true := by rw [hk]; decide
      rw [rng_iff] at hk2
      rw [if_pos (by omega)]
      exact ⟨S, rfl, Fr_rfl⟩
    | true =>
      obtain ⟨ek, hk2⟩ := rng_clamp (by decide) hk
      generalize p.toNatClampNeg = j at ek hk2
      subst ek
      have hs := h1.1.1
      rw [mHeld hcl, g2s]
      rcases ten hk2 with rfl | rfl | rfl | rfl | rfl | rfl | rfl | rfl | rfl | rfl
      · exact ⟨S, congrArg (fun z => some (z, S)) h1.1.2.1, Fr_rfl⟩
      · exact ⟨S, congrArg (fun z => some (z, S)) h1.1.2.2.1, Fr_rfl⟩
      · exact ⟨S, congrArg (fun z => some (z, S)) (hs 0 (by decide)), Fr_rfl⟩
      · exact ⟨S, congrArg (fun z => some (z, S)) (hs 1 (by decide)), Fr_rfl⟩
      · exact ⟨S, congrArg (fun z => some (z, S)) (hs 2 (by decide)), Fr_rfl⟩
      · exact ⟨S, congrArg (fun z => some (z, S)) (hs 3 (by decide)), Fr_rfl⟩
      · exact ⟨S, congrArg (fun z => some (z, S)) (hs 4 (by decide)), Fr_rfl⟩
      · exact ⟨S, congrArg (fun z => some (z, S)) h1.2.2, Fr_rfl⟩
      · exact ⟨S, rfl, Fr_rfl⟩
      · exact ⟨S, rfl, Fr_rfl⟩
