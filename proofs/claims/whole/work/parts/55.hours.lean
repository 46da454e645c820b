/-! an hour of the reference -/
def fad (st : Nat → Nat) (hr p row : Nat) : Nat := if row < st 4 ∧ hr % st 3 = 0 then 0 else p - (if row < st 0 then 1 else st 1)
theorem fad_le (st : Nat → Nat) (hr p row : Nat) : fad st hr p row ≤ p := by
  unfold fad
  split <;> omega
theorem dep_0 (st : Nat → Nat) (hr p row : Nat) : dep st hr p row 0 = p := by
  unfold dep
  rw [if_neg (by rw [Nat.add_zero]; exact fun z => absurd z.2 (Nat.lt_irrefl _))]
  split <;> omega
theorem dep_s {st : Nat → Nat} (h3 : 0 < st 3) (hr p row h : Nat) : dep st hr p row (h + 1) = fad st (hr + h + 1) (dep st hr p row h) row := by
  unfold dep fad
  have hd : (hr + (h + 1)) / st 3 = (hr + h) / st 3 + if (hr + h + 1) % st 3 = 0 then 1 else 0 := by
    rw [← Nat.add_assoc, Nat.succ_div]
    simp only [Nat.dvd_iff_mod_eq_zero]
  have hmono : hr / st 3 ≤ (hr + h) / st 3 := Nat.div_le_div_right (by omega)
  have hmul : (h + 1) * st 1 = h * st 1 + st 1 := Nat.succ_mul _ _
  rw [hd, hmul]
  by_cases hm : (hr + h + 1) % st 3 = 0
  · rw [if_pos hm]
    by_cases hw : row < st 0
    · simp only [if_pos hw]
      split <;> split <;> (try split) <;> omega
    · simp only [if_neg hw]
      split <;> split <;> (try split) <;> omega
  · rw [if_neg hm]
    by_cases hw : row < st 0
    · simp only [if_pos hw]
      split <;> split <;> (try split) <;> omega
    · simp only [if_neg hw]
      split <;> split <;> (try split) <;> omega
def u_hr (g : Il) : Il := (i_set g, i_n g, i_hr g + 1, i_dr g, i_kd g, i_wt g, i_ce g, i_sp g, fun i => fad (i_set g) (i_hr g + 1) (i_pr g i) (i % 64 / 8))
/-- what hours need of the numbers -/
def WFr (g : Il) : Prop := i_n g ≤ 6 ∧ i_hr g ≤ 20000 ∧ WFset (i_set g) ∧ WFpr (i_n g) (i_pr g)
theorem WFpr_hr {g : Il} (h : WFpr (i_n g) (i_pr g)) : WFpr (i_n (u_hr g)) (i_pr (u_hr g)) := by
  refine ⟨fun i => ?_, fun i hi => ?_⟩
  · have := fad_le (i_set g) (i_hr g + 1) (i_pr g i) (i % 64 / 8)
    have := h.1 i
    show fad _ _ _ _ ≤ 99
    omega
  · have := fad_le (i_set g) (i_hr g + 1) (i_pr g i) (i % 64 / 8)
    have := h.2 i hi
    show fad _ _ _ _ = 0
    omega
/-- only the row has changed, within its 416 places -/
def Fr8 (S S' : gSt) : Prop := Fr [48] S S' ∧ ∀ i, 416 ≤ i → S'.1 48 i = S.1 48 i
theorem Fr8_rfl {S : gSt} : Fr8 S S := ⟨Fr_rfl, fun _ _ => rfl⟩
theorem Fr8.trans {S T U : gSt} (h1 : Fr8 S T) (h2 : Fr8 T U) : Fr8 S U := ⟨h1.1.trans h2.1, fun i hi => (h2.2 i hi).trans (h1.2 i hi)⟩
theorem Fr8_gI {S : gSt} {j : Nat} {v : Int32} (hj : j < 416) : Fr8 S (gI S 48 j v) := ⟨Fr_gI (by decide), fun i hi => gI_i _ (by omega) _⟩
theorem mBy {S : gSt} {g : Il} (hM : MI (S.1 48) g) (hw : WFr g) : ∃ S', f_X7_goesBy S = some S' ∧ Fr8 S S' ∧ MI (S'.1 48) (u_hr g) := by
  obtain ⟨m1, m2, m3, m4, m5, m6⟩ := hM
  obtain ⟨hn, hh, ⟨w0, w1, w2, w3, w4, w5⟩, hp1, hp2⟩ := hw
  have e5 : (5 : Int32).toNatClampNeg = 5 := rfl
  have g5 : gin 5 416 = true := rfl
  have e0 : (0 : Int32).toNatClampNeg = 0 := rfl
  have g0 : gin 0 416 = true := rfl
  have e1 : (1 : Int32).toNatClampNeg = 1 := rfl
  have g1 : gin 1 416 = true := rfl
  have e4 : (4 : Int32).toNatClampNeg = 4 := rfl
  have g4 : gin 4 416 = true := rfl
  have e6 : (6 : Int32).toNatClampNeg = 6 := rfl
  have g6 : gin 6 416 = true := rfl
  have e3 : (3 : Int32).toNatClampNeg = 3 := rfl
  have g3 : gin 3 416 = true := rfl
  -- the loop
  have loop : ∀ (t : Bool) (S1 : gSt), t = decide ((i_hr g + 1) % i_set g 3 = 0) → Fr8 S S1 → S1.1 48 6 = nI (i_hr g + 1) → (∀ j, j < 416 → j ≠ 6 → S1.1 48 j = S.1 48 j) → ∃ S', f_X7_goesBy_j33 (bI t) S1 = some S' ∧ Fr8 S S' ∧ MI (S'.1 48) (u_hr g) := by
    intro t S1 ht hF h6 hsame
    unfold f_X7_goesBy_j33
    have key : ∃ R, gLoop f_X7_goesBy_s36 gFuel (bI t, 0, S1) = some R ∧ Fr8 S R ∧ MI (R.1 48) (u_hr g) := by
      refine gLoop_up (fun i p => ∃ T, p = (bI t, nI i, T) ∧ Fr8 S T ∧ T.1 48 6 = nI (i_hr g + 1) ∧ (∀ j, j < 32 → j ≠ 6 → T.1 48 j = S.1 48 j) ∧ ∀ k, k < 384 → T.1 48 (32 + k) = nI (if k < i then fad (i_set g) (i_hr g + 1) (i_pr g k) (k % 64 / 8) else i_pr g k)) _ (64 * i_n g) (by omega) ?_ ?_ ⟨S1, rfl, hF, h6, fun j hj hj6 => hsame j (by omega) hj6, fun k hk => by rw [hsame _ (by omega) (by omega), m6 k hk, if_neg (by omega)]⟩
      · rintro i p hi ⟨T, rfl, b1, b2, b3, b4⟩
        dsimp only [f_X7_goesBy_s36]
        unfold f_X7_goesBy_s36_b f_X7_goesBy_j86
        have hpi := hp1 i
        have hT : ∀ (v : Nat), v = fad (i_set g) (i_hr g + 1) (i_pr g i) (i % 64 / 8) → ∃ p', some ((Sum.inl (bI t, nI (i + 1), gI T 48 (32 + i) (nI v))) : (Int32 × Int32 × gSt) ⊕ gSt) = some (Sum.inl p') ∧ ∃ T, p' = (bI t, nI (i + 1), T) ∧ Fr8 S T ∧ T.1 48 6 = nI (i_hr g + 1) ∧ (∀ j, j < 32 → j ≠ 6 → T.1 48 j = S.1 48 j) ∧ ∀ k, k < 384 → T.1 48 (32 + k) = nI (if k < i + 1 then fad (i_set g) (i_hr g + 1) (i_pr g k) (k % 64 / 8) else i_pr g k) := by
          rintro v rfl
          refine ⟨_, rfl, _, rfl, b1.trans (Fr8_gI (by omega)), by rw [gI_i _ (by omega)]; exact b2, fun j hj hj6 => by rw [gI_i _ (by omega)]; exact b3 j hj hj6, fun k hk => ?_⟩
          by_cases hki : k = i
          · subst hki; rw [gI_s, if_pos (by omega)]
          · rw [gI_i _ (by omega), b4 k hk]
            by_cases hk2 : k < i
            · rw [if_pos hk2, if_pos (by omega)]
            · rw [if_neg hk2, if_neg (by omega)]
        have c5 : T.1 48 5 = nI (i_n g) := by rw [b3 5 (by decide) (by decide)]; exact m2
        have c0 : T.1 48 0 = nI (i_set g 0) := by rw [b3 0 (by decide) (by decide)]; exact m1 0 (by decide)
        have c1 : T.1 48 1 = nI (i_set g 1) := by rw [b3 1 (by decide) (by decide)]; exact m1 1 (by decide)
        have c4 : T.1 48 4 = nI (i_set g 4) := by rw [b3 4 (by decide) (by decide)]; exact m1 4 (by decide)
        have cv : T.1 48 (32 + i) = nI (i_pr g i) := by rw [b4 i (by omega), if_neg (Nat.lt_irrefl i)]
        rw [g5, if_pos rfl, e5, c5, n_64, pk_mul, if_neg (by rw [nI_leI (by omega) (by omega)]; omega), ← n_64, m64 (by omega), d8 (by omega), gls, n_32, nI_add, gin_t (by omega) (by decide), if_pos rfl, g0, if_pos rfl, e0, c0, nI_clamp (by omega), cv, nI_1 i, g1, if_pos rfl, e1, c1, g4, e4, c4]
        have fin : ∀ l : Nat, l ≤ 9 → l = (if i % 64 / 8 < i_set g 0 then 1 else i_set g 1) → ∃ p', (gLet (nI (i_pr g i) - nI l) fun v1 => if v1 < 0 then (if true = true then gLet (gI T 48 (32 + i) 0) fun S4 => some (Sum.inl (bI t, nI (i + 1), S4)) else none) else if bI t = 0 then (if true = true then gLet (gI T 48 (32 + i) v1) fun S7 => some (Sum.inl (bI t, nI (i + 1), S7)) else none) else (if nI (i_set g 4) ≤ nI (i % 64 / 8) then (if true = true then gLet (gI T 48 (32 + i) v1) fun S11 => some (Sum.inl (bI t, nI (i + 1), S11)) else none) else (if true = true then gLet (gI T 48 (32 + i) 0) fun S13 => some (Sum.inl (bI t, nI (i + 1), S13)) else none))) = some ((Sum.inl p') : (Int32 × Int32 × gSt) ⊕ gSt) ∧ ∃ T, p' = (bI t, nI (i + 1), T) ∧ Fr8 S T ∧ T.1 48 6 = nI (i_hr g + 1) ∧ (∀ j, j < 32 → j ≠ 6 → T.1 48 j = S.1 48 j) ∧ ∀ k, k < 384 → T.1 48 (32 + k) = nI (if k < i + 1 then fad (i_set g) (i_hr g + 1) (i_pr g k) (k % 64 / 8) else i_pr g k) := by
          intro l hl9 hl
          rw [gls]
          by_cases hneg : i_pr g i < l
          · rw [if_pos (pk_sneg (by omega) hneg), if_pos rfl, gls]
            exact hT 0 (by unfold fad; rw [← hl]; split <;> omega)
          · rw [nI_sub_le (by omega), if_neg (nI_pos (by omega))]
            by_cases htt : (i_hr g + 1) % i_set g 3 = 0
            · rw [ht, decide_eq_true htt, bI_t, if_neg one0]
              rw [ht, decide_eq_true htt, bI_t] at hT
              by_cases hfl : i % 64 / 8 < i_set g 4
              · rw [if_neg (by rw [nI_leI (by omega) (by omega)]; omega), if_pos rfl, gls]
                exact hT 0 (by unfold fad; rw [if_pos ⟨hfl, htt⟩])
              · rw [if_pos (by rw [nI_leI (by omega) (by omega)]; omega), if_pos rfl, gls]
                exact hT _ (by unfold fad; rw [if_neg (fun z => hfl z.1), ← hl])
            · rw [ht, decide_eq_false htt, bI_f, if_pos rfl, if_pos rfl, gls]
              rw [ht, decide_eq_false htt, bI_f] at hT
              exact hT _ (by unfold fad; rw [if_neg (fun z => htt z.2), ← hl])
        by_cases hwet : i % 64 / 8 < i_set g 0
        · rw [if_neg (by rw [nI_leI (by omega) (by omega)]; omega)]
          exact fin 1 (by omega) (by rw [if_pos hwet])
        · rw [if_pos (by rw [nI_leI (by omega) (by omega)]; omega)]
          exact fin (i_set g 1) w1 (by rw [if_neg hwet])
      · rintro p ⟨T, rfl, b1, b2, b3, b4⟩
        dsimp only [f_X7_goesBy_s36]
        unfold f_X7_goesBy_s36_b
        have c5 : T.1 48 5 = nI (i_n g) := by rw [b3 5 (by decide) (by decide)]; exact m2
        rw [g5, if_pos rfl, e5, c5, n_64, pk_mul, if_pos (by rw [nI_leI (by omega) (by omega)]; omega)]
        refine ⟨_, rfl, b1, fun i hi => by rw [b3 i (by omega) (by omega)]; exact m1 i hi, c5, b2, by rw [b3 7 (by decide) (by decide)]; exact m4, fun w hw => ?_, fun k hk => ?_⟩
        · have hw : w < i_n g := hw
          rw [b3 _ (by omega) (by omega), b3 _ (by omega) (by omega), b3 _ (by omega) (by omega), b3 _ (by omega) (by omega)]
          exact m5 w hw
        · rw [b4 k hk]
          show nI _ = nI (fad _ _ _ _)
          by_cases hk2 : k < 64 * i_n g
          · rw [if_pos hk2]
          · rw [if_neg hk2]
            have z1 := hp2 k (by omega)
            have z2 := fad_le (i_set g) (i_hr g + 1) (i_pr g k) (k % 64 / 8)
            congr 1
            omega
    obtain ⟨R, h1, h2⟩ := key
    exact ⟨R, by rw [h1]; rfl, h2⟩
  unfold f_X7_goesBy
  have c6 : (gI S 48 6 (nI (i_hr g + 1))).1 48 6 = nI (i_hr g + 1) := gI_s _ _ _ _
  have c3 : (gI S 48 6 (nI (i_hr g + 1))).1 48 3 = nI (i_set g 3) := by rw [gI_i _ (by decide)]; exact m1 3 (by decide)
  rw [g6, if_pos rfl, if_pos rfl, e6, m3, nI_1, gls, if_pos rfl, g3, if_pos rfl, e3, c6, c3, if_neg (nI_ne0 (by omega) (by omega)), pk_rem (by omega) (by omega) (by omega)]
  have hF : Fr8 S (gI S 48 6 (nI (i_hr g + 1))) := Fr8_gI (by decide)
  have hsm : ∀ j, j < 416 → j ≠ 6 → (gI S 48 6 (nI (i_hr g + 1))).1 48 j = S.1 48 j := fun j _ hj => gI_i _ hj _
  by_cases ht : (i_hr g + 1) % i_set g 3 = 0
  · rw [if_pos (by rw [ht]; rfl)]
    exact loop true _ (decide_eq_true ht).symm hF c6 hsm
  · have hlt := Nat.mod_lt (i_hr g + 1) (show 0 < i_set g 3 by omega)
    rw [if_neg (nI_ne0 (by omega) (by omega))]
    exact loop false _ (decide_eq_false ht).symm hF c6 hsm
/-! aside, back, hours on -/
theorem mAside (S : gSt) : ∃ S', f_X7_asides S = some S' ∧ Fr [53] S S' ∧ ∀ i, i < 416 → S'.1 53 i = S.1 48 i := by
  unfold f_X7_asides
  have key : ∃ R, gLoop f_X7_asides_s2 gFuel (0, S) = some R ∧ Fr [53] S R ∧ ∀ i, i < 416 → R.1 53 i = S.1 48 i := by
    refine gLoop_up (fun i p => ∃ T, p = (nI i, T) ∧ Fr [53] S T ∧ ∀ c, c < i → T.1 53 c = S.1 48 c) _ 416 (by omega) ?_ ?_ ⟨S, rfl, Fr_rfl, fun c hc => by omega⟩
    · rintro i p hi ⟨T, rfl, hT, hc⟩
      dsimp only [f_X7_asides_s2]
      unfold f_X7_asides_s2_b
      rw [if_neg (by rw [n_416, nI_leI (by omega) (by omega)]; omega), gin_t hi (by decide), if_pos rfl, if_pos rfl, gls, nI_clamp (by omega), nI_1]
      refine ⟨_, rfl, _, rfl, hT.trans (Fr_gI (by decide)), fun c hc2 => ?_⟩
      by_cases hci : c = i
      · subst hci; rw [gI_s, hT.2 48 (by decide)]
      · rw [gI_i _ hci]; exact hc c (by omega)
    · rintro p ⟨T, rfl, hT, hc⟩
      dsimp only [f_X7_asides_s2]
      unfold f_X7_asides_s2_b
      rw [if_pos (by rw [n_416, nI_leI (by omega) (by omega)]; omega)]
      exact ⟨_, rfl, hT, hc⟩
  obtain ⟨R, h1, h2⟩ := key
  exact ⟨R, by rw [h1]; rfl, h2⟩
theorem mBack (S : gSt) : ∃ S', f_X7_backs S = some S' ∧ Fr8 S S' ∧ ∀ i, i < 416 → S'.1 48 i = S.1 53 i := by
  unfold f_X7_backs
  have key : ∃ R, gLoop f_X7_backs_s2 gFuel (0, S) = some R ∧ Fr8 S R ∧ ∀ i, i < 416 → R.1 48 i = S.1 53 i := by
    refine gLoop_up (fun i p => ∃ T, p = (nI i, T) ∧ Fr8 S T ∧ ∀ c, c < i → T.1 48 c = S.1 53 c) _ 416 (by omega) ?_ ?_ ⟨S, rfl, Fr8_rfl, fun c hc => by omega⟩
    · rintro i p hi ⟨T, rfl, hT, hc⟩
      dsimp only [f_X7_backs_s2]
      unfold f_X7_backs_s2_b
      rw [if_neg (by rw [n_416, nI_leI (by omega) (by omega)]; omega), gin_t hi (by decide), if_pos rfl, if_pos rfl, gls, nI_clamp (by omega), nI_1]
      refine ⟨_, rfl, _, rfl, hT.trans (Fr8_gI hi), fun c hc2 => ?_⟩
      by_cases hci : c = i
      · subst hci; rw [gI_s, hT.1.2 53 (by decide)]
      · rw [gI_i _ hci]; exact hc c (by omega)
    · rintro p ⟨T, rfl, hT, hc⟩
      dsimp only [f_X7_backs_s2]
      unfold f_X7_backs_s2_b
      rw [if_pos (by rw [n_416, nI_leI (by omega) (by omega)]; omega)]
      exact ⟨_, rfl, hT, hc⟩
  obtain ⟨R, h1, h2⟩ := key
  exact ⟨R, by rw [h1]; rfl, h2⟩
/-- aside, something, back: the row is as it was -/
theorem mAB {S S1 T : gSt} {ks : List Nat} (h1 : Fr [53] S S1) (h53 : ∀ i, i < 416 → S1.1 53 i = S.1 48 i) (hT : Fr ks S1 T) (hk : 53 ∉ ks) (h8 : ∀ i, 416 ≤ i → T.1 48 i = S1.1 48 i) : ∃ S', f_X7_backs T = some S' ∧ Fr (53 :: ks) S S' ∧ S'.1 48 = S.1 48 := by
  obtain ⟨S', a, b, c⟩ := mBack T
  have e : S'.1 48 = S.1 48 := by
    funext i
    by_cases hi : i < 416
    · rw [c i hi, hT.2 53 hk, h53 i hi]
    · rw [b.2 i (by omega), h8 i (by omega), h1.2 48 (by decide)]
  refine ⟨S', a, ⟨b.1.1.trans (hT.1.trans h1.1), fun k hk2 => ?_⟩, e⟩
  by_cases h48 : k = 48
  · rw [h48, e]
  · have q1 : k ≠ 53 := fun z => hk2 (by rw [z]; exact List.mem_cons_self)
    have q2 : k ∉ ks := fun z => hk2 (List.mem_cons_of_mem _ z)
    rw [b.1.2 k (by simp only [List.mem_cons, List.not_mem_nil, or_false]; exact h48), hT.2 k q2, h1.2 k (by simp only [List.mem_cons, List.not_mem_nil, or_false]; exact q1)]
def u_hrs (g : Il) : Nat → Il
  | 0 => g
  | n + 1 => u_hr (u_hrs g n)
theorem u_hrs_p (g : Il) : ∀ h, i_set (u_hrs g h) = i_set g ∧ i_n (u_hrs g h) = i_n g ∧ i_hr (u_hrs g h) = i_hr g + h ∧ i_kd (u_hrs g h) = i_kd g ∧ i_wt (u_hrs g h) = i_wt g ∧ i_ce (u_hrs g h) = i_ce g ∧ i_sp (u_hrs g h) = i_sp g ∧ i_dr (u_hrs g h) = i_dr g
  | 0 => ⟨rfl, rfl, rfl, rfl, rfl, rfl, rfl, rfl⟩
  | h + 1 => by
    obtain ⟨a, b, c, d, e, f, i, j⟩ := u_hrs_p g h
    exact ⟨a, b, by show i_hr (u_hrs g h) + 1 = _; rw [c]; omega, d, e, f, i, j⟩
theorem u_hrs_pr {g : Il} (h3 : 0 < i_set g 3) : ∀ h i, i_pr (u_hrs g h) i = lkP (i_pr g) none (i_set g) (i_hr g) h i
  | 0, i => by unfold lkP; rw [if_neg (by simp), dep_0]; rfl
  | h + 1, i => by
    obtain ⟨a, b, c, -⟩ := u_hrs_p g h
    have ih := u_hrs_pr h3 h i
    show fad (i_set (u_hrs g h)) (i_hr (u_hrs g h) + 1) (i_pr (u_hrs g h) i) (i % 64 / 8) = _
    rw [a, c, ih]
    unfold lkP
    rw [if_neg (by simp), if_neg (by simp), dep_s h3]
theorem WFr_hrs {g : Il} (hw : WFr g) : ∀ h, i_hr g + h ≤ 20000 → WFr (u_hrs g h)
  | 0, _ => hw
  | h + 1, hh => by
    have ih := WFr_hrs hw h (by omega)
    obtain ⟨a, b, c, -⟩ := u_hrs_p g h
    refine ⟨ih.1, ?_, ih.2.2.1, WFpr_hr ih.2.2.2⟩
    show i_hr (u_hrs g h) + 1 ≤ 20000
    omega
theorem mOn {S : gSt} {g : Il} (hM : MI (S.1 48) g) (hw : WFr g) {h : Nat} (hh : i_hr g + h ≤ 20000) : ∃ S', f_X7_goesOn (nI h) S = some S' ∧ Fr8 S S' ∧ MI (S'.1 48) (u_hrs g h) := by
  unfold f_X7_goesOn
  have key : ∃ R, gLoop f_X7_goesOn_s2 gFuel (nI h, 0, S) = some R ∧ Fr8 S R ∧ MI (R.1 48) (u_hrs g h) := by
    refine gLoop_up (fun i p => ∃ T, p = (nI h, nI i, T) ∧ Fr8 S T ∧ MI (T.1 48) (u_hrs g i)) _ h (by omega) ?_ ?_ ⟨S, rfl, Fr8_rfl, hM⟩
    · rintro i p hi ⟨T, rfl, hT, hc⟩
      dsimp only [f_X7_goesOn_s2]
      unfold f_X7_goesOn_s2_b
      obtain ⟨T', a, b, c⟩ := mBy hc (WFr_hrs hw i (by omega))
      rw [if_neg (by rw [nI_leI (by omega) (by omega)]; omega), a, Option.bind_some, nI_1]
      exact ⟨_, rfl, T', rfl, hT.trans b, c⟩
    · rintro p ⟨T, rfl, hT, hc⟩
      dsimp only [f_X7_goesOn_s2]
      unfold f_X7_goesOn_s2_b
      rw [if_pos (by rw [nI_leI (by omega) (by omega)]; omega)]
      exact ⟨_, rfl, hT, hc⟩
  obtain ⟨R, h1, h2⟩ := key
  exact ⟨R, by rw [h1]; rfl, h2⟩
/-- the reference's row for claims -/
theorem MI_cl {S : gSt} {g : Il} (hM : MI (S.1 48) g) (hw : WFr g) : mCl S (i_pr g) (i_set g 2) (i_n g) := ⟨hM.2.2.2.2.2, hw.2.2.2.1, hw.2.2.1.2.2.1, hw.1, hM.1 2 (by decide), hM.2.1⟩
theorem WF_r {q : Il × Pa} (h : WF q) : WFr q.1 := ⟨h.1.1, Nat.le_trans h.1.2.1 (by decide), h.1.2.2.2.1, h.1.2.2.2.2.2⟩
theorem RC_st {S : gSt} {q : Il × Pa} (h : RC S 1 q) (hw : WF q) : cSt S (i_set q.1) (i_hr q.1) := ⟨h.1.1, h.1.2.2.1, hw.1.2.2.2.1, Nat.le_trans hw.1.2.1 (by decide)⟩
