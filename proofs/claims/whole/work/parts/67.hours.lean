/-! an hour of the class; hours -/
theorem dep_1 {st : Nat → Nat} (h3 : 0 < st 3) (hr p row : Nat) : dep st hr p row 1 = fad st (hr + 1) p row := (dep_s h3 hr p row 0).trans (by rw [dep_0, Nat.add_zero])
theorem cHour {S : gSt} {q : Il × Pa} (h1 : RC S 1 q) (h2 : WF q) : ∃ S', f_X0_passHour S = some S' ∧ Fr [1, 7] S S' ∧ RC S' 1 (u_hr q.1, q.2) := by
  have h6 := h2.1.1
  have hs := RC_st h1 h2
  have hst3 : 0 < i_set q.1 3 := Nat.lt_of_lt_of_le (by decide) h2.1.2.2.2.1.2.2.2.1
  have hpr := h2.1.2.2.2.2.2
  obtain ⟨c1, c2, c3, c4, c5, c6⟩ := h1.1
  unfold f_X0_passHour
  have key : ∃ R, gLoop f_X0_passHour_s2 gFuel (0, S) = some R ∧ Fr [7] S R ∧ ∀ j, j < 384 → R.1 7 j = nI (fad (i_set q.1) (i_hr q.1 + 1) (i_pr q.1 j) (j % 64 / 8)) := by
    refine gLoop_up (fun i p => ∃ T, p = (nI i, T) ∧ Fr [7] S T ∧ ∀ j, j < 384 → T.1 7 j = nI (if j < i then fad (i_set q.1) (i_hr q.1 + 1) (i_pr q.1 j) (j % 64 / 8) else i_pr q.1 j)) _ (i_n q.1 * 64) (by omega) ?_ ?_ ⟨S, rfl, Fr_rfl, fun j hj => by rw [if_neg (by omega)]; exact c6 j hj⟩
    · rintro i p hi ⟨T, rfl, hT, hj⟩
      have hbi := hpr.1 i
      have hv : T.1 7 i = nI (i_pr q.1 i) := by rw [hj _ (by omega), if_neg (by omega)]
      have hsT : cSt T (i_set q.1) (i_hr q.1) := ⟨fun i hi => by rw [hT.2 2 (by decide)]; exact hs.1 i hi, by rw [hT.2 1 (by decide)]; exact hs.2.1, hs.2.2⟩
      have e7 : T.1 1 7 = nI (i_n q.1) := by rw [hT.2 1 (by decide)]; exact c2
      dsimp only [f_X0_passHour_s2]
      unfold f_X0_passHour_s2_b
      rw [e7, if_neg (by rw [n_64, pk_mul, nI_leI (by omega) (by omega)]; omega), gin_t (by omega) (by decide), if_pos rfl, if_pos rfl, nI_clamp (by omega), hv, m64 (by omega), n_1, cDep hsT hbi (Nat.mod_lt _ (by decide)) (by decide), g2s, if_pos rfl, gls, nI_add, n_0, ile (by omega) (by decide), dep_1 hst3]
      by_cases h0 : i_pr q.1 i ≤ 0
      · rw [if_pos h0]
        refine ⟨_, rfl, T, rfl, hT, fun j hj2 => ?_⟩
        rw [hj j hj2]
        by_cases h3 : j < i
        · rw [if_pos h3, if_pos (by omega)]
        · rw [if_neg h3]
          by_cases h4 : j < i + 1
          · have h5 := fad_le (i_set q.1) (i_hr q.1 + 1) (i_pr q.1 j) (j % 64 / 8)
            have h7 : j = i := by omega
            rw [if_pos h4]
            rw [h7] at h5 ⊢
            rw [show fad (i_set q.1) (i_hr q.1 + 1) (i_pr q.1 i) (i % 64 / 8) = i_pr q.1 i by omega]
          · rw [if_neg h4]
      · rw [if_neg h0]
        refine ⟨_, rfl, _, rfl, hT.trans (Fr_gI (by decide)), fun j hj2 => ?_⟩
        by_cases hji : j = i
        · rw [hji, gI_s, if_pos (by omega)]
        · rw [gI_i _ hji, hj j hj2]
          by_cases h3 : j < i
          · rw [if_pos h3, if_pos (by omega)]
          · rw [if_neg h3, if_neg (by omega)]
    · rintro p ⟨T, rfl, hT, hj⟩
      have e7 : T.1 1 7 = nI (i_n q.1) := by rw [hT.2 1 (by decide)]; exact c2
      dsimp only [f_X0_passHour_s2]
      unfold f_X0_passHour_s2_b
      rw [e7, if_pos (by rw [n_64, pk_mul, nI_leI (by omega) (by omega)]; omega)]
      refine ⟨_, rfl, hT, fun j hj2 => ?_⟩
      rw [hj j hj2]
      by_cases h3 : j < i_n q.1 * 64
      · rw [if_pos h3]
      · have h5 := fad_le (i_set q.1) (i_hr q.1 + 1) (i_pr q.1 j) (j % 64 / 8)
        have h8 := hpr.2 j (by omega)
        rw [if_neg h3, show fad (i_set q.1) (i_hr q.1 + 1) (i_pr q.1 j) (j % 64 / 8) = i_pr q.1 j by omega]
  obtain ⟨R, hR, hF, hj⟩ := key
  have hF2 : Fr [1, 7] S (gI R 1 8 (R.1 1 8 + 1)) := (hF.mono (by decide)).trans (Fr_gI (by decide))
  rw [hR, Option.bind_some, gls]
  refine ⟨_, rfl, hF2, ⟨fun i hi => ?_, ?_, ?_, ?_, fun w hw => ?_, fun i hi => ?_⟩, CP_eq (fun k x y => hF2.2 k (by simp only [List.mem_cons, List.not_mem_nil, or_false]; omega)) h1.2⟩
  · rw [hF2.2 (1 + 1) (by decide)]; exact c1 i hi
  · rw [gI_i _ (by decide), hF.2 1 (by decide)]; exact c2
  · rw [gI_s, hF.2 1 (by decide), c3, nI_1]; rfl
  · rw [gI_i _ (by decide), hF.2 1 (by decide)]; exact c4
  · rw [hF2.2 (1 + 2) (by decide), hF2.2 (1 + 3) (by decide), hF2.2 (1 + 4) (by decide), hF2.2 (1 + 5) (by decide)]; exact c5 w hw
  · rw [gI_k _ (by decide)]; exact hj i hi
def uH (q : Il × Pa) : Il × Pa := (u_hr q.1, push q.2 (snap q.1))
def uHs (q : Il × Pa) : Nat → Il × Pa
  | 0 => q
  | n + 1 => uH (uHs q n)
theorem WF_uH {q : Il × Pa} (h : WF q) (hh : i_hr q.1 + 1 ≤ 9999) : WF (uH q) := by
  have := WF_push h
  exact ⟨⟨h.1.1, hh, h.1.2.2.1, h.1.2.2.2.1, h.1.2.2.2.2.1, WFpr_hr h.1.2.2.2.2.2⟩, this.2.1, this.2.2⟩
theorem uHs_p {q : Il × Pa} (h : WF q) : ∀ k, i_hr q.1 + k ≤ 9999 → WF (uHs q k) ∧ i_hr (uHs q k).1 = i_hr q.1 + k
  | 0, _ => ⟨h, rfl⟩
  | k + 1, hk => by
    obtain ⟨a, b⟩ := uHs_p h k (by omega)
    refine ⟨WF_uH a (by omega), ?_⟩
    show i_hr (uHs q k).1 + 1 = _
    omega
theorem rng1 {p : Int32} {hi : Nat} (hh : hi < 2 ^ 31) (h : rng p 1 hi = true) : p = nI p.toNatClampNeg ∧ 1 ≤ p.toNatClampNeg ∧ p.toNatClampNeg ≤ hi := by
  rw [rng_iff] at h
  have h0 : rng p 0 hi = true := by rw [rng_iff]; omega
  obtain ⟨a, b⟩ := rng_clamp hh h0
  refine ⟨a, ?_, b⟩
  have h1 := h.1
  rw [a, nI_toInt (by omega)] at h1
  omega
theorem cHf (p : Int32) {S : gSt} {q : Il × Pa} (h1 : RC S 1 q) (h2 : WF q) : f_X6_hoursFault p S = some (if rng p 1 (24 : Nat) then (if i_hr q.1 + p.toNatClampNeg ≤ 9999 then 0 else -3) else -1, S) := by
  unfold f_X6_hoursFault
  have hr := h2.1.2.1
  have e1 : (1 : Int32).toInt = 1 := rfl
  have e24 : (24 : Int32).toInt = 24 := rfl
  cases hg : rng p 1 (24 : Nat) with
  | false =>
    have hk2 : ¬ rng p 1 (24 : Nat) = true := by rw [hg]; decide
    rw [rng_iff] at hk2
    by_cases h3 : p < 1
    · rw [if_pos h3]; rfl
    · rw [if_neg h3, if_neg (by rw [lt_toInt] at h3; rw [le_toInt]; omega)]; rfl
  | true =>
    obtain ⟨ep, a, b⟩ := rng1 (by decide) hg
    rw [rng_iff] at hg
    rw [if_neg (by rw [lt_toInt]; omega), if_pos (by rw [le_toInt]; omega), h1.1.2.2.1, if_pos rfl]
    generalize p.toNatClampNeg = k at *
    subst ep
    rw [n_9999, nI_sub_le (by omega), ile (by omega) (by omega)]
    by_cases h3 : i_hr q.1 + k ≤ 9999
    · rw [if_pos (by omega), if_pos h3]
    · rw [if_neg (by omega), if_neg h3]
theorem op_hours (p : Int32) : Op (f_X6_hours p) (f_X7_hours p) := by
  refine op_of (fun q => if rng p 1 (24 : Nat) then (if i_hr q.1 + p.toNatClampNeg ≤ 9999 then nI (hld (i_pr (uHs q p.toNatClampNeg).1) (i_set (uHs q p.toNatClampNeg).1 2) (i_n (uHs q p.toNatClampNeg).1)) else -3) else -1) (fun q => if rng p 1 (24 : Nat) then (if i_hr q.1 + p.toNatClampNeg ≤ 9999 then uHs q p.toNatClampNeg else q) else q) ?_ ?_ ?_
  · intro q hq
    cases hg : rng p 1 (24 : Nat) with
    | false => exact hq
    | true =>
      rw [if_pos rfl]
      by_cases h3 : i_hr q.1 + p.toNatClampNeg ≤ 9999
      · rw [if_pos h3]; exact (uHs_p hq _ h3).1
      · rw [if_neg h3]; exact hq
  · intro S q h1 h2
    unfold f_X6_hours
    rw [cHf p h1 h2, g2s]
    dsimp only
    cases hg : rng p 1 (24 : Nat) with
    | false => exact ⟨S, rfl, Fr_rfl, h1⟩
    | true =>
      simp only [if_pos]
      obtain ⟨ep, ha, hb⟩ := rng1 (by decide) hg
      generalize p.toNatClampNeg = k at *
      subst ep
      by_cases h3 : i_hr q.1 + k ≤ 9999
      · simp only [if_pos h3]
        rw [if_pos (by decide)]
        have key : ∃ R, gLoop f_X6_hours_s14 gFuel (nI k, 0, S) = some R ∧ Fr clsR S R ∧ RC R 1 (uHs q k) := by
          refine gLoop_up (fun i t => ∃ T, t = (nI k, nI i, T) ∧ Fr clsR S T ∧ RC T 1 (uHs q i)) _ k (by omega) ?_ ?_ ⟨S, rfl, Fr_rfl, h1⟩
          · rintro i t hi ⟨T, rfl, hT, hq⟩
            dsimp only [f_X6_hours_s14]
            unfold f_X6_hours_s14_b
            obtain ⟨w1, w2⟩ := uHs_p h2 i (by omega)
            obtain ⟨T1, a1, a2, a3⟩ := cKeep hq w1
            obtain ⟨T2, b1, b2, b3⟩ := cHour a3 (WF_push w1)
            rw [if_neg (by rw [nI_leI (by omega) (by omega)]; omega), a1, Option.bind_some, b1, Option.bind_some, nI_1]
            exact ⟨_, rfl, T2, rfl, hT.trans ((a2.mono (by decide)).trans (b2.mono (by decide))), b3⟩
          · rintro t ⟨T, rfl, hT, hq⟩
            dsimp only [f_X6_hours_s14]
            unfold f_X6_hours_s14_b
            rw [if_pos (by rw [nI_leI (by omega) (by omega)]; omega)]
            exact ⟨_, rfl, hT, hq⟩
        obtain ⟨R, hR, hF, hq⟩ := key
        have w1 := (uHs_p h2 k h3).1
        obtain ⟨S', a, b, c, d⟩ := cLookQ hq w1 (Nat.zero_le 48)
        rw [lkP_0] at d
        rw [hR, Option.bind_some]
        rw [n_0, a, Option.bind_some, d.2]
        exact ⟨S', rfl, hF.trans (b.mono (by decide)), RC_fr (b.mono (by decide)) hq⟩
      · simp only [if_neg h3]
        exact ⟨S, rfl, Fr_rfl, h1⟩
  · intro S q h1 h2
    have hr := h2.1.2.1
    unfold f_X7_hours
    rw [in_lit p (a := 1) (b := (24 : Nat)) S rfl rfl, g2s]
    dsimp only
    cases hg : rng p 1 (24 : Nat) with
    | false => exact ⟨S, rfl, FrM_rfl, h1⟩
    | true =>
      have e6 : (6 : Int32).toNatClampNeg = 6 := rfl
      have g6 : gin 6 416 = true := rfl
      rw [bI_t, if_neg one0, g6, if_pos rfl, e6, h1.1.2.2.1]
      simp only [if_pos]
      obtain ⟨ep, ha, hb⟩ := rng1 (by decide) hg
      generalize p.toNatClampNeg = k at *
      subst ep
      rw [nI_add, n_9999, ile (by omega) (by decide)]
      by_cases h3 : i_hr q.1 + k ≤ 9999
      · simp only [if_pos h3]
        have key : ∃ R, gLoop f_X7_hours_s34 gFuel (nI k, 0, S) = some R ∧ FrM S R ∧ RMn R (uHs q k) := by
          refine gLoop_up (fun i t => ∃ T, t = (nI k, nI i, T) ∧ FrM S T ∧ RMn T (uHs q i)) _ k (by omega) ?_ ?_ ⟨S, rfl, FrM_rfl, h1⟩
          · rintro i t hi ⟨T, rfl, hT, hq⟩
            dsimp only [f_X7_hours_s34]
            unfold f_X7_hours_s34_b
            obtain ⟨w1, w2⟩ := uHs_p h2 i (by omega)
            obtain ⟨T1, a1, a2, a3⟩ := mNotes hq w1
            obtain ⟨T2, b1, b2, b3⟩ := mBy (g := (uHs q i).1) a3.1 (WF_r w1)
            rw [if_neg (by rw [nI_leI (by omega) (by omega)]; omega), a1, Option.bind_some, b1, Option.bind_some, nI_1]
            exact ⟨_, rfl, T2, rfl, FrM_trans hT (FrM_trans a2 (FrM_8 b2)), RMn_8 a3 b2 b3 rfl rfl rfl⟩
          · rintro t ⟨T, rfl, hT, hq⟩
            dsimp only [f_X7_hours_s34]
            unfold f_X7_hours_s34_b
            rw [if_pos (by rw [nI_leI (by omega) (by omega)]; omega)]
            exact ⟨_, rfl, hT, hq⟩
        obtain ⟨R, hR, hF, hq⟩ := key
        have w1 := (uHs_p h2 k h3).1
        rw [hR, Option.bind_some]
        rw [mHeld (MI_cl hq.1 (WF_r w1)), g2s]
        exact ⟨R, rfl, hF, hq⟩
      · simp only [if_neg h3]
        exact ⟨S, rfl, FrM_rfl, h1⟩
