/-! walk -/
theorem pw4 {n : Nat} (h : n ≤ 4) : (1 : Int32) <<< (((2 : Int32) * nI n) &&& 31) = nI (4 ^ n) ∧ 4 ^ n ≤ 256 := by
  have : n = 0 ∨ n = 1 ∨ n = 2 ∨ n = 3 ∨ n = 4 := by omega
  rcases this with rfl | rfl | rfl | rfl | rfl <;> exact ⟨by decide, by decide⟩
theorem mRes {S T U : gSt} (hT : Fr [53] S T) (h53 : ∀ i, i < 416 → T.1 53 i = S.1 48 i) (hU : Fr8 T U) : ∃ V, f_X7_backs U = some V ∧ Fr [53] S V ∧ ∀ i, i < 416 → V.1 53 i = S.1 48 i := by
  obtain ⟨V, v1, v2, v3⟩ := mBack U
  have e53 : V.1 53 = T.1 53 := by rw [v2.1.2 53 (by decide), hU.1.2 53 (by decide)]
  refine ⟨V, v1, ⟨by rw [v2.1.1, hU.1.1, hT.1], fun k hk => ?_⟩, fun i hi => by rw [e53]; exact h53 i hi⟩
  by_cases h48 : k = 48
  · subst h48
    rw [← hT.2 48 hk]
    funext i
    by_cases hi : i < 416
    · rw [v3 i hi, hU.1.2 53 (by decide), h53 i hi, hT.2 48 hk]
    · rw [v2.2 i (by omega), hU.2 i (by omega)]
  · rw [v2.1.2 k (by simp [h48]), hU.1.2 k (by simp [h48]), hT.2 k hk]
/-- behind a row of steps, and hours -/
theorem mGoOn {T : gSt} {q : Il × Pa} (h2 : WF q) {w n row h : Nat} {g' : Il} (hw : w < i_n q.1) (hh : h ≤ 48) (hg : gon q.1 w n row n = some g') (hM : MI (T.1 48) g') : ∃ U, f_X7_goesOn (nI h) T = some U ∧ Fr8 T U ∧ mCl U (lkg q.1 h (i_pr g')) (i_set q.1 2) (i_n q.1) := by
  obtain ⟨a1, a2, a3, a4, a5, a6, a7⟩ := gon_GF (WF_s h2) hw n g' hg
  have hr := h2.1.2.1
  have hwr : WFr g' := ⟨by rw [a2]; exact h2.1.1, by rw [a3]; omega, by rw [a1]; exact h2.1.2.2.2.1, a6.2.2⟩
  obtain ⟨U, u1, u2, u3⟩ := mOn hM hwr (h := h) (by rw [a3]; omega)
  have hcl := MI_cl u3 (WFr_hrs hwr h (by rw [a3]; omega))
  obtain ⟨e1, e2, -⟩ := u_hrs_p g' h
  rw [u_hrs_prf (by rw [a1]; exact Nat.lt_of_lt_of_le (by decide) h2.1.2.2.2.1.2.2.2.1), e1, e2, a1, a2, a3] at hcl
  exact ⟨U, u1, u2, hcl⟩
def bst (g : Il) (w n h : Nat) : Nat → Int32 × Nat
  | 0 => (-1, 0)
  | i + 1 => match gon g w n i n with
    | none => bst g w n h i
    | some g' => if nI (lnd (lkg g h (i_pr g')) (i_set g 2) (i_n g) w) ≤ (bst g w n h i).1 then bst g w n h i else (nI (lnd (lkg g h (i_pr g')) (i_set g 2) (i_n g) w), i)
theorem bst_n {g : Il} {w n h i : Nat} (e : gon g w n i n = none) : bst g w n h (i + 1) = bst g w n h i := by
  rw [bst, e]
theorem bst_s {g g' : Il} {w n h i : Nat} (e : gon g w n i n = some g') : bst g w n h (i + 1) = if nI (lnd (lkg g h (i_pr g')) (i_set g 2) (i_n g) w) ≤ (bst g w n h i).1 then bst g w n h i else (nI (lnd (lkg g h (i_pr g')) (i_set g 2) (i_n g) w), i) := by
  rw [bst, e]
theorem cWalkL {S0 S : gSt} {q : Il × Pa} (h1 : RC S0 1 q) (h2 : WF q) {w h n : Nat} (hw : w < i_n q.1) (hh : h ≤ 48) (hn : n ≤ 4) (hb : TB q.1 w h S0 S) (k : Int32) : ∃ S', gLoop f_X6_walk_s73 gFuel (nI w, nI n, k, -1, 0, 0, S) = some (nI n, k, (bst q.1 w n h (4 ^ n)).1, nI (bst q.1 w n h (4 ^ n)).2, S') ∧ TB q.1 w h S0 S' := by
  have h6 := h2.1.1
  obtain ⟨p1, p2⟩ := pw4 hn
  have key : ∃ R, gLoop f_X6_walk_s73 gFuel (nI w, nI n, k, -1, 0, 0, S) = some R ∧ ∃ T, R = (nI n, k, (bst q.1 w n h (4 ^ n)).1, nI (bst q.1 w n h (4 ^ n)).2, T) ∧ TB q.1 w h S0 T := by
    refine gLoop_up (fun i p => ∃ T, p = (nI w, nI n, k, (bst q.1 w n h i).1, nI (bst q.1 w n h i).2, nI i, T) ∧ TB q.1 w h S0 T) _ (4 ^ n) (by omega) ?_ ?_ ⟨S, rfl, hb⟩
    · rintro i p hi ⟨T, rfl, hT⟩
      dsimp only [f_X6_walk_s73]
      unfold f_X6_walk_s73_b
      obtain ⟨U, u1, u2, u3⟩ := cGo h1 h2 hw hh hn (show i < 2 ^ 31 by omega) hT
      rw [p1, if_neg (by rw [nI_leI (by omega) (by omega)]; omega), u1, g2s, nI_1 i]
      cases hg : gon q.1 w n i n with
      | none =>
        rw [bst_n hg]
        exact ⟨_, rfl, U, rfl, u2⟩
      | some g' =>
        obtain ⟨V, v1, v2, v3, v4⟩ := cTally (u3 g' hg)
        have hV : TB q.1 w h S0 V := TB_41 u2 v2 (by rw [v3.2.2.1, (u3 g' hg).2.2.1])
        rw [bst_s hg, if_neg (show ¬ bI (some g').isSome = 0 from one0), v1, Option.bind_some, gin_t (show w < 6 by omega) (by decide), if_pos rfl, nI_clamp (by omega), v4.1 w (by omega), if_pos rfl, gls]
        by_cases hle : nI (lnd (lkg q.1 h (i_pr g')) (i_set q.1 2) (i_n q.1) w) ≤ (bst q.1 w n h i).1
        · rw [if_pos hle, if_pos hle]
          exact ⟨_, rfl, V, rfl, hV⟩
        · rw [if_neg hle, if_neg hle]
          exact ⟨_, rfl, V, rfl, hV⟩
    · rintro p ⟨T, rfl, hT⟩
      dsimp only [f_X6_walk_s73]
      unfold f_X6_walk_s73_b
      rw [p1, if_pos (by rw [nI_leI (by omega) (by omega)]; omega)]
      exact ⟨_, rfl, T, rfl, hT⟩
  obtain ⟨R, r1, T, rfl, r2⟩ := key
  exact ⟨T, r1, r2⟩
theorem mWalkL {S S1 : gSt} {q : Il × Pa} (hM : MI (S.1 48) q.1) (h2 : WF q) {w h n : Nat} (hw : w < i_n q.1) (hh : h ≤ 48) (hn : n ≤ 4) (hS : Fr [53] S S1) (h53 : ∀ i, i < 416 → S1.1 53 i = S.1 48 i) (k : Int32) : ∃ S', gLoop f_X7_walk_s53 gFuel (nI w, nI n, nI h, k, 0, -1, 0, S1) = some (nI n, k, nI (bst q.1 w n h (4 ^ n)).2, (bst q.1 w n h (4 ^ n)).1, S') ∧ Fr [53] S S' := by
  have h6 := h2.1.1
  obtain ⟨p1, p2⟩ := pw4 hn
  have key : ∃ R, gLoop f_X7_walk_s53 gFuel (nI w, nI n, nI h, k, 0, -1, 0, S1) = some R ∧ ∃ T, R = (nI n, k, nI (bst q.1 w n h (4 ^ n)).2, (bst q.1 w n h (4 ^ n)).1, T) ∧ Fr [53] S T := by
    refine gLoop_up (fun i p => ∃ T, p = (nI w, nI n, nI h, k, nI (bst q.1 w n h i).2, (bst q.1 w n h i).1, nI i, T) ∧ Fr [53] S T ∧ ∀ i, i < 416 → T.1 53 i = S.1 48 i) _ (4 ^ n) (by omega) ?_ ?_ ⟨S1, rfl, hS, h53⟩
    · rintro i p hi ⟨T, rfl, hT, hT3⟩
      dsimp only [f_X7_walk_s53]
      unfold f_X7_walk_s53_b
      have hMT : MI (T.1 48) q.1 := by rw [hT.2 48 (by decide)]; exact hM
      obtain ⟨U, u1, u2, u3⟩ := mGone hMT (WF_s h2) hw hn (show i < 2 ^ 31 by omega)
      rw [p1, if_neg (by rw [nI_leI (by omega) (by omega)]; omega), u1, g2s]
      cases hg : gon q.1 w n i n with
      | none =>
        obtain ⟨V, v1, v2, v3⟩ := mRes hT hT3 u2
        rw [bst_n hg, if_pos (show bI (none : Option Il).isSome = 0 from rfl), v1, Option.bind_some, nI_1 i]
        exact ⟨_, rfl, V, rfl, v2, v3⟩
      | some g' =>
        obtain ⟨A, a1, a2, a3⟩ := mGoOn h2 hw hh hg (u3 g' hg)
        obtain ⟨V, v1, v2, v3⟩ := mRes hT hT3 (u2.trans a2)
        unfold f_X7_walk_j100
        rw [bst_s hg, if_neg (show ¬ bI (some g').isSome = 0 from one0), a1, Option.bind_some, mLand a3 (show w < 6 by omega), g2s, v1, Option.bind_some, Option.bind_some, nI_1 i]
        by_cases hle : nI (lnd (lkg q.1 h (i_pr g')) (i_set q.1 2) (i_n q.1) w) ≤ (bst q.1 w n h i).1
        · rw [if_pos hle, if_pos hle, if_pos hle]
          exact ⟨_, rfl, V, rfl, v2, v3⟩
        · rw [if_neg hle, if_neg hle, if_neg hle]
          exact ⟨_, rfl, V, rfl, v2, v3⟩
    · rintro p ⟨T, rfl, hT, hT3⟩
      dsimp only [f_X7_walk_s53]
      unfold f_X7_walk_s53_b
      rw [p1, if_pos (by rw [nI_leI (by omega) (by omega)]; omega)]
      exact ⟨_, rfl, T, rfl, hT⟩
  obtain ⟨R, r1, T, rfl, r2⟩ := key
  exact ⟨T, r1, r2⟩
def wkV (g : Il) (w n h : Nat) (k : Int32) : Int32 := if k < nI n then (if 0 ≤ k then ((nI (bst g w n h (4 ^ n)).2) >>> (((2 : Int32) * ((nI n - (1 : Int32)) - k)) &&& 31)) &&& (3 : Int32) else (bst g w n h (4 ^ n)).1) else -4
theorem op_walk (p n h k : Int32) : Op (f_X6_walk p n h k) (f_X7_walk p n h k) := by
  refine op_of (fun q => if gin p (i_n q.1) then (if rng n 0 (4 : Nat) then (if rng h 0 (12 : Nat) then (if (-1 : Int32) ≤ k then wkV q.1 p.toNatClampNeg n.toNatClampNeg h.toNatClampNeg k else -1) else -1) else -1) else -1) id (fun q h => h) (opC_read ?_) (opM_read ?_)
  · intro S q h1 h2
    have h6 := h2.1.1
    unfold f_X6_walk
    rw [has_sp p h1.1.2.1 (by omega), g2s]
    cases hg : gin p (i_n q.1) with
    | false => exact ⟨S, rfl, Fr_rfl⟩
    | true =>
      rw [bI_t, if_neg one0, if_pos rfl, rgA n 4 4 rfl, rgA h 12 12 rfl]
      cases hn : rng n 0 (4 : Nat) with
      | false => exact ⟨S, rfl, Fr_rfl⟩
      | true =>
        rw [if_pos rfl, if_pos rfl]
        cases hh : rng h 0 (12 : Nat) with
        | false => exact ⟨S, rfl, Fr_rfl⟩
        | true =>
          rw [if_pos rfl, if_pos rfl]
          by_cases hk : (-1 : Int32) ≤ k
          · rw [if_pos hk, if_pos hk]
            obtain ⟨ep, hp⟩ := gin_clamp (by omega) hg
            obtain ⟨en, hn2⟩ := rng_clamp (by decide) hn
            obtain ⟨eh, hh2⟩ := rng_clamp (by decide) hh
            generalize p.toNatClampNeg = w at *
            generalize n.toNatClampNeg = m at *
            generalize h.toNatClampNeg = hr at *
            subst ep en eh
            unfold wkV
            by_cases hkn : k < nI m
            · rw [if_pos hkn, if_pos hkn]
              obtain ⟨A, a1, a2⟩ := cBegin h1 h2 hp (show hr ≤ 48 by omega)
              obtain ⟨B, b1, b2⟩ := cWalkL h1 h2 hp (show hr ≤ 48 by omega) hn2 a2 k
              rw [a1, Option.bind_some, b1, Option.bind_some]
              dsimp only
              unfold f_X6_wayAt
              by_cases h0 : 0 ≤ k
              · rw [if_pos h0, if_pos h0, g2s]
                exact ⟨B, rfl, b2.1⟩
              · rw [if_neg h0, if_neg h0]
                exact ⟨B, rfl, b2.1⟩
            · rw [if_neg hkn, if_neg hkn]
              exact ⟨S, rfl, Fr_rfl⟩
          · rw [if_neg hk, if_neg hk]
            exact ⟨S, rfl, Fr_rfl⟩
  · intro S q h1 h2
    have h6 := h2.1.1
    unfold f_X7_walk
    rw [mWalker_sp p h1.1.2.1 (by omega), g2s]
    cases hg : gin p (i_n q.1) with
    | false => exact ⟨S, rfl, Fr_rfl⟩
    | true =>
      rw [bI_t, if_neg one0, if_pos rfl, in_lit n (a := 0) (b := (4 : Nat)) S rfl rfl, g2s]
      cases hn : rng n 0 (4 : Nat) with
      | false => exact ⟨S, rfl, Fr_rfl⟩
      | true =>
        rw [bI_t, if_neg one0, if_pos rfl, in_lit h (a := 0) (b := (12 : Nat)) S rfl rfl, g2s]
        cases hh : rng h 0 (12 : Nat) with
        | false => exact ⟨S, rfl, Fr_rfl⟩
        | true =>
          rw [bI_t, if_neg one0, if_pos rfl]
          by_cases hk : (-1 : Int32) ≤ k
          · rw [if_pos hk, if_pos hk]
            obtain ⟨ep, hp⟩ := gin_clamp (by omega) hg
            obtain ⟨en, hn2⟩ := rng_clamp (by decide) hn
            obtain ⟨eh, hh2⟩ := rng_clamp (by decide) hh
            generalize p.toNatClampNeg = w at *
            generalize n.toNatClampNeg = m at *
            generalize h.toNatClampNeg = hr at *
            subst ep en eh
            obtain ⟨A, a1, a2, a3⟩ := mAside S
            obtain ⟨B, b1, b2⟩ := mWalkL h1.1 h2 hp (show hr ≤ 48 by omega) hn2 a2 a3 k
            rw [a1, Option.bind_some, b1, Option.bind_some]
            dsimp only
            unfold wkV
            have hF : Fr [49, 53, 54, 55] S B := b2.mono (by decide)
            by_cases h0 : 0 ≤ k
            · rw [if_pos h0, if_pos h0]
              by_cases hkn : k < nI m
              · rw [if_pos hkn, if_pos hkn]; exact ⟨B, rfl, hF⟩
              · rw [if_neg hkn, if_neg hkn]; exact ⟨B, rfl, hF⟩
            · have hkn : k < nI m := by
                rw [le_toInt, z_toInt] at h0
                rw [lt_toInt, nI_toInt (by omega)]
                omega
              rw [if_neg h0, if_neg h0, if_pos hkn]; exact ⟨B, rfl, hF⟩
          · rw [if_neg hk, if_neg hk]
            exact ⟨S, rfl, Fr_rfl⟩
/-! well -/
def okw (g : Il) (w h c n row : Nat) : Bool := match gon g w n row n with
  | none => false
  | some g' => decide (hol (lkg g h (i_pr g')) (i_set g 2) (i_n g) c = some w)
theorem okw_n {g : Il} {w h c n row : Nat} (e : gon g w n row n = none) : okw g w h c n row = false := by
  unfold okw
  rw [e]
theorem okw_s {g g' : Il} {w h c n row : Nat} (e : gon g w n row n = some g') : okw g w h c n row = decide (hol (lkg g h (i_pr g')) (i_set g 2) (i_n g) c = some w) := by
  unfold okw
  rw [e]
def exw (g : Il) (w h c n : Nat) : Bool := al (fun row => !okw g w h c n row) (4 ^ n)
theorem cWellL {S0 S : gSt} {q : Il × Pa} (h1 : RC S0 1 q) (h2 : WF q) {w h c n : Nat} (hw : w < i_n q.1) (hh : h ≤ 48) (hc : c < 64) (hn : n ≤ 4) (hb : TB q.1 w h S0 S) : ∃ R, gLoop f_X6_well_s59 gFuel (nI w, nI c, nI n, 0, S) = some R ∧ ∃ U, TB q.1 w h S0 U ∧ ((exw q.1 w h c n = false ∧ R = Sum.inl (nI n, U)) ∨ (exw q.1 w h c n = true ∧ R = Sum.inr (nI w, nI c, nI n, U))) := by
  have h6 := h2.1.1
  obtain ⟨p1, p2⟩ := pw4 hn
  refine gLoop_up2 (fun i p => ∃ T, p = (nI w, nI c, nI n, nI i, T) ∧ TB q.1 w h S0 T ∧ al (fun row => !okw q.1 w h c n row) i = true) _ (4 ^ n) (by omega) ?_ ?_ ⟨S, rfl, hb, rfl⟩
  · rintro i p hi ⟨T, rfl, hT, hal⟩
    dsimp only [f_X6_well_s59]
    unfold f_X6_well_s59_b
    obtain ⟨U, u1, u2, u3⟩ := cGo h1 h2 hw hh hn (show i < 2 ^ 31 by omega) hT
    rw [p1, if_neg (by rw [nI_leI (by omega) (by omega)]; omega), u1, g2s, nI_1 i]
    cases hg : gon q.1 w n i n with
    | none =>
      exact Or.inl ⟨_, rfl, U, rfl, u2, al_s hal (by rw [okw_n hg]; rfl)⟩
    | some g' =>
      rw [if_neg (show ¬ bI (some g').isSome = 0 from one0), cHolder (u3 g' hg) hc, g2s]
      have hq := hI_eq (hol (lkg q.1 h (i_pr g')) (i_set q.1 2) (i_n q.1) c) w (by omega) (fun v hv => by have := hol_lt hv; omega)
      by_cases hh2 : hol (lkg q.1 h (i_pr g')) (i_set q.1 2) (i_n q.1) c = some w
      · rw [if_pos (hq.mpr hh2)]
        exact Or.inr ⟨_, rfl, U, u2, Or.inl ⟨al_f hi (by rw [okw_s hg, decide_eq_true hh2]; rfl), rfl⟩⟩
      · rw [if_neg (fun z => hh2 (hq.mp z))]
        exact Or.inl ⟨_, rfl, U, rfl, u2, al_s hal (by rw [okw_s hg, decide_eq_false hh2]; rfl)⟩
  · rintro p ⟨T, rfl, hT, hal⟩
    dsimp only [f_X6_well_s59]
    unfold f_X6_well_s59_b
    rw [p1, if_pos (by rw [nI_leI (by omega) (by omega)]; omega)]
    exact ⟨_, rfl, T, hT, Or.inr ⟨hal, rfl⟩⟩
theorem mWellL {S S1 : gSt} {q : Il × Pa} (hM : MI (S.1 48) q.1) (h2 : WF q) {w h c n : Nat} (hw : w < i_n q.1) (hh : h ≤ 48) (hc : c < 64) (hn : n ≤ 4) (hS : Fr [53] S S1) (h53 : ∀ i, i < 416 → S1.1 53 i = S.1 48 i) : ∃ R, gLoop f_X7_well_s45 gFuel (nI w, nI c, nI h, nI n, 0, S1) = some R ∧ ∃ U, Fr [53] S U ∧ (∀ i, i < 416 → U.1 53 i = S.1 48 i) ∧ ((exw q.1 w h c n = false ∧ R = Sum.inl (nI n, U)) ∨ (exw q.1 w h c n = true ∧ R = Sum.inr (nI w, nI c, nI h, nI n, U))) := by
  have h6 := h2.1.1
  obtain ⟨p1, p2⟩ := pw4 hn
  refine gLoop_up2 (fun i p => ∃ T, p = (nI w, nI c, nI h, nI n, nI i, T) ∧ Fr [53] S T ∧ (∀ i, i < 416 → T.1 53 i = S.1 48 i) ∧ al (fun row => !okw q.1 w h c n row) i = true) _ (4 ^ n) (by omega) ?_ ?_ ⟨S1, rfl, hS, h53, rfl⟩
  · rintro i p hi ⟨T, rfl, hT, hT3, hal⟩
    dsimp only [f_X7_well_s45]
    unfold f_X7_well_s45_b
    have hMT : MI (T.1 48) q.1 := by rw [hT.2 48 (by decide)]; exact hM
    obtain ⟨U, u1, u2, u3⟩ := mGone hMT (WF_s h2) hw hn (show i < 2 ^ 31 by omega)
    rw [p1, if_neg (by rw [nI_leI (by omega) (by omega)]; omega), u1, g2s]
    cases hg : gon q.1 w n i n with
    | none =>
      obtain ⟨V, v1, v2, v3⟩ := mRes hT hT3 u2
      rw [if_pos (show bI (none : Option Il).isSome = 0 from rfl)]
      unfold f_X7_well_j93
      rw [v1, Option.bind_some, if_pos (show bI (none : Option Il).isSome = 0 from rfl), nI_1 i]
      exact Or.inl ⟨_, rfl, V, rfl, v2, v3, al_s hal (by rw [okw_n hg]; rfl)⟩
    | some g' =>
      obtain ⟨A, a1, a2, a3⟩ := mGoOn h2 hw hh hg (u3 g' hg)
      obtain ⟨V, v1, v2, v3⟩ := mRes hT hT3 (u2.trans a2)
      rw [if_neg (show ¬ bI (some g').isSome = 0 from one0), a1, Option.bind_some, mHolder a3 hc, g2s]
      have hq := hI_eq (hol (lkg q.1 h (i_pr g')) (i_set q.1 2) (i_n q.1) c) w (by omega) (fun v hv => by have := hol_lt hv; omega)
      unfold f_X7_well_j91 f_X7_well_j93
      rw [v1, Option.bind_some, Option.bind_some, if_neg one0, if_pos rfl, nI_1 i]
      by_cases hh2 : hol (lkg q.1 h (i_pr g')) (i_set q.1 2) (i_n q.1) c = some w
      · rw [if_pos (hq.mpr hh2)]
        exact Or.inr ⟨_, rfl, V, v2, v3, Or.inl ⟨al_f hi (by rw [okw_s hg, decide_eq_true hh2]; rfl), rfl⟩⟩
      · rw [if_neg (fun z => hh2 (hq.mp z))]
        exact Or.inl ⟨_, rfl, V, rfl, v2, v3, al_s hal (by rw [okw_s hg, decide_eq_false hh2]; rfl)⟩
  · rintro p ⟨T, rfl, hT, hT3, hal⟩
    dsimp only [f_X7_well_s45]
    unfold f_X7_well_s45_b
    rw [p1, if_pos (by rw [nI_leI (by omega) (by omega)]; omega)]
    exact ⟨_, rfl, T, hT, hT3, Or.inr ⟨hal, rfl⟩⟩
def wlV (g : Il) (w h c : Nat) : Int32 := if frun (exw g w h c) 5 = 5 then -4 else nI (frun (exw g w h c) 5)
theorem op_well (p c h : Int32) : Op (f_X6_well p c h) (f_X7_well p c h) := by
  refine op_of (fun q => if gin p (i_n q.1) then (if gin c 64 then (if rng h 0 (12 : Nat) then wlV q.1 p.toNatClampNeg h.toNatClampNeg c.toNatClampNeg else -1) else -1) else -1) id (fun q h => h) (opC_read ?_) (opM_read ?_)
  · intro S q h1 h2
    have h6 := h2.1.1
    unfold f_X6_well
    rw [has_sp p h1.1.2.1 (by omega), g2s]
    cases hg : gin p (i_n q.1) with
    | false => exact ⟨S, rfl, Fr_rfl⟩
    | true =>
      rw [bI_t, if_neg one0, if_pos rfl, isCell_sp, g2s]
      cases hc : gin c 64 with
      | false => exact ⟨S, rfl, Fr_rfl⟩
      | true =>
        rw [bI_t, if_neg one0, if_pos rfl, rgB h 12 12 rfl]
        cases hh : rng h 0 (12 : Nat) with
        | false => exact ⟨S, rfl, Fr_rfl⟩
        | true =>
          rw [if_pos rfl, if_pos rfl]
          obtain ⟨ep, hp⟩ := gin_clamp (by omega) hg
          obtain ⟨ec, hc2⟩ := gin_clamp (by decide) hc
          obtain ⟨eh, hh2⟩ := rng_clamp (by decide) hh
          generalize p.toNatClampNeg = w at *
          generalize c.toNatClampNeg = d at *
          generalize h.toNatClampNeg = hr at *
          subst ep ec eh
          obtain ⟨A, a1, a2⟩ := cBegin h1 h2 hp (show hr ≤ 48 by omega)
          rw [a1, Option.bind_some]
          have key : ∃ R, gLoop f_X6_well_s50 gFuel (nI w, nI d, 0, A) = some R ∧ ∃ T, TB q.1 w hr S T ∧ (R = Sum.inl (wlV q.1 w hr d, T) ∨ (R = Sum.inr T ∧ wlV q.1 w hr d = -4)) := by
            refine gLoop_up2 (fun i t => ∃ T, t = (nI w, nI d, nI i, T) ∧ TB q.1 w hr S T ∧ frun (exw q.1 w hr d) i = i) _ 5 (by omega) ?_ ?_ ⟨A, rfl, a2, rfl⟩
            · rintro i t hi ⟨T, rfl, hT, hf⟩
              dsimp only [f_X6_well_s50]
              unfold f_X6_well_s50_b
              obtain ⟨R, r1, U, u1, ⟨r2, rfl⟩ | ⟨r2, rfl⟩⟩ := cWellL h1 h2 hp (show hr ≤ 48 by omega) hc2 (show i ≤ 4 by omega) hT
              · rw [if_neg (by rw [n_4, nI_ltI (by omega) (by omega)]; omega), r1, Option.bind_some]
                refine Or.inr ⟨_, rfl, U, u1, Or.inl ?_⟩
                unfold wlV
                rw [frun_at hf r2 (show i ≤ 5 by omega), if_neg (by omega)]
              · rw [if_neg (by rw [n_4, nI_ltI (by omega) (by omega)]; omega), r1, Option.bind_some]
                dsimp only
                rw [nI_1]
                exact Or.inl ⟨_, rfl, U, rfl, u1, frun_go hf r2⟩
            · rintro t ⟨T, rfl, hT, hf⟩
              dsimp only [f_X6_well_s50]
              unfold f_X6_well_s50_b
              rw [if_pos (by decide)]
              exact ⟨_, rfl, T, hT, Or.inr ⟨rfl, by unfold wlV; rw [hf, if_pos rfl]⟩⟩
          obtain ⟨R, r1, T, r2, rfl | ⟨rfl, r3⟩⟩ := key
          · rw [r1]; exact ⟨T, rfl, r2.1⟩
          · rw [r1, r3]; exact ⟨T, rfl, r2.1⟩
  · intro S q h1 h2
    have h6 := h2.1.1
    unfold f_X7_well
    rw [mWalker_sp p h1.1.2.1 (by omega), g2s]
    cases hg : gin p (i_n q.1) with
    | false => exact ⟨S, rfl, Fr_rfl⟩
    | true =>
      rw [bI_t, if_neg one0, if_pos rfl, mCell_sp, g2s]
      cases hc : gin c 64 with
      | false => exact ⟨S, rfl, Fr_rfl⟩
      | true =>
        rw [bI_t, if_neg one0, if_pos rfl, in_lit h (a := 0) (b := (12 : Nat)) S rfl rfl, g2s]
        cases hh : rng h 0 (12 : Nat) with
        | false => exact ⟨S, rfl, Fr_rfl⟩
        | true =>
          rw [bI_t, if_neg one0, if_pos rfl]
          obtain ⟨ep, hp⟩ := gin_clamp (by omega) hg
          obtain ⟨ec, hc2⟩ := gin_clamp (by decide) hc
          obtain ⟨eh, hh2⟩ := rng_clamp (by decide) hh
          generalize p.toNatClampNeg = w at *
          generalize c.toNatClampNeg = d at *
          generalize h.toNatClampNeg = hr at *
          subst ep ec eh
          obtain ⟨A, a1, a2, a3⟩ := mAside S
          rw [a1, Option.bind_some]
          have key : ∃ R, gLoop f_X7_well_s36 gFuel (nI w, nI d, nI hr, 0, A) = some R ∧ ∃ T, Fr [53] S T ∧ (R = Sum.inl (wlV q.1 w hr d, T) ∨ (R = Sum.inr T ∧ wlV q.1 w hr d = -4)) := by
            refine gLoop_up2 (fun i t => ∃ T, t = (nI w, nI d, nI hr, nI i, T) ∧ Fr [53] S T ∧ (∀ i, i < 416 → T.1 53 i = S.1 48 i) ∧ frun (exw q.1 w hr d) i = i) _ 5 (by omega) ?_ ?_ ⟨A, rfl, a2, a3, rfl⟩
            · rintro i t hi ⟨T, rfl, hT, hT3, hf⟩
              dsimp only [f_X7_well_s36]
              unfold f_X7_well_s36_b
              obtain ⟨R, r1, U, u1, u3, ⟨r2, rfl⟩ | ⟨r2, rfl⟩⟩ := mWellL h1.1 h2 hp (show hr ≤ 48 by omega) hc2 (show i ≤ 4 by omega) hT hT3
              · rw [if_neg (by rw [n_5, nI_leI (by omega) (by omega)]; omega), r1, Option.bind_some]
                refine Or.inr ⟨_, rfl, U, u1, Or.inl ?_⟩
                unfold wlV
                rw [frun_at hf r2 (show i ≤ 5 by omega), if_neg (by omega)]
              · rw [if_neg (by rw [n_5, nI_leI (by omega) (by omega)]; omega), r1, Option.bind_some]
                dsimp only
                rw [nI_1]
                exact Or.inl ⟨_, rfl, U, rfl, u1, u3, frun_go hf r2⟩
            · rintro t ⟨T, rfl, hT, hT3, hf⟩
              dsimp only [f_X7_well_s36]
              unfold f_X7_well_s36_b
              rw [if_pos (by decide)]
              exact ⟨_, rfl, T, hT, Or.inr ⟨rfl, by unfold wlV; rw [hf, if_pos rfl]⟩⟩
          obtain ⟨R, r1, T, r2, rfl | ⟨rfl, r3⟩⟩ := key
          · rw [r1]; exact ⟨T, rfl, r2.mono (by decide)⟩
          · rw [r1, r3]; exact ⟨T, rfl, r2.mono (by decide)⟩
