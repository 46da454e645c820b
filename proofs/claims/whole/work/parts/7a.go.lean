/-! rows of steps -/
def wy (row n k : Nat) : Nat := row / 2 ^ (2 * (n - 1 - k)) % 2 ^ 2
theorem wy_le (row n k : Nat) : wy row n k ≤ 3 := by
  unfold wy
  have := Nat.mod_lt (row / 2 ^ (2 * (n - 1 - k))) (show 0 < 2 ^ 2 by decide)
  omega
theorem wyI {row m : Nat} (hm : m ≤ 3) (hr : row < 2 ^ 31) : (nI row >>> (((2 : Int32) * nI m) &&& 31)) &&& 3 = nI (row / 2 ^ (2 * m) % 2 ^ 2) := by
  have hlt : ∀ k, row / 2 ^ k < 2 ^ 32 := fun k => Nat.lt_of_le_of_lt (Nat.div_le_self _ _) (by omega)
  rcases four hm with rfl | rfl | rfl | rfl
  · rw [pk_shrN hr _ (2 * 0) (by decide), pk_andN (hlt _) 2 (by decide)]
  · rw [pk_shrN hr _ (2 * 1) (by decide), pk_andN (hlt _) 2 (by decide)]
  · rw [pk_shrN hr _ (2 * 2) (by decide), pk_andN (hlt _) 2 (by decide)]
  · rw [pk_shrN hr _ (2 * 3) (by decide), pk_andN (hlt _) 2 (by decide)]
theorem cWay {row n k : Nat} (hn : n ≤ 4) (hk : k < n) (hr : row < 2 ^ 31) (S : gSt) : f_X6_wayAt (nI row) (nI n) (nI k) S = some (nI (wy row n k), S) := by
  unfold f_X6_wayAt wy
  rw [n_1, nI_sub_le (by omega), nI_sub_le (by omega), wyI (by omega) hr]
def gon (g : Il) (w n row : Nat) : Nat → Option Il
  | 0 => some g
  | k + 1 => match gon g w n row k with
    | none => none
    | some g' => match bes (i_ce g' w) (wy row n k) with
      | none => none
      | some to => some (stp g' w to)
theorem gon_s1 {g : Il} {w n row k : Nat} (h : gon g w n row k = none) : gon g w n row (k + 1) = none := by rw [gon, h]
theorem gon_s2 {g g' : Il} {w n row k : Nat} (h : gon g w n row k = some g') (hb : bes (i_ce g' w) (wy row n k) = none) : gon g w n row (k + 1) = none := by
  rw [gon, h]
  show (match bes (i_ce g' w) (wy row n k) with | none => none | some to => some (stp g' w to)) = none
  rw [hb]
theorem gon_s3 {g g' : Il} {w n row k to : Nat} (h : gon g w n row k = some g') (hb : bes (i_ce g' w) (wy row n k) = some to) : gon g w n row (k + 1) = some (stp g' w to) := by
  rw [gon, h]
  show (match bes (i_ce g' w) (wy row n k) with | none => none | some to => some (stp g' w to)) = some (stp g' w to)
  rw [hb]
theorem gon_no {g : Il} {w n row k : Nat} (h : gon g w n row k = none) : ∀ m, gon g w n row (k + m) = none
  | 0 => h
  | m + 1 => gon_s1 (gon_no h m)
theorem gon_no' {g : Il} {w n row k m : Nat} (h : gon g w n row k = none) (hk : k ≤ m) : gon g w n row m = none := by
  rw [show m = k + (m - k) by omega]
  exact gon_no h _
theorem stp_ce (g : Il) (w to : Nat) : i_ce (stp g w to) w = to := by
  unfold stp
  by_cases h1 : i_kd g w = 4 ∧ ¬ (i_sp g w + 1).toInt % 2 = 0
  · rw [if_pos h1]; exact if_pos rfl
  · rw [if_neg h1]
    by_cases h3 : i_kd g w = 3
    · rw [if_pos h3]; exact if_pos rfl
    · rw [if_neg h3]; exact if_pos rfl
theorem stp_sp (g : Il) (w to : Nat) : i_sp (stp g w to) w = i_sp g w + 1 := by
  unfold stp
  by_cases h1 : i_kd g w = 4 ∧ ¬ (i_sp g w + 1).toInt % 2 = 0
  · rw [if_pos h1]; exact if_pos rfl
  · rw [if_neg h1]
    by_cases h3 : i_kd g w = 3
    · rw [if_pos h3]; exact if_pos rfl
    · rw [if_neg h3]; exact if_pos rfl
theorem stp_pr (g : Il) (w to : Nat) : i_pr (stp g w to) = if i_kd g w = 4 ∧ ¬ (i_sp g w + 1).toInt % 2 = 0 then i_pr g else if i_kd g w = 3 then dpn (dpn (i_pr g) (64 * sho (i_n g) (i_kd g w) w + to) (trd (i_kd g w) (i_wt g w))) (64 * sho (i_n g) (i_kd g w) w + i_ce g w) (trd (i_kd g w) (i_wt g w)) else dpn (i_pr g) (64 * sho (i_n g) (i_kd g w) w + to) (trd (i_kd g w) (i_wt g w)) := by
  unfold stp
  by_cases h1 : i_kd g w = 4 ∧ ¬ (i_sp g w + 1).toInt % 2 = 0
  · rw [if_pos h1, if_pos h1]; rfl
  · rw [if_neg h1, if_neg h1]
    by_cases h3 : i_kd g w = 3
    · rw [if_pos h3, if_pos h3]; rfl
    · rw [if_neg h3, if_neg h3]; rfl
def GF (g g' : Il) (w k : Nat) : Prop := i_set g' = i_set g ∧ i_n g' = i_n g ∧ i_hr g' = i_hr g ∧ i_kd g' = i_kd g ∧ i_wt g' = i_wt g ∧ WFs g' ∧ i_sp g' w = i_sp g w + nI k
theorem gon_GF {g : Il} {w n row : Nat} (hw : WFs g) (hlt : w < i_n g) : ∀ k g', gon g w n row k = some g' → GF g g' w k
  | 0, g', h => by
    cases h
    exact ⟨rfl, rfl, rfl, rfl, rfl, hw, by rw [nI_0, Int32.add_zero]⟩
  | k + 1, g'', h => by
    cases h1 : gon g w n row k with
    | none => rw [gon_s1 h1] at h; cases h
    | some g' =>
      obtain ⟨a1, a2, a3, a4, a5, a6, a7⟩ := gon_GF hw hlt k g' h1
      cases hb : bes (i_ce g' w) (wy row n k) with
      | none => rw [gon_s2 h1 hb] at h; cases h
      | some to =>
        rw [gon_s3 h1 hb] at h
        cases h
        have hlt' : w < i_n g' := by rw [a2]; exact hlt
        have hto := bes_lt (a6.2.1 w hlt').2.2.2 hb
        obtain ⟨b1, b2, b3, b4, b5, b6⟩ := stp_p g' w to
        exact ⟨b1.trans a1, b2.trans a2, b3.trans a3, b5.trans a4, b6.trans a5, WFs_stp a6 hlt' hto, by rw [stp_sp, a7, nI_succ, Int32.add_assoc]⟩
theorem cCD {kd : Nat} (hk : kd ≤ 4) (s : Int32) (T : gSt) : f_X6_comesDown (nI kd) s T = some (if kd = 4 ∧ ¬ s.toInt % 2 = 0 then 0 else 1, T) := by
  unfold f_X6_comesDown
  rw [n_4, ieq (by omega) (by decide)]
  by_cases h4 : kd = 4
  · rw [if_pos h4]
    by_cases hp : s.toInt % 2 = 0
    · rw [if_pos ((par_c _).mpr hp), if_neg (fun z => z.2 hp)]
    · rw [if_neg (fun z => hp ((par_c _).mp z)), if_pos ⟨h4, hp⟩]
  · rw [if_neg h4, if_neg (fun z => h4 z.1)]
abbrev shw (g : Il) (w : Nat) : Nat := sho (i_n g) (i_kd g w) w
abbrev lkg (g : Il) (h : Nat) (P : Nat → Nat) : Nat → Nat := lkP P none (i_set g) (i_hr g) h
def TB (g : Il) (w h : Nat) (S0 S : gSt) : Prop := Fr [41, 42, 43, 44, 45, 46] S0 S ∧ S.1 41 3 = nI (i_n g) ∧ S.1 44 2 = nI w ∧ S.1 44 3 = nI (64 * shw g w) ∧ S.1 44 4 = nI h ∧ (∀ c, c < 64 → S.1 46 c = nI (clm (lkg g h (i_pr g)) (i_set g 2) (shw g w) c)) ∧ (∀ v c, v < i_n g → v ≠ shw g w → c < 64 → S.1 42 (64 * v + c) = nI (clm (lkg g h (i_pr g)) (i_set g 2) v c)) ∧ ∀ a, a < 384 → ∃ u, u ≤ 99 ∧ S.1 42 a = nI u
theorem TB_fr {g : Il} {w h : Nat} {S0 S T : gSt} (hn : i_n g ≤ 6) (hb : TB g w h S0 S) (hf : Fr [42, 43, 45] S T) (h41 : True) (h42 : ∀ v x, v ≠ shw g w → x < 64 → 64 * v + x < 384 → T.1 42 (64 * v + x) = S.1 42 (64 * v + x)) (hB : ∀ a, a < 384 → ∃ u, u ≤ 99 ∧ T.1 42 a = nI u) : TB g w h S0 T := by
  obtain ⟨b1, b2, b3, b4, b5, b6, b7, b8⟩ := hb
  have e41 : T.1 41 = S.1 41 := hf.2 41 (by decide)
  have e44 : T.1 44 = S.1 44 := hf.2 44 (by decide)
  have e46 : T.1 46 = S.1 46 := hf.2 46 (by decide)
  refine ⟨b1.trans (hf.mono (by decide)), by rw [e41]; exact b2, by rw [e44]; exact b3, by rw [e44]; exact b4, by rw [e44]; exact b5, fun c hc => by rw [e46]; exact b6 c hc, fun v c hv hs hc => ?_, hB⟩
  rw [h42 v c hs hc (by omega)]
  exact b7 v c hv hs hc
/-- lands counted anew -/
theorem TB_41 {g : Il} {w h : Nat} {S0 S T : gSt} (hb : TB g w h S0 S) (hf : Fr [41, 43] S T) (h3 : T.1 41 3 = S.1 41 3) : TB g w h S0 T := by
  obtain ⟨b1, b2, b3, b4, b5, b6, b7, b8⟩ := hb
  have e42 : T.1 42 = S.1 42 := hf.2 42 (by decide)
  have e44 : T.1 44 = S.1 44 := hf.2 44 (by decide)
  have e46 : T.1 46 = S.1 46 := hf.2 46 (by decide)
  exact ⟨b1.trans (hf.mono (by decide)), by rw [h3]; exact b2, by rw [e44]; exact b3, by rw [e44]; exact b4, by rw [e44]; exact b5, fun c hc => by rw [e46]; exact b6 c hc, fun v c hv hs hc => by rw [e42]; exact b7 v c hv hs hc, fun a ha => by rw [e42]; exact b8 a ha⟩
theorem cBegin {S : gSt} {q : Il × Pa} (h1 : RC S 1 q) (h2 : WF q) {w h : Nat} (hw : w < i_n q.1) (hh : h ≤ 48) : ∃ S', f_X5_begin (nI w) (nI h) S = some S' ∧ TB q.1 w h S S' := by
  have h6 := h2.1.1
  have hs := sho_lt (kd := i_kd q.1 w) hw
  unfold f_X5_begin
  rw [gls, gls]
  have hc2 : RC (gI (gI S 44 2 (nI w)) 44 4 (nI h)) 1 q := RC_eq (fun k x y => by rw [gI_k _ (by omega), gI_k _ (by omega)]) h1
  have hkd := (h2.1.2.2.2.2.1 w hw).1
  rw [cShoes h6 hw hkd (hc2.1.2.2.2.2.1 w hw).1 hc2.1.2.1, g2s, gls, n_64, pk_mul, Nat.mul_comm]
  obtain ⟨T, hT⟩ : ∃ T, T = gI (gI (gI S 44 2 (nI w)) 44 4 (nI h)) 44 3 (nI (64 * sho (i_n q.1) (i_kd q.1 w) w)) := ⟨_, rfl⟩
  rw [← hT]
  have hcT : RC T 1 q := RC_eq (fun k x y => by rw [hT, gI_k _ (by omega)]) hc2
  obtain ⟨U, u1, u2, u3, u4⟩ := cLookB (o := none) (h := h) (fun x hx => by cases hx) (RC_st hcT h2) h6 hcT.1.2.1 h2.1.2.2.2.2.2.1 hcT.1.2.2.2.2.2 hh
  have u1 : f_X3_look (nI h) T = some U := by
    unfold f_X3_look
    have u1 : f_X3_lookWithout (nI h) (-4) T = some U := u1
    rw [u1]; rfl
  have e44 : U.1 44 = T.1 44 := u2.2 44 (by decide)
  have e3 : U.1 44 3 = nI (64 * sho (i_n q.1) (i_kd q.1 w) w) := by rw [e44, hT, gI_s]
  have z0 : (0 : Int32).toNatClampNeg = 0 := rfl
  have z64 : (nI 64).toNatClampNeg = 64 := rfl
  rw [u1, Option.bind_some, e3, show gcp (nI (64 * sho (i_n q.1) (i_kd q.1 w) w)) 0 (nI 64) 384 64 = true from gcp_t (b := 0) (c := 64) (by omega) (by omega) (by decide) (by decide), if_pos rfl, gls, z0, z64, nI_clamp (by omega)]
  refine ⟨_, rfl, ?_, ?_, ?_, ?_, ?_, fun c hc => ?_, fun v c hv hvs hc => ?_, fun a ha => ?_⟩
  · refine Fr.trans (T := T) ?_ ((u2.mono (by decide)).trans (Fr_gR (by decide)))
    rw [hT]
    exact ((Fr_gI (by decide)).trans (Fr_gI (by decide))).trans (Fr_gI (by decide))
  · rw [gR_k _ (by decide)]; exact u3.2.2.1
  · rw [gR_k _ (by decide), e44, hT, gI_i _ (by decide), gI_i _ (by decide), gI_s]
  · rw [gR_k _ (by decide)]; exact e3
  · rw [gR_k _ (by decide), e44, hT, gI_i _ (by decide), gI_s]
  · rw [gR_s, pk_cpy_in (Nat.zero_le _) (by omega), Nat.sub_zero]
    exact u3.2.2.2 _ _ hs hc
  · rw [gR_k _ (by decide)]; exact u3.2.2.2 v c hv hc
  · rw [gR_k _ (by decide)]; exact u4 a ha
theorem cGo {S0 S : gSt} {q : Il × Pa} (h1 : RC S0 1 q) (h2 : WF q) {w h n row : Nat} (hw : w < i_n q.1) (hh : h ≤ 48) (hn : n ≤ 4) (hrow : row < 2 ^ 31) (hb : TB q.1 w h S0 S) : ∃ S', f_X5_go (nI row) (nI n) S = some (bI (gon q.1 w n row n).isSome, S') ∧ TB q.1 w h S0 S' ∧ ∀ g', gon q.1 w n row n = some g' → cSv S' (lkg q.1 h (i_pr g')) (i_set q.1 2) (i_n q.1) := by
  have h6 := h2.1.1
  have hs := sho_lt (kd := i_kd q.1 w) hw
  have hb0 := hb
  obtain ⟨b1, b2, b3, b4, b5, b6, b7, b8⟩ := hb
  have hcS : RC S 1 q := RC_fr b1 h1
  unfold f_X5_go
  have z0 : (0 : Int32).toNatClampNeg = 0 := rfl
  have z64 : (64 : Int32).toNatClampNeg = 64 := rfl
  obtain ⟨s, hsv⟩ : ∃ s, s = shw q.1 w := ⟨_, rfl⟩
  have hs : s < i_n q.1 := by rw [hsv]; exact hs
  rw [← hsv] at b4
  have g1 : gcp (nI (64 * s)) 0 64 384 64 = true := gcp_t (b := 0) (c := 64) (by omega) (by omega) (by decide) (by decide)
  have g2 : gcp 0 (nI (64 * s)) 64 64 384 = true := gcp_t (a := 0) (c := 64) (by omega) (by omega) (by decide) (by decide)
  rw [b4, g1, if_pos rfl, gls, gR_k _ (show 44 ≠ 45 by decide), b4, g2, if_pos rfl, gls, z0, z64, nI_clamp (by omega), gR_k _ (show 44 ≠ 42 by decide), gR_k _ (show 44 ≠ 45 by decide), b3, gin_t (show w < 6 by omega) (by decide), if_pos rfl, gls, nI_clamp (by omega), gR_k _ (show 5 ≠ 42 by decide), gR_k _ (show 5 ≠ 45 by decide), gR_k _ (show 46 ≠ 45 by decide), gR_k _ (show 42 ≠ 45 by decide)]
  obtain ⟨A, hA⟩ : ∃ A, A = gR (gR S 45 (va_cpy (S.1 7) (S.1 45) (64 * s) 0 64)) 42 (va_cpy (S.1 46) (S.1 42) 0 (64 * s) 64) := ⟨_, rfl⟩
  rw [← hA]
  have fA : Fr [42, 43, 45] S A := by
    rw [hA]
    exact (Fr_gR (by decide)).trans (Fr_gR (by decide))
  have A42 : ∀ a, A.1 42 a = if 64 * s ≤ a ∧ a < 64 * s + 64 then S.1 46 (a - 64 * s) else S.1 42 a := fun a => by
    rw [hA, gR_s]
    by_cases hx : 64 * s ≤ a ∧ a < 64 * s + 64
    · rw [if_pos hx, pk_cpy_in hx.1 hx.2, Nat.zero_add]
    · rw [if_neg hx, pk_cpy_out (by omega)]
  have hbA : TB q.1 w h S0 A := by
    refine TB_fr h6 hb0 fA trivial (fun v x hv hx _ => ?_) (fun a ha => ?_)
    · rw [A42, if_neg (by rw [← hsv] at hv; omega)]
    · rw [A42]
      by_cases hx : 64 * s ≤ a ∧ a < 64 * s + 64
      · rw [if_pos hx]
        exact ⟨_, clm_le (lkP_le h2.1.2.2.2.2.2.1 none (i_set q.1) (i_hr q.1) h) _ _ _, b6 _ (by omega)⟩
      · rw [if_neg hx]; exact b8 a ha
  have A45 : ∀ c, c < 64 → A.1 45 c = nI (i_pr q.1 (64 * s + c)) := fun c hc => by
    rw [hA, gR_k _ (by decide), gR_s, pk_cpy_in (Nat.zero_le _) (by omega), Nat.sub_zero]
    exact hcS.1.2.2.2.2.2 _ (by omega)
  have svA : cSv A (lkg q.1 h (i_pr q.1)) (i_set q.1 2) (i_n q.1) := by
    refine ⟨h6, lkP_le h2.1.2.2.2.2.2.1 none (i_set q.1) (i_hr q.1) h, hbA.2.1, fun v x hv hx => ?_⟩
    rw [A42]
    by_cases hvs : v = s
    · rw [if_pos (by omega), show 64 * v + x - 64 * s = x by omega, b6 x hx, hvs, hsv]
    · rw [if_neg (by omega)]
      exact b7 v x hv (by rw [← hsv]; exact hvs) hx
  have c5 : S.1 5 w = nI (i_ce q.1 w) := (hcS.1.2.2.2.2.1 w hw).2.2.1
  rw [c5]
  have key : ∃ R, gLoop f_X5_go_s50 gFuel (nI row, nI n, nI (i_ce q.1 w), 0, A) = some R ∧ ((∃ g' T, gon q.1 w n row n = some g' ∧ R = Sum.inr T ∧ TB q.1 w h S0 T ∧ cSv T (lkg q.1 h (i_pr g')) (i_set q.1 2) (i_n q.1)) ∨ (gon q.1 w n row n = none ∧ ∃ T, R = Sum.inl (0, T) ∧ TB q.1 w h S0 T)) := by
    refine gLoop_up2 (fun k p => ∃ g' T, gon q.1 w n row k = some g' ∧ p = (nI row, nI n, nI (i_ce g' w), nI k, T) ∧ TB q.1 w h S0 T ∧ (∀ c, c < 64 → T.1 45 c = nI (i_pr g' (64 * s + c))) ∧ cSv T (lkg q.1 h (i_pr g')) (i_set q.1 2) (i_n q.1)) _ n (by omega) ?_ ?_ ⟨q.1, A, rfl, rfl, hbA, A45, svA⟩
    · rintro k p hk ⟨g', T, hg, rfl, hT, t45, tsv⟩
      obtain ⟨a1, a2, a3, a4, a5, a6, a7⟩ := gon_GF (WF_s h2) hw k g' hg
      have hw' : w < i_n g' := by rw [a2]; exact hw
      obtain ⟨k1, k2, k3, k4⟩ := a6.2.1 w hw'
      have hcT : RC T 1 q := RC_fr hT.1 h1
      obtain ⟨d1, d2, d3, d4⟩ := hcT.1.2.2.2.2.1 w hw
      have d1 : T.1 3 w = nI (i_kd q.1 w) := d1
      have d2 : T.1 4 w = nI (i_wt q.1 w) := d2
      have d4 : T.1 6 w = i_sp q.1 w := d4
      obtain ⟨kq1, kq2, kq3, kq4⟩ := h2.1.2.2.2.2.1 w hw
      have t2 := hT.2.2.1
      have t3 := hT.2.2.2.1
      have t4 := hT.2.2.2.2.1
      rw [← hsv] at t3
      dsimp only [f_X5_go_s50]
      unfold f_X5_go_s50_b
      rw [if_neg (by rw [nI_leI (by omega) (by omega)]; omega), cWay hn hk hrow, g2s, cBes k4 (wy_le _ _ _), g2s]
      cases hbs : bes (i_ce g' w) (wy row n k) with
      | none =>
        refine Or.inr ⟨_, rfl, Or.inr ⟨gon_no' (gon_s2 hg hbs) (by omega), T, rfl, hT⟩⟩
      | some to =>
        have hto := bes_lt k4 hbs
        have hg2 := gon_s3 hg hbs
        have epr := stp_pr g' w to
        have eo : oI (-2) (some to) = nI to := rfl
        have esp : i_sp q.1 w + nI k + 1 = i_sp g' w + 1 := by rw [a7]
        rw [eo, if_pos (nI_pos' (by omega)), t2, gin_t (show w < 6 by omega) (by decide), if_pos rfl, if_pos rfl, nI_clamp (by omega), d1, d4, esp, cCD kq1, g2s, nI_1]
        rw [a4, a5, a2] at epr
        have e45 : (64 * sho (i_n q.1) (i_kd q.1 w) w) = 64 * s := by rw [hsv]
        rw [e45] at epr
        by_cases hhop : i_kd q.1 w = 4 ∧ ¬ (i_sp g' w + 1).toInt % 2 = 0
        · rw [if_pos hhop] at epr ⊢
          rw [if_pos rfl]
          refine Or.inl ⟨_, rfl, stp g' w to, T, hg2, by rw [stp_ce], hT, ?_, ?_⟩
          · rw [epr]; exact t45
          · rw [epr]; exact tsv
        · rw [if_neg hhop] at epr ⊢
          rw [if_neg one0]
          obtain ⟨U, u1, u2, u3, u4, u5, u6⟩ := cTrT (RC_st hcT h2) hh h6 (show w < 6 by omega) hs hto kq1 kq3 d1 d2 t2 t3 t4 a6.2.2.1 t45 tsv hT.2.2.2.2.2.2.2
          have hU : TB q.1 w h S0 U := TB_fr h6 hT (u2.mono (by decide)) trivial (fun v x hv hx hlt => u6 v x (by rw [hsv]; exact hv) hx hlt) u5
          have e44 : U.1 44 = T.1 44 := u2.2 44 (by decide)
          have v3 : U.1 3 w = nI (i_kd q.1 w) := by rw [u2.2 3 (by decide)]; exact d1
          have v4 : U.1 4 w = nI (i_wt q.1 w) := by rw [u2.2 4 (by decide)]; exact d2
          rw [u1, Option.bind_some, e44, t2, gin_t (show w < 6 by omega) (by decide), if_pos rfl, nI_clamp (by omega), v3, n_3, ieq (by omega) (by decide)]
          by_cases h3 : i_kd q.1 w = 3
          · rw [if_pos h3] at epr ⊢
            have hcU : RC U 1 q := RC_fr hU.1 h1
            obtain ⟨V, v1, v2, vv3, vv4, v5, v6⟩ := cTrT (RC_st hcU h2) hh h6 (show w < 6 by omega) hs k4 kq1 kq3 v3 v4 (by rw [e44]; exact t2) (by rw [e44]; exact t3) (by rw [e44]; exact t4) (dpn_le a6.2.2.1 _ _) u3 u4 u5
            have hV : TB q.1 w h S0 V := TB_fr h6 hU (v2.mono (by decide)) trivial (fun v x hv hx hlt => v6 v x (by rw [hsv]; exact hv) hx hlt) v5
            rw [v1, Option.bind_some]
            refine Or.inl ⟨_, rfl, stp g' w to, V, hg2, by rw [stp_ce], hV, ?_, ?_⟩
            · rw [epr]; exact vv3
            · rw [epr]; exact vv4
          · rw [if_neg h3] at epr ⊢
            refine Or.inl ⟨_, rfl, stp g' w to, U, hg2, by rw [stp_ce], hU, ?_, ?_⟩
            · rw [epr]; exact u3
            · rw [epr]; exact u4
    · rintro p ⟨g', T, hg, rfl, hT, t45, tsv⟩
      dsimp only [f_X5_go_s50]
      unfold f_X5_go_s50_b
      rw [if_pos (by rw [nI_leI (by omega) (by omega)]; omega)]
      exact ⟨_, rfl, Or.inl ⟨g', T, hg, rfl, hT, tsv⟩⟩
  obtain ⟨R, r1, ⟨g', T, r2, rfl, r3, r4⟩ | ⟨r2, T, rfl, r3⟩⟩ := key
  · rw [r1, r2]
    exact ⟨T, rfl, r3, fun g'' hg => by cases hg; exact r4⟩
  · rw [r1, r2]
    exact ⟨T, rfl, r3, fun g'' hg => by cases hg⟩
/-! the reference's row of steps -/
def dd (n k : Nat) : Int32 := if k < n then nI (n - 1 - k) else -1
theorem dd_s {n k : Nat} (h : k < n) : dd n k + (-1) = dd n (k + 1) := by
  unfold dd
  rw [if_pos h]
  by_cases h1 : k + 1 < n
  · rw [if_pos h1, show n - 1 - k = (n - 1 - (k + 1)) + 1 by omega, pk_m1]
  · rw [if_neg h1, show n - 1 - k = 0 by omega]; decide
theorem dd_0 (n : Nat) : nI n - 1 = dd n 0 := by
  unfold dd
  by_cases h : 0 < n
  · rw [if_pos h, n_1, nI_sub_le (by omega)]; rfl
  · rw [if_neg h, show n = 0 by omega]; decide
theorem mGone {T : gSt} {g : Il} (hM : MI (T.1 48) g) (hwf : WFs g) {w n row : Nat} (hw : w < i_n g) (hn : n ≤ 4) (hrow : row < 2 ^ 31) : ∃ T', f_X7_isGone (nI w) (nI n) (nI row) T = some (bI (gon g w n row n).isSome, T') ∧ Fr8 T T' ∧ ∀ g', gon g w n row n = some g' → MI (T'.1 48) g' := by
  have h6 := hwf.1
  unfold f_X7_isGone
  rw [gls, dd_0]
  have key : ∃ R, gLoop f_X7_isGone_s8 gFuel (nI w, nI row, 1, dd n 0, T) = some R ∧ ((∃ g' U, gon g w n row n = some g' ∧ R = (1, U) ∧ Fr8 T U ∧ MI (U.1 48) g') ∨ (gon g w n row n = none ∧ ∃ U, R = (0, U) ∧ Fr8 T U)) := by
    refine gLoop_up2 (fun k p => (∃ g' U, gon g w n row k = some g' ∧ p = (nI w, nI row, 1, dd n k, U) ∧ Fr8 T U ∧ MI (U.1 48) g') ∨ (gon g w n row k = none ∧ ∃ y U, p = (nI w, nI row, 0, y, U) ∧ Fr8 T U)) _ n (by omega) ?_ ?_ (Or.inl ⟨g, T, rfl, rfl, Fr8_rfl, hM⟩)
    · rintro k p hk (⟨g', U, hg, rfl, hU, hMU⟩ | ⟨hg, y, U, rfl, hU⟩)
      · obtain ⟨a1, a2, a3, a4, a5, a6, a7⟩ := gon_GF hwf hw k g' hg
        have hw' : w < i_n g' := by rw [a2]; exact hw
        obtain ⟨k1, k2, k3, k4⟩ := a6.2.1 w hw'
        have ed : dd n k = nI (n - 1 - k) := if_pos hk
        have hc := (hMU.2.2.2.2.1 w hw').2.2.1
        dsimp only [f_X7_isGone_s8]
        unfold f_X7_isGone_s8_b f_X7_isGone_j56
        rw [dd_s hk, ed, if_neg (nI_pos (by omega)), if_neg one0, gls, wyI (by omega) hrow, mAt, n_2, nI_add, show 8 + 4 * w + 2 = 10 + 4 * w by omega, gin_t (show 10 + 4 * w < 416 by omega) (by decide), if_pos rfl, nI_clamp (by omega), hc]
        have hbe := mBes k4 (wy_le row n k) U
        have hbe : f_X7_beside (nI (i_ce g' w)) (nI (row / 2 ^ (2 * (n - 1 - k)) % 2 ^ 2)) U = some (oI (-4) (bes (i_ce g' w) (wy row n k)), U) := hbe
        rw [hbe, g2s]
        cases hbs : bes (i_ce g' w) (wy row n k) with
        | none =>
          rw [if_pos (show oI (-4) none = -4 from rfl), if_pos rfl]
          exact Or.inl ⟨_, rfl, Or.inr ⟨gon_s2 hg hbs, _, U, rfl, hU⟩⟩
        | some to =>
          have hto := bes_lt k4 hbs
          rw [if_neg (show ¬ oI (-4) (some to) = -4 from fun z => absurd (show nI to < 0 by rw [show nI to = -4 from z]; decide) (nI_pos (by omega))), if_neg one0]
          obtain ⟨V, v1, v2, v3, v4⟩ := mSteps hMU a6 hw' (wy_le row n k) hbs
          have v1 : f_X7_steps (nI w) (nI (row / 2 ^ (2 * (n - 1 - k)) % 2 ^ 2)) U = some V := v1
          rw [v1, Option.bind_some]
          exact Or.inl ⟨_, rfl, Or.inl ⟨_, V, gon_s3 hg hbs, rfl, hU.trans v2, v3⟩⟩
      · dsimp only [f_X7_isGone_s8]
        unfold f_X7_isGone_s8_b
        rw [if_pos rfl, ite_self]
        exact Or.inr ⟨_, rfl, Or.inr ⟨gon_no' hg (by omega), U, rfl, hU⟩⟩
    · rintro p (⟨g', U, hg, rfl, hU, hMU⟩ | ⟨hg, y, U, rfl, hU⟩)
      · dsimp only [f_X7_isGone_s8]
        unfold f_X7_isGone_s8_b
        rw [if_pos (show dd n n < 0 by unfold dd; rw [if_neg (by omega)]; decide)]
        exact ⟨_, rfl, Or.inl ⟨g', U, hg, rfl, hU, hMU⟩⟩
      · dsimp only [f_X7_isGone_s8]
        unfold f_X7_isGone_s8_b
        rw [if_pos rfl, ite_self]
        exact ⟨_, rfl, Or.inr ⟨hg, U, rfl, hU⟩⟩
  obtain ⟨R, r1, ⟨g', U, r2, rfl, r3, r4⟩ | ⟨r2, U, rfl, r3⟩⟩ := key
  · rw [r1, r2]
    exact ⟨U, rfl, r3, fun g'' hg => by cases hg; exact r4⟩
  · rw [r1, r2]
    exact ⟨U, rfl, r3, fun g'' hg => by cases hg⟩
