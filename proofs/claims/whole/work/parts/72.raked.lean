/-! raked -/
def laF (V : Nat → Int64) (a : Nat) (Q : Nat → Nat) (r n : Nat) : Bool := al (fun w => decide (V (a + w) = (nI (lnd Q r n w)).toInt64)) n
theorem cRkA {S : gSt} {V : Nat → Int64} {j a n : Nat} (x : Int32) (hj : j < 4) (h7 : S.1 1 7 = nI n) (hv : ∀ i, i < 24 → S.2 (37 + j) i = V i) (ha : a + n ≤ 24) : gLoop f_X6_raked_s40 gFuel (nI j, nI a, x, 0, S) = some (if al (fun w => wth (V (a + w)) 64) n then Sum.inr (nI j, nI a, x, S) else Sum.inl (-2, S)) := by
  have key : ∃ R, gLoop f_X6_raked_s40 gFuel (nI j, nI a, x, 0, S) = some R ∧ R = (if al (fun w => wth (V (a + w)) 64) n then Sum.inr (nI j, nI a, x, S) else Sum.inl (-2, S)) := by
    refine gLoop_up2 (fun i p => p = (nI j, nI a, x, nI i, S) ∧ al (fun w => wth (V (a + w)) 64) i = true) _ n (by omega) ?_ ?_ ⟨rfl, rfl⟩
    · rintro i p hi ⟨rfl, hal⟩
      dsimp only [f_X6_raked_s40]
      unfold f_X6_raked_s40_b
      rw [h7, if_neg (by rw [nI_leI (by omega) (by omega)]; omega), gin_t hj (by decide), if_pos rfl, nI_clamp (by omega), nI_add, n_64, cWith (by omega) (by decide), g2s, hv _ (by omega), nI_1 i]
      cases w1 : wth (V (a + i)) 64 with
      | false => exact Or.inr ⟨_, rfl, by rw [al_f (f := fun w => wth (V (a + w)) 64) hi w1]; rfl⟩
      | true =>
        rw [bI_t, if_neg one0]
        exact Or.inl ⟨_, rfl, rfl, al_s hal w1⟩
    · rintro p ⟨rfl, hal⟩
      dsimp only [f_X6_raked_s40]
      unfold f_X6_raked_s40_b
      rw [h7, if_pos (by rw [nI_leI (by omega) (by omega)]; omega)]
      exact ⟨_, rfl, by rw [hal]; rfl⟩
  obtain ⟨R, r1, rfl⟩ := key
  exact r1
theorem mRkA {S : gSt} {V : Nat → Int64} {j a n : Nat} (x : Int32) (hj : j < 4) (h5 : S.1 48 5 = nI n) (hv : ∀ i, i < 24 → S.2 59 (24 * j + i) = V i) (ha : a + n ≤ 24) : gLoop f_X7_raked_s61 gFuel (x, nI (24 * j + a), 0, S) = some (if al (fun w => wth (V (a + w)) 64) n then Sum.inr (x, nI (24 * j + a), S) else Sum.inl (-2, S)) := by
  have e0 : (5 : Int32).toNatClampNeg = 5 := rfl
  have e1 : gin 5 416 = true := rfl
  have key : ∃ R, gLoop f_X7_raked_s61 gFuel (x, nI (24 * j + a), 0, S) = some R ∧ R = (if al (fun w => wth (V (a + w)) 64) n then Sum.inr (x, nI (24 * j + a), S) else Sum.inl (-2, S)) := by
    refine gLoop_up2 (fun i p => p = (x, nI (24 * j + a), nI i, S) ∧ al (fun w => wth (V (a + w)) 64) i = true) _ n (by omega) ?_ ?_ ⟨rfl, rfl⟩
    · rintro i p hi ⟨rfl, hal⟩
      dsimp only [f_X7_raked_s61]
      unfold f_X7_raked_s61_b
      rw [e1, if_pos rfl, e0, h5, if_neg (by rw [nI_leI (by omega) (by omega)]; omega), nI_add, gin_t (show 24 * j + a + i < 96 by omega) (by decide), if_pos rfl, nI_clamp (by omega), Nat.add_assoc (24 * j), hv _ (by omega), mIn _ 64 rfl, g2s, nI_1 i]
      cases w1 : wth (V (a + i)) 64 with
      | false => exact Or.inr ⟨_, rfl, by rw [al_f (f := fun w => wth (V (a + w)) 64) hi w1]; rfl⟩
      | true =>
        rw [bI_t, if_neg one0]
        exact Or.inl ⟨_, rfl, rfl, al_s hal w1⟩
    · rintro p ⟨rfl, hal⟩
      dsimp only [f_X7_raked_s61]
      unfold f_X7_raked_s61_b
      rw [e1, if_pos rfl, e0, h5, if_pos (by rw [nI_leI (by omega) (by omega)]; omega)]
      exact ⟨_, rfl, by rw [hal]; rfl⟩
  obtain ⟨R, r1, rfl⟩ := key
  exact r1
theorem cLandAll {S : gSt} {V : Nat → Int64} {Q : Nat → Nat} {r n j a : Nat} (hn : n ≤ 6) (h7 : S.1 1 7 = nI n) (hv : ∀ i, i < 24 → S.2 (37 + j) i = V i) (ha : a + n ≤ 24) (hL : cLd S Q r n) : f_X6_isLandOfAll j (nI a) S = some (bI (laF V a Q r n), S) := by
  unfold f_X6_isLandOfAll laF
  have key : ∃ R, gLoop (f_X6_isLandOfAll_s2 j) gFuel (nI a, 0, S) = some R ∧ ((al (fun w => decide (V (a + w) = (nI (lnd Q r n w)).toInt64)) n = true ∧ R = Sum.inr S) ∨ (al (fun w => decide (V (a + w) = (nI (lnd Q r n w)).toInt64)) n = false ∧ R = Sum.inl (0, S))) := by
    refine gLoop_up2 (fun i p => p = (nI a, nI i, S) ∧ al (fun w => decide (V (a + w) = (nI (lnd Q r n w)).toInt64)) i = true) _ n (by omega) ?_ ?_ ⟨rfl, rfl⟩
    · rintro i p hi ⟨rfl, hal⟩
      dsimp only [f_X6_isLandOfAll_s2]
      unfold f_X6_isLandOfAll_s2_b
      rw [h7, if_neg (by rw [nI_leI (by omega) (by omega)]; omega), nI_add, gin_t (show a + i < 24 by omega) (by decide), if_pos rfl, gin_t (show i < 6 by omega) (by decide), if_pos rfl, nI_clamp (by omega), nI_clamp (by omega), hv _ (by omega), hL.1 i (by omega), nI_1 i]
      by_cases hh : V (a + i) = (nI (lnd Q r n i)).toInt64
      · rw [if_pos ((lg_eq _ _).mpr hh)]
        exact Or.inl ⟨_, rfl, rfl, al_s hal (decide_eq_true hh)⟩
      · rw [if_neg (fun z => hh ((lg_eq _ _).mp z))]
        exact Or.inr ⟨_, rfl, Or.inr ⟨al_f hi (decide_eq_false hh), rfl⟩⟩
    · rintro p ⟨rfl, hal⟩
      dsimp only [f_X6_isLandOfAll_s2]
      unfold f_X6_isLandOfAll_s2_b
      rw [h7, if_pos (by rw [nI_leI (by omega) (by omega)]; omega)]
      exact ⟨_, rfl, Or.inl ⟨hal, rfl⟩⟩
  obtain ⟨R, r1, ⟨h, rfl⟩ | ⟨h, rfl⟩⟩ := key
  · rw [r1, h]; rfl
  · rw [r1, h]; rfl
theorem lkP_sw (P : Nat → Nat) (st : Nat → Nat) (hr c : Nat) : lkP P (some c) st hr 0 = sw P c := by
  funext i
  unfold lkP sw
  rw [dep_0]
  by_cases h : i % 64 = c
  · rw [if_pos (by rw [h]), if_pos h]
  · rw [if_neg (fun z => h (Option.some.inj z).symm), if_neg h]
theorem sw_un {P : Nat → Nat} {n c : Nat} (hn : n ≤ 6) (hz : ∀ i, 64 * n ≤ i → P i = 0) (h : tro P 6 c = 0) : sw P c = P := by
  funext i
  unfold sw
  by_cases h1 : i % 64 = c
  · rw [if_pos h1]
    by_cases h2 : i < 384
    · have h3 : ∀ k, k ≤ 6 → tro P k c = 0 := fun k hk => by
        have := cnt_mono (fun w => decide (0 < P (64 * w + c))) hk
        unfold tro at h ⊢
        omega
      have h4 := h3 (i / 64 + 1) (by omega)
      rw [tro_s, h3 (i / 64) (by omega)] at h4
      by_cases h5 : 0 < P (64 * (i / 64) + c)
      · rw [if_pos h5] at h4; omega
      · rw [show i = 64 * (i / 64) + c by omega]; omega
    · exact (hz i (by omega)).symm
  · rw [if_neg h1]
def dn (i : Nat) : Int32 := if i < 64 then nI (63 - i) else -1
theorem dn_s {i : Nat} (h : i < 64) : dn i + (-1) = dn (i + 1) := by
  unfold dn
  rw [if_pos h]
  by_cases h1 : i + 1 < 64
  · rw [if_pos h1, show 63 - i = (63 - (i + 1)) + 1 by omega, pk_m1]
  · rw [if_neg h1, show i = 63 by omega]; decide
def LsD (F : Nat → Bool) (k : Nat) (v : Int32) : Prop := (v = -4 ∧ ∀ c, k ≤ c → c < 64 → F c = false) ∨ ∃ c, v = nI c ∧ k ≤ c ∧ c < 64 ∧ F c = true ∧ ∀ d, k ≤ d → d < c → F d = false
def LsU (F : Nat → Bool) (k : Nat) (v : Int32) : Prop := (v = -4 ∧ ∀ c, c < k → F c = false) ∨ ∃ c, v = nI c ∧ c < k ∧ F c = true ∧ ∀ d, d < c → F d = false
theorem Ls_eq {F : Nat → Bool} {u v : Int32} (h1 : LsD F 0 u) (h2 : LsU F 64 v) : u = v := by
  rcases h1 with ⟨e1, a1⟩ | ⟨c, e1, -, c1, c2, c3⟩
  · rcases h2 with ⟨e2, -⟩ | ⟨d, -, d1, d2, -⟩
    · rw [e1, e2]
    · rw [a1 d (Nat.zero_le _) d1] at d2; cases d2
  · rcases h2 with ⟨-, a2⟩ | ⟨d, e2, d1, d2, d3⟩
    · rw [a2 c c1] at c2; cases c2
    · rw [e1, e2]
      by_cases h : c < d
      · rw [d3 c h] at c2; cases c2
      · by_cases h' : d < c
        · rw [c3 d (Nat.zero_le _) h'] at d2; cases d2
        · rw [show c = d by omega]
def rkF (V : Nat → Int64) (a : Nat) (P : Nat → Nat) (r n c : Nat) : Bool := laF V a (sw P c) r n
theorem cRkB {S : gSt} {V : Nat → Int64} {q : Il × Pa} {j a : Nat} (x : Int32) (h1 : RC S 1 q) (h2 : WF q) (hj : j < 4) (hv : ∀ i, i < 24 → S.2 (37 + j) i = V i) (ha : a + i_n q.1 ≤ 24) : ∃ v S', gLoop f_X6_raked_s115 gFuel (nI j, nI a, x, bI (laF V a (i_pr q.1) (i_set q.1 2) (i_n q.1)), 0, -4, 63, S) = some (x, nI (cnt (rkF V a (i_pr q.1) (i_set q.1 2) (i_n q.1)) 64), v, S') ∧ Fr [41, 42, 43] S S' ∧ LsD (rkF V a (i_pr q.1) (i_set q.1 2) (i_n q.1)) 0 v := by
  have hn := h2.1.1
  obtain ⟨F, hF⟩ : ∃ F, F = rkF V a (i_pr q.1) (i_set q.1 2) (i_n q.1) := ⟨_, rfl⟩
  have key : ∃ R, gLoop f_X6_raked_s115 gFuel (nI j, nI a, x, bI (laF V a (i_pr q.1) (i_set q.1 2) (i_n q.1)), 0, -4, 63, S) = some R ∧ ∃ v T, R = (x, nI (cnt F 64), v, T) ∧ Fr [41, 42, 43] S T ∧ LsD F 0 v := by
    refine gLoop_up (fun i p => ∃ v T, p = (nI j, nI a, x, bI (laF V a (i_pr q.1) (i_set q.1 2) (i_n q.1)), nI (cnt F 64 - cnt F (64 - i)), v, dn i, T) ∧ Fr [41, 42, 43] S T ∧ LsD F (64 - i) v) _ 64 (by omega) ?_ ?_ ⟨-4, S, by rw [Nat.sub_zero, Nat.sub_self]; rfl, Fr_rfl, Or.inl ⟨rfl, fun c h h' => by omega⟩⟩
    · rintro i p hi ⟨v, T, rfl, hT, hL⟩
      dsimp only [f_X6_raked_s115]
      unfold f_X6_raked_s115_b
      have hTc : RC T 1 q := RC_fr (hT.mono (by decide)) h1
      have hc : 63 - i < 64 := by omega
      have ed : dn i = nI (63 - i) := if_pos hi
      have hcs : cnt F (64 - i) = cnt F (63 - i) + (if F (63 - i) then 1 else 0) := by rw [show 64 - i = (63 - i) + 1 by omega, cnt]
      have hmo := cnt_mono F (show 64 - i ≤ 64 by omega)
      have hle := cnt_le F 64
      have fin : ∀ (U : gSt) (b : Bool), Fr [41, 42, 43] S U → b = F (63 - i) → ∃ p', (if bI b = 0 then some (Sum.inl (nI j, nI a, x, bI (laF V a (i_pr q.1) (i_set q.1 2) (i_n q.1)), nI (cnt F 64 - cnt F (64 - i)), v, dn i + (-1), U)) else some (Sum.inl (nI j, nI a, x, bI (laF V a (i_pr q.1) (i_set q.1 2) (i_n q.1)), nI (cnt F 64 - cnt F (64 - i)) + 1, dn i, dn i + (-1), U))) = some ((Sum.inl p') : (Int32 × Int32 × Int32 × Int32 × Int32 × Int32 × Int32 × gSt) ⊕ (Int32 × Int32 × Int32 × gSt)) ∧ ∃ v T, p' = (nI j, nI a, x, bI (laF V a (i_pr q.1) (i_set q.1 2) (i_n q.1)), nI (cnt F 64 - cnt F (64 - (i + 1))), v, dn (i + 1), T) ∧ Fr [41, 42, 43] S T ∧ LsD F (64 - (i + 1)) v := by
        intro U b hU hb
        rw [dn_s hi]
        have e63 : 64 - (i + 1) = 63 - i := by omega
        cases b with
        | false =>
          rw [bI_f, if_pos rfl]
          rw [← hb] at hcs
          refine ⟨_, rfl, v, U, by rw [e63, hcs]; rfl, hU, ?_⟩
          rw [e63]
          rcases hL with ⟨l1, l2⟩ | ⟨c, l1, l2, l3, l4, l5⟩
          · refine Or.inl ⟨l1, fun c hc1 hc2 => ?_⟩
            by_cases hcc : c = 63 - i
            · rw [hcc]; exact hb.symm
            · exact l2 c (by omega) hc2
          · refine Or.inr ⟨c, l1, by omega, l3, l4, fun d hd1 hd2 => ?_⟩
            by_cases hdd : d = 63 - i
            · rw [hdd]; exact hb.symm
            · exact l5 d (by omega) hd2
        | true =>
          rw [bI_t, if_neg one0, nI_1]
          rw [← hb, if_pos rfl] at hcs
          refine ⟨_, rfl, dn i, U, ?_, hU, ?_⟩
          · rw [e63, show cnt F 64 - cnt F (64 - i) + 1 = cnt F 64 - cnt F (63 - i) by omega]
          · rw [e63, ed]
            exact Or.inr ⟨63 - i, rfl, Nat.le_refl _, hc, hb.symm, fun d h h' => by omega⟩
      rw [if_neg (by rw [ed]; exact nI_pos (by omega))]
      have htr := cTrod (S := T) (P := i_pr q.1) h2.1.2.2.2.2.2.1 hTc.1.2.2.2.2.2 hc
      rw [← ed] at htr
      rw [htr, g2s]
      by_cases h0 : 0 < tro (i_pr q.1) 6 (63 - i)
      · rw [decide_eq_true h0, bI_t, if_neg one0]
        obtain ⟨U, u1, u2, u3, u4⟩ := cLook (S := T) (o := some (63 - i)) (h := 0) (fun y hy => by cases hy; omega) (RC_st hTc h2) hn hTc.1.2.1 h2.1.2.2.2.2.2.1 hTc.1.2.2.2.2.2 (by omega)
        rw [lkP_sw] at u4
        have u1 : f_X3_lookWithout 0 (dn i) T = some U := by rw [ed]; exact u1
        have eU : U.1 1 = T.1 1 := u2.2 1 (by decide)
        rw [u1, Option.bind_some, gin_t hj (by decide), if_pos rfl, nI_clamp (by omega), cLandAll (V := V) hn (by rw [eU]; exact hTc.1.2.1) (fun i hi => by rw [u2.1, hT.1]; exact hv i hi) ha u4, g2s]
        exact fin U _ (hT.trans u2) (by rw [hF]; rfl)
      · rw [decide_eq_false h0, bI_f, if_pos rfl]
        refine fin T _ hT ?_
        rw [hF]
        unfold rkF
        rw [sw_un hn h2.1.2.2.2.2.2.2 (by omega)]
    · rintro p ⟨v, T, rfl, hT, hL⟩
      dsimp only [f_X6_raked_s115]
      unfold f_X6_raked_s115_b
      rw [if_pos (by decide)]
      exact ⟨_, rfl, v, T, rfl, hT, hL⟩
  obtain ⟨R, r1, v, T, rfl, r2, r3⟩ := key
  rw [hF] at r1 r3
  exact ⟨v, T, r1, r2, r3⟩
theorem mRkC {S : gSt} {Q : Nat → Nat} {r n w : Nat} (x4 x6 x7 x8 x9 x10 : Int32) (hn : n ≤ 6) (hw : w < 6) (h49 : ∀ c, c < 64 → S.1 49 c = hI (hol Q r n c)) : gLoop f_X7_raked_s156 gFuel (x4, x6, x7, x8, x9, x10, nI w, 0, 0, S) = some (x4, x6, x7, x8, x9, x10, nI w, nI (lnd Q r n w), S) := by
  have key : ∃ R, gLoop f_X7_raked_s156 gFuel (x4, x6, x7, x8, x9, x10, nI w, 0, 0, S) = some R ∧ R = (x4, x6, x7, x8, x9, x10, nI w, nI (lnd Q r n w), S) := by
    refine gLoop_up (fun i p => p = (x4, x6, x7, x8, x9, x10, nI w, nI (cnt (fun c => decide (hol Q r n c = some w)) i), nI i, S)) _ 64 (by omega) ?_ ?_ rfl
    · rintro i p hi rfl
      dsimp only [f_X7_raked_s156]
      unfold f_X7_raked_s156_b
      rw [if_neg (by rw [n_64, nI_leI (by omega) (by omega)]; omega), gin_t hi (by decide), if_pos rfl, nI_clamp (by omega), h49 i hi, gls, gls, nI_1 i, cnt]
      by_cases h1 : hol Q r n i = some w
      · rw [if_pos ((hI_eq _ _ (by omega) (fun v hv => by have := hol_lt hv; omega)).mpr h1), decide_eq_true h1, if_pos rfl]
        exact ⟨_, rfl, by rw [nI_1]⟩
      · rw [if_neg (fun z => h1 ((hI_eq _ _ (by omega) (fun v hv => by have := hol_lt hv; omega)).mp z)), decide_eq_false h1]
        exact ⟨_, rfl, by simp only [n_0, nI_add]; rfl⟩
    · rintro p rfl
      dsimp only [f_X7_raked_s156]
      unfold f_X7_raked_s156_b
      rw [if_pos (by rw [n_64, nI_leI (by omega) (by omega)]; omega)]
      exact ⟨_, rfl, rfl⟩
  obtain ⟨R, r1, rfl⟩ := key
  exact r1
theorem mRkD {S : gSt} {V : Nat → Int64} {Q : Nat → Nat} {r n j a : Nat} (x4 x7 x8 x9 : Int32) (hj : j < 4) (hn : n ≤ 6) (h5 : S.1 48 5 = nI n) (h49 : ∀ c, c < 64 → S.1 49 c = hI (hol Q r n c)) (hv : ∀ i, i < 24 → S.2 59 (24 * j + i) = V i) (ha : a + n ≤ 24) : gLoop f_X7_raked_s139 gFuel (x4, nI (24 * j + a), x7, x8, x9, 1, 0, S) = some (x4, nI (24 * j + a), x7, x8, x9, bI (laF V a Q r n), S) := by
  have e0 : (5 : Int32).toNatClampNeg = 5 := rfl
  have e1 : gin 5 416 = true := rfl
  unfold laF
  have key : ∃ R, gLoop f_X7_raked_s139 gFuel (x4, nI (24 * j + a), x7, x8, x9, 1, 0, S) = some R ∧ R = (x4, nI (24 * j + a), x7, x8, x9, bI (al (fun w => decide (V (a + w) = (nI (lnd Q r n w)).toInt64)) n), S) := by
    refine gLoop_up (fun i p => p = (x4, nI (24 * j + a), x7, x8, x9, bI (al (fun w => decide (V (a + w) = (nI (lnd Q r n w)).toInt64)) i), nI i, S)) _ n (by omega) ?_ ?_ rfl
    · rintro i p hi rfl
      dsimp only [f_X7_raked_s139]
      unfold f_X7_raked_s139_b
      rw [e1, if_pos rfl, e0, h5, if_neg (by rw [nI_leI (by omega) (by omega)]; omega), mRkC _ _ _ _ _ _ hn (show i < 6 by omega) h49, Option.bind_some]
      dsimp only
      rw [nI_1 i]
      cases hal : al (fun w => decide (V (a + w) = (nI (lnd Q r n w)).toInt64)) i with
      | false =>
        rw [bI_f, if_pos rfl]
        exact ⟨_, rfl, by rw [al, hal]; rfl⟩
      | true =>
        rw [bI_t, if_neg one0, nI_add, gin_t (show 24 * j + a + i < 96 by omega) (by decide), if_pos rfl, nI_clamp (by omega), Nat.add_assoc (24 * j), hv _ (by omega)]
        by_cases hh : V (a + i) = (nI (lnd Q r n i)).toInt64
        · rw [if_pos ((lg_eq _ _).mpr hh)]
          exact ⟨_, rfl, by rw [al_s hal (decide_eq_true hh)]; rfl⟩
        · rw [if_neg (fun z => hh ((lg_eq _ _).mp z))]
          exact ⟨_, rfl, by rw [al_f (Nat.lt_succ_self i) (decide_eq_false hh)]; rfl⟩
    · rintro p rfl
      dsimp only [f_X7_raked_s139]
      unfold f_X7_raked_s139_b
      rw [e1, if_pos rfl, e0, h5, if_pos (by rw [nI_leI (by omega) (by omega)]; omega)]
      exact ⟨_, rfl, rfl⟩
  obtain ⟨R, r1, rfl⟩ := key
  exact r1
theorem cnt_0 {F : Nat → Bool} : ∀ {i : Nat}, cnt F i = 0 → ∀ c, c < i → F c = false
  | 0, _, c, hc => by omega
  | i + 1, h, c, hc => by
    rw [cnt] at h
    by_cases hci : c = i
    · rw [hci]
      cases e : F i with
      | false => rfl
      | true => rw [e, if_pos rfl] at h; omega
    · exact cnt_0 (i := i) (by omega) c (by omega)
theorem mRkE {S : gSt} {V : Nat → Int64} {q : Il × Pa} {j a : Nat} (x : Int32) (hM : MI (S.1 48) q.1) (h2 : WF q) (h53 : ∀ i, i < 416 → S.1 53 i = S.1 48 i) (hj : j < 4) (hv : ∀ i, i < 24 → S.2 59 (24 * j + i) = V i) (ha : a + i_n q.1 ≤ 24) : ∃ v S', gLoop f_X7_raked_s115 gFuel (x, nI (24 * j + a), 0, -4, 0, S) = some (x, nI (cnt (rkF V a (i_pr q.1) (i_set q.1 2) (i_n q.1)) 64), v, S') ∧ Fr [49] S S' ∧ LsU (rkF V a (i_pr q.1) (i_set q.1 2) (i_n q.1)) 64 v := by
  have hn := h2.1.1
  obtain ⟨F, hF⟩ : ∃ F, F = rkF V a (i_pr q.1) (i_set q.1 2) (i_n q.1) := ⟨_, rfl⟩
  have key : ∃ R, gLoop f_X7_raked_s115 gFuel (x, nI (24 * j + a), 0, -4, 0, S) = some R ∧ ∃ v T, R = (x, nI (cnt F 64), v, T) ∧ Fr [49] S T ∧ LsU F 64 v := by
    refine gLoop_up (fun i p => ∃ v T, p = (x, nI (24 * j + a), nI (cnt F i), v, nI i, T) ∧ Fr [49] S T ∧ LsU F i v) _ 64 (by omega) ?_ ?_ ⟨-4, S, rfl, Fr_rfl, Or.inl ⟨rfl, fun c h => by omega⟩⟩
    · rintro i p hi ⟨v, T, rfl, hT, hL⟩
      dsimp only [f_X7_raked_s115]
      unfold f_X7_raked_s115_b
      have hMT : MI (T.1 48) q.1 := by rw [hT.2 48 (by decide)]; exact hM
      obtain ⟨A, a1, a2, a3⟩ := mRakes hMT (WF_r h2) hi
      have wA : WFr (u_pr q.1 (sw (i_pr q.1) i)) := ⟨hn, (WF_r h2).2.1, (WF_r h2).2.2.1, WFpr_sw _ h2.1.2.2.2.2.2⟩
      have hcl : mCl A (sw (i_pr q.1) i) (i_set q.1 2) (i_n q.1) := MI_cl a3 wA
      obtain ⟨B, b1, b2, b3⟩ := mHolds hcl
      have e5 : B.1 48 5 = nI (i_n q.1) := by rw [b2.2 48 (by decide)]; exact hcl.2.2.2.2.2
      have vB : ∀ i, i < 24 → B.2 59 (24 * j + i) = V i := fun i hi => by rw [b2.1, a2.1.1, hT.1]; exact hv i hi
      have hd := fun x7 x8 x9 => mRkD (V := V) x x7 x8 x9 hj hn e5 b3 vB ha
      have hle := cnt_le F i
      obtain ⟨C, c1, c2, c3⟩ := mBack B
      have x48 : C.1 48 = T.1 48 := by
        funext k
        by_cases hk : k < 416
        · rw [c3 k hk, b2.2 53 (by decide), a2.1.2 53 (by decide), hT.2 53 (by decide), h53 k hk, hT.2 48 (by decide)]
        · rw [c2.2 k (by omega), b2.2 48 (by decide), a2.2 k (by omega)]
      have hC : Fr [49] S C := by
        refine ⟨by rw [c2.1.1, b2.1, a2.1.1, hT.1], fun k hk => ?_⟩
        by_cases h48 : k = 48
        · rw [h48, x48, hT.2 48 (by decide)]
        · rw [c2.1.2 k (by simp [h48]), b2.2 k hk, a2.1.2 k (by simp [h48]), hT.2 k hk]
      have ef : laF V a (sw (i_pr q.1) i) (i_set q.1 2) (i_n q.1) = F i := by rw [hF]; rfl
      rw [if_neg (by rw [n_64, nI_leI (by omega) (by omega)]; omega), a1, g2s, b1, Option.bind_some, hd, Option.bind_some]
      dsimp only
      rw [ef]
      unfold f_X7_raked_j241 f_X7_raked_j243
      rw [c1]
      simp only [gls, Option.bind_some]
      rw [nI_1 i]
      cases hb : F i with
      | false =>
        rw [bI_f, if_pos rfl, if_pos rfl]
        refine ⟨_, rfl, v, C, ?_, hC, ?_⟩
        · rw [cnt, hb, n_0, nI_add]; rfl
        · rcases hL with ⟨l1, l2⟩ | ⟨c, l1, l2, l3, l4⟩
          · refine Or.inl ⟨l1, fun c hc => ?_⟩
            by_cases hci : c = i
            · rw [hci]; exact hb
            · exact l2 c (by omega)
          · exact Or.inr ⟨c, l1, by omega, l3, l4⟩
      | true =>
        rw [bI_t, if_neg one0, if_neg one0, if_neg one0, nI_1, n_0, ieq (by omega) (by omega)]
        by_cases h0 : cnt F i = 0
        · rw [if_pos h0]
          refine ⟨_, rfl, nI i, C, by rw [cnt, hb, if_pos rfl], hC, Or.inr ⟨i, rfl, by omega, hb, cnt_0 h0⟩⟩
        · rw [if_neg h0]
          refine ⟨_, rfl, v, C, by rw [cnt, hb, if_pos rfl], hC, ?_⟩
          rcases hL with ⟨l1, l2⟩ | ⟨c, l1, l2, l3, l4⟩
          · exfalso
            apply h0
            have : ∀ k, k ≤ i → cnt F k = 0 := by
              intro k
              induction k with
              | zero => intro _; rfl
              | succ k ih =>
                intro hk
                rw [cnt, ih (by omega), l2 k (by omega)]; rfl
            exact this i (Nat.le_refl _)
          · exact Or.inr ⟨c, l1, by omega, l3, l4⟩
    · rintro p ⟨v, T, rfl, hT, hL⟩
      dsimp only [f_X7_raked_s115]
      unfold f_X7_raked_s115_b
      rw [if_pos (by decide)]
      exact ⟨_, rfl, v, T, rfl, hT, hL⟩
  obtain ⟨R, r1, v, T, rfl, r2, r3⟩ := key
  rw [hF] at r1 r3
  exact ⟨v, T, r1, r2, r3⟩
