/-! way: the reference -/
def sm (f : Nat → Nat) : Nat → Nat
  | 0 => 0
  | n + 1 => sm f n + f n
theorem sm_le {f g : Nat → Nat} : ∀ {n : Nat}, (∀ i, i < n → g i ≤ f i) → sm g n ≤ sm f n
  | 0, _ => Nat.le_refl _
  | n + 1, h => by
    have ih := sm_le (n := n) (fun i hi => h i (by omega))
    have := h n (by omega)
    rw [sm, sm]
    omega
theorem sm_lt {f g : Nat → Nat} : ∀ {n : Nat}, (∀ i, i < n → g i ≤ f i) → (∃ i, i < n ∧ g i < f i) → sm g n < sm f n
  | 0, _, ⟨i, hi, _⟩ => by omega
  | n + 1, h, ⟨i, hi, h1⟩ => by
    rw [sm, sm]
    by_cases hin : i = n
    · subst hin
      have ih := sm_le (n := i) (fun i hi => h i (by omega))
      omega
    · have ih := sm_lt (n := n) (fun i hi => h i (by omega)) ⟨i, by omega, h1⟩
      have := h n (by omega)
      omega
theorem sm_bd {f : Nat → Nat} {B : Nat} : ∀ {n : Nat}, (∀ i, i < n → f i ≤ B) → sm f n ≤ n * B
  | 0, _ => by rw [sm]; exact Nat.zero_le _
  | n + 1, h => by
    have ih := sm_bd (n := n) (fun i hi => h i (by omega))
    have := h n (by omega)
    rw [sm, Nat.succ_mul]
    omega
def M55 (T : gSt) (K : Nat → Nat) : Prop := ∀ i, i < 64 → T.1 55 i = nI (K i) ∧ K i ≤ 999
def WInv (D K0 : Nat → Nat) (b : Bool) (K : Nat → Nat) : Prop := (∀ i, i < 64 → K i ≤ K0 i) ∧ (∀ i, i < 64 → D i ≤ K i) ∧ (b = false → ∀ i, i < 64 → K i = K0 i) ∧ (b = true → sm K 64 < sm K0 64)
def WE (O : Nat → Bool) (K0 : Nat → Nat) (b : Bool) (c d : Nat) : Prop := b = false → ∀ j d' i, (j < c ∨ (j = c ∧ d' < d)) → j < 64 → d' ≤ 3 → bes j d' = some i → K0 i ≤ K0 j + coO O i
section Way
variable {S : gSt} {ho : Nat → Option Nat} {w : Nat}
theorem mWy0 {a : Nat} (ha : a < 64) (c : Int32) : ∃ S', gLoop f_X7_way_s31 gFuel (nI w, nI a, c, 0, S) = some (nI w, c, S') ∧ Fr [55] S S' ∧ M55 S' (fun i => if i = a then 0 else 999) := by
  have key : ∃ R, gLoop f_X7_way_s31 gFuel (nI w, nI a, c, 0, S) = some R ∧ ∃ T, R = (nI w, c, T) ∧ Fr [55] S T ∧ M55 T (fun i => if i = a then 0 else 999) := by
    refine gLoop_up (fun k p => ∃ T, p = (nI w, nI a, c, nI k, T) ∧ Fr [55] S T ∧ ∀ i, i < k → T.1 55 i = nI (if i = a then 0 else 999)) _ 64 (by omega) ?_ ?_ ⟨S, rfl, Fr_rfl, fun i hi => by omega⟩
    · rintro k p hk ⟨T, rfl, hT, hm⟩
      dsimp only [f_X7_way_s31]
      unfold f_X7_way_s31_b
      rw [if_neg (by rw [n_64, nI_leI (by omega) (by omega)]; omega), ieq (by omega) (by omega), gin_t hk (by decide), if_pos rfl, if_pos rfl, gls, gls, nI_clamp (by omega), nI_1]
      by_cases hka : k = a
      · rw [if_pos hka]
        refine ⟨_, rfl, _, rfl, hT.trans (Fr_gI (by decide)), fun i hi => ?_⟩
        by_cases hik : i = k
        · rw [hik, gI_s, if_pos hka]; rfl
        · rw [gI_i _ hik]; exact hm i (by omega)
      · rw [if_neg hka]
        refine ⟨_, rfl, _, rfl, hT.trans (Fr_gI (by decide)), fun i hi => ?_⟩
        by_cases hik : i = k
        · rw [hik, gI_s, if_neg hka]; rfl
        · rw [gI_i _ hik]; exact hm i (by omega)
    · rintro p ⟨T, rfl, hT, hm⟩
      dsimp only [f_X7_way_s31]
      unfold f_X7_way_s31_b
      rw [if_pos (by decide)]
      refine ⟨_, rfl, T, rfl, hT, fun i hi => ⟨hm i hi, ?_⟩⟩
      show (if i = a then 0 else 999) ≤ 999
      by_cases hia : i = a
      · rw [if_pos hia]; omega
      · rw [if_neg hia]; omega
  obtain ⟨R, r1, T, rfl, r2⟩ := key
  exact ⟨T, r1, r2⟩
theorem mWy1 (hw : w < 6) (hlt : ∀ i v, ho i = some v → v < 6) (h49 : ∀ c, c < 64 → S.1 49 c = hI (ho c)) {D : Nat → Nat} (hD : ∀ j d i, j < 64 → d ≤ 3 → bes j d = some i → D i ≤ D j + coO (fre ho w) i) (x : Int32) {K0 : Nat → Nat} {c : Nat} (hc : c < 64) {b : Bool} {K : Nat → Nat} {T : gSt} (hT : Fr [55] S T) (hm : M55 T K) (hI0 : WInv D K0 b K) (hE : WE (fre ho w) K0 b c 0) :
    ∃ b' K' T', gLoop f_X7_way_s88 gFuel (nI w, x, bI b, nI c, 0, T) = some (nI w, x, bI b', nI c, T') ∧ Fr [55] S T' ∧ M55 T' K' ∧ WInv D K0 b' K' ∧ WE (fre ho w) K0 b' (c + 1) 0 := by
  have key : ∃ R, gLoop f_X7_way_s88 gFuel (nI w, x, bI b, nI c, 0, T) = some R ∧ ∃ b' K' T', R = (nI w, x, bI b', nI c, T') ∧ Fr [55] S T' ∧ M55 T' K' ∧ WInv D K0 b' K' ∧ WE (fre ho w) K0 b' (c + 1) 0 := by
    refine gLoop_up (fun d p => ∃ b' K' T', p = (nI w, x, bI b', nI c, nI d, T') ∧ Fr [55] S T' ∧ M55 T' K' ∧ WInv D K0 b' K' ∧ WE (fre ho w) K0 b' c d) _ 4 (by omega) ?_ ?_ ⟨b, K, T, rfl, hT, hm, hI0, hE⟩
    · rintro d p hd ⟨b, K, T, rfl, hT, hm, hIv, hE⟩
      have step : (∀ i, bes c d = some i → b = false → K0 i ≤ K0 c + coO (fre ho w) i) → WE (fre ho w) K0 b c (d + 1) := by
        rintro hnew hbf j d' i hj hj6 hd' hbe
        rcases hj with hj | ⟨hj, hj2⟩
        · exact hE hbf j d' i (Or.inl hj) hj6 hd' hbe
        · by_cases hdd : d' = d
          · rw [hj] at hbe ⊢
            rw [hdd] at hbe
            exact hnew i hbe hbf
          · exact hE hbf j d' i (Or.inr ⟨hj, by omega⟩) hj6 hd' hbe
      dsimp only [f_X7_way_s88]
      unfold f_X7_way_s88_b
      rw [if_neg (by rw [n_4, nI_leI (by omega) (by omega)]; omega), mBes hc (by omega), g2s]
      cases hbe : bes c d with
      | none =>
        rw [if_pos (show oI (-4) none = -4 from rfl)]
        unfold f_X7_way_j152
        rw [if_pos (show oI (-4) none = -4 from rfl), nI_1]
        exact ⟨_, rfl, b, K, T, rfl, hT, hm, hIv, step (fun i h => by rw [hbe] at h; cases h)⟩
      | some to =>
        have hto := bes_lt hc hbe
        have eo : oI (-4) (some to) = nI to := rfl
        have hne : ¬ nI to = -4 := fun z => absurd (show nI to < 0 by rw [z]; decide) (nI_pos (by omega))
        have t49 : T.1 49 to = hI (ho to) := by rw [hT.2 49 (by decide)]; exact h49 to hto
        obtain ⟨kc1, kc2⟩ := hm c hc
        obtain ⟨kt1, kt2⟩ := hm to hto
        have q4 := hI_m4 (ho to) (fun v hv => by have := hlt to v hv; omega)
        have qw := hI_eq (ho to) w (by omega) (fun v hv => by have := hlt to v hv; omega)
        have hcl := coO_le (fre ho w) to
        have fin : ∃ p', f_X7_way_j152 (nI w) x (bI b) (nI c) (nI d) (nI to) (nI (K c + coO (fre ho w) to)) T = some (Sum.inl p') ∧ ∃ b' K' T', p' = (nI w, x, bI b', nI c, nI (d + 1), T') ∧ Fr [55] S T' ∧ M55 T' K' ∧ WInv D K0 b' K' ∧ WE (fre ho w) K0 b' c (d + 1) := by
          unfold f_X7_way_j152
          rw [if_neg hne, gin_t hto (by decide), if_pos rfl, if_pos rfl, nI_clamp (by omega), kt1, ile (by omega) (by omega), gls, nI_1]
          by_cases hle : K to ≤ K c + coO (fre ho w) to
          · rw [if_pos hle]
            refine ⟨_, rfl, b, K, T, rfl, hT, hm, hIv, step (fun i h hbf => ?_)⟩
            rw [hbe] at h
            cases h
            rw [← hIv.2.2.1 hbf to hto, ← hIv.2.2.1 hbf c hc]; exact hle
          · rw [if_neg hle]
            have hpt : ∀ i, i < 64 → (if i = to then K c + coO (fre ho w) to else K i) ≤ K i := fun i hi => by
              by_cases hit : i = to
              · rw [if_pos hit, hit]; omega
              · rw [if_neg hit]; exact Nat.le_refl _
            have hsm : sm (fun i => if i = to then K c + coO (fre ho w) to else K i) 64 < sm K 64 := sm_lt hpt ⟨to, hto, by
              show (if to = to then K c + coO (fre ho w) to else K to) < K to
              rw [if_pos rfl]; omega⟩
            have hsm0 := sm_le (n := 64) hIv.1
            refine ⟨_, rfl, true, fun i => if i = to then K c + coO (fre ho w) to else K i, _, rfl, hT.trans (Fr_gI (by decide)), fun i hi => ?_, ⟨fun i hi => Nat.le_trans (hpt i hi) (hIv.1 i hi), fun i hi => ?_, fun z => (by cases z), fun _ => by omega⟩, fun z => (by cases z)⟩
            · show _ = nI (if i = to then K c + coO (fre ho w) to else K i) ∧ (if i = to then K c + coO (fre ho w) to else K i) ≤ 999
              by_cases hit : i = to
              · rw [if_pos hit, hit, gI_s]
                exact ⟨rfl, by omega⟩
              · rw [if_neg hit, gI_i _ hit]; exact hm i hi
            · show D i ≤ (if i = to then K c + coO (fre ho w) to else K i)
              by_cases hit : i = to
              · rw [if_pos hit, hit]
                have h1 := hD c d to hc (by omega) hbe
                have h2 := hIv.2.1 c hc
                omega
              · rw [if_neg hit]; exact hIv.2.1 i hi
        unfold f_X7_way_j146 f_X7_way_j151
        rw [eo, if_neg hne, gin_t hc (by decide), if_pos rfl, gin_t hto (by decide), if_pos rfl, if_pos rfl, nI_clamp (by omega), nI_clamp (by omega), t49, kc1]
        by_cases h1 : ho to = none
        · rw [if_pos (q4.mpr h1), Int32.add_zero]
          have e : coO (fre ho w) to = 0 := by unfold coO; rw [show fre ho w to = true from decide_eq_true (Or.inl h1), if_pos rfl]
          rw [e] at fin
          exact fin
        · rw [if_neg (fun z => h1 (q4.mp z))]
          by_cases h2 : ho to = some w
          · rw [if_pos (qw.mpr h2), Int32.add_zero]
            have e : coO (fre ho w) to = 0 := by unfold coO; rw [show fre ho w to = true from decide_eq_true (Or.inr h2), if_pos rfl]
            rw [e] at fin
            exact fin
          · rw [if_neg (fun z => h2 (qw.mp z)), nI_1]
            have e : coO (fre ho w) to = 1 := by unfold coO; rw [show fre ho w to = false from decide_eq_false (fun z => z.elim h1 h2)]; rfl
            rw [e] at fin
            exact fin
    · rintro p ⟨b, K, T, rfl, hT, hm, hIv, hE⟩
      dsimp only [f_X7_way_s88]
      unfold f_X7_way_s88_b
      rw [if_pos (by decide)]
      refine ⟨_, rfl, b, K, T, rfl, hT, hm, hIv, fun hbf j d' i hj hj6 hd' hbe => ?_⟩
      refine hE hbf j d' i ?_ hj6 hd' hbe
      omega
  obtain ⟨R, r1, b', K', T', rfl, r2⟩ := key
  exact ⟨b', K', T', r1, r2⟩
theorem mWy2 (hw : w < 6) (hlt : ∀ i v, ho i = some v → v < 6) (h49 : ∀ c, c < 64 → S.1 49 c = hI (ho c)) {D : Nat → Nat} (hD : ∀ j d i, j < 64 → d ≤ 3 → bes j d = some i → D i ≤ D j + coO (fre ho w) i) (x : Int32) {K0 : Nat → Nat} {T : gSt} (hT : Fr [55] S T) (hm : M55 T K0) (hDK : ∀ i, i < 64 → D i ≤ K0 i) :
    ∃ b' K' T', gLoop f_X7_way_s78 gFuel (nI w, x, 0, 0, T) = some (nI w, x, bI b', T') ∧ Fr [55] S T' ∧ M55 T' K' ∧ WInv D K0 b' K' ∧ WE (fre ho w) K0 b' 64 0 := by
  have key : ∃ R, gLoop f_X7_way_s78 gFuel (nI w, x, 0, 0, T) = some R ∧ ∃ b' K' T', R = (nI w, x, bI b', T') ∧ Fr [55] S T' ∧ M55 T' K' ∧ WInv D K0 b' K' ∧ WE (fre ho w) K0 b' 64 0 := by
    refine gLoop_up (fun c p => ∃ b' K' T', p = (nI w, x, bI b', nI c, T') ∧ Fr [55] S T' ∧ M55 T' K' ∧ WInv D K0 b' K' ∧ WE (fre ho w) K0 b' c 0) _ 64 (by omega) ?_ ?_ ⟨false, K0, T, rfl, hT, hm, ⟨fun i _ => Nat.le_refl _, hDK, fun _ i _ => rfl, fun z => by cases z⟩, fun _ j d' i hj => by omega⟩
    · rintro c p hc ⟨b, K, T, rfl, hT, hm, hIv, hE⟩
      dsimp only [f_X7_way_s78]
      unfold f_X7_way_s78_b
      obtain ⟨b', K', T', r1, r2, r3, r4, r5⟩ := mWy1 hw hlt h49 hD x hc hT hm hIv hE
      rw [if_neg (by rw [n_64, nI_leI (by omega) (by omega)]; omega), r1, Option.bind_some]
      dsimp only
      rw [nI_1]
      exact ⟨_, rfl, b', K', T', rfl, r2, r3, r4, r5⟩
    · rintro p ⟨b, K, T, rfl, hT, hm, hIv, hE⟩
      dsimp only [f_X7_way_s78]
      unfold f_X7_way_s78_b
      rw [if_pos (by decide)]
      exact ⟨_, rfl, b, K, T, rfl, hT, hm, hIv, hE⟩
  obtain ⟨R, r1, b', K', T', rfl, r2⟩ := key
  exact ⟨b', K', T', r1, r2⟩
theorem mWy3 (hw : w < 6) (hlt : ∀ i v, ho i = some v → v < 6) (h49 : ∀ c, c < 64 → S.1 49 c = hI (ho c)) {D : Nat → Nat} (hD : ∀ j d i, j < 64 → d ≤ 3 → bes j d = some i → D i ≤ D j + coO (fre ho w) i) (x : Int32) {K0 : Nat → Nat} {T : gSt} (hT : Fr [55] S T) (hm : M55 T K0) (hDK : ∀ i, i < 64 → D i ≤ K0 i) :
    ∃ K' T', gLoop f_X7_way_s67 gFuel (nI w, x, 1, T) = some (x, T') ∧ Fr [55] S T' ∧ M55 T' K' ∧ (∀ i, i < 64 → K' i ≤ K0 i) ∧ (∀ i, i < 64 → D i ≤ K' i) ∧ ∀ j d i, j < 64 → d ≤ 3 → bes j d = some i → K' i ≤ K' j + coO (fre ho w) i := by
  have key : ∃ R, gLoop f_X7_way_s67 gFuel (nI w, x, 1, T) = some R ∧ ∃ K' T', R = (x, T') ∧ Fr [55] S T' ∧ M55 T' K' ∧ (∀ i, i < 64 → K' i ≤ K0 i) ∧ (∀ i, i < 64 → D i ≤ K' i) ∧ ∀ j d i, j < 64 → d ≤ 3 → bes j d = some i → K' i ≤ K' j + coO (fre ho w) i := by
    refine gLoop_up2 (fun k p => ∃ b K T', p = (nI w, x, bI b, T') ∧ Fr [55] S T' ∧ M55 T' K ∧ (∀ i, i < 64 → K i ≤ K0 i) ∧ (∀ i, i < 64 → D i ≤ K i) ∧ (b = false → ∀ j d i, j < 64 → d ≤ 3 → bes j d = some i → K i ≤ K j + coO (fre ho w) i) ∧ (b = true → k + sm K 64 ≤ 63936)) _ 63937 (by decide) ?_ ?_ ⟨true, K0, T, rfl, hT, hm, fun i _ => Nat.le_refl _, hDK, fun z => (by cases z), fun _ => by
      have := sm_bd (n := 64) (fun i hi => (hm i hi).2)
      omega⟩
    · rintro k p hk ⟨b, K, T, rfl, hT, hm, h1, h2, h3, h4⟩
      dsimp only [f_X7_way_s67]
      unfold f_X7_way_s67_b
      cases b with
      | false =>
        rw [bI_f, if_pos rfl]
        exact Or.inr ⟨_, rfl, K, T, rfl, hT, hm, h1, h2, h3 rfl⟩
      | true =>
        obtain ⟨b', K', T', r1, r2, r3, r4, r5⟩ := mWy2 hw hlt h49 hD x hT hm h2
        rw [bI_t, if_neg one0, r1, Option.bind_some]
        refine Or.inl ⟨_, rfl, b', K', T', rfl, r2, r3, fun i hi => Nat.le_trans (r4.1 i hi) (h1 i hi), r4.2.1, fun hbf j d i hj hd hbe => ?_, fun hbt => ?_⟩
        · have hi := bes_lt hj hbe
          rw [r4.2.2.1 hbf i hi, r4.2.2.1 hbf j hj]
          exact r5 hbf j d i (Or.inl hj) hj hd hbe
        · have := r4.2.2.2 hbt
          have := h4 rfl
          omega
    · rintro p ⟨b, K, T, rfl, hT, hm, h1, h2, h3, h4⟩
      dsimp only [f_X7_way_s67]
      unfold f_X7_way_s67_b
      cases b with
      | false =>
        rw [bI_f, if_pos rfl]
        exact ⟨_, rfl, K, T, rfl, hT, hm, h1, h2, h3 rfl⟩
      | true =>
        exfalso
        have := h4 rfl
        omega
  obtain ⟨R, r1, K', T', rfl, r2⟩ := key
  exact ⟨K', T', r1, r2⟩
end Way
noncomputable def wayV (g : Il) (w a c : Nat) : Nat := Dq (fun i => decide (i = a)) (fre (hol (i_pr g) (i_set g 2) (i_n g)) w) c
theorem op_way (p a c : Int32) : Op (f_X6_way p a c) (f_X7_way p a c) := by
  refine op_of (fun q => if gin p (i_n q.1) then (if gin a 64 then (if gin c 64 then nI (wayV q.1 p.toNatClampNeg a.toNatClampNeg c.toNatClampNeg) else -1) else -1) else -1) id (fun q h => h) (opC_read ?_) (opM_read ?_)
  · intro S q h1 h2
    have h6 := h2.1.1
    unfold f_X6_way
    rw [has_sp p h1.1.2.1 (by omega), g2s]
    cases hg : gin p (i_n q.1) with
    | false => exact ⟨S, rfl, Fr_rfl⟩
    | true =>
      rw [bI_t, if_neg one0, if_pos rfl, isCell_sp, g2s]
      cases ha : gin a 64 with
      | false => exact ⟨S, rfl, Fr_rfl⟩
      | true =>
        rw [bI_t, if_neg one0, if_pos rfl, isCell_sp, g2s]
        cases hc : gin c 64 with
        | false => exact ⟨S, rfl, Fr_rfl⟩
        | true =>
          rw [bI_t, if_neg one0, if_pos rfl]
          obtain ⟨ep, hp⟩ := gin_clamp (by omega) hg
          obtain ⟨ea, ha2⟩ := gin_clamp (by decide) ha
          obtain ⟨ec, hc2⟩ := gin_clamp (by decide) hc
          generalize p.toNatClampNeg = w at *
          generalize a.toNatClampNeg = s at *
          generalize c.toNatClampNeg = e at *
          subst ep ea ec
          obtain ⟨T, t1, t2, t3, t4⟩ := cLookQ h1 h2 (Nat.zero_le 48)
          rw [lkP_0] at t3
          have t1 : f_X3_look 0 S = some T := t1
          obtain ⟨v, v1, v2⟩ := cFree (nI s) (nI e) t3 (show w < 6 by omega)
          have hf := cFew (f := (1 : Int64) <<< ((nI s).toInt64 &&& 63)) (o := v) (F := fun i => decide (i = s)) (c := e) hc2 (fun i hi => b6_one ha2 hi) v2 T
          rw [t1, Option.bind_some, v1, Option.bind_some]
          dsimp only
          rw [hf, g2s]
          exact ⟨T, rfl, t2.mono (by decide)⟩
  · intro S q h1 h2
    have h6 := h2.1.1
    unfold f_X7_way
    rw [mWalker_sp p h1.1.2.1 (by omega), g2s]
    cases hg : gin p (i_n q.1) with
    | false => exact ⟨S, rfl, Fr_rfl⟩
    | true =>
      rw [bI_t, if_neg one0, if_pos rfl, mCell_sp, g2s]
      cases ha : gin a 64 with
      | false => exact ⟨S, rfl, Fr_rfl⟩
      | true =>
        rw [bI_t, if_neg one0, if_pos rfl, mCell_sp, g2s]
        cases hc : gin c 64 with
        | false => exact ⟨S, rfl, Fr_rfl⟩
        | true =>
          rw [bI_t, if_neg one0, if_pos rfl]
          obtain ⟨ep, hp⟩ := gin_clamp (by omega) hg
          obtain ⟨ea, ha2⟩ := gin_clamp (by decide) ha
          obtain ⟨ec, hc2⟩ := gin_clamp (by decide) hc
          generalize p.toNatClampNeg = w at *
          generalize a.toNatClampNeg = s at *
          generalize c.toNatClampNeg = e at *
          subst ep ea ec
          obtain ⟨A, a1, a2, a3⟩ := mHolds (MI_cl h1.1 (WF_r h2))
          obtain ⟨B, b1, b2, b3⟩ := mWy0 (S := A) (w := w) ha2 (nI e)
          have hlt : ∀ i v, hol (i_pr q.1) (i_set q.1 2) (i_n q.1) i = some v → v < 6 := fun i v hv => by have := hol_lt hv; omega
          have hfe := D_fea (O := fre (hol (i_pr q.1) (i_set q.1 2) (i_n q.1)) w) ha2
          have hD0 : ∀ i, i < 64 → Dq (fun i => decide (i = s)) (fre (hol (i_pr q.1) (i_set q.1 2) (i_n q.1)) w) i ≤ (if i = s then 0 else 999) := fun i hi => by
            by_cases his : i = s
            · rw [if_pos his, his, hfe.1]; exact Nat.le_refl _
            · rw [if_neg his]
              have := frun_le (fun t => !Rq (fun i => decide (i = s)) (fre (hol (i_pr q.1) (i_set q.1 2) (i_n q.1)) w) t i) 64
              unfold Dq
              omega
          obtain ⟨K, C, c1, c2, c3, c4, c5, c6⟩ := mWy3 (S := A) (w := w) (by omega) hlt a3 hfe.2 (nI e) b2 b3 hD0
          have hK0 : K s = 0 := by
            have := c4 s ha2
            rw [if_pos rfl] at this
            omega
          have hKe := K_eq ha2 hc2 ⟨hK0, c6⟩ (c5 e hc2)
          rw [a1, Option.bind_some, b1, Option.bind_some]
          dsimp only
          rw [c1, Option.bind_some]
          dsimp only
          rw [gin_t hc2 (by decide), if_pos rfl, nI_clamp (by omega), (c3 e hc2).1, hKe]
          exact ⟨C, rfl, (a2.mono (by decide)).trans (c2.mono (by decide))⟩
