/-! county -/
noncomputable def lcl (F O : Nat → Bool) (i : Nat) : Bool := @decide (∀ Y : Nat → Bool, (∀ i, i < 64 → F i = true → Y i = true) → Cl O Y → Y i = true) (Classical.propDecidable _)
theorem lcl_iff {F O : Nat → Bool} {i : Nat} : lcl F O i = true ↔ ∀ Y : Nat → Bool, (∀ i, i < 64 → F i = true → Y i = true) → Cl O Y → Y i = true := by
  unfold lcl
  exact @decide_eq_true_iff _ (Classical.propDecidable _)
theorem lcl_is (F O : Nat → Bool) : Lst F O (lcl F O) :=
  ⟨fun i hi hf => lcl_iff.mpr (fun Y hY _ => hY i hi hf), fun j d i hj hd hb hx ho => lcl_iff.mpr (fun Y hY hc => hc j d i hj hd hb (lcl_iff.mp hx Y hY hc) ho), fun Y hY hc i _ hx => lcl_iff.mp hx Y hY hc⟩
def opn (P : Nat → Nat) (w i : Nat) : Bool := decide (P (64 * w + i) = 0)
def rimb (c : Nat) : Bool := decide (c % 8 = 0) || (decide (c % 8 = 7) || (decide (c < 8) || decide (55 < c)))
noncomputable def coV (P : Nat → Nat) (w : Nat) : Nat := cnt (fun i => opn P w i && !lcl (fun c => rimb c && opn P w c) (opn P w) i) 64
theorem cOpen {S : gSt} {P : Nat → Nat} {w : Nat} (hw : w < 6) (hb : ∀ i, P i ≤ 99) (hP : ∀ i, i < 384 → S.1 7 i = nI (P i)) : ∃ v, gLoop f_X6_county_s18 gFuel (nI w, 0, 0, S) = some (v, S) ∧ ∀ i, i < 64 → b6 v i = opn P w i := by
  have key : ∃ R, gLoop f_X6_county_s18 gFuel (nI w, 0, 0, S) = some R ∧ ∃ v, R = (v, S) ∧ ∀ i, i < 64 → b6 v i = opn P w i := by
    refine gLoop_up (fun k p => ∃ v, p = (nI w, v, nI k, S) ∧ ∀ i, i < 64 → b6 v i = (decide (i < k) && opn P w i)) _ 64 (by omega) ?_ ?_ ⟨0, rfl, fun i hi => by rw [b6_0, decide_eq_false (by omega)]; rfl⟩
    · rintro k p hk ⟨v, rfl, hv⟩
      have hbk := hb (64 * w + k)
      dsimp only [f_X6_county_s18]
      unfold f_X6_county_s18_b
      rw [if_neg (by rw [n_64, nI_leI (by omega) (by omega)]; omega), n_64, pk_mul, nI_add, Nat.mul_comm w 64, gin_t (show 64 * w + k < 384 by omega) (by decide), if_pos rfl, nI_clamp (by omega), hP _ (by omega), n_0, ieq (by omega) (by decide), gls, nI_1]
      by_cases h0 : P (64 * w + k) = 0
      · rw [if_pos h0]
        refine ⟨_, rfl, _, rfl, fun i hi => ?_⟩
        rw [b6_or, b6_one hk hi, hv i hi]
        by_cases hik : i = k
        · rw [decide_eq_true hik, decide_eq_true (show i < k + 1 by omega), hik, show opn P w k = true from decide_eq_true h0, Bool.or_true]; rfl
        · rw [decide_eq_false hik, Bool.or_false]
          by_cases hlt : i < k
          · rw [decide_eq_true hlt, decide_eq_true (show i < k + 1 by omega)]
          · rw [decide_eq_false hlt, decide_eq_false (show ¬ i < k + 1 by omega)]
      · rw [if_neg h0]
        refine ⟨_, rfl, _, rfl, fun i hi => ?_⟩
        rw [hv i hi]
        by_cases hik : i = k
        · rw [decide_eq_true (show i < k + 1 by omega), hik, show opn P w k = false from decide_eq_false h0, Bool.and_false, Bool.and_false]
        · by_cases hlt : i < k
          · rw [decide_eq_true hlt, decide_eq_true (show i < k + 1 by omega)]
          · rw [decide_eq_false hlt, decide_eq_false (show ¬ i < k + 1 by omega)]
    · rintro p ⟨v, rfl, hv⟩
      dsimp only [f_X6_county_s18]
      unfold f_X6_county_s18_b
      rw [if_pos (by decide)]
      exact ⟨_, rfl, v, rfl, fun i hi => by rw [hv i hi, decide_eq_true hi, Bool.true_and]⟩
  obtain ⟨R, r1, v, rfl, r2⟩ := key
  exact ⟨v, r1, r2⟩
/-! the reference -/
def M54 (T : gSt) (m : Nat → Bool) : Prop := ∀ i, i < 64 → T.1 54 i = bI (m i)
def PInv (F O m0 : Nat → Bool) (b : Bool) (m : Nat → Bool) : Prop := (∀ i, i < 64 → m0 i = true → m i = true) ∧ (∀ Y : Nat → Bool, (∀ i, i < 64 → F i = true → Y i = true) → Cl O Y → ∀ i, i < 64 → m i = true → Y i = true) ∧ (b = false → ∀ i, i < 64 → m i = m0 i) ∧ (b = true → cnt m0 64 < cnt m 64)
def EC (O m0 : Nat → Bool) (b : Bool) (c d : Nat) : Prop := b = false → ∀ j d' i, (j < c ∨ (j = c ∧ d' < d)) → j < 64 → d' ≤ 3 → bes j d' = some i → m0 j = true → O i = true → m0 i = true
section County
variable {S : gSt} {P : Nat → Nat} {w : Nat}
theorem mRim (hw : w < 6) (hb : ∀ i, P i ≤ 99) (hP : mPr S P) : ∃ S', gLoop f_X7_county_s12 gFuel (nI w, 0, S) = some (nI w, S') ∧ Fr [54] S S' ∧ M54 S' (fun c => rimb c && opn P w c) := by
  have key : ∃ R, gLoop f_X7_county_s12 gFuel (nI w, 0, S) = some R ∧ ∃ T, R = (nI w, T) ∧ Fr [54] S T ∧ M54 T (fun c => rimb c && opn P w c) := by
    refine gLoop_up (fun k p => ∃ T, p = (nI w, nI k, T) ∧ Fr [54] S T ∧ ∀ i, i < k → T.1 54 i = bI (rimb i && opn P w i)) _ 64 (by omega) ?_ ?_ ⟨S, rfl, Fr_rfl, fun i hi => by omega⟩
    · rintro k p hk ⟨T, rfl, hT, hm⟩
      have hbk := hb (64 * w + k)
      have hPk : T.1 48 (32 + (64 * w + k)) = nI (P (64 * w + k)) := by rw [hT.2 48 (by decide)]; exact hP _ (by omega)
      have fin : ∀ b : Bool, b = rimb k → ∃ p', f_X7_county_j51 (nI w) (nI k) (bI b) T = some (Sum.inl p') ∧ ∃ T, p' = (nI w, nI (k + 1), T) ∧ Fr [54] S T ∧ ∀ i, i < k + 1 → T.1 54 i = bI (rimb i && opn P w i) := by
        intro b hbr
        have h2 : f_X7_county_j51 (nI w) (nI k) (bI b) T = some (Sum.inl (nI w, nI (k + 1), gI T 54 k (bI (b && opn P w k)))) := by
          unfold f_X7_county_j51
          simp only [gin_t hk (by decide), if_pos, nI_1, nI_clamp (show k < 2 ^ 31 by omega)]
          cases b with
          | false => rfl
          | true =>
            rw [bI_t, if_neg one0, n_64, n_32, pk_mul, nI_add, nI_add, gin_t (show 32 + 64 * w + k < 416 by omega) (by decide), if_pos rfl, nI_clamp (by omega), Nat.add_assoc 32, hPk, n_0, ieq (by omega) (by decide), Bool.true_and]
            by_cases h0 : P (64 * w + k) = 0
            · rw [if_pos h0, show opn P w k = true from decide_eq_true h0]; rfl
            · rw [if_neg h0, show opn P w k = false from decide_eq_false h0]; rfl
        refine ⟨_, h2, _, rfl, hT.trans (Fr_gI (by decide)), fun i hi => ?_⟩
        by_cases hik : i = k
        · rw [hik, gI_s, hbr]
        · rw [gI_i _ hik]; exact hm i (by omega)
      dsimp only [f_X7_county_s12]
      unfold f_X7_county_s12_b f_X7_county_j46
      rw [if_neg (by rw [n_64, nI_leI (by omega) (by omega)]; omega), r8 (by omega), n_0, ieq (by omega) (by decide), n_7, ieq (by omega) (by decide)]
      by_cases h1 : k % 8 = 0
      · rw [if_pos h1]
        exact fin true (by unfold rimb; rw [decide_eq_true h1]; rfl)
      · rw [if_neg h1]
        by_cases h2 : k % 8 = 7
        · rw [if_pos h2]
          exact fin true (by unfold rimb; rw [decide_eq_true h2, Bool.true_or, Bool.or_true])
        · rw [if_neg h2]
          by_cases h3 : k < 8
          · rw [if_pos (by rw [n_8]; exact (nI_ltI (by omega) (by decide)).mpr h3)]
            exact fin true (by unfold rimb; rw [decide_eq_true h3, Bool.true_or, Bool.or_true, Bool.or_true])
          · rw [if_neg (by rw [n_8]; exact fun z => h3 ((nI_ltI (by omega) (by decide)).mp z)), show (55 : Int32) = nI 55 from rfl, ile (by omega) (by decide)]
            by_cases h4 : k ≤ 55
            · rw [if_pos h4]
              exact fin false (by unfold rimb; rw [decide_eq_false h1, decide_eq_false h2, decide_eq_false h3, decide_eq_false (show ¬ 55 < k by omega)]; rfl)
            · rw [if_neg h4]
              exact fin true (by unfold rimb; rw [decide_eq_true (show 55 < k by omega), Bool.or_true, Bool.or_true, Bool.or_true])
    · rintro p ⟨T, rfl, hT, hm⟩
      dsimp only [f_X7_county_s12]
      unfold f_X7_county_s12_b
      rw [if_pos (by decide)]
      exact ⟨_, rfl, T, rfl, hT, hm⟩
  obtain ⟨R, r1, T, rfl, r2⟩ := key
  exact ⟨T, r1, r2⟩
theorem mCy1 (hw : w < 6) (hb : ∀ i, P i ≤ 99) (hP : mPr S P) {F m0 : Nat → Bool} {c : Nat} (hc : c < 64) {b : Bool} {m : Nat → Bool} {T : gSt} (hT : Fr [54] S T) (hm : M54 T m) (hI : PInv F (opn P w) m0 b m) (hE : EC (opn P w) m0 b c 0) :
    ∃ b' m' T', gLoop f_X7_county_s109 gFuel (nI w, bI b, nI c, 0, T) = some (nI w, bI b', nI c, T') ∧ Fr [54] S T' ∧ M54 T' m' ∧ PInv F (opn P w) m0 b' m' ∧ EC (opn P w) m0 b' (c + 1) 0 := by
  have key : ∃ R, gLoop f_X7_county_s109 gFuel (nI w, bI b, nI c, 0, T) = some R ∧ ∃ b' m' T', R = (nI w, bI b', nI c, T') ∧ Fr [54] S T' ∧ M54 T' m' ∧ PInv F (opn P w) m0 b' m' ∧ EC (opn P w) m0 b' (c + 1) 0 := by
    refine gLoop_up2 (fun d p => ∃ b' m' T', p = (nI w, bI b', nI c, nI d, T') ∧ Fr [54] S T' ∧ M54 T' m' ∧ PInv F (opn P w) m0 b' m' ∧ EC (opn P w) m0 b' c d) _ 4 (by omega) ?_ ?_ ⟨b, m, T, rfl, hT, hm, hI, hE⟩
    · rintro d p hd ⟨b, m, T, rfl, hT, hm, hI, hE⟩
      dsimp only [f_X7_county_s109]
      unfold f_X7_county_s109_b
      rw [if_neg (by rw [n_4, nI_leI (by omega) (by omega)]; omega), gin_t hc (by decide), if_pos rfl, nI_clamp (by omega), hm c hc]
      cases hmc : m c with
      | false =>
        rw [bI_f, if_pos rfl]
        refine Or.inr ⟨_, rfl, b, m, T, rfl, hT, hm, hI, fun hbf j d' i hj hj6 hd' hbe h0 ho => ?_⟩
        rcases hj with hj | ⟨hj, hj2⟩
        · by_cases hjc : j = c
          · rw [hjc] at h0
            rw [hI.1 c hc h0] at hmc; cases hmc
          · exact hE hbf j d' i (Or.inl (by omega)) hj6 hd' hbe h0 ho
        · omega
      | true =>
        have step : ∀ (b' : Bool), b' = b → (∀ i, bes c d = some i → b = false → opn P w i = true → m0 c = true → m0 i = true) → EC (opn P w) m0 b' c (d + 1) := by
          rintro b' rfl hnew hbf j d' i hj hj6 hd' hbe h0 ho
          rcases hj with hj | ⟨hj, hj2⟩
          · exact hE hbf j d' i (Or.inl hj) hj6 hd' hbe h0 ho
          · by_cases hdd : d' = d
            · rw [hj] at hbe h0
              rw [hdd] at hbe
              exact hnew i hbe hbf ho h0
            · exact hE hbf j d' i (Or.inr ⟨hj, by omega⟩) hj6 hd' hbe h0 ho
        rw [bI_t, if_neg one0, mBes hc (by omega), g2s, nI_1]
        cases hbe : bes c d with
        | none =>
          rw [if_pos (show oI (-4) none = -4 from rfl)]
          exact Or.inl ⟨_, rfl, b, m, T, rfl, hT, hm, hI, step b rfl (fun i h => by rw [hbe] at h; cases h)⟩
        | some to =>
          have hto := bes_lt hc hbe
          have eo : oI (-4) (some to) = nI to := rfl
          have hbt := hb (64 * w + to)
          have hPt : T.1 48 (32 + (64 * w + to)) = nI (P (64 * w + to)) := by rw [hT.2 48 (by decide)]; exact hP _ (by omega)
          rw [eo, if_neg (fun z => absurd (show nI to < 0 by rw [z]; decide) (nI_pos (by omega))), gin_t hto (by decide), if_pos rfl, if_pos rfl, nI_clamp (by omega), hm to hto]
          cases hmt : m to with
          | true =>
            rw [bI_t, if_neg one0]
            refine Or.inl ⟨_, rfl, b, m, T, rfl, hT, hm, hI, step b rfl (fun i h hbf _ _ => ?_)⟩
            rw [hbe] at h
            cases h
            rw [← hI.2.2.1 hbf to hto]; exact hmt
          | false =>
            rw [bI_f, if_pos rfl, n_64, n_32, pk_mul, nI_add, nI_add, gin_t (show 32 + 64 * w + to < 416 by omega) (by decide), if_pos rfl, nI_clamp (by omega), Nat.add_assoc 32, hPt, n_0, ieq (by omega) (by decide), gls]
            by_cases h0 : P (64 * w + to) = 0
            · rw [if_pos h0]
              have hot : opn P w to = true := decide_eq_true h0
              have hlt : cnt m 64 < cnt (fun i => if i = to then true else m i) 64 := by
                refine cnt_slt (fun i _ h => ?_) ⟨to, hto, hmt, if_pos rfl⟩
                by_cases hi : i = to
                · exact if_pos hi
                · show (if i = to then true else m i) = true
                  rw [if_neg hi]; exact h
              have hle := cnt_sub (n := 64) hI.1
              refine Or.inl ⟨_, rfl, true, fun i => if i = to then true else m i, _, rfl, hT.trans (Fr_gI (by decide)), fun i hi => ?_, ⟨fun i hi h => ?_, fun Y hY hcl i hi h => ?_, fun z => (by cases z), fun _ => by omega⟩, fun z => (by cases z)⟩
              · by_cases hit : i = to
                · show _ = bI (if i = to then true else m i)
                  rw [if_pos hit, hit, gI_s]; rfl
                · show _ = bI (if i = to then true else m i)
                  rw [gI_i _ hit, if_neg hit]; exact hm i hi
              · by_cases hit : i = to
                · exact if_pos hit
                · show (if i = to then true else m i) = true
                  rw [if_neg hit]; exact hI.1 i hi h
              · by_cases hit : i = to
                · rw [hit]
                  exact hcl c d to hc (by omega) hbe (hI.2.1 Y hY hcl c hc hmc) hot
                · have h : (if i = to then true else m i) = true := h
                  rw [if_neg hit] at h
                  exact hI.2.1 Y hY hcl i hi h
            · rw [if_neg h0]
              refine Or.inl ⟨_, rfl, b, m, T, rfl, hT, hm, hI, step b rfl (fun i h _ ho _ => ?_)⟩
              rw [hbe] at h
              cases h
              exact absurd (of_decide_eq_true ho) h0
    · rintro p ⟨b, m, T, rfl, hT, hm, hI, hE⟩
      dsimp only [f_X7_county_s109]
      unfold f_X7_county_s109_b
      rw [if_pos (by decide)]
      refine ⟨_, rfl, b, m, T, rfl, hT, hm, hI, fun hbf j d' i hj hj6 hd' hbe h0 ho => ?_⟩
      refine hE hbf j d' i ?_ hj6 hd' hbe h0 ho
      omega
  obtain ⟨R, r1, b', m', T', rfl, r2⟩ := key
  exact ⟨b', m', T', r1, r2⟩
theorem mCy2 (hw : w < 6) (hb : ∀ i, P i ≤ 99) (hP : mPr S P) {F m0 : Nat → Bool} {T : gSt} (hT : Fr [54] S T) (hm : M54 T m0) (hY : ∀ Y : Nat → Bool, (∀ i, i < 64 → F i = true → Y i = true) → Cl (opn P w) Y → ∀ i, i < 64 → m0 i = true → Y i = true) :
    ∃ b' m' T', gLoop f_X7_county_s100 gFuel (nI w, 0, 0, T) = some (nI w, bI b', T') ∧ Fr [54] S T' ∧ M54 T' m' ∧ PInv F (opn P w) m0 b' m' ∧ EC (opn P w) m0 b' 64 0 := by
  have key : ∃ R, gLoop f_X7_county_s100 gFuel (nI w, 0, 0, T) = some R ∧ ∃ b' m' T', R = (nI w, bI b', T') ∧ Fr [54] S T' ∧ M54 T' m' ∧ PInv F (opn P w) m0 b' m' ∧ EC (opn P w) m0 b' 64 0 := by
    refine gLoop_up (fun c p => ∃ b' m' T', p = (nI w, bI b', nI c, T') ∧ Fr [54] S T' ∧ M54 T' m' ∧ PInv F (opn P w) m0 b' m' ∧ EC (opn P w) m0 b' c 0) _ 64 (by omega) ?_ ?_ ⟨false, m0, T, rfl, hT, hm, ⟨fun i _ h => h, hY, fun _ i _ => rfl, fun z => by cases z⟩, fun _ j d' i hj => by omega⟩
    · rintro c p hc ⟨b, m, T, rfl, hT, hm, hI, hE⟩
      dsimp only [f_X7_county_s100]
      unfold f_X7_county_s100_b
      obtain ⟨b', m', T', r1, r2, r3, r4, r5⟩ := mCy1 hw hb hP hc hT hm hI hE
      rw [if_neg (by rw [n_64, nI_leI (by omega) (by omega)]; omega), r1, Option.bind_some]
      dsimp only
      rw [nI_1]
      exact ⟨_, rfl, b', m', T', rfl, r2, r3, r4, r5⟩
    · rintro p ⟨b, m, T, rfl, hT, hm, hI, hE⟩
      dsimp only [f_X7_county_s100]
      unfold f_X7_county_s100_b
      rw [if_pos (by decide)]
      exact ⟨_, rfl, b, m, T, rfl, hT, hm, hI, hE⟩
  obtain ⟨R, r1, b', m', T', rfl, r2⟩ := key
  exact ⟨b', m', T', r1, r2⟩
theorem mCy3 (hw : w < 6) (hb : ∀ i, P i ≤ 99) (hP : mPr S P) {F : Nat → Bool} {T : gSt} (hT : Fr [54] S T) (hm : M54 T F) :
    ∃ m' T', gLoop f_X7_county_s92 gFuel (nI w, 1, T) = some (nI w, T') ∧ Fr [54] S T' ∧ M54 T' m' ∧ Lst F (opn P w) m' := by
  have key : ∃ R, gLoop f_X7_county_s92 gFuel (nI w, 1, T) = some R ∧ ∃ m' T', R = (nI w, T') ∧ Fr [54] S T' ∧ M54 T' m' ∧ Lst F (opn P w) m' := by
    refine gLoop_up2 (fun k p => ∃ b m T', p = (nI w, bI b, T') ∧ Fr [54] S T' ∧ M54 T' m ∧ (∀ i, i < 64 → F i = true → m i = true) ∧ (∀ Y : Nat → Bool, (∀ i, i < 64 → F i = true → Y i = true) → Cl (opn P w) Y → ∀ i, i < 64 → m i = true → Y i = true) ∧ (b = false → Cl (opn P w) m) ∧ (b = true → k ≤ cnt m 64)) _ 65 (by omega) ?_ ?_ ⟨true, F, T, rfl, hT, hm, fun _ _ h => h, fun Y hY _ i hi h => hY i hi h, fun z => (by cases z), fun _ => Nat.zero_le _⟩
    · rintro k p hk ⟨b, m, T, rfl, hT, hm, h1, h2, h3, h4⟩
      dsimp only [f_X7_county_s92]
      unfold f_X7_county_s92_b
      cases b with
      | false =>
        rw [bI_f, if_pos rfl]
        exact Or.inr ⟨_, rfl, m, T, rfl, hT, hm, h1, h3 rfl, h2⟩
      | true =>
        obtain ⟨b', m', T', r1, r2, r3, r4, r5⟩ := mCy2 hw hb hP hT hm h2
        rw [bI_t, if_neg one0, r1, Option.bind_some]
        refine Or.inl ⟨_, rfl, b', m', T', rfl, r2, r3, fun i hi hf => r4.1 i hi (h1 i hi hf), r4.2.1, fun hbf j d i hj hd hbe hx ho => ?_, fun hbt => ?_⟩
        · have hi := bes_lt hj hbe
          rw [r4.2.2.1 hbf i hi]
          rw [r4.2.2.1 hbf j hj] at hx
          exact r5 hbf j d i (Or.inl hj) hj hd hbe hx ho
        · have := r4.2.2.2 hbt
          have := h4 rfl
          omega
    · rintro p ⟨b, m, T, rfl, hT, hm, h1, h2, h3, h4⟩
      dsimp only [f_X7_county_s92]
      unfold f_X7_county_s92_b
      cases b with
      | false =>
        rw [bI_f, if_pos rfl]
        exact ⟨_, rfl, m, T, rfl, hT, hm, h1, h3 rfl, h2⟩
      | true =>
        exfalso
        have := h4 rfl
        have := cnt_le m 64
        omega
  obtain ⟨R, r1, m', T', rfl, r2⟩ := key
  exact ⟨m', T', r1, r2⟩
theorem mCy4 (hw : w < 6) (hb : ∀ i, P i ≤ 99) (hP : mPr S P) {m : Nat → Bool} (hm : M54 S m) : gLoop f_X7_county_s197 gFuel (nI w, 0, 0, S) = some (nI (cnt (fun i => opn P w i && !m i) 64), S) := by
  have key : ∃ R, gLoop f_X7_county_s197 gFuel (nI w, 0, 0, S) = some R ∧ R = (nI (cnt (fun i => opn P w i && !m i) 64), S) := by
    refine gLoop_up (fun c p => p = (nI w, nI (cnt (fun i => opn P w i && !m i) c), nI c, S)) _ 64 (by omega) ?_ ?_ rfl
    · rintro c p hc rfl
      have hbc := hb (64 * w + c)
      have hPc : S.1 48 (32 + (64 * w + c)) = nI (P (64 * w + c)) := hP _ (by omega)
      dsimp only [f_X7_county_s197]
      unfold f_X7_county_s197_b
      rw [if_neg (by rw [n_64, nI_leI (by omega) (by omega)]; omega), gin_t hc (by decide), if_pos rfl, nI_clamp (by omega), hm c hc, nI_1 c, cnt]
      cases hmc : m c with
      | true =>
        rw [bI_t, if_neg one0, gls, Bool.not_true, Bool.and_false]
        exact ⟨_, rfl, by rw [n_0, nI_add]; rfl⟩
      | false =>
        rw [bI_f, if_pos rfl, n_64, n_32, pk_mul, nI_add, nI_add, gin_t (show 32 + 64 * w + c < 416 by omega) (by decide), if_pos rfl, nI_clamp (by omega), Nat.add_assoc 32, hPc, n_0, ieq (by omega) (by decide), gls, gls, nI_add, nI_1, Bool.not_false, Bool.and_true]
        by_cases h0 : P (64 * w + c) = 0
        · rw [if_pos h0, show opn P w c = true from decide_eq_true h0]
          exact ⟨_, rfl, rfl⟩
        · rw [if_neg h0, show opn P w c = false from decide_eq_false h0]
          exact ⟨_, rfl, rfl⟩
    · rintro p rfl
      dsimp only [f_X7_county_s197]
      unfold f_X7_county_s197_b
      rw [if_pos (by decide)]
      exact ⟨_, rfl, rfl⟩
  obtain ⟨R, r1, rfl⟩ := key
  exact r1
end County
theorem op_county (p : Int32) : Op (f_X6_county p) (f_X7_county p) := by
  refine op_of (fun q => if gin p (i_n q.1) then nI (coV (i_pr q.1) p.toNatClampNeg) else -1) id (fun q h => h) (opC_read ?_) (opM_read ?_)
  · intro S q h1 h2
    have h6 := h2.1.1
    unfold f_X6_county
    rw [has_sp p h1.1.2.1 (by omega), g2s]
    cases hg : gin p (i_n q.1) with
    | false => exact ⟨S, rfl, Fr_rfl⟩
    | true =>
      rw [bI_t, if_neg one0, if_pos rfl]
      obtain ⟨ep, hp⟩ := gin_clamp (by omega) hg
      generalize p.toNatClampNeg = w at *
      subst ep
      obtain ⟨v, v1, v2⟩ := cOpen (S := S) (w := w) (by omega) h2.1.2.2.2.2.2.1 h1.1.2.2.2.2.2
      obtain ⟨x, x1, x2⟩ := cSpread (v &&& (-35604928818740737)) v S
      rw [v1, Option.bind_some]
      dsimp only
      rw [x1, g2s, pop_sp, g2s]
      have hL : Lst (fun c => rimb c && opn (i_pr q.1) w c) (opn (i_pr q.1) w) (b6 x) := Lst_congr (fun i hi => by
        rw [b6_and, v2 i hi, rim_b i hi, Bool.and_comm]; rfl) v2 x2
      refine ⟨S, ?_, Fr_rfl⟩
      unfold coV
      congr 3
      refine cnt_congr 64 (fun i hi => ?_)
      rw [b6_and, v2 i hi, b6_xor, b6_m1 i hi, Lst_uniq hL (lcl_is _ _) i hi, Bool.xor_true]
  · intro S q h1 h2
    have h6 := h2.1.1
    unfold f_X7_county
    rw [mWalker_sp p h1.1.2.1 (by omega), g2s]
    cases hg : gin p (i_n q.1) with
    | false => exact ⟨S, rfl, Fr_rfl⟩
    | true =>
      rw [bI_t, if_neg one0, if_pos rfl]
      obtain ⟨ep, hp⟩ := gin_clamp (by omega) hg
      generalize p.toNatClampNeg = w at *
      subst ep
      have hb := h2.1.2.2.2.2.2.1
      have hP : mPr S (i_pr q.1) := h1.1.2.2.2.2.2
      obtain ⟨A, a1, a2, a3⟩ := mRim (w := w) (by omega) hb hP
      obtain ⟨m, B, b1, b2, b3, b4⟩ := mCy3 (w := w) (by omega) hb hP a2 a3
      have hPB : mPr B (i_pr q.1) := fun i hi => by rw [b2.2 48 (by decide)]; exact hP i hi
      have c1 := mCy4 (w := w) (by omega) hb hPB b3
      have e : cnt (fun i => opn (i_pr q.1) w i && !m i) 64 = coV (i_pr q.1) w := by
        unfold coV
        exact cnt_congr 64 (fun i hi => by rw [Lst_uniq b4 (lcl_is _ _) i hi])
      rw [e] at c1
      rw [a1, Option.bind_some]
      dsimp only
      rw [b1, Option.bind_some]
      dsimp only
      rw [c1, Option.bind_some]
      exact ⟨B, rfl, b2.mono (by decide)⟩
