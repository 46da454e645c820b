/-! items within bounds; all of some -/
def wth (v : Int64) (m : Nat) : Bool := decide (0 ≤ v.toInt) && decide (v.toInt ≤ m)
theorem wth_iff {v : Int64} {m : Nat} : wth v m = true ↔ 0 ≤ v.toInt ∧ v.toInt ≤ m := by simp [wth]
theorem wth_f {v : Int64} {m : Nat} (h : ¬ (0 ≤ v.toInt ∧ v.toInt ≤ m)) : wth v m = false := by
  cases e : wth v m with
  | false => rfl
  | true => exact absurd (wth_iff.mp e) h
theorem cWith {S : gSt} {j i m : Nat} (hi : i < 24) (hm : m < 2 ^ 31) : f_X2_isWithin j (nI i) (nI m) S = some (bI (wth (S.2 (37 + j) i) m), S) := by
  unfold f_X2_isWithin
  rw [gin_t hi (by decide), if_pos rfl, if_pos rfl, nI_clamp (by omega)]
  have e0 : (0 : Int64).toInt = 0 := rfl
  simp only [lg_lt, lg_gt, Int64.lt_iff_toInt_lt, Int32.toInt_toInt64, nI_toInt hm, e0]
  by_cases h1 : (S.2 (37 + j) i).toInt < 0
  · rw [if_pos h1, wth_f (by omega)]; rfl
  · rw [if_neg h1]
    by_cases h2 : (m : Int) < (S.2 (37 + j) i).toInt
    · rw [if_pos h2, wth_f (by omega)]; rfl
    · rw [if_neg h2, wth_iff.mpr (by omega)]; rfl
theorem mIn (v : Int64) (m : Nat) {hi : Int64} (h : hi.toInt = m) (S : gSt) : f_X7_in v 0 hi S = some (bI (wth v m), S) := by
  unfold f_X7_in
  have e0 : (0 : Int64).toInt = 0 := rfl
  simp only [lg_lt, lg_gt, Int64.lt_iff_toInt_lt, h, e0]
  by_cases h1 : v.toInt < 0
  · rw [if_pos h1, wth_f (by omega)]; rfl
  · rw [if_neg h1]
    by_cases h2 : (m : Int) < v.toInt
    · rw [if_pos h2, wth_f (by omega)]; rfl
    · rw [if_neg h2, wth_iff.mpr (by omega)]; rfl
def al (f : Nat → Bool) : Nat → Bool
  | 0 => true
  | n + 1 => al f n && f n
theorem al_iff {f : Nat → Bool} : ∀ {n : Nat}, al f n = true ↔ ∀ k, k < n → f k = true
  | 0 => ⟨fun _ k hk => by omega, fun _ => rfl⟩
  | n + 1 => by
    rw [al, Bool.and_eq_true, al_iff]
    constructor
    · rintro ⟨h1, h2⟩ k hk
      by_cases h : k = n
      · rw [h]; exact h2
      · exact h1 k (by omega)
    · intro h
      exact ⟨fun k hk => h k (by omega), h n (by omega)⟩
theorem al_f {f : Nat → Bool} {n k : Nat} (hk : k < n) (h : f k = false) : al f n = false := by
  cases e : al f n with
  | false => rfl
  | true => rw [al_iff.mp e k hk] at h; cases h
theorem al_s {f : Nat → Bool} {i : Nat} (h1 : al f i = true) (h2 : f i = true) : al f (i + 1) = true := by rw [al, h1, h2]; rfl
theorem al_congr {f g : Nat → Bool} : ∀ {n : Nat}, (∀ k, k < n → f k = g k) → al f n = al g n
  | 0, _ => rfl
  | n + 1, h => by rw [al, al, al_congr (fun k hk => h k (by omega)), h n (by omega)]
theorem toI32 {v : Int64} (h0 : 0 ≤ v.toInt) (h1 : v.toInt ≤ 1000) : v.toInt32 = nI v.toInt.toNat := by
  rw [← Int32.toInt_inj, nI_toInt (by omega), Int64.toInt_toInt32, Int.bmod_eq_of_le (by omega) (by omega)]
  omega
/-! shoes -/
def okS (V : Nat → Int64) (a k : Nat) : Bool := wth (V (a + 2 * k)) 63 && wth (V (a + 2 * k + 1)) 99
def hpS (P : Nat → Nat) (V : Nat → Int64) (a w k : Nat) : Bool := decide ((nI (P (64 * w + (V (a + 2 * k)).toInt.toNat))).toInt64 = V (a + 2 * k + 1))
def seS (P : Nat → Nat) (V : Nat → Int64) (a n : Nat) : Nat → Int32
  | 0 => 0
  | w + 1 => if al (hpS P V a w) n then seS P V a n w ||| ((1 : Int32) <<< (nI w &&& 31)) else seS P V a n w
theorem cShA {S : gSt} {V : Nat → Int64} {j a n : Nat} (hj : j < 4) (hv : ∀ i, i < 24 → S.2 (37 + j) i = V i) (ha : a + 2 * n ≤ 24) : gLoop f_X6_shoes_s39 gFuel (nI j, nI a, nI n, 0, S) = some (if al (okS V a) n then Sum.inr (nI j, nI a, nI n, S) else Sum.inl (-2, S)) := by
  have key : ∃ R, gLoop f_X6_shoes_s39 gFuel (nI j, nI a, nI n, 0, S) = some R ∧ R = (if al (okS V a) n then Sum.inr (nI j, nI a, nI n, S) else Sum.inl (-2, S)) := by
    refine gLoop_up2 (fun i p => p = (nI j, nI a, nI n, nI i, S) ∧ al (okS V a) i = true) _ n (by omega) ?_ ?_ ⟨rfl, rfl⟩
    · rintro i p hi ⟨rfl, hal⟩
      dsimp only [f_X6_shoes_s39]
      unfold f_X6_shoes_s39_b
      rw [if_neg (by rw [nI_leI (by omega) (by omega)]; omega), gin_t hj (by decide), if_pos rfl, nI_clamp (by omega), n_2, pk_mul, nI_add, nI_1 (a + 2 * i), n_63, n_99, cWith (by omega) (by decide), g2s, hv _ (by omega), if_pos rfl, cWith (by omega) (by decide), g2s, hv _ (by omega), nI_1 i]
      cases w1 : wth (V (a + 2 * i)) 63 with
      | false => exact Or.inr ⟨_, rfl, by rw [al_f hi (show okS V a i = false by unfold okS; rw [w1]; rfl)]; rfl⟩
      | true =>
        rw [bI_t, if_neg one0]
        cases w2 : wth (V (a + 2 * i + 1)) 99 with
        | false => exact Or.inr ⟨_, rfl, by rw [al_f hi (show okS V a i = false by unfold okS; rw [w1, w2]; rfl)]; rfl⟩
        | true =>
          rw [bI_t, if_neg one0]
          exact Or.inl ⟨_, rfl, rfl, al_s hal (by unfold okS; rw [w1, w2]; rfl)⟩
    · rintro p ⟨rfl, hal⟩
      dsimp only [f_X6_shoes_s39]
      unfold f_X6_shoes_s39_b
      rw [if_pos (by rw [nI_leI (by omega) (by omega)]; omega)]
      exact ⟨_, rfl, by rw [hal]; rfl⟩
  obtain ⟨R, r1, rfl⟩ := key
  exact r1
theorem mShA {S : gSt} {V : Nat → Int64} {j a n : Nat} (hj : j < 4) (hv : ∀ i, i < 24 → S.2 59 (24 * j + i) = V i) (ha : a + 2 * n ≤ 24) : gLoop f_X7_shoes_s61 gFuel (nI n, nI (24 * j + a), 0, S) = some (if al (okS V a) n then Sum.inr (nI n, nI (24 * j + a), S) else Sum.inl (-2, S)) := by
  have key : ∃ R, gLoop f_X7_shoes_s61 gFuel (nI n, nI (24 * j + a), 0, S) = some R ∧ R = (if al (okS V a) n then Sum.inr (nI n, nI (24 * j + a), S) else Sum.inl (-2, S)) := by
    refine gLoop_up2 (fun i p => p = (nI n, nI (24 * j + a), nI i, S) ∧ al (okS V a) i = true) _ n (by omega) ?_ ?_ ⟨rfl, rfl⟩
    · rintro i p hi ⟨rfl, hal⟩
      dsimp only [f_X7_shoes_s61]
      unfold f_X7_shoes_s61_b
      rw [if_neg (by rw [nI_leI (by omega) (by omega)]; omega), n_2, pk_mul, nI_add, nI_1 (24 * j + a + 2 * i), gin_t (show 24 * j + a + 2 * i < 96 by omega) (by decide), if_pos rfl, nI_clamp (by omega), gin_t (show 24 * j + a + 2 * i + 1 < 96 by omega) (by decide), nI_clamp (by omega), show 24 * j + a + 2 * i = 24 * j + (a + 2 * i) by omega, hv _ (by omega), mIn _ 63 rfl, g2s, if_pos rfl, show 24 * j + (a + 2 * i) + 1 = 24 * j + (a + 2 * i + 1) by omega, hv _ (by omega), mIn _ 99 rfl, g2s, nI_1 i]
      cases w1 : wth (V (a + 2 * i)) 63 with
      | false => exact Or.inr ⟨_, rfl, by rw [al_f hi (show okS V a i = false by unfold okS; rw [w1]; rfl)]; rfl⟩
      | true =>
        rw [bI_t, if_neg one0]
        cases w2 : wth (V (a + 2 * i + 1)) 99 with
        | false => exact Or.inr ⟨_, rfl, by rw [al_f hi (show okS V a i = false by unfold okS; rw [w1, w2]; rfl)]; rfl⟩
        | true =>
          rw [bI_t, if_neg one0]
          exact Or.inl ⟨_, rfl, rfl, al_s hal (by unfold okS; rw [w1, w2]; rfl)⟩
    · rintro p ⟨rfl, hal⟩
      dsimp only [f_X7_shoes_s61]
      unfold f_X7_shoes_s61_b
      rw [if_pos (by rw [nI_leI (by omega) (by omega)]; omega)]
      exact ⟨_, rfl, by rw [hal]; rfl⟩
  obtain ⟨R, r1, rfl⟩ := key
  exact r1
theorem okS_at {V : Nat → Int64} {a n k : Nat} (h : al (okS V a) n = true) (hk : k < n) : 0 ≤ (V (a + 2 * k)).toInt ∧ (V (a + 2 * k)).toInt ≤ 63 := by
  have h1 := al_iff.mp h k hk
  unfold okS at h1
  rw [Bool.and_eq_true] at h1
  exact wth_iff.mp h1.1
theorem cHasP {S : gSt} {V : Nat → Int64} {P : Nat → Nat} {j a n w : Nat} (hw : w < 6) (hv : ∀ i, i < 24 → S.2 (37 + j) i = V i) (hP : ∀ i, i < 384 → S.1 7 i = nI (P i)) (ha : a + 2 * n ≤ 24) (ho : al (okS V a) n = true) : f_X6_hasPrints j (nI w) (nI a) (nI n) S = some (bI (al (hpS P V a w) n), S) := by
  unfold f_X6_hasPrints
  have key : ∃ R, gLoop (f_X6_hasPrints_s3 j) gFuel (nI w, nI a, nI n, 0, S) = some R ∧ ((al (hpS P V a w) n = true ∧ R = Sum.inr S) ∨ (al (hpS P V a w) n = false ∧ R = Sum.inl (0, S))) := by
    refine gLoop_up2 (fun i p => p = (nI w, nI a, nI n, nI i, S) ∧ al (hpS P V a w) i = true) _ n (by omega) ?_ ?_ ⟨rfl, rfl⟩
    · rintro i p hi ⟨rfl, hal⟩
      obtain ⟨o1, o2⟩ := okS_at ho hi
      dsimp only [f_X6_hasPrints_s3]
      unfold f_X6_hasPrints_s3_b
      rw [if_neg (by rw [nI_leI (by omega) (by omega)]; omega), n_2, pk_mul, nI_add, nI_1 (a + 2 * i), gin_t (show a + 2 * i < 24 by omega) (by decide), if_pos rfl, nI_clamp (by omega), nI_clamp (by omega), hv _ (by omega), hv _ (by omega), gls, toI32 o1 (by omega), n_64, pk_mul, nI_add, gin_t (show w * 64 + (V (a + 2 * i)).toInt.toNat < 384 by omega) (by decide), if_pos rfl, gin_t (show a + 2 * i + 1 < 24 by omega) (by decide), if_pos rfl, nI_clamp (by omega), hP _ (by omega), Nat.mul_comm w 64, nI_1 i]
      by_cases hh : (nI (P (64 * w + (V (a + 2 * i)).toInt.toNat))).toInt64 = V (a + 2 * i + 1)
      · rw [if_pos ((lg_eq _ _).mpr hh)]
        exact Or.inl ⟨_, rfl, rfl, al_s hal (decide_eq_true hh)⟩
      · rw [if_neg (fun z => hh ((lg_eq _ _).mp z))]
        exact Or.inr ⟨_, rfl, Or.inr ⟨al_f hi (decide_eq_false hh), rfl⟩⟩
    · rintro p ⟨rfl, hal⟩
      dsimp only [f_X6_hasPrints_s3]
      unfold f_X6_hasPrints_s3_b
      rw [if_pos (by rw [nI_leI (by omega) (by omega)]; omega)]
      exact ⟨_, rfl, Or.inl ⟨hal, rfl⟩⟩
  obtain ⟨R, r1, ⟨h, rfl⟩ | ⟨h, rfl⟩⟩ := key
  · rw [r1, h]; rfl
  · rw [r1, h]; rfl
theorem mHasP {S : gSt} {V : Nat → Int64} {P : Nat → Nat} {j a n w : Nat} (x : Int32) (hj : j < 4) (hw : w < 6) (hv : ∀ i, i < 24 → S.2 59 (24 * j + i) = V i) (hP : mPr S P) (ha : a + 2 * n ≤ 24) (ho : al (okS V a) n = true) : gLoop f_X7_shoes_s146 gFuel (nI n, nI (24 * j + a), x, nI w, 1, 0, S) = some (nI n, nI (24 * j + a), x, nI w, bI (al (hpS P V a w) n), S) := by
  have key : ∃ R, gLoop f_X7_shoes_s146 gFuel (nI n, nI (24 * j + a), x, nI w, 1, 0, S) = some R ∧ R = (nI n, nI (24 * j + a), x, nI w, bI (al (hpS P V a w) n), S) := by
    refine gLoop_up (fun i p => p = (nI n, nI (24 * j + a), x, nI w, bI (al (hpS P V a w) i), nI i, S)) _ n (by omega) ?_ ?_ rfl
    · rintro i p hi rfl
      obtain ⟨o1, o2⟩ := okS_at ho hi
      dsimp only [f_X7_shoes_s146]
      unfold f_X7_shoes_s146_b
      rw [if_neg (by rw [nI_leI (by omega) (by omega)]; omega), nI_1 i]
      cases hal : al (hpS P V a w) i with
      | false =>
        rw [bI_f, if_pos rfl]
        exact ⟨_, rfl, by rw [al, hal]; rfl⟩
      | true =>
        rw [bI_t, if_neg one0, n_2, pk_mul, nI_add, n_1, nI_add, gin_t (show 24 * j + a + 2 * i < 96 by omega) (by decide), if_pos rfl, nI_clamp (by omega), nI_clamp (by omega), show 24 * j + a + 2 * i = 24 * j + (a + 2 * i) by omega, hv _ (by omega), toI32 o1 (by omega), n_64, n_32, pk_mul, nI_add, nI_add, gin_t (show 32 + 64 * w + (V (a + 2 * i)).toInt.toNat < 416 by omega) (by decide), if_pos rfl, gin_t (show 24 * j + (a + 2 * i) + 1 < 96 by omega) (by decide), if_pos rfl, nI_clamp (by omega), show 24 * j + (a + 2 * i) + 1 = 24 * j + (a + 2 * i + 1) by omega, hv _ (by omega), Nat.add_assoc 32, hP _ (by omega)]
        by_cases hh : (nI (P (64 * w + (V (a + 2 * i)).toInt.toNat))).toInt64 = V (a + 2 * i + 1)
        · rw [if_pos ((lg_eq _ _).mpr hh)]
          exact ⟨_, rfl, by rw [al_s hal (decide_eq_true hh)]; rfl⟩
        · rw [if_neg (fun z => hh ((lg_eq _ _).mp z))]
          exact ⟨_, rfl, by rw [al_f (Nat.lt_succ_self i) (decide_eq_false hh)]; rfl⟩
    · rintro p rfl
      dsimp only [f_X7_shoes_s146]
      unfold f_X7_shoes_s146_b
      rw [if_pos (by rw [nI_leI (by omega) (by omega)]; omega)]
      exact ⟨_, rfl, rfl⟩
  obtain ⟨R, r1, rfl⟩ := key
  exact r1
theorem cShB {S : gSt} {V : Nat → Int64} {P : Nat → Nat} {j a n m : Nat} (hj : j < 4) (hm : m ≤ 6) (h7 : S.1 1 7 = nI m) (hv : ∀ i, i < 24 → S.2 (37 + j) i = V i) (hP : ∀ i, i < 384 → S.1 7 i = nI (P i)) (ha : a + 2 * n ≤ 24) (ho : al (okS V a) n = true) : gLoop f_X6_shoes_s103 gFuel (nI j, nI a, nI n, 0, 0, S) = some (seS P V a n m, S) := by
  have key : ∃ R, gLoop f_X6_shoes_s103 gFuel (nI j, nI a, nI n, 0, 0, S) = some R ∧ R = (seS P V a n m, S) := by
    refine gLoop_up (fun i p => p = (nI j, nI a, nI n, seS P V a n i, nI i, S)) _ m (by omega) ?_ ?_ rfl
    · rintro i p hi rfl
      dsimp only [f_X6_shoes_s103]
      unfold f_X6_shoes_s103_b
      rw [h7, if_neg (by rw [nI_leI (by omega) (by omega)]; omega), gin_t hj (by decide), if_pos rfl, nI_clamp (by omega), cHasP (show i < 6 by omega) hv hP ha ho, g2s, gls, nI_1 i]
      cases hal : al (hpS P V a i) n with
      | false => exact ⟨_, rfl, by rw [seS, hal]; rfl⟩
      | true => exact ⟨_, rfl, by rw [seS, hal]; rfl⟩
    · rintro p rfl
      dsimp only [f_X6_shoes_s103]
      unfold f_X6_shoes_s103_b
      rw [h7, if_pos (by rw [nI_leI (by omega) (by omega)]; omega)]
      exact ⟨_, rfl, rfl⟩
  obtain ⟨R, r1, rfl⟩ := key
  exact r1
theorem mShB {S : gSt} {V : Nat → Int64} {P : Nat → Nat} {j a n m : Nat} (hj : j < 4) (hm : m ≤ 6) (h5 : S.1 48 5 = nI m) (hv : ∀ i, i < 24 → S.2 59 (24 * j + i) = V i) (hP : mPr S P) (ha : a + 2 * n ≤ 24) (ho : al (okS V a) n = true) : gLoop f_X7_shoes_s129 gFuel (nI n, nI (24 * j + a), 0, 0, S) = some (seS P V a n m, S) := by
  have e0 : (5 : Int32).toNatClampNeg = 5 := rfl
  have e1 : gin 5 416 = true := rfl
  have key : ∃ R, gLoop f_X7_shoes_s129 gFuel (nI n, nI (24 * j + a), 0, 0, S) = some R ∧ R = (seS P V a n m, S) := by
    refine gLoop_up (fun i p => p = (nI n, nI (24 * j + a), seS P V a n i, nI i, S)) _ m (by omega) ?_ ?_ rfl
    · rintro i p hi rfl
      dsimp only [f_X7_shoes_s129]
      unfold f_X7_shoes_s129_b
      rw [e1, if_pos rfl, e0, h5, if_neg (by rw [nI_leI (by omega) (by omega)]; omega), mHasP _ hj (show i < 6 by omega) hv hP ha ho, Option.bind_some]
      dsimp only
      rw [gls, gls, nI_1 i, Int32.or_zero]
      cases hal : al (hpS P V a i) n with
      | false => exact ⟨_, rfl, by rw [seS, hal]; rfl⟩
      | true => exact ⟨_, rfl, by rw [seS, hal]; rfl⟩
    · rintro p rfl
      dsimp only [f_X7_shoes_s129]
      unfold f_X7_shoes_s129_b
      rw [e1, if_pos rfl, e0, h5, if_pos (by rw [nI_leI (by omega) (by omega)]; omega)]
      exact ⟨_, rfl, rfl⟩
  obtain ⟨R, r1, rfl⟩ := key
  exact r1
theorem op_shoes (s l a n : Int32) : Op (f_X6_shoes s l a n) (f_X7_shoes s l a n) := by
  intro S hR
  have hR0 := hR
  obtain ⟨⟨q, h1, h2, h3⟩, -, -, hS⟩ := hR
  have h6 := h3.1.1
  have bad : (gin s 4 = false ∨ gin l 4 = false ∨ rng n (1 : Nat) (8 : Nat) = false) → f_X7_shoes s l a n S = some (-1, S) := by
    intro h
    unfold f_X7_shoes
    rw [mSheet, g2s]
    cases g1 : gin s 4 with
    | false => rfl
    | true =>
      rw [bI_t, if_neg one0, mLane, g2s]
      cases g2 : gin l 4 with
      | false => rfl
      | true =>
        rw [bI_t, if_neg one0, in_lit n (a := (1 : Nat)) (b := (8 : Nat)) S rfl rfl, g2s]
        cases g3 : rng n (1 : Nat) (8 : Nat) with
        | false => rfl
        | true =>
          rw [g1, g2, g3] at h
          rcases h with h | h | h <;> cases h
  cases hn : rng n (1 : Nat) (8 : Nat) with
  | false =>
    refine ⟨-1, S, S, ?_, bad (Or.inr (Or.inr hn)), hR0⟩
    unfold f_X6_shoes
    rw [rngA n 8 1 8 (by decide) rfl 1 rfl, hn]; rfl
  | true =>
    have cc : ∀ R : Option (Int32 × gSt), (gBind2 (f_X6_itemsFault s l a (2 * n) S) fun r5 S3 => if 0 ≤ r5 then (gLoop (f_X6_shoes_s39) gFuel (s, a, n, (0 : Int32), S3)).bind fun q18 => match q18 with
| .inl (v18, T18) => some (v18, T18)
| .inr (y1_18, y3_18, y4_18, S18) => (gLoop (f_X6_shoes_s103) gFuel (y1_18, y3_18, y4_18, (0 : Int32), (0 : Int32), S18)).bind fun q26 => some (q26.1, q26.2) else some (r5, S3)) = R → f_X6_shoes s l a n S = R := by
      rintro R rfl
      unfold f_X6_shoes
      rw [rngA n 8 1 8 (by decide) rfl 1 rfl, hn, if_pos rfl]
      rfl
    rcases items hS s l a (2 * n) with ⟨f1, f2⟩ | ⟨gs, gl, ⟨r, r0, f1, f2⟩ | ⟨j, aa, nn, rfl, hj, rfl, en, ha, f1, f2⟩⟩
    · refine ⟨-1, S, S, cc _ ?_, bad (f2.imp id Or.inl), hR0⟩
      rw [f1, g2s, if_neg (by decide)]
    · refine ⟨r, S, S, cc _ ?_, ?_, hR0⟩
      · rw [f1, g2s, if_neg (Int32.not_le.mpr r0)]
      · unfold f_X7_shoes
        rw [mSheet, g2s, gs, bI_t, if_neg one0, mLane, g2s, gl, bI_t, if_neg one0, in_lit n (a := (1 : Nat)) (b := (8 : Nat)) S rfl rfl, g2s, hn, bI_t, if_neg one0, f2 S rfl rfl, g2s, if_neg (Int32.not_le.mpr r0)]
    · obtain ⟨e1, n1, n2⟩ := rngN (by decide) hn
      generalize n.toNatClampNeg = m at *
      subst e1
      have hnn : nn = 2 * m := by
        rw [n_2, pk_mul, nI_eq (by omega) (by omega)] at en
        exact en.symm
      rw [hnn] at ha
      obtain ⟨V, hV⟩ : ∃ V, V = fun i => S.2 (37 + j) i := ⟨_, rfl⟩
      have v1 : ∀ i, i < 24 → S.2 (37 + j) i = V i := fun i _ => by rw [hV]
      have v2 : ∀ i, i < 24 → S.2 59 (24 * j + i) = V i := fun i hi => by rw [hV, ← (hS j hj).2 i hi]
      have k1 := cShA hj v1 ha
      have k2 := mShA hj v2 ha
      have mm : ∀ R : Option (Int32 × gSt), ((gLoop (f_X7_shoes_s61) gFuel (nI m, nI (24 * j + aa), (0 : Int32), S)).bind fun q29 => match q29 with
| .inl (v29, T29) => some (v29, T29)
| .inr (y4_29, y6_29, S29) => (gLoop (f_X7_shoes_s129) gFuel (y4_29, y6_29, (0 : Int32), (0 : Int32), S29)).bind fun q42 => some (q42.1, q42.2)) = R → f_X7_shoes (nI j) l (nI aa) (nI m) S = R := by
        rintro R rfl
        unfold f_X7_shoes
        rw [mSheet, g2s, gs, bI_t, if_neg one0, mLane, g2s, gl, bI_t, if_neg one0, in_lit (nI m) (a := (1 : Nat)) (b := (8 : Nat)) S rfl rfl, g2s, hn, bI_t, if_neg one0, f2 S rfl rfl, g2s, if_pos (by decide), gls, n_24, pk_mul, nI_add]
        rfl
      cases ho : al (okS V aa) m with
      | false =>
        rw [ho] at k1 k2
        refine ⟨-2, S, S, cc _ ?_, mm _ ?_, hR0⟩
        · rw [f1, g2s, if_pos (by decide), k1]; rfl
        · rw [k2]; rfl
      | true =>
        rw [ho] at k1 k2
        have q1 := cShB (V := V) (P := i_pr q.1) hj h6 h1.1.2.1 v1 h1.1.2.2.2.2.2 ha ho
        have q2 := mShB (V := V) (P := i_pr q.1) hj h6 h2.1.2.1 v2 h2.1.2.2.2.2.2 ha ho
        refine ⟨seS (i_pr q.1) V aa m (i_n q.1), S, S, cc _ ?_, mm _ ?_, hR0⟩
        · rw [f1, g2s, if_pos (by decide), k1, if_pos rfl, Option.bind_some]
          show (gLoop f_X6_shoes_s103 gFuel (nI j, nI aa, nI m, 0, 0, S)).bind _ = _
          rw [q1]; rfl
        · rw [k2, if_pos rfl, Option.bind_some]
          show (gLoop f_X7_shoes_s129 gFuel (nI m, nI (24 * j + aa), 0, 0, S)).bind _ = _
          rw [q2]; rfl
