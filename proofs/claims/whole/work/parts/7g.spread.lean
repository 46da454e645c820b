/-! sets of cells: what spreads -/
def nbr (X : Nat → Bool) (i : Nat) : Prop := ∃ j d, j < 64 ∧ d ≤ 3 ∧ bes j d = some i ∧ X j = true
def Cl (O X : Nat → Bool) : Prop := ∀ j d i, j < 64 → d ≤ 3 → bes j d = some i → X j = true → O i = true → X i = true
def Lst (F O X : Nat → Bool) : Prop := (∀ i, i < 64 → F i = true → X i = true) ∧ Cl O X ∧ ∀ Y : Nat → Bool, (∀ i, i < 64 → F i = true → Y i = true) → Cl O Y → ∀ i, i < 64 → X i = true → Y i = true
theorem bool_eq {a b : Bool} (h1 : a = true → b = true) (h2 : b = true → a = true) : a = b := by
  cases a with
  | true => rw [h1 rfl]
  | false =>
    cases b with
    | false => rfl
    | true => exact h2 rfl
theorem Lst_uniq {F O X X' : Nat → Bool} (h1 : Lst F O X) (h2 : Lst F O X') : ∀ i, i < 64 → X i = X' i := fun i hi => bool_eq (fun h => h1.2.2 X' h2.1 h2.2.1 i hi h) (fun h => h2.2.2 X h1.1 h1.2.1 i hi h)
theorem Lst_congr {F F' O O' X : Nat → Bool} (hF : ∀ i, i < 64 → F i = F' i) (hO : ∀ i, i < 64 → O i = O' i) (h : Lst F O X) : Lst F' O' X := by
  have cl : ∀ Y, Cl O Y ↔ Cl O' Y := fun Y => ⟨fun c j d i hj hd hb hy ho => c j d i hj hd hb hy (by rw [hO i (bes_lt hj hb)]; exact ho), fun c j d i hj hd hb hy ho => c j d i hj hd hb hy (by rw [← hO i (bes_lt hj hb)]; exact ho)⟩
  exact ⟨fun i hi hf => h.1 i hi (by rw [hF i hi]; exact hf), (cl X).mp h.2.1, fun Y hY hc i hi hx => h.2.2 Y (fun i hi hf => hY i hi (by rw [← hF i hi]; exact hf)) ((cl Y).mpr hc) i hi hx⟩
theorem cnt_sub {p q : Nat → Bool} : ∀ {n : Nat}, (∀ i, i < n → p i = true → q i = true) → cnt p n ≤ cnt q n
  | 0, _ => Nat.le_refl _
  | n + 1, h => by
    have ih := cnt_sub (n := n) (fun i hi => h i (by omega))
    rw [cnt, cnt]
    by_cases hp : p n = true
    · rw [if_pos hp, if_pos (h n (by omega) hp)]; omega
    · rw [if_neg hp]
      by_cases hq : q n = true
      · rw [if_pos hq]; omega
      · rw [if_neg hq]; omega
theorem cnt_slt {p q : Nat → Bool} : ∀ {n : Nat}, (∀ i, i < n → p i = true → q i = true) → (∃ i, i < n ∧ p i = false ∧ q i = true) → cnt p n < cnt q n
  | 0, _, ⟨i, hi, _⟩ => by omega
  | n + 1, h, ⟨i, hi, h1, h2⟩ => by
    rw [cnt, cnt]
    by_cases hin : i = n
    · subst hin
      have ih := cnt_sub (n := i) (fun i hi => h i (by omega))
      rw [if_neg (by rw [h1]; decide), if_pos h2]; omega
    · have ih := cnt_slt (n := n) (fun i hi => h i (by omega)) ⟨i, by omega, h1, h2⟩
      by_cases hp : p n = true
      · rw [if_pos hp, if_pos (h n (by omega) hp)]; omega
      · rw [if_neg hp]
        by_cases hq : q n = true
        · rw [if_pos hq]; omega
        · rw [if_neg hq]; omega
theorem cnt_all {p : Nat → Bool} : ∀ {n : Nat}, n ≤ cnt p n → ∀ i, i < n → p i = true
  | 0, _, i, hi => by omega
  | n + 1, h, i, hi => by
    have hle := cnt_le p n
    rw [cnt] at h
    by_cases hp : p n = true
    · by_cases hin : i = n
      · rw [hin]; exact hp
      · rw [if_pos hp] at h
        exact cnt_all (n := n) (by omega) i (by omega)
    · rw [if_neg hp] at h; omega
def bsd (p0 : Int64) : Int64 := (((((p0 <<< ((1 : Int32).toInt64 &&& 63)) &&& (-72340172838076674 : Int64)) ||| (((p0.toUInt64 >>> ((1 : Int32).toInt64.toUInt64 &&& Int64.toUInt64 63)).toInt64) &&& (9187201950435737471 : Int64))) ||| (p0 <<< ((8 : Int32).toInt64 &&& 63))) ||| ((p0.toUInt64 >>> ((8 : Int32).toInt64.toUInt64 &&& Int64.toUInt64 63)).toInt64))
theorem cBsd (p : Int64) (S : gSt) : f_X6_besideSet p S = some (bsd p, S) := rfl
theorem k1_b : ∀ i, i < 64 → b6 (-72340172838076674) i = decide (i % 8 ≠ 0) := by decide +kernel
theorem k7_b : ∀ i, i < 64 → b6 9187201950435737471 i = decide (i % 8 ≠ 7) := by decide +kernel
theorem rim_b : ∀ i, i < 64 → b6 (-35604928818740737) i = (decide (i % 8 = 0) || (decide (i % 8 = 7) || (decide (i < 8) || decide (55 < i)))) := by decide +kernel
theorem bsd_b (x : Int64) {i : Nat} (hi : i < 64) : b6 (bsd x) i = ((((decide (1 ≤ i) && b6 x (i - 1)) && decide (i % 8 ≠ 0)) || (b6 x (1 + i) && decide (i % 8 ≠ 7))) || (decide (8 ≤ i) && b6 x (i - 8)) || b6 x (8 + i)) := by
  have s1 : b6 (x <<< ((1 : Int32).toInt64 &&& 63)) i = (decide (1 ≤ i) && b6 x (i - 1)) := b6_shl 1 (by decide) x hi
  have s8 : b6 (x <<< ((8 : Int32).toInt64 &&& 63)) i = (decide (8 ≤ i) && b6 x (i - 8)) := b6_shl 8 (by decide) x hi
  have u1 : b6 ((x.toUInt64 >>> ((1 : Int32).toInt64.toUInt64 &&& Int64.toUInt64 63)).toInt64) i = b6 x (1 + i) := b6_ushr 1 (by decide) x i
  have u8 : b6 ((x.toUInt64 >>> ((8 : Int32).toInt64.toUInt64 &&& Int64.toUInt64 63)).toInt64) i = b6 x (8 + i) := b6_ushr 8 (by decide) x i
  unfold bsd
  rw [b6_or, b6_or, b6_or, b6_and, b6_and, s1, s8, u1, u8, k1_b i hi, k7_b i hi]
theorem bsd_iff (x : Int64) {i : Nat} (hi : i < 64) : b6 (bsd x) i = true ↔ nbr (b6 x) i := by
  rw [bsd_b x hi]
  simp only [Bool.or_eq_true, Bool.and_eq_true, decide_eq_true_eq]
  constructor
  · rintro (((⟨⟨h1, h2⟩, h3⟩ | ⟨h1, h2⟩) | ⟨h1, h2⟩) | h1)
    · refine ⟨i - 1, 0, by omega, by decide, ?_, h2⟩
      unfold bes
      rw [if_pos rfl, if_neg (by omega), show i - 1 + 1 = i by omega]
    · have := b6_lt h1
      refine ⟨1 + i, 2, by omega, by decide, ?_, h1⟩
      unfold bes
      rw [if_neg (by decide), if_neg (by decide), if_pos rfl, if_neg (by omega), show 1 + i - 1 = i by omega]
    · refine ⟨i - 8, 1, by omega, by decide, ?_, h2⟩
      unfold bes
      rw [if_neg (by decide), if_pos rfl, if_neg (by omega), show i - 8 + 8 = i by omega]
    · have := b6_lt h1
      refine ⟨8 + i, 3, by omega, by decide, ?_, h1⟩
      unfold bes
      rw [if_neg (by decide), if_neg (by decide), if_neg (by decide), if_neg (by omega), show 8 + i - 8 = i by omega]
  · rintro ⟨j, d, hj, hd, hb, hx⟩
    unfold bes at hb
    rcases four hd with rfl | rfl | rfl | rfl
    · rw [if_pos rfl] at hb
      by_cases h : j % 8 = 7
      · rw [if_pos h] at hb; cases hb
      · rw [if_neg h] at hb
        cases hb
        left; left; left
        exact ⟨⟨by omega, by rw [show j + 1 - 1 = j by omega]; exact hx⟩, by omega⟩
    · rw [if_neg (by decide), if_pos rfl] at hb
      by_cases h : j / 8 = 7
      · rw [if_pos h] at hb; cases hb
      · rw [if_neg h] at hb
        cases hb
        left; right
        exact ⟨by omega, by rw [show j + 8 - 8 = j by omega]; exact hx⟩
    · rw [if_neg (by decide), if_neg (by decide), if_pos rfl] at hb
      by_cases h : j % 8 = 0
      · rw [if_pos h] at hb; cases hb
      · rw [if_neg h] at hb
        cases hb
        left; left; right
        exact ⟨by rw [show 1 + (j - 1) = j by omega]; exact hx, by omega⟩
    · rw [if_neg (by decide), if_neg (by decide), if_neg (by decide)] at hb
      by_cases h : j / 8 = 0
      · rw [if_pos h] at hb; cases hb
      · rw [if_neg h] at hb
        cases hb
        right
        rw [show 8 + (j - 8) = j by omega]; exact hx
theorem cSpread (f o : Int64) (S : gSt) : ∃ x, f_X6_spreadOver f o S = some (x, S) ∧ Lst (b6 f) (b6 o) (b6 x) := by
  unfold f_X6_spreadOver
  have key : ∃ R, gLoop f_X6_spreadOver_s6 gFuel (o, f, 0, S) = some R ∧ ∃ x, R = Sum.inr (x, S) ∧ Lst (b6 f) (b6 o) (b6 x) := by
    refine gLoop_up2 (fun k p => ∃ x, p = (o, x, nI k, S) ∧ (∀ i, i < 64 → b6 f i = true → b6 x i = true) ∧ (∀ Y : Nat → Bool, (∀ i, i < 64 → b6 f i = true → Y i = true) → Cl (b6 o) Y → ∀ i, i < 64 → b6 x i = true → Y i = true) ∧ k ≤ cnt (b6 x) 64) _ 64 (by omega) ?_ ?_ ⟨f, rfl, fun i _ h => h, fun Y hY _ i hi h => hY i hi h, Nat.zero_le _⟩
    · rintro k p hk ⟨x, rfl, h1, h2, h3⟩
      dsimp only [f_X6_spreadOver_s6]
      unfold f_X6_spreadOver_s6_b
      rw [if_neg (by rw [n_64, nI_leI (by omega) (by omega)]; omega), cBsd, g2s, gls, nI_1]
      have hv : ∀ i, i < 64 → (b6 (x ||| (bsd x &&& o)) i = true ↔ b6 x i = true ∨ (nbr (b6 x) i ∧ b6 o i = true)) := fun i hi => by
        rw [b6_or, b6_and, Bool.or_eq_true, Bool.and_eq_true, bsd_iff x hi]
      by_cases he : x ||| (bsd x &&& o) = x
      · rw [if_pos ((lg_eq _ _).mpr he)]
        refine Or.inr ⟨_, rfl, x, rfl, h1, fun j d i hj hd hb hx ho => ?_, h2⟩
        have := (hv i (bes_lt hj hb)).mpr (Or.inr ⟨⟨j, d, hj, hd, hb, hx⟩, ho⟩)
        rw [he] at this
        exact this
      · rw [if_neg (fun z => he ((lg_eq _ _).mp z))]
        refine Or.inl ⟨_, rfl, _, rfl, fun i hi hf => (hv i hi).mpr (Or.inl (h1 i hi hf)), fun Y hY hc i hi hx => ?_, ?_⟩
        · rcases (hv i hi).mp hx with hx | ⟨⟨j, d, hj, hd, hb, hxj⟩, ho⟩
          · exact h2 Y hY hc i hi hx
          · exact hc j d i hj hd hb (h2 Y hY hc j hj hxj) ho
        · have hlt : cnt (b6 x) 64 < cnt (b6 (x ||| (bsd x &&& o))) 64 := by
            refine cnt_slt (fun i hi hx => (hv i hi).mpr (Or.inl hx)) ?_
            refine Classical.byContradiction (fun hno => he (b6_ext (fun i hi => ?_)))
            refine bool_eq (fun h => ?_) (fun h => (hv i hi).mpr (Or.inl h))
            cases e : b6 x i with
            | true => rfl
            | false => exact absurd ⟨i, hi, e, h⟩ hno
          omega
    · rintro p ⟨x, rfl, h1, h2, h3⟩
      dsimp only [f_X6_spreadOver_s6]
      unfold f_X6_spreadOver_s6_b
      rw [if_pos (by decide)]
      exact ⟨_, rfl, x, rfl, h1, fun j d i hj hd hb hx ho => cnt_all h3 i (bes_lt hj hb), h2⟩
  obtain ⟨R, r1, x, rfl, r2⟩ := key
  exact ⟨x, by rw [r1]; rfl, r2⟩
