/-! who holds a cell -/
def hst (st : Nat × Option Nat) (w cw : Nat) : Nat × Option Nat := if cw ≤ st.1 then (if cw = st.1 then (st.1, none) else st) else (cw, some w)
def hf (c : Nat → Nat) : Nat → Nat × Option Nat
  | 0 => (0, none)
  | n + 1 => hst (hf c n) n (c n)
def hI (o : Option Nat) : Int32 := match o with
  | none => -4
  | some w => nI w
theorem hf_lt (c : Nat → Nat) : ∀ n w, (hf c n).2 = some w → w < n
  | 0, w, h => by simp [hf] at h
  | n + 1, w, h => by
    rw [hf, hst] at h
    by_cases h1 : c n ≤ (hf c n).1
    · rw [if_pos h1] at h
      by_cases h2 : c n = (hf c n).1
      · rw [if_pos h2] at h; cases h
      · rw [if_neg h2] at h; have := hf_lt c n w h; omega
    · rw [if_neg h1] at h; cases h; omega
theorem hf_0 (c : Nat → Nat) : ∀ n, (hf c n).1 = 0 → (hf c n).2 = none
  | 0, _ => rfl
  | n + 1, h => by
    rw [hf, hst] at h ⊢
    by_cases h1 : c n ≤ (hf c n).1
    · rw [if_pos h1] at h ⊢
      by_cases h2 : c n = (hf c n).1
      · rw [if_pos h2]
      · rw [if_neg h2] at h ⊢; exact hf_0 c n h
    · rw [if_neg h1] at h; simp only at h; omega
theorem hf_le (c : Nat → Nat) {m : Nat} (hm : ∀ i, c i ≤ m) : ∀ n, (hf c n).1 ≤ m
  | 0 => Nat.zero_le _
  | n + 1 => by
    rw [hf, hst]
    by_cases h1 : c n ≤ (hf c n).1
    · rw [if_pos h1]
      by_cases h2 : c n = (hf c n).1
      · rw [if_pos h2]; exact hf_le c hm n
      · rw [if_neg h2]; exact hf_le c hm n
    · rw [if_neg h1]; exact hm n
theorem hf_congr {c c' : Nat → Nat} : ∀ n, (∀ i, i < n → c i = c' i) → hf c n = hf c' n
  | 0, _ => rfl
  | n + 1, h => by rw [hf, hf, hf_congr n (fun i hi => h i (by omega)), h n (by omega)]
theorem clm_le {P : Nat → Nat} (hb : ∀ i, P i ≤ 99) (r w c : Nat) : clm P r w c ≤ 99 := by
  rcases (clm_is P r w c).2 with h | ⟨x, _, e⟩
  · omega
  · rw [← e]; exact hb _
def hol (P : Nat → Nat) (r n c : Nat) : Option Nat := (hf (fun w => clm P r w c) n).2
theorem hI_lt0 (o : Option Nat) (h : ∀ w, o = some w → w < 2 ^ 31) : hI o < 0 ↔ o = none := by
  cases o with
  | none => exact ⟨fun _ => rfl, fun _ => by decide⟩
  | some w => exact ⟨fun z => absurd z (nI_pos (h w rfl)), fun z => by cases z⟩
theorem hI_m4 (o : Option Nat) (h : ∀ w, o = some w → w < 2 ^ 31) : hI o = -4 ↔ o = none := by
  cases o with
  | none => exact ⟨fun _ => rfl, fun _ => rfl⟩
  | some w =>
    refine ⟨fun z => ?_, fun z => by cases z⟩
    have h1 : nI w < 0 := by
      show hI (some w) < 0
      rw [z]; decide
    exact absurd h1 (nI_pos (h w rfl))
theorem hI_eq (o : Option Nat) (w : Nat) (hw : w < 2 ^ 31) (h : ∀ w, o = some w → w < 2 ^ 31) : hI o = nI w ↔ o = some w := by
  cases o with
  | none =>
    refine ⟨fun z => ?_, fun z => by cases z⟩
    have h1 : nI w < 0 := by
      rw [← z]; decide
    exact absurd h1 (nI_pos hw)
  | some v =>
    refine ⟨fun z => ?_, fun z => by cases z; rfl⟩
    rw [(nI_eq (h v rfl) hw).mp z]
/-- what the reference's row must show for claims -/
def mCl (S : gSt) (P : Nat → Nat) (r n : Nat) : Prop := mPr S P ∧ (∀ i, P i ≤ 99) ∧ r ≤ 3 ∧ n ≤ 6 ∧ S.1 48 2 = nI r ∧ S.1 48 5 = nI n
theorem mHolder {S : gSt} {P : Nat → Nat} {r n c : Nat} (h : mCl S P r n) (hc : c < 64) : f_X7_holder (nI c) S = some (hI (hol P r n c), S) := by
  obtain ⟨hP, hb, hr, hn, h2, h5⟩ := h
  unfold f_X7_holder
  have key : ∃ R, gLoop f_X7_holder_s8 gFuel (nI c, (-4 : Int32), 0, 0, S) = some R ∧ R = (hI (hol P r n c), nI (hf (fun w => clm P r w c) n).1, S) := by
    refine gLoop_up (fun i p => p = (nI c, hI (hf (fun w => clm P r w c) i).2, nI (hf (fun w => clm P r w c) i).1, nI i, S)) _ n (by omega) ?_ ?_ rfl
    · rintro i p hi rfl
      dsimp only [f_X7_holder_s8]
      unfold f_X7_holder_s8_b f_X7_holder_j51
      have e0 : (5 : Int32).toNatClampNeg = 5 := rfl
      have e1 : gin 5 416 = true := rfl
      have hle := hf_le (fun w => clm P r w c) (m := 99) (fun w => clm_le hb r w c) i
      have hcl := clm_le hb r i c
      rw [e1, if_pos rfl, e0, h5, if_neg (by rw [nI_leI (by omega) (by omega)]; omega), mClaim hP hb (by omega) hc hr h2, g2s]
      rw [show hf (fun w => clm P r w c) (i + 1) = hst (hf (fun w => clm P r w c) i) i (clm P r i c) from rfl]
      unfold hst
      by_cases h1 : clm P r i c ≤ (hf (fun w => clm P r w c) i).1
      · rw [if_pos ((nI_leI (by omega) (by omega)).mpr h1), if_pos h1]
        by_cases h3 : clm P r i c = (hf (fun w => clm P r w c) i).1
        · rw [if_pos ((nI_eq (by omega) (by omega)).mpr h3), if_pos h3]
          rw [if_pos ((nI_leI (by omega) (by omega)).mpr h1)]
          exact ⟨_, rfl, by rw [nI_1]; rfl⟩
        · rw [if_neg (fun z => h3 ((nI_eq (by omega) (by omega)).mp z)), if_neg h3]
          rw [if_pos ((nI_leI (by omega) (by omega)).mpr h1)]
          exact ⟨_, rfl, by rw [nI_1]⟩
      · rw [if_neg (fun z => h1 ((nI_leI (by omega) (by omega)).mp z)), if_neg h1]
        rw [if_neg (fun z => h1 ((nI_leI (by omega) (by omega)).mp z))]
        exact ⟨_, rfl, by rw [nI_1]; rfl⟩
    · rintro p rfl
      dsimp only [f_X7_holder_s8]
      unfold f_X7_holder_s8_b
      have e0 : (5 : Int32).toNatClampNeg = 5 := rfl
      have e1 : gin 5 416 = true := rfl
      rw [e1, if_pos rfl, e0, h5, if_pos (by rw [nI_leI (by omega) (by omega)]; omega)]
      exact ⟨_, rfl, rfl⟩
  obtain ⟨R, h1, rfl⟩ := key
  rw [h1]
  show (if nI (hf (fun w => clm P r w c) n).1 = 0 then some ((-4 : Int32), S) else some (hI (hol P r n c), S)) = _
  by_cases h0 : (hf (fun w => clm P r w c) n).1 = 0
  · rw [if_pos (by rw [h0]; rfl)]
    unfold hol
    rw [hf_0 _ _ h0]
    rfl
  · have hle := hf_le (fun w => clm P r w c) (m := 99) (fun w => clm_le hb r w c) n
    rw [if_neg (nI_ne0 (by omega) (by omega))]
def cnt (p : Nat → Bool) : Nat → Nat
  | 0 => 0
  | n + 1 => cnt p n + (if p n then 1 else 0)
theorem cnt_le (p : Nat → Bool) : ∀ n, cnt p n ≤ n
  | 0 => Nat.le_refl _
  | n + 1 => by
    rw [cnt]
    have := cnt_le p n
    split <;> omega
def lnd (P : Nat → Nat) (r n w : Nat) : Nat := cnt (fun c => decide (hol P r n c = some w)) 64
def hld (P : Nat → Nat) (r n : Nat) : Nat := cnt (fun c => (hol P r n c).isSome) 64
theorem hol_lt {P : Nat → Nat} {r n c w : Nat} (h : hol P r n c = some w) : w < n := hf_lt _ _ _ h
theorem mLand {S : gSt} {P : Nat → Nat} {r n w : Nat} (h : mCl S P r n) (hw : w < 6) : f_X7_landOf (nI w) S = some (nI (lnd P r n w), S) := by
  have hn := h.2.2.2.1
  unfold f_X7_landOf
  have key : ∃ R, gLoop f_X7_landOf_s4 gFuel (nI w, 0, 0, S) = some R ∧ R = (nI (lnd P r n w), S) := by
    refine gLoop_up (fun i p => p = (nI w, nI (cnt (fun c => decide (hol P r n c = some w)) i), nI i, S)) _ 64 (by omega) ?_ ?_ rfl
    · rintro i p hi rfl
      dsimp only [f_X7_landOf_s4]
      unfold f_X7_landOf_s4_b
      rw [if_neg (by rw [n_64, nI_leI (by omega) (by omega)]; omega), mHolder h hi, g2s, nI_1 i, cnt]
      by_cases h1 : hol P r n i = some w
      · rw [if_pos ((hI_eq _ _ (by omega) (fun v hv => by have := hol_lt hv; omega)).mpr h1), decide_eq_true h1, if_pos rfl]
        exact ⟨_, rfl, by rw [nI_1]⟩
      · rw [if_neg (fun z => h1 ((hI_eq _ _ (by omega) (fun v hv => by have := hol_lt hv; omega)).mp z)), decide_eq_false h1]
        exact ⟨_, rfl, by simp only [n_0, nI_add]; rfl⟩
    · rintro p rfl
      dsimp only [f_X7_landOf_s4]
      unfold f_X7_landOf_s4_b
      rw [if_pos (by rw [n_64, nI_leI (by omega) (by omega)]; omega)]
      exact ⟨_, rfl, rfl⟩
  obtain ⟨R, h1, rfl⟩ := key
  rw [h1]; rfl
theorem mHeld {S : gSt} {P : Nat → Nat} {r n : Nat} (h : mCl S P r n) : f_X7_allHeld S = some (nI (hld P r n), S) := by
  have hn := h.2.2.2.1
  unfold f_X7_allHeld
  have key : ∃ R, gLoop f_X7_allHeld_s4 gFuel (0, 0, S) = some R ∧ R = (nI (hld P r n), S) := by
    refine gLoop_up (fun i p => p = (nI (cnt (fun c => (hol P r n c).isSome) i), nI i, S)) _ 64 (by omega) ?_ ?_ rfl
    · rintro i p hi rfl
      dsimp only [f_X7_allHeld_s4]
      unfold f_X7_allHeld_s4_b
      rw [if_neg (by rw [n_64, nI_leI (by omega) (by omega)]; omega), mHolder h hi, g2s, nI_1 i, cnt]
      by_cases h1 : hol P r n i = none
      · rw [if_pos ((hI_m4 _ (fun v hv => by have := hol_lt hv; omega)).mpr h1), h1]
        exact ⟨_, rfl, by simp only [n_0, nI_add]; rfl⟩
      · rw [if_neg (fun z => h1 ((hI_m4 _ (fun v hv => by have := hol_lt hv; omega)).mp z)), if_pos (Option.isSome_iff_ne_none.mpr h1)]
        exact ⟨_, rfl, by rw [nI_1]⟩
    · rintro p rfl
      dsimp only [f_X7_allHeld_s4]
      unfold f_X7_allHeld_s4_b
      rw [if_pos (by rw [n_64, nI_leI (by omega) (by omega)]; omega)]
      exact ⟨_, rfl, rfl⟩
  obtain ⟨R, h1, rfl⟩ := key
  rw [h1]; rfl
theorem mCl_fr {S S' : gSt} {P : Nat → Nat} {r n : Nat} (h : mCl S P r n) (e : S'.1 48 = S.1 48) : mCl S' P r n := by
  unfold mCl mPr at h ⊢
  rw [e]
  exact h
theorem mHolds {S : gSt} {P : Nat → Nat} {r n : Nat} (h : mCl S P r n) : ∃ S', f_X7_holds S = some S' ∧ Fr [49] S S' ∧ ∀ c, c < 64 → S'.1 49 c = hI (hol P r n c) := by
  unfold f_X7_holds
  have key : ∃ R, gLoop f_X7_holds_s2 gFuel (0, S) = some R ∧ Fr [49] S R ∧ ∀ c, c < 64 → R.1 49 c = hI (hol P r n c) := by
    refine gLoop_up (fun i p => ∃ T, p = (nI i, T) ∧ Fr [49] S T ∧ ∀ c, c < i → T.1 49 c = hI (hol P r n c)) _ 64 (by omega) ?_ ?_ ⟨S, rfl, Fr_rfl, fun c hc => by omega⟩
    · rintro i p hi ⟨T, rfl, hT, hc⟩
      dsimp only [f_X7_holds_s2]
      unfold f_X7_holds_s2_b
      rw [if_neg (by rw [n_64, nI_leI (by omega) (by omega)]; omega), mHolder (mCl_fr h (hT.2 48 (by decide))) hi, g2s, gin_t hi (by decide), if_pos rfl, gls, nI_clamp (by omega), nI_1]
      refine ⟨_, rfl, _, rfl, hT.trans (Fr_gI (by decide)), fun c hc2 => ?_⟩
      by_cases hci : c = i
      · subst hci; exact gI_s _ _ _ _
      · rw [gI_i _ hci]; exact hc c (by omega)
    · rintro p ⟨T, rfl, hT, hc⟩
      dsimp only [f_X7_holds_s2]
      unfold f_X7_holds_s2_b
      rw [if_pos (by rw [n_64, nI_leI (by omega) (by omega)]; omega)]
      exact ⟨_, rfl, hT, hc⟩
  obtain ⟨R, h1, h2⟩ := key
  exact ⟨R, by rw [h1]; rfl, h2⟩
