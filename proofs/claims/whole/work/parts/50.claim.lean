/-! the greatest of some numbers -/
def IsMx (V : Nat → Prop) (f : Nat → Nat) (m : Nat) : Prop := (∀ c, V c → f c ≤ m) ∧ (m = 0 ∨ ∃ c, V c ∧ f c = m)
theorem IsMx.uniq {V : Nat → Prop} {f : Nat → Nat} {a b : Nat} (h1 : IsMx V f a) (h2 : IsMx V f b) : a = b := by
  have l1 : a ≤ b := by
    rcases h1.2 with h | ⟨c, hc, e⟩
    · omega
    · rw [← e]; exact h2.1 c hc
  have l2 : b ≤ a := by
    rcases h2.2 with h | ⟨c, hc, e⟩
    · omega
    · rw [← e]; exact h1.1 c hc
  omega
theorem IsMx.congr {V V' : Nat → Prop} {f : Nat → Nat} {m : Nat} (h : IsMx V f m) (e : ∀ c, V' c ↔ V c) : IsMx V' f m :=
  ⟨fun c hc => h.1 c ((e c).mp hc), h.2.imp id (fun ⟨c, hc, z⟩ => ⟨c, (e c).mpr hc, z⟩)⟩
theorem IsMx.fcongr {V : Nat → Prop} {f f' : Nat → Nat} {m : Nat} (h : IsMx V f m) (e : ∀ c, V c → f' c = f c) : IsMx V f' m :=
  ⟨fun c hc => by rw [e c hc]; exact h.1 c hc, h.2.imp id (fun ⟨c, hc, z⟩ => ⟨c, hc, by rw [e c hc]; exact z⟩)⟩
theorem IsMx.none {V : Nat → Prop} {f : Nat → Nat} (e : ∀ c, ¬ V c) : IsMx V f 0 := ⟨fun c hc => absurd hc (e c), Or.inl rfl⟩
theorem IsMx.add {V V' : Nat → Prop} {f : Nat → Nat} {m c0 : Nat} (h : IsMx V f m) (e : ∀ c, V' c ↔ V c ∨ c = c0) : IsMx V' f (max m (f c0)) := by
  refine ⟨fun c hc => ?_, ?_⟩
  · rcases (e c).mp hc with h1 | h1
    · have := h.1 c h1; omega
    · subst h1; omega
  · by_cases hm : m ≤ f c0
    · exact Or.inr ⟨c0, (e c0).mpr (Or.inr rfl), by omega⟩
    · rcases h.2 with h1 | ⟨c, hc, z⟩
      · omega
      · exact Or.inr ⟨c, (e c).mpr (Or.inl hc), by omega⟩
def mx (p : Nat → Bool) (f : Nat → Nat) : Nat → Nat
  | 0 => 0
  | n + 1 => if p n then max (mx p f n) (f n) else mx p f n
theorem mx_is (p : Nat → Bool) (f : Nat → Nat) : ∀ n, IsMx (fun c => c < n ∧ p c = true) f (mx p f n)
  | 0 => IsMx.none (fun c h => by omega)
  | n + 1 => by
    rw [mx]
    by_cases h : p n = true
    · rw [if_pos h]
      refine (mx_is p f n).add (fun c => ⟨fun ⟨h1, h2⟩ => ?_, fun h1 => ?_⟩)
      · by_cases hc : c = n
        · exact Or.inr hc
        · exact Or.inl ⟨by omega, h2⟩
      · rcases h1 with ⟨h1, h2⟩ | rfl
        · exact ⟨by omega, h2⟩
        · exact ⟨by omega, h⟩
    · rw [if_neg h]
      refine (mx_is p f n).congr (fun c => ⟨fun ⟨h1, h2⟩ => ⟨?_, h2⟩, fun ⟨h1, h2⟩ => ⟨by omega, h2⟩⟩)
      by_cases hc : c = n
      · subst hc; exact absurd h2 h
      · omega
def near (r a b : Nat) : Bool := decide (a % 8 ≤ b % 8 + r) && (decide (b % 8 ≤ a % 8 + r) && (decide (a / 8 ≤ b / 8 + r) && decide (b / 8 ≤ a / 8 + r)))
theorem near_iff (r a b : Nat) : near r a b = true ↔ a % 8 ≤ b % 8 + r ∧ b % 8 ≤ a % 8 + r ∧ a / 8 ≤ b / 8 + r ∧ b / 8 ≤ a / 8 + r := by simp [near]
/-- CLAIM of walker w to cell c -/
def clm (P : Nat → Nat) (r w c : Nat) : Nat := mx (near r c) (fun x => P (64 * w + x)) 64
theorem clm_is (P : Nat → Nat) (r w c : Nat) : IsMx (fun x => x < 64 ∧ near r c x = true) (fun x => P (64 * w + x)) (clm P r w c) := mx_is _ _ 64
/-! the reference's claimOf -/
theorem r8 {c : Nat} (h : c < 2 ^ 31) : nI c - nI c / 8 * 8 = nI (c % 8) := pk_rem h (by decide) (by decide)
theorem d8 {c : Nat} (h : c < 2 ^ 31) : nI c / 8 = nI (c / 8) := pk_div h (by decide) (by decide)
theorem sub1 (a r : Nat) : nI a - nI r + 1 = nI (a + 1) - nI r := by
  rw [nI_succ]
  have : ∀ x y : Int32, x - y + 1 = x + 1 - y := by
    intro x y
    rw [Int32.sub_eq_add_neg, Int32.sub_eq_add_neg, Int32.add_assoc, Int32.add_comm (-y) 1, ← Int32.add_assoc]
  exact this _ _
def mPr (S : gSt) (P : Nat → Nat) : Prop := ∀ i, i < 384 → S.1 48 (32 + i) = nI (P i)
theorem max_if (a b : Nat) : (if nI b ≤ nI a then nI a else nI b) = nI (max a b) ∨ ¬ (a < 2 ^ 31 ∧ b < 2 ^ 31) := by
  by_cases h : a < 2 ^ 31 ∧ b < 2 ^ 31
  · left
    by_cases h2 : b ≤ a
    · rw [if_pos ((nI_leI h.2 h.1).mpr h2), Nat.max_eq_left h2]
    · rw [if_neg (fun z => h2 ((nI_leI h.2 h.1).mp z)), Nat.max_eq_right (by omega)]
  · exact Or.inr h
def vIJ (r c i j x : Nat) : Prop := x < 64 ∧ c % 8 ≤ x % 8 + r ∧ c / 8 ≤ x / 8 + r ∧ ((x / 8 + r < c / 8 + i ∧ x % 8 ≤ c % 8 + r) ∨ (x / 8 + r = c / 8 + i ∧ x % 8 + r < c % 8 + j))
theorem rng_sub {a r : Nat} (ha : a < 2 ^ 30) (hr : r < 2 ^ 30) : rng (nI a - nI r) 0 7 = decide (r ≤ a ∧ a ≤ r + 7) := by
  unfold rng
  rw [pk_sub_toInt ha hr, Bool.eq_iff_iff]
  simp only [Bool.and_eq_true, decide_eq_true_eq]
  omega
theorem mClaim_x {S : gSt} {P : Nat → Nat} (hP : mPr S P) (hb : ∀ i, P i ≤ 99) {w c r i : Nat} (hw : w < 6) (hc : c < 64) (hr : r ≤ 3) (hi : i < 2 * r + 1) {m : Nat} (hm : IsMx (vIJ r c i 0) (fun x => P (64 * w + x)) m) :
    ∃ m', gLoop f_X7_claimOf_s40 gFuel (nI w, nI c, nI m, nI r, nI (c / 8 + i) - nI r, nI (c % 8) - nI r, S) = some (nI w, nI c, nI m', nI r, nI (c / 8 + i) - nI r, S) ∧ IsMx (vIJ r c (i + 1) 0) (fun x => P (64 * w + x)) m' := by
  have key : ∃ R, gLoop f_X7_claimOf_s40 gFuel (nI w, nI c, nI m, nI r, nI (c / 8 + i) - nI r, nI (c % 8) - nI r, S) = some R ∧ ∃ m', R = (nI w, nI c, nI m', nI r, nI (c / 8 + i) - nI r, S) ∧ IsMx (vIJ r c (i + 1) 0) (fun x => P (64 * w + x)) m' := by
    refine gLoop_up (fun j p => ∃ m, p = (nI w, nI c, nI m, nI r, nI (c / 8 + i) - nI r, nI (c % 8 + j) - nI r, S) ∧ IsMx (vIJ r c i j) (fun x => P (64 * w + x)) m) _ (2 * r + 1) (by omega) ?_ ?_ ⟨m, rfl, hm⟩
    · rintro j p hj ⟨m, rfl, hm⟩
      have hm99 : m ≤ 99 := by
        rcases hm.2 with h | ⟨x, _, e⟩
        · omega
        · rw [← e]; exact hb _
      dsimp only [f_X7_claimOf_s40]
      unfold f_X7_claimOf_s40_b f_X7_claimOf_j102 f_X7_claimOf_j103
      rw [r8 (by omega), nI_add, if_neg (by rw [lt_toInt, nI_toInt (by omega), pk_sub_toInt (by omega) (by omega)]; omega), in_lit _ (a := 0) (b := 7) S rfl rfl, rng_sub (by omega) (by omega), g2s, sub1]
      by_cases hx : r ≤ c % 8 + j ∧ c % 8 + j ≤ r + 7
      · rw [decide_eq_true hx, bI_t, if_neg one0, in_lit _ (a := 0) (b := 7) S rfl rfl, rng_sub (by omega) (by omega), g2s]
        by_cases hy : r ≤ c / 8 + i ∧ c / 8 + i ≤ r + 7
        · rw [decide_eq_true hy, bI_t, if_neg one0, nI_sub_le hx.1, nI_sub_le hy.1]
          simp only [nL, pk_mul, nI_add]
          rw [gin_t (by omega) (by decide), if_pos rfl, nI_clamp (by omega), show 32 + 64 * w + 8 * (c / 8 + i - r) + (c % 8 + j - r) = 32 + (64 * w + (8 * (c / 8 + i - r) + (c % 8 + j - r))) by omega, hP _ (by omega)]
          have hb1 := hb (64 * w + (8 * (c / 8 + i - r) + (c % 8 + j - r)))
          have hadd := hm.add (V' := vIJ r c i (j + 1)) (c0 := 8 * (c / 8 + i - r) + (c % 8 + j - r)) (fun x => by unfold vIJ; omega)
          by_cases hle : P (64 * w + (8 * (c / 8 + i - r) + (c % 8 + j - r))) ≤ m
          · rw [if_pos ((nI_leI (by omega) (by omega)).mpr hle)]
            rw [Nat.max_eq_left hle] at hadd
            exact ⟨_, rfl, m, rfl, hadd⟩
          · rw [if_neg (fun z => hle ((nI_leI (by omega) (by omega)).mp z))]
            rw [Nat.max_eq_right (by omega)] at hadd
            exact ⟨_, rfl, _, rfl, hadd⟩
        · rw [decide_eq_false hy, bI_f, if_pos rfl]
          rw [if_pos (nI_pos' (by omega))]
          exact ⟨_, rfl, m, rfl, hm.congr (fun x => by unfold vIJ; omega)⟩
      · rw [decide_eq_false hx, bI_f, if_pos rfl]
        rw [if_pos (nI_pos' (by omega))]
        exact ⟨_, rfl, m, rfl, hm.congr (fun x => by unfold vIJ; omega)⟩
    · rintro p ⟨m, rfl, hm⟩
      dsimp only [f_X7_claimOf_s40]
      unfold f_X7_claimOf_s40_b
      rw [r8 (by omega), nI_add, if_pos (by rw [lt_toInt, nI_toInt (by omega), pk_sub_toInt (by omega) (by omega)]; omega)]
      exact ⟨_, rfl, m, rfl, hm.congr (fun x => by unfold vIJ; omega)⟩
  obtain ⟨R, h1, m', h2, h3⟩ := key
  exact ⟨m', by rw [h1, h2], h3⟩
theorem mClaim {S : gSt} {P : Nat → Nat} (hP : mPr S P) (hb : ∀ i, P i ≤ 99) {w c r : Nat} (hw : w < 6) (hc : c < 64) (hr : r ≤ 3) (h2 : S.1 48 2 = nI r) : f_X7_claimOf (nI w) (nI c) S = some (nI (clm P r w c), S) := by
  unfold f_X7_claimOf
  have e0 : (2 : Int32).toNatClampNeg = 2 := rfl
  have e1 : gin 2 416 = true := rfl
  rw [e1, if_pos rfl, e0, gls, gls, h2, d8 (by omega)]
  have key : ∃ R, gLoop f_X7_claimOf_s19 gFuel (nI w, nI c, 0, nI r, nI (c / 8) - nI r, S) = some R ∧ R = (nI (clm P r w c), S) := by
    refine gLoop_up (fun i p => ∃ m, p = (nI w, nI c, nI m, nI r, nI (c / 8 + i) - nI r, S) ∧ IsMx (vIJ r c i 0) (fun x => P (64 * w + x)) m) _ (2 * r + 1) (by omega) ?_ ?_ ⟨0, rfl, IsMx.none (fun x h => by unfold vIJ at h; omega)⟩
    · rintro i p hi ⟨m, rfl, hm⟩
      dsimp only [f_X7_claimOf_s19]
      unfold f_X7_claimOf_s19_b
      rw [r8 (c := c) (by omega), d8 (c := c) (by omega), nI_add, if_neg (by rw [lt_toInt, nI_toInt (by omega), pk_sub_toInt (by omega) (by omega)]; omega), gls]
      obtain ⟨m', g1, g2⟩ := mClaim_x hP hb hw hc hr hi hm
      rw [g1]
      refine ⟨_, rfl, m', ?_, g2⟩
      show (nI w, nI c, nI m', nI r, nI (c / 8 + i) - nI r + 1, S) = _
      rw [sub1]
      rfl
    · rintro p ⟨m, rfl, hm⟩
      dsimp only [f_X7_claimOf_s19]
      unfold f_X7_claimOf_s19_b
      rw [d8 (c := c) (by omega), nI_add, if_pos (by rw [lt_toInt, nI_toInt (by omega), pk_sub_toInt (by omega) (by omega)]; omega)]
      refine ⟨_, rfl, ?_⟩
      have hu := IsMx.uniq (hm.congr (V' := fun x => x < 64 ∧ near r c x = true) (fun x => by simp only [near_iff]; unfold vIJ; omega)) (clm_is P r w c)
      rw [hu]
  obtain ⟨R, h1, rfl⟩ := key
  rw [h1]; rfl
