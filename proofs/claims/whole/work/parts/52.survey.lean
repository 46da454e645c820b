/-! the class's survey -/
theorem col_sp {c : Nat} (h : c < 2 ^ 31) (S : gSt) : f_X6_columnOf (nI c) S = some (nI (c % 8), S) := by
  unfold f_X6_columnOf
  rw [pk_andN (by omega) 3 (by decide)]
theorem row_sp {c : Nat} (h : c < 2 ^ 31) (S : gSt) : f_X6_rowOf (nI c) S = some (nI (c / 8), S) := by
  unfold f_X6_rowOf
  rw [pk_shrN h _ 3 (by decide)]
theorem max0 {a b : Nat} (ha : a < 2 ^ 30) (hb : b < 2 ^ 30) : (if (0 : Int32) < nI a - nI b then nI a - nI b else 0) = nI (a - b) := by
  by_cases h : b < a
  · rw [if_pos (by rw [lt_toInt, pk_sub_toInt ha hb, z_toInt]; omega), nI_sub_le (by omega)]
  · rw [if_neg (by rw [lt_toInt, pk_sub_toInt ha hb, z_toInt]; omega), show a - b = 0 by omega]; rfl
theorem min7 {a b : Nat} (ha : a < 2 ^ 30) (hb : b < 2 ^ 30) : (if nI a + nI b < 7 then nI a + nI b else 7) = nI (min (a + b) 7) := by
  rw [nI_add, n_7]
  by_cases h : a + b < 7
  · rw [if_pos ((nI_ltI (by omega) (by omega)).mpr h), Nat.min_eq_left (by omega)]
  · rw [if_neg (fun z => h ((nI_ltI (by omega) (by omega)).mp z)), Nat.min_eq_right (by omega)]
theorem maxI {a b : Nat} (ha : a < 2 ^ 31) (hb : b < 2 ^ 31) : (if nI a < nI b then nI b else nI a) = nI (max a b) := by
  by_cases h : a < b
  · rw [if_pos ((nI_ltI ha hb).mpr h), Nat.max_eq_right (by omega)]
  · rw [if_neg (fun z => h ((nI_ltI ha hb).mp z)), Nat.max_eq_left (by omega)]
/-- claims as the survey has them -/
def cCl (S : gSt) (C : Nat → Nat) : Prop := ∀ a, a < 384 → S.1 42 a = nI (C a)
/-- cells of walker w's row that rows ylo .. ylo+i-1, and of the next one columns xlo .. xlo+j-1, hold -/
def vR (w ylo xlo xhi i j a : Nat) : Prop := a / 64 = w ∧ ylo ≤ a % 64 / 8 ∧ xlo ≤ a % 8 ∧ ((a % 64 / 8 < ylo + i ∧ a % 8 ≤ xhi) ∨ (a % 64 / 8 = ylo + i ∧ a % 8 < xlo + j))
def rsd (C : Nat → Nat) (V : Nat → Prop) [DecidablePred V] (d a : Nat) : Nat := if V a then max (C a) d else C a
def vRd (w ylo xlo xhi i j : Nat) : DecidablePred (vR w ylo xlo xhi i j) := fun a => by unfold vR; exact inferInstance
theorem cRaise_x {C : Nat → Nat} (hC : ∀ a, C a ≤ 99) {w ylo xlo xhi yhi d r c i : Nat} (hw : w < 6) (hd : d ≤ 99) (hx : xlo ≤ xhi) (hxh : xhi ≤ 7) (hy : ylo + i ≤ 7) {S T : gSt} (hT : Fr [42] S T) (hCl : cCl T (@rsd C (vR w ylo xlo xhi i 0) (vRd w ylo xlo xhi i 0) d)) :
    ∃ T', gLoop f_X3_raise_s61 gFuel (nI (64 * w), nI c, nI d, nI r, nI xhi, nI yhi, nI (ylo + i), nI xlo, T) = some (nI (64 * w), nI c, nI d, nI r, nI xhi, nI yhi, nI (ylo + i), T') ∧ Fr [42] S T' ∧ cCl T' (@rsd C (vR w ylo xlo xhi (i + 1) 0) (vRd w ylo xlo xhi (i + 1) 0) d) := by
  have key : ∃ R, gLoop f_X3_raise_s61 gFuel (nI (64 * w), nI c, nI d, nI r, nI xhi, nI yhi, nI (ylo + i), nI xlo, T) = some R ∧ ∃ T', R = (nI (64 * w), nI c, nI d, nI r, nI xhi, nI yhi, nI (ylo + i), T') ∧ Fr [42] S T' ∧ cCl T' (@rsd C (vR w ylo xlo xhi (i + 1) 0) (vRd w ylo xlo xhi (i + 1) 0) d) := by
    refine gLoop_up (fun j p => ∃ T', p = (nI (64 * w), nI c, nI d, nI r, nI xhi, nI yhi, nI (ylo + i), nI (xlo + j), T') ∧ Fr [42] S T' ∧ cCl T' (@rsd C (vR w ylo xlo xhi i j) (vRd w ylo xlo xhi i j) d)) _ (xhi + 1 - xlo) (by omega) ?_ ?_ ⟨T, rfl, hT, hCl⟩
    · rintro j p hj ⟨T', rfl, h1, h2⟩
      dsimp only [f_X3_raise_s61]
      unfold f_X3_raise_s61_b
      rw [if_neg (by rw [nI_ltI (by omega) (by omega)]; omega), gls]
      simp only [n_8, pk_mul, nI_add]
      have hat : 64 * w + (ylo + i) * 8 + (xlo + j) < 384 := by omega
      rw [gin_t hat (by decide), if_pos rfl, if_pos rfl, gls, nI_clamp (by omega), h2 _ hat, nI_1 (xlo + j)]
      have hbd : @rsd C (vR w ylo xlo xhi i j) (vRd w ylo xlo xhi i j) d (64 * w + (ylo + i) * 8 + (xlo + j)) ≤ 99 := by
        have := hC (64 * w + (ylo + i) * 8 + (xlo + j))
        unfold rsd
        split <;> omega
      rw [maxI (by omega) (by omega)]
      refine ⟨_, rfl, _, rfl, h1.trans (Fr_gI (by decide)), fun a ha => ?_⟩
      by_cases hae : a = 64 * w + (ylo + i) * 8 + (xlo + j)
      · subst hae
        rw [gI_s]
        congr 1
        unfold rsd
        rw [if_neg (by unfold vR; omega), if_pos (by unfold vR; omega)]
      · rw [gI_i _ hae, h2 a ha]
        congr 1
        unfold rsd
        by_cases hv : vR w ylo xlo xhi i j a
        · rw [if_pos hv, if_pos (by unfold vR at hv ⊢; omega)]
        · rw [if_neg hv, if_neg (by unfold vR at hv ⊢; omega)]
    · rintro p ⟨T', rfl, h1, h2⟩
      dsimp only [f_X3_raise_s61]
      unfold f_X3_raise_s61_b
      rw [if_pos (by rw [nI_ltI (by omega) (by omega)]; omega)]
      refine ⟨_, rfl, T', rfl, h1, fun a ha => ?_⟩
      rw [h2 a ha]
      congr 1
      unfold rsd
      by_cases hv : vR w ylo xlo xhi i (xhi + 1 - xlo) a
      · rw [if_pos hv, if_pos (by unfold vR at hv ⊢; omega)]
      · rw [if_neg hv, if_neg (by unfold vR at hv ⊢; omega)]
  obtain ⟨R, h1, T', rfl, h2, h3⟩ := key
  exact ⟨T', h1, h2, h3⟩
def lift1 (C : Nat → Nat) (w r c d a : Nat) : Nat := if a / 64 = w ∧ near r c (a % 64) = true then max (C a) d else C a
/-- raise: the claims round a cell, lifted -/
theorem cRaise {C : Nat → Nat} (hC : ∀ a, C a ≤ 99) {w d r c : Nat} (hw : w < 6) (hd : d ≤ 99) (hr : r ≤ 3) (hc : c < 64) {S : gSt} (hCl : cCl S C) :
    ∃ S', f_X3_raise (nI (64 * w)) (nI c) (nI d) (nI r) S = some S' ∧ Fr [42] S S' ∧ cCl S' (lift1 C w r c d) := by
  unfold f_X3_raise
  rw [col_sp (by omega), g2s, min7 (by omega) (by omega), gls, row_sp (by omega), g2s, min7 (by omega) (by omega), gls, row_sp (by omega), g2s, max0 (by omega) (by omega), gls]
  have key : ∃ R, gLoop f_X3_raise_s41 gFuel (nI (64 * w), nI c, nI d, nI r, nI (min (c % 8 + r) 7), nI (min (c / 8 + r) 7), nI (c / 8 - r), S) = some R ∧ Fr [42] S R ∧ cCl R (lift1 C w r c d) := by
    refine gLoop_up (fun i p => ∃ T, p = (nI (64 * w), nI c, nI d, nI r, nI (min (c % 8 + r) 7), nI (min (c / 8 + r) 7), nI (c / 8 - r + i), T) ∧ Fr [42] S T ∧ cCl T (@rsd C (vR w (c / 8 - r) (c % 8 - r) (min (c % 8 + r) 7) i 0) (vRd w (c / 8 - r) (c % 8 - r) (min (c % 8 + r) 7) i 0) d)) _ (min (c / 8 + r) 7 + 1 - (c / 8 - r)) (by omega) ?_ ?_ ⟨S, rfl, Fr_rfl, fun a ha => ?_⟩
    · rintro i p hi ⟨T, rfl, h1, h2⟩
      dsimp only [f_X3_raise_s41]
      unfold f_X3_raise_s41_b
      rw [if_neg (by rw [nI_ltI (by omega) (by omega)]; omega), col_sp (by omega), g2s, max0 (by omega) (by omega), gls]
      obtain ⟨T', g1, g2, g3⟩ := cRaise_x hC (r := r) (c := c) (yhi := min (c / 8 + r) 7) hw hd (show c % 8 - r ≤ min (c % 8 + r) 7 by omega) (by omega) (show c / 8 - r + i ≤ 7 by omega) h1 h2
      rw [g1]
      exact ⟨_, rfl, T', by simp only [nI_1]; rfl, g2, g3⟩
    · rintro p ⟨T, rfl, h1, h2⟩
      dsimp only [f_X3_raise_s41]
      unfold f_X3_raise_s41_b
      rw [if_pos (by rw [nI_ltI (by omega) (by omega)]; omega)]
      refine ⟨_, rfl, h1, fun a ha => ?_⟩
      rw [h2 a ha]
      congr 1
      unfold rsd lift1
      by_cases hv : vR w (c / 8 - r) (c % 8 - r) (min (c % 8 + r) 7) (min (c / 8 + r) 7 + 1 - (c / 8 - r)) 0 a
      · rw [if_pos hv, if_pos (by rw [near_iff]; unfold vR at hv; omega)]
      · rw [if_neg hv, if_neg (by rw [near_iff]; unfold vR at hv; omega)]
    · rw [hCl a ha]
      congr 1
      unfold rsd
      rw [if_neg (by unfold vR; omega)]
  obtain ⟨R, h1, h2⟩ := key
  exact ⟨R, by rw [h1]; rfl, h2⟩
