/-! the cell beside; parity -/
def bes (c d : Nat) : Option Nat := if d = 0 then (if c % 8 = 7 then none else some (c + 1)) else if d = 1 then (if c / 8 = 7 then none else some (c + 8)) else if d = 2 then (if c % 8 = 0 then none else some (c - 1)) else (if c / 8 = 0 then none else some (c - 8))
def oI (z : Int32) (o : Option Nat) : Int32 := match o with
  | none => z
  | some w => nI w
theorem bes_lt {c d e : Nat} (hc : c < 64) (h : bes c d = some e) : e < 64 := by
  unfold bes at h
  by_cases h0 : d = 0
  · rw [if_pos h0] at h
    by_cases h1 : c % 8 = 7
    · rw [if_pos h1] at h; cases h
    · rw [if_neg h1] at h; cases h; omega
  · rw [if_neg h0] at h
    by_cases h2 : d = 1
    · rw [if_pos h2] at h
      by_cases h1 : c / 8 = 7
      · rw [if_pos h1] at h; cases h
      · rw [if_neg h1] at h; cases h; omega
    · rw [if_neg h2] at h
      by_cases h3 : d = 2
      · rw [if_pos h3] at h
        by_cases h1 : c % 8 = 0
        · rw [if_pos h1] at h; cases h
        · rw [if_neg h1] at h; cases h; omega
      · rw [if_neg h3] at h
        by_cases h1 : c / 8 = 0
        · rw [if_pos h1] at h; cases h
        · rw [if_neg h1] at h; cases h; omega
theorem four {d : Nat} (h : d ≤ 3) : d = 0 ∨ d = 1 ∨ d = 2 ∨ d = 3 := by omega
theorem cBes {c d : Nat} (hc : c < 64) (hd : d ≤ 3) (S : gSt) : f_X6_beside (nI c) (nI d) S = some (oI (-2) (bes c d), S) := by
  unfold f_X6_beside bes
  rw [row_sp (by omega), col_sp (by omega)]
  simp only [g2s]
  rcases four hd with rfl | rfl | rfl | rfl
  · show (if (7 : Int32) ≤ nI (c % 8) then some (-2, S) else some (nI c + 1, S)) = some (oI (-2) (if c % 8 = 7 then none else some (c + 1)), S)
    rw [n_7, ile (by decide) (by omega)]
    by_cases h : c % 8 = 7
    · rw [if_pos (by omega), if_pos h]; rfl
    · rw [if_neg (by omega), if_neg h, n_1, nI_add]; rfl
  · show (if (7 : Int32) ≤ nI (c / 8) then some (-2, S) else some (nI c + 8, S)) = some (oI (-2) (if c / 8 = 7 then none else some (c + 8)), S)
    rw [n_7, ile (by decide) (by omega)]
    by_cases h : c / 8 = 7
    · rw [if_pos (by omega), if_pos h]; rfl
    · rw [if_neg (by omega), if_neg h, n_8, nI_add]; rfl
  · show (if nI (c % 8) ≤ 0 then some (-2, S) else some (nI c - 1, S)) = some (oI (-2) (if c % 8 = 0 then none else some (c - 1)), S)
    rw [n_0, ile (by omega) (by decide)]
    by_cases h : c % 8 = 0
    · rw [if_pos (by omega), if_pos h]; rfl
    · rw [if_neg (by omega), if_neg h, n_1, nI_sub_le (by omega)]; rfl
  · show (if nI (c / 8) ≤ 0 then some (-2, S) else some (nI c - 8, S)) = some (oI (-2) (if c / 8 = 0 then none else some (c - 8)), S)
    rw [n_0, ile (by omega) (by decide)]
    by_cases h : c / 8 = 0
    · rw [if_pos (by omega), if_pos h]; rfl
    · rw [if_neg (by omega), if_neg h, n_8, nI_sub_le (by omega)]; rfl
theorem mBes {c d : Nat} (hc : c < 64) (hd : d ≤ 3) (S : gSt) : f_X7_beside (nI c) (nI d) S = some (oI (-4) (bes c d), S) := by
  unfold f_X7_beside bes
  rw [gls, gls, r8 (by omega), n_8, pk_div (by omega) (by decide) (by decide)]
  rcases four hd with rfl | rfl | rfl | rfl
  · show (if nI (c % 8) = 7 then some (-4, S) else some (nI c + 1, S)) = some (oI (-4) (if c % 8 = 7 then none else some (c + 1)), S)
    rw [n_7, ieq (by omega) (by decide)]
    by_cases h : c % 8 = 7
    · rw [if_pos h, if_pos h]; rfl
    · rw [if_neg h, if_neg h, n_1, nI_add]; rfl
  · show (if nI (c / 8) = 7 then some (-4, S) else some (nI c + nI 8, S)) = some (oI (-4) (if c / 8 = 7 then none else some (c + 8)), S)
    rw [n_7, ieq (by omega) (by decide)]
    by_cases h : c / 8 = 7
    · rw [if_pos h, if_pos h]; rfl
    · rw [if_neg h, if_neg h, nI_add]; rfl
  · show (if nI (c % 8) = 0 then some (-4, S) else some (nI c - 1, S)) = some (oI (-4) (if c % 8 = 0 then none else some (c - 1)), S)
    rw [n_0, ieq (by omega) (by decide)]
    by_cases h : c % 8 = 0
    · rw [if_pos h, if_pos h]; rfl
    · rw [if_neg h, if_neg h, n_1, nI_sub_le (by omega)]; rfl
  · show (if nI (c / 8) = 0 then some (-4, S) else some (nI c - nI 8, S)) = some (oI (-4) (if c / 8 = 0 then none else some (c - 8)), S)
    rw [n_0, ieq (by omega) (by decide)]
    by_cases h : c / 8 = 0
    · rw [if_pos h, if_pos h]; rfl
    · rw [if_neg h, if_neg h, nI_sub_le (by omega)]; rfl
theorem par_c (x : Int32) : x &&& 1 = 0 ↔ x.toInt % 2 = 0 := by
  rw [pk_and x (m := 1) 1 (by decide), n_0, nI_eq (by omega) (by decide)]
  have e : x.toInt = x.toBitVec.toInt := rfl
  rw [e, BitVec.toInt_eq_toNat_cond]
  have := x.toBitVec.isLt
  split <;> omega
theorem td2 (a : Int) : ∃ d, a.tdiv 2 = d ∧ (0 ≤ a → a = 2 * d ∨ a = 2 * d + 1) ∧ (a ≤ 0 → a = 2 * d ∨ a = 2 * d - 1) := by
  obtain ⟨n, rfl | rfl⟩ := Int.eq_nat_or_neg a
  · exact ⟨((n / 2 : Nat) : Int), (Int.ofNat_tdiv n 2).symm, by omega, by omega⟩
  · refine ⟨-((n / 2 : Nat) : Int), ?_, by omega, by omega⟩
    rw [Int.neg_tdiv]
    exact congrArg (fun z => -z) (Int.ofNat_tdiv n 2).symm
theorem par_m (x : Int32) : x - x / 2 * 2 = 0 ↔ x.toInt % 2 = 0 := by
  have hb := x.toInt_lt
  have hb2 := x.le_toInt
  obtain ⟨d, hd, d1, d2⟩ := td2 x.toInt
  have e1 : x / 2 = Int32.ofInt d := by
    rw [← Int32.toInt_inj, Int32.toInt_div_of_ne_right _ _ (by decide)]
    rw [Int32.toInt_ofInt_of_le]
    · exact hd
    · omega
    · omega
  have e2 : x - x / 2 * 2 = Int32.ofInt (x.toInt - d * 2) := by
    rw [e1, Int32.ofInt_sub, Int32.ofInt_mul, Int32.ofInt_toInt]
    rfl
  rw [e2, ← Int32.toInt_inj, Int32.toInt_ofInt_of_le (by omega) (by omega), z_toInt]
  omega
