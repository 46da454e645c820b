/-! the law's cases -/
section Law
variable {nL : Nat} {xs : Nat → Int32} {m : Nat} {S : gSt}
theorem gx {k : Nat} (hL : nL ≤ 384) (hm : m + 6 ≤ nL) (hk : k < 6) : gin (nI m + nI k) nL = true := by
  rw [nI_add]
  exact gin_t (by omega) (by omega)
theorem law_176 (hL : nL ≤ 384) (hm : m + 6 ≤ nL) (hR : Rel S) : ∃ S2, f_law_j176 nL xs (nI m) S = some (.inl (nI (m + 6), S2)) ∧ Rel S2 := by
  have g1 : gin (nI m + (1 : Int32)) nL = true := gx (k := 1) hL hm (by decide)
  have g2 : gin (nI m + (2 : Int32)) nL = true := gx (k := 2) hL hm (by decide)
  have g3 : gin (nI m + (3 : Int32)) nL = true := gx (k := 3) hL hm (by decide)
  obtain ⟨r, S1, S2, a, b, c⟩ := op_walker (xs (nI m + (1 : Int32)).toNatClampNeg) (xs (nI m + (2 : Int32)).toNatClampNeg) (xs (nI m + (3 : Int32)).toNatClampNeg) S hR
  unfold f_law_j176
  simp only [g1, g2, g3, if_pos]
  rw [a, g2s, b, g2s, if_pos rfl, n_6, nI_add]
  exact ⟨S2, rfl, c⟩
theorem law_219 (hL : nL ≤ 384) (hm : m + 6 ≤ nL) (hR : Rel S) : ∃ S2, f_law_j219 nL xs (nI m) S = some (.inl (nI (m + 6), S2)) ∧ Rel S2 := by
  have g1 : gin (nI m + (1 : Int32)) nL = true := gx (k := 1) hL hm (by decide)
  have g2 : gin (nI m + (2 : Int32)) nL = true := gx (k := 2) hL hm (by decide)
  obtain ⟨r, S1, S2, a, b, c⟩ := op_ofw (xs (nI m + (1 : Int32)).toNatClampNeg) (xs (nI m + (2 : Int32)).toNatClampNeg) S hR
  unfold f_law_j219
  simp only [g1, g2, if_pos]
  rw [a, g2s, b, g2s, if_pos rfl, n_6, nI_add]
  exact ⟨S2, rfl, c⟩
theorem law_252 (hL : nL ≤ 384) (hm : m + 6 ≤ nL) (hR : Rel S) : ∃ S2, f_law_j252 nL xs (nI m) S = some (.inl (nI (m + 6), S2)) ∧ Rel S2 := by
  have g1 : gin (nI m + (1 : Int32)) nL = true := gx (k := 1) hL hm (by decide)
  have g2 : gin (nI m + (2 : Int32)) nL = true := gx (k := 2) hL hm (by decide)
  obtain ⟨r, S1, S2, a, b, c⟩ := op_isle (xs (nI m + (1 : Int32)).toNatClampNeg) (xs (nI m + (2 : Int32)).toNatClampNeg) S hR
  unfold f_law_j252
  simp only [g1, g2, if_pos]
  rw [a, g2s, b, g2s, if_pos rfl, n_6, nI_add]
  exact ⟨S2, rfl, c⟩
theorem law_285 (hL : nL ≤ 384) (hm : m + 6 ≤ nL) (hR : Rel S) : ∃ S2, f_law_j285 nL xs (nI m) S = some (.inl (nI (m + 6), S2)) ∧ Rel S2 := by
  have g1 : gin (nI m + (1 : Int32)) nL = true := gx (k := 1) hL hm (by decide)
  have g2 : gin (nI m + (2 : Int32)) nL = true := gx (k := 2) hL hm (by decide)
  obtain ⟨r, S1, S2, a, b, c⟩ := op_print (xs (nI m + (1 : Int32)).toNatClampNeg) (xs (nI m + (2 : Int32)).toNatClampNeg) S hR
  unfold f_law_j285
  simp only [g1, g2, if_pos]
  rw [a, g2s, b, g2s, if_pos rfl, n_6, nI_add]
  exact ⟨S2, rfl, c⟩
theorem law_318 (hL : nL ≤ 384) (hm : m + 6 ≤ nL) (hR : Rel S) : ∃ S2, f_law_j318 nL xs (nI m) S = some (.inl (nI (m + 6), S2)) ∧ Rel S2 := by
  have g1 : gin (nI m + (1 : Int32)) nL = true := gx (k := 1) hL hm (by decide)
  have g2 : gin (nI m + (2 : Int32)) nL = true := gx (k := 2) hL hm (by decide)
  obtain ⟨r, S1, S2, a, b, c⟩ := op_claim (xs (nI m + (1 : Int32)).toNatClampNeg) (xs (nI m + (2 : Int32)).toNatClampNeg) S hR
  unfold f_law_j318
  simp only [g1, g2, if_pos]
  rw [a, g2s, b, g2s, if_pos rfl, n_6, nI_add]
  exact ⟨S2, rfl, c⟩
theorem law_351 (hL : nL ≤ 384) (hm : m + 6 ≤ nL) (hR : Rel S) : ∃ S2, f_law_j351 nL xs (nI m) S = some (.inl (nI (m + 6), S2)) ∧ Rel S2 := by
  have g1 : gin (nI m + (1 : Int32)) nL = true := gx (k := 1) hL hm (by decide)
  obtain ⟨r, S1, S2, a, b, c⟩ := op_held (xs (nI m + (1 : Int32)).toNatClampNeg) S hR
  unfold f_law_j351
  simp only [g1, if_pos]
  rw [a, g2s, b, g2s, if_pos rfl, n_6, nI_add]
  exact ⟨S2, rfl, c⟩
theorem law_374 (hL : nL ≤ 384) (hm : m + 6 ≤ nL) (hR : Rel S) : ∃ S2, f_law_j374 nL xs (nI m) S = some (.inl (nI (m + 6), S2)) ∧ Rel S2 := by
  have g1 : gin (nI m + (1 : Int32)) nL = true := gx (k := 1) hL hm (by decide)
  obtain ⟨r, S1, S2, a, b, c⟩ := op_type (xs (nI m + (1 : Int32)).toNatClampNeg) S hR
  unfold f_law_j374
  simp only [g1, if_pos]
  rw [a, g2s, b, g2s, if_pos rfl, n_6, nI_add]
  exact ⟨S2, rfl, c⟩
theorem law_397 (hL : nL ≤ 384) (hm : m + 6 ≤ nL) (hR : Rel S) : ∃ S2, f_law_j397 nL xs (nI m) S = some (.inl (nI (m + 6), S2)) ∧ Rel S2 := by
  obtain ⟨r, S1, S2, a, b, c⟩ := op_settle  S hR
  unfold f_law_j397
  rw [a, g2s, b, g2s, if_pos rfl, n_6, nI_add]
  exact ⟨S2, rfl, c⟩
theorem law_410 (hL : nL ≤ 384) (hm : m + 6 ≤ nL) (hR : Rel S) : ∃ S2, f_law_j410 nL xs (nI m) S = some (.inl (nI (m + 6), S2)) ∧ Rel S2 := by
  have g1 : gin (nI m + (1 : Int32)) nL = true := gx (k := 1) hL hm (by decide)
  obtain ⟨r, S1, S2, a, b, c⟩ := op_count (xs (nI m + (1 : Int32)).toNatClampNeg) S hR
  unfold f_law_j410
  simp only [g1, if_pos]
  rw [a, g2s, b, g2s, if_pos rfl, n_6, nI_add]
  exact ⟨S2, rfl, c⟩
theorem law_433 (hL : nL ≤ 384) (hm : m + 6 ≤ nL) (hR : Rel S) : ∃ S2, f_law_j433 nL xs (nI m) S = some (.inl (nI (m + 6), S2)) ∧ Rel S2 := by
  have g1 : gin (nI m + (1 : Int32)) nL = true := gx (k := 1) hL hm (by decide)
  have g2 : gin (nI m + (2 : Int32)) nL = true := gx (k := 2) hL hm (by decide)
  obtain ⟨r, S1, S2, a, b, c⟩ := op_step (xs (nI m + (1 : Int32)).toNatClampNeg) (xs (nI m + (2 : Int32)).toNatClampNeg) S hR
  unfold f_law_j433
  simp only [g1, g2, if_pos]
  rw [a, g2s, b, g2s, if_pos rfl, n_6, nI_add]
  exact ⟨S2, rfl, c⟩
theorem law_466 (hL : nL ≤ 384) (hm : m + 6 ≤ nL) (hR : Rel S) : ∃ S2, f_law_j466 nL xs (nI m) S = some (.inl (nI (m + 6), S2)) ∧ Rel S2 := by
  have g1 : gin (nI m + (1 : Int32)) nL = true := gx (k := 1) hL hm (by decide)
  obtain ⟨r, S1, S2, a, b, c⟩ := op_hours (xs (nI m + (1 : Int32)).toNatClampNeg) S hR
  unfold f_law_j466
  simp only [g1, if_pos]
  rw [a, g2s, b, g2s, if_pos rfl, n_6, nI_add]
  exact ⟨S2, rfl, c⟩
theorem law_489 (hL : nL ≤ 384) (hm : m + 6 ≤ nL) (hR : Rel S) : ∃ S2, f_law_j489 nL xs (nI m) S = some (.inl (nI (m + 6), S2)) ∧ Rel S2 := by
  have g1 : gin (nI m + (1 : Int32)) nL = true := gx (k := 1) hL hm (by decide)
  obtain ⟨r, S1, S2, a, b, c⟩ := op_drift (xs (nI m + (1 : Int32)).toNatClampNeg) S hR
  unfold f_law_j489
  simp only [g1, if_pos]
  rw [a, g2s, b, g2s, if_pos rfl, n_6, nI_add]
  exact ⟨S2, rfl, c⟩
theorem law_512 (hL : nL ≤ 384) (hm : m + 6 ≤ nL) (hR : Rel S) : ∃ S2, f_law_j512 nL xs (nI m) S = some (.inl (nI (m + 6), S2)) ∧ Rel S2 := by
  have g1 : gin (nI m + (1 : Int32)) nL = true := gx (k := 1) hL hm (by decide)
  obtain ⟨r, S1, S2, a, b, c⟩ := op_rake (xs (nI m + (1 : Int32)).toNatClampNeg) S hR
  unfold f_law_j512
  simp only [g1, if_pos]
  rw [a, g2s, b, g2s, if_pos rfl, n_6, nI_add]
  exact ⟨S2, rfl, c⟩
theorem law_535 (hL : nL ≤ 384) (hm : m + 6 ≤ nL) (hR : Rel S) : ∃ S2, f_law_j535 nL xs (nI m) S = some (.inl (nI (m + 6), S2)) ∧ Rel S2 := by
  obtain ⟨r, S1, S2, a, b, c⟩ := op_undo  S hR
  unfold f_law_j535
  rw [a, g2s, b, g2s, if_pos rfl, n_6, nI_add]
  exact ⟨S2, rfl, c⟩
theorem law_548 (hL : nL ≤ 384) (hm : m + 6 ≤ nL) (hR : Rel S) : ∃ S2, f_law_j548 nL xs (nI m) S = some (.inl (nI (m + 6), S2)) ∧ Rel S2 := by
  have g1 : gin (nI m + (1 : Int32)) nL = true := gx (k := 1) hL hm (by decide)
  obtain ⟨r, S1, S2, a, b, c⟩ := op_seed (xs (nI m + (1 : Int32)).toNatClampNeg) S hR
  unfold f_law_j548
  simp only [g1, if_pos]
  rw [a, g2s, b, g2s, if_pos rfl, n_6, nI_add]
  exact ⟨S2, rfl, c⟩
theorem law_571 (hL : nL ≤ 384) (hm : m + 6 ≤ nL) (hR : Rel S) : ∃ S2, f_law_j571 nL xs (nI m) S = some (.inl (nI (m + 6), S2)) ∧ Rel S2 := by
  have g1 : gin (nI m + (1 : Int32)) nL = true := gx (k := 1) hL hm (by decide)
  have g2 : gin (nI m + (2 : Int32)) nL = true := gx (k := 2) hL hm (by decide)
  obtain ⟨r, S1, S2, a, b, c⟩ := op_ahead (xs (nI m + (1 : Int32)).toNatClampNeg) (xs (nI m + (2 : Int32)).toNatClampNeg) S hR
  unfold f_law_j571
  simp only [g1, g2, if_pos]
  rw [a, g2s, b, g2s, if_pos rfl, n_6, nI_add]
  exact ⟨S2, rfl, c⟩
theorem law_604 (hL : nL ≤ 384) (hm : m + 6 ≤ nL) (hR : Rel S) : ∃ S2, f_law_j604 nL xs (nI m) S = some (.inl (nI (m + 6), S2)) ∧ Rel S2 := by
  have g1 : gin (nI m + (1 : Int32)) nL = true := gx (k := 1) hL hm (by decide)
  have g2 : gin (nI m + (2 : Int32)) nL = true := gx (k := 2) hL hm (by decide)
  obtain ⟨r, S1, S2, a, b, c⟩ := op_land (xs (nI m + (1 : Int32)).toNatClampNeg) (xs (nI m + (2 : Int32)).toNatClampNeg) S hR
  unfold f_law_j604
  simp only [g1, g2, if_pos]
  rw [a, g2s, b, g2s, if_pos rfl, n_6, nI_add]
  exact ⟨S2, rfl, c⟩
theorem law_637 (hL : nL ≤ 384) (hm : m + 6 ≤ nL) (hR : Rel S) : ∃ S2, f_law_j637 nL xs (nI m) S = some (.inl (nI (m + 6), S2)) ∧ Rel S2 := by
  have g1 : gin (nI m + (1 : Int32)) nL = true := gx (k := 1) hL hm (by decide)
  have g2 : gin (nI m + (2 : Int32)) nL = true := gx (k := 2) hL hm (by decide)
  obtain ⟨r, S1, S2, a, b, c⟩ := op_lasts (xs (nI m + (1 : Int32)).toNatClampNeg) (xs (nI m + (2 : Int32)).toNatClampNeg) S hR
  unfold f_law_j637
  simp only [g1, g2, if_pos]
  rw [a, g2s, b, g2s, if_pos rfl, n_6, nI_add]
  exact ⟨S2, rfl, c⟩
theorem law_670 (hL : nL ≤ 384) (hm : m + 6 ≤ nL) (hR : Rel S) : ∃ S2, f_law_j670 nL xs (nI m) S = some (.inl (nI (m + 6), S2)) ∧ Rel S2 := by
  have g1 : gin (nI m + (1 : Int32)) nL = true := gx (k := 1) hL hm (by decide)
  obtain ⟨r, S1, S2, a, b, c⟩ := op_county (xs (nI m + (1 : Int32)).toNatClampNeg) S hR
  unfold f_law_j670
  simp only [g1, if_pos]
  rw [a, g2s, b, g2s, if_pos rfl, n_6, nI_add]
  exact ⟨S2, rfl, c⟩
theorem law_693 (hL : nL ≤ 384) (hm : m + 6 ≤ nL) (hR : Rel S) : ∃ S2, f_law_j693 nL xs (nI m) S = some (.inl (nI (m + 6), S2)) ∧ Rel S2 := by
  have g1 : gin (nI m + (1 : Int32)) nL = true := gx (k := 1) hL hm (by decide)
  have g2 : gin (nI m + (2 : Int32)) nL = true := gx (k := 2) hL hm (by decide)
  have g3 : gin (nI m + (3 : Int32)) nL = true := gx (k := 3) hL hm (by decide)
  obtain ⟨r, S1, S2, a, b, c⟩ := op_way (xs (nI m + (1 : Int32)).toNatClampNeg) (xs (nI m + (2 : Int32)).toNatClampNeg) (xs (nI m + (3 : Int32)).toNatClampNeg) S hR
  unfold f_law_j693
  simp only [g1, g2, g3, if_pos]
  rw [a, g2s, b, g2s, if_pos rfl, n_6, nI_add]
  exact ⟨S2, rfl, c⟩
theorem law_736 (hL : nL ≤ 384) (hm : m + 6 ≤ nL) (hR : Rel S) : ∃ S2, f_law_j736 nL xs (nI m) S = some (.inl (nI (m + 6), S2)) ∧ Rel S2 := by
  have g1 : gin (nI m + (1 : Int32)) nL = true := gx (k := 1) hL hm (by decide)
  have g2 : gin (nI m + (2 : Int32)) nL = true := gx (k := 2) hL hm (by decide)
  have g3 : gin (nI m + (3 : Int32)) nL = true := gx (k := 3) hL hm (by decide)
  have g4 : gin (nI m + (4 : Int32)) nL = true := gx (k := 4) hL hm (by decide)
  obtain ⟨r, S1, S2, a, b, c⟩ := op_walk (xs (nI m + (1 : Int32)).toNatClampNeg) (xs (nI m + (2 : Int32)).toNatClampNeg) (xs (nI m + (3 : Int32)).toNatClampNeg) (xs (nI m + (4 : Int32)).toNatClampNeg) S hR
  unfold f_law_j736
  simp only [g1, g2, g3, g4, if_pos]
  rw [a, g2s, b, g2s, if_pos rfl, n_6, nI_add]
  exact ⟨S2, rfl, c⟩
theorem law_789 (hL : nL ≤ 384) (hm : m + 6 ≤ nL) (hR : Rel S) : ∃ S2, f_law_j789 nL xs (nI m) S = some (.inl (nI (m + 6), S2)) ∧ Rel S2 := by
  have g1 : gin (nI m + (1 : Int32)) nL = true := gx (k := 1) hL hm (by decide)
  have g2 : gin (nI m + (2 : Int32)) nL = true := gx (k := 2) hL hm (by decide)
  have g3 : gin (nI m + (3 : Int32)) nL = true := gx (k := 3) hL hm (by decide)
  obtain ⟨r, S1, S2, a, b, c⟩ := op_well (xs (nI m + (1 : Int32)).toNatClampNeg) (xs (nI m + (2 : Int32)).toNatClampNeg) (xs (nI m + (3 : Int32)).toNatClampNeg) S hR
  unfold f_law_j789
  simp only [g1, g2, g3, if_pos]
  rw [a, g2s, b, g2s, if_pos rfl, n_6, nI_add]
  exact ⟨S2, rfl, c⟩
theorem law_832 (hL : nL ≤ 384) (hm : m + 6 ≤ nL) (hR : Rel S) : ∃ S2, f_law_j832 nL xs (nI m) S = some (.inl (nI (m + 6), S2)) ∧ Rel S2 := by
  have g1 : gin (nI m + (1 : Int32)) nL = true := gx (k := 1) hL hm (by decide)
  have g2 : gin (nI m + (2 : Int32)) nL = true := gx (k := 2) hL hm (by decide)
  have g3 : gin (nI m + (3 : Int32)) nL = true := gx (k := 3) hL hm (by decide)
  have g4 : gin (nI m + (4 : Int32)) nL = true := gx (k := 4) hL hm (by decide)
  obtain ⟨r, S1, S2, a, b, c⟩ := op_crabs (xs (nI m + (1 : Int32)).toNatClampNeg) (xs (nI m + (2 : Int32)).toNatClampNeg) (xs (nI m + (3 : Int32)).toNatClampNeg) (xs (nI m + (4 : Int32)).toNatClampNeg) S hR
  unfold f_law_j832
  simp only [g1, g2, g3, g4, if_pos]
  rw [a, g2s, b, g2s, if_pos rfl, n_6, nI_add]
  exact ⟨S2, rfl, c⟩
theorem law_885 (hL : nL ≤ 384) (hm : m + 6 ≤ nL) (hR : Rel S) : ∃ S2, f_law_j885 nL xs (nI m) S = some (.inl (nI (m + 6), S2)) ∧ Rel S2 := by
  obtain ⟨r, S1, S2, a, b, c⟩ := op_image  S hR
  unfold f_law_j885
  rw [a, g2s, b, g2s, if_pos rfl, n_6, nI_add]
  exact ⟨S2, rfl, c⟩
theorem law_898 (hL : nL ≤ 384) (hm : m + 6 ≤ nL) (hR : Rel S) : ∃ S2, f_law_j898 nL xs (nI m) S = some (.inl (nI (m + 6), S2)) ∧ Rel S2 := by
  obtain ⟨r, S1, S2, a, b, c⟩ := op_restore  S hR
  unfold f_law_j898
  rw [a, g2s, b, g2s, if_pos rfl, n_6, nI_add]
  exact ⟨S2, rfl, c⟩
theorem law_911 (hL : nL ≤ 384) (hm : m + 6 ≤ nL) (hR : Rel S) : ∃ S2, f_law_j911 nL xs (nI m) S = some (.inl (nI (m + 6), S2)) ∧ Rel S2 := by
  have g1 : gin (nI m + (1 : Int32)) nL = true := gx (k := 1) hL hm (by decide)
  have g2 : gin (nI m + (2 : Int32)) nL = true := gx (k := 2) hL hm (by decide)
  have g3 : gin (nI m + (3 : Int32)) nL = true := gx (k := 3) hL hm (by decide)
  have g4 : gin (nI m + (4 : Int32)) nL = true := gx (k := 4) hL hm (by decide)
  obtain ⟨r, S1, S2, a, b, c⟩ := op_raked (xs (nI m + (1 : Int32)).toNatClampNeg) (xs (nI m + (2 : Int32)).toNatClampNeg) (xs (nI m + (3 : Int32)).toNatClampNeg) (xs (nI m + (4 : Int32)).toNatClampNeg) S hR
  unfold f_law_j911
  simp only [g1, g2, g3, g4, if_pos]
  rw [a, g2s, b, g2s, if_pos rfl, n_6, nI_add]
  exact ⟨S2, rfl, c⟩
theorem law_964 (hL : nL ≤ 384) (hm : m + 6 ≤ nL) (hR : Rel S) : ∃ S2, f_law_j964 nL xs (nI m) S = some (.inl (nI (m + 6), S2)) ∧ Rel S2 := by
  have g1 : gin (nI m + (1 : Int32)) nL = true := gx (k := 1) hL hm (by decide)
  have g2 : gin (nI m + (2 : Int32)) nL = true := gx (k := 2) hL hm (by decide)
  have g3 : gin (nI m + (3 : Int32)) nL = true := gx (k := 3) hL hm (by decide)
  have g4 : gin (nI m + (4 : Int32)) nL = true := gx (k := 4) hL hm (by decide)
  obtain ⟨r, S1, S2, a, b, c⟩ := op_shoes (xs (nI m + (1 : Int32)).toNatClampNeg) (xs (nI m + (2 : Int32)).toNatClampNeg) (xs (nI m + (3 : Int32)).toNatClampNeg) (xs (nI m + (4 : Int32)).toNatClampNeg) S hR
  unfold f_law_j964
  simp only [g1, g2, g3, g4, if_pos]
  rw [a, g2s, b, g2s, if_pos rfl, n_6, nI_add]
  exact ⟨S2, rfl, c⟩
theorem law_1017 (hL : nL ≤ 384) (hm : m + 6 ≤ nL) (hR : Rel S) : ∃ S2, f_law_j1017 nL xs (nI m) S = some (.inl (nI (m + 6), S2)) ∧ Rel S2 := by
  have g1 : gin (nI m + (1 : Int32)) nL = true := gx (k := 1) hL hm (by decide)
  have g2 : gin (nI m + (2 : Int32)) nL = true := gx (k := 2) hL hm (by decide)
  have g3 : gin (nI m + (3 : Int32)) nL = true := gx (k := 3) hL hm (by decide)
  have g4 : gin (nI m + (4 : Int32)) nL = true := gx (k := 4) hL hm (by decide)
  have g5 : gin (nI m + (5 : Int32)) nL = true := gx (k := 5) hL hm (by decide)
  obtain ⟨r, S1, S2, a, b, c⟩ := op_film (xs (nI m + (1 : Int32)).toNatClampNeg) (xs (nI m + (2 : Int32)).toNatClampNeg) (xs (nI m + (3 : Int32)).toNatClampNeg) (xs (nI m + (4 : Int32)).toNatClampNeg) (xs (nI m + (5 : Int32)).toNatClampNeg) S hR
  unfold f_law_j1017
  simp only [g1, g2, g3, g4, g5, if_pos]
  rw [a, g2s, b, g2s, if_pos rfl, n_6, nI_add]
  exact ⟨S2, rfl, c⟩
theorem law_1080 (hL : nL ≤ 384) (hm : m + 6 ≤ nL) (hR : Rel S) : ∃ S2, f_law_j1080 nL xs (nI m) S = some (.inl (nI (m + 6), S2)) ∧ Rel S2 := by
  have g1 : gin (nI m + (1 : Int32)) nL = true := gx (k := 1) hL hm (by decide)
  have g2 : gin (nI m + (2 : Int32)) nL = true := gx (k := 2) hL hm (by decide)
  have g3 : gin (nI m + (3 : Int32)) nL = true := gx (k := 3) hL hm (by decide)
  obtain ⟨r, S1, S2, a, b, c⟩ := op_sheet (xs (nI m + (1 : Int32)).toNatClampNeg) (xs (nI m + (2 : Int32)).toNatClampNeg) (xs (nI m + (3 : Int32)).toNatClampNeg) S hR
  unfold f_law_j1080
  simp only [g1, g2, g3, if_pos]
  rw [a, g2s, b, g2s, if_pos rfl, n_6, nI_add]
  exact ⟨S2, rfl, c⟩
theorem law_1123 (hL : nL ≤ 384) (hm : m + 6 ≤ nL) (hR : Rel S) : ∃ S2, f_law_j1123 nL xs (nI m) S = some (.inl (nI (m + 6), S2)) ∧ Rel S2 := by
  have g1 : gin (nI m + (1 : Int32)) nL = true := gx (k := 1) hL hm (by decide)
  obtain ⟨r, S1, S2, a, b, c⟩ := op_drop (xs (nI m + (1 : Int32)).toNatClampNeg) S hR
  unfold f_law_j1123
  simp only [g1, if_pos]
  rw [a, g2s, b, g2s, if_pos rfl, n_6, nI_add]
  exact ⟨S2, rfl, c⟩
theorem law_1146 (hL : nL ≤ 384) (hm : m + 6 ≤ nL) (hR : Rel S) : ∃ S2, f_law_j1146 nL xs (nI m) S = some (.inl (nI (m + 6), S2)) ∧ Rel S2 := by
  have g1 : gin (nI m + (1 : Int32)) nL = true := gx (k := 1) hL hm (by decide)
  have g2 : gin (nI m + (2 : Int32)) nL = true := gx (k := 2) hL hm (by decide)
  have g3 : gin (nI m + (3 : Int32)) nL = true := gx (k := 3) hL hm (by decide)
  have g4 : gin (nI m + (4 : Int32)) nL = true := gx (k := 4) hL hm (by decide)
  have g5 : gin (nI m + (5 : Int32)) nL = true := gx (k := 5) hL hm (by decide)
  obtain ⟨r, S1, S2, a, b, c⟩ := op_item (xs (nI m + (1 : Int32)).toNatClampNeg) (xs (nI m + (2 : Int32)).toNatClampNeg) (xs (nI m + (3 : Int32)).toNatClampNeg) ((((xs (nI m + (4 : Int32)).toNatClampNeg).toInt64) <<< ((32 : Int32).toInt64 &&& 63)) ||| (((xs (nI m + (5 : Int32)).toNatClampNeg).toInt64) &&& (4294967295 : Int64))) S hR
  unfold f_law_j1146
  simp only [g1, g2, g3, g4, g5, if_pos]
  rw [a, g2s, b, g2s, if_pos rfl, n_6, nI_add]
  exact ⟨S2, rfl, c⟩
theorem law_1229 (hL : nL ≤ 384) (hm : m + 6 ≤ nL) (hR : Rel S) : ∃ S2, f_law_j1229 nL xs (nI m) S = some (.inl (nI (m + 6), S2)) ∧ Rel S2 := by
  have g1 : gin (nI m + (1 : Int32)) nL = true := gx (k := 1) hL hm (by decide)
  have g2 : gin (nI m + (2 : Int32)) nL = true := gx (k := 2) hL hm (by decide)
  have g3 : gin (nI m + (3 : Int32)) nL = true := gx (k := 3) hL hm (by decide)
  have g4 : gin (nI m + (4 : Int32)) nL = true := gx (k := 4) hL hm (by decide)
  have g5 : gin (nI m + (5 : Int32)) nL = true := gx (k := 5) hL hm (by decide)
  obtain ⟨r, S1, S2, a, b, c⟩ := op_copy (xs (nI m + (1 : Int32)).toNatClampNeg) (xs (nI m + (2 : Int32)).toNatClampNeg) (xs (nI m + (3 : Int32)).toNatClampNeg) (xs (nI m + (4 : Int32)).toNatClampNeg) (xs (nI m + (5 : Int32)).toNatClampNeg) S hR
  unfold f_law_j1229
  simp only [g1, g2, g3, g4, g5, if_pos]
  rw [a, g2s, b, g2s, if_pos rfl, n_6, nI_add]
  exact ⟨S2, rfl, c⟩
end Law
