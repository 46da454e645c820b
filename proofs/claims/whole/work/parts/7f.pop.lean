theorem bs_64 (n : Nat) : bs 64 n = bs 8 (n % 256) + bs 8 (n / 256 % 256) + bs 8 (n / 256 / 256 % 256) + bs 8 (n / 256 / 256 / 256 % 256) + bs 8 (n / 256 / 256 / 256 / 256 % 256) + bs 8 (n / 256 / 256 / 256 / 256 / 256 % 256) + bs 8 (n / 256 / 256 / 256 / 256 / 256 / 256 % 256) + bs 8 (n / 256 / 256 / 256 / 256 / 256 / 256 / 256 % 256) := by
  have e := bs_8 56 n
  rw [bs_8 48 (n / 256), bs_8 40 (n / 256 / 256), bs_8 32 (n / 256 / 256 / 256), bs_8 24 (n / 256 / 256 / 256 / 256), bs_8 16 (n / 256 / 256 / 256 / 256 / 256), bs_8 8 (n / 256 / 256 / 256 / 256 / 256 / 256), bs_mod8 (n / 256 / 256 / 256 / 256 / 256 / 256 / 256)] at e
  refine e.trans ?_
  simp only [Nat.add_assoc]
theorem pop_sp (v : Int64) (S : gSt) : f_J13_bitCount_95d88 v S = some (nI (cnt (b6 v) 64), S) := by
  obtain ⟨n, hn, rfl⟩ := wb_of v
  have hc : cnt (b6 (lN n)) 64 = bs 64 n := by
    rw [← cnt_bs]
    exact cnt_congr _ (fun i hi => b6_nat hi)
  unfold f_J13_bitCount_95d88
  have s1 := fun (m : Nat) (h : m < 2 ^ 64) => wb_shr (k := 1) h (by decide)
  have s2 := fun (m : Nat) (h : m < 2 ^ 64) => wb_shr (k := 2) h (by decide)
  have s4 := fun (m : Nat) (h : m < 2 ^ 64) => wb_shr (k := 4) h (by decide)
  have s8 := fun (m : Nat) (h : m < 2 ^ 64) => wb_shr (k := 8) h (by decide)
  have s16 := fun (m : Nat) (h : m < 2 ^ 64) => wb_shr (k := 16) h (by decide)
  have s32 := fun (m : Nat) (h : m < 2 ^ 64) => wb_shr (k := 32) h (by decide)
  have s1 : ∀ m, m < 2 ^ 64 → ((lN m).toUInt64 >>> ((1 : Int32).toInt64.toUInt64 &&& Int64.toUInt64 63)).toInt64 = lN (m / 2) := s1
  have s2 : ∀ m, m < 2 ^ 64 → ((lN m).toUInt64 >>> ((2 : Int32).toInt64.toUInt64 &&& Int64.toUInt64 63)).toInt64 = lN (m / 4) := s2
  have s4 : ∀ m, m < 2 ^ 64 → ((lN m).toUInt64 >>> ((4 : Int32).toInt64.toUInt64 &&& Int64.toUInt64 63)).toInt64 = lN (m / 16) := s4
  have s8 : ∀ m, m < 2 ^ 64 → ((lN m).toUInt64 >>> ((8 : Int32).toInt64.toUInt64 &&& Int64.toUInt64 63)).toInt64 = lN (m / 256) := s8
  have s16 : ∀ m, m < 2 ^ 64 → ((lN m).toUInt64 >>> ((16 : Int32).toInt64.toUInt64 &&& Int64.toUInt64 63)).toInt64 = lN (m / 65536) := s16
  have s32 : ∀ m, m < 2 ^ 64 → ((lN m).toUInt64 >>> ((32 : Int32).toInt64.toUInt64 &&& Int64.toUInt64 63)).toInt64 = lN (m / 4294967296) := s32
  have kA : (6148914691236517205 : Int64) = lN (mA 8) := rfl
  have kB : (3689348814741910323 : Int64) = lN (mB 8) := rfl
  have kC : (1085102592571150095 : Int64) = lN (mC 8) := rfl
  have vB : mB 8 = 3689348814741910323 := by decide
  have vC : mC 8 = 1085102592571150095 := by decide
  have l1 : (n / 2) &&& mA 8 ≤ n / 2 := Nat.and_le_left
  have l2 : p1 8 n &&& mB 8 ≤ mB 8 := Nat.and_le_right
  have l3 : (p1 8 n / 4) &&& mB 8 ≤ mB 8 := Nat.and_le_right
  have l4 : p3 8 n ≤ mC 8 := Nat.and_le_right
  have x1 : p1 8 n < 2 ^ 64 := Nat.lt_of_le_of_lt (Nat.sub_le _ _) hn
  have x2 : p2 8 n < 2 ^ 64 := Nat.lt_of_le_of_lt (Nat.add_le_add l2 l3) (by rw [vB]; decide)
  rw [gls, gls, gls, gls, gls, gls, s1 n hn, kA, kB, kC, fb_andL, lN_sub (Nat.le_trans l1 (Nat.div_le_self _ _))]
  show some ((((_ : Int64)).toInt32) &&& (127 : Int32), S) = _
  have hv1 : n - ((n / 2) &&& mA 8) = p1 8 n := rfl
  rw [hv1, s2 _ x1, fb_andL, fb_andL, lN_add]
  have hv2 : (p1 8 n &&& mB 8) + ((p1 8 n / 4) &&& mB 8) = p2 8 n := rfl
  rw [hv2, s4 _ x2, lN_add, fb_andL]
  have hv3 : (p2 8 n + p2 8 n / 16) &&& mC 8 = p3 8 n := rfl
  rw [hv3]
  obtain ⟨v3, e3⟩ : ∃ x, x = p3 8 n := ⟨_, rfl⟩
  obtain ⟨v4, e4⟩ : ∃ x, x = v3 + v3 / 256 := ⟨_, rfl⟩
  obtain ⟨v5, e5⟩ : ∃ x, x = v4 + v4 / 65536 := ⟨_, rfl⟩
  obtain ⟨v6, e6⟩ : ∃ x, x = v5 + v5 / 4294967296 := ⟨_, rfl⟩
  have b8 : ∀ m, bs 8 (m % 256) ≤ 8 := fun m => bs8_le _ (Nat.mod_lt _ (by decide))
  have e3' : v3 = bs 8 (n % 256) + 256 * (bs 8 (n / 256 % 256) + 256 * (bs 8 (n / 256 / 256 % 256) + 256 * (bs 8 (n / 256 / 256 / 256 % 256) + 256 * (bs 8 (n / 256 / 256 / 256 / 256 % 256) + 256 * (bs 8 (n / 256 / 256 / 256 / 256 / 256 % 256) + 256 * (bs 8 (n / 256 / 256 / 256 / 256 / 256 / 256 % 256) + 256 * bs 8 (n / 256 / 256 / 256 / 256 / 256 / 256 / 256 % 256))))))) := by
    rw [e3, p3_s, p3_s, p3_s, p3_s, p3_s, p3_s, p3_s, p3_s, p3_0, Nat.mul_zero, Nat.add_zero]
  obtain ⟨r1, r2, r3, r4⟩ := pop_ar (b8 _) (b8 _) (b8 _) (b8 _) (b8 _) (b8 _) (b8 _) (b8 _) e3' e4 e5 e6
  rw [← e3, s8 v3 (Nat.lt_trans r2 (by decide)), lN_add, ← e4, s16 v4 (Nat.lt_trans r3 (by decide)), lN_add, ← e5, s32 v5 (Nat.lt_trans r4 (by decide)), lN_add, ← e6, lN_i, pk_and _ 7 (by decide)]
  have hb : (nI v6).toBitVec.toNat % 2 ^ 7 = v6 % 128 := by
    show (v6 % 2 ^ 32) % 2 ^ 7 = v6 % 128
    exact Nat.mod_mod_of_dvd v6 (by decide)
  rw [hb, r1, hc]
  rw [bs_64]
