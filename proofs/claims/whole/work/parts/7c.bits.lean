/-! bits of longs (the first rows began as the kit's rows on bits, to paste) -/
theorem wb_tb (n : Nat) : (lN n).toBitVec = BitVec.ofNat 64 n := rfl
theorem wb_inj {a b : Int64} (h : a.toBitVec = b.toBitVec) : a = b := Int64.toBitVec_inj.mp h
theorem wb_tn {n : Nat} (h : n < 2 ^ 64) : (lN n).toBitVec.toNat = n := by rw [wb_tb, BitVec.toNat_ofNat, Nat.mod_eq_of_lt h]
theorem wb_of (x : Int64) : ∃ n, n < 2 ^ 64 ∧ x = lN n := ⟨x.toBitVec.toNat, x.toBitVec.isLt, wb_inj (by rw [wb_tb]; simp)⟩
theorem wb_cu : ∀ k, k < 64 → ((nI k).toInt64.toUInt64 &&& Int64.toUInt64 63) = UInt64.ofNat k := by decide +kernel
theorem wb_shr {n k : Nat} (hn : n < 2 ^ 64) (hk : k < 64) : ((lN n).toUInt64 >>> ((nI k).toInt64.toUInt64 &&& Int64.toUInt64 63)).toInt64 = lN (n / 2 ^ k) := by
  rw [wb_cu k hk]
  apply wb_inj
  apply BitVec.eq_of_toNat_eq
  show ((lN n).toUInt64 >>> UInt64.ofNat k).toNat = (BitVec.ofNat 64 _).toNat
  have h1 : (UInt64.ofNat k).toNat = k := by
    show (BitVec.ofNat 64 k).toNat = k
    rw [BitVec.toNat_ofNat, Nat.mod_eq_of_lt (by omega)]
  have h2 : (lN n).toUInt64.toNat = n := wb_tn hn
  rw [UInt64.toNat_shiftRight, h1, h2, Nat.mod_eq_of_lt hk, Nat.shiftRight_eq_div_pow, BitVec.toNat_ofNat, Nat.mod_eq_of_lt (Nat.lt_of_le_of_lt (Nat.div_le_self _ _) hn)]
theorem fb_andL (a b : Nat) : lN a &&& lN b = lN (a &&& b) := by
  apply Int64.toBitVec_inj.1
  show BitVec.ofNat 64 a &&& BitVec.ofNat 64 b = BitVec.ofNat 64 (a &&& b)
  apply BitVec.eq_of_getLsbD_eq
  intro i hi
  simp [hi]
def b6 (x : Int64) (i : Nat) : Bool := x.toBitVec.getLsbD i
theorem b6_ext {x y : Int64} (h : ∀ i, i < 64 → b6 x i = b6 y i) : x = y := Int64.toBitVec_inj.mp (BitVec.eq_of_getLsbD_eq (fun i hi => h i hi))
theorem b6_or (x y : Int64) (i : Nat) : b6 (x ||| y) i = (b6 x i || b6 y i) := by unfold b6; rw [Int64.toBitVec_or, BitVec.getLsbD_or]
theorem b6_and (x y : Int64) (i : Nat) : b6 (x &&& y) i = (b6 x i && b6 y i) := by unfold b6; rw [Int64.toBitVec_and, BitVec.getLsbD_and]
theorem b6_xor (x y : Int64) (i : Nat) : b6 (x ^^^ y) i = (b6 x i ^^ b6 y i) := by unfold b6; rw [Int64.toBitVec_xor, BitVec.getLsbD_xor]
theorem b6_big {x : Int64} {i : Nat} (h : 64 ≤ i) : b6 x i = false := BitVec.getLsbD_of_ge _ _ h
theorem b6_lt {x : Int64} {i : Nat} (h : b6 x i = true) : i < 64 := by
  by_cases hi : i < 64
  · exact hi
  · rw [b6_big (by omega)] at h; cases h
theorem b6_0 (i : Nat) : b6 0 i = false := BitVec.getLsbD_zero
theorem b6_m1 : ∀ i, i < 64 → b6 (-1) i = true := by decide +kernel
theorem b6_nat {n : Nat} {i : Nat} (hi : i < 64) : b6 (lN n) i = n.testBit i := by
  show (BitVec.ofNat 64 n).getLsbD i = n.testBit i
  rw [BitVec.getLsbD_ofNat]
  simp [hi]
theorem s6_l : ∀ n, n < 64 → (((nI n).toInt64 &&& 63).toBitVec.smod 64).toNat = n := by decide +kernel
theorem s6_u : ∀ n, n < 64 → (((nI n).toInt64.toUInt64 &&& Int64.toUInt64 63).toBitVec % 64).toNat = n := by decide +kernel
theorem b6_shl (n : Nat) (hn : n < 64) (x : Int64) {i : Nat} (hi : i < 64) : b6 (x <<< ((nI n).toInt64 &&& 63)) i = (decide (n ≤ i) && b6 x (i - n)) := by
  unfold b6
  rw [Int64.toBitVec_shiftLeft]
  show (x.toBitVec <<< (((nI n).toInt64 &&& 63).toBitVec.smod 64).toNat).getLsbD i = _
  rw [s6_l n hn, BitVec.getLsbD_shiftLeft]
  rcases Nat.lt_or_ge i n with h | h
  · simp [h, Nat.not_le.mpr h]
  · simp [hi, h, Nat.not_lt.mpr h]
theorem b6_ushr (n : Nat) (hn : n < 64) (x : Int64) (i : Nat) : b6 ((x.toUInt64 >>> ((nI n).toInt64.toUInt64 &&& Int64.toUInt64 63)).toInt64) i = b6 x (n + i) := by
  show (x.toUInt64 >>> ((nI n).toInt64.toUInt64 &&& Int64.toUInt64 63)).toBitVec.getLsbD i = x.toUInt64.toBitVec.getLsbD (n + i)
  rw [UInt64.toBitVec_shiftRight]
  show (x.toUInt64.toBitVec >>> (((nI n).toInt64.toUInt64 &&& Int64.toUInt64 63).toBitVec % 64).toNat).getLsbD i = _
  rw [s6_u n hn, BitVec.getLsbD_ushiftRight]
theorem b6_one {c i : Nat} (hc : c < 64) (hi : i < 64) : b6 ((1 : Int64) <<< ((nI c).toInt64 &&& 63)) i = decide (i = c) := by
  rw [b6_shl c hc _ hi]
  by_cases h : c ≤ i
  · rw [decide_eq_true h, Bool.true_and, show (1 : Int64) = lN 1 from rfl, b6_nat (by omega)]
    by_cases e : i = c
    · rw [decide_eq_true e, e, Nat.sub_self]; rfl
    · rw [decide_eq_false e]
      obtain ⟨m, hm⟩ : ∃ m, i - c = m + 1 := ⟨i - c - 1, by omega⟩
      rw [hm, Nat.testBit_succ]
      show Nat.testBit 0 m = false
      exact Nat.zero_testBit m
  · rw [decide_eq_false h, decide_eq_false (by omega)]; rfl
