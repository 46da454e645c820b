theorem dvl {x M : Nat} (y : Nat) (h : x < M) : (x + M * y) / M = y := by
  rw [Nat.add_mul_div_left _ _ (by omega), Nat.div_eq_of_lt h, Nat.zero_add]
theorem ar1 (a b c d e : Nat) : a + 256 * (b + 256 * (c + 256 * (d + 256 * e))) = (a + 256 * b + 65536 * c + 16777216 * d) + 4294967296 * e := by omega
theorem ar2 (x0 x1 x2 x3 y0 y1 y2 y3 z0 z1 z2 z3 u0 u1 u2 u3 t4 t5 t6 a7 : Nat) : (x0 + 256 * x1 + 65536 * x2 + 16777216 * x3) + 4294967296 * t4 + ((y0 + 256 * y1 + 65536 * y2 + 16777216 * y3) + 4294967296 * t5) + (((z0 + 256 * z1 + 65536 * z2 + 16777216 * z3) + 4294967296 * t6) + ((u0 + 256 * u1 + 65536 * u2 + 16777216 * u3) + 4294967296 * a7)) = ((x0 + y0 + z0 + u0) + 256 * (x1 + y1 + z1 + u1) + 65536 * (x2 + y2 + z2 + u2) + 16777216 * (x3 + y3 + z3 + u3)) + 4294967296 * (t4 + t5 + t6 + a7) := by omega
theorem ar3 (a0 a1 a2 a3 a4 a5 a6 a7 t1 t2 t3 t4 t5 t6 : Nat) : a0 + 256 * t1 + (a1 + 256 * t2) + ((a2 + 256 * t3) + (a3 + 256 * t4)) + ((a4 + 256 * t5) + (a5 + 256 * t6) + (a6 + 256 * a7) + a7) = (a0 + a1 + a2 + a3 + a4 + a5 + a6 + a7) + 128 * (2 * (t1 + t2 + t3 + t4 + t5 + t6 + a7)) := by omega
theorem ar4 {a t B B' : Nat} (ha : a ≤ 8) (ht : t ≤ B) (e : 8 + 256 * B = B') : a + 256 * t ≤ B' := by omega
theorem ar5 {a b c d : Nat} (ha : a ≤ 32) (hb : b ≤ 32) (hc : c ≤ 32) (hd : d ≤ 32) : a + 256 * b + 65536 * c + 16777216 * d < 4294967296 := by omega
theorem ar6 {a b c d : Nat} (ha : a ≤ 8) (hb : b ≤ 8) (hc : c ≤ 8) (hd : d ≤ 8) : a + b + c + d ≤ 32 := by omega
theorem ar7 {a b c : Nat} (ha : a ≤ 8) (hb : b ≤ 8) (hc : c ≤ 8) : a + b + 256 * (b + c) < 65536 := by omega
theorem ar8 (a0 a1 a2 t2 t3 : Nat) (h : t2 = a2 + 256 * t3) : a0 + 256 * (a1 + 256 * t2) + (a1 + 256 * t2) = (a0 + a1 + 256 * (a1 + a2)) + 65536 * (t2 + t3) := by omega
theorem ar9 {v3 t1 t2 t3 : Nat} (h0 : v3 ≤ 578721382704613384) (h1 : t1 ≤ 2260630401189896) (h2 : t2 ≤ 8830587504648) (h3 : t3 ≤ 34494482440) : v3 < 2 ^ 62 ∧ v3 + t1 < 2 ^ 62 ∧ v3 + t1 + (t2 + t3) < 2 ^ 62 := by omega
theorem pop_ar {a0 a1 a2 a3 a4 a5 a6 a7 : Nat} (h0 : a0 ≤ 8) (h1 : a1 ≤ 8) (h2 : a2 ≤ 8) (h3 : a3 ≤ 8) (h4 : a4 ≤ 8) (h5 : a5 ≤ 8) (h6 : a6 ≤ 8) (h7 : a7 ≤ 8) {v3 v4 v5 v6 : Nat} (e3 : v3 = a0 + 256 * (a1 + 256 * (a2 + 256 * (a3 + 256 * (a4 + 256 * (a5 + 256 * (a6 + 256 * a7))))))) (e4 : v4 = v3 + v3 / 256) (e5 : v5 = v4 + v4 / 65536) (e6 : v6 = v5 + v5 / 4294967296) : v6 % 128 = a0 + a1 + a2 + a3 + a4 + a5 + a6 + a7 ∧ v3 < 2 ^ 62 ∧ v4 < 2 ^ 62 ∧ v5 < 2 ^ 62 := by
  obtain ⟨t6, k6⟩ : ∃ t, t = a6 + 256 * a7 := ⟨_, rfl⟩
  rw [← k6] at e3
  obtain ⟨t5, k5⟩ : ∃ t, t = a5 + 256 * t6 := ⟨_, rfl⟩
  rw [← k5] at e3
  obtain ⟨t4, k4⟩ : ∃ t, t = a4 + 256 * t5 := ⟨_, rfl⟩
  rw [← k4] at e3
  obtain ⟨t3, k3⟩ : ∃ t, t = a3 + 256 * t4 := ⟨_, rfl⟩
  rw [← k3] at e3
  obtain ⟨t2, k2⟩ : ∃ t, t = a2 + 256 * t3 := ⟨_, rfl⟩
  rw [← k2] at e3
  obtain ⟨t1, k1⟩ : ∃ t, t = a1 + 256 * t2 := ⟨_, rfl⟩
  rw [← k1] at e3
  have d3 : v3 / 256 = t1 := by rw [e3]; exact dvl t1 (Nat.lt_of_le_of_lt h0 (by decide))
  rw [d3] at e4
  have f4 : v4 = (a0 + a1 + 256 * (a1 + a2)) + 65536 * (t2 + t3) := by
    rw [e4, e3, k1]
    exact ar8 _ _ _ _ _ k2
  have d4 : v4 / 65536 = t2 + t3 := by rw [f4]; exact dvl _ (ar7 h0 h1 h2)
  rw [d4] at e5
  have f5 : v5 = ((a0 + a1 + a2 + a3) + 256 * (a1 + a2 + a3 + a4) + 65536 * (a2 + a3 + a4 + a5) + 16777216 * (a3 + a4 + a5 + a6)) + 4294967296 * (t4 + t5 + t6 + a7) := by
    have g3 : t3 = (a3 + 256 * a4 + 65536 * a5 + 16777216 * a6) + 4294967296 * a7 := by
      rw [k3, k4, k5, k6]
      exact ar1 _ _ _ _ _
    have g2 : t2 = (a2 + 256 * a3 + 65536 * a4 + 16777216 * a5) + 4294967296 * t6 := by
      rw [k2, k3, k4, k5]
      exact ar1 _ _ _ _ _
    have g1 : t1 = (a1 + 256 * a2 + 65536 * a3 + 16777216 * a4) + 4294967296 * t5 := by
      rw [k1, k2, k3, k4]
      exact ar1 _ _ _ _ _
    have g0 : v3 = (a0 + 256 * a1 + 65536 * a2 + 16777216 * a3) + 4294967296 * t4 := by
      rw [e3, k1, k2, k3]
      exact ar1 _ _ _ _ _
    have e54 : v5 = v3 + t1 + (t2 + t3) := by rw [e5, e4]
    rw [e54, g0, g1, g2, g3]
    exact ar2 _ _ _ _ _ _ _ _ _ _ _ _ _ _ _ _ _ _ _ _
  have d5 : v5 / 4294967296 = t4 + t5 + t6 + a7 := by rw [f5]; exact dvl _ (ar5 (ar6 h0 h1 h2 h3) (ar6 h1 h2 h3 h4) (ar6 h2 h3 h4 h5) (ar6 h3 h4 h5 h6))
  rw [d5] at e6
  have c6 : t6 ≤ 2056 := by rw [k6]; exact ar4 h6 h7 rfl
  have c5 : t5 ≤ 526344 := by rw [k5]; exact ar4 h5 c6 rfl
  have c4 : t4 ≤ 134744072 := by rw [k4]; exact ar4 h4 c5 rfl
  have c3 : t3 ≤ 34494482440 := by rw [k3]; exact ar4 h3 c4 rfl
  have c2 : t2 ≤ 8830587504648 := by rw [k2]; exact ar4 h2 c3 rfl
  have c1 : t1 ≤ 2260630401189896 := by rw [k1]; exact ar4 h1 c2 rfl
  have c0 : v3 ≤ 578721382704613384 := by rw [e3]; exact ar4 h0 c1 rfl
  have e54 : v5 = v3 + t1 + (t2 + t3) := by rw [e5, e4]
  obtain ⟨x1, x2, x3⟩ := ar9 c0 c1 c2 c3
  refine ⟨?_, x1, by rw [e4]; exact x2, by rw [e54]; exact x3⟩
  have s : v6 = (a0 + a1 + a2 + a3 + a4 + a5 + a6 + a7) + 128 * (2 * (t1 + t2 + t3 + t4 + t5 + t6 + a7)) := by
    rw [e6, e54, e3, ← ar3, ← k1, ← k2, ← k3, ← k4, ← k5, ← k6]
  rw [s, Nat.add_mul_mod_self_left]
  have s1 := ar6 h0 h1 h2 h3
  have s2 := ar6 h4 h5 h6 h7
  exact Nat.mod_eq_of_lt (by clear k1 k2 k3 k4 k5 k6 e3 e4 e5 e6 d3 d4 d5 f4 f5 e54 s x1 x2 x3 c0 c1 c2 c3 c4 c5 c6; omega)
