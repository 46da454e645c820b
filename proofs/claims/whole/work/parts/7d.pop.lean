/-! how many bits -/
def bs : Nat → Nat → Nat
  | 0, _ => 0
  | k + 1, n => n % 2 + bs k (n / 2)
theorem cnt_split1 (p : Nat → Bool) : ∀ n, cnt p (n + 1) = (if p 0 then 1 else 0) + cnt (fun i => p (i + 1)) n
  | 0 => by rw [cnt, cnt, cnt]; omega
  | n + 1 => by
    rw [cnt, cnt_split1 p n, cnt]
    omega
theorem cnt_bs : ∀ k n, cnt (fun i => Nat.testBit n i) k = bs k n
  | 0, _ => rfl
  | k + 1, n => by
    rw [cnt_split1, bs, ← cnt_bs k (n / 2), Nat.testBit_zero]
    have e : (fun i => Nat.testBit n (i + 1)) = fun i => Nat.testBit (n / 2) i := funext fun i => Nat.testBit_succ n i
    rw [e]
    congr 1
    by_cases h : n % 2 = 1
    · rw [decide_eq_true h, if_pos rfl, h]
    · rw [decide_eq_false h]
      show 0 = _
      omega
theorem bs_add (b : Nat) : ∀ a n, bs (a + b) n = bs a n + bs b (n / 2 ^ a)
  | 0, n => by rw [Nat.zero_add, Nat.pow_zero, Nat.div_one, bs, Nat.zero_add]
  | a + 1, n => by
    rw [show a + 1 + b = (a + b) + 1 by omega, bs, bs_add b a, bs, Nat.div_div_eq_div_mul, Nat.pow_succ, Nat.mul_comm (2 ^ a) 2]
    omega
theorem bs_mod8 (n : Nat) : bs 8 n = bs 8 (n % 256) := by
  simp only [bs]
  omega
theorem bs_8 (k n : Nat) : bs (8 + k) n = bs 8 (n % 256) + bs k (n / 256) := by
  rw [bs_add, ← bs_mod8]
theorem and_split (a c e : Nat) (he : e < 256) : a &&& (e + 256 * c) = (a % 256 &&& e) + 256 * (a / 256 &&& c) := by
  have h1 := Nat.and_mod_two_pow (a := a) (b := e + 256 * c) (n := 8)
  have h2 := Nat.and_div_two_pow (a := a) (b := e + 256 * c) (n := 8)
  rw [show (2 : Nat) ^ 8 = 256 from rfl] at h1 h2
  rw [show (e + 256 * c) % 256 = e by omega] at h1
  rw [show (e + 256 * c) / 256 = c by omega] at h2
  rw [← h1, ← h2]
  omega
def mA : Nat → Nat
  | 0 => 0
  | k + 1 => 85 + 256 * mA k
def mB : Nat → Nat
  | 0 => 0
  | k + 1 => 51 + 256 * mB k
def mC : Nat → Nat
  | 0 => 0
  | k + 1 => 15 + 256 * mC k
def p1 (k n : Nat) : Nat := n - ((n / 2) &&& mA k)
def p2 (k n : Nat) : Nat := (p1 k n &&& mB k) + ((p1 k n / 4) &&& mB k)
def p3 (k n : Nat) : Nat := (p2 k n + p2 k n / 16) &&& mC k
def q1 (b : Nat) : Nat := b - ((b / 2) &&& 85)
def q2 (b : Nat) : Nat := (q1 b &&& 51) + ((q1 b / 4) &&& 51)
theorem d55 : ∀ z, z < 256 → z &&& 85 = (z % 128) &&& 85 := by decide +kernel
theorem d33 : ∀ z, z < 256 → z &&& 51 = (z % 64) &&& 51 := by decide +kernel
theorem dq2 : ∀ b, b < 256 → q2 b % 16 ≤ 4 ∧ q2 b / 16 ≤ 4 ∧ (q2 b + q2 b / 16) % 16 = bs 8 b := by decide +kernel
theorem bs8_le : ∀ b, b < 256 → bs 8 b ≤ 8 := by decide +kernel
theorem p1_s (k n : Nat) : p1 (k + 1) n = q1 (n % 256) + 256 * p1 k (n / 256) := by
  unfold p1 q1
  rw [mA, and_split _ _ 85 (by decide), d55 _ (Nat.mod_lt _ (by decide)), show n / 2 % 256 % 128 = n % 256 / 2 by omega, show n / 2 / 256 = n / 256 / 2 by omega]
  have h1 : (n % 256 / 2) &&& 85 ≤ n % 256 / 2 := Nat.and_le_left
  have h2 : (n / 256 / 2) &&& mA k ≤ n / 256 / 2 := Nat.and_le_left
  omega
theorem q1_le (b : Nat) : q1 b ≤ b := Nat.sub_le _ _
theorem p2_s (k n : Nat) : p2 (k + 1) n = q2 (n % 256) + 256 * p2 k (n / 256) := by
  have hq := q1_le (n % 256)
  unfold p2 q2
  rw [p1_s, mB, and_split _ _ 51 (by decide), and_split _ _ 51 (by decide), d33 ((q1 (n % 256) + 256 * p1 k (n / 256)) / 4 % 256) (Nat.mod_lt _ (by decide)), show (q1 (n % 256) + 256 * p1 k (n / 256)) % 256 = q1 (n % 256) by omega, show (q1 (n % 256) + 256 * p1 k (n / 256)) / 256 = p1 k (n / 256) by omega, show (q1 (n % 256) + 256 * p1 k (n / 256)) / 4 % 256 % 64 = q1 (n % 256) / 4 by omega, show (q1 (n % 256) + 256 * p1 k (n / 256)) / 4 / 256 = p1 k (n / 256) / 4 by omega]
  omega
theorem p2_16 : ∀ k n, p2 k n % 16 ≤ 4
  | 0, n => by
    unfold p2
    rw [mB, Nat.and_zero, Nat.and_zero]
    decide
  | k + 1, n => by
    rw [p2_s]
    have := (dq2 (n % 256) (Nat.mod_lt _ (by decide))).1
    omega
theorem p3_s (k n : Nat) : p3 (k + 1) n = bs 8 (n % 256) + 256 * p3 k (n / 256) := by
  obtain ⟨h1, h2, h3⟩ := dq2 (n % 256) (Nat.mod_lt _ (by decide))
  have h4 := p2_16 k (n / 256)
  unfold p3
  rw [p2_s, mC, and_split _ _ 15 (by decide), ← h3]
  generalize q2 (n % 256) = d at *
  generalize p2 k (n / 256) = u at *
  rw [show (d + 256 * u + (d + 256 * u) / 16) % 256 = d + d / 16 + 16 * (u % 16) by omega, show (d + 256 * u + (d + 256 * u) / 16) / 256 = u + u / 16 by omega, show (15 : Nat) = 2 ^ 4 - 1 from rfl, Nat.and_two_pow_sub_one_eq_mod, show (d + d / 16 + 16 * (u % 16)) % 2 ^ 4 = (d + d / 16) % 16 by omega]
theorem p3_0 (n : Nat) : p3 0 n = 0 := by
  unfold p3
  rw [mC, Nat.and_zero]
