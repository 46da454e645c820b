/-! numbers: small naturals as ints -/
theorem nL (n : Nat) : (OfNat.ofNat n : Int32) = nI n := (show (OfNat.ofNat n : Int32) = nI n ∧ True from ⟨rfl, trivial⟩).1
theorem n_0 : (0 : Int32) = nI 0 := (show (0 : Int32) = nI 0 ∧ True from ⟨rfl, trivial⟩).1
theorem n_1 : (1 : Int32) = nI 1 := (show (1 : Int32) = nI 1 ∧ True from ⟨rfl, trivial⟩).1
theorem n_2 : (2 : Int32) = nI 2 := (show (2 : Int32) = nI 2 ∧ True from ⟨rfl, trivial⟩).1
theorem n_3 : (3 : Int32) = nI 3 := (show (3 : Int32) = nI 3 ∧ True from ⟨rfl, trivial⟩).1
theorem n_4 : (4 : Int32) = nI 4 := (show (4 : Int32) = nI 4 ∧ True from ⟨rfl, trivial⟩).1
theorem n_5 : (5 : Int32) = nI 5 := (show (5 : Int32) = nI 5 ∧ True from ⟨rfl, trivial⟩).1
theorem n_6 : (6 : Int32) = nI 6 := (show (6 : Int32) = nI 6 ∧ True from ⟨rfl, trivial⟩).1
theorem n_7 : (7 : Int32) = nI 7 := (show (7 : Int32) = nI 7 ∧ True from ⟨rfl, trivial⟩).1
theorem n_8 : (8 : Int32) = nI 8 := (show (8 : Int32) = nI 8 ∧ True from ⟨rfl, trivial⟩).1
theorem n_9 : (9 : Int32) = nI 9 := (show (9 : Int32) = nI 9 ∧ True from ⟨rfl, trivial⟩).1
theorem n_10 : (10 : Int32) = nI 10 := (show (10 : Int32) = nI 10 ∧ True from ⟨rfl, trivial⟩).1
theorem n_11 : (11 : Int32) = nI 11 := (show (11 : Int32) = nI 11 ∧ True from ⟨rfl, trivial⟩).1
theorem n_12 : (12 : Int32) = nI 12 := (show (12 : Int32) = nI 12 ∧ True from ⟨rfl, trivial⟩).1
theorem n_16 : (16 : Int32) = nI 16 := (show (16 : Int32) = nI 16 ∧ True from ⟨rfl, trivial⟩).1
theorem n_18 : (18 : Int32) = nI 18 := (show (18 : Int32) = nI 18 ∧ True from ⟨rfl, trivial⟩).1
theorem n_24 : (24 : Int32) = nI 24 := (show (24 : Int32) = nI 24 ∧ True from ⟨rfl, trivial⟩).1
theorem n_31 : (31 : Int32) = nI 31 := (show (31 : Int32) = nI 31 ∧ True from ⟨rfl, trivial⟩).1
theorem n_32 : (32 : Int32) = nI 32 := (show (32 : Int32) = nI 32 ∧ True from ⟨rfl, trivial⟩).1
theorem n_44 : (44 : Int32) = nI 44 := (show (44 : Int32) = nI 44 ∧ True from ⟨rfl, trivial⟩).1
theorem n_48 : (48 : Int32) = nI 48 := (show (48 : Int32) = nI 48 ∧ True from ⟨rfl, trivial⟩).1
theorem n_49 : (49 : Int32) = nI 49 := (show (49 : Int32) = nI 49 ∧ True from ⟨rfl, trivial⟩).1
theorem n_57 : (57 : Int32) = nI 57 := (show (57 : Int32) = nI 57 ∧ True from ⟨rfl, trivial⟩).1
theorem n_58 : (58 : Int32) = nI 58 := (show (58 : Int32) = nI 58 ∧ True from ⟨rfl, trivial⟩).1
theorem n_59 : (59 : Int32) = nI 59 := (show (59 : Int32) = nI 59 ∧ True from ⟨rfl, trivial⟩).1
theorem n_60 : (60 : Int32) = nI 60 := (show (60 : Int32) = nI 60 ∧ True from ⟨rfl, trivial⟩).1
theorem n_63 : (63 : Int32) = nI 63 := (show (63 : Int32) = nI 63 ∧ True from ⟨rfl, trivial⟩).1
theorem n_64 : (64 : Int32) = nI 64 := (show (64 : Int32) = nI 64 ∧ True from ⟨rfl, trivial⟩).1
theorem n_96 : (96 : Int32) = nI 96 := (show (96 : Int32) = nI 96 ∧ True from ⟨rfl, trivial⟩).1
theorem n_99 : (99 : Int32) = nI 99 := (show (99 : Int32) = nI 99 ∧ True from ⟨rfl, trivial⟩).1
theorem n_100 : (100 : Int32) = nI 100 := (show (100 : Int32) = nI 100 ∧ True from ⟨rfl, trivial⟩).1
theorem n_104 : (104 : Int32) = nI 104 := (show (104 : Int32) = nI 104 ∧ True from ⟨rfl, trivial⟩).1
theorem n_107 : (107 : Int32) = nI 107 := (show (107 : Int32) = nI 107 ∧ True from ⟨rfl, trivial⟩).1
theorem n_111 : (111 : Int32) = nI 111 := (show (111 : Int32) = nI 111 ∧ True from ⟨rfl, trivial⟩).1
theorem n_112 : (112 : Int32) = nI 112 := (show (112 : Int32) = nI 112 ∧ True from ⟨rfl, trivial⟩).1
theorem n_115 : (115 : Int32) = nI 115 := (show (115 : Int32) = nI 115 ∧ True from ⟨rfl, trivial⟩).1
theorem n_126 : (126 : Int32) = nI 126 := (show (126 : Int32) = nI 126 ∧ True from ⟨rfl, trivial⟩).1
theorem n_384 : (384 : Int32) = nI 384 := (show (384 : Int32) = nI 384 ∧ True from ⟨rfl, trivial⟩).1
theorem n_416 : (416 : Int32) = nI 416 := (show (416 : Int32) = nI 416 ∧ True from ⟨rfl, trivial⟩).1
theorem n_999 : (999 : Int32) = nI 999 := (show (999 : Int32) = nI 999 ∧ True from ⟨rfl, trivial⟩).1
theorem n_1000000 : (1000000 : Int32) = nI 1000000 := (show (1000000 : Int32) = nI 1000000 ∧ True from ⟨rfl, trivial⟩).1
theorem n_3328 : (3328 : Int32) = nI 3328 := (show (3328 : Int32) = nI 3328 ∧ True from ⟨rfl, trivial⟩).1
theorem n_3744 : (3744 : Int32) = nI 3744 := (show (3744 : Int32) = nI 3744 ∧ True from ⟨rfl, trivial⟩).1
theorem n_9999 : (9999 : Int32) = nI 9999 := (show (9999 : Int32) = nI 9999 ∧ True from ⟨rfl, trivial⟩).1
theorem n_65536 : (65536 : Int32) = nI 65536 := (show (65536 : Int32) = nI 65536 ∧ True from ⟨rfl, trivial⟩).1
theorem nI_le_i {a b : Nat} (ha : a < 2 ^ 31) (hb : b < 2 ^ 31) : nI a ≤ nI b ↔ a ≤ b := nI_leI ha hb
theorem gin_nI {i n : Nat} (h : i < 2 ^ 31) : gin (nI i) n = decide (i < n) := by
  unfold gin
  rw [nI_clamp h]
  have : ¬ nI i < 0 := nI_pos h
  simp [this]
theorem gin_t {i n : Nat} (h : i < n) (hn : n < 2 ^ 31) : gin (nI i) n = true := by
  rw [gin_nI (by omega)]
  simpa using h
theorem gin_iff {x : Int32} {n : Nat} (hn : n < 2 ^ 31) : gin x n = true ↔ ∃ i, i < n ∧ x = nI i := by
  constructor
  · intro h
    exact vp_in_of (gin_in h) hn
  · rintro ⟨i, hi, rfl⟩
    exact gin_t hi hn
/-- any int is a small natural, or below 0 -/
theorem nI_cases (x : Int32) : x < 0 ∨ ∃ i : Nat, i < 2 ^ 31 ∧ x = nI i := by
  by_cases h : x < 0
  · exact Or.inl h
  · exact Or.inr (nI_of h)
theorem nI_sub_le {a b : Nat} (h : b ≤ a) : nI a - nI b = nI (a - b) := pk_sub h
theorem lt0_le {x : Int32} {n : Nat} (h : x < 0) (hn : n < 2 ^ 31) : x < nI n := by
  rw [Int32.lt_iff_toInt_lt] at h ⊢
  rw [nI_toInt hn]
  have : (0 : Int32).toInt = 0 := rfl
  omega
theorem nle_of_neg {x : Int32} {n : Nat} (h : x < 0) (hn : n < 2 ^ 31) : ¬ nI n ≤ x := by
  rw [Int32.lt_iff_toInt_lt] at h
  rw [Int32.le_iff_toInt_le, nI_toInt hn]
  have : (0 : Int32).toInt = 0 := rfl
  omega
/-! loops -/
theorem gLoop_inv {P R : Type} {step : P → Option (P ⊕ R)} (I : Nat → P → Prop) (Q : R → Prop) (N : Nat)
    (hs : ∀ i p, i < N → I i p → ∃ p', step p = some (.inl p') ∧ I (i + 1) p')
    (hx : ∀ p, I N p → ∃ r, step p = some (.inr r) ∧ Q r) :
    ∀ (k i fuel : Nat) (p : P), k + i = N → I i p → k < fuel → ∃ r, gLoop step fuel p = some r ∧ Q r := by
  intro k
  induction k with
  | zero =>
    intro i fuel p hk hI hf
    obtain ⟨f, rfl⟩ : ∃ f, fuel = f + 1 := ⟨fuel - 1, by omega⟩
    obtain rfl : i = N := by omega
    obtain ⟨r, h1, h2⟩ := hx p hI
    exact ⟨r, by rw [gLoop, h1]; rfl, h2⟩
  | succ k ih =>
    intro i fuel p hk hI hf
    obtain ⟨f, rfl⟩ : ∃ f, fuel = f + 1 := ⟨fuel - 1, by omega⟩
    obtain ⟨p', h1, h2⟩ := hs i p (by omega) hI
    obtain ⟨r, h3, h4⟩ := ih (i + 1) f p' (by omega) h2 (by omega)
    exact ⟨r, by rw [gLoop, h1]; exact h3, h4⟩
theorem gLoop_up {P R : Type} {step : P → Option (P ⊕ R)} (I : Nat → P → Prop) (Q : R → Prop) (N : Nat) (hN : N < 100000)
    (hs : ∀ i p, i < N → I i p → ∃ p', step p = some (.inl p') ∧ I (i + 1) p')
    (hx : ∀ p, I N p → ∃ r, step p = some (.inr r) ∧ Q r) {p : P} (h0 : I 0 p) : ∃ r, gLoop step gFuel p = some r ∧ Q r :=
  gLoop_inv I Q N hs hx N 0 gFuel p (by omega) h0 hN
/-- a loop that may end before its count does -/
theorem gLoop_or {P R : Type} {step : P → Option (P ⊕ R)} (I : Nat → P → Prop) (Q : R → Prop) (N : Nat)
    (hs : ∀ i p, i < N → I i p → (∃ p', step p = some (.inl p') ∧ I (i + 1) p') ∨ ∃ r, step p = some (.inr r) ∧ Q r)
    (hx : ∀ p, I N p → ∃ r, step p = some (.inr r) ∧ Q r) :
    ∀ (k i fuel : Nat) (p : P), k + i = N → I i p → k < fuel → ∃ r, gLoop step fuel p = some r ∧ Q r := by
  intro k
  induction k with
  | zero =>
    intro i fuel p hk hI hf
    obtain ⟨f, rfl⟩ : ∃ f, fuel = f + 1 := ⟨fuel - 1, by omega⟩
    obtain rfl : i = N := by omega
    obtain ⟨r, h1, h2⟩ := hx p hI
    exact ⟨r, by rw [gLoop, h1]; rfl, h2⟩
  | succ k ih =>
    intro i fuel p hk hI hf
    obtain ⟨f, rfl⟩ : ∃ f, fuel = f + 1 := ⟨fuel - 1, by omega⟩
    rcases hs i p (by omega) hI with ⟨p', h1, h2⟩ | ⟨r, h1, h2⟩
    · obtain ⟨r, h3, h4⟩ := ih (i + 1) f p' (by omega) h2 (by omega)
      exact ⟨r, by rw [gLoop, h1]; exact h3, h4⟩
    · exact ⟨r, by rw [gLoop, h1]; rfl, h2⟩
theorem gLoop_up2 {P R : Type} {step : P → Option (P ⊕ R)} (I : Nat → P → Prop) (Q : R → Prop) (N : Nat) (hN : N < 100000)
    (hs : ∀ i p, i < N → I i p → (∃ p', step p = some (.inl p') ∧ I (i + 1) p') ∨ ∃ r, step p = some (.inr r) ∧ Q r)
    (hx : ∀ p, I N p → ∃ r, step p = some (.inr r) ∧ Q r) {p : P} (h0 : I 0 p) : ∃ r, gLoop step gFuel p = some r ∧ Q r :=
  gLoop_or I Q N hs hx N 0 gFuel p (by omega) h0 hN
/-! frames -/
/-- only the int regions ks have changed -/
def Fr (ks : List Nat) (S S' : gSt) : Prop := S'.2 = S.2 ∧ ∀ k, k ∉ ks → S'.1 k = S.1 k
theorem Fr_rfl {ks : List Nat} {S : gSt} : Fr ks S S := ⟨rfl, fun _ _ => rfl⟩
theorem Fr.trans {ks : List Nat} {S T U : gSt} (h1 : Fr ks S T) (h2 : Fr ks T U) : Fr ks S U := ⟨h2.1.trans h1.1, fun k hk => (h2.2 k hk).trans (h1.2 k hk)⟩
theorem Fr.mono {ks ks' : List Nat} {S T : gSt} (h : Fr ks S T) (hk : ∀ k ∈ ks, k ∈ ks') : Fr ks' S T := ⟨h.1, fun k q => h.2 k (fun z => q (hk k z))⟩
theorem Fr_gI {ks : List Nat} {S : gSt} {k j : Nat} {v : Int32} (hk : k ∈ ks) : Fr ks S (gI S k j v) := ⟨rfl, fun i hi => gI_ne1 i (fun e => hi (by rw [e]; exact hk))⟩
theorem Fr_gR {ks : List Nat} {S : gSt} {k : Nat} {f : Nat → Int32} (hk : k ∈ ks) : Fr ks S (gR S k f) := ⟨rfl, fun i hi => gR_ne1 i (fun e => hi (by rw [e]; exact hk))⟩
theorem gI_s (S : gSt) (k j : Nat) (v : Int32) : (gI S k j v).1 k j = v := by simp [gI, va_up, upd]
theorem gI_i (S : gSt) {k j i : Nat} (h : i ≠ j) (v : Int32) : (gI S k j v).1 k i = S.1 k i := by simp [gI, va_up, upd, h]
theorem gI_k (S : gSt) {k j i : Nat} (h : i ≠ k) (v : Int32) : (gI S k j v).1 i = S.1 i := by simp [gI, va_up, h]
theorem gI_2 (S : gSt) (k j : Nat) (v : Int32) : (gI S k j v).2 = S.2 := rfl
theorem gR_s (S : gSt) (k : Nat) (f : Nat → Int32) : (gR S k f).1 k = f := by simp [gR, va_up]
theorem gR_k (S : gSt) {k i : Nat} (h : i ≠ k) (f : Nat → Int32) : (gR S k f).1 i = S.1 i := by simp [gR, va_up, h]
theorem gR_2 (S : gSt) (k : Nat) (f : Nat → Int32) : (gR S k f).2 = S.2 := rfl
