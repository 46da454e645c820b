/-! numbers: small naturals as ints -/
theorem nL (n : Nat) : (OfNat.ofNat n : Int32) = nI n := (show (OfNat.ofNat n : Int32) = nI n ∧ True from ⟨rfl, trivial⟩).1
theorem nI_le_i {a b : Nat} (ha : a < 2 ^ 31) (hb : b < 2 ^ 31) : nI a ≤ nI b ↔ a ≤ b := nI_leI ha hb
theorem gin_nI {i n : Nat} (h : i < 2 ^ 31) : gin (nI i) n = decide (i < n) := by
  unfold gin
  rw [nI_clamp h]
  have : ¬ nI i < 0 := nI_pos h
  simp [this]
theorem gin_t {i n : Nat} (h : i < n) (hn : n < 2 ^ 31) : gin (nI i) n = true := by
  rw [gin_nI (by omega)]
  simpa using h
theorem gin_iff {x : Int32} {n : Nat} (hn : n < 2 ^ 31) : gin x n = true ↔ ∃ i, i < n ∧ x = nI i := by
  constructor
  · intro h
    exact vp_in_of (gin_in h) hn
  · rintro ⟨i, hi, rfl⟩
    exact gin_t hi hn
/-- any int is a small natural, or below 0 -/
theorem nI_cases (x : Int32) : x < 0 ∨ ∃ i : Nat, i < 2 ^ 31 ∧ x = nI i := by
  by_cases h : x < 0
  · exact Or.inl h
  · exact Or.inr (nI_of h)
theorem nI_sub_le {a b : Nat} (h : b ≤ a) : nI a - nI b = nI (a - b) := pk_sub h
theorem lt0_le {x : Int32} {n : Nat} (h : x < 0) (hn : n < 2 ^ 31) : x < nI n := by
  rw [Int32.lt_iff_toInt_lt] at h ⊢
  rw [nI_toInt hn]
  have : (0 : Int32).toInt = 0 := rfl
  omega
theorem nle_of_neg {x : Int32} {n : Nat} (h : x < 0) (hn : n < 2 ^ 31) : ¬ nI n ≤ x := by
  rw [Int32.lt_iff_toInt_lt] at h
  rw [Int32.le_iff_toInt_le, nI_toInt hn]
  have : (0 : Int32).toInt = 0 := rfl
  omega
/-! loops -/
theorem gLoop_inv {P R : Type} {step : P → Option (P ⊕ R)} (I : Nat → P → Prop) (Q : R → Prop) (N : Nat)
    (hs : ∀ i p, i < N → I i p → ∃ p', step p = some (.inl p') ∧ I (i + 1) p')
    (hx : ∀ p, I N p → ∃ r, step p = some (.inr r) ∧ Q r) :
    ∀ (k i fuel : Nat) (p : P), k + i = N → I i p → k < fuel → ∃ r, gLoop step fuel p = some r ∧ Q r := by
  intro k
  induction k with
  | zero =>
    intro i fuel p hk hI hf
    obtain ⟨f, rfl⟩ : ∃ f, fuel = f + 1 := ⟨fuel - 1, by omega⟩
    obtain rfl : i = N := by omega
    obtain ⟨r, h1, h2⟩ := hx p hI
    exact ⟨r, by rw [gLoop, h1]; rfl, h2⟩
  | succ k ih =>
    intro i fuel p hk hI hf
    obtain ⟨f, rfl⟩ : ∃ f, fuel = f + 1 := ⟨fuel - 1, by omega⟩
    obtain ⟨p', h1, h2⟩ := hs i p (by omega) hI
    obtain ⟨r, h3, h4⟩ := ih (i + 1) f p' (by omega) h2 (by omega)
    exact ⟨r, by rw [gLoop, h1]; exact h3, h4⟩
theorem gLoop_up {P R : Type} {step : P → Option (P ⊕ R)} (I : Nat → P → Prop) (Q : R → Prop) (N : Nat) (hN : N < 100000)
    (hs : ∀ i p, i < N → I i p → ∃ p', step p = some (.inl p') ∧ I (i + 1) p')
    (hx : ∀ p, I N p → ∃ r, step p = some (.inr r) ∧ Q r) {p : P} (h0 : I 0 p) : ∃ r, gLoop step gFuel p = some r ∧ Q r :=
  gLoop_inv I Q N hs hx N 0 gFuel p (by omega) h0 hN
/-- a loop that may end before its count does -/
theorem gLoop_or {P R : Type} {step : P → Option (P ⊕ R)} (I : Nat → P → Prop) (Q : R → Prop) (N : Nat)
    (hs : ∀ i p, i < N → I i p → (∃ p', step p = some (.inl p') ∧ I (i + 1) p') ∨ ∃ r, step p = some (.inr r) ∧ Q r)
    (hx : ∀ p, I N p → ∃ r, step p = some (.inr r) ∧ Q r) :
    ∀ (k i fuel : Nat) (p : P), k + i = N → I i p → k < fuel → ∃ r, gLoop step fuel p = some r ∧ Q r := by
  intro k
  induction k with
  | zero =>
    intro i fuel p hk hI hf
    obtain ⟨f, rfl⟩ : ∃ f, fuel = f + 1 := ⟨fuel - 1, by omega⟩
    obtain rfl : i = N := by omega
    obtain ⟨r, h1, h2⟩ := hx p hI
    exact ⟨r, by rw [gLoop, h1]; rfl, h2⟩
  | succ k ih =>
    intro i fuel p hk hI hf
    obtain ⟨f, rfl⟩ : ∃ f, fuel = f + 1 := ⟨fuel - 1, by omega⟩
    rcases hs i p (by omega) hI with ⟨p', h1, h2⟩ | ⟨r, h1, h2⟩
    · obtain ⟨r, h3, h4⟩ := ih (i + 1) f p' (by omega) h2 (by omega)
      exact ⟨r, by rw [gLoop, h1]; exact h3, h4⟩
    · exact ⟨r, by rw [gLoop, h1]; rfl, h2⟩
theorem gLoop_up2 {P R : Type} {step : P → Option (P ⊕ R)} (I : Nat → P → Prop) (Q : R → Prop) (N : Nat) (hN : N < 100000)
    (hs : ∀ i p, i < N → I i p → (∃ p', step p = some (.inl p') ∧ I (i + 1) p') ∨ ∃ r, step p = some (.inr r) ∧ Q r)
    (hx : ∀ p, I N p → ∃ r, step p = some (.inr r) ∧ Q r) {p : P} (h0 : I 0 p) : ∃ r, gLoop step gFuel p = some r ∧ Q r :=
  gLoop_or I Q N hs hx N 0 gFuel p (by omega) h0 hN
/-! frames -/
/-- only the int regions ks have changed -/
def Fr (ks : List Nat) (S S' : gSt) : Prop := S'.2 = S.2 ∧ ∀ k, k ∉ ks → S'.1 k = S.1 k
theorem Fr_rfl {ks : List Nat} {S : gSt} : Fr ks S S := ⟨rfl, fun _ _ => rfl⟩
theorem Fr.trans {ks : List Nat} {S T U : gSt} (h1 : Fr ks S T) (h2 : Fr ks T U) : Fr ks S U := ⟨h2.1.trans h1.1, fun k hk => (h2.2 k hk).trans (h1.2 k hk)⟩
theorem Fr.mono {ks ks' : List Nat} {S T : gSt} (h : Fr ks S T) (hk : ∀ k ∈ ks, k ∈ ks') : Fr ks' S T := ⟨h.1, fun k q => h.2 k (fun z => q (hk k z))⟩
theorem Fr_gI {ks : List Nat} {S : gSt} {k j : Nat} {v : Int32} (hk : k ∈ ks) : Fr ks S (gI S k j v) := ⟨rfl, fun i hi => gI_ne1 i (fun e => hi (by rw [e]; exact hk))⟩
theorem Fr_gR {ks : List Nat} {S : gSt} {k : Nat} {f : Nat → Int32} (hk : k ∈ ks) : Fr ks S (gR S k f) := ⟨rfl, fun i hi => gR_ne1 i (fun e => hi (by rw [e]; exact hk))⟩
theorem gI_s (S : gSt) (k j : Nat) (v : Int32) : (gI S k j v).1 k j = v := by simp [gI, va_up, upd]
theorem gI_i (S : gSt) {k j i : Nat} (h : i ≠ j) (v : Int32) : (gI S k j v).1 k i = S.1 k i := by simp [gI, va_up, upd, h]
theorem gI_k (S : gSt) {k j i : Nat} (h : i ≠ k) (v : Int32) : (gI S k j v).1 i = S.1 i := by simp [gI, va_up, h]
theorem gI_2 (S : gSt) (k j : Nat) (v : Int32) : (gI S k j v).2 = S.2 := rfl
theorem gR_s (S : gSt) (k : Nat) (f : Nat → Int32) : (gR S k f).1 k = f := by simp [gR, va_up]
theorem gR_k (S : gSt) {k i : Nat} (h : i ≠ k) (f : Nat → Int32) : (gR S k f).1 i = S.1 i := by simp [gR, va_up, h]
theorem gR_2 (S : gSt) (k : Nat) (f : Nat → Int32) : (gR S k f).2 = S.2 := rfl
