/-! answers of tests -/
def bI (b : Bool) : Int32 := if b then 1 else 0
theorem one0 : ¬ (1 : Int32) = 0 := by decide
theorem bI_t : bI true = 1 := rfl
theorem bI_f : bI false = 0 := rfl
theorem bI_0 (b : Bool) : bI b = 0 ↔ b = false := by cases b <;> decide
theorem gbool_b (b : Bool) : gbool (bI b) = true := by cases b <;> decide
theorem g2s {α β γ : Type} (a : α) (b : β) (f : α → β → Option γ) : gBind2 (some (a, b)) f = f a b := rfl
theorem gls {α β : Type} (v : α) (f : α → β) : gLet v f = f v := rfl
theorem ite_tt {α : Type} (a b : α) : (if true = true then a else b) = a := rfl
def rng (p : Int32) (lo hi : Int) : Bool := decide (lo ≤ p.toInt) && decide (p.toInt ≤ hi)
theorem lt_toInt (x y : Int32) : x < y ↔ x.toInt < y.toInt := Int32.lt_iff_toInt_lt
theorem le_toInt (x y : Int32) : x ≤ y ↔ x.toInt ≤ y.toInt := Int32.le_iff_toInt_le
theorem z_toInt : (0 : Int32).toInt = 0 := rfl
theorem gin_rng (p : Int32) (n : Nat) : gin p n = rng p 0 ((n : Int) - 1) := by
  unfold gin rng
  have e : p.toNatClampNeg = p.toInt.toNat := rfl
  rw [Bool.eq_iff_iff]
  simp only [Bool.and_eq_true, Bool.not_eq_true', decide_eq_false_iff_not, decide_eq_true_eq, lt_toInt, z_toInt, e]
  omega
theorem rng_iff {p : Int32} {lo hi : Int} : rng p lo hi = true ↔ lo ≤ p.toInt ∧ p.toInt ≤ hi := by simp [rng]
theorem rng_nat {p : Int32} {hi : Nat} (h : hi < 2 ^ 31) : rng p 0 hi = true ↔ ∃ c : Nat, c ≤ hi ∧ p = nI c := by
  rw [show rng p 0 (hi : Int) = gin p (hi + 1) by rw [gin_rng]; congr 1; omega]
  constructor
  · intro hg
    have h1 := gin_in hg
    have h2 := gin_lt hg
    have h3 : ¬ p < 0 := fun z => h1 (Or.inl z)
    obtain ⟨c, hc, rfl⟩ := nI_of h3
    rw [nI_clamp hc] at h2
    exact ⟨c, by omega, rfl⟩
  · rintro ⟨c, hc, rfl⟩
    rw [gin_nI (by omega)]
    simp only [decide_eq_true_eq]
    omega
theorem lg_lt (x y : Int64) : lg_cmp x y < 0 ↔ x < y := by
  unfold lg_cmp
  by_cases h1 : x > y
  · rw [if_pos h1]
    have h1 : y < x := h1
    rw [Int64.lt_iff_toInt_lt] at h1 ⊢
    constructor
    · intro h; exact absurd h (by decide)
    · intro h; omega
  · rw [if_neg h1]
    have h1 : ¬ y < x := h1
    by_cases h2 : x = y
    · rw [if_pos h2, h2]
      constructor
      · intro h; exact absurd h (by decide)
      · intro h; exact absurd h (by rw [Int64.lt_iff_toInt_lt]; omega)
    · rw [if_neg h2]
      have h3 : ¬ x.toInt = y.toInt := fun e => h2 (Int64.toInt_inj.mp e)
      rw [Int64.lt_iff_toInt_lt] at h1 ⊢
      constructor
      · intro _; omega
      · intro _; decide
theorem lg_gt (x y : Int64) : 0 < lg_cmp x y ↔ y < x := by
  unfold lg_cmp
  by_cases h1 : x > y
  · rw [if_pos h1]
    exact ⟨fun _ => h1, fun _ => by decide⟩
  · rw [if_neg h1]
    by_cases h2 : x = y
    · rw [if_pos h2]
      exact ⟨fun h => absurd h (by decide), fun h => absurd h h1⟩
    · rw [if_neg h2]
      exact ⟨fun h => absurd h (by decide), fun h => absurd h h1⟩
theorem lg_eq (x y : Int64) : lg_cmp x y = 0 ↔ x = y := by
  unfold lg_cmp
  by_cases h1 : x > y
  · rw [if_pos h1]
    have h1 : y < x := h1
    rw [Int64.lt_iff_toInt_lt] at h1
    exact ⟨fun h => absurd h (by decide), fun h => by rw [h] at h1; omega⟩
  · rw [if_neg h1]
    by_cases h2 : x = y
    · rw [if_pos h2]; exact ⟨fun _ => h2, fun _ => rfl⟩
    · rw [if_neg h2]; exact ⟨fun h => absurd h (by decide), fun h => absurd h h2⟩
theorem in_sp (p : Int32) (lo hi : Int64) (S : gSt) : f_X7_in p.toInt64 lo hi S = some (bI (rng p lo.toInt hi.toInt), S) := by
  unfold f_X7_in
  simp only [lg_lt, lg_gt, Int64.lt_iff_toInt_lt, Int32.toInt_toInt64]
  by_cases h1 : p.toInt < lo.toInt
  · rw [if_pos h1, show rng p lo.toInt hi.toInt = false by simp [rng]; omega]; rfl
  · rw [if_neg h1]
    by_cases h2 : hi.toInt < p.toInt
    · rw [if_pos h2, show rng p lo.toInt hi.toInt = false by simp [rng]; omega]; rfl
    · rw [if_neg h2, show rng p lo.toInt hi.toInt = true by simp [rng]; omega]; rfl
theorem in_lit (p : Int32) {lo hi : Int64} {a b : Int} (S : gSt) (h1 : lo.toInt = a) (h2 : hi.toInt = b) : f_X7_in p.toInt64 lo hi S = some (bI (rng p a b), S) := by rw [in_sp, h1, h2]
theorem isCell_sp (p : Int32) (S : gSt) : f_X6_isCell p S = some (bI (gin p 64), S) := by
  unfold f_X6_isCell
  rw [gin_rng]
  simp only [lt_toInt, le_toInt]
  have e : (64 : Int32).toInt = 64 := rfl
  rw [z_toInt, e]
  by_cases h1 : p.toInt < 0
  · rw [if_pos h1, show rng p 0 (((64 : Nat) : Int) - 1) = false by simp [rng]; omega]; rfl
  · rw [if_neg h1]
    by_cases h2 : 64 ≤ p.toInt
    · rw [if_pos h2, show rng p 0 (((64 : Nat) : Int) - 1) = false by simp [rng]; omega]; rfl
    · rw [if_neg h2, show rng p 0 (((64 : Nat) : Int) - 1) = true by simp [rng]; omega]; rfl
theorem has_sp (p : Int32) {S : gSt} {n : Nat} (h : S.1 1 7 = nI n) (hn : n < 2 ^ 31) : f_X0_has p S = some (bI (gin p n), S) := by
  unfold f_X0_has
  rw [gin_rng, h]
  simp only [lt_toInt, le_toInt, z_toInt, nI_toInt hn]
  by_cases h1 : p.toInt < 0
  · rw [if_pos h1, show rng p 0 ((n : Int) - 1) = false by simp [rng]; omega]; rfl
  · rw [if_neg h1]
    by_cases h2 : (n : Int) ≤ p.toInt
    · rw [if_pos h2, show rng p 0 ((n : Int) - 1) = false by simp [rng]; omega]; rfl
    · rw [if_neg h2, show rng p 0 ((n : Int) - 1) = true by simp [rng]; omega]; rfl
theorem mCell_sp (p : Int32) (S : gSt) : f_X7_isCell p S = some (bI (gin p 64), S) := by
  unfold f_X7_isCell
  rw [in_lit p (a := 0) (b := 63) S rfl rfl, g2s, gbool_b, gin_rng]
  rfl
theorem mWalker_sp (p : Int32) {S : gSt} {n : Nat} (h : S.1 48 5 = nI n) (hn : n < 2 ^ 30) : f_X7_isWalker p S = some (bI (gin p n), S) := by
  unfold f_X7_isWalker
  have e0 : (5 : Int32).toNatClampNeg = 5 := rfl
  have e1 : gin 5 416 = true := rfl
  rw [e1, e0, h]
  have e2 : ((nI n - 1 : Int32).toInt64).toInt = (n : Int) - 1 := by
    rw [Int32.toInt_toInt64]
    rw [show (1 : Int32) = nI 1 from rfl, pk_sub_toInt hn (by decide)]
    rfl
  rw [if_pos rfl, in_lit p (a := 0) (b := (n : Int) - 1) S rfl e2, g2s, gbool_b, gin_rng]
  rfl
/-! what the relation tells -/
theorem RN.n {S : gSt} {q : Il × Pa} (h : RN S q) : i_n q.1 ≤ 6 := h.2.2.1.1
theorem RN.c7 {S : gSt} {q : Il × Pa} (h : RN S q) : S.1 1 7 = nI (i_n q.1) := h.1.1.2.1
theorem RN.m5 {S : gSt} {q : Il × Pa} (h : RN S q) : S.1 48 5 = nI (i_n q.1) := h.2.1.1.2.1
theorem RN.cw {S : gSt} {q : Il × Pa} (h : RN S q) {w : Nat} (hw : w < i_n q.1) : S.1 3 w = nI (i_kd q.1 w) ∧ S.1 4 w = nI (i_wt q.1 w) ∧ S.1 5 w = nI (i_ce q.1 w) ∧ S.1 6 w = i_sp q.1 w := h.1.1.2.2.2.2.1 w hw
theorem RN.mw {S : gSt} {q : Il × Pa} (h : RN S q) {w : Nat} (hw : w < i_n q.1) : S.1 48 (8 + 4 * w) = nI (i_kd q.1 w) ∧ S.1 48 (9 + 4 * w) = nI (i_wt q.1 w) ∧ S.1 48 (10 + 4 * w) = nI (i_ce q.1 w) ∧ S.1 48 (11 + 4 * w) = i_sp q.1 w := h.2.1.1.2.2.2.2.1 w hw
theorem RN.cp {S : gSt} {q : Il × Pa} (h : RN S q) {i : Nat} (hi : i < 384) : S.1 7 i = nI (i_pr q.1 i) := h.1.1.2.2.2.2.2 i hi
theorem RN.mp {S : gSt} {q : Il × Pa} (h : RN S q) {i : Nat} (hi : i < 384) : S.1 48 (32 + i) = nI (i_pr q.1 i) := h.2.1.1.2.2.2.2.2 i hi
theorem RN.wf {S : gSt} {q : Il × Pa} (h : RN S q) {w : Nat} (hw : w < i_n q.1) : i_kd q.1 w ≤ 4 ∧ 1 ≤ i_wt q.1 w ∧ i_wt q.1 w ≤ 9 ∧ i_ce q.1 w < 64 := h.2.2.1.2.2.2.2.1 w hw
theorem RN.cs {S : gSt} {q : Il × Pa} (h : RN S q) {i : Nat} (hi : i < 5) : S.1 2 i = nI (i_set q.1 i) := h.1.1.1 i hi
theorem RN.ms {S : gSt} {q : Il × Pa} (h : RN S q) {i : Nat} (hi : i < 5) : S.1 48 i = nI (i_set q.1 i) := h.2.1.1.1 i hi
theorem op_same {fx fm : gSt → Option (Int32 × gSt)} (h : ∀ S, Rel S → ∃ r, fx S = some (r, S) ∧ fm S = some (r, S)) : Op fx fm := by
  intro S hR
  obtain ⟨r, h1, h2⟩ := h S hR
  exact ⟨r, S, S, h1, h2, hR⟩
theorem gin_ex {p : Int32} {n : Nat} (hn : n < 2 ^ 31) (h : gin p n = true) : ∃ i, i < n ∧ p = nI i := (gin_iff hn).mp h
/-! print -/
theorem op_print (p c : Int32) : Op (f_X6_print p c) (f_X7_print p c) := by
  refine op_same (fun S hR => ?_)
  obtain ⟨⟨q, hN⟩, -⟩ := hR
  have hn := hN.n
  unfold f_X6_print f_X7_print
  rw [has_sp p hN.c7 (by omega), mWalker_sp p hN.m5 (by omega), g2s, g2s]
  cases h1 : gin p (i_n q.1) with
  | false => exact ⟨-1, rfl, rfl⟩
  | true =>
    rw [bI_t, if_neg one0, if_neg one0, isCell_sp, mCell_sp, g2s, g2s]
    cases h2 : gin c 64 with
    | false => exact ⟨-1, rfl, rfl⟩
    | true =>
      obtain ⟨w, hw, rfl⟩ := gin_ex (by omega) h1
      obtain ⟨c, hc, rfl⟩ := gin_ex (by decide) h2
      rw [bI_t, if_neg one0, if_neg one0]
      simp only [nL, pk_mul, nI_add]
      rw [gin_t (by omega) (by decide), gin_t (by omega) (by decide), if_pos rfl, if_pos rfl, nI_clamp (by omega), nI_clamp (by omega)]
      refine ⟨nI (i_pr q.1 (w * 64 + c)), by rw [hN.cp (by omega)], ?_⟩
      rw [show 32 + 64 * w + c = 32 + (w * 64 + c) by omega, hN.mp (by omega)]

/-! seed -/
theorem CI_dr {S : gSt} {b : Nat} {g : Il} (v : Nat) (h : CI S b g) : CI (gI S b 9 (nI v)) b (i_set g, i_n g, i_hr g, v, i_kd g, i_wt g, i_ce g, i_sp g, i_pr g) := by
  obtain ⟨h1, h2, h3, h4, h5, h6⟩ := h
  refine ⟨fun i hi => by rw [gI_k _ (by omega)]; exact h1 i hi, by rw [gI_i _ (by decide)]; exact h2, by rw [gI_i _ (by decide)]; exact h3, gI_s _ _ _ _, fun w hw => ?_, fun i hi => by rw [gI_k _ (by omega)]; exact h6 i hi⟩
  rw [gI_k _ (by omega), gI_k _ (by omega), gI_k _ (by omega), gI_k _ (by omega)]
  exact h5 w hw
