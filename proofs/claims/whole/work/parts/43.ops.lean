/-! a call, its class part and its reference part apart -/
def clsR : List Nat := [1, 2, 3, 4, 5, 6, 7, 8, 9, 10, 11, 12, 13, 29, 30, 31, 41, 42, 43, 44, 45, 46]
def mdlR : List Nat := [47, 48, 49, 51, 52, 53, 54, 55]
def FrM (S S2 : gSt) : Prop := S2.2 = S.2 ∧ (∀ k, k ∉ mdlR → S2.1 k = S.1 k) ∧ ∀ j, j ≠ 4 → j ≠ 5 → j ≠ 8 → S2.1 47 j = S.1 47 j
theorem FrM_rfl {S : gSt} : FrM S S := ⟨rfl, fun _ _ => rfl, fun _ _ _ _ => rfl⟩
theorem FrM_trans {S T U : gSt} (h1 : FrM S T) (h2 : FrM T U) : FrM S U := ⟨h2.1.trans h1.1, fun k hk => (h2.2.1 k hk).trans (h1.2.1 k hk), fun j a b c => (h2.2.2 j a b c).trans (h1.2.2 j a b c)⟩
theorem FrM_gI {S : gSt} {k j : Nat} {v : Int32} (hk : k ∈ mdlR) (hj : k ≠ 47 ∨ j = 8 ∨ j = 4 ∨ j = 5) : FrM S (gI S k j v) := by
  refine ⟨rfl, fun i hi => gI_ne1 i (fun e => hi (by rw [e]; exact hk)), fun i a b c => ?_⟩
  by_cases h : k = 47
  · subst h
    exact gI_i S (by omega) v
  · rw [gI_k S (fun e => h e.symm)]
def OpC (fx : gSt → Option (Int32 × gSt)) (r : Il × Pa → Int32) (u : Il × Pa → Il × Pa) : Prop := ∀ S q, RC S 1 q → WF q → ∃ S1, fx S = some (r q, S1) ∧ Fr clsR S S1 ∧ RC S1 1 (u q)
def OpM (fm : gSt → Option (Int32 × gSt)) (r : Il × Pa → Int32) (u : Il × Pa → Il × Pa) : Prop := ∀ S q, RMn S q → WF q → ∃ S2, fm S = some (r q, S2) ∧ FrM S S2 ∧ RMn S2 (u q)
theorem nin_cls {k : Nat} (h : k = 0 ∨ (14 ≤ k ∧ k ≤ 28) ∨ (32 ≤ k ∧ k ≤ 40) ∨ 47 ≤ k) : k ∉ clsR := by
  intro hm
  simp only [clsR, List.mem_cons, List.not_mem_nil, or_false] at hm
  omega
theorem nin_mdl {k : Nat} (h : k ≤ 46 ∨ k = 50 ∨ 56 ≤ k) : k ∉ mdlR := by
  intro hm
  simp only [mdlR, List.mem_cons, List.not_mem_nil, or_false] at hm
  omega
theorem op_of {fx fm : gSt → Option (Int32 × gSt)} (r : Il × Pa → Int32) (u : Il × Pa → Il × Pa) (hw : ∀ q, WF q → WF (u q)) (hc : OpC fx r u) (hm : OpM fm r u) : Op fx fm := by
  intro S hR
  obtain ⟨⟨q, h1, h2, h3⟩, hK, hT, hS⟩ := hR
  obtain ⟨S1, a1, a2, a3⟩ := hc S q h1 h3
  have e1 : ∀ k, (k = 0 ∨ (14 ≤ k ∧ k ≤ 28) ∨ (32 ≤ k ∧ k ≤ 40) ∨ 47 ≤ k) → S1.1 k = S.1 k := fun k hk => a2.2 k (nin_cls hk)
  have h2' : RMn S1 q := ⟨by rw [e1 48 (by omega)]; exact h2.1, by rw [e1 52 (by omega)]; exact h2.2.1, by rw [e1 47 (by omega)]; exact h2.2.2⟩
  obtain ⟨S2, b1, b2, b3⟩ := hm S1 q h2' h3
  have e2 : ∀ k, (k ≤ 46 ∨ k = 50 ∨ 56 ≤ k) → S2.1 k = S1.1 k := fun k hk => b2.2.1 k (nin_mdl hk)
  have e3 : ∀ k, (k = 0 ∨ (14 ≤ k ∧ k ≤ 28) ∨ (32 ≤ k ∧ k ≤ 40) ∨ k = 50 ∨ 56 ≤ k) → S2.1 k = S.1 k := fun k hk => (e2 k (by omega)).trans (e1 k (by omega))
  have e4 : ∀ j, j ≠ 4 → j ≠ 5 → j ≠ 8 → S2.1 47 j = S.1 47 j := fun j x y z => (b2.2.2 j x y z).trans (by rw [e1 47 (by omega)])
  have e5 : S2.2 = S.2 := b2.1.trans a2.1
  refine ⟨r q, S1, S2, a1, b1, ⟨u q, RC_eq (fun k x y => e2 k (by omega)) a3, b3, hw q h3⟩, RK_eq (fun k x y => e3 k (by omega)) (by rw [e3 0 (by omega)]) (e4 13 (by decide) (by decide) (by decide)) (e4 14 (by decide) (by decide) (by decide)) (e3 56 (by omega)) hK, RT_eq (by rw [e3 27 (by omega)]) (e4 3 (by decide) (by decide) (by decide)) (e3 28 (by omega)) (e3 50 (by omega)) hT, RS_eq (fun k x y => e3 k (by omega)) (e3 57 (by omega)) (e3 58 (by omega)) (fun k _ _ => by rw [e5]) (by rw [e5]) hS⟩
/-- a call that reads -/
theorem opC_read {fx : gSt → Option (Int32 × gSt)} {r : Il × Pa → Int32} (h : ∀ S q, RC S 1 q → WF q → ∃ S1, fx S = some (r q, S1) ∧ Fr [41, 42, 43, 44, 45, 46] S S1) : OpC fx r id := by
  intro S q h1 h2
  obtain ⟨S1, a, b⟩ := h S q h1 h2
  refine ⟨S1, a, b.mono (by decide), RC_eq (fun k x y => b.2 k ?_) h1⟩
  intro hm
  simp only [List.mem_cons, List.not_mem_nil, or_false] at hm
  omega
theorem opM_read {fm : gSt → Option (Int32 × gSt)} {r : Il × Pa → Int32} (h : ∀ S q, RMn S q → WF q → ∃ S1, fm S = some (r q, S1) ∧ Fr [49, 53, 54, 55] S S1) : OpM fm r id := by
  intro S q h1 h2
  obtain ⟨S1, a, b⟩ := h S q h1 h2
  refine ⟨S1, a, ⟨b.1, fun k hk => b.2 k (fun hm => hk ?_), fun j _ _ _ => by rw [b.2 47 (by decide)]⟩, ?_⟩
  · simp only [List.mem_cons, List.not_mem_nil, or_false] at hm
    simp only [mdlR, List.mem_cons, List.not_mem_nil, or_false]
    omega
  · exact ⟨by rw [b.2 48 (by decide)]; exact h1.1, by rw [b.2 52 (by decide)]; exact h1.2.1, by rw [b.2 47 (by decide)]; exact h1.2.2⟩
/-! seed -/
def u_dr (g : Il) (v : Nat) : Il := (i_set g, i_n g, i_hr g, v, i_kd g, i_wt g, i_ce g, i_sp g, i_pr g)
theorem nat_of_nonneg {p : Int32} (h : 0 ≤ p) : p = nI p.toNatClampNeg ∧ p.toNatClampNeg < 2 ^ 31 := by
  obtain ⟨j, hj, e⟩ := nI_of (Int32.not_lt.mpr h)
  rw [e, nI_clamp hj]
  exact ⟨rfl, hj⟩
theorem op_seed (p : Int32) : Op (f_X6_seed p) (f_X7_seed p) := by
  refine op_of (fun q => if 0 ≤ p then nI (i_dr q.1) else -1) (fun q => if 0 ≤ p then (u_dr q.1 p.toNatClampNeg, q.2) else q) ?_ ?_ ?_
  · intro q hq
    by_cases h : 0 ≤ p
    · simp only [if_pos h]
      exact ⟨⟨hq.1.1, hq.1.2.1, (nat_of_nonneg h).2, hq.1.2.2.2⟩, hq.2⟩
    · simp only [if_neg h]; exact hq
  · intro S q h1 h2
    unfold f_X6_seed
    by_cases h : 0 ≤ p
    · simp only [if_pos h, gls]
      refine ⟨gI S 1 9 p, by rw [h1.1.2.2.2.1], Fr_gI (by decide), ?_, CP_eq (fun k x y => gI_k _ (by omega) _) h1.2⟩
      have := CI_dr p.toNatClampNeg h1.1
      rw [← (nat_of_nonneg h).1] at this
      exact this
    · simp only [if_neg h]
      exact ⟨S, rfl, Fr_rfl, h1⟩
  · intro S q h1 h2
    unfold f_X7_seed
    have e0 : (7 : Int32).toNatClampNeg = 7 := rfl
    have e1 : gin 7 416 = true := rfl
    by_cases h : 0 ≤ p
    · simp only [if_pos h, gls, e0, e1, if_pos]
      refine ⟨gI S 48 7 p, by rw [h1.1.2.2.2.1], FrM_gI (by decide) (Or.inl (by decide)), ⟨?_, ?_, ?_⟩⟩
      · obtain ⟨g1, g2, g3, g4, g5, g6⟩ := h1.1
        refine ⟨fun i hi => by rw [gI_i _ (by omega)]; exact g1 i hi, by rw [gI_i _ (by decide)]; exact g2, by rw [gI_i _ (by decide)]; exact g3, by rw [gI_s]; exact (nat_of_nonneg h).1, fun w hw => ?_, fun i hi => by rw [gI_i _ (by omega)]; exact g6 i hi⟩
        rw [gI_i _ (by omega), gI_i _ (by omega), gI_i _ (by omega), gI_i _ (by omega)]
        exact g5 w hw
      · exact h1.2.1
      · exact h1.2.2
    · simp only [if_neg h]
      exact ⟨S, rfl, FrM_rfl, h1⟩
