/-! the isle as numbers: settings, walkers, hour, draw; of a walker kind, weight, cell, steps; prints -/
abbrev Il : Type := (Nat → Nat) × Nat × Nat × Nat × (Nat → Nat) × (Nat → Nat) × (Nat → Nat) × (Nat → Int32) × (Nat → Nat)
abbrev i_set (g : Il) : Nat → Nat := g.1
abbrev i_n (g : Il) : Nat := g.2.1
abbrev i_hr (g : Il) : Nat := g.2.2.1
abbrev i_dr (g : Il) : Nat := g.2.2.2.1
abbrev i_kd (g : Il) : Nat → Nat := g.2.2.2.2.1
abbrev i_wt (g : Il) : Nat → Nat := g.2.2.2.2.2.1
abbrev i_ce (g : Il) : Nat → Nat := g.2.2.2.2.2.2.1
abbrev i_sp (g : Il) : Nat → Int32 := g.2.2.2.2.2.2.2.1
abbrev i_pr (g : Il) : Nat → Nat := g.2.2.2.2.2.2.2.2
/-- what may be undone: hour, draw, cells, steps, prints -/
abbrev Sn : Type := Nat × Nat × (Nat → Nat) × (Nat → Int32) × (Nat → Nat)
abbrev Pa : Type := Nat × (Nat → Sn)
def WFset (s : Nat → Nat) : Prop := s 0 ≤ 8 ∧ s 1 ≤ 9 ∧ s 2 ≤ 3 ∧ 2 ≤ s 3 ∧ s 3 ≤ 12 ∧ s 4 ≤ 8
def WFpr (n : Nat) (P : Nat → Nat) : Prop := (∀ i, P i ≤ 99) ∧ ∀ i, 64 * n ≤ i → P i = 0
def WFI (g : Il) : Prop := i_n g ≤ 6 ∧ i_hr g ≤ 9999 ∧ i_dr g < 2 ^ 31 ∧ WFset (i_set g) ∧ (∀ w, w < i_n g → i_kd g w ≤ 4 ∧ 1 ≤ i_wt g w ∧ i_wt g w ≤ 9 ∧ i_ce g w < 64) ∧ WFpr (i_n g) (i_pr g)
def WFS (n : Nat) (s : Sn) : Prop := s.1 ≤ 9999 ∧ s.2.1 < 2 ^ 31 ∧ (∀ w, w < n → s.2.2.1 w < 64) ∧ WFpr n s.2.2.2.2
def WF (q : Il × Pa) : Prop := WFI q.1 ∧ q.2.1 ≤ 8 ∧ ∀ k, k < q.2.1 → WFS (i_n q.1) (q.2.2 k)
/-- the class's isle at object b -/
def CI (S : gSt) (b : Nat) (g : Il) : Prop := (∀ i, i < 5 → S.1 (b + 1) i = nI (i_set g i)) ∧ S.1 b 7 = nI (i_n g) ∧ S.1 b 8 = nI (i_hr g) ∧ S.1 b 9 = nI (i_dr g) ∧
  (∀ w, w < i_n g → S.1 (b + 2) w = nI (i_kd g w) ∧ S.1 (b + 3) w = nI (i_wt g w) ∧ S.1 (b + 4) w = nI (i_ce g w) ∧ S.1 (b + 5) w = i_sp g w) ∧ ∀ i, i < 384 → S.1 (b + 6) i = nI (i_pr g i)
/-- the reference's row -/
def MI (f : Nat → Int32) (g : Il) : Prop := (∀ i, i < 5 → f i = nI (i_set g i)) ∧ f 5 = nI (i_n g) ∧ f 6 = nI (i_hr g) ∧ f 7 = nI (i_dr g) ∧
  (∀ w, w < i_n g → f (8 + 4 * w) = nI (i_kd g w) ∧ f (9 + 4 * w) = nI (i_wt g w) ∧ f (10 + 4 * w) = nI (i_ce g w) ∧ f (11 + 4 * w) = i_sp g w) ∧ ∀ i, i < 384 → f (32 + i) = nI (i_pr g i)
def CSn (S : gSt) (b n j : Nat) (s : Sn) : Prop := S.1 (b + 11) j = nI s.1 ∧ S.1 (b + 12) j = nI s.2.1 ∧ (∀ w, w < n → S.1 (b + 9) (6 * j + w) = nI (s.2.2.1 w) ∧ S.1 (b + 10) (6 * j + w) = s.2.2.2.1 w) ∧ ∀ i, i < 384 → S.1 (b + 8) (384 * j + i) = nI (s.2.2.2.2 i)
def CP (S : gSt) (b n : Nat) (pa : Pa) : Prop := S.1 (b + 7) 6 = nI pa.1 ∧ ∃ nx, nx < 8 ∧ S.1 (b + 7) 5 = nI nx ∧ ∀ k, k < pa.1 → CSn S b n ((nx + 8 - pa.1 + k) % 8) (pa.2 k)
def MSn (f : Nat → Int32) (g : Il) (s : Sn) : Prop := f 6 = nI s.1 ∧ f 7 = nI s.2.1 ∧ (∀ w, w < i_n g → f (8 + 4 * w) = nI (i_kd g w) ∧ f (9 + 4 * w) = nI (i_wt g w) ∧ f (10 + 4 * w) = nI (s.2.2.1 w) ∧ f (11 + 4 * w) = s.2.2.2.1 w) ∧ ∀ i, i < 384 → f (32 + i) = nI (s.2.2.2.2 i)
def MP (u : Nat → Int32) (g : Il) (pa : Pa) : Prop := ∀ k, k < pa.1 → MSn (fun i => u (416 * k + i)) g (pa.2 k)
def RC (S : gSt) (b : Nat) (q : Il × Pa) : Prop := CI S b q.1 ∧ CP S b (i_n q.1) q.2
def RMn (S : gSt) (q : Il × Pa) : Prop := MI (S.1 48) q.1 ∧ MP (S.1 52) q.1 q.2 ∧ S.1 47 8 = nI q.2.1
def RMk (S : gSt) (q : Il × Pa) : Prop := MI (S.1 56) q.1 ∧ MP (fun i => S.1 56 (416 + i)) q.1 q.2 ∧ S.1 47 13 = nI q.2.1
def RN (S : gSt) (q : Il × Pa) : Prop := RC S 1 q ∧ RMn S q ∧ WF q
def RK (S : gSt) : Prop := (S.1 0 2 = 0 ∧ S.1 47 14 = 0) ∨ (S.1 0 2 = 1 ∧ S.1 47 14 = 1 ∧ ∃ q, RC S 14 q ∧ RMk S q ∧ WF q)
def RT (S : gSt) : Prop := ∃ len, len ≤ 60 ∧ S.1 27 4 = nI len ∧ S.1 47 3 = nI len ∧ ∀ i, i < len → ∃ v, 32 ≤ v ∧ v ≤ 126 ∧ S.1 28 i = nI v ∧ S.1 50 i = nI v
def RS (S : gSt) : Prop := ∀ j, j < 4 → ((S.1 (33 + j) 1 = -1 ∧ S.1 57 j = -1) ∨ ∃ l z, l < 4 ∧ z ≤ 24 ∧ S.1 (33 + j) 1 = nI l ∧ S.1 57 j = nI l ∧ S.1 (33 + j) 2 = nI z ∧ S.1 58 j = nI z) ∧ ∀ i, i < 24 → S.2 (37 + j) i = S.2 59 (24 * j + i)
def Rel (S : gSt) : Prop := (∃ q, RN S q) ∧ RK S ∧ RT S ∧ RS S
/-- one call: the class answers, then the reference, alike; the relation holds again -/
def Op (fx fm : gSt → Option (Int32 × gSt)) : Prop := ∀ S, Rel S → ∃ r S1 S2, fx S = some (r, S1) ∧ fm S1 = some (r, S2) ∧ Rel S2
/-- regions that the relation does not speak of -/
def irr : List Nat := [29, 30, 31, 41, 42, 43, 44, 45, 46, 49, 51, 53, 54, 55]
theorem CI_eq {S S' : gSt} {b : Nat} {g : Il} (h : ∀ k, b ≤ k → k ≤ b + 6 → S'.1 k = S.1 k) : CI S b g → CI S' b g := by
  rintro ⟨h1, h2, h3, h4, h5, h6⟩
  refine ⟨fun i hi => by rw [h _ (by omega) (by omega)]; exact h1 i hi, by rw [h _ (by omega) (by omega)]; exact h2, by rw [h _ (by omega) (by omega)]; exact h3, by rw [h _ (by omega) (by omega)]; exact h4, fun w hw => ?_, fun i hi => by rw [h _ (by omega) (by omega)]; exact h6 i hi⟩
  rw [h (b + 2) (by omega) (by omega), h (b + 3) (by omega) (by omega), h (b + 4) (by omega) (by omega), h (b + 5) (by omega) (by omega)]
  exact h5 w hw
theorem CSn_eq {S S' : gSt} {b n j : Nat} {s : Sn} (h : ∀ k, b + 7 ≤ k → k ≤ b + 12 → S'.1 k = S.1 k) : CSn S b n j s → CSn S' b n j s := by
  rintro ⟨h1, h2, h3, h4⟩
  refine ⟨by rw [h _ (by omega) (by omega)]; exact h1, by rw [h _ (by omega) (by omega)]; exact h2, fun w hw => ?_, fun i hi => by rw [h _ (by omega) (by omega)]; exact h4 i hi⟩
  rw [h (b + 9) (by omega) (by omega), h (b + 10) (by omega) (by omega)]
  exact h3 w hw
theorem CP_eq {S S' : gSt} {b n : Nat} {pa : Pa} (h : ∀ k, b + 7 ≤ k → k ≤ b + 12 → S'.1 k = S.1 k) : CP S b n pa → CP S' b n pa := by
  rintro ⟨h1, nx, h2, h3, h4⟩
  exact ⟨by rw [h _ (by omega) (by omega)]; exact h1, nx, h2, by rw [h _ (by omega) (by omega)]; exact h3, fun k hk => CSn_eq h (h4 k hk)⟩
theorem RC_eq {S S' : gSt} {b : Nat} {q : Il × Pa} (h : ∀ k, b ≤ k → k ≤ b + 12 → S'.1 k = S.1 k) : RC S b q → RC S' b q := fun ⟨h1, h2⟩ => ⟨CI_eq (fun k a c => h k a (by omega)) h1, CP_eq (fun k a c => h k (by omega) c) h2⟩
theorem RN_eq {S S' : gSt} {q : Il × Pa} (h : ∀ k, 1 ≤ k → k ≤ 13 → S'.1 k = S.1 k) (h47 : S'.1 47 8 = S.1 47 8) (h48 : S'.1 48 = S.1 48) (h52 : S'.1 52 = S.1 52) : RN S q → RN S' q := by
  rintro ⟨h1, ⟨h2, h3, h4⟩, h5⟩
  exact ⟨RC_eq (fun k a c => h k a (by omega)) h1, ⟨by rw [h48]; exact h2, by rw [h52]; exact h3, by rw [h47]; exact h4⟩, h5⟩
theorem RK_eq {S S' : gSt} (h : ∀ k, 14 ≤ k → k ≤ 26 → S'.1 k = S.1 k) (h0 : S'.1 0 2 = S.1 0 2) (h47 : S'.1 47 13 = S.1 47 13) (h47b : S'.1 47 14 = S.1 47 14) (h56 : S'.1 56 = S.1 56) : RK S → RK S' := by
  rintro (⟨h1, h2⟩ | ⟨h1, h2, q, h3, ⟨h4, h5, h6⟩, h7⟩)
  · exact Or.inl ⟨by rw [h0]; exact h1, by rw [h47b]; exact h2⟩
  · exact Or.inr ⟨by rw [h0]; exact h1, by rw [h47b]; exact h2, q, RC_eq (fun k a c => h k a (by omega)) h3, ⟨by rw [h56]; exact h4, by rw [h56]; exact h5, by rw [h47]; exact h6⟩, h7⟩
theorem RT_eq {S S' : gSt} (h1 : S'.1 27 4 = S.1 27 4) (h2 : S'.1 47 3 = S.1 47 3) (h3 : S'.1 28 = S.1 28) (h4 : S'.1 50 = S.1 50) : RT S → RT S' := by
  rintro ⟨len, a, b, c, d⟩
  exact ⟨len, a, by rw [h1]; exact b, by rw [h2]; exact c, by rw [h3, h4]; exact d⟩
theorem RS_eq {S S' : gSt} (h : ∀ k, 33 ≤ k → k ≤ 36 → S'.1 k = S.1 k) (h57 : S'.1 57 = S.1 57) (h58 : S'.1 58 = S.1 58) (hj : ∀ k, 37 ≤ k → k ≤ 40 → S'.2 k = S.2 k) (h59 : S'.2 59 = S.2 59) : RS S → RS S' := by
  intro hs j hj4
  rw [h (33 + j) (by omega) (by omega), h57, h58, hj (37 + j) (by omega) (by omega), h59]
  exact hs j hj4
theorem Rel_irr {S S' : gSt} (hf : Fr irr S S') (hr : Rel S) : Rel S' := by
  have e : ∀ k, k ∉ irr → S'.1 k = S.1 k := hf.2
  obtain ⟨⟨q, h1⟩, h2, h3, h4⟩ := hr
  have nin : ∀ k, (k ≤ 28 ∨ (32 ≤ k ∧ k ≤ 40) ∨ k = 47 ∨ k = 48 ∨ k = 50 ∨ k = 52 ∨ 56 ≤ k) → k ∉ irr := by
    intro k hk hm
    simp only [irr, List.mem_cons, List.not_mem_nil, or_false] at hm
    omega
  refine ⟨⟨q, RN_eq (fun k a b => e k (nin k (by omega))) (by rw [e 47 (nin _ (by omega))]) (e 48 (nin _ (by omega))) (e 52 (nin _ (by omega))) h1⟩, RK_eq (fun k a b => e k (nin k (by omega))) (by rw [e 0 (nin _ (by omega))]) (by rw [e 47 (nin _ (by omega))]) (by rw [e 47 (nin _ (by omega))]) (e 56 (nin _ (by omega))) h2, RT_eq (by rw [e 27 (nin _ (by omega))]) (by rw [e 47 (nin _ (by omega))]) (e 28 (nin _ (by omega))) (e 50 (nin _ (by omega))) h3, RS_eq (fun k a b => e k (nin k (by omega))) (e 57 (nin _ (by omega))) (e 58 (nin _ (by omega))) (fun k _ _ => by rw [hf.1]) (by rw [hf.1]) h4⟩
