/-! a row of walkers, class and reference -/
theorem gLoop_c {P R : Type} {step : P → Option (P ⊕ R)} {f : Nat} {p p' : P} (h : step p = some (.inl p')) : gLoop step (f + 1) p = gLoop step f p' := by rw [gLoop, h]; rfl
theorem gLoop_e {P R : Type} {step : P → Option (P ⊕ R)} {f : Nat} {p : P} {r : R} (h : step p = some (.inr r)) : gLoop step (f + 1) p = some r := by rw [gLoop, h]; rfl
def FrC (S S' : gSt) : Prop := S'.2 = S.2 ∧ (∀ k, k ≠ 27 → k ≠ 29 → k ≠ 30 → k ≠ 31 → S'.1 k = S.1 k) ∧ ∀ j, j ≠ 5 → j ≠ 8 → S'.1 27 j = S.1 27 j
def FrR (S S' : gSt) : Prop := S'.2 = S.2 ∧ (∀ k, k ≠ 47 → k ≠ 51 → S'.1 k = S.1 k) ∧ ∀ j, j ≠ 4 → j ≠ 5 → S'.1 47 j = S.1 47 j
theorem FrC_rfl {S : gSt} : FrC S S := ⟨rfl, fun _ _ _ _ _ => rfl, fun _ _ _ => rfl⟩
theorem FrR_rfl {S : gSt} : FrR S S := ⟨rfl, fun _ _ _ => rfl, fun _ _ _ => rfl⟩
theorem FrC.trans {S T U : gSt} (h1 : FrC S T) (h2 : FrC T U) : FrC S U := ⟨h2.1.trans h1.1, fun k a b c d => (h2.2.1 k a b c d).trans (h1.2.1 k a b c d), fun j a b => (h2.2.2 j a b).trans (h1.2.2 j a b)⟩
theorem FrR.trans {S T U : gSt} (h1 : FrR S T) (h2 : FrR T U) : FrR S U := ⟨h2.1.trans h1.1, fun k a b => (h2.2.1 k a b).trans (h1.2.1 k a b), fun j a b => (h2.2.2 j a b).trans (h1.2.2 j a b)⟩
theorem FrC_27 {S : gSt} {j : Nat} {v : Int32} (h : j = 5 ∨ j = 8) : FrC S (gI S 27 j v) := ⟨rfl, fun k a _ _ _ => gI_k _ a _, fun i a b => gI_i _ (by omega) _⟩
theorem FrC_29 {S : gSt} {k j : Nat} {v : Int32} (h : k = 29 ∨ k = 30 ∨ k = 31) : FrC S (gI S k j v) := ⟨rfl, fun i a b c d => gI_k _ (by omega) _, fun i a b => by rw [gI_k _ (by omega)]⟩
theorem FrR_47 {S : gSt} {j : Nat} {v : Int32} (h : j = 4 ∨ j = 5) : FrR S (gI S 47 j v) := ⟨rfl, fun k a _ => gI_k _ a _, fun i a b => gI_i _ (by omega) _⟩
theorem FrR_51 {S : gSt} {j : Nat} {v : Int32} : FrR S (gI S 51 j v) := ⟨rfl, fun i a b => gI_k _ b _, fun i a b => by rw [gI_k _ (by decide)]⟩
section Rows
variable {L : Nat → Nat} {len : Nat}
theorem TC_fr {S S' : gSt} {p q : Nat} (h : TC L len S p) (hf : FrC S S') (hq : q ≤ len) (h5 : S'.1 27 5 = nI q) : TC L len S' q := ⟨hq, by rw [hf.2.2 4 (by decide) (by decide)]; exact h.2.1, h5, fun i hi => by rw [hf.2.1 28 (by decide) (by decide) (by decide) (by decide)]; exact h.2.2.2 i hi⟩
theorem TM_fr {S S' : gSt} {p q : Nat} {b c : Int32} (h : TM L len S p b) (hf : FrR S S') (hq : q ≤ len) (h4 : S'.1 47 4 = nI q) (h5 : S'.1 47 5 = c) : TM L len S' q c := ⟨hq, by rw [hf.2.2 3 (by decide) (by decide)]; exact h.2.1, h4, h5, fun i hi => by rw [hf.2.1 50 (by decide) (by decide)]; exact h.2.2.2.2 i hi⟩
def LpN (L : Nat → Nat) (len p p0 w k q : Nat) : Prop := q ≤ len ∧ (∀ (S : gSt) (fuel : Nat), TC L len S p → k < fuel → ∃ S', (gLoop f_X4_parse_s73 fuel (nI w, S) = some (Sum.inl (-20 - nI q, S')) ∨ (gLoop f_X4_parse_s73 fuel (nI w, S) = some (Sum.inr S') ∧ S'.1 27 5 = nI q)) ∧ FrC S S') ∧ ∀ (T : gSt) (fuel : Nat) (x1 x2 : Int32), TM L len T p0 0 → k + 1 < fuel → ∃ T' x3, gLoop f_X7_settle_s33 fuel (x1, x2, nI w, T) = some (x1, x2, x3, T') ∧ T'.1 47 5 = 1 ∧ T'.1 47 4 = nI q ∧ FrR T T'
def LpY (L : Nat → Nat) (len p p0 w k n : Nat) (K M C : Nat → Nat) : Prop := w < n ∧ n ≤ 6 ∧ (∀ i, w ≤ i → i < n → K i ≤ 4 ∧ 1 ≤ M i ∧ M i ≤ 9 ∧ C i < 64) ∧ (∀ (S : gSt) (fuel : Nat), TC L len S p → k < fuel → ∃ S', gLoop f_X4_parse_s73 fuel (nI w, S) = some (Sum.inl (nI n, S')) ∧ S'.1 27 8 = nI n ∧ (∀ i, w ≤ i → i < n → S'.1 29 i = nI (K i) ∧ S'.1 30 i = nI (M i) ∧ S'.1 31 i = nI (C i)) ∧ (∀ i, i < w → S'.1 29 i = S.1 29 i ∧ S'.1 30 i = S.1 30 i ∧ S'.1 31 i = S.1 31 i) ∧ FrC S S') ∧ ∀ (T : gSt) (fuel : Nat) (x1 x2 : Int32), TM L len T p0 0 → k + 1 < fuel → ∃ T', gLoop f_X7_settle_s33 fuel (x1, x2, nI w, T) = some (x1, x2, nI n, T') ∧ T'.1 47 5 = 0 ∧ (∀ i, w ≤ i → i < n → T'.1 51 (3 * i) = nI (K i) ∧ T'.1 51 (3 * i + 1) = nI (M i) ∧ T'.1 51 (3 * i + 2) = nI (C i)) ∧ (∀ i, i < 3 * w → T'.1 51 i = T.1 51 i) ∧ FrR T T'
/-- the reference's row ends at a fault -/
theorem mEnd {V : gSt} (h : V.1 47 5 = 1) (f : Nat) (x1 x2 x3 : Int32) : gLoop f_X7_settle_s33 (f + 1) (x1, x2, x3, V) = some (x1, x2, x3, V) := by
  refine gLoop_e ?_
  dsimp only [f_X7_settle_s33]
  unfold f_X7_settle_s33_b
  rw [h, if_neg one0]
theorem mJ76F {V : gSt} (h : V.1 47 5 = 1) (x1 x2 x3 : Int32) : f_X7_settle_j76 x1 x2 x3 V = some (.inl (x1, x2, x3 + 1, V)) := by
  unfold f_X7_settle_j76
  rw [h, if_neg one0]
/-- the reference comes to a comma -/
theorem mComma (hTP : TP L len) {T : gSt} {p p0 w : Nat} (h : TM L len T p0 0) (hw0 : 0 < w) (hw : w ≤ 6) (hs : sB L len p0 = p) (hp : p < len) (x1 x2 : Int32) : f_X7_settle_s33 (x1, x2, nI w, T) = f_X7_settle_j67 x1 x2 (nI w) (if 6 ≤ w then 0 else 1) (gI T 47 4 (nI p)) := by
  have hb := hTP.2 p hp
  dsimp only [f_X7_settle_s33]
  unfold f_X7_settle_s33_b
  rw [h.2.2.2.1, if_pos rfl, if_neg (nI_ne0 hw0 (by omega)), mHere hTP h, g2s, hs, if_pos hp, if_neg (nI_ne0 (by omega) (by omega))]
  unfold f_X7_settle_j51
  rw [if_neg (nI_nle hw0 (by omega)), n_6, ile (by decide) (by omega)]
  by_cases h6 : 6 ≤ w
  · rw [if_pos h6, if_pos h6]
  · rw [if_neg h6, if_neg h6]
theorem lp_B (hTP : TP L len) {k w p p0 p1 : Nat} (hk : k + 1 + w = 6) (ih : ∀ p p0, p ≤ len → p0 ≤ len → sB L len p0 = p → p < len → (∃ q, LpN L len p p0 (w + 1) k q) ∨ ∃ n K M C, LpY L len p p0 (w + 1) k n K M C) (hp1 : p1 ≤ len) (hc : ∀ S, TC L len S p → f_X4_parse_s73 (nI w, S) = f_X4_parse_j94 (nI w) (gI S 27 5 (nI p1))) (hm : ∀ (T : gSt) (x1 x2 : Int32), TM L len T p0 0 → f_X7_settle_s33 (x1, x2, nI w, T) = f_X7_settle_j76 x1 x2 (nI w) (gI T 47 4 (nI p1))) : (∃ q, LpN L len p p0 w (k + 1) q) ∨ ∃ n K M C, LpY L len p p0 w (k + 1) n K M C := by
  have hl := hTP.1
  rcases wk_sim hTP hp1 with ⟨q, q1, q2, q3, q4⟩ | ⟨q, a, m, c, q1, a1, m1, m2, c1, q3, q4⟩
  · left
    refine ⟨q, q1, fun S fuel h hf => ?_, fun T fuel x1 x2 h hf => ?_⟩
    · obtain ⟨f, rfl⟩ : ∃ f, fuel = f + 1 := ⟨fuel - 1, by omega⟩
      refine ⟨gI S 27 5 (nI q), Or.inl (gLoop_e ?_), FrC_27 (Or.inl rfl)⟩
      rw [hc S h]
      unfold f_X4_parse_j94
      rw [q3 _ w (TC_pl h hp1) (by omega), g2s, if_pos rfl, gI_gI, gI_s]
    · obtain ⟨f, rfl⟩ : ∃ f, fuel = f + 1 + 1 := ⟨fuel - 2, by omega⟩
      have h1 := TM_pl h hp1
      have s : f_X7_settle_s33 (x1, x2, nI w, T) = some (.inl (x1, x2, nI w + 1, gI (gI T 47 4 (nI q)) 47 5 1)) := by
        rw [hm T x1 x2 h]
        unfold f_X7_settle_j76
        rw [h1.2.2.2.1, if_pos rfl, q4 _ w h1 (by omega), Option.bind_some, gI_gI]
      rw [gLoop_c s, mEnd (gI_s _ _ _ _)]
      exact ⟨_, _, rfl, gI_s _ _ _ _, by rw [gI_i _ (by decide), gI_s], (FrR_47 (Or.inl rfl)).trans (FrR_47 (Or.inr rfl))⟩
  · have sq := sB_le (L := L) q1
    -- the class behind the walker
    have hcs : ∀ S, TC L len S p → ∃ U, f_X4_parse_s73 (nI w, S) = (if sB L len q < len then some (.inl (nI (w + 1), U)) else some (.inr (.inl (nI (w + 1), U)))) ∧ TC L len U (sB L len q) ∧ FrC S U ∧ U.1 27 8 = nI (w + 1) ∧ U.1 29 w = nI a ∧ U.1 30 w = nI m ∧ U.1 31 w = nI c ∧ ∀ i, i < w → U.1 29 i = S.1 29 i ∧ U.1 30 i = S.1 30 i ∧ U.1 31 i = S.1 31 i := by
      intro S h
      rw [hc S h]
      unfold f_X4_parse_j94
      rw [q3 _ w (TC_pl h hp1) (by omega), g2s, if_neg one0, gI_gI, gls, nI_1]
      obtain ⟨V, hV⟩ : ∃ V, V = gI (gI (gI (gI (gI S 27 5 (nI q)) 29 w (nI a)) 30 w (nI m)) 31 w (nI c)) 27 8 (nI (w + 1)) := ⟨_, rfl⟩
      rw [← hV]
      have f1 : FrC S V := by
        rw [hV]
        exact ((((FrC_27 (Or.inl rfl)).trans (FrC_29 (by omega))).trans (FrC_29 (by omega))).trans (FrC_29 (by omega))).trans (FrC_27 (Or.inr rfl))
      have v5 : V.1 27 5 = nI q := by rw [hV, gI_i _ (by decide), gI_k _ (by decide), gI_k _ (by decide), gI_k _ (by decide), gI_s]
      have hTV := TC_fr h f1 q1 v5
      rw [cSkip hTP hTV, Option.bind_some]
      have hTU := TC_pl hTV sq
      refine ⟨gI V 27 5 (nI (sB L len q)), ?_, hTU, f1.trans (FrC_27 (Or.inl rfl)), ?_, ?_, ?_, ?_, fun i hi => ⟨?_, ?_, ?_⟩⟩
      · have e8 : (gI V 27 5 (nI (sB L len q))).1 27 8 = nI (w + 1) := by rw [gI_i _ (by decide), hV, gI_s]
        rw [gI_s, hTU.2.1, e8]
        by_cases h1 : sB L len q < len
        · rw [if_pos h1, if_pos ((nI_ltI (by omega) (by omega)).mpr h1)]
        · rw [if_neg h1, if_neg (fun z => h1 ((nI_ltI (by omega) (by omega)).mp z))]
      · rw [gI_i _ (by decide), hV, gI_s]
      · rw [gI_k _ (by decide), hV, gI_k _ (by decide), gI_k _ (by decide), gI_k _ (by decide), gI_s]
      · rw [gI_k _ (by decide), hV, gI_k _ (by decide), gI_k _ (by decide), gI_s]
      · rw [gI_k _ (by decide), hV, gI_k _ (by decide), gI_s]
      · rw [gI_k _ (by decide), hV, gI_k _ (by decide), gI_k _ (by decide), gI_k _ (by decide), gI_i _ (by omega), gI_k _ (by decide)]
      · rw [gI_k _ (by decide), hV, gI_k _ (by decide), gI_k _ (by decide), gI_i _ (by omega), gI_k _ (by decide), gI_k _ (by decide)]
      · rw [gI_k _ (by decide), hV, gI_k _ (by decide), gI_i _ (by omega), gI_k _ (by decide), gI_k _ (by decide), gI_k _ (by decide)]
    have hms : ∀ (T : gSt) (x1 x2 : Int32), TM L len T p0 0 → ∃ U, f_X7_settle_s33 (x1, x2, nI w, T) = some (.inl (x1, x2, nI (w + 1), U)) ∧ TM L len U q 0 ∧ FrR T U ∧ U.1 51 (3 * w) = nI a ∧ U.1 51 (3 * w + 1) = nI m ∧ U.1 51 (3 * w + 2) = nI c ∧ ∀ i, i < 3 * w → U.1 51 i = T.1 51 i := by
      intro T x1 x2 h
      have h1 := TM_pl h hp1
      obtain ⟨V, hV⟩ : ∃ V, V = gI (gI (gI (gI T 47 4 (nI q)) 51 (3 * w) (nI a)) 51 (3 * w + 1) (nI m)) 51 (3 * w + 2) (nI c) := ⟨_, rfl⟩
      have f1 : FrR T V := by
        rw [hV]
        exact (((FrR_47 (Or.inl rfl)).trans FrR_51).trans FrR_51).trans FrR_51
      have v4 : V.1 47 4 = nI q := by rw [hV, gI_k _ (by decide), gI_k _ (by decide), gI_k _ (by decide), gI_s]
      have v5 : V.1 47 5 = 0 := by rw [hV, gI_k _ (by decide), gI_k _ (by decide), gI_k _ (by decide), gI_i _ (by decide)]; exact h.2.2.2.1
      refine ⟨V, ?_, TM_fr h f1 q1 v4 v5, f1, ?_, ?_, ?_, fun i hi => ?_⟩
      · rw [hm T x1 x2 h]
        unfold f_X7_settle_j76
        rw [h1.2.2.2.1, if_pos rfl, q4 _ w h1 (by omega), Option.bind_some, gI_gI, nI_1, hV]
      · rw [hV, gI_i _ (by omega), gI_i _ (by omega), gI_s]
      · rw [hV, gI_i _ (by omega), gI_s]
      · rw [hV, gI_s]
      · rw [hV, gI_i _ (by omega), gI_i _ (by omega), gI_i _ (by omega), gI_k _ (by decide)]
    by_cases hlt : sB L len q < len
    · rcases ih (sB L len q) q sq q1 rfl hlt with ⟨r, r1, r2, r3⟩ | ⟨n, K, M, C, n1, n2, n3, n4, n5⟩
      · left
        refine ⟨r, r1, fun S fuel h hf => ?_, fun T fuel x1 x2 h hf => ?_⟩
        · obtain ⟨f, rfl⟩ : ∃ f, fuel = f + 1 := ⟨fuel - 1, by omega⟩
          obtain ⟨U, u1, u2, u3, -⟩ := hcs S h
          rw [if_pos hlt] at u1
          rw [gLoop_c u1]
          obtain ⟨S', v1, v2⟩ := r2 U f u2 (by omega)
          exact ⟨S', v1, u3.trans v2⟩
        · obtain ⟨f, rfl⟩ : ∃ f, fuel = f + 1 := ⟨fuel - 1, by omega⟩
          obtain ⟨U, u1, u2, u3, -⟩ := hms T x1 x2 h
          rw [gLoop_c u1]
          obtain ⟨T', x3, v1, v2, v3, v4⟩ := r3 U f x1 x2 u2 (by omega)
          exact ⟨T', x3, v1, v2, v3, u3.trans v4⟩
      · right
        refine ⟨n, fun i => if i = w then a else K i, fun i => if i = w then m else M i, fun i => if i = w then c else C i, by omega, n2, fun i h1 h2 => ?_, fun S fuel h hf => ?_, fun T fuel x1 x2 h hf => ?_⟩
        · by_cases hi : i = w
          · simp only [if_pos hi]; exact ⟨a1, m1, m2, c1⟩
          · simp only [if_neg hi]; exact n3 i (by omega) h2
        · obtain ⟨f, rfl⟩ : ∃ f, fuel = f + 1 := ⟨fuel - 1, by omega⟩
          obtain ⟨U, u1, u2, u3, u4, u5, u6, u7, u8⟩ := hcs S h
          rw [if_pos hlt] at u1
          rw [gLoop_c u1]
          obtain ⟨S', v1, v2, v3, v4, v5⟩ := n4 U f u2 (by omega)
          refine ⟨S', v1, v2, fun i h1 h2 => ?_, fun i hi => ?_, u3.trans v5⟩
          · by_cases hi : i = w
            · simp only [if_pos hi]
              obtain ⟨w1, w2, w3⟩ := v4 i (by omega)
              rw [w1, w2, w3, hi]
              exact ⟨u5, u6, u7⟩
            · simp only [if_neg hi]; exact v3 i (by omega) h2
          · obtain ⟨w1, w2, w3⟩ := v4 i (by omega)
            rw [w1, w2, w3]
            exact u8 i hi
        · obtain ⟨f, rfl⟩ : ∃ f, fuel = f + 1 := ⟨fuel - 1, by omega⟩
          obtain ⟨U, u1, u2, u3, u5, u6, u7, u8⟩ := hms T x1 x2 h
          rw [gLoop_c u1]
          obtain ⟨T', v1, v2, v3, v4, v5⟩ := n5 U f x1 x2 u2 (by omega)
          refine ⟨T', v1, v2, fun i h1 h2 => ?_, fun i hi => ?_, u3.trans v5⟩
          · by_cases hi : i = w
            · simp only [if_pos hi]
              rw [hi, v4 _ (by omega), v4 _ (by omega), v4 _ (by omega)]
              exact ⟨u5, u6, u7⟩
            · simp only [if_neg hi]; exact v3 i (by omega) h2
          · rw [v4 i (by omega)]; exact u8 i hi
    · right
      refine ⟨w + 1, fun _ => a, fun _ => m, fun _ => c, by omega, by omega, fun i _ _ => ⟨a1, m1, m2, c1⟩, fun S fuel h hf => ?_, fun T fuel x1 x2 h hf => ?_⟩
      · obtain ⟨f, rfl⟩ : ∃ f, fuel = f + 1 := ⟨fuel - 1, by omega⟩
        obtain ⟨U, u1, u2, u3, u4, u5, u6, u7, u8⟩ := hcs S h
        rw [if_neg hlt] at u1
        rw [gLoop_e u1]
        refine ⟨U, rfl, u4, fun i h1 h2 => ?_, u8, u3⟩
        rw [show i = w by omega]
        exact ⟨u5, u6, u7⟩
      · obtain ⟨f, rfl⟩ : ∃ f, fuel = f + 1 + 1 := ⟨fuel - 2, by omega⟩
        obtain ⟨U, u1, u2, u3, u5, u6, u7, u8⟩ := hms T x1 x2 h
        have s : f_X7_settle_s33 (x1, x2, nI (w + 1), U) = some (.inr (x1, x2, nI (w + 1), gI U 47 4 (nI (sB L len q)))) := by
          dsimp only [f_X7_settle_s33]
          unfold f_X7_settle_s33_b
          rw [u2.2.2.2.1, if_pos rfl, if_neg (nI_ne0 (by omega) (by omega)), mHere hTP u2, g2s, if_neg hlt, if_pos (show nI 0 = 0 from rfl)]
        rw [gLoop_c u1, gLoop_e s]
        refine ⟨_, rfl, by rw [gI_i _ (by decide)]; exact u2.2.2.2.1, fun i h1 h2 => ?_, fun i hi => ?_, u3.trans (FrR_47 (Or.inl rfl))⟩
        · rw [show i = w by omega, gI_k _ (by decide)]
          exact ⟨u5, u6, u7⟩
        · rw [gI_k _ (by decide)]; exact u8 i hi
theorem lp_sim (hTP : TP L len) : ∀ (k w p p0 : Nat), k + w = 6 → p ≤ len → p0 ≤ len → ((w = 0 ∧ p0 = p) ∨ (0 < w ∧ sB L len p0 = p ∧ p < len)) → (∃ q, LpN L len p p0 w k q) ∨ ∃ n K M C, LpY L len p p0 w k n K M C := by
  have hl := hTP.1
  intro k
  induction k with
  | zero =>
    intro w p p0 hk hp hp0 hh
    rcases hh with ⟨h1, h2⟩ | ⟨h1, h2, h3⟩
    · omega
    · left
      obtain rfl : w = 6 := by omega
      refine ⟨p, hp, fun S fuel h hf => ?_, fun T fuel x1 x2 h hf => ?_⟩
      · obtain ⟨f, rfl⟩ : ∃ f, fuel = f + 1 := ⟨fuel - 1, by omega⟩
        refine ⟨S, Or.inr ⟨gLoop_e ?_, h.2.2.1⟩, FrC_rfl⟩
        dsimp only [f_X4_parse_s73]
        unfold f_X4_parse_s73_b
        rw [if_pos (by decide)]
      · obtain ⟨f, rfl⟩ : ∃ f, fuel = f + 1 + 1 := ⟨fuel - 2, by omega⟩
        have hpl := TM_pl h hp
        have hfl := TM_fl (c := 1) hpl
        have s : f_X7_settle_s33 (x1, x2, nI 6, T) = some (.inl (x1, x2, nI 6 + 1, gI (gI T 47 4 (nI p)) 47 5 1)) := by
          rw [mComma hTP h (by decide) (by decide) h2 h3, if_pos (by decide)]
          unfold f_X7_settle_j67
          rw [mMust0 hpl.2.2.2.1, Option.bind_some, mTkF hTP hfl (by rw [← h2]; exact sB_id hl), Option.bind_some, mJ76F (gI_s _ _ _ _)]
        rw [gLoop_c s, mEnd (gI_s _ _ _ _)]
        exact ⟨_, _, rfl, gI_s _ _ _ _, by rw [gI_i _ (by decide), gI_s], (FrR_47 (Or.inl rfl)).trans (FrR_47 (Or.inr rfl))⟩
  | succ k ih =>
    intro w p p0 hk hp hp0 hh
    have ih' : ∀ p p0, p ≤ len → p0 ≤ len → sB L len p0 = p → p < len → (∃ q, LpN L len p p0 (w + 1) k q) ∨ ∃ n K M C, LpY L len p p0 (w + 1) k n K M C := fun p p0 a b c d => ih (w + 1) p p0 (by omega) a b (Or.inr ⟨by omega, c, d⟩)
    rcases hh with ⟨rfl, h2⟩ | ⟨h1, h2, h3⟩
    · refine lp_B hTP hk ih' hp (fun S h => ?_) (fun T x1 x2 h => ?_)
      · rw [gI_self S h.2.2.1]
        dsimp only [f_X4_parse_s73]
        unfold f_X4_parse_s73_b
        rw [if_neg (by decide), if_pos (by decide)]
      · rw [h2] at h
        rw [gI_self T h.2.2.1]
        dsimp only [f_X7_settle_s33]
        unfold f_X7_settle_s33_b
        rw [h.2.2.2.1, if_pos rfl, if_pos (by decide)]
        unfold f_X7_settle_j51
        rw [if_pos (by decide)]
    · have hsp : sB L len p = p := by rw [← h2]; exact sB_id hl
      by_cases hc : tkc L len 44 44 p
      · refine lp_B hTP hk ih' (p1 := p + 1) (by omega) (fun S h => ?_) (fun T x1 x2 h => ?_)
        · have k1 := cTakeY hTP h (by decide) (by decide) hc
          rw [hsp] at k1
          have k1 : f_X4_take 44 44 S = _ := k1
          have hb := hc.2
          rw [hsp] at hb
          dsimp only [f_X4_parse_s73]
          unfold f_X4_parse_s73_b
          rw [if_neg (by rw [n_6, nI_leI (by omega) (by omega)]; omega), if_neg (nI_nle h1 (by omega)), k1, g2s, if_neg (nI_pos (by omega))]
        · have hpl := TM_pl h hp
          have k1 := mTkY hTP hpl (by decide) hc
          rw [hsp, gI_gI] at k1
          have k1 : f_X7_takes 44 (gI T 47 4 (nI p)) = _ := k1
          rw [mComma hTP h h1 (by omega) h2 h3, if_neg (by omega)]
          unfold f_X7_settle_j67
          rw [mMust1 hpl.2.2.2.1, Option.bind_some, k1, Option.bind_some]
      · left
        refine ⟨p, hp, fun S fuel h hf => ?_, fun T fuel x1 x2 h hf => ?_⟩
        · obtain ⟨f, rfl⟩ : ∃ f, fuel = f + 1 := ⟨fuel - 1, by omega⟩
          have k1 := cTakeN hTP h (by decide) (by decide) hc
          rw [hsp] at k1
          have k1 : f_X4_take 44 44 S = _ := k1
          refine ⟨gI S 27 5 (nI p), Or.inl (gLoop_e ?_), FrC_27 (Or.inl rfl)⟩
          dsimp only [f_X4_parse_s73]
          unfold f_X4_parse_s73_b
          rw [if_neg (by rw [n_6, nI_leI (by omega) (by omega)]; omega), if_neg (nI_nle h1 (by omega)), k1, g2s, if_pos (by decide), gI_s]
        · obtain ⟨f, rfl⟩ : ∃ f, fuel = f + 1 + 1 := ⟨fuel - 2, by omega⟩
          have hpl := TM_pl h hp
          have k1 := mTkN hTP hpl (by decide) (by decide) hc
          rw [hsp, gI_gI] at k1
          have k1 : f_X7_takes 44 (gI T 47 4 (nI p)) = _ := k1
          have s : f_X7_settle_s33 (x1, x2, nI w, T) = some (.inl (x1, x2, nI w + 1, gI (gI T 47 4 (nI p)) 47 5 1)) := by
            rw [mComma hTP h h1 (by omega) h2 h3, if_neg (by omega)]
            unfold f_X7_settle_j67
            rw [mMust1 hpl.2.2.2.1, Option.bind_some, k1, Option.bind_some, mJ76F (gI_s _ _ _ _)]
          rw [gLoop_c s, mEnd (gI_s _ _ _ _)]
          exact ⟨_, _, rfl, gI_s _ _ _ _, by rw [gI_i _ (by decide), gI_s], (FrR_47 (Or.inl rfl)).trans (FrR_47 (Or.inr rfl))⟩
end Rows
