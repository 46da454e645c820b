theorem hl4 (l : Int32) {α : Type} (a b : α) : (if l < 0 then a else if l ≤ 3 then b else a) = if gin l 4 then b else a := by
  rw [n_0, n_3, rng2 l (by decide) (by decide), gin_rng]
  rfl
/-- why the class takes no items -/
theorem cFault {S : gSt} {j : Nat} (hj : j < 4) (l a b : Int32) (hl : gin l 4 = true) : (S.1 (33 + j) 1 = -1 → f_X6_itemsFault (nI j) l a b S = some (-11, S)) ∧ ∀ x z : Nat, x < 4 → z ≤ 24 → S.1 (33 + j) 1 = nI x → S.1 (33 + j) 2 = nI z → f_X6_itemsFault (nI j) l a b S = some (if nI x = l then (if spn z a b then 0 else -13) else -12, S) := by
  have g : gin (nI j) 4 = true := gin_t hj (by decide)
  unfold f_X6_itemsFault f_X2_isNothing
  rw [cSheet, g2s, g, bI_t, if_neg one0, hl4, hl, if_pos rfl, if_pos rfl, nI_clamp (by omega)]
  refine ⟨fun h => ?_, fun x z hx hz h1 h2 => ?_⟩
  · rw [h, if_neg (by decide), g2s, if_neg one0]
  · have h0 : (0 : Int32) ≤ nI x := by rw [n_0, nI_leI (by decide) (by omega)]; omega
    rw [h1, if_pos h0, g2s, if_pos rfl, if_pos rfl, h1, if_pos rfl, cSpans hz h2, g2s]
    by_cases hx2 : nI x = l
    · rw [if_pos hx2, if_pos hx2]
      cases spn z a b <;> rfl
    · rw [if_neg hx2, if_neg hx2]
def lw (l : Int32) (v : Int64) : Int64 := if l = 0 then ((v.toInt32).toInt8.toInt32).toInt64 else if l = 1 then ((v.toInt32).toInt16.toInt32).toInt64 else if l = 2 then (v.toInt32).toInt64 else v
theorem cLow {l : Nat} (hl : l < 4) (v : Int64) (S : gSt) : f_X6_lowestBits (nI l) v S = some (lw (nI l) v, S) := by
  have : l = 0 ∨ l = 1 ∨ l = 2 ∨ l = 3 := by omega
  unfold f_X6_lowestBits lw
  rcases this with rfl | rfl | rfl | rfl
  · rw [if_neg (by decide), if_pos (by decide), if_pos (by decide)]
  · rw [if_neg (by decide), if_neg (by decide), if_pos (by decide), if_neg (by decide), if_pos (by decide)]
  · rw [if_neg (by decide), if_neg (by decide), if_neg (by decide), if_pos (by decide), if_neg (by decide), if_neg (by decide), if_pos (by decide)]
  · rw [if_pos (by decide), if_neg (by decide), if_neg (by decide), if_neg (by decide)]
