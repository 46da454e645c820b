/-! the past: keep (class), notes (reference) -/
def snap (g : Il) : Sn := (i_hr g, i_dr g, i_ce g, i_sp g, i_pr g)
def push (pa : Pa) (s : Sn) : Pa := if pa.1 = 8 then (8, fun k => if k = 7 then s else pa.2 (k + 1)) else (pa.1 + 1, fun k => if k = pa.1 then s else pa.2 k)
theorem WFS_snap {g : Il} (h : WFI g) : WFS (i_n g) (snap g) := ⟨h.2.1, h.2.2.1, fun w hw => (h.2.2.2.2.1 w hw).2.2.2, h.2.2.2.2.2⟩
theorem WF_push {q : Il × Pa} (h : WF q) : WF (q.1, push q.2 (snap q.1)) := by
  refine ⟨h.1, ?_, ?_⟩
  · show (push q.2 (snap q.1)).1 ≤ 8
    unfold push
    by_cases h8 : q.2.1 = 8
    · rw [if_pos h8]; exact Nat.le_refl _
    · rw [if_neg h8]
      have := h.2.1
      show q.2.1 + 1 ≤ 8
      omega
  · show ∀ k, k < (push q.2 (snap q.1)).1 → WFS (i_n q.1) ((push q.2 (snap q.1)).2 k)
    unfold push
    by_cases h8 : q.2.1 = 8
    · rw [if_pos h8]
      intro k hk
      show WFS (i_n q.1) (if k = 7 then snap q.1 else q.2.2 (k + 1))
      by_cases h7 : k = 7
      · rw [if_pos h7]; exact WFS_snap h.1
      · rw [if_neg h7]
        have hk : k < 8 := hk
        exact h.2.2 _ (by omega)
    · rw [if_neg h8]
      intro k hk
      show WFS (i_n q.1) (if k = q.2.1 then snap q.1 else q.2.2 k)
      by_cases h7 : k = q.2.1
      · rw [if_pos h7]; exact WFS_snap h.1
      · rw [if_neg h7]
        have hk : k < q.2.1 + 1 := hk
        exact h.2.2 _ (by omega)
theorem gcp_t {a b c n0 n1 : Nat} (h0 : a + c ≤ n0) (h1 : b + c ≤ n1) (hn : n0 < 2 ^ 31) (hm : n1 < 2 ^ 31) : gcp (nI a) (nI b) (nI c) n0 n1 = true := by
  unfold gcp
  rw [nI_clamp (by omega), nI_clamp (by omega), nI_clamp (by omega)]
  simp only [Bool.and_eq_true, Bool.not_eq_true', decide_eq_false_iff_not, decide_eq_true_eq]
  exact ⟨nI_pos (by omega), nI_pos (by omega), nI_pos (by omega), h0, h1⟩
def cK (S : gSt) (nx m : Nat) : gSt :=
  gI (gI (gI (gI (gR (gR (gR S 9 (va_cpy (S.1 7) (S.1 9) 0 (nx * 384) 384)) 10 (va_cpy (S.1 5) (S.1 10) 0 (nx * 6) 6)) 11 (va_cpy (S.1 6) (S.1 11) 0 (nx * 6) 6)) 12 nx (S.1 1 8)) 13 nx (S.1 1 9)) 8 5 (nI ((nx + 1) % 8))) 8 6 (nI (min (m + 1) 8))
theorem cK_fr (S : gSt) (nx m : Nat) : Fr [8, 9, 10, 11, 12, 13] S (cK S nx m) := by
  unfold cK
  exact ((((((Fr_gR (by decide)).trans (Fr_gR (by decide))).trans (Fr_gR (by decide))).trans (Fr_gI (by decide))).trans (Fr_gI (by decide))).trans (Fr_gI (by decide))).trans (Fr_gI (by decide))
theorem cK_9 (S : gSt) (nx m : Nat) : (cK S nx m).1 9 = va_cpy (S.1 7) (S.1 9) 0 (nx * 384) 384 := by
  unfold cK
  rw [gI_k _ (by decide), gI_k _ (by decide), gI_k _ (by decide), gI_k _ (by decide), gR_k _ (by decide), gR_k _ (by decide), gR_s]
theorem cK_10 (S : gSt) (nx m : Nat) : (cK S nx m).1 10 = va_cpy (S.1 5) (S.1 10) 0 (nx * 6) 6 := by
  unfold cK
  rw [gI_k _ (by decide), gI_k _ (by decide), gI_k _ (by decide), gI_k _ (by decide), gR_k _ (by decide), gR_s]
theorem cK_11 (S : gSt) (nx m : Nat) : (cK S nx m).1 11 = va_cpy (S.1 6) (S.1 11) 0 (nx * 6) 6 := by
  unfold cK
  rw [gI_k _ (by decide), gI_k _ (by decide), gI_k _ (by decide), gI_k _ (by decide), gR_s]
theorem cK_12 (S : gSt) (nx m : Nat) : (cK S nx m).1 12 nx = S.1 1 8 ∧ ∀ j, j ≠ nx → (cK S nx m).1 12 j = S.1 12 j := by
  unfold cK
  constructor
  · rw [gI_k _ (by decide), gI_k _ (by decide), gI_k _ (by decide), gI_s]
  · intro j hj
    rw [gI_k _ (by decide), gI_k _ (by decide), gI_k _ (by decide), gI_i _ hj, gR_k _ (by decide), gR_k _ (by decide), gR_k _ (by decide)]
theorem cK_13 (S : gSt) (nx m : Nat) : (cK S nx m).1 13 nx = S.1 1 9 ∧ ∀ j, j ≠ nx → (cK S nx m).1 13 j = S.1 13 j := by
  unfold cK
  constructor
  · rw [gI_k _ (by decide), gI_k _ (by decide), gI_s]
  · intro j hj
    rw [gI_k _ (by decide), gI_k _ (by decide), gI_i _ hj, gI_k _ (by decide), gR_k _ (by decide), gR_k _ (by decide), gR_k _ (by decide)]
theorem cK_8 (S : gSt) (nx m : Nat) : (cK S nx m).1 8 5 = nI ((nx + 1) % 8) ∧ (cK S nx m).1 8 6 = nI (min (m + 1) 8) := by
  unfold cK
  exact ⟨by rw [gI_i _ (by decide), gI_s], by rw [gI_s]⟩
theorem cKeep {S : gSt} {q : Il × Pa} (h1 : RC S 1 q) (h2 : WF q) : ∃ S', f_X1_keep S = some S' ∧ Fr [8, 9, 10, 11, 12, 13] S S' ∧ RC S' 1 (q.1, push q.2 (snap q.1)) := by
  obtain ⟨hI, hk, nx, hnx, hx, hc⟩ := h1
  have h6 := h2.1.1
  have h8 := h2.2.1
  have hx : S.1 8 5 = nI nx := hx
  have hk : S.1 8 6 = nI q.2.1 := hk
  refine ⟨cK S nx q.2.1, ?_, cK_fr _ _ _, CI_eq (fun k x y => (cK_fr _ _ _).2 k ?_) hI, ?_⟩
  · unfold f_X1_keep
    have z0 : (0 : Int32).toNatClampNeg = 0 := rfl
    have z6 : (6 : Int32).toNatClampNeg = 6 := rfl
    have z384 : (384 : Int32).toNatClampNeg = 384 := rfl
    have e1 : nI nx * 384 = nI (nx * 384) := by rw [n_384, pk_mul]
    have e2 : nI nx * 6 = nI (nx * 6) := by rw [n_6, pk_mul]
    have g1 : gcp 0 (nI (nx * 384)) 384 384 3072 = true := gcp_t (a := 0) (c := 384) (by omega) (by omega) (by decide) (by decide)
    have g2 : gcp 0 (nI (nx * 6)) 6 6 48 = true := gcp_t (a := 0) (c := 6) (by omega) (by omega) (by decide) (by decide)
    have g3 : gin (nI nx) 8 = true := gin_t hnx (by decide)
    have r1 : nI nx + 1 - (nI nx + 1) / 8 * 8 = nI ((nx + 1) % 8) := by rw [nI_1, r8 (by omega)]
    have r2 : (if nI q.2.1 + 1 < 8 then nI q.2.1 + 1 else 8) = nI (min (q.2.1 + 1) 8) := by
      rw [nI_1, n_8]
      by_cases hm : q.2.1 + 1 < 8
      · rw [if_pos (by rw [← Int32.not_le, nI_leI (by omega) (by omega)]; omega), Nat.min_eq_left (by omega)]
      · rw [if_neg (by rw [Int32.not_lt, nI_leI (by omega) (by omega)]; omega), Nat.min_eq_right (by omega)]
    have c1 : (nx * 384) < 2 ^ 31 := by omega
    have c2 : (nx * 6) < 2 ^ 31 := by omega
    have c3 : nx < 2 ^ 31 := by omega
    rw [hx, e1, g1, if_pos rfl, gls, z0, z384, nI_clamp c1, gR_k S (by decide), hx, e2, g2, if_pos rfl, gls, z6, nI_clamp c2]
    rw [gR_k _ (show (8 : Nat) ≠ 10 by decide), gR_k S (show (8 : Nat) ≠ 9 by decide), hx, e2, g2, if_pos rfl, gls, nI_clamp c2]
    rw [gR_k _ (show (8 : Nat) ≠ 11 by decide), gR_k _ (show (8 : Nat) ≠ 10 by decide), gR_k S (show (8 : Nat) ≠ 9 by decide), hx, g3, if_pos rfl, gls, nI_clamp c3]
    rw [gI_k _ (show (8 : Nat) ≠ 12 by decide), gR_k _ (show (8 : Nat) ≠ 11 by decide), gR_k _ (show (8 : Nat) ≠ 10 by decide), gR_k S (show (8 : Nat) ≠ 9 by decide), hx, g3, if_pos rfl, gls, nI_clamp c3]
    rw [gI_k _ (show (8 : Nat) ≠ 13 by decide), gI_k _ (show (8 : Nat) ≠ 12 by decide), gR_k _ (show (8 : Nat) ≠ 11 by decide), gR_k _ (show (8 : Nat) ≠ 10 by decide), gR_k S (show (8 : Nat) ≠ 9 by decide), hx, r1, gls, gls]
    rw [gI_i _ (show (6 : Nat) ≠ 5 by decide), gI_k _ (show (8 : Nat) ≠ 13 by decide), gI_k _ (show (8 : Nat) ≠ 12 by decide), gR_k _ (show (8 : Nat) ≠ 11 by decide), gR_k _ (show (8 : Nat) ≠ 10 by decide), gR_k S (show (8 : Nat) ≠ 9 by decide), hk, r2]
    rfl
  · simp only [List.mem_cons, List.not_mem_nil, or_false]
    omega
  · have hnew : CSn (cK S nx q.2.1) 1 (i_n q.1) nx (snap q.1) := by
      refine ⟨(cK_12 _ _ _).1.trans hI.2.2.1, (cK_13 _ _ _).1.trans hI.2.2.2.1, fun w hw => ?_, fun i hi => ?_⟩
      · show (cK S nx q.2.1).1 10 (6 * nx + w) = _ ∧ (cK S nx q.2.1).1 11 (6 * nx + w) = _
        rw [cK_10, cK_11, pk_cpy_in (by omega) (by omega), pk_cpy_in (by omega) (by omega), show 0 + (6 * nx + w - nx * 6) = w by omega]
        exact ⟨(hI.2.2.2.2.1 w hw).2.2.1, (hI.2.2.2.2.1 w hw).2.2.2⟩
      · show (cK S nx q.2.1).1 9 (384 * nx + i) = _
        rw [cK_9, pk_cpy_in (by omega) (by omega), show 0 + (384 * nx + i - nx * 384) = i by omega]
        exact hI.2.2.2.2.2 i hi
    have hold : ∀ j s, j ≠ nx → CSn S 1 (i_n q.1) j s → CSn (cK S nx q.2.1) 1 (i_n q.1) j s := by
      rintro j s hj ⟨c1, c2, c3, c4⟩
      refine ⟨((cK_12 _ _ _).2 j hj).trans c1, ((cK_13 _ _ _).2 j hj).trans c2, fun w hw => ?_, fun i hi => ?_⟩
      · show (cK S nx q.2.1).1 10 (6 * j + w) = _ ∧ (cK S nx q.2.1).1 11 (6 * j + w) = _
        rw [cK_10, cK_11, pk_cpy_out (by omega), pk_cpy_out (by omega)]
        exact c3 w hw
      · show (cK S nx q.2.1).1 9 (384 * j + i) = _
        rw [cK_9, pk_cpy_out (by omega)]
        exact c4 i hi
    unfold push
    by_cases hm : q.2.1 = 8
    · rw [if_pos hm]
      refine ⟨?_, (nx + 1) % 8, Nat.mod_lt _ (by decide), (cK_8 _ _ _).1, fun k hk8 => ?_⟩
      · show (cK S nx q.2.1).1 8 6 = nI 8
        rw [(cK_8 _ _ _).2, hm]; rfl
      · show CSn (cK S nx q.2.1) 1 (i_n q.1) (((nx + 1) % 8 + 8 - 8 + k) % 8) (if k = 7 then snap q.1 else q.2.2 (k + 1))
        have hk8 : k < 8 := hk8
        by_cases h7 : k = 7
        · rw [if_pos h7, show ((nx + 1) % 8 + 8 - 8 + k) % 8 = nx by omega]
          exact hnew
        · rw [if_neg h7]
          have := hc (k + 1) (by omega)
          rw [show (nx + 8 - q.2.1 + (k + 1)) % 8 = ((nx + 1) % 8 + 8 - 8 + k) % 8 by omega] at this
          exact hold _ _ (by omega) this
    · rw [if_neg hm]
      refine ⟨?_, (nx + 1) % 8, Nat.mod_lt _ (by decide), (cK_8 _ _ _).1, fun k hk8 => ?_⟩
      · show (cK S nx q.2.1).1 8 6 = nI (q.2.1 + 1)
        rw [(cK_8 _ _ _).2, Nat.min_eq_left (by omega)]
      · show CSn (cK S nx q.2.1) 1 (i_n q.1) (((nx + 1) % 8 + 8 - (q.2.1 + 1) + k) % 8) (if k = q.2.1 then snap q.1 else q.2.2 k)
        have hk8 : k < q.2.1 + 1 := hk8
        by_cases h7 : k = q.2.1
        · rw [if_pos h7, show ((nx + 1) % 8 + 8 - (q.2.1 + 1) + k) % 8 = nx by omega]
          exact hnew
        · rw [if_neg h7]
          have := hc k (by omega)
          rw [show (nx + 8 - q.2.1 + k) % 8 = ((nx + 1) % 8 + 8 - (q.2.1 + 1) + k) % 8 by omega] at this
          exact hold _ _ (by omega) this
