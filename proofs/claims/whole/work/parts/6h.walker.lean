/-! a walker enters -/
def u_wk (g : Il) (k m c : Nat) : Il := (i_set g, i_n g + 1, i_hr g, i_dr g, fun j => if j = i_n g then k else i_kd g j, fun j => if j = i_n g then m else i_wt g j, fun j => if j = i_n g then c else i_ce g j, fun j => if j = i_n g then 0 else i_sp g j, i_pr g)
theorem WF_wk {q : Il × Pa} (h : WF q) {k m c : Nat} (h6 : i_n q.1 < 6) (hk : k ≤ 4) (hm : 1 ≤ m) (hm2 : m ≤ 9) (hc : c < 64) : WF (u_wk q.1 k m c, (0, q.2.2)) := by
  refine ⟨⟨by show i_n q.1 + 1 ≤ 6; omega, h.1.2.1, h.1.2.2.1, h.1.2.2.2.1, fun w hw => ?_, h.1.2.2.2.2.2.1, fun i hi => ?_⟩, Nat.zero_le _, fun k hk => absurd hk (Nat.not_lt_zero _)⟩
  · have hw : w < i_n q.1 + 1 := hw
    show (if w = i_n q.1 then k else i_kd q.1 w) ≤ 4 ∧ 1 ≤ (if w = i_n q.1 then m else i_wt q.1 w) ∧ (if w = i_n q.1 then m else i_wt q.1 w) ≤ 9 ∧ (if w = i_n q.1 then c else i_ce q.1 w) < 64
    by_cases hwn : w = i_n q.1
    · simp only [if_pos hwn]; exact ⟨hk, hm, hm2, hc⟩
    · simp only [if_neg hwn]; exact h.1.2.2.2.2.1 w (by omega)
  · have hi : 64 * (i_n q.1 + 1) ≤ i := hi
    exact h.1.2.2.2.2.2.2 i (by omega)
theorem cEnter {S : gSt} {q : Il × Pa} (h1 : RC S 1 q) (h6 : i_n q.1 < 6) (k m c : Nat) : ∃ S', ((f_X1_forget S).bind fun S10 => gBind2 (f_X0_enter (nI k) (nI m) (nI c) S10) fun r14 S12 => some (r14, S12)) = some (nI (i_n q.1), S') ∧ Fr clsR S S' ∧ RC S' 1 (u_wk q.1 k m c, (0, q.2.2)) := by
  obtain ⟨⟨c1, c2, c3, c4, c5, c6⟩, hk, nx, hnx, hx, hcc⟩ := h1
  have e7 : (gI S 8 6 0).1 1 7 = nI (i_n q.1) := by rw [gI_k _ (by decide)]; exact c2
  have g : gin (nI (i_n q.1)) 6 = true := gin_t h6 (by decide)
  unfold f_X1_forget f_X0_enter
  simp only [gls, Option.bind_some, e7, g, if_pos, nI_clamp (show i_n q.1 < 2 ^ 31 by omega), g2s]
  have e8 : (gI (gI (gI (gI (gI S 8 6 0) 3 (i_n q.1) (nI k)) 4 (i_n q.1) (nI m)) 5 (i_n q.1) (nI c)) 6 (i_n q.1) 0).1 1 7 = nI (i_n q.1) := by rw [gI_k _ (by decide), gI_k _ (by decide), gI_k _ (by decide), gI_k _ (by decide)]; exact e7
  rw [e8, nI_1]
  refine ⟨_, rfl, (((((Fr_gI (by decide)).trans (Fr_gI (by decide))).trans (Fr_gI (by decide))).trans (Fr_gI (by decide))).trans (Fr_gI (by decide))).trans (Fr_gI (by decide)), ⟨fun i hi => ?_, ?_, ?_, ?_, fun w hw => ?_, fun i hi => ?_⟩, ?_⟩
  · rw [gI_k _ (by decide), gI_k _ (by decide), gI_k _ (by decide), gI_k _ (by decide), gI_k _ (by decide), gI_k _ (by decide)]; exact c1 i hi
  · rw [gI_s]; rfl
  · rw [gI_i _ (by decide), gI_k _ (by decide), gI_k _ (by decide), gI_k _ (by decide), gI_k _ (by decide), gI_k _ (by decide)]; exact c3
  · rw [gI_i _ (by decide), gI_k _ (by decide), gI_k _ (by decide), gI_k _ (by decide), gI_k _ (by decide), gI_k _ (by decide)]; exact c4
  · have hw : w < i_n q.1 + 1 := hw
    have r1 : ∀ v, (gI S 8 6 v).1 3 = S.1 3 ∧ (gI S 8 6 v).1 4 = S.1 4 ∧ (gI S 8 6 v).1 5 = S.1 5 ∧ (gI S 8 6 v).1 6 = S.1 6 := fun v => ⟨gI_k _ (by decide) _, gI_k _ (by decide) _, gI_k _ (by decide) _, gI_k _ (by decide) _⟩
    refine ⟨?_, ?_, ?_, ?_⟩
    · rw [gI_k _ (by decide), gI_k _ (by decide), gI_k _ (by decide), gI_k _ (by decide)]
      show (gI (gI S 8 6 0) 3 (i_n q.1) (nI k)).1 3 w = nI (if w = i_n q.1 then k else i_kd q.1 w)
      by_cases hwn : w = i_n q.1
      · rw [if_pos hwn, hwn, gI_s]
      · rw [if_neg hwn, gI_i _ hwn, (r1 0).1]; exact (c5 w (by omega)).1
    · rw [gI_k _ (by decide), gI_k _ (by decide), gI_k _ (by decide)]
      show (gI (gI (gI S 8 6 0) 3 (i_n q.1) (nI k)) 4 (i_n q.1) (nI m)).1 4 w = nI (if w = i_n q.1 then m else i_wt q.1 w)
      by_cases hwn : w = i_n q.1
      · rw [if_pos hwn, hwn, gI_s]
      · rw [if_neg hwn, gI_i _ hwn, gI_k _ (by decide), (r1 0).2.1]; exact (c5 w (by omega)).2.1
    · rw [gI_k _ (by decide), gI_k _ (by decide)]
      show (gI (gI (gI (gI S 8 6 0) 3 (i_n q.1) (nI k)) 4 (i_n q.1) (nI m)) 5 (i_n q.1) (nI c)).1 5 w = nI (if w = i_n q.1 then c else i_ce q.1 w)
      by_cases hwn : w = i_n q.1
      · rw [if_pos hwn, hwn, gI_s]
      · rw [if_neg hwn, gI_i _ hwn, gI_k _ (by decide), gI_k _ (by decide), (r1 0).2.2.1]; exact (c5 w (by omega)).2.2.1
    · rw [gI_k _ (by decide)]
      show (gI (gI (gI (gI (gI S 8 6 0) 3 (i_n q.1) (nI k)) 4 (i_n q.1) (nI m)) 5 (i_n q.1) (nI c)) 6 (i_n q.1) 0).1 6 w = (if w = i_n q.1 then 0 else i_sp q.1 w)
      by_cases hwn : w = i_n q.1
      · rw [if_pos hwn, hwn, gI_s]
      · rw [if_neg hwn, gI_i _ hwn, gI_k _ (by decide), gI_k _ (by decide), gI_k _ (by decide), (r1 0).2.2.2]; exact (c5 w (by omega)).2.2.2
  · rw [gI_k _ (by decide), gI_k _ (by decide), gI_k _ (by decide), gI_k _ (by decide), gI_k _ (by decide), gI_k _ (by decide)]; exact c6 i hi
  · refine ⟨?_, nx, hnx, ?_, fun k hk => absurd hk (Nat.not_lt_zero _)⟩
    · rw [gI_k _ (by decide), gI_k _ (by decide), gI_k _ (by decide), gI_k _ (by decide), gI_k _ (by decide), gI_s]; rfl
    · rw [gI_k _ (by decide), gI_k _ (by decide), gI_k _ (by decide), gI_k _ (by decide), gI_k _ (by decide), gI_i _ (by decide)]; exact hx
