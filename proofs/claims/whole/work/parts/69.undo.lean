/-! undo -/
def u_un (g : Il) (s : Sn) : Il := (i_set g, i_n g, s.1, s.2.1, i_kd g, i_wt g, s.2.2.1, s.2.2.2.1, s.2.2.2.2)
def cU (S : gSt) (x m : Nat) : gSt :=
  gI (gI (gR (gR (gR (gI (gI S 8 5 (nI x)) 8 6 (nI m)) 7 (va_cpy (S.1 9) (S.1 7) (x * 384) 0 384)) 5 (va_cpy (S.1 10) (S.1 5) (x * 6) 0 6)) 6 (va_cpy (S.1 11) (S.1 6) (x * 6) 0 6)) 1 8 (S.1 12 x)) 1 9 (S.1 13 x)
theorem cU_fr (S : gSt) (x m : Nat) : Fr [1, 5, 6, 7, 8] S (cU S x m) := by
  unfold cU
  exact ((((((Fr_gI (by decide)).trans (Fr_gI (by decide))).trans (Fr_gR (by decide))).trans (Fr_gR (by decide))).trans (Fr_gR (by decide))).trans (Fr_gI (by decide))).trans (Fr_gI (by decide))
theorem cU_7 (S : gSt) (x m : Nat) : (cU S x m).1 7 = va_cpy (S.1 9) (S.1 7) (x * 384) 0 384 := by
  unfold cU
  rw [gI_k _ (by decide), gI_k _ (by decide), gR_k _ (by decide), gR_k _ (by decide), gR_s]
theorem cU_5 (S : gSt) (x m : Nat) : (cU S x m).1 5 = va_cpy (S.1 10) (S.1 5) (x * 6) 0 6 := by
  unfold cU
  rw [gI_k _ (by decide), gI_k _ (by decide), gR_k _ (by decide), gR_s]
theorem cU_6 (S : gSt) (x m : Nat) : (cU S x m).1 6 = va_cpy (S.1 11) (S.1 6) (x * 6) 0 6 := by
  unfold cU
  rw [gI_k _ (by decide), gI_k _ (by decide), gR_s]
theorem cU_1 (S : gSt) (x m : Nat) : (cU S x m).1 1 7 = S.1 1 7 ∧ (cU S x m).1 1 8 = S.1 12 x ∧ (cU S x m).1 1 9 = S.1 13 x := by
  unfold cU
  refine ⟨?_, ?_, by rw [gI_s]⟩
  · rw [gI_i _ (by decide), gI_i _ (by decide), gR_k _ (by decide), gR_k _ (by decide), gR_k _ (by decide), gI_k _ (by decide), gI_k _ (by decide)]
  · rw [gI_i _ (by decide), gI_s]
theorem cU_8 (S : gSt) (x m : Nat) : (cU S x m).1 8 5 = nI x ∧ (cU S x m).1 8 6 = nI m := by
  unfold cU
  refine ⟨?_, ?_⟩
  · rw [gI_k _ (by decide), gI_k _ (by decide), gR_k _ (by decide), gR_k _ (by decide), gR_k _ (by decide), gI_i _ (by decide), gI_s]
  · rw [gI_k _ (by decide), gI_k _ (by decide), gR_k _ (by decide), gR_k _ (by decide), gR_k _ (by decide), gI_s]
theorem cUndo {S : gSt} {q : Il × Pa} (h1 : RC S 1 q) (h2 : WF q) (hm : 1 ≤ q.2.1) : ∃ S', f_X1_giveBack S = some S' ∧ Fr clsR S S' ∧ RC S' 1 (u_un q.1 (q.2.2 (q.2.1 - 1)), (q.2.1 - 1, q.2.2)) ∧ S'.1 8 6 = nI (q.2.1 - 1) := by
  obtain ⟨hI, hk, nx, hnx, hx, hc⟩ := h1
  have h6 := h2.1.1
  have h8 := h2.2.1
  have hx : S.1 8 5 = nI nx := hx
  have hk : S.1 8 6 = nI q.2.1 := hk
  obtain ⟨x, hxe, hx8⟩ : ∃ x, x = (nx + 7) % 8 ∧ x < 8 := ⟨_, rfl, Nat.mod_lt _ (by decide)⟩
  have hF := cU_fr S x (q.2.1 - 1)
  refine ⟨cU S x (q.2.1 - 1), ?_, hF.mono (by decide), ⟨?_, ?_⟩, (cU_8 _ _ _).2⟩
  · unfold f_X1_giveBack
    have z0 : (0 : Int32).toNatClampNeg = 0 := rfl
    have z6 : (6 : Int32).toNatClampNeg = 6 := rfl
    have z384 : (384 : Int32).toNatClampNeg = 384 := rfl
    have e1 : nI x * 384 = nI (x * 384) := by rw [n_384, pk_mul]
    have e2 : nI x * 6 = nI (x * 6) := by rw [n_6, pk_mul]
    have g1 : gcp (nI (x * 384)) 0 384 3072 384 = true := gcp_t (b := 0) (c := 384) (by omega) (by omega) (by decide) (by decide)
    have g2 : gcp (nI (x * 6)) 0 6 48 6 = true := gcp_t (b := 0) (c := 6) (by omega) (by omega) (by decide) (by decide)
    have g3 : gin (nI x) 8 = true := gin_t hx8 (by decide)
    have r0 : nI nx + 8 - 1 = nI (nx + 7) := by rw [n_8, nI_add, n_1, nI_sub_le (by omega)]; rfl
    have r1 : nI nx + 8 - 1 - (nI nx + 8 - 1) / 8 * 8 = nI x := by rw [r0, r8 (by omega), hxe]
    have r2 : nI q.2.1 - 1 = nI (q.2.1 - 1) := by rw [n_1, nI_sub_le hm]
    have c1 : (x * 384) < 2 ^ 31 := by omega
    have c2 : (x * 6) < 2 ^ 31 := by omega
    have c3 : x < 2 ^ 31 := by omega
    rw [hx, r1, gls, gls, gI_i S (show (6 : Nat) ≠ 5 by decide), hk, r2, gI_i _ (show (5 : Nat) ≠ 6 by decide), gI_s, e1, g1, if_pos rfl, gls, z0, z384, nI_clamp c1]
    rw [gI_k _ (show (9 : Nat) ≠ 8 by decide), gI_k _ (show (9 : Nat) ≠ 8 by decide), gI_k _ (show (7 : Nat) ≠ 8 by decide), gI_k _ (show (7 : Nat) ≠ 8 by decide)]
    rw [gR_k _ (show (8 : Nat) ≠ 7 by decide), gI_i _ (show (5 : Nat) ≠ 6 by decide), gI_s, e2, g2, if_pos rfl, gls, z6, nI_clamp c2]
    rw [gR_k _ (show (10 : Nat) ≠ 7 by decide), gI_k _ (show (10 : Nat) ≠ 8 by decide), gI_k _ (show (10 : Nat) ≠ 8 by decide), gR_k _ (show (5 : Nat) ≠ 7 by decide), gI_k _ (show (5 : Nat) ≠ 8 by decide), gI_k _ (show (5 : Nat) ≠ 8 by decide)]
    rw [gR_k _ (show (8 : Nat) ≠ 5 by decide), gR_k _ (show (8 : Nat) ≠ 7 by decide), gI_i _ (show (5 : Nat) ≠ 6 by decide), gI_s, e2, g2, if_pos rfl, gls, nI_clamp c2]
    rw [gR_k _ (show (11 : Nat) ≠ 5 by decide), gR_k _ (show (11 : Nat) ≠ 7 by decide), gI_k _ (show (11 : Nat) ≠ 8 by decide), gI_k _ (show (11 : Nat) ≠ 8 by decide), gR_k _ (show (6 : Nat) ≠ 5 by decide), gR_k _ (show (6 : Nat) ≠ 7 by decide), gI_k _ (show (6 : Nat) ≠ 8 by decide), gI_k _ (show (6 : Nat) ≠ 8 by decide)]
    rw [gR_k _ (show (8 : Nat) ≠ 6 by decide), gR_k _ (show (8 : Nat) ≠ 5 by decide), gR_k _ (show (8 : Nat) ≠ 7 by decide), gI_i _ (show (5 : Nat) ≠ 6 by decide), gI_s, g3, if_pos rfl, gls, nI_clamp c3]
    rw [gR_k _ (show (12 : Nat) ≠ 6 by decide), gR_k _ (show (12 : Nat) ≠ 5 by decide), gR_k _ (show (12 : Nat) ≠ 7 by decide), gI_k _ (show (12 : Nat) ≠ 8 by decide), gI_k _ (show (12 : Nat) ≠ 8 by decide)]
    rw [gI_k _ (show (8 : Nat) ≠ 1 by decide), gR_k _ (show (8 : Nat) ≠ 6 by decide), gR_k _ (show (8 : Nat) ≠ 5 by decide), gR_k _ (show (8 : Nat) ≠ 7 by decide), gI_i _ (show (5 : Nat) ≠ 6 by decide), gI_s, g3, if_pos rfl, gls, nI_clamp c3]
    rw [gI_k _ (show (13 : Nat) ≠ 1 by decide), gR_k _ (show (13 : Nat) ≠ 6 by decide), gR_k _ (show (13 : Nat) ≠ 5 by decide), gR_k _ (show (13 : Nat) ≠ 7 by decide), gI_k _ (show (13 : Nat) ≠ 8 by decide), gI_k _ (show (13 : Nat) ≠ 8 by decide)]
    rfl
  · have hs := hc (q.2.1 - 1) (by omega)
    rw [show (nx + 8 - q.2.1 + (q.2.1 - 1)) % 8 = x by omega] at hs
    obtain ⟨s1, s2, s3, s4⟩ := hs
    obtain ⟨c1, c2, c3, c4, c5, c6⟩ := hI
    refine ⟨fun i hi => ?_, ?_, ?_, ?_, fun w hw => ?_, fun i hi => ?_⟩
    · rw [hF.2 (1 + 1) (by decide)]; exact c1 i hi
    · rw [(cU_1 _ _ _).1]; exact c2
    · rw [(cU_1 _ _ _).2.1]; exact s1
    · rw [(cU_1 _ _ _).2.2]; exact s2
    · have hw : w < i_n q.1 := hw
      have d1 := (c5 w hw).1
      have d2 := (c5 w hw).2.1
      obtain ⟨d3, d4⟩ := s3 w hw
      rw [hF.2 (1 + 2) (by decide), hF.2 (1 + 3) (by decide)]
      refine ⟨d1, d2, ?_, ?_⟩
      · show (cU S x (q.2.1 - 1)).1 5 w = _
        rw [cU_5, pk_cpy_in (by omega) (by omega), show x * 6 + (w - 0) = 6 * x + w by omega]
        exact d3
      · show (cU S x (q.2.1 - 1)).1 6 w = _
        rw [cU_6, pk_cpy_in (by omega) (by omega), show x * 6 + (w - 0) = 6 * x + w by omega]
        exact d4
    · show (cU S x (q.2.1 - 1)).1 7 i = _
      rw [cU_7, pk_cpy_in (by omega) (by omega), show x * 384 + (i - 0) = 384 * x + i by omega]
      exact s4 i hi
  · refine ⟨(cU_8 _ _ _).2, x, hx8, (cU_8 _ _ _).1, fun k hk2 => ?_⟩
    have hk2 : k < q.2.1 - 1 := hk2
    have hs := hc k (by omega)
    show CSn (cU S x (q.2.1 - 1)) 1 (i_n q.1) ((x + 8 - (q.2.1 - 1) + k) % 8) (q.2.2 k)
    rw [show (nx + 8 - q.2.1 + k) % 8 = (x + 8 - (q.2.1 - 1) + k) % 8 by omega] at hs
    obtain ⟨s1, s2, s3, s4⟩ := hs
    refine ⟨?_, ?_, fun w hw => ?_, fun i hi => ?_⟩
    · rw [hF.2 (1 + 11) (by decide)]; exact s1
    · rw [hF.2 (1 + 12) (by decide)]; exact s2
    · rw [hF.2 (1 + 9) (by decide), hF.2 (1 + 10) (by decide)]; exact s3 w hw
    · rw [hF.2 (1 + 8) (by decide)]; exact s4 i hi
