theorem CI_stc {S : gSt} {g : Il} {w to : Nat} (hC : CI S 1 g) : CI (gI (gI S 5 w (nI to)) 6 w (i_sp g w + 1)) 1 (stc g w to) := by
  obtain ⟨c1, c2, c3, c4, c5, c6⟩ := hC
  refine ⟨fun i hi => ?_, ?_, ?_, ?_, fun v hv => ?_, fun i hi => ?_⟩
  · rw [gI_k _ (by decide), gI_k _ (by decide)]; exact c1 i hi
  · rw [gI_k _ (by decide), gI_k _ (by decide)]; exact c2
  · rw [gI_k _ (by decide), gI_k _ (by decide)]; exact c3
  · rw [gI_k _ (by decide), gI_k _ (by decide)]; exact c4
  · obtain ⟨d1, d2, d3, d4⟩ := c5 v hv
    refine ⟨?_, ?_, ?_, ?_⟩
    · rw [gI_k _ (by decide), gI_k _ (by decide)]; exact d1
    · rw [gI_k _ (by decide), gI_k _ (by decide)]; exact d2
    · rw [gI_k _ (by decide)]
      show (gI S 5 w (nI to)).1 5 v = nI (if v = w then to else i_ce g v)
      by_cases h : v = w
      · rw [if_pos h, h, gI_s]
      · rw [if_neg h, gI_i _ h]; exact d3
    · show (gI (gI S 5 w (nI to)) 6 w (i_sp g w + 1)).1 6 v = (if v = w then i_sp g w + 1 else i_sp g v)
      by_cases h : v = w
      · rw [if_pos h, h, gI_s]
      · rw [if_neg h, gI_i _ h, gI_k _ (by decide)]; exact d4
  · rw [gI_k _ (by decide), gI_k _ (by decide)]; exact c6 i hi
theorem cStep {S : gSt} {g : Il} {w to : Nat} (hC : CI S 1 g) (h : WFs g) (hw : w < i_n g) (ht : to < 64) : ∃ S', f_X0_stepTo (nI w) (nI to) S = some S' ∧ Fr [5, 6, 7] S S' ∧ CI S' 1 (stp g w to) := by
  have h6 := h.1
  obtain ⟨k1, k2, k3, k4⟩ := h.2.1 w hw
  obtain ⟨d1, d2, d3, d4⟩ := hC.2.2.2.2.1 w hw
  have d1 : S.1 3 w = nI (i_kd g w) := d1
  have d2 : S.1 4 w = nI (i_wt g w) := d2
  have d3 : S.1 5 w = nI (i_ce g w) := d3
  have d4 : S.1 6 w = i_sp g w := d4
  have e : gin (nI w) 6 = true := gin_t (by omega) (by decide)
  have hC1 := CI_stc (w := w) (to := to) hC
  have w1 := WFs_stc (w := w) h ht
  have hF1 : Fr [5, 6, 7] S (gI (gI S 5 w (nI to)) 6 w (i_sp g w + 1)) := (Fr_gI (by decide)).trans (Fr_gI (by decide))
  obtain ⟨T, hT⟩ : ∃ T, T = gI (gI S 5 w (nI to)) 6 w (i_sp g w + 1) := ⟨_, rfl⟩
  have t3 : T.1 3 w = nI (i_kd g w) := by rw [hT, gI_k _ (by decide), gI_k _ (by decide)]; exact d1
  have t4 : T.1 4 w = nI (i_wt g w) := by rw [hT, gI_k _ (by decide), gI_k _ (by decide)]; exact d2
  have t6 : T.1 6 w = i_sp g w + 1 := by rw [hT, gI_s]
  have t7 : T.1 1 7 = nI (i_n g) := by rw [hT, gI_k _ (by decide), gI_k _ (by decide)]; exact hC.2.1
  unfold f_X0_stepTo
  simp only [e, if_pos, gls, nI_clamp (show w < 2 ^ 31 by omega), d3, gI_k S (show (6 : Nat) ≠ 5 by decide), d4]
  rw [← hT] at hC1 hF1 ⊢
  rw [t3, t6]
  have hcd : f_X6_comesDown (nI (i_kd g w)) (i_sp g w + 1) T = some (if i_kd g w = 4 ∧ ¬ (i_sp g w + 1).toInt % 2 = 0 then 0 else 1, T) := by
    unfold f_X6_comesDown
    rw [n_4, ieq (by omega) (by decide)]
    by_cases h4 : i_kd g w = 4
    · rw [if_pos h4]
      by_cases hp : (i_sp g w + 1).toInt % 2 = 0
      · rw [if_pos ((par_c _).mpr hp), if_neg (fun z => z.2 hp)]
      · rw [if_neg (fun z => hp ((par_c _).mp z)), if_pos ⟨h4, hp⟩]
    · rw [if_neg h4, if_neg (fun z => h4 z.1)]
  rw [hcd, g2s]
  unfold stp
  by_cases hd : i_kd g w = 4 ∧ ¬ (i_sp g w + 1).toInt % 2 = 0
  · rw [if_pos hd, if_pos hd, if_pos rfl]
    exact ⟨T, rfl, hF1, hC1⟩
  · rw [if_neg hd, if_neg hd, if_neg one0, cShoes h6 hw k1 t3 t7, g2s, cTread (by omega) k1 t3 t4, g2s]
    obtain ⟨U, a1, a2, a3⟩ := cTr1 hC1 w1 hw ht
    have a1 : f_X6_deepen_7 (nI (sho (i_n g) (i_kd g w) w) * 64 + nI to) (nI (trd (i_kd g w) (i_wt g w))) T = some U := a1
    have u3 : U.1 3 w = nI (i_kd g w) := by rw [a2.2 3 (by decide)]; exact t3
    have u4 : U.1 4 w = nI (i_wt g w) := by rw [a2.2 4 (by decide)]; exact t4
    rw [a1, Option.bind_some, u3, n_3, ieq (by omega) (by decide)]
    by_cases h3 : i_kd g w = 3
    · rw [if_pos h3, if_pos h3, cTread (by omega) k1 u3 u4, g2s]
      obtain ⟨V, b1, b2, b3⟩ := cTr1 a3 (WFs_tr1 w1 hw ht) hw k4
      have b1 : f_X6_deepen_7 (nI (sho (i_n g) (i_kd g w) w) * 64 + nI (i_ce g w)) (nI (trd (i_kd g w) (i_wt g w))) U = some V := b1
      rw [b1, Option.bind_some]
      exact ⟨V, rfl, hF1.trans ((a2.mono (by decide)).trans (b2.mono (by decide))), b3⟩
    · rw [if_neg h3, if_neg h3]
      exact ⟨U, rfl, hF1.trans (a2.mono (by decide)), a3⟩
