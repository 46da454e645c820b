theorem MI_stc {S : gSt} {g : Il} {w to : Nat} (hM : MI (S.1 48) g) : MI ((gI (gI S 48 (10 + 4 * w) (nI to)) 48 (11 + 4 * w) (i_sp g w + 1)).1 48) (stc g w to) ∨ ¬ (i_n g ≤ 6 ∧ w < 6) := by
  by_cases hn : i_n g ≤ 6 ∧ w < 6
  · left
    obtain ⟨c1, c2, c3, c4, c5, c6⟩ := hM
    refine ⟨fun i hi => ?_, ?_, ?_, ?_, fun v hv => ?_, fun i hi => ?_⟩
    · rw [gI_i _ (by omega), gI_i _ (by omega)]; exact c1 i hi
    · rw [gI_i _ (by omega), gI_i _ (by omega)]; exact c2
    · rw [gI_i _ (by omega), gI_i _ (by omega)]; exact c3
    · rw [gI_i _ (by omega), gI_i _ (by omega)]; exact c4
    · obtain ⟨d1, d2, d3, d4⟩ := c5 v hv
      refine ⟨?_, ?_, ?_, ?_⟩
      · rw [gI_i _ (by omega), gI_i _ (by omega)]; exact d1
      · rw [gI_i _ (by omega), gI_i _ (by omega)]; exact d2
      · rw [gI_i _ (by omega)]
        show (gI S 48 (10 + 4 * w) (nI to)).1 48 (10 + 4 * v) = nI (if v = w then to else i_ce g v)
        by_cases h : v = w
        · rw [if_pos h, h, gI_s]
        · rw [if_neg h, gI_i _ (by omega)]; exact d3
      · show (gI (gI S 48 (10 + 4 * w) (nI to)) 48 (11 + 4 * w) (i_sp g w + 1)).1 48 (11 + 4 * v) = (if v = w then i_sp g w + 1 else i_sp g v)
        by_cases h : v = w
        · rw [if_pos h, h, gI_s]
        · rw [if_neg h, gI_i _ (by omega), gI_i _ (by omega)]; exact d4
    · rw [gI_i _ (by omega), gI_i _ (by omega)]; exact c6 i hi
  · right; exact hn
theorem mJ78 {S : gSt} {g : Il} {w c : Nat} (hM : MI (S.1 48) g) (h : WFs g) (hw : w < i_n g) (hc : c < 64) : ∃ S', f_X7_steps_j78 (nI w) (nI c) S = some S' ∧ Fr8 S S' ∧ MI (S'.1 48) (if i_kd g w = 3 then tr1 g w c else g) := by
  have h6 := h.1
  have hk := (h.2.1 w hw).1
  unfold f_X7_steps_j78
  rw [mKind (by omega) (hM.2.2.2.2.1 w hw).1, g2s, n_3, ieq (by omega) (by decide)]
  by_cases h3 : i_kd g w = 3
  · rw [if_pos h3, if_pos h3]
    obtain ⟨S', a, b, c⟩ := mTr1 hM h hw hc
    rw [a, Option.bind_some]
    exact ⟨S', rfl, b, c⟩
  · rw [if_neg h3, if_neg h3]
    exact ⟨S, rfl, Fr8_rfl, hM⟩
theorem mSteps {S : gSt} {g : Il} {w d to : Nat} (hM : MI (S.1 48) g) (h : WFs g) (hw : w < i_n g) (hd : d ≤ 3) (hb : bes (i_ce g w) d = some to) : ∃ S', f_X7_steps (nI w) (nI d) S = some S' ∧ Fr8 S S' ∧ MI (S'.1 48) (stp g w to) ∧ S'.1 48 (10 + 4 * w) = nI to := by
  have h6 := h.1
  obtain ⟨k1, k2, k3, k4⟩ := h.2.1 w hw
  obtain ⟨d1, d2, d3, d4⟩ := hM.2.2.2.2.1 w hw
  have ht := bes_lt k4 hb
  have hC1 : MI ((gI (gI S 48 (10 + 4 * w) (nI to)) 48 (11 + 4 * w) (i_sp g w + 1)).1 48) (stc g w to) := by
    rcases MI_stc (w := w) (to := to) hM with z | z
    · exact z
    · exact absurd ⟨h6, by omega⟩ z
  have w1 := WFs_stc (w := w) h ht
  have hF1 : Fr8 S (gI (gI S 48 (10 + 4 * w) (nI to)) 48 (11 + 4 * w) (i_sp g w + 1)) := (Fr8_gI (by omega)).trans (Fr8_gI (by omega))
  obtain ⟨T, hT⟩ : ∃ T, T = gI (gI S 48 (10 + 4 * w) (nI to)) 48 (11 + 4 * w) (i_sp g w + 1) := ⟨_, rfl⟩
  have a2 : nI (8 + 4 * w) + 2 = nI (10 + 4 * w) := by rw [n_2, nI_add, show 8 + 4 * w + 2 = 10 + 4 * w by omega]
  have a3 : nI (8 + 4 * w) + 3 = nI (11 + 4 * w) := by rw [n_3, nI_add, show 8 + 4 * w + 3 = 11 + 4 * w by omega]
  have g2 : gin (nI (10 + 4 * w)) 416 = true := gin_t (by omega) (by decide)
  have g3 : gin (nI (11 + 4 * w)) 416 = true := gin_t (by omega) (by decide)
  have p2 : (nI (10 + 4 * w)).toNatClampNeg = 10 + 4 * w := nI_clamp (by omega)
  have p3 : (nI (11 + 4 * w)).toNatClampNeg = 11 + 4 * w := nI_clamp (by omega)
  have t10 : T.1 48 (10 + 4 * w) = nI to := by rw [hT, gI_i _ (by omega), gI_s]
  have t11 : T.1 48 (11 + 4 * w) = i_sp g w + 1 := by rw [hT, gI_s]
  rw [← hT] at hC1 hF1
  have e10 : ∀ (g' : Il) (U : gSt), MI (U.1 48) g' → i_n g' = i_n g → i_ce g' w = to → U.1 48 (10 + 4 * w) = nI to := by
    intro g' U hU e1 e2
    have := (hU.2.2.2.2.1 w (by omega)).2.2.1
    rw [e2] at this
    exact this
  have ce1 : i_ce (stc g w to) w = to := if_pos rfl
  have j65 : ∃ S', f_X7_steps_j65 (nI w) (nI (8 + 4 * w)) (nI (i_ce g w)) T = some S' ∧ Fr8 T S' ∧ MI (S'.1 48) (if i_kd g w = 3 then tr1 (tr1 (stc g w to) w to) w (i_ce g w) else tr1 (stc g w to) w to) := by
    unfold f_X7_steps_j65
    obtain ⟨U, u1, u2, u3⟩ := mTr1 hC1 w1 hw ht
    obtain ⟨V, v1, v2, v3⟩ := mJ78 u3 (WFs_tr1 w1 hw ht) hw k4
    rw [a2, g2, if_pos rfl, p2, t10, u1, Option.bind_some, v1]
    exact ⟨V, rfl, u2.trans v2, v3⟩
  have hkT : f_X7_kind (nI w) T = some (nI (i_kd g w), T) := mKind (by omega) (hC1.2.2.2.2.1 w hw).1
  unfold f_X7_steps
  rw [mAt, gls, a2, g2, if_pos rfl, p2, d3, gls, mBes k4 hd, g2s, hb, if_pos rfl, gls, a3, g3, if_pos rfl, if_pos rfl, gls, p3]
  rw [gI_i S (show 11 + 4 * w ≠ 10 + 4 * w by omega), d4]
  show ∃ S', (gBind2 (f_X7_kind (nI w) (gI (gI S 48 (10 + 4 * w) (nI to)) 48 (11 + 4 * w) (i_sp g w + 1))) _) = some S' ∧ _
  rw [← hT, hkT, g2s, if_pos rfl, t11, n_4, ieq (by omega) (by decide)]
  unfold stp
  have hpm := par_m (i_sp g w + 1)
  by_cases h4 : i_kd g w = 4
  · rw [if_pos h4]
    by_cases hp : (i_sp g w + 1).toInt % 2 = 0
    · rw [if_pos (hpm.mpr hp), if_neg (fun z => z.2 hp)]
      obtain ⟨V, v1, v2, v3⟩ := j65
      refine ⟨V, v1, hF1.trans v2, v3, e10 _ V v3 ?_ ?_⟩
      · rw [if_neg (by omega)]; rfl
      · rw [if_neg (by omega)]; exact ce1
    · rw [if_neg (fun z => hp (hpm.mp z)), if_pos ⟨h4, hp⟩]
      obtain ⟨V, v1, v2, v3⟩ := mJ78 hC1 w1 hw k4
      have e3 : ¬ i_kd (stc g w to) w = 3 := fun z => by
        have z : i_kd g w = 3 := z
        omega
      rw [if_neg e3] at v3
      exact ⟨V, v1, hF1.trans v2, v3, e10 _ V v3 rfl ce1⟩
  · rw [if_neg h4, if_neg (fun z => h4 z.1)]
    obtain ⟨V, v1, v2, v3⟩ := j65
    refine ⟨V, v1, hF1.trans v2, v3, e10 _ V v3 ?_ ?_⟩
    · by_cases h3 : i_kd g w = 3
      · rw [if_pos h3]; rfl
      · rw [if_neg h3]; rfl
    · by_cases h3 : i_kd g w = 3
      · rw [if_pos h3]; exact ce1
      · rw [if_neg h3]; exact ce1
