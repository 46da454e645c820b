/-! a step -/
def dpn (P : Nat → Nat) (i t j : Nat) : Nat := if j = i then min (P i + t) 99 else P j
def trP (g : Il) (w c : Nat) : Nat → Nat := dpn (i_pr g) (64 * sho (i_n g) (i_kd g w) w + c) (trd (i_kd g w) (i_wt g w))
def stc (g : Il) (w to : Nat) : Il := (i_set g, i_n g, i_hr g, i_dr g, i_kd g, i_wt g, fun j => if j = w then to else i_ce g j, fun j => if j = w then i_sp g w + 1 else i_sp g j, i_pr g)
def tr1 (g : Il) (w c : Nat) : Il := u_pr g (trP g w c)
def stp (g : Il) (w to : Nat) : Il := if i_kd g w = 4 ∧ ¬ (i_sp g w + 1).toInt % 2 = 0 then stc g w to else if i_kd g w = 3 then tr1 (tr1 (stc g w to) w to) w (i_ce g w) else tr1 (stc g w to) w to
theorem WFpr_tr {g : Il} {w c : Nat} (h : WFpr (i_n g) (i_pr g)) (hw : w < i_n g) (hc : c < 64) : WFpr (i_n g) (trP g w c) := by
  have hs := sho_lt (kd := i_kd g w) hw
  refine ⟨fun i => ?_, fun i hi => ?_⟩
  · unfold trP dpn
    by_cases h1 : i = 64 * sho (i_n g) (i_kd g w) w + c
    · rw [if_pos h1]; omega
    · rw [if_neg h1]; exact h.1 i
  · unfold trP dpn
    rw [if_neg (by omega)]
    exact h.2 i hi
/-- what a step needs of the numbers -/
def WFs (g : Il) : Prop := i_n g ≤ 6 ∧ (∀ w, w < i_n g → i_kd g w ≤ 4 ∧ 1 ≤ i_wt g w ∧ i_wt g w ≤ 9 ∧ i_ce g w < 64) ∧ WFpr (i_n g) (i_pr g)
theorem WFs_stc {g : Il} {w to : Nat} (h : WFs g) (ht : to < 64) : WFs (stc g w to) := by
  refine ⟨h.1, fun v hv => ?_, h.2.2⟩
  obtain ⟨a, b, c, d⟩ := h.2.1 v hv
  refine ⟨a, b, c, ?_⟩
  show (if v = w then to else i_ce g v) < 64
  by_cases h1 : v = w
  · rw [if_pos h1]; exact ht
  · rw [if_neg h1]; exact d
theorem WFs_tr1 {g : Il} {w c : Nat} (h : WFs g) (hw : w < i_n g) (hc : c < 64) : WFs (tr1 g w c) := ⟨h.1, h.2.1, WFpr_tr h.2.2 hw hc⟩
theorem cTr1 {S : gSt} {g : Il} {w c : Nat} (hC : CI S 1 g) (h : WFs g) (hw : w < i_n g) (hc : c < 64) : ∃ S', f_X6_deepen_7 (nI (sho (i_n g) (i_kd g w) w) * 64 + nI c) (nI (trd (i_kd g w) (i_wt g w))) S = some S' ∧ Fr [7] S S' ∧ CI S' 1 (tr1 g w c) := by
  have hs := sho_lt (kd := i_kd g w) hw
  have h6 := h.1
  have ht := trd_le (kd := i_kd g w) (h.2.1 w hw).2.2.1
  have hp := h.2.2.1 (64 * sho (i_n g) (i_kd g w) w + c)
  have hv : S.1 7 (64 * sho (i_n g) (i_kd g w) w + c) = nI (i_pr g (64 * sho (i_n g) (i_kd g w) w + c)) := hC.2.2.2.2.2 _ (by omega)
  unfold f_X6_deepen_7
  rw [n_64, pk_mul, nI_add, show sho (i_n g) (i_kd g w) w * 64 + c = 64 * sho (i_n g) (i_kd g w) w + c by omega, gin_t (by omega) (by decide), if_pos rfl, if_pos rfl, gls, nI_clamp (by omega), hv, nI_add]
  have hm : (if nI (i_pr g (64 * sho (i_n g) (i_kd g w) w + c) + trd (i_kd g w) (i_wt g w)) < 99 then nI (i_pr g (64 * sho (i_n g) (i_kd g w) w + c) + trd (i_kd g w) (i_wt g w)) else 99) = nI (min (i_pr g (64 * sho (i_n g) (i_kd g w) w + c) + trd (i_kd g w) (i_wt g w)) 99) := by
    rw [n_99]
    by_cases h9 : i_pr g (64 * sho (i_n g) (i_kd g w) w + c) + trd (i_kd g w) (i_wt g w) < 99
    · rw [if_pos ((nI_ltI (by omega) (by omega)).mpr h9), Nat.min_eq_left (by omega)]
    · rw [if_neg (fun z => h9 ((nI_ltI (by omega) (by omega)).mp z)), Nat.min_eq_right (by omega)]
  rw [hm]
  refine ⟨_, rfl, Fr_gI (by decide), CI_pr hC (Fr_gI (by decide)) (fun i hi => ?_)⟩
  unfold trP dpn
  by_cases h1 : i = 64 * sho (i_n g) (i_kd g w) w + c
  · rw [if_pos h1, h1, gI_s]
  · rw [if_neg h1, gI_i _ h1]; exact hC.2.2.2.2.2 i hi
theorem mTr1 {S : gSt} {g : Il} {w c : Nat} (hM : MI (S.1 48) g) (h : WFs g) (hw : w < i_n g) (hc : c < 64) : ∃ S', f_X7_treads (nI w) (nI c) S = some S' ∧ Fr8 S S' ∧ MI (S'.1 48) (tr1 g w c) := by
  have hs := sho_lt (kd := i_kd g w) hw
  have h6 := h.1
  have hkd := (h.2.1 w hw).1
  have ht := trd_le (kd := i_kd g w) (h.2.1 w hw).2.2.1
  have hp := h.2.2.1 (64 * sho (i_n g) (i_kd g w) w + c)
  obtain ⟨m1, m2, m3, m4, m5, m6⟩ := hM
  have hv : S.1 48 (32 + 64 * sho (i_n g) (i_kd g w) w + c) = nI (i_pr g (64 * sho (i_n g) (i_kd g w) w + c)) := by
    rw [show 32 + 64 * sho (i_n g) (i_kd g w) w + c = 32 + (64 * sho (i_n g) (i_kd g w) w + c) by omega]
    exact m6 _ (by omega)
  unfold f_X7_treads
  rw [mShoes h6 hw hkd (m5 w hw).1 m2, g2s, n_64, n_32, pk_mul, nI_add, nI_add, gls, gin_t (by omega) (by decide), if_pos rfl, mDeep (by omega) hkd (m5 w hw).1 (m5 w hw).2.1, g2s, if_pos rfl, mDeep (by omega) hkd (m5 w hw).1 (m5 w hw).2.1, g2s, if_pos rfl, gls, nI_clamp (by omega), hv, nI_add, n_99, ile (by omega) (by decide), gls]
  have fin : ∃ S', (if i_pr g (64 * sho (i_n g) (i_kd g w) w + c) + trd (i_kd g w) (i_wt g w) ≤ 99 then some (gI S 48 (32 + 64 * sho (i_n g) (i_kd g w) w + c) (nI (i_pr g (64 * sho (i_n g) (i_kd g w) w + c) + trd (i_kd g w) (i_wt g w)))) else some (gI S 48 (32 + 64 * sho (i_n g) (i_kd g w) w + c) (nI 99))) = some S' ∧ S' = gI S 48 (32 + 64 * sho (i_n g) (i_kd g w) w + c) (nI (min (i_pr g (64 * sho (i_n g) (i_kd g w) w + c) + trd (i_kd g w) (i_wt g w)) 99)) := by
    by_cases h9 : i_pr g (64 * sho (i_n g) (i_kd g w) w + c) + trd (i_kd g w) (i_wt g w) ≤ 99
    · rw [if_pos h9]; exact ⟨_, rfl, by rw [Nat.min_eq_left h9]⟩
    · rw [if_neg h9]; exact ⟨_, rfl, by rw [Nat.min_eq_right (by omega)]⟩
  obtain ⟨S', f1, rfl⟩ := fin
  refine ⟨_, f1, Fr8_gI (by omega), ⟨fun i hi => ?_, ?_, ?_, ?_, fun v hv2 => ?_, fun i hi => ?_⟩⟩
  · rw [gI_i _ (by omega)]; exact m1 i hi
  · rw [gI_i _ (by omega)]; exact m2
  · rw [gI_i _ (by omega)]; exact m3
  · rw [gI_i _ (by omega)]; exact m4
  · have hv2 : v < i_n g := hv2
    rw [gI_i _ (by omega), gI_i _ (by omega), gI_i _ (by omega), gI_i _ (by omega)]; exact m5 v hv2
  · show _ = nI (trP g w c i)
    unfold trP dpn
    by_cases h1 : i = 64 * sho (i_n g) (i_kd g w) w + c
    · rw [if_pos h1, show 32 + i = 32 + 64 * sho (i_n g) (i_kd g w) w + c by omega, gI_s]
    · rw [if_neg h1, gI_i _ (by omega)]; exact m6 i hi
