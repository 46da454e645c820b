/-! drift -/
def nxL (d : Nat) : Int64 := ((nI d).toInt64 * 1103515245 + 12345) &&& 2147483647
def nxt (d : Nat) : Nat := (nxL d).toBitVec.toNat
theorem nxt_lt (d : Nat) : nxt d < 2 ^ 31 := by
  unfold nxt nxL
  rw [Int64.toBitVec_and, BitVec.toNat_and]
  have h := Nat.and_le_right (n := ((nI d).toInt64 * 1103515245 + 12345).toBitVec.toNat) (m := (2147483647 : Int64).toBitVec.toNat)
  have e : (2147483647 : Int64).toBitVec.toNat = 2147483647 := by decide
  rw [e] at h ⊢
  omega
theorem l_of (v : Int64) : v = lN v.toBitVec.toNat := by
  apply Int64.toBitVec_inj.mp
  simp [lN]
theorem nxt_eq (d : Nat) : (((nI d).toInt64 * 1103515245 + 12345) &&& 2147483647).toInt32 = nI (nxt d) := by
  show (nxL d).toInt32 = nI (nxt d)
  rw [l_of (nxL d), lN_i]
  rfl
def dcl (e : Nat) : Nat := e / 65536 % 64
theorem dcl_c {e : Nat} (h : e < 2 ^ 31) : (nI e >>> ((16 : Int32) &&& 31)) &&& 63 = nI (dcl e) := by
  rw [pk_shrN h _ 16 (by decide), pk_andN (by omega) 6 (by decide)]
  rfl
theorem dcl_m {e : Nat} (h : e < 2 ^ 31) : nI e / 65536 - nI e / 65536 / 64 * 64 = nI (dcl e) := by
  rw [n_65536, pk_div h (by decide) (by decide), m64 (by omega)]
  rfl
theorem dcl_lt (e : Nat) : dcl e < 64 := Nat.mod_lt _ (by decide)
def uDv (q : Il × Pa) (v : Nat) : Il × Pa := (u_pr (u_dr (uH q).1 v) (sw (i_pr (uH q).1) (dcl v)), (uH q).2)
def rDv (q : Il × Pa) (v : Nat) : Nat := tro (i_pr (uH q).1) (i_n q.1) (dcl v)
def uDs (q : Il × Pa) : Nat → Nat × (Il × Pa)
  | 0 => (0, q)
  | n + 1 => ((uDs q n).1 + rDv (uDs q n).2 (nxt (i_dr (uDs q n).2.1)), uDv (uDs q n).2 (nxt (i_dr (uDs q n).2.1)))
theorem uDs_s {q : Il × Pa} {n v : Nat} (h : v = nxt (i_dr (uDs q n).2.1)) : uDs q (n + 1) = ((uDs q n).1 + rDv (uDs q n).2 v, uDv (uDs q n).2 v) := by rw [h]; rfl
theorem WF_dr {q : Il × Pa} (h : WF q) {v : Nat} (hv : v < 2 ^ 31) : WF (u_dr q.1 v, q.2) := ⟨⟨h.1.1, h.1.2.1, hv, h.1.2.2.2⟩, h.2.1, h.2.2⟩
theorem WF_pr {q : Il × Pa} {P : Nat → Nat} (h : WF q) (hp : WFpr (i_n q.1) P) : WF (u_pr q.1 P, q.2) := ⟨WFI_pr h.1 hp, h.2.1, h.2.2⟩
theorem WF_uDv {q : Il × Pa} (h : WF q) (hh : i_hr q.1 + 1 ≤ 9999) {v : Nat} (hv : v < 2 ^ 31) : WF (uDv q v) := by
  have h1 := WF_uH h hh
  exact WF_pr (q := (u_dr (uH q).1 v, (uH q).2)) (WF_dr h1 hv) (WFpr_sw _ h1.1.2.2.2.2.2)
theorem uDs_p {q : Il × Pa} (h : WF q) : ∀ k, i_hr q.1 + k ≤ 9999 → WF (uDs q k).2 ∧ i_hr (uDs q k).2.1 = i_hr q.1 + k
  | 0, _ => ⟨h, rfl⟩
  | k + 1, hk => by
    obtain ⟨a, b⟩ := uDs_p h k (by omega)
    obtain ⟨v, hv⟩ : ∃ v, v = nxt (i_dr (uDs q k).2.1) := ⟨_, rfl⟩
    have hvl : v < 2 ^ 31 := by rw [hv]; exact nxt_lt _
    rw [uDs_s hv]
    refine ⟨WF_uDv a (by omega) hvl, ?_⟩
    show i_hr (uDs q k).2.1 + 1 = _
    omega
/-- one hour of drift -/
theorem cDr1 {T : gSt} {q : Il × Pa} (hq : RC T 1 q) (w1 : WF q) (hh : i_hr q.1 + 1 ≤ 9999) {v : Nat} (hv : v = nxt (i_dr q.1)) (hvl : v < 2 ^ 31) (x1 x3 x4 : Int32) (hx : ¬ x1 ≤ x4) : ∃ T', f_X6_drift_s17_b x1 x3 x4 T = some (.inl (x1, x3 + nI (rDv q v), x4 + 1, T')) ∧ Fr clsR T T' ∧ RC T' 1 (uDv q v) := by
  unfold f_X6_drift_s17_b
  have wH := WF_uH w1 hh
  obtain ⟨T1, a1, a2, a3⟩ := cKeep hq w1
  obtain ⟨T2, b1, b2, b3⟩ := cHour a3 (WF_push w1)
  have b9 : T2.1 1 9 = nI (i_dr q.1) := b3.1.2.2.2.1
  have hdr : f_X0_drawCell T2 = some (nI (dcl v), gI T2 1 9 (nI v)) := by
    unfold f_X0_drawCell
    rw [b9, nxt_eq, ← hv, gls, gI_s, dcl_c hvl]
  have b4 : RC (gI T2 1 9 (nI v)) 1 (u_dr (uH q).1 v, (uH q).2) := ⟨CI_dr _ b3.1, CP_eq (fun k x y => gI_k _ (by omega) _) b3.2⟩
  obtain ⟨T3, d1, d2, d3⟩ := cSweep (P := i_pr (uH q).1) wH.1.2.2.2.2.2.1 b4.1.2.2.2.2.2 (dcl_lt v)
  rw [if_neg hx, a1, Option.bind_some, b1, Option.bind_some, hdr, g2s, d1, g2s, gls]
  refine ⟨T3, ?_, (a2.mono (by decide)).trans ((b2.mono (by decide)).trans ((Fr_gI (by decide)).trans (d2.mono (by decide)))), RC_pr b4 d2 d3⟩
  rw [tro_6 wH.1.1 wH.1.2.2.2.2.2.2]
  rfl
theorem mDr1 {T : gSt} {q : Il × Pa} (hq : RMn T q) (w1 : WF q) (hh : i_hr q.1 + 1 ≤ 9999) {v : Nat} (hv : v = nxt (i_dr q.1)) (hvl : v < 2 ^ 31) (x1 x2 x3 : Int32) (hx : ¬ x1 ≤ x3) : ∃ T', f_X7_drift_s36_b x1 x2 x3 T = some (.inl (x1, x2 + nI (rDv q v), x3 + 1, T')) ∧ FrM T T' ∧ RMn T' (uDv q v) := by
  have e7 : (7 : Int32).toNatClampNeg = 7 := rfl
  have g7 : gin 7 416 = true := rfl
  unfold f_X7_drift_s36_b
  have h6 := w1.1.1
  have wH := WF_uH w1 hh
  obtain ⟨T1, a1, a2, a3⟩ := mNotes hq w1
  obtain ⟨T2, b1, b2, b3⟩ := mBy (g := q.1) a3.1 (WF_r w1)
  have b9 : T2.1 48 7 = nI (i_dr q.1) := b3.2.2.2.1
  have b5 : Fr8 T2 (gI T2 48 7 (nI v)) := Fr8_gI (by decide)
  have b4 : MI ((gI T2 48 7 (nI v)).1 48) (u_dr (uH q).1 v) := by
    obtain ⟨g1, g2, g3, g4, g5, g6⟩ := b3
    refine ⟨fun i hi => by rw [gI_i _ (by omega)]; exact g1 i hi, by rw [gI_i _ (by decide)]; exact g2, by rw [gI_i _ (by decide)]; exact g3, by rw [gI_s]; rfl, fun w hw => ?_, fun i hi => by rw [gI_i _ (by omega)]; exact g6 i hi⟩
    rw [gI_i _ (by omega), gI_i _ (by omega), gI_i _ (by omega), gI_i _ (by omega)]
    exact g5 w hw
  have wD := WF_dr wH hvl
  obtain ⟨T3, d1, d2, d3⟩ := mRakes (g := u_dr (uH q).1 v) b4 (WF_r (q := (u_dr (uH q).1 v, (uH q).2)) wD) (dcl_lt v)
  rw [if_neg hx, a1, Option.bind_some, b1, Option.bind_some, g7, if_pos rfl, if_pos rfl, e7, b9, nxt_eq, ← hv, gls, if_pos rfl, gI_s, dcl_m hvl, d1, g2s, gls]
  exact ⟨T3, rfl, FrM_trans a2 (FrM_8 ((b2.trans b5).trans d2)), RMn_8 (q := (q.1, push q.2 (snap q.1))) a3 ((b2.trans b5).trans d2) d3 rfl rfl rfl⟩
theorem op_drift (p : Int32) : Op (f_X6_drift p) (f_X7_drift p) := by
  refine op_of (fun q => if rng p 1 (24 : Nat) then (if i_hr q.1 + p.toNatClampNeg ≤ 9999 then nI (uDs q p.toNatClampNeg).1 else -3) else -1) (fun q => if rng p 1 (24 : Nat) then (if i_hr q.1 + p.toNatClampNeg ≤ 9999 then (uDs q p.toNatClampNeg).2 else q) else q) ?_ ?_ ?_
  · intro q hq
    cases hg : rng p 1 (24 : Nat) with
    | false => exact hq
    | true =>
      rw [if_pos rfl]
      by_cases h3 : i_hr q.1 + p.toNatClampNeg ≤ 9999
      · rw [if_pos h3]; exact (uDs_p hq _ h3).1
      · rw [if_neg h3]; exact hq
  · intro S q h1 h2
    unfold f_X6_drift
    rw [cHf p h1 h2, g2s]
    dsimp only
    cases hg : rng p 1 (24 : Nat) with
    | false => exact ⟨S, rfl, Fr_rfl, h1⟩
    | true =>
      simp only [if_pos]
      obtain ⟨ep, ha, hb⟩ := rng1 (by decide) hg
      generalize p.toNatClampNeg = k at *
      subst ep
      by_cases h3 : i_hr q.1 + k ≤ 9999
      · simp only [if_pos h3]
        rw [if_pos (by decide)]
        have key : ∃ R, gLoop f_X6_drift_s17 gFuel (nI k, 0, 0, S) = some R ∧ ∃ T, R = (nI (uDs q k).1, T) ∧ Fr clsR S T ∧ RC T 1 (uDs q k).2 := by
          refine gLoop_up (fun i t => ∃ T, t = (nI k, nI (uDs q i).1, nI i, T) ∧ Fr clsR S T ∧ RC T 1 (uDs q i).2) _ k (by omega) ?_ ?_ ⟨S, rfl, Fr_rfl, h1⟩
          · rintro i t hi ⟨T, rfl, hT, hq⟩
            dsimp only [f_X6_drift_s17]
            obtain ⟨w1, w2⟩ := uDs_p h2 i (by omega)
            obtain ⟨v, hv⟩ : ∃ v, v = nxt (i_dr (uDs q i).2.1) := ⟨_, rfl⟩
            have hvl : v < 2 ^ 31 := by rw [hv]; exact nxt_lt _
            obtain ⟨T3, d1, d2, d3⟩ := cDr1 hq w1 (by omega) hv hvl (nI k) (nI (uDs q i).1) (nI i) (by rw [nI_leI (by omega) (by omega)]; omega)
            rw [d1, nI_1, nI_add, uDs_s hv]
            exact ⟨_, rfl, T3, rfl, hT.trans d2, d3⟩
          · rintro t ⟨T, rfl, hT, hq⟩
            dsimp only [f_X6_drift_s17]
            unfold f_X6_drift_s17_b
            rw [if_pos (by rw [nI_leI (by omega) (by omega)]; omega)]
            exact ⟨_, rfl, T, rfl, hT, hq⟩
        obtain ⟨R, hR, T, rfl, hF, hq⟩ := key
        rw [hR, Option.bind_some]
        exact ⟨T, rfl, hF, hq⟩
      · simp only [if_neg h3]
        exact ⟨S, rfl, Fr_rfl, h1⟩
  · intro S q h1 h2
    have hr := h2.1.2.1
    unfold f_X7_drift
    rw [in_lit p (a := 1) (b := (24 : Nat)) S rfl rfl, g2s]
    dsimp only
    cases hg : rng p 1 (24 : Nat) with
    | false => exact ⟨S, rfl, FrM_rfl, h1⟩
    | true =>
      have e6 : (6 : Int32).toNatClampNeg = 6 := rfl
      have g6 : gin 6 416 = true := rfl
      have e7 : (7 : Int32).toNatClampNeg = 7 := rfl
      have g7 : gin 7 416 = true := rfl
      rw [bI_t, if_neg one0, g6, if_pos rfl, e6, h1.1.2.2.1]
      simp only [if_pos]
      obtain ⟨ep, ha, hb⟩ := rng1 (by decide) hg
      generalize p.toNatClampNeg = k at *
      subst ep
      rw [nI_add, n_9999, ile (by omega) (by decide)]
      by_cases h3 : i_hr q.1 + k ≤ 9999
      · simp only [if_pos h3]
        have key : ∃ R, gLoop f_X7_drift_s36 gFuel (nI k, 0, 0, S) = some R ∧ ∃ T, R = (nI (uDs q k).1, T) ∧ FrM S T ∧ RMn T (uDs q k).2 := by
          refine gLoop_up (fun i t => ∃ T, t = (nI k, nI (uDs q i).1, nI i, T) ∧ FrM S T ∧ RMn T (uDs q i).2) _ k (by omega) ?_ ?_ ⟨S, rfl, FrM_rfl, h1⟩
          · rintro i t hi ⟨T, rfl, hT, hq⟩
            dsimp only [f_X7_drift_s36]
            obtain ⟨w1, w2⟩ := uDs_p h2 i (by omega)
            obtain ⟨v, hv⟩ : ∃ v, v = nxt (i_dr (uDs q i).2.1) := ⟨_, rfl⟩
            have hvl : v < 2 ^ 31 := by rw [hv]; exact nxt_lt _
            obtain ⟨T3, d1, d2, d3⟩ := mDr1 hq w1 (by omega) hv hvl (nI k) (nI (uDs q i).1) (nI i) (by rw [nI_leI (by omega) (by omega)]; omega)
            rw [d1, nI_1, nI_add, uDs_s hv]
            exact ⟨_, rfl, T3, rfl, FrM_trans hT d2, d3⟩
          · rintro t ⟨T, rfl, hT, hq⟩
            dsimp only [f_X7_drift_s36]
            unfold f_X7_drift_s36_b
            rw [if_pos (by rw [nI_leI (by omega) (by omega)]; omega)]
            exact ⟨_, rfl, T, rfl, hT, hq⟩
        obtain ⟨R, hR, T, rfl, hF, hq⟩ := key
        rw [hR, Option.bind_some]
        exact ⟨T, rfl, hF, hq⟩
      · simp only [if_neg h3]
        exact ⟨S, rfl, FrM_rfl, h1⟩
