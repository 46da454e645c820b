/-! prints changed -/
def u_pr (g : Il) (P : Nat → Nat) : Il := (i_set g, i_n g, i_hr g, i_dr g, i_kd g, i_wt g, i_ce g, i_sp g, P)
theorem CI_pr {S S' : gSt} {g : Il} {P : Nat → Nat} (h : CI S 1 g) (f : Fr [7] S S') (hp : ∀ i, i < 384 → S'.1 7 i = nI (P i)) : CI S' 1 (u_pr g P) := by
  obtain ⟨h1, h2, h3, h4, h5, h6⟩ := h
  refine ⟨fun i hi => ?_, ?_, ?_, ?_, fun w hw => ?_, hp⟩
  · rw [f.2 (1 + 1) (by decide)]; exact h1 i hi
  · rw [f.2 1 (by decide)]; exact h2
  · rw [f.2 1 (by decide)]; exact h3
  · rw [f.2 1 (by decide)]; exact h4
  · rw [f.2 (1 + 2) (by decide), f.2 (1 + 3) (by decide), f.2 (1 + 4) (by decide), f.2 (1 + 5) (by decide)]; exact h5 w hw
theorem RC_pr {S S' : gSt} {q : Il × Pa} {P : Nat → Nat} (h : RC S 1 q) (f : Fr [7] S S') (hp : ∀ i, i < 384 → S'.1 7 i = nI (P i)) : RC S' 1 (u_pr q.1 P, q.2) :=
  ⟨CI_pr h.1 f hp, CP_eq (fun k x y => f.2 k (by simp only [List.mem_cons, List.not_mem_nil, or_false]; omega)) h.2⟩
def sw (P : Nat → Nat) (c i : Nat) : Nat := if i % 64 = c then 0 else P i
theorem WFpr_sw {n : Nat} {P : Nat → Nat} (c : Nat) (h : WFpr n P) : WFpr n (sw P c) := by
  refine ⟨fun i => ?_, fun i hi => ?_⟩
  · unfold sw
    by_cases h1 : i % 64 = c
    · rw [if_pos h1]; omega
    · rw [if_neg h1]; exact h.1 i
  · unfold sw
    rw [h.2 i hi]
    by_cases h1 : i % 64 = c
    · rw [if_pos h1]
    · rw [if_neg h1]
theorem WFI_pr {g : Il} {P : Nat → Nat} (h : WFI g) (hp : WFpr (i_n g) P) : WFI (u_pr g P) := ⟨h.1, h.2.1, h.2.2.1, h.2.2.2.1, h.2.2.2.2.1, hp⟩
theorem cSweep {S : gSt} {P : Nat → Nat} (hb : ∀ i, P i ≤ 99) (hP : ∀ i, i < 384 → S.1 7 i = nI (P i)) {c : Nat} (hc : c < 64) : ∃ S', f_X0_sweep (nI c) S = some (nI (tro P 6 c), S') ∧ Fr [7] S S' ∧ ∀ i, i < 384 → S'.1 7 i = nI (sw P c i) := by
  unfold f_X0_sweep
  have key : ∃ R, gLoop f_X0_sweep_s4 gFuel (0, nI c, S) = some R ∧ ∃ T, R = (nI (tro P 6 c), T) ∧ Fr [7] S T ∧ ∀ i, i < 384 → T.1 7 i = nI (sw P c i) := by
    refine gLoop_up (fun i p => ∃ T, p = (nI (tro P i c), nI (64 * i + c), T) ∧ Fr [7] S T ∧ ∀ j, j < 384 → T.1 7 j = nI (if j % 64 = c ∧ j < 64 * i then 0 else P j)) _ 6 (by omega) ?_ ?_ ⟨S, by rw [Nat.mul_zero, Nat.zero_add]; rfl, Fr_rfl, fun j hj => by rw [if_neg (by omega)]; exact hP j hj⟩
    · rintro i p hi ⟨T, rfl, hT, hj⟩
      have hbi := hb (64 * i + c)
      have hv : T.1 7 (64 * i + c) = nI (P (64 * i + c)) := by rw [hj _ (by omega), if_neg (by omega)]
      dsimp only [f_X0_sweep_s4]
      unfold f_X0_sweep_s4_b
      rw [if_neg (by rw [n_384, nI_leI (by omega) (by omega)]; omega), gin_t (by omega) (by decide), if_pos rfl, if_pos rfl, nI_clamp (by omega), hv, n_64, nI_add, gls, show 64 * i + c + 64 = 64 * (i + 1) + c by omega, nI_1, n_0, ile (by omega) (by decide), tro_s]
      by_cases h1 : P (64 * i + c) ≤ 0
      · rw [if_pos h1, if_neg (by omega)]
        refine ⟨_, rfl, T, rfl, hT, fun j hj2 => ?_⟩
        rw [hj j hj2]
        by_cases h2 : j % 64 = c ∧ j < 64 * i
        · rw [if_pos h2, if_pos (by omega)]
        · rw [if_neg h2]
          by_cases h3 : j % 64 = c ∧ j < 64 * (i + 1)
          · rw [if_pos h3, show j = 64 * i + c by omega, show P (64 * i + c) = 0 by omega]
          · rw [if_neg h3]
      · rw [if_neg h1, if_pos (by omega)]
        refine ⟨_, rfl, _, rfl, hT.trans (Fr_gI (by decide)), fun j hj2 => ?_⟩
        by_cases hji : j = 64 * i + c
        · rw [hji, gI_s, if_pos (by omega)]
        · rw [gI_i _ hji, hj j hj2]
          by_cases h2 : j % 64 = c ∧ j < 64 * i
          · rw [if_pos h2, if_pos (by omega)]
          · rw [if_neg h2, if_neg (by omega)]
    · rintro p ⟨T, rfl, hT, hj⟩
      dsimp only [f_X0_sweep_s4]
      unfold f_X0_sweep_s4_b
      rw [if_pos (by rw [n_384, nI_leI (by omega) (by omega)]; omega)]
      refine ⟨_, rfl, T, rfl, hT, fun j hj2 => ?_⟩
      rw [hj j hj2]
      unfold sw
      by_cases h2 : j % 64 = c
      · rw [if_pos h2, if_pos (by omega)]
      · rw [if_neg h2, if_neg (by omega)]
  obtain ⟨R, h1, T, rfl, h2, h3⟩ := key
  exact ⟨T, by rw [h1]; rfl, h2, h3⟩
theorem mRakes {S : gSt} {g : Il} (hM : MI (S.1 48) g) (hw : WFr g) {c : Nat} (hc : c < 64) : ∃ S', f_X7_rakes (nI c) S = some (nI (tro (i_pr g) (i_n g) c), S') ∧ Fr8 S S' ∧ MI (S'.1 48) (u_pr g (sw (i_pr g) c)) := by
  have hcl := MI_cl hM hw
  have hn := hw.1
  unfold f_X7_rakes
  rw [mPrints hcl hc, g2s]
  have e0 : (5 : Int32).toNatClampNeg = 5 := rfl
  have e1 : gin 5 416 = true := rfl
  have key : ∃ R, gLoop f_X7_rakes_s8 gFuel (nI c, nI (tro (i_pr g) (i_n g) c), 0, S) = some R ∧ ∃ T, R = (nI (tro (i_pr g) (i_n g) c), T) ∧ Fr8 S T ∧ (∀ j, j < 32 → T.1 48 j = S.1 48 j) ∧ ∀ i, i < 384 → T.1 48 (32 + i) = nI (sw (i_pr g) c i) := by
    refine gLoop_up (fun i p => ∃ T, p = (nI c, nI (tro (i_pr g) (i_n g) c), nI i, T) ∧ Fr8 S T ∧ (∀ j, j < 32 → T.1 48 j = S.1 48 j) ∧ ∀ j, j < 384 → T.1 48 (32 + j) = nI (if j % 64 = c ∧ j < 64 * i then 0 else i_pr g j)) _ (i_n g) (by omega) ?_ ?_ ⟨S, rfl, Fr8_rfl, fun _ _ => rfl, fun j hj => by rw [if_neg (by omega)]; exact hM.2.2.2.2.2 j hj⟩
    · rintro i p hi ⟨T, rfl, hT, ho, hj⟩
      dsimp only [f_X7_rakes_s8]
      unfold f_X7_rakes_s8_b
      rw [e1, if_pos rfl, e0, ho 5 (by decide), hM.2.1, if_neg (by rw [nI_leI (by omega) (by omega)]; omega), n_64, n_32, pk_mul, nI_add, nI_add, gin_t (by omega) (by decide), if_pos rfl, gls, nI_clamp (by omega), nI_1]
      refine ⟨_, rfl, _, rfl, hT.trans (Fr8_gI (by omega)), fun j hj2 => ?_, fun j hj2 => ?_⟩
      · rw [gI_i _ (by omega)]; exact ho j hj2
      · by_cases hji : j = 64 * i + c
        · rw [show 32 + j = 32 + 64 * i + c by omega, gI_s, if_pos (by omega)]; rfl
        · rw [gI_i _ (by omega), hj j hj2]
          by_cases h2 : j % 64 = c ∧ j < 64 * i
          · rw [if_pos h2, if_pos (by omega)]
          · rw [if_neg h2, if_neg (by omega)]
    · rintro p ⟨T, rfl, hT, ho, hj⟩
      dsimp only [f_X7_rakes_s8]
      unfold f_X7_rakes_s8_b
      rw [e1, if_pos rfl, e0, ho 5 (by decide), hM.2.1, if_pos (by rw [nI_leI (by omega) (by omega)]; omega)]
      refine ⟨_, rfl, T, rfl, hT, ho, fun j hj2 => ?_⟩
      rw [hj j hj2]
      unfold sw
      by_cases h2 : j % 64 = c
      · rw [if_pos h2]
        by_cases h3 : j < 64 * i_n g
        · rw [if_pos ⟨h2, h3⟩]
        · rw [if_neg (by omega), hw.2.2.2.2 j (by omega)]
      · rw [if_neg h2, if_neg (by omega)]
  obtain ⟨R, h1, T, rfl, h2, h3, h4⟩ := key
  refine ⟨T, by rw [h1]; rfl, h2, ?_⟩
  obtain ⟨m1, m2, m3, m4, m5, m6⟩ := hM
  refine ⟨fun i hi => ?_, ?_, ?_, ?_, fun w hw2 => ?_, h4⟩
  · rw [h3 i (by omega)]; exact m1 i hi
  · rw [h3 5 (by decide)]; exact m2
  · rw [h3 6 (by decide)]; exact m3
  · rw [h3 7 (by decide)]; exact m4
  · have hw2 : w < i_n g := hw2
    rw [h3 _ (by omega), h3 _ (by omega), h3 _ (by omega), h3 _ (by omega)]; exact m5 w hw2
theorem FrM_8 {S T : gSt} (h : Fr8 S T) : FrM S T := by
  refine ⟨h.1.1, fun k hk => h.1.2 k (fun z => hk ?_), fun j _ _ _ => by rw [h.1.2 47 (by decide)]⟩
  simp only [List.mem_cons, List.not_mem_nil, or_false] at z
  rw [z]; decide
theorem RMn_8 {S T : gSt} {q : Il × Pa} {g : Il} (h : RMn S q) (f : Fr8 S T) (hM : MI (T.1 48) g) (e1 : i_n g = i_n q.1) (e2 : i_kd g = i_kd q.1) (e3 : i_wt g = i_wt q.1) : RMn T (g, q.2) := by
  refine ⟨hM, ?_, ?_⟩
  · intro k hk
    obtain ⟨a1, a2, a3, a4⟩ := h.2.1 k hk
    rw [f.1.2 52 (by decide)]
    refine ⟨a1, a2, fun w hw => ?_, a4⟩
    rw [e1] at hw
    rw [e2, e3]
    exact a3 w hw
  · rw [f.1.2 47 (by decide)]; exact h.2.2
theorem op_rake (p : Int32) : Op (f_X6_rake p) (f_X7_rake p) := by
  refine op_of (fun q => if gin p 64 then nI (tro (i_pr q.1) (i_n q.1) p.toNatClampNeg) else -1) (fun q => if gin p 64 then (u_pr q.1 (sw (i_pr q.1) p.toNatClampNeg), push q.2 (snap q.1)) else q) ?_ ?_ ?_
  · intro q hq
    cases hg : gin p 64 with
    | false => exact hq
    | true =>
      have := WF_push hq
      exact ⟨WFI_pr this.1 (WFpr_sw _ this.1.2.2.2.2.2), this.2.1, this.2.2⟩
  · intro S q h1 h2
    unfold f_X6_rake
    rw [isCell_sp, g2s]
    cases hg : gin p 64 with
    | false => exact ⟨S, rfl, Fr_rfl, h1⟩
    | true =>
      rw [bI_t, if_neg one0]
      obtain ⟨ep, hp⟩ := gin_clamp (by decide) hg
      obtain ⟨S1, a1, a2, a3⟩ := cKeep h1 h2
      obtain ⟨S2, b1, b2, b3⟩ := cSweep (S := S1) (P := i_pr q.1) h2.1.2.2.2.2.2.1 a3.1.2.2.2.2.2 hp
      rw [← ep] at b1
      rw [a1, Option.bind_some, b1, g2s, tro_6 h2.1.1 h2.1.2.2.2.2.2.2]
      exact ⟨S2, rfl, (a2.mono (by decide)).trans (b2.mono (by decide)), RC_pr a3 b2 b3⟩
  · intro S q h1 h2
    unfold f_X7_rake
    rw [mCell_sp, g2s]
    cases hg : gin p 64 with
    | false => exact ⟨S, rfl, FrM_rfl, h1⟩
    | true =>
      rw [bI_t, if_neg one0]
      obtain ⟨ep, hp⟩ := gin_clamp (by decide) hg
      obtain ⟨S1, a1, a2, a3⟩ := mNotes h1 h2
      obtain ⟨S2, b1, b2, b3⟩ := mRakes (g := q.1) a3.1 (WF_r h2) hp
      rw [← ep] at b1
      rw [a1, Option.bind_some, b1, g2s]
      exact ⟨S2, rfl, FrM_trans a2 (FrM_8 b2), RMn_8 a3 b2 b3 rfl rfl rfl⟩
