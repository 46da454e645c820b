/-! lasts -/
theorem RC_fr {S T : gSt} {q : Il × Pa} (hf : Fr [41, 42, 43, 44, 45, 46] S T) (h : RC S 1 q) : RC T 1 q := by
  refine RC_eq (fun k x y => hf.2 k ?_) h
  intro hm
  simp only [List.mem_cons, List.not_mem_nil, or_false] at hm
  omega
/-- how long f holds from the start, among the first n -/
def frun (f : Nat → Bool) : Nat → Nat
  | 0 => 0
  | n + 1 => if frun f n = n ∧ f n = true then n + 1 else frun f n
theorem frun_le (f : Nat → Bool) : ∀ n, frun f n ≤ n
  | 0 => Nat.le_refl _
  | n + 1 => by
    have := frun_le f n
    rw [frun]
    by_cases h : frun f n = n ∧ f n = true
    · rw [if_pos h]; exact Nat.le_refl _
    · rw [if_neg h]; omega
theorem frun_go {f : Nat → Bool} {i : Nat} (h : frun f i = i) (hf : f i = true) : frun f (i + 1) = i + 1 := by rw [frun, if_pos ⟨h, hf⟩]
theorem frun_stop {f : Nat → Bool} {i : Nat} (h : frun f i = i) (hf : f i = false) : ∀ k, frun f (i + k) = i
  | 0 => h
  | k + 1 => by
    rw [← Nat.add_assoc, frun, frun_stop h hf k, if_neg]
    rintro ⟨h1, h2⟩
    rw [← h1, hf] at h2
    cases h2
theorem frun_at {f : Nat → Bool} {i N : Nat} (h : frun f i = i) (hf : f i = false) (hi : i ≤ N) : frun f N = i := by
  rw [show N = i + (N - i) by omega]
  exact frun_stop h hf _
def lsf (g : Il) (w c : Nat) (h : Nat) : Bool := decide (hol (lkP (i_pr g) none (i_set g) (i_hr g) h) (i_set g 2) (i_n g) c = some w)
def lsV (g : Il) (w c : Nat) : Int32 := if frun (lsf g w c) 49 = 0 then -2 else if frun (lsf g w c) 49 ≤ 48 then nI (frun (lsf g w c) 49) else -4
theorem op_lasts (p c : Int32) : Op (f_X6_lasts p c) (f_X7_lasts p c) := by
  refine op_of (fun q => if gin p (i_n q.1) then (if gin c 64 then lsV q.1 p.toNatClampNeg c.toNatClampNeg else -1) else -1) id (fun q h => h) (opC_read ?_) (opM_read ?_)
  · intro S q h1 h2
    have h6 := h2.1.1
    unfold f_X6_lasts
    rw [has_sp p h1.1.2.1 (by omega), g2s]
    cases hg : gin p (i_n q.1) with
    | false => exact ⟨S, rfl, Fr_rfl⟩
    | true =>
      rw [bI_t, if_neg one0, if_pos rfl, isCell_sp, g2s]
      cases hc : gin c 64 with
      | false => exact ⟨S, rfl, Fr_rfl⟩
      | true =>
        rw [bI_t, if_neg one0, if_pos rfl]
        obtain ⟨ep, hp⟩ := gin_clamp (by omega) hg
        obtain ⟨ec, hc2⟩ := gin_clamp (by decide) hc
        generalize p.toNatClampNeg = w at *
        generalize c.toNatClampNeg = d at *
        subst ep ec
        have key : ∃ R, gLoop f_X6_lasts_s22 gFuel (nI w, nI d, 0, S) = some R ∧ ∃ T, Fr [41, 42, 43, 44, 45, 46] S T ∧ (R = Sum.inl (lsV q.1 w d, T) ∨ (R = Sum.inr T ∧ lsV q.1 w d = -4)) := by
          refine gLoop_up2 (fun i t => ∃ T, t = (nI w, nI d, nI i, T) ∧ Fr [41, 42, 43, 44, 45, 46] S T ∧ frun (lsf q.1 w d) i = i) _ 49 (by omega) ?_ ?_ ⟨S, rfl, Fr_rfl, rfl⟩
          · rintro i t hi ⟨T, rfl, hT, hf⟩
            dsimp only [f_X6_lasts_s22]
            unfold f_X6_lasts_s22_b
            obtain ⟨T', a, b, cc, dd⟩ := cLookQ (RC_fr hT h1) h2 (show i ≤ 48 by omega)
            have hT' := hT.trans (b.mono (by decide))
            rw [if_neg (by rw [n_48, Int32.not_lt, nI_leI (by omega) (by omega)]; omega), a, Option.bind_some, cHolder cc hc2, g2s, nI_1]
            have hq := hI_eq (hol (lkP (i_pr q.1) none (i_set q.1) (i_hr q.1) i) (i_set q.1 2) (i_n q.1) d) w (by omega) (fun v hv => by have := hol_lt hv; omega)
            by_cases hh : hol (lkP (i_pr q.1) none (i_set q.1) (i_hr q.1) i) (i_set q.1 2) (i_n q.1) d = some w
            · rw [if_pos (hq.mpr hh)]
              exact Or.inl ⟨_, rfl, T', rfl, hT', frun_go hf (decide_eq_true hh)⟩
            · rw [if_neg (fun z => hh (hq.mp z))]
              have hm := frun_at hf (decide_eq_false hh) (show i ≤ 49 by omega)
              have hv : lsV q.1 w d = if i = 0 then -2 else if i ≤ 48 then nI i else -4 := by unfold lsV; rw [hm]
              rw [n_0, ieq (by omega) (by decide)]
              by_cases h0 : i = 0
              · rw [if_pos h0]
                exact Or.inr ⟨_, rfl, T', hT', Or.inl (by rw [hv, if_pos h0])⟩
              · rw [if_neg h0]
                exact Or.inr ⟨_, rfl, T', hT', Or.inl (by rw [hv, if_neg h0, if_pos (by omega)])⟩
          · rintro t ⟨T, rfl, hT, hf⟩
            dsimp only [f_X6_lasts_s22]
            unfold f_X6_lasts_s22_b
            rw [if_pos (by decide)]
            exact ⟨_, rfl, T, hT, Or.inr ⟨rfl, by unfold lsV; rw [hf]; rfl⟩⟩
        obtain ⟨R, hR, T, hT, rfl | ⟨rfl, hv⟩⟩ := key
        · rw [hR]; exact ⟨T, rfl, hT⟩
        · rw [hR, hv]; exact ⟨T, rfl, hT⟩
  · intro S q h1 h2
    have h6 := h2.1.1
    have hr := h2.1.2.1
    unfold f_X7_lasts
    rw [mWalker_sp p h1.1.2.1 (by omega), g2s]
    cases hg : gin p (i_n q.1) with
    | false => exact ⟨S, rfl, Fr_rfl⟩
    | true =>
      rw [bI_t, if_neg one0, if_pos rfl, mCell_sp, g2s]
      cases hc : gin c 64 with
      | false => exact ⟨S, rfl, Fr_rfl⟩
      | true =>
        rw [bI_t, if_neg one0, if_pos rfl]
        obtain ⟨ep, hp⟩ := gin_clamp (by omega) hg
        obtain ⟨ec, hc2⟩ := gin_clamp (by decide) hc
        generalize p.toNatClampNeg = w at *
        generalize c.toNatClampNeg = d at *
        subst ep ec
        have hcl := MI_cl h1.1 (WF_r h2)
        have hst3 : 0 < i_set q.1 3 := Nat.lt_of_lt_of_le (by decide) h2.1.2.2.2.1.2.2.2.1
        rw [mHolder hcl hc2, g2s]
        have hq := fun i => hI_eq (hol (lkP (i_pr q.1) none (i_set q.1) (i_hr q.1) i) (i_set q.1 2) (i_n q.1) d) w (by omega) (fun v hv => by have := hol_lt hv; omega)
        have hq0 := hq 0
        rw [lkP_0] at hq0
        by_cases hh0 : hol (i_pr q.1) (i_set q.1 2) (i_n q.1) d = some w
        · rw [if_pos (hq0.mpr hh0)]
          have hf0 : lsf q.1 w d 0 = true := by unfold lsf; rw [lkP_0]; exact decide_eq_true hh0
          have hpos : 1 ≤ frun (lsf q.1 w d) 49 := by
            cases hz : frun (lsf q.1 w d) 49 with
            | succ _ => omega
            | zero =>
              exfalso
              have h1' : frun (lsf q.1 w d) 1 = 1 := frun_go rfl hf0
              have : ∀ k, 1 ≤ frun (lsf q.1 w d) (1 + k) := by
                intro k
                induction k with
                | zero => rw [h1']; exact Nat.le_refl _
                | succ k ih =>
                  rw [← Nat.add_assoc, frun]
                  by_cases hx : frun (lsf q.1 w d) (1 + k) = 1 + k ∧ lsf q.1 w d (1 + k) = true
                  · rw [if_pos hx]; omega
                  · rw [if_neg hx]; exact ih
              have := this 48
              rw [show 1 + 48 = 49 by omega, hz] at this
              omega
          obtain ⟨A1, a1, a2, a3⟩ := mAside S
          have hM : MI (A1.1 48) q.1 := by rw [a2.2 48 (by decide)]; exact h1.1
          rw [a1, Option.bind_some]
          have key : ∃ R, gLoop f_X7_lasts_s35 gFuel (nI w, nI d, 0, A1) = some R ∧ ∃ T, Fr8 A1 T ∧ R = (nI (frun (lsf q.1 w d) 49), T) := by
            refine gLoop_up2 (fun i t => ∃ T, t = (nI w, nI d, nI i, T) ∧ Fr8 A1 T ∧ MI (T.1 48) (u_hrs q.1 i) ∧ frun (lsf q.1 w d) i = i) _ 49 (by omega) ?_ ?_ ⟨A1, rfl, Fr8_rfl, hM, rfl⟩
            · rintro i t hi ⟨T, rfl, hT, hMT, hf⟩
              dsimp only [f_X7_lasts_s35]
              unfold f_X7_lasts_s35_b
              have hw := WFr_hrs (WF_r h2) i (by omega)
              have hcT := MI_cl hMT hw
              obtain ⟨e1, e2, -⟩ := u_hrs_p q.1 i
              rw [u_hrs_prf hst3, e1, e2] at hcT
              rw [if_neg (by rw [n_49, nI_leI (by omega) (by omega)]; omega), mHolder hcT hc2, g2s, nI_1]
              by_cases hh : hol (lkP (i_pr q.1) none (i_set q.1) (i_hr q.1) i) (i_set q.1 2) (i_n q.1) d = some w
              · rw [if_pos ((hq i).mpr hh)]
                obtain ⟨T', b1, b2, b3⟩ := mBy hMT hw
                rw [b1, Option.bind_some]
                exact Or.inl ⟨_, rfl, T', rfl, hT.trans b2, b3, frun_go hf (decide_eq_true hh)⟩
              · rw [if_neg (fun z => hh ((hq i).mp z))]
                exact Or.inr ⟨_, rfl, T, hT, by rw [frun_at hf (decide_eq_false hh) (show i ≤ 49 by omega)]⟩
            · rintro t ⟨T, rfl, hT, hMT, hf⟩
              dsimp only [f_X7_lasts_s35]
              unfold f_X7_lasts_s35_b
              rw [if_pos (by decide)]
              exact ⟨_, rfl, T, hT, by rw [hf]⟩
          obtain ⟨R, hR, T, hT, rfl⟩ := key
          obtain ⟨C1, c1, c2, c3⟩ := mAB a2 a3 hT.1 (by decide) hT.2
          rw [hR, Option.bind_some]
          dsimp only
          unfold f_X7_lasts_j60
          have hle := frun_le (lsf q.1 w d) 49
          have hfr : Fr [49, 53, 54, 55] S C1 := by
            refine ⟨c2.1, fun k hk => ?_⟩
            by_cases h48 : k = 48
            · rw [h48, c3]
            · refine c2.2 k (fun z => ?_)
              simp only [List.mem_cons, List.not_mem_nil, or_false] at z hk
              omega
          rw [c1, Option.bind_some, n_48, ile (by omega) (by decide)]
          unfold lsV
          rw [if_neg (show ¬ frun (lsf q.1 w d) 49 = 0 by omega)]
          by_cases h48 : frun (lsf q.1 w d) 49 ≤ 48
          · simp only [if_pos h48]; exact ⟨C1, rfl, hfr⟩
          · simp only [if_neg h48]; exact ⟨C1, rfl, hfr⟩
        · rw [if_neg (fun z => hh0 (hq0.mp z))]
          have hf0 : lsf q.1 w d 0 = false := by unfold lsf; rw [lkP_0]; exact decide_eq_false hh0
          have hm := frun_at (f := lsf q.1 w d) (i := 0) rfl hf0 (Nat.zero_le 49)
          exact ⟨S, by unfold lsV; rw [hm, if_pos rfl], Fr_rfl⟩
