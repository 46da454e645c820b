/-! a look, with bounds of all its claims -/
theorem cLookB {S : gSt} {st : Nat → Nat} {hr n h : Nat} {P : Nat → Nat} {o : Option Nat} (ho : ∀ x, o = some x → x < 64) (hs : cSt S st hr) (hn : n ≤ 6) (h7 : S.1 1 7 = nI n) (hb : ∀ i, P i ≤ 99) (hP : ∀ i, i < 384 → S.1 7 i = nI (P i)) (hh : h ≤ 48) :
    ∃ S', f_X3_lookWithout (nI h) (hI o) S = some S' ∧ Fr [41, 42, 43] S S' ∧ cSv S' (lkP P o st hr h) (st 2) n ∧ ∀ a, a < 384 → ∃ u, u ≤ 99 ∧ S'.1 42 a = nI u := by
  have hr2 : st 2 ≤ 3 := hs.2.2.1.2.2.1
  unfold f_X3_lookWithout
  rw [gls, h7]
  obtain ⟨S1, a1, a2, a3⟩ := fill42 0 (gI S 41 3 (nI n))
  rw [a1, Option.bind_some]
  have f1 : Fr [41, 42, 43] S S1 := (Fr_gI (by decide)).trans (a2.mono (by decide))
  have key : ∃ R, gLoop f_X3_lookWithout_s19 gFuel (nI h, hI o, 0, S1) = some R ∧ Fr [41, 42, 43] S R ∧ R.1 41 3 = nI n ∧ cCl R (clS P o st hr h (st 2) (64 * n)) := by
    refine gLoop_up (fun i p => ∃ T, p = (nI h, hI o, nI i, T) ∧ Fr [41, 42, 43] S T ∧ T.1 41 3 = nI n ∧ cCl T (clS P o st hr h (st 2) i)) _ (64 * n) (by omega) ?_ ?_ ⟨S1, rfl, f1, by rw [a2.2 41 (by decide)]; exact gI_s _ _ _ _, fun a ha => a3 a ha⟩
    · rintro i p hi ⟨T, rfl, b1, b2, b3⟩
      dsimp only [f_X3_lookWithout_s19]
      unfold f_X3_lookWithout_s19_b
      have hT7 : T.1 7 i = nI (P i) := by rw [b1.2 7 (by decide)]; exact hP i (by omega)
      have hTs : cSt T st hr := ⟨fun j hj => by rw [b1.2 2 (by decide)]; exact hs.1 j hj, by rw [b1.2 1 (by decide)]; exact hs.2.1, hs.2.2⟩
      have hpi := hb i
      rw [b2, n_64, pk_mul, if_neg (by rw [nI_leI (by omega) (by omega)]; omega), ← n_64, m64 (by omega), gls, gin_t (by omega) (by decide), if_pos rfl, nI_clamp (by omega), hT7, nI_1 i]
      by_cases h0 : P i = 0
      · rw [if_pos (by rw [h0]; decide)]
        exact ⟨_, rfl, T, rfl, b1, b2, by rw [clS, if_pos (Or.inl h0)]; exact b3⟩
      · rw [if_neg (by rw [n_0, nI_leI (by omega) (by omega)]; omega)]
        by_cases hk : o = some (i % 64)
        · rw [if_pos (by rw [hk]; rfl)]
          exact ⟨_, rfl, T, rfl, b1, b2, by rw [clS, if_pos (Or.inr hk)]; exact b3⟩
        · rw [if_neg (fun z => hk ((hI_eq o (i % 64) (by omega) (fun x hx => by have := ho x hx; omega)).mp z.symm)), if_pos rfl, cDep hTs hpi (by omega) hh, g2s]
          have e0 : (2 : Int32).toNatClampNeg = 2 := rfl
          have e1 : gin 2 5 = true := rfl
          have hd := dep_le st hr (P i) (i % 64 / 8) h
          rw [e1, if_pos rfl, e0, hTs.1 2 (by decide), nI_sub_le (by omega), show i - i % 64 = 64 * (i / 64) by omega]
          obtain ⟨T', g1, g2, g3⟩ := cRaise (clS_le hb o st hr h (st 2) i) (w := i / 64) (d := dep st hr (P i) (i % 64 / 8) h) (r := st 2) (c := i % 64) (by omega) (by omega) hr2 (by omega) b3
          rw [g1]
          refine ⟨_, rfl, T', rfl, b1.trans (g2.mono (by decide)), by rw [g2.2 41 (by decide)]; exact b2, ?_⟩
          rw [clS, if_neg (fun z => z.elim h0 hk)]
          exact g3
    · rintro p ⟨T, rfl, b1, b2, b3⟩
      dsimp only [f_X3_lookWithout_s19]
      unfold f_X3_lookWithout_s19_b
      rw [b2, n_64, pk_mul, if_pos (by rw [nI_leI (by omega) (by omega)]; omega)]
      exact ⟨_, rfl, b1, b2, b3⟩
  obtain ⟨R, h1, h2, h3, h4⟩ := key
  have hsv : cSv R (lkP P o st hr h) (st 2) n := ⟨hn, lkP_le hb o st hr h, h3, fun w c hw hc => by rw [h4 _ (by omega), clS_clm hw hc]⟩
  obtain ⟨S', t1, t2, t3, t4⟩ := cTally hsv
  refine ⟨S', ?_, h2.trans (t2.mono (by decide)), t3, fun a ha => ⟨_, clS_le hb o st hr h (st 2) (64 * n) a, by rw [t2.2 42 (by decide)]; exact h4 a ha⟩⟩
  rw [h1]
  show (f_X3_tally R).bind _ = _
  rw [t1]; rfl
/-! a trial -/
theorem dep_mono (st : Nat → Nat) (hr row h : Nat) {p p' : Nat} (hp : p ≤ p') : dep st hr p row h ≤ dep st hr p' row h := by
  unfold dep
  by_cases h1 : row < st 4 ∧ hr / st 3 < (hr + h) / st 3
  · rw [if_pos h1, if_pos h1]; exact Nat.le_refl _
  · rw [if_neg h1, if_neg h1]; omega
def put1 (Q : Nat → Nat) (i d j : Nat) : Nat := if j = i then d else Q j
theorem clm_up {Q : Nat → Nat} {r v c d : Nat} (hc : c < 64) (hd : Q (64 * v + c) ≤ d) (w x : Nat) : clm (put1 Q (64 * v + c) d) r w x = if w = v ∧ near r c x = true then max (clm Q r w x) d else clm Q r w x := by
  have hm := clm_is Q r w x
  by_cases h : w = v ∧ near r c x = true
  · rw [if_pos h]
    obtain ⟨rfl, hn⟩ := h
    refine IsMx.uniq (clm_is _ _ _ _) ⟨fun y hy => ?_, ?_⟩
    · have h0 : Q (64 * w + y) ≤ clm Q r w x := hm.1 y hy
      show put1 Q (64 * w + c) d (64 * w + y) ≤ _
      unfold put1
      by_cases hyc : 64 * w + y = 64 * w + c
      · rw [if_pos hyc]; omega
      · rw [if_neg hyc]; omega
    · by_cases hle : clm Q r w x ≤ d
      · right
        refine ⟨c, ⟨hc, by rw [near_comm]; exact hn⟩, ?_⟩
        show put1 Q (64 * w + c) d (64 * w + c) = _
        unfold put1
        rw [if_pos rfl]; omega
      · right
        rcases hm.2 with h0 | ⟨y, hy, e⟩
        · omega
        · have e : Q (64 * w + y) = clm Q r w x := e
          refine ⟨y, hy, ?_⟩
          show put1 Q (64 * w + c) d (64 * w + y) = _
          unfold put1
          by_cases hyc : y = c
          · subst hyc; omega
          · rw [if_neg (by omega)]; omega
  · rw [if_neg h]
    refine IsMx.uniq (clm_is _ _ _ _) (hm.fcongr (fun y hy => ?_))
    show put1 Q (64 * v + c) d (64 * w + y) = Q (64 * w + y)
    unfold put1
    rw [if_neg (fun z => h ?_)]
    have h1 := hy.1
    have e1 : w = v := by omega
    have e2 : y = c := by omega
    refine ⟨e1, ?_⟩
    rw [near_comm, ← e2]
    exact hy.2
theorem lkP_dpn (P : Nat → Nat) (i t : Nat) (st : Nat → Nat) (hr h : Nat) : lkP (dpn P i t) none st hr h = put1 (lkP P none st hr h) i (dep st hr (min (P i + t) 99) (i % 64 / 8) h) := by
  have a1 : ∀ (P : Nat → Nat) (j : Nat), lkP P none st hr h j = dep st hr (P j) (j % 64 / 8) h := fun P j => by
    unfold lkP
    rw [if_neg (by simp)]
  funext j
  rw [a1]
  unfold put1
  rw [a1]
  unfold dpn
  by_cases hj : j = i
  · rw [if_pos hj, if_pos hj, hj]
  · rw [if_neg hj, if_neg hj]
theorem dpn_le {P : Nat → Nat} (hP : ∀ i, P i ≤ 99) (i t j : Nat) : dpn P i t j ≤ 99 := by
  unfold dpn
  by_cases h : j = i
  · rw [if_pos h]; omega
  · rw [if_neg h]; exact hP j
theorem cTrT {S : gSt} {st : Nat → Nat} {hr h n w sh c kd wt : Nat} {P : Nat → Nat} (hs : cSt S st hr) (hh : h ≤ 48) (hn : n ≤ 6) (hw : w < 6) (hsh : sh < n) (hc : c < 64) (hkd : kd ≤ 4) (hwt : wt ≤ 9) (h3 : S.1 3 w = nI kd) (h4 : S.1 4 w = nI wt) (t2 : S.1 44 2 = nI w) (t3 : S.1 44 3 = nI (64 * sh)) (t4 : S.1 44 4 = nI h) (hP : ∀ i, P i ≤ 99) (p45 : ∀ c, c < 64 → S.1 45 c = nI (P (64 * sh + c))) (hsv : cSv S (lkP P none st hr h) (st 2) n) (hB : ∀ a, a < 384 → ∃ u, u ≤ 99 ∧ S.1 42 a = nI u) :
    ∃ S', f_X5_tread (nI c) S = some S' ∧ Fr [42, 45] S S' ∧ (∀ x, x < 64 → S'.1 45 x = nI (dpn P (64 * sh + c) (trd kd wt) (64 * sh + x))) ∧ cSv S' (lkP (dpn P (64 * sh + c) (trd kd wt)) none st hr h) (st 2) n ∧ (∀ a, a < 384 → ∃ u, u ≤ 99 ∧ S'.1 42 a = nI u) ∧ ∀ v x, v ≠ sh → x < 64 → 64 * v + x < 384 → S'.1 42 (64 * v + x) = S.1 42 (64 * v + x) := by
  have ht := trd_le (kd := kd) hwt
  have hp := hP (64 * sh + c)
  have hr2 : st 2 ≤ 3 := hs.2.2.1.2.2.1
  unfold f_X5_tread
  rw [t2, cTread hw hkd h3 h4, g2s]
  unfold f_X6_deepen_45
  have hm : (if nI (P (64 * sh + c) + trd kd wt) < 99 then nI (P (64 * sh + c) + trd kd wt) else 99) = nI (min (P (64 * sh + c) + trd kd wt) 99) := by
    rw [n_99]
    by_cases h9 : P (64 * sh + c) + trd kd wt < 99
    · rw [if_pos ((nI_ltI (by omega) (by omega)).mpr h9), Nat.min_eq_left (by omega)]
    · rw [if_neg (fun z => h9 ((nI_ltI (by omega) (by omega)).mp z)), Nat.min_eq_right (by omega)]
  rw [gin_t hc (by decide), if_pos rfl, if_pos rfl, gls, nI_clamp (by omega), p45 c hc, nI_add, hm, Option.bind_some, if_pos rfl]
  obtain ⟨T, hT⟩ : ∃ T, T = gI S 45 c (nI (min (P (64 * sh + c) + trd kd wt) 99)) := ⟨_, rfl⟩
  rw [← hT]
  have kT : ∀ k, k ≠ 45 → T.1 k = S.1 k := fun k hk => by rw [hT, gI_k _ hk]
  have hsT : cSt T st hr := ⟨fun i hi => by rw [kT 2 (by decide)]; exact hs.1 i hi, by rw [kT 1 (by decide)]; exact hs.2.1, hs.2.2⟩
  have T45 : T.1 45 c = nI (min (P (64 * sh + c) + trd kd wt) 99) := by rw [hT, gI_s]
  obtain ⟨d, hd⟩ : ∃ d, d = dep st hr (min (P (64 * sh + c) + trd kd wt) 99) (c / 8) h := ⟨_, rfl⟩
  have hdl := dep_le st hr (min (P (64 * sh + c) + trd kd wt) 99) (c / 8) h
  have hd9 : d ≤ 99 := by omega
  have e2 : (2 : Int32).toNatClampNeg = 2 := rfl
  rw [T45, kT 44 (by decide), t4, cDep hsT (by omega) hc hh, g2s, ← hd, if_pos (show gin 2 5 = true from rfl), e2, hsT.1 2 (by decide), t3]
  obtain ⟨C, hC⟩ : ∃ C : Nat → Nat, C = fun a => if a < 384 then (T.1 42 a).toNatClampNeg else 0 := ⟨_, rfl⟩
  have hCl : cCl T C := fun a ha => by
    obtain ⟨u, u1, u2⟩ := hB a ha
    rw [hC]
    show T.1 42 a = nI (if a < 384 then (T.1 42 a).toNatClampNeg else 0)
    rw [if_pos ha, kT 42 (by decide), u2, nI_clamp (by omega)]
  have hC9 : ∀ a, C a ≤ 99 := fun a => by
    rw [hC]
    show (if a < 384 then (T.1 42 a).toNatClampNeg else 0) ≤ 99
    by_cases ha : a < 384
    · obtain ⟨u, u1, u2⟩ := hB a ha
      rw [if_pos ha, kT 42 (by decide), u2, nI_clamp (by omega)]; exact u1
    · rw [if_neg ha]; omega
  obtain ⟨U, u1, u2, u3⟩ := cRaise hC9 (w := sh) (d := d) (r := st 2) (c := c) (by omega) hd9 hr2 hc hCl
  have el : ∀ a, lift1 C sh (st 2) c d a ≤ 99 := fun a => by
    unfold lift1
    have := hC9 a
    by_cases hv : a / 64 = sh ∧ near (st 2) c (a % 64) = true
    · rw [if_pos hv]; omega
    · rw [if_neg hv]; exact this
  rw [u1, Option.bind_some]
  refine ⟨U, rfl, ⟨by rw [u2.1, hT]; rfl, fun k hk => ?_⟩, fun x hx => ?_, ⟨hn, fun i => ?_, ?_, fun v x hv hx => ?_⟩, fun a ha => ⟨_, el a, u3 a ha⟩, fun v x hv hx hlt => ?_⟩
  · simp only [List.mem_cons, List.not_mem_nil, or_false, not_or] at hk
    rw [u2.2 k (by simp [hk.1]), kT k hk.2]
  · rw [u2.2 45 (by decide)]
    unfold dpn
    by_cases hxc : x = c
    · rw [hxc, if_pos rfl, T45]
    · rw [if_neg (by omega), hT, gI_i _ hxc]; exact p45 x hx
  · exact lkP_le (dpn_le hP _ _) _ _ _ _ _
  · rw [u2.2 41 (by decide), kT 41 (by decide)]; exact hsv.2.2.1
  · have hcl := hsv.2.2.2 v x hv hx
    have hcv : C (64 * v + x) = clm (lkP P none st hr h) (st 2) v x := by
      have h1 := hCl (64 * v + x) (by omega)
      rw [kT 42 (by decide), hcl] at h1
      have h2 := hC9 (64 * v + x)
      have h3 := clm_le (lkP_le hP none st hr h) (st 2) v x
      exact ((nI_eq (by omega) (by omega)).mp h1).symm
    rw [u3 _ (by omega), lkP_dpn, show (64 * sh + c) % 64 / 8 = c / 8 by omega, ← hd, clm_up hc ?_]
    · unfold lift1
      rw [show (64 * v + x) / 64 = v by omega, show (64 * v + x) % 64 = x by omega, hcv]
    · unfold lkP
      rw [if_neg (by simp), hd, show (64 * sh + c) % 64 / 8 = c / 8 by omega]
      exact dep_mono _ _ _ _ (by omega)
  · rw [u3 _ hlt]
    unfold lift1
    rw [if_neg (by omega), ← hCl _ hlt, kT 42 (by decide)]
