theorem stp_p (g : Il) (w to : Nat) : i_set (stp g w to) = i_set g ∧ i_n (stp g w to) = i_n g ∧ i_hr (stp g w to) = i_hr g ∧ i_dr (stp g w to) = i_dr g ∧ i_kd (stp g w to) = i_kd g ∧ i_wt (stp g w to) = i_wt g := by
  unfold stp
  by_cases h1 : i_kd g w = 4 ∧ ¬ (i_sp g w + 1).toInt % 2 = 0
  · rw [if_pos h1]; exact ⟨rfl, rfl, rfl, rfl, rfl, rfl⟩
  · rw [if_neg h1]
    by_cases h3 : i_kd g w = 3
    · rw [if_pos h3]; exact ⟨rfl, rfl, rfl, rfl, rfl, rfl⟩
    · rw [if_neg h3]; exact ⟨rfl, rfl, rfl, rfl, rfl, rfl⟩
theorem WFs_stp {g : Il} {w to : Nat} (h : WFs g) (hw : w < i_n g) (ht : to < 64) : WFs (stp g w to) := by
  have w1 := WFs_stc (w := w) h ht
  have k4 := (h.2.1 w hw).2.2.2
  unfold stp
  by_cases h1 : i_kd g w = 4 ∧ ¬ (i_sp g w + 1).toInt % 2 = 0
  · rw [if_pos h1]; exact w1
  · rw [if_neg h1]
    have w2 := WFs_tr1 (w := w) (c := to) w1 hw ht
    by_cases h3 : i_kd g w = 3
    · rw [if_pos h3]; exact WFs_tr1 (w := w) (c := i_ce g w) w2 hw k4
    · rw [if_neg h3]; exact w2
theorem WF_s {q : Il × Pa} (h : WF q) : WFs q.1 := ⟨h.1.1, h.1.2.2.2.2.1, h.1.2.2.2.2.2⟩
theorem WF_stp {q : Il × Pa} (h : WF q) {w to : Nat} (hw : w < i_n q.1) (ht : to < 64) : WF (stp q.1 w to, push q.2 (snap q.1)) := by
  have hs := WFs_stp (WF_s h) hw ht
  obtain ⟨e1, e2, e3, e4, e5, e6⟩ := stp_p q.1 w to
  have hp := WF_push h
  refine ⟨⟨hs.1, by rw [e3]; exact h.1.2.1, by rw [e4]; exact h.1.2.2.1, by rw [e1]; exact h.1.2.2.2.1, hs.2.1, hs.2.2⟩, hp.2.1, fun k hk => ?_⟩
  show WFS (i_n (stp q.1 w to)) _
  rw [e2]
  exact hp.2.2 k hk
def uSt (q : Il × Pa) (w : Nat) (o : Option Nat) : Il × Pa := match o with
  | none => q
  | some to => (stp q.1 w to, push q.2 (snap q.1))
theorem op_step (p d : Int32) : Op (f_X6_step p d) (f_X7_step p d) := by
  refine op_of (fun q => if gin p (i_n q.1) then (if rng d 0 (3 : Nat) then oI (-2) (bes (i_ce q.1 p.toNatClampNeg) d.toNatClampNeg) else -1) else -1) (fun q => if gin p (i_n q.1) then (if rng d 0 (3 : Nat) then uSt q p.toNatClampNeg (bes (i_ce q.1 p.toNatClampNeg) d.toNatClampNeg) else q) else q) ?_ ?_ ?_
  · intro q hq
    have h6 := hq.1.1
    cases hg : gin p (i_n q.1) with
    | false => exact hq
    | true =>
      cases hd : rng d 0 (3 : Nat) with
      | false => exact hq
      | true =>
        obtain ⟨ep, hp⟩ := gin_clamp (by omega) hg
        show WF (uSt q p.toNatClampNeg (bes (i_ce q.1 p.toNatClampNeg) d.toNatClampNeg))
        cases hb : bes (i_ce q.1 p.toNatClampNeg) d.toNatClampNeg with
        | none => exact hq
        | some to => exact WF_stp hq hp (bes_lt (hq.1.2.2.2.2.1 _ hp).2.2.2 hb)
  · intro S q h1 h2
    have h6 := h2.1.1
    unfold f_X6_step
    rw [has_sp p h1.1.2.1 (by omega), g2s]
    dsimp only
    cases hg : gin p (i_n q.1) with
    | false => exact ⟨S, rfl, Fr_rfl, h1⟩
    | true =>
      rw [bI_t, if_neg one0]
      have hle : ∀ {α : Type} (a b : α), (if d < 0 then a else if d ≤ 3 then b else a) = if rng d 0 (3 : Nat) then b else a := by
        intro α a b
        simp only [lt_toInt, le_toInt]
        have e : (3 : Int32).toInt = 3 := rfl
        rw [z_toInt, e]
        by_cases h1 : d.toInt < 0
        · rw [if_pos h1, if_neg (by rw [rng_iff]; omega)]
        · rw [if_neg h1]
          by_cases h2 : d.toInt ≤ 3
          · rw [if_pos h2, if_pos (by rw [rng_iff]; omega)]
          · rw [if_neg h2, if_neg (by rw [rng_iff]; omega)]
      rw [hle]
      cases hd : rng d 0 (3 : Nat) with
      | false => exact ⟨S, rfl, Fr_rfl, h1⟩
      | true =>
        simp only [if_pos]
        obtain ⟨ep, hp⟩ := gin_clamp (by omega) hg
        obtain ⟨ed, hd2⟩ := rng_clamp (by decide) hd
        generalize p.toNatClampNeg = w at *
        generalize d.toNatClampNeg = j at *
        subst ep ed
        have k4 := (h2.1.2.2.2.2.1 w hp).2.2.2
        have c5 : S.1 5 w = nI (i_ce q.1 w) := (h1.1.2.2.2.2.1 w hp).2.2.1
        rw [gin_t (show w < 6 by omega) (by decide), if_pos rfl, c5, cBes k4 hd2, g2s]
        cases hb : bes (i_ce q.1 w) j with
        | none => exact ⟨S, rfl, Fr_rfl, h1⟩
        | some to =>
          have ht := bes_lt k4 hb
          show ∃ S1, (if 0 ≤ nI to then _ else _) = _ ∧ _
          rw [if_pos (by rw [n_0, nI_leI (by decide) (by omega)]; omega)]
          obtain ⟨T, a1, a2, a3⟩ := cKeep h1 h2
          obtain ⟨U, b1, b2, b3⟩ := cStep (g := q.1) a3.1 (WF_s h2) hp ht
          have b1 : f_X0_stepTo (nI w) (oI (-2) (some to)) T = some U := b1
          rw [a1, Option.bind_some, b1, Option.bind_some]
          refine ⟨U, rfl, (a2.mono (by decide)).trans (b2.mono (by decide)), b3, ?_⟩
          show CP U 1 (i_n (stp q.1 w to)) (push q.2 (snap q.1))
          rw [(stp_p q.1 w to).2.1]
          exact CP_eq (fun k x y => b2.2 k (by simp only [List.mem_cons, List.not_mem_nil, or_false]; omega)) a3.2
  · intro S q h1 h2
    have h6 := h2.1.1
    unfold f_X7_step
    rw [mWalker_sp p h1.1.2.1 (by omega), g2s]
    dsimp only
    cases hg : gin p (i_n q.1) with
    | false => exact ⟨S, rfl, FrM_rfl, h1⟩
    | true =>
      rw [bI_t, if_neg one0, in_lit d (a := 0) (b := (3 : Nat)) S rfl rfl, g2s]
      cases hd : rng d 0 (3 : Nat) with
      | false => exact ⟨S, rfl, FrM_rfl, h1⟩
      | true =>
        rw [bI_t, if_neg one0]
        simp only [if_pos]
        obtain ⟨ep, hp⟩ := gin_clamp (by omega) hg
        obtain ⟨ed, hd2⟩ := rng_clamp (by decide) hd
        generalize p.toNatClampNeg = w at *
        generalize d.toNatClampNeg = j at *
        subst ep ed
        have k4 := (h2.1.2.2.2.2.1 w hp).2.2.2
        have c5 := (h1.1.2.2.2.2.1 w hp).2.2.1
        have e1 : (8 : Int32) + 4 * nI w + 2 = nI (10 + 4 * w) := by rw [mAt, n_2, nI_add, show 8 + 4 * w + 2 = 10 + 4 * w by omega]
        rw [e1, gin_t (show 10 + 4 * w < 416 by omega) (by decide), if_pos rfl, nI_clamp (by omega), c5, mBes k4 hd2, g2s]
        cases hb : bes (i_ce q.1 w) j with
        | none => exact ⟨S, rfl, FrM_rfl, h1⟩
        | some to =>
          have ht := bes_lt k4 hb
          show ∃ S2, (if nI to = -4 then _ else _) = _ ∧ _
          rw [if_neg (fun z => absurd (show nI to < 0 by rw [z]; decide) (nI_pos (by omega)))]
          obtain ⟨T, a1, a2, a3⟩ := mNotes h1 h2
          obtain ⟨U, b1, b2, b3, b4⟩ := mSteps (g := q.1) a3.1 (WF_s h2) hp hd2 hb
          obtain ⟨e1, e2, e3, e4, e5, e6⟩ := stp_p q.1 w to
          rw [a1, Option.bind_some, b1, Option.bind_some, if_pos rfl, b4]
          exact ⟨U, rfl, FrM_trans a2 (FrM_8 b2), RMn_8 (q := (q.1, push q.2 (snap q.1))) a3 b2 b3 e2 e5 e6⟩
