theorem lkP_0 (P : Nat → Nat) (st : Nat → Nat) (hr : Nat) : lkP P none st hr 0 = P := by
  funext i
  unfold lkP
  rw [if_neg (by simp), dep_0]
theorem u_hrs_prf {g : Il} (h3 : 0 < i_set g 3) (h : Nat) : i_pr (u_hrs g h) = lkP (i_pr g) none (i_set g) (i_hr g) h := funext (u_hrs_pr h3 h)
theorem rng_clamp {p : Int32} {hi : Nat} (hh : hi < 2 ^ 31) (h : rng p 0 hi = true) : p = nI p.toNatClampNeg ∧ p.toNatClampNeg ≤ hi := by
  obtain ⟨c, hc, rfl⟩ := (rng_nat hh).mp h
  rw [nI_clamp (by omega)]
  exact ⟨rfl, hc⟩
theorem gin_clamp {p : Int32} {n : Nat} (hn : n < 2 ^ 31) (h : gin p n = true) : p = nI p.toNatClampNeg ∧ p.toNatClampNeg < n := by
  obtain ⟨c, hc, rfl⟩ := gin_ex hn h
  rw [nI_clamp (by omega)]
  exact ⟨rfl, hc⟩
theorem cLookQ {S : gSt} {q : Il × Pa} (h1 : RC S 1 q) (h2 : WF q) {h : Nat} (hh : h ≤ 48) : ∃ S', f_X3_look (nI h) S = some S' ∧ Fr [41, 42, 43] S S' ∧ cSv S' (lkP (i_pr q.1) none (i_set q.1) (i_hr q.1) h) (i_set q.1 2) (i_n q.1) ∧ cLd S' (lkP (i_pr q.1) none (i_set q.1) (i_hr q.1) h) (i_set q.1 2) (i_n q.1) :=
  cLook0 (RC_st h1 h2) h2.1.1 h1.1.2.1 h2.1.2.2.2.2.2.1 h1.1.2.2.2.2.2 hh
/-- the class's tests on a number of hours -/
theorem le48 (p : Int32) {α : Type} (a b : α) : (if p < 0 then a else if p ≤ 48 then b else a) = if rng p 0 (48 : Nat) then b else a := by
  simp only [lt_toInt, le_toInt]
  have e : (48 : Int32).toInt = 48 := rfl
  rw [z_toInt, e]
  by_cases h1 : p.toInt < 0
  · rw [if_pos h1, if_neg (by rw [rng_iff]; omega)]
  · rw [if_neg h1]
    by_cases h2 : p.toInt ≤ 48
    · rw [if_pos h2, if_pos (by rw [rng_iff]; omega)]
    · rw [if_neg h2, if_neg (by rw [rng_iff]; omega)]
/-- hours on, then back: what is asked in between -/
theorem mFore {S : gSt} {q : Il × Pa} (h1 : RMn S q) (h2 : WF q) {h : Nat} (hh : h ≤ 48) (f : gSt → Option (Int32 × gSt)) (r : Int32) (hf : ∀ T, mCl T (lkP (i_pr q.1) none (i_set q.1) (i_hr q.1) h) (i_set q.1 2) (i_n q.1) → MI (T.1 48) (u_hrs q.1 h) → f T = some (r, T)) :
    ∃ S1, ((f_X7_asides S).bind fun S9 => (f_X7_goesOn (nI h) S9).bind fun S11 => gBind2 (f S11) fun r15 S13 => (f_X7_backs S13).bind fun S16 => some (r15, S16)) = some (r, S1) ∧ Fr [53] S S1 := by
  obtain ⟨A1, a1, a2, a3⟩ := mAside S
  have hM : MI (A1.1 48) q.1 := by rw [a2.2 48 (by decide)]; exact h1.1
  have hr := h2.1.2.1
  obtain ⟨B1, b1, b2, b3⟩ := mOn hM (WF_r h2) (h := h) (by omega)
  have hw := WFr_hrs (WF_r h2) h (by omega)
  have hcl := MI_cl b3 hw
  obtain ⟨e1, e2, -⟩ := u_hrs_p q.1 h
  rw [u_hrs_prf (Nat.lt_of_lt_of_le (by decide) h2.1.2.2.2.1.2.2.2.1), e1, e2] at hcl
  obtain ⟨C1, c1, c2, c3⟩ := mAB a2 a3 b2.1 (by decide) b2.2
  rw [a1, Option.bind_some, b1, Option.bind_some, hf B1 hcl b3, g2s, c1, Option.bind_some]
  refine ⟨C1, rfl, c2.1, fun k hk => ?_⟩
  by_cases h48 : k = 48
  · rw [h48, c3]
  · refine c2.2 k (fun z => ?_)
    simp only [List.mem_cons, List.not_mem_nil, or_false] at z hk
    omega
theorem op_ahead (p n : Int32) : Op (f_X6_ahead p n) (f_X7_ahead p n) := by
  refine op_of (fun q => if gin p 64 then (if rng n 0 (48 : Nat) then hI (hol (lkP (i_pr q.1) none (i_set q.1) (i_hr q.1) n.toNatClampNeg) (i_set q.1 2) (i_n q.1) p.toNatClampNeg) else -1) else -1) id (fun q h => h) (opC_read ?_) (opM_read ?_)
  · intro S q h1 h2
    unfold f_X6_ahead
    rw [isCell_sp, g2s]
    cases hg : gin p 64 with
    | false => exact ⟨S, rfl, Fr_rfl⟩
    | true =>
      rw [bI_t, if_neg one0, if_pos rfl, le48]
      cases hn : rng n 0 (48 : Nat) with
      | false => exact ⟨S, rfl, Fr_rfl⟩
      | true =>
        rw [if_pos rfl, if_pos rfl]
        obtain ⟨ep, hp⟩ := gin_clamp (by decide) hg
        obtain ⟨en, hn2⟩ := rng_clamp (by decide) hn
        obtain ⟨S', a, b, c, d⟩ := cLookQ h1 h2 hn2
        rw [← en] at a
        have hh := cHolder c hp
        rw [← ep] at hh
        rw [a, Option.bind_some, hh, g2s]
        exact ⟨S', rfl, b.mono (by decide)⟩
  · intro S q h1 h2
    unfold f_X7_ahead
    rw [mCell_sp, g2s]
    cases hg : gin p 64 with
    | false => exact ⟨S, rfl, Fr_rfl⟩
    | true =>
      rw [bI_t, if_neg one0, if_pos rfl, in_lit n (a := 0) (b := (48 : Nat)) S rfl rfl, g2s]
      cases hn : rng n 0 (48 : Nat) with
      | false => exact ⟨S, rfl, Fr_rfl⟩
      | true =>
        rw [bI_t, if_neg one0, if_pos rfl]
        obtain ⟨ep, hp⟩ := gin_clamp (by decide) hg
        obtain ⟨en, hn2⟩ := rng_clamp (by decide) hn
        obtain ⟨S1, a, b⟩ := mFore h1 h2 hn2 (f_X7_holder p) (hI (hol (lkP (i_pr q.1) none (i_set q.1) (i_hr q.1) n.toNatClampNeg) (i_set q.1 2) (i_n q.1) p.toNatClampNeg)) (fun T hT _ => by
          have hh := mHolder hT hp
          rw [← ep] at hh
          exact hh)
        rw [← en] at a
        exact ⟨S1, a, b.mono (by decide)⟩
theorem op_land (p n : Int32) : Op (f_X6_land p n) (f_X7_land p n) := by
  refine op_of (fun q => if gin p (i_n q.1) then (if rng n 0 (48 : Nat) then nI (lnd (lkP (i_pr q.1) none (i_set q.1) (i_hr q.1) n.toNatClampNeg) (i_set q.1 2) (i_n q.1) p.toNatClampNeg) else -1) else -1) id (fun q h => h) (opC_read ?_) (opM_read ?_)
  · intro S q h1 h2
    have h6 := h2.1.1
    unfold f_X6_land
    rw [has_sp p h1.1.2.1 (by omega), g2s]
    cases hg : gin p (i_n q.1) with
    | false => exact ⟨S, rfl, Fr_rfl⟩
    | true =>
      rw [bI_t, if_neg one0, if_pos rfl, le48]
      cases hn : rng n 0 (48 : Nat) with
      | false => exact ⟨S, rfl, Fr_rfl⟩
      | true =>
        rw [if_pos rfl, if_pos rfl]
        obtain ⟨ep, hp⟩ := gin_clamp (by omega) hg
        obtain ⟨en, hn2⟩ := rng_clamp (by decide) hn
        obtain ⟨S', a, b, c, d⟩ := cLookQ h1 h2 hn2
        rw [← en] at a
        have hp6 : gin p 6 = true := by rw [ep]; exact gin_t (by omega) (by decide)
        rw [a, Option.bind_some, hp6, if_pos rfl, d.1 _ (by omega)]
        exact ⟨S', rfl, b.mono (by decide)⟩
  · intro S q h1 h2
    have h6 := h2.1.1
    unfold f_X7_land
    rw [mWalker_sp p h1.1.2.1 (by omega), g2s]
    cases hg : gin p (i_n q.1) with
    | false => exact ⟨S, rfl, Fr_rfl⟩
    | true =>
      rw [bI_t, if_neg one0, if_pos rfl, in_lit n (a := 0) (b := (48 : Nat)) S rfl rfl, g2s]
      cases hn : rng n 0 (48 : Nat) with
      | false => exact ⟨S, rfl, Fr_rfl⟩
      | true =>
        rw [bI_t, if_neg one0, if_pos rfl]
        obtain ⟨ep, hp⟩ := gin_clamp (by omega) hg
        obtain ⟨en, hn2⟩ := rng_clamp (by decide) hn
        obtain ⟨S1, a, b⟩ := mFore h1 h2 hn2 (f_X7_landOf p) (nI (lnd (lkP (i_pr q.1) none (i_set q.1) (i_hr q.1) n.toNatClampNeg) (i_set q.1 2) (i_n q.1) p.toNatClampNeg)) (fun T hT _ => by
          have hh := mLand hT (w := p.toNatClampNeg) (by omega)
          rw [← ep] at hh
          exact hh)
        rw [← en] at a
        exact ⟨S1, a, b.mono (by decide)⟩
theorem op_held (p : Int32) : Op (f_X6_held p) (f_X7_held p) := by
  refine op_of (fun q => if gin p 64 then hI (hol (i_pr q.1) (i_set q.1 2) (i_n q.1) p.toNatClampNeg) else -1) id (fun q h => h) (opC_read ?_) (opM_read ?_)
  · intro S q h1 h2
    unfold f_X6_held f_X6_ahead
    rw [isCell_sp, g2s]
    cases hg : gin p 64 with
    | false => exact ⟨S, rfl, Fr_rfl⟩
    | true =>
      rw [bI_t, if_neg one0, le48, if_pos (by decide), if_pos rfl]
      obtain ⟨ep, hp⟩ := gin_clamp (by decide) hg
      obtain ⟨S', a, b, c, d⟩ := cLookQ h1 h2 (Nat.zero_le 48)
      rw [lkP_0] at c
      have hh := cHolder c hp
      rw [← ep] at hh
      rw [n_0, a, Option.bind_some, hh, g2s]
      exact ⟨S', rfl, b.mono (by decide)⟩
  · intro S q h1 h2
    unfold f_X7_held
    rw [mCell_sp, g2s]
    cases hg : gin p 64 with
    | false => exact ⟨S, rfl, Fr_rfl⟩
    | true =>
      rw [bI_t, if_neg one0, if_pos rfl]
      obtain ⟨ep, hp⟩ := gin_clamp (by decide) hg
      have hh := mHolder (MI_cl h1.1 (WF_r h2)) hp
      rw [← ep] at hh
      rw [hh, g2s]
      exact ⟨S, rfl, Fr_rfl⟩
theorem op_claim (p c : Int32) : Op (f_X6_claim p c) (f_X7_claim p c) := by
  refine op_of (fun q => if gin p (i_n q.1) then (if gin c 64 then nI (clm (i_pr q.1) (i_set q.1 2) p.toNatClampNeg c.toNatClampNeg) else -1) else -1) id (fun q h => h) (opC_read ?_) (opM_read ?_)
  · intro S q h1 h2
    have h6 := h2.1.1
    unfold f_X6_claim
    rw [has_sp p h1.1.2.1 (by omega), g2s]
    cases hg : gin p (i_n q.1) with
    | false => exact ⟨S, rfl, Fr_rfl⟩
    | true =>
      rw [bI_t, if_neg one0, if_pos rfl, isCell_sp, g2s]
      cases hc : gin c 64 with
      | false => exact ⟨S, rfl, Fr_rfl⟩
      | true =>
        rw [bI_t, if_neg one0, if_pos rfl]
        obtain ⟨ep, hp⟩ := gin_clamp (by omega) hg
        obtain ⟨ec, hc2⟩ := gin_clamp (by decide) hc
        obtain ⟨S', a, b, cc, d⟩ := cLookQ h1 h2 (Nat.zero_le 48)
        rw [lkP_0] at cc
        rw [n_0, a, Option.bind_some]
        have e : p * 64 + c = nI (64 * p.toNatClampNeg + c.toNatClampNeg) := by rw [← nI_add, ← pk_mul, ← ep, ← ec, Int32.mul_comm]; rfl
        rw [e, gin_t (by omega) (by decide), if_pos rfl, nI_clamp (by omega), cc.2.2.2 _ _ hp hc2]
        exact ⟨S', rfl, b.mono (by decide)⟩
  · intro S q h1 h2
    have h6 := h2.1.1
    unfold f_X7_claim
    rw [mWalker_sp p h1.1.2.1 (by omega), g2s]
    cases hg : gin p (i_n q.1) with
    | false => exact ⟨S, rfl, Fr_rfl⟩
    | true =>
      rw [bI_t, if_neg one0, if_pos rfl, mCell_sp, g2s]
      cases hc : gin c 64 with
      | false => exact ⟨S, rfl, Fr_rfl⟩
      | true =>
        rw [bI_t, if_neg one0, if_pos rfl]
        obtain ⟨ep, hp⟩ := gin_clamp (by omega) hg
        obtain ⟨ec, hc2⟩ := gin_clamp (by decide) hc
        have hcl := MI_cl h1.1 (WF_r h2)
        have hh := mClaim hcl.1 hcl.2.1 (w := p.toNatClampNeg) (c := c.toNatClampNeg) (by omega) hc2 hcl.2.2.1 hcl.2.2.2.2.1
        rw [← ep, ← ec] at hh
        rw [hh, g2s]
        exact ⟨S, rfl, Fr_rfl⟩
