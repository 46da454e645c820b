/-! how deep a print is behind h hours -/
def dep (st : Nat → Nat) (hr p row h : Nat) : Nat := if row < st 4 ∧ hr / st 3 < (hr + h) / st 3 then 0 else p - (if row < st 0 then h else h * st 1)
theorem dep_le (st : Nat → Nat) (hr p row h : Nat) : dep st hr p row h ≤ p := by
  unfold dep
  split
  · omega
  · omega
/-- the class's settings and hour -/
def cSt (S : gSt) (st : Nat → Nat) (hr : Nat) : Prop := (∀ i, i < 5 → S.1 2 i = nI (st i)) ∧ S.1 1 8 = nI hr ∧ WFset st ∧ hr ≤ 20000
theorem cTide {S : gSt} {st : Nat → Nat} {hr h : Nat} (hs : cSt S st hr) (hh : h ≤ 100) : f_X0_isTideWithin (nI h) S = some (bI (decide (hr / st 3 < (hr + h) / st 3)), S) := by
  obtain ⟨h1, h2, ⟨w0, w1, w2, w3, w4, w5⟩, h4⟩ := hs
  unfold f_X0_isTideWithin
  have e0 : (3 : Int32).toNatClampNeg = 3 := rfl
  have e1 : gin 3 5 = true := rfl
  rw [e1, if_pos rfl, e0, h1 3 (by decide), gls, if_neg (by rw [n_0, nI_leI (by omega) (by omega)]; omega), if_neg (nI_ne0 (by omega) (by omega)), if_neg (nI_ne0 (by omega) (by omega)), h2, nI_add, pk_div (by omega) (by omega) (by omega), pk_div (by omega) (by omega) (by omega)]
  have d1 : (hr + h) / st 3 ≤ hr + h := Nat.div_le_self _ _
  have d2 : hr / st 3 ≤ hr := Nat.div_le_self _ _
  by_cases hc : hr / st 3 < (hr + h) / st 3
  · rw [if_neg (by rw [nI_leI (by omega) (by omega)]; omega), decide_eq_true hc]; rfl
  · rw [if_pos (by rw [nI_leI (by omega) (by omega)]; omega), decide_eq_false hc]; rfl
theorem cDep {S : gSt} {st : Nat → Nat} {hr p c h : Nat} (hs : cSt S st hr) (hp : p ≤ 99) (hc : c < 64) (hh : h ≤ 48) : f_X0_depthBehind (nI p) (nI c) (nI h) S = some (nI (dep st hr p (c / 8) h), S) := by
  have hs0 := hs
  obtain ⟨h1, h2, ⟨w0, w1, w2, w3, w4, w5⟩, h4⟩ := hs
  have hj : f_X0_depthBehind_j27 (nI p) (nI h) (nI (c / 8)) S = some (nI (p - (if c / 8 < st 0 then h else h * st 1)), S) := by
    unfold f_X0_depthBehind_j27
    have e0 : (0 : Int32).toNatClampNeg = 0 := rfl
    have e1 : gin 0 5 = true := rfl
    have e2 : (1 : Int32).toNatClampNeg = 1 := rfl
    have e3 : gin 1 5 = true := rfl
    have hm : h * st 1 ≤ 48 * 9 := Nat.mul_le_mul hh w1
    rw [e1, if_pos rfl, e0, h1 0 (by decide)]
    by_cases hw : c / 8 < st 0
    · rw [if_neg (by rw [nI_leI (by omega) (by omega)]; omega), if_pos hw, max0 (by omega) (by omega)]
    · rw [if_pos (by rw [nI_leI (by omega) (by omega)]; omega), if_neg hw, e3, if_pos rfl, e2, h1 1 (by decide), gls, pk_mul, max0 (by omega) (by omega)]
  unfold f_X0_depthBehind
  have e0 : (4 : Int32).toNatClampNeg = 4 := rfl
  have e1 : gin 4 5 = true := rfl
  rw [row_sp (by omega), g2s, e1, if_pos rfl, e0, h1 4 (by decide)]
  unfold dep
  by_cases hf : c / 8 < st 4
  · rw [if_neg (by rw [nI_leI (by omega) (by omega)]; omega), cTide hs0 (by omega), g2s]
    by_cases ht : hr / st 3 < (hr + h) / st 3
    · rw [decide_eq_true ht, bI_t, if_neg one0, if_pos ⟨hf, ht⟩]; rfl
    · rw [decide_eq_false ht, bI_f, if_pos rfl, hj, if_neg (show ¬ (c / 8 < st 4 ∧ hr / st 3 < (hr + h) / st 3) from fun z => ht z.2)]
  · rw [if_pos (by rw [nI_leI (by omega) (by omega)]; omega), hj, if_neg (show ¬ (c / 8 < st 4 ∧ hr / st 3 < (hr + h) / st 3) from fun z => hf z.1)]
/-! lookWithout -/
def near_comm (r a b : Nat) : near r a b = near r b a := by
  rw [Bool.eq_iff_iff, near_iff, near_iff]
  omega
/-- prints as they are behind h hours, a cell raked first -/
def lkP (P : Nat → Nat) (o : Option Nat) (st : Nat → Nat) (hr h i : Nat) : Nat := if o = some (i % 64) then 0 else dep st hr (P i) (i % 64 / 8) h
def clS (P : Nat → Nat) (o : Option Nat) (st : Nat → Nat) (hr h r : Nat) : Nat → Nat → Nat
  | 0 => fun _ => 0
  | i + 1 => if P i = 0 ∨ o = some (i % 64) then clS P o st hr h r i else lift1 (clS P o st hr h r i) (i / 64) r (i % 64) (dep st hr (P i) (i % 64 / 8) h)
theorem clS_le {P : Nat → Nat} (hb : ∀ i, P i ≤ 99) (o : Option Nat) (st : Nat → Nat) (hr h r : Nat) : ∀ i a, clS P o st hr h r i a ≤ 99
  | 0, a => Nat.zero_le _
  | i + 1, a => by
    have ih := clS_le hb o st hr h r i a
    have hd := dep_le st hr (P i) (i % 64 / 8) h
    have hp := hb i
    rw [clS]
    split
    · exact ih
    · unfold lift1
      split <;> omega
theorem clS_is (P : Nat → Nat) (o : Option Nat) (st : Nat → Nat) (hr h r : Nat) : ∀ i a, IsMx (fun x => x < 64 ∧ near r (a % 64) x = true ∧ 64 * (a / 64) + x < i) (fun x => lkP P o st hr h (64 * (a / 64) + x)) (clS P o st hr h r i a)
  | 0, a => IsMx.none (fun x hx => by omega)
  | i + 1, a => by
    have ih := clS_is P o st hr h r i a
    have hz : P i = 0 ∨ o = some (i % 64) → lkP P o st hr h i = 0 := by
      intro hq
      unfold lkP
      rcases hq with hq | hq
      · split
        · rfl
        · rw [hq]; have := dep_le st hr 0 (i % 64 / 8) h; omega
      · rw [if_pos hq]
    have hnz : ¬ (P i = 0 ∨ o = some (i % 64)) → lkP P o st hr h i = dep st hr (P i) (i % 64 / 8) h := by
      intro hq
      unfold lkP
      rw [if_neg (fun z => hq (Or.inr z))]
    by_cases hv : a / 64 = i / 64 ∧ near r (a % 64) (i % 64) = true
    · have hidx : 64 * (a / 64) + i % 64 = i := by omega
      have hadd := ih.add (V' := fun x => x < 64 ∧ near r (a % 64) x = true ∧ 64 * (a / 64) + x < i + 1) (c0 := i % 64) (fun x => by
        constructor
        · rintro ⟨h1, h2, h3⟩
          by_cases hx : x = i % 64
          · exact Or.inr hx
          · exact Or.inl ⟨h1, h2, by omega⟩
        · rintro (⟨h1, h2, h3⟩ | rfl)
          · exact ⟨h1, h2, by omega⟩
          · exact ⟨by omega, hv.2, by omega⟩)
      rw [hidx] at hadd
      rw [clS]
      by_cases hq : P i = 0 ∨ o = some (i % 64)
      · rw [if_pos hq]
        rw [hz hq, Nat.max_eq_left (Nat.zero_le _)] at hadd
        exact hadd
      · rw [if_neg hq]
        unfold lift1
        rw [if_pos ⟨hv.1, by rw [near_comm]; exact hv.2⟩, ← hnz hq]
        exact hadd
    · have hcg := ih.congr (V' := fun x => x < 64 ∧ near r (a % 64) x = true ∧ 64 * (a / 64) + x < i + 1) (fun x => by
        constructor
        · rintro ⟨h1, h2, h3⟩
          refine ⟨h1, h2, ?_⟩
          by_cases hx : 64 * (a / 64) + x = i
          · exfalso
            apply hv
            have e1 : x = i % 64 := by omega
            rw [← e1]
            exact ⟨by omega, h2⟩
          · omega
        · rintro ⟨h1, h2, h3⟩
          exact ⟨h1, h2, by omega⟩)
      rw [clS]
      split
      · exact hcg
      · unfold lift1
        rw [if_neg (fun z => hv ⟨z.1, by rw [near_comm]; exact z.2⟩)]
        exact hcg
theorem clS_clm {P : Nat → Nat} {o : Option Nat} {st : Nat → Nat} {hr h r n w c : Nat} (hw : w < n) (hc : c < 64) : clS P o st hr h r (64 * n) (64 * w + c) = clm (lkP P o st hr h) r w c := by
  have e1 : (64 * w + c) / 64 = w := by omega
  have e2 : (64 * w + c) % 64 = c := by omega
  have h1 := clS_is P o st hr h r (64 * n) (64 * w + c)
  rw [e1, e2] at h1
  exact IsMx.uniq (h1.congr (V' := fun x => x < 64 ∧ near r c x = true) (fun x => by
    constructor
    · rintro ⟨a, b⟩; exact ⟨a, b, by omega⟩
    · rintro ⟨a, b, _⟩; exact ⟨a, b⟩)) (clm_is _ _ _ _)
theorem lkP_le {P : Nat → Nat} (hb : ∀ i, P i ≤ 99) (o : Option Nat) (st : Nat → Nat) (hr h i : Nat) : lkP P o st hr h i ≤ 99 := by
  unfold lkP
  have := dep_le st hr (P i) (i % 64 / 8) h
  have := hb i
  split <;> omega
theorem m64 {c : Nat} (h : c < 2 ^ 31) : nI c - nI c / 64 * 64 = nI (c % 64) := pk_rem h (by decide) (by decide)
/-- the look: claims, lands, cells held, of the prints behind h hours -/
theorem cLook {S : gSt} {st : Nat → Nat} {hr n h : Nat} {P : Nat → Nat} {o : Option Nat} (ho : ∀ x, o = some x → x < 64) (hs : cSt S st hr) (hn : n ≤ 6) (h7 : S.1 1 7 = nI n) (hb : ∀ i, P i ≤ 99) (hP : ∀ i, i < 384 → S.1 7 i = nI (P i)) (hh : h ≤ 48) :
    ∃ S', f_X3_lookWithout (nI h) (hI o) S = some S' ∧ Fr [41, 42, 43] S S' ∧ cSv S' (lkP P o st hr h) (st 2) n ∧ cLd S' (lkP P o st hr h) (st 2) n := by
  have hr2 : st 2 ≤ 3 := hs.2.2.1.2.2.1
  unfold f_X3_lookWithout
  rw [gls, h7]
  obtain ⟨S1, a1, a2, a3⟩ := fill42 0 (gI S 41 3 (nI n))
  rw [a1, Option.bind_some]
  have f1 : Fr [41, 42, 43] S S1 := (Fr_gI (by decide)).trans (a2.mono (by decide))
  have key : ∃ R, gLoop f_X3_lookWithout_s19 gFuel (nI h, hI o, 0, S1) = some R ∧ Fr [41, 42, 43] S R ∧ R.1 41 3 = nI n ∧ cCl R (clS P o st hr h (st 2) (64 * n)) := by
    refine gLoop_up (fun i p => ∃ T, p = (nI h, hI o, nI i, T) ∧ Fr [41, 42, 43] S T ∧ T.1 41 3 = nI n ∧ cCl T (clS P o st hr h (st 2) i)) _ (64 * n) (by omega) ?_ ?_ ⟨S1, rfl, f1, by rw [a2.2 41 (by decide)]; exact gI_s _ _ _ _, fun a ha => a3 a ha⟩
    · rintro i p hi ⟨T, rfl, b1, b2, b3⟩
      dsimp only [f_X3_lookWithout_s19]
      unfold f_X3_lookWithout_s19_b
      have hT7 : T.1 7 i = nI (P i) := by rw [b1.2 7 (by decide)]; exact hP i (by omega)
      have hTs : cSt T st hr := ⟨fun j hj => by rw [b1.2 2 (by decide)]; exact hs.1 j hj, by rw [b1.2 1 (by decide)]; exact hs.2.1, hs.2.2⟩
      have hpi := hb i
      rw [b2, n_64, pk_mul, if_neg (by rw [nI_leI (by omega) (by omega)]; omega), ← n_64, m64 (by omega), gls, gin_t (by omega) (by decide), if_pos rfl, nI_clamp (by omega), hT7, nI_1 i]
      by_cases h0 : P i = 0
      · rw [if_pos (by rw [h0]; decide)]
        exact ⟨_, rfl, T, rfl, b1, b2, by rw [clS, if_pos (Or.inl h0)]; exact b3⟩
      · rw [if_neg (by rw [n_0, nI_leI (by omega) (by omega)]; omega)]
        by_cases hk : o = some (i % 64)
        · rw [if_pos (by rw [hk]; rfl)]
          exact ⟨_, rfl, T, rfl, b1, b2, by rw [clS, if_pos (Or.inr hk)]; exact b3⟩
        · rw [if_neg (fun z => hk ((hI_eq o (i % 64) (by omega) (fun x hx => by have := ho x hx; omega)).mp z.symm)), if_pos rfl, cDep hTs hpi (by omega) hh, g2s]
          have e0 : (2 : Int32).toNatClampNeg = 2 := rfl
          have e1 : gin 2 5 = true := rfl
          have hd := dep_le st hr (P i) (i % 64 / 8) h
          rw [e1, if_pos rfl, e0, hTs.1 2 (by decide), nI_sub_le (by omega), show i - i % 64 = 64 * (i / 64) by omega]
          obtain ⟨T', g1, g2, g3⟩ := cRaise (clS_le hb o st hr h (st 2) i) (w := i / 64) (d := dep st hr (P i) (i % 64 / 8) h) (r := st 2) (c := i % 64) (by omega) (by omega) hr2 (by omega) b3
          rw [g1]
          refine ⟨_, rfl, T', rfl, b1.trans (g2.mono (by decide)), by rw [g2.2 41 (by decide)]; exact b2, ?_⟩
          rw [clS, if_neg (fun z => z.elim h0 hk)]
          exact g3
    · rintro p ⟨T, rfl, b1, b2, b3⟩
      dsimp only [f_X3_lookWithout_s19]
      unfold f_X3_lookWithout_s19_b
      rw [b2, n_64, pk_mul, if_pos (by rw [nI_leI (by omega) (by omega)]; omega)]
      exact ⟨_, rfl, b1, b2, b3⟩
  obtain ⟨R, h1, h2, h3, h4⟩ := key
  have hsv : cSv R (lkP P o st hr h) (st 2) n := ⟨hn, lkP_le hb o st hr h, h3, fun w c hw hc => by rw [h4 _ (by omega), clS_clm hw hc]⟩
  obtain ⟨S', t1, t2, t3, t4⟩ := cTally hsv
  refine ⟨S', ?_, h2.trans (t2.mono (by decide)), t3, t4⟩
  rw [h1]
  show (f_X3_tally R).bind _ = _
  rw [t1]; rfl
theorem cLook0 {S : gSt} {st : Nat → Nat} {hr n h : Nat} {P : Nat → Nat} (hs : cSt S st hr) (hn : n ≤ 6) (h7 : S.1 1 7 = nI n) (hb : ∀ i, P i ≤ 99) (hP : ∀ i, i < 384 → S.1 7 i = nI (P i)) (hh : h ≤ 48) :
    ∃ S', f_X3_look (nI h) S = some S' ∧ Fr [41, 42, 43] S S' ∧ cSv S' (lkP P none st hr h) (st 2) n ∧ cLd S' (lkP P none st hr h) (st 2) n := by
  obtain ⟨S', h1, h2⟩ := cLook (o := none) (fun x hx => by cases hx) hs hn h7 hb hP hh
  refine ⟨S', ?_, h2⟩
  unfold f_X3_look
  rw [show (-4 : Int32) = hI none from rfl, h1]; rfl
