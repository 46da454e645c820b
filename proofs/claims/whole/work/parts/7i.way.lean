/-! way: how far, by potentials -/
noncomputable def nbB (X : Nat → Bool) (i : Nat) : Bool := @decide (nbr X i) (Classical.propDecidable _)
theorem nbB_iff {X : Nat → Bool} {i : Nat} : nbB X i = true ↔ nbr X i := by
  unfold nbB
  exact @decide_eq_true_iff _ (Classical.propDecidable _)
noncomputable def Gq (F O : Nat → Bool) : Nat → Nat → Bool
  | 0 => F
  | t + 1 => fun i => lcl (Gq F O t) O i || nbB (lcl (Gq F O t) O) i
noncomputable def Rq (F O : Nat → Bool) (t : Nat) : Nat → Bool := lcl (Gq F O t) O
theorem Rq_is (F O : Nat → Bool) (t : Nat) : Lst (Gq F O t) O (Rq F O t) := lcl_is _ _
noncomputable def Dq (F O : Nat → Bool) (c : Nat) : Nat := frun (fun t => !Rq F O t c) 64
def coO (O : Nat → Bool) (i : Nat) : Nat := if O i then 0 else 1
theorem coO_le (O : Nat → Bool) (i : Nat) : coO O i ≤ 1 := by
  unfold coO
  by_cases h : O i = true
  · rw [if_pos h]; omega
  · rw [if_neg h]; omega
def Fea (O : Nat → Bool) (a : Nat) (Z : Nat → Nat) : Prop := Z a = 0 ∧ ∀ j d i, j < 64 → d ≤ 3 → bes j d = some i → Z i ≤ Z j + coO O i
theorem frun_lt {f : Nat → Bool} {N t : Nat} (ht : t < N) (hf : f t = false) : frun f N ≤ t := by
  by_cases h : t < frun f N
  · rw [frun_pre f N t h] at hf; cases hf
  · omega
theorem D_fea {O : Nat → Bool} {a : Nat} (ha : a < 64) : Fea O a (Dq (fun i => decide (i = a)) O) := by
  obtain ⟨F, hF⟩ : ∃ F : Nat → Bool, F = fun i => decide (i = a) := ⟨_, rfl⟩
  rw [← hF]
  constructor
  · have h0 : Rq F O 0 a = true := (Rq_is F O 0).1 a ha (by show F a = true; rw [hF]; exact decide_eq_true rfl)
    have := frun_lt (f := fun t => !Rq F O t a) (N := 64) (t := 0) (by decide) (by show (!Rq F O 0 a) = false; rw [h0]; rfl)
    unfold Dq
    omega
  · intro j d i hj hd hb
    have hi := bes_lt hj hb
    have hlej := frun_le (fun t => !Rq F O t j) 64
    have hlei := frun_le (fun t => !Rq F O t i) 64
    unfold Dq
    rcases frun_end (fun t => !Rq F O t j) 64 with h | h
    · omega
    · obtain ⟨t, et⟩ : ∃ t, t = frun (fun t => !Rq F O t j) 64 := ⟨_, rfl⟩
      rw [← et] at h hlej ⊢
      have hR : Rq F O t j = true := by
        have h : (!Rq F O t j) = false := h
        cases e : Rq F O t j with
        | true => rfl
        | false => rw [e] at h; cases h
      unfold coO
      by_cases ho : O i = true
      · rw [if_pos ho]
        have h2 := (Rq_is F O t).2.1 j d i hj hd hb hR ho
        by_cases ht : t < 64
        · have := frun_lt (f := fun t => !Rq F O t i) ht (by show (!Rq F O t i) = false; rw [h2]; rfl)
          omega
        · omega
      · rw [if_neg ho]
        have h2 : Rq F O (t + 1) i = true := (Rq_is F O (t + 1)).1 i hi (by
          show (lcl (Gq F O t) O i || nbB (lcl (Gq F O t) O) i) = true
          rw [show nbB (lcl (Gq F O t) O) i = true from nbB_iff.mpr ⟨j, d, hj, hd, hb, hR⟩, Bool.or_true])
        by_cases ht : t + 1 < 64
        · have := frun_lt (f := fun t => !Rq F O t i) ht (by show (!Rq F O (t + 1) i) = false; rw [h2]; rfl)
          omega
        · omega
theorem R_le {O : Nat → Bool} {a : Nat} {K : Nat → Nat} (hK : Fea O a K) : ∀ t i, i < 64 → Rq (fun i => decide (i = a)) O t i = true → K i ≤ t := by
  have cl : ∀ t, Cl O (fun i => decide (K i ≤ t)) := fun t j d i hj hd hb hx ho => by
    have h1 := hK.2 j d i hj hd hb
    have hx : K j ≤ t := of_decide_eq_true hx
    unfold coO at h1
    rw [if_pos ho] at h1
    exact decide_eq_true (show K i ≤ t by omega)
  intro t
  induction t with
  | zero =>
    intro i hi h
    refine of_decide_eq_true ((Rq_is _ O 0).2.2 (fun i => decide (K i ≤ 0)) (fun i hi hf => ?_) (cl 0) i hi h)
    have hf : i = a := of_decide_eq_true hf
    rw [hf]
    exact decide_eq_true (by rw [hK.1]; exact Nat.le_refl _)
  | succ t ih =>
    intro i hi h
    refine of_decide_eq_true ((Rq_is _ O (t + 1)).2.2 (fun i => decide (K i ≤ t + 1)) (fun i hi hf => ?_) (cl (t + 1)) i hi h)
    have hf : (Rq (fun i => decide (i = a)) O t i || nbB (Rq (fun i => decide (i = a)) O t) i) = true := hf
    rcases (Bool.or_eq_true _ _).mp hf with hf | hf
    · exact decide_eq_true (Nat.le_succ_of_le (ih i hi hf))
    · obtain ⟨j, d, hj, hd, hb, hx⟩ := nbB_iff.mp hf
      have h1 := hK.2 j d i hj hd hb
      have h2 := ih j hj hx
      have h3 := coO_le O i
      exact decide_eq_true (show K i ≤ t + 1 by omega)
theorem K_far {O : Nat → Bool} {a : Nat} {K : Nat → Nat} (hK : Fea O a K) (ha : a < 64) : ∀ i, i < 64 → K i ≤ 28 := by
  have st : ∀ j d i, j < 64 → d ≤ 3 → bes j d = some i → K i ≤ K j + 1 := fun j d i hj hd hb => by
    have := hK.2 j d i hj hd hb
    have := coO_le O i
    omega
  have k1 : ∀ n i, i ≤ n → i < 64 → K i ≤ K 0 + (i % 8 + i / 8) := by
    intro n
    induction n with
    | zero => intro i h _; obtain rfl : i = 0 := by omega
              exact Nat.le_add_right _ _
    | succ n ih =>
      intro i h hi
      by_cases h0 : i = 0
      · subst h0; exact Nat.le_add_right _ _
      · by_cases h8 : i % 8 = 0
        · have e : bes (i - 8) 1 = some i := by
            unfold bes
            rw [if_neg (by decide), if_pos rfl, if_neg (by omega), show i - 8 + 8 = i by omega]
          have h1 := st (i - 8) 1 i (by omega) (by decide) e
          have h2 := ih (i - 8) (by omega) (by omega)
          omega
        · have e : bes (i - 1) 0 = some i := by
            unfold bes
            rw [if_pos rfl, if_neg (by omega), show i - 1 + 1 = i by omega]
          have h1 := st (i - 1) 0 i (by omega) (by decide) e
          have h2 := ih (i - 1) (by omega) (by omega)
          omega
  have k2 : ∀ n i, i ≤ n → i < 64 → K 0 ≤ K i + (i % 8 + i / 8) := by
    intro n
    induction n with
    | zero => intro i h _; obtain rfl : i = 0 := by omega
              exact Nat.le_add_right _ _
    | succ n ih =>
      intro i h hi
      by_cases h0 : i = 0
      · subst h0; exact Nat.le_add_right _ _
      · by_cases h8 : i % 8 = 0
        · have e : bes i 3 = some (i - 8) := by
            unfold bes
            rw [if_neg (by decide), if_neg (by decide), if_neg (by decide), if_neg (by omega)]
          have h1 := st i 3 (i - 8) hi (by decide) e
          have h2 := ih (i - 8) (by omega) (by omega)
          omega
        · have e : bes i 2 = some (i - 1) := by
            unfold bes
            rw [if_neg (by decide), if_neg (by decide), if_pos rfl, if_neg (by omega)]
          have h1 := st i 2 (i - 1) hi (by decide) e
          have h2 := ih (i - 1) (by omega) (by omega)
          omega
  intro i hi
  have h1 := k1 i i (Nat.le_refl _) hi
  have h2 := k2 a a (Nat.le_refl _) ha
  have h3 := hK.1
  omega
/-- the greatest potential is how far it is -/
theorem K_eq {O : Nat → Bool} {a c : Nat} {K : Nat → Nat} (ha : a < 64) (hc : c < 64) (hK : Fea O a K) (hD : Dq (fun i => decide (i = a)) O c ≤ K c) : K c = Dq (fun i => decide (i = a)) O c := by
  have h1 := K_far hK ha c hc
  have h2 : K c ≤ Dq (fun i => decide (i = a)) O c := by
    rcases frun_end (fun t => !Rq (fun i => decide (i = a)) O t c) 64 with h | h
    · unfold Dq at hD
      omega
    · refine R_le hK _ c hc ?_
      unfold Dq
      have h : (!Rq (fun i => decide (i = a)) O (frun (fun t => !Rq (fun i => decide (i = a)) O t c) 64) c) = false := h
      cases e : Rq (fun i => decide (i = a)) O (frun (fun t => !Rq (fun i => decide (i = a)) O t c) 64) c with
      | true => rfl
      | false => rw [e] at h; cases h
  omega
/-! the class -/
def fre (ho : Nat → Option Nat) (w i : Nat) : Bool := decide (ho i = none ∨ ho i = some w)
theorem cFree {S : gSt} {P : Nat → Nat} {r n w : Nat} (a c : Int32) (h : cSv S P r n) (hw : w < 6) : ∃ v, gLoop f_X6_way_s45 gFuel (nI w, a, c, 0, 0, S) = some (a, c, v, S) ∧ ∀ i, i < 64 → b6 v i = fre (hol P r n) w i := by
  have hn := h.1
  have key : ∃ R, gLoop f_X6_way_s45 gFuel (nI w, a, c, 0, 0, S) = some R ∧ ∃ v, R = (a, c, v, S) ∧ ∀ i, i < 64 → b6 v i = fre (hol P r n) w i := by
    refine gLoop_up (fun k p => ∃ v, p = (nI w, a, c, v, nI k, S) ∧ ∀ i, i < 64 → b6 v i = (decide (i < k) && fre (hol P r n) w i)) _ 64 (by omega) ?_ ?_ ⟨0, rfl, fun i hi => by rw [b6_0, decide_eq_false (by omega)]; rfl⟩
    · rintro k p hk ⟨v, rfl, hv⟩
      have hq0 := hI_lt0 (hol P r n k) (fun v hv => by have := hol_lt hv; omega)
      have hq := hI_eq (hol P r n k) w (by omega) (fun v hv => by have := hol_lt hv; omega)
      have hset : fre (hol P r n) w k = true → ∃ p', f_X6_way_j74 (nI w) a c v (nI k) S = some (Sum.inl p') ∧ ∃ v, p' = (nI w, a, c, v, nI (k + 1), S) ∧ ∀ i, i < 64 → b6 v i = (decide (i < k + 1) && fre (hol P r n) w i) := by
        intro hf
        unfold f_X6_way_j74
        rw [gls, nI_1]
        refine ⟨_, rfl, _, rfl, fun i hi => ?_⟩
        rw [b6_or, b6_one hk hi, hv i hi]
        by_cases hik : i = k
        · rw [decide_eq_true hik, decide_eq_true (show i < k + 1 by omega), hik, hf, Bool.or_true]; rfl
        · rw [decide_eq_false hik, Bool.or_false]
          by_cases hlt : i < k
          · rw [decide_eq_true hlt, decide_eq_true (show i < k + 1 by omega)]
          · rw [decide_eq_false hlt, decide_eq_false (show ¬ i < k + 1 by omega)]
      dsimp only [f_X6_way_s45]
      unfold f_X6_way_s45_b
      rw [if_neg (by rw [n_64, nI_leI (by omega) (by omega)]; omega), cHolder h hk, g2s, nI_1]
      by_cases h1 : hol P r n k = none
      · rw [if_pos (hq0.mpr h1)]
        exact hset (decide_eq_true (Or.inl h1))
      · rw [if_neg (fun z => h1 (hq0.mp z))]
        by_cases h2 : hol P r n k = some w
        · rw [if_pos (hq.mpr h2)]
          exact hset (decide_eq_true (Or.inr h2))
        · rw [if_neg (fun z => h2 (hq.mp z))]
          have hf : fre (hol P r n) w k = false := decide_eq_false (fun z => z.elim h1 h2)
          refine ⟨_, rfl, _, rfl, fun i hi => ?_⟩
          rw [hv i hi]
          by_cases hik : i = k
          · rw [decide_eq_true (show i < k + 1 by omega), hik, hf, Bool.and_false, Bool.and_false]
          · by_cases hlt : i < k
            · rw [decide_eq_true hlt, decide_eq_true (show i < k + 1 by omega)]
            · rw [decide_eq_false hlt, decide_eq_false (show ¬ i < k + 1 by omega)]
    · rintro p ⟨v, rfl, hv⟩
      dsimp only [f_X6_way_s45]
      unfold f_X6_way_s45_b
      rw [if_pos (by decide)]
      exact ⟨_, rfl, v, rfl, fun i hi => by rw [hv i hi, decide_eq_true hi, Bool.true_and]⟩
  obtain ⟨R, r1, v, rfl, r2⟩ := key
  exact ⟨v, r1, r2⟩
theorem cFew {f o : Int64} {F O : Nat → Bool} {c : Nat} (hc : c < 64) (hf : ∀ i, i < 64 → b6 f i = F i) (ho : ∀ i, i < 64 → b6 o i = O i) (S : gSt) : f_X6_fewestTrodden f ((1 : Int64) <<< ((nI c).toInt64 &&& 63)) o S = some (nI (Dq F O c), S) := by
  unfold f_X6_fewestTrodden
  have key : ∃ R, gLoop f_X6_fewestTrodden_s6 gFuel ((1 : Int64) <<< ((nI c).toInt64 &&& 63), o, f, 0, S) = some R ∧ (R = Sum.inl (nI (Dq F O c), S) ∨ (R = Sum.inr S ∧ Dq F O c = 64)) := by
    refine gLoop_up2 (fun t p => ∃ x, p = ((1 : Int64) <<< ((nI c).toInt64 &&& 63), o, x, nI t, S) ∧ (∀ i, i < 64 → b6 x i = Gq F O t i) ∧ frun (fun t => !Rq F O t c) t = t) _ 64 (by omega) ?_ ?_ ⟨f, rfl, hf, rfl⟩
    · rintro t p ht ⟨x, rfl, hx, hfr⟩
      dsimp only [f_X6_fewestTrodden_s6]
      unfold f_X6_fewestTrodden_s6_b
      obtain ⟨y, y1, y2⟩ := cSpread x o S
      have hy : ∀ i, i < 64 → b6 y i = Rq F O t i := Lst_uniq (Lst_congr hx ho y2) (Rq_is F O t)
      have hz : lg_cmp (y &&& ((1 : Int64) <<< ((nI c).toInt64 &&& 63))) 0 = 0 ↔ Rq F O t c = false := by
        rw [lg_eq]
        constructor
        · intro e
          have : b6 (y &&& ((1 : Int64) <<< ((nI c).toInt64 &&& 63))) c = false := by rw [e, b6_0]
          rw [b6_and, b6_one hc hc, decide_eq_true rfl, Bool.and_true, hy c hc] at this
          exact this
        · intro e
          refine b6_ext (fun i hi => ?_)
          rw [b6_and, b6_one hc hi, b6_0]
          by_cases hic : i = c
          · rw [hic, hy c hc, e]; rfl
          · rw [decide_eq_false hic, Bool.and_false]
      rw [if_neg (by rw [n_64, nI_leI (by omega) (by omega)]; omega), y1, g2s, cBsd, g2s, gls, nI_1]
      cases hR : Rq F O t c with
      | false =>
        rw [if_pos (hz.mpr hR)]
        refine Or.inl ⟨_, rfl, _, rfl, fun i hi => ?_, frun_go hfr (by show (!Rq F O t c) = true; rw [hR]; rfl)⟩
        rw [b6_or, hy i hi]
        show _ = (Rq F O t i || nbB (Rq F O t) i)
        congr 1
        refine bool_eq (fun h => ?_) (fun h => ?_)
        · obtain ⟨j, d, hj, hd, hb, hxj⟩ := (bsd_iff y hi).mp h
          exact nbB_iff.mpr ⟨j, d, hj, hd, hb, by rw [← hy j hj]; exact hxj⟩
        · obtain ⟨j, d, hj, hd, hb, hxj⟩ := nbB_iff.mp h
          exact (bsd_iff y hi).mpr ⟨j, d, hj, hd, hb, by rw [hy j hj]; exact hxj⟩
      | true =>
        rw [if_neg (fun z => by rw [hz.mp z] at hR; cases hR)]
        refine Or.inr ⟨_, rfl, Or.inl ?_⟩
        unfold Dq
        rw [frun_at hfr (by show (!Rq F O t c) = false; rw [hR]; rfl) (by omega)]
    · rintro p ⟨x, rfl, hx, hfr⟩
      dsimp only [f_X6_fewestTrodden_s6]
      unfold f_X6_fewestTrodden_s6_b
      rw [if_pos (by decide)]
      exact ⟨_, rfl, Or.inr ⟨rfl, hfr⟩⟩
  obtain ⟨R, r1, rfl | ⟨rfl, r2⟩⟩ := key
  · rw [r1]; rfl
  · rw [r1, r2]; rfl
