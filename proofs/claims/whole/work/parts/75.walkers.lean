/-! a walker's text, class and reference -/
section Walk
variable {L : Nat → Nat} {len : Nat}
def kkc (L : Nat → Nat) (len p : Nat) : Option Nat := if sB L len p < len then kdx (L (sB L len p)) else none
theorem kkc_lt {p k : Nat} (h : kkc L len p = some k) : sB L len p < len := by
  unfold kkc at h
  by_cases h1 : sB L len p < len
  · exact h1
  · rw [if_neg h1] at h; cases h
theorem cKind (hTP : TP L len) {S : gSt} {p : Nat} (h : TC L len S p) : f_X4_takeKind S = some (oI (-1) (kkc L len p), gI S 27 5 (nI (if (kkc L len p).isSome then sB L len p + 1 else sB L len p))) := by
  have hl := hTP.1
  have hle := sB_le (L := L) h.1
  unfold f_X4_takeKind
  rw [cSkip hTP h, Option.bind_some, gI_i _ (show 4 ≠ 5 by decide), gI_s, gI_k _ (show 28 ≠ 27 by decide), h.2.1]
  by_cases h1 : len ≤ sB L len p
  · rw [if_pos ((nI_leI (by omega) (by omega)).mpr h1)]
    have e : kkc L len p = none := by unfold kkc; rw [if_neg (by omega)]
    rw [e]
    unfold f_X4_takeKind_j34
    rw [if_pos (by decide)]
    rfl
  · have hb := hTP.2 (sB L len p) (by omega)
    have ec : ((nI (L (sB L len p))).toUInt32 % 65536).toInt32 = nI (L (sB L len p)) := by
      rw [pk_char, pk_tn (by omega), Nat.mod_eq_of_lt (by omega)]
    have e : kkc L len p = kdx (L (sB L len p)) := by unfold kkc; rw [if_pos (by omega)]
    rw [if_neg (fun z => h1 ((nI_leI (by omega) (by omega)).mp z)), gin_t (show sB L len p < 60 by omega) (by decide), if_pos rfl, nI_clamp (by omega), h.2.2.2 _ (by omega), ec, idx_sp hb.2, g2s, e]
    unfold f_X4_takeKind_j34
    cases hk : kdx (L (sB L len p)) with
    | none => rw [if_pos (by decide)]; rfl
    | some k =>
      have := kdx_le hk
      rw [if_neg (show ¬ oI (-1) (some k) < 0 from nI_pos (by omega)), gls, gI_s, gI_gI, nI_1]; rfl
/-- what a walker's text comes to: a fault at a place, or its numbers and the place behind it -/
def WkN (L : Nat → Nat) (len p q : Nat) : Prop := q ≤ len ∧ sB L len q = q ∧ (∀ (S : gSt) (w : Nat), TC L len S p → w < 6 → f_X4_takeWalker (nI w) S = some (0, gI S 27 5 (nI q))) ∧ ∀ (T : gSt) (w : Nat), TM L len T p 0 → w < 6 → f_X7_readWalker (nI w) T = some (gI (gI T 47 4 (nI q)) 47 5 1)
def WkY (L : Nat → Nat) (len p q k m c : Nat) : Prop := q ≤ len ∧ k ≤ 4 ∧ 1 ≤ m ∧ m ≤ 9 ∧ c < 64 ∧ (∀ (S : gSt) (w : Nat), TC L len S p → w < 6 → f_X4_takeWalker (nI w) S = some (1, gI (gI (gI (gI S 27 5 (nI q)) 29 w (nI k)) 30 w (nI m)) 31 w (nI c))) ∧ ∀ (T : gSt) (w : Nat), TM L len T p 0 → w < 6 → f_X7_readWalker (nI w) T = some (gI (gI (gI (gI T 47 4 (nI q)) 51 (3 * w) (nI k)) 51 (3 * w + 1) (nI m)) 51 (3 * w + 2) (nI c))
theorem gI_45 (T : gSt) (v w u : Int32) : gI (gI (gI T 47 4 v) 47 5 w) 47 4 u = gI (gI T 47 4 u) 47 5 w := by
  have : ∀ a b, (gI (gI (gI T 47 4 v) 47 5 w) 47 4 u).1 a b = (gI (gI T 47 4 u) 47 5 w).1 a b := by
    intro a b
    by_cases ha : a = 47
    · subst ha
      by_cases h4 : b = 4
      · subst h4; rw [gI_s, gI_i _ (by decide), gI_s]
      · rw [gI_i _ h4]
        by_cases h5 : b = 5
        · subst h5; rw [gI_s, gI_s]
        · rw [gI_i _ h5, gI_i _ h4, gI_i _ h5, gI_i _ h4]
    · rw [gI_k _ ha, gI_k _ ha, gI_k _ ha, gI_k _ ha, gI_k _ ha]
  exact Prod.ext (funext fun a => funext fun b => this a b) rfl
theorem mRdW (hTP : TP L len) {T : gSt} {p : Nat} (h : TM L len T p 0) (w : Int32) : f_X7_readWalker w T = f_X7_readWalker_j56 w (oI (-1) (kkc L len p)) (gI T 47 4 (nI (sB L len p))) := by
  have hl := hTP.1
  unfold f_X7_readWalker
  rw [mHere hTP h, g2s]
  unfold kkc
  by_cases h1 : sB L len p < len
  · have hb := hTP.2 _ h1
    rw [if_pos h1, if_pos h1, n_112, n_115, n_104, n_107, n_111, ieq (by omega) (by decide), ieq (by omega) (by decide), ieq (by omega) (by decide), ieq (by omega) (by decide), ieq (by omega) (by decide)]
    unfold kdx
    by_cases a1 : L (sB L len p) = 112
    · rw [if_pos a1, if_pos a1]; rfl
    · rw [if_neg a1, if_neg a1]
      by_cases a2 : L (sB L len p) = 115
      · rw [if_pos a2, if_pos a2]; rfl
      · rw [if_neg a2, if_neg a2]
        by_cases a3 : L (sB L len p) = 104
        · rw [if_pos a3, if_pos a3]; rfl
        · rw [if_neg a3, if_neg a3]
          by_cases a4 : L (sB L len p) = 107
          · rw [if_pos a4, if_pos a4]; rfl
          · rw [if_neg a4, if_neg a4]
            by_cases a5 : L (sB L len p) = 111
            · rw [if_pos a5, if_pos a5]; rfl
            · rw [if_neg a5, if_neg a5]; rfl
  · rw [if_neg h1, if_neg h1, if_neg (by decide), if_neg (by decide), if_neg (by decide), if_neg (by decide), if_neg (by decide)]
    rfl
/-- the reference behind a fault -/
theorem mJ87F {U : gSt} (h : U.1 47 5 = 1) {x1 x3 : Int32} (t : Int32) (ht : U.1 47 4 = t) : f_X7_readWalker_j87 x1 x3 0 t U = some U := by
  unfold f_X7_readWalker_j87
  rw [gls, Int32.add_zero, gI_self U ht, mDigF h, g2s, mDigF h, g2s, mDigF h, g2s, h, if_neg one0]
theorem wk_sim (hTP : TP L len) {p : Nat} (hp : p ≤ len) : (∃ q, WkN L len p q) ∨ ∃ q k m c, WkY L len p q k m c := by
  have hl := hTP.1
  have s0 := sB_le (L := L) hp
  cases hk : kkc L len p with
  | none =>
    left
    refine ⟨sB L len p, s0, sB_id hl, fun S w h hw => ?_, fun T w h hw => ?_⟩
    · unfold f_X4_takeWalker
      rw [cKind hTP h, g2s, hk, if_neg (by decide)]
      unfold f_X4_takeWalker_j21
      rw [if_neg (by decide)]
      unfold f_X4_takeWalker_j38
      rw [if_neg (by decide)]
      unfold f_X4_takeWalker_j57
      rw [if_neg (by decide)]
      rfl
    · rw [mRdW hTP h, hk]
      have h1 := TM_pl h s0
      unfold f_X7_readWalker_j56
      rw [if_pos (by decide)]
      unfold f_X7_readWalker_j67
      rw [mMust0 h1.2.2.2.1, Option.bind_some, gI_s, if_neg one0]
      exact mJ87F (gI_s _ _ _ _) _ (by rw [gI_i _ (by decide), gI_s])
  | some k =>
    have hk1 := kkc_lt hk
    have hk4 : k ≤ 4 := by
      unfold kkc at hk
      rw [if_pos hk1] at hk
      exact kdx_le hk
    have p1 : sB L len p + 1 ≤ len := by omega
    have s1 := sB_le (L := L) p1
    -- the reference, as far as the kind
    have r1 : ∀ (T : gSt) (w : Nat), TM L len T p 0 → f_X7_readWalker (nI w) T = (gBind2 (f_X7_digit (nI 1) (nI 9) (gI T 47 4 (nI (sB L len p + 1)))) fun r4 S2 => gBind2 (f_X7_digit (nI 0) (nI 7) S2) fun r7 S5 => gBind2 (f_X7_digit (nI 0) (nI 7) S5) fun r10 S8 => (if (S8.1 47 5) = 0 then if gin ((3 : Int32) * nI w) 18 then gLet (gI S8 51 ((3 : Int32) * nI w).toNatClampNeg (nI k)) fun S13 => (if gin (((3 : Int32) * nI w) + (1 : Int32)) 18 then gLet (gI S13 51 (((3 : Int32) * nI w) + (1 : Int32)).toNatClampNeg r4) fun S15 => (if gin (((3 : Int32) * nI w) + (2 : Int32)) 18 then gLet (gI S15 51 (((3 : Int32) * nI w) + (2 : Int32)).toNatClampNeg (((8 : Int32) * r10) + r7)) fun S17 => (some S17) else none) else none) else none else some S8)) := by
      intro T w h
      rw [mRdW hTP h, hk]
      have h1 := TM_pl h s0
      unfold f_X7_readWalker_j56
      rw [if_neg (show ¬ oI (-1) (some k) < 0 from nI_pos (by omega))]
      unfold f_X7_readWalker_j67
      rw [mMust1 h1.2.2.2.1, Option.bind_some, h1.2.2.2.1, if_pos rfl, gI_s]
      unfold f_X7_readWalker_j87
      rw [gls, gI_gI, nI_1]
      rfl
    by_cases t1 : tkc L len (48 + 1) (48 + 9) (sB L len p + 1)
    · have p2 : sB L len (sB L len p + 1) + 1 ≤ len := by have := t1.1; omega
      have s2 := sB_le (L := L) p2
      by_cases t2 : tkc L len (48 + 0) (48 + 7) (sB L len (sB L len p + 1) + 1)
      · have p3 : sB L len (sB L len (sB L len p + 1) + 1) + 1 ≤ len := by have := t2.1; omega
        have s3 := sB_le (L := L) p3
        by_cases t3 : tkc L len (48 + 0) (48 + 7) (sB L len (sB L len (sB L len p + 1) + 1) + 1)
        · -- all of it
          right
          have p4 : sB L len (sB L len (sB L len (sB L len p + 1) + 1) + 1) + 1 ≤ len := by have := t3.1; omega
          have b1 : 49 ≤ L (sB L len (sB L len p + 1)) ∧ L (sB L len (sB L len p + 1)) ≤ 57 := t1.2
          obtain ⟨q1, e1⟩ : ∃ q, q = sB L len (sB L len p + 1) := ⟨_, rfl⟩
          rw [← e1] at b1 p2 p3 p4 t2 t3
          have b2 : 48 ≤ L (sB L len (q1 + 1)) ∧ L (sB L len (q1 + 1)) ≤ 55 := t2.2
          obtain ⟨q2, e2⟩ : ∃ q, q = sB L len (q1 + 1) := ⟨_, rfl⟩
          rw [← e2] at b2 p3 p4 t3
          have b3 : 48 ≤ L (sB L len (q2 + 1)) ∧ L (sB L len (q2 + 1)) ≤ 55 := t3.2
          obtain ⟨q3, e3⟩ : ∃ q, q = sB L len (q2 + 1) := ⟨_, rfl⟩
          rw [← e3] at b3 p4
          refine ⟨q3 + 1, k, L q1 - 48, (L q3 - 48) * 8 + (L q2 - 48), p4, hk4, by omega, by omega, by omega, fun S w h hw => ?_, fun T w h hw => ?_⟩
          · have h1 := TC_pl h p1
            have h2 := TC_pl h1 p2
            have h3 := TC_pl h2 p3
            rw [gI_gI] at h2 h3
            rw [gI_gI] at h3
            unfold f_X4_takeWalker
            rw [cKind hTP h, g2s, hk, if_pos (show 0 ≤ oI (-1) (some k) from nI_pos' (by omega))]
            have k1 := cTakeY hTP (lo := 49) (hi := 57) h1 (by decide) (by decide) t1
            rw [← e1, gI_gI] at k1
            have k1 : f_X4_take 49 57 (gI S 27 5 (nI (if (some k).isSome = true then sB L len p + 1 else sB L len p))) = some (nI (L q1 - 49), gI S 27 5 (nI (q1 + 1))) := k1
            rw [k1, g2s]
            unfold f_X4_takeWalker_j21
            have k2 := cTakeY hTP (lo := 48) (hi := 55) h2 (by decide) (by decide) t2
            rw [← e2, gI_gI] at k2
            have k2 : f_X4_take 48 55 (gI S 27 5 (nI (q1 + 1))) = some (nI (L q2 - 48), gI S 27 5 (nI (q2 + 1))) := k2
            rw [if_pos (nI_pos' (by omega)), k2, g2s]
            unfold f_X4_takeWalker_j38
            have k3 := cTakeY hTP (lo := 48) (hi := 55) h3 (by decide) (by decide) t3
            rw [← e3, gI_gI] at k3
            have k3 : f_X4_take 48 55 (gI S 27 5 (nI (q2 + 1))) = some (nI (L q3 - 48), gI S 27 5 (nI (q3 + 1))) := k3
            rw [if_pos (nI_pos' (by omega)), k3, g2s]
            unfold f_X4_takeWalker_j57
            rw [if_pos (nI_pos' (by omega)), gin_t hw (by decide), if_pos rfl, gls, if_pos rfl, gls, if_pos rfl, gls, nI_clamp (by omega), nI_1, n_8, pk_mul, nI_add, show L q1 - 49 + 1 = L q1 - 48 by omega]
            rfl
          · have h1 := TM_pl h p1
            have h2 := TM_pl h1 p2
            have h3 := TM_pl h2 p3
            rw [gI_gI] at h2 h3
            rw [gI_gI] at h3
            have k1 := mDigY hTP (lo := 1) (hi := 9) h1 (by decide) (by decide) t1
            rw [← e1, gI_gI] at k1
            have k2 := mDigY hTP (lo := 0) (hi := 7) h2 (by decide) (by decide) t2
            rw [← e2, gI_gI] at k2
            have k3 := mDigY hTP (lo := 0) (hi := 7) h3 (by decide) (by decide) t3
            rw [← e3, gI_gI] at k3
            have f5 : (gI T 47 4 (nI (q3 + 1))).1 47 5 = 0 := by rw [gI_i _ (by decide)]; exact h.2.2.2.1
            rw [r1 T w h, k1, g2s, k2, g2s, k3, g2s, f5, if_pos rfl, n_3, pk_mul, gin_t (show 3 * w < 18 by omega) (by decide), if_pos rfl, gls, nI_1, gin_t (show 3 * w + 1 < 18 by omega) (by decide), if_pos rfl, gls, n_2, nI_add, gin_t (show 3 * w + 2 < 18 by omega) (by decide), if_pos rfl, gls, nI_clamp (by omega), nI_clamp (by omega), nI_clamp (by omega), n_8, pk_mul, nI_add, Nat.mul_comm 8]
        · left
          refine ⟨_, s3, sB_id hl, fun S w h hw => ?_, fun T w h hw => ?_⟩
          · have h1 := TC_pl h p1
            have h2 := TC_pl h1 p2
            have h3 := TC_pl h2 p3
            rw [gI_gI] at h2 h3
            rw [gI_gI] at h3
            unfold f_X4_takeWalker
            rw [cKind hTP h, g2s, hk, if_pos (show 0 ≤ oI (-1) (some k) from nI_pos' (by omega))]
            have k1 := cTakeY hTP (lo := 49) (hi := 57) h1 (by decide) (by decide) t1
            rw [gI_gI] at k1
            have k1 : f_X4_take 49 57 (gI S 27 5 (nI (if (some k).isSome = true then sB L len p + 1 else sB L len p))) = _ := k1
            rw [k1, g2s]
            unfold f_X4_takeWalker_j21
            have k2 := cTakeY hTP (lo := 48) (hi := 55) h2 (by decide) (by decide) t2
            rw [gI_gI] at k2
            have k2 : f_X4_take 48 55 _ = _ := k2
            have b1 := hTP.2 _ t1.1
            have b2 := hTP.2 _ t2.1
            rw [if_pos (nI_pos' (by omega)), k2, g2s]
            unfold f_X4_takeWalker_j38
            have k3 := cTakeN hTP (lo := 48) (hi := 55) h3 (by decide) (by decide) t3
            rw [gI_gI] at k3
            have k3 : f_X4_take 48 55 _ = _ := k3
            rw [if_pos (nI_pos' (by omega)), k3, g2s]
            unfold f_X4_takeWalker_j57
            rw [if_neg (by decide)]
          · have h1 := TM_pl h p1
            have h2 := TM_pl h1 p2
            have h3 := TM_pl h2 p3
            rw [gI_gI] at h2 h3
            rw [gI_gI] at h3
            have k1 := mDigY hTP (lo := 1) (hi := 9) h1 (by decide) (by decide) t1
            rw [gI_gI] at k1
            have k2 := mDigY hTP (lo := 0) (hi := 7) h2 (by decide) (by decide) t2
            rw [gI_gI] at k2
            obtain ⟨r, k3⟩ := mDigN hTP (lo := 0) (hi := 7) h3 (by decide) (by decide) t3
            rw [gI_gI] at k3
            rw [r1 T w h, k1, g2s, k2, g2s, k3, g2s, gI_s, if_neg one0]
      · left
        refine ⟨_, s2, sB_id hl, fun S w h hw => ?_, fun T w h hw => ?_⟩
        · have h1 := TC_pl h p1
          have h2 := TC_pl h1 p2
          rw [gI_gI] at h2
          unfold f_X4_takeWalker
          rw [cKind hTP h, g2s, hk, if_pos (show 0 ≤ oI (-1) (some k) from nI_pos' (by omega))]
          have k1 := cTakeY hTP (lo := 49) (hi := 57) h1 (by decide) (by decide) t1
          rw [gI_gI] at k1
          have k1 : f_X4_take 49 57 (gI S 27 5 (nI (if (some k).isSome = true then sB L len p + 1 else sB L len p))) = _ := k1
          rw [k1, g2s]
          unfold f_X4_takeWalker_j21
          have k2 := cTakeN hTP (lo := 48) (hi := 55) h2 (by decide) (by decide) t2
          rw [gI_gI] at k2
          have k2 : f_X4_take 48 55 _ = _ := k2
          have b1 := hTP.2 _ t1.1
          rw [if_pos (nI_pos' (by omega)), k2, g2s]
          unfold f_X4_takeWalker_j38
          rw [if_neg (by decide)]
          unfold f_X4_takeWalker_j57
          rw [if_neg (by decide)]
        · have h1 := TM_pl h p1
          have h2 := TM_pl h1 p2
          rw [gI_gI] at h2
          have k1 := mDigY hTP (lo := 1) (hi := 9) h1 (by decide) (by decide) t1
          rw [gI_gI] at k1
          obtain ⟨r, k2⟩ := mDigN hTP (lo := 0) (hi := 7) h2 (by decide) (by decide) t2
          rw [gI_gI] at k2
          rw [r1 T w h, k1, g2s, k2, g2s, mDigF (gI_s _ _ _ _), g2s, gI_s, if_neg one0]
    · left
      refine ⟨_, s1, sB_id hl, fun S w h hw => ?_, fun T w h hw => ?_⟩
      · have h1 := TC_pl h p1
        unfold f_X4_takeWalker
        rw [cKind hTP h, g2s, hk, if_pos (show 0 ≤ oI (-1) (some k) from nI_pos' (by omega))]
        have k1 := cTakeN hTP (lo := 49) (hi := 57) h1 (by decide) (by decide) t1
        rw [gI_gI] at k1
        have k1 : f_X4_take 49 57 (gI S 27 5 (nI (if (some k).isSome = true then sB L len p + 1 else sB L len p))) = _ := k1
        rw [k1, g2s]
        unfold f_X4_takeWalker_j21
        rw [if_neg (by decide)]
        unfold f_X4_takeWalker_j38
        rw [if_neg (by decide)]
        unfold f_X4_takeWalker_j57
        rw [if_neg (by decide)]
      · have h1 := TM_pl h p1
        obtain ⟨r, k1⟩ := mDigN hTP (lo := 1) (hi := 9) h1 (by decide) (by decide) t1
        rw [gI_gI] at k1
        rw [r1 T w h, k1, g2s, mDigF (gI_s _ _ _ _), g2s, mDigF (gI_s _ _ _ _), g2s, gI_s, if_neg one0]
end Walk
