/-! the tape, class and reference -/
theorem gI_self (S : gSt) {k j : Nat} {v : Int32} (h : S.1 k j = v) : gI S k j v = S := by
  subst h
  have : va_up S.1 k (upd (S.1 k) j (S.1 k j)) = S.1 := by
    funext a b
    by_cases ha : a = k
    · subst ha
      by_cases hb : b = j
      · subst hb; simp [va_up, upd]
      · simp [va_up, upd, hb]
    · simp [va_up, ha]
  unfold gI
  rw [this]
theorem gI_gI (S : gSt) (k j : Nat) (v w : Int32) : gI (gI S k j v) k j w = gI S k j w := by
  have : va_up (va_up S.1 k (upd (S.1 k) j v)) k (upd (va_up S.1 k (upd (S.1 k) j v) k) j w) = va_up S.1 k (upd (S.1 k) j w) := by
    funext a b
    by_cases ha : a = k
    · subst ha
      by_cases hb : b = j
      · subst hb; simp [va_up, upd]
      · simp [va_up, upd, hb]
    · simp [va_up, ha]
  unfold gI
  rw [this]
theorem frun_end (f : Nat → Bool) : ∀ N, frun f N = N ∨ f (frun f N) = false
  | 0 => Or.inl rfl
  | n + 1 => by
    rw [frun]
    by_cases h : frun f n = n ∧ f n = true
    · rw [if_pos h]; exact Or.inl rfl
    · rw [if_neg h]
      rcases frun_end f n with h1 | h1
      · right
        rw [h1]
        cases e : f n with
        | false => rfl
        | true => exact absurd ⟨h1, e⟩ h
      · exact Or.inr h1
theorem frun_pre (f : Nat → Bool) : ∀ N k, k < frun f N → f k = true
  | 0, k, h => by simp [frun] at h
  | n + 1, k, h => by
    rw [frun] at h
    by_cases h1 : frun f n = n ∧ f n = true
    · rw [if_pos h1] at h
      by_cases hk : k = n
      · rw [hk]; exact h1.2
      · exact frun_pre f n k (by omega)
    · rw [if_neg h1] at h
      exact frun_pre f n k h
def sB (L : Nat → Nat) (len p : Nat) : Nat := p + frun (fun i => decide (p + i < len ∧ L (p + i) = 32)) 60
def TP (L : Nat → Nat) (len : Nat) : Prop := len ≤ 60 ∧ ∀ i, i < len → 32 ≤ L i ∧ L i ≤ 126
theorem sB_ge (L : Nat → Nat) (len p : Nat) : p ≤ sB L len p := Nat.le_add_right _ _
theorem sB_le {L : Nat → Nat} {len p : Nat} (h : p ≤ len) : sB L len p ≤ len := by
  unfold sB
  by_cases h0 : frun (fun i => decide (p + i < len ∧ L (p + i) = 32)) 60 = 0
  · omega
  · have := frun_pre (fun i => decide (p + i < len ∧ L (p + i) = 32)) 60 (frun (fun i => decide (p + i < len ∧ L (p + i) = 32)) 60 - 1) (by omega)
    have := of_decide_eq_true this
    omega
theorem sB_nb {L : Nat → Nat} {len p : Nat} (hl : len ≤ 60) (h : sB L len p < len) : ¬ L (sB L len p) = 32 := by
  intro hz
  unfold sB at h hz
  rcases frun_end (fun i => decide (p + i < len ∧ L (p + i) = 32)) 60 with h1 | h1
  · omega
  · exact of_decide_eq_false h1 ⟨h, hz⟩
theorem sB_fix {L : Nat → Nat} {len q : Nat} (h : q < len → ¬ L q = 32) : sB L len q = q := by
  have : frun (fun i => decide (q + i < len ∧ L (q + i) = 32)) 60 = 0 := frun_at (i := 0) rfl (decide_eq_false (fun z => h z.1 z.2)) (Nat.zero_le _)
  unfold sB
  omega
theorem sB_id {L : Nat → Nat} {len p : Nat} (hl : len ≤ 60) : sB L len (sB L len p) = sB L len p := sB_fix (sB_nb hl)
def tkc (L : Nat → Nat) (len lo hi p : Nat) : Prop := sB L len p < len ∧ lo ≤ L (sB L len p) ∧ L (sB L len p) ≤ hi
def TC (L : Nat → Nat) (len : Nat) (S : gSt) (p : Nat) : Prop := p ≤ len ∧ S.1 27 4 = nI len ∧ S.1 27 5 = nI p ∧ ∀ i, i < len → S.1 28 i = nI (L i)
def TM (L : Nat → Nat) (len : Nat) (S : gSt) (p : Nat) (b : Int32) : Prop := p ≤ len ∧ S.1 47 3 = nI len ∧ S.1 47 4 = nI p ∧ S.1 47 5 = b ∧ ∀ i, i < len → S.1 50 i = nI (L i)
theorem TC_pl {L : Nat → Nat} {len p q : Nat} {S : gSt} (h : TC L len S p) (hq : q ≤ len) : TC L len (gI S 27 5 (nI q)) q := ⟨hq, by rw [gI_i _ (by decide)]; exact h.2.1, gI_s _ _ _ _, fun i hi => by rw [gI_k _ (by decide)]; exact h.2.2.2 i hi⟩
theorem TM_pl {L : Nat → Nat} {len p q : Nat} {b : Int32} {S : gSt} (h : TM L len S p b) (hq : q ≤ len) : TM L len (gI S 47 4 (nI q)) q b := ⟨hq, by rw [gI_i _ (by decide)]; exact h.2.1, gI_s _ _ _ _, by rw [gI_i _ (by decide)]; exact h.2.2.2.1, fun i hi => by rw [gI_k _ (by decide)]; exact h.2.2.2.2 i hi⟩
theorem TM_fl {L : Nat → Nat} {len p : Nat} {b c : Int32} {S : gSt} (h : TM L len S p b) : TM L len (gI S 47 5 c) p c := ⟨h.1, by rw [gI_i _ (by decide)]; exact h.2.1, by rw [gI_i _ (by decide)]; exact h.2.2.1, gI_s _ _ _ _, fun i hi => by rw [gI_k _ (by decide)]; exact h.2.2.2.2 i hi⟩
section Tape
variable {L : Nat → Nat} {len : Nat} (hTP : TP L len)
theorem cSkip (hTP : TP L len) {S : gSt} {p : Nat} (h : TC L len S p) : f_X4_skipBlanks S = some (gI S 27 5 (nI (sB L len p))) := by
  have hl := hTP.1
  obtain ⟨hp, h4, h5, h6⟩ := h
  unfold f_X4_skipBlanks
  have key : ∃ R, gLoop f_X4_skipBlanks_s0 gFuel S = some R ∧ R = gI S 27 5 (nI (sB L len p)) := by
    refine gLoop_up2 (fun i t => t = gI S 27 5 (nI (p + i)) ∧ frun (fun i => decide (p + i < len ∧ L (p + i) = 32)) i = i) _ 60 (by omega) ?_ ?_ ⟨(gI_self S h5).symm, rfl⟩
    · rintro i t hi ⟨rfl, hf⟩
      dsimp only [f_X4_skipBlanks_s0]
      unfold f_X4_skipBlanks_s0_b
      rw [gI_i _ (show 4 ≠ 5 by decide), gI_s, gI_k _ (show 28 ≠ 27 by decide), h4]
      have out : ∀ (e : ¬ (p + i < len ∧ L (p + i) = 32)), gI S 27 5 (nI (p + i)) = gI S 27 5 (nI (sB L len p)) := fun e => by
        unfold sB
        rw [frun_at hf (decide_eq_false e) (by omega)]
      by_cases h1 : len ≤ p + i
      · rw [if_pos ((nI_leI (by omega) (by omega)).mpr h1)]
        exact Or.inr ⟨_, rfl, out (by omega)⟩
      · rw [if_neg (fun z => h1 ((nI_leI (by omega) (by omega)).mp z)), gin_t (by omega) (by decide), if_pos rfl, nI_clamp (by omega), h6 _ (by omega), n_32]
        have hb := hTP.2 (p + i) (by omega)
        rw [ieq (by omega) (by decide)]
        by_cases h2 : L (p + i) = 32
        · rw [if_pos h2, gls, gI_gI, nI_1]
          exact Or.inl ⟨_, rfl, rfl, frun_go hf (decide_eq_true ⟨by omega, h2⟩)⟩
        · rw [if_neg h2]
          exact Or.inr ⟨_, rfl, out (fun z => h2 z.2)⟩
    · rintro t ⟨rfl, hf⟩
      dsimp only [f_X4_skipBlanks_s0]
      unfold f_X4_skipBlanks_s0_b
      rw [gI_i _ (show 4 ≠ 5 by decide), gI_s, h4, if_pos ((nI_leI (by omega) (by omega)).mpr (by omega))]
      exact ⟨_, rfl, by unfold sB; rw [hf]⟩
  obtain ⟨R, r1, rfl⟩ := key
  rw [r1]; rfl
theorem mHere (hTP : TP L len) {S : gSt} {p : Nat} {b : Int32} (h : TM L len S p b) : f_X7_here S = some (nI (if sB L len p < len then L (sB L len p) else 0), gI S 47 4 (nI (sB L len p))) := by
  have hl := hTP.1
  obtain ⟨hp, h4, h5, hb5, h6⟩ := h
  unfold f_X7_here
  have key : ∃ R, gLoop f_X7_here_s0 gFuel S = some R ∧ R = gI S 47 4 (nI (sB L len p)) := by
    refine gLoop_up2 (fun i t => t = gI S 47 4 (nI (p + i)) ∧ frun (fun i => decide (p + i < len ∧ L (p + i) = 32)) i = i) _ 60 (by omega) ?_ ?_ ⟨(gI_self S h5).symm, rfl⟩
    · rintro i t hi ⟨rfl, hf⟩
      dsimp only [f_X7_here_s0]
      unfold f_X7_here_s0_b
      rw [gI_i _ (show 3 ≠ 4 by decide), gI_s, gI_k _ (show 50 ≠ 47 by decide), h4]
      have out : ∀ (e : ¬ (p + i < len ∧ L (p + i) = 32)), gI S 47 4 (nI (p + i)) = gI S 47 4 (nI (sB L len p)) := fun e => by
        unfold sB
        rw [frun_at hf (decide_eq_false e) (by omega)]
      by_cases h1 : len ≤ p + i
      · rw [if_pos ((nI_leI (by omega) (by omega)).mpr h1)]
        exact Or.inr ⟨_, rfl, out (by omega)⟩
      · rw [if_neg (fun z => h1 ((nI_leI (by omega) (by omega)).mp z)), gin_t (by omega) (by decide), if_pos rfl, nI_clamp (by omega), h6 _ (by omega), n_32]
        have hb := hTP.2 (p + i) (by omega)
        rw [ieq (by omega) (by decide)]
        by_cases h2 : L (p + i) = 32
        · rw [if_pos h2, gls, gI_gI, nI_1]
          exact Or.inl ⟨_, rfl, rfl, frun_go hf (decide_eq_true ⟨by omega, h2⟩)⟩
        · rw [if_neg h2]
          exact Or.inr ⟨_, rfl, out (fun z => h2 z.2)⟩
    · rintro t ⟨rfl, hf⟩
      dsimp only [f_X7_here_s0]
      unfold f_X7_here_s0_b
      rw [gI_i _ (show 3 ≠ 4 by decide), gI_s, h4, if_pos ((nI_leI (by omega) (by omega)).mpr (by omega))]
      exact ⟨_, rfl, by unfold sB; rw [hf]⟩
  obtain ⟨R, r1, rfl⟩ := key
  rw [r1, Option.bind_some]
  show f_X7_here_j38 (gI S 47 4 (nI (sB L len p))) = _
  have hle := sB_le (L := L) hp
  unfold f_X7_here_j38
  rw [gI_i _ (show 3 ≠ 4 by decide), gI_s, gI_k _ (show 50 ≠ 47 by decide), h4]
  by_cases h1 : len ≤ sB L len p
  · rw [if_pos ((nI_leI (by omega) (by omega)).mpr h1), if_neg (by omega)]; rfl
  · rw [if_neg (fun z => h1 ((nI_leI (by omega) (by omega)).mp z)), if_pos (show sB L len p < len by omega), gin_t (show sB L len p < 60 by omega) (by decide), if_pos rfl, nI_clamp (by omega), h6 _ (by omega)]
theorem cTakeY (hTP : TP L len) {S : gSt} {p lo hi : Nat} (h : TC L len S p) (hlo : lo < 1000) (hhi : hi < 1000) (hc : tkc L len lo hi p) : f_X4_take (nI lo) (nI hi) S = some (nI (L (sB L len p) - lo), gI S 27 5 (nI (sB L len p + 1))) := by
  have hl := hTP.1
  obtain ⟨c1, c2, c3⟩ := hc
  have hb := hTP.2 _ c1
  have h6 := h.2.2.2 _ c1
  unfold f_X4_take
  rw [cSkip hTP h, Option.bind_some, gI_i _ (show 4 ≠ 5 by decide), gI_s, gI_k _ (show 28 ≠ 27 by decide), h.2.1, if_neg (fun z => by rw [nI_leI (by omega) (by omega)] at z; omega), gin_t (show sB L len p < 60 by omega) (by decide), if_pos rfl, nI_clamp (by omega), h6, if_neg (by rw [nI_ltI (by omega) (by omega)]; omega), if_pos rfl, if_pos (by rw [nI_leI (by omega) (by omega)]; omega), gls, gI_gI, nI_1, gI_s, gI_k _ (show 28 ≠ 27 by decide), nI_pred, gin_t (show sB L len p < 60 by omega) (by decide), if_pos rfl, nI_clamp (by omega), h6, nI_sub_le c2]
theorem cTakeN (hTP : TP L len) {S : gSt} {p lo hi : Nat} (h : TC L len S p) (hlo : lo < 1000) (hhi : hi < 1000) (hc : ¬ tkc L len lo hi p) : f_X4_take (nI lo) (nI hi) S = some (-1, gI S 27 5 (nI (sB L len p))) := by
  have hl := hTP.1
  have hle := sB_le (L := L) h.1
  unfold f_X4_take
  rw [cSkip hTP h, Option.bind_some, gI_i _ (show 4 ≠ 5 by decide), gI_s, gI_k _ (show 28 ≠ 27 by decide), h.2.1]
  by_cases h1 : len ≤ sB L len p
  · rw [if_pos ((nI_leI (by omega) (by omega)).mpr h1)]
  · have hb := hTP.2 (sB L len p) (by omega)
    rw [if_neg (fun z => h1 ((nI_leI (by omega) (by omega)).mp z)), gin_t (show sB L len p < 60 by omega) (by decide), if_pos rfl, nI_clamp (by omega), h.2.2.2 _ (by omega)]
    by_cases h2 : L (sB L len p) < lo
    · rw [if_pos ((nI_ltI (by omega) (by omega)).mpr h2)]
    · rw [if_neg (fun z => h2 ((nI_ltI (by omega) (by omega)).mp z)), if_pos rfl, if_neg (fun z => hc ⟨by omega, by omega, (nI_leI (by omega) (by omega)).mp z⟩)]
theorem mMustF {S : gSt} (h : S.1 47 5 = 1) (t : Int32) : f_X7_must t S = some S := by
  unfold f_X7_must
  rw [h, if_neg one0, gls, gI_self S h]
theorem mMust1 {S : gSt} (h : S.1 47 5 = 0) : f_X7_must 1 S = some S := by
  unfold f_X7_must
  rw [h, if_pos rfl, if_neg one0, gls, gI_self S h]
theorem mMust0 {S : gSt} (h : S.1 47 5 = 0) : f_X7_must 0 S = some (gI S 47 5 1) := by
  unfold f_X7_must
  rw [h, if_pos rfl, if_pos rfl, gls]
theorem mDigF {S : gSt} (h : S.1 47 5 = 1) (a b : Int32) : f_X7_digit a b S = some (-1, S) := by
  unfold f_X7_digit
  rw [h, if_neg one0]
  unfold f_X7_digit_j18
  rw [in_sp, g2s, mMustF h, Option.bind_some, h, if_neg one0, gls, gI_self S (by rw [Int32.add_zero])]
theorem mDigY (hTP : TP L len) {S : gSt} {p lo hi : Nat} (h : TM L len S p 0) (hlo : lo < 10) (hhi : hi < 10) (hc : tkc L len (48 + lo) (48 + hi) p) : f_X7_digit (nI lo) (nI hi) S = some (nI (L (sB L len p) - 48), gI S 47 4 (nI (sB L len p + 1))) := by
  obtain ⟨c1, c2, c3⟩ := hc
  have hb := hTP.2 _ c1
  have hl := hTP.1
  unfold f_X7_digit
  rw [h.2.2.2.1, if_pos rfl, mHere hTP h, g2s, if_pos c1, show (48 : Int32) = nI 48 from rfl, nI_sub_le (by omega)]
  unfold f_X7_digit_j18
  have f5 : (gI S 47 4 (nI (sB L len p))).1 47 5 = 0 := by rw [gI_i _ (by decide)]; exact h.2.2.2.1
  rw [in_lit _ (a := (lo : Int)) (b := (hi : Int)) _ (by rw [Int32.toInt_toInt64, nI_toInt (by omega)]) (by rw [Int32.toInt_toInt64, nI_toInt (by omega)]), show rng (nI (L (sB L len p) - 48)) lo hi = true by rw [rng_iff, nI_toInt (by omega)]; omega, g2s, bI_t, mMust1 f5, Option.bind_some, f5, if_pos rfl, gls, gI_s, gI_gI, nI_1]
theorem mDigN (hTP : TP L len) {S : gSt} {p lo hi : Nat} (h : TM L len S p 0) (hlo : lo < 10) (hhi : hi < 10) (hc : ¬ tkc L len (48 + lo) (48 + hi) p) : ∃ r, f_X7_digit (nI lo) (nI hi) S = some (r, gI (gI S 47 4 (nI (sB L len p))) 47 5 1) := by
  have hl := hTP.1
  unfold f_X7_digit
  rw [h.2.2.2.1, if_pos rfl, mHere hTP h, g2s, show (48 : Int32) = nI 48 from rfl]
  unfold f_X7_digit_j18
  have f5 : (gI S 47 4 (nI (sB L len p))).1 47 5 = 0 := by rw [gI_i _ (by decide)]; exact h.2.2.2.1
  have hx : (if sB L len p < len then L (sB L len p) else 0) ≤ 126 := by
    by_cases h1 : sB L len p < len
    · rw [if_pos h1]; exact (hTP.2 _ h1).2
    · rw [if_neg h1]; omega
  have hr : rng (nI (if sB L len p < len then L (sB L len p) else 0) - nI 48) lo hi = false := by
    cases e : rng (nI (if sB L len p < len then L (sB L len p) else 0) - nI 48) lo hi with
    | false => rfl
    | true =>
      exfalso
      rw [rng_iff, pk_sub_toInt (by omega) (by decide)] at e
      by_cases h1 : sB L len p < len
      · rw [if_pos h1] at e
        exact hc ⟨h1, by omega, by omega⟩
      · rw [if_neg h1] at e; omega
  rw [in_lit _ (a := (lo : Int)) (b := (hi : Int)) _ (by rw [Int32.toInt_toInt64, nI_toInt (by omega)]) (by rw [Int32.toInt_toInt64, nI_toInt (by omega)]), hr, g2s, bI_f, mMust0 f5, Option.bind_some, gI_s, if_neg one0, gls, gI_self _ (by rw [Int32.add_zero])]
  exact ⟨_, rfl⟩
theorem mTkY (hTP : TP L len) {S : gSt} {p c : Nat} (h : TM L len S p 0) (hc0 : c < 127) (hc : tkc L len c c p) : f_X7_takes (nI c) S = some (gI S 47 4 (nI (sB L len p + 1))) := by
  obtain ⟨c1, c2, c3⟩ := hc
  unfold f_X7_takes
  have f5 : (gI S 47 4 (nI (sB L len p))).1 47 5 = 0 := by rw [gI_i _ (by decide)]; exact h.2.2.2.1
  rw [mHere hTP h, g2s, if_pos c1, show L (sB L len p) = c by omega, if_pos rfl]
  unfold f_X7_takes_j14
  rw [mMust1 f5, Option.bind_some, f5, if_pos rfl, gls, gI_s, gI_gI, nI_1]
theorem mTkN (hTP : TP L len) {S : gSt} {p c : Nat} (h : TM L len S p 0) (hc1 : 0 < c) (hc0 : c < 127) (hc : ¬ tkc L len c c p) : f_X7_takes (nI c) S = some (gI (gI S 47 4 (nI (sB L len p))) 47 5 1) := by
  unfold f_X7_takes
  have f5 : (gI S 47 4 (nI (sB L len p))).1 47 5 = 0 := by rw [gI_i _ (by decide)]; exact h.2.2.2.1
  have hx : ¬ (if sB L len p < len then L (sB L len p) else 0) = c := by
    by_cases h1 : sB L len p < len
    · rw [if_pos h1]; exact fun z => hc ⟨h1, by omega, by omega⟩
    · rw [if_neg h1]; omega
  have hx2 : (if sB L len p < len then L (sB L len p) else 0) ≤ 126 := by
    by_cases h1 : sB L len p < len
    · rw [if_pos h1]; exact (hTP.2 _ h1).2
    · rw [if_neg h1]; omega
  rw [mHere hTP h, g2s, ieq (by omega) (by omega), if_neg hx]
  unfold f_X7_takes_j14
  rw [mMust0 f5, Option.bind_some, gI_s, if_neg one0, gls, gI_self _ (by rw [Int32.add_zero])]
theorem mTkF (hTP : TP L len) {S : gSt} {p : Nat} (h : TM L len S p 1) (hs : sB L len p = p) (c : Int32) : f_X7_takes c S = some S := by
  unfold f_X7_takes
  rw [mHere hTP h, g2s, hs, gI_self S h.2.2.1]
  have : ∀ t, f_X7_takes_j14 t S = some S := by
    intro t
    unfold f_X7_takes_j14
    rw [mMustF h.2.2.2.1, Option.bind_some, h.2.2.2.1, if_neg one0, gls, gI_self S (by rw [Int32.add_zero])]
  rw [this, this, ite_self]
end Tape
/-! kinds -/
def kdx (v : Nat) : Option Nat := if v = 112 then some 0 else if v = 115 then some 1 else if v = 104 then some 2 else if v = 107 then some 3 else if v = 111 then some 4 else none
theorem i8 {v : Nat} (h : v ≤ 126) : (nI v).toInt8.toInt32 = nI v := by
  rw [← Int32.toInt_inj, Int8.toInt_toInt32, Int32.toInt_toInt8, nI_toInt (by omega), Int.bmod_eq_of_le (by omega) (by omega)]
theorem idx_sp {v : Nat} (hv : v ≤ 126) (S : gSt) : f_J0_indexOf_0f7a4 (nI v) S = some (oI (-1) (kdx v), S) := by
  have key : ∃ R, gLoop f_J1_indexOfChar_4cfef_s7 gFuel (5, nI v, 0, S) = some R ∧ ((∃ w, kdx v = some w ∧ R = Sum.inl (nI w, S)) ∨ (kdx v = none ∧ R = Sum.inr S)) := by
    refine gLoop_up2 (fun i p => p = (5, nI v, nI i, S) ∧ (0 < i → ¬ v = 112) ∧ (1 < i → ¬ v = 115) ∧ (2 < i → ¬ v = 104) ∧ (3 < i → ¬ v = 107) ∧ (4 < i → ¬ v = 111)) _ 5 (by omega) ?_ ?_ ⟨rfl, by omega, by omega, by omega, by omega, by omega⟩
    · rintro i p hi ⟨rfl, h0, h1, h2, h3, h4⟩
      dsimp only [f_J1_indexOfChar_4cfef_s7]
      unfold f_J1_indexOfChar_4cfef_s7_b
      rw [if_neg (by rw [n_5, nI_leI (by omega) (by omega)]; omega), gin_t hi (by decide), if_pos rfl, nI_clamp (by omega), nI_1]
      have : i = 0 ∨ i = 1 ∨ i = 2 ∨ i = 3 ∨ i = 4 := by omega
      rcases this with rfl | rfl | rfl | rfl | rfl
      · rw [show ([112, 115, 104, 107, 111] : List Int32).getD 0 0 = nI 112 from rfl, ieq (by decide) (by omega)]
        by_cases e : v = 112
        · rw [if_pos e.symm]
          exact Or.inr ⟨_, rfl, Or.inl ⟨0, by unfold kdx; rw [if_pos e], rfl⟩⟩
        · rw [if_neg (fun z => e z.symm)]
          exact Or.inl ⟨_, rfl, rfl, fun _ => e, by omega, by omega, by omega, by omega⟩
      · rw [show ([112, 115, 104, 107, 111] : List Int32).getD 1 0 = nI 115 from rfl, ieq (by decide) (by omega)]
        by_cases e : v = 115
        · rw [if_pos e.symm]
          exact Or.inr ⟨_, rfl, Or.inl ⟨1, by unfold kdx; rw [if_neg (h0 (by omega)), if_pos e], rfl⟩⟩
        · rw [if_neg (fun z => e z.symm)]
          exact Or.inl ⟨_, rfl, rfl, fun _ => h0 (by omega), fun _ => e, by omega, by omega, by omega⟩
      · rw [show ([112, 115, 104, 107, 111] : List Int32).getD 2 0 = nI 104 from rfl, ieq (by decide) (by omega)]
        by_cases e : v = 104
        · rw [if_pos e.symm]
          exact Or.inr ⟨_, rfl, Or.inl ⟨2, by unfold kdx; rw [if_neg (h0 (by omega)), if_neg (h1 (by omega)), if_pos e], rfl⟩⟩
        · rw [if_neg (fun z => e z.symm)]
          exact Or.inl ⟨_, rfl, rfl, fun _ => h0 (by omega), fun _ => h1 (by omega), fun _ => e, by omega, by omega⟩
      · rw [show ([112, 115, 104, 107, 111] : List Int32).getD 3 0 = nI 107 from rfl, ieq (by decide) (by omega)]
        by_cases e : v = 107
        · rw [if_pos e.symm]
          exact Or.inr ⟨_, rfl, Or.inl ⟨3, by unfold kdx; rw [if_neg (h0 (by omega)), if_neg (h1 (by omega)), if_neg (h2 (by omega)), if_pos e], rfl⟩⟩
        · rw [if_neg (fun z => e z.symm)]
          exact Or.inl ⟨_, rfl, rfl, fun _ => h0 (by omega), fun _ => h1 (by omega), fun _ => h2 (by omega), fun _ => e, by omega⟩
      · rw [show ([112, 115, 104, 107, 111] : List Int32).getD 4 0 = nI 111 from rfl, ieq (by decide) (by omega)]
        by_cases e : v = 111
        · rw [if_pos e.symm]
          exact Or.inr ⟨_, rfl, Or.inl ⟨4, by unfold kdx; rw [if_neg (h0 (by omega)), if_neg (h1 (by omega)), if_neg (h2 (by omega)), if_neg (h3 (by omega)), if_pos e], rfl⟩⟩
        · rw [if_neg (fun z => e z.symm)]
          exact Or.inl ⟨_, rfl, rfl, fun _ => h0 (by omega), fun _ => h1 (by omega), fun _ => h2 (by omega), fun _ => h3 (by omega), fun _ => e⟩
    · rintro p ⟨rfl, h0, h1, h2, h3, h4⟩
      dsimp only [f_J1_indexOfChar_4cfef_s7]
      unfold f_J1_indexOfChar_4cfef_s7_b
      rw [if_pos (by decide)]
      exact ⟨_, rfl, Or.inr ⟨by unfold kdx; rw [if_neg (h0 (by omega)), if_neg (h1 (by omega)), if_neg (h2 (by omega)), if_neg (h3 (by omega)), if_neg (h4 (by omega))], rfl⟩⟩
  have e1 : f_J0_isLatin1_aae02 S = some (1, S) := rfl
  have e2 : f_J0_length_8abf5 S = some (5, S) := by
    unfold f_J0_length_8abf5
    have e0 : f_J0_coder_7d493 S = some (0, S) := by
      unfold f_J0_coder_7d493
      rw [if_neg one0]
    rw [e0, g2s, show (5 : Int32) >>> ((0 : Int32) &&& 31) = 5 by decide]
  have e3 : f_J1_canEncode_9a6ad (nI v) S = some (1, S) := by
    unfold f_J1_canEncode_9a6ad
    rw [if_neg (nI_pos (by omega)), show (255 : Int32) = nI 255 from rfl, if_neg (by rw [nI_ltI (by decide) (by omega)]; omega)]
  unfold f_J0_indexOf_0f7a4 f_J0_indexOf_7cf53
  rw [e1, g2s, if_neg one0, e2, g2s]
  unfold f_J1_indexOf_4cfef
  rw [e3, g2s, if_neg one0, gls, gls, if_neg (show ¬ (0 : Int32) < 0 by decide), if_neg (show ¬ (5 : Int32) < 5 by decide), if_pos (show (0 : Int32) < 5 by decide)]
  unfold f_J1_indexOfChar_4cfef
  rw [gls, i8 hv]
  obtain ⟨R, r1, ⟨w, hw, rfl⟩ | ⟨hw, rfl⟩⟩ := key
  · rw [r1, hw]; rfl
  · rw [r1, hw]; rfl
theorem kdx_le {v k : Nat} (h : kdx v = some k) : k ≤ 4 := by
  unfold kdx at h
  by_cases a1 : v = 112
  · rw [if_pos a1] at h; cases h; omega
  · rw [if_neg a1] at h
    by_cases a2 : v = 115
    · rw [if_pos a2] at h; cases h; omega
    · rw [if_neg a2] at h
      by_cases a3 : v = 104
      · rw [if_pos a3] at h; cases h; omega
      · rw [if_neg a3] at h
        by_cases a4 : v = 107
        · rw [if_pos a4] at h; cases h; omega
        · rw [if_neg a4] at h
          by_cases a5 : v = 111
          · rw [if_pos a5] at h; cases h; omega
          · rw [if_neg a5] at h; cases h
