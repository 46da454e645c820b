/-! the abstract state: regions of ints (fields of an object, cells of an array) and of longs, by the cell's number -/
abbrev gSt : Type := (Nat → Nat → Int32) × (Nat → Nat → Int64)
abbrev gShp : Type := (Nat × List (Option Nat)) ⊕ (Nat × Nat × Nat)
/-- class data, addresses of the cells, array classes, addresses of statics -/
abbrev gWd : Type := va_G × (Nat → Nat) × (Nat → ClassId) × (Nat → Nat)
def gfld (w : gWd) (S : gSt) (k j : Nat) (o : Option Nat) : Value := match o with
  | some i => .ref (w.2.1 i)
  | none => .int (S.1 k j)
def gE (w : gWd) (S : gSt) (k : Nat) (q : gShp) : va_E := match q with
  | .inl (ci, fs) => .inr (ci, fs.mapIdx (gfld w S k))
  | .inr (0, n, _) => .inl (w.2.2.1 0, n, .inl (S.1 k))
  | .inr (1, n, _) => .inl (w.2.2.1 1, n, .inl (S.1 k))
  | .inr (2, n, _) => .inl (w.2.2.1 2, n, .inr (.inl (S.2 k)))
  | .inr (_, n, b) => .inl (w.2.2.1 3, n, .inr (.inr (.inr (.inr (fun j => some (w.2.1 (b + j)))))))
def gSH : List gShp := [
  .inl (6, [some 1, some 14, none, some 27, some 32, some 41, some 44]),
  .inl (0, [some 2, some 3, some 4, some 5, some 6, some 7, some 8, none, none, none]),
  .inr (0, 5, 0), .inr (0, 6, 0), .inr (0, 6, 0), .inr (0, 6, 0), .inr (0, 6, 0), .inr (0, 384, 0),
  .inl (1, [some 9, some 10, some 11, some 12, some 13, none, none]),
  .inr (0, 3072, 0), .inr (0, 48, 0), .inr (0, 48, 0), .inr (0, 8, 0), .inr (0, 8, 0),
  .inl (0, [some 15, some 16, some 17, some 18, some 19, some 20, some 21, none, none, none]),
  .inr (0, 5, 0), .inr (0, 6, 0), .inr (0, 6, 0), .inr (0, 6, 0), .inr (0, 6, 0), .inr (0, 384, 0),
  .inl (1, [some 22, some 23, some 24, some 25, some 26, none, none]),
  .inr (0, 3072, 0), .inr (0, 48, 0), .inr (0, 48, 0), .inr (0, 8, 0), .inr (0, 8, 0),
  .inl (4, [some 28, some 29, some 30, some 31, none, none, none, none, none]),
  .inr (0, 60, 0), .inr (0, 6, 0), .inr (0, 6, 0), .inr (0, 6, 0),
  .inr (3, 4, 33),
  .inl (2, [some 37, none, none]), .inl (2, [some 38, none, none]), .inl (2, [some 39, none, none]), .inl (2, [some 40, none, none]),
  .inr (2, 24, 0), .inr (2, 24, 0), .inr (2, 24, 0), .inr (2, 24, 0),
  .inl (3, [some 42, some 43, none, none]),
  .inr (0, 384, 0), .inr (0, 6, 0),
  .inl (5, [some 45, some 46, none, none, none]),
  .inr (0, 64, 0), .inr (0, 64, 0),
  .inl (7, [some 48, some 49, some 50, none, none, none, some 51, some 52, none, some 53, some 54, some 55, some 56, none, none, some 57, some 58, some 59, some 60]),
  .inr (0, 416, 0), .inr (0, 64, 0), .inr (0, 60, 0), .inr (0, 18, 0), .inr (0, 3328, 0), .inr (0, 416, 0), .inr (1, 64, 0), .inr (0, 64, 0), .inr (0, 3744, 0), .inr (0, 4, 0), .inr (0, 4, 0), .inr (2, 96, 0), .inr (2, 24, 0)]
def gC (w : gWd) (S : gSt) : va_W := gSH.mapIdx (fun k q => (w.2.1 k, gE w S k q))
def gTy (w : gWd) : List (ClassId × FieldType) := [(w.2.2.1 0, .int), (w.2.2.1 1, .boolean), (w.2.2.1 2, .long), (w.2.2.1 3, .object "FootIsle$Sheet")]
theorem gSH_len : gSH.length = 61 := rfl
def gInj (w : gWd) : Prop := ∀ i j, i < 61 → j < 61 → w.2.1 i = w.2.1 j → i = j
def gIn (w : gWd) (A : Nat → Prop) : Prop := ∀ i, i < 61 → A (w.2.1 i)
/-- the cells of the world, and all that are new -/
def gA (w : gWd) (sz : Nat) : Nat → Prop := fun q => (∃ i, i < 61 ∧ q = w.2.1 i) ∨ sz ≤ q
def gI (S : gSt) (k j : Nat) (v : Int32) : gSt := (va_up S.1 k (upd (S.1 k) j v), S.2)
def gR (S : gSt) (k : Nat) (f : Nat → Int32) : gSt := (va_up S.1 k f, S.2)
def gJ (S : gSt) (k j : Nat) (v : Int64) : gSt := (S.1, va_up S.2 k (vp_updL (S.2 k) j v))
def gQ2 (S : gSt) (k : Nat) (f : Nat → Int64) : gSt := (S.1, va_up S.2 k f)
theorem gC_get {w : gWd} {S : gSt} {k : Nat} {q : gShp} (h : gSH[k]? = some q) : (gC w S)[k]? = some (w.2.1 k, gE w S k q) := by
  unfold gC
  rw [List.getElem?_mapIdx, h]
  rfl
theorem gC_of {w : gWd} {S : gSt} {k : Nat} {x : Nat × va_E} (h : (gC w S)[k]? = some x) : ∃ q, gSH[k]? = some q ∧ x = (w.2.1 k, gE w S k q) := by
  unfold gC at h
  rw [List.getElem?_mapIdx] at h
  cases hq : gSH[k]? with
  | none => rw [hq] at h; cases h
  | some q => rw [hq] at h; exact ⟨q, rfl, (Option.some.inj h).symm⟩
theorem gSH_lt {k : Nat} {q : gShp} (h : gSH[k]? = some q) : k < 61 := by
  have := (List.getElem?_eq_some_iff.mp h).1
  rw [gSH_len] at this
  exact this
theorem gE_eq {w : gWd} {S S' : gSt} {k : Nat} (q : gShp) (h1 : S'.1 k = S.1 k) (h2 : S'.2 k = S.2 k) : gE w S' k q = gE w S k q := by
  have hf : gfld w S' k = gfld w S k := by
    funext j o
    cases o with
    | none => simp only [gfld, h1]
    | some i => rfl
  rcases q with ⟨ci, fs⟩ | ⟨t, n, b⟩
  · simp only [gE, hf]
  · match t with
    | 0 => simp only [gE, h1]
    | 1 => simp only [gE, h1]
    | 2 => simp only [gE, h2]
    | t + 3 => rfl
theorem gC_set {w : gWd} {S S' : gSt} {k : Nat} {q : gShp} (h : gSH[k]? = some q) (h1 : ∀ i, i ≠ k → S'.1 i = S.1 i) (h2 : ∀ i, i ≠ k → S'.2 i = S.2 i) : (gC w S).set k (w.2.1 k, gE w S' k q) = gC w S' := by
  apply List.ext_getElem?
  intro i
  by_cases hi : i = k
  · subst hi
    rw [gC_get h, List.getElem?_set_self' , gC_get h]
    rfl
  · rw [List.getElem?_set_ne (fun e => hi e.symm)]
    unfold gC
    rw [List.getElem?_mapIdx, List.getElem?_mapIdx]
    cases hq : gSH[i]? with
    | none => rfl
    | some q2 =>
      show some (w.2.1 i, gE w S i q2) = some (w.2.1 i, gE w S' i q2)
      rw [gE_eq q2 (h1 i hi) (h2 i hi)]
theorem gC_D {w : gWd} {S : gSt} {A : Nat → Prop} (h1 : gInj w) (h2 : gIn w A) : va_D A (gC w S) := by
  constructor
  · intro i j p q hp hq e
    obtain ⟨a, ha, rfl⟩ := gC_of hp
    obtain ⟨b, hb, rfl⟩ := gC_of hq
    exact h1 i j (gSH_lt ha) (gSH_lt hb) e
  · intro k q hq
    obtain ⟨a, ha, rfl⟩ := gC_of hq
    exact h2 k (gSH_lt ha)
theorem va_up_s {α : Type} (f : Nat → α) (k : Nat) (v : α) : va_up f k v k = v := by simp [va_up]
theorem va_up_n {α : Type} (f : Nat → α) {k i : Nat} (h : i ≠ k) (v : α) : va_up f k v i = f i := by simp [va_up, h]
/-! locals by place -/
def lP : Nat → List (Option Value) → List (Nat × Value)
  | _, [] => []
  | i, none :: t => lP (i + 1) t
  | i, some v :: t => (i, v) :: lP (i + 1) t
theorem lP_mem {L : List (Option Value)} : ∀ {i j : Nat} {v : Value}, (j, v) ∈ lP i L ↔ i ≤ j ∧ L[j - i]? = some (some v) := by
  induction L with
  | nil => intro i j v; simp [lP]
  | cons a t ih =>
    intro i j v
    have key : ((j, v) ∈ lP (i + 1) t) ↔ i + 1 ≤ j ∧ t[j - (i + 1)]? = some (some v) := ih
    have idx : i + 1 ≤ j → j - i = (j - (i + 1)) + 1 := fun h => by omega
    cases a with
    | none =>
      show (j, v) ∈ lP (i + 1) t ↔ _
      rw [key]
      constructor
      · rintro ⟨h1, h2⟩
        refine ⟨by omega, ?_⟩
        rw [idx h1]; exact h2
      · rintro ⟨h1, h2⟩
        by_cases hj : j = i
        · subst hj
          rw [Nat.sub_self] at h2
          cases h2
        · have h3 : i + 1 ≤ j := by omega
          rw [idx h3] at h2
          exact ⟨h3, h2⟩
    | some x =>
      show (j, v) ∈ (i, x) :: lP (i + 1) t ↔ _
      rw [List.mem_cons, key]
      constructor
      · rintro (h | ⟨h1, h2⟩)
        · cases h
          exact ⟨Nat.le_refl _, by rw [Nat.sub_self]; rfl⟩
        · refine ⟨by omega, ?_⟩
          rw [idx h1]; exact h2
      · rintro ⟨h1, h2⟩
        by_cases hj : j = i
        · subst hj
          rw [Nat.sub_self] at h2
          cases h2
          exact Or.inl rfl
        · have h3 : i + 1 ≤ j := by omega
          rw [idx h3] at h2
          exact Or.inr ⟨h3, h2⟩
abbrev lh (ls : Array Slot) (L : List (Option Value)) : Prop := lv_has ls L.length (lP 0 L)
theorem lh_at {ls : Array Slot} {L : List (Option Value)} (h : lh ls L) {i : Nat} {v : Value} (hi : L[i]? = some (some v)) : ls[i]? = some (.val v) := h.2.2 (i, v) (lP_mem.mpr ⟨Nat.zero_le _, hi⟩)
/-- no long stands in the place below -/
def lOk (L : List (Option Value)) (i : Nat) : Bool := match i with
  | 0 => true
  | j + 1 => match L[j]? with
    | some (some (.long _)) => false
    | some (some (.double _)) => false
    | _ => true
theorem lOk_cat {L : List (Option Value)} {i j : Nat} {v : Value} (h : lOk L i = true) (hj : j + 1 = i) (hv : L[j]? = some (some v)) : ¬ v.category = 2 := by
  subst hj
  simp only [lOk, hv] at h
  cases v <;> simp [Value.category] at h ⊢
theorem lh_set1 {ls' : Array Slot} {L : List (Option Value)} {i : Nat} {v : Value} (hk : lOk L i = true) (h : lv_has ls' L.length ((i, v) :: (lP 0 L).filter (fun q => !(q.1 == i) && !(q.1 + 1 == i && q.2.category == 2)))) : lh ls' (L.set i (some v)) := by
  refine ⟨by rw [List.length_set]; exact h.1, h.2.1, ?_⟩
  rintro ⟨j, u⟩ hq
  obtain ⟨-, hq⟩ := lP_mem.mp hq
  refine h.2.2 (j, u) ?_
  rw [Nat.sub_zero] at hq
  by_cases hj : j = i
  · subst hj
    have hl : j < (L.set j (some v)).length := (List.getElem?_eq_some_iff.mp hq).1
    rw [List.length_set] at hl
    rw [List.getElem?_set_self hl] at hq
    cases hq
    exact List.mem_cons_self
  · rw [List.getElem?_set_ne (fun e => hj e.symm)] at hq
    refine List.mem_cons_of_mem _ (List.mem_filter.mpr ⟨lP_mem.mpr ⟨Nat.zero_le _, hq⟩, ?_⟩)
    have h1 : (j == i) = false := by simpa using hj
    simp only [h1, Bool.not_false, Bool.true_and, Bool.not_eq_true', Bool.and_eq_false_iff]
    by_cases h2 : j + 1 = i
    · right
      simpa using lOk_cat hk h2 hq
    · left
      simpa using h2
theorem lh_set2 {ls' : Array Slot} {L : List (Option Value)} {i : Nat} {v : Value} (hk : lOk L i = true) (h : lv_has ls' L.length ((i, v) :: (lP 0 L).filter (fun q => !(q.1 == i) && (!(q.1 == i + 1) && !(q.1 + 1 == i && q.2.category == 2))))) : lh ls' ((L.set i (some v)).set (i + 1) none) := by
  refine ⟨by rw [List.length_set, List.length_set]; exact h.1, h.2.1, ?_⟩
  rintro ⟨j, u⟩ hq
  obtain ⟨-, hq⟩ := lP_mem.mp hq
  refine h.2.2 (j, u) ?_
  rw [Nat.sub_zero] at hq
  by_cases hj1 : j = i + 1
  · subst hj1
    have hl : i + 1 < ((L.set i (some v)).set (i + 1) none).length := (List.getElem?_eq_some_iff.mp hq).1
    rw [List.length_set] at hl
    rw [List.getElem?_set_self hl] at hq
    cases hq
  · rw [List.getElem?_set_ne (fun e => hj1 e.symm)] at hq
    by_cases hj : j = i
    · subst hj
      have hl : j < (L.set j (some v)).length := (List.getElem?_eq_some_iff.mp hq).1
      rw [List.length_set] at hl
      rw [List.getElem?_set_self hl] at hq
      cases hq
      exact List.mem_cons_self
    · rw [List.getElem?_set_ne (fun e => hj e.symm)] at hq
      refine List.mem_cons_of_mem _ (List.mem_filter.mpr ⟨lP_mem.mpr ⟨Nat.zero_le _, hq⟩, ?_⟩)
      have h1 : (j == i) = false := by simpa using hj
      have h3 : (j == i + 1) = false := by simpa using hj1
      simp only [h1, h3, Bool.not_false, Bool.true_and, Bool.not_eq_true', Bool.and_eq_false_iff]
      by_cases h2 : j + 1 = i
      · right
        simpa using lOk_cat hk h2 hq
      · left
        simpa using h2
def gmask : List Bool → List (Option Value) → List (Option Value)
  | b :: bs, a :: t => (if b then a else none) :: gmask bs t
  | _, t => t.map (fun _ => none)
theorem gmask_len : ∀ (ms : List Bool) (L : List (Option Value)), (gmask ms L).length = L.length
  | [], L => by simp [gmask]
  | _ :: _, [] => rfl
  | b :: bs, a :: t => by simp [gmask, gmask_len bs t]
theorem gmask_get : ∀ (ms : List Bool) (L : List (Option Value)) (i : Nat) (v : Value), (gmask ms L)[i]? = some (some v) → L[i]? = some (some v)
  | [], L, i, v, h => by
    simp only [gmask, List.getElem?_map] at h
    cases hL : L[i]? with
    | none => rw [hL] at h; cases h
    | some x => rw [hL] at h; cases h
  | _ :: _, [], i, v, h => by simp [gmask] at h
  | b :: bs, a :: t, 0, v, h => by
    cases b with
    | true => exact h
    | false => cases h
  | b :: bs, a :: t, i + 1, v, h => gmask_get bs t i v h
theorem lh_mask {ls : Array Slot} {L : List (Option Value)} (ms : List Bool) (h : lh ls L) : lh ls (gmask ms L) := by
  refine ⟨by rw [gmask_len]; exact h.1, h.2.1, ?_⟩
  rintro ⟨j, u⟩ hq
  obtain ⟨-, hq⟩ := lP_mem.mp hq
  exact lh_at h (gmask_get ms L j u hq)
