/-! the judgement: the machine in one method, its world as the abstract state tells -/
abbrev gX : Type := Program × Launch × Env × Room × State × MethodId × Array Value × List Frame × Method × Code × gWd × (Nat → Prop) × Nat × Nat × (State → Prop)
abbrev gw (X : gX) : gWd := X.2.2.2.2.2.2.2.2.2.2.1
/-- the address of a cell -/
abbrev gad (X : gX) (k : Nat) : Nat := (gw X).2.1 k
/-- statics: addresses that no method of ours may change -/
def gStat0 (w : gWd) (A : Nat → Prop) (U : State) (H : Heap) : Prop :=
  (va_Z "FootIsle" "LEAST_SETTING" "[I" (.ref (w.2.2.2 0)) A U H ∧ va_T .int (w.2.2.2 0) 5 (fun j => .int (([0, 0, 0, 2, 0] : List Int32).getD j 0)) A U H) ∧
  (va_Z "FootIsle" "MOST_SETTING" "[I" (.ref (w.2.2.2 1)) A U H ∧ va_T .int (w.2.2.2 1) 5 (fun j => .int (([8, 9, 3, 12, 8] : List Int32).getD j 0)) A U H) ∧
  va_Z "java/lang/String" "COMPACT_STRINGS" "Z" (.int 1) A U H ∧ va_O "java/lang/String" (w.2.2.2 2) A U H ∧ va_OF "java/lang/String" "coder" "B" (.int 0) (w.2.2.2 2) A U H ∧ va_OF "java/lang/String" "value" "[B" (.ref (w.2.2.2 3)) (w.2.2.2 2) A U H ∧ va_T .byte (w.2.2.2 3) 5 (fun j => .int (([112, 115, 104, 107, 111] : List Int32).getD j 0)) A U H
theorem gStat0.moved {w : gWd} {A : Nat → Prop} {u U : State} {H : Heap} (hvm : u.vm.Alike U.vm) (h : gStat0 w A u H) : gStat0 w A U H :=
  ⟨⟨h.1.1.moved hvm, h.1.2.moved hvm⟩, ⟨h.2.1.1.moved hvm, h.2.1.2.moved hvm⟩, h.2.2.1.moved hvm, h.2.2.2.1.moved hvm, h.2.2.2.2.1.moved hvm, h.2.2.2.2.2.1.moved hvm, h.2.2.2.2.2.2.moved hvm⟩
theorem gStat0.kept {w : gWd} {A : Nat → Prop} {U : State} {H H1 : Heap} (h : gStat0 w A U H) (hq : ∀ a : Nat, a < H.size → ¬ A a → H1[a]? = H[a]?) : gStat0 w A U H1 :=
  ⟨⟨h.1.1.kept hq, h.1.2.kept hq⟩, ⟨h.2.1.1.kept hq, h.2.1.2.kept hq⟩, h.2.2.1.kept hq, h.2.2.2.1.kept hq, h.2.2.2.2.1.kept hq, h.2.2.2.2.2.1.kept hq, h.2.2.2.2.2.2.kept hq⟩
theorem gStat0.narrow {w : gWd} {A B : Nat → Prop} {U : State} {H : Heap} (h : gStat0 w A U H) (hAB : ∀ q, B q → A q) : gStat0 w B U H :=
  ⟨⟨h.1.1.narrow hAB, h.1.2.narrow hAB⟩, ⟨h.2.1.1.narrow hAB, h.2.1.2.narrow hAB⟩, h.2.2.1.narrow hAB, h.2.2.2.1.narrow hAB, h.2.2.2.2.1.narrow hAB, h.2.2.2.2.2.1.narrow hAB, h.2.2.2.2.2.2.narrow hAB⟩
def gStat (w : gWd) (A : Nat → Prop) (U : State) (H : Heap) : Prop := gStat0 w A U H ∧ vk_R "FootIsle$Tape" 55 "pshko" (w.2.2.2 2) U
theorem gStat.same {w : gWd} {A : Nat → Prop} {u U : State} {H : Heap} (hv : U.vm = u.vm) (hvm : u.vm.Alike U.vm) (h : gStat w A u H) : gStat w A U H := ⟨h.1.moved hvm, vk_R.same hv h.2⟩
theorem gStat.warm {w : gWd} {A : Nat → Prop} {u U : State} {H : Heap} (hW : u.WarmedH U.vm) (h : gStat w A u H) : gStat w A U H := ⟨h.1.moved hW.alike, vk_R.warm hW h.2⟩
theorem gStat.kept {w : gWd} {A : Nat → Prop} {U : State} {H H1 : Heap} (h : gStat w A U H) (hq : ∀ a : Nat, a < H.size → ¬ A a → H1[a]? = H[a]?) : gStat w A U H1 := ⟨h.1.kept hq, h.2⟩
theorem gStat.narrow {w : gWd} {A B : Nat → Prop} {U : State} {H : Heap} (h : gStat w A U H) (hAB : ∀ q, B q → A q) : gStat w B U H := ⟨h.1.narrow hAB, h.2⟩
def gOK (p : Program) (R : Room) (s : State) (m : MethodId) (args : Array Value) (meth : Method) (c : Code) (w : gWd) (A : Nat → Prop) (kc ks : Nat) (own : String) (d : Nat) (cc : ByteArray) : Prop :=
  p.tables.exec = Jvm.exec ∧ c.code = cc ∧ s.vm.findClass own = some m.cls ∧ (∀ q ∈ gALL, q.before args s = true) ∧ va_K w.1 vwCl (gTy w) s ∧ gInj w ∧ gIn w A ∧ (∀ q, s.heap.size ≤ q → A q) ∧ (∀ q ∈ gNest, va_Nw q s) ∧ meth.locks = false ∧ (d ≤ R.frames ∧ 40 * d ≤ R.locals ∧ kc ≤ R.cells ∧ ks ≤ R.slots) ∧ gStat w A s s.heap
def AW (X : gX) (own : String) (d : Nat) (cc : ByteArray) (pc : Nat) (L : List (Option Value)) (st : List Value) (S : gSt) : Prop :=
  match X with
  | (p, l, e, R, s, m, args, below, meth, c, w, A, kc, ks, Q) => gOK p R s m args meth c w A kc ks own d cc → c.maxLocals = L.length → ∀ (H : Heap) (locs : List Loc) (ls : Array Slot), va_P w.1 vwCl (gC w S) H → va_S A s.heap H locs → lh ls L → W p l e R s m args below meth c H locs kc ks Q (F0 m pc ls st)
/-- what a method's end must show -/
def gQ (w : gWd) (A : Nat → Prop) (r : Option Value) (S' : gSt) : Array Value → State → Outcome → State → Prop := fun _ st oc t => oc = .returned r ∧ va_P w.1 vwCl (gC w S') t.heap ∧ va_F A st t
def gPost (X : gX) (ret : Option FieldType) (r : Option Value) (S' : gSt) : Prop :=
  match X with
  | (p, l, e, R, s, m, args, below, meth, c, w, A, kc, ks, Q) => meth.sig.returnType = ret ∧ Q = MQ below (gQ w A r S') args s kc ks A
/-- a method's start -/
def gB (w : gWd) (sz : Nat) (S : gSt) (U : State) : Prop := U.heap.size = sz ∧ va_P w.1 vwCl (gC w S) U.heap ∧ va_K w.1 vwCl (gTy w) U ∧ gInj w ∧ (∀ q ∈ gNest, va_Nw q U) ∧ gStat w (gA w sz) U U.heap
def gRm (d : Nat) : Room := { frames := d, cells := 0, slots := 0, locals := 40 * d }
abbrev gWs (y : MethodName) (cc : ByteArray) (mL : Nat) (ret : Option FieldType) : List Cond := .code y cc mL ret :: gALL
/-- THE CONTRACT: called with 'as' in state S, the method answers r and leaves S' -/
def gCT (y : MethodName) (cc : ByteArray) (mL : Nat) (ret : Option FieldType) (d : Nat) (as : gWd → List Value) (S : gSt) (r : Option Value) (S' : gSt) : Prop :=
  ∀ (l : Launch) (w : gWd) (sz : Nat), Met l y (gWs y cc mL ret) (gRm d) (va_Pc (as w) (gB w sz S)) (gQ w (gA w sz) r S') 0 0 (gA w sz)
theorem gEnter {y : MethodName} {cc : ByteArray} {mL : Nat} {ret : Option FieldType} {d : Nat} {as : gWd → List Value} {S S' : gSt} {r : Option Value} (L0 : gX → List (Option Value)) (hy : plainName y.cls = true)
    (hL : ∀ X, lP 0 (L0 X) = lv_args 0 (as (gw X)) ∧ (L0 X).length = mL) (hn : ∀ w, (lg_sl (as w)).length ≤ mL) (h : ∀ X : gX, gPost X ret r S' → AW X y.cls d cc 0 (L0 X) [] S) : gCT y cc mL ret d as S r S' := by
  intro l w sz
  refine Met.ofW (cc := cc) (maxL := mL) (ret := ret) hy rfl ?_
  intro p e s m args below meth c s₁ B hml hv
  obtain ⟨rfl, hsz, hP, hK, hI, hN, hG⟩ := hv
  have hts := atoms_spec (ws := gWs y cc mL ret) B.pre
  have hl := lv_entry (as w) (n := mL) (hn w)
  rw [lg_entry_eq]
  generalize (lg_sl (as w) ++ List.replicate (mL - (lg_sl (as w)).length) Slot.unset).toArray = ls at hl ⊢
  have hA := hL (p, l, e, (headSpec (gWs y cc mL ret) (gRm d)).room, s, m, (as w).toArray, below, meth, c, w, gA w sz, 0, 0, MQ below (gQ w (gA w sz) r S') (as w).toArray s 0 0 (gA w sz))
  refine h (p, l, e, (headSpec (gWs y cc mL ret) (gRm d)).room, s, m, (as w).toArray, below, meth, c, w, gA w sz, 0, 0, MQ below (gQ w (gA w sz) r S') (as w).toArray s 0 0 (gA w sz)) ⟨B.returns, rfl⟩ ⟨B.exec, B.bytes, findClass_of_methodNamed B.named, fun q hq => hts q (List.mem_cons_of_mem _ hq), hK, hI, fun i hi => Or.inl ⟨i, hi, rfl⟩, fun q hq => Or.inr (by rw [← hsz]; exact hq), hN, B.notSynchronized, ⟨Nat.le_refl _, Nat.le_refl _, Nat.le_refl _, Nat.le_refl _⟩, hG⟩ (by rw [hA.2]; exact hml) s.heap [] ls hP va_S.rf ?_
  show lv_has ls _ _
  rw [hA.1, hA.2]
  exact hl
section Rows
variable {X : gX} {own : String} {d : Nat} {cc : ByteArray} {pc : Nat} {L : List (Option Value)} {st : List Value} {S : gSt}
theorem a_iconst {n : Int} {v : Int32} (hd : decode cc pc = .ok (.iconst n, 1)) (hv : Int32.ofInt n = v) (k : AW X own d cc (pc + 1) L (.int v :: st) S) : AW X own d cc pc L st S := by
  obtain ⟨p, l, e, R, s, m, args, below, meth, c, w, A, kc, ks, Q⟩ := X
  intro ok hml H locs ls hP hS hl
  exact lv_iconst ok.1 ok.2.1 hd hv (k ok hml H locs ls hP hS hl)
theorem a_bipush {n : Int} {v : Int32} (hd : decode cc pc = .ok (.bipush n, 2)) (hv : (Int8.ofInt n).toInt32 = v) (k : AW X own d cc (pc + 2) L (.int v :: st) S) : AW X own d cc pc L st S := by
  obtain ⟨p, l, e, R, s, m, args, below, meth, c, w, A, kc, ks, Q⟩ := X
  intro ok hml H locs ls hP hS hl
  exact lv_bipush ok.1 ok.2.1 hd hv (k ok hml H locs ls hP hS hl)
theorem a_sipush {n : Int} {v : Int32} (hd : decode cc pc = .ok (.sipush n, 3)) (hv : (Int16.ofInt n).toInt32 = v) (k : AW X own d cc (pc + 3) L (.int v :: st) S) : AW X own d cc pc L st S := by
  obtain ⟨p, l, e, R, s, m, args, below, meth, c, w, A, kc, ks, Q⟩ := X
  intro ok hml H locs ls hP hS hl
  exact lv_sipush ok.1 ok.2.1 hd hv (k ok hml H locs ls hP hS hl)
theorem a_lconst {n : Fin 2} {v : Int64} (hd : decode cc pc = .ok (.lconst n, 1)) (hv : Int64.ofNat (n : Nat) = v) (k : AW X own d cc (pc + 1) L (.long v :: st) S) : AW X own d cc pc L st S := by
  obtain ⟨p, l, e, R, s, m, args, below, meth, c, w, A, kc, ks, Q⟩ := X
  intro ok hml H locs ls hP hS hl
  exact lv_lconst ok.1 ok.2.1 hd hv (k ok hml H locs ls hP hS hl)
theorem a_ldc {i : Nat} {v : Int32} (hw : Cond.constant own i v ∈ gALL) (hd : decode cc pc = .ok (.ldc i, 2)) (k : AW X own d cc (pc + 2) L (.int v :: st) S) : AW X own d cc pc L st S := by
  obtain ⟨p, l, e, R, s, m, args, below, meth, c, w, A, kc, ks, Q⟩ := X
  intro ok hml H locs ls hP hS hl
  exact lv_ldc ok.1 ok.2.1 ok.2.2.1 (ok.2.2.2.1 _ hw) hd (k ok hml H locs ls hP hS hl)
theorem a_ldc2 {i : Nat} {v : Int64} (hw : Cond.constantLong own i v ∈ gALL) (hd : decode cc pc = .ok (.ldc2_w i, 3)) (k : AW X own d cc (pc + 3) L (.long v :: st) S) : AW X own d cc pc L st S := by
  obtain ⟨p, l, e, R, s, m, args, below, meth, c, w, A, kc, ks, Q⟩ := X
  intro ok hml H locs ls hP hS hl
  exact lv_ldc2 ok.1 ok.2.1 ok.2.2.1 (ok.2.2.2.1 _ hw) hd (k ok hml H locs ls hP hS hl)
theorem a_iloadn {q : Fin 4} {i : Nat} {x : Int32} (hd : decode cc pc = .ok (.iload_n q, 1)) (hi : (q : Nat) = i) (hx : L[i]? = some (some (.int x))) (k : AW X own d cc (pc + 1) L (.int x :: st) S) : AW X own d cc pc L st S := by
  obtain ⟨p, l, e, R, s, m, args, below, meth, c, w, A, kc, ks, Q⟩ := X
  intro ok hml H locs ls hP hS hl
  exact lv_iload_n ok.1 ok.2.1 hd hi (lh_at hl hx) (k ok hml H locs ls hP hS hl)
theorem a_iload {i : Nat} {x : Int32} (hd : decode cc pc = .ok (.iload i, 2)) (hx : L[i]? = some (some (.int x))) (k : AW X own d cc (pc + 2) L (.int x :: st) S) : AW X own d cc pc L st S := by
  obtain ⟨p, l, e, R, s, m, args, below, meth, c, w, A, kc, ks, Q⟩ := X
  intro ok hml H locs ls hP hS hl
  exact lv_iload ok.1 ok.2.1 hd (lh_at hl hx) (k ok hml H locs ls hP hS hl)
theorem a_lloadn {q : Fin 4} {i : Nat} {x : Int64} (hd : decode cc pc = .ok (.lload_n q, 1)) (hi : (q : Nat) = i) (hx : L[i]? = some (some (.long x))) (k : AW X own d cc (pc + 1) L (.long x :: st) S) : AW X own d cc pc L st S := by
  obtain ⟨p, l, e, R, s, m, args, below, meth, c, w, A, kc, ks, Q⟩ := X
  intro ok hml H locs ls hP hS hl
  exact lv_lload_n ok.1 ok.2.1 hd hi (lh_at hl hx) (k ok hml H locs ls hP hS hl)
theorem a_lload {i : Nat} {x : Int64} (hd : decode cc pc = .ok (.lload i, 2)) (hx : L[i]? = some (some (.long x))) (k : AW X own d cc (pc + 2) L (.long x :: st) S) : AW X own d cc pc L st S := by
  obtain ⟨p, l, e, R, s, m, args, below, meth, c, w, A, kc, ks, Q⟩ := X
  intro ok hml H locs ls hP hS hl
  exact lv_lload ok.1 ok.2.1 hd (lh_at hl hx) (k ok hml H locs ls hP hS hl)
theorem a_aloadn {q : Fin 4} {i x : Nat} (hd : decode cc pc = .ok (.aload_n q, 1)) (hi : (q : Nat) = i) (hx : L[i]? = some (some (.ref x))) (k : AW X own d cc (pc + 1) L (.ref x :: st) S) : AW X own d cc pc L st S := by
  obtain ⟨p, l, e, R, s, m, args, below, meth, c, w, A, kc, ks, Q⟩ := X
  intro ok hml H locs ls hP hS hl
  exact lv_aload_n ok.1 ok.2.1 hd hi (lh_at hl hx) (k ok hml H locs ls hP hS hl)
theorem a_aload {i x : Nat} (hd : decode cc pc = .ok (.aload i, 2)) (hx : L[i]? = some (some (.ref x))) (k : AW X own d cc (pc + 2) L (.ref x :: st) S) : AW X own d cc pc L st S := by
  obtain ⟨p, l, e, R, s, m, args, below, meth, c, w, A, kc, ks, Q⟩ := X
  intro ok hml H locs ls hP hS hl
  exact lv_aload ok.1 ok.2.1 hd (lh_at hl hx) (k ok hml H locs ls hP hS hl)
theorem a_istoren {q : Fin 4} {i : Nat} {x : Int32} {L' : List (Option Value)} (hd : decode cc pc = .ok (.istore_n q, 1)) (hi : (q : Nat) = i) (hn : i < L.length) (hk : lOk L i = true) (he : L.set i (some (.int x)) = L') (k : AW X own d cc (pc + 1) L' st S) : AW X own d cc pc L (.int x :: st) S := by
  subst he
  obtain ⟨p, l, e, R, s, m, args, below, meth, c, w, A, kc, ks, Q⟩ := X
  intro ok hml H locs ls hP hS hl
  exact lv_istore_n ok.1 ok.2.1 hd hi hl hn rfl (fun ls' hl' => k ok (by rw [List.length_set]; exact hml) H locs ls' hP hS (lh_set1 hk hl'))
theorem a_istore {i : Nat} {x : Int32} {L' : List (Option Value)} (hd : decode cc pc = .ok (.istore i, 2)) (hn : i < L.length) (hk : lOk L i = true) (he : L.set i (some (.int x)) = L') (k : AW X own d cc (pc + 2) L' st S) : AW X own d cc pc L (.int x :: st) S := by
  subst he
  obtain ⟨p, l, e, R, s, m, args, below, meth, c, w, A, kc, ks, Q⟩ := X
  intro ok hml H locs ls hP hS hl
  exact lv_istore ok.1 ok.2.1 hd hl hn rfl (fun ls' hl' => k ok (by rw [List.length_set]; exact hml) H locs ls' hP hS (lh_set1 hk hl'))
theorem a_astoren {q : Fin 4} {i x : Nat} {L' : List (Option Value)} (hd : decode cc pc = .ok (.astore_n q, 1)) (hi : (q : Nat) = i) (hn : i < L.length) (hk : lOk L i = true) (he : L.set i (some (.ref x)) = L') (k : AW X own d cc (pc + 1) L' st S) : AW X own d cc pc L (.ref x :: st) S := by
  subst he
  obtain ⟨p, l, e, R, s, m, args, below, meth, c, w, A, kc, ks, Q⟩ := X
  intro ok hml H locs ls hP hS hl
  exact lv_astore_n ok.1 ok.2.1 hd hi hl hn rfl (fun ls' hl' => k ok (by rw [List.length_set]; exact hml) H locs ls' hP hS (lh_set1 hk hl'))
theorem a_astore {i x : Nat} {L' : List (Option Value)} (hd : decode cc pc = .ok (.astore i, 2)) (hn : i < L.length) (hk : lOk L i = true) (he : L.set i (some (.ref x)) = L') (k : AW X own d cc (pc + 2) L' st S) : AW X own d cc pc L (.ref x :: st) S := by
  subst he
  obtain ⟨p, l, e, R, s, m, args, below, meth, c, w, A, kc, ks, Q⟩ := X
  intro ok hml H locs ls hP hS hl
  exact lv_astore ok.1 ok.2.1 hd hl hn rfl (fun ls' hl' => k ok (by rw [List.length_set]; exact hml) H locs ls' hP hS (lh_set1 hk hl'))
theorem a_lstoren {q : Fin 4} {i : Nat} {x : Int64} {L' : List (Option Value)} (hd : decode cc pc = .ok (.lstore_n q, 1)) (hi : (q : Nat) = i) (hn : i + 1 < L.length) (hk : lOk L i = true) (he : (L.set i (some (.long x))).set (i + 1) none = L') (k : AW X own d cc (pc + 1) L' st S) : AW X own d cc pc L (.long x :: st) S := by
  subst he
  obtain ⟨p, l, e, R, s, m, args, below, meth, c, w, A, kc, ks, Q⟩ := X
  intro ok hml H locs ls hP hS hl
  exact lv_lstore_n ok.1 ok.2.1 hd hi hl hn rfl (fun ls' hl' => k ok (by rw [List.length_set, List.length_set]; exact hml) H locs ls' hP hS (lh_set2 hk hl'))
theorem a_lstore {i : Nat} {x : Int64} {L' : List (Option Value)} (hd : decode cc pc = .ok (.lstore i, 2)) (hn : i + 1 < L.length) (hk : lOk L i = true) (he : (L.set i (some (.long x))).set (i + 1) none = L') (k : AW X own d cc (pc + 2) L' st S) : AW X own d cc pc L (.long x :: st) S := by
  subst he
  obtain ⟨p, l, e, R, s, m, args, below, meth, c, w, A, kc, ks, Q⟩ := X
  intro ok hml H locs ls hP hS hl
  exact lv_lstore ok.1 ok.2.1 hd hl hn rfl (fun ls' hl' => k ok (by rw [List.length_set, List.length_set]; exact hml) H locs ls' hP hS (lh_set2 hk hl'))
theorem a_iinc {i : Nat} {n : Int} {x v : Int32} {L' : List (Option Value)} (hd : decode cc pc = .ok (.iinc i n, 3)) (hx : L[i]? = some (some (.int x))) (hv : x + Int32.ofInt n = v) (hn : i < L.length) (hk : lOk L i = true) (he : L.set i (some (.int v)) = L') (k : AW X own d cc (pc + 3) L' st S) : AW X own d cc pc L st S := by
  subst he
  obtain ⟨p, l, e, R, s, m, args, below, meth, c, w, A, kc, ks, Q⟩ := X
  intro ok hml H locs ls hP hS hl
  have hm : (i, Value.int x) ∈ lP 0 L := lP_mem.mpr ⟨Nat.zero_le _, hx⟩
  obtain ⟨q, hq⟩ := List.mem_iff_getElem?.mp hm
  exact lv_iinc ok.1 ok.2.1 hd hl hq hv hn rfl (fun ls' hl' => k ok (by rw [List.length_set]; exact hml) H locs ls' hP hS (lh_set1 hk hl'))
theorem a_mask {L' : List (Option Value)} (ms : List Bool) (he : gmask ms L = L') (k : AW X own d cc pc L' st S) : AW X own d cc pc L st S := by
  subst he
  obtain ⟨p, l, e, R, s, m, args, below, meth, c, w, A, kc, ks, Q⟩ := X
  intro ok hml H locs ls hP hS hl
  exact k ok (by rw [gmask_len]; exact hml) H locs ls hP hS (lh_mask ms hl)
theorem a_iadd {x y : Int32} (hd : decode cc pc = .ok (.iadd, 1)) (k : AW X own d cc (pc + 1) L (.int (x + y) :: st) S) : AW X own d cc pc L (.int y :: .int x :: st) S := by
  obtain ⟨p, l, e, R, s, m, args, below, meth, c, w, A, kc, ks, Q⟩ := X
  intro ok hml H locs ls hP hS hl
  exact lv_iadd ok.1 ok.2.1 hd (k ok hml H locs ls hP hS hl)
theorem a_isub {x y : Int32} (hd : decode cc pc = .ok (.isub, 1)) (k : AW X own d cc (pc + 1) L (.int (x - y) :: st) S) : AW X own d cc pc L (.int y :: .int x :: st) S := by
  obtain ⟨p, l, e, R, s, m, args, below, meth, c, w, A, kc, ks, Q⟩ := X
  intro ok hml H locs ls hP hS hl
  exact lv_isub ok.1 ok.2.1 hd (k ok hml H locs ls hP hS hl)
theorem a_imul {x y : Int32} (hd : decode cc pc = .ok (.imul, 1)) (k : AW X own d cc (pc + 1) L (.int (x * y) :: st) S) : AW X own d cc pc L (.int y :: .int x :: st) S := by
  obtain ⟨p, l, e, R, s, m, args, below, meth, c, w, A, kc, ks, Q⟩ := X
  intro ok hml H locs ls hP hS hl
  exact lv_imul ok.1 ok.2.1 hd (k ok hml H locs ls hP hS hl)
theorem a_iand {x y : Int32} (hd : decode cc pc = .ok (.iand, 1)) (k : AW X own d cc (pc + 1) L (.int (x &&& y) :: st) S) : AW X own d cc pc L (.int y :: .int x :: st) S := by
  obtain ⟨p, l, e, R, s, m, args, below, meth, c, w, A, kc, ks, Q⟩ := X
  intro ok hml H locs ls hP hS hl
  exact lv_iand ok.1 ok.2.1 hd (k ok hml H locs ls hP hS hl)
theorem a_ior {x y : Int32} (hd : decode cc pc = .ok (.ior, 1)) (k : AW X own d cc (pc + 1) L (.int (x ||| y) :: st) S) : AW X own d cc pc L (.int y :: .int x :: st) S := by
  obtain ⟨p, l, e, R, s, m, args, below, meth, c, w, A, kc, ks, Q⟩ := X
  intro ok hml H locs ls hP hS hl
  exact lv_ior ok.1 ok.2.1 hd (k ok hml H locs ls hP hS hl)
theorem a_ishl {x y : Int32} (hd : decode cc pc = .ok (.ishl, 1)) (k : AW X own d cc (pc + 1) L (.int (x <<< (y &&& 31)) :: st) S) : AW X own d cc pc L (.int y :: .int x :: st) S := by
  obtain ⟨p, l, e, R, s, m, args, below, meth, c, w, A, kc, ks, Q⟩ := X
  intro ok hml H locs ls hP hS hl
  exact lv_ishl ok.1 ok.2.1 hd (k ok hml H locs ls hP hS hl)
theorem a_ishr {x y : Int32} (hd : decode cc pc = .ok (.ishr, 1)) (k : AW X own d cc (pc + 1) L (.int (x >>> (y &&& 31)) :: st) S) : AW X own d cc pc L (.int y :: .int x :: st) S := by
  obtain ⟨p, l, e, R, s, m, args, below, meth, c, w, A, kc, ks, Q⟩ := X
  intro ok hml H locs ls hP hS hl
  exact lv_ishr ok.1 ok.2.1 hd (k ok hml H locs ls hP hS hl)
theorem a_idiv {x y : Int32} (hd : decode cc pc = .ok (.idiv, 1)) (hne : ¬ y = 0) (k : AW X own d cc (pc + 1) L (.int (x / y) :: st) S) : AW X own d cc pc L (.int y :: .int x :: st) S := by
  obtain ⟨p, l, e, R, s, m, args, below, meth, c, w, A, kc, ks, Q⟩ := X
  intro ok hml H locs ls hP hS hl
  exact lv_idiv ok.1 ok.2.1 hd hne (k ok hml H locs ls hP hS hl)
theorem a_irem {x y : Int32} (hd : decode cc pc = .ok (.irem, 1)) (hne : ¬ y = 0) (k : AW X own d cc (pc + 1) L (.int (x - x / y * y) :: st) S) : AW X own d cc pc L (.int y :: .int x :: st) S := by
  obtain ⟨p, l, e, R, s, m, args, below, meth, c, w, A, kc, ks, Q⟩ := X
  intro ok hml H locs ls hP hS hl
  exact lv_irem ok.1 ok.2.1 hd hne (k ok hml H locs ls hP hS hl)
theorem a_ladd {x y : Int64} (hd : decode cc pc = .ok (.ladd, 1)) (k : AW X own d cc (pc + 1) L (.long (x + y) :: st) S) : AW X own d cc pc L (.long y :: .long x :: st) S := by
  obtain ⟨p, l, e, R, s, m, args, below, meth, c, w, A, kc, ks, Q⟩ := X
  intro ok hml H locs ls hP hS hl
  exact lv_ladd ok.1 ok.2.1 hd (k ok hml H locs ls hP hS hl)
theorem a_lsub {x y : Int64} (hd : decode cc pc = .ok (.lsub, 1)) (k : AW X own d cc (pc + 1) L (.long (x - y) :: st) S) : AW X own d cc pc L (.long y :: .long x :: st) S := by
  obtain ⟨p, l, e, R, s, m, args, below, meth, c, w, A, kc, ks, Q⟩ := X
  intro ok hml H locs ls hP hS hl
  exact lv_lsub ok.1 ok.2.1 hd (k ok hml H locs ls hP hS hl)
theorem a_lmul {x y : Int64} (hd : decode cc pc = .ok (.lmul, 1)) (k : AW X own d cc (pc + 1) L (.long (x * y) :: st) S) : AW X own d cc pc L (.long y :: .long x :: st) S := by
  obtain ⟨p, l, e, R, s, m, args, below, meth, c, w, A, kc, ks, Q⟩ := X
  intro ok hml H locs ls hP hS hl
  exact lv_lmul ok.1 ok.2.1 hd (k ok hml H locs ls hP hS hl)
theorem a_land {x y : Int64} (hd : decode cc pc = .ok (.land, 1)) (k : AW X own d cc (pc + 1) L (.long (x &&& y) :: st) S) : AW X own d cc pc L (.long y :: .long x :: st) S := by
  obtain ⟨p, l, e, R, s, m, args, below, meth, c, w, A, kc, ks, Q⟩ := X
  intro ok hml H locs ls hP hS hl
  exact lv_land ok.1 ok.2.1 hd (k ok hml H locs ls hP hS hl)
theorem a_lor {x y : Int64} (hd : decode cc pc = .ok (.lor, 1)) (k : AW X own d cc (pc + 1) L (.long (x ||| y) :: st) S) : AW X own d cc pc L (.long y :: .long x :: st) S := by
  obtain ⟨p, l, e, R, s, m, args, below, meth, c, w, A, kc, ks, Q⟩ := X
  intro ok hml H locs ls hP hS hl
  exact lv_lor ok.1 ok.2.1 hd (k ok hml H locs ls hP hS hl)
theorem a_lxor {x y : Int64} (hd : decode cc pc = .ok (.lxor, 1)) (k : AW X own d cc (pc + 1) L (.long (x ^^^ y) :: st) S) : AW X own d cc pc L (.long y :: .long x :: st) S := by
  obtain ⟨p, l, e, R, s, m, args, below, meth, c, w, A, kc, ks, Q⟩ := X
  intro ok hml H locs ls hP hS hl
  exact lv_lxor ok.1 ok.2.1 hd (k ok hml H locs ls hP hS hl)
theorem a_lshl {x : Int64} {y : Int32} (hd : decode cc pc = .ok (.lshl, 1)) (k : AW X own d cc (pc + 1) L (.long (x <<< (y.toInt64 &&& 63)) :: st) S) : AW X own d cc pc L (.int y :: .long x :: st) S := by
  obtain ⟨p, l, e, R, s, m, args, below, meth, c, w, A, kc, ks, Q⟩ := X
  intro ok hml H locs ls hP hS hl
  exact lv_lshl ok.1 ok.2.1 hd rfl (k ok hml H locs ls hP hS hl)
theorem a_lushr {x : Int64} {y : Int32} (hd : decode cc pc = .ok (.lushr, 1)) (k : AW X own d cc (pc + 1) L (.long ((x.toUInt64 >>> (y.toInt64.toUInt64 &&& Int64.toUInt64 63)).toInt64) :: st) S) : AW X own d cc pc L (.int y :: .long x :: st) S := by
  obtain ⟨p, l, e, R, s, m, args, below, meth, c, w, A, kc, ks, Q⟩ := X
  intro ok hml H locs ls hP hS hl
  exact lv_lushr ok.1 ok.2.1 hd rfl (k ok hml H locs ls hP hS hl)
theorem a_iushr {x y : Int32} (hd : decode cc pc = .ok (.iushr, 1)) (k : AW X own d cc (pc + 1) L (.int ((x.toUInt32 >>> (y.toUInt32 &&& Int32.toUInt32 31)).toInt32) :: st) S) : AW X own d cc pc L (.int y :: .int x :: st) S := by
  obtain ⟨p, l, e, R, s, m, args, below, meth, c, w, A, kc, ks, Q⟩ := X
  intro ok hml H locs ls hP hS hl
  exact lv_iushr ok.1 ok.2.1 hd rfl (k ok hml H locs ls hP hS hl)
theorem a_i2l {x : Int32} (hd : decode cc pc = .ok (.i2l, 1)) (k : AW X own d cc (pc + 1) L (.long (x.toInt64) :: st) S) : AW X own d cc pc L (.int x :: st) S := by
  obtain ⟨p, l, e, R, s, m, args, below, meth, c, w, A, kc, ks, Q⟩ := X
  intro ok hml H locs ls hP hS hl
  exact lv_i2l ok.1 ok.2.1 hd rfl (k ok hml H locs ls hP hS hl)
theorem a_l2i {x : Int64} (hd : decode cc pc = .ok (.l2i, 1)) (k : AW X own d cc (pc + 1) L (.int (x.toInt32) :: st) S) : AW X own d cc pc L (.long x :: st) S := by
  obtain ⟨p, l, e, R, s, m, args, below, meth, c, w, A, kc, ks, Q⟩ := X
  intro ok hml H locs ls hP hS hl
  exact lv_l2i ok.1 ok.2.1 hd rfl (k ok hml H locs ls hP hS hl)
theorem a_i2b {x : Int32} (hd : decode cc pc = .ok (.i2b, 1)) (k : AW X own d cc (pc + 1) L (.int (x.toInt8.toInt32) :: st) S) : AW X own d cc pc L (.int x :: st) S := by
  obtain ⟨p, l, e, R, s, m, args, below, meth, c, w, A, kc, ks, Q⟩ := X
  intro ok hml H locs ls hP hS hl
  exact lv_i2b ok.1 ok.2.1 hd rfl (k ok hml H locs ls hP hS hl)
theorem a_i2s {x : Int32} (hd : decode cc pc = .ok (.i2s, 1)) (k : AW X own d cc (pc + 1) L (.int (x.toInt16.toInt32) :: st) S) : AW X own d cc pc L (.int x :: st) S := by
  obtain ⟨p, l, e, R, s, m, args, below, meth, c, w, A, kc, ks, Q⟩ := X
  intro ok hml H locs ls hP hS hl
  exact lv_i2s ok.1 ok.2.1 hd rfl (k ok hml H locs ls hP hS hl)
theorem a_i2c {x : Int32} (hd : decode cc pc = .ok (.i2c, 1)) (k : AW X own d cc (pc + 1) L (.int ((x.toUInt32 % 65536).toInt32) :: st) S) : AW X own d cc pc L (.int x :: st) S := by
  obtain ⟨p, l, e, R, s, m, args, below, meth, c, w, A, kc, ks, Q⟩ := X
  intro ok hml H locs ls hP hS hl
  exact lv_i2c ok.1 ok.2.1 hd rfl (k ok hml H locs ls hP hS hl)
theorem a_lcmp {x y : Int64} (hd : decode cc pc = .ok (.lcmp, 1)) (k : AW X own d cc (pc + 1) L (.int (lg_cmp x y) :: st) S) : AW X own d cc pc L (.long y :: .long x :: st) S := by
  obtain ⟨p, l, e, R, s, m, args, below, meth, c, w, A, kc, ks, Q⟩ := X
  intro ok hml H locs ls hP hS hl
  exact W.lcmp ok.1 ok.2.1 hd (k ok hml H locs ls hP hS hl)
theorem a_dup {v : Value} (hd : decode cc pc = .ok (.dup, 1)) (hv : v.category = 1) (k : AW X own d cc (pc + 1) L (v :: v :: st) S) : AW X own d cc pc L (v :: st) S := by
  obtain ⟨p, l, e, R, s, m, args, below, meth, c, w, A, kc, ks, Q⟩ := X
  intro ok hml H locs ls hP hS hl
  exact lv_dup ok.1 ok.2.1 hd hv (k ok hml H locs ls hP hS hl)
theorem a_pop {v : Value} (hd : decode cc pc = .ok (.pop, 1)) (hv : v.category = 1) (k : AW X own d cc (pc + 1) L (st) S) : AW X own d cc pc L (v :: st) S := by
  obtain ⟨p, l, e, R, s, m, args, below, meth, c, w, A, kc, ks, Q⟩ := X
  intro ok hml H locs ls hP hS hl
  exact lv_pop ok.1 ok.2.1 hd hv (k ok hml H locs ls hP hS hl)
theorem a_dup2 {v u : Value} (hd : decode cc pc = .ok (.dup2, 1)) (hv : v.category = 1) (hu : u.category = 1) (k : AW X own d cc (pc + 1) L (v :: u :: v :: u :: st) S) : AW X own d cc pc L (v :: u :: st) S := by
  obtain ⟨p, l, e, R, s, m, args, below, meth, c, w, A, kc, ks, Q⟩ := X
  intro ok hml H locs ls hP hS hl
  exact lv_dup2_11 ok.1 ok.2.1 hd hv hu (k ok hml H locs ls hP hS hl)
theorem a_if_eq {x : Int32} {off : Int} {tgt : Nat} (hd : decode cc pc = .ok (.ifCond .eq off, 3)) (ht : (pc : Int) + off = (tgt : Int)) (kt : x = 0 → AW X own d cc tgt L st S) (kf : ¬ x = 0 → AW X own d cc (pc + 3) L st S) : AW X own d cc pc L (.int x :: st) S := by
  obtain ⟨p, l, e, R, s, m, args, below, meth, c, w, A, kc, ks, Q⟩ := X
  intro ok hml H locs ls hP hS hl
  exact lv_if_eq ok.1 ok.2.1 hd ht (fun h => kt h ok hml H locs ls hP hS hl) (fun h => kf h ok hml H locs ls hP hS hl)
theorem a_if_ne {x : Int32} {off : Int} {tgt : Nat} (hd : decode cc pc = .ok (.ifCond .ne off, 3)) (ht : (pc : Int) + off = (tgt : Int)) (kt : ¬ x = 0 → AW X own d cc tgt L st S) (kf : x = 0 → AW X own d cc (pc + 3) L st S) : AW X own d cc pc L (.int x :: st) S := by
  obtain ⟨p, l, e, R, s, m, args, below, meth, c, w, A, kc, ks, Q⟩ := X
  intro ok hml H locs ls hP hS hl
  exact lv_if_ne ok.1 ok.2.1 hd ht (fun h => kt h ok hml H locs ls hP hS hl) (fun h => kf h ok hml H locs ls hP hS hl)
theorem a_if_lt {x : Int32} {off : Int} {tgt : Nat} (hd : decode cc pc = .ok (.ifCond .lt off, 3)) (ht : (pc : Int) + off = (tgt : Int)) (kt : x < 0 → AW X own d cc tgt L st S) (kf : ¬ x < 0 → AW X own d cc (pc + 3) L st S) : AW X own d cc pc L (.int x :: st) S := by
  obtain ⟨p, l, e, R, s, m, args, below, meth, c, w, A, kc, ks, Q⟩ := X
  intro ok hml H locs ls hP hS hl
  exact lv_if_lt ok.1 ok.2.1 hd ht (fun h => kt h ok hml H locs ls hP hS hl) (fun h => kf h ok hml H locs ls hP hS hl)
theorem a_if_ge {x : Int32} {off : Int} {tgt : Nat} (hd : decode cc pc = .ok (.ifCond .ge off, 3)) (ht : (pc : Int) + off = (tgt : Int)) (kt : 0 ≤ x → AW X own d cc tgt L st S) (kf : ¬ 0 ≤ x → AW X own d cc (pc + 3) L st S) : AW X own d cc pc L (.int x :: st) S := by
  obtain ⟨p, l, e, R, s, m, args, below, meth, c, w, A, kc, ks, Q⟩ := X
  intro ok hml H locs ls hP hS hl
  exact lv_if_ge ok.1 ok.2.1 hd ht (fun h => kt h ok hml H locs ls hP hS hl) (fun h => kf h ok hml H locs ls hP hS hl)
theorem a_if_gt {x : Int32} {off : Int} {tgt : Nat} (hd : decode cc pc = .ok (.ifCond .gt off, 3)) (ht : (pc : Int) + off = (tgt : Int)) (kt : 0 < x → AW X own d cc tgt L st S) (kf : ¬ 0 < x → AW X own d cc (pc + 3) L st S) : AW X own d cc pc L (.int x :: st) S := by
  obtain ⟨p, l, e, R, s, m, args, below, meth, c, w, A, kc, ks, Q⟩ := X
  intro ok hml H locs ls hP hS hl
  exact lv_if_gt ok.1 ok.2.1 hd ht (fun h => kt h ok hml H locs ls hP hS hl) (fun h => kf h ok hml H locs ls hP hS hl)
theorem a_if_le {x : Int32} {off : Int} {tgt : Nat} (hd : decode cc pc = .ok (.ifCond .le off, 3)) (ht : (pc : Int) + off = (tgt : Int)) (kt : x ≤ 0 → AW X own d cc tgt L st S) (kf : ¬ x ≤ 0 → AW X own d cc (pc + 3) L st S) : AW X own d cc pc L (.int x :: st) S := by
  obtain ⟨p, l, e, R, s, m, args, below, meth, c, w, A, kc, ks, Q⟩ := X
  intro ok hml H locs ls hP hS hl
  exact lv_if_le ok.1 ok.2.1 hd ht (fun h => kt h ok hml H locs ls hP hS hl) (fun h => kf h ok hml H locs ls hP hS hl)
theorem a_icmp_eq {x y : Int32} {off : Int} {tgt : Nat} (hd : decode cc pc = .ok (.if_icmp .eq off, 3)) (ht : (pc : Int) + off = (tgt : Int)) (kt : x = y → AW X own d cc tgt L st S) (kf : ¬ x = y → AW X own d cc (pc + 3) L st S) : AW X own d cc pc L (.int y :: .int x :: st) S := by
  obtain ⟨p, l, e, R, s, m, args, below, meth, c, w, A, kc, ks, Q⟩ := X
  intro ok hml H locs ls hP hS hl
  exact lv_icmp_eq ok.1 ok.2.1 hd ht (fun h => kt h ok hml H locs ls hP hS hl) (fun h => kf h ok hml H locs ls hP hS hl)
theorem a_icmp_ne {x y : Int32} {off : Int} {tgt : Nat} (hd : decode cc pc = .ok (.if_icmp .ne off, 3)) (ht : (pc : Int) + off = (tgt : Int)) (kt : ¬ x = y → AW X own d cc tgt L st S) (kf : x = y → AW X own d cc (pc + 3) L st S) : AW X own d cc pc L (.int y :: .int x :: st) S := by
  obtain ⟨p, l, e, R, s, m, args, below, meth, c, w, A, kc, ks, Q⟩ := X
  intro ok hml H locs ls hP hS hl
  exact lv_icmp_ne ok.1 ok.2.1 hd ht (fun h => kt h ok hml H locs ls hP hS hl) (fun h => kf h ok hml H locs ls hP hS hl)
theorem a_icmp_lt {x y : Int32} {off : Int} {tgt : Nat} (hd : decode cc pc = .ok (.if_icmp .lt off, 3)) (ht : (pc : Int) + off = (tgt : Int)) (kt : x < y → AW X own d cc tgt L st S) (kf : ¬ x < y → AW X own d cc (pc + 3) L st S) : AW X own d cc pc L (.int y :: .int x :: st) S := by
  obtain ⟨p, l, e, R, s, m, args, below, meth, c, w, A, kc, ks, Q⟩ := X
  intro ok hml H locs ls hP hS hl
  exact lv_icmp_lt ok.1 ok.2.1 hd ht (fun h => kt h ok hml H locs ls hP hS hl) (fun h => kf h ok hml H locs ls hP hS hl)
theorem a_icmp_ge {x y : Int32} {off : Int} {tgt : Nat} (hd : decode cc pc = .ok (.if_icmp .ge off, 3)) (ht : (pc : Int) + off = (tgt : Int)) (kt : y ≤ x → AW X own d cc tgt L st S) (kf : ¬ y ≤ x → AW X own d cc (pc + 3) L st S) : AW X own d cc pc L (.int y :: .int x :: st) S := by
  obtain ⟨p, l, e, R, s, m, args, below, meth, c, w, A, kc, ks, Q⟩ := X
  intro ok hml H locs ls hP hS hl
  exact lv_icmp_ge ok.1 ok.2.1 hd ht (fun h => kt h ok hml H locs ls hP hS hl) (fun h => kf h ok hml H locs ls hP hS hl)
theorem a_icmp_gt {x y : Int32} {off : Int} {tgt : Nat} (hd : decode cc pc = .ok (.if_icmp .gt off, 3)) (ht : (pc : Int) + off = (tgt : Int)) (kt : y < x → AW X own d cc tgt L st S) (kf : ¬ y < x → AW X own d cc (pc + 3) L st S) : AW X own d cc pc L (.int y :: .int x :: st) S := by
  obtain ⟨p, l, e, R, s, m, args, below, meth, c, w, A, kc, ks, Q⟩ := X
  intro ok hml H locs ls hP hS hl
  exact lv_icmp_gt ok.1 ok.2.1 hd ht (fun h => kt h ok hml H locs ls hP hS hl) (fun h => kf h ok hml H locs ls hP hS hl)
theorem a_icmp_le {x y : Int32} {off : Int} {tgt : Nat} (hd : decode cc pc = .ok (.if_icmp .le off, 3)) (ht : (pc : Int) + off = (tgt : Int)) (kt : x ≤ y → AW X own d cc tgt L st S) (kf : ¬ x ≤ y → AW X own d cc (pc + 3) L st S) : AW X own d cc pc L (.int y :: .int x :: st) S := by
  obtain ⟨p, l, e, R, s, m, args, below, meth, c, w, A, kc, ks, Q⟩ := X
  intro ok hml H locs ls hP hS hl
  exact lv_icmp_le ok.1 ok.2.1 hd ht (fun h => kt h ok hml H locs ls hP hS hl) (fun h => kf h ok hml H locs ls hP hS hl)
theorem a_goto {off : Int} {tgt : Nat} (hd : decode cc pc = .ok (.goto off, 3)) (ht : (pc : Int) + off = (tgt : Int)) (k : AW X own d cc tgt L st S) : AW X own d cc pc L st S := by
  obtain ⟨p, l, e, R, s, m, args, below, meth, c, w, A, kc, ks, Q⟩ := X
  intro ok hml H locs ls hP hS hl
  exact lv_goto ok.1 ok.2.1 hd ht (k ok hml H locs ls hP hS hl)
theorem a_tabOut {dflt lo hi : Int} {offs : Array Int} {len : Nat} {x : Int32} {tgt : Nat} (hd : decode cc pc = .ok (.tableswitch dflt lo hi offs, len)) (h : x.toInt < lo ∨ hi < x.toInt) (ht : (pc : Int) + dflt = (tgt : Int)) (k : AW X own d cc tgt L st S) : AW X own d cc pc L (.int x :: st) S := by
  obtain ⟨p, l, e, R, s, m, args, below, meth, c, w, A, kc, ks, Q⟩ := X
  intro ok hml H locs ls hP hS hl
  exact lv_tableOut ok.1 ok.2.1 hd h ht (k ok hml H locs ls hP hS hl)
theorem a_tabIn {dflt lo hi : Int} {offs : Array Int} {len : Nat} {x : Int32} {off : Int} {tgt : Nat} (hd : decode cc pc = .ok (.tableswitch dflt lo hi offs, len)) (h1 : ¬ x.toInt < lo) (h2 : ¬ hi < x.toInt) (ho : offs[(x.toInt - lo).toNat]? = some off) (ht : (pc : Int) + off = (tgt : Int)) (k : AW X own d cc tgt L st S) : AW X own d cc pc L (.int x :: st) S := by
  obtain ⟨p, l, e, R, s, m, args, below, meth, c, w, A, kc, ks, Q⟩ := X
  intro ok hml H locs ls hP hS hl
  exact lv_tableIn ok.1 ok.2.1 hd h1 h2 ho ht (k ok hml H locs ls hP hS hl)
/-! fields and arrays -/
theorem a_get {k f ci idx : Nat} {fs : List (Option Nat)} {ty : FieldType} {fin : Bool} {o : Option Nat} (hf : gFL own idx ci f ty fin) (hs : gSH[k]? = some (.inl (ci, fs))) (ho : fs[f]? = some o) (hd : decode cc pc = .ok (.getfield idx, 3)) (kk : AW X own d cc (pc + 3) L (gfld (gw X) S k f o :: st) S) : AW X own d cc pc L (.ref (gad X k) :: st) S := by
  obtain ⟨p, l, e, R, s, m, args, below, meth, c, w, A, kc, ks, Q⟩ := X
  intro ok hml H locs ls hP hS hl
  obtain ⟨C, T, N, ty0, h1, h2, h3, h4, h5, h6, h7, h8, h9⟩ := hf
  refine va_get (D := w.1) (cl := vwCl) (ws := gC w S) (own := own) (ref := C) (fs := fs.mapIdx (gfld w S k)) ok.1 ok.2.1 ok.2.2.2.1 h3 ok.2.2.1 ok.2.2.2.2.1 hP k (gC_get hs) h1 f h2 (ok.2.2.2.1 _ h4) (fun x hx => by rw [h5] at hx; exact hx) ?_ hd (kk ok hml H locs ls hP hS hl)
  rw [List.getElem?_mapIdx, ho]
  rfl
theorem a_getI {k f ci idx : Nat} {fs : List (Option Nat)} {ty : FieldType} {fin : Bool} (hf : gFL own idx ci f ty fin) (hs : gSH[k]? = some (.inl (ci, fs))) (ho : fs[f]? = some none) (hd : decode cc pc = .ok (.getfield idx, 3)) (kk : AW X own d cc (pc + 3) L (.int (S.1 k f) :: st) S) : AW X own d cc pc L (.ref (gad X k) :: st) S := a_get hf hs ho hd kk
theorem a_getA {k f ci idx i : Nat} {fs : List (Option Nat)} {ty : FieldType} {fin : Bool} (hf : gFL own idx ci f ty fin) (hs : gSH[k]? = some (.inl (ci, fs))) (ho : fs[f]? = some (some i)) (hd : decode cc pc = .ok (.getfield idx, 3)) (kk : AW X own d cc (pc + 3) L (.ref (gad X i) :: st) S) : AW X own d cc pc L (.ref (gad X k) :: st) S := a_get hf hs ho hd kk
theorem mapIdx_set {w : gWd} {S : gSt} {k f : Nat} {fs : List (Option Nat)} {v : Int32} (ho : fs[f]? = some none) : (fs.mapIdx (gfld w S k)).set f (.int v) = fs.mapIdx (gfld w (gI S k f v) k) := by
  apply List.ext_getElem?
  intro i
  by_cases hi : i = f
  · subst hi
    have hl : i < (fs.mapIdx (gfld w S k)).length := by rw [List.length_mapIdx]; exact (List.getElem?_eq_some_iff.mp ho).1
    rw [List.getElem?_set_self hl, List.getElem?_mapIdx, ho]
    simp [gfld, gI, va_up, upd]
  · rw [List.getElem?_set_ne (fun e => hi e.symm), List.getElem?_mapIdx, List.getElem?_mapIdx]
    cases hq : fs[i]? with
    | none => rfl
    | some o =>
      cases o with
      | none => simp [gfld, gI, va_up, upd, hi]
      | some j => rfl
theorem gI_ne1 {S : gSt} {k j : Nat} {v : Int32} : ∀ i, i ≠ k → (gI S k j v).1 i = S.1 i := fun i h => va_up_n _ h _
theorem gI_ne2 {S : gSt} {k j : Nat} {v : Int32} : ∀ i, i ≠ k → (gI S k j v).2 i = S.2 i := fun _ _ => rfl
theorem gR_ne1 {S : gSt} {k : Nat} {f : Nat → Int32} : ∀ i, i ≠ k → (gR S k f).1 i = S.1 i := fun i h => va_up_n _ h _
theorem gR_ne2 {S : gSt} {k : Nat} {f : Nat → Int32} : ∀ i, i ≠ k → (gR S k f).2 i = S.2 i := fun _ _ => rfl
theorem gJ_ne1 {S : gSt} {k j : Nat} {v : Int64} : ∀ i, i ≠ k → (gJ S k j v).1 i = S.1 i := fun _ _ => rfl
theorem gJ_ne2 {S : gSt} {k j : Nat} {v : Int64} : ∀ i, i ≠ k → (gJ S k j v).2 i = S.2 i := fun i h => va_up_n _ h _
theorem gQ2_ne1 {S : gSt} {k : Nat} {f : Nat → Int64} : ∀ i, i ≠ k → (gQ2 S k f).1 i = S.1 i := fun _ _ => rfl
theorem gQ2_ne2 {S : gSt} {k : Nat} {f : Nat → Int64} : ∀ i, i ≠ k → (gQ2 S k f).2 i = S.2 i := fun i h => va_up_n _ h _
theorem a_putI {k f ci idx : Nat} {fs : List (Option Nat)} {ty : FieldType} {v : Int32} (hf : gFL own idx ci f ty false) (hs : gSH[k]? = some (.inl (ci, fs))) (ho : fs[f]? = some none) (hn : narrow ty (.int v) = .int v) (hfit : fits ty (.int v) = true) (hd : decode cc pc = .ok (.putfield idx, 3)) (kk : AW X own d cc (pc + 3) L st (gI S k f v)) : AW X own d cc pc L (.int v :: .ref (gad X k) :: st) S := by
  obtain ⟨p, l, e, R, s, m, args, below, meth, c, w, A, kc, ks, Q⟩ := X
  intro ok hml H locs ls hP hS hl
  obtain ⟨C, T, N, ty0, h1, h2, h3, h4, h5, h6, h7, h8, h9⟩ := hf
  refine va_put (D := w.1) (cl := vwCl) (ws := gC w S) (own := own) (ref := C) (fs := fs.mapIdx (gfld w S k)) (A := A) (v := .int v) (ty := ty) ok.1 ok.2.1 ok.2.2.2.1 h3 ty0 h7 h9 ok.2.2.1 ok.2.2.2.2.1 hP (gC_D ok.2.2.2.2.2.1 ok.2.2.2.2.2.2.1) hS k (gC_get hs) h1 f h2 (ok.2.2.2.1 _ h4) (fun x hx => by rw [h5] at hx; exact hx) h6 (by rw [h7 f h2, h8]) hn hfit (by rw [List.length_mapIdx]; exact (List.getElem?_eq_some_iff.mp ho).1) hd (fun H1 locs1 hP1 _ hS1 => ?_)
  rw [mapIdx_set ho] at hP1
  have e1 : (gC w S).set k (w.2.1 k, gE w (gI S k f v) k (.inl (ci, fs))) = gC w (gI S k f v) := gC_set hs gI_ne1 gI_ne2
  exact kk ok hml H1 locs1 ls (by rw [← e1]; exact hP1) hS1 hl
/-- an index within a row -/
def gin (i : Int32) (n : Nat) : Bool := !(decide (i < 0)) && decide (i.toNatClampNeg < n)
theorem gin_in {i : Int32} {n : Nat} (h : gin i n = true) : vp_in i n := by
  simp only [gin, Bool.and_eq_true, Bool.not_eq_true', decide_eq_false_iff_not, decide_eq_true_eq] at h
  exact fun q => q.elim h.1 (fun z => absurd h.2 (Nat.not_lt.mpr z))
theorem a_iald {k n b : Nat} {i : Int32} (hs : gSH[k]? = some (.inr (0, n, b))) (hi : gin i n = true) (hd : decode cc pc = .ok (.iaload, 1)) (kk : AW X own d cc (pc + 1) L (.int (S.1 k i.toNatClampNeg) :: st) S) : AW X own d cc pc L (.int i :: .ref (gad X k) :: st) S := by
  obtain ⟨p, l, e, R, s, m, args, below, meth, c, w, A, kc, ks, Q⟩ := X
  intro ok hml H locs ls hP hS hl
  exact va_iald (D := w.1) (cl := vwCl) (ws := gC w S) (tys := gTy w) ok.1 ok.2.1 ok.2.2.2.2.1 hP k 0 (gC_get hs) rfl (gin_in hi) hd (kk ok hml H locs ls hP hS hl)
theorem a_zald {k n b : Nat} {i : Int32} (hs : gSH[k]? = some (.inr (1, n, b))) (hi : gin i n = true) (hd : decode cc pc = .ok (.baload, 1)) (kk : AW X own d cc (pc + 1) L (.int (S.1 k i.toNatClampNeg) :: st) S) : AW X own d cc pc L (.int i :: .ref (gad X k) :: st) S := by
  obtain ⟨p, l, e, R, s, m, args, below, meth, c, w, A, kc, ks, Q⟩ := X
  intro ok hml H locs ls hP hS hl
  exact va_zald (D := w.1) (cl := vwCl) (ws := gC w S) (tys := gTy w) ok.1 ok.2.1 ok.2.2.2.2.1 hP k 1 (gC_get hs) rfl (gin_in hi) hd (kk ok hml H locs ls hP hS hl)
theorem a_lald {k n b : Nat} {i : Int32} (hs : gSH[k]? = some (.inr (2, n, b))) (hi : gin i n = true) (hd : decode cc pc = .ok (.laload, 1)) (kk : AW X own d cc (pc + 1) L (.long (S.2 k i.toNatClampNeg) :: st) S) : AW X own d cc pc L (.int i :: .ref (gad X k) :: st) S := by
  obtain ⟨p, l, e, R, s, m, args, below, meth, c, w, A, kc, ks, Q⟩ := X
  intro ok hml H locs ls hP hS hl
  exact va_lald (D := w.1) (cl := vwCl) (ws := gC w S) (tys := gTy w) ok.1 ok.2.1 ok.2.2.2.2.1 hP k 2 (gC_get hs) rfl (gin_in hi) hd (kk ok hml H locs ls hP hS hl)
theorem a_aald {k n b : Nat} {i : Int32} (hs : gSH[k]? = some (.inr (3, n, b))) (hi : gin i n = true) (hd : decode cc pc = .ok (.aaload, 1)) (kk : AW X own d cc (pc + 1) L (.ref (gad X (b + i.toNatClampNeg)) :: st) S) : AW X own d cc pc L (.int i :: .ref (gad X k) :: st) S := by
  obtain ⟨p, l, e, R, s, m, args, below, meth, c, w, A, kc, ks, Q⟩ := X
  intro ok hml H locs ls hP hS hl
  exact va_aldq (D := w.1) (cl := vwCl) (ws := gC w S) (tys := gTy w) ok.1 ok.2.1 ok.2.2.2.2.1 hP k 3 (gC_get hs) rfl (gin_in hi) hd (kk ok hml H locs ls hP hS hl)
theorem a_alen {k t n b : Nat} {v : Int32} (hs : gSH[k]? = some (.inr (t, n, b))) (ht : t < 4) (hv : Int32.ofNat n = v) (hd : decode cc pc = .ok (.arraylength, 1)) (kk : AW X own d cc (pc + 1) L (.int v :: st) S) : AW X own d cc pc L (.ref (gad X k) :: st) S := by
  obtain ⟨p, l, e, R, s, m, args, below, meth, c, w, A, kc, ks, Q⟩ := X
  intro ok hml H locs ls hP hS hl
  rcases (show t = 0 ∨ t = 1 ∨ t = 2 ∨ t = 3 by omega) with rfl | rfl | rfl | rfl
  · exact va_alen (D := w.1) (cl := vwCl) (ws := gC w S) (tys := gTy w) ok.1 ok.2.1 ok.2.2.2.2.1 hP k 0 (gC_get hs) rfl hv hd (kk ok hml H locs ls hP hS hl)
  · exact va_alen (D := w.1) (cl := vwCl) (ws := gC w S) (tys := gTy w) ok.1 ok.2.1 ok.2.2.2.2.1 hP k 1 (gC_get hs) rfl hv hd (kk ok hml H locs ls hP hS hl)
  · exact va_alen (D := w.1) (cl := vwCl) (ws := gC w S) (tys := gTy w) ok.1 ok.2.1 ok.2.2.2.2.1 hP k 2 (gC_get hs) rfl hv hd (kk ok hml H locs ls hP hS hl)
  · exact va_alen (D := w.1) (cl := vwCl) (ws := gC w S) (tys := gTy w) ok.1 ok.2.1 ok.2.2.2.2.1 hP k 3 (gC_get hs) rfl hv hd (kk ok hml H locs ls hP hS hl)
theorem a_iast {k n b : Nat} {i x : Int32} (hs : gSH[k]? = some (.inr (0, n, b))) (hi : gin i n = true) (hd : decode cc pc = .ok (.iastore, 1)) (kk : AW X own d cc (pc + 1) L st (gI S k i.toNatClampNeg x)) : AW X own d cc pc L (.int x :: .int i :: .ref (gad X k) :: st) S := by
  obtain ⟨p, l, e, R, s, m, args, below, meth, c, w, A, kc, ks, Q⟩ := X
  intro ok hml H locs ls hP hS hl
  refine va_iast (D := w.1) (cl := vwCl) (ws := gC w S) (tys := gTy w) (A := A) ok.1 ok.2.1 ok.2.2.2.2.1 hP (gC_D ok.2.2.2.2.2.1 ok.2.2.2.2.2.2.1) hS k 0 (gC_get hs) rfl (gin_in hi) hd (fun H1 locs1 hP1 _ hS1 => ?_)
  have e1 : (gC w S).set k (w.2.1 k, gE w (gI S k i.toNatClampNeg x) k (.inr (0, n, b))) = gC w (gI S k i.toNatClampNeg x) := gC_set hs gI_ne1 gI_ne2
  refine kk ok hml H1 locs1 ls ?_ hS1 hl
  rw [← e1]
  simpa only [gE, gI, va_up_s] using hP1
theorem a_zast {k n b : Nat} {i x : Int32} (hs : gSH[k]? = some (.inr (1, n, b))) (hi : gin i n = true) (hx : vp_nar .boolean x = x) (hd : decode cc pc = .ok (.bastore, 1)) (kk : AW X own d cc (pc + 1) L st (gI S k i.toNatClampNeg x)) : AW X own d cc pc L (.int x :: .int i :: .ref (gad X k) :: st) S := by
  obtain ⟨p, l, e, R, s, m, args, below, meth, c, w, A, kc, ks, Q⟩ := X
  intro ok hml H locs ls hP hS hl
  refine va_zast (D := w.1) (cl := vwCl) (ws := gC w S) (tys := gTy w) (A := A) ok.1 ok.2.1 ok.2.2.2.2.1 hP (gC_D ok.2.2.2.2.2.1 ok.2.2.2.2.2.2.1) hS k 1 (gC_get hs) rfl (gin_in hi) hd (fun H1 locs1 hP1 _ hS1 => ?_)
  have e1 : (gC w S).set k (w.2.1 k, gE w (gI S k i.toNatClampNeg x) k (.inr (1, n, b))) = gC w (gI S k i.toNatClampNeg x) := gC_set hs gI_ne1 gI_ne2
  refine kk ok hml H1 locs1 ls ?_ hS1 hl
  rw [← e1]
  rw [hx] at hP1
  simpa only [gE, gI, va_up_s] using hP1
theorem a_last {k n b : Nat} {i : Int32} {x : Int64} (hs : gSH[k]? = some (.inr (2, n, b))) (hi : gin i n = true) (hd : decode cc pc = .ok (.lastore, 1)) (kk : AW X own d cc (pc + 1) L st (gJ S k i.toNatClampNeg x)) : AW X own d cc pc L (.long x :: .int i :: .ref (gad X k) :: st) S := by
  obtain ⟨p, l, e, R, s, m, args, below, meth, c, w, A, kc, ks, Q⟩ := X
  intro ok hml H locs ls hP hS hl
  refine va_last (D := w.1) (cl := vwCl) (ws := gC w S) (tys := gTy w) (A := A) ok.1 ok.2.1 ok.2.2.2.2.1 hP (gC_D ok.2.2.2.2.2.1 ok.2.2.2.2.2.2.1) hS k 2 (gC_get hs) rfl (gin_in hi) hd (fun H1 locs1 hP1 _ hS1 => ?_)
  have e1 : (gC w S).set k (w.2.1 k, gE w (gJ S k i.toNatClampNeg x) k (.inr (2, n, b))) = gC w (gJ S k i.toNatClampNeg x) := gC_set hs gJ_ne1 gJ_ne2
  refine kk ok hml H1 locs1 ls ?_ hS1 hl
  rw [← e1]
  simpa only [gE, gJ, va_up_s] using hP1
end Rows
