def gNestC : List Cond := [.methodLinkNest RX6 11 yX0_init "FootIsle", .methodLinkNest RX0 32 yX1_init "FootIsle", .methodLinkNest RX6 25 yX4_init "FootIsle", .methodLinkNest RX6 38 yX3_init "FootIsle", .methodLinkNest RX6 45 yX5_init "FootIsle", .methodLinkNest RX6 50 yX2_init "FootIsle"]
theorem gNestC_on : ∀ q ∈ gNestC, q.onTables = true := by
  intro q hq
  simp only [gNestC, List.mem_cons, List.not_mem_nil, or_false] at hq
  rcases hq with rfl | rfl | rfl | rfl | rfl | rfl <;> rfl
theorem gNestC_warm : ∀ q ∈ gNestC, ∀ {s U : State}, s.WarmedH U.vm → va_Nw q s → va_Nw q U := by
  intro q hq s U hW h
  simp only [gNestC, List.mem_cons, List.not_mem_nil, or_false] at hq
  rcases hq with rfl | rfl | rfl | rfl | rfl | rfl <;> exact va_Nw.warmM hW h
theorem gNestC_tbl : ∀ q ∈ gNestC, q ∈ lw_tbl := by
  intro q hq
  simp only [gNestC, List.mem_cons, List.not_mem_nil, or_false] at hq
  rcases hq with rfl | rfl | rfl | rfl | rfl | rfl
  · exact List.mem_of_getElem? (i := 62) (by decide +kernel)
  · exact List.mem_of_getElem? (i := 68) (by decide +kernel)
  · exact List.mem_of_getElem? (i := 152) (by decide +kernel)
  · exact List.mem_of_getElem? (i := 195) (by decide +kernel)
  · exact List.mem_of_getElem? (i := 218) (by decide +kernel)
  · exact List.mem_of_getElem? (i := 239) (by decide +kernel)
theorem mcX6_11 : Cond.methodLinkNest RX6 11 yX0_init "FootIsle" ∈ gNestC := List.mem_of_getElem? (i := 0) rfl
theorem mcX0_32 : Cond.methodLinkNest RX0 32 yX1_init "FootIsle" ∈ gNestC := List.mem_of_getElem? (i := 1) rfl
theorem mcX6_25 : Cond.methodLinkNest RX6 25 yX4_init "FootIsle" ∈ gNestC := List.mem_of_getElem? (i := 2) rfl
theorem mcX6_38 : Cond.methodLinkNest RX6 38 yX3_init "FootIsle" ∈ gNestC := List.mem_of_getElem? (i := 3) rfl
theorem mcX6_45 : Cond.methodLinkNest RX6 45 yX5_init "FootIsle" ∈ gNestC := List.mem_of_getElem? (i := 4) rfl
theorem mcX6_50 : Cond.methodLinkNest RX6 50 yX2_init "FootIsle" ∈ gNestC := List.mem_of_getElem? (i := 5) rfl
theorem ini_X6 : Cond.initialized RX6 ∈ gALL := gmem (i := 35) (by decide +kernel) rfl
theorem ini_X0 : Cond.initialized RX0 ∈ gALL := gmem (i := 36) (by decide +kernel) rfl
theorem ini_X1 : Cond.initialized RX1 ∈ gALL := gmem (i := 37) (by decide +kernel) rfl
theorem ini_X4 : Cond.initialized RX4 ∈ gALL := gmem (i := 38) (by decide +kernel) rfl
theorem ini_X3 : Cond.initialized RX3 ∈ gALL := gmem (i := 39) (by decide +kernel) rfl
theorem ini_X5 : Cond.initialized RX5 ∈ gALL := gmem (i := 40) (by decide +kernel) rfl
theorem ini_X2 : Cond.initialized RX2 ∈ gALL := gmem (i := 41) (by decide +kernel) rfl
theorem ini_X7 : Cond.initialized RX7 ∈ gALL := gmem (i := 42) (by decide +kernel) rfl
theorem clL_7 : Cond.classLink RL 7 RX6 ∈ gALL := gmem (i := 52) (by decide +kernel) rfl
theorem in_X6 : Cond.instantiable RX6 7 ∈ gALL := gmem (i := 53) (by decide +kernel) rfl
theorem im_yX6_init : Cond.instanceMethod yX6_init ∈ gALL := gmem (i := 55) (by decide +kernel) rfl
theorem moX6_3 : Cond.methodLink RX6 3 Lib.objectInit ∈ gALL := gmem (i := 57) (by decide +kernel) rfl
theorem clX6_9 : Cond.classLink RX6 9 RX0 ∈ gALL := gmem (i := 60) (by decide +kernel) rfl
theorem in_X0 : Cond.instantiable RX0 10 ∈ gALL := gmem (i := 61) (by decide +kernel) rfl
theorem im_yX0_init : Cond.instanceMethod yX0_init ∈ gALL := gmem (i := 63) (by decide +kernel) rfl
theorem moX0_3 : Cond.methodLink RX0 3 Lib.objectInit ∈ gALL := gmem (i := 65) (by decide +kernel) rfl
theorem clX0_30 : Cond.classLink RX0 30 RX1 ∈ gALL := gmem (i := 66) (by decide +kernel) rfl
theorem in_X1 : Cond.instantiable RX1 7 ∈ gALL := gmem (i := 67) (by decide +kernel) rfl
theorem im_yX1_init : Cond.instanceMethod yX1_init ∈ gALL := gmem (i := 69) (by decide +kernel) rfl
theorem moX1_3 : Cond.methodLink RX1 3 Lib.objectInit ∈ gALL := gmem (i := 71) (by decide +kernel) rfl
theorem ac_int : Cond.arrayClass .int ∈ gALL := gmem (i := 95) (by decide +kernel) rfl
theorem clX6_23 : Cond.classLink RX6 23 RX4 ∈ gALL := gmem (i := 150) (by decide +kernel) rfl
theorem in_X4 : Cond.instantiable RX4 9 ∈ gALL := gmem (i := 151) (by decide +kernel) rfl
theorem im_yX4_init : Cond.instanceMethod yX4_init ∈ gALL := gmem (i := 153) (by decide +kernel) rfl
theorem moX4_3 : Cond.methodLink RX4 3 Lib.objectInit ∈ gALL := gmem (i := 155) (by decide +kernel) rfl
theorem clX6_30 : Cond.classLink RX6 30 RX2 ∈ gALL := gmem (i := 191) (by decide +kernel) rfl
theorem clX6_36 : Cond.classLink RX6 36 RX3 ∈ gALL := gmem (i := 193) (by decide +kernel) rfl
theorem in_X3 : Cond.instantiable RX3 4 ∈ gALL := gmem (i := 194) (by decide +kernel) rfl
theorem im_yX3_init : Cond.instanceMethod yX3_init ∈ gALL := gmem (i := 196) (by decide +kernel) rfl
theorem moX3_3 : Cond.methodLink RX3 3 Lib.objectInit ∈ gALL := gmem (i := 198) (by decide +kernel) rfl
theorem clX6_43 : Cond.classLink RX6 43 RX5 ∈ gALL := gmem (i := 216) (by decide +kernel) rfl
theorem in_X5 : Cond.instantiable RX5 5 ∈ gALL := gmem (i := 217) (by decide +kernel) rfl
theorem im_yX5_init : Cond.instanceMethod yX5_init ∈ gALL := gmem (i := 219) (by decide +kernel) rfl
theorem moX5_3 : Cond.methodLink RX5 3 Lib.objectInit ∈ gALL := gmem (i := 221) (by decide +kernel) rfl
theorem in_X2 : Cond.instantiable RX2 3 ∈ gALL := gmem (i := 238) (by decide +kernel) rfl
theorem im_yX2_init : Cond.instanceMethod yX2_init ∈ gALL := gmem (i := 240) (by decide +kernel) rfl
theorem moX2_3 : Cond.methodLink RX2 3 Lib.objectInit ∈ gALL := gmem (i := 242) (by decide +kernel) rfl
theorem ac_long : Cond.arrayClass .long ∈ gALL := gmem (i := 255) (by decide +kernel) rfl
theorem ac_byte : Cond.arrayClass .byte ∈ gALL := gmem (i := 501) (by decide +kernel) rfl
theorem clL_10 : Cond.classLink RL 10 RX7 ∈ gALL := gmem (i := 753) (by decide +kernel) rfl
theorem in_X7 : Cond.instantiable RX7 19 ∈ gALL := gmem (i := 754) (by decide +kernel) rfl
theorem im_yX7_init : Cond.instanceMethod yX7_init ∈ gALL := gmem (i := 756) (by decide +kernel) rfl
theorem moX7_1 : Cond.methodLink RX7 1 Lib.objectInit ∈ gALL := gmem (i := 758) (by decide +kernel) rfl
theorem ac_boolean : Cond.arrayClass .boolean ∈ gALL := gmem (i := 817) (by decide +kernel) rfl
theorem mo_i : Cond.instanceMethod Lib.objectInit ∈ gALL := gmem (i := 58) (by decide +kernel) rfl
theorem mo_c : Cond.code Lib.objectInit ⟨#[0xb1]⟩ 1 none ∈ gALL := gmem (i := 59) (by decide +kernel) rfl
def gOKc (p : Program) (R : Room) (s : State) (m : MethodId) (args : Array Value) (meth : Method) (c : Code) (w : gWd) (A : Nat → Prop) (own : String) (d : Nat) (cc : ByteArray) (mc ms : Nat) : Prop :=
  p.tables.exec = Jvm.exec ∧ c.code = cc ∧ s.vm.findClass own = some m.cls ∧ (∀ q ∈ gALL, q.before args s = true) ∧ va_K w.1 vwCl (gTy w) s ∧ (∀ q, s.heap.size ≤ q → A q) ∧ (∀ q ∈ gNestC, va_Nw q s) ∧ meth.locks = false ∧ (own = R_law ∨ meth.name = "<init>") ∧ (d ≤ R.frames ∧ 40 * d ≤ R.locals ∧ mc ≤ R.cells ∧ ms ≤ R.slots) ∧ va_AO "FootIsle$Sheet" s
def AC (X : gX) (own : String) (d : Nat) (cc : ByteArray) (mc ms pc : Nat) (L : List (Option Value)) (st : List Value) (ws : va_W) (kc ks : Nat) : Prop :=
  match X with
  | (p, l, e, R, s, m, args, below, meth, c, w, A, _, _, Q) => gOKc p R s m args meth c w A own d cc mc ms → c.maxLocals = L.length → ∀ (H : Heap) (locs : List Loc) (ls : Array Slot), va_P w.1 vwCl ws H → va_D A ws → va_S A s.heap H locs → lh ls L → W p l e R s m args below meth c H locs kc ks Q (F0 m pc ls st)
def gBk (w : gWd) (sz h0 ci : Nat) (fs : List Value) (U : State) : Prop := U.heap.size = sz ∧ va_P w.1 vwCl [(h0, .inr (ci, fs))] U.heap ∧ va_K w.1 vwCl (gTy w) U ∧ (∀ q ∈ gNestC, va_Nw q U) ∧ va_AO "FootIsle$Sheet" U
def gRk (d mc ms : Nat) : Room := { frames := d, cells := mc, slots := ms, locals := 40 * d }
def gQk (w : gWd) (sz h0 ci : Nat) (fs : List Value) (post : gWd → Nat → (Nat → Nat) → va_W) : Array Value → State → Outcome → State → Prop := va_Qv (fun _ : Nat → Nat => True) (fun q t => va_P w.1 vwCl (post w h0 q) t.heap ∧ va_D (va_A [(h0, .inr (ci, fs))] sz) (post w h0 q)) (va_A [(h0, .inr (ci, fs))] sz)
/-- a constructor's contract: its object's cell, its fields as they are born, becomes the cells 'post' -/
def gCK (y : MethodName) (cc : ByteArray) (mL d mc ms ci : Nat) (fs : List Value) (post : gWd → Nat → (Nat → Nat) → va_W) : Prop :=
  ∀ (l : Launch) (w : gWd) (sz h0 : Nat), Met l y (gWs y cc mL none) (gRk d mc ms) (va_Pc [.ref h0] (gBk w sz h0 ci fs)) (gQk w sz h0 ci fs post) mc ms (va_A [(h0, .inr (ci, fs))] sz)
def gPostK (X : gX) (mc ms h0 ci sz : Nat) (fs : List Value) (post : gWd → Nat → (Nat → Nat) → va_W) : Prop :=
  match X with
  | (p, l, e, R, s, m, args, below, meth, c, w, A, kc, ks, Q) => meth.sig.returnType = none ∧ A = va_A [(h0, .inr (ci, fs))] sz ∧ Q = MQ below (gQk w sz h0 ci fs post) args s mc ms (va_A [(h0, .inr (ci, fs))] sz)
theorem gEnterK {y : MethodName} {cc : ByteArray} {mL d mc ms ci : Nat} {fs : List Value} {post : gWd → Nat → (Nat → Nat) → va_W} (hy : plainName y.cls = true) (hi : y.name = "<init>") (hm : 1 ≤ mL)
    (h : ∀ (X : gX) (h0 sz : Nat), gPostK X mc ms h0 ci sz fs post → AC X y.cls d cc mc ms 0 (some (.ref h0) :: List.replicate (mL - 1) none) [] [(h0, .inr (ci, fs))] 0 0) : gCK y cc mL d mc ms ci fs post := by
  intro l w sz h0
  refine Met.ofW (cc := cc) (maxL := mL) (ret := none) hy rfl ?_
  intro p e s m args below meth c s₁ B hml hv
  obtain ⟨rfl, hsz, hP, hK, hN, hG⟩ := hv
  have hts := atoms_spec (ws := gWs y cc mL none) B.pre
  have hl := lv_entry [.ref h0] (n := mL) hm
  rw [lg_entry_eq]
  generalize (lg_sl [Value.ref h0] ++ List.replicate (mL - (lg_sl [Value.ref h0]).length) Slot.unset).toArray = ls at hl ⊢
  have hD : va_D (va_A [(h0, .inr (ci, fs))] sz) [(h0, .inr (ci, fs))] := by
    refine ⟨fun i j p q hp hq _ => ?_, fun k q hq => Or.inl ⟨k, q.2, hq⟩⟩
    have h1 : i < 1 := (List.getElem?_eq_some_iff.mp hp).1
    have h2 : j < 1 := (List.getElem?_eq_some_iff.mp hq).1
    omega
  refine h (p, l, e, (headSpec (gWs y cc mL none) (gRk d mc ms)).room, s, m, [Value.ref h0].toArray, below, meth, c, w, va_A [(h0, .inr (ci, fs))] sz, 0, 0, MQ below (gQk w sz h0 ci fs post) [Value.ref h0].toArray s mc ms (va_A [(h0, .inr (ci, fs))] sz)) h0 sz ⟨B.returns, rfl, rfl⟩ ⟨B.exec, B.bytes, findClass_of_methodNamed B.named, fun q hq => hts q (List.mem_cons_of_mem _ hq), hK, fun q hq => Or.inr (by rw [← hsz]; exact hq), hN, B.notSynchronized, Or.inr ((name_of_methodNamed B.named B.method).1.trans hi), ⟨Nat.le_refl _, Nat.le_refl _, Nat.le_refl _, Nat.le_refl _⟩, hG⟩ (by rw [List.length_cons, List.length_replicate]; omega) s.heap [] ls hP hD va_S.rf ?_
  have e1 : (some (Value.ref h0) :: List.replicate (mL - 1) none).length = mL := by rw [List.length_cons, List.length_replicate]; omega
  refine ⟨by rw [e1]; exact hl.1, hl.2.1, ?_⟩
  rintro ⟨j, u⟩ hq
  obtain ⟨-, hq⟩ := lP_mem.mp hq
  match j, hq with
  | 0, hq => cases hq; exact hl.2.2 (0, .ref h0) List.mem_cons_self
  | j + 1, hq =>
    rw [Nat.sub_zero, List.getElem?_cons_succ, List.getElem?_replicate] at hq
    split at hq <;> cases hq
theorem gArr_eq {s : State} {w : gWd} {t : Nat} {cA : ClassId} {ty : FieldType} (hK : va_K w.1 vwCl (gTy w ++ [(cA, ty)]) s) (ht : (gTy w)[t]? = some (w.2.2.1 t, ty)) : cA = w.2.2.1 t := by
  have hl : t < 4 := by have := (List.getElem?_eq_some_iff.mp ht).1; exact this
  have h1 := (hK.2 t (w.2.2.1 t, ty) (by rw [List.getElem?_append_left (by exact hl)]; exact ht)).2
  have h2 := (hK.2 4 (cA, ty) (by rw [List.getElem?_append_right (by show (gTy w).length ≤ 4; exact Nat.le_refl 4)]; rfl)).2
  cases ty with
  | object C =>
    obtain ⟨_, _, _, _, _, e1⟩ := h1
    obtain ⟨_, _, _, _, _, e2⟩ := h2
    exact Option.some.inj (e2.symm.trans e1)
  | _ => exact Option.some.inj (h2.symm.trans h1)
section RowsC
variable {X : gX} {own : String} {d mc ms : Nat} {cc : ByteArray} {pc : Nat} {L : List (Option Value)} {st : List Value} {ws ws' : va_W} {kc ks : Nat}
theorem c_iconst {n : Int} {v : Int32} (hd : decode cc pc = .ok (.iconst n, 1)) (hv : Int32.ofInt n = v) (k : AC X own d cc mc ms (pc + 1) L (.int v :: st) ws kc ks) : AC X own d cc mc ms (pc) L (st) ws kc ks := by
  obtain ⟨p, l, e, R, s, m, args, below, meth, c, w, A, _, _, Q⟩ := X
  intro ok hml H locs ls hP hD hS hl
  exact lv_iconst ok.1 ok.2.1 hd hv (k ok hml H locs ls hP hD hS hl)
theorem c_bipush {n : Int} {v : Int32} (hd : decode cc pc = .ok (.bipush n, 2)) (hv : (Int8.ofInt n).toInt32 = v) (k : AC X own d cc mc ms (pc + 2) L (.int v :: st) ws kc ks) : AC X own d cc mc ms (pc) L (st) ws kc ks := by
  obtain ⟨p, l, e, R, s, m, args, below, meth, c, w, A, _, _, Q⟩ := X
  intro ok hml H locs ls hP hD hS hl
  exact lv_bipush ok.1 ok.2.1 hd hv (k ok hml H locs ls hP hD hS hl)
theorem c_sipush {n : Int} {v : Int32} (hd : decode cc pc = .ok (.sipush n, 3)) (hv : (Int16.ofInt n).toInt32 = v) (k : AC X own d cc mc ms (pc + 3) L (.int v :: st) ws kc ks) : AC X own d cc mc ms (pc) L (st) ws kc ks := by
  obtain ⟨p, l, e, R, s, m, args, below, meth, c, w, A, _, _, Q⟩ := X
  intro ok hml H locs ls hP hD hS hl
  exact lv_sipush ok.1 ok.2.1 hd hv (k ok hml H locs ls hP hD hS hl)
theorem c_iloadn {q : Fin 4} {i : Nat} {x : Int32} (hd : decode cc pc = .ok (.iload_n q, 1)) (hi : (q : Nat) = i) (hx : L[i]? = some (some (.int x))) (k : AC X own d cc mc ms (pc + 1) L (.int x :: st) ws kc ks) : AC X own d cc mc ms (pc) L (st) ws kc ks := by
  obtain ⟨p, l, e, R, s, m, args, below, meth, c, w, A, _, _, Q⟩ := X
  intro ok hml H locs ls hP hD hS hl
  exact lv_iload_n ok.1 ok.2.1 hd hi (lh_at hl hx) (k ok hml H locs ls hP hD hS hl)
theorem c_aloadn {q : Fin 4} {i x : Nat} (hd : decode cc pc = .ok (.aload_n q, 1)) (hi : (q : Nat) = i) (hx : L[i]? = some (some (.ref x))) (k : AC X own d cc mc ms (pc + 1) L (.ref x :: st) ws kc ks) : AC X own d cc mc ms (pc) L (st) ws kc ks := by
  obtain ⟨p, l, e, R, s, m, args, below, meth, c, w, A, _, _, Q⟩ := X
  intro ok hml H locs ls hP hD hS hl
  exact lv_aload_n ok.1 ok.2.1 hd hi (lh_at hl hx) (k ok hml H locs ls hP hD hS hl)
theorem c_dup {v : Value} (hd : decode cc pc = .ok (.dup, 1)) (hv : v.category = 1) (k : AC X own d cc mc ms (pc + 1) L (v :: v :: st) ws kc ks) : AC X own d cc mc ms (pc) L (v :: st) ws kc ks := by
  obtain ⟨p, l, e, R, s, m, args, below, meth, c, w, A, _, _, Q⟩ := X
  intro ok hml H locs ls hP hD hS hl
  exact lv_dup ok.1 ok.2.1 hd hv (k ok hml H locs ls hP hD hS hl)
theorem c_istoren {q : Fin 4} {i : Nat} {x : Int32} {L' : List (Option Value)} (hd : decode cc pc = .ok (.istore_n q, 1)) (hi : (q : Nat) = i) (hn : i < L.length) (hk : lOk L i = true) (he : L.set i (some (.int x)) = L') (k : AC X own d cc mc ms (pc + 1) L' (st) ws kc ks) : AC X own d cc mc ms (pc) L (.int x :: st) ws kc ks := by
  subst he
  obtain ⟨p, l, e, R, s, m, args, below, meth, c, w, A, _, _, Q⟩ := X
  intro ok hml H locs ls hP hD hS hl
  exact lv_istore_n ok.1 ok.2.1 hd hi hl hn rfl (fun ls' hl' => k ok (by rw [List.length_set]; exact hml) H locs ls' hP hD hS (lh_set1 hk hl'))
theorem c_astoren {q : Fin 4} {i x : Nat} {L' : List (Option Value)} (hd : decode cc pc = .ok (.astore_n q, 1)) (hi : (q : Nat) = i) (hn : i < L.length) (hk : lOk L i = true) (he : L.set i (some (.ref x)) = L') (k : AC X own d cc mc ms (pc + 1) L' (st) ws kc ks) : AC X own d cc mc ms (pc) L (.ref x :: st) ws kc ks := by
  subst he
  obtain ⟨p, l, e, R, s, m, args, below, meth, c, w, A, _, _, Q⟩ := X
  intro ok hml H locs ls hP hD hS hl
  exact lv_astore_n ok.1 ok.2.1 hd hi hl hn rfl (fun ls' hl' => k ok (by rw [List.length_set]; exact hml) H locs ls' hP hD hS (lh_set1 hk hl'))
theorem c_iinc {i : Nat} {n : Int} {x v : Int32} {L' : List (Option Value)} (hd : decode cc pc = .ok (.iinc i n, 3)) (hx : L[i]? = some (some (.int x))) (hv : x + Int32.ofInt n = v) (hn : i < L.length) (hk : lOk L i = true) (he : L.set i (some (.int v)) = L') (k : AC X own d cc mc ms (pc + 3) L' (st) ws kc ks) : AC X own d cc mc ms (pc) L (st) ws kc ks := by
  subst he
  obtain ⟨p, l, e, R, s, m, args, below, meth, c, w, A, _, _, Q⟩ := X
  intro ok hml H locs ls hP hD hS hl
  have hm : (i, Value.int x) ∈ lP 0 L := lP_mem.mpr ⟨Nat.zero_le _, hx⟩
  obtain ⟨q, hq⟩ := List.mem_iff_getElem?.mp hm
  exact lv_iinc ok.1 ok.2.1 hd hl hq hv hn rfl (fun ls' hl' => k ok (by rw [List.length_set]; exact hml) H locs ls' hP hD hS (lh_set1 hk hl'))
theorem c_icmp_ge {x y : Int32} {off : Int} {tgt : Nat} (hd : decode cc pc = .ok (.if_icmp .ge off, 3)) (ht : (pc : Int) + off = (tgt : Int)) (kt : y ≤ x → AC X own d cc mc ms (tgt) L (st) ws kc ks) (kf : ¬ y ≤ x → AC X own d cc mc ms (pc + 3) L (st) ws kc ks) : AC X own d cc mc ms (pc) L (.int y :: .int x :: st) ws kc ks := by
  obtain ⟨p, l, e, R, s, m, args, below, meth, c, w, A, _, _, Q⟩ := X
  intro ok hml H locs ls hP hD hS hl
  exact lv_icmp_ge ok.1 ok.2.1 hd ht (fun h => kt h ok hml H locs ls hP hD hS hl) (fun h => kf h ok hml H locs ls hP hD hS hl)
theorem c_goto {off : Int} {tgt : Nat} (hd : decode cc pc = .ok (.goto off, 3)) (ht : (pc : Int) + off = (tgt : Int)) (k : AC X own d cc mc ms (tgt) L (st) ws kc ks) : AC X own d cc mc ms (pc) L (st) ws kc ks := by
  obtain ⟨p, l, e, R, s, m, args, below, meth, c, w, A, _, _, Q⟩ := X
  intro ok hml H locs ls hP hD hS hl
  exact lv_goto ok.1 ok.2.1 hd ht (k ok hml H locs ls hP hD hS hl)
theorem c_obj {idx a : Nat} (hm : Cond.methodLink own idx Lib.objectInit ∈ gALL) (hd1 : 0 < d) (hroom : (st.map fun v => v.category).sum ≤ 8) (hd : decode cc pc = .ok (.invokespecial idx, 3)) (k : AC X own d cc mc ms (pc + 3) L (st) ws kc ks) : AC X own d cc mc ms (pc) L (.ref a :: st) ws kc ks := by
  obtain ⟨p, l, e, R, s, m, args, below, meth, c, w, A, _, _, Q⟩ := X
  intro ok hml H locs ls hP hD hS hl
  have hts := ok.2.2.2.1
  have hR := ok.2.2.2.2.2.2.2.2.2.1
  have h1 := hR.1
  have h2 := hR.2.1
  exact W.objInit ok.1 ok.2.1 ok.2.2.1 (hts _ hm) (hts _ mo_i) (hts _ mo_c) rfl (by rw [hml]; exact hl.1) rfl hd (by omega) (by show 2 * 0 + _ + 12 ≤ _; omega) (k ok hml H locs ls hP hD hS hl)
theorem c_newa_int {n : Int32} {N' : Nat} (hn : ¬ n < 0) (hN : n.toNatClampNeg = N') (hby : N' * componentBytes .int ≤ 536870912) (hc : kc + 1 ≤ mc) (hs : ks + N' ≤ ms) (hd : decode cc pc = .ok (.newarray .int, 2)) (k : ∀ q : Nat, AC X own d cc mc ms (pc + 2) L (.ref q :: st) (ws ++ [(q, .inl ((gw X).2.2.1 0, N', .inl (fun _ => 0)))]) (kc + 1) (ks + N')) : AC X own d cc mc ms (pc) L (.int n :: st) ws kc ks := by
  obtain ⟨p, l, e, R, s, m, args, below, meth, c, w, A, _, _, Q⟩ := X
  intro ok hml H locs ls hP hD hS hl
  have hR := ok.2.2.2.2.2.2.2.2.2.1
  refine va_newa (D := w.1) (cl := vwCl) (tys := gTy w) (a0 := (N', .inl (fun _ => 0))) (atype := .int) ok.1 ok.2.1 (ok.2.2.2.1 _ ac_int) rfl ok.2.2.2.2.1 hP hD hS ok.2.2.2.2.2.1 (fun _ => rfl) hn hN hby (Nat.le_trans hc hR.2.2.1) (Nat.le_trans hs hR.2.2.2) hd (fun q cA H1 hK1 hP1 hD1 hS1 => ?_)
  have e1 := gArr_eq (t := 0) hK1 rfl
  subst e1
  exact k q ok hml H1 locs ls hP1 hD1 hS1 hl
theorem c_newa_boolean {n : Int32} {N' : Nat} (hn : ¬ n < 0) (hN : n.toNatClampNeg = N') (hby : N' * componentBytes .boolean ≤ 536870912) (hc : kc + 1 ≤ mc) (hs : ks + N' ≤ ms) (hd : decode cc pc = .ok (.newarray .boolean, 2)) (k : ∀ q : Nat, AC X own d cc mc ms (pc + 2) L (.ref q :: st) (ws ++ [(q, .inl ((gw X).2.2.1 1, N', .inl (fun _ => 0)))]) (kc + 1) (ks + N')) : AC X own d cc mc ms (pc) L (.int n :: st) ws kc ks := by
  obtain ⟨p, l, e, R, s, m, args, below, meth, c, w, A, _, _, Q⟩ := X
  intro ok hml H locs ls hP hD hS hl
  have hR := ok.2.2.2.2.2.2.2.2.2.1
  refine va_newa (D := w.1) (cl := vwCl) (tys := gTy w) (a0 := (N', .inl (fun _ => 0))) (atype := .boolean) ok.1 ok.2.1 (ok.2.2.2.1 _ ac_boolean) rfl ok.2.2.2.2.1 hP hD hS ok.2.2.2.2.2.1 (fun _ => rfl) hn hN hby (Nat.le_trans hc hR.2.2.1) (Nat.le_trans hs hR.2.2.2) hd (fun q cA H1 hK1 hP1 hD1 hS1 => ?_)
  have e1 := gArr_eq (t := 1) hK1 rfl
  subst e1
  exact k q ok hml H1 locs ls hP1 hD1 hS1 hl
theorem c_newa_long {n : Int32} {N' : Nat} (hn : ¬ n < 0) (hN : n.toNatClampNeg = N') (hby : N' * componentBytes .long ≤ 536870912) (hc : kc + 1 ≤ mc) (hs : ks + N' ≤ ms) (hd : decode cc pc = .ok (.newarray .long, 2)) (k : ∀ q : Nat, AC X own d cc mc ms (pc + 2) L (.ref q :: st) (ws ++ [(q, .inl ((gw X).2.2.1 2, N', .inr (.inl (fun _ => 0))))]) (kc + 1) (ks + N')) : AC X own d cc mc ms (pc) L (.int n :: st) ws kc ks := by
  obtain ⟨p, l, e, R, s, m, args, below, meth, c, w, A, _, _, Q⟩ := X
  intro ok hml H locs ls hP hD hS hl
  have hR := ok.2.2.2.2.2.2.2.2.2.1
  refine va_newa (D := w.1) (cl := vwCl) (tys := gTy w) (a0 := (N', .inr (.inl (fun _ => 0)))) (atype := .long) ok.1 ok.2.1 (ok.2.2.2.1 _ ac_long) rfl ok.2.2.2.2.1 hP hD hS ok.2.2.2.2.2.1 (fun _ => rfl) hn hN hby (Nat.le_trans hc hR.2.2.1) (Nat.le_trans hs hR.2.2.2) hd (fun q cA H1 hK1 hP1 hD1 hS1 => ?_)
  have e1 := gArr_eq (t := 2) hK1 rfl
  subst e1
  exact k q ok hml H1 locs ls hP1 hD1 hS1 hl
theorem c_newq {idx : Nat} {n : Int32} {N' : Nat} (hcl : Cond.classLink own idx "FootIsle$Sheet" ∈ gALL) (hn : ¬ n < 0) (hN : n.toNatClampNeg = N') (hby : N' * 4 ≤ 536870912) (hc : kc + 1 ≤ mc) (hs : ks + N' ≤ ms) (hd : decode cc pc = .ok (.anewarray idx, 3)) (k : ∀ q : Nat, AC X own d cc mc ms (pc + 3) L (.ref q :: st) (ws ++ [(q, .inl ((gw X).2.2.1 3, N', .inr (.inr (.inr (.inr (fun _ => none))))))]) (kc + 1) (ks + N')) : AC X own d cc mc ms (pc) L (.int n :: st) ws kc ks := by
  obtain ⟨p, l, e, R, s, m, args, below, meth, c, w, A, _, _, Q⟩ := X
  intro ok hml H locs ls hP hD hS hl
  have hR := ok.2.2.2.2.2.2.2.2.2.1
  refine va_newq (D := w.1) (cl := vwCl) (tys := gTy w) ok.1 ok.2.1 ok.2.2.1 (ok.2.2.2.1 _ hcl) ok.2.2.2.2.2.2.2.2.2.2 ok.2.2.2.2.1 hP hD hS ok.2.2.2.2.2.1 hn hN hby (Nat.le_trans hc hR.2.2.1) (Nat.le_trans hs hR.2.2.2) hd (fun q cA H1 hK1 hP1 hD1 hS1 => ?_)
  have e1 := gArr_eq (t := 3) hK1 rfl
  subst e1
  exact k q ok hml H1 locs ls hP1 hD1 hS1 hl
theorem c_new {idx ci N : Nat} {Cn : String} {T : u_T} {ty : Nat → FieldType} {fs : List Value} (hcl : Cond.classLink own idx Cn ∈ gALL) (hin : ∀ q ∈ u_ws Cn T N, q ∈ gALL) (hty : ∀ k, k < N → parseFieldDescriptor (T k).2.2.1 = some (ty k)) (hins : Cond.instantiable Cn N ∈ gALL) (hini : Cond.initialized Cn ∈ gALL) (hci : vwCl[ci]? = some (Cn, T, N)) (hfs : ∀ j, j < N → defaultValue (ty j) = vp_V fs j) (hc : kc + 1 ≤ mc) (hs : ks + N ≤ ms) (hd : decode cc pc = .ok (.new idx, 3)) (k : ∀ q : Nat, AC X own d cc mc ms (pc + 3) L (.ref q :: st) (ws ++ [(q, .inr (ci, fs))]) (kc + 1) (ks + N)) : AC X own d cc mc ms (pc) L (st) ws kc ks := by
  obtain ⟨p, l, e, R, s, m, args, below, meth, c, w, A, _, _, Q⟩ := X
  intro ok hml H locs ls hP hD hS hl
  have hR := ok.2.2.2.2.2.2.2.2.2.1
  have hts := ok.2.2.2.1
  exact va_new (D := w.1) (cl := vwCl) ok.1 ok.2.1 hts hin ty hty ok.2.2.1 (hts _ hcl) (hts _ hins) (hts _ hini) ok.2.2.2.2.1 hP hD hS ok.2.2.2.2.2.1 hci hfs (Nat.le_trans hc hR.2.2.1) (Nat.le_trans hs hR.2.2.2) hd (fun q H1 hP1 hD1 hS1 => k q ok hml H1 locs ls hP1 hD1 hS1 hl)
theorem c_get {q0 a f ci idx : Nat} {fs : List Value} {v : Value} {ty : FieldType} {fin : Bool} (hf : gFL own idx ci f ty fin) (he : ws[q0]? = some (a, .inr (ci, fs))) (hv : fs[f]? = some v) (hd : decode cc pc = .ok (.getfield idx, 3)) (k : AC X own d cc mc ms (pc + 3) L (v :: st) ws kc ks) : AC X own d cc mc ms (pc) L (.ref a :: st) ws kc ks := by
  obtain ⟨p, l, e, R, s, m, args, below, meth, c, w, A, _, _, Q⟩ := X
  intro ok hml H locs ls hP hD hS hl
  obtain ⟨C, T, N, ty0, h1, h2, h3, h4, h5, h6, h7, h8, h9⟩ := hf
  exact va_get (D := w.1) (cl := vwCl) (own := own) (ref := C) ok.1 ok.2.1 ok.2.2.2.1 h3 ok.2.2.1 ok.2.2.2.2.1 hP q0 he h1 f h2 (ok.2.2.2.1 _ h4) (fun x hx => by rw [h5] at hx; exact hx) hv hd (k ok hml H locs ls hP hD hS hl)
theorem c_put {q0 a f ci idx : Nat} {fs : List Value} {v : Value} {ty : FieldType} (hf : gFL own idx ci f ty false) (he : ws[q0]? = some (a, .inr (ci, fs))) (hn : narrow ty v = v) (hfit : fits ty v = true) (hlen : f < fs.length) (hw : ws.set q0 (a, .inr (ci, fs.set f v)) = ws') (hd : decode cc pc = .ok (.putfield idx, 3)) (k : AC X own d cc mc ms (pc + 3) L (st) ws' kc ks) : AC X own d cc mc ms (pc) L (v :: .ref a :: st) ws kc ks := by
  subst hw
  obtain ⟨p, l, e, R, s, m, args, below, meth, c, w, A, _, _, Q⟩ := X
  intro ok hml H locs ls hP hD hS hl
  obtain ⟨C, T, N, ty0, h1, h2, h3, h4, h5, h6, h7, h8, h9⟩ := hf
  exact va_put (D := w.1) (cl := vwCl) (own := own) (ref := C) (A := A) (ty := ty) ok.1 ok.2.1 ok.2.2.2.1 h3 ty0 h7 h9 ok.2.2.1 ok.2.2.2.2.1 hP hD hS q0 he h1 f h2 (ok.2.2.2.1 _ h4) (fun x hx => by rw [h5] at hx; exact hx) h6 (by rw [h7 f h2, h8]) hn hfit hlen hd (fun H1 locs1 hP1 hD1 hS1 => k ok hml H1 locs1 ls hP1 hD1 hS1 hl)
theorem c_putF {q0 a f ci idx : Nat} {fs : List Value} {v : Value} {ty : FieldType} (hno : own ≠ R_law) (hf : gFL own idx ci f ty true) (ho : (vwCl[ci]?).map (fun q => (q.2.1 f).1) = some own) (he : ws[q0]? = some (a, .inr (ci, fs))) (hn : narrow ty v = v) (hfit : fits ty v = true) (hlen : f < fs.length) (hw : ws.set q0 (a, .inr (ci, fs.set f v)) = ws') (hd : decode cc pc = .ok (.putfield idx, 3)) (k : AC X own d cc mc ms (pc + 3) L (st) ws' kc ks) : AC X own d cc mc ms (pc) L (v :: .ref a :: st) ws kc ks := by
  subst hw
  obtain ⟨p, l, e, R, s, m, args, below, meth, c, w, A, _, _, Q⟩ := X
  intro ok hml H locs ls hP hD hS hl
  obtain ⟨C, T, N, ty0, h1, h2, h3, h4, h5, h6, h7, h8, h9⟩ := hf
  rw [h1] at ho
  exact va_putF (D := w.1) (cl := vwCl) (own := own) (ref := C) (A := A) (ty := ty) ok.1 ok.2.1 ok.2.2.2.1 h3 ty0 h7 h9 ok.2.2.1 ok.2.2.2.2.1 hP hD hS q0 he h1 f h2 (ok.2.2.2.1 _ h4) (fun x hx => by rw [h5] at hx; exact hx) h6 (ok.2.2.2.2.2.2.2.2.1.resolve_left hno) (Option.some.inj ho) (by rw [h7 f h2, h8]) hn hfit hlen hd (fun H1 locs1 hP1 hD1 hS1 => k ok hml H1 locs1 ls hP1 hD1 hS1 hl)
theorem c_iast {q0 a n : Nat} {f : Nat → Int32} {i x : Int32} (ha : ws[q0]? = some (a, .inl ((gw X).2.2.1 0, n, .inl f))) (hi : gin i n = true) (hw : ws.set q0 (a, .inl ((gw X).2.2.1 0, n, .inl (upd f i.toNatClampNeg x))) = ws') (hd : decode cc pc = .ok (.iastore, 1)) (k : AC X own d cc mc ms (pc + 1) L (st) ws' kc ks) : AC X own d cc mc ms (pc) L (.int x :: .int i :: .ref a :: st) ws kc ks := by
  subst hw
  obtain ⟨p, l, e, R, s, m, args, below, meth, c, w, A, _, _, Q⟩ := X
  intro ok hml H locs ls hP hD hS hl
  exact va_iast (D := w.1) (cl := vwCl) (tys := gTy w) (A := A) ok.1 ok.2.1 ok.2.2.2.2.1 hP hD hS q0 0 ha rfl (gin_in hi) hd (fun H1 locs1 hP1 hD1 hS1 => k ok hml H1 locs1 ls hP1 hD1 hS1 hl)
theorem c_aast {q0 qk a v n : Nat} {vs : List Value} {f : Nat → Option Nat} {i : Int32} (ha : ws[q0]? = some (a, .inl ((gw X).2.2.1 3, n, .inr (.inr (.inr (.inr f)))))) (hv : ws[qk]? = some (v, .inr (2, vs))) (hi : gin i n = true) (hw : ws.set q0 (a, .inl ((gw X).2.2.1 3, n, .inr (.inr (.inr (.inr (va_up f i.toNatClampNeg (some v))))))) = ws') (hd : decode cc pc = .ok (.aastore, 1)) (k : AC X own d cc mc ms (pc + 1) L (st) ws' kc ks) : AC X own d cc mc ms (pc) L (.ref v :: .int i :: .ref a :: st) ws kc ks := by
  subst hw
  obtain ⟨p, l, e, R, s, m, args, below, meth, c, w, A, _, _, Q⟩ := X
  intro ok hml H locs ls hP hD hS hl
  exact va_astq (D := w.1) (cl := vwCl) (tys := gTy w) (A := A) (r := (RX2, TX2, 3)) ok.1 ok.2.1 ok.2.2.2.2.1 hP hD hS q0 3 qk 2 ha rfl hv rfl (gin_in hi) hd (fun H1 locs1 hP1 hD1 hS1 => k ok hml H1 locs1 ls hP1 hD1 hS1 hl)
theorem c_initN {y : MethodName} {cy : ByteArray} {mL dy mc' ms' ci idx b k0 : Nat} {fs : List Value} {post : gWd → Nat → (Nat → Nat) → va_W} {wr : va_W} (hc : gCK y cy mL dy mc' ms' ci fs post) (hY : gY y cy mL none 0) (hy : y.name = "<init>") (hV : Cond.instanceMethod y ∈ gALL) (hl9 : Cond.methodLinkNest own idx y "FootIsle" ∈ gNestC) (isR : List Nat) (hC : [k0].map (fun i => ws[i]?) = ([(b, .inr (ci, fs))] : va_W).map some) (hR9 : isR.map (fun i => ws[i]?) = wr.map some) (hn : va_nd isR = true) (hdis : ∀ i ∈ isR, i ∉ [k0]) (hdy : dy < d) (hcc : kc + mc' ≤ mc) (hss : ks + ms' ≤ ms) (hroom : (st.map fun v => v.category).sum ≤ 8) (hd : decode cc pc = .ok (.invokespecial idx, 3)) (k : ∀ q : Nat → Nat, AC X own d cc mc ms (pc + 3) L (st) (wr ++ post (gw X) b q) (kc + mc') (ks + ms')) : AC X own d cc mc ms (pc) L (.ref b :: st) ws kc ks := by
  obtain ⟨p, l, e, R, s, m, args, below, meth, c, w, A, _, _, Q⟩ := X
  intro ok hml H locs ls hP hD hS hl
  have hts := ok.2.2.2.1
  have hR := ok.2.2.2.2.2.2.2.2.2.1
  have hrr : (gRk dy mc' ms').frames + 1 ≤ R.frames ∧ 8 + (mL + 11) + (gRk dy mc' ms').locals ≤ R.locals := by
    have := hR.1; have := hR.2.1; have := hY.2.2.2
    show dy + 1 ≤ R.frames ∧ 8 + (mL + 11) + 40 * dy ≤ R.locals
    omega
  have cb : va_CN R s args own idx y "FootIsle" cy mL none (gWs y cy mL none) (gRk dy mc' ms') mc' ms' 0 := va_cnB 0 hts (gGood hY.1) rfl rfl rfl (ok.2.2.2.2.2.2.1 _ hl9) (hts _ hY.2.1) hY.2.2.1 hrr
  have hPc : va_P w.1 vwCl [(b, .inr (ci, fs))] H := hP.sub [k0] (by
    have h0 : ws[k0]? = some (b, .inr (ci, fs)) := by simpa using hC
    simp [h0])
  have hFc := va_free (wc := [(b, .inr (ci, fs))]) hD hS ok.2.2.2.2.2.1 [k0] hC
  have hrun := va_runIN (e := e) (below := below) (meth := meth) (cells := kc) (slots := ks) (locs := locs) (g := F0 m pc ls (.ref b :: st)) (rest := st) (b := b) (As := []) (H := H) (nL := L.length) ⟨ok.1, ok.2.1, hml, ok.2.2.1, hts⟩ (hc l w H.size b) ⟨cb, hy, hts _ hV⟩ ⟨fun a U g mk q => by
      obtain ⟨q0, q1, q2, q3, q4, q5⟩ := q
      exact ⟨q0, q1, q2, va_K.moved (u := U) (U := U.calling g mk a) (Vm.Alike.refl U.vm) q3, fun z hz => va_Nw.same (u := U) (U := U.calling g mk a) (gNestC_on z hz) rfl (q4 z hz), va_AO.moved (u := U) (U := U.calling g mk a) (Vm.Alike.refl U.vm) q5⟩, fun U hU hW => ⟨rfl, by rw [hU], by rw [hU]; exact hPc, va_K.moved hW.alike ok.2.2.2.2.1, fun z hz => gNestC_warm z hz hW (ok.2.2.2.2.2.2.1 z hz), va_AO.moved hW.alike ok.2.2.2.2.2.2.2.2.2.2⟩⟩ rfl rfl hl.1 rfl (lv_room (m := m) (pc := pc) (ls := ls) (rest := .ref b :: st) hroom) hd ⟨Nat.le_trans hcc hR.2.2.1, Nat.le_trans hss hR.2.2.2⟩
  refine va_callv hrun hS (fun q _ h => hFc q h) hFc (fun u t H1 locs1 ht hvm _ hB hz1 hk1 hS1 => ?_)
  obtain ⟨hP1, hD1⟩ := hB
  rw [ht] at hP1
  obtain ⟨hP2, hD2⟩ := va_join (wr := wr) (w1 := post w b u) hP hD [k0] isR hC hR9 hn hdis hk1 hFc hP1 hD1
  exact k u ok hml H1 locs1 ls hP2 hD2 hS1 hl
theorem c_init {y : MethodName} {cy : ByteArray} {mL dy mc' ms' ci idx b k0 : Nat} {fs : List Value} {post : gWd → Nat → (Nat → Nat) → va_W} {wr : va_W} (hc : gCK y cy mL dy mc' ms' ci fs post) (hY : gY y cy mL none 0) (hy : y.name = "<init>") (hV : Cond.instanceMethod y ∈ gALL) (hl9 : Cond.methodLink own idx y ∈ gALL) (isR : List Nat) (hC : [k0].map (fun i => ws[i]?) = ([(b, .inr (ci, fs))] : va_W).map some) (hR9 : isR.map (fun i => ws[i]?) = wr.map some) (hn : va_nd isR = true) (hdis : ∀ i ∈ isR, i ∉ [k0]) (hdy : dy < d) (hcc : kc + mc' ≤ mc) (hss : ks + ms' ≤ ms) (hroom : (st.map fun v => v.category).sum ≤ 8) (hd : decode cc pc = .ok (.invokespecial idx, 3)) (k : ∀ q : Nat → Nat, AC X own d cc mc ms (pc + 3) L (st) (wr ++ post (gw X) b q) (kc + mc') (ks + ms')) : AC X own d cc mc ms (pc) L (.ref b :: st) ws kc ks := by
  obtain ⟨p, l, e, R, s, m, args, below, meth, c, w, A, _, _, Q⟩ := X
  intro ok hml H locs ls hP hD hS hl
  have hts := ok.2.2.2.1
  have hR := ok.2.2.2.2.2.2.2.2.2.1
  have hrr : (gRk dy mc' ms').frames + 1 ≤ R.frames ∧ 8 + (mL + 11) + (gRk dy mc' ms').locals ≤ R.locals := by
    have := hR.1; have := hR.2.1; have := hY.2.2.2
    show dy + 1 ≤ R.frames ∧ 8 + (mL + 11) + 40 * dy ≤ R.locals
    omega
  have cb : CallB R s args own idx y cy mL none (gWs y cy mL none) (gRk dy mc' ms') mc' ms' 0 := callB_of 0 hts (gGood hY.1) rfl rfl rfl (hts _ hY.2.1) (hts _ hl9) hY.2.2.1 hrr
  have hPc : va_P w.1 vwCl [(b, .inr (ci, fs))] H := hP.sub [k0] (by
    have h0 : ws[k0]? = some (b, .inr (ci, fs)) := by simpa using hC
    simp [h0])
  have hFc := va_free (wc := [(b, .inr (ci, fs))]) hD hS ok.2.2.2.2.2.1 [k0] hC
  have hrun := va_runI (e := e) (below := below) (meth := meth) (cells := kc) (slots := ks) (locs := locs) (g := F0 m pc ls (.ref b :: st)) (rest := st) (b := b) (As := []) (H := H) (nL := L.length) ⟨ok.1, ok.2.1, hml, ok.2.2.1, hts⟩ (hc l w H.size b) ⟨cb, hy, hts _ hV⟩ ⟨fun a U g mk q => by
      obtain ⟨q0, q1, q2, q3, q4, q5⟩ := q
      exact ⟨q0, q1, q2, va_K.moved (u := U) (U := U.calling g mk a) (Vm.Alike.refl U.vm) q3, fun z hz => va_Nw.same (u := U) (U := U.calling g mk a) (gNestC_on z hz) rfl (q4 z hz), va_AO.moved (u := U) (U := U.calling g mk a) (Vm.Alike.refl U.vm) q5⟩, fun U hU hW => ⟨rfl, by rw [hU], by rw [hU]; exact hPc, va_K.moved hW.alike ok.2.2.2.2.1, fun z hz => gNestC_warm z hz hW (ok.2.2.2.2.2.2.1 z hz), va_AO.moved hW.alike ok.2.2.2.2.2.2.2.2.2.2⟩⟩ rfl rfl hl.1 rfl (lv_room (m := m) (pc := pc) (ls := ls) (rest := .ref b :: st) hroom) hd ⟨Nat.le_trans hcc hR.2.2.1, Nat.le_trans hss hR.2.2.2⟩
  refine va_callv hrun hS (fun q _ h => hFc q h) hFc (fun u t H1 locs1 ht hvm _ hB hz1 hk1 hS1 => ?_)
  obtain ⟨hP1, hD1⟩ := hB
  rw [ht] at hP1
  obtain ⟨hP2, hD2⟩ := va_join (wr := wr) (w1 := post w b u) hP hD [k0] isR hC hR9 hn hdis hk1 hFc hP1 hD1
  exact k u ok hml H1 locs1 ls hP2 hD2 hS1 hl
theorem c_vret {h0 ci sz : Nat} {fs : List Value} {post : gWd → Nat → (Nat → Nat) → va_W} (hp : gPostK X mc ms h0 ci sz fs post) (hkc : kc = mc) (hks : ks = ms) (q : Nat → Nat) (he : ws = post (gw X) h0 q) (hd : decode cc pc = .ok (.return_, 1)) : AC X own d cc mc ms pc L [] ws kc ks := by
  obtain ⟨p, l, e, R, s, m, args, below, meth, c, w, A, _, _, Q⟩ := X
  intro ok hml H locs ls hP hD hS hl
  subst hkc
  subst hks
  obtain ⟨hr, rfl, rfl⟩ := hp
  subst he
  exact W.vret ok.1 ok.2.1 hr (fun t ht hW => ⟨⟨q, rfl, trivial, by rw [ht]; exact hP, hD⟩, hS.F ht⟩) hS.2.2 hd ok.2.2.2.2.2.2.2.1
theorem c_ws (he : ws = ws') (k : AC X own d cc mc ms pc L st ws' kc ks) : AC X own d cc mc ms pc L st ws kc ks := he ▸ k
end RowsC
