theorem gQ_moved {w : gWd} {sz : Nat} {S : gSt} {as : List Value} : FrameBlind (va_Pc as (gB w sz S)) := by
  intro a U g mk h
  obtain ⟨h0, h1, h2, h3, h4, h5, h6⟩ := h
  refine ⟨h0, h1, h2, va_K.moved (u := U) (U := U.calling g mk a) (Vm.Alike.refl U.vm) h3, h4, fun q hq => ?_, ?_⟩
  · exact va_Nw.same (u := U) (U := U.calling g mk a) (gNest_on q hq) rfl (h5 q hq)
  · exact gStat.same (u := U) (U := U.calling g mk a) rfl (Vm.Alike.refl U.vm) h6
theorem gGood {y : MethodName} {cc : ByteArray} {mL : Nat} {ret : Option FieldType} (h : Cond.code y cc mL ret ∈ gALL) : GoodIn gALL (gWs y cc mL ret) := by
  intro w hw
  rcases List.mem_cons.mp hw with rfl | hw
  · exact gALL_good _ h
  · exact gALL_good _ hw
section Calls2
variable {p : Program} {l : Launch} {e : Env} {R : Room} {s : State} {m : MethodId} {args : Array Value} {below : List Frame} {meth : Method} {c : Code} {H : Heap} {locs : List Loc} {kc ks : Nat} {Q : State → Prop} {w : gWd} {A A1 : Nat → Prop}
theorem g_call {pc : Nat} {ls : Array Slot} {st0 rest : List Value} {r : Option Value} {S' : gSt} {a : Array Value} (hr : va_Run p l e R s m args below meth c H locs kc ks 0 0 (F0 m pc ls st0) rest (gQ w A1 r S' a) A1) (hS : va_S A s.heap H locs) (hA : ∀ q, A1 q → A q)
    (kk : ∀ (H1 : Heap) (locs1 : List Loc), va_P w.1 vwCl (gC w S') H1 → va_S A s.heap H1 locs1 → W p l e R s m args below meth c H1 locs1 kc ks Q (F0 m (pc + 3) ls (r.toList ++ rest))) : W p l e R s m args below meth c H locs kc ks Q (F0 m pc ls st0) := by
  intro T hT X
  obtain ⟨v, st₀, t, T', L, h0, X', hL, e1, e2, ⟨hv, hp, hz, hk⟩, st⟩ := hr T hT X
  cases hv
  rw [h0] at hz hk
  obtain ⟨t2, a1, b1⟩ := kk T'.heap (locs ++ L) (by rw [e1]; exact hp)
    ⟨Nat.le_trans hS.1 (by rw [e1]; exact hz), fun q h1 h2 => by rw [e1, hk q (Nat.lt_of_lt_of_le h1 hS.1) (fun z => h2 (hA q z))]; exact hS.2.1 q h1 h2, fun q hq => by
      rcases List.mem_append.mp hq with h | h
      · exact hS.2.2 q h
      · exact hA _ (hL q h)⟩ T' rfl X'
  exact ⟨t2, st t2 a1, b1⟩
/-- what a call hands to the callee -/
theorem g_pre {S : gSt} {cc : ByteArray} {own : String} {d : Nat} (ok : gOK p R s m args meth c w A kc ks own d cc) (hP : va_P w.1 vwCl (gC w S) H) (hS : va_S A s.heap H locs) : ∀ U : State, U.heap = H → s.WarmedH U.vm → gB w H.size S U := by
  intro U hU hW
  have hA : ∀ q, gA w H.size q → A q := fun q h => h.elim (fun ⟨i, hi, e⟩ => by rw [e]; exact ok.2.2.2.2.2.2.1 i hi) (fun h => ok.2.2.2.2.2.2.2.1 q (Nat.le_trans hS.1 h))
  refine ⟨by rw [hU], by rw [hU]; exact hP, va_K.moved hW.alike ok.2.2.2.2.1, ok.2.2.2.2.2.1, fun q hq => gNest_warm q hq hW (ok.2.2.2.2.2.2.2.2.1 q hq), ?_⟩
  rw [hU]
  exact gStat.narrow (gStat.warm hW (gStat.kept ok.2.2.2.2.2.2.2.2.2.2.2 (fun a h1 h2 => hS.2.1 a h1 h2))) hA
theorem g_sub {S : gSt} {cc : ByteArray} {own : String} {d : Nat} (ok : gOK p R s m args meth c w A kc ks own d cc) (hS : va_S A s.heap H locs) : ∀ q, gA w H.size q → A q :=
  fun q h => h.elim (fun ⟨i, hi, e⟩ => by rw [e]; exact ok.2.2.2.2.2.2.1 i hi) (fun h => ok.2.2.2.2.2.2.2.1 q (Nat.le_trans hS.1 h))
end Calls2
section Rows2
variable {X : gX} {own : String} {d : Nat} {cc : ByteArray} {pc : Nat} {L : List (Option Value)} {st : List Value} {S S' : gSt}
variable {y : MethodName} {cy : ByteArray} {mL n dy idx : Nat} {ret : Option FieldType} {as : gWd → List Value} {r : Option Value} {As st0 : List Value}
theorem a_invV {k ci : Nat} {fs : List (Option Nat)} {T : u_T} {N : Nat} (hc : gCT y cy mL ret dy as S r S') (hY : gY y cy mL ret n) (hV : Cond.instanceMethod y ∈ gALL ∧ Cond.selects y.cls y y ∈ gALL) (hl : Cond.methodLink own idx y ∈ gALL) (hs : gSH[k]? = some (.inl (ci, fs))) (hcl : vwCl[ci]? = some (y.cls, T, N)) (has : as (gw X) = .ref (gad X k) :: As) (hn : As.length = n) (hdy : dy < d) (hst : st0 = As.reverse ++ .ref (gad X k) :: st) (hroom : (st.map fun v => v.category).sum ≤ 8) (hd : decode cc pc = .ok (.invokevirtual idx, 3)) (kk : AW X own d cc (pc + 3) L (r.toList ++ st) S') : AW X own d cc pc L st0 S := by
  obtain ⟨p, l, e, R, s, m, args, below, meth, c, w, A, kc, ks, Q⟩ := X
  intro ok hml H locs ls hP hS hlv
  have hc := hc l w H.size
  have hts := ok.2.2.2.1
  rw [show as w = .ref (w.2.1 k) :: As from has] at hc
  have hR := ok.2.2.2.2.2.2.2.2.2.2.1
  have cb : CallB R s args own idx y cy mL ret (gWs y cy mL ret) (gRm dy) 0 0 n := callB_of n hts (gGood hY.1) rfl rfl rfl (hts _ hY.2.1) (hts _ hl) hY.2.2.1 (by
    have := hR.1; have := hR.2.1; have := hY.2.2.2
    show dy + 1 ≤ R.frames ∧ 8 + (mL + 11) + 40 * dy ≤ R.locals
    omega)
  have hrun := va_runV (e := e) (below := below) (meth := meth) (cells := kc) (slots := ks) (locs := locs) (g := F0 m pc ls st0) (rest := st) (b := w.2.1 k) (As := As) (H := H) (nL := L.length) ⟨ok.1, ok.2.1, hml, ok.2.2.1, hts⟩ hc (C := y.cls) ⟨cb, hts _ hV.1, hts _ hV.2⟩ ⟨gQ_moved, va_recv ok.2.2.2.2.1 hP hcl (gC_get hs), fun U hU hW => ⟨rfl, g_pre ok hP hS U hU hW⟩⟩ rfl hn hlv.1 hst (lv_room (m := m) (pc := pc) (ls := ls) (rest := st0) hroom) hd ⟨hR.2.2.1, hR.2.2.2⟩
  exact g_call hrun hS (g_sub (S := S) ok hS) (fun H1 locs1 hP1 hS1 => kk ok hml H1 locs1 ls hP1 hS1 hlv)
theorem a_invS (hc : gCT y cy mL ret dy as S r S') (hY : gY y cy mL ret n) (hV : Cond.static y ∈ gALL) (hl : Cond.methodLink own idx y ∈ gALL) (has : as (gw X) = As) (hn : As.length = n) (hdy : dy < d) (hst : st0 = As.reverse ++ st) (hroom : (st.map fun v => v.category).sum ≤ 8) (hd : decode cc pc = .ok (.invokestatic idx, 3)) (kk : AW X own d cc (pc + 3) L (r.toList ++ st) S') : AW X own d cc pc L st0 S := by
  obtain ⟨p, l, e, R, s, m, args, below, meth, c, w, A, kc, ks, Q⟩ := X
  intro ok hml H locs ls hP hS hlv
  have hc := hc l w H.size
  have hts := ok.2.2.2.1
  rw [show as w = As from has] at hc
  have hR := ok.2.2.2.2.2.2.2.2.2.2.1
  have cb : CallB R s args own idx y cy mL ret (gWs y cy mL ret) (gRm dy) 0 0 n := callB_of n hts (gGood hY.1) rfl rfl rfl (hts _ hY.2.1) (hts _ hl) hY.2.2.1 (by
    have := hR.1; have := hR.2.1; have := hY.2.2.2
    show dy + 1 ≤ R.frames ∧ 8 + (mL + 11) + 40 * dy ≤ R.locals
    omega)
  have hrun := va_runS (e := e) (below := below) (meth := meth) (cells := kc) (slots := ks) (locs := locs) (g := F0 m pc ls st0) (rest := st) (As := As) (H := H) (nL := L.length) ⟨ok.1, ok.2.1, hml, ok.2.2.1, hts⟩ hc ⟨cb, hts _ hV⟩ ⟨gQ_moved, fun U hU hW => ⟨rfl, g_pre ok hP hS U hU hW⟩⟩ rfl hn hlv.1 hst (lv_room (m := m) (pc := pc) (ls := ls) (rest := st0) hroom) hd ⟨hR.2.2.1, hR.2.2.2⟩
  exact g_call hrun hS (g_sub (S := S) ok hS) (fun H1 locs1 hP1 hS1 => kk ok hml H1 locs1 ls hP1 hS1 hlv)
theorem a_invSN (hc : gCT y cy mL ret dy as S r S') (hY : gY y cy mL ret n) (hV : Cond.static y ∈ gALL) (hl : Cond.methodLinkNest own idx y "FootIsle" ∈ gNest) (has : as (gw X) = As) (hn : As.length = n) (hdy : dy < d) (hst : st0 = As.reverse ++ st) (hroom : (st.map fun v => v.category).sum ≤ 8) (hd : decode cc pc = .ok (.invokestatic idx, 3)) (kk : AW X own d cc (pc + 3) L (r.toList ++ st) S') : AW X own d cc pc L st0 S := by
  obtain ⟨p, l, e, R, s, m, args, below, meth, c, w, A, kc, ks, Q⟩ := X
  intro ok hml H locs ls hP hS hlv
  have hc := hc l w H.size
  have hts := ok.2.2.2.1
  rw [show as w = As from has] at hc
  have hR := ok.2.2.2.2.2.2.2.2.2.2.1
  have cb : va_CN R s args own idx y "FootIsle" cy mL ret (gWs y cy mL ret) (gRm dy) 0 0 n := va_cnB n hts (gGood hY.1) rfl rfl rfl (ok.2.2.2.2.2.2.2.2.1 _ hl) (hts _ hY.2.1) hY.2.2.1 (by
    have := hR.1; have := hR.2.1; have := hY.2.2.2
    show dy + 1 ≤ R.frames ∧ 8 + (mL + 11) + 40 * dy ≤ R.locals
    omega)
  have hrun := va_runSN (e := e) (below := below) (meth := meth) (cells := kc) (slots := ks) (locs := locs) (g := F0 m pc ls st0) (rest := st) (As := As) (H := H) (nL := L.length) ⟨ok.1, ok.2.1, hml, ok.2.2.1, hts⟩ hc ⟨cb, hts _ hV, trivial⟩ ⟨gQ_moved, fun U hU hW => ⟨rfl, g_pre ok hP hS U hU hW⟩⟩ rfl hn hlv.1 hst (lv_room (m := m) (pc := pc) (ls := ls) (rest := st0) hroom) hd ⟨hR.2.2.1, hR.2.2.2⟩
  exact g_call hrun hS (g_sub (S := S) ok hS) (fun H1 locs1 hP1 hS1 => kk ok hml H1 locs1 ls hP1 hS1 hlv)
/-! returns -/
theorem a_iret {v : Int32} (hp : gPost X (some .int) (some (.int v)) S) (hd : decode cc pc = .ok (.ireturn, 1)) : AW X own d cc pc L [.int v] S := by
  obtain ⟨p, l, e, R, s, m, args, below, meth, c, w, A, kc, ks, Q⟩ := X
  obtain ⟨hr, rfl⟩ := hp
  intro ok hml H locs ls hP hS hl
  exact W.iret ok.1 ok.2.1 hr (fun t ht hW => ⟨rfl, by rw [ht]; exact hP, hS.F ht⟩) hS.2.2 hd ok.2.2.2.2.2.2.2.2.2.1
def gbool (v : Int32) : Bool := v == 0 || v == 1
theorem gbool_n {v : Int32} (h : gbool v = true) : narrow .boolean (.int v) = .int v := by
  simp only [gbool, Bool.or_eq_true, beq_iff_eq] at h
  rcases h with rfl | rfl <;> rfl
theorem gbool_f {v : Int32} (h : gbool v = true) : fits .boolean (.int v) = true := h
theorem gbool_v {v : Int32} (h : gbool v = true) : vp_nar .boolean v = v := by
  simp only [gbool, Bool.or_eq_true, beq_iff_eq] at h
  rcases h with rfl | rfl <;> rfl
theorem a_zret {v : Int32} (hp : gPost X (some .boolean) (some (.int v)) S) (hn : gbool v = true) (hd : decode cc pc = .ok (.ireturn, 1)) : AW X own d cc pc L [.int v] S := by
  obtain ⟨p, l, e, R, s, m, args, below, meth, c, w, A, kc, ks, Q⟩ := X
  obtain ⟨hr, rfl⟩ := hp
  intro ok hml H locs ls hP hS hl
  exact W.zret ok.1 ok.2.1 hr (gbool_n hn) (fun t ht hW => ⟨rfl, by rw [ht]; exact hP, hS.F ht⟩) hS.2.2 hd ok.2.2.2.2.2.2.2.2.2.1
theorem a_lret {v : Int64} (hp : gPost X (some .long) (some (.long v)) S) (hd : decode cc pc = .ok (.lreturn, 1)) : AW X own d cc pc L [.long v] S := by
  obtain ⟨p, l, e, R, s, m, args, below, meth, c, w, A, kc, ks, Q⟩ := X
  obtain ⟨hr, rfl⟩ := hp
  intro ok hml H locs ls hP hS hl
  exact W.lret ok.1 ok.2.1 hr (fun t ht hW => ⟨rfl, by rw [ht]; exact hP, hS.F ht⟩) hS.2.2 hd ok.2.2.2.2.2.2.2.2.2.1
theorem a_vret (hp : gPost X none none S) (hd : decode cc pc = .ok (.return_, 1)) : AW X own d cc pc L [] S := by
  obtain ⟨p, l, e, R, s, m, args, below, meth, c, w, A, kc, ks, Q⟩ := X
  obtain ⟨hr, rfl⟩ := hp
  intro ok hml H locs ls hP hS hl
  exact W.vret ok.1 ok.2.1 hr (fun t ht hW => ⟨rfl, by rw [ht]; exact hP, hS.F ht⟩) hS.2.2 hd ok.2.2.2.2.2.2.2.2.2.1
/-! the library's own -/
theorem a_max {x z : Int32} (hl : Cond.methodLink own idx Lib.Math.max.name ∈ gALL) (hd1 : 0 < d) (hroom : (st.map fun v => v.category).sum ≤ 8) (hd : decode cc pc = .ok (.invokestatic idx, 3)) (kk : AW X own d cc (pc + 3) L (.int (if x < z then z else x) :: st) S) : AW X own d cc pc L (.int z :: .int x :: st) S := by
  obtain ⟨p, l, e, R, s, m, args, below, meth, c, w, A, kc, ks, Q⟩ := X
  intro ok hml H locs ls hP hS hlv
  have hts := ok.2.2.2.1
  have hR := ok.2.2.2.2.2.2.2.2.2.2.1
  exact va_mmax ok.1 ok.2.1 (by rw [hml]; exact hlv.1.symm) ok.2.2.1 (hts _ hl) (hts _ g_max1) (hts _ g_math) (hts _ g_max2) (by omega) (by omega) hR.2.2.1 hR.2.2.2 hd (kk ok hml H locs ls hP hS hlv)
theorem a_min {x z : Int32} (hl : Cond.methodLink own idx Lib.Math.min.name ∈ gALL) (hd1 : 0 < d) (hroom : (st.map fun v => v.category).sum ≤ 8) (hd : decode cc pc = .ok (.invokestatic idx, 3)) (kk : AW X own d cc (pc + 3) L (.int (if z < x then z else x) :: st) S) : AW X own d cc pc L (.int z :: .int x :: st) S := by
  obtain ⟨p, l, e, R, s, m, args, below, meth, c, w, A, kc, ks, Q⟩ := X
  intro ok hml H locs ls hP hS hlv
  have hts := ok.2.2.2.1
  have hR := ok.2.2.2.2.2.2.2.2.2.2.1
  exact va_mmin ok.1 ok.2.1 (by rw [hml]; exact hlv.1.symm) ok.2.2.1 (hts _ hl) (hts _ g_min1) (hts _ g_math) (hts _ g_min2) (by omega) (by omega) hR.2.2.1 hR.2.2.2 hd (kk ok hml H locs ls hP hS hlv)
/-- n places from sp on within n0, from dp on within n1 -/
def gcp (sp dp n : Int32) (n0 n1 : Nat) : Bool := !decide (sp < 0) && (!decide (dp < 0) && (!decide (n < 0) && (decide (sp.toNatClampNeg + n.toNatClampNeg ≤ n0) && decide (dp.toNatClampNeg + n.toNatClampNeg ≤ n1))))
theorem gcp_of {sp dp n : Int32} {n0 n1 : Nat} (h : gcp sp dp n n0 n1 = true) : ¬ sp < 0 ∧ ¬ dp < 0 ∧ ¬ n < 0 ∧ sp.toNatClampNeg + n.toNatClampNeg ≤ n0 ∧ dp.toNatClampNeg + n.toNatClampNeg ≤ n1 := by
  simpa only [gcp, Bool.and_eq_true, Bool.not_eq_true', decide_eq_false_iff_not, decide_eq_true_eq] using h
theorem a_copyi {k0 k1 n0 n1 b0 b1 : Nat} {sp dp n : Int32} (h0 : gSH[k0]? = some (.inr (0, n0, b0))) (h1 : gSH[k1]? = some (.inr (0, n1, b1))) (hc : gcp sp dp n n0 n1 = true) (hl : Cond.methodLink own idx arraycopyName ∈ gALL) (hd1 : 0 < d) (hroom : (st.map fun v => v.category).sum ≤ 8) (hd : decode cc pc = .ok (.invokestatic idx, 3)) (kk : AW X own d cc (pc + 3) L st (gR S k1 (va_cpy (S.1 k0) (S.1 k1) sp.toNatClampNeg dp.toNatClampNeg n.toNatClampNeg))) : AW X own d cc pc L (.int n :: .int dp :: .ref (gad X k1) :: .int sp :: .ref (gad X k0) :: st) S := by
  obtain ⟨p, l, e, R, s, m, args, below, meth, c, w, A, kc, ks, Q⟩ := X
  intro ok hml H locs ls hP hS hlv
  have hts := ok.2.2.2.1
  have hR := ok.2.2.2.2.2.2.2.2.2.2.1
  obtain ⟨c1, c2, c3, c4, c5⟩ := gcp_of hc
  have hnw : nativeFrameWords "java/lang/System" "arraycopy" 5 = 7 := by decide
  refine va_copyi (D := w.1) (cl := vwCl) (ws := gC w S) (tys := gTy w) (A := A) (ty := .int) ok.1 ok.2.1 (by rw [hml]; exact hlv.1.symm) ok.2.2.1 (hts _ hl) (hts _ g_cpy1) (hts _ g_cpy2) (hts _ g_cpy3) ok.2.2.2.2.1 hP (gC_D ok.2.2.2.2.2.1 ok.2.2.2.2.2.2.1) hS k0 k1 0 0 (gC_get h0) (gC_get h1) rfl rfl rfl c1 c2 c3 c4 c5 (fun _ _ => rfl) (by omega) (by rw [hnw]; omega) hd (fun H1 locs1 hP1 _ hS1 => ?_)
  have e1 : (gC w S).set k1 (w.2.1 k1, gE w (gR S k1 (va_cpy (S.1 k0) (S.1 k1) sp.toNatClampNeg dp.toNatClampNeg n.toNatClampNeg)) k1 (.inr (0, n1, b1))) = gC w (gR S k1 (va_cpy (S.1 k0) (S.1 k1) sp.toNatClampNeg dp.toNatClampNeg n.toNatClampNeg)) := gC_set h1 gR_ne1 gR_ne2
  refine kk ok hml H1 locs1 ls ?_ hS1 hlv
  rw [← e1]
  simpa only [gE, gR, va_up_s] using hP1
theorem a_copyl {k0 k1 n0 n1 b0 b1 : Nat} {sp dp n : Int32} (h0 : gSH[k0]? = some (.inr (2, n0, b0))) (h1 : gSH[k1]? = some (.inr (2, n1, b1))) (hc : gcp sp dp n n0 n1 = true) (hl : Cond.methodLink own idx arraycopyName ∈ gALL) (hd1 : 0 < d) (hroom : (st.map fun v => v.category).sum ≤ 8) (hd : decode cc pc = .ok (.invokestatic idx, 3)) (kk : AW X own d cc (pc + 3) L st (gQ2 S k1 (va_cpy (S.2 k0) (S.2 k1) sp.toNatClampNeg dp.toNatClampNeg n.toNatClampNeg))) : AW X own d cc pc L (.int n :: .int dp :: .ref (gad X k1) :: .int sp :: .ref (gad X k0) :: st) S := by
  obtain ⟨p, l, e, R, s, m, args, below, meth, c, w, A, kc, ks, Q⟩ := X
  intro ok hml H locs ls hP hS hlv
  have hts := ok.2.2.2.1
  have hR := ok.2.2.2.2.2.2.2.2.2.2.1
  obtain ⟨c1, c2, c3, c4, c5⟩ := gcp_of hc
  have hnw : nativeFrameWords "java/lang/System" "arraycopy" 5 = 7 := by decide
  refine va_copyl (D := w.1) (cl := vwCl) (ws := gC w S) (tys := gTy w) (A := A) (ty := .long) ok.1 ok.2.1 (by rw [hml]; exact hlv.1.symm) ok.2.2.1 (hts _ hl) (hts _ g_cpy1) (hts _ g_cpy2) (hts _ g_cpy3) ok.2.2.2.2.1 hP (gC_D ok.2.2.2.2.2.1 ok.2.2.2.2.2.2.1) hS k0 k1 2 2 (gC_get h0) (gC_get h1) rfl rfl rfl c1 c2 c3 c4 c5 (fun _ _ => rfl) (by omega) (by rw [hnw]; omega) hd (fun H1 locs1 hP1 _ hS1 => ?_)
  have e1 : (gC w S).set k1 (w.2.1 k1, gE w (gQ2 S k1 (va_cpy (S.2 k0) (S.2 k1) sp.toNatClampNeg dp.toNatClampNeg n.toNatClampNeg)) k1 (.inr (2, n1, b1))) = gC w (gQ2 S k1 (va_cpy (S.2 k0) (S.2 k1) sp.toNatClampNeg dp.toNatClampNeg n.toNatClampNeg)) := gC_set h1 gQ2_ne1 gQ2_ne2
  refine kk ok hml H1 locs1 ls ?_ hS1 hlv
  rw [← e1]
  simpa only [gE, gQ2, va_up_s] using hP1
/-- static arrays of ints -/
theorem a_gets0 {ref : String} (hl : Cond.fieldLink own idx "FootIsle" "LEAST_SETTING" "[I" ∈ gALL) (hd : decode cc pc = .ok (.getstatic idx, 3)) (kk : AW X own d cc (pc + 3) L (.ref ((gw X).2.2.2 0) :: st) S) : AW X own d cc pc L st S := by
  obtain ⟨p, l, e, R, s, m, args, below, meth, c, w, A, kc, ks, Q⟩ := X
  intro ok hml H locs ls hP hS hlv
  exact va_gets (A := A) ok.1 ok.2.1 ok.2.2.2.2.2.2.2.2.2.2.2.1.1.1 hS ok.2.2.1 (ok.2.2.2.1 _ hl) (fun _ h => h) hd (kk ok hml H locs ls hP hS hlv)
theorem a_gets1 {ref : String} (hl : Cond.fieldLink own idx "FootIsle" "MOST_SETTING" "[I" ∈ gALL) (hd : decode cc pc = .ok (.getstatic idx, 3)) (kk : AW X own d cc (pc + 3) L (.ref ((gw X).2.2.2 1) :: st) S) : AW X own d cc pc L st S := by
  obtain ⟨p, l, e, R, s, m, args, below, meth, c, w, A, kc, ks, Q⟩ := X
  intro ok hml H locs ls hP hS hlv
  exact va_gets (A := A) ok.1 ok.2.1 ok.2.2.2.2.2.2.2.2.2.2.2.1.2.1.1 hS ok.2.2.1 (ok.2.2.2.1 _ hl) (fun _ h => h) hd (kk ok hml H locs ls hP hS hlv)
theorem a_sald0 {i : Int32} (hi : gin i 5 = true) (hd : decode cc pc = .ok (.iaload, 1)) (kk : AW X own d cc (pc + 1) L (.int (([0, 0, 0, 2, 0] : List Int32).getD i.toNatClampNeg 0) :: st) S) : AW X own d cc pc L (.int i :: .ref ((gw X).2.2.2 0) :: st) S := by
  obtain ⟨p, l, e, R, s, m, args, below, meth, c, w, A, kc, ks, Q⟩ := X
  intro ok hml H locs ls hP hS hlv
  exact va_ti (A := A) ok.1 ok.2.1 ok.2.2.2.2.2.2.2.2.2.2.2.1.1.2 hS (gin_in hi) rfl hd (kk ok hml H locs ls hP hS hlv)
theorem a_sald1 {i : Int32} (hi : gin i 5 = true) (hd : decode cc pc = .ok (.iaload, 1)) (kk : AW X own d cc (pc + 1) L (.int (([8, 9, 3, 12, 8] : List Int32).getD i.toNatClampNeg 0) :: st) S) : AW X own d cc pc L (.int i :: .ref ((gw X).2.2.2 1) :: st) S := by
  obtain ⟨p, l, e, R, s, m, args, below, meth, c, w, A, kc, ks, Q⟩ := X
  intro ok hml H locs ls hP hS hlv
  exact va_ti (A := A) ok.1 ok.2.1 ok.2.2.2.2.2.2.2.2.2.2.2.1.2.1.2 hS (gin_in hi) rfl hd (kk ok hml H locs ls hP hS hlv)
end Rows2
/-! taking an Option's answer apart -/
theorem g_if {α : Type} {c : Bool} {a : Option α} {x : α} (h : (if c = true then a else none) = some x) : c = true ∧ a = some x := by
  cases c with
  | true => exact ⟨rfl, h⟩
  | false => cases h
theorem g_ifP {α : Type} {c : Prop} [Decidable c] {a : Option α} {x : α} (h : (if c then a else none) = some x) : c ∧ a = some x := by
  by_cases hc : c
  · rw [if_pos hc] at h; exact ⟨hc, h⟩
  · rw [if_neg hc] at h; cases h
theorem g_bind {α β : Type} {o : Option α} {f : α → Option β} {x : β} (h : o.bind f = some x) : ∃ a, o = some a ∧ f a = some x := by
  cases o with
  | none => cases h
  | some a => exact ⟨a, rfl, h⟩
/-- loops: a step goes on (inl) or ends (inr) -/
def gLoop {P R : Type} (step : P → Option (P ⊕ R)) : Nat → P → Option R
  | 0, _ => none
  | n + 1, p => (step p).bind fun q => match q with
    | .inl p' => gLoop step n p'
    | .inr r => some r
theorem gLoop_s {P R : Type} {step : P → Option (P ⊕ R)} {n : Nat} {p : P} {r : R} (h : gLoop step (n + 1) p = some r) : (∃ p', step p = some (.inl p') ∧ gLoop step n p' = some r) ∨ step p = some (.inr r) := by
  obtain ⟨q, hq, h⟩ := g_bind h
  cases q with
  | inl p' => exact Or.inl ⟨p', hq, h⟩
  | inr r' => cases h; exact Or.inr hq
