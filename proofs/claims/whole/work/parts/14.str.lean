theorem fjJ0_38 : Cond.fieldLink RJ0 38 "java/lang/String" "COMPACT_STRINGS" "Z" ∈ gALL := gmem (i := 424) (by decide +kernel) rfl
theorem fjJ0_15 : Cond.fieldLink RJ0 15 "java/lang/String" "coder" "B" ∈ gALL := gmem (i := 1086) (by decide +kernel) rfl
theorem fjJ0_9 : Cond.fieldLink RJ0 9 "java/lang/String" "value" "[B" ∈ gALL := gmem (i := 1087) (by decide +kernel) rfl
section Rows4
variable {X : gX} {own : String} {d : Nat} {cc : ByteArray} {pc : Nat} {L : List (Option Value)} {st : List Value} {S S' : gSt}
variable {y : MethodName} {cy : ByteArray} {mL n dy idx : Nat} {ret : Option FieldType} {as : gWd → List Value} {As st0 : List Value}
theorem a_ldcS (hd : decode cc pc = .ok (.ldc 55, 2)) (kk : AW X RX4 d cc (pc + 2) L (.ref ((gw X).2.2.2 2) :: st) S) : AW X RX4 d cc pc L st S := by
  obtain ⟨p, l, e, R, s, m, args, below, meth, c, w, A, kc, ks, Q⟩ := X
  intro ok hml H locs ls hP hS hlv
  exact va_ldcS ok.1 ok.2.1 ok.2.2.1 ok.2.2.2.2.2.2.2.2.2.2.2.2 hd (kk ok hml H locs ls hP hS hlv)
theorem a_getcs (hl : Cond.fieldLink own idx "java/lang/String" "COMPACT_STRINGS" "Z" ∈ gALL) (hd : decode cc pc = .ok (.getstatic idx, 3)) (kk : AW X own d cc (pc + 3) L (.int 1 :: st) S) : AW X own d cc pc L st S := by
  obtain ⟨p, l, e, R, s, m, args, below, meth, c, w, A, kc, ks, Q⟩ := X
  intro ok hml H locs ls hP hS hlv
  exact va_gets (A := A) ok.1 ok.2.1 ok.2.2.2.2.2.2.2.2.2.2.2.1.2.2.1 hS ok.2.2.1 (ok.2.2.2.1 _ hl) (fun _ h => h) hd (kk ok hml H locs ls hP hS hlv)
theorem a_coder (hl : Cond.fieldLink own idx "java/lang/String" "coder" "B" ∈ gALL) (hd : decode cc pc = .ok (.getfield idx, 3)) (kk : AW X own d cc (pc + 3) L (.int 0 :: st) S) : AW X own d cc pc L (.ref ((gw X).2.2.2 2) :: st) S := by
  obtain ⟨p, l, e, R, s, m, args, below, meth, c, w, A, kc, ks, Q⟩ := X
  intro ok hml H locs ls hP hS hlv
  exact vk_getf (A := A) ok.1 ok.2.1 ok.2.2.2.2.2.2.2.2.2.2.2.1.2.2.2.2.1 hS ok.2.2.1 (ok.2.2.2.1 _ hl) (fun _ h => h) hd (kk ok hml H locs ls hP hS hlv)
theorem a_value (hl : Cond.fieldLink own idx "java/lang/String" "value" "[B" ∈ gALL) (hd : decode cc pc = .ok (.getfield idx, 3)) (kk : AW X own d cc (pc + 3) L (.ref ((gw X).2.2.2 3) :: st) S) : AW X own d cc pc L (.ref ((gw X).2.2.2 2) :: st) S := by
  obtain ⟨p, l, e, R, s, m, args, below, meth, c, w, A, kc, ks, Q⟩ := X
  intro ok hml H locs ls hP hS hlv
  exact vk_getf (A := A) ok.1 ok.2.1 ok.2.2.2.2.2.2.2.2.2.2.2.1.2.2.2.2.2.1 hS ok.2.2.1 (ok.2.2.2.1 _ hl) (fun _ h => h) hd (kk ok hml H locs ls hP hS hlv)
theorem a_tbald {i : Int32} (hi : gin i 5 = true) (hd : decode cc pc = .ok (.baload, 1)) (kk : AW X own d cc (pc + 1) L (.int (([112, 115, 104, 107, 111] : List Int32).getD i.toNatClampNeg 0) :: st) S) : AW X own d cc pc L (.int i :: .ref ((gw X).2.2.2 3) :: st) S := by
  obtain ⟨p, l, e, R, s, m, args, below, meth, c, w, A, kc, ks, Q⟩ := X
  intro ok hml H locs ls hP hS hlv
  exact va_tb (A := A) ok.1 ok.2.1 ok.2.2.2.2.2.2.2.2.2.2.2.1.2.2.2.2.2.2 hS (gin_in hi) rfl hd (kk ok hml H locs ls hP hS hlv)
theorem a_tblen (hd : decode cc pc = .ok (.arraylength, 1)) (kk : AW X own d cc (pc + 1) L (.int 5 :: st) S) : AW X own d cc pc L (.ref ((gw X).2.2.2 3) :: st) S := by
  obtain ⟨p, l, e, R, s, m, args, below, meth, c, w, A, kc, ks, Q⟩ := X
  intro ok hml H locs ls hP hS hlv
  exact va_tlen (A := A) ok.1 ok.2.1 ok.2.2.2.2.2.2.2.2.2.2.2.1.2.2.2.2.2.2 hS (by decide) hd (kk ok hml H locs ls hP hS hlv)
theorem a_bret {v : Int32} (hp : gPost X (some .byte) (some (.int v)) S) (hn : narrow .byte (.int v) = .int v) (hd : decode cc pc = .ok (.ireturn, 1)) : AW X own d cc pc L [.int v] S := by
  obtain ⟨p, l, e, R, s, m, args, below, meth, c, w, A, kc, ks, Q⟩ := X
  obtain ⟨hr, rfl⟩ := hp
  intro ok hml H locs ls hP hS hl
  exact W.zret ok.1 ok.2.1 hr hn (fun t ht hW => ⟨rfl, by rw [ht]; exact hP, hS.F ht⟩) hS.2.2 hd ok.2.2.2.2.2.2.2.2.2.1
theorem a_invTi {r : Int32} (hc : gCT y cy mL ret dy as S (some (.int r)) S') (hY : gY y cy mL ret n) (hV : Cond.instanceMethod y ∈ gALL ∧ Cond.selects y.cls y y ∈ gALL) (hl : Cond.methodLink own idx y ∈ gALL) (hy : y.cls = "java/lang/String") (has : as (gw X) = .ref ((gw X).2.2.2 2) :: As) (hn : As.length = n) (hdy : dy < d) (hst : st0 = As.reverse ++ .ref ((gw X).2.2.2 2) :: st) (hroom : (st.map fun v => v.category).sum ≤ 8) (hd : decode cc pc = .ok (.invokevirtual idx, 3)) (kk : AW X own d cc (pc + 3) L (.int r :: st) S') : AW X own d cc pc L st0 S := by
  obtain ⟨p, l, e, R, s, m, args, below, meth, c, w, A, kc, ks, Q⟩ := X
  intro ok hml H locs ls hP hS hlv
  have hc := hc l w H.size
  have hts := ok.2.2.2.1
  rw [show as w = .ref (w.2.2.2 2) :: As from has] at hc
  have hR := ok.2.2.2.2.2.2.2.2.2.2.1
  have cb : CallB R s args own idx y cy mL ret (gWs y cy mL ret) (gRm dy) 0 0 n := callB_of n hts (gGood hY.1) rfl rfl rfl (hts _ hY.2.1) (hts _ hl) hY.2.2.1 (by
    have := hR.1; have := hR.2.1; have := hY.2.2.2
    show dy + 1 ≤ R.frames ∧ 8 + (mL + 11) + 40 * dy ≤ R.locals
    omega)
  have hrecv : ∃ cellB : Cell, H[w.2.2.2 2]? = some cellB ∧ cellB.vm.isStatics = false ∧ s.vm.findClass y.cls = some cellB.cls := by
    obtain ⟨cell, h1, h2, h3, -⟩ := (ok.2.2.2.2.2.2.2.2.2.2.2.1.2.2.2.1).kept hS.2.1
    exact ⟨cell, h1, h2, by rw [hy]; exact h3⟩
  have hrun := va_runV (e := e) (below := below) (meth := meth) (cells := kc) (slots := ks) (locs := locs) (g := F0 m pc ls st0) (rest := st) (b := w.2.2.2 2) (As := As) (H := H) (nL := L.length) ⟨ok.1, ok.2.1, hml, ok.2.2.1, hts⟩ hc (C := y.cls) ⟨cb, hts _ hV.1, hts _ hV.2⟩ ⟨gQ_moved, hrecv, fun U hU hW => ⟨rfl, g_pre ok hP hS U hU hW⟩⟩ rfl hn hlv.1 hst (lv_room (m := m) (pc := pc) (ls := ls) (rest := st0) hroom) hd ⟨hR.2.2.1, hR.2.2.2⟩
  exact g_call hrun hS (g_sub (S := S) ok hS) (fun H1 locs1 hP1 hS1 => kk ok hml H1 locs1 ls hP1 hS1 hlv)
end Rows4
