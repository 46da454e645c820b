theorem dX6_isCell_0 : decode cX6_isCell 0 = .ok (.iload_n 0, 1) := by decide +kernel
theorem dX6_isCell_1 : decode cX6_isCell 1 = .ok (.ifCond .lt 13, 3) := by decide +kernel
theorem dX6_isCell_4 : decode cX6_isCell 4 = .ok (.iload_n 0, 1) := by decide +kernel
theorem dX6_isCell_5 : decode cX6_isCell 5 = .ok (.bipush 64, 2) := by decide +kernel
theorem dX6_isCell_7 : decode cX6_isCell 7 = .ok (.if_icmp .ge 7, 3) := by decide +kernel
theorem dX6_isCell_10 : decode cX6_isCell 10 = .ok (.iconst 1, 1) := by decide +kernel
theorem dX6_isCell_11 : decode cX6_isCell 11 = .ok (.goto 4, 3) := by decide +kernel
theorem dX6_isCell_14 : decode cX6_isCell 14 = .ok (.iconst 0, 1) := by decide +kernel
theorem dX6_isCell_15 : decode cX6_isCell 15 = .ok (.ireturn, 1) := by decide +kernel
def f_X6_isCell (p0 : Int32) (S : gSt) : Option (Int32 × gSt) :=
(if p0 < 0 then
some ((0 : Int32), S)
else
(if (64 : Int32) ≤ p0 then
some ((0 : Int32), S)
else
some ((1 : Int32), S)))
set_option maxHeartbeats 4000000 in
set_option maxRecDepth 20000 in
theorem ok_X6_isCell {p0 : Int32} {S S0 : gSt} {r0 : Int32}  (h : f_X6_isCell p0 S = some (r0, S0)) : gCT yX6_isCell cX6_isCell 1 (some .boolean) 0 (fun w => [.int p0]) S (some (.int r0)) S0 := by
  refine gEnter (fun X => [some (.int p0)]) (by decide) (fun X => ⟨rfl, rfl⟩) (fun w => Nat.le_of_ble_eq_true rfl) (fun X hp => ?_)
  show AW X RX6 0 cX6_isCell 0 [some (.int p0)] [] S
  unfold f_X6_isCell at h
  refine a_iloadn (pc := 0) dX6_isCell_0 rfl rfl ?_
  refine a_if_lt (pc := 1) (tgt := 14) dX6_isCell_1 (by decide) (fun c1 => ?_) (fun c1 => ?_)
  · rw [if_pos c1] at h
    refine a_iconst (pc := 14) (v := (0 : Int32)) dX6_isCell_14 (by decide) ?_
    obtain ⟨rfl, rfl⟩ := Prod.mk.inj (Option.some.inj h)
    exact a_zret hp rfl  dX6_isCell_15
  · rw [if_neg c1] at h
    refine a_iloadn (pc := 4) dX6_isCell_4 rfl rfl ?_
    refine a_bipush (pc := 5) (v := (64 : Int32)) dX6_isCell_5 (by decide) ?_
    refine a_icmp_ge (pc := 7) (tgt := 14) dX6_isCell_7 (by decide) (fun c2 => ?_) (fun c2 => ?_)
    · rw [if_pos c2] at h
      refine a_iconst (pc := 14) (v := (0 : Int32)) dX6_isCell_14 (by decide) ?_
      obtain ⟨rfl, rfl⟩ := Prod.mk.inj (Option.some.inj h)
      exact a_zret hp rfl  dX6_isCell_15
    · rw [if_neg c2] at h
      refine a_iconst (pc := 10) (v := (1 : Int32)) dX6_isCell_10 (by decide) ?_
      refine a_goto (pc := 11) (tgt := 15) dX6_isCell_11 (by decide) ?_
      obtain ⟨rfl, rfl⟩ := Prod.mk.inj (Option.some.inj h)
      exact a_zret hp rfl  dX6_isCell_15
theorem dX1_forget_0 : decode cX1_forget 0 = .ok (.aload_n 0, 1) := by decide +kernel
theorem dX1_forget_1 : decode cX1_forget 1 = .ok (.iconst 0, 1) := by decide +kernel
theorem dX1_forget_2 : decode cX1_forget 2 = .ok (.putfield 31, 3) := by decide +kernel
theorem dX1_forget_5 : decode cX1_forget 5 = .ok (.return_, 1) := by decide +kernel
def f_X1_forget (S : gSt) : Option gSt :=
gLet (gI S 8 6 (0 : Int32)) fun S1 =>
some S1
set_option maxHeartbeats 4000000 in
set_option maxRecDepth 20000 in
theorem ok_X1_forget {S S0 : gSt}  (h : f_X1_forget S = some S0) : gCT yX1_forget cX1_forget 1 none 0 (fun w => [.ref (w.2.1 8)]) S none S0 := by
  refine gEnter (fun X => [some (.ref (gad X 8))]) (by decide) (fun X => ⟨rfl, rfl⟩) (fun w => Nat.le_of_ble_eq_true rfl) (fun X hp => ?_)
  show AW X RX1 0 cX1_forget 0 [some (.ref (gad X 8))] [] S
  unfold f_X1_forget at h
  refine a_aloadn (pc := 0) dX1_forget_0 rfl rfl ?_
  refine a_iconst (pc := 1) (v := (0 : Int32)) dX1_forget_1 (by decide) ?_
  refine a_putI (pc := 2) flX1_31 sh_8 rfl rfl rfl dX1_forget_2 ?_
  obtain ⟨S1, eS1, h⟩ := g_let h
  refine a_nmS eS1 ?_
  obtain rfl := Option.some.inj h
  exact a_vret hp dX1_forget_5
theorem dX0_enter_0 : decode cX0_enter 0 = .ok (.aload_n 0, 1) := by decide +kernel
theorem dX0_enter_1 : decode cX0_enter 1 = .ok (.getfield 37, 3) := by decide +kernel
theorem dX0_enter_4 : decode cX0_enter 4 = .ok (.istore 4, 2) := by decide +kernel
theorem dX0_enter_6 : decode cX0_enter 6 = .ok (.aload_n 0, 1) := by decide +kernel
theorem dX0_enter_7 : decode cX0_enter 7 = .ok (.getfield 15, 3) := by decide +kernel
theorem dX0_enter_10 : decode cX0_enter 10 = .ok (.iload 4, 2) := by decide +kernel
theorem dX0_enter_12 : decode cX0_enter 12 = .ok (.iload_n 1, 1) := by decide +kernel
theorem dX0_enter_13 : decode cX0_enter 13 = .ok (.iastore, 1) := by decide +kernel
theorem dX0_enter_14 : decode cX0_enter 14 = .ok (.aload_n 0, 1) := by decide +kernel
theorem dX0_enter_15 : decode cX0_enter 15 = .ok (.getfield 18, 3) := by decide +kernel
theorem dX0_enter_18 : decode cX0_enter 18 = .ok (.iload 4, 2) := by decide +kernel
theorem dX0_enter_20 : decode cX0_enter 20 = .ok (.iload_n 2, 1) := by decide +kernel
theorem dX0_enter_21 : decode cX0_enter 21 = .ok (.iastore, 1) := by decide +kernel
theorem dX0_enter_22 : decode cX0_enter 22 = .ok (.aload_n 0, 1) := by decide +kernel
theorem dX0_enter_23 : decode cX0_enter 23 = .ok (.getfield 21, 3) := by decide +kernel
theorem dX0_enter_26 : decode cX0_enter 26 = .ok (.iload 4, 2) := by decide +kernel
theorem dX0_enter_28 : decode cX0_enter 28 = .ok (.iload_n 3, 1) := by decide +kernel
theorem dX0_enter_29 : decode cX0_enter 29 = .ok (.iastore, 1) := by decide +kernel
theorem dX0_enter_30 : decode cX0_enter 30 = .ok (.aload_n 0, 1) := by decide +kernel
theorem dX0_enter_31 : decode cX0_enter 31 = .ok (.getfield 24, 3) := by decide +kernel
theorem dX0_enter_34 : decode cX0_enter 34 = .ok (.iload 4, 2) := by decide +kernel
theorem dX0_enter_36 : decode cX0_enter 36 = .ok (.iconst 0, 1) := by decide +kernel
theorem dX0_enter_37 : decode cX0_enter 37 = .ok (.iastore, 1) := by decide +kernel
theorem dX0_enter_38 : decode cX0_enter 38 = .ok (.aload_n 0, 1) := by decide +kernel
theorem dX0_enter_39 : decode cX0_enter 39 = .ok (.dup, 1) := by decide +kernel
theorem dX0_enter_40 : decode cX0_enter 40 = .ok (.getfield 37, 3) := by decide +kernel
theorem dX0_enter_43 : decode cX0_enter 43 = .ok (.iconst 1, 1) := by decide +kernel
theorem dX0_enter_44 : decode cX0_enter 44 = .ok (.iadd, 1) := by decide +kernel
theorem dX0_enter_45 : decode cX0_enter 45 = .ok (.putfield 37, 3) := by decide +kernel
theorem dX0_enter_48 : decode cX0_enter 48 = .ok (.iload 4, 2) := by decide +kernel
theorem dX0_enter_50 : decode cX0_enter 50 = .ok (.ireturn, 1) := by decide +kernel
def f_X0_enter (p1 : Int32) (p2 : Int32) (p3 : Int32) (S : gSt) : Option (Int32 × gSt) :=
gLet (S.1 1 7) fun v1 =>
if gin v1 6 then
gLet (gI S 3 v1.toNatClampNeg p1) fun S3 =>
(if gin v1 6 then
gLet (gI S3 4 v1.toNatClampNeg p2) fun S5 =>
(if gin v1 6 then
gLet (gI S5 5 v1.toNatClampNeg p3) fun S7 =>
(if gin v1 6 then
gLet (gI S7 6 v1.toNatClampNeg (0 : Int32)) fun S9 =>
(gLet (gI S9 1 7 ((S9.1 1 7) + (1 : Int32))) fun S10 =>
some (v1, S10)) else none) else none) else none) else none
set_option maxHeartbeats 4000000 in
set_option maxRecDepth 20000 in
theorem ok_X0_enter {p1 : Int32} {p2 : Int32} {p3 : Int32} {S S0 : gSt} {r0 : Int32}  (h : f_X0_enter p1 p2 p3 S = some (r0, S0)) : gCT yX0_enter cX0_enter 5 (some .int) 0 (fun w => [.ref (w.2.1 1), .int p1, .int p2, .int p3]) S (some (.int r0)) S0 := by
  refine gEnter (fun X => [some (.ref (gad X 1)), some (.int p1), some (.int p2), some (.int p3), none]) (by decide) (fun X => ⟨rfl, rfl⟩) (fun w => Nat.le_of_ble_eq_true rfl) (fun X hp => ?_)
  show AW X RX0 0 cX0_enter 0 [some (.ref (gad X 1)), some (.int p1), some (.int p2), some (.int p3), none] [] S
  unfold f_X0_enter at h
  refine a_aloadn (pc := 0) dX0_enter_0 rfl rfl ?_
  refine a_getI (pc := 1) flX0_37 sh_1 rfl dX0_enter_1 ?_
  obtain ⟨v1, ev1, h⟩ := g_let h
  refine a_nmI ev1 ?_
  refine a_istore (pc := 4) dX0_enter_4 (Nat.le_of_ble_eq_true rfl) rfl (L' := [some (.ref (gad X 1)), some (.int p1), some (.int p2), some (.int p3), some (.int v1)]) rfl ?_
  refine a_aloadn (pc := 6) dX0_enter_6 rfl rfl ?_
  refine a_getA (pc := 7) flX0_15 sh_1 rfl dX0_enter_7 ?_
  refine a_iload (pc := 10) dX0_enter_10 rfl ?_
  refine a_iloadn (pc := 12) dX0_enter_12 rfl rfl ?_
  obtain ⟨hi2, h⟩ := g_if h
  refine a_iast (pc := 13) sh_3 hi2 dX0_enter_13 ?_
  obtain ⟨S3, eS3, h⟩ := g_let h
  refine a_nmS eS3 ?_
  refine a_aloadn (pc := 14) dX0_enter_14 rfl rfl ?_
  refine a_getA (pc := 15) flX0_18 sh_1 rfl dX0_enter_15 ?_
  refine a_iload (pc := 18) dX0_enter_18 rfl ?_
  refine a_iloadn (pc := 20) dX0_enter_20 rfl rfl ?_
  obtain ⟨hi4, h⟩ := g_if h
  refine a_iast (pc := 21) sh_4 hi4 dX0_enter_21 ?_
  obtain ⟨S5, eS5, h⟩ := g_let h
  refine a_nmS eS5 ?_
  refine a_aloadn (pc := 22) dX0_enter_22 rfl rfl ?_
  refine a_getA (pc := 23) flX0_21 sh_1 rfl dX0_enter_23 ?_
  refine a_iload (pc := 26) dX0_enter_26 rfl ?_
  refine a_iloadn (pc := 28) dX0_enter_28 rfl rfl ?_
  obtain ⟨hi6, h⟩ := g_if h
  refine a_iast (pc := 29) sh_5 hi6 dX0_enter_29 ?_
  obtain ⟨S7, eS7, h⟩ := g_let h
  refine a_nmS eS7 ?_
  refine a_aloadn (pc := 30) dX0_enter_30 rfl rfl ?_
  refine a_getA (pc := 31) flX0_24 sh_1 rfl dX0_enter_31 ?_
  refine a_iload (pc := 34) dX0_enter_34 rfl ?_
  refine a_iconst (pc := 36) (v := (0 : Int32)) dX0_enter_36 (by decide) ?_
  obtain ⟨hi8, h⟩ := g_if h
  refine a_iast (pc := 37) sh_6 hi8 dX0_enter_37 ?_
  obtain ⟨S9, eS9, h⟩ := g_let h
  refine a_nmS eS9 ?_
  refine a_aloadn (pc := 38) dX0_enter_38 rfl rfl ?_
  refine a_dup (pc := 39) dX0_enter_39 rfl ?_
  refine a_getI (pc := 40) flX0_37 sh_1 rfl dX0_enter_40 ?_
  refine a_iconst (pc := 43) (v := (1 : Int32)) dX0_enter_43 (by decide) ?_
  refine a_iadd (pc := 44) dX0_enter_44 ?_
  refine a_putI (pc := 45) flX0_37 sh_1 rfl rfl rfl dX0_enter_45 ?_
  obtain ⟨S10, eS10, h⟩ := g_let h
  refine a_nmS eS10 ?_
  refine a_iload (pc := 48) dX0_enter_48 rfl ?_
  obtain ⟨rfl, rfl⟩ := Prod.mk.inj (Option.some.inj h)
  exact a_iret hp dX0_enter_50
theorem dX6_walker_0 : decode cX6_walker 0 = .ok (.iload_n 1, 1) := by decide +kernel
theorem dX6_walker_1 : decode cX6_walker 1 = .ok (.ifCond .lt 26, 3) := by decide +kernel
theorem dX6_walker_4 : decode cX6_walker 4 = .ok (.iload_n 1, 1) := by decide +kernel
theorem dX6_walker_5 : decode cX6_walker 5 = .ok (.iconst 4, 1) := by decide +kernel
theorem dX6_walker_6 : decode cX6_walker 6 = .ok (.if_icmp .gt 21, 3) := by decide +kernel
theorem dX6_walker_9 : decode cX6_walker 9 = .ok (.iload_n 2, 1) := by decide +kernel
theorem dX6_walker_10 : decode cX6_walker 10 = .ok (.iconst 1, 1) := by decide +kernel
theorem dX6_walker_11 : decode cX6_walker 11 = .ok (.if_icmp .lt 16, 3) := by decide +kernel
theorem dX6_walker_14 : decode cX6_walker 14 = .ok (.iload_n 2, 1) := by decide +kernel
theorem dX6_walker_15 : decode cX6_walker 15 = .ok (.bipush 9, 2) := by decide +kernel
theorem dX6_walker_17 : decode cX6_walker 17 = .ok (.if_icmp .gt 10, 3) := by decide +kernel
theorem dX6_walker_20 : decode cX6_walker 20 = .ok (.iload_n 3, 1) := by decide +kernel
theorem dX6_walker_21 : decode cX6_walker 21 = .ok (.invokestatic 51, 3) := by decide +kernel
theorem dX6_walker_24 : decode cX6_walker 24 = .ok (.ifCond .ne 5, 3) := by decide +kernel
theorem dX6_walker_27 : decode cX6_walker 27 = .ok (.iconst (-1), 1) := by decide +kernel
theorem dX6_walker_28 : decode cX6_walker 28 = .ok (.ireturn, 1) := by decide +kernel
theorem dX6_walker_29 : decode cX6_walker 29 = .ok (.aload_n 0, 1) := by decide +kernel
theorem dX6_walker_30 : decode cX6_walker 30 = .ok (.getfield 12, 3) := by decide +kernel
theorem dX6_walker_33 : decode cX6_walker 33 = .ok (.getfield 55, 3) := by decide +kernel
theorem dX6_walker_36 : decode cX6_walker 36 = .ok (.bipush 6, 2) := by decide +kernel
theorem dX6_walker_38 : decode cX6_walker 38 = .ok (.if_icmp .lt 6, 3) := by decide +kernel
theorem dX6_walker_41 : decode cX6_walker 41 = .ok (.bipush (-3), 2) := by decide +kernel
theorem dX6_walker_43 : decode cX6_walker 43 = .ok (.ireturn, 1) := by decide +kernel
theorem dX6_walker_44 : decode cX6_walker 44 = .ok (.aload_n 0, 1) := by decide +kernel
theorem dX6_walker_45 : decode cX6_walker 45 = .ok (.getfield 12, 3) := by decide +kernel
theorem dX6_walker_48 : decode cX6_walker 48 = .ok (.getfield 59, 3) := by decide +kernel
theorem dX6_walker_51 : decode cX6_walker 51 = .ok (.invokevirtual 63, 3) := by decide +kernel
theorem dX6_walker_54 : decode cX6_walker 54 = .ok (.aload_n 0, 1) := by decide +kernel
theorem dX6_walker_55 : decode cX6_walker 55 = .ok (.getfield 12, 3) := by decide +kernel
theorem dX6_walker_58 : decode cX6_walker 58 = .ok (.iload_n 1, 1) := by decide +kernel
theorem dX6_walker_59 : decode cX6_walker 59 = .ok (.iload_n 2, 1) := by decide +kernel
theorem dX6_walker_60 : decode cX6_walker 60 = .ok (.iload_n 3, 1) := by decide +kernel
theorem dX6_walker_61 : decode cX6_walker 61 = .ok (.invokevirtual 68, 3) := by decide +kernel
theorem dX6_walker_64 : decode cX6_walker 64 = .ok (.ireturn, 1) := by decide +kernel
def f_X6_walker (p1 : Int32) (p2 : Int32) (p3 : Int32) (S : gSt) : Option (Int32 × gSt) :=
(if p1 < 0 then
some ((-1 : Int32), S)
else
(if (4 : Int32) < p1 then
some ((-1 : Int32), S)
else
(if p2 < (1 : Int32) then
some ((-1 : Int32), S)
else
(if (9 : Int32) < p2 then
some ((-1 : Int32), S)
else
gBind2 (f_X6_isCell p3 S) fun r7 S5 =>
(if r7 = 0 then
some ((-1 : Int32), S5)
else
(if (S5.1 1 7) < (6 : Int32) then
(f_X1_forget S5).bind fun S10 =>
gBind2 (f_X0_enter p1 p2 p3 S10) fun r14 S12 =>
some (r14, S12)
else
some ((-3 : Int32), S5)))))))
set_option maxHeartbeats 4000000 in
set_option maxRecDepth 20000 in
theorem ok_X6_walker {p1 : Int32} {p2 : Int32} {p3 : Int32} {S S0 : gSt} {r0 : Int32}  (h : f_X6_walker p1 p2 p3 S = some (r0, S0)) : gCT yX6_walker cX6_walker 4 (some .int) 1 (fun w => [.ref (w.2.1 0), .int p1, .int p2, .int p3]) S (some (.int r0)) S0 := by
  refine gEnter (fun X => [some (.ref (gad X 0)), some (.int p1), some (.int p2), some (.int p3)]) (by decide) (fun X => ⟨rfl, rfl⟩) (fun w => Nat.le_of_ble_eq_true rfl) (fun X hp => ?_)
  show AW X RX6 1 cX6_walker 0 [some (.ref (gad X 0)), some (.int p1), some (.int p2), some (.int p3)] [] S
  unfold f_X6_walker at h
  refine a_iloadn (pc := 0) dX6_walker_0 rfl rfl ?_
  refine a_if_lt (pc := 1) (tgt := 27) dX6_walker_1 (by decide) (fun c1 => ?_) (fun c1 => ?_)
  · rw [if_pos c1] at h
    refine a_iconst (pc := 27) (v := (-1 : Int32)) dX6_walker_27 (by decide) ?_
    obtain ⟨rfl, rfl⟩ := Prod.mk.inj (Option.some.inj h)
    exact a_iret hp dX6_walker_28
  · rw [if_neg c1] at h
    refine a_iloadn (pc := 4) dX6_walker_4 rfl rfl ?_
    refine a_iconst (pc := 5) (v := (4 : Int32)) dX6_walker_5 (by decide) ?_
    refine a_icmp_gt (pc := 6) (tgt := 27) dX6_walker_6 (by decide) (fun c2 => ?_) (fun c2 => ?_)
    · rw [if_pos c2] at h
      refine a_iconst (pc := 27) (v := (-1 : Int32)) dX6_walker_27 (by decide) ?_
      obtain ⟨rfl, rfl⟩ := Prod.mk.inj (Option.some.inj h)
      exact a_iret hp dX6_walker_28
    · rw [if_neg c2] at h
      refine a_iloadn (pc := 9) dX6_walker_9 rfl rfl ?_
      refine a_iconst (pc := 10) (v := (1 : Int32)) dX6_walker_10 (by decide) ?_
      refine a_icmp_lt (pc := 11) (tgt := 27) dX6_walker_11 (by decide) (fun c3 => ?_) (fun c3 => ?_)
      · rw [if_pos c3] at h
        refine a_iconst (pc := 27) (v := (-1 : Int32)) dX6_walker_27 (by decide) ?_
        obtain ⟨rfl, rfl⟩ := Prod.mk.inj (Option.some.inj h)
        exact a_iret hp dX6_walker_28
      · rw [if_neg c3] at h
        refine a_iloadn (pc := 14) dX6_walker_14 rfl rfl ?_
        refine a_bipush (pc := 15) (v := (9 : Int32)) dX6_walker_15 (by decide) ?_
        refine a_icmp_gt (pc := 17) (tgt := 27) dX6_walker_17 (by decide) (fun c4 => ?_) (fun c4 => ?_)
        · rw [if_pos c4] at h
          refine a_iconst (pc := 27) (v := (-1 : Int32)) dX6_walker_27 (by decide) ?_
          obtain ⟨rfl, rfl⟩ := Prod.mk.inj (Option.some.inj h)
          exact a_iret hp dX6_walker_28
        · rw [if_neg c4] at h
          refine a_iloadn (pc := 20) dX6_walker_20 rfl rfl ?_
          obtain ⟨r7, S5, hc6, h⟩ := g_bind2 h
          refine a_invSi (pc := 21) (ok_X6_isCell hc6) gyX6_isCell syX6_isCell mlX6_51 (As := [.int p3]) rfl rfl (by decide) (st := []) rfl (Nat.le_of_ble_eq_true rfl) dX6_walker_21 ?_
          refine a_if_ne (pc := 24) (tgt := 29) dX6_walker_24 (by decide) (fun c8 => ?_) (fun c8 => ?_)
          · rw [if_neg c8] at h
            refine a_aloadn (pc := 29) dX6_walker_29 rfl rfl ?_
            refine a_getA (pc := 30) flX6_12 sh_0 rfl dX6_walker_30 ?_
            refine a_getI (pc := 33) flX6_55 sh_1 rfl dX6_walker_33 ?_
            refine a_bipush (pc := 36) (v := (6 : Int32)) dX6_walker_36 (by decide) ?_
            refine a_icmp_lt (pc := 38) (tgt := 44) dX6_walker_38 (by decide) (fun c9 => ?_) (fun c9 => ?_)
            · rw [if_pos c9] at h
              refine a_aloadn (pc := 44) dX6_walker_44 rfl rfl ?_
              refine a_getA (pc := 45) flX6_12 sh_0 rfl dX6_walker_45 ?_
              refine a_getA (pc := 48) flX6_59 sh_1 rfl dX6_walker_48 ?_
              obtain ⟨S10, hc11, h⟩ := g_bind h
              refine a_invVv (pc := 51) (ok_X1_forget hc11) gyX1_forget vyX1_forget mlX6_63 sh_8 rfl (As := []) rfl rfl (by decide) (st := []) rfl (Nat.le_of_ble_eq_true rfl) dX6_walker_51 ?_
              refine a_aloadn (pc := 54) dX6_walker_54 rfl rfl ?_
              refine a_getA (pc := 55) flX6_12 sh_0 rfl dX6_walker_55 ?_
              refine a_iloadn (pc := 58) dX6_walker_58 rfl rfl ?_
              refine a_iloadn (pc := 59) dX6_walker_59 rfl rfl ?_
              refine a_iloadn (pc := 60) dX6_walker_60 rfl rfl ?_
              obtain ⟨r14, S12, hc13, h⟩ := g_bind2 h
              refine a_invVi (pc := 61) (ok_X0_enter hc13) gyX0_enter vyX0_enter mlX6_68 sh_1 rfl (As := [.int p1, .int p2, .int p3]) rfl rfl (by decide) (st := []) rfl (Nat.le_of_ble_eq_true rfl) dX6_walker_61 ?_
              obtain ⟨rfl, rfl⟩ := Prod.mk.inj (Option.some.inj h)
              exact a_iret hp dX6_walker_64
            · rw [if_neg c9] at h
              refine a_bipush (pc := 41) (v := (-3 : Int32)) dX6_walker_41 (by decide) ?_
              obtain ⟨rfl, rfl⟩ := Prod.mk.inj (Option.some.inj h)
              exact a_iret hp dX6_walker_43
          · rw [if_pos c8] at h
            refine a_iconst (pc := 27) (v := (-1 : Int32)) dX6_walker_27 (by decide) ?_
            obtain ⟨rfl, rfl⟩ := Prod.mk.inj (Option.some.inj h)
            exact a_iret hp dX6_walker_28
theorem dX0_has_0 : decode cX0_has 0 = .ok (.iload_n 1, 1) := by decide +kernel
theorem dX0_has_1 : decode cX0_has 1 = .ok (.ifCond .lt 15, 3) := by decide +kernel
theorem dX0_has_4 : decode cX0_has 4 = .ok (.iload_n 1, 1) := by decide +kernel
theorem dX0_has_5 : decode cX0_has 5 = .ok (.aload_n 0, 1) := by decide +kernel
theorem dX0_has_6 : decode cX0_has 6 = .ok (.getfield 37, 3) := by decide +kernel
theorem dX0_has_9 : decode cX0_has 9 = .ok (.if_icmp .ge 7, 3) := by decide +kernel
theorem dX0_has_12 : decode cX0_has 12 = .ok (.iconst 1, 1) := by decide +kernel
theorem dX0_has_13 : decode cX0_has 13 = .ok (.goto 4, 3) := by decide +kernel
theorem dX0_has_16 : decode cX0_has 16 = .ok (.iconst 0, 1) := by decide +kernel
theorem dX0_has_17 : decode cX0_has 17 = .ok (.ireturn, 1) := by decide +kernel
def f_X0_has (p1 : Int32) (S : gSt) : Option (Int32 × gSt) :=
(if p1 < 0 then
some ((0 : Int32), S)
else
(if (S.1 1 7) ≤ p1 then
some ((0 : Int32), S)
else
some ((1 : Int32), S)))
set_option maxHeartbeats 4000000 in
set_option maxRecDepth 20000 in
theorem ok_X0_has {p1 : Int32} {S S0 : gSt} {r0 : Int32}  (h : f_X0_has p1 S = some (r0, S0)) : gCT yX0_has cX0_has 2 (some .boolean) 0 (fun w => [.ref (w.2.1 1), .int p1]) S (some (.int r0)) S0 := by
  refine gEnter (fun X => [some (.ref (gad X 1)), some (.int p1)]) (by decide) (fun X => ⟨rfl, rfl⟩) (fun w => Nat.le_of_ble_eq_true rfl) (fun X hp => ?_)
  show AW X RX0 0 cX0_has 0 [some (.ref (gad X 1)), some (.int p1)] [] S
  unfold f_X0_has at h
  refine a_iloadn (pc := 0) dX0_has_0 rfl rfl ?_
  refine a_if_lt (pc := 1) (tgt := 16) dX0_has_1 (by decide) (fun c1 => ?_) (fun c1 => ?_)
  · rw [if_pos c1] at h
    refine a_iconst (pc := 16) (v := (0 : Int32)) dX0_has_16 (by decide) ?_
    obtain ⟨rfl, rfl⟩ := Prod.mk.inj (Option.some.inj h)
    exact a_zret hp rfl  dX0_has_17
  · rw [if_neg c1] at h
    refine a_iloadn (pc := 4) dX0_has_4 rfl rfl ?_
    refine a_aloadn (pc := 5) dX0_has_5 rfl rfl ?_
    refine a_getI (pc := 6) flX0_37 sh_1 rfl dX0_has_6 ?_
    refine a_icmp_ge (pc := 9) (tgt := 16) dX0_has_9 (by decide) (fun c2 => ?_) (fun c2 => ?_)
    · rw [if_pos c2] at h
      refine a_iconst (pc := 16) (v := (0 : Int32)) dX0_has_16 (by decide) ?_
      obtain ⟨rfl, rfl⟩ := Prod.mk.inj (Option.some.inj h)
      exact a_zret hp rfl  dX0_has_17
    · rw [if_neg c2] at h
      refine a_iconst (pc := 12) (v := (1 : Int32)) dX0_has_12 (by decide) ?_
      refine a_goto (pc := 13) (tgt := 17) dX0_has_13 (by decide) ?_
      obtain ⟨rfl, rfl⟩ := Prod.mk.inj (Option.some.inj h)
      exact a_zret hp rfl  dX0_has_17
theorem dX0_treadOf_0 : decode cX0_treadOf 0 = .ok (.aload_n 0, 1) := by decide +kernel
theorem dX0_treadOf_1 : decode cX0_treadOf 1 = .ok (.getfield 15, 3) := by decide +kernel
theorem dX0_treadOf_4 : decode cX0_treadOf 4 = .ok (.iload_n 1, 1) := by decide +kernel
theorem dX0_treadOf_5 : decode cX0_treadOf 5 = .ok (.iaload, 1) := by decide +kernel
theorem dX0_treadOf_6 : decode cX0_treadOf 6 = .ok (.tableswitch 44 2 4 #[26, 26, 35], 26) := by decide +kernel
theorem dX0_treadOf_32 : decode cX0_treadOf 32 = .ok (.iconst 2, 1) := by decide +kernel
theorem dX0_treadOf_33 : decode cX0_treadOf 33 = .ok (.aload_n 0, 1) := by decide +kernel
theorem dX0_treadOf_34 : decode cX0_treadOf 34 = .ok (.getfield 18, 3) := by decide +kernel
theorem dX0_treadOf_37 : decode cX0_treadOf 37 = .ok (.iload_n 1, 1) := by decide +kernel
theorem dX0_treadOf_38 : decode cX0_treadOf 38 = .ok (.iaload, 1) := by decide +kernel
theorem dX0_treadOf_39 : decode cX0_treadOf 39 = .ok (.imul, 1) := by decide +kernel
theorem dX0_treadOf_40 : decode cX0_treadOf 40 = .ok (.ireturn, 1) := by decide +kernel
theorem dX0_treadOf_41 : decode cX0_treadOf 41 = .ok (.aload_n 0, 1) := by decide +kernel
theorem dX0_treadOf_42 : decode cX0_treadOf 42 = .ok (.getfield 18, 3) := by decide +kernel
theorem dX0_treadOf_45 : decode cX0_treadOf 45 = .ok (.iload_n 1, 1) := by decide +kernel
theorem dX0_treadOf_46 : decode cX0_treadOf 46 = .ok (.iaload, 1) := by decide +kernel
theorem dX0_treadOf_47 : decode cX0_treadOf 47 = .ok (.iconst 1, 1) := by decide +kernel
theorem dX0_treadOf_48 : decode cX0_treadOf 48 = .ok (.iadd, 1) := by decide +kernel
theorem dX0_treadOf_49 : decode cX0_treadOf 49 = .ok (.ireturn, 1) := by decide +kernel
theorem dX0_treadOf_50 : decode cX0_treadOf 50 = .ok (.aload_n 0, 1) := by decide +kernel
theorem dX0_treadOf_51 : decode cX0_treadOf 51 = .ok (.getfield 18, 3) := by decide +kernel
theorem dX0_treadOf_54 : decode cX0_treadOf 54 = .ok (.iload_n 1, 1) := by decide +kernel
theorem dX0_treadOf_55 : decode cX0_treadOf 55 = .ok (.iaload, 1) := by decide +kernel
theorem dX0_treadOf_56 : decode cX0_treadOf 56 = .ok (.ireturn, 1) := by decide +kernel
def f_X0_treadOf (p1 : Int32) (S : gSt) : Option (Int32 × gSt) :=
if gin p1 6 then
((if (S.1 3 p1.toNatClampNeg).toInt < 2 ∨ 4 < (S.1 3 p1.toNatClampNeg).toInt then
if gin p1 6 then
(some (S.1 4 p1.toNatClampNeg, S)) else none
else if (S.1 3 p1.toNatClampNeg) = (2 : Int32) then
if gin p1 6 then
(some ((2 : Int32) * (S.1 4 p1.toNatClampNeg), S)) else none
else if (S.1 3 p1.toNatClampNeg) = (3 : Int32) then
if gin p1 6 then
(some ((2 : Int32) * (S.1 4 p1.toNatClampNeg), S)) else none
else if (S.1 3 p1.toNatClampNeg) = (4 : Int32) then
if gin p1 6 then
(some ((S.1 4 p1.toNatClampNeg) + (1 : Int32), S)) else none
else none)) else none
set_option maxHeartbeats 4000000 in
set_option maxRecDepth 20000 in
theorem ok_X0_treadOf {p1 : Int32} {S S0 : gSt} {r0 : Int32}  (h : f_X0_treadOf p1 S = some (r0, S0)) : gCT yX0_treadOf cX0_treadOf 2 (some .int) 0 (fun w => [.ref (w.2.1 1), .int p1]) S (some (.int r0)) S0 := by
  refine gEnter (fun X => [some (.ref (gad X 1)), some (.int p1)]) (by decide) (fun X => ⟨rfl, rfl⟩) (fun w => Nat.le_of_ble_eq_true rfl) (fun X hp => ?_)
  show AW X RX0 0 cX0_treadOf 0 [some (.ref (gad X 1)), some (.int p1)] [] S
  unfold f_X0_treadOf at h
  refine a_aloadn (pc := 0) dX0_treadOf_0 rfl rfl ?_
  refine a_getA (pc := 1) flX0_15 sh_1 rfl dX0_treadOf_1 ?_
  refine a_iloadn (pc := 4) dX0_treadOf_4 rfl rfl ?_
  obtain ⟨hi1, h⟩ := g_if h
  refine a_iald (pc := 5) sh_3 hi1 dX0_treadOf_5 ?_
  by_cases c2 : (S.1 3 p1.toNatClampNeg).toInt < 2 ∨ 4 < (S.1 3 p1.toNatClampNeg).toInt
  · rw [if_pos c2] at h
    refine a_tabOut (pc := 6) (tgt := 50) dX0_treadOf_6 c2 (by decide) ?_
    refine a_aloadn (pc := 50) dX0_treadOf_50 rfl rfl ?_
    refine a_getA (pc := 51) flX0_18 sh_1 rfl dX0_treadOf_51 ?_
    refine a_iloadn (pc := 54) dX0_treadOf_54 rfl rfl ?_
    obtain ⟨hi3, h⟩ := g_if h
    refine a_iald (pc := 55) sh_4 hi3 dX0_treadOf_55 ?_
    obtain ⟨rfl, rfl⟩ := Prod.mk.inj (Option.some.inj h)
    exact a_iret hp dX0_treadOf_56
  rw [if_neg c2] at h
  by_cases c4 : (S.1 3 p1.toNatClampNeg) = (2 : Int32)
  · rw [if_pos c4] at h
    refine a_nmI c4 ?_
    refine a_tabIn (pc := 6) (off := 26) (tgt := 32) dX0_treadOf_6 (by decide) (by decide) (by decide) (by decide) ?_
    refine a_iconst (pc := 32) (v := (2 : Int32)) dX0_treadOf_32 (by decide) ?_
    refine a_aloadn (pc := 33) dX0_treadOf_33 rfl rfl ?_
    refine a_getA (pc := 34) flX0_18 sh_1 rfl dX0_treadOf_34 ?_
    refine a_iloadn (pc := 37) dX0_treadOf_37 rfl rfl ?_
    obtain ⟨hi5, h⟩ := g_if h
    refine a_iald (pc := 38) sh_4 hi5 dX0_treadOf_38 ?_
    refine a_imul (pc := 39) dX0_treadOf_39 ?_
    obtain ⟨rfl, rfl⟩ := Prod.mk.inj (Option.some.inj h)
    exact a_iret hp dX0_treadOf_40
  rw [if_neg c4] at h
  by_cases c6 : (S.1 3 p1.toNatClampNeg) = (3 : Int32)
  · rw [if_pos c6] at h
    refine a_nmI c6 ?_
    refine a_tabIn (pc := 6) (off := 26) (tgt := 32) dX0_treadOf_6 (by decide) (by decide) (by decide) (by decide) ?_
    refine a_iconst (pc := 32) (v := (2 : Int32)) dX0_treadOf_32 (by decide) ?_
    refine a_aloadn (pc := 33) dX0_treadOf_33 rfl rfl ?_
    refine a_getA (pc := 34) flX0_18 sh_1 rfl dX0_treadOf_34 ?_
    refine a_iloadn (pc := 37) dX0_treadOf_37 rfl rfl ?_
    obtain ⟨hi7, h⟩ := g_if h
    refine a_iald (pc := 38) sh_4 hi7 dX0_treadOf_38 ?_
    refine a_imul (pc := 39) dX0_treadOf_39 ?_
    obtain ⟨rfl, rfl⟩ := Prod.mk.inj (Option.some.inj h)
    exact a_iret hp dX0_treadOf_40
  rw [if_neg c6] at h
  by_cases c8 : (S.1 3 p1.toNatClampNeg) = (4 : Int32)
  · rw [if_pos c8] at h
    refine a_nmI c8 ?_
    refine a_tabIn (pc := 6) (off := 35) (tgt := 41) dX0_treadOf_6 (by decide) (by decide) (by decide) (by decide) ?_
    refine a_aloadn (pc := 41) dX0_treadOf_41 rfl rfl ?_
    refine a_getA (pc := 42) flX0_18 sh_1 rfl dX0_treadOf_42 ?_
    refine a_iloadn (pc := 45) dX0_treadOf_45 rfl rfl ?_
    obtain ⟨hi9, h⟩ := g_if h
    refine a_iald (pc := 46) sh_4 hi9 dX0_treadOf_46 ?_
    refine a_iconst (pc := 47) (v := (1 : Int32)) dX0_treadOf_47 (by decide) ?_
    refine a_iadd (pc := 48) dX0_treadOf_48 ?_
    obtain ⟨rfl, rfl⟩ := Prod.mk.inj (Option.some.inj h)
    exact a_iret hp dX0_treadOf_49
  rw [if_neg c8] at h
  cases h
theorem dX0_shoesOf_0 : decode cX0_shoesOf 0 = .ok (.aload_n 0, 1) := by decide +kernel
theorem dX0_shoesOf_1 : decode cX0_shoesOf 1 = .ok (.getfield 15, 3) := by decide +kernel
theorem dX0_shoesOf_4 : decode cX0_shoesOf 4 = .ok (.iload_n 1, 1) := by decide +kernel
theorem dX0_shoesOf_5 : decode cX0_shoesOf 5 = .ok (.iaload, 1) := by decide +kernel
theorem dX0_shoesOf_6 : decode cX0_shoesOf 6 = .ok (.iconst 1, 1) := by decide +kernel
theorem dX0_shoesOf_7 : decode cX0_shoesOf 7 = .ok (.if_icmp .eq 5, 3) := by decide +kernel
theorem dX0_shoesOf_10 : decode cX0_shoesOf 10 = .ok (.iload_n 1, 1) := by decide +kernel
theorem dX0_shoesOf_11 : decode cX0_shoesOf 11 = .ok (.ireturn, 1) := by decide +kernel
theorem dX0_shoesOf_12 : decode cX0_shoesOf 12 = .ok (.iload_n 1, 1) := by decide +kernel
theorem dX0_shoesOf_13 : decode cX0_shoesOf 13 = .ok (.iconst 1, 1) := by decide +kernel
theorem dX0_shoesOf_14 : decode cX0_shoesOf 14 = .ok (.iadd, 1) := by decide +kernel
theorem dX0_shoesOf_15 : decode cX0_shoesOf 15 = .ok (.aload_n 0, 1) := by decide +kernel
theorem dX0_shoesOf_16 : decode cX0_shoesOf 16 = .ok (.getfield 37, 3) := by decide +kernel
theorem dX0_shoesOf_19 : decode cX0_shoesOf 19 = .ok (.if_icmp .ge 9, 3) := by decide +kernel
theorem dX0_shoesOf_22 : decode cX0_shoesOf 22 = .ok (.iload_n 1, 1) := by decide +kernel
theorem dX0_shoesOf_23 : decode cX0_shoesOf 23 = .ok (.iconst 1, 1) := by decide +kernel
theorem dX0_shoesOf_24 : decode cX0_shoesOf 24 = .ok (.iadd, 1) := by decide +kernel
theorem dX0_shoesOf_25 : decode cX0_shoesOf 25 = .ok (.goto 4, 3) := by decide +kernel
theorem dX0_shoesOf_28 : decode cX0_shoesOf 28 = .ok (.iconst 0, 1) := by decide +kernel
theorem dX0_shoesOf_29 : decode cX0_shoesOf 29 = .ok (.ireturn, 1) := by decide +kernel
def f_X0_shoesOf (p1 : Int32) (S : gSt) : Option (Int32 × gSt) :=
if gin p1 6 then
((if (S.1 3 p1.toNatClampNeg) = (1 : Int32) then
(if (S.1 1 7) ≤ (p1 + (1 : Int32)) then
some ((0 : Int32), S)
else
some (p1 + (1 : Int32), S))
else
some (p1, S))) else none
set_option maxHeartbeats 4000000 in
set_option maxRecDepth 20000 in
theorem ok_X0_shoesOf {p1 : Int32} {S S0 : gSt} {r0 : Int32}  (h : f_X0_shoesOf p1 S = some (r0, S0)) : gCT yX0_shoesOf cX0_shoesOf 2 (some .int) 0 (fun w => [.ref (w.2.1 1), .int p1]) S (some (.int r0)) S0 := by
  refine gEnter (fun X => [some (.ref (gad X 1)), some (.int p1)]) (by decide) (fun X => ⟨rfl, rfl⟩) (fun w => Nat.le_of_ble_eq_true rfl) (fun X hp => ?_)
  show AW X RX0 0 cX0_shoesOf 0 [some (.ref (gad X 1)), some (.int p1)] [] S
  unfold f_X0_shoesOf at h
  refine a_aloadn (pc := 0) dX0_shoesOf_0 rfl rfl ?_
  refine a_getA (pc := 1) flX0_15 sh_1 rfl dX0_shoesOf_1 ?_
  refine a_iloadn (pc := 4) dX0_shoesOf_4 rfl rfl ?_
  obtain ⟨hi1, h⟩ := g_if h
  refine a_iald (pc := 5) sh_3 hi1 dX0_shoesOf_5 ?_
  refine a_iconst (pc := 6) (v := (1 : Int32)) dX0_shoesOf_6 (by decide) ?_
  refine a_icmp_eq (pc := 7) (tgt := 12) dX0_shoesOf_7 (by decide) (fun c2 => ?_) (fun c2 => ?_)
  · rw [if_pos c2] at h
    refine a_iloadn (pc := 12) dX0_shoesOf_12 rfl rfl ?_
    refine a_iconst (pc := 13) (v := (1 : Int32)) dX0_shoesOf_13 (by decide) ?_
    refine a_iadd (pc := 14) dX0_shoesOf_14 ?_
    refine a_aloadn (pc := 15) dX0_shoesOf_15 rfl rfl ?_
    refine a_getI (pc := 16) flX0_37 sh_1 rfl dX0_shoesOf_16 ?_
    refine a_icmp_ge (pc := 19) (tgt := 28) dX0_shoesOf_19 (by decide) (fun c3 => ?_) (fun c3 => ?_)
    · rw [if_pos c3] at h
      refine a_iconst (pc := 28) (v := (0 : Int32)) dX0_shoesOf_28 (by decide) ?_
      obtain ⟨rfl, rfl⟩ := Prod.mk.inj (Option.some.inj h)
      exact a_iret hp dX0_shoesOf_29
    · rw [if_neg c3] at h
      refine a_iloadn (pc := 22) dX0_shoesOf_22 rfl rfl ?_
      refine a_iconst (pc := 23) (v := (1 : Int32)) dX0_shoesOf_23 (by decide) ?_
      refine a_iadd (pc := 24) dX0_shoesOf_24 ?_
      refine a_goto (pc := 25) (tgt := 29) dX0_shoesOf_25 (by decide) ?_
      obtain ⟨rfl, rfl⟩ := Prod.mk.inj (Option.some.inj h)
      exact a_iret hp dX0_shoesOf_29
  · rw [if_neg c2] at h
    refine a_iloadn (pc := 10) dX0_shoesOf_10 rfl rfl ?_
    obtain ⟨rfl, rfl⟩ := Prod.mk.inj (Option.some.inj h)
    exact a_iret hp dX0_shoesOf_11
theorem dJ7_fill_53178_0 : decode cJ7_fill_53178 0 = .ok (.iconst 0, 1) := by decide +kernel
theorem dJ7_fill_53178_1 : decode cJ7_fill_53178 1 = .ok (.istore_n 2, 1) := by decide +kernel
theorem dJ7_fill_53178_2 : decode cJ7_fill_53178 2 = .ok (.aload_n 0, 1) := by decide +kernel
theorem dJ7_fill_53178_3 : decode cJ7_fill_53178 3 = .ok (.arraylength, 1) := by decide +kernel
theorem dJ7_fill_53178_4 : decode cJ7_fill_53178 4 = .ok (.istore_n 3, 1) := by decide +kernel
theorem dJ7_fill_53178_5 : decode cJ7_fill_53178 5 = .ok (.iload_n 2, 1) := by decide +kernel
theorem dJ7_fill_53178_6 : decode cJ7_fill_53178 6 = .ok (.iload_n 3, 1) := by decide +kernel
theorem dJ7_fill_53178_7 : decode cJ7_fill_53178 7 = .ok (.if_icmp .ge 13, 3) := by decide +kernel
theorem dJ7_fill_53178_10 : decode cJ7_fill_53178 10 = .ok (.aload_n 0, 1) := by decide +kernel
theorem dJ7_fill_53178_11 : decode cJ7_fill_53178 11 = .ok (.iload_n 2, 1) := by decide +kernel
theorem dJ7_fill_53178_12 : decode cJ7_fill_53178 12 = .ok (.iload_n 1, 1) := by decide +kernel
theorem dJ7_fill_53178_13 : decode cJ7_fill_53178 13 = .ok (.iastore, 1) := by decide +kernel
theorem dJ7_fill_53178_14 : decode cJ7_fill_53178 14 = .ok (.iinc 2 1, 3) := by decide +kernel
theorem dJ7_fill_53178_17 : decode cJ7_fill_53178 17 = .ok (.goto (-12), 3) := by decide +kernel
theorem dJ7_fill_53178_20 : decode cJ7_fill_53178 20 = .ok (.return_, 1) := by decide +kernel
def f_J7_fill_53178_42_s5_b (x1 : Int32) (x2 : Int32) (x3 : Int32) (S : gSt) : Option ((Int32 × Int32 × Int32 × gSt) ⊕ (gSt)) :=
(if x3 ≤ x2 then
some (.inr (S))
else
if gin x2 384 then
gLet (gI S 42 x2.toNatClampNeg x1) fun S3 =>
(some (.inl (x1, x2 + (1 : Int32), x3, S3))) else none)
def f_J7_fill_53178_42_s5 : (Int32 × Int32 × Int32 × gSt) → Option ((Int32 × Int32 × Int32 × gSt) ⊕ (gSt)) := fun t => f_J7_fill_53178_42_s5_b t.1 t.2.1 t.2.2.1 t.2.2.2
def f_J7_fill_53178_42 (p1 : Int32) (S : gSt) : Option gSt :=
(gLoop (f_J7_fill_53178_42_s5) gFuel (p1, (0 : Int32), (384 : Int32), S)).bind fun q4 => match q4 with
| S4 =>
some S4
set_option maxHeartbeats 4000000 in
set_option maxRecDepth 20000 in
theorem ok_J7_fill_53178_42 {p1 : Int32} {S S0 : gSt}  (h : f_J7_fill_53178_42 p1 S = some S0) : gCT yJ7_fill_53178 cJ7_fill_53178 4 none 0 (fun w => [.ref (w.2.1 42), .int p1]) S none S0 := by
  refine gEnter (fun X => [some (.ref (gad X 42)), some (.int p1), none, none]) (by decide) (fun X => ⟨rfl, rfl⟩) (fun w => Nat.le_of_ble_eq_true rfl) (fun X hp => ?_)
  show AW X RJ7 0 cJ7_fill_53178 0 [some (.ref (gad X 42)), some (.int p1), none, none] [] S
  unfold f_J7_fill_53178_42 at h
  refine a_iconst (pc := 0) (v := (0 : Int32)) dJ7_fill_53178_0 (by decide) ?_
  refine a_istoren (pc := 1) dJ7_fill_53178_1 rfl (Nat.le_of_ble_eq_true rfl) rfl (L' := [some (.ref (gad X 42)), some (.int p1), some (.int (0 : Int32)), none]) rfl ?_
  refine a_aloadn (pc := 2) dJ7_fill_53178_2 rfl rfl ?_
  refine a_alen (pc := 3) sh_42 (by decide) (v := (384 : Int32)) (by decide) dJ7_fill_53178_3 ?_
  refine a_istoren (pc := 4) dJ7_fill_53178_4 rfl (Nat.le_of_ble_eq_true rfl) rfl (L' := [some (.ref (gad X 42)), some (.int p1), some (.int (0 : Int32)), some (.int (384 : Int32))]) rfl ?_
  obtain ⟨R4, hR4, h⟩ := g_bind h
  have E5 : ∀  (S4 : gSt), (some S4) = some S0 → AW X RJ7 0 cJ7_fill_53178 20 [none, none, none, none] [] S4 := by
    intro S4 h
    obtain rfl := Option.some.inj h
    exact a_vret hp dJ7_fill_53178_20
  have lp : ∀ (n : Nat) (x1 : Int32) (x2 : Int32) (x3 : Int32) (S : gSt), gLoop (f_J7_fill_53178_42_s5) n (x1, x2, x3, S) = some R4 → AW X RJ7 0 cJ7_fill_53178 5 [some (.ref (gad X 42)), some (.int x1), some (.int x2), some (.int x3)] [] S := by
    intro n
    induction n with
    | zero => intro x1 x2 x3 S hR; cases hR
    | succ n ih =>
      intro x1 x2 x3 S hR
      obtain ⟨q, hs, hR⟩ := g_bind hR
      have hs : f_J7_fill_53178_42_s5_b x1 x2 x3 S = some q := hs
      unfold f_J7_fill_53178_42_s5_b at hs
      refine a_iloadn (pc := 5) dJ7_fill_53178_5 rfl rfl ?_
      refine a_iloadn (pc := 6) dJ7_fill_53178_6 rfl rfl ?_
      refine a_icmp_ge (pc := 7) (tgt := 20) dJ7_fill_53178_7 (by decide) (fun c1 => ?_) (fun c1 => ?_)
      · rw [if_pos c1] at hs
        obtain rfl := Option.some.inj hs
        obtain rfl := Option.some.inj hR
        refine a_mask [false, false, false, false] (L' := [none, none, none, none]) rfl ?_
        exact E5  _ h
      · rw [if_neg c1] at hs
        refine a_aloadn (pc := 10) dJ7_fill_53178_10 rfl rfl ?_
        refine a_iloadn (pc := 11) dJ7_fill_53178_11 rfl rfl ?_
        refine a_iloadn (pc := 12) dJ7_fill_53178_12 rfl rfl ?_
        obtain ⟨hi2, hs⟩ := g_if hs
        refine a_iast (pc := 13) sh_42 hi2 dJ7_fill_53178_13 ?_
        obtain ⟨S3, eS3, hs⟩ := g_let hs
        refine a_nmS eS3 ?_
        refine a_iinc (pc := 14) dJ7_fill_53178_14 rfl (v := x2 + (1 : Int32)) rfl (Nat.le_of_ble_eq_true rfl) rfl (L' := [some (.ref (gad X 42)), some (.int x1), some (.int (x2 + (1 : Int32))), some (.int x3)]) rfl ?_
        refine a_goto (pc := 17) (tgt := 5) dJ7_fill_53178_17 (by decide) ?_
        obtain rfl := Option.some.inj hs
        exact ih _ _ _ _ hR
  exact lp _ _ _ _ _ hR4
theorem dX6_rowOf_0 : decode cX6_rowOf 0 = .ok (.iload_n 0, 1) := by decide +kernel
theorem dX6_rowOf_1 : decode cX6_rowOf 1 = .ok (.iconst 3, 1) := by decide +kernel
theorem dX6_rowOf_2 : decode cX6_rowOf 2 = .ok (.ishr, 1) := by decide +kernel
theorem dX6_rowOf_3 : decode cX6_rowOf 3 = .ok (.ireturn, 1) := by decide +kernel
def f_X6_rowOf (p0 : Int32) (S : gSt) : Option (Int32 × gSt) :=
some (p0 >>> ((3 : Int32) &&& 31), S)
set_option maxHeartbeats 4000000 in
set_option maxRecDepth 20000 in
theorem ok_X6_rowOf {p0 : Int32} {S S0 : gSt} {r0 : Int32}  (h : f_X6_rowOf p0 S = some (r0, S0)) : gCT yX6_rowOf cX6_rowOf 1 (some .int) 0 (fun w => [.int p0]) S (some (.int r0)) S0 := by
  refine gEnter (fun X => [some (.int p0)]) (by decide) (fun X => ⟨rfl, rfl⟩) (fun w => Nat.le_of_ble_eq_true rfl) (fun X hp => ?_)
  show AW X RX6 0 cX6_rowOf 0 [some (.int p0)] [] S
  unfold f_X6_rowOf at h
  refine a_iloadn (pc := 0) dX6_rowOf_0 rfl rfl ?_
  refine a_iconst (pc := 1) (v := (3 : Int32)) dX6_rowOf_1 (by decide) ?_
  refine a_ishr (pc := 2) dX6_rowOf_2 ?_
  obtain ⟨rfl, rfl⟩ := Prod.mk.inj (Option.some.inj h)
  exact a_iret hp dX6_rowOf_3
theorem dX0_isTideWithin_0 : decode cX0_isTideWithin 0 = .ok (.aload_n 0, 1) := by decide +kernel
theorem dX0_isTideWithin_1 : decode cX0_isTideWithin 1 = .ok (.getfield 9, 3) := by decide +kernel
theorem dX0_isTideWithin_4 : decode cX0_isTideWithin 4 = .ok (.iconst 3, 1) := by decide +kernel
theorem dX0_isTideWithin_5 : decode cX0_isTideWithin 5 = .ok (.iaload, 1) := by decide +kernel
theorem dX0_isTideWithin_6 : decode cX0_isTideWithin 6 = .ok (.istore_n 2, 1) := by decide +kernel
theorem dX0_isTideWithin_7 : decode cX0_isTideWithin 7 = .ok (.iload_n 2, 1) := by decide +kernel
theorem dX0_isTideWithin_8 : decode cX0_isTideWithin 8 = .ok (.ifCond .le 24, 3) := by decide +kernel
theorem dX0_isTideWithin_11 : decode cX0_isTideWithin 11 = .ok (.aload_n 0, 1) := by decide +kernel
theorem dX0_isTideWithin_12 : decode cX0_isTideWithin 12 = .ok (.getfield 41, 3) := by decide +kernel
theorem dX0_isTideWithin_15 : decode cX0_isTideWithin 15 = .ok (.iload_n 1, 1) := by decide +kernel
theorem dX0_isTideWithin_16 : decode cX0_isTideWithin 16 = .ok (.iadd, 1) := by decide +kernel
theorem dX0_isTideWithin_17 : decode cX0_isTideWithin 17 = .ok (.iload_n 2, 1) := by decide +kernel
theorem dX0_isTideWithin_18 : decode cX0_isTideWithin 18 = .ok (.idiv, 1) := by decide +kernel
theorem dX0_isTideWithin_19 : decode cX0_isTideWithin 19 = .ok (.aload_n 0, 1) := by decide +kernel
theorem dX0_isTideWithin_20 : decode cX0_isTideWithin 20 = .ok (.getfield 41, 3) := by decide +kernel
theorem dX0_isTideWithin_23 : decode cX0_isTideWithin 23 = .ok (.iload_n 2, 1) := by decide +kernel
theorem dX0_isTideWithin_24 : decode cX0_isTideWithin 24 = .ok (.idiv, 1) := by decide +kernel
theorem dX0_isTideWithin_25 : decode cX0_isTideWithin 25 = .ok (.if_icmp .le 7, 3) := by decide +kernel
theorem dX0_isTideWithin_28 : decode cX0_isTideWithin 28 = .ok (.iconst 1, 1) := by decide +kernel
theorem dX0_isTideWithin_29 : decode cX0_isTideWithin 29 = .ok (.goto 4, 3) := by decide +kernel
theorem dX0_isTideWithin_32 : decode cX0_isTideWithin 32 = .ok (.iconst 0, 1) := by decide +kernel
theorem dX0_isTideWithin_33 : decode cX0_isTideWithin 33 = .ok (.ireturn, 1) := by decide +kernel
def f_X0_isTideWithin (p1 : Int32) (S : gSt) : Option (Int32 × gSt) :=
if gin (3 : Int32) 5 then
(gLet (S.1 2 (3 : Int32).toNatClampNeg) fun v2 =>
(if v2 ≤ 0 then
some ((0 : Int32), S)
else
if v2 = 0 then none else
if v2 = 0 then none else
(if (((S.1 1 8) + p1) / v2) ≤ ((S.1 1 8) / v2) then
some ((0 : Int32), S)
else
some ((1 : Int32), S)))) else none
set_option maxHeartbeats 4000000 in
set_option maxRecDepth 20000 in
theorem ok_X0_isTideWithin {p1 : Int32} {S S0 : gSt} {r0 : Int32}  (h : f_X0_isTideWithin p1 S = some (r0, S0)) : gCT yX0_isTideWithin cX0_isTideWithin 3 (some .boolean) 0 (fun w => [.ref (w.2.1 1), .int p1]) S (some (.int r0)) S0 := by
  refine gEnter (fun X => [some (.ref (gad X 1)), some (.int p1), none]) (by decide) (fun X => ⟨rfl, rfl⟩) (fun w => Nat.le_of_ble_eq_true rfl) (fun X hp => ?_)
  show AW X RX0 0 cX0_isTideWithin 0 [some (.ref (gad X 1)), some (.int p1), none] [] S
  unfold f_X0_isTideWithin at h
  refine a_aloadn (pc := 0) dX0_isTideWithin_0 rfl rfl ?_
  refine a_getA (pc := 1) flX0_9 sh_1 rfl dX0_isTideWithin_1 ?_
  refine a_iconst (pc := 4) (v := (3 : Int32)) dX0_isTideWithin_4 (by decide) ?_
  obtain ⟨hi1, h⟩ := g_if h
  refine a_iald (pc := 5) sh_2 hi1 dX0_isTideWithin_5 ?_
  obtain ⟨v2, ev2, h⟩ := g_let h
  refine a_nmI ev2 ?_
  refine a_istoren (pc := 6) dX0_isTideWithin_6 rfl (Nat.le_of_ble_eq_true rfl) rfl (L' := [some (.ref (gad X 1)), some (.int p1), some (.int v2)]) rfl ?_
  refine a_iloadn (pc := 7) dX0_isTideWithin_7 rfl rfl ?_
  refine a_if_le (pc := 8) (tgt := 32) dX0_isTideWithin_8 (by decide) (fun c3 => ?_) (fun c3 => ?_)
  · rw [if_pos c3] at h
    refine a_iconst (pc := 32) (v := (0 : Int32)) dX0_isTideWithin_32 (by decide) ?_
    obtain ⟨rfl, rfl⟩ := Prod.mk.inj (Option.some.inj h)
    exact a_zret hp rfl  dX0_isTideWithin_33
  · rw [if_neg c3] at h
    refine a_aloadn (pc := 11) dX0_isTideWithin_11 rfl rfl ?_
    refine a_getI (pc := 12) flX0_41 sh_1 rfl dX0_isTideWithin_12 ?_
    refine a_iloadn (pc := 15) dX0_isTideWithin_15 rfl rfl ?_
    refine a_iadd (pc := 16) dX0_isTideWithin_16 ?_
    refine a_iloadn (pc := 17) dX0_isTideWithin_17 rfl rfl ?_
    obtain ⟨hz4, h⟩ := g_ifn h
    refine a_idiv (pc := 18) dX0_isTideWithin_18 hz4 ?_
    refine a_aloadn (pc := 19) dX0_isTideWithin_19 rfl rfl ?_
    refine a_getI (pc := 20) flX0_41 sh_1 rfl dX0_isTideWithin_20 ?_
    refine a_iloadn (pc := 23) dX0_isTideWithin_23 rfl rfl ?_
    obtain ⟨hz5, h⟩ := g_ifn h
    refine a_idiv (pc := 24) dX0_isTideWithin_24 hz5 ?_
    refine a_icmp_le (pc := 25) (tgt := 32) dX0_isTideWithin_25 (by decide) (fun c6 => ?_) (fun c6 => ?_)
    · rw [if_pos c6] at h
      refine a_iconst (pc := 32) (v := (0 : Int32)) dX0_isTideWithin_32 (by decide) ?_
      obtain ⟨rfl, rfl⟩ := Prod.mk.inj (Option.some.inj h)
      exact a_zret hp rfl  dX0_isTideWithin_33
    · rw [if_neg c6] at h
      refine a_iconst (pc := 28) (v := (1 : Int32)) dX0_isTideWithin_28 (by decide) ?_
      refine a_goto (pc := 29) (tgt := 33) dX0_isTideWithin_29 (by decide) ?_
      obtain ⟨rfl, rfl⟩ := Prod.mk.inj (Option.some.inj h)
      exact a_zret hp rfl  dX0_isTideWithin_33
theorem dX0_depthBehind_0 : decode cX0_depthBehind 0 = .ok (.iload_n 2, 1) := by decide +kernel
theorem dX0_depthBehind_1 : decode cX0_depthBehind 1 = .ok (.invokestatic 100, 3) := by decide +kernel
theorem dX0_depthBehind_4 : decode cX0_depthBehind 4 = .ok (.istore 4, 2) := by decide +kernel
theorem dX0_depthBehind_6 : decode cX0_depthBehind 6 = .ok (.iload 4, 2) := by decide +kernel
theorem dX0_depthBehind_8 : decode cX0_depthBehind 8 = .ok (.aload_n 0, 1) := by decide +kernel
theorem dX0_depthBehind_9 : decode cX0_depthBehind 9 = .ok (.getfield 9, 3) := by decide +kernel
theorem dX0_depthBehind_12 : decode cX0_depthBehind 12 = .ok (.iconst 4, 1) := by decide +kernel
theorem dX0_depthBehind_13 : decode cX0_depthBehind 13 = .ok (.iaload, 1) := by decide +kernel
theorem dX0_depthBehind_14 : decode cX0_depthBehind 14 = .ok (.if_icmp .ge 13, 3) := by decide +kernel
theorem dX0_depthBehind_17 : decode cX0_depthBehind 17 = .ok (.aload_n 0, 1) := by decide +kernel
theorem dX0_depthBehind_18 : decode cX0_depthBehind 18 = .ok (.iload_n 3, 1) := by decide +kernel
theorem dX0_depthBehind_19 : decode cX0_depthBehind 19 = .ok (.invokevirtual 103, 3) := by decide +kernel
theorem dX0_depthBehind_22 : decode cX0_depthBehind 22 = .ok (.ifCond .eq 5, 3) := by decide +kernel
theorem dX0_depthBehind_25 : decode cX0_depthBehind 25 = .ok (.iconst 0, 1) := by decide +kernel
theorem dX0_depthBehind_26 : decode cX0_depthBehind 26 = .ok (.ireturn, 1) := by decide +kernel
theorem dX0_depthBehind_27 : decode cX0_depthBehind 27 = .ok (.iload 4, 2) := by decide +kernel
theorem dX0_depthBehind_29 : decode cX0_depthBehind 29 = .ok (.aload_n 0, 1) := by decide +kernel
theorem dX0_depthBehind_30 : decode cX0_depthBehind 30 = .ok (.getfield 9, 3) := by decide +kernel
theorem dX0_depthBehind_33 : decode cX0_depthBehind 33 = .ok (.iconst 0, 1) := by decide +kernel
theorem dX0_depthBehind_34 : decode cX0_depthBehind 34 = .ok (.iaload, 1) := by decide +kernel
theorem dX0_depthBehind_35 : decode cX0_depthBehind 35 = .ok (.if_icmp .ge 7, 3) := by decide +kernel
theorem dX0_depthBehind_38 : decode cX0_depthBehind 38 = .ok (.iload_n 3, 1) := by decide +kernel
theorem dX0_depthBehind_39 : decode cX0_depthBehind 39 = .ok (.goto 11, 3) := by decide +kernel
theorem dX0_depthBehind_42 : decode cX0_depthBehind 42 = .ok (.iload_n 3, 1) := by decide +kernel
theorem dX0_depthBehind_43 : decode cX0_depthBehind 43 = .ok (.aload_n 0, 1) := by decide +kernel
theorem dX0_depthBehind_44 : decode cX0_depthBehind 44 = .ok (.getfield 9, 3) := by decide +kernel
theorem dX0_depthBehind_47 : decode cX0_depthBehind 47 = .ok (.iconst 1, 1) := by decide +kernel
theorem dX0_depthBehind_48 : decode cX0_depthBehind 48 = .ok (.iaload, 1) := by decide +kernel
theorem dX0_depthBehind_49 : decode cX0_depthBehind 49 = .ok (.imul, 1) := by decide +kernel
theorem dX0_depthBehind_50 : decode cX0_depthBehind 50 = .ok (.istore 5, 2) := by decide +kernel
theorem dX0_depthBehind_52 : decode cX0_depthBehind 52 = .ok (.iconst 0, 1) := by decide +kernel
theorem dX0_depthBehind_53 : decode cX0_depthBehind 53 = .ok (.iload_n 1, 1) := by decide +kernel
theorem dX0_depthBehind_54 : decode cX0_depthBehind 54 = .ok (.iload 5, 2) := by decide +kernel
theorem dX0_depthBehind_56 : decode cX0_depthBehind 56 = .ok (.isub, 1) := by decide +kernel
theorem dX0_depthBehind_57 : decode cX0_depthBehind 57 = .ok (.invokestatic 107, 3) := by decide +kernel
theorem dX0_depthBehind_60 : decode cX0_depthBehind 60 = .ok (.ireturn, 1) := by decide +kernel
def f_X0_depthBehind_j27 (x1 : Int32) (x3 : Int32) (x4 : Int32) (S : gSt) : Option (Int32 × gSt) :=
if gin (0 : Int32) 5 then
((if (S.1 2 (0 : Int32).toNatClampNeg) ≤ x4 then
if gin (1 : Int32) 5 then
(gLet (x3 * (S.1 2 (1 : Int32).toNatClampNeg)) fun v4 =>
some ((if (0 : Int32) < (x1 - v4) then (x1 - v4) else (0 : Int32)), S)) else none
else
some ((if (0 : Int32) < (x1 - x3) then (x1 - x3) else (0 : Int32)), S))) else none
def f_X0_depthBehind (p1 : Int32) (p2 : Int32) (p3 : Int32) (S : gSt) : Option (Int32 × gSt) :=
gBind2 (f_X6_rowOf p2 S) fun r7 S5 =>
if gin (4 : Int32) 5 then
((if (S5.1 2 (4 : Int32).toNatClampNeg) ≤ r7 then
f_X0_depthBehind_j27 p1 p3 r7 S5
else
gBind2 (f_X0_isTideWithin p3 S5) fun r12 S10 =>
(if r12 = 0 then
f_X0_depthBehind_j27 p1 p3 r7 S10
else
some ((0 : Int32), S10)))) else none
set_option maxHeartbeats 4000000 in
set_option maxRecDepth 20000 in
theorem ok_X0_depthBehind {p1 : Int32} {p2 : Int32} {p3 : Int32} {S S0 : gSt} {r0 : Int32}  (h : f_X0_depthBehind p1 p2 p3 S = some (r0, S0)) : gCT yX0_depthBehind cX0_depthBehind 6 (some .int) 1 (fun w => [.ref (w.2.1 1), .int p1, .int p2, .int p3]) S (some (.int r0)) S0 := by
  refine gEnter (fun X => [some (.ref (gad X 1)), some (.int p1), some (.int p2), some (.int p3), none, none]) (by decide) (fun X => ⟨rfl, rfl⟩) (fun w => Nat.le_of_ble_eq_true rfl) (fun X hp => ?_)
  show AW X RX0 1 cX0_depthBehind 0 [some (.ref (gad X 1)), some (.int p1), some (.int p2), some (.int p3), none, none] [] S
  unfold f_X0_depthBehind at h
  have J27 : ∀ (x1 : Int32) (x3 : Int32) (x4 : Int32) (S : gSt), f_X0_depthBehind_j27 x1 x3 x4 S = some (r0, S0) → AW X RX0 1 cX0_depthBehind 27 [some (.ref (gad X 1)), some (.int x1), none, some (.int x3), some (.int x4), none] [] S := by
    intro x1 x3 x4 S h
    unfold f_X0_depthBehind_j27 at h
    refine a_iload (pc := 27) dX0_depthBehind_27 rfl ?_
    refine a_aloadn (pc := 29) dX0_depthBehind_29 rfl rfl ?_
    refine a_getA (pc := 30) flX0_9 sh_1 rfl dX0_depthBehind_30 ?_
    refine a_iconst (pc := 33) (v := (0 : Int32)) dX0_depthBehind_33 (by decide) ?_
    obtain ⟨hi1, h⟩ := g_if h
    refine a_iald (pc := 34) sh_2 hi1 dX0_depthBehind_34 ?_
    refine a_icmp_ge (pc := 35) (tgt := 42) dX0_depthBehind_35 (by decide) (fun c2 => ?_) (fun c2 => ?_)
    · rw [if_pos c2] at h
      refine a_iloadn (pc := 42) dX0_depthBehind_42 rfl rfl ?_
      refine a_aloadn (pc := 43) dX0_depthBehind_43 rfl rfl ?_
      refine a_getA (pc := 44) flX0_9 sh_1 rfl dX0_depthBehind_44 ?_
      refine a_iconst (pc := 47) (v := (1 : Int32)) dX0_depthBehind_47 (by decide) ?_
      obtain ⟨hi3, h⟩ := g_if h
      refine a_iald (pc := 48) sh_2 hi3 dX0_depthBehind_48 ?_
      refine a_imul (pc := 49) dX0_depthBehind_49 ?_
      obtain ⟨v4, ev4, h⟩ := g_let h
      refine a_nmI ev4 ?_
      refine a_istore (pc := 50) dX0_depthBehind_50 (Nat.le_of_ble_eq_true rfl) rfl (L' := [some (.ref (gad X 1)), some (.int x1), none, some (.int x3), some (.int x4), some (.int v4)]) rfl ?_
      refine a_iconst (pc := 52) (v := (0 : Int32)) dX0_depthBehind_52 (by decide) ?_
      refine a_iloadn (pc := 53) dX0_depthBehind_53 rfl rfl ?_
      refine a_iload (pc := 54) dX0_depthBehind_54 rfl ?_
      refine a_isub (pc := 56) dX0_depthBehind_56 ?_
      refine a_max (pc := 57) mlX0_107 (by decide) (Nat.le_of_ble_eq_true rfl) dX0_depthBehind_57 ?_
      obtain ⟨rfl, rfl⟩ := Prod.mk.inj (Option.some.inj h)
      exact a_iret hp dX0_depthBehind_60
    · rw [if_neg c2] at h
      refine a_iloadn (pc := 38) dX0_depthBehind_38 rfl rfl ?_
      refine a_goto (pc := 39) (tgt := 50) dX0_depthBehind_39 (by decide) ?_
      refine a_istore (pc := 50) dX0_depthBehind_50 (Nat.le_of_ble_eq_true rfl) rfl (L' := [some (.ref (gad X 1)), some (.int x1), none, some (.int x3), some (.int x4), some (.int x3)]) rfl ?_
      refine a_iconst (pc := 52) (v := (0 : Int32)) dX0_depthBehind_52 (by decide) ?_
      refine a_iloadn (pc := 53) dX0_depthBehind_53 rfl rfl ?_
      refine a_iload (pc := 54) dX0_depthBehind_54 rfl ?_
      refine a_isub (pc := 56) dX0_depthBehind_56 ?_
      refine a_max (pc := 57) mlX0_107 (by decide) (Nat.le_of_ble_eq_true rfl) dX0_depthBehind_57 ?_
      obtain ⟨rfl, rfl⟩ := Prod.mk.inj (Option.some.inj h)
      exact a_iret hp dX0_depthBehind_60
  refine a_iloadn (pc := 0) dX0_depthBehind_0 rfl rfl ?_
  obtain ⟨r7, S5, hc6, h⟩ := g_bind2 h
  refine a_invSNi (pc := 1) (ok_X6_rowOf hc6) gyX6_rowOf syX6_rowOf mlX0_100 (As := [.int p2]) rfl rfl (by decide) (st := []) rfl (Nat.le_of_ble_eq_true rfl) dX0_depthBehind_1 ?_
  refine a_istore (pc := 4) dX0_depthBehind_4 (Nat.le_of_ble_eq_true rfl) rfl (L' := [some (.ref (gad X 1)), some (.int p1), some (.int p2), some (.int p3), some (.int r7), none]) rfl ?_
  refine a_iload (pc := 6) dX0_depthBehind_6 rfl ?_
  refine a_aloadn (pc := 8) dX0_depthBehind_8 rfl rfl ?_
  refine a_getA (pc := 9) flX0_9 sh_1 rfl dX0_depthBehind_9 ?_
  refine a_iconst (pc := 12) (v := (4 : Int32)) dX0_depthBehind_12 (by decide) ?_
  obtain ⟨hi8, h⟩ := g_if h
  refine a_iald (pc := 13) sh_2 hi8 dX0_depthBehind_13 ?_
  refine a_icmp_ge (pc := 14) (tgt := 27) dX0_depthBehind_14 (by decide) (fun c9 => ?_) (fun c9 => ?_)
  · rw [if_pos c9] at h
    refine a_mask [true, true, false, true, true, true] (L' := [some (.ref (gad X 1)), some (.int p1), none, some (.int p3), some (.int r7), none]) rfl ?_
    exact J27 _ _ _ _ h
  · rw [if_neg c9] at h
    refine a_aloadn (pc := 17) dX0_depthBehind_17 rfl rfl ?_
    refine a_iloadn (pc := 18) dX0_depthBehind_18 rfl rfl ?_
    obtain ⟨r12, S10, hc11, h⟩ := g_bind2 h
    refine a_invVi (pc := 19) (ok_X0_isTideWithin hc11) gyX0_isTideWithin vyX0_isTideWithin mlX0_103 sh_1 rfl (As := [.int p3]) rfl rfl (by decide) (st := []) rfl (Nat.le_of_ble_eq_true rfl) dX0_depthBehind_19 ?_
    refine a_if_eq (pc := 22) (tgt := 27) dX0_depthBehind_22 (by decide) (fun c13 => ?_) (fun c13 => ?_)
    · rw [if_pos c13] at h
      refine a_mask [true, true, false, true, true, true] (L' := [some (.ref (gad X 1)), some (.int p1), none, some (.int p3), some (.int r7), none]) rfl ?_
      exact J27 _ _ _ _ h
    · rw [if_neg c13] at h
      refine a_iconst (pc := 25) (v := (0 : Int32)) dX0_depthBehind_25 (by decide) ?_
      obtain ⟨rfl, rfl⟩ := Prod.mk.inj (Option.some.inj h)
      exact a_iret hp dX0_depthBehind_26
theorem dX6_columnOf_0 : decode cX6_columnOf 0 = .ok (.iload_n 0, 1) := by decide +kernel
theorem dX6_columnOf_1 : decode cX6_columnOf 1 = .ok (.bipush 7, 2) := by decide +kernel
theorem dX6_columnOf_3 : decode cX6_columnOf 3 = .ok (.iand, 1) := by decide +kernel
theorem dX6_columnOf_4 : decode cX6_columnOf 4 = .ok (.ireturn, 1) := by decide +kernel
def f_X6_columnOf (p0 : Int32) (S : gSt) : Option (Int32 × gSt) :=
some (p0 &&& (7 : Int32), S)
set_option maxHeartbeats 4000000 in
set_option maxRecDepth 20000 in
theorem ok_X6_columnOf {p0 : Int32} {S S0 : gSt} {r0 : Int32}  (h : f_X6_columnOf p0 S = some (r0, S0)) : gCT yX6_columnOf cX6_columnOf 1 (some .int) 0 (fun w => [.int p0]) S (some (.int r0)) S0 := by
  refine gEnter (fun X => [some (.int p0)]) (by decide) (fun X => ⟨rfl, rfl⟩) (fun w => Nat.le_of_ble_eq_true rfl) (fun X hp => ?_)
  show AW X RX6 0 cX6_columnOf 0 [some (.int p0)] [] S
  unfold f_X6_columnOf at h
  refine a_iloadn (pc := 0) dX6_columnOf_0 rfl rfl ?_
  refine a_bipush (pc := 1) (v := (7 : Int32)) dX6_columnOf_1 (by decide) ?_
  refine a_iand (pc := 3) dX6_columnOf_3 ?_
  obtain ⟨rfl, rfl⟩ := Prod.mk.inj (Option.some.inj h)
  exact a_iret hp dX6_columnOf_4
theorem dX3_raise_0 : decode cX3_raise 0 = .ok (.bipush 7, 2) := by decide +kernel
theorem dX3_raise_2 : decode cX3_raise 2 = .ok (.iload_n 2, 1) := by decide +kernel
theorem dX3_raise_3 : decode cX3_raise 3 = .ok (.invokestatic 59, 3) := by decide +kernel
theorem dX3_raise_6 : decode cX3_raise 6 = .ok (.iload 4, 2) := by decide +kernel
theorem dX3_raise_8 : decode cX3_raise 8 = .ok (.iadd, 1) := by decide +kernel
theorem dX3_raise_9 : decode cX3_raise 9 = .ok (.invokestatic 62, 3) := by decide +kernel
theorem dX3_raise_12 : decode cX3_raise 12 = .ok (.istore 5, 2) := by decide +kernel
theorem dX3_raise_14 : decode cX3_raise 14 = .ok (.bipush 7, 2) := by decide +kernel
theorem dX3_raise_16 : decode cX3_raise 16 = .ok (.iload_n 2, 1) := by decide +kernel
theorem dX3_raise_17 : decode cX3_raise 17 = .ok (.invokestatic 68, 3) := by decide +kernel
theorem dX3_raise_20 : decode cX3_raise 20 = .ok (.iload 4, 2) := by decide +kernel
theorem dX3_raise_22 : decode cX3_raise 22 = .ok (.iadd, 1) := by decide +kernel
theorem dX3_raise_23 : decode cX3_raise 23 = .ok (.invokestatic 62, 3) := by decide +kernel
theorem dX3_raise_26 : decode cX3_raise 26 = .ok (.istore 6, 2) := by decide +kernel
theorem dX3_raise_28 : decode cX3_raise 28 = .ok (.iconst 0, 1) := by decide +kernel
theorem dX3_raise_29 : decode cX3_raise 29 = .ok (.iload_n 2, 1) := by decide +kernel
theorem dX3_raise_30 : decode cX3_raise 30 = .ok (.invokestatic 68, 3) := by decide +kernel
theorem dX3_raise_33 : decode cX3_raise 33 = .ok (.iload 4, 2) := by decide +kernel
theorem dX3_raise_35 : decode cX3_raise 35 = .ok (.isub, 1) := by decide +kernel
theorem dX3_raise_36 : decode cX3_raise 36 = .ok (.invokestatic 71, 3) := by decide +kernel
theorem dX3_raise_39 : decode cX3_raise 39 = .ok (.istore 7, 2) := by decide +kernel
theorem dX3_raise_41 : decode cX3_raise 41 = .ok (.iload 7, 2) := by decide +kernel
theorem dX3_raise_43 : decode cX3_raise 43 = .ok (.iload 6, 2) := by decide +kernel
theorem dX3_raise_45 : decode cX3_raise 45 = .ok (.if_icmp .gt 65, 3) := by decide +kernel
theorem dX3_raise_48 : decode cX3_raise 48 = .ok (.iconst 0, 1) := by decide +kernel
theorem dX3_raise_49 : decode cX3_raise 49 = .ok (.iload_n 2, 1) := by decide +kernel
theorem dX3_raise_50 : decode cX3_raise 50 = .ok (.invokestatic 59, 3) := by decide +kernel
theorem dX3_raise_53 : decode cX3_raise 53 = .ok (.iload 4, 2) := by decide +kernel
theorem dX3_raise_55 : decode cX3_raise 55 = .ok (.isub, 1) := by decide +kernel
theorem dX3_raise_56 : decode cX3_raise 56 = .ok (.invokestatic 71, 3) := by decide +kernel
theorem dX3_raise_59 : decode cX3_raise 59 = .ok (.istore 8, 2) := by decide +kernel
theorem dX3_raise_61 : decode cX3_raise 61 = .ok (.iload 8, 2) := by decide +kernel
theorem dX3_raise_63 : decode cX3_raise 63 = .ok (.iload 5, 2) := by decide +kernel
theorem dX3_raise_65 : decode cX3_raise 65 = .ok (.if_icmp .gt 39, 3) := by decide +kernel
theorem dX3_raise_68 : decode cX3_raise 68 = .ok (.iload_n 1, 1) := by decide +kernel
theorem dX3_raise_69 : decode cX3_raise 69 = .ok (.iload 7, 2) := by decide +kernel
theorem dX3_raise_71 : decode cX3_raise 71 = .ok (.bipush 8, 2) := by decide +kernel
theorem dX3_raise_73 : decode cX3_raise 73 = .ok (.imul, 1) := by decide +kernel
theorem dX3_raise_74 : decode cX3_raise 74 = .ok (.iadd, 1) := by decide +kernel
theorem dX3_raise_75 : decode cX3_raise 75 = .ok (.iload 8, 2) := by decide +kernel
theorem dX3_raise_77 : decode cX3_raise 77 = .ok (.iadd, 1) := by decide +kernel
theorem dX3_raise_78 : decode cX3_raise 78 = .ok (.istore 9, 2) := by decide +kernel
theorem dX3_raise_80 : decode cX3_raise 80 = .ok (.aload_n 0, 1) := by decide +kernel
theorem dX3_raise_81 : decode cX3_raise 81 = .ok (.getfield 9, 3) := by decide +kernel
theorem dX3_raise_84 : decode cX3_raise 84 = .ok (.iload 9, 2) := by decide +kernel
theorem dX3_raise_86 : decode cX3_raise 86 = .ok (.aload_n 0, 1) := by decide +kernel
theorem dX3_raise_87 : decode cX3_raise 87 = .ok (.getfield 9, 3) := by decide +kernel
theorem dX3_raise_90 : decode cX3_raise 90 = .ok (.iload 9, 2) := by decide +kernel
theorem dX3_raise_92 : decode cX3_raise 92 = .ok (.iaload, 1) := by decide +kernel
theorem dX3_raise_93 : decode cX3_raise 93 = .ok (.iload_n 3, 1) := by decide +kernel
theorem dX3_raise_94 : decode cX3_raise 94 = .ok (.invokestatic 71, 3) := by decide +kernel
theorem dX3_raise_97 : decode cX3_raise 97 = .ok (.iastore, 1) := by decide +kernel
theorem dX3_raise_98 : decode cX3_raise 98 = .ok (.iinc 8 1, 3) := by decide +kernel
theorem dX3_raise_101 : decode cX3_raise 101 = .ok (.goto (-40), 3) := by decide +kernel
theorem dX3_raise_104 : decode cX3_raise 104 = .ok (.iinc 7 1, 3) := by decide +kernel
theorem dX3_raise_107 : decode cX3_raise 107 = .ok (.goto (-66), 3) := by decide +kernel
theorem dX3_raise_110 : decode cX3_raise 110 = .ok (.return_, 1) := by decide +kernel
def f_X3_raise_s61_b (x1 : Int32) (x2 : Int32) (x3 : Int32) (x4 : Int32) (x5 : Int32) (x6 : Int32) (x7 : Int32) (x8 : Int32) (S : gSt) : Option ((Int32 × Int32 × Int32 × Int32 × Int32 × Int32 × Int32 × Int32 × gSt) ⊕ (Int32 × Int32 × Int32 × Int32 × Int32 × Int32 × Int32 × gSt)) :=
(if x5 < x8 then
some (.inr (x1, x2, x3, x4, x5, x6, x7, S))
else
gLet ((x1 + (x7 * (8 : Int32))) + x8) fun v19 =>
if gin v19 384 then
(if gin v19 384 then
gLet (gI S 42 v19.toNatClampNeg (if (S.1 42 v19.toNatClampNeg) < x3 then x3 else (S.1 42 v19.toNatClampNeg))) fun S22 =>
(some (.inl (x1, x2, x3, x4, x5, x6, x7, x8 + (1 : Int32), S22))) else none) else none)
def f_X3_raise_s61 : (Int32 × Int32 × Int32 × Int32 × Int32 × Int32 × Int32 × Int32 × gSt) → Option ((Int32 × Int32 × Int32 × Int32 × Int32 × Int32 × Int32 × Int32 × gSt) ⊕ (Int32 × Int32 × Int32 × Int32 × Int32 × Int32 × Int32 × gSt)) := fun t => f_X3_raise_s61_b t.1 t.2.1 t.2.2.1 t.2.2.2.1 t.2.2.2.2.1 t.2.2.2.2.2.1 t.2.2.2.2.2.2.1 t.2.2.2.2.2.2.2.1 t.2.2.2.2.2.2.2.2
def f_X3_raise_s41_b (x1 : Int32) (x2 : Int32) (x3 : Int32) (x4 : Int32) (x5 : Int32) (x6 : Int32) (x7 : Int32) (S : gSt) : Option ((Int32 × Int32 × Int32 × Int32 × Int32 × Int32 × Int32 × gSt) ⊕ (gSt)) :=
(if x6 < x7 then
some (.inr (S))
else
gBind2 (f_X6_columnOf x2 S) fun r16 S14 =>
gLet (if (0 : Int32) < (r16 - x4) then (r16 - x4) else (0 : Int32)) fun v17 =>
(gLoop (f_X3_raise_s61) gFuel (x1, x2, x3, x4, x5, x6, x7, v17, S14)).bind fun q23 => match q23 with
| (y1_23, y2_23, y3_23, y4_23, y5_23, y6_23, y7_23, S23) =>
some (.inl (y1_23, y2_23, y3_23, y4_23, y5_23, y6_23, y7_23 + (1 : Int32), S23)))
def f_X3_raise_s41 : (Int32 × Int32 × Int32 × Int32 × Int32 × Int32 × Int32 × gSt) → Option ((Int32 × Int32 × Int32 × Int32 × Int32 × Int32 × Int32 × gSt) ⊕ (gSt)) := fun t => f_X3_raise_s41_b t.1 t.2.1 t.2.2.1 t.2.2.2.1 t.2.2.2.2.1 t.2.2.2.2.2.1 t.2.2.2.2.2.2.1 t.2.2.2.2.2.2.2
def f_X3_raise (p1 : Int32) (p2 : Int32) (p3 : Int32) (p4 : Int32) (S : gSt) : Option gSt :=
gBind2 (f_X6_columnOf p2 S) fun r3 S1 =>
gLet (if (r3 + p4) < (7 : Int32) then (r3 + p4) else (7 : Int32)) fun v4 =>
gBind2 (f_X6_rowOf p2 S1) fun r7 S5 =>
gLet (if (r7 + p4) < (7 : Int32) then (r7 + p4) else (7 : Int32)) fun v8 =>
gBind2 (f_X6_rowOf p2 S5) fun r11 S9 =>
gLet (if (0 : Int32) < (r11 - p4) then (r11 - p4) else (0 : Int32)) fun v12 =>
(gLoop (f_X3_raise_s41) gFuel (p1, p2, p3, p4, v4, v8, v12, S9)).bind fun q24 => match q24 with
| S24 =>
some S24
set_option maxHeartbeats 4000000 in
set_option maxRecDepth 20000 in
theorem ok_X3_raise {p1 : Int32} {p2 : Int32} {p3 : Int32} {p4 : Int32} {S S0 : gSt}  (h : f_X3_raise p1 p2 p3 p4 S = some S0) : gCT yX3_raise cX3_raise 10 none 1 (fun w => [.ref (w.2.1 41), .int p1, .int p2, .int p3, .int p4]) S none S0 := by
  refine gEnter (fun X => [some (.ref (gad X 41)), some (.int p1), some (.int p2), some (.int p3), some (.int p4), none, none, none, none, none]) (by decide) (fun X => ⟨rfl, rfl⟩) (fun w => Nat.le_of_ble_eq_true rfl) (fun X hp => ?_)
  show AW X RX3 1 cX3_raise 0 [some (.ref (gad X 41)), some (.int p1), some (.int p2), some (.int p3), some (.int p4), none, none, none, none, none] [] S
  unfold f_X3_raise at h
  refine a_bipush (pc := 0) (v := (7 : Int32)) dX3_raise_0 (by decide) ?_
  refine a_iloadn (pc := 2) dX3_raise_2 rfl rfl ?_
  obtain ⟨r3, S1, hc2, h⟩ := g_bind2 h
  refine a_invSNi (pc := 3) (ok_X6_columnOf hc2) gyX6_columnOf syX6_columnOf mlX3_59 (As := [.int p2]) rfl rfl (by decide) (st := [.int (7 : Int32)]) rfl (Nat.le_of_ble_eq_true rfl) dX3_raise_3 ?_
  refine a_iload (pc := 6) dX3_raise_6 rfl ?_
  refine a_iadd (pc := 8) dX3_raise_8 ?_
  refine a_min (pc := 9) mlX3_62 (by decide) (Nat.le_of_ble_eq_true rfl) dX3_raise_9 ?_
  obtain ⟨v4, ev4, h⟩ := g_let h
  refine a_nmI ev4 ?_
  refine a_istore (pc := 12) dX3_raise_12 (Nat.le_of_ble_eq_true rfl) rfl (L' := [some (.ref (gad X 41)), some (.int p1), some (.int p2), some (.int p3), some (.int p4), some (.int v4), none, none, none, none]) rfl ?_
  refine a_bipush (pc := 14) (v := (7 : Int32)) dX3_raise_14 (by decide) ?_
  refine a_iloadn (pc := 16) dX3_raise_16 rfl rfl ?_
  obtain ⟨r7, S5, hc6, h⟩ := g_bind2 h
  refine a_invSNi (pc := 17) (ok_X6_rowOf hc6) gyX6_rowOf syX6_rowOf mlX3_68 (As := [.int p2]) rfl rfl (by decide) (st := [.int (7 : Int32)]) rfl (Nat.le_of_ble_eq_true rfl) dX3_raise_17 ?_
  refine a_iload (pc := 20) dX3_raise_20 rfl ?_
  refine a_iadd (pc := 22) dX3_raise_22 ?_
  refine a_min (pc := 23) mlX3_62 (by decide) (Nat.le_of_ble_eq_true rfl) dX3_raise_23 ?_
  obtain ⟨v8, ev8, h⟩ := g_let h
  refine a_nmI ev8 ?_
  refine a_istore (pc := 26) dX3_raise_26 (Nat.le_of_ble_eq_true rfl) rfl (L' := [some (.ref (gad X 41)), some (.int p1), some (.int p2), some (.int p3), some (.int p4), some (.int v4), some (.int v8), none, none, none]) rfl ?_
  refine a_iconst (pc := 28) (v := (0 : Int32)) dX3_raise_28 (by decide) ?_
  refine a_iloadn (pc := 29) dX3_raise_29 rfl rfl ?_
  obtain ⟨r11, S9, hc10, h⟩ := g_bind2 h
  refine a_invSNi (pc := 30) (ok_X6_rowOf hc10) gyX6_rowOf syX6_rowOf mlX3_68 (As := [.int p2]) rfl rfl (by decide) (st := [.int (0 : Int32)]) rfl (Nat.le_of_ble_eq_true rfl) dX3_raise_30 ?_
  refine a_iload (pc := 33) dX3_raise_33 rfl ?_
  refine a_isub (pc := 35) dX3_raise_35 ?_
  refine a_max (pc := 36) mlX3_71 (by decide) (Nat.le_of_ble_eq_true rfl) dX3_raise_36 ?_
  obtain ⟨v12, ev12, h⟩ := g_let h
  refine a_nmI ev12 ?_
  refine a_istore (pc := 39) dX3_raise_39 (Nat.le_of_ble_eq_true rfl) rfl (L' := [some (.ref (gad X 41)), some (.int p1), some (.int p2), some (.int p3), some (.int p4), some (.int v4), some (.int v8), some (.int v12), none, none]) rfl ?_
  obtain ⟨R24, hR24, h⟩ := g_bind h
  have E41 : ∀  (S24 : gSt), (some S24) = some S0 → AW X RX3 1 cX3_raise 110 [none, none, none, none, none, none, none, none, none, none] [] S24 := by
    intro S24 h
    obtain rfl := Option.some.inj h
    exact a_vret hp dX3_raise_110
  have lp : ∀ (n : Nat) (x1 : Int32) (x2 : Int32) (x3 : Int32) (x4 : Int32) (x5 : Int32) (x6 : Int32) (x7 : Int32) (S : gSt), gLoop (f_X3_raise_s41) n (x1, x2, x3, x4, x5, x6, x7, S) = some R24 → AW X RX3 1 cX3_raise 41 [some (.ref (gad X 41)), some (.int x1), some (.int x2), some (.int x3), some (.int x4), some (.int x5), some (.int x6), some (.int x7), none, none] [] S := by
    intro n
    induction n with
    | zero => intro x1 x2 x3 x4 x5 x6 x7 S hR; cases hR
    | succ n ih =>
      intro x1 x2 x3 x4 x5 x6 x7 S hR
      obtain ⟨q, hs, hR⟩ := g_bind hR
      have hs : f_X3_raise_s41_b x1 x2 x3 x4 x5 x6 x7 S = some q := hs
      unfold f_X3_raise_s41_b at hs
      refine a_iload (pc := 41) dX3_raise_41 rfl ?_
      refine a_iload (pc := 43) dX3_raise_43 rfl ?_
      refine a_icmp_gt (pc := 45) (tgt := 110) dX3_raise_45 (by decide) (fun c13 => ?_) (fun c13 => ?_)
      · rw [if_pos c13] at hs
        obtain rfl := Option.some.inj hs
        obtain rfl := Option.some.inj hR
        refine a_mask [false, false, false, false, false, false, false, false, true, true] (L' := [none, none, none, none, none, none, none, none, none, none]) rfl ?_
        exact E41  _ h
      · rw [if_neg c13] at hs
        refine a_iconst (pc := 48) (v := (0 : Int32)) dX3_raise_48 (by decide) ?_
        refine a_iloadn (pc := 49) dX3_raise_49 rfl rfl ?_
        obtain ⟨r16, S14, hc15, hs⟩ := g_bind2 hs
        refine a_invSNi (pc := 50) (ok_X6_columnOf hc15) gyX6_columnOf syX6_columnOf mlX3_59 (As := [.int x2]) rfl rfl (by decide) (st := [.int (0 : Int32)]) rfl (Nat.le_of_ble_eq_true rfl) dX3_raise_50 ?_
        refine a_iload (pc := 53) dX3_raise_53 rfl ?_
        refine a_isub (pc := 55) dX3_raise_55 ?_
        refine a_max (pc := 56) mlX3_71 (by decide) (Nat.le_of_ble_eq_true rfl) dX3_raise_56 ?_
        obtain ⟨v17, ev17, hs⟩ := g_let hs
        refine a_nmI ev17 ?_
        refine a_istore (pc := 59) dX3_raise_59 (Nat.le_of_ble_eq_true rfl) rfl (L' := [some (.ref (gad X 41)), some (.int x1), some (.int x2), some (.int x3), some (.int x4), some (.int x5), some (.int x6), some (.int x7), some (.int v17), none]) rfl ?_
        obtain ⟨R23, hR23, hs⟩ := g_bind hs
        have E61 : ∀ (y1_23 : Int32) (y2_23 : Int32) (y3_23 : Int32) (y4_23 : Int32) (y5_23 : Int32) (y6_23 : Int32) (y7_23 : Int32) (S23 : gSt), (some (.inl (y1_23, y2_23, y3_23, y4_23, y5_23, y6_23, y7_23 + (1 : Int32), S23))) = some q → AW X RX3 1 cX3_raise 104 [some (.ref (gad X 41)), some (.int y1_23), some (.int y2_23), some (.int y3_23), some (.int y4_23), some (.int y5_23), some (.int y6_23), some (.int y7_23), none, none] [] S23 := by
          intro y1_23 y2_23 y3_23 y4_23 y5_23 y6_23 y7_23 S23 hs
          refine a_iinc (pc := 104) dX3_raise_104 rfl (v := y7_23 + (1 : Int32)) rfl (Nat.le_of_ble_eq_true rfl) rfl (L' := [some (.ref (gad X 41)), some (.int y1_23), some (.int y2_23), some (.int y3_23), some (.int y4_23), some (.int y5_23), some (.int y6_23), some (.int (y7_23 + (1 : Int32))), none, none]) rfl ?_
          refine a_goto (pc := 107) (tgt := 41) dX3_raise_107 (by decide) ?_
          obtain rfl := Option.some.inj hs
          exact ih _ _ _ _ _ _ _ _ hR
        have lp : ∀ (n : Nat) (x1 : Int32) (x2 : Int32) (x3 : Int32) (x4 : Int32) (x5 : Int32) (x6 : Int32) (x7 : Int32) (x8 : Int32) (S : gSt), gLoop (f_X3_raise_s61) n (x1, x2, x3, x4, x5, x6, x7, x8, S) = some R23 → AW X RX3 1 cX3_raise 61 [some (.ref (gad X 41)), some (.int x1), some (.int x2), some (.int x3), some (.int x4), some (.int x5), some (.int x6), some (.int x7), some (.int x8), none] [] S := by
          intro n
          induction n with
          | zero => intro x1 x2 x3 x4 x5 x6 x7 x8 S hR; cases hR
          | succ n ih =>
            intro x1 x2 x3 x4 x5 x6 x7 x8 S hR
            obtain ⟨q, hs, hR⟩ := g_bind hR
            have hs : f_X3_raise_s61_b x1 x2 x3 x4 x5 x6 x7 x8 S = some q := hs
            unfold f_X3_raise_s61_b at hs
            refine a_iload (pc := 61) dX3_raise_61 rfl ?_
            refine a_iload (pc := 63) dX3_raise_63 rfl ?_
            refine a_icmp_gt (pc := 65) (tgt := 104) dX3_raise_65 (by decide) (fun c18 => ?_) (fun c18 => ?_)
            · rw [if_pos c18] at hs
              obtain rfl := Option.some.inj hs
              obtain rfl := Option.some.inj hR
              refine a_mask [true, true, true, true, true, true, true, true, false, true] (L' := [some (.ref (gad X 41)), some (.int x1), some (.int x2), some (.int x3), some (.int x4), some (.int x5), some (.int x6), some (.int x7), none, none]) rfl ?_
              exact E61 _ _ _ _ _ _ _ _ hs
            · rw [if_neg c18] at hs
              refine a_iloadn (pc := 68) dX3_raise_68 rfl rfl ?_
              refine a_iload (pc := 69) dX3_raise_69 rfl ?_
              refine a_bipush (pc := 71) (v := (8 : Int32)) dX3_raise_71 (by decide) ?_
              refine a_imul (pc := 73) dX3_raise_73 ?_
              refine a_iadd (pc := 74) dX3_raise_74 ?_
              refine a_iload (pc := 75) dX3_raise_75 rfl ?_
              refine a_iadd (pc := 77) dX3_raise_77 ?_
              obtain ⟨v19, ev19, hs⟩ := g_let hs
              refine a_nmI ev19 ?_
              refine a_istore (pc := 78) dX3_raise_78 (Nat.le_of_ble_eq_true rfl) rfl (L' := [some (.ref (gad X 41)), some (.int x1), some (.int x2), some (.int x3), some (.int x4), some (.int x5), some (.int x6), some (.int x7), some (.int x8), some (.int v19)]) rfl ?_
              refine a_aloadn (pc := 80) dX3_raise_80 rfl rfl ?_
              refine a_getA (pc := 81) flX3_9 sh_41 rfl dX3_raise_81 ?_
              refine a_iload (pc := 84) dX3_raise_84 rfl ?_
              refine a_aloadn (pc := 86) dX3_raise_86 rfl rfl ?_
              refine a_getA (pc := 87) flX3_9 sh_41 rfl dX3_raise_87 ?_
              refine a_iload (pc := 90) dX3_raise_90 rfl ?_
              obtain ⟨hi20, hs⟩ := g_if hs
              refine a_iald (pc := 92) sh_42 hi20 dX3_raise_92 ?_
              refine a_iloadn (pc := 93) dX3_raise_93 rfl rfl ?_
              refine a_max (pc := 94) mlX3_71 (by decide) (Nat.le_of_ble_eq_true rfl) dX3_raise_94 ?_
              obtain ⟨hi21, hs⟩ := g_if hs
              refine a_iast (pc := 97) sh_42 hi21 dX3_raise_97 ?_
              obtain ⟨S22, eS22, hs⟩ := g_let hs
              refine a_nmS eS22 ?_
              refine a_iinc (pc := 98) dX3_raise_98 rfl (v := x8 + (1 : Int32)) rfl (Nat.le_of_ble_eq_true rfl) rfl (L' := [some (.ref (gad X 41)), some (.int x1), some (.int x2), some (.int x3), some (.int x4), some (.int x5), some (.int x6), some (.int x7), some (.int (x8 + (1 : Int32))), some (.int v19)]) rfl ?_
              refine a_goto (pc := 101) (tgt := 61) dX3_raise_101 (by decide) ?_
              obtain rfl := Option.some.inj hs
              refine a_mask [true, true, true, true, true, true, true, true, true, false] (L' := [some (.ref (gad X 41)), some (.int x1), some (.int x2), some (.int x3), some (.int x4), some (.int x5), some (.int x6), some (.int x7), some (.int (x8 + (1 : Int32))), none]) rfl ?_
              exact ih _ _ _ _ _ _ _ _ _ hR
        exact lp _ _ _ _ _ _ _ _ _ _ hR23
  exact lp _ _ _ _ _ _ _ _ _ hR24
def f_J7_fill_53178_43_s5_b (x1 : Int32) (x2 : Int32) (x3 : Int32) (S : gSt) : Option ((Int32 × Int32 × Int32 × gSt) ⊕ (gSt)) :=
(if x3 ≤ x2 then
some (.inr (S))
else
if gin x2 6 then
gLet (gI S 43 x2.toNatClampNeg x1) fun S3 =>
(some (.inl (x1, x2 + (1 : Int32), x3, S3))) else none)
def f_J7_fill_53178_43_s5 : (Int32 × Int32 × Int32 × gSt) → Option ((Int32 × Int32 × Int32 × gSt) ⊕ (gSt)) := fun t => f_J7_fill_53178_43_s5_b t.1 t.2.1 t.2.2.1 t.2.2.2
def f_J7_fill_53178_43 (p1 : Int32) (S : gSt) : Option gSt :=
(gLoop (f_J7_fill_53178_43_s5) gFuel (p1, (0 : Int32), (6 : Int32), S)).bind fun q4 => match q4 with
| S4 =>
some S4
set_option maxHeartbeats 4000000 in
set_option maxRecDepth 20000 in
theorem ok_J7_fill_53178_43 {p1 : Int32} {S S0 : gSt}  (h : f_J7_fill_53178_43 p1 S = some S0) : gCT yJ7_fill_53178 cJ7_fill_53178 4 none 0 (fun w => [.ref (w.2.1 43), .int p1]) S none S0 := by
  refine gEnter (fun X => [some (.ref (gad X 43)), some (.int p1), none, none]) (by decide) (fun X => ⟨rfl, rfl⟩) (fun w => Nat.le_of_ble_eq_true rfl) (fun X hp => ?_)
  show AW X RJ7 0 cJ7_fill_53178 0 [some (.ref (gad X 43)), some (.int p1), none, none] [] S
  unfold f_J7_fill_53178_43 at h
  refine a_iconst (pc := 0) (v := (0 : Int32)) dJ7_fill_53178_0 (by decide) ?_
  refine a_istoren (pc := 1) dJ7_fill_53178_1 rfl (Nat.le_of_ble_eq_true rfl) rfl (L' := [some (.ref (gad X 43)), some (.int p1), some (.int (0 : Int32)), none]) rfl ?_
  refine a_aloadn (pc := 2) dJ7_fill_53178_2 rfl rfl ?_
  refine a_alen (pc := 3) sh_43 (by decide) (v := (6 : Int32)) (by decide) dJ7_fill_53178_3 ?_
  refine a_istoren (pc := 4) dJ7_fill_53178_4 rfl (Nat.le_of_ble_eq_true rfl) rfl (L' := [some (.ref (gad X 43)), some (.int p1), some (.int (0 : Int32)), some (.int (6 : Int32))]) rfl ?_
  obtain ⟨R4, hR4, h⟩ := g_bind h
  have E5 : ∀  (S4 : gSt), (some S4) = some S0 → AW X RJ7 0 cJ7_fill_53178 20 [none, none, none, none] [] S4 := by
    intro S4 h
    obtain rfl := Option.some.inj h
    exact a_vret hp dJ7_fill_53178_20
  have lp : ∀ (n : Nat) (x1 : Int32) (x2 : Int32) (x3 : Int32) (S : gSt), gLoop (f_J7_fill_53178_43_s5) n (x1, x2, x3, S) = some R4 → AW X RJ7 0 cJ7_fill_53178 5 [some (.ref (gad X 43)), some (.int x1), some (.int x2), some (.int x3)] [] S := by
    intro n
    induction n with
    | zero => intro x1 x2 x3 S hR; cases hR
    | succ n ih =>
      intro x1 x2 x3 S hR
      obtain ⟨q, hs, hR⟩ := g_bind hR
      have hs : f_J7_fill_53178_43_s5_b x1 x2 x3 S = some q := hs
      unfold f_J7_fill_53178_43_s5_b at hs
      refine a_iloadn (pc := 5) dJ7_fill_53178_5 rfl rfl ?_
      refine a_iloadn (pc := 6) dJ7_fill_53178_6 rfl rfl ?_
      refine a_icmp_ge (pc := 7) (tgt := 20) dJ7_fill_53178_7 (by decide) (fun c1 => ?_) (fun c1 => ?_)
      · rw [if_pos c1] at hs
        obtain rfl := Option.some.inj hs
        obtain rfl := Option.some.inj hR
        refine a_mask [false, false, false, false] (L' := [none, none, none, none]) rfl ?_
        exact E5  _ h
      · rw [if_neg c1] at hs
        refine a_aloadn (pc := 10) dJ7_fill_53178_10 rfl rfl ?_
        refine a_iloadn (pc := 11) dJ7_fill_53178_11 rfl rfl ?_
        refine a_iloadn (pc := 12) dJ7_fill_53178_12 rfl rfl ?_
        obtain ⟨hi2, hs⟩ := g_if hs
        refine a_iast (pc := 13) sh_43 hi2 dJ7_fill_53178_13 ?_
        obtain ⟨S3, eS3, hs⟩ := g_let hs
        refine a_nmS eS3 ?_
        refine a_iinc (pc := 14) dJ7_fill_53178_14 rfl (v := x2 + (1 : Int32)) rfl (Nat.le_of_ble_eq_true rfl) rfl (L' := [some (.ref (gad X 43)), some (.int x1), some (.int (x2 + (1 : Int32))), some (.int x3)]) rfl ?_
        refine a_goto (pc := 17) (tgt := 5) dJ7_fill_53178_17 (by decide) ?_
        obtain rfl := Option.some.inj hs
        exact ih _ _ _ _ hR
  exact lp _ _ _ _ _ hR4
theorem dX3_holderOf_0 : decode cX3_holderOf 0 = .ok (.iconst 0, 1) := by decide +kernel
theorem dX3_holderOf_1 : decode cX3_holderOf 1 = .ok (.istore_n 2, 1) := by decide +kernel
theorem dX3_holderOf_2 : decode cX3_holderOf 2 = .ok (.bipush (-4), 2) := by decide +kernel
theorem dX3_holderOf_4 : decode cX3_holderOf 4 = .ok (.istore_n 3, 1) := by decide +kernel
theorem dX3_holderOf_5 : decode cX3_holderOf 5 = .ok (.iconst 0, 1) := by decide +kernel
theorem dX3_holderOf_6 : decode cX3_holderOf 6 = .ok (.istore 4, 2) := by decide +kernel
theorem dX3_holderOf_8 : decode cX3_holderOf 8 = .ok (.iload 4, 2) := by decide +kernel
theorem dX3_holderOf_10 : decode cX3_holderOf 10 = .ok (.aload_n 0, 1) := by decide +kernel
theorem dX3_holderOf_11 : decode cX3_holderOf 11 = .ok (.getfield 22, 3) := by decide +kernel
theorem dX3_holderOf_14 : decode cX3_holderOf 14 = .ok (.if_icmp .ge 47, 3) := by decide +kernel
theorem dX3_holderOf_17 : decode cX3_holderOf 17 = .ok (.aload_n 0, 1) := by decide +kernel
theorem dX3_holderOf_18 : decode cX3_holderOf 18 = .ok (.getfield 9, 3) := by decide +kernel
theorem dX3_holderOf_21 : decode cX3_holderOf 21 = .ok (.iload 4, 2) := by decide +kernel
theorem dX3_holderOf_23 : decode cX3_holderOf 23 = .ok (.bipush 64, 2) := by decide +kernel
theorem dX3_holderOf_25 : decode cX3_holderOf 25 = .ok (.imul, 1) := by decide +kernel
theorem dX3_holderOf_26 : decode cX3_holderOf 26 = .ok (.iload_n 1, 1) := by decide +kernel
theorem dX3_holderOf_27 : decode cX3_holderOf 27 = .ok (.iadd, 1) := by decide +kernel
theorem dX3_holderOf_28 : decode cX3_holderOf 28 = .ok (.iaload, 1) := by decide +kernel
theorem dX3_holderOf_29 : decode cX3_holderOf 29 = .ok (.istore 5, 2) := by decide +kernel
theorem dX3_holderOf_31 : decode cX3_holderOf 31 = .ok (.iload 5, 2) := by decide +kernel
theorem dX3_holderOf_33 : decode cX3_holderOf 33 = .ok (.iload_n 2, 1) := by decide +kernel
theorem dX3_holderOf_34 : decode cX3_holderOf 34 = .ok (.if_icmp .le 12, 3) := by decide +kernel
theorem dX3_holderOf_37 : decode cX3_holderOf 37 = .ok (.iload 5, 2) := by decide +kernel
theorem dX3_holderOf_39 : decode cX3_holderOf 39 = .ok (.istore_n 2, 1) := by decide +kernel
theorem dX3_holderOf_40 : decode cX3_holderOf 40 = .ok (.iload 4, 2) := by decide +kernel
theorem dX3_holderOf_42 : decode cX3_holderOf 42 = .ok (.istore_n 3, 1) := by decide +kernel
theorem dX3_holderOf_43 : decode cX3_holderOf 43 = .ok (.goto 12, 3) := by decide +kernel
theorem dX3_holderOf_46 : decode cX3_holderOf 46 = .ok (.iload 5, 2) := by decide +kernel
theorem dX3_holderOf_48 : decode cX3_holderOf 48 = .ok (.iload_n 2, 1) := by decide +kernel
theorem dX3_holderOf_49 : decode cX3_holderOf 49 = .ok (.if_icmp .ne 6, 3) := by decide +kernel
theorem dX3_holderOf_52 : decode cX3_holderOf 52 = .ok (.bipush (-4), 2) := by decide +kernel
theorem dX3_holderOf_54 : decode cX3_holderOf 54 = .ok (.istore_n 3, 1) := by decide +kernel
theorem dX3_holderOf_55 : decode cX3_holderOf 55 = .ok (.iinc 4 1, 3) := by decide +kernel
theorem dX3_holderOf_58 : decode cX3_holderOf 58 = .ok (.goto (-50), 3) := by decide +kernel
theorem dX3_holderOf_61 : decode cX3_holderOf 61 = .ok (.iload_n 3, 1) := by decide +kernel
theorem dX3_holderOf_62 : decode cX3_holderOf 62 = .ok (.ireturn, 1) := by decide +kernel
def f_X3_holderOf_s8_b (x1 : Int32) (x2 : Int32) (x3 : Int32) (x4 : Int32) (S : gSt) : Option ((Int32 × Int32 × Int32 × Int32 × gSt) ⊕ (Int32 × gSt)) :=
(if (S.1 41 3) ≤ x4 then
some (.inr (x3, S))
else
if gin ((x4 * (64 : Int32)) + x1) 384 then
(gLet (S.1 42 ((x4 * (64 : Int32)) + x1).toNatClampNeg) fun v3 =>
(if v3 ≤ x2 then
(if v3 = x2 then
some (.inl (x1, x2, (-4 : Int32), x4 + (1 : Int32), S))
else
some (.inl (x1, x2, x3, x4 + (1 : Int32), S)))
else
some (.inl (x1, v3, x4, x4 + (1 : Int32), S)))) else none)
def f_X3_holderOf_s8 : (Int32 × Int32 × Int32 × Int32 × gSt) → Option ((Int32 × Int32 × Int32 × Int32 × gSt) ⊕ (Int32 × gSt)) := fun t => f_X3_holderOf_s8_b t.1 t.2.1 t.2.2.1 t.2.2.2.1 t.2.2.2.2
def f_X3_holderOf (p1 : Int32) (S : gSt) : Option (Int32 × gSt) :=
(gLoop (f_X3_holderOf_s8) gFuel (p1, (0 : Int32), (-4 : Int32), (0 : Int32), S)).bind fun q6 => match q6 with
| (y3_6, S6) =>
some (y3_6, S6)
set_option maxHeartbeats 4000000 in
set_option maxRecDepth 20000 in
theorem ok_X3_holderOf {p1 : Int32} {S S0 : gSt} {r0 : Int32}  (h : f_X3_holderOf p1 S = some (r0, S0)) : gCT yX3_holderOf cX3_holderOf 6 (some .int) 0 (fun w => [.ref (w.2.1 41), .int p1]) S (some (.int r0)) S0 := by
  refine gEnter (fun X => [some (.ref (gad X 41)), some (.int p1), none, none, none, none]) (by decide) (fun X => ⟨rfl, rfl⟩) (fun w => Nat.le_of_ble_eq_true rfl) (fun X hp => ?_)
  show AW X RX3 0 cX3_holderOf 0 [some (.ref (gad X 41)), some (.int p1), none, none, none, none] [] S
  unfold f_X3_holderOf at h
  refine a_iconst (pc := 0) (v := (0 : Int32)) dX3_holderOf_0 (by decide) ?_
  refine a_istoren (pc := 1) dX3_holderOf_1 rfl (Nat.le_of_ble_eq_true rfl) rfl (L' := [some (.ref (gad X 41)), some (.int p1), some (.int (0 : Int32)), none, none, none]) rfl ?_
  refine a_bipush (pc := 2) (v := (-4 : Int32)) dX3_holderOf_2 (by decide) ?_
  refine a_istoren (pc := 4) dX3_holderOf_4 rfl (Nat.le_of_ble_eq_true rfl) rfl (L' := [some (.ref (gad X 41)), some (.int p1), some (.int (0 : Int32)), some (.int (-4 : Int32)), none, none]) rfl ?_
  refine a_iconst (pc := 5) (v := (0 : Int32)) dX3_holderOf_5 (by decide) ?_
  refine a_istore (pc := 6) dX3_holderOf_6 (Nat.le_of_ble_eq_true rfl) rfl (L' := [some (.ref (gad X 41)), some (.int p1), some (.int (0 : Int32)), some (.int (-4 : Int32)), some (.int (0 : Int32)), none]) rfl ?_
  obtain ⟨R6, hR6, h⟩ := g_bind h
  have E8 : ∀ (y3_6 : Int32) (S6 : gSt), (some (y3_6, S6)) = some (r0, S0) → AW X RX3 0 cX3_holderOf 61 [none, none, none, some (.int y3_6), none, none] [] S6 := by
    intro y3_6 S6 h
    refine a_iloadn (pc := 61) dX3_holderOf_61 rfl rfl ?_
    obtain ⟨rfl, rfl⟩ := Prod.mk.inj (Option.some.inj h)
    exact a_iret hp dX3_holderOf_62
  have lp : ∀ (n : Nat) (x1 : Int32) (x2 : Int32) (x3 : Int32) (x4 : Int32) (S : gSt), gLoop (f_X3_holderOf_s8) n (x1, x2, x3, x4, S) = some R6 → AW X RX3 0 cX3_holderOf 8 [some (.ref (gad X 41)), some (.int x1), some (.int x2), some (.int x3), some (.int x4), none] [] S := by
    intro n
    induction n with
    | zero => intro x1 x2 x3 x4 S hR; cases hR
    | succ n ih =>
      intro x1 x2 x3 x4 S hR
      obtain ⟨q, hs, hR⟩ := g_bind hR
      have hs : f_X3_holderOf_s8_b x1 x2 x3 x4 S = some q := hs
      unfold f_X3_holderOf_s8_b at hs
      refine a_iload (pc := 8) dX3_holderOf_8 rfl ?_
      refine a_aloadn (pc := 10) dX3_holderOf_10 rfl rfl ?_
      refine a_getI (pc := 11) flX3_22 sh_41 rfl dX3_holderOf_11 ?_
      refine a_icmp_ge (pc := 14) (tgt := 61) dX3_holderOf_14 (by decide) (fun c1 => ?_) (fun c1 => ?_)
      · rw [if_pos c1] at hs
        obtain rfl := Option.some.inj hs
        obtain rfl := Option.some.inj hR
        refine a_mask [false, false, false, true, false, true] (L' := [none, none, none, some (.int x3), none, none]) rfl ?_
        exact E8 _ _ h
      · rw [if_neg c1] at hs
        refine a_aloadn (pc := 17) dX3_holderOf_17 rfl rfl ?_
        refine a_getA (pc := 18) flX3_9 sh_41 rfl dX3_holderOf_18 ?_
        refine a_iload (pc := 21) dX3_holderOf_21 rfl ?_
        refine a_bipush (pc := 23) (v := (64 : Int32)) dX3_holderOf_23 (by decide) ?_
        refine a_imul (pc := 25) dX3_holderOf_25 ?_
        refine a_iloadn (pc := 26) dX3_holderOf_26 rfl rfl ?_
        refine a_iadd (pc := 27) dX3_holderOf_27 ?_
        obtain ⟨hi2, hs⟩ := g_if hs
        refine a_iald (pc := 28) sh_42 hi2 dX3_holderOf_28 ?_
        obtain ⟨v3, ev3, hs⟩ := g_let hs
        refine a_nmI ev3 ?_
        refine a_istore (pc := 29) dX3_holderOf_29 (Nat.le_of_ble_eq_true rfl) rfl (L' := [some (.ref (gad X 41)), some (.int x1), some (.int x2), some (.int x3), some (.int x4), some (.int v3)]) rfl ?_
        refine a_iload (pc := 31) dX3_holderOf_31 rfl ?_
        refine a_iloadn (pc := 33) dX3_holderOf_33 rfl rfl ?_
        refine a_icmp_le (pc := 34) (tgt := 46) dX3_holderOf_34 (by decide) (fun c4 => ?_) (fun c4 => ?_)
        · rw [if_pos c4] at hs
          refine a_iload (pc := 46) dX3_holderOf_46 rfl ?_
          refine a_iloadn (pc := 48) dX3_holderOf_48 rfl rfl ?_
          refine a_icmp_ne (pc := 49) (tgt := 55) dX3_holderOf_49 (by decide) (fun c5 => ?_) (fun c5 => ?_)
          · rw [if_neg c5] at hs
            refine a_iinc (pc := 55) dX3_holderOf_55 rfl (v := x4 + (1 : Int32)) rfl (Nat.le_of_ble_eq_true rfl) rfl (L' := [some (.ref (gad X 41)), some (.int x1), some (.int x2), some (.int x3), some (.int (x4 + (1 : Int32))), some (.int v3)]) rfl ?_
            refine a_goto (pc := 58) (tgt := 8) dX3_holderOf_58 (by decide) ?_
            obtain rfl := Option.some.inj hs
            refine a_mask [true, true, true, true, true, false] (L' := [some (.ref (gad X 41)), some (.int x1), some (.int x2), some (.int x3), some (.int (x4 + (1 : Int32))), none]) rfl ?_
            exact ih _ _ _ _ _ hR
          · rw [if_pos c5] at hs
            refine a_bipush (pc := 52) (v := (-4 : Int32)) dX3_holderOf_52 (by decide) ?_
            refine a_istoren (pc := 54) dX3_holderOf_54 rfl (Nat.le_of_ble_eq_true rfl) rfl (L' := [some (.ref (gad X 41)), some (.int x1), some (.int x2), some (.int (-4 : Int32)), some (.int x4), some (.int v3)]) rfl ?_
            refine a_iinc (pc := 55) dX3_holderOf_55 rfl (v := x4 + (1 : Int32)) rfl (Nat.le_of_ble_eq_true rfl) rfl (L' := [some (.ref (gad X 41)), some (.int x1), some (.int x2), some (.int (-4 : Int32)), some (.int (x4 + (1 : Int32))), some (.int v3)]) rfl ?_
            refine a_goto (pc := 58) (tgt := 8) dX3_holderOf_58 (by decide) ?_
            obtain rfl := Option.some.inj hs
            refine a_mask [true, true, true, true, true, false] (L' := [some (.ref (gad X 41)), some (.int x1), some (.int x2), some (.int (-4 : Int32)), some (.int (x4 + (1 : Int32))), none]) rfl ?_
            exact ih _ _ _ _ _ hR
        · rw [if_neg c4] at hs
          refine a_iload (pc := 37) dX3_holderOf_37 rfl ?_
          refine a_istoren (pc := 39) dX3_holderOf_39 rfl (Nat.le_of_ble_eq_true rfl) rfl (L' := [some (.ref (gad X 41)), some (.int x1), some (.int v3), some (.int x3), some (.int x4), some (.int v3)]) rfl ?_
          refine a_iload (pc := 40) dX3_holderOf_40 rfl ?_
          refine a_istoren (pc := 42) dX3_holderOf_42 rfl (Nat.le_of_ble_eq_true rfl) rfl (L' := [some (.ref (gad X 41)), some (.int x1), some (.int v3), some (.int x4), some (.int x4), some (.int v3)]) rfl ?_
          refine a_goto (pc := 43) (tgt := 55) dX3_holderOf_43 (by decide) ?_
          refine a_iinc (pc := 55) dX3_holderOf_55 rfl (v := x4 + (1 : Int32)) rfl (Nat.le_of_ble_eq_true rfl) rfl (L' := [some (.ref (gad X 41)), some (.int x1), some (.int v3), some (.int x4), some (.int (x4 + (1 : Int32))), some (.int v3)]) rfl ?_
          refine a_goto (pc := 58) (tgt := 8) dX3_holderOf_58 (by decide) ?_
          obtain rfl := Option.some.inj hs
          refine a_mask [true, true, true, true, true, false] (L' := [some (.ref (gad X 41)), some (.int x1), some (.int v3), some (.int x4), some (.int (x4 + (1 : Int32))), none]) rfl ?_
          exact ih _ _ _ _ _ hR
  exact lp _ _ _ _ _ _ hR6
theorem dX3_tally_0 : decode cX3_tally 0 = .ok (.aload_n 0, 1) := by decide +kernel
theorem dX3_tally_1 : decode cX3_tally 1 = .ok (.getfield 15, 3) := by decide +kernel
theorem dX3_tally_4 : decode cX3_tally 4 = .ok (.iconst 0, 1) := by decide +kernel
theorem dX3_tally_5 : decode cX3_tally 5 = .ok (.invokestatic 32, 3) := by decide +kernel
theorem dX3_tally_8 : decode cX3_tally 8 = .ok (.aload_n 0, 1) := by decide +kernel
theorem dX3_tally_9 : decode cX3_tally 9 = .ok (.iconst 0, 1) := by decide +kernel
theorem dX3_tally_10 : decode cX3_tally 10 = .ok (.putfield 18, 3) := by decide +kernel
theorem dX3_tally_13 : decode cX3_tally 13 = .ok (.iconst 0, 1) := by decide +kernel
theorem dX3_tally_14 : decode cX3_tally 14 = .ok (.istore_n 1, 1) := by decide +kernel
theorem dX3_tally_15 : decode cX3_tally 15 = .ok (.iload_n 1, 1) := by decide +kernel
theorem dX3_tally_16 : decode cX3_tally 16 = .ok (.bipush 64, 2) := by decide +kernel
theorem dX3_tally_18 : decode cX3_tally 18 = .ok (.if_icmp .ge 39, 3) := by decide +kernel
theorem dX3_tally_21 : decode cX3_tally 21 = .ok (.aload_n 0, 1) := by decide +kernel
theorem dX3_tally_22 : decode cX3_tally 22 = .ok (.iload_n 1, 1) := by decide +kernel
theorem dX3_tally_23 : decode cX3_tally 23 = .ok (.invokevirtual 55, 3) := by decide +kernel
theorem dX3_tally_26 : decode cX3_tally 26 = .ok (.istore_n 2, 1) := by decide +kernel
theorem dX3_tally_27 : decode cX3_tally 27 = .ok (.iload_n 2, 1) := by decide +kernel
theorem dX3_tally_28 : decode cX3_tally 28 = .ok (.ifCond .lt 23, 3) := by decide +kernel
theorem dX3_tally_31 : decode cX3_tally 31 = .ok (.aload_n 0, 1) := by decide +kernel
theorem dX3_tally_32 : decode cX3_tally 32 = .ok (.getfield 15, 3) := by decide +kernel
theorem dX3_tally_35 : decode cX3_tally 35 = .ok (.iload_n 2, 1) := by decide +kernel
theorem dX3_tally_36 : decode cX3_tally 36 = .ok (.dup2, 1) := by decide +kernel
theorem dX3_tally_37 : decode cX3_tally 37 = .ok (.iaload, 1) := by decide +kernel
theorem dX3_tally_38 : decode cX3_tally 38 = .ok (.iconst 1, 1) := by decide +kernel
theorem dX3_tally_39 : decode cX3_tally 39 = .ok (.iadd, 1) := by decide +kernel
theorem dX3_tally_40 : decode cX3_tally 40 = .ok (.iastore, 1) := by decide +kernel
theorem dX3_tally_41 : decode cX3_tally 41 = .ok (.aload_n 0, 1) := by decide +kernel
theorem dX3_tally_42 : decode cX3_tally 42 = .ok (.dup, 1) := by decide +kernel
theorem dX3_tally_43 : decode cX3_tally 43 = .ok (.getfield 18, 3) := by decide +kernel
theorem dX3_tally_46 : decode cX3_tally 46 = .ok (.iconst 1, 1) := by decide +kernel
theorem dX3_tally_47 : decode cX3_tally 47 = .ok (.iadd, 1) := by decide +kernel
theorem dX3_tally_48 : decode cX3_tally 48 = .ok (.putfield 18, 3) := by decide +kernel
theorem dX3_tally_51 : decode cX3_tally 51 = .ok (.iinc 1 1, 3) := by decide +kernel
theorem dX3_tally_54 : decode cX3_tally 54 = .ok (.goto (-39), 3) := by decide +kernel
theorem dX3_tally_57 : decode cX3_tally 57 = .ok (.return_, 1) := by decide +kernel
def f_X3_tally_s15_b (x1 : Int32) (S : gSt) : Option ((Int32 × gSt) ⊕ (gSt)) :=
(if (64 : Int32) ≤ x1 then
some (.inr (S))
else
gBind2 (f_X3_holderOf x1 S) fun r7 S5 =>
(if r7 < 0 then
some (.inl (x1 + (1 : Int32), S5))
else
if gin r7 6 then
(if gin r7 6 then
gLet (gI S5 43 r7.toNatClampNeg ((S5.1 43 r7.toNatClampNeg) + (1 : Int32))) fun S11 =>
(gLet (gI S11 41 2 ((S11.1 41 2) + (1 : Int32))) fun S12 =>
some (.inl (x1 + (1 : Int32), S12))) else none) else none))
def f_X3_tally_s15 : (Int32 × gSt) → Option ((Int32 × gSt) ⊕ (gSt)) := fun t => f_X3_tally_s15_b t.1 t.2
def f_X3_tally (S : gSt) : Option gSt :=
(f_J7_fill_53178_43 (0 : Int32) S).bind fun S1 =>
gLet (gI S1 41 2 (0 : Int32)) fun S3 =>
(gLoop (f_X3_tally_s15) gFuel ((0 : Int32), S3)).bind fun q13 => match q13 with
| S13 =>
some S13
set_option maxHeartbeats 4000000 in
set_option maxRecDepth 20000 in
theorem ok_X3_tally {S S0 : gSt}  (h : f_X3_tally S = some S0) : gCT yX3_tally cX3_tally 3 none 1 (fun w => [.ref (w.2.1 41)]) S none S0 := by
  refine gEnter (fun X => [some (.ref (gad X 41)), none, none]) (by decide) (fun X => ⟨rfl, rfl⟩) (fun w => Nat.le_of_ble_eq_true rfl) (fun X hp => ?_)
  show AW X RX3 1 cX3_tally 0 [some (.ref (gad X 41)), none, none] [] S
  unfold f_X3_tally at h
  refine a_aloadn (pc := 0) dX3_tally_0 rfl rfl ?_
  refine a_getA (pc := 1) flX3_15 sh_41 rfl dX3_tally_1 ?_
  refine a_iconst (pc := 4) (v := (0 : Int32)) dX3_tally_4 (by decide) ?_
  obtain ⟨S1, hc2, h⟩ := g_bind h
  refine a_invSv (pc := 5) (ok_J7_fill_53178_43 hc2) gyJ7_fill_53178 syJ7_fill_53178 mlX3_32 (As := [.ref (gad X 43), .int (0 : Int32)]) rfl rfl (by decide) (st := []) rfl (Nat.le_of_ble_eq_true rfl) dX3_tally_5 ?_
  refine a_aloadn (pc := 8) dX3_tally_8 rfl rfl ?_
  refine a_iconst (pc := 9) (v := (0 : Int32)) dX3_tally_9 (by decide) ?_
  refine a_putI (pc := 10) flX3_18 sh_41 rfl rfl rfl dX3_tally_10 ?_
  obtain ⟨S3, eS3, h⟩ := g_let h
  refine a_nmS eS3 ?_
  refine a_iconst (pc := 13) (v := (0 : Int32)) dX3_tally_13 (by decide) ?_
  refine a_istoren (pc := 14) dX3_tally_14 rfl (Nat.le_of_ble_eq_true rfl) rfl (L' := [some (.ref (gad X 41)), some (.int (0 : Int32)), none]) rfl ?_
  obtain ⟨R13, hR13, h⟩ := g_bind h
  have E15 : ∀  (S13 : gSt), (some S13) = some S0 → AW X RX3 1 cX3_tally 57 [none, none, none] [] S13 := by
    intro S13 h
    obtain rfl := Option.some.inj h
    exact a_vret hp dX3_tally_57
  have lp : ∀ (n : Nat) (x1 : Int32) (S : gSt), gLoop (f_X3_tally_s15) n (x1, S) = some R13 → AW X RX3 1 cX3_tally 15 [some (.ref (gad X 41)), some (.int x1), none] [] S := by
    intro n
    induction n with
    | zero => intro x1 S hR; cases hR
    | succ n ih =>
      intro x1 S hR
      obtain ⟨q, hs, hR⟩ := g_bind hR
      have hs : f_X3_tally_s15_b x1 S = some q := hs
      unfold f_X3_tally_s15_b at hs
      refine a_iloadn (pc := 15) dX3_tally_15 rfl rfl ?_
      refine a_bipush (pc := 16) (v := (64 : Int32)) dX3_tally_16 (by decide) ?_
      refine a_icmp_ge (pc := 18) (tgt := 57) dX3_tally_18 (by decide) (fun c4 => ?_) (fun c4 => ?_)
      · rw [if_pos c4] at hs
        obtain rfl := Option.some.inj hs
        obtain rfl := Option.some.inj hR
        refine a_mask [false, false, true] (L' := [none, none, none]) rfl ?_
        exact E15  _ h
      · rw [if_neg c4] at hs
        refine a_aloadn (pc := 21) dX3_tally_21 rfl rfl ?_
        refine a_iloadn (pc := 22) dX3_tally_22 rfl rfl ?_
        obtain ⟨r7, S5, hc6, hs⟩ := g_bind2 hs
        refine a_invVi (pc := 23) (ok_X3_holderOf hc6) gyX3_holderOf vyX3_holderOf mlX3_55 sh_41 rfl (As := [.int x1]) rfl rfl (by decide) (st := []) rfl (Nat.le_of_ble_eq_true rfl) dX3_tally_23 ?_
        refine a_istoren (pc := 26) dX3_tally_26 rfl (Nat.le_of_ble_eq_true rfl) rfl (L' := [some (.ref (gad X 41)), some (.int x1), some (.int r7)]) rfl ?_
        refine a_iloadn (pc := 27) dX3_tally_27 rfl rfl ?_
        refine a_if_lt (pc := 28) (tgt := 51) dX3_tally_28 (by decide) (fun c8 => ?_) (fun c8 => ?_)
        · rw [if_pos c8] at hs
          refine a_iinc (pc := 51) dX3_tally_51 rfl (v := x1 + (1 : Int32)) rfl (Nat.le_of_ble_eq_true rfl) rfl (L' := [some (.ref (gad X 41)), some (.int (x1 + (1 : Int32))), some (.int r7)]) rfl ?_
          refine a_goto (pc := 54) (tgt := 15) dX3_tally_54 (by decide) ?_
          obtain rfl := Option.some.inj hs
          refine a_mask [true, true, false] (L' := [some (.ref (gad X 41)), some (.int (x1 + (1 : Int32))), none]) rfl ?_
          exact ih _ _ hR
        · rw [if_neg c8] at hs
          refine a_aloadn (pc := 31) dX3_tally_31 rfl rfl ?_
          refine a_getA (pc := 32) flX3_15 sh_41 rfl dX3_tally_32 ?_
          refine a_iloadn (pc := 35) dX3_tally_35 rfl rfl ?_
          refine a_dup2 (pc := 36) dX3_tally_36 rfl rfl ?_
          obtain ⟨hi9, hs⟩ := g_if hs
          refine a_iald (pc := 37) sh_43 hi9 dX3_tally_37 ?_
          refine a_iconst (pc := 38) (v := (1 : Int32)) dX3_tally_38 (by decide) ?_
          refine a_iadd (pc := 39) dX3_tally_39 ?_
          obtain ⟨hi10, hs⟩ := g_if hs
          refine a_iast (pc := 40) sh_43 hi10 dX3_tally_40 ?_
          obtain ⟨S11, eS11, hs⟩ := g_let hs
          refine a_nmS eS11 ?_
          refine a_aloadn (pc := 41) dX3_tally_41 rfl rfl ?_
          refine a_dup (pc := 42) dX3_tally_42 rfl ?_
          refine a_getI (pc := 43) flX3_18 sh_41 rfl dX3_tally_43 ?_
          refine a_iconst (pc := 46) (v := (1 : Int32)) dX3_tally_46 (by decide) ?_
          refine a_iadd (pc := 47) dX3_tally_47 ?_
          refine a_putI (pc := 48) flX3_18 sh_41 rfl rfl rfl dX3_tally_48 ?_
          obtain ⟨S12, eS12, hs⟩ := g_let hs
          refine a_nmS eS12 ?_
          refine a_iinc (pc := 51) dX3_tally_51 rfl (v := x1 + (1 : Int32)) rfl (Nat.le_of_ble_eq_true rfl) rfl (L' := [some (.ref (gad X 41)), some (.int (x1 + (1 : Int32))), some (.int r7)]) rfl ?_
          refine a_goto (pc := 54) (tgt := 15) dX3_tally_54 (by decide) ?_
          obtain rfl := Option.some.inj hs
          refine a_mask [true, true, false] (L' := [some (.ref (gad X 41)), some (.int (x1 + (1 : Int32))), none]) rfl ?_
          exact ih _ _ hR
  exact lp _ _ _ hR13
theorem dX3_lookWithout_0 : decode cX3_lookWithout 0 = .ok (.aload_n 0, 1) := by decide +kernel
theorem dX3_lookWithout_1 : decode cX3_lookWithout 1 = .ok (.aload_n 1, 1) := by decide +kernel
theorem dX3_lookWithout_2 : decode cX3_lookWithout 2 = .ok (.getfield 29, 3) := by decide +kernel
theorem dX3_lookWithout_5 : decode cX3_lookWithout 5 = .ok (.putfield 22, 3) := by decide +kernel
theorem dX3_lookWithout_8 : decode cX3_lookWithout 8 = .ok (.aload_n 0, 1) := by decide +kernel
theorem dX3_lookWithout_9 : decode cX3_lookWithout 9 = .ok (.getfield 9, 3) := by decide +kernel
theorem dX3_lookWithout_12 : decode cX3_lookWithout 12 = .ok (.iconst 0, 1) := by decide +kernel
theorem dX3_lookWithout_13 : decode cX3_lookWithout 13 = .ok (.invokestatic 32, 3) := by decide +kernel
theorem dX3_lookWithout_16 : decode cX3_lookWithout 16 = .ok (.iconst 0, 1) := by decide +kernel
theorem dX3_lookWithout_17 : decode cX3_lookWithout 17 = .ok (.istore 4, 2) := by decide +kernel
theorem dX3_lookWithout_19 : decode cX3_lookWithout 19 = .ok (.iload 4, 2) := by decide +kernel
theorem dX3_lookWithout_21 : decode cX3_lookWithout 21 = .ok (.aload_n 0, 1) := by decide +kernel
theorem dX3_lookWithout_22 : decode cX3_lookWithout 22 = .ok (.getfield 22, 3) := by decide +kernel
theorem dX3_lookWithout_25 : decode cX3_lookWithout 25 = .ok (.bipush 64, 2) := by decide +kernel
theorem dX3_lookWithout_27 : decode cX3_lookWithout 27 = .ok (.imul, 1) := by decide +kernel
theorem dX3_lookWithout_28 : decode cX3_lookWithout 28 = .ok (.if_icmp .ge 63, 3) := by decide +kernel
theorem dX3_lookWithout_31 : decode cX3_lookWithout 31 = .ok (.iload 4, 2) := by decide +kernel
theorem dX3_lookWithout_33 : decode cX3_lookWithout 33 = .ok (.bipush 64, 2) := by decide +kernel
theorem dX3_lookWithout_35 : decode cX3_lookWithout 35 = .ok (.irem, 1) := by decide +kernel
theorem dX3_lookWithout_36 : decode cX3_lookWithout 36 = .ok (.istore 5, 2) := by decide +kernel
theorem dX3_lookWithout_38 : decode cX3_lookWithout 38 = .ok (.aload_n 1, 1) := by decide +kernel
theorem dX3_lookWithout_39 : decode cX3_lookWithout 39 = .ok (.getfield 38, 3) := by decide +kernel
theorem dX3_lookWithout_42 : decode cX3_lookWithout 42 = .ok (.iload 4, 2) := by decide +kernel
theorem dX3_lookWithout_44 : decode cX3_lookWithout 44 = .ok (.iaload, 1) := by decide +kernel
theorem dX3_lookWithout_45 : decode cX3_lookWithout 45 = .ok (.ifCond .le 40, 3) := by decide +kernel
theorem dX3_lookWithout_48 : decode cX3_lookWithout 48 = .ok (.iload 5, 2) := by decide +kernel
theorem dX3_lookWithout_50 : decode cX3_lookWithout 50 = .ok (.iload_n 3, 1) := by decide +kernel
theorem dX3_lookWithout_51 : decode cX3_lookWithout 51 = .ok (.if_icmp .eq 34, 3) := by decide +kernel
theorem dX3_lookWithout_54 : decode cX3_lookWithout 54 = .ok (.aload_n 0, 1) := by decide +kernel
theorem dX3_lookWithout_55 : decode cX3_lookWithout 55 = .ok (.iload 4, 2) := by decide +kernel
theorem dX3_lookWithout_57 : decode cX3_lookWithout 57 = .ok (.iload 5, 2) := by decide +kernel
theorem dX3_lookWithout_59 : decode cX3_lookWithout 59 = .ok (.isub, 1) := by decide +kernel
theorem dX3_lookWithout_60 : decode cX3_lookWithout 60 = .ok (.iload 5, 2) := by decide +kernel
theorem dX3_lookWithout_62 : decode cX3_lookWithout 62 = .ok (.aload_n 1, 1) := by decide +kernel
theorem dX3_lookWithout_63 : decode cX3_lookWithout 63 = .ok (.aload_n 1, 1) := by decide +kernel
theorem dX3_lookWithout_64 : decode cX3_lookWithout 64 = .ok (.getfield 38, 3) := by decide +kernel
theorem dX3_lookWithout_67 : decode cX3_lookWithout 67 = .ok (.iload 4, 2) := by decide +kernel
theorem dX3_lookWithout_69 : decode cX3_lookWithout 69 = .ok (.iaload, 1) := by decide +kernel
theorem dX3_lookWithout_70 : decode cX3_lookWithout 70 = .ok (.iload 5, 2) := by decide +kernel
theorem dX3_lookWithout_72 : decode cX3_lookWithout 72 = .ok (.iload_n 2, 1) := by decide +kernel
theorem dX3_lookWithout_73 : decode cX3_lookWithout 73 = .ok (.invokevirtual 41, 3) := by decide +kernel
theorem dX3_lookWithout_76 : decode cX3_lookWithout 76 = .ok (.aload_n 1, 1) := by decide +kernel
theorem dX3_lookWithout_77 : decode cX3_lookWithout 77 = .ok (.getfield 45, 3) := by decide +kernel
theorem dX3_lookWithout_80 : decode cX3_lookWithout 80 = .ok (.iconst 2, 1) := by decide +kernel
theorem dX3_lookWithout_81 : decode cX3_lookWithout 81 = .ok (.iaload, 1) := by decide +kernel
theorem dX3_lookWithout_82 : decode cX3_lookWithout 82 = .ok (.invokevirtual 48, 3) := by decide +kernel
theorem dX3_lookWithout_85 : decode cX3_lookWithout 85 = .ok (.iinc 4 1, 3) := by decide +kernel
theorem dX3_lookWithout_88 : decode cX3_lookWithout 88 = .ok (.goto (-69), 3) := by decide +kernel
theorem dX3_lookWithout_91 : decode cX3_lookWithout 91 = .ok (.aload_n 0, 1) := by decide +kernel
theorem dX3_lookWithout_92 : decode cX3_lookWithout 92 = .ok (.invokevirtual 52, 3) := by decide +kernel
theorem dX3_lookWithout_95 : decode cX3_lookWithout 95 = .ok (.return_, 1) := by decide +kernel
def f_X3_lookWithout_s19_b (x2 : Int32) (x3 : Int32) (x4 : Int32) (S : gSt) : Option ((Int32 × Int32 × Int32 × gSt) ⊕ (gSt)) :=
(if ((S.1 41 3) * (64 : Int32)) ≤ x4 then
some (.inr (S))
else
gLet (x4 - x4 / (64 : Int32) * (64 : Int32)) fun v5 =>
if gin x4 384 then
((if (S.1 7 x4.toNatClampNeg) ≤ 0 then
some (.inl (x2, x3, x4 + (1 : Int32), S))
else
(if v5 = x3 then
some (.inl (x2, x3, x4 + (1 : Int32), S))
else
if gin x4 384 then
(gBind2 (f_X0_depthBehind (S.1 7 x4.toNatClampNeg) v5 x2 S) fun r12 S10 =>
if gin (2 : Int32) 5 then
((f_X3_raise (x4 - v5) v5 r12 (S10.1 2 (2 : Int32).toNatClampNeg) S10).bind fun S14 =>
some (.inl (x2, x3, x4 + (1 : Int32), S14))) else none) else none))) else none)
def f_X3_lookWithout_s19 : (Int32 × Int32 × Int32 × gSt) → Option ((Int32 × Int32 × Int32 × gSt) ⊕ (gSt)) := fun t => f_X3_lookWithout_s19_b t.1 t.2.1 t.2.2.1 t.2.2.2
def f_X3_lookWithout (p2 : Int32) (p3 : Int32) (S : gSt) : Option gSt :=
gLet (gI S 41 3 (S.1 1 7)) fun S1 =>
(f_J7_fill_53178_42 (0 : Int32) S1).bind fun S2 =>
(gLoop (f_X3_lookWithout_s19) gFuel (p2, p3, (0 : Int32), S2)).bind fun q16 => match q16 with
| S16 =>
(f_X3_tally S16).bind fun S17 =>
some S17
set_option maxHeartbeats 4000000 in
set_option maxRecDepth 20000 in
theorem ok_X3_lookWithout {p2 : Int32} {p3 : Int32} {S S0 : gSt}  (h : f_X3_lookWithout p2 p3 S = some S0) : gCT yX3_lookWithout cX3_lookWithout 6 none 2 (fun w => [.ref (w.2.1 41), .ref (w.2.1 1), .int p2, .int p3]) S none S0 := by
  refine gEnter (fun X => [some (.ref (gad X 41)), some (.ref (gad X 1)), some (.int p2), some (.int p3), none, none]) (by decide) (fun X => ⟨rfl, rfl⟩) (fun w => Nat.le_of_ble_eq_true rfl) (fun X hp => ?_)
  show AW X RX3 2 cX3_lookWithout 0 [some (.ref (gad X 41)), some (.ref (gad X 1)), some (.int p2), some (.int p3), none, none] [] S
  unfold f_X3_lookWithout at h
  refine a_aloadn (pc := 0) dX3_lookWithout_0 rfl rfl ?_
  refine a_aloadn (pc := 1) dX3_lookWithout_1 rfl rfl ?_
  refine a_getI (pc := 2) flX3_29 sh_1 rfl dX3_lookWithout_2 ?_
  refine a_putI (pc := 5) flX3_22 sh_41 rfl rfl rfl dX3_lookWithout_5 ?_
  obtain ⟨S1, eS1, h⟩ := g_let h
  refine a_nmS eS1 ?_
  refine a_aloadn (pc := 8) dX3_lookWithout_8 rfl rfl ?_
  refine a_getA (pc := 9) flX3_9 sh_41 rfl dX3_lookWithout_9 ?_
  refine a_iconst (pc := 12) (v := (0 : Int32)) dX3_lookWithout_12 (by decide) ?_
  obtain ⟨S2, hc3, h⟩ := g_bind h
  refine a_invSv (pc := 13) (ok_J7_fill_53178_42 hc3) gyJ7_fill_53178 syJ7_fill_53178 mlX3_32 (As := [.ref (gad X 42), .int (0 : Int32)]) rfl rfl (by decide) (st := []) rfl (Nat.le_of_ble_eq_true rfl) dX3_lookWithout_13 ?_
  refine a_iconst (pc := 16) (v := (0 : Int32)) dX3_lookWithout_16 (by decide) ?_
  refine a_istore (pc := 17) dX3_lookWithout_17 (Nat.le_of_ble_eq_true rfl) rfl (L' := [some (.ref (gad X 41)), some (.ref (gad X 1)), some (.int p2), some (.int p3), some (.int (0 : Int32)), none]) rfl ?_
  obtain ⟨R16, hR16, h⟩ := g_bind h
  have E19 : ∀  (S16 : gSt), ((f_X3_tally S16).bind fun S17 => some S17) = some S0 → AW X RX3 2 cX3_lookWithout 91 [some (.ref (gad X 41)), none, none, none, none, none] [] S16 := by
    intro S16 h
    refine a_aloadn (pc := 91) dX3_lookWithout_91 rfl rfl ?_
    obtain ⟨S17, hc18, h⟩ := g_bind h
    refine a_invVv (pc := 92) (ok_X3_tally hc18) gyX3_tally vyX3_tally mlX3_52 sh_41 rfl (As := []) rfl rfl (by decide) (st := []) rfl (Nat.le_of_ble_eq_true rfl) dX3_lookWithout_92 ?_
    obtain rfl := Option.some.inj h
    exact a_vret hp dX3_lookWithout_95
  have lp : ∀ (n : Nat) (x2 : Int32) (x3 : Int32) (x4 : Int32) (S : gSt), gLoop (f_X3_lookWithout_s19) n (x2, x3, x4, S) = some R16 → AW X RX3 2 cX3_lookWithout 19 [some (.ref (gad X 41)), some (.ref (gad X 1)), some (.int x2), some (.int x3), some (.int x4), none] [] S := by
    intro n
    induction n with
    | zero => intro x2 x3 x4 S hR; cases hR
    | succ n ih =>
      intro x2 x3 x4 S hR
      obtain ⟨q, hs, hR⟩ := g_bind hR
      have hs : f_X3_lookWithout_s19_b x2 x3 x4 S = some q := hs
      unfold f_X3_lookWithout_s19_b at hs
      refine a_iload (pc := 19) dX3_lookWithout_19 rfl ?_
      refine a_aloadn (pc := 21) dX3_lookWithout_21 rfl rfl ?_
      refine a_getI (pc := 22) flX3_22 sh_41 rfl dX3_lookWithout_22 ?_
      refine a_bipush (pc := 25) (v := (64 : Int32)) dX3_lookWithout_25 (by decide) ?_
      refine a_imul (pc := 27) dX3_lookWithout_27 ?_
      refine a_icmp_ge (pc := 28) (tgt := 91) dX3_lookWithout_28 (by decide) (fun c4 => ?_) (fun c4 => ?_)
      · rw [if_pos c4] at hs
        obtain rfl := Option.some.inj hs
        obtain rfl := Option.some.inj hR
        refine a_mask [true, false, false, false, false, true] (L' := [some (.ref (gad X 41)), none, none, none, none, none]) rfl ?_
        exact E19  _ h
      · rw [if_neg c4] at hs
        refine a_iload (pc := 31) dX3_lookWithout_31 rfl ?_
        refine a_bipush (pc := 33) (v := (64 : Int32)) dX3_lookWithout_33 (by decide) ?_
        refine a_irem (pc := 35) dX3_lookWithout_35 (by decide) ?_
        obtain ⟨v5, ev5, hs⟩ := g_let hs
        refine a_nmI ev5 ?_
        refine a_istore (pc := 36) dX3_lookWithout_36 (Nat.le_of_ble_eq_true rfl) rfl (L' := [some (.ref (gad X 41)), some (.ref (gad X 1)), some (.int x2), some (.int x3), some (.int x4), some (.int v5)]) rfl ?_
        refine a_aloadn (pc := 38) dX3_lookWithout_38 rfl rfl ?_
        refine a_getA (pc := 39) flX3_38 sh_1 rfl dX3_lookWithout_39 ?_
        refine a_iload (pc := 42) dX3_lookWithout_42 rfl ?_
        obtain ⟨hi6, hs⟩ := g_if hs
        refine a_iald (pc := 44) sh_7 hi6 dX3_lookWithout_44 ?_
        refine a_if_le (pc := 45) (tgt := 85) dX3_lookWithout_45 (by decide) (fun c7 => ?_) (fun c7 => ?_)
        · rw [if_pos c7] at hs
          refine a_iinc (pc := 85) dX3_lookWithout_85 rfl (v := x4 + (1 : Int32)) rfl (Nat.le_of_ble_eq_true rfl) rfl (L' := [some (.ref (gad X 41)), some (.ref (gad X 1)), some (.int x2), some (.int x3), some (.int (x4 + (1 : Int32))), some (.int v5)]) rfl ?_
          refine a_goto (pc := 88) (tgt := 19) dX3_lookWithout_88 (by decide) ?_
          obtain rfl := Option.some.inj hs
          refine a_mask [true, true, true, true, true, false] (L' := [some (.ref (gad X 41)), some (.ref (gad X 1)), some (.int x2), some (.int x3), some (.int (x4 + (1 : Int32))), none]) rfl ?_
          exact ih _ _ _ _ hR
        · rw [if_neg c7] at hs
          refine a_iload (pc := 48) dX3_lookWithout_48 rfl ?_
          refine a_iloadn (pc := 50) dX3_lookWithout_50 rfl rfl ?_
          refine a_icmp_eq (pc := 51) (tgt := 85) dX3_lookWithout_51 (by decide) (fun c8 => ?_) (fun c8 => ?_)
          · rw [if_pos c8] at hs
            refine a_iinc (pc := 85) dX3_lookWithout_85 rfl (v := x4 + (1 : Int32)) rfl (Nat.le_of_ble_eq_true rfl) rfl (L' := [some (.ref (gad X 41)), some (.ref (gad X 1)), some (.int x2), some (.int x3), some (.int (x4 + (1 : Int32))), some (.int v5)]) rfl ?_
            refine a_goto (pc := 88) (tgt := 19) dX3_lookWithout_88 (by decide) ?_
            obtain rfl := Option.some.inj hs
            refine a_mask [true, true, true, true, true, false] (L' := [some (.ref (gad X 41)), some (.ref (gad X 1)), some (.int x2), some (.int x3), some (.int (x4 + (1 : Int32))), none]) rfl ?_
            exact ih _ _ _ _ hR
          · rw [if_neg c8] at hs
            refine a_aloadn (pc := 54) dX3_lookWithout_54 rfl rfl ?_
            refine a_iload (pc := 55) dX3_lookWithout_55 rfl ?_
            refine a_iload (pc := 57) dX3_lookWithout_57 rfl ?_
            refine a_isub (pc := 59) dX3_lookWithout_59 ?_
            refine a_iload (pc := 60) dX3_lookWithout_60 rfl ?_
            refine a_aloadn (pc := 62) dX3_lookWithout_62 rfl rfl ?_
            refine a_aloadn (pc := 63) dX3_lookWithout_63 rfl rfl ?_
            refine a_getA (pc := 64) flX3_38 sh_1 rfl dX3_lookWithout_64 ?_
            refine a_iload (pc := 67) dX3_lookWithout_67 rfl ?_
            obtain ⟨hi9, hs⟩ := g_if hs
            refine a_iald (pc := 69) sh_7 hi9 dX3_lookWithout_69 ?_
            refine a_iload (pc := 70) dX3_lookWithout_70 rfl ?_
            refine a_iloadn (pc := 72) dX3_lookWithout_72 rfl rfl ?_
            obtain ⟨r12, S10, hc11, hs⟩ := g_bind2 hs
            refine a_invVi (pc := 73) (ok_X0_depthBehind hc11) gyX0_depthBehind vyX0_depthBehind mlX3_41 sh_1 rfl (As := [.int (S.1 7 x4.toNatClampNeg), .int v5, .int x2]) rfl rfl (by decide) (st := [.int v5, .int (x4 - v5), .ref (gad X 41)]) rfl (Nat.le_of_ble_eq_true rfl) dX3_lookWithout_73 ?_
            refine a_aloadn (pc := 76) dX3_lookWithout_76 rfl rfl ?_
            refine a_getA (pc := 77) flX3_45 sh_1 rfl dX3_lookWithout_77 ?_
            refine a_iconst (pc := 80) (v := (2 : Int32)) dX3_lookWithout_80 (by decide) ?_
            obtain ⟨hi13, hs⟩ := g_if hs
            refine a_iald (pc := 81) sh_2 hi13 dX3_lookWithout_81 ?_
            obtain ⟨S14, hc15, hs⟩ := g_bind hs
            refine a_invVv (pc := 82) (ok_X3_raise hc15) gyX3_raise vyX3_raise mlX3_48 sh_41 rfl (As := [.int (x4 - v5), .int v5, .int r12, .int (S10.1 2 (2 : Int32).toNatClampNeg)]) rfl rfl (by decide) (st := []) rfl (Nat.le_of_ble_eq_true rfl) dX3_lookWithout_82 ?_
            refine a_iinc (pc := 85) dX3_lookWithout_85 rfl (v := x4 + (1 : Int32)) rfl (Nat.le_of_ble_eq_true rfl) rfl (L' := [some (.ref (gad X 41)), some (.ref (gad X 1)), some (.int x2), some (.int x3), some (.int (x4 + (1 : Int32))), some (.int v5)]) rfl ?_
            refine a_goto (pc := 88) (tgt := 19) dX3_lookWithout_88 (by decide) ?_
            obtain rfl := Option.some.inj hs
            refine a_mask [true, true, true, true, true, false] (L' := [some (.ref (gad X 41)), some (.ref (gad X 1)), some (.int x2), some (.int x3), some (.int (x4 + (1 : Int32))), none]) rfl ?_
            exact ih _ _ _ _ hR
  exact lp _ _ _ _ _ hR16
theorem dX3_look_0 : decode cX3_look 0 = .ok (.aload_n 0, 1) := by decide +kernel
theorem dX3_look_1 : decode cX3_look 1 = .ok (.aload_n 1, 1) := by decide +kernel
theorem dX3_look_2 : decode cX3_look 2 = .ok (.iload_n 2, 1) := by decide +kernel
theorem dX3_look_3 : decode cX3_look 3 = .ok (.bipush (-4), 2) := by decide +kernel
theorem dX3_look_5 : decode cX3_look 5 = .ok (.invokevirtual 25, 3) := by decide +kernel
theorem dX3_look_8 : decode cX3_look 8 = .ok (.return_, 1) := by decide +kernel
def f_X3_look (p2 : Int32) (S : gSt) : Option gSt :=
(f_X3_lookWithout p2 (-4 : Int32) S).bind fun S1 =>
some S1
set_option maxHeartbeats 4000000 in
set_option maxRecDepth 20000 in
theorem ok_X3_look {p2 : Int32} {S S0 : gSt}  (h : f_X3_look p2 S = some S0) : gCT yX3_look cX3_look 3 none 3 (fun w => [.ref (w.2.1 41), .ref (w.2.1 1), .int p2]) S none S0 := by
  refine gEnter (fun X => [some (.ref (gad X 41)), some (.ref (gad X 1)), some (.int p2)]) (by decide) (fun X => ⟨rfl, rfl⟩) (fun w => Nat.le_of_ble_eq_true rfl) (fun X hp => ?_)
  show AW X RX3 3 cX3_look 0 [some (.ref (gad X 41)), some (.ref (gad X 1)), some (.int p2)] [] S
  unfold f_X3_look at h
  refine a_aloadn (pc := 0) dX3_look_0 rfl rfl ?_
  refine a_aloadn (pc := 1) dX3_look_1 rfl rfl ?_
  refine a_iloadn (pc := 2) dX3_look_2 rfl rfl ?_
  refine a_bipush (pc := 3) (v := (-4 : Int32)) dX3_look_3 (by decide) ?_
  obtain ⟨S1, hc2, h⟩ := g_bind h
  refine a_invVv (pc := 5) (ok_X3_lookWithout hc2) gyX3_lookWithout vyX3_lookWithout mlX3_25 sh_41 rfl (As := [.ref (gad X 1), .int p2, .int (-4 : Int32)]) rfl rfl (by decide) (st := []) rfl (Nat.le_of_ble_eq_true rfl) dX3_look_5 ?_
  obtain rfl := Option.some.inj h
  exact a_vret hp dX3_look_8
theorem dX6_of_0 : decode cX6_of 0 = .ok (.aload_n 0, 1) := by decide +kernel
theorem dX6_of_1 : decode cX6_of 1 = .ok (.getfield 12, 3) := by decide +kernel
theorem dX6_of_4 : decode cX6_of 4 = .ok (.iload_n 1, 1) := by decide +kernel
theorem dX6_of_5 : decode cX6_of 5 = .ok (.invokevirtual 72, 3) := by decide +kernel
theorem dX6_of_8 : decode cX6_of 8 = .ok (.ifCond .ne 5, 3) := by decide +kernel
theorem dX6_of_11 : decode cX6_of 11 = .ok (.iconst (-1), 1) := by decide +kernel
theorem dX6_of_12 : decode cX6_of 12 = .ok (.ireturn, 1) := by decide +kernel
theorem dX6_of_13 : decode cX6_of 13 = .ok (.iload_n 2, 1) := by decide +kernel
theorem dX6_of_14 : decode cX6_of 14 = .ok (.tableswitch 122 0 6 #[42, 52, 62, 72, 82, 91, 100], 42) := by decide +kernel
theorem dX6_of_56 : decode cX6_of 56 = .ok (.aload_n 0, 1) := by decide +kernel
theorem dX6_of_57 : decode cX6_of 57 = .ok (.getfield 12, 3) := by decide +kernel
theorem dX6_of_60 : decode cX6_of 60 = .ok (.getfield 75, 3) := by decide +kernel
theorem dX6_of_63 : decode cX6_of 63 = .ok (.iload_n 1, 1) := by decide +kernel
theorem dX6_of_64 : decode cX6_of 64 = .ok (.iaload, 1) := by decide +kernel
theorem dX6_of_65 : decode cX6_of 65 = .ok (.ireturn, 1) := by decide +kernel
theorem dX6_of_66 : decode cX6_of 66 = .ok (.aload_n 0, 1) := by decide +kernel
theorem dX6_of_67 : decode cX6_of 67 = .ok (.getfield 12, 3) := by decide +kernel
theorem dX6_of_70 : decode cX6_of 70 = .ok (.getfield 79, 3) := by decide +kernel
theorem dX6_of_73 : decode cX6_of 73 = .ok (.iload_n 1, 1) := by decide +kernel
theorem dX6_of_74 : decode cX6_of 74 = .ok (.iaload, 1) := by decide +kernel
theorem dX6_of_75 : decode cX6_of 75 = .ok (.ireturn, 1) := by decide +kernel
theorem dX6_of_76 : decode cX6_of 76 = .ok (.aload_n 0, 1) := by decide +kernel
theorem dX6_of_77 : decode cX6_of 77 = .ok (.getfield 12, 3) := by decide +kernel
theorem dX6_of_80 : decode cX6_of 80 = .ok (.getfield 82, 3) := by decide +kernel
theorem dX6_of_83 : decode cX6_of 83 = .ok (.iload_n 1, 1) := by decide +kernel
theorem dX6_of_84 : decode cX6_of 84 = .ok (.iaload, 1) := by decide +kernel
theorem dX6_of_85 : decode cX6_of 85 = .ok (.ireturn, 1) := by decide +kernel
theorem dX6_of_86 : decode cX6_of 86 = .ok (.aload_n 0, 1) := by decide +kernel
theorem dX6_of_87 : decode cX6_of 87 = .ok (.getfield 12, 3) := by decide +kernel
theorem dX6_of_90 : decode cX6_of 90 = .ok (.getfield 85, 3) := by decide +kernel
theorem dX6_of_93 : decode cX6_of 93 = .ok (.iload_n 1, 1) := by decide +kernel
theorem dX6_of_94 : decode cX6_of 94 = .ok (.iaload, 1) := by decide +kernel
theorem dX6_of_95 : decode cX6_of 95 = .ok (.ireturn, 1) := by decide +kernel
theorem dX6_of_96 : decode cX6_of 96 = .ok (.aload_n 0, 1) := by decide +kernel
theorem dX6_of_97 : decode cX6_of 97 = .ok (.getfield 12, 3) := by decide +kernel
theorem dX6_of_100 : decode cX6_of 100 = .ok (.iload_n 1, 1) := by decide +kernel
theorem dX6_of_101 : decode cX6_of 101 = .ok (.invokevirtual 88, 3) := by decide +kernel
theorem dX6_of_104 : decode cX6_of 104 = .ok (.ireturn, 1) := by decide +kernel
theorem dX6_of_105 : decode cX6_of 105 = .ok (.aload_n 0, 1) := by decide +kernel
theorem dX6_of_106 : decode cX6_of 106 = .ok (.getfield 12, 3) := by decide +kernel
theorem dX6_of_109 : decode cX6_of 109 = .ok (.iload_n 1, 1) := by decide +kernel
theorem dX6_of_110 : decode cX6_of 110 = .ok (.invokevirtual 92, 3) := by decide +kernel
theorem dX6_of_113 : decode cX6_of 113 = .ok (.ireturn, 1) := by decide +kernel
theorem dX6_of_114 : decode cX6_of 114 = .ok (.aload_n 0, 1) := by decide +kernel
theorem dX6_of_115 : decode cX6_of 115 = .ok (.getfield 39, 3) := by decide +kernel
theorem dX6_of_118 : decode cX6_of 118 = .ok (.aload_n 0, 1) := by decide +kernel
theorem dX6_of_119 : decode cX6_of 119 = .ok (.getfield 12, 3) := by decide +kernel
theorem dX6_of_122 : decode cX6_of 122 = .ok (.iconst 0, 1) := by decide +kernel
theorem dX6_of_123 : decode cX6_of 123 = .ok (.invokevirtual 95, 3) := by decide +kernel
theorem dX6_of_126 : decode cX6_of 126 = .ok (.aload_n 0, 1) := by decide +kernel
theorem dX6_of_127 : decode cX6_of 127 = .ok (.getfield 39, 3) := by decide +kernel
theorem dX6_of_130 : decode cX6_of 130 = .ok (.getfield 99, 3) := by decide +kernel
theorem dX6_of_133 : decode cX6_of 133 = .ok (.iload_n 1, 1) := by decide +kernel
theorem dX6_of_134 : decode cX6_of 134 = .ok (.iaload, 1) := by decide +kernel
theorem dX6_of_135 : decode cX6_of 135 = .ok (.ireturn, 1) := by decide +kernel
theorem dX6_of_136 : decode cX6_of 136 = .ok (.iconst (-1), 1) := by decide +kernel
theorem dX6_of_137 : decode cX6_of 137 = .ok (.ireturn, 1) := by decide +kernel
def f_X6_of (p1 : Int32) (p2 : Int32) (S : gSt) : Option (Int32 × gSt) :=
gBind2 (f_X0_has p1 S) fun r3 S1 =>
(if r3 = 0 then
some ((-1 : Int32), S1)
else
(if p2.toInt < 0 ∨ 6 < p2.toInt then
some ((-1 : Int32), S1)
else if p2 = (0 : Int32) then
if gin p1 6 then
(some (S1.1 3 p1.toNatClampNeg, S1)) else none
else if p2 = (1 : Int32) then
if gin p1 6 then
(some (S1.1 4 p1.toNatClampNeg, S1)) else none
else if p2 = (2 : Int32) then
if gin p1 6 then
(some (S1.1 5 p1.toNatClampNeg, S1)) else none
else if p2 = (3 : Int32) then
if gin p1 6 then
(some (S1.1 6 p1.toNatClampNeg, S1)) else none
else if p2 = (4 : Int32) then
gBind2 (f_X0_treadOf p1 S1) fun r17 S15 =>
some (r17, S15)
else if p2 = (5 : Int32) then
gBind2 (f_X0_shoesOf p1 S1) fun r21 S19 =>
some (r21, S19)
else if p2 = (6 : Int32) then
(f_X3_look (0 : Int32) S1).bind fun S23 =>
if gin p1 6 then
(some (S23.1 43 p1.toNatClampNeg, S23)) else none
else none))
set_option maxHeartbeats 4000000 in
set_option maxRecDepth 20000 in
theorem ok_X6_of {p1 : Int32} {p2 : Int32} {S S0 : gSt} {r0 : Int32}  (h : f_X6_of p1 p2 S = some (r0, S0)) : gCT yX6_of cX6_of 3 (some .int) 4 (fun w => [.ref (w.2.1 0), .int p1, .int p2]) S (some (.int r0)) S0 := by
  refine gEnter (fun X => [some (.ref (gad X 0)), some (.int p1), some (.int p2)]) (by decide) (fun X => ⟨rfl, rfl⟩) (fun w => Nat.le_of_ble_eq_true rfl) (fun X hp => ?_)
  show AW X RX6 4 cX6_of 0 [some (.ref (gad X 0)), some (.int p1), some (.int p2)] [] S
  unfold f_X6_of at h
  refine a_aloadn (pc := 0) dX6_of_0 rfl rfl ?_
  refine a_getA (pc := 1) flX6_12 sh_0 rfl dX6_of_1 ?_
  refine a_iloadn (pc := 4) dX6_of_4 rfl rfl ?_
  obtain ⟨r3, S1, hc2, h⟩ := g_bind2 h
  refine a_invVi (pc := 5) (ok_X0_has hc2) gyX0_has vyX0_has mlX6_72 sh_1 rfl (As := [.int p1]) rfl rfl (by decide) (st := []) rfl (Nat.le_of_ble_eq_true rfl) dX6_of_5 ?_
  refine a_if_ne (pc := 8) (tgt := 13) dX6_of_8 (by decide) (fun c4 => ?_) (fun c4 => ?_)
  · rw [if_neg c4] at h
    refine a_iloadn (pc := 13) dX6_of_13 rfl rfl ?_
    by_cases c5 : p2.toInt < 0 ∨ 6 < p2.toInt
    · rw [if_pos c5] at h
      refine a_tabOut (pc := 14) (tgt := 136) dX6_of_14 c5 (by decide) ?_
      refine a_iconst (pc := 136) (v := (-1 : Int32)) dX6_of_136 (by decide) ?_
      obtain ⟨rfl, rfl⟩ := Prod.mk.inj (Option.some.inj h)
      exact a_iret hp dX6_of_137
    rw [if_neg c5] at h
    by_cases c6 : p2 = (0 : Int32)
    · rw [if_pos c6] at h
      refine a_nmI c6 ?_
      refine a_tabIn (pc := 14) (off := 42) (tgt := 56) dX6_of_14 (by decide) (by decide) (by decide) (by decide) ?_
      refine a_aloadn (pc := 56) dX6_of_56 rfl rfl ?_
      refine a_getA (pc := 57) flX6_12 sh_0 rfl dX6_of_57 ?_
      refine a_getA (pc := 60) flX6_75 sh_1 rfl dX6_of_60 ?_
      refine a_iloadn (pc := 63) dX6_of_63 rfl rfl ?_
      obtain ⟨hi7, h⟩ := g_if h
      refine a_iald (pc := 64) sh_3 hi7 dX6_of_64 ?_
      obtain ⟨rfl, rfl⟩ := Prod.mk.inj (Option.some.inj h)
      exact a_iret hp dX6_of_65
    rw [if_neg c6] at h
    by_cases c8 : p2 = (1 : Int32)
    · rw [if_pos c8] at h
      refine a_nmI c8 ?_
      refine a_tabIn (pc := 14) (off := 52) (tgt := 66) dX6_of_14 (by decide) (by decide) (by decide) (by decide) ?_
      refine a_aloadn (pc := 66) dX6_of_66 rfl rfl ?_
      refine a_getA (pc := 67) flX6_12 sh_0 rfl dX6_of_67 ?_
      refine a_getA (pc := 70) flX6_79 sh_1 rfl dX6_of_70 ?_
      refine a_iloadn (pc := 73) dX6_of_73 rfl rfl ?_
      obtain ⟨hi9, h⟩ := g_if h
      refine a_iald (pc := 74) sh_4 hi9 dX6_of_74 ?_
      obtain ⟨rfl, rfl⟩ := Prod.mk.inj (Option.some.inj h)
      exact a_iret hp dX6_of_75
    rw [if_neg c8] at h
    by_cases c10 : p2 = (2 : Int32)
    · rw [if_pos c10] at h
      refine a_nmI c10 ?_
      refine a_tabIn (pc := 14) (off := 62) (tgt := 76) dX6_of_14 (by decide) (by decide) (by decide) (by decide) ?_
      refine a_aloadn (pc := 76) dX6_of_76 rfl rfl ?_
      refine a_getA (pc := 77) flX6_12 sh_0 rfl dX6_of_77 ?_
      refine a_getA (pc := 80) flX6_82 sh_1 rfl dX6_of_80 ?_
      refine a_iloadn (pc := 83) dX6_of_83 rfl rfl ?_
      obtain ⟨hi11, h⟩ := g_if h
      refine a_iald (pc := 84) sh_5 hi11 dX6_of_84 ?_
      obtain ⟨rfl, rfl⟩ := Prod.mk.inj (Option.some.inj h)
      exact a_iret hp dX6_of_85
    rw [if_neg c10] at h
    by_cases c12 : p2 = (3 : Int32)
    · rw [if_pos c12] at h
      refine a_nmI c12 ?_
      refine a_tabIn (pc := 14) (off := 72) (tgt := 86) dX6_of_14 (by decide) (by decide) (by decide) (by decide) ?_
      refine a_aloadn (pc := 86) dX6_of_86 rfl rfl ?_
      refine a_getA (pc := 87) flX6_12 sh_0 rfl dX6_of_87 ?_
      refine a_getA (pc := 90) flX6_85 sh_1 rfl dX6_of_90 ?_
      refine a_iloadn (pc := 93) dX6_of_93 rfl rfl ?_
      obtain ⟨hi13, h⟩ := g_if h
      refine a_iald (pc := 94) sh_6 hi13 dX6_of_94 ?_
      obtain ⟨rfl, rfl⟩ := Prod.mk.inj (Option.some.inj h)
      exact a_iret hp dX6_of_95
    rw [if_neg c12] at h
    by_cases c14 : p2 = (4 : Int32)
    · rw [if_pos c14] at h
      refine a_nmI c14 ?_
      refine a_tabIn (pc := 14) (off := 82) (tgt := 96) dX6_of_14 (by decide) (by decide) (by decide) (by decide) ?_
      refine a_aloadn (pc := 96) dX6_of_96 rfl rfl ?_
      refine a_getA (pc := 97) flX6_12 sh_0 rfl dX6_of_97 ?_
      refine a_iloadn (pc := 100) dX6_of_100 rfl rfl ?_
      obtain ⟨r17, S15, hc16, h⟩ := g_bind2 h
      refine a_invVi (pc := 101) (ok_X0_treadOf hc16) gyX0_treadOf vyX0_treadOf mlX6_88 sh_1 rfl (As := [.int p1]) rfl rfl (by decide) (st := []) rfl (Nat.le_of_ble_eq_true rfl) dX6_of_101 ?_
      obtain ⟨rfl, rfl⟩ := Prod.mk.inj (Option.some.inj h)
      exact a_iret hp dX6_of_104
    rw [if_neg c14] at h
    by_cases c18 : p2 = (5 : Int32)
    · rw [if_pos c18] at h
      refine a_nmI c18 ?_
      refine a_tabIn (pc := 14) (off := 91) (tgt := 105) dX6_of_14 (by decide) (by decide) (by decide) (by decide) ?_
      refine a_aloadn (pc := 105) dX6_of_105 rfl rfl ?_
      refine a_getA (pc := 106) flX6_12 sh_0 rfl dX6_of_106 ?_
      refine a_iloadn (pc := 109) dX6_of_109 rfl rfl ?_
      obtain ⟨r21, S19, hc20, h⟩ := g_bind2 h
      refine a_invVi (pc := 110) (ok_X0_shoesOf hc20) gyX0_shoesOf vyX0_shoesOf mlX6_92 sh_1 rfl (As := [.int p1]) rfl rfl (by decide) (st := []) rfl (Nat.le_of_ble_eq_true rfl) dX6_of_110 ?_
      obtain ⟨rfl, rfl⟩ := Prod.mk.inj (Option.some.inj h)
      exact a_iret hp dX6_of_113
    rw [if_neg c18] at h
    by_cases c22 : p2 = (6 : Int32)
    · rw [if_pos c22] at h
      refine a_nmI c22 ?_
      refine a_tabIn (pc := 14) (off := 100) (tgt := 114) dX6_of_14 (by decide) (by decide) (by decide) (by decide) ?_
      refine a_aloadn (pc := 114) dX6_of_114 rfl rfl ?_
      refine a_getA (pc := 115) flX6_39 sh_0 rfl dX6_of_115 ?_
      refine a_aloadn (pc := 118) dX6_of_118 rfl rfl ?_
      refine a_getA (pc := 119) flX6_12 sh_0 rfl dX6_of_119 ?_
      refine a_iconst (pc := 122) (v := (0 : Int32)) dX6_of_122 (by decide) ?_
      obtain ⟨S23, hc24, h⟩ := g_bind h
      refine a_invVv (pc := 123) (ok_X3_look hc24) gyX3_look vyX3_look mlX6_95 sh_41 rfl (As := [.ref (gad X 1), .int (0 : Int32)]) rfl rfl (by decide) (st := []) rfl (Nat.le_of_ble_eq_true rfl) dX6_of_123 ?_
      refine a_aloadn (pc := 126) dX6_of_126 rfl rfl ?_
      refine a_getA (pc := 127) flX6_39 sh_0 rfl dX6_of_127 ?_
      refine a_getA (pc := 130) flX6_99 sh_41 rfl dX6_of_130 ?_
      refine a_iloadn (pc := 133) dX6_of_133 rfl rfl ?_
      obtain ⟨hi25, h⟩ := g_if h
      refine a_iald (pc := 134) sh_43 hi25 dX6_of_134 ?_
      obtain ⟨rfl, rfl⟩ := Prod.mk.inj (Option.some.inj h)
      exact a_iret hp dX6_of_135
    rw [if_neg c22] at h
    cases h
  · rw [if_pos c4] at h
    refine a_iconst (pc := 11) (v := (-1 : Int32)) dX6_of_11 (by decide) ?_
    obtain ⟨rfl, rfl⟩ := Prod.mk.inj (Option.some.inj h)
    exact a_iret hp dX6_of_12
