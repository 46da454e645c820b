theorem dX7_canIsle_0 : decode cX7_canIsle 0 = .ok (.iload_n 0, 1) := by decide +kernel
theorem dX7_canIsle_1 : decode cX7_canIsle 1 = .ok (.tableswitch 77 0 4 #[35, 45, 55, 65, 35], 35) := by decide +kernel
theorem dX7_canIsle_36 : decode cX7_canIsle 36 = .ok (.iload_n 1, 1) := by decide +kernel
theorem dX7_canIsle_37 : decode cX7_canIsle 37 = .ok (.i2l, 1) := by decide +kernel
theorem dX7_canIsle_38 : decode cX7_canIsle 38 = .ok (.lconst 0, 1) := by decide +kernel
theorem dX7_canIsle_39 : decode cX7_canIsle 39 = .ok (.ldc2_w 96, 3) := by decide +kernel
theorem dX7_canIsle_42 : decode cX7_canIsle 42 = .ok (.invokestatic 51, 3) := by decide +kernel
theorem dX7_canIsle_45 : decode cX7_canIsle 45 = .ok (.ireturn, 1) := by decide +kernel
theorem dX7_canIsle_46 : decode cX7_canIsle 46 = .ok (.iload_n 1, 1) := by decide +kernel
theorem dX7_canIsle_47 : decode cX7_canIsle 47 = .ok (.i2l, 1) := by decide +kernel
theorem dX7_canIsle_48 : decode cX7_canIsle 48 = .ok (.lconst 0, 1) := by decide +kernel
theorem dX7_canIsle_49 : decode cX7_canIsle 49 = .ok (.ldc2_w 63, 3) := by decide +kernel
theorem dX7_canIsle_52 : decode cX7_canIsle 52 = .ok (.invokestatic 51, 3) := by decide +kernel
theorem dX7_canIsle_55 : decode cX7_canIsle 55 = .ok (.ireturn, 1) := by decide +kernel
theorem dX7_canIsle_56 : decode cX7_canIsle 56 = .ok (.iload_n 1, 1) := by decide +kernel
theorem dX7_canIsle_57 : decode cX7_canIsle 57 = .ok (.i2l, 1) := by decide +kernel
theorem dX7_canIsle_58 : decode cX7_canIsle 58 = .ok (.lconst 0, 1) := by decide +kernel
theorem dX7_canIsle_59 : decode cX7_canIsle 59 = .ok (.ldc2_w 98, 3) := by decide +kernel
theorem dX7_canIsle_62 : decode cX7_canIsle 62 = .ok (.invokestatic 51, 3) := by decide +kernel
theorem dX7_canIsle_65 : decode cX7_canIsle 65 = .ok (.ireturn, 1) := by decide +kernel
theorem dX7_canIsle_66 : decode cX7_canIsle 66 = .ok (.iload_n 1, 1) := by decide +kernel
theorem dX7_canIsle_67 : decode cX7_canIsle 67 = .ok (.i2l, 1) := by decide +kernel
theorem dX7_canIsle_68 : decode cX7_canIsle 68 = .ok (.ldc2_w 100, 3) := by decide +kernel
theorem dX7_canIsle_71 : decode cX7_canIsle 71 = .ok (.ldc2_w 102, 3) := by decide +kernel
theorem dX7_canIsle_74 : decode cX7_canIsle 74 = .ok (.invokestatic 51, 3) := by decide +kernel
theorem dX7_canIsle_77 : decode cX7_canIsle 77 = .ok (.ireturn, 1) := by decide +kernel
theorem dX7_canIsle_78 : decode cX7_canIsle 78 = .ok (.iconst 0, 1) := by decide +kernel
theorem dX7_canIsle_79 : decode cX7_canIsle 79 = .ok (.ireturn, 1) := by decide +kernel
def f_X7_canIsle (p0 : Int32) (p1 : Int32) (S : gSt) : Option (Int32 × gSt) :=
(if p0.toInt < 0 ∨ 4 < p0.toInt then
some ((0 : Int32), S)
else if p0 = (0 : Int32) then
gBind2 (f_X7_in (p1.toInt64) (0 : Int64) (8 : Int64) S) fun r5 S3 =>
if gbool r5 then
some (r5, S3) else none
else if p0 = (1 : Int32) then
gBind2 (f_X7_in (p1.toInt64) (0 : Int64) (9 : Int64) S) fun r10 S8 =>
if gbool r10 then
some (r10, S8) else none
else if p0 = (2 : Int32) then
gBind2 (f_X7_in (p1.toInt64) (0 : Int64) (3 : Int64) S) fun r15 S13 =>
if gbool r15 then
some (r15, S13) else none
else if p0 = (3 : Int32) then
gBind2 (f_X7_in (p1.toInt64) (2 : Int64) (12 : Int64) S) fun r20 S18 =>
if gbool r20 then
some (r20, S18) else none
else if p0 = (4 : Int32) then
gBind2 (f_X7_in (p1.toInt64) (0 : Int64) (8 : Int64) S) fun r25 S23 =>
if gbool r25 then
some (r25, S23) else none
else none)
set_option maxHeartbeats 4000000 in
set_option maxRecDepth 20000 in
theorem ok_X7_canIsle {p0 : Int32} {p1 : Int32} {S S0 : gSt} {r0 : Int32}  (h : f_X7_canIsle p0 p1 S = some (r0, S0)) : gCT yX7_canIsle cX7_canIsle 2 (some .boolean) 1 (fun w => [.int p0, .int p1]) S (some (.int r0)) S0 := by
  refine gEnter (fun X => [some (.int p0), some (.int p1)]) (by decide) (fun X => ⟨rfl, rfl⟩) (fun w => Nat.le_of_ble_eq_true rfl) (fun X hp => ?_)
  show AW X RX7 1 cX7_canIsle 0 [some (.int p0), some (.int p1)] [] S
  unfold f_X7_canIsle at h
  refine a_iloadn (pc := 0) dX7_canIsle_0 rfl rfl ?_
  by_cases c1 : p0.toInt < 0 ∨ 4 < p0.toInt
  · rw [if_pos c1] at h
    refine a_tabOut (pc := 1) (tgt := 78) dX7_canIsle_1 c1 (by decide) ?_
    refine a_iconst (pc := 78) (v := (0 : Int32)) dX7_canIsle_78 (by decide) ?_
    obtain ⟨rfl, rfl⟩ := Prod.mk.inj (Option.some.inj h)
    exact a_zret hp rfl  dX7_canIsle_79
  rw [if_neg c1] at h
  by_cases c2 : p0 = (0 : Int32)
  · rw [if_pos c2] at h
    refine a_nmI c2 ?_
    refine a_tabIn (pc := 1) (off := 35) (tgt := 36) dX7_canIsle_1 (by decide) (by decide) (by decide) (by decide) ?_
    refine a_iloadn (pc := 36) dX7_canIsle_36 rfl rfl ?_
    refine a_i2l (pc := 37) dX7_canIsle_37 ?_
    refine a_lconst (pc := 38) (v := (0 : Int64)) dX7_canIsle_38 (by decide) ?_
    refine a_ldc2 (pc := 39) kX7_96 dX7_canIsle_39 ?_
    obtain ⟨r5, S3, hc4, h⟩ := g_bind2 h
    refine a_invSi (pc := 42) (ok_X7_in hc4) gyX7_in syX7_in mlX7_51 (As := [.long (p1.toInt64), .long (0 : Int64), .long (8 : Int64)]) rfl rfl (by decide) (st := []) rfl (Nat.le_of_ble_eq_true rfl) dX7_canIsle_42 ?_
    obtain ⟨hb6, h⟩ := g_if h
    obtain ⟨rfl, rfl⟩ := Prod.mk.inj (Option.some.inj h)
    exact a_zret hp hb6  dX7_canIsle_45
  rw [if_neg c2] at h
  by_cases c7 : p0 = (1 : Int32)
  · rw [if_pos c7] at h
    refine a_nmI c7 ?_
    refine a_tabIn (pc := 1) (off := 45) (tgt := 46) dX7_canIsle_1 (by decide) (by decide) (by decide) (by decide) ?_
    refine a_iloadn (pc := 46) dX7_canIsle_46 rfl rfl ?_
    refine a_i2l (pc := 47) dX7_canIsle_47 ?_
    refine a_lconst (pc := 48) (v := (0 : Int64)) dX7_canIsle_48 (by decide) ?_
    refine a_ldc2 (pc := 49) kX7_63 dX7_canIsle_49 ?_
    obtain ⟨r10, S8, hc9, h⟩ := g_bind2 h
    refine a_invSi (pc := 52) (ok_X7_in hc9) gyX7_in syX7_in mlX7_51 (As := [.long (p1.toInt64), .long (0 : Int64), .long (9 : Int64)]) rfl rfl (by decide) (st := []) rfl (Nat.le_of_ble_eq_true rfl) dX7_canIsle_52 ?_
    obtain ⟨hb11, h⟩ := g_if h
    obtain ⟨rfl, rfl⟩ := Prod.mk.inj (Option.some.inj h)
    exact a_zret hp hb11  dX7_canIsle_55
  rw [if_neg c7] at h
  by_cases c12 : p0 = (2 : Int32)
  · rw [if_pos c12] at h
    refine a_nmI c12 ?_
    refine a_tabIn (pc := 1) (off := 55) (tgt := 56) dX7_canIsle_1 (by decide) (by decide) (by decide) (by decide) ?_
    refine a_iloadn (pc := 56) dX7_canIsle_56 rfl rfl ?_
    refine a_i2l (pc := 57) dX7_canIsle_57 ?_
    refine a_lconst (pc := 58) (v := (0 : Int64)) dX7_canIsle_58 (by decide) ?_
    refine a_ldc2 (pc := 59) kX7_98 dX7_canIsle_59 ?_
    obtain ⟨r15, S13, hc14, h⟩ := g_bind2 h
    refine a_invSi (pc := 62) (ok_X7_in hc14) gyX7_in syX7_in mlX7_51 (As := [.long (p1.toInt64), .long (0 : Int64), .long (3 : Int64)]) rfl rfl (by decide) (st := []) rfl (Nat.le_of_ble_eq_true rfl) dX7_canIsle_62 ?_
    obtain ⟨hb16, h⟩ := g_if h
    obtain ⟨rfl, rfl⟩ := Prod.mk.inj (Option.some.inj h)
    exact a_zret hp hb16  dX7_canIsle_65
  rw [if_neg c12] at h
  by_cases c17 : p0 = (3 : Int32)
  · rw [if_pos c17] at h
    refine a_nmI c17 ?_
    refine a_tabIn (pc := 1) (off := 65) (tgt := 66) dX7_canIsle_1 (by decide) (by decide) (by decide) (by decide) ?_
    refine a_iloadn (pc := 66) dX7_canIsle_66 rfl rfl ?_
    refine a_i2l (pc := 67) dX7_canIsle_67 ?_
    refine a_ldc2 (pc := 68) kX7_100 dX7_canIsle_68 ?_
    refine a_ldc2 (pc := 71) kX7_102 dX7_canIsle_71 ?_
    obtain ⟨r20, S18, hc19, h⟩ := g_bind2 h
    refine a_invSi (pc := 74) (ok_X7_in hc19) gyX7_in syX7_in mlX7_51 (As := [.long (p1.toInt64), .long (2 : Int64), .long (12 : Int64)]) rfl rfl (by decide) (st := []) rfl (Nat.le_of_ble_eq_true rfl) dX7_canIsle_74 ?_
    obtain ⟨hb21, h⟩ := g_if h
    obtain ⟨rfl, rfl⟩ := Prod.mk.inj (Option.some.inj h)
    exact a_zret hp hb21  dX7_canIsle_77
  rw [if_neg c17] at h
  by_cases c22 : p0 = (4 : Int32)
  · rw [if_pos c22] at h
    refine a_nmI c22 ?_
    refine a_tabIn (pc := 1) (off := 35) (tgt := 36) dX7_canIsle_1 (by decide) (by decide) (by decide) (by decide) ?_
    refine a_iloadn (pc := 36) dX7_canIsle_36 rfl rfl ?_
    refine a_i2l (pc := 37) dX7_canIsle_37 ?_
    refine a_lconst (pc := 38) (v := (0 : Int64)) dX7_canIsle_38 (by decide) ?_
    refine a_ldc2 (pc := 39) kX7_96 dX7_canIsle_39 ?_
    obtain ⟨r25, S23, hc24, h⟩ := g_bind2 h
    refine a_invSi (pc := 42) (ok_X7_in hc24) gyX7_in syX7_in mlX7_51 (As := [.long (p1.toInt64), .long (0 : Int64), .long (8 : Int64)]) rfl rfl (by decide) (st := []) rfl (Nat.le_of_ble_eq_true rfl) dX7_canIsle_42 ?_
    obtain ⟨hb26, h⟩ := g_if h
    obtain ⟨rfl, rfl⟩ := Prod.mk.inj (Option.some.inj h)
    exact a_zret hp hb26  dX7_canIsle_45
  rw [if_neg c22] at h
  cases h
theorem dX7_isle_0 : decode cX7_isle 0 = .ok (.iload_n 1, 1) := by decide +kernel
theorem dX7_isle_1 : decode cX7_isle 1 = .ok (.iload_n 2, 1) := by decide +kernel
theorem dX7_isle_2 : decode cX7_isle 2 = .ok (.invokestatic 104, 3) := by decide +kernel
theorem dX7_isle_5 : decode cX7_isle 5 = .ok (.ifCond .ne 5, 3) := by decide +kernel
theorem dX7_isle_8 : decode cX7_isle 8 = .ok (.iconst (-1), 1) := by decide +kernel
theorem dX7_isle_9 : decode cX7_isle 9 = .ok (.ireturn, 1) := by decide +kernel
theorem dX7_isle_10 : decode cX7_isle 10 = .ok (.aload_n 0, 1) := by decide +kernel
theorem dX7_isle_11 : decode cX7_isle 11 = .ok (.getfield 7, 3) := by decide +kernel
theorem dX7_isle_14 : decode cX7_isle 14 = .ok (.iload_n 1, 1) := by decide +kernel
theorem dX7_isle_15 : decode cX7_isle 15 = .ok (.iaload, 1) := by decide +kernel
theorem dX7_isle_16 : decode cX7_isle 16 = .ok (.istore_n 3, 1) := by decide +kernel
theorem dX7_isle_17 : decode cX7_isle 17 = .ok (.aload_n 0, 1) := by decide +kernel
theorem dX7_isle_18 : decode cX7_isle 18 = .ok (.getfield 7, 3) := by decide +kernel
theorem dX7_isle_21 : decode cX7_isle 21 = .ok (.iload_n 1, 1) := by decide +kernel
theorem dX7_isle_22 : decode cX7_isle 22 = .ok (.iload_n 2, 1) := by decide +kernel
theorem dX7_isle_23 : decode cX7_isle 23 = .ok (.iastore, 1) := by decide +kernel
theorem dX7_isle_24 : decode cX7_isle 24 = .ok (.iload_n 3, 1) := by decide +kernel
theorem dX7_isle_25 : decode cX7_isle 25 = .ok (.ireturn, 1) := by decide +kernel
def f_X7_isle (p1 : Int32) (p2 : Int32) (S : gSt) : Option (Int32 × gSt) :=
gBind2 (f_X7_canIsle p1 p2 S) fun r3 S1 =>
(if r3 = 0 then
some ((-1 : Int32), S1)
else
if gin p1 416 then
(gLet (S1.1 48 p1.toNatClampNeg) fun v6 =>
if gin p1 416 then
gLet (gI S1 48 p1.toNatClampNeg p2) fun S8 =>
(some (v6, S8)) else none) else none)
set_option maxHeartbeats 4000000 in
set_option maxRecDepth 20000 in
theorem ok_X7_isle {p1 : Int32} {p2 : Int32} {S S0 : gSt} {r0 : Int32}  (h : f_X7_isle p1 p2 S = some (r0, S0)) : gCT yX7_isle cX7_isle 4 (some .int) 2 (fun w => [.ref (w.2.1 47), .int p1, .int p2]) S (some (.int r0)) S0 := by
  refine gEnter (fun X => [some (.ref (gad X 47)), some (.int p1), some (.int p2), none]) (by decide) (fun X => ⟨rfl, rfl⟩) (fun w => Nat.le_of_ble_eq_true rfl) (fun X hp => ?_)
  show AW X RX7 2 cX7_isle 0 [some (.ref (gad X 47)), some (.int p1), some (.int p2), none] [] S
  unfold f_X7_isle at h
  refine a_iloadn (pc := 0) dX7_isle_0 rfl rfl ?_
  refine a_iloadn (pc := 1) dX7_isle_1 rfl rfl ?_
  obtain ⟨r3, S1, hc2, h⟩ := g_bind2 h
  refine a_invSi (pc := 2) (ok_X7_canIsle hc2) gyX7_canIsle syX7_canIsle mlX7_104 (As := [.int p1, .int p2]) rfl rfl (by decide) (st := []) rfl (Nat.le_of_ble_eq_true rfl) dX7_isle_2 ?_
  refine a_if_ne (pc := 5) (tgt := 10) dX7_isle_5 (by decide) (fun c4 => ?_) (fun c4 => ?_)
  · rw [if_neg c4] at h
    refine a_aloadn (pc := 10) dX7_isle_10 rfl rfl ?_
    refine a_getA (pc := 11) flX7_7 sh_47 rfl dX7_isle_11 ?_
    refine a_iloadn (pc := 14) dX7_isle_14 rfl rfl ?_
    obtain ⟨hi5, h⟩ := g_if h
    refine a_iald (pc := 15) sh_48 hi5 dX7_isle_15 ?_
    obtain ⟨v6, ev6, h⟩ := g_let h
    refine a_nmI ev6 ?_
    refine a_istoren (pc := 16) dX7_isle_16 rfl (Nat.le_of_ble_eq_true rfl) rfl (L' := [some (.ref (gad X 47)), some (.int p1), some (.int p2), some (.int v6)]) rfl ?_
    refine a_aloadn (pc := 17) dX7_isle_17 rfl rfl ?_
    refine a_getA (pc := 18) flX7_7 sh_47 rfl dX7_isle_18 ?_
    refine a_iloadn (pc := 21) dX7_isle_21 rfl rfl ?_
    refine a_iloadn (pc := 22) dX7_isle_22 rfl rfl ?_
    obtain ⟨hi7, h⟩ := g_if h
    refine a_iast (pc := 23) sh_48 hi7 dX7_isle_23 ?_
    obtain ⟨S8, eS8, h⟩ := g_let h
    refine a_nmS eS8 ?_
    refine a_iloadn (pc := 24) dX7_isle_24 rfl rfl ?_
    obtain ⟨rfl, rfl⟩ := Prod.mk.inj (Option.some.inj h)
    exact a_iret hp dX7_isle_25
  · rw [if_pos c4] at h
    refine a_iconst (pc := 8) (v := (-1 : Int32)) dX7_isle_8 (by decide) ?_
    obtain ⟨rfl, rfl⟩ := Prod.mk.inj (Option.some.inj h)
    exact a_iret hp dX7_isle_9
theorem dX7_print_0 : decode cX7_print 0 = .ok (.aload_n 0, 1) := by decide +kernel
theorem dX7_print_1 : decode cX7_print 1 = .ok (.iload_n 1, 1) := by decide +kernel
theorem dX7_print_2 : decode cX7_print 2 = .ok (.invokevirtual 82, 3) := by decide +kernel
theorem dX7_print_5 : decode cX7_print 5 = .ok (.ifCond .eq 27, 3) := by decide +kernel
theorem dX7_print_8 : decode cX7_print 8 = .ok (.iload_n 2, 1) := by decide +kernel
theorem dX7_print_9 : decode cX7_print 9 = .ok (.invokestatic 65, 3) := by decide +kernel
theorem dX7_print_12 : decode cX7_print 12 = .ok (.ifCond .eq 20, 3) := by decide +kernel
theorem dX7_print_15 : decode cX7_print 15 = .ok (.aload_n 0, 1) := by decide +kernel
theorem dX7_print_16 : decode cX7_print 16 = .ok (.getfield 7, 3) := by decide +kernel
theorem dX7_print_19 : decode cX7_print 19 = .ok (.bipush 32, 2) := by decide +kernel
theorem dX7_print_21 : decode cX7_print 21 = .ok (.bipush 64, 2) := by decide +kernel
theorem dX7_print_23 : decode cX7_print 23 = .ok (.iload_n 1, 1) := by decide +kernel
theorem dX7_print_24 : decode cX7_print 24 = .ok (.imul, 1) := by decide +kernel
theorem dX7_print_25 : decode cX7_print 25 = .ok (.iadd, 1) := by decide +kernel
theorem dX7_print_26 : decode cX7_print 26 = .ok (.iload_n 2, 1) := by decide +kernel
theorem dX7_print_27 : decode cX7_print 27 = .ok (.iadd, 1) := by decide +kernel
theorem dX7_print_28 : decode cX7_print 28 = .ok (.iaload, 1) := by decide +kernel
theorem dX7_print_29 : decode cX7_print 29 = .ok (.goto 4, 3) := by decide +kernel
theorem dX7_print_32 : decode cX7_print 32 = .ok (.iconst (-1), 1) := by decide +kernel
theorem dX7_print_33 : decode cX7_print 33 = .ok (.ireturn, 1) := by decide +kernel
def f_X7_print (p1 : Int32) (p2 : Int32) (S : gSt) : Option (Int32 × gSt) :=
gBind2 (f_X7_isWalker p1 S) fun r3 S1 =>
(if r3 = 0 then
some ((-1 : Int32), S1)
else
gBind2 (f_X7_isCell p2 S1) fun r7 S5 =>
(if r7 = 0 then
some ((-1 : Int32), S5)
else
if gin (((32 : Int32) + ((64 : Int32) * p1)) + p2) 416 then
(some (S5.1 48 (((32 : Int32) + ((64 : Int32) * p1)) + p2).toNatClampNeg, S5)) else none))
set_option maxHeartbeats 4000000 in
set_option maxRecDepth 20000 in
theorem ok_X7_print {p1 : Int32} {p2 : Int32} {S S0 : gSt} {r0 : Int32}  (h : f_X7_print p1 p2 S = some (r0, S0)) : gCT yX7_print cX7_print 3 (some .int) 2 (fun w => [.ref (w.2.1 47), .int p1, .int p2]) S (some (.int r0)) S0 := by
  refine gEnter (fun X => [some (.ref (gad X 47)), some (.int p1), some (.int p2)]) (by decide) (fun X => ⟨rfl, rfl⟩) (fun w => Nat.le_of_ble_eq_true rfl) (fun X hp => ?_)
  show AW X RX7 2 cX7_print 0 [some (.ref (gad X 47)), some (.int p1), some (.int p2)] [] S
  unfold f_X7_print at h
  refine a_aloadn (pc := 0) dX7_print_0 rfl rfl ?_
  refine a_iloadn (pc := 1) dX7_print_1 rfl rfl ?_
  obtain ⟨r3, S1, hc2, h⟩ := g_bind2 h
  refine a_invVi (pc := 2) (ok_X7_isWalker hc2) gyX7_isWalker vyX7_isWalker mlX7_82 sh_47 rfl (As := [.int p1]) rfl rfl (by decide) (st := []) rfl (Nat.le_of_ble_eq_true rfl) dX7_print_2 ?_
  refine a_if_eq (pc := 5) (tgt := 32) dX7_print_5 (by decide) (fun c4 => ?_) (fun c4 => ?_)
  · rw [if_pos c4] at h
    refine a_iconst (pc := 32) (v := (-1 : Int32)) dX7_print_32 (by decide) ?_
    obtain ⟨rfl, rfl⟩ := Prod.mk.inj (Option.some.inj h)
    exact a_iret hp dX7_print_33
  · rw [if_neg c4] at h
    refine a_iloadn (pc := 8) dX7_print_8 rfl rfl ?_
    obtain ⟨r7, S5, hc6, h⟩ := g_bind2 h
    refine a_invSi (pc := 9) (ok_X7_isCell hc6) gyX7_isCell syX7_isCell mlX7_65 (As := [.int p2]) rfl rfl (by decide) (st := []) rfl (Nat.le_of_ble_eq_true rfl) dX7_print_9 ?_
    refine a_if_eq (pc := 12) (tgt := 32) dX7_print_12 (by decide) (fun c8 => ?_) (fun c8 => ?_)
    · rw [if_pos c8] at h
      refine a_iconst (pc := 32) (v := (-1 : Int32)) dX7_print_32 (by decide) ?_
      obtain ⟨rfl, rfl⟩ := Prod.mk.inj (Option.some.inj h)
      exact a_iret hp dX7_print_33
    · rw [if_neg c8] at h
      refine a_aloadn (pc := 15) dX7_print_15 rfl rfl ?_
      refine a_getA (pc := 16) flX7_7 sh_47 rfl dX7_print_16 ?_
      refine a_bipush (pc := 19) (v := (32 : Int32)) dX7_print_19 (by decide) ?_
      refine a_bipush (pc := 21) (v := (64 : Int32)) dX7_print_21 (by decide) ?_
      refine a_iloadn (pc := 23) dX7_print_23 rfl rfl ?_
      refine a_imul (pc := 24) dX7_print_24 ?_
      refine a_iadd (pc := 25) dX7_print_25 ?_
      refine a_iloadn (pc := 26) dX7_print_26 rfl rfl ?_
      refine a_iadd (pc := 27) dX7_print_27 ?_
      obtain ⟨hi9, h⟩ := g_if h
      refine a_iald (pc := 28) sh_48 hi9 dX7_print_28 ?_
      refine a_goto (pc := 29) (tgt := 33) dX7_print_29 (by decide) ?_
      obtain ⟨rfl, rfl⟩ := Prod.mk.inj (Option.some.inj h)
      exact a_iret hp dX7_print_33
theorem dX7_claim_0 : decode cX7_claim 0 = .ok (.aload_n 0, 1) := by decide +kernel
theorem dX7_claim_1 : decode cX7_claim 1 = .ok (.iload_n 1, 1) := by decide +kernel
theorem dX7_claim_2 : decode cX7_claim 2 = .ok (.invokevirtual 82, 3) := by decide +kernel
theorem dX7_claim_5 : decode cX7_claim 5 = .ok (.ifCond .eq 19, 3) := by decide +kernel
theorem dX7_claim_8 : decode cX7_claim 8 = .ok (.iload_n 2, 1) := by decide +kernel
theorem dX7_claim_9 : decode cX7_claim 9 = .ok (.invokestatic 65, 3) := by decide +kernel
theorem dX7_claim_12 : decode cX7_claim 12 = .ok (.ifCond .eq 12, 3) := by decide +kernel
theorem dX7_claim_15 : decode cX7_claim 15 = .ok (.aload_n 0, 1) := by decide +kernel
theorem dX7_claim_16 : decode cX7_claim 16 = .ok (.iload_n 1, 1) := by decide +kernel
theorem dX7_claim_17 : decode cX7_claim 17 = .ok (.iload_n 2, 1) := by decide +kernel
theorem dX7_claim_18 : decode cX7_claim 18 = .ok (.invokevirtual 75, 3) := by decide +kernel
theorem dX7_claim_21 : decode cX7_claim 21 = .ok (.goto 4, 3) := by decide +kernel
theorem dX7_claim_24 : decode cX7_claim 24 = .ok (.iconst (-1), 1) := by decide +kernel
theorem dX7_claim_25 : decode cX7_claim 25 = .ok (.ireturn, 1) := by decide +kernel
def f_X7_claim (p1 : Int32) (p2 : Int32) (S : gSt) : Option (Int32 × gSt) :=
gBind2 (f_X7_isWalker p1 S) fun r3 S1 =>
(if r3 = 0 then
some ((-1 : Int32), S1)
else
gBind2 (f_X7_isCell p2 S1) fun r7 S5 =>
(if r7 = 0 then
some ((-1 : Int32), S5)
else
gBind2 (f_X7_claimOf p1 p2 S5) fun r11 S9 =>
some (r11, S9)))
set_option maxHeartbeats 4000000 in
set_option maxRecDepth 20000 in
theorem ok_X7_claim {p1 : Int32} {p2 : Int32} {S S0 : gSt} {r0 : Int32}  (h : f_X7_claim p1 p2 S = some (r0, S0)) : gCT yX7_claim cX7_claim 3 (some .int) 2 (fun w => [.ref (w.2.1 47), .int p1, .int p2]) S (some (.int r0)) S0 := by
  refine gEnter (fun X => [some (.ref (gad X 47)), some (.int p1), some (.int p2)]) (by decide) (fun X => ⟨rfl, rfl⟩) (fun w => Nat.le_of_ble_eq_true rfl) (fun X hp => ?_)
  show AW X RX7 2 cX7_claim 0 [some (.ref (gad X 47)), some (.int p1), some (.int p2)] [] S
  unfold f_X7_claim at h
  refine a_aloadn (pc := 0) dX7_claim_0 rfl rfl ?_
  refine a_iloadn (pc := 1) dX7_claim_1 rfl rfl ?_
  obtain ⟨r3, S1, hc2, h⟩ := g_bind2 h
  refine a_invVi (pc := 2) (ok_X7_isWalker hc2) gyX7_isWalker vyX7_isWalker mlX7_82 sh_47 rfl (As := [.int p1]) rfl rfl (by decide) (st := []) rfl (Nat.le_of_ble_eq_true rfl) dX7_claim_2 ?_
  refine a_if_eq (pc := 5) (tgt := 24) dX7_claim_5 (by decide) (fun c4 => ?_) (fun c4 => ?_)
  · rw [if_pos c4] at h
    refine a_iconst (pc := 24) (v := (-1 : Int32)) dX7_claim_24 (by decide) ?_
    obtain ⟨rfl, rfl⟩ := Prod.mk.inj (Option.some.inj h)
    exact a_iret hp dX7_claim_25
  · rw [if_neg c4] at h
    refine a_iloadn (pc := 8) dX7_claim_8 rfl rfl ?_
    obtain ⟨r7, S5, hc6, h⟩ := g_bind2 h
    refine a_invSi (pc := 9) (ok_X7_isCell hc6) gyX7_isCell syX7_isCell mlX7_65 (As := [.int p2]) rfl rfl (by decide) (st := []) rfl (Nat.le_of_ble_eq_true rfl) dX7_claim_9 ?_
    refine a_if_eq (pc := 12) (tgt := 24) dX7_claim_12 (by decide) (fun c8 => ?_) (fun c8 => ?_)
    · rw [if_pos c8] at h
      refine a_iconst (pc := 24) (v := (-1 : Int32)) dX7_claim_24 (by decide) ?_
      obtain ⟨rfl, rfl⟩ := Prod.mk.inj (Option.some.inj h)
      exact a_iret hp dX7_claim_25
    · rw [if_neg c8] at h
      refine a_aloadn (pc := 15) dX7_claim_15 rfl rfl ?_
      refine a_iloadn (pc := 16) dX7_claim_16 rfl rfl ?_
      refine a_iloadn (pc := 17) dX7_claim_17 rfl rfl ?_
      obtain ⟨r11, S9, hc10, h⟩ := g_bind2 h
      refine a_invVi (pc := 18) (ok_X7_claimOf hc10) gyX7_claimOf vyX7_claimOf mlX7_75 sh_47 rfl (As := [.int p1, .int p2]) rfl rfl (by decide) (st := []) rfl (Nat.le_of_ble_eq_true rfl) dX7_claim_18 ?_
      refine a_goto (pc := 21) (tgt := 25) dX7_claim_21 (by decide) ?_
      obtain ⟨rfl, rfl⟩ := Prod.mk.inj (Option.some.inj h)
      exact a_iret hp dX7_claim_25
theorem dX7_held_0 : decode cX7_held 0 = .ok (.iload_n 1, 1) := by decide +kernel
theorem dX7_held_1 : decode cX7_held 1 = .ok (.invokestatic 65, 3) := by decide +kernel
theorem dX7_held_4 : decode cX7_held 4 = .ok (.ifCond .eq 11, 3) := by decide +kernel
theorem dX7_held_7 : decode cX7_held 7 = .ok (.aload_n 0, 1) := by decide +kernel
theorem dX7_held_8 : decode cX7_held 8 = .ok (.iload_n 1, 1) := by decide +kernel
theorem dX7_held_9 : decode cX7_held 9 = .ok (.invokevirtual 79, 3) := by decide +kernel
theorem dX7_held_12 : decode cX7_held 12 = .ok (.goto 4, 3) := by decide +kernel
theorem dX7_held_15 : decode cX7_held 15 = .ok (.iconst (-1), 1) := by decide +kernel
theorem dX7_held_16 : decode cX7_held 16 = .ok (.ireturn, 1) := by decide +kernel
def f_X7_held (p1 : Int32) (S : gSt) : Option (Int32 × gSt) :=
gBind2 (f_X7_isCell p1 S) fun r3 S1 =>
(if r3 = 0 then
some ((-1 : Int32), S1)
else
gBind2 (f_X7_holder p1 S1) fun r7 S5 =>
some (r7, S5))
set_option maxHeartbeats 4000000 in
set_option maxRecDepth 20000 in
theorem ok_X7_held {p1 : Int32} {S S0 : gSt} {r0 : Int32}  (h : f_X7_held p1 S = some (r0, S0)) : gCT yX7_held cX7_held 2 (some .int) 3 (fun w => [.ref (w.2.1 47), .int p1]) S (some (.int r0)) S0 := by
  refine gEnter (fun X => [some (.ref (gad X 47)), some (.int p1)]) (by decide) (fun X => ⟨rfl, rfl⟩) (fun w => Nat.le_of_ble_eq_true rfl) (fun X hp => ?_)
  show AW X RX7 3 cX7_held 0 [some (.ref (gad X 47)), some (.int p1)] [] S
  unfold f_X7_held at h
  refine a_iloadn (pc := 0) dX7_held_0 rfl rfl ?_
  obtain ⟨r3, S1, hc2, h⟩ := g_bind2 h
  refine a_invSi (pc := 1) (ok_X7_isCell hc2) gyX7_isCell syX7_isCell mlX7_65 (As := [.int p1]) rfl rfl (by decide) (st := []) rfl (Nat.le_of_ble_eq_true rfl) dX7_held_1 ?_
  refine a_if_eq (pc := 4) (tgt := 15) dX7_held_4 (by decide) (fun c4 => ?_) (fun c4 => ?_)
  · rw [if_pos c4] at h
    refine a_iconst (pc := 15) (v := (-1 : Int32)) dX7_held_15 (by decide) ?_
    obtain ⟨rfl, rfl⟩ := Prod.mk.inj (Option.some.inj h)
    exact a_iret hp dX7_held_16
  · rw [if_neg c4] at h
    refine a_aloadn (pc := 7) dX7_held_7 rfl rfl ?_
    refine a_iloadn (pc := 8) dX7_held_8 rfl rfl ?_
    obtain ⟨r7, S5, hc6, h⟩ := g_bind2 h
    refine a_invVi (pc := 9) (ok_X7_holder hc6) gyX7_holder vyX7_holder mlX7_79 sh_47 rfl (As := [.int p1]) rfl rfl (by decide) (st := []) rfl (Nat.le_of_ble_eq_true rfl) dX7_held_9 ?_
    refine a_goto (pc := 12) (tgt := 16) dX7_held_12 (by decide) ?_
    obtain ⟨rfl, rfl⟩ := Prod.mk.inj (Option.some.inj h)
    exact a_iret hp dX7_held_16
theorem dX7_prints_0 : decode cX7_prints 0 = .ok (.iconst 0, 1) := by decide +kernel
theorem dX7_prints_1 : decode cX7_prints 1 = .ok (.istore_n 2, 1) := by decide +kernel
theorem dX7_prints_2 : decode cX7_prints 2 = .ok (.iconst 0, 1) := by decide +kernel
theorem dX7_prints_3 : decode cX7_prints 3 = .ok (.istore_n 3, 1) := by decide +kernel
theorem dX7_prints_4 : decode cX7_prints 4 = .ok (.iload_n 3, 1) := by decide +kernel
theorem dX7_prints_5 : decode cX7_prints 5 = .ok (.aload_n 0, 1) := by decide +kernel
theorem dX7_prints_6 : decode cX7_prints 6 = .ok (.getfield 7, 3) := by decide +kernel
theorem dX7_prints_9 : decode cX7_prints 9 = .ok (.iconst 5, 1) := by decide +kernel
theorem dX7_prints_10 : decode cX7_prints 10 = .ok (.iaload, 1) := by decide +kernel
theorem dX7_prints_11 : decode cX7_prints 11 = .ok (.if_icmp .ge 34, 3) := by decide +kernel
theorem dX7_prints_14 : decode cX7_prints 14 = .ok (.iload_n 2, 1) := by decide +kernel
theorem dX7_prints_15 : decode cX7_prints 15 = .ok (.aload_n 0, 1) := by decide +kernel
theorem dX7_prints_16 : decode cX7_prints 16 = .ok (.getfield 7, 3) := by decide +kernel
theorem dX7_prints_19 : decode cX7_prints 19 = .ok (.bipush 32, 2) := by decide +kernel
theorem dX7_prints_21 : decode cX7_prints 21 = .ok (.bipush 64, 2) := by decide +kernel
theorem dX7_prints_23 : decode cX7_prints 23 = .ok (.iload_n 3, 1) := by decide +kernel
theorem dX7_prints_24 : decode cX7_prints 24 = .ok (.imul, 1) := by decide +kernel
theorem dX7_prints_25 : decode cX7_prints 25 = .ok (.iadd, 1) := by decide +kernel
theorem dX7_prints_26 : decode cX7_prints 26 = .ok (.iload_n 1, 1) := by decide +kernel
theorem dX7_prints_27 : decode cX7_prints 27 = .ok (.iadd, 1) := by decide +kernel
theorem dX7_prints_28 : decode cX7_prints 28 = .ok (.iaload, 1) := by decide +kernel
theorem dX7_prints_29 : decode cX7_prints 29 = .ok (.ifCond .le 7, 3) := by decide +kernel
theorem dX7_prints_32 : decode cX7_prints 32 = .ok (.iconst 1, 1) := by decide +kernel
theorem dX7_prints_33 : decode cX7_prints 33 = .ok (.goto 4, 3) := by decide +kernel
theorem dX7_prints_36 : decode cX7_prints 36 = .ok (.iconst 0, 1) := by decide +kernel
theorem dX7_prints_37 : decode cX7_prints 37 = .ok (.iadd, 1) := by decide +kernel
theorem dX7_prints_38 : decode cX7_prints 38 = .ok (.istore_n 2, 1) := by decide +kernel
theorem dX7_prints_39 : decode cX7_prints 39 = .ok (.iinc 3 1, 3) := by decide +kernel
theorem dX7_prints_42 : decode cX7_prints 42 = .ok (.goto (-38), 3) := by decide +kernel
theorem dX7_prints_45 : decode cX7_prints 45 = .ok (.iload_n 2, 1) := by decide +kernel
theorem dX7_prints_46 : decode cX7_prints 46 = .ok (.ireturn, 1) := by decide +kernel
def f_X7_prints_s4_b (x1 : Int32) (x2 : Int32) (x3 : Int32) (S : gSt) : Option ((Int32 × Int32 × Int32 × gSt) ⊕ (Int32 × gSt)) :=
if gin (5 : Int32) 416 then
((if (S.1 48 (5 : Int32).toNatClampNeg) ≤ x3 then
some (.inr (x2, S))
else
if gin (((32 : Int32) + ((64 : Int32) * x3)) + x1) 416 then
((if (S.1 48 (((32 : Int32) + ((64 : Int32) * x3)) + x1).toNatClampNeg) ≤ 0 then
gLet (x2 + (0 : Int32)) fun v5 =>
some (.inl (x1, v5, x3 + (1 : Int32), S))
else
gLet (x2 + (1 : Int32)) fun v6 =>
some (.inl (x1, v6, x3 + (1 : Int32), S)))) else none)) else none
def f_X7_prints_s4 : (Int32 × Int32 × Int32 × gSt) → Option ((Int32 × Int32 × Int32 × gSt) ⊕ (Int32 × gSt)) := fun t => f_X7_prints_s4_b t.1 t.2.1 t.2.2.1 t.2.2.2
def f_X7_prints (p1 : Int32) (S : gSt) : Option (Int32 × gSt) :=
(gLoop (f_X7_prints_s4) gFuel (p1, (0 : Int32), (0 : Int32), S)).bind fun q7 => match q7 with
| (y2_7, S7) =>
some (y2_7, S7)
set_option maxHeartbeats 4000000 in
set_option maxRecDepth 20000 in
theorem ok_X7_prints {p1 : Int32} {S S0 : gSt} {r0 : Int32}  (h : f_X7_prints p1 S = some (r0, S0)) : gCT yX7_prints cX7_prints 4 (some .int) 0 (fun w => [.ref (w.2.1 47), .int p1]) S (some (.int r0)) S0 := by
  refine gEnter (fun X => [some (.ref (gad X 47)), some (.int p1), none, none]) (by decide) (fun X => ⟨rfl, rfl⟩) (fun w => Nat.le_of_ble_eq_true rfl) (fun X hp => ?_)
  show AW X RX7 0 cX7_prints 0 [some (.ref (gad X 47)), some (.int p1), none, none] [] S
  unfold f_X7_prints at h
  refine a_iconst (pc := 0) (v := (0 : Int32)) dX7_prints_0 (by decide) ?_
  refine a_istoren (pc := 1) dX7_prints_1 rfl (Nat.le_of_ble_eq_true rfl) rfl (L' := [some (.ref (gad X 47)), some (.int p1), some (.int (0 : Int32)), none]) rfl ?_
  refine a_iconst (pc := 2) (v := (0 : Int32)) dX7_prints_2 (by decide) ?_
  refine a_istoren (pc := 3) dX7_prints_3 rfl (Nat.le_of_ble_eq_true rfl) rfl (L' := [some (.ref (gad X 47)), some (.int p1), some (.int (0 : Int32)), some (.int (0 : Int32))]) rfl ?_
  obtain ⟨R7, hR7, h⟩ := g_bind h
  have E4 : ∀ (y2_7 : Int32) (S7 : gSt), (some (y2_7, S7)) = some (r0, S0) → AW X RX7 0 cX7_prints 45 [none, none, some (.int y2_7), none] [] S7 := by
    intro y2_7 S7 h
    refine a_iloadn (pc := 45) dX7_prints_45 rfl rfl ?_
    obtain ⟨rfl, rfl⟩ := Prod.mk.inj (Option.some.inj h)
    exact a_iret hp dX7_prints_46
  have lp : ∀ (n : Nat) (x1 : Int32) (x2 : Int32) (x3 : Int32) (S : gSt), gLoop (f_X7_prints_s4) n (x1, x2, x3, S) = some R7 → AW X RX7 0 cX7_prints 4 [some (.ref (gad X 47)), some (.int x1), some (.int x2), some (.int x3)] [] S := by
    intro n
    induction n with
    | zero => intro x1 x2 x3 S hR; cases hR
    | succ n ih =>
      intro x1 x2 x3 S hR
      obtain ⟨q, hs, hR⟩ := g_bind hR
      have hs : f_X7_prints_s4_b x1 x2 x3 S = some q := hs
      unfold f_X7_prints_s4_b at hs
      refine a_iloadn (pc := 4) dX7_prints_4 rfl rfl ?_
      refine a_aloadn (pc := 5) dX7_prints_5 rfl rfl ?_
      refine a_getA (pc := 6) flX7_7 sh_47 rfl dX7_prints_6 ?_
      refine a_iconst (pc := 9) (v := (5 : Int32)) dX7_prints_9 (by decide) ?_
      obtain ⟨hi1, hs⟩ := g_if hs
      refine a_iald (pc := 10) sh_48 hi1 dX7_prints_10 ?_
      refine a_icmp_ge (pc := 11) (tgt := 45) dX7_prints_11 (by decide) (fun c2 => ?_) (fun c2 => ?_)
      · rw [if_pos c2] at hs
        obtain rfl := Option.some.inj hs
        obtain rfl := Option.some.inj hR
        refine a_mask [false, false, true, false] (L' := [none, none, some (.int x2), none]) rfl ?_
        exact E4 _ _ h
      · rw [if_neg c2] at hs
        refine a_iloadn (pc := 14) dX7_prints_14 rfl rfl ?_
        refine a_aloadn (pc := 15) dX7_prints_15 rfl rfl ?_
        refine a_getA (pc := 16) flX7_7 sh_47 rfl dX7_prints_16 ?_
        refine a_bipush (pc := 19) (v := (32 : Int32)) dX7_prints_19 (by decide) ?_
        refine a_bipush (pc := 21) (v := (64 : Int32)) dX7_prints_21 (by decide) ?_
        refine a_iloadn (pc := 23) dX7_prints_23 rfl rfl ?_
        refine a_imul (pc := 24) dX7_prints_24 ?_
        refine a_iadd (pc := 25) dX7_prints_25 ?_
        refine a_iloadn (pc := 26) dX7_prints_26 rfl rfl ?_
        refine a_iadd (pc := 27) dX7_prints_27 ?_
        obtain ⟨hi3, hs⟩ := g_if hs
        refine a_iald (pc := 28) sh_48 hi3 dX7_prints_28 ?_
        refine a_if_le (pc := 29) (tgt := 36) dX7_prints_29 (by decide) (fun c4 => ?_) (fun c4 => ?_)
        · rw [if_pos c4] at hs
          refine a_iconst (pc := 36) (v := (0 : Int32)) dX7_prints_36 (by decide) ?_
          refine a_iadd (pc := 37) dX7_prints_37 ?_
          obtain ⟨v5, ev5, hs⟩ := g_let hs
          refine a_nmI ev5 ?_
          refine a_istoren (pc := 38) dX7_prints_38 rfl (Nat.le_of_ble_eq_true rfl) rfl (L' := [some (.ref (gad X 47)), some (.int x1), some (.int v5), some (.int x3)]) rfl ?_
          refine a_iinc (pc := 39) dX7_prints_39 rfl (v := x3 + (1 : Int32)) rfl (Nat.le_of_ble_eq_true rfl) rfl (L' := [some (.ref (gad X 47)), some (.int x1), some (.int v5), some (.int (x3 + (1 : Int32)))]) rfl ?_
          refine a_goto (pc := 42) (tgt := 4) dX7_prints_42 (by decide) ?_
          obtain rfl := Option.some.inj hs
          exact ih _ _ _ _ hR
        · rw [if_neg c4] at hs
          refine a_iconst (pc := 32) (v := (1 : Int32)) dX7_prints_32 (by decide) ?_
          refine a_goto (pc := 33) (tgt := 37) dX7_prints_33 (by decide) ?_
          refine a_iadd (pc := 37) dX7_prints_37 ?_
          obtain ⟨v6, ev6, hs⟩ := g_let hs
          refine a_nmI ev6 ?_
          refine a_istoren (pc := 38) dX7_prints_38 rfl (Nat.le_of_ble_eq_true rfl) rfl (L' := [some (.ref (gad X 47)), some (.int x1), some (.int v6), some (.int x3)]) rfl ?_
          refine a_iinc (pc := 39) dX7_prints_39 rfl (v := x3 + (1 : Int32)) rfl (Nat.le_of_ble_eq_true rfl) rfl (L' := [some (.ref (gad X 47)), some (.int x1), some (.int v6), some (.int (x3 + (1 : Int32)))]) rfl ?_
          refine a_goto (pc := 42) (tgt := 4) dX7_prints_42 (by decide) ?_
          obtain rfl := Option.some.inj hs
          exact ih _ _ _ _ hR
  exact lp _ _ _ _ _ hR7
theorem dX7_allHeld_0 : decode cX7_allHeld 0 = .ok (.iconst 0, 1) := by decide +kernel
theorem dX7_allHeld_1 : decode cX7_allHeld 1 = .ok (.istore_n 1, 1) := by decide +kernel
theorem dX7_allHeld_2 : decode cX7_allHeld 2 = .ok (.iconst 0, 1) := by decide +kernel
theorem dX7_allHeld_3 : decode cX7_allHeld 3 = .ok (.istore_n 2, 1) := by decide +kernel
theorem dX7_allHeld_4 : decode cX7_allHeld 4 = .ok (.iload_n 2, 1) := by decide +kernel
theorem dX7_allHeld_5 : decode cX7_allHeld 5 = .ok (.bipush 64, 2) := by decide +kernel
theorem dX7_allHeld_7 : decode cX7_allHeld 7 = .ok (.if_icmp .ge 27, 3) := by decide +kernel
theorem dX7_allHeld_10 : decode cX7_allHeld 10 = .ok (.iload_n 1, 1) := by decide +kernel
theorem dX7_allHeld_11 : decode cX7_allHeld 11 = .ok (.aload_n 0, 1) := by decide +kernel
theorem dX7_allHeld_12 : decode cX7_allHeld 12 = .ok (.iload_n 2, 1) := by decide +kernel
theorem dX7_allHeld_13 : decode cX7_allHeld 13 = .ok (.invokevirtual 79, 3) := by decide +kernel
theorem dX7_allHeld_16 : decode cX7_allHeld 16 = .ok (.bipush (-4), 2) := by decide +kernel
theorem dX7_allHeld_18 : decode cX7_allHeld 18 = .ok (.if_icmp .ne 7, 3) := by decide +kernel
theorem dX7_allHeld_21 : decode cX7_allHeld 21 = .ok (.iconst 0, 1) := by decide +kernel
theorem dX7_allHeld_22 : decode cX7_allHeld 22 = .ok (.goto 4, 3) := by decide +kernel
theorem dX7_allHeld_25 : decode cX7_allHeld 25 = .ok (.iconst 1, 1) := by decide +kernel
theorem dX7_allHeld_26 : decode cX7_allHeld 26 = .ok (.iadd, 1) := by decide +kernel
theorem dX7_allHeld_27 : decode cX7_allHeld 27 = .ok (.istore_n 1, 1) := by decide +kernel
theorem dX7_allHeld_28 : decode cX7_allHeld 28 = .ok (.iinc 2 1, 3) := by decide +kernel
theorem dX7_allHeld_31 : decode cX7_allHeld 31 = .ok (.goto (-27), 3) := by decide +kernel
theorem dX7_allHeld_34 : decode cX7_allHeld 34 = .ok (.iload_n 1, 1) := by decide +kernel
theorem dX7_allHeld_35 : decode cX7_allHeld 35 = .ok (.ireturn, 1) := by decide +kernel
def f_X7_allHeld_s4_b (x1 : Int32) (x2 : Int32) (S : gSt) : Option ((Int32 × Int32 × gSt) ⊕ (Int32 × gSt)) :=
(if (64 : Int32) ≤ x2 then
some (.inr (x1, S))
else
gBind2 (f_X7_holder x2 S) fun r4 S2 =>
(if r4 = (-4 : Int32) then
gLet (x1 + (0 : Int32)) fun v7 =>
some (.inl (v7, x2 + (1 : Int32), S2))
else
gLet (x1 + (1 : Int32)) fun v6 =>
some (.inl (v6, x2 + (1 : Int32), S2))))
def f_X7_allHeld_s4 : (Int32 × Int32 × gSt) → Option ((Int32 × Int32 × gSt) ⊕ (Int32 × gSt)) := fun t => f_X7_allHeld_s4_b t.1 t.2.1 t.2.2
def f_X7_allHeld (S : gSt) : Option (Int32 × gSt) :=
(gLoop (f_X7_allHeld_s4) gFuel ((0 : Int32), (0 : Int32), S)).bind fun q8 => match q8 with
| (y1_8, S8) =>
some (y1_8, S8)
set_option maxHeartbeats 4000000 in
set_option maxRecDepth 20000 in
theorem ok_X7_allHeld {S S0 : gSt} {r0 : Int32}  (h : f_X7_allHeld S = some (r0, S0)) : gCT yX7_allHeld cX7_allHeld 3 (some .int) 3 (fun w => [.ref (w.2.1 47)]) S (some (.int r0)) S0 := by
  refine gEnter (fun X => [some (.ref (gad X 47)), none, none]) (by decide) (fun X => ⟨rfl, rfl⟩) (fun w => Nat.le_of_ble_eq_true rfl) (fun X hp => ?_)
  show AW X RX7 3 cX7_allHeld 0 [some (.ref (gad X 47)), none, none] [] S
  unfold f_X7_allHeld at h
  refine a_iconst (pc := 0) (v := (0 : Int32)) dX7_allHeld_0 (by decide) ?_
  refine a_istoren (pc := 1) dX7_allHeld_1 rfl (Nat.le_of_ble_eq_true rfl) rfl (L' := [some (.ref (gad X 47)), some (.int (0 : Int32)), none]) rfl ?_
  refine a_iconst (pc := 2) (v := (0 : Int32)) dX7_allHeld_2 (by decide) ?_
  refine a_istoren (pc := 3) dX7_allHeld_3 rfl (Nat.le_of_ble_eq_true rfl) rfl (L' := [some (.ref (gad X 47)), some (.int (0 : Int32)), some (.int (0 : Int32))]) rfl ?_
  obtain ⟨R8, hR8, h⟩ := g_bind h
  have E4 : ∀ (y1_8 : Int32) (S8 : gSt), (some (y1_8, S8)) = some (r0, S0) → AW X RX7 3 cX7_allHeld 34 [none, some (.int y1_8), none] [] S8 := by
    intro y1_8 S8 h
    refine a_iloadn (pc := 34) dX7_allHeld_34 rfl rfl ?_
    obtain ⟨rfl, rfl⟩ := Prod.mk.inj (Option.some.inj h)
    exact a_iret hp dX7_allHeld_35
  have lp : ∀ (n : Nat) (x1 : Int32) (x2 : Int32) (S : gSt), gLoop (f_X7_allHeld_s4) n (x1, x2, S) = some R8 → AW X RX7 3 cX7_allHeld 4 [some (.ref (gad X 47)), some (.int x1), some (.int x2)] [] S := by
    intro n
    induction n with
    | zero => intro x1 x2 S hR; cases hR
    | succ n ih =>
      intro x1 x2 S hR
      obtain ⟨q, hs, hR⟩ := g_bind hR
      have hs : f_X7_allHeld_s4_b x1 x2 S = some q := hs
      unfold f_X7_allHeld_s4_b at hs
      refine a_iloadn (pc := 4) dX7_allHeld_4 rfl rfl ?_
      refine a_bipush (pc := 5) (v := (64 : Int32)) dX7_allHeld_5 (by decide) ?_
      refine a_icmp_ge (pc := 7) (tgt := 34) dX7_allHeld_7 (by decide) (fun c1 => ?_) (fun c1 => ?_)
      · rw [if_pos c1] at hs
        obtain rfl := Option.some.inj hs
        obtain rfl := Option.some.inj hR
        refine a_mask [false, true, false] (L' := [none, some (.int x1), none]) rfl ?_
        exact E4 _ _ h
      · rw [if_neg c1] at hs
        refine a_iloadn (pc := 10) dX7_allHeld_10 rfl rfl ?_
        refine a_aloadn (pc := 11) dX7_allHeld_11 rfl rfl ?_
        refine a_iloadn (pc := 12) dX7_allHeld_12 rfl rfl ?_
        obtain ⟨r4, S2, hc3, hs⟩ := g_bind2 hs
        refine a_invVi (pc := 13) (ok_X7_holder hc3) gyX7_holder vyX7_holder mlX7_79 sh_47 rfl (As := [.int x2]) rfl rfl (by decide) (st := [.int x1]) rfl (Nat.le_of_ble_eq_true rfl) dX7_allHeld_13 ?_
        refine a_bipush (pc := 16) (v := (-4 : Int32)) dX7_allHeld_16 (by decide) ?_
        refine a_icmp_ne (pc := 18) (tgt := 25) dX7_allHeld_18 (by decide) (fun c5 => ?_) (fun c5 => ?_)
        · rw [if_neg c5] at hs
          refine a_iconst (pc := 25) (v := (1 : Int32)) dX7_allHeld_25 (by decide) ?_
          refine a_iadd (pc := 26) dX7_allHeld_26 ?_
          obtain ⟨v6, ev6, hs⟩ := g_let hs
          refine a_nmI ev6 ?_
          refine a_istoren (pc := 27) dX7_allHeld_27 rfl (Nat.le_of_ble_eq_true rfl) rfl (L' := [some (.ref (gad X 47)), some (.int v6), some (.int x2)]) rfl ?_
          refine a_iinc (pc := 28) dX7_allHeld_28 rfl (v := x2 + (1 : Int32)) rfl (Nat.le_of_ble_eq_true rfl) rfl (L' := [some (.ref (gad X 47)), some (.int v6), some (.int (x2 + (1 : Int32)))]) rfl ?_
          refine a_goto (pc := 31) (tgt := 4) dX7_allHeld_31 (by decide) ?_
          obtain rfl := Option.some.inj hs
          exact ih _ _ _ hR
        · rw [if_pos c5] at hs
          refine a_iconst (pc := 21) (v := (0 : Int32)) dX7_allHeld_21 (by decide) ?_
          refine a_goto (pc := 22) (tgt := 26) dX7_allHeld_22 (by decide) ?_
          refine a_iadd (pc := 26) dX7_allHeld_26 ?_
          obtain ⟨v7, ev7, hs⟩ := g_let hs
          refine a_nmI ev7 ?_
          refine a_istoren (pc := 27) dX7_allHeld_27 rfl (Nat.le_of_ble_eq_true rfl) rfl (L' := [some (.ref (gad X 47)), some (.int v7), some (.int x2)]) rfl ?_
          refine a_iinc (pc := 28) dX7_allHeld_28 rfl (v := x2 + (1 : Int32)) rfl (Nat.le_of_ble_eq_true rfl) rfl (L' := [some (.ref (gad X 47)), some (.int v7), some (.int (x2 + (1 : Int32)))]) rfl ?_
          refine a_goto (pc := 31) (tgt := 4) dX7_allHeld_31 (by decide) ?_
          obtain rfl := Option.some.inj hs
          exact ih _ _ _ hR
  exact lp _ _ _ _ hR8
theorem dX7_count_0 : decode cX7_count 0 = .ok (.iconst 0, 1) := by decide +kernel
theorem dX7_count_1 : decode cX7_count 1 = .ok (.istore_n 2, 1) := by decide +kernel
theorem dX7_count_2 : decode cX7_count 2 = .ok (.iconst 0, 1) := by decide +kernel
theorem dX7_count_3 : decode cX7_count 3 = .ok (.istore_n 3, 1) := by decide +kernel
theorem dX7_count_4 : decode cX7_count 4 = .ok (.iload_n 3, 1) := by decide +kernel
theorem dX7_count_5 : decode cX7_count 5 = .ok (.bipush 64, 2) := by decide +kernel
theorem dX7_count_7 : decode cX7_count 7 = .ok (.if_icmp .ge 25, 3) := by decide +kernel
theorem dX7_count_10 : decode cX7_count 10 = .ok (.iload_n 2, 1) := by decide +kernel
theorem dX7_count_11 : decode cX7_count 11 = .ok (.aload_n 0, 1) := by decide +kernel
theorem dX7_count_12 : decode cX7_count 12 = .ok (.iload_n 3, 1) := by decide +kernel
theorem dX7_count_13 : decode cX7_count 13 = .ok (.invokevirtual 108, 3) := by decide +kernel
theorem dX7_count_16 : decode cX7_count 16 = .ok (.ifCond .le 7, 3) := by decide +kernel
theorem dX7_count_19 : decode cX7_count 19 = .ok (.iconst 1, 1) := by decide +kernel
theorem dX7_count_20 : decode cX7_count 20 = .ok (.goto 4, 3) := by decide +kernel
theorem dX7_count_23 : decode cX7_count 23 = .ok (.iconst 0, 1) := by decide +kernel
theorem dX7_count_24 : decode cX7_count 24 = .ok (.iadd, 1) := by decide +kernel
theorem dX7_count_25 : decode cX7_count 25 = .ok (.istore_n 2, 1) := by decide +kernel
theorem dX7_count_26 : decode cX7_count 26 = .ok (.iinc 3 1, 3) := by decide +kernel
theorem dX7_count_29 : decode cX7_count 29 = .ok (.goto (-25), 3) := by decide +kernel
theorem dX7_count_32 : decode cX7_count 32 = .ok (.iload_n 1, 1) := by decide +kernel
theorem dX7_count_33 : decode cX7_count 33 = .ok (.tableswitch 91 0 9 #[55, 62, 70, 70, 70, 70, 70, 79, 84, 89], 55) := by decide +kernel
theorem dX7_count_88 : decode cX7_count 88 = .ok (.aload_n 0, 1) := by decide +kernel
theorem dX7_count_89 : decode cX7_count 89 = .ok (.getfield 7, 3) := by decide +kernel
theorem dX7_count_92 : decode cX7_count 92 = .ok (.iconst 5, 1) := by decide +kernel
theorem dX7_count_93 : decode cX7_count 93 = .ok (.iaload, 1) := by decide +kernel
theorem dX7_count_94 : decode cX7_count 94 = .ok (.ireturn, 1) := by decide +kernel
theorem dX7_count_95 : decode cX7_count 95 = .ok (.aload_n 0, 1) := by decide +kernel
theorem dX7_count_96 : decode cX7_count 96 = .ok (.getfield 7, 3) := by decide +kernel
theorem dX7_count_99 : decode cX7_count 99 = .ok (.bipush 6, 2) := by decide +kernel
theorem dX7_count_101 : decode cX7_count 101 = .ok (.iaload, 1) := by decide +kernel
theorem dX7_count_102 : decode cX7_count 102 = .ok (.ireturn, 1) := by decide +kernel
theorem dX7_count_103 : decode cX7_count 103 = .ok (.aload_n 0, 1) := by decide +kernel
theorem dX7_count_104 : decode cX7_count 104 = .ok (.getfield 7, 3) := by decide +kernel
theorem dX7_count_107 : decode cX7_count 107 = .ok (.iload_n 1, 1) := by decide +kernel
theorem dX7_count_108 : decode cX7_count 108 = .ok (.iconst 2, 1) := by decide +kernel
theorem dX7_count_109 : decode cX7_count 109 = .ok (.isub, 1) := by decide +kernel
theorem dX7_count_110 : decode cX7_count 110 = .ok (.iaload, 1) := by decide +kernel
theorem dX7_count_111 : decode cX7_count 111 = .ok (.ireturn, 1) := by decide +kernel
theorem dX7_count_112 : decode cX7_count 112 = .ok (.aload_n 0, 1) := by decide +kernel
theorem dX7_count_113 : decode cX7_count 113 = .ok (.getfield 69, 3) := by decide +kernel
theorem dX7_count_116 : decode cX7_count 116 = .ok (.ireturn, 1) := by decide +kernel
theorem dX7_count_117 : decode cX7_count 117 = .ok (.aload_n 0, 1) := by decide +kernel
theorem dX7_count_118 : decode cX7_count 118 = .ok (.invokevirtual 111, 3) := by decide +kernel
theorem dX7_count_121 : decode cX7_count 121 = .ok (.ireturn, 1) := by decide +kernel
theorem dX7_count_122 : decode cX7_count 122 = .ok (.iload_n 2, 1) := by decide +kernel
theorem dX7_count_123 : decode cX7_count 123 = .ok (.ireturn, 1) := by decide +kernel
theorem dX7_count_124 : decode cX7_count 124 = .ok (.iconst (-1), 1) := by decide +kernel
theorem dX7_count_125 : decode cX7_count 125 = .ok (.ireturn, 1) := by decide +kernel
def f_X7_count_s4_b (x1 : Int32) (x2 : Int32) (x3 : Int32) (S : gSt) : Option ((Int32 × Int32 × Int32 × gSt) ⊕ (Int32 × Int32 × gSt)) :=
(if (64 : Int32) ≤ x3 then
some (.inr (x1, x2, S))
else
gBind2 (f_X7_prints x3 S) fun r4 S2 =>
(if r4 ≤ 0 then
gLet (x2 + (0 : Int32)) fun v6 =>
some (.inl (x1, v6, x3 + (1 : Int32), S2))
else
gLet (x2 + (1 : Int32)) fun v7 =>
some (.inl (x1, v7, x3 + (1 : Int32), S2))))
def f_X7_count_s4 : (Int32 × Int32 × Int32 × gSt) → Option ((Int32 × Int32 × Int32 × gSt) ⊕ (Int32 × Int32 × gSt)) := fun t => f_X7_count_s4_b t.1 t.2.1 t.2.2.1 t.2.2.2
def f_X7_count (p1 : Int32) (S : gSt) : Option (Int32 × gSt) :=
(gLoop (f_X7_count_s4) gFuel (p1, (0 : Int32), (0 : Int32), S)).bind fun q8 => match q8 with
| (y1_8, y2_8, S8) =>
(if y1_8.toInt < 0 ∨ 9 < y1_8.toInt then
some ((-1 : Int32), S8)
else if y1_8 = (0 : Int32) then
if gin (5 : Int32) 416 then
(some (S8.1 48 (5 : Int32).toNatClampNeg, S8)) else none
else if y1_8 = (1 : Int32) then
if gin (6 : Int32) 416 then
(some (S8.1 48 (6 : Int32).toNatClampNeg, S8)) else none
else if y1_8 = (2 : Int32) then
if gin (y1_8 - (2 : Int32)) 416 then
(some (S8.1 48 (y1_8 - (2 : Int32)).toNatClampNeg, S8)) else none
else if y1_8 = (3 : Int32) then
if gin (y1_8 - (2 : Int32)) 416 then
(some (S8.1 48 (y1_8 - (2 : Int32)).toNatClampNeg, S8)) else none
else if y1_8 = (4 : Int32) then
if gin (y1_8 - (2 : Int32)) 416 then
(some (S8.1 48 (y1_8 - (2 : Int32)).toNatClampNeg, S8)) else none
else if y1_8 = (5 : Int32) then
if gin (y1_8 - (2 : Int32)) 416 then
(some (S8.1 48 (y1_8 - (2 : Int32)).toNatClampNeg, S8)) else none
else if y1_8 = (6 : Int32) then
if gin (y1_8 - (2 : Int32)) 416 then
(some (S8.1 48 (y1_8 - (2 : Int32)).toNatClampNeg, S8)) else none
else if y1_8 = (7 : Int32) then
some (S8.1 47 8, S8)
else if y1_8 = (8 : Int32) then
gBind2 (f_X7_allHeld S8) fun r28 S26 =>
some (r28, S26)
else if y1_8 = (9 : Int32) then
some (y2_8, S8)
else none)
set_option maxHeartbeats 4000000 in
set_option maxRecDepth 20000 in
theorem ok_X7_count {p1 : Int32} {S S0 : gSt} {r0 : Int32}  (h : f_X7_count p1 S = some (r0, S0)) : gCT yX7_count cX7_count 4 (some .int) 4 (fun w => [.ref (w.2.1 47), .int p1]) S (some (.int r0)) S0 := by
  refine gEnter (fun X => [some (.ref (gad X 47)), some (.int p1), none, none]) (by decide) (fun X => ⟨rfl, rfl⟩) (fun w => Nat.le_of_ble_eq_true rfl) (fun X hp => ?_)
  show AW X RX7 4 cX7_count 0 [some (.ref (gad X 47)), some (.int p1), none, none] [] S
  unfold f_X7_count at h
  refine a_iconst (pc := 0) (v := (0 : Int32)) dX7_count_0 (by decide) ?_
  refine a_istoren (pc := 1) dX7_count_1 rfl (Nat.le_of_ble_eq_true rfl) rfl (L' := [some (.ref (gad X 47)), some (.int p1), some (.int (0 : Int32)), none]) rfl ?_
  refine a_iconst (pc := 2) (v := (0 : Int32)) dX7_count_2 (by decide) ?_
  refine a_istoren (pc := 3) dX7_count_3 rfl (Nat.le_of_ble_eq_true rfl) rfl (L' := [some (.ref (gad X 47)), some (.int p1), some (.int (0 : Int32)), some (.int (0 : Int32))]) rfl ?_
  obtain ⟨R8, hR8, h⟩ := g_bind h
  have E4 : ∀ (y1_8 : Int32) (y2_8 : Int32) (S8 : gSt), ((if y1_8.toInt < 0 ∨ 9 < y1_8.toInt then some ((-1 : Int32), S8) else if y1_8 = (0 : Int32) then if gin (5 : Int32) 416 then (some (S8.1 48 (5 : Int32).toNatClampNeg, S8)) else none else if y1_8 = (1 : Int32) then if gin (6 : Int32) 416 then (some (S8.1 48 (6 : Int32).toNatClampNeg, S8)) else none else if y1_8 = (2 : Int32) then if gin (y1_8 - (2 : Int32)) 416 then (some (S8.1 48 (y1_8 - (2 : Int32)).toNatClampNeg, S8)) else none else if y1_8 = (3 : Int32) then if gin (y1_8 - (2 : Int32)) 416 then (some (S8.1 48 (y1_8 - (2 : Int32)).toNatClampNeg, S8)) else none else if y1_8 = (4 : Int32) then if gin (y1_8 - (2 : Int32)) 416 then (some (S8.1 48 (y1_8 - (2 : Int32)).toNatClampNeg, S8)) else none else if y1_8 = (5 : Int32) then if gin (y1_8 - (2 : Int32)) 416 then (some (S8.1 48 (y1_8 - (2 : Int32)).toNatClampNeg, S8)) else none else if y1_8 = (6 : Int32) then if gin (y1_8 - (2 : Int32)) 416 then (some (S8.1 48 (y1_8 - (2 : Int32)).toNatClampNeg, S8)) else none else if y1_8 = (7 : Int32) then some (S8.1 47 8, S8) else if y1_8 = (8 : Int32) then gBind2 (f_X7_allHeld S8) fun r28 S26 => some (r28, S26) else if y1_8 = (9 : Int32) then some (y2_8, S8) else none)) = some (r0, S0) → AW X RX7 4 cX7_count 32 [some (.ref (gad X 47)), some (.int y1_8), some (.int y2_8), none] [] S8 := by
    intro y1_8 y2_8 S8 h
    refine a_iloadn (pc := 32) dX7_count_32 rfl rfl ?_
    by_cases c9 : y1_8.toInt < 0 ∨ 9 < y1_8.toInt
    · rw [if_pos c9] at h
      refine a_tabOut (pc := 33) (tgt := 124) dX7_count_33 c9 (by decide) ?_
      refine a_iconst (pc := 124) (v := (-1 : Int32)) dX7_count_124 (by decide) ?_
      obtain ⟨rfl, rfl⟩ := Prod.mk.inj (Option.some.inj h)
      exact a_iret hp dX7_count_125
    rw [if_neg c9] at h
    by_cases c10 : y1_8 = (0 : Int32)
    · rw [if_pos c10] at h
      refine a_nmI c10 ?_
      refine a_tabIn (pc := 33) (off := 55) (tgt := 88) dX7_count_33 (by decide) (by decide) (by decide) (by decide) ?_
      refine a_aloadn (pc := 88) dX7_count_88 rfl rfl ?_
      refine a_getA (pc := 89) flX7_7 sh_47 rfl dX7_count_89 ?_
      refine a_iconst (pc := 92) (v := (5 : Int32)) dX7_count_92 (by decide) ?_
      obtain ⟨hi11, h⟩ := g_if h
      refine a_iald (pc := 93) sh_48 hi11 dX7_count_93 ?_
      obtain ⟨rfl, rfl⟩ := Prod.mk.inj (Option.some.inj h)
      exact a_iret hp dX7_count_94
    rw [if_neg c10] at h
    by_cases c12 : y1_8 = (1 : Int32)
    · rw [if_pos c12] at h
      refine a_nmI c12 ?_
      refine a_tabIn (pc := 33) (off := 62) (tgt := 95) dX7_count_33 (by decide) (by decide) (by decide) (by decide) ?_
      refine a_aloadn (pc := 95) dX7_count_95 rfl rfl ?_
      refine a_getA (pc := 96) flX7_7 sh_47 rfl dX7_count_96 ?_
      refine a_bipush (pc := 99) (v := (6 : Int32)) dX7_count_99 (by decide) ?_
      obtain ⟨hi13, h⟩ := g_if h
      refine a_iald (pc := 101) sh_48 hi13 dX7_count_101 ?_
      obtain ⟨rfl, rfl⟩ := Prod.mk.inj (Option.some.inj h)
      exact a_iret hp dX7_count_102
    rw [if_neg c12] at h
    by_cases c14 : y1_8 = (2 : Int32)
    · rw [if_pos c14] at h
      refine a_nmI c14 ?_
      refine a_tabIn (pc := 33) (off := 70) (tgt := 103) dX7_count_33 (by decide) (by decide) (by decide) (by decide) ?_
      refine a_aloadn (pc := 103) dX7_count_103 rfl rfl ?_
      refine a_getA (pc := 104) flX7_7 sh_47 rfl dX7_count_104 ?_
      refine a_iloadn (pc := 107) dX7_count_107 rfl rfl ?_
      refine a_iconst (pc := 108) (v := (2 : Int32)) dX7_count_108 (by decide) ?_
      refine a_isub (pc := 109) dX7_count_109 ?_
      obtain ⟨hi15, h⟩ := g_if h
      refine a_iald (pc := 110) sh_48 hi15 dX7_count_110 ?_
      obtain ⟨rfl, rfl⟩ := Prod.mk.inj (Option.some.inj h)
      exact a_iret hp dX7_count_111
    rw [if_neg c14] at h
    by_cases c16 : y1_8 = (3 : Int32)
    · rw [if_pos c16] at h
      refine a_nmI c16 ?_
      refine a_tabIn (pc := 33) (off := 70) (tgt := 103) dX7_count_33 (by decide) (by decide) (by decide) (by decide) ?_
      refine a_aloadn (pc := 103) dX7_count_103 rfl rfl ?_
      refine a_getA (pc := 104) flX7_7 sh_47 rfl dX7_count_104 ?_
      refine a_iloadn (pc := 107) dX7_count_107 rfl rfl ?_
      refine a_iconst (pc := 108) (v := (2 : Int32)) dX7_count_108 (by decide) ?_
      refine a_isub (pc := 109) dX7_count_109 ?_
      obtain ⟨hi17, h⟩ := g_if h
      refine a_iald (pc := 110) sh_48 hi17 dX7_count_110 ?_
      obtain ⟨rfl, rfl⟩ := Prod.mk.inj (Option.some.inj h)
      exact a_iret hp dX7_count_111
    rw [if_neg c16] at h
    by_cases c18 : y1_8 = (4 : Int32)
    · rw [if_pos c18] at h
      refine a_nmI c18 ?_
      refine a_tabIn (pc := 33) (off := 70) (tgt := 103) dX7_count_33 (by decide) (by decide) (by decide) (by decide) ?_
      refine a_aloadn (pc := 103) dX7_count_103 rfl rfl ?_
      refine a_getA (pc := 104) flX7_7 sh_47 rfl dX7_count_104 ?_
      refine a_iloadn (pc := 107) dX7_count_107 rfl rfl ?_
      refine a_iconst (pc := 108) (v := (2 : Int32)) dX7_count_108 (by decide) ?_
      refine a_isub (pc := 109) dX7_count_109 ?_
      obtain ⟨hi19, h⟩ := g_if h
      refine a_iald (pc := 110) sh_48 hi19 dX7_count_110 ?_
      obtain ⟨rfl, rfl⟩ := Prod.mk.inj (Option.some.inj h)
      exact a_iret hp dX7_count_111
    rw [if_neg c18] at h
    by_cases c20 : y1_8 = (5 : Int32)
    · rw [if_pos c20] at h
      refine a_nmI c20 ?_
      refine a_tabIn (pc := 33) (off := 70) (tgt := 103) dX7_count_33 (by decide) (by decide) (by decide) (by decide) ?_
      refine a_aloadn (pc := 103) dX7_count_103 rfl rfl ?_
      refine a_getA (pc := 104) flX7_7 sh_47 rfl dX7_count_104 ?_
      refine a_iloadn (pc := 107) dX7_count_107 rfl rfl ?_
      refine a_iconst (pc := 108) (v := (2 : Int32)) dX7_count_108 (by decide) ?_
      refine a_isub (pc := 109) dX7_count_109 ?_
      obtain ⟨hi21, h⟩ := g_if h
      refine a_iald (pc := 110) sh_48 hi21 dX7_count_110 ?_
      obtain ⟨rfl, rfl⟩ := Prod.mk.inj (Option.some.inj h)
      exact a_iret hp dX7_count_111
    rw [if_neg c20] at h
    by_cases c22 : y1_8 = (6 : Int32)
    · rw [if_pos c22] at h
      refine a_nmI c22 ?_
      refine a_tabIn (pc := 33) (off := 70) (tgt := 103) dX7_count_33 (by decide) (by decide) (by decide) (by decide) ?_
      refine a_aloadn (pc := 103) dX7_count_103 rfl rfl ?_
      refine a_getA (pc := 104) flX7_7 sh_47 rfl dX7_count_104 ?_
      refine a_iloadn (pc := 107) dX7_count_107 rfl rfl ?_
      refine a_iconst (pc := 108) (v := (2 : Int32)) dX7_count_108 (by decide) ?_
      refine a_isub (pc := 109) dX7_count_109 ?_
      obtain ⟨hi23, h⟩ := g_if h
      refine a_iald (pc := 110) sh_48 hi23 dX7_count_110 ?_
      obtain ⟨rfl, rfl⟩ := Prod.mk.inj (Option.some.inj h)
      exact a_iret hp dX7_count_111
    rw [if_neg c22] at h
    by_cases c24 : y1_8 = (7 : Int32)
    · rw [if_pos c24] at h
      refine a_nmI c24 ?_
      refine a_tabIn (pc := 33) (off := 79) (tgt := 112) dX7_count_33 (by decide) (by decide) (by decide) (by decide) ?_
      refine a_aloadn (pc := 112) dX7_count_112 rfl rfl ?_
      refine a_getI (pc := 113) flX7_69 sh_47 rfl dX7_count_113 ?_
      obtain ⟨rfl, rfl⟩ := Prod.mk.inj (Option.some.inj h)
      exact a_iret hp dX7_count_116
    rw [if_neg c24] at h
    by_cases c25 : y1_8 = (8 : Int32)
    · rw [if_pos c25] at h
      refine a_nmI c25 ?_
      refine a_tabIn (pc := 33) (off := 84) (tgt := 117) dX7_count_33 (by decide) (by decide) (by decide) (by decide) ?_
      refine a_aloadn (pc := 117) dX7_count_117 rfl rfl ?_
      obtain ⟨r28, S26, hc27, h⟩ := g_bind2 h
      refine a_invVi (pc := 118) (ok_X7_allHeld hc27) gyX7_allHeld vyX7_allHeld mlX7_111 sh_47 rfl (As := []) rfl rfl (by decide) (st := []) rfl (Nat.le_of_ble_eq_true rfl) dX7_count_118 ?_
      obtain ⟨rfl, rfl⟩ := Prod.mk.inj (Option.some.inj h)
      exact a_iret hp dX7_count_121
    rw [if_neg c25] at h
    by_cases c29 : y1_8 = (9 : Int32)
    · rw [if_pos c29] at h
      refine a_nmI c29 ?_
      refine a_tabIn (pc := 33) (off := 89) (tgt := 122) dX7_count_33 (by decide) (by decide) (by decide) (by decide) ?_
      refine a_iloadn (pc := 122) dX7_count_122 rfl rfl ?_
      obtain ⟨rfl, rfl⟩ := Prod.mk.inj (Option.some.inj h)
      exact a_iret hp dX7_count_123
    rw [if_neg c29] at h
    cases h
  have lp : ∀ (n : Nat) (x1 : Int32) (x2 : Int32) (x3 : Int32) (S : gSt), gLoop (f_X7_count_s4) n (x1, x2, x3, S) = some R8 → AW X RX7 4 cX7_count 4 [some (.ref (gad X 47)), some (.int x1), some (.int x2), some (.int x3)] [] S := by
    intro n
    induction n with
    | zero => intro x1 x2 x3 S hR; cases hR
    | succ n ih =>
      intro x1 x2 x3 S hR
      obtain ⟨q, hs, hR⟩ := g_bind hR
      have hs : f_X7_count_s4_b x1 x2 x3 S = some q := hs
      unfold f_X7_count_s4_b at hs
      refine a_iloadn (pc := 4) dX7_count_4 rfl rfl ?_
      refine a_bipush (pc := 5) (v := (64 : Int32)) dX7_count_5 (by decide) ?_
      refine a_icmp_ge (pc := 7) (tgt := 32) dX7_count_7 (by decide) (fun c1 => ?_) (fun c1 => ?_)
      · rw [if_pos c1] at hs
        obtain rfl := Option.some.inj hs
        obtain rfl := Option.some.inj hR
        refine a_mask [true, true, true, false] (L' := [some (.ref (gad X 47)), some (.int x1), some (.int x2), none]) rfl ?_
        exact E4 _ _ _ h
      · rw [if_neg c1] at hs
        refine a_iloadn (pc := 10) dX7_count_10 rfl rfl ?_
        refine a_aloadn (pc := 11) dX7_count_11 rfl rfl ?_
        refine a_iloadn (pc := 12) dX7_count_12 rfl rfl ?_
        obtain ⟨r4, S2, hc3, hs⟩ := g_bind2 hs
        refine a_invVi (pc := 13) (ok_X7_prints hc3) gyX7_prints vyX7_prints mlX7_108 sh_47 rfl (As := [.int x3]) rfl rfl (by decide) (st := [.int x2]) rfl (Nat.le_of_ble_eq_true rfl) dX7_count_13 ?_
        refine a_if_le (pc := 16) (tgt := 23) dX7_count_16 (by decide) (fun c5 => ?_) (fun c5 => ?_)
        · rw [if_pos c5] at hs
          refine a_iconst (pc := 23) (v := (0 : Int32)) dX7_count_23 (by decide) ?_
          refine a_iadd (pc := 24) dX7_count_24 ?_
          obtain ⟨v6, ev6, hs⟩ := g_let hs
          refine a_nmI ev6 ?_
          refine a_istoren (pc := 25) dX7_count_25 rfl (Nat.le_of_ble_eq_true rfl) rfl (L' := [some (.ref (gad X 47)), some (.int x1), some (.int v6), some (.int x3)]) rfl ?_
          refine a_iinc (pc := 26) dX7_count_26 rfl (v := x3 + (1 : Int32)) rfl (Nat.le_of_ble_eq_true rfl) rfl (L' := [some (.ref (gad X 47)), some (.int x1), some (.int v6), some (.int (x3 + (1 : Int32)))]) rfl ?_
          refine a_goto (pc := 29) (tgt := 4) dX7_count_29 (by decide) ?_
          obtain rfl := Option.some.inj hs
          exact ih _ _ _ _ hR
        · rw [if_neg c5] at hs
          refine a_iconst (pc := 19) (v := (1 : Int32)) dX7_count_19 (by decide) ?_
          refine a_goto (pc := 20) (tgt := 24) dX7_count_20 (by decide) ?_
          refine a_iadd (pc := 24) dX7_count_24 ?_
          obtain ⟨v7, ev7, hs⟩ := g_let hs
          refine a_nmI ev7 ?_
          refine a_istoren (pc := 25) dX7_count_25 rfl (Nat.le_of_ble_eq_true rfl) rfl (L' := [some (.ref (gad X 47)), some (.int x1), some (.int v7), some (.int x3)]) rfl ?_
          refine a_iinc (pc := 26) dX7_count_26 rfl (v := x3 + (1 : Int32)) rfl (Nat.le_of_ble_eq_true rfl) rfl (L' := [some (.ref (gad X 47)), some (.int x1), some (.int v7), some (.int (x3 + (1 : Int32)))]) rfl ?_
          refine a_goto (pc := 29) (tgt := 4) dX7_count_29 (by decide) ?_
          obtain rfl := Option.some.inj hs
          exact ih _ _ _ _ hR
  exact lp _ _ _ _ _ hR8
theorem dX7_type_0 : decode cX7_type 0 = .ok (.iload_n 1, 1) := by decide +kernel
theorem dX7_type_1 : decode cX7_type 1 = .ok (.i2l, 1) := by decide +kernel
theorem dX7_type_2 : decode cX7_type 2 = .ok (.ldc2_w 115, 3) := by decide +kernel
theorem dX7_type_5 : decode cX7_type 5 = .ok (.ldc2_w 117, 3) := by decide +kernel
theorem dX7_type_8 : decode cX7_type 8 = .ok (.invokestatic 51, 3) := by decide +kernel
theorem dX7_type_11 : decode cX7_type 11 = .ok (.ifCond .ne 5, 3) := by decide +kernel
theorem dX7_type_14 : decode cX7_type 14 = .ok (.iconst (-1), 1) := by decide +kernel
theorem dX7_type_15 : decode cX7_type 15 = .ok (.ireturn, 1) := by decide +kernel
theorem dX7_type_16 : decode cX7_type 16 = .ok (.aload_n 0, 1) := by decide +kernel
theorem dX7_type_17 : decode cX7_type 17 = .ok (.getfield 119, 3) := by decide +kernel
theorem dX7_type_20 : decode cX7_type 20 = .ok (.bipush 60, 2) := by decide +kernel
theorem dX7_type_22 : decode cX7_type 22 = .ok (.if_icmp .ne 6, 3) := by decide +kernel
theorem dX7_type_25 : decode cX7_type 25 = .ok (.bipush (-3), 2) := by decide +kernel
theorem dX7_type_27 : decode cX7_type 27 = .ok (.ireturn, 1) := by decide +kernel
theorem dX7_type_28 : decode cX7_type 28 = .ok (.aload_n 0, 1) := by decide +kernel
theorem dX7_type_29 : decode cX7_type 29 = .ok (.getfield 16, 3) := by decide +kernel
theorem dX7_type_32 : decode cX7_type 32 = .ok (.aload_n 0, 1) := by decide +kernel
theorem dX7_type_33 : decode cX7_type 33 = .ok (.getfield 119, 3) := by decide +kernel
theorem dX7_type_36 : decode cX7_type 36 = .ok (.iload_n 1, 1) := by decide +kernel
theorem dX7_type_37 : decode cX7_type 37 = .ok (.iastore, 1) := by decide +kernel
theorem dX7_type_38 : decode cX7_type 38 = .ok (.aload_n 0, 1) := by decide +kernel
theorem dX7_type_39 : decode cX7_type 39 = .ok (.dup, 1) := by decide +kernel
theorem dX7_type_40 : decode cX7_type 40 = .ok (.getfield 119, 3) := by decide +kernel
theorem dX7_type_43 : decode cX7_type 43 = .ok (.iconst 1, 1) := by decide +kernel
theorem dX7_type_44 : decode cX7_type 44 = .ok (.iadd, 1) := by decide +kernel
theorem dX7_type_45 : decode cX7_type 45 = .ok (.putfield 119, 3) := by decide +kernel
theorem dX7_type_48 : decode cX7_type 48 = .ok (.aload_n 0, 1) := by decide +kernel
theorem dX7_type_49 : decode cX7_type 49 = .ok (.getfield 119, 3) := by decide +kernel
theorem dX7_type_52 : decode cX7_type 52 = .ok (.ireturn, 1) := by decide +kernel
def f_X7_type (p1 : Int32) (S : gSt) : Option (Int32 × gSt) :=
gBind2 (f_X7_in (p1.toInt64) (32 : Int64) (126 : Int64) S) fun r3 S1 =>
(if r3 = 0 then
some ((-1 : Int32), S1)
else
(if (S1.1 47 3) = (60 : Int32) then
some ((-3 : Int32), S1)
else
if gin (S1.1 47 3) 60 then
gLet (gI S1 50 (S1.1 47 3).toNatClampNeg p1) fun S7 =>
(gLet (gI S7 47 3 ((S7.1 47 3) + (1 : Int32))) fun S8 =>
some (S8.1 47 3, S8)) else none))
set_option maxHeartbeats 4000000 in
set_option maxRecDepth 20000 in
theorem ok_X7_type {p1 : Int32} {S S0 : gSt} {r0 : Int32}  (h : f_X7_type p1 S = some (r0, S0)) : gCT yX7_type cX7_type 2 (some .int) 1 (fun w => [.ref (w.2.1 47), .int p1]) S (some (.int r0)) S0 := by
  refine gEnter (fun X => [some (.ref (gad X 47)), some (.int p1)]) (by decide) (fun X => ⟨rfl, rfl⟩) (fun w => Nat.le_of_ble_eq_true rfl) (fun X hp => ?_)
  show AW X RX7 1 cX7_type 0 [some (.ref (gad X 47)), some (.int p1)] [] S
  unfold f_X7_type at h
  refine a_iloadn (pc := 0) dX7_type_0 rfl rfl ?_
  refine a_i2l (pc := 1) dX7_type_1 ?_
  refine a_ldc2 (pc := 2) kX7_115 dX7_type_2 ?_
  refine a_ldc2 (pc := 5) kX7_117 dX7_type_5 ?_
  obtain ⟨r3, S1, hc2, h⟩ := g_bind2 h
  refine a_invSi (pc := 8) (ok_X7_in hc2) gyX7_in syX7_in mlX7_51 (As := [.long (p1.toInt64), .long (32 : Int64), .long (126 : Int64)]) rfl rfl (by decide) (st := []) rfl (Nat.le_of_ble_eq_true rfl) dX7_type_8 ?_
  refine a_if_ne (pc := 11) (tgt := 16) dX7_type_11 (by decide) (fun c4 => ?_) (fun c4 => ?_)
  · rw [if_neg c4] at h
    refine a_aloadn (pc := 16) dX7_type_16 rfl rfl ?_
    refine a_getI (pc := 17) flX7_119 sh_47 rfl dX7_type_17 ?_
    refine a_bipush (pc := 20) (v := (60 : Int32)) dX7_type_20 (by decide) ?_
    refine a_icmp_ne (pc := 22) (tgt := 28) dX7_type_22 (by decide) (fun c5 => ?_) (fun c5 => ?_)
    · rw [if_neg c5] at h
      refine a_aloadn (pc := 28) dX7_type_28 rfl rfl ?_
      refine a_getA (pc := 29) flX7_16 sh_47 rfl dX7_type_29 ?_
      refine a_aloadn (pc := 32) dX7_type_32 rfl rfl ?_
      refine a_getI (pc := 33) flX7_119 sh_47 rfl dX7_type_33 ?_
      refine a_iloadn (pc := 36) dX7_type_36 rfl rfl ?_
      obtain ⟨hi6, h⟩ := g_if h
      refine a_iast (pc := 37) sh_50 hi6 dX7_type_37 ?_
      obtain ⟨S7, eS7, h⟩ := g_let h
      refine a_nmS eS7 ?_
      refine a_aloadn (pc := 38) dX7_type_38 rfl rfl ?_
      refine a_dup (pc := 39) dX7_type_39 rfl ?_
      refine a_getI (pc := 40) flX7_119 sh_47 rfl dX7_type_40 ?_
      refine a_iconst (pc := 43) (v := (1 : Int32)) dX7_type_43 (by decide) ?_
      refine a_iadd (pc := 44) dX7_type_44 ?_
      refine a_putI (pc := 45) flX7_119 sh_47 rfl rfl rfl dX7_type_45 ?_
      obtain ⟨S8, eS8, h⟩ := g_let h
      refine a_nmS eS8 ?_
      refine a_aloadn (pc := 48) dX7_type_48 rfl rfl ?_
      refine a_getI (pc := 49) flX7_119 sh_47 rfl dX7_type_49 ?_
      obtain ⟨rfl, rfl⟩ := Prod.mk.inj (Option.some.inj h)
      exact a_iret hp dX7_type_52
    · rw [if_pos c5] at h
      refine a_bipush (pc := 25) (v := (-3 : Int32)) dX7_type_25 (by decide) ?_
      obtain ⟨rfl, rfl⟩ := Prod.mk.inj (Option.some.inj h)
      exact a_iret hp dX7_type_27
  · rw [if_pos c4] at h
    refine a_iconst (pc := 14) (v := (-1 : Int32)) dX7_type_14 (by decide) ?_
    obtain ⟨rfl, rfl⟩ := Prod.mk.inj (Option.some.inj h)
    exact a_iret hp dX7_type_15
theorem dX7_must_0 : decode cX7_must 0 = .ok (.aload_n 0, 1) := by decide +kernel
theorem dX7_must_1 : decode cX7_must 1 = .ok (.aload_n 0, 1) := by decide +kernel
theorem dX7_must_2 : decode cX7_must 2 = .ok (.getfield 125, 3) := by decide +kernel
theorem dX7_must_5 : decode cX7_must 5 = .ok (.ifCond .ne 7, 3) := by decide +kernel
theorem dX7_must_8 : decode cX7_must 8 = .ok (.iload_n 1, 1) := by decide +kernel
theorem dX7_must_9 : decode cX7_must 9 = .ok (.ifCond .ne 7, 3) := by decide +kernel
theorem dX7_must_12 : decode cX7_must 12 = .ok (.iconst 1, 1) := by decide +kernel
theorem dX7_must_13 : decode cX7_must 13 = .ok (.goto 4, 3) := by decide +kernel
theorem dX7_must_16 : decode cX7_must 16 = .ok (.iconst 0, 1) := by decide +kernel
theorem dX7_must_17 : decode cX7_must 17 = .ok (.putfield 125, 3) := by decide +kernel
theorem dX7_must_20 : decode cX7_must 20 = .ok (.return_, 1) := by decide +kernel
def f_X7_must (p1 : Int32) (S : gSt) : Option gSt :=
(if (S.1 47 5) = 0 then
(if p1 = 0 then
gLet (gI S 47 5 (1 : Int32)) fun S5 =>
some S5
else
gLet (gI S 47 5 (0 : Int32)) fun S4 =>
some S4)
else
gLet (gI S 47 5 (1 : Int32)) fun S2 =>
some S2)
set_option maxHeartbeats 4000000 in
set_option maxRecDepth 20000 in
theorem ok_X7_must {p1 : Int32} {S S0 : gSt}  (h : f_X7_must p1 S = some S0) : gCT yX7_must cX7_must 2 none 0 (fun w => [.ref (w.2.1 47), .int p1]) S none S0 := by
  refine gEnter (fun X => [some (.ref (gad X 47)), some (.int p1)]) (by decide) (fun X => ⟨rfl, rfl⟩) (fun w => Nat.le_of_ble_eq_true rfl) (fun X hp => ?_)
  show AW X RX7 0 cX7_must 0 [some (.ref (gad X 47)), some (.int p1)] [] S
  unfold f_X7_must at h
  refine a_aloadn (pc := 0) dX7_must_0 rfl rfl ?_
  refine a_aloadn (pc := 1) dX7_must_1 rfl rfl ?_
  refine a_getI (pc := 2) flX7_125 sh_47 rfl dX7_must_2 ?_
  refine a_if_ne (pc := 5) (tgt := 12) dX7_must_5 (by decide) (fun c1 => ?_) (fun c1 => ?_)
  · rw [if_neg c1] at h
    refine a_iconst (pc := 12) (v := (1 : Int32)) dX7_must_12 (by decide) ?_
    refine a_goto (pc := 13) (tgt := 17) dX7_must_13 (by decide) ?_
    refine a_putI (pc := 17) flX7_125 sh_47 rfl rfl rfl dX7_must_17 ?_
    obtain ⟨S2, eS2, h⟩ := g_let h
    refine a_nmS eS2 ?_
    obtain rfl := Option.some.inj h
    exact a_vret hp dX7_must_20
  · rw [if_pos c1] at h
    refine a_iloadn (pc := 8) dX7_must_8 rfl rfl ?_
    refine a_if_ne (pc := 9) (tgt := 16) dX7_must_9 (by decide) (fun c3 => ?_) (fun c3 => ?_)
    · rw [if_neg c3] at h
      refine a_iconst (pc := 16) (v := (0 : Int32)) dX7_must_16 (by decide) ?_
      refine a_putI (pc := 17) flX7_125 sh_47 rfl rfl rfl dX7_must_17 ?_
      obtain ⟨S4, eS4, h⟩ := g_let h
      refine a_nmS eS4 ?_
      obtain rfl := Option.some.inj h
      exact a_vret hp dX7_must_20
    · rw [if_pos c3] at h
      refine a_iconst (pc := 12) (v := (1 : Int32)) dX7_must_12 (by decide) ?_
      refine a_goto (pc := 13) (tgt := 17) dX7_must_13 (by decide) ?_
      refine a_putI (pc := 17) flX7_125 sh_47 rfl rfl rfl dX7_must_17 ?_
      obtain ⟨S5, eS5, h⟩ := g_let h
      refine a_nmS eS5 ?_
      obtain rfl := Option.some.inj h
      exact a_vret hp dX7_must_20
theorem dX7_here_0 : decode cX7_here 0 = .ok (.aload_n 0, 1) := by decide +kernel
theorem dX7_here_1 : decode cX7_here 1 = .ok (.getfield 122, 3) := by decide +kernel
theorem dX7_here_4 : decode cX7_here 4 = .ok (.aload_n 0, 1) := by decide +kernel
theorem dX7_here_5 : decode cX7_here 5 = .ok (.getfield 119, 3) := by decide +kernel
theorem dX7_here_8 : decode cX7_here 8 = .ok (.if_icmp .ge 30, 3) := by decide +kernel
theorem dX7_here_11 : decode cX7_here 11 = .ok (.aload_n 0, 1) := by decide +kernel
theorem dX7_here_12 : decode cX7_here 12 = .ok (.getfield 16, 3) := by decide +kernel
theorem dX7_here_15 : decode cX7_here 15 = .ok (.aload_n 0, 1) := by decide +kernel
theorem dX7_here_16 : decode cX7_here 16 = .ok (.getfield 122, 3) := by decide +kernel
theorem dX7_here_19 : decode cX7_here 19 = .ok (.iaload, 1) := by decide +kernel
theorem dX7_here_20 : decode cX7_here 20 = .ok (.bipush 32, 2) := by decide +kernel
theorem dX7_here_22 : decode cX7_here 22 = .ok (.if_icmp .ne 16, 3) := by decide +kernel
theorem dX7_here_25 : decode cX7_here 25 = .ok (.aload_n 0, 1) := by decide +kernel
theorem dX7_here_26 : decode cX7_here 26 = .ok (.dup, 1) := by decide +kernel
theorem dX7_here_27 : decode cX7_here 27 = .ok (.getfield 122, 3) := by decide +kernel
theorem dX7_here_30 : decode cX7_here 30 = .ok (.iconst 1, 1) := by decide +kernel
theorem dX7_here_31 : decode cX7_here 31 = .ok (.iadd, 1) := by decide +kernel
theorem dX7_here_32 : decode cX7_here 32 = .ok (.putfield 122, 3) := by decide +kernel
theorem dX7_here_35 : decode cX7_here 35 = .ok (.goto (-35), 3) := by decide +kernel
theorem dX7_here_38 : decode cX7_here 38 = .ok (.aload_n 0, 1) := by decide +kernel
theorem dX7_here_39 : decode cX7_here 39 = .ok (.getfield 122, 3) := by decide +kernel
theorem dX7_here_42 : decode cX7_here 42 = .ok (.aload_n 0, 1) := by decide +kernel
theorem dX7_here_43 : decode cX7_here 43 = .ok (.getfield 119, 3) := by decide +kernel
theorem dX7_here_46 : decode cX7_here 46 = .ok (.if_icmp .ge 15, 3) := by decide +kernel
theorem dX7_here_49 : decode cX7_here 49 = .ok (.aload_n 0, 1) := by decide +kernel
theorem dX7_here_50 : decode cX7_here 50 = .ok (.getfield 16, 3) := by decide +kernel
theorem dX7_here_53 : decode cX7_here 53 = .ok (.aload_n 0, 1) := by decide +kernel
theorem dX7_here_54 : decode cX7_here 54 = .ok (.getfield 122, 3) := by decide +kernel
theorem dX7_here_57 : decode cX7_here 57 = .ok (.iaload, 1) := by decide +kernel
theorem dX7_here_58 : decode cX7_here 58 = .ok (.goto 4, 3) := by decide +kernel
theorem dX7_here_61 : decode cX7_here 61 = .ok (.iconst 0, 1) := by decide +kernel
theorem dX7_here_62 : decode cX7_here 62 = .ok (.ireturn, 1) := by decide +kernel
def f_X7_here_j38 (S : gSt) : Option (Int32 × gSt) :=
(if (S.1 47 3) ≤ (S.1 47 4) then
some ((0 : Int32), S)
else
if gin (S.1 47 4) 60 then
(some (S.1 50 (S.1 47 4).toNatClampNeg, S)) else none)
def f_X7_here_s0_b (S : gSt) : Option ((gSt) ⊕ (gSt)) :=
(if (S.1 47 3) ≤ (S.1 47 4) then
some (.inr (S))
else
if gin (S.1 47 4) 60 then
((if (S.1 50 (S.1 47 4).toNatClampNeg) = (32 : Int32) then
gLet (gI S 47 4 ((S.1 47 4) + (1 : Int32))) fun S6 =>
some (.inl (S6))
else
some (.inr (S)))) else none)
def f_X7_here_s0 : (gSt) → Option ((gSt) ⊕ (gSt)) := fun t => f_X7_here_s0_b t
def f_X7_here (S : gSt) : Option (Int32 × gSt) :=
(gLoop (f_X7_here_s0) gFuel (S)).bind fun q7 => match q7 with
| S7 =>
f_X7_here_j38  S7
set_option maxHeartbeats 4000000 in
set_option maxRecDepth 20000 in
theorem ok_X7_here {S S0 : gSt} {r0 : Int32}  (h : f_X7_here S = some (r0, S0)) : gCT yX7_here cX7_here 1 (some .int) 0 (fun w => [.ref (w.2.1 47)]) S (some (.int r0)) S0 := by
  refine gEnter (fun X => [some (.ref (gad X 47))]) (by decide) (fun X => ⟨rfl, rfl⟩) (fun w => Nat.le_of_ble_eq_true rfl) (fun X hp => ?_)
  show AW X RX7 0 cX7_here 0 [some (.ref (gad X 47))] [] S
  unfold f_X7_here at h
  have J38 : ∀ (S : gSt), f_X7_here_j38  S = some (r0, S0) → AW X RX7 0 cX7_here 38 [some (.ref (gad X 47))] [] S := by
    intro  S h
    unfold f_X7_here_j38 at h
    refine a_aloadn (pc := 38) dX7_here_38 rfl rfl ?_
    refine a_getI (pc := 39) flX7_122 sh_47 rfl dX7_here_39 ?_
    refine a_aloadn (pc := 42) dX7_here_42 rfl rfl ?_
    refine a_getI (pc := 43) flX7_119 sh_47 rfl dX7_here_43 ?_
    refine a_icmp_ge (pc := 46) (tgt := 61) dX7_here_46 (by decide) (fun c1 => ?_) (fun c1 => ?_)
    · rw [if_pos c1] at h
      refine a_iconst (pc := 61) (v := (0 : Int32)) dX7_here_61 (by decide) ?_
      obtain ⟨rfl, rfl⟩ := Prod.mk.inj (Option.some.inj h)
      exact a_iret hp dX7_here_62
    · rw [if_neg c1] at h
      refine a_aloadn (pc := 49) dX7_here_49 rfl rfl ?_
      refine a_getA (pc := 50) flX7_16 sh_47 rfl dX7_here_50 ?_
      refine a_aloadn (pc := 53) dX7_here_53 rfl rfl ?_
      refine a_getI (pc := 54) flX7_122 sh_47 rfl dX7_here_54 ?_
      obtain ⟨hi2, h⟩ := g_if h
      refine a_iald (pc := 57) sh_50 hi2 dX7_here_57 ?_
      refine a_goto (pc := 58) (tgt := 62) dX7_here_58 (by decide) ?_
      obtain ⟨rfl, rfl⟩ := Prod.mk.inj (Option.some.inj h)
      exact a_iret hp dX7_here_62
  obtain ⟨R7, hR7, h⟩ := g_bind h
  have E0 : ∀  (S7 : gSt), (f_X7_here_j38  S7) = some (r0, S0) → AW X RX7 0 cX7_here 38 [some (.ref (gad X 47))] [] S7 := by
    intro S7 h
    exact J38  _ h
  have lp : ∀ (n : Nat)  (S : gSt), gLoop (f_X7_here_s0) n (S) = some R7 → AW X RX7 0 cX7_here 0 [some (.ref (gad X 47))] [] S := by
    intro n
    induction n with
    | zero => intro  S hR; cases hR
    | succ n ih =>
      intro  S hR
      obtain ⟨q, hs, hR⟩ := g_bind hR
      have hs : f_X7_here_s0_b  S = some q := hs
      unfold f_X7_here_s0_b at hs
      refine a_aloadn (pc := 0) dX7_here_0 rfl rfl ?_
      refine a_getI (pc := 1) flX7_122 sh_47 rfl dX7_here_1 ?_
      refine a_aloadn (pc := 4) dX7_here_4 rfl rfl ?_
      refine a_getI (pc := 5) flX7_119 sh_47 rfl dX7_here_5 ?_
      refine a_icmp_ge (pc := 8) (tgt := 38) dX7_here_8 (by decide) (fun c3 => ?_) (fun c3 => ?_)
      · rw [if_pos c3] at hs
        obtain rfl := Option.some.inj hs
        obtain rfl := Option.some.inj hR
        exact E0  _ h
      · rw [if_neg c3] at hs
        refine a_aloadn (pc := 11) dX7_here_11 rfl rfl ?_
        refine a_getA (pc := 12) flX7_16 sh_47 rfl dX7_here_12 ?_
        refine a_aloadn (pc := 15) dX7_here_15 rfl rfl ?_
        refine a_getI (pc := 16) flX7_122 sh_47 rfl dX7_here_16 ?_
        obtain ⟨hi4, hs⟩ := g_if hs
        refine a_iald (pc := 19) sh_50 hi4 dX7_here_19 ?_
        refine a_bipush (pc := 20) (v := (32 : Int32)) dX7_here_20 (by decide) ?_
        refine a_icmp_ne (pc := 22) (tgt := 38) dX7_here_22 (by decide) (fun c5 => ?_) (fun c5 => ?_)
        · rw [if_neg c5] at hs
          obtain rfl := Option.some.inj hs
          obtain rfl := Option.some.inj hR
          exact E0  _ h
        · rw [if_pos c5] at hs
          refine a_aloadn (pc := 25) dX7_here_25 rfl rfl ?_
          refine a_dup (pc := 26) dX7_here_26 rfl ?_
          refine a_getI (pc := 27) flX7_122 sh_47 rfl dX7_here_27 ?_
          refine a_iconst (pc := 30) (v := (1 : Int32)) dX7_here_30 (by decide) ?_
          refine a_iadd (pc := 31) dX7_here_31 ?_
          refine a_putI (pc := 32) flX7_122 sh_47 rfl rfl rfl dX7_here_32 ?_
          obtain ⟨S6, eS6, hs⟩ := g_let hs
          refine a_nmS eS6 ?_
          refine a_goto (pc := 35) (tgt := 0) dX7_here_35 (by decide) ?_
          obtain rfl := Option.some.inj hs
          exact ih  _ hR
  exact lp _  _ hR7
theorem dX7_digit_0 : decode cX7_digit 0 = .ok (.aload_n 0, 1) := by decide +kernel
theorem dX7_digit_1 : decode cX7_digit 1 = .ok (.getfield 125, 3) := by decide +kernel
theorem dX7_digit_4 : decode cX7_digit 4 = .ok (.ifCond .eq 7, 3) := by decide +kernel
theorem dX7_digit_7 : decode cX7_digit 7 = .ok (.iconst (-1), 1) := by decide +kernel
theorem dX7_digit_8 : decode cX7_digit 8 = .ok (.goto 10, 3) := by decide +kernel
theorem dX7_digit_11 : decode cX7_digit 11 = .ok (.aload_n 0, 1) := by decide +kernel
theorem dX7_digit_12 : decode cX7_digit 12 = .ok (.invokevirtual 129, 3) := by decide +kernel
theorem dX7_digit_15 : decode cX7_digit 15 = .ok (.bipush 48, 2) := by decide +kernel
theorem dX7_digit_17 : decode cX7_digit 17 = .ok (.isub, 1) := by decide +kernel
theorem dX7_digit_18 : decode cX7_digit 18 = .ok (.istore_n 3, 1) := by decide +kernel
theorem dX7_digit_19 : decode cX7_digit 19 = .ok (.aload_n 0, 1) := by decide +kernel
theorem dX7_digit_20 : decode cX7_digit 20 = .ok (.iload_n 3, 1) := by decide +kernel
theorem dX7_digit_21 : decode cX7_digit 21 = .ok (.i2l, 1) := by decide +kernel
theorem dX7_digit_22 : decode cX7_digit 22 = .ok (.iload_n 1, 1) := by decide +kernel
theorem dX7_digit_23 : decode cX7_digit 23 = .ok (.i2l, 1) := by decide +kernel
theorem dX7_digit_24 : decode cX7_digit 24 = .ok (.iload_n 2, 1) := by decide +kernel
theorem dX7_digit_25 : decode cX7_digit 25 = .ok (.i2l, 1) := by decide +kernel
theorem dX7_digit_26 : decode cX7_digit 26 = .ok (.invokestatic 51, 3) := by decide +kernel
theorem dX7_digit_29 : decode cX7_digit 29 = .ok (.invokevirtual 132, 3) := by decide +kernel
theorem dX7_digit_32 : decode cX7_digit 32 = .ok (.aload_n 0, 1) := by decide +kernel
theorem dX7_digit_33 : decode cX7_digit 33 = .ok (.dup, 1) := by decide +kernel
theorem dX7_digit_34 : decode cX7_digit 34 = .ok (.getfield 122, 3) := by decide +kernel
theorem dX7_digit_37 : decode cX7_digit 37 = .ok (.aload_n 0, 1) := by decide +kernel
theorem dX7_digit_38 : decode cX7_digit 38 = .ok (.getfield 125, 3) := by decide +kernel
theorem dX7_digit_41 : decode cX7_digit 41 = .ok (.ifCond .eq 7, 3) := by decide +kernel
theorem dX7_digit_44 : decode cX7_digit 44 = .ok (.iconst 0, 1) := by decide +kernel
theorem dX7_digit_45 : decode cX7_digit 45 = .ok (.goto 4, 3) := by decide +kernel
theorem dX7_digit_48 : decode cX7_digit 48 = .ok (.iconst 1, 1) := by decide +kernel
theorem dX7_digit_49 : decode cX7_digit 49 = .ok (.iadd, 1) := by decide +kernel
theorem dX7_digit_50 : decode cX7_digit 50 = .ok (.putfield 122, 3) := by decide +kernel
theorem dX7_digit_53 : decode cX7_digit 53 = .ok (.iload_n 3, 1) := by decide +kernel
theorem dX7_digit_54 : decode cX7_digit 54 = .ok (.ireturn, 1) := by decide +kernel
def f_X7_digit_j18 (x1 : Int32) (x2 : Int32) (t0 : Int32) (S : gSt) : Option (Int32 × gSt) :=
gBind2 (f_X7_in (t0.toInt64) (x1.toInt64) (x2.toInt64) S) fun r3 S1 =>
(f_X7_must r3 S1).bind fun S4 =>
(if (S4.1 47 5) = 0 then
gLet (gI S4 47 4 ((S4.1 47 4) + (1 : Int32))) fun S7 =>
some (t0, S7)
else
gLet (gI S4 47 4 ((S4.1 47 4) + (0 : Int32))) fun S8 =>
some (t0, S8))
def f_X7_digit (p1 : Int32) (p2 : Int32) (S : gSt) : Option (Int32 × gSt) :=
(if (S.1 47 5) = 0 then
gBind2 (f_X7_here S) fun r12 S10 =>
f_X7_digit_j18 p1 p2 (r12 - (48 : Int32)) S10
else
f_X7_digit_j18 p1 p2 (-1 : Int32) S)
set_option maxHeartbeats 4000000 in
set_option maxRecDepth 20000 in
theorem ok_X7_digit {p1 : Int32} {p2 : Int32} {S S0 : gSt} {r0 : Int32}  (h : f_X7_digit p1 p2 S = some (r0, S0)) : gCT yX7_digit cX7_digit 4 (some .int) 1 (fun w => [.ref (w.2.1 47), .int p1, .int p2]) S (some (.int r0)) S0 := by
  refine gEnter (fun X => [some (.ref (gad X 47)), some (.int p1), some (.int p2), none]) (by decide) (fun X => ⟨rfl, rfl⟩) (fun w => Nat.le_of_ble_eq_true rfl) (fun X hp => ?_)
  show AW X RX7 1 cX7_digit 0 [some (.ref (gad X 47)), some (.int p1), some (.int p2), none] [] S
  unfold f_X7_digit at h
  have J18 : ∀ (x1 : Int32) (x2 : Int32) (t0 : Int32) (S : gSt), f_X7_digit_j18 x1 x2 t0 S = some (r0, S0) → AW X RX7 1 cX7_digit 18 [some (.ref (gad X 47)), some (.int x1), some (.int x2), none] [.int t0] S := by
    intro x1 x2 t0 S h
    unfold f_X7_digit_j18 at h
    refine a_istoren (pc := 18) dX7_digit_18 rfl (Nat.le_of_ble_eq_true rfl) rfl (L' := [some (.ref (gad X 47)), some (.int x1), some (.int x2), some (.int t0)]) rfl ?_
    refine a_aloadn (pc := 19) dX7_digit_19 rfl rfl ?_
    refine a_iloadn (pc := 20) dX7_digit_20 rfl rfl ?_
    refine a_i2l (pc := 21) dX7_digit_21 ?_
    refine a_iloadn (pc := 22) dX7_digit_22 rfl rfl ?_
    refine a_i2l (pc := 23) dX7_digit_23 ?_
    refine a_iloadn (pc := 24) dX7_digit_24 rfl rfl ?_
    refine a_i2l (pc := 25) dX7_digit_25 ?_
    obtain ⟨r3, S1, hc2, h⟩ := g_bind2 h
    refine a_invSi (pc := 26) (ok_X7_in hc2) gyX7_in syX7_in mlX7_51 (As := [.long (t0.toInt64), .long (x1.toInt64), .long (x2.toInt64)]) rfl rfl (by decide) (st := [.ref (gad X 47)]) rfl (Nat.le_of_ble_eq_true rfl) dX7_digit_26 ?_
    obtain ⟨S4, hc5, h⟩ := g_bind h
    refine a_invVv (pc := 29) (ok_X7_must hc5) gyX7_must vyX7_must mlX7_132 sh_47 rfl (As := [.int r3]) rfl rfl (by decide) (st := []) rfl (Nat.le_of_ble_eq_true rfl) dX7_digit_29 ?_
    refine a_aloadn (pc := 32) dX7_digit_32 rfl rfl ?_
    refine a_dup (pc := 33) dX7_digit_33 rfl ?_
    refine a_getI (pc := 34) flX7_122 sh_47 rfl dX7_digit_34 ?_
    refine a_aloadn (pc := 37) dX7_digit_37 rfl rfl ?_
    refine a_getI (pc := 38) flX7_125 sh_47 rfl dX7_digit_38 ?_
    refine a_if_eq (pc := 41) (tgt := 48) dX7_digit_41 (by decide) (fun c6 => ?_) (fun c6 => ?_)
    · rw [if_pos c6] at h
      refine a_iconst (pc := 48) (v := (1 : Int32)) dX7_digit_48 (by decide) ?_
      refine a_iadd (pc := 49) dX7_digit_49 ?_
      refine a_putI (pc := 50) flX7_122 sh_47 rfl rfl rfl dX7_digit_50 ?_
      obtain ⟨S7, eS7, h⟩ := g_let h
      refine a_nmS eS7 ?_
      refine a_iloadn (pc := 53) dX7_digit_53 rfl rfl ?_
      obtain ⟨rfl, rfl⟩ := Prod.mk.inj (Option.some.inj h)
      exact a_iret hp dX7_digit_54
    · rw [if_neg c6] at h
      refine a_iconst (pc := 44) (v := (0 : Int32)) dX7_digit_44 (by decide) ?_
      refine a_goto (pc := 45) (tgt := 49) dX7_digit_45 (by decide) ?_
      refine a_iadd (pc := 49) dX7_digit_49 ?_
      refine a_putI (pc := 50) flX7_122 sh_47 rfl rfl rfl dX7_digit_50 ?_
      obtain ⟨S8, eS8, h⟩ := g_let h
      refine a_nmS eS8 ?_
      refine a_iloadn (pc := 53) dX7_digit_53 rfl rfl ?_
      obtain ⟨rfl, rfl⟩ := Prod.mk.inj (Option.some.inj h)
      exact a_iret hp dX7_digit_54
  refine a_aloadn (pc := 0) dX7_digit_0 rfl rfl ?_
  refine a_getI (pc := 1) flX7_125 sh_47 rfl dX7_digit_1 ?_
  refine a_if_eq (pc := 4) (tgt := 11) dX7_digit_4 (by decide) (fun c9 => ?_) (fun c9 => ?_)
  · rw [if_pos c9] at h
    refine a_aloadn (pc := 11) dX7_digit_11 rfl rfl ?_
    obtain ⟨r12, S10, hc11, h⟩ := g_bind2 h
    refine a_invVi (pc := 12) (ok_X7_here hc11) gyX7_here vyX7_here mlX7_129 sh_47 rfl (As := []) rfl rfl (by decide) (st := []) rfl (Nat.le_of_ble_eq_true rfl) dX7_digit_12 ?_
    refine a_bipush (pc := 15) (v := (48 : Int32)) dX7_digit_15 (by decide) ?_
    refine a_isub (pc := 17) dX7_digit_17 ?_
    exact J18 _ _ _ _ h
  · rw [if_neg c9] at h
    refine a_iconst (pc := 7) (v := (-1 : Int32)) dX7_digit_7 (by decide) ?_
    refine a_goto (pc := 8) (tgt := 18) dX7_digit_8 (by decide) ?_
    exact J18 _ _ _ _ h
theorem dX7_takes_0 : decode cX7_takes 0 = .ok (.aload_n 0, 1) := by decide +kernel
theorem dX7_takes_1 : decode cX7_takes 1 = .ok (.aload_n 0, 1) := by decide +kernel
theorem dX7_takes_2 : decode cX7_takes 2 = .ok (.invokevirtual 129, 3) := by decide +kernel
theorem dX7_takes_5 : decode cX7_takes 5 = .ok (.iload_n 1, 1) := by decide +kernel
theorem dX7_takes_6 : decode cX7_takes 6 = .ok (.if_icmp .ne 7, 3) := by decide +kernel
theorem dX7_takes_9 : decode cX7_takes 9 = .ok (.iconst 1, 1) := by decide +kernel
theorem dX7_takes_10 : decode cX7_takes 10 = .ok (.goto 4, 3) := by decide +kernel
theorem dX7_takes_13 : decode cX7_takes 13 = .ok (.iconst 0, 1) := by decide +kernel
theorem dX7_takes_14 : decode cX7_takes 14 = .ok (.invokevirtual 132, 3) := by decide +kernel
theorem dX7_takes_17 : decode cX7_takes 17 = .ok (.aload_n 0, 1) := by decide +kernel
theorem dX7_takes_18 : decode cX7_takes 18 = .ok (.dup, 1) := by decide +kernel
theorem dX7_takes_19 : decode cX7_takes 19 = .ok (.getfield 122, 3) := by decide +kernel
theorem dX7_takes_22 : decode cX7_takes 22 = .ok (.aload_n 0, 1) := by decide +kernel
theorem dX7_takes_23 : decode cX7_takes 23 = .ok (.getfield 125, 3) := by decide +kernel
theorem dX7_takes_26 : decode cX7_takes 26 = .ok (.ifCond .eq 7, 3) := by decide +kernel
theorem dX7_takes_29 : decode cX7_takes 29 = .ok (.iconst 0, 1) := by decide +kernel
theorem dX7_takes_30 : decode cX7_takes 30 = .ok (.goto 4, 3) := by decide +kernel
theorem dX7_takes_33 : decode cX7_takes 33 = .ok (.iconst 1, 1) := by decide +kernel
theorem dX7_takes_34 : decode cX7_takes 34 = .ok (.iadd, 1) := by decide +kernel
theorem dX7_takes_35 : decode cX7_takes 35 = .ok (.putfield 122, 3) := by decide +kernel
theorem dX7_takes_38 : decode cX7_takes 38 = .ok (.return_, 1) := by decide +kernel
def f_X7_takes_j14 (t0 : Int32) (S : gSt) : Option gSt :=
(f_X7_must t0 S).bind fun S1 =>
(if (S1.1 47 5) = 0 then
gLet (gI S1 47 4 ((S1.1 47 4) + (1 : Int32))) fun S4 =>
some S4
else
gLet (gI S1 47 4 ((S1.1 47 4) + (0 : Int32))) fun S5 =>
some S5)
def f_X7_takes (p1 : Int32) (S : gSt) : Option gSt :=
gBind2 (f_X7_here S) fun r8 S6 =>
(if r8 = p1 then
f_X7_takes_j14 (1 : Int32) S6
else
f_X7_takes_j14 (0 : Int32) S6)
set_option maxHeartbeats 4000000 in
set_option maxRecDepth 20000 in
theorem ok_X7_takes {p1 : Int32} {S S0 : gSt}  (h : f_X7_takes p1 S = some S0) : gCT yX7_takes cX7_takes 2 none 1 (fun w => [.ref (w.2.1 47), .int p1]) S none S0 := by
  refine gEnter (fun X => [some (.ref (gad X 47)), some (.int p1)]) (by decide) (fun X => ⟨rfl, rfl⟩) (fun w => Nat.le_of_ble_eq_true rfl) (fun X hp => ?_)
  show AW X RX7 1 cX7_takes 0 [some (.ref (gad X 47)), some (.int p1)] [] S
  unfold f_X7_takes at h
  have J14 : ∀ (t0 : Int32) (S : gSt), f_X7_takes_j14 t0 S = some S0 → AW X RX7 1 cX7_takes 14 [some (.ref (gad X 47)), none] [.int t0, .ref (gad X 47)] S := by
    intro t0 S h
    unfold f_X7_takes_j14 at h
    obtain ⟨S1, hc2, h⟩ := g_bind h
    refine a_invVv (pc := 14) (ok_X7_must hc2) gyX7_must vyX7_must mlX7_132 sh_47 rfl (As := [.int t0]) rfl rfl (by decide) (st := []) rfl (Nat.le_of_ble_eq_true rfl) dX7_takes_14 ?_
    refine a_aloadn (pc := 17) dX7_takes_17 rfl rfl ?_
    refine a_dup (pc := 18) dX7_takes_18 rfl ?_
    refine a_getI (pc := 19) flX7_122 sh_47 rfl dX7_takes_19 ?_
    refine a_aloadn (pc := 22) dX7_takes_22 rfl rfl ?_
    refine a_getI (pc := 23) flX7_125 sh_47 rfl dX7_takes_23 ?_
    refine a_if_eq (pc := 26) (tgt := 33) dX7_takes_26 (by decide) (fun c3 => ?_) (fun c3 => ?_)
    · rw [if_pos c3] at h
      refine a_iconst (pc := 33) (v := (1 : Int32)) dX7_takes_33 (by decide) ?_
      refine a_iadd (pc := 34) dX7_takes_34 ?_
      refine a_putI (pc := 35) flX7_122 sh_47 rfl rfl rfl dX7_takes_35 ?_
      obtain ⟨S4, eS4, h⟩ := g_let h
      refine a_nmS eS4 ?_
      obtain rfl := Option.some.inj h
      exact a_vret hp dX7_takes_38
    · rw [if_neg c3] at h
      refine a_iconst (pc := 29) (v := (0 : Int32)) dX7_takes_29 (by decide) ?_
      refine a_goto (pc := 30) (tgt := 34) dX7_takes_30 (by decide) ?_
      refine a_iadd (pc := 34) dX7_takes_34 ?_
      refine a_putI (pc := 35) flX7_122 sh_47 rfl rfl rfl dX7_takes_35 ?_
      obtain ⟨S5, eS5, h⟩ := g_let h
      refine a_nmS eS5 ?_
      obtain rfl := Option.some.inj h
      exact a_vret hp dX7_takes_38
  refine a_aloadn (pc := 0) dX7_takes_0 rfl rfl ?_
  refine a_aloadn (pc := 1) dX7_takes_1 rfl rfl ?_
  obtain ⟨r8, S6, hc7, h⟩ := g_bind2 h
  refine a_invVi (pc := 2) (ok_X7_here hc7) gyX7_here vyX7_here mlX7_129 sh_47 rfl (As := []) rfl rfl (by decide) (st := [.ref (gad X 47)]) rfl (Nat.le_of_ble_eq_true rfl) dX7_takes_2 ?_
  refine a_iloadn (pc := 5) dX7_takes_5 rfl rfl ?_
  refine a_icmp_ne (pc := 6) (tgt := 13) dX7_takes_6 (by decide) (fun c9 => ?_) (fun c9 => ?_)
  · rw [if_neg c9] at h
    refine a_iconst (pc := 13) (v := (0 : Int32)) dX7_takes_13 (by decide) ?_
    refine a_mask [true, false] (L' := [some (.ref (gad X 47)), none]) rfl ?_
    exact J14 _ _ h
  · rw [if_pos c9] at h
    refine a_iconst (pc := 9) (v := (1 : Int32)) dX7_takes_9 (by decide) ?_
    refine a_goto (pc := 10) (tgt := 14) dX7_takes_10 (by decide) ?_
    refine a_mask [true, false] (L' := [some (.ref (gad X 47)), none]) rfl ?_
    exact J14 _ _ h
theorem dX7_readWalker_0 : decode cX7_readWalker 0 = .ok (.aload_n 0, 1) := by decide +kernel
theorem dX7_readWalker_1 : decode cX7_readWalker 1 = .ok (.invokevirtual 129, 3) := by decide +kernel
theorem dX7_readWalker_4 : decode cX7_readWalker 4 = .ok (.istore_n 2, 1) := by decide +kernel
theorem dX7_readWalker_5 : decode cX7_readWalker 5 = .ok (.iload_n 2, 1) := by decide +kernel
theorem dX7_readWalker_6 : decode cX7_readWalker 6 = .ok (.bipush 112, 2) := by decide +kernel
theorem dX7_readWalker_8 : decode cX7_readWalker 8 = .ok (.if_icmp .ne 7, 3) := by decide +kernel
theorem dX7_readWalker_11 : decode cX7_readWalker 11 = .ok (.iconst 0, 1) := by decide +kernel
theorem dX7_readWalker_12 : decode cX7_readWalker 12 = .ok (.goto 44, 3) := by decide +kernel
theorem dX7_readWalker_15 : decode cX7_readWalker 15 = .ok (.iload_n 2, 1) := by decide +kernel
theorem dX7_readWalker_16 : decode cX7_readWalker 16 = .ok (.bipush 115, 2) := by decide +kernel
theorem dX7_readWalker_18 : decode cX7_readWalker 18 = .ok (.if_icmp .ne 7, 3) := by decide +kernel
theorem dX7_readWalker_21 : decode cX7_readWalker 21 = .ok (.iconst 1, 1) := by decide +kernel
theorem dX7_readWalker_22 : decode cX7_readWalker 22 = .ok (.goto 34, 3) := by decide +kernel
theorem dX7_readWalker_25 : decode cX7_readWalker 25 = .ok (.iload_n 2, 1) := by decide +kernel
theorem dX7_readWalker_26 : decode cX7_readWalker 26 = .ok (.bipush 104, 2) := by decide +kernel
theorem dX7_readWalker_28 : decode cX7_readWalker 28 = .ok (.if_icmp .ne 7, 3) := by decide +kernel
theorem dX7_readWalker_31 : decode cX7_readWalker 31 = .ok (.iconst 2, 1) := by decide +kernel
theorem dX7_readWalker_32 : decode cX7_readWalker 32 = .ok (.goto 24, 3) := by decide +kernel
theorem dX7_readWalker_35 : decode cX7_readWalker 35 = .ok (.iload_n 2, 1) := by decide +kernel
theorem dX7_readWalker_36 : decode cX7_readWalker 36 = .ok (.bipush 107, 2) := by decide +kernel
theorem dX7_readWalker_38 : decode cX7_readWalker 38 = .ok (.if_icmp .ne 7, 3) := by decide +kernel
theorem dX7_readWalker_41 : decode cX7_readWalker 41 = .ok (.iconst 3, 1) := by decide +kernel
theorem dX7_readWalker_42 : decode cX7_readWalker 42 = .ok (.goto 14, 3) := by decide +kernel
theorem dX7_readWalker_45 : decode cX7_readWalker 45 = .ok (.iload_n 2, 1) := by decide +kernel
theorem dX7_readWalker_46 : decode cX7_readWalker 46 = .ok (.bipush 111, 2) := by decide +kernel
theorem dX7_readWalker_48 : decode cX7_readWalker 48 = .ok (.if_icmp .ne 7, 3) := by decide +kernel
theorem dX7_readWalker_51 : decode cX7_readWalker 51 = .ok (.iconst 4, 1) := by decide +kernel
theorem dX7_readWalker_52 : decode cX7_readWalker 52 = .ok (.goto 4, 3) := by decide +kernel
theorem dX7_readWalker_55 : decode cX7_readWalker 55 = .ok (.iconst (-1), 1) := by decide +kernel
theorem dX7_readWalker_56 : decode cX7_readWalker 56 = .ok (.istore_n 3, 1) := by decide +kernel
theorem dX7_readWalker_57 : decode cX7_readWalker 57 = .ok (.aload_n 0, 1) := by decide +kernel
theorem dX7_readWalker_58 : decode cX7_readWalker 58 = .ok (.iload_n 3, 1) := by decide +kernel
theorem dX7_readWalker_59 : decode cX7_readWalker 59 = .ok (.ifCond .lt 7, 3) := by decide +kernel
theorem dX7_readWalker_62 : decode cX7_readWalker 62 = .ok (.iconst 1, 1) := by decide +kernel
theorem dX7_readWalker_63 : decode cX7_readWalker 63 = .ok (.goto 4, 3) := by decide +kernel
theorem dX7_readWalker_66 : decode cX7_readWalker 66 = .ok (.iconst 0, 1) := by decide +kernel
theorem dX7_readWalker_67 : decode cX7_readWalker 67 = .ok (.invokevirtual 132, 3) := by decide +kernel
theorem dX7_readWalker_70 : decode cX7_readWalker 70 = .ok (.aload_n 0, 1) := by decide +kernel
theorem dX7_readWalker_71 : decode cX7_readWalker 71 = .ok (.dup, 1) := by decide +kernel
theorem dX7_readWalker_72 : decode cX7_readWalker 72 = .ok (.getfield 122, 3) := by decide +kernel
theorem dX7_readWalker_75 : decode cX7_readWalker 75 = .ok (.aload_n 0, 1) := by decide +kernel
theorem dX7_readWalker_76 : decode cX7_readWalker 76 = .ok (.getfield 125, 3) := by decide +kernel
theorem dX7_readWalker_79 : decode cX7_readWalker 79 = .ok (.ifCond .eq 7, 3) := by decide +kernel
theorem dX7_readWalker_82 : decode cX7_readWalker 82 = .ok (.iconst 0, 1) := by decide +kernel
theorem dX7_readWalker_83 : decode cX7_readWalker 83 = .ok (.goto 4, 3) := by decide +kernel
theorem dX7_readWalker_86 : decode cX7_readWalker 86 = .ok (.iconst 1, 1) := by decide +kernel
theorem dX7_readWalker_87 : decode cX7_readWalker 87 = .ok (.iadd, 1) := by decide +kernel
theorem dX7_readWalker_88 : decode cX7_readWalker 88 = .ok (.putfield 122, 3) := by decide +kernel
theorem dX7_readWalker_91 : decode cX7_readWalker 91 = .ok (.aload_n 0, 1) := by decide +kernel
theorem dX7_readWalker_92 : decode cX7_readWalker 92 = .ok (.iconst 1, 1) := by decide +kernel
theorem dX7_readWalker_93 : decode cX7_readWalker 93 = .ok (.bipush 9, 2) := by decide +kernel
theorem dX7_readWalker_95 : decode cX7_readWalker 95 = .ok (.invokevirtual 136, 3) := by decide +kernel
theorem dX7_readWalker_98 : decode cX7_readWalker 98 = .ok (.istore 4, 2) := by decide +kernel
theorem dX7_readWalker_100 : decode cX7_readWalker 100 = .ok (.aload_n 0, 1) := by decide +kernel
theorem dX7_readWalker_101 : decode cX7_readWalker 101 = .ok (.iconst 0, 1) := by decide +kernel
theorem dX7_readWalker_102 : decode cX7_readWalker 102 = .ok (.bipush 7, 2) := by decide +kernel
theorem dX7_readWalker_104 : decode cX7_readWalker 104 = .ok (.invokevirtual 136, 3) := by decide +kernel
theorem dX7_readWalker_107 : decode cX7_readWalker 107 = .ok (.istore 5, 2) := by decide +kernel
theorem dX7_readWalker_109 : decode cX7_readWalker 109 = .ok (.aload_n 0, 1) := by decide +kernel
theorem dX7_readWalker_110 : decode cX7_readWalker 110 = .ok (.iconst 0, 1) := by decide +kernel
theorem dX7_readWalker_111 : decode cX7_readWalker 111 = .ok (.bipush 7, 2) := by decide +kernel
theorem dX7_readWalker_113 : decode cX7_readWalker 113 = .ok (.invokevirtual 136, 3) := by decide +kernel
theorem dX7_readWalker_116 : decode cX7_readWalker 116 = .ok (.istore 6, 2) := by decide +kernel
theorem dX7_readWalker_118 : decode cX7_readWalker 118 = .ok (.aload_n 0, 1) := by decide +kernel
theorem dX7_readWalker_119 : decode cX7_readWalker 119 = .ok (.getfield 125, 3) := by decide +kernel
theorem dX7_readWalker_122 : decode cX7_readWalker 122 = .ok (.ifCond .ne 42, 3) := by decide +kernel
theorem dX7_readWalker_125 : decode cX7_readWalker 125 = .ok (.aload_n 0, 1) := by decide +kernel
theorem dX7_readWalker_126 : decode cX7_readWalker 126 = .ok (.getfield 19, 3) := by decide +kernel
theorem dX7_readWalker_129 : decode cX7_readWalker 129 = .ok (.iconst 3, 1) := by decide +kernel
theorem dX7_readWalker_130 : decode cX7_readWalker 130 = .ok (.iload_n 1, 1) := by decide +kernel
theorem dX7_readWalker_131 : decode cX7_readWalker 131 = .ok (.imul, 1) := by decide +kernel
theorem dX7_readWalker_132 : decode cX7_readWalker 132 = .ok (.iload_n 3, 1) := by decide +kernel
theorem dX7_readWalker_133 : decode cX7_readWalker 133 = .ok (.iastore, 1) := by decide +kernel
theorem dX7_readWalker_134 : decode cX7_readWalker 134 = .ok (.aload_n 0, 1) := by decide +kernel
theorem dX7_readWalker_135 : decode cX7_readWalker 135 = .ok (.getfield 19, 3) := by decide +kernel
theorem dX7_readWalker_138 : decode cX7_readWalker 138 = .ok (.iconst 3, 1) := by decide +kernel
theorem dX7_readWalker_139 : decode cX7_readWalker 139 = .ok (.iload_n 1, 1) := by decide +kernel
theorem dX7_readWalker_140 : decode cX7_readWalker 140 = .ok (.imul, 1) := by decide +kernel
theorem dX7_readWalker_141 : decode cX7_readWalker 141 = .ok (.iconst 1, 1) := by decide +kernel
theorem dX7_readWalker_142 : decode cX7_readWalker 142 = .ok (.iadd, 1) := by decide +kernel
theorem dX7_readWalker_143 : decode cX7_readWalker 143 = .ok (.iload 4, 2) := by decide +kernel
theorem dX7_readWalker_145 : decode cX7_readWalker 145 = .ok (.iastore, 1) := by decide +kernel
theorem dX7_readWalker_146 : decode cX7_readWalker 146 = .ok (.aload_n 0, 1) := by decide +kernel
theorem dX7_readWalker_147 : decode cX7_readWalker 147 = .ok (.getfield 19, 3) := by decide +kernel
theorem dX7_readWalker_150 : decode cX7_readWalker 150 = .ok (.iconst 3, 1) := by decide +kernel
theorem dX7_readWalker_151 : decode cX7_readWalker 151 = .ok (.iload_n 1, 1) := by decide +kernel
theorem dX7_readWalker_152 : decode cX7_readWalker 152 = .ok (.imul, 1) := by decide +kernel
theorem dX7_readWalker_153 : decode cX7_readWalker 153 = .ok (.iconst 2, 1) := by decide +kernel
theorem dX7_readWalker_154 : decode cX7_readWalker 154 = .ok (.iadd, 1) := by decide +kernel
theorem dX7_readWalker_155 : decode cX7_readWalker 155 = .ok (.bipush 8, 2) := by decide +kernel
theorem dX7_readWalker_157 : decode cX7_readWalker 157 = .ok (.iload 6, 2) := by decide +kernel
theorem dX7_readWalker_159 : decode cX7_readWalker 159 = .ok (.imul, 1) := by decide +kernel
theorem dX7_readWalker_160 : decode cX7_readWalker 160 = .ok (.iload 5, 2) := by decide +kernel
theorem dX7_readWalker_162 : decode cX7_readWalker 162 = .ok (.iadd, 1) := by decide +kernel
theorem dX7_readWalker_163 : decode cX7_readWalker 163 = .ok (.iastore, 1) := by decide +kernel
theorem dX7_readWalker_164 : decode cX7_readWalker 164 = .ok (.return_, 1) := by decide +kernel
def f_X7_readWalker_j87 (x1 : Int32) (x3 : Int32) (t0 : Int32) (t1 : Int32) (S : gSt) : Option gSt :=
gLet (gI S 47 4 (t1 + t0)) fun S1 =>
gBind2 (f_X7_digit (1 : Int32) (9 : Int32) S1) fun r4 S2 =>
gBind2 (f_X7_digit (0 : Int32) (7 : Int32) S2) fun r7 S5 =>
gBind2 (f_X7_digit (0 : Int32) (7 : Int32) S5) fun r10 S8 =>
(if (S8.1 47 5) = 0 then
if gin ((3 : Int32) * x1) 18 then
gLet (gI S8 51 ((3 : Int32) * x1).toNatClampNeg x3) fun S13 =>
(if gin (((3 : Int32) * x1) + (1 : Int32)) 18 then
gLet (gI S13 51 (((3 : Int32) * x1) + (1 : Int32)).toNatClampNeg r4) fun S15 =>
(if gin (((3 : Int32) * x1) + (2 : Int32)) 18 then
gLet (gI S15 51 (((3 : Int32) * x1) + (2 : Int32)).toNatClampNeg (((8 : Int32) * r10) + r7)) fun S17 =>
(some S17) else none) else none) else none
else
some S8)
def f_X7_readWalker_j67 (x1 : Int32) (x3 : Int32) (t0 : Int32) (S : gSt) : Option gSt :=
(f_X7_must t0 S).bind fun S18 =>
(if (S18.1 47 5) = 0 then
f_X7_readWalker_j87 x1 x3 (1 : Int32) (S18.1 47 4) S18
else
f_X7_readWalker_j87 x1 x3 (0 : Int32) (S18.1 47 4) S18)
def f_X7_readWalker_j56 (x1 : Int32) (t0 : Int32) (S : gSt) : Option gSt :=
(if t0 < 0 then
f_X7_readWalker_j67 x1 t0 (0 : Int32) S
else
f_X7_readWalker_j67 x1 t0 (1 : Int32) S)
def f_X7_readWalker (p1 : Int32) (S : gSt) : Option gSt :=
gBind2 (f_X7_here S) fun r24 S22 =>
(if r24 = (112 : Int32) then
f_X7_readWalker_j56 p1 (0 : Int32) S22
else
(if r24 = (115 : Int32) then
f_X7_readWalker_j56 p1 (1 : Int32) S22
else
(if r24 = (104 : Int32) then
f_X7_readWalker_j56 p1 (2 : Int32) S22
else
(if r24 = (107 : Int32) then
f_X7_readWalker_j56 p1 (3 : Int32) S22
else
(if r24 = (111 : Int32) then
f_X7_readWalker_j56 p1 (4 : Int32) S22
else
f_X7_readWalker_j56 p1 (-1 : Int32) S22)))))
set_option maxHeartbeats 4000000 in
set_option maxRecDepth 20000 in
theorem ok_X7_readWalker {p1 : Int32} {S S0 : gSt}  (h : f_X7_readWalker p1 S = some S0) : gCT yX7_readWalker cX7_readWalker 7 none 2 (fun w => [.ref (w.2.1 47), .int p1]) S none S0 := by
  refine gEnter (fun X => [some (.ref (gad X 47)), some (.int p1), none, none, none, none, none]) (by decide) (fun X => ⟨rfl, rfl⟩) (fun w => Nat.le_of_ble_eq_true rfl) (fun X hp => ?_)
  show AW X RX7 2 cX7_readWalker 0 [some (.ref (gad X 47)), some (.int p1), none, none, none, none, none] [] S
  unfold f_X7_readWalker at h
  have J87 : ∀ (x1 : Int32) (x3 : Int32) (t0 : Int32) (t1 : Int32) (S : gSt), f_X7_readWalker_j87 x1 x3 t0 t1 S = some S0 → AW X RX7 2 cX7_readWalker 87 [some (.ref (gad X 47)), some (.int x1), none, some (.int x3), none, none, none] [.int t0, .int t1, .ref (gad X 47)] S := by
    intro x1 x3 t0 t1 S h
    unfold f_X7_readWalker_j87 at h
    refine a_iadd (pc := 87) dX7_readWalker_87 ?_
    refine a_putI (pc := 88) flX7_122 sh_47 rfl rfl rfl dX7_readWalker_88 ?_
    obtain ⟨S1, eS1, h⟩ := g_let h
    refine a_nmS eS1 ?_
    refine a_aloadn (pc := 91) dX7_readWalker_91 rfl rfl ?_
    refine a_iconst (pc := 92) (v := (1 : Int32)) dX7_readWalker_92 (by decide) ?_
    refine a_bipush (pc := 93) (v := (9 : Int32)) dX7_readWalker_93 (by decide) ?_
    obtain ⟨r4, S2, hc3, h⟩ := g_bind2 h
    refine a_invVi (pc := 95) (ok_X7_digit hc3) gyX7_digit vyX7_digit mlX7_136 sh_47 rfl (As := [.int (1 : Int32), .int (9 : Int32)]) rfl rfl (by decide) (st := []) rfl (Nat.le_of_ble_eq_true rfl) dX7_readWalker_95 ?_
    refine a_istore (pc := 98) dX7_readWalker_98 (Nat.le_of_ble_eq_true rfl) rfl (L' := [some (.ref (gad X 47)), some (.int x1), none, some (.int x3), some (.int r4), none, none]) rfl ?_
    refine a_aloadn (pc := 100) dX7_readWalker_100 rfl rfl ?_
    refine a_iconst (pc := 101) (v := (0 : Int32)) dX7_readWalker_101 (by decide) ?_
    refine a_bipush (pc := 102) (v := (7 : Int32)) dX7_readWalker_102 (by decide) ?_
    obtain ⟨r7, S5, hc6, h⟩ := g_bind2 h
    refine a_invVi (pc := 104) (ok_X7_digit hc6) gyX7_digit vyX7_digit mlX7_136 sh_47 rfl (As := [.int (0 : Int32), .int (7 : Int32)]) rfl rfl (by decide) (st := []) rfl (Nat.le_of_ble_eq_true rfl) dX7_readWalker_104 ?_
    refine a_istore (pc := 107) dX7_readWalker_107 (Nat.le_of_ble_eq_true rfl) rfl (L' := [some (.ref (gad X 47)), some (.int x1), none, some (.int x3), some (.int r4), some (.int r7), none]) rfl ?_
    refine a_aloadn (pc := 109) dX7_readWalker_109 rfl rfl ?_
    refine a_iconst (pc := 110) (v := (0 : Int32)) dX7_readWalker_110 (by decide) ?_
    refine a_bipush (pc := 111) (v := (7 : Int32)) dX7_readWalker_111 (by decide) ?_
    obtain ⟨r10, S8, hc9, h⟩ := g_bind2 h
    refine a_invVi (pc := 113) (ok_X7_digit hc9) gyX7_digit vyX7_digit mlX7_136 sh_47 rfl (As := [.int (0 : Int32), .int (7 : Int32)]) rfl rfl (by decide) (st := []) rfl (Nat.le_of_ble_eq_true rfl) dX7_readWalker_113 ?_
    refine a_istore (pc := 116) dX7_readWalker_116 (Nat.le_of_ble_eq_true rfl) rfl (L' := [some (.ref (gad X 47)), some (.int x1), none, some (.int x3), some (.int r4), some (.int r7), some (.int r10)]) rfl ?_
    refine a_aloadn (pc := 118) dX7_readWalker_118 rfl rfl ?_
    refine a_getI (pc := 119) flX7_125 sh_47 rfl dX7_readWalker_119 ?_
    refine a_if_ne (pc := 122) (tgt := 164) dX7_readWalker_122 (by decide) (fun c11 => ?_) (fun c11 => ?_)
    · rw [if_neg c11] at h
      obtain rfl := Option.some.inj h
      exact a_vret hp dX7_readWalker_164
    · rw [if_pos c11] at h
      refine a_aloadn (pc := 125) dX7_readWalker_125 rfl rfl ?_
      refine a_getA (pc := 126) flX7_19 sh_47 rfl dX7_readWalker_126 ?_
      refine a_iconst (pc := 129) (v := (3 : Int32)) dX7_readWalker_129 (by decide) ?_
      refine a_iloadn (pc := 130) dX7_readWalker_130 rfl rfl ?_
      refine a_imul (pc := 131) dX7_readWalker_131 ?_
      refine a_iloadn (pc := 132) dX7_readWalker_132 rfl rfl ?_
      obtain ⟨hi12, h⟩ := g_if h
      refine a_iast (pc := 133) sh_51 hi12 dX7_readWalker_133 ?_
      obtain ⟨S13, eS13, h⟩ := g_let h
      refine a_nmS eS13 ?_
      refine a_aloadn (pc := 134) dX7_readWalker_134 rfl rfl ?_
      refine a_getA (pc := 135) flX7_19 sh_47 rfl dX7_readWalker_135 ?_
      refine a_iconst (pc := 138) (v := (3 : Int32)) dX7_readWalker_138 (by decide) ?_
      refine a_iloadn (pc := 139) dX7_readWalker_139 rfl rfl ?_
      refine a_imul (pc := 140) dX7_readWalker_140 ?_
      refine a_iconst (pc := 141) (v := (1 : Int32)) dX7_readWalker_141 (by decide) ?_
      refine a_iadd (pc := 142) dX7_readWalker_142 ?_
      refine a_iload (pc := 143) dX7_readWalker_143 rfl ?_
      obtain ⟨hi14, h⟩ := g_if h
      refine a_iast (pc := 145) sh_51 hi14 dX7_readWalker_145 ?_
      obtain ⟨S15, eS15, h⟩ := g_let h
      refine a_nmS eS15 ?_
      refine a_aloadn (pc := 146) dX7_readWalker_146 rfl rfl ?_
      refine a_getA (pc := 147) flX7_19 sh_47 rfl dX7_readWalker_147 ?_
      refine a_iconst (pc := 150) (v := (3 : Int32)) dX7_readWalker_150 (by decide) ?_
      refine a_iloadn (pc := 151) dX7_readWalker_151 rfl rfl ?_
      refine a_imul (pc := 152) dX7_readWalker_152 ?_
      refine a_iconst (pc := 153) (v := (2 : Int32)) dX7_readWalker_153 (by decide) ?_
      refine a_iadd (pc := 154) dX7_readWalker_154 ?_
      refine a_bipush (pc := 155) (v := (8 : Int32)) dX7_readWalker_155 (by decide) ?_
      refine a_iload (pc := 157) dX7_readWalker_157 rfl ?_
      refine a_imul (pc := 159) dX7_readWalker_159 ?_
      refine a_iload (pc := 160) dX7_readWalker_160 rfl ?_
      refine a_iadd (pc := 162) dX7_readWalker_162 ?_
      obtain ⟨hi16, h⟩ := g_if h
      refine a_iast (pc := 163) sh_51 hi16 dX7_readWalker_163 ?_
      obtain ⟨S17, eS17, h⟩ := g_let h
      refine a_nmS eS17 ?_
      obtain rfl := Option.some.inj h
      exact a_vret hp dX7_readWalker_164
  have J67 : ∀ (x1 : Int32) (x3 : Int32) (t0 : Int32) (S : gSt), f_X7_readWalker_j67 x1 x3 t0 S = some S0 → AW X RX7 2 cX7_readWalker 67 [some (.ref (gad X 47)), some (.int x1), none, some (.int x3), none, none, none] [.int t0, .ref (gad X 47)] S := by
    intro x1 x3 t0 S h
    unfold f_X7_readWalker_j67 at h
    obtain ⟨S18, hc19, h⟩ := g_bind h
    refine a_invVv (pc := 67) (ok_X7_must hc19) gyX7_must vyX7_must mlX7_132 sh_47 rfl (As := [.int t0]) rfl rfl (by decide) (st := []) rfl (Nat.le_of_ble_eq_true rfl) dX7_readWalker_67 ?_
    refine a_aloadn (pc := 70) dX7_readWalker_70 rfl rfl ?_
    refine a_dup (pc := 71) dX7_readWalker_71 rfl ?_
    refine a_getI (pc := 72) flX7_122 sh_47 rfl dX7_readWalker_72 ?_
    refine a_aloadn (pc := 75) dX7_readWalker_75 rfl rfl ?_
    refine a_getI (pc := 76) flX7_125 sh_47 rfl dX7_readWalker_76 ?_
    refine a_if_eq (pc := 79) (tgt := 86) dX7_readWalker_79 (by decide) (fun c20 => ?_) (fun c20 => ?_)
    · rw [if_pos c20] at h
      refine a_iconst (pc := 86) (v := (1 : Int32)) dX7_readWalker_86 (by decide) ?_
      exact J87 _ _ _ _ _ h
    · rw [if_neg c20] at h
      refine a_iconst (pc := 82) (v := (0 : Int32)) dX7_readWalker_82 (by decide) ?_
      refine a_goto (pc := 83) (tgt := 87) dX7_readWalker_83 (by decide) ?_
      exact J87 _ _ _ _ _ h
  have J56 : ∀ (x1 : Int32) (t0 : Int32) (S : gSt), f_X7_readWalker_j56 x1 t0 S = some S0 → AW X RX7 2 cX7_readWalker 56 [some (.ref (gad X 47)), some (.int x1), none, none, none, none, none] [.int t0] S := by
    intro x1 t0 S h
    unfold f_X7_readWalker_j56 at h
    refine a_istoren (pc := 56) dX7_readWalker_56 rfl (Nat.le_of_ble_eq_true rfl) rfl (L' := [some (.ref (gad X 47)), some (.int x1), none, some (.int t0), none, none, none]) rfl ?_
    refine a_aloadn (pc := 57) dX7_readWalker_57 rfl rfl ?_
    refine a_iloadn (pc := 58) dX7_readWalker_58 rfl rfl ?_
    refine a_if_lt (pc := 59) (tgt := 66) dX7_readWalker_59 (by decide) (fun c21 => ?_) (fun c21 => ?_)
    · rw [if_pos c21] at h
      refine a_iconst (pc := 66) (v := (0 : Int32)) dX7_readWalker_66 (by decide) ?_
      exact J67 _ _ _ _ h
    · rw [if_neg c21] at h
      refine a_iconst (pc := 62) (v := (1 : Int32)) dX7_readWalker_62 (by decide) ?_
      refine a_goto (pc := 63) (tgt := 67) dX7_readWalker_63 (by decide) ?_
      exact J67 _ _ _ _ h
  refine a_aloadn (pc := 0) dX7_readWalker_0 rfl rfl ?_
  obtain ⟨r24, S22, hc23, h⟩ := g_bind2 h
  refine a_invVi (pc := 1) (ok_X7_here hc23) gyX7_here vyX7_here mlX7_129 sh_47 rfl (As := []) rfl rfl (by decide) (st := []) rfl (Nat.le_of_ble_eq_true rfl) dX7_readWalker_1 ?_
  refine a_istoren (pc := 4) dX7_readWalker_4 rfl (Nat.le_of_ble_eq_true rfl) rfl (L' := [some (.ref (gad X 47)), some (.int p1), some (.int r24), none, none, none, none]) rfl ?_
  refine a_iloadn (pc := 5) dX7_readWalker_5 rfl rfl ?_
  refine a_bipush (pc := 6) (v := (112 : Int32)) dX7_readWalker_6 (by decide) ?_
  refine a_icmp_ne (pc := 8) (tgt := 15) dX7_readWalker_8 (by decide) (fun c25 => ?_) (fun c25 => ?_)
  · rw [if_neg c25] at h
    refine a_iloadn (pc := 15) dX7_readWalker_15 rfl rfl ?_
    refine a_bipush (pc := 16) (v := (115 : Int32)) dX7_readWalker_16 (by decide) ?_
    refine a_icmp_ne (pc := 18) (tgt := 25) dX7_readWalker_18 (by decide) (fun c26 => ?_) (fun c26 => ?_)
    · rw [if_neg c26] at h
      refine a_iloadn (pc := 25) dX7_readWalker_25 rfl rfl ?_
      refine a_bipush (pc := 26) (v := (104 : Int32)) dX7_readWalker_26 (by decide) ?_
      refine a_icmp_ne (pc := 28) (tgt := 35) dX7_readWalker_28 (by decide) (fun c27 => ?_) (fun c27 => ?_)
      · rw [if_neg c27] at h
        refine a_iloadn (pc := 35) dX7_readWalker_35 rfl rfl ?_
        refine a_bipush (pc := 36) (v := (107 : Int32)) dX7_readWalker_36 (by decide) ?_
        refine a_icmp_ne (pc := 38) (tgt := 45) dX7_readWalker_38 (by decide) (fun c28 => ?_) (fun c28 => ?_)
        · rw [if_neg c28] at h
          refine a_iloadn (pc := 45) dX7_readWalker_45 rfl rfl ?_
          refine a_bipush (pc := 46) (v := (111 : Int32)) dX7_readWalker_46 (by decide) ?_
          refine a_icmp_ne (pc := 48) (tgt := 55) dX7_readWalker_48 (by decide) (fun c29 => ?_) (fun c29 => ?_)
          · rw [if_neg c29] at h
            refine a_iconst (pc := 55) (v := (-1 : Int32)) dX7_readWalker_55 (by decide) ?_
            refine a_mask [true, true, false, true, true, true, true] (L' := [some (.ref (gad X 47)), some (.int p1), none, none, none, none, none]) rfl ?_
            exact J56 _ _ _ h
          · rw [if_pos c29] at h
            refine a_iconst (pc := 51) (v := (4 : Int32)) dX7_readWalker_51 (by decide) ?_
            refine a_goto (pc := 52) (tgt := 56) dX7_readWalker_52 (by decide) ?_
            refine a_mask [true, true, false, true, true, true, true] (L' := [some (.ref (gad X 47)), some (.int p1), none, none, none, none, none]) rfl ?_
            exact J56 _ _ _ h
        · rw [if_pos c28] at h
          refine a_iconst (pc := 41) (v := (3 : Int32)) dX7_readWalker_41 (by decide) ?_
          refine a_goto (pc := 42) (tgt := 56) dX7_readWalker_42 (by decide) ?_
          refine a_mask [true, true, false, true, true, true, true] (L' := [some (.ref (gad X 47)), some (.int p1), none, none, none, none, none]) rfl ?_
          exact J56 _ _ _ h
      · rw [if_pos c27] at h
        refine a_iconst (pc := 31) (v := (2 : Int32)) dX7_readWalker_31 (by decide) ?_
        refine a_goto (pc := 32) (tgt := 56) dX7_readWalker_32 (by decide) ?_
        refine a_mask [true, true, false, true, true, true, true] (L' := [some (.ref (gad X 47)), some (.int p1), none, none, none, none, none]) rfl ?_
        exact J56 _ _ _ h
    · rw [if_pos c26] at h
      refine a_iconst (pc := 21) (v := (1 : Int32)) dX7_readWalker_21 (by decide) ?_
      refine a_goto (pc := 22) (tgt := 56) dX7_readWalker_22 (by decide) ?_
      refine a_mask [true, true, false, true, true, true, true] (L' := [some (.ref (gad X 47)), some (.int p1), none, none, none, none, none]) rfl ?_
      exact J56 _ _ _ h
  · rw [if_pos c25] at h
    refine a_iconst (pc := 11) (v := (0 : Int32)) dX7_readWalker_11 (by decide) ?_
    refine a_goto (pc := 12) (tgt := 56) dX7_readWalker_12 (by decide) ?_
    refine a_mask [true, true, false, true, true, true, true] (L' := [some (.ref (gad X 47)), some (.int p1), none, none, none, none, none]) rfl ?_
    exact J56 _ _ _ h
theorem dX7_settle_0 : decode cX7_settle 0 = .ok (.aload_n 0, 1) := by decide +kernel
theorem dX7_settle_1 : decode cX7_settle 1 = .ok (.iconst 0, 1) := by decide +kernel
theorem dX7_settle_2 : decode cX7_settle 2 = .ok (.putfield 122, 3) := by decide +kernel
theorem dX7_settle_5 : decode cX7_settle 5 = .ok (.aload_n 0, 1) := by decide +kernel
theorem dX7_settle_6 : decode cX7_settle 6 = .ok (.iconst 0, 1) := by decide +kernel
theorem dX7_settle_7 : decode cX7_settle 7 = .ok (.putfield 125, 3) := by decide +kernel
theorem dX7_settle_10 : decode cX7_settle 10 = .ok (.aload_n 0, 1) := by decide +kernel
theorem dX7_settle_11 : decode cX7_settle 11 = .ok (.iconst 0, 1) := by decide +kernel
theorem dX7_settle_12 : decode cX7_settle 12 = .ok (.bipush 9, 2) := by decide +kernel
theorem dX7_settle_14 : decode cX7_settle 14 = .ok (.invokevirtual 136, 3) := by decide +kernel
theorem dX7_settle_17 : decode cX7_settle 17 = .ok (.istore_n 1, 1) := by decide +kernel
theorem dX7_settle_18 : decode cX7_settle 18 = .ok (.aload_n 0, 1) := by decide +kernel
theorem dX7_settle_19 : decode cX7_settle 19 = .ok (.iconst 0, 1) := by decide +kernel
theorem dX7_settle_20 : decode cX7_settle 20 = .ok (.iconst 3, 1) := by decide +kernel
theorem dX7_settle_21 : decode cX7_settle 21 = .ok (.invokevirtual 136, 3) := by decide +kernel
theorem dX7_settle_24 : decode cX7_settle 24 = .ok (.istore_n 2, 1) := by decide +kernel
theorem dX7_settle_25 : decode cX7_settle 25 = .ok (.aload_n 0, 1) := by decide +kernel
theorem dX7_settle_26 : decode cX7_settle 26 = .ok (.bipush 59, 2) := by decide +kernel
theorem dX7_settle_28 : decode cX7_settle 28 = .ok (.invokevirtual 139, 3) := by decide +kernel
theorem dX7_settle_31 : decode cX7_settle 31 = .ok (.iconst 0, 1) := by decide +kernel
theorem dX7_settle_32 : decode cX7_settle 32 = .ok (.istore_n 3, 1) := by decide +kernel
theorem dX7_settle_33 : decode cX7_settle 33 = .ok (.aload_n 0, 1) := by decide +kernel
theorem dX7_settle_34 : decode cX7_settle 34 = .ok (.getfield 125, 3) := by decide +kernel
theorem dX7_settle_37 : decode cX7_settle 37 = .ok (.ifCond .ne 57, 3) := by decide +kernel
theorem dX7_settle_40 : decode cX7_settle 40 = .ok (.iload_n 3, 1) := by decide +kernel
theorem dX7_settle_41 : decode cX7_settle 41 = .ok (.ifCond .eq 10, 3) := by decide +kernel
theorem dX7_settle_44 : decode cX7_settle 44 = .ok (.aload_n 0, 1) := by decide +kernel
theorem dX7_settle_45 : decode cX7_settle 45 = .ok (.invokevirtual 129, 3) := by decide +kernel
theorem dX7_settle_48 : decode cX7_settle 48 = .ok (.ifCond .eq 46, 3) := by decide +kernel
theorem dX7_settle_51 : decode cX7_settle 51 = .ok (.iload_n 3, 1) := by decide +kernel
theorem dX7_settle_52 : decode cX7_settle 52 = .ok (.ifCond .le 24, 3) := by decide +kernel
theorem dX7_settle_55 : decode cX7_settle 55 = .ok (.aload_n 0, 1) := by decide +kernel
theorem dX7_settle_56 : decode cX7_settle 56 = .ok (.iload_n 3, 1) := by decide +kernel
theorem dX7_settle_57 : decode cX7_settle 57 = .ok (.bipush 6, 2) := by decide +kernel
theorem dX7_settle_59 : decode cX7_settle 59 = .ok (.if_icmp .ge 7, 3) := by decide +kernel
theorem dX7_settle_62 : decode cX7_settle 62 = .ok (.iconst 1, 1) := by decide +kernel
theorem dX7_settle_63 : decode cX7_settle 63 = .ok (.goto 4, 3) := by decide +kernel
theorem dX7_settle_66 : decode cX7_settle 66 = .ok (.iconst 0, 1) := by decide +kernel
theorem dX7_settle_67 : decode cX7_settle 67 = .ok (.invokevirtual 132, 3) := by decide +kernel
theorem dX7_settle_70 : decode cX7_settle 70 = .ok (.aload_n 0, 1) := by decide +kernel
theorem dX7_settle_71 : decode cX7_settle 71 = .ok (.bipush 44, 2) := by decide +kernel
theorem dX7_settle_73 : decode cX7_settle 73 = .ok (.invokevirtual 139, 3) := by decide +kernel
theorem dX7_settle_76 : decode cX7_settle 76 = .ok (.aload_n 0, 1) := by decide +kernel
theorem dX7_settle_77 : decode cX7_settle 77 = .ok (.getfield 125, 3) := by decide +kernel
theorem dX7_settle_80 : decode cX7_settle 80 = .ok (.ifCond .ne 8, 3) := by decide +kernel
theorem dX7_settle_83 : decode cX7_settle 83 = .ok (.aload_n 0, 1) := by decide +kernel
theorem dX7_settle_84 : decode cX7_settle 84 = .ok (.iload_n 3, 1) := by decide +kernel
theorem dX7_settle_85 : decode cX7_settle 85 = .ok (.invokevirtual 143, 3) := by decide +kernel
theorem dX7_settle_88 : decode cX7_settle 88 = .ok (.iinc 3 1, 3) := by decide +kernel
theorem dX7_settle_91 : decode cX7_settle 91 = .ok (.goto (-58), 3) := by decide +kernel
theorem dX7_settle_94 : decode cX7_settle 94 = .ok (.aload_n 0, 1) := by decide +kernel
theorem dX7_settle_95 : decode cX7_settle 95 = .ok (.iconst 0, 1) := by decide +kernel
theorem dX7_settle_96 : decode cX7_settle 96 = .ok (.putfield 119, 3) := by decide +kernel
theorem dX7_settle_99 : decode cX7_settle 99 = .ok (.aload_n 0, 1) := by decide +kernel
theorem dX7_settle_100 : decode cX7_settle 100 = .ok (.getfield 125, 3) := by decide +kernel
theorem dX7_settle_103 : decode cX7_settle 103 = .ok (.ifCond .eq 11, 3) := by decide +kernel
theorem dX7_settle_106 : decode cX7_settle 106 = .ok (.bipush (-20), 2) := by decide +kernel
theorem dX7_settle_108 : decode cX7_settle 108 = .ok (.aload_n 0, 1) := by decide +kernel
theorem dX7_settle_109 : decode cX7_settle 109 = .ok (.getfield 122, 3) := by decide +kernel
theorem dX7_settle_112 : decode cX7_settle 112 = .ok (.isub, 1) := by decide +kernel
theorem dX7_settle_113 : decode cX7_settle 113 = .ok (.ireturn, 1) := by decide +kernel
theorem dX7_settle_114 : decode cX7_settle 114 = .ok (.aload_n 0, 1) := by decide +kernel
theorem dX7_settle_115 : decode cX7_settle 115 = .ok (.getfield 7, 3) := by decide +kernel
theorem dX7_settle_118 : decode cX7_settle 118 = .ok (.iconst 1, 1) := by decide +kernel
theorem dX7_settle_119 : decode cX7_settle 119 = .ok (.iload_n 1, 1) := by decide +kernel
theorem dX7_settle_120 : decode cX7_settle 120 = .ok (.iastore, 1) := by decide +kernel
theorem dX7_settle_121 : decode cX7_settle 121 = .ok (.aload_n 0, 1) := by decide +kernel
theorem dX7_settle_122 : decode cX7_settle 122 = .ok (.getfield 7, 3) := by decide +kernel
theorem dX7_settle_125 : decode cX7_settle 125 = .ok (.iconst 2, 1) := by decide +kernel
theorem dX7_settle_126 : decode cX7_settle 126 = .ok (.iload_n 2, 1) := by decide +kernel
theorem dX7_settle_127 : decode cX7_settle 127 = .ok (.iastore, 1) := by decide +kernel
theorem dX7_settle_128 : decode cX7_settle 128 = .ok (.aload_n 0, 1) := by decide +kernel
theorem dX7_settle_129 : decode cX7_settle 129 = .ok (.getfield 7, 3) := by decide +kernel
theorem dX7_settle_132 : decode cX7_settle 132 = .ok (.bipush 6, 2) := by decide +kernel
theorem dX7_settle_134 : decode cX7_settle 134 = .ok (.iconst 0, 1) := by decide +kernel
theorem dX7_settle_135 : decode cX7_settle 135 = .ok (.iastore, 1) := by decide +kernel
theorem dX7_settle_136 : decode cX7_settle 136 = .ok (.aload_n 0, 1) := by decide +kernel
theorem dX7_settle_137 : decode cX7_settle 137 = .ok (.getfield 7, 3) := by decide +kernel
theorem dX7_settle_140 : decode cX7_settle 140 = .ok (.iconst 5, 1) := by decide +kernel
theorem dX7_settle_141 : decode cX7_settle 141 = .ok (.iload_n 3, 1) := by decide +kernel
theorem dX7_settle_142 : decode cX7_settle 142 = .ok (.iastore, 1) := by decide +kernel
theorem dX7_settle_143 : decode cX7_settle 143 = .ok (.bipush 8, 2) := by decide +kernel
theorem dX7_settle_145 : decode cX7_settle 145 = .ok (.istore 4, 2) := by decide +kernel
theorem dX7_settle_147 : decode cX7_settle 147 = .ok (.iload 4, 2) := by decide +kernel
theorem dX7_settle_149 : decode cX7_settle 149 = .ok (.sipush 416, 3) := by decide +kernel
theorem dX7_settle_152 : decode cX7_settle 152 = .ok (.if_icmp .ge 17, 3) := by decide +kernel
theorem dX7_settle_155 : decode cX7_settle 155 = .ok (.aload_n 0, 1) := by decide +kernel
theorem dX7_settle_156 : decode cX7_settle 156 = .ok (.getfield 7, 3) := by decide +kernel
theorem dX7_settle_159 : decode cX7_settle 159 = .ok (.iload 4, 2) := by decide +kernel
theorem dX7_settle_161 : decode cX7_settle 161 = .ok (.iconst 0, 1) := by decide +kernel
theorem dX7_settle_162 : decode cX7_settle 162 = .ok (.iastore, 1) := by decide +kernel
theorem dX7_settle_163 : decode cX7_settle 163 = .ok (.iinc 4 1, 3) := by decide +kernel
theorem dX7_settle_166 : decode cX7_settle 166 = .ok (.goto (-19), 3) := by decide +kernel
theorem dX7_settle_169 : decode cX7_settle 169 = .ok (.iconst 0, 1) := by decide +kernel
theorem dX7_settle_170 : decode cX7_settle 170 = .ok (.istore 4, 2) := by decide +kernel
theorem dX7_settle_172 : decode cX7_settle 172 = .ok (.iload 4, 2) := by decide +kernel
theorem dX7_settle_174 : decode cX7_settle 174 = .ok (.iload_n 3, 1) := by decide +kernel
theorem dX7_settle_175 : decode cX7_settle 175 = .ok (.if_icmp .ge 51, 3) := by decide +kernel
theorem dX7_settle_178 : decode cX7_settle 178 = .ok (.iconst 0, 1) := by decide +kernel
theorem dX7_settle_179 : decode cX7_settle 179 = .ok (.istore 5, 2) := by decide +kernel
theorem dX7_settle_181 : decode cX7_settle 181 = .ok (.iload 5, 2) := by decide +kernel
theorem dX7_settle_183 : decode cX7_settle 183 = .ok (.iconst 3, 1) := by decide +kernel
theorem dX7_settle_184 : decode cX7_settle 184 = .ok (.if_icmp .ge 36, 3) := by decide +kernel
theorem dX7_settle_187 : decode cX7_settle 187 = .ok (.aload_n 0, 1) := by decide +kernel
theorem dX7_settle_188 : decode cX7_settle 188 = .ok (.getfield 7, 3) := by decide +kernel
theorem dX7_settle_191 : decode cX7_settle 191 = .ok (.bipush 8, 2) := by decide +kernel
theorem dX7_settle_193 : decode cX7_settle 193 = .ok (.iconst 4, 1) := by decide +kernel
theorem dX7_settle_194 : decode cX7_settle 194 = .ok (.iload 4, 2) := by decide +kernel
theorem dX7_settle_196 : decode cX7_settle 196 = .ok (.imul, 1) := by decide +kernel
theorem dX7_settle_197 : decode cX7_settle 197 = .ok (.iadd, 1) := by decide +kernel
theorem dX7_settle_198 : decode cX7_settle 198 = .ok (.iload 5, 2) := by decide +kernel
theorem dX7_settle_200 : decode cX7_settle 200 = .ok (.iadd, 1) := by decide +kernel
theorem dX7_settle_201 : decode cX7_settle 201 = .ok (.aload_n 0, 1) := by decide +kernel
theorem dX7_settle_202 : decode cX7_settle 202 = .ok (.getfield 19, 3) := by decide +kernel
theorem dX7_settle_205 : decode cX7_settle 205 = .ok (.iconst 3, 1) := by decide +kernel
theorem dX7_settle_206 : decode cX7_settle 206 = .ok (.iload 4, 2) := by decide +kernel
theorem dX7_settle_208 : decode cX7_settle 208 = .ok (.imul, 1) := by decide +kernel
theorem dX7_settle_209 : decode cX7_settle 209 = .ok (.iload 5, 2) := by decide +kernel
theorem dX7_settle_211 : decode cX7_settle 211 = .ok (.iadd, 1) := by decide +kernel
theorem dX7_settle_212 : decode cX7_settle 212 = .ok (.iaload, 1) := by decide +kernel
theorem dX7_settle_213 : decode cX7_settle 213 = .ok (.iastore, 1) := by decide +kernel
theorem dX7_settle_214 : decode cX7_settle 214 = .ok (.iinc 5 1, 3) := by decide +kernel
theorem dX7_settle_217 : decode cX7_settle 217 = .ok (.goto (-36), 3) := by decide +kernel
theorem dX7_settle_220 : decode cX7_settle 220 = .ok (.iinc 4 1, 3) := by decide +kernel
theorem dX7_settle_223 : decode cX7_settle 223 = .ok (.goto (-51), 3) := by decide +kernel
theorem dX7_settle_226 : decode cX7_settle 226 = .ok (.aload_n 0, 1) := by decide +kernel
theorem dX7_settle_227 : decode cX7_settle 227 = .ok (.iconst 0, 1) := by decide +kernel
theorem dX7_settle_228 : decode cX7_settle 228 = .ok (.putfield 69, 3) := by decide +kernel
theorem dX7_settle_231 : decode cX7_settle 231 = .ok (.iload_n 3, 1) := by decide +kernel
theorem dX7_settle_232 : decode cX7_settle 232 = .ok (.ireturn, 1) := by decide +kernel
def f_X7_settle_s147_b (x3 : Int32) (x4 : Int32) (S : gSt) : Option ((Int32 × Int32 × gSt) ⊕ (Int32 × gSt)) :=
(if (416 : Int32) ≤ x4 then
some (.inr (x3, S))
else
if gin x4 416 then
gLet (gI S 48 x4.toNatClampNeg (0 : Int32)) fun S13 =>
(some (.inl (x3, x4 + (1 : Int32), S13))) else none)
def f_X7_settle_s147 : (Int32 × Int32 × gSt) → Option ((Int32 × Int32 × gSt) ⊕ (Int32 × gSt)) := fun t => f_X7_settle_s147_b t.1 t.2.1 t.2.2
def f_X7_settle_s181_b (x3 : Int32) (x4 : Int32) (x5 : Int32) (S : gSt) : Option ((Int32 × Int32 × Int32 × gSt) ⊕ (Int32 × Int32 × gSt)) :=
(if (3 : Int32) ≤ x5 then
some (.inr (x3, x4, S))
else
if gin (((3 : Int32) * x4) + x5) 18 then
(if gin (((8 : Int32) + ((4 : Int32) * x4)) + x5) 416 then
gLet (gI S 48 (((8 : Int32) + ((4 : Int32) * x4)) + x5).toNatClampNeg (S.1 51 (((3 : Int32) * x4) + x5).toNatClampNeg)) fun S19 =>
(some (.inl (x3, x4, x5 + (1 : Int32), S19))) else none) else none)
def f_X7_settle_s181 : (Int32 × Int32 × Int32 × gSt) → Option ((Int32 × Int32 × Int32 × gSt) ⊕ (Int32 × Int32 × gSt)) := fun t => f_X7_settle_s181_b t.1 t.2.1 t.2.2.1 t.2.2.2
def f_X7_settle_s172_b (x3 : Int32) (x4 : Int32) (S : gSt) : Option ((Int32 × Int32 × gSt) ⊕ (Int32 × gSt)) :=
(if x3 ≤ x4 then
some (.inr (x3, S))
else
(gLoop (f_X7_settle_s181) gFuel (x3, x4, (0 : Int32), S)).bind fun q20 => match q20 with
| (y3_20, y4_20, S20) =>
some (.inl (y3_20, y4_20 + (1 : Int32), S20)))
def f_X7_settle_s172 : (Int32 × Int32 × gSt) → Option ((Int32 × Int32 × gSt) ⊕ (Int32 × gSt)) := fun t => f_X7_settle_s172_b t.1 t.2.1 t.2.2
def f_X7_settle_j94 (x1 : Int32) (x2 : Int32) (x3 : Int32) (S : gSt) : Option (Int32 × gSt) :=
gLet (gI S 47 3 (0 : Int32)) fun S1 =>
(if (S1.1 47 5) = 0 then
if gin (1 : Int32) 416 then
gLet (gI S1 48 (1 : Int32).toNatClampNeg x1) fun S4 =>
(if gin (2 : Int32) 416 then
gLet (gI S4 48 (2 : Int32).toNatClampNeg x2) fun S6 =>
(if gin (6 : Int32) 416 then
gLet (gI S6 48 (6 : Int32).toNatClampNeg (0 : Int32)) fun S8 =>
(if gin (5 : Int32) 416 then
gLet (gI S8 48 (5 : Int32).toNatClampNeg x3) fun S10 =>
((gLoop (f_X7_settle_s147) gFuel (x3, (8 : Int32), S10)).bind fun q14 => match q14 with
| (y3_14, S14) =>
(gLoop (f_X7_settle_s172) gFuel (y3_14, (0 : Int32), S14)).bind fun q21 => match q21 with
| (y3_21, S21) =>
gLet (gI S21 47 8 (0 : Int32)) fun S22 =>
some (y3_21, S22)) else none) else none) else none) else none
else
some ((-20 : Int32) - (S1.1 47 4), S1))
def f_X7_settle_j76 (x1 : Int32) (x2 : Int32) (x3 : Int32) (S : gSt) : Option ((Int32 × Int32 × Int32 × gSt) ⊕ (Int32 × Int32 × Int32 × gSt)) :=
(if (S.1 47 5) = 0 then
(f_X7_readWalker x3 S).bind fun S34 =>
some (.inl (x1, x2, x3 + (1 : Int32), S34))
else
some (.inl (x1, x2, x3 + (1 : Int32), S)))
def f_X7_settle_j67 (x1 : Int32) (x2 : Int32) (x3 : Int32) (t0 : Int32) (S : gSt) : Option ((Int32 × Int32 × Int32 × gSt) ⊕ (Int32 × Int32 × Int32 × gSt)) :=
(f_X7_must t0 S).bind fun S36 =>
(f_X7_takes (44 : Int32) S36).bind fun S38 =>
f_X7_settle_j76 x1 x2 x3 S38
def f_X7_settle_j51 (x1 : Int32) (x2 : Int32) (x3 : Int32) (S : gSt) : Option ((Int32 × Int32 × Int32 × gSt) ⊕ (Int32 × Int32 × Int32 × gSt)) :=
(if x3 ≤ 0 then
f_X7_settle_j76 x1 x2 x3 S
else
(if (6 : Int32) ≤ x3 then
f_X7_settle_j67 x1 x2 x3 (0 : Int32) S
else
f_X7_settle_j67 x1 x2 x3 (1 : Int32) S))
def f_X7_settle_s33_b (x1 : Int32) (x2 : Int32) (x3 : Int32) (S : gSt) : Option ((Int32 × Int32 × Int32 × gSt) ⊕ (Int32 × Int32 × Int32 × gSt)) :=
(if (S.1 47 5) = 0 then
(if x3 = 0 then
f_X7_settle_j51 x1 x2 x3 S
else
gBind2 (f_X7_here S) fun r46 S44 =>
(if r46 = 0 then
some (.inr (x1, x2, x3, S44))
else
f_X7_settle_j51 x1 x2 x3 S44))
else
some (.inr (x1, x2, x3, S)))
def f_X7_settle_s33 : (Int32 × Int32 × Int32 × gSt) → Option ((Int32 × Int32 × Int32 × gSt) ⊕ (Int32 × Int32 × Int32 × gSt)) := fun t => f_X7_settle_s33_b t.1 t.2.1 t.2.2.1 t.2.2.2
def f_X7_settle (S : gSt) : Option (Int32 × gSt) :=
gLet (gI S 47 4 (0 : Int32)) fun S23 =>
gLet (gI S23 47 5 (0 : Int32)) fun S24 =>
gBind2 (f_X7_digit (0 : Int32) (9 : Int32) S24) fun r27 S25 =>
gBind2 (f_X7_digit (0 : Int32) (3 : Int32) S25) fun r30 S28 =>
(f_X7_takes (59 : Int32) S28).bind fun S31 =>
(gLoop (f_X7_settle_s33) gFuel (r27, r30, (0 : Int32), S31)).bind fun q48 => match q48 with
| (y1_48, y2_48, y3_48, S48) =>
f_X7_settle_j94 y1_48 y2_48 y3_48 S48
set_option maxHeartbeats 4000000 in
set_option maxRecDepth 20000 in
theorem ok_X7_settle {S S0 : gSt} {r0 : Int32}  (h : f_X7_settle S = some (r0, S0)) : gCT yX7_settle cX7_settle 6 (some .int) 3 (fun w => [.ref (w.2.1 47)]) S (some (.int r0)) S0 := by
  refine gEnter (fun X => [some (.ref (gad X 47)), none, none, none, none, none]) (by decide) (fun X => ⟨rfl, rfl⟩) (fun w => Nat.le_of_ble_eq_true rfl) (fun X hp => ?_)
  show AW X RX7 3 cX7_settle 0 [some (.ref (gad X 47)), none, none, none, none, none] [] S
  unfold f_X7_settle at h
  have J94 : ∀ (x1 : Int32) (x2 : Int32) (x3 : Int32) (S : gSt), f_X7_settle_j94 x1 x2 x3 S = some (r0, S0) → AW X RX7 3 cX7_settle 94 [some (.ref (gad X 47)), some (.int x1), some (.int x2), some (.int x3), none, none] [] S := by
    intro x1 x2 x3 S h
    unfold f_X7_settle_j94 at h
    refine a_aloadn (pc := 94) dX7_settle_94 rfl rfl ?_
    refine a_iconst (pc := 95) (v := (0 : Int32)) dX7_settle_95 (by decide) ?_
    refine a_putI (pc := 96) flX7_119 sh_47 rfl rfl rfl dX7_settle_96 ?_
    obtain ⟨S1, eS1, h⟩ := g_let h
    refine a_nmS eS1 ?_
    refine a_aloadn (pc := 99) dX7_settle_99 rfl rfl ?_
    refine a_getI (pc := 100) flX7_125 sh_47 rfl dX7_settle_100 ?_
    refine a_if_eq (pc := 103) (tgt := 114) dX7_settle_103 (by decide) (fun c2 => ?_) (fun c2 => ?_)
    · rw [if_pos c2] at h
      refine a_aloadn (pc := 114) dX7_settle_114 rfl rfl ?_
      refine a_getA (pc := 115) flX7_7 sh_47 rfl dX7_settle_115 ?_
      refine a_iconst (pc := 118) (v := (1 : Int32)) dX7_settle_118 (by decide) ?_
      refine a_iloadn (pc := 119) dX7_settle_119 rfl rfl ?_
      obtain ⟨hi3, h⟩ := g_if h
      refine a_iast (pc := 120) sh_48 hi3 dX7_settle_120 ?_
      obtain ⟨S4, eS4, h⟩ := g_let h
      refine a_nmS eS4 ?_
      refine a_aloadn (pc := 121) dX7_settle_121 rfl rfl ?_
      refine a_getA (pc := 122) flX7_7 sh_47 rfl dX7_settle_122 ?_
      refine a_iconst (pc := 125) (v := (2 : Int32)) dX7_settle_125 (by decide) ?_
      refine a_iloadn (pc := 126) dX7_settle_126 rfl rfl ?_
      obtain ⟨hi5, h⟩ := g_if h
      refine a_iast (pc := 127) sh_48 hi5 dX7_settle_127 ?_
      obtain ⟨S6, eS6, h⟩ := g_let h
      refine a_nmS eS6 ?_
      refine a_aloadn (pc := 128) dX7_settle_128 rfl rfl ?_
      refine a_getA (pc := 129) flX7_7 sh_47 rfl dX7_settle_129 ?_
      refine a_bipush (pc := 132) (v := (6 : Int32)) dX7_settle_132 (by decide) ?_
      refine a_iconst (pc := 134) (v := (0 : Int32)) dX7_settle_134 (by decide) ?_
      obtain ⟨hi7, h⟩ := g_if h
      refine a_iast (pc := 135) sh_48 hi7 dX7_settle_135 ?_
      obtain ⟨S8, eS8, h⟩ := g_let h
      refine a_nmS eS8 ?_
      refine a_aloadn (pc := 136) dX7_settle_136 rfl rfl ?_
      refine a_getA (pc := 137) flX7_7 sh_47 rfl dX7_settle_137 ?_
      refine a_iconst (pc := 140) (v := (5 : Int32)) dX7_settle_140 (by decide) ?_
      refine a_iloadn (pc := 141) dX7_settle_141 rfl rfl ?_
      obtain ⟨hi9, h⟩ := g_if h
      refine a_iast (pc := 142) sh_48 hi9 dX7_settle_142 ?_
      obtain ⟨S10, eS10, h⟩ := g_let h
      refine a_nmS eS10 ?_
      refine a_bipush (pc := 143) (v := (8 : Int32)) dX7_settle_143 (by decide) ?_
      refine a_istore (pc := 145) dX7_settle_145 (Nat.le_of_ble_eq_true rfl) rfl (L' := [some (.ref (gad X 47)), some (.int x1), some (.int x2), some (.int x3), some (.int (8 : Int32)), none]) rfl ?_
      obtain ⟨R14, hR14, h⟩ := g_bind h
      refine a_mask [true, false, false, true, true, true] (L' := [some (.ref (gad X 47)), none, none, some (.int x3), some (.int (8 : Int32)), none]) rfl ?_
      have E147 : ∀ (y3_14 : Int32) (S14 : gSt), ((gLoop (f_X7_settle_s172) gFuel (y3_14, (0 : Int32), S14)).bind fun q21 => match q21 with | (y3_21, S21) => gLet (gI S21 47 8 (0 : Int32)) fun S22 => some (y3_21, S22)) = some (r0, S0) → AW X RX7 3 cX7_settle 169 [some (.ref (gad X 47)), none, none, some (.int y3_14), none, none] [] S14 := by
        intro y3_14 S14 h
        refine a_iconst (pc := 169) (v := (0 : Int32)) dX7_settle_169 (by decide) ?_
        refine a_istore (pc := 170) dX7_settle_170 (Nat.le_of_ble_eq_true rfl) rfl (L' := [some (.ref (gad X 47)), none, none, some (.int y3_14), some (.int (0 : Int32)), none]) rfl ?_
        obtain ⟨R21, hR21, h⟩ := g_bind h
        have E172 : ∀ (y3_21 : Int32) (S21 : gSt), (gLet (gI S21 47 8 (0 : Int32)) fun S22 => some (y3_21, S22)) = some (r0, S0) → AW X RX7 3 cX7_settle 226 [some (.ref (gad X 47)), none, none, some (.int y3_21), none, none] [] S21 := by
          intro y3_21 S21 h
          refine a_aloadn (pc := 226) dX7_settle_226 rfl rfl ?_
          refine a_iconst (pc := 227) (v := (0 : Int32)) dX7_settle_227 (by decide) ?_
          refine a_putI (pc := 228) flX7_69 sh_47 rfl rfl rfl dX7_settle_228 ?_
          obtain ⟨S22, eS22, h⟩ := g_let h
          refine a_nmS eS22 ?_
          refine a_iloadn (pc := 231) dX7_settle_231 rfl rfl ?_
          obtain ⟨rfl, rfl⟩ := Prod.mk.inj (Option.some.inj h)
          exact a_iret hp dX7_settle_232
        have lp : ∀ (n : Nat) (x3 : Int32) (x4 : Int32) (S : gSt), gLoop (f_X7_settle_s172) n (x3, x4, S) = some R21 → AW X RX7 3 cX7_settle 172 [some (.ref (gad X 47)), none, none, some (.int x3), some (.int x4), none] [] S := by
          intro n
          induction n with
          | zero => intro x3 x4 S hR; cases hR
          | succ n ih =>
            intro x3 x4 S hR
            obtain ⟨q, hs, hR⟩ := g_bind hR
            have hs : f_X7_settle_s172_b x3 x4 S = some q := hs
            unfold f_X7_settle_s172_b at hs
            refine a_iload (pc := 172) dX7_settle_172 rfl ?_
            refine a_iloadn (pc := 174) dX7_settle_174 rfl rfl ?_
            refine a_icmp_ge (pc := 175) (tgt := 226) dX7_settle_175 (by decide) (fun c15 => ?_) (fun c15 => ?_)
            · rw [if_pos c15] at hs
              obtain rfl := Option.some.inj hs
              obtain rfl := Option.some.inj hR
              refine a_mask [true, true, true, true, false, true] (L' := [some (.ref (gad X 47)), none, none, some (.int x3), none, none]) rfl ?_
              exact E172 _ _ h
            · rw [if_neg c15] at hs
              refine a_iconst (pc := 178) (v := (0 : Int32)) dX7_settle_178 (by decide) ?_
              refine a_istore (pc := 179) dX7_settle_179 (Nat.le_of_ble_eq_true rfl) rfl (L' := [some (.ref (gad X 47)), none, none, some (.int x3), some (.int x4), some (.int (0 : Int32))]) rfl ?_
              obtain ⟨R20, hR20, hs⟩ := g_bind hs
              have E181 : ∀ (y3_20 : Int32) (y4_20 : Int32) (S20 : gSt), (some (.inl (y3_20, y4_20 + (1 : Int32), S20))) = some q → AW X RX7 3 cX7_settle 220 [some (.ref (gad X 47)), none, none, some (.int y3_20), some (.int y4_20), none] [] S20 := by
                intro y3_20 y4_20 S20 hs
                refine a_iinc (pc := 220) dX7_settle_220 rfl (v := y4_20 + (1 : Int32)) rfl (Nat.le_of_ble_eq_true rfl) rfl (L' := [some (.ref (gad X 47)), none, none, some (.int y3_20), some (.int (y4_20 + (1 : Int32))), none]) rfl ?_
                refine a_goto (pc := 223) (tgt := 172) dX7_settle_223 (by decide) ?_
                obtain rfl := Option.some.inj hs
                exact ih _ _ _ hR
              have lp : ∀ (n : Nat) (x3 : Int32) (x4 : Int32) (x5 : Int32) (S : gSt), gLoop (f_X7_settle_s181) n (x3, x4, x5, S) = some R20 → AW X RX7 3 cX7_settle 181 [some (.ref (gad X 47)), none, none, some (.int x3), some (.int x4), some (.int x5)] [] S := by
                intro n
                induction n with
                | zero => intro x3 x4 x5 S hR; cases hR
                | succ n ih =>
                  intro x3 x4 x5 S hR
                  obtain ⟨q, hs, hR⟩ := g_bind hR
                  have hs : f_X7_settle_s181_b x3 x4 x5 S = some q := hs
                  unfold f_X7_settle_s181_b at hs
                  refine a_iload (pc := 181) dX7_settle_181 rfl ?_
                  refine a_iconst (pc := 183) (v := (3 : Int32)) dX7_settle_183 (by decide) ?_
                  refine a_icmp_ge (pc := 184) (tgt := 220) dX7_settle_184 (by decide) (fun c16 => ?_) (fun c16 => ?_)
                  · rw [if_pos c16] at hs
                    obtain rfl := Option.some.inj hs
                    obtain rfl := Option.some.inj hR
                    refine a_mask [true, true, true, true, true, false] (L' := [some (.ref (gad X 47)), none, none, some (.int x3), some (.int x4), none]) rfl ?_
                    exact E181 _ _ _ hs
                  · rw [if_neg c16] at hs
                    refine a_aloadn (pc := 187) dX7_settle_187 rfl rfl ?_
                    refine a_getA (pc := 188) flX7_7 sh_47 rfl dX7_settle_188 ?_
                    refine a_bipush (pc := 191) (v := (8 : Int32)) dX7_settle_191 (by decide) ?_
                    refine a_iconst (pc := 193) (v := (4 : Int32)) dX7_settle_193 (by decide) ?_
                    refine a_iload (pc := 194) dX7_settle_194 rfl ?_
                    refine a_imul (pc := 196) dX7_settle_196 ?_
                    refine a_iadd (pc := 197) dX7_settle_197 ?_
                    refine a_iload (pc := 198) dX7_settle_198 rfl ?_
                    refine a_iadd (pc := 200) dX7_settle_200 ?_
                    refine a_aloadn (pc := 201) dX7_settle_201 rfl rfl ?_
                    refine a_getA (pc := 202) flX7_19 sh_47 rfl dX7_settle_202 ?_
                    refine a_iconst (pc := 205) (v := (3 : Int32)) dX7_settle_205 (by decide) ?_
                    refine a_iload (pc := 206) dX7_settle_206 rfl ?_
                    refine a_imul (pc := 208) dX7_settle_208 ?_
                    refine a_iload (pc := 209) dX7_settle_209 rfl ?_
                    refine a_iadd (pc := 211) dX7_settle_211 ?_
                    obtain ⟨hi17, hs⟩ := g_if hs
                    refine a_iald (pc := 212) sh_51 hi17 dX7_settle_212 ?_
                    obtain ⟨hi18, hs⟩ := g_if hs
                    refine a_iast (pc := 213) sh_48 hi18 dX7_settle_213 ?_
                    obtain ⟨S19, eS19, hs⟩ := g_let hs
                    refine a_nmS eS19 ?_
                    refine a_iinc (pc := 214) dX7_settle_214 rfl (v := x5 + (1 : Int32)) rfl (Nat.le_of_ble_eq_true rfl) rfl (L' := [some (.ref (gad X 47)), none, none, some (.int x3), some (.int x4), some (.int (x5 + (1 : Int32)))]) rfl ?_
                    refine a_goto (pc := 217) (tgt := 181) dX7_settle_217 (by decide) ?_
                    obtain rfl := Option.some.inj hs
                    exact ih _ _ _ _ hR
              exact lp _ _ _ _ _ hR20
        exact lp _ _ _ _ hR21
      have lp : ∀ (n : Nat) (x3 : Int32) (x4 : Int32) (S : gSt), gLoop (f_X7_settle_s147) n (x3, x4, S) = some R14 → AW X RX7 3 cX7_settle 147 [some (.ref (gad X 47)), none, none, some (.int x3), some (.int x4), none] [] S := by
        intro n
        induction n with
        | zero => intro x3 x4 S hR; cases hR
        | succ n ih =>
          intro x3 x4 S hR
          obtain ⟨q, hs, hR⟩ := g_bind hR
          have hs : f_X7_settle_s147_b x3 x4 S = some q := hs
          unfold f_X7_settle_s147_b at hs
          refine a_iload (pc := 147) dX7_settle_147 rfl ?_
          refine a_sipush (pc := 149) (v := (416 : Int32)) dX7_settle_149 (by decide) ?_
          refine a_icmp_ge (pc := 152) (tgt := 169) dX7_settle_152 (by decide) (fun c11 => ?_) (fun c11 => ?_)
          · rw [if_pos c11] at hs
            obtain rfl := Option.some.inj hs
            obtain rfl := Option.some.inj hR
            refine a_mask [true, true, true, true, false, true] (L' := [some (.ref (gad X 47)), none, none, some (.int x3), none, none]) rfl ?_
            exact E147 _ _ h
          · rw [if_neg c11] at hs
            refine a_aloadn (pc := 155) dX7_settle_155 rfl rfl ?_
            refine a_getA (pc := 156) flX7_7 sh_47 rfl dX7_settle_156 ?_
            refine a_iload (pc := 159) dX7_settle_159 rfl ?_
            refine a_iconst (pc := 161) (v := (0 : Int32)) dX7_settle_161 (by decide) ?_
            obtain ⟨hi12, hs⟩ := g_if hs
            refine a_iast (pc := 162) sh_48 hi12 dX7_settle_162 ?_
            obtain ⟨S13, eS13, hs⟩ := g_let hs
            refine a_nmS eS13 ?_
            refine a_iinc (pc := 163) dX7_settle_163 rfl (v := x4 + (1 : Int32)) rfl (Nat.le_of_ble_eq_true rfl) rfl (L' := [some (.ref (gad X 47)), none, none, some (.int x3), some (.int (x4 + (1 : Int32))), none]) rfl ?_
            refine a_goto (pc := 166) (tgt := 147) dX7_settle_166 (by decide) ?_
            obtain rfl := Option.some.inj hs
            exact ih _ _ _ hR
      exact lp _ _ _ _ hR14
    · rw [if_neg c2] at h
      refine a_bipush (pc := 106) (v := (-20 : Int32)) dX7_settle_106 (by decide) ?_
      refine a_aloadn (pc := 108) dX7_settle_108 rfl rfl ?_
      refine a_getI (pc := 109) flX7_122 sh_47 rfl dX7_settle_109 ?_
      refine a_isub (pc := 112) dX7_settle_112 ?_
      obtain ⟨rfl, rfl⟩ := Prod.mk.inj (Option.some.inj h)
      exact a_iret hp dX7_settle_113
  refine a_aloadn (pc := 0) dX7_settle_0 rfl rfl ?_
  refine a_iconst (pc := 1) (v := (0 : Int32)) dX7_settle_1 (by decide) ?_
  refine a_putI (pc := 2) flX7_122 sh_47 rfl rfl rfl dX7_settle_2 ?_
  obtain ⟨S23, eS23, h⟩ := g_let h
  refine a_nmS eS23 ?_
  refine a_aloadn (pc := 5) dX7_settle_5 rfl rfl ?_
  refine a_iconst (pc := 6) (v := (0 : Int32)) dX7_settle_6 (by decide) ?_
  refine a_putI (pc := 7) flX7_125 sh_47 rfl rfl rfl dX7_settle_7 ?_
  obtain ⟨S24, eS24, h⟩ := g_let h
  refine a_nmS eS24 ?_
  refine a_aloadn (pc := 10) dX7_settle_10 rfl rfl ?_
  refine a_iconst (pc := 11) (v := (0 : Int32)) dX7_settle_11 (by decide) ?_
  refine a_bipush (pc := 12) (v := (9 : Int32)) dX7_settle_12 (by decide) ?_
  obtain ⟨r27, S25, hc26, h⟩ := g_bind2 h
  refine a_invVi (pc := 14) (ok_X7_digit hc26) gyX7_digit vyX7_digit mlX7_136 sh_47 rfl (As := [.int (0 : Int32), .int (9 : Int32)]) rfl rfl (by decide) (st := []) rfl (Nat.le_of_ble_eq_true rfl) dX7_settle_14 ?_
  refine a_istoren (pc := 17) dX7_settle_17 rfl (Nat.le_of_ble_eq_true rfl) rfl (L' := [some (.ref (gad X 47)), some (.int r27), none, none, none, none]) rfl ?_
  refine a_aloadn (pc := 18) dX7_settle_18 rfl rfl ?_
  refine a_iconst (pc := 19) (v := (0 : Int32)) dX7_settle_19 (by decide) ?_
  refine a_iconst (pc := 20) (v := (3 : Int32)) dX7_settle_20 (by decide) ?_
  obtain ⟨r30, S28, hc29, h⟩ := g_bind2 h
  refine a_invVi (pc := 21) (ok_X7_digit hc29) gyX7_digit vyX7_digit mlX7_136 sh_47 rfl (As := [.int (0 : Int32), .int (3 : Int32)]) rfl rfl (by decide) (st := []) rfl (Nat.le_of_ble_eq_true rfl) dX7_settle_21 ?_
  refine a_istoren (pc := 24) dX7_settle_24 rfl (Nat.le_of_ble_eq_true rfl) rfl (L' := [some (.ref (gad X 47)), some (.int r27), some (.int r30), none, none, none]) rfl ?_
  refine a_aloadn (pc := 25) dX7_settle_25 rfl rfl ?_
  refine a_bipush (pc := 26) (v := (59 : Int32)) dX7_settle_26 (by decide) ?_
  obtain ⟨S31, hc32, h⟩ := g_bind h
  refine a_invVv (pc := 28) (ok_X7_takes hc32) gyX7_takes vyX7_takes mlX7_139 sh_47 rfl (As := [.int (59 : Int32)]) rfl rfl (by decide) (st := []) rfl (Nat.le_of_ble_eq_true rfl) dX7_settle_28 ?_
  refine a_iconst (pc := 31) (v := (0 : Int32)) dX7_settle_31 (by decide) ?_
  refine a_istoren (pc := 32) dX7_settle_32 rfl (Nat.le_of_ble_eq_true rfl) rfl (L' := [some (.ref (gad X 47)), some (.int r27), some (.int r30), some (.int (0 : Int32)), none, none]) rfl ?_
  obtain ⟨R48, hR48, h⟩ := g_bind h
  have E33 : ∀ (y1_48 : Int32) (y2_48 : Int32) (y3_48 : Int32) (S48 : gSt), (f_X7_settle_j94 y1_48 y2_48 y3_48 S48) = some (r0, S0) → AW X RX7 3 cX7_settle 94 [some (.ref (gad X 47)), some (.int y1_48), some (.int y2_48), some (.int y3_48), none, none] [] S48 := by
    intro y1_48 y2_48 y3_48 S48 h
    exact J94 _ _ _ _ h
  have lp : ∀ (n : Nat) (x1 : Int32) (x2 : Int32) (x3 : Int32) (S : gSt), gLoop (f_X7_settle_s33) n (x1, x2, x3, S) = some R48 → AW X RX7 3 cX7_settle 33 [some (.ref (gad X 47)), some (.int x1), some (.int x2), some (.int x3), none, none] [] S := by
    intro n
    induction n with
    | zero => intro x1 x2 x3 S hR; cases hR
    | succ n ih =>
      intro x1 x2 x3 S hR
      obtain ⟨q, hs, hR⟩ := g_bind hR
      have hs : f_X7_settle_s33_b x1 x2 x3 S = some q := hs
      unfold f_X7_settle_s33_b at hs
      have J76 : ∀ (x1 : Int32) (x2 : Int32) (x3 : Int32) (S : gSt), f_X7_settle_j76 x1 x2 x3 S = some q → AW X RX7 3 cX7_settle 76 [some (.ref (gad X 47)), some (.int x1), some (.int x2), some (.int x3), none, none] [] S := by
        intro x1 x2 x3 S hs
        unfold f_X7_settle_j76 at hs
        refine a_aloadn (pc := 76) dX7_settle_76 rfl rfl ?_
        refine a_getI (pc := 77) flX7_125 sh_47 rfl dX7_settle_77 ?_
        refine a_if_ne (pc := 80) (tgt := 88) dX7_settle_80 (by decide) (fun c33 => ?_) (fun c33 => ?_)
        · rw [if_neg c33] at hs
          refine a_iinc (pc := 88) dX7_settle_88 rfl (v := x3 + (1 : Int32)) rfl (Nat.le_of_ble_eq_true rfl) rfl (L' := [some (.ref (gad X 47)), some (.int x1), some (.int x2), some (.int (x3 + (1 : Int32))), none, none]) rfl ?_
          refine a_goto (pc := 91) (tgt := 33) dX7_settle_91 (by decide) ?_
          obtain rfl := Option.some.inj hs
          exact ih _ _ _ _ hR
        · rw [if_pos c33] at hs
          refine a_aloadn (pc := 83) dX7_settle_83 rfl rfl ?_
          refine a_iloadn (pc := 84) dX7_settle_84 rfl rfl ?_
          obtain ⟨S34, hc35, hs⟩ := g_bind hs
          refine a_invVv (pc := 85) (ok_X7_readWalker hc35) gyX7_readWalker vyX7_readWalker mlX7_143 sh_47 rfl (As := [.int x3]) rfl rfl (by decide) (st := []) rfl (Nat.le_of_ble_eq_true rfl) dX7_settle_85 ?_
          refine a_iinc (pc := 88) dX7_settle_88 rfl (v := x3 + (1 : Int32)) rfl (Nat.le_of_ble_eq_true rfl) rfl (L' := [some (.ref (gad X 47)), some (.int x1), some (.int x2), some (.int (x3 + (1 : Int32))), none, none]) rfl ?_
          refine a_goto (pc := 91) (tgt := 33) dX7_settle_91 (by decide) ?_
          obtain rfl := Option.some.inj hs
          exact ih _ _ _ _ hR
      have J67 : ∀ (x1 : Int32) (x2 : Int32) (x3 : Int32) (t0 : Int32) (S : gSt), f_X7_settle_j67 x1 x2 x3 t0 S = some q → AW X RX7 3 cX7_settle 67 [some (.ref (gad X 47)), some (.int x1), some (.int x2), some (.int x3), none, none] [.int t0, .ref (gad X 47)] S := by
        intro x1 x2 x3 t0 S hs
        unfold f_X7_settle_j67 at hs
        obtain ⟨S36, hc37, hs⟩ := g_bind hs
        refine a_invVv (pc := 67) (ok_X7_must hc37) gyX7_must vyX7_must mlX7_132 sh_47 rfl (As := [.int t0]) rfl rfl (by decide) (st := []) rfl (Nat.le_of_ble_eq_true rfl) dX7_settle_67 ?_
        refine a_aloadn (pc := 70) dX7_settle_70 rfl rfl ?_
        refine a_bipush (pc := 71) (v := (44 : Int32)) dX7_settle_71 (by decide) ?_
        obtain ⟨S38, hc39, hs⟩ := g_bind hs
        refine a_invVv (pc := 73) (ok_X7_takes hc39) gyX7_takes vyX7_takes mlX7_139 sh_47 rfl (As := [.int (44 : Int32)]) rfl rfl (by decide) (st := []) rfl (Nat.le_of_ble_eq_true rfl) dX7_settle_73 ?_
        exact J76 _ _ _ _ hs
      have J51 : ∀ (x1 : Int32) (x2 : Int32) (x3 : Int32) (S : gSt), f_X7_settle_j51 x1 x2 x3 S = some q → AW X RX7 3 cX7_settle 51 [some (.ref (gad X 47)), some (.int x1), some (.int x2), some (.int x3), none, none] [] S := by
        intro x1 x2 x3 S hs
        unfold f_X7_settle_j51 at hs
        refine a_iloadn (pc := 51) dX7_settle_51 rfl rfl ?_
        refine a_if_le (pc := 52) (tgt := 76) dX7_settle_52 (by decide) (fun c40 => ?_) (fun c40 => ?_)
        · rw [if_pos c40] at hs
          exact J76 _ _ _ _ hs
        · rw [if_neg c40] at hs
          refine a_aloadn (pc := 55) dX7_settle_55 rfl rfl ?_
          refine a_iloadn (pc := 56) dX7_settle_56 rfl rfl ?_
          refine a_bipush (pc := 57) (v := (6 : Int32)) dX7_settle_57 (by decide) ?_
          refine a_icmp_ge (pc := 59) (tgt := 66) dX7_settle_59 (by decide) (fun c41 => ?_) (fun c41 => ?_)
          · rw [if_pos c41] at hs
            refine a_iconst (pc := 66) (v := (0 : Int32)) dX7_settle_66 (by decide) ?_
            exact J67 _ _ _ _ _ hs
          · rw [if_neg c41] at hs
            refine a_iconst (pc := 62) (v := (1 : Int32)) dX7_settle_62 (by decide) ?_
            refine a_goto (pc := 63) (tgt := 67) dX7_settle_63 (by decide) ?_
            exact J67 _ _ _ _ _ hs
      refine a_aloadn (pc := 33) dX7_settle_33 rfl rfl ?_
      refine a_getI (pc := 34) flX7_125 sh_47 rfl dX7_settle_34 ?_
      refine a_if_ne (pc := 37) (tgt := 94) dX7_settle_37 (by decide) (fun c42 => ?_) (fun c42 => ?_)
      · rw [if_neg c42] at hs
        obtain rfl := Option.some.inj hs
        obtain rfl := Option.some.inj hR
        exact E33 _ _ _ _ h
      · rw [if_pos c42] at hs
        refine a_iloadn (pc := 40) dX7_settle_40 rfl rfl ?_
        refine a_if_eq (pc := 41) (tgt := 51) dX7_settle_41 (by decide) (fun c43 => ?_) (fun c43 => ?_)
        · rw [if_pos c43] at hs
          exact J51 _ _ _ _ hs
        · rw [if_neg c43] at hs
          refine a_aloadn (pc := 44) dX7_settle_44 rfl rfl ?_
          obtain ⟨r46, S44, hc45, hs⟩ := g_bind2 hs
          refine a_invVi (pc := 45) (ok_X7_here hc45) gyX7_here vyX7_here mlX7_129 sh_47 rfl (As := []) rfl rfl (by decide) (st := []) rfl (Nat.le_of_ble_eq_true rfl) dX7_settle_45 ?_
          refine a_if_eq (pc := 48) (tgt := 94) dX7_settle_48 (by decide) (fun c47 => ?_) (fun c47 => ?_)
          · rw [if_pos c47] at hs
            obtain rfl := Option.some.inj hs
            obtain rfl := Option.some.inj hR
            exact E33 _ _ _ _ h
          · rw [if_neg c47] at hs
            exact J51 _ _ _ _ hs
  exact lp _ _ _ _ _ hR48
