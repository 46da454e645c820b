theorem dX6_isle_0 : decode cX6_isle 0 = .ok (.iload_n 1, 1) := by decide +kernel
theorem dX6_isle_1 : decode cX6_isle 1 = .ok (.ifCond .lt 26, 3) := by decide +kernel
theorem dX6_isle_4 : decode cX6_isle 4 = .ok (.iload_n 1, 1) := by decide +kernel
theorem dX6_isle_5 : decode cX6_isle 5 = .ok (.iconst 4, 1) := by decide +kernel
theorem dX6_isle_6 : decode cX6_isle 6 = .ok (.if_icmp .gt 21, 3) := by decide +kernel
theorem dX6_isle_9 : decode cX6_isle 9 = .ok (.iload_n 2, 1) := by decide +kernel
theorem dX6_isle_10 : decode cX6_isle 10 = .ok (.getstatic 102, 3) := by decide +kernel
theorem dX6_isle_13 : decode cX6_isle 13 = .ok (.iload_n 1, 1) := by decide +kernel
theorem dX6_isle_14 : decode cX6_isle 14 = .ok (.iaload, 1) := by decide +kernel
theorem dX6_isle_15 : decode cX6_isle 15 = .ok (.if_icmp .lt 12, 3) := by decide +kernel
theorem dX6_isle_18 : decode cX6_isle 18 = .ok (.iload_n 2, 1) := by decide +kernel
theorem dX6_isle_19 : decode cX6_isle 19 = .ok (.getstatic 105, 3) := by decide +kernel
theorem dX6_isle_22 : decode cX6_isle 22 = .ok (.iload_n 1, 1) := by decide +kernel
theorem dX6_isle_23 : decode cX6_isle 23 = .ok (.iaload, 1) := by decide +kernel
theorem dX6_isle_24 : decode cX6_isle 24 = .ok (.if_icmp .le 5, 3) := by decide +kernel
theorem dX6_isle_27 : decode cX6_isle 27 = .ok (.iconst (-1), 1) := by decide +kernel
theorem dX6_isle_28 : decode cX6_isle 28 = .ok (.ireturn, 1) := by decide +kernel
theorem dX6_isle_29 : decode cX6_isle 29 = .ok (.aload_n 0, 1) := by decide +kernel
theorem dX6_isle_30 : decode cX6_isle 30 = .ok (.getfield 12, 3) := by decide +kernel
theorem dX6_isle_33 : decode cX6_isle 33 = .ok (.getfield 108, 3) := by decide +kernel
theorem dX6_isle_36 : decode cX6_isle 36 = .ok (.iload_n 1, 1) := by decide +kernel
theorem dX6_isle_37 : decode cX6_isle 37 = .ok (.iaload, 1) := by decide +kernel
theorem dX6_isle_38 : decode cX6_isle 38 = .ok (.istore_n 3, 1) := by decide +kernel
theorem dX6_isle_39 : decode cX6_isle 39 = .ok (.aload_n 0, 1) := by decide +kernel
theorem dX6_isle_40 : decode cX6_isle 40 = .ok (.getfield 12, 3) := by decide +kernel
theorem dX6_isle_43 : decode cX6_isle 43 = .ok (.getfield 108, 3) := by decide +kernel
theorem dX6_isle_46 : decode cX6_isle 46 = .ok (.iload_n 1, 1) := by decide +kernel
theorem dX6_isle_47 : decode cX6_isle 47 = .ok (.iload_n 2, 1) := by decide +kernel
theorem dX6_isle_48 : decode cX6_isle 48 = .ok (.iastore, 1) := by decide +kernel
theorem dX6_isle_49 : decode cX6_isle 49 = .ok (.iload_n 3, 1) := by decide +kernel
theorem dX6_isle_50 : decode cX6_isle 50 = .ok (.ireturn, 1) := by decide +kernel
def f_X6_isle (p1 : Int32) (p2 : Int32) (S : gSt) : Option (Int32 × gSt) :=
(if p1 < 0 then
some ((-1 : Int32), S)
else
(if (4 : Int32) < p1 then
some ((-1 : Int32), S)
else
if gin p1 5 then
((if p2 < (([0, 0, 0, 2, 0] : List Int32).getD p1.toNatClampNeg 0) then
some ((-1 : Int32), S)
else
if gin p1 5 then
((if p2 ≤ (([8, 9, 3, 12, 8] : List Int32).getD p1.toNatClampNeg 0) then
if gin p1 5 then
(gLet (S.1 2 p1.toNatClampNeg) fun v8 =>
if gin p1 5 then
gLet (gI S 2 p1.toNatClampNeg p2) fun S10 =>
(some (v8, S10)) else none) else none
else
some ((-1 : Int32), S))) else none)) else none))
set_option maxHeartbeats 4000000 in
set_option maxRecDepth 20000 in
theorem ok_X6_isle {p1 : Int32} {p2 : Int32} {S S0 : gSt} {r0 : Int32}  (h : f_X6_isle p1 p2 S = some (r0, S0)) : gCT yX6_isle cX6_isle 4 (some .int) 0 (fun w => [.ref (w.2.1 0), .int p1, .int p2]) S (some (.int r0)) S0 := by
  refine gEnter (fun X => [some (.ref (gad X 0)), some (.int p1), some (.int p2), none]) (by decide) (fun X => ⟨rfl, rfl⟩) (fun w => Nat.le_of_ble_eq_true rfl) (fun X hp => ?_)
  show AW X RX6 0 cX6_isle 0 [some (.ref (gad X 0)), some (.int p1), some (.int p2), none] [] S
  unfold f_X6_isle at h
  refine a_iloadn (pc := 0) dX6_isle_0 rfl rfl ?_
  refine a_if_lt (pc := 1) (tgt := 27) dX6_isle_1 (by decide) (fun c1 => ?_) (fun c1 => ?_)
  · rw [if_pos c1] at h
    refine a_iconst (pc := 27) (v := (-1 : Int32)) dX6_isle_27 (by decide) ?_
    obtain ⟨rfl, rfl⟩ := Prod.mk.inj (Option.some.inj h)
    exact a_iret hp dX6_isle_28
  · rw [if_neg c1] at h
    refine a_iloadn (pc := 4) dX6_isle_4 rfl rfl ?_
    refine a_iconst (pc := 5) (v := (4 : Int32)) dX6_isle_5 (by decide) ?_
    refine a_icmp_gt (pc := 6) (tgt := 27) dX6_isle_6 (by decide) (fun c2 => ?_) (fun c2 => ?_)
    · rw [if_pos c2] at h
      refine a_iconst (pc := 27) (v := (-1 : Int32)) dX6_isle_27 (by decide) ?_
      obtain ⟨rfl, rfl⟩ := Prod.mk.inj (Option.some.inj h)
      exact a_iret hp dX6_isle_28
    · rw [if_neg c2] at h
      refine a_iloadn (pc := 9) dX6_isle_9 rfl rfl ?_
      refine a_gets0 (ref := "") (pc := 10) fsX6_102 dX6_isle_10 ?_
      refine a_iloadn (pc := 13) dX6_isle_13 rfl rfl ?_
      obtain ⟨hi3, h⟩ := g_if h
      refine a_sald0 (pc := 14) hi3 dX6_isle_14 ?_
      refine a_icmp_lt (pc := 15) (tgt := 27) dX6_isle_15 (by decide) (fun c4 => ?_) (fun c4 => ?_)
      · rw [if_pos c4] at h
        refine a_iconst (pc := 27) (v := (-1 : Int32)) dX6_isle_27 (by decide) ?_
        obtain ⟨rfl, rfl⟩ := Prod.mk.inj (Option.some.inj h)
        exact a_iret hp dX6_isle_28
      · rw [if_neg c4] at h
        refine a_iloadn (pc := 18) dX6_isle_18 rfl rfl ?_
        refine a_gets1 (ref := "") (pc := 19) fsX6_105 dX6_isle_19 ?_
        refine a_iloadn (pc := 22) dX6_isle_22 rfl rfl ?_
        obtain ⟨hi5, h⟩ := g_if h
        refine a_sald1 (pc := 23) hi5 dX6_isle_23 ?_
        refine a_icmp_le (pc := 24) (tgt := 29) dX6_isle_24 (by decide) (fun c6 => ?_) (fun c6 => ?_)
        · rw [if_pos c6] at h
          refine a_aloadn (pc := 29) dX6_isle_29 rfl rfl ?_
          refine a_getA (pc := 30) flX6_12 sh_0 rfl dX6_isle_30 ?_
          refine a_getA (pc := 33) flX6_108 sh_1 rfl dX6_isle_33 ?_
          refine a_iloadn (pc := 36) dX6_isle_36 rfl rfl ?_
          obtain ⟨hi7, h⟩ := g_if h
          refine a_iald (pc := 37) sh_2 hi7 dX6_isle_37 ?_
          obtain ⟨v8, ev8, h⟩ := g_let h
          refine a_nmI ev8 ?_
          refine a_istoren (pc := 38) dX6_isle_38 rfl (Nat.le_of_ble_eq_true rfl) rfl (L' := [some (.ref (gad X 0)), some (.int p1), some (.int p2), some (.int v8)]) rfl ?_
          refine a_aloadn (pc := 39) dX6_isle_39 rfl rfl ?_
          refine a_getA (pc := 40) flX6_12 sh_0 rfl dX6_isle_40 ?_
          refine a_getA (pc := 43) flX6_108 sh_1 rfl dX6_isle_43 ?_
          refine a_iloadn (pc := 46) dX6_isle_46 rfl rfl ?_
          refine a_iloadn (pc := 47) dX6_isle_47 rfl rfl ?_
          obtain ⟨hi9, h⟩ := g_if h
          refine a_iast (pc := 48) sh_2 hi9 dX6_isle_48 ?_
          obtain ⟨S10, eS10, h⟩ := g_let h
          refine a_nmS eS10 ?_
          refine a_iloadn (pc := 49) dX6_isle_49 rfl rfl ?_
          obtain ⟨rfl, rfl⟩ := Prod.mk.inj (Option.some.inj h)
          exact a_iret hp dX6_isle_50
        · rw [if_neg c6] at h
          refine a_iconst (pc := 27) (v := (-1 : Int32)) dX6_isle_27 (by decide) ?_
          obtain ⟨rfl, rfl⟩ := Prod.mk.inj (Option.some.inj h)
          exact a_iret hp dX6_isle_28
theorem dX6_print_0 : decode cX6_print 0 = .ok (.aload_n 0, 1) := by decide +kernel
theorem dX6_print_1 : decode cX6_print 1 = .ok (.getfield 12, 3) := by decide +kernel
theorem dX6_print_4 : decode cX6_print 4 = .ok (.iload_n 1, 1) := by decide +kernel
theorem dX6_print_5 : decode cX6_print 5 = .ok (.invokevirtual 72, 3) := by decide +kernel
theorem dX6_print_8 : decode cX6_print 8 = .ok (.ifCond .eq 10, 3) := by decide +kernel
theorem dX6_print_11 : decode cX6_print 11 = .ok (.iload_n 2, 1) := by decide +kernel
theorem dX6_print_12 : decode cX6_print 12 = .ok (.invokestatic 51, 3) := by decide +kernel
theorem dX6_print_15 : decode cX6_print 15 = .ok (.ifCond .ne 5, 3) := by decide +kernel
theorem dX6_print_18 : decode cX6_print 18 = .ok (.iconst (-1), 1) := by decide +kernel
theorem dX6_print_19 : decode cX6_print 19 = .ok (.ireturn, 1) := by decide +kernel
theorem dX6_print_20 : decode cX6_print 20 = .ok (.aload_n 0, 1) := by decide +kernel
theorem dX6_print_21 : decode cX6_print 21 = .ok (.getfield 12, 3) := by decide +kernel
theorem dX6_print_24 : decode cX6_print 24 = .ok (.getfield 111, 3) := by decide +kernel
theorem dX6_print_27 : decode cX6_print 27 = .ok (.iload_n 1, 1) := by decide +kernel
theorem dX6_print_28 : decode cX6_print 28 = .ok (.bipush 64, 2) := by decide +kernel
theorem dX6_print_30 : decode cX6_print 30 = .ok (.imul, 1) := by decide +kernel
theorem dX6_print_31 : decode cX6_print 31 = .ok (.iload_n 2, 1) := by decide +kernel
theorem dX6_print_32 : decode cX6_print 32 = .ok (.iadd, 1) := by decide +kernel
theorem dX6_print_33 : decode cX6_print 33 = .ok (.iaload, 1) := by decide +kernel
theorem dX6_print_34 : decode cX6_print 34 = .ok (.ireturn, 1) := by decide +kernel
def f_X6_print (p1 : Int32) (p2 : Int32) (S : gSt) : Option (Int32 × gSt) :=
gBind2 (f_X0_has p1 S) fun r3 S1 =>
(if r3 = 0 then
some ((-1 : Int32), S1)
else
gBind2 (f_X6_isCell p2 S1) fun r7 S5 =>
(if r7 = 0 then
some ((-1 : Int32), S5)
else
if gin ((p1 * (64 : Int32)) + p2) 384 then
(some (S5.1 7 ((p1 * (64 : Int32)) + p2).toNatClampNeg, S5)) else none))
set_option maxHeartbeats 4000000 in
set_option maxRecDepth 20000 in
theorem ok_X6_print {p1 : Int32} {p2 : Int32} {S S0 : gSt} {r0 : Int32}  (h : f_X6_print p1 p2 S = some (r0, S0)) : gCT yX6_print cX6_print 3 (some .int) 1 (fun w => [.ref (w.2.1 0), .int p1, .int p2]) S (some (.int r0)) S0 := by
  refine gEnter (fun X => [some (.ref (gad X 0)), some (.int p1), some (.int p2)]) (by decide) (fun X => ⟨rfl, rfl⟩) (fun w => Nat.le_of_ble_eq_true rfl) (fun X hp => ?_)
  show AW X RX6 1 cX6_print 0 [some (.ref (gad X 0)), some (.int p1), some (.int p2)] [] S
  unfold f_X6_print at h
  refine a_aloadn (pc := 0) dX6_print_0 rfl rfl ?_
  refine a_getA (pc := 1) flX6_12 sh_0 rfl dX6_print_1 ?_
  refine a_iloadn (pc := 4) dX6_print_4 rfl rfl ?_
  obtain ⟨r3, S1, hc2, h⟩ := g_bind2 h
  refine a_invVi (pc := 5) (ok_X0_has hc2) gyX0_has vyX0_has mlX6_72 sh_1 rfl (As := [.int p1]) rfl rfl (by decide) (st := []) rfl (Nat.le_of_ble_eq_true rfl) dX6_print_5 ?_
  refine a_if_eq (pc := 8) (tgt := 18) dX6_print_8 (by decide) (fun c4 => ?_) (fun c4 => ?_)
  · rw [if_pos c4] at h
    refine a_iconst (pc := 18) (v := (-1 : Int32)) dX6_print_18 (by decide) ?_
    obtain ⟨rfl, rfl⟩ := Prod.mk.inj (Option.some.inj h)
    exact a_iret hp dX6_print_19
  · rw [if_neg c4] at h
    refine a_iloadn (pc := 11) dX6_print_11 rfl rfl ?_
    obtain ⟨r7, S5, hc6, h⟩ := g_bind2 h
    refine a_invSi (pc := 12) (ok_X6_isCell hc6) gyX6_isCell syX6_isCell mlX6_51 (As := [.int p2]) rfl rfl (by decide) (st := []) rfl (Nat.le_of_ble_eq_true rfl) dX6_print_12 ?_
    refine a_if_ne (pc := 15) (tgt := 20) dX6_print_15 (by decide) (fun c8 => ?_) (fun c8 => ?_)
    · rw [if_neg c8] at h
      refine a_aloadn (pc := 20) dX6_print_20 rfl rfl ?_
      refine a_getA (pc := 21) flX6_12 sh_0 rfl dX6_print_21 ?_
      refine a_getA (pc := 24) flX6_111 sh_1 rfl dX6_print_24 ?_
      refine a_iloadn (pc := 27) dX6_print_27 rfl rfl ?_
      refine a_bipush (pc := 28) (v := (64 : Int32)) dX6_print_28 (by decide) ?_
      refine a_imul (pc := 30) dX6_print_30 ?_
      refine a_iloadn (pc := 31) dX6_print_31 rfl rfl ?_
      refine a_iadd (pc := 32) dX6_print_32 ?_
      obtain ⟨hi9, h⟩ := g_if h
      refine a_iald (pc := 33) sh_7 hi9 dX6_print_33 ?_
      obtain ⟨rfl, rfl⟩ := Prod.mk.inj (Option.some.inj h)
      exact a_iret hp dX6_print_34
    · rw [if_pos c8] at h
      refine a_iconst (pc := 18) (v := (-1 : Int32)) dX6_print_18 (by decide) ?_
      obtain ⟨rfl, rfl⟩ := Prod.mk.inj (Option.some.inj h)
      exact a_iret hp dX6_print_19
theorem dX6_claim_0 : decode cX6_claim 0 = .ok (.aload_n 0, 1) := by decide +kernel
theorem dX6_claim_1 : decode cX6_claim 1 = .ok (.getfield 12, 3) := by decide +kernel
theorem dX6_claim_4 : decode cX6_claim 4 = .ok (.iload_n 1, 1) := by decide +kernel
theorem dX6_claim_5 : decode cX6_claim 5 = .ok (.invokevirtual 72, 3) := by decide +kernel
theorem dX6_claim_8 : decode cX6_claim 8 = .ok (.ifCond .eq 10, 3) := by decide +kernel
theorem dX6_claim_11 : decode cX6_claim 11 = .ok (.iload_n 2, 1) := by decide +kernel
theorem dX6_claim_12 : decode cX6_claim 12 = .ok (.invokestatic 51, 3) := by decide +kernel
theorem dX6_claim_15 : decode cX6_claim 15 = .ok (.ifCond .ne 5, 3) := by decide +kernel
theorem dX6_claim_18 : decode cX6_claim 18 = .ok (.iconst (-1), 1) := by decide +kernel
theorem dX6_claim_19 : decode cX6_claim 19 = .ok (.ireturn, 1) := by decide +kernel
theorem dX6_claim_20 : decode cX6_claim 20 = .ok (.aload_n 0, 1) := by decide +kernel
theorem dX6_claim_21 : decode cX6_claim 21 = .ok (.getfield 39, 3) := by decide +kernel
theorem dX6_claim_24 : decode cX6_claim 24 = .ok (.aload_n 0, 1) := by decide +kernel
theorem dX6_claim_25 : decode cX6_claim 25 = .ok (.getfield 12, 3) := by decide +kernel
theorem dX6_claim_28 : decode cX6_claim 28 = .ok (.iconst 0, 1) := by decide +kernel
theorem dX6_claim_29 : decode cX6_claim 29 = .ok (.invokevirtual 95, 3) := by decide +kernel
theorem dX6_claim_32 : decode cX6_claim 32 = .ok (.aload_n 0, 1) := by decide +kernel
theorem dX6_claim_33 : decode cX6_claim 33 = .ok (.getfield 39, 3) := by decide +kernel
theorem dX6_claim_36 : decode cX6_claim 36 = .ok (.getfield 114, 3) := by decide +kernel
theorem dX6_claim_39 : decode cX6_claim 39 = .ok (.iload_n 1, 1) := by decide +kernel
theorem dX6_claim_40 : decode cX6_claim 40 = .ok (.bipush 64, 2) := by decide +kernel
theorem dX6_claim_42 : decode cX6_claim 42 = .ok (.imul, 1) := by decide +kernel
theorem dX6_claim_43 : decode cX6_claim 43 = .ok (.iload_n 2, 1) := by decide +kernel
theorem dX6_claim_44 : decode cX6_claim 44 = .ok (.iadd, 1) := by decide +kernel
theorem dX6_claim_45 : decode cX6_claim 45 = .ok (.iaload, 1) := by decide +kernel
theorem dX6_claim_46 : decode cX6_claim 46 = .ok (.ireturn, 1) := by decide +kernel
def f_X6_claim (p1 : Int32) (p2 : Int32) (S : gSt) : Option (Int32 × gSt) :=
gBind2 (f_X0_has p1 S) fun r3 S1 =>
(if r3 = 0 then
some ((-1 : Int32), S1)
else
gBind2 (f_X6_isCell p2 S1) fun r7 S5 =>
(if r7 = 0 then
some ((-1 : Int32), S5)
else
(f_X3_look (0 : Int32) S5).bind fun S9 =>
if gin ((p1 * (64 : Int32)) + p2) 384 then
(some (S9.1 42 ((p1 * (64 : Int32)) + p2).toNatClampNeg, S9)) else none))
set_option maxHeartbeats 4000000 in
set_option maxRecDepth 20000 in
theorem ok_X6_claim {p1 : Int32} {p2 : Int32} {S S0 : gSt} {r0 : Int32}  (h : f_X6_claim p1 p2 S = some (r0, S0)) : gCT yX6_claim cX6_claim 3 (some .int) 4 (fun w => [.ref (w.2.1 0), .int p1, .int p2]) S (some (.int r0)) S0 := by
  refine gEnter (fun X => [some (.ref (gad X 0)), some (.int p1), some (.int p2)]) (by decide) (fun X => ⟨rfl, rfl⟩) (fun w => Nat.le_of_ble_eq_true rfl) (fun X hp => ?_)
  show AW X RX6 4 cX6_claim 0 [some (.ref (gad X 0)), some (.int p1), some (.int p2)] [] S
  unfold f_X6_claim at h
  refine a_aloadn (pc := 0) dX6_claim_0 rfl rfl ?_
  refine a_getA (pc := 1) flX6_12 sh_0 rfl dX6_claim_1 ?_
  refine a_iloadn (pc := 4) dX6_claim_4 rfl rfl ?_
  obtain ⟨r3, S1, hc2, h⟩ := g_bind2 h
  refine a_invVi (pc := 5) (ok_X0_has hc2) gyX0_has vyX0_has mlX6_72 sh_1 rfl (As := [.int p1]) rfl rfl (by decide) (st := []) rfl (Nat.le_of_ble_eq_true rfl) dX6_claim_5 ?_
  refine a_if_eq (pc := 8) (tgt := 18) dX6_claim_8 (by decide) (fun c4 => ?_) (fun c4 => ?_)
  · rw [if_pos c4] at h
    refine a_iconst (pc := 18) (v := (-1 : Int32)) dX6_claim_18 (by decide) ?_
    obtain ⟨rfl, rfl⟩ := Prod.mk.inj (Option.some.inj h)
    exact a_iret hp dX6_claim_19
  · rw [if_neg c4] at h
    refine a_iloadn (pc := 11) dX6_claim_11 rfl rfl ?_
    obtain ⟨r7, S5, hc6, h⟩ := g_bind2 h
    refine a_invSi (pc := 12) (ok_X6_isCell hc6) gyX6_isCell syX6_isCell mlX6_51 (As := [.int p2]) rfl rfl (by decide) (st := []) rfl (Nat.le_of_ble_eq_true rfl) dX6_claim_12 ?_
    refine a_if_ne (pc := 15) (tgt := 20) dX6_claim_15 (by decide) (fun c8 => ?_) (fun c8 => ?_)
    · rw [if_neg c8] at h
      refine a_aloadn (pc := 20) dX6_claim_20 rfl rfl ?_
      refine a_getA (pc := 21) flX6_39 sh_0 rfl dX6_claim_21 ?_
      refine a_aloadn (pc := 24) dX6_claim_24 rfl rfl ?_
      refine a_getA (pc := 25) flX6_12 sh_0 rfl dX6_claim_25 ?_
      refine a_iconst (pc := 28) (v := (0 : Int32)) dX6_claim_28 (by decide) ?_
      obtain ⟨S9, hc10, h⟩ := g_bind h
      refine a_invVv (pc := 29) (ok_X3_look hc10) gyX3_look vyX3_look mlX6_95 sh_41 rfl (As := [.ref (gad X 1), .int (0 : Int32)]) rfl rfl (by decide) (st := []) rfl (Nat.le_of_ble_eq_true rfl) dX6_claim_29 ?_
      refine a_aloadn (pc := 32) dX6_claim_32 rfl rfl ?_
      refine a_getA (pc := 33) flX6_39 sh_0 rfl dX6_claim_33 ?_
      refine a_getA (pc := 36) flX6_114 sh_41 rfl dX6_claim_36 ?_
      refine a_iloadn (pc := 39) dX6_claim_39 rfl rfl ?_
      refine a_bipush (pc := 40) (v := (64 : Int32)) dX6_claim_40 (by decide) ?_
      refine a_imul (pc := 42) dX6_claim_42 ?_
      refine a_iloadn (pc := 43) dX6_claim_43 rfl rfl ?_
      refine a_iadd (pc := 44) dX6_claim_44 ?_
      obtain ⟨hi11, h⟩ := g_if h
      refine a_iald (pc := 45) sh_42 hi11 dX6_claim_45 ?_
      obtain ⟨rfl, rfl⟩ := Prod.mk.inj (Option.some.inj h)
      exact a_iret hp dX6_claim_46
    · rw [if_pos c8] at h
      refine a_iconst (pc := 18) (v := (-1 : Int32)) dX6_claim_18 (by decide) ?_
      obtain ⟨rfl, rfl⟩ := Prod.mk.inj (Option.some.inj h)
      exact a_iret hp dX6_claim_19
theorem dX6_ahead_0 : decode cX6_ahead 0 = .ok (.iload_n 1, 1) := by decide +kernel
theorem dX6_ahead_1 : decode cX6_ahead 1 = .ok (.invokestatic 51, 3) := by decide +kernel
theorem dX6_ahead_4 : decode cX6_ahead 4 = .ok (.ifCond .eq 13, 3) := by decide +kernel
theorem dX6_ahead_7 : decode cX6_ahead 7 = .ok (.iload_n 2, 1) := by decide +kernel
theorem dX6_ahead_8 : decode cX6_ahead 8 = .ok (.ifCond .lt 9, 3) := by decide +kernel
theorem dX6_ahead_11 : decode cX6_ahead 11 = .ok (.iload_n 2, 1) := by decide +kernel
theorem dX6_ahead_12 : decode cX6_ahead 12 = .ok (.bipush 48, 2) := by decide +kernel
theorem dX6_ahead_14 : decode cX6_ahead 14 = .ok (.if_icmp .le 5, 3) := by decide +kernel
theorem dX6_ahead_17 : decode cX6_ahead 17 = .ok (.iconst (-1), 1) := by decide +kernel
theorem dX6_ahead_18 : decode cX6_ahead 18 = .ok (.ireturn, 1) := by decide +kernel
theorem dX6_ahead_19 : decode cX6_ahead 19 = .ok (.aload_n 0, 1) := by decide +kernel
theorem dX6_ahead_20 : decode cX6_ahead 20 = .ok (.getfield 39, 3) := by decide +kernel
theorem dX6_ahead_23 : decode cX6_ahead 23 = .ok (.aload_n 0, 1) := by decide +kernel
theorem dX6_ahead_24 : decode cX6_ahead 24 = .ok (.getfield 12, 3) := by decide +kernel
theorem dX6_ahead_27 : decode cX6_ahead 27 = .ok (.iload_n 2, 1) := by decide +kernel
theorem dX6_ahead_28 : decode cX6_ahead 28 = .ok (.invokevirtual 95, 3) := by decide +kernel
theorem dX6_ahead_31 : decode cX6_ahead 31 = .ok (.aload_n 0, 1) := by decide +kernel
theorem dX6_ahead_32 : decode cX6_ahead 32 = .ok (.getfield 39, 3) := by decide +kernel
theorem dX6_ahead_35 : decode cX6_ahead 35 = .ok (.iload_n 1, 1) := by decide +kernel
theorem dX6_ahead_36 : decode cX6_ahead 36 = .ok (.invokevirtual 176, 3) := by decide +kernel
theorem dX6_ahead_39 : decode cX6_ahead 39 = .ok (.ireturn, 1) := by decide +kernel
def f_X6_ahead (p1 : Int32) (p2 : Int32) (S : gSt) : Option (Int32 × gSt) :=
gBind2 (f_X6_isCell p1 S) fun r3 S1 =>
(if r3 = 0 then
some ((-1 : Int32), S1)
else
(if p2 < 0 then
some ((-1 : Int32), S1)
else
(if p2 ≤ (48 : Int32) then
(f_X3_look p2 S1).bind fun S7 =>
gBind2 (f_X3_holderOf p1 S7) fun r11 S9 =>
some (r11, S9)
else
some ((-1 : Int32), S1))))
set_option maxHeartbeats 4000000 in
set_option maxRecDepth 20000 in
theorem ok_X6_ahead {p1 : Int32} {p2 : Int32} {S S0 : gSt} {r0 : Int32}  (h : f_X6_ahead p1 p2 S = some (r0, S0)) : gCT yX6_ahead cX6_ahead 3 (some .int) 4 (fun w => [.ref (w.2.1 0), .int p1, .int p2]) S (some (.int r0)) S0 := by
  refine gEnter (fun X => [some (.ref (gad X 0)), some (.int p1), some (.int p2)]) (by decide) (fun X => ⟨rfl, rfl⟩) (fun w => Nat.le_of_ble_eq_true rfl) (fun X hp => ?_)
  show AW X RX6 4 cX6_ahead 0 [some (.ref (gad X 0)), some (.int p1), some (.int p2)] [] S
  unfold f_X6_ahead at h
  refine a_iloadn (pc := 0) dX6_ahead_0 rfl rfl ?_
  obtain ⟨r3, S1, hc2, h⟩ := g_bind2 h
  refine a_invSi (pc := 1) (ok_X6_isCell hc2) gyX6_isCell syX6_isCell mlX6_51 (As := [.int p1]) rfl rfl (by decide) (st := []) rfl (Nat.le_of_ble_eq_true rfl) dX6_ahead_1 ?_
  refine a_if_eq (pc := 4) (tgt := 17) dX6_ahead_4 (by decide) (fun c4 => ?_) (fun c4 => ?_)
  · rw [if_pos c4] at h
    refine a_iconst (pc := 17) (v := (-1 : Int32)) dX6_ahead_17 (by decide) ?_
    obtain ⟨rfl, rfl⟩ := Prod.mk.inj (Option.some.inj h)
    exact a_iret hp dX6_ahead_18
  · rw [if_neg c4] at h
    refine a_iloadn (pc := 7) dX6_ahead_7 rfl rfl ?_
    refine a_if_lt (pc := 8) (tgt := 17) dX6_ahead_8 (by decide) (fun c5 => ?_) (fun c5 => ?_)
    · rw [if_pos c5] at h
      refine a_iconst (pc := 17) (v := (-1 : Int32)) dX6_ahead_17 (by decide) ?_
      obtain ⟨rfl, rfl⟩ := Prod.mk.inj (Option.some.inj h)
      exact a_iret hp dX6_ahead_18
    · rw [if_neg c5] at h
      refine a_iloadn (pc := 11) dX6_ahead_11 rfl rfl ?_
      refine a_bipush (pc := 12) (v := (48 : Int32)) dX6_ahead_12 (by decide) ?_
      refine a_icmp_le (pc := 14) (tgt := 19) dX6_ahead_14 (by decide) (fun c6 => ?_) (fun c6 => ?_)
      · rw [if_pos c6] at h
        refine a_aloadn (pc := 19) dX6_ahead_19 rfl rfl ?_
        refine a_getA (pc := 20) flX6_39 sh_0 rfl dX6_ahead_20 ?_
        refine a_aloadn (pc := 23) dX6_ahead_23 rfl rfl ?_
        refine a_getA (pc := 24) flX6_12 sh_0 rfl dX6_ahead_24 ?_
        refine a_iloadn (pc := 27) dX6_ahead_27 rfl rfl ?_
        obtain ⟨S7, hc8, h⟩ := g_bind h
        refine a_invVv (pc := 28) (ok_X3_look hc8) gyX3_look vyX3_look mlX6_95 sh_41 rfl (As := [.ref (gad X 1), .int p2]) rfl rfl (by decide) (st := []) rfl (Nat.le_of_ble_eq_true rfl) dX6_ahead_28 ?_
        refine a_aloadn (pc := 31) dX6_ahead_31 rfl rfl ?_
        refine a_getA (pc := 32) flX6_39 sh_0 rfl dX6_ahead_32 ?_
        refine a_iloadn (pc := 35) dX6_ahead_35 rfl rfl ?_
        obtain ⟨r11, S9, hc10, h⟩ := g_bind2 h
        refine a_invVi (pc := 36) (ok_X3_holderOf hc10) gyX3_holderOf vyX3_holderOf mlX6_176 sh_41 rfl (As := [.int p1]) rfl rfl (by decide) (st := []) rfl (Nat.le_of_ble_eq_true rfl) dX6_ahead_36 ?_
        obtain ⟨rfl, rfl⟩ := Prod.mk.inj (Option.some.inj h)
        exact a_iret hp dX6_ahead_39
      · rw [if_neg c6] at h
        refine a_iconst (pc := 17) (v := (-1 : Int32)) dX6_ahead_17 (by decide) ?_
        obtain ⟨rfl, rfl⟩ := Prod.mk.inj (Option.some.inj h)
        exact a_iret hp dX6_ahead_18
theorem dX6_held_0 : decode cX6_held 0 = .ok (.aload_n 0, 1) := by decide +kernel
theorem dX6_held_1 : decode cX6_held 1 = .ok (.iload_n 1, 1) := by decide +kernel
theorem dX6_held_2 : decode cX6_held 2 = .ok (.iconst 0, 1) := by decide +kernel
theorem dX6_held_3 : decode cX6_held 3 = .ok (.invokevirtual 117, 3) := by decide +kernel
theorem dX6_held_6 : decode cX6_held 6 = .ok (.ireturn, 1) := by decide +kernel
def f_X6_held (p1 : Int32) (S : gSt) : Option (Int32 × gSt) :=
gBind2 (f_X6_ahead p1 (0 : Int32) S) fun r3 S1 =>
some (r3, S1)
set_option maxHeartbeats 4000000 in
set_option maxRecDepth 20000 in
theorem ok_X6_held {p1 : Int32} {S S0 : gSt} {r0 : Int32}  (h : f_X6_held p1 S = some (r0, S0)) : gCT yX6_held cX6_held 2 (some .int) 5 (fun w => [.ref (w.2.1 0), .int p1]) S (some (.int r0)) S0 := by
  refine gEnter (fun X => [some (.ref (gad X 0)), some (.int p1)]) (by decide) (fun X => ⟨rfl, rfl⟩) (fun w => Nat.le_of_ble_eq_true rfl) (fun X hp => ?_)
  show AW X RX6 5 cX6_held 0 [some (.ref (gad X 0)), some (.int p1)] [] S
  unfold f_X6_held at h
  refine a_aloadn (pc := 0) dX6_held_0 rfl rfl ?_
  refine a_iloadn (pc := 1) dX6_held_1 rfl rfl ?_
  refine a_iconst (pc := 2) (v := (0 : Int32)) dX6_held_2 (by decide) ?_
  obtain ⟨r3, S1, hc2, h⟩ := g_bind2 h
  refine a_invVi (pc := 3) (ok_X6_ahead hc2) gyX6_ahead vyX6_ahead mlX6_117 sh_0 rfl (As := [.int p1, .int (0 : Int32)]) rfl rfl (by decide) (st := []) rfl (Nat.le_of_ble_eq_true rfl) dX6_held_3 ?_
  obtain ⟨rfl, rfl⟩ := Prod.mk.inj (Option.some.inj h)
  exact a_iret hp dX6_held_6
theorem dX4_put_0 : decode cX4_put 0 = .ok (.aload_n 0, 1) := by decide +kernel
theorem dX4_put_1 : decode cX4_put 1 = .ok (.getfield 24, 3) := by decide +kernel
theorem dX4_put_4 : decode cX4_put 4 = .ok (.bipush 60, 2) := by decide +kernel
theorem dX4_put_6 : decode cX4_put 6 = .ok (.if_icmp .lt 5, 3) := by decide +kernel
theorem dX4_put_9 : decode cX4_put 9 = .ok (.iconst 0, 1) := by decide +kernel
theorem dX4_put_10 : decode cX4_put 10 = .ok (.ireturn, 1) := by decide +kernel
theorem dX4_put_11 : decode cX4_put 11 = .ok (.aload_n 0, 1) := by decide +kernel
theorem dX4_put_12 : decode cX4_put 12 = .ok (.getfield 9, 3) := by decide +kernel
theorem dX4_put_15 : decode cX4_put 15 = .ok (.aload_n 0, 1) := by decide +kernel
theorem dX4_put_16 : decode cX4_put 16 = .ok (.getfield 24, 3) := by decide +kernel
theorem dX4_put_19 : decode cX4_put 19 = .ok (.iload_n 1, 1) := by decide +kernel
theorem dX4_put_20 : decode cX4_put 20 = .ok (.iastore, 1) := by decide +kernel
theorem dX4_put_21 : decode cX4_put 21 = .ok (.aload_n 0, 1) := by decide +kernel
theorem dX4_put_22 : decode cX4_put 22 = .ok (.dup, 1) := by decide +kernel
theorem dX4_put_23 : decode cX4_put 23 = .ok (.getfield 24, 3) := by decide +kernel
theorem dX4_put_26 : decode cX4_put 26 = .ok (.iconst 1, 1) := by decide +kernel
theorem dX4_put_27 : decode cX4_put 27 = .ok (.iadd, 1) := by decide +kernel
theorem dX4_put_28 : decode cX4_put 28 = .ok (.putfield 24, 3) := by decide +kernel
theorem dX4_put_31 : decode cX4_put 31 = .ok (.iconst 1, 1) := by decide +kernel
theorem dX4_put_32 : decode cX4_put 32 = .ok (.ireturn, 1) := by decide +kernel
def f_X4_put (p1 : Int32) (S : gSt) : Option (Int32 × gSt) :=
(if (S.1 27 4) < (60 : Int32) then
if gin (S.1 27 4) 60 then
gLet (gI S 28 (S.1 27 4).toNatClampNeg p1) fun S3 =>
(gLet (gI S3 27 4 ((S3.1 27 4) + (1 : Int32))) fun S4 =>
some ((1 : Int32), S4)) else none
else
some ((0 : Int32), S))
set_option maxHeartbeats 4000000 in
set_option maxRecDepth 20000 in
theorem ok_X4_put {p1 : Int32} {S S0 : gSt} {r0 : Int32}  (h : f_X4_put p1 S = some (r0, S0)) : gCT yX4_put cX4_put 2 (some .boolean) 0 (fun w => [.ref (w.2.1 27), .int p1]) S (some (.int r0)) S0 := by
  refine gEnter (fun X => [some (.ref (gad X 27)), some (.int p1)]) (by decide) (fun X => ⟨rfl, rfl⟩) (fun w => Nat.le_of_ble_eq_true rfl) (fun X hp => ?_)
  show AW X RX4 0 cX4_put 0 [some (.ref (gad X 27)), some (.int p1)] [] S
  unfold f_X4_put at h
  refine a_aloadn (pc := 0) dX4_put_0 rfl rfl ?_
  refine a_getI (pc := 1) flX4_24 sh_27 rfl dX4_put_1 ?_
  refine a_bipush (pc := 4) (v := (60 : Int32)) dX4_put_4 (by decide) ?_
  refine a_icmp_lt (pc := 6) (tgt := 11) dX4_put_6 (by decide) (fun c1 => ?_) (fun c1 => ?_)
  · rw [if_pos c1] at h
    refine a_aloadn (pc := 11) dX4_put_11 rfl rfl ?_
    refine a_getA (pc := 12) flX4_9 sh_27 rfl dX4_put_12 ?_
    refine a_aloadn (pc := 15) dX4_put_15 rfl rfl ?_
    refine a_getI (pc := 16) flX4_24 sh_27 rfl dX4_put_16 ?_
    refine a_iloadn (pc := 19) dX4_put_19 rfl rfl ?_
    obtain ⟨hi2, h⟩ := g_if h
    refine a_iast (pc := 20) sh_28 hi2 dX4_put_20 ?_
    obtain ⟨S3, eS3, h⟩ := g_let h
    refine a_nmS eS3 ?_
    refine a_aloadn (pc := 21) dX4_put_21 rfl rfl ?_
    refine a_dup (pc := 22) dX4_put_22 rfl ?_
    refine a_getI (pc := 23) flX4_24 sh_27 rfl dX4_put_23 ?_
    refine a_iconst (pc := 26) (v := (1 : Int32)) dX4_put_26 (by decide) ?_
    refine a_iadd (pc := 27) dX4_put_27 ?_
    refine a_putI (pc := 28) flX4_24 sh_27 rfl rfl rfl dX4_put_28 ?_
    obtain ⟨S4, eS4, h⟩ := g_let h
    refine a_nmS eS4 ?_
    refine a_iconst (pc := 31) (v := (1 : Int32)) dX4_put_31 (by decide) ?_
    obtain ⟨rfl, rfl⟩ := Prod.mk.inj (Option.some.inj h)
    exact a_zret hp rfl  dX4_put_32
  · rw [if_neg c1] at h
    refine a_iconst (pc := 9) (v := (0 : Int32)) dX4_put_9 (by decide) ?_
    obtain ⟨rfl, rfl⟩ := Prod.mk.inj (Option.some.inj h)
    exact a_zret hp rfl  dX4_put_10
theorem dX6_type_0 : decode cX6_type 0 = .ok (.iload_n 1, 1) := by decide +kernel
theorem dX6_type_1 : decode cX6_type 1 = .ok (.bipush 32, 2) := by decide +kernel
theorem dX6_type_3 : decode cX6_type 3 = .ok (.if_icmp .lt 9, 3) := by decide +kernel
theorem dX6_type_6 : decode cX6_type 6 = .ok (.iload_n 1, 1) := by decide +kernel
theorem dX6_type_7 : decode cX6_type 7 = .ok (.bipush 126, 2) := by decide +kernel
theorem dX6_type_9 : decode cX6_type 9 = .ok (.if_icmp .le 5, 3) := by decide +kernel
theorem dX6_type_12 : decode cX6_type 12 = .ok (.iconst (-1), 1) := by decide +kernel
theorem dX6_type_13 : decode cX6_type 13 = .ok (.ireturn, 1) := by decide +kernel
theorem dX6_type_14 : decode cX6_type 14 = .ok (.aload_n 0, 1) := by decide +kernel
theorem dX6_type_15 : decode cX6_type 15 = .ok (.getfield 26, 3) := by decide +kernel
theorem dX6_type_18 : decode cX6_type 18 = .ok (.iload_n 1, 1) := by decide +kernel
theorem dX6_type_19 : decode cX6_type 19 = .ok (.invokevirtual 121, 3) := by decide +kernel
theorem dX6_type_22 : decode cX6_type 22 = .ok (.ifCond .eq 13, 3) := by decide +kernel
theorem dX6_type_25 : decode cX6_type 25 = .ok (.aload_n 0, 1) := by decide +kernel
theorem dX6_type_26 : decode cX6_type 26 = .ok (.getfield 26, 3) := by decide +kernel
theorem dX6_type_29 : decode cX6_type 29 = .ok (.getfield 124, 3) := by decide +kernel
theorem dX6_type_32 : decode cX6_type 32 = .ok (.goto 5, 3) := by decide +kernel
theorem dX6_type_35 : decode cX6_type 35 = .ok (.bipush (-3), 2) := by decide +kernel
theorem dX6_type_37 : decode cX6_type 37 = .ok (.ireturn, 1) := by decide +kernel
def f_X6_type (p1 : Int32) (S : gSt) : Option (Int32 × gSt) :=
(if p1 < (32 : Int32) then
some ((-1 : Int32), S)
else
(if p1 ≤ (126 : Int32) then
gBind2 (f_X4_put p1 S) fun r5 S3 =>
(if r5 = 0 then
some ((-3 : Int32), S3)
else
some (S3.1 27 4, S3))
else
some ((-1 : Int32), S)))
set_option maxHeartbeats 4000000 in
set_option maxRecDepth 20000 in
theorem ok_X6_type {p1 : Int32} {S S0 : gSt} {r0 : Int32}  (h : f_X6_type p1 S = some (r0, S0)) : gCT yX6_type cX6_type 2 (some .int) 1 (fun w => [.ref (w.2.1 0), .int p1]) S (some (.int r0)) S0 := by
  refine gEnter (fun X => [some (.ref (gad X 0)), some (.int p1)]) (by decide) (fun X => ⟨rfl, rfl⟩) (fun w => Nat.le_of_ble_eq_true rfl) (fun X hp => ?_)
  show AW X RX6 1 cX6_type 0 [some (.ref (gad X 0)), some (.int p1)] [] S
  unfold f_X6_type at h
  refine a_iloadn (pc := 0) dX6_type_0 rfl rfl ?_
  refine a_bipush (pc := 1) (v := (32 : Int32)) dX6_type_1 (by decide) ?_
  refine a_icmp_lt (pc := 3) (tgt := 12) dX6_type_3 (by decide) (fun c1 => ?_) (fun c1 => ?_)
  · rw [if_pos c1] at h
    refine a_iconst (pc := 12) (v := (-1 : Int32)) dX6_type_12 (by decide) ?_
    obtain ⟨rfl, rfl⟩ := Prod.mk.inj (Option.some.inj h)
    exact a_iret hp dX6_type_13
  · rw [if_neg c1] at h
    refine a_iloadn (pc := 6) dX6_type_6 rfl rfl ?_
    refine a_bipush (pc := 7) (v := (126 : Int32)) dX6_type_7 (by decide) ?_
    refine a_icmp_le (pc := 9) (tgt := 14) dX6_type_9 (by decide) (fun c2 => ?_) (fun c2 => ?_)
    · rw [if_pos c2] at h
      refine a_aloadn (pc := 14) dX6_type_14 rfl rfl ?_
      refine a_getA (pc := 15) flX6_26 sh_0 rfl dX6_type_15 ?_
      refine a_iloadn (pc := 18) dX6_type_18 rfl rfl ?_
      obtain ⟨r5, S3, hc4, h⟩ := g_bind2 h
      refine a_invVi (pc := 19) (ok_X4_put hc4) gyX4_put vyX4_put mlX6_121 sh_27 rfl (As := [.int p1]) rfl rfl (by decide) (st := []) rfl (Nat.le_of_ble_eq_true rfl) dX6_type_19 ?_
      refine a_if_eq (pc := 22) (tgt := 35) dX6_type_22 (by decide) (fun c6 => ?_) (fun c6 => ?_)
      · rw [if_pos c6] at h
        refine a_bipush (pc := 35) (v := (-3 : Int32)) dX6_type_35 (by decide) ?_
        obtain ⟨rfl, rfl⟩ := Prod.mk.inj (Option.some.inj h)
        exact a_iret hp dX6_type_37
      · rw [if_neg c6] at h
        refine a_aloadn (pc := 25) dX6_type_25 rfl rfl ?_
        refine a_getA (pc := 26) flX6_26 sh_0 rfl dX6_type_26 ?_
        refine a_getI (pc := 29) flX6_124 sh_27 rfl dX6_type_29 ?_
        refine a_goto (pc := 32) (tgt := 37) dX6_type_32 (by decide) ?_
        obtain ⟨rfl, rfl⟩ := Prod.mk.inj (Option.some.inj h)
        exact a_iret hp dX6_type_37
    · rw [if_neg c2] at h
      refine a_iconst (pc := 12) (v := (-1 : Int32)) dX6_type_12 (by decide) ?_
      obtain ⟨rfl, rfl⟩ := Prod.mk.inj (Option.some.inj h)
      exact a_iret hp dX6_type_13
theorem dX4_skipBlanks_0 : decode cX4_skipBlanks 0 = .ok (.aload_n 0, 1) := by decide +kernel
theorem dX4_skipBlanks_1 : decode cX4_skipBlanks 1 = .ok (.getfield 28, 3) := by decide +kernel
theorem dX4_skipBlanks_4 : decode cX4_skipBlanks 4 = .ok (.aload_n 0, 1) := by decide +kernel
theorem dX4_skipBlanks_5 : decode cX4_skipBlanks 5 = .ok (.getfield 24, 3) := by decide +kernel
theorem dX4_skipBlanks_8 : decode cX4_skipBlanks 8 = .ok (.if_icmp .ge 30, 3) := by decide +kernel
theorem dX4_skipBlanks_11 : decode cX4_skipBlanks 11 = .ok (.aload_n 0, 1) := by decide +kernel
theorem dX4_skipBlanks_12 : decode cX4_skipBlanks 12 = .ok (.getfield 9, 3) := by decide +kernel
theorem dX4_skipBlanks_15 : decode cX4_skipBlanks 15 = .ok (.aload_n 0, 1) := by decide +kernel
theorem dX4_skipBlanks_16 : decode cX4_skipBlanks 16 = .ok (.getfield 28, 3) := by decide +kernel
theorem dX4_skipBlanks_19 : decode cX4_skipBlanks 19 = .ok (.iaload, 1) := by decide +kernel
theorem dX4_skipBlanks_20 : decode cX4_skipBlanks 20 = .ok (.bipush 32, 2) := by decide +kernel
theorem dX4_skipBlanks_22 : decode cX4_skipBlanks 22 = .ok (.if_icmp .ne 16, 3) := by decide +kernel
theorem dX4_skipBlanks_25 : decode cX4_skipBlanks 25 = .ok (.aload_n 0, 1) := by decide +kernel
theorem dX4_skipBlanks_26 : decode cX4_skipBlanks 26 = .ok (.dup, 1) := by decide +kernel
theorem dX4_skipBlanks_27 : decode cX4_skipBlanks 27 = .ok (.getfield 28, 3) := by decide +kernel
theorem dX4_skipBlanks_30 : decode cX4_skipBlanks 30 = .ok (.iconst 1, 1) := by decide +kernel
theorem dX4_skipBlanks_31 : decode cX4_skipBlanks 31 = .ok (.iadd, 1) := by decide +kernel
theorem dX4_skipBlanks_32 : decode cX4_skipBlanks 32 = .ok (.putfield 28, 3) := by decide +kernel
theorem dX4_skipBlanks_35 : decode cX4_skipBlanks 35 = .ok (.goto (-35), 3) := by decide +kernel
theorem dX4_skipBlanks_38 : decode cX4_skipBlanks 38 = .ok (.return_, 1) := by decide +kernel
def f_X4_skipBlanks_s0_b (S : gSt) : Option ((gSt) ⊕ (gSt)) :=
(if (S.1 27 4) ≤ (S.1 27 5) then
some (.inr (S))
else
if gin (S.1 27 5) 60 then
((if (S.1 28 (S.1 27 5).toNatClampNeg) = (32 : Int32) then
gLet (gI S 27 5 ((S.1 27 5) + (1 : Int32))) fun S4 =>
some (.inl (S4))
else
some (.inr (S)))) else none)
def f_X4_skipBlanks_s0 : (gSt) → Option ((gSt) ⊕ (gSt)) := fun t => f_X4_skipBlanks_s0_b t
def f_X4_skipBlanks (S : gSt) : Option gSt :=
(gLoop (f_X4_skipBlanks_s0) gFuel (S)).bind fun q5 => match q5 with
| S5 =>
some S5
set_option maxHeartbeats 4000000 in
set_option maxRecDepth 20000 in
theorem ok_X4_skipBlanks {S S0 : gSt}  (h : f_X4_skipBlanks S = some S0) : gCT yX4_skipBlanks cX4_skipBlanks 1 none 0 (fun w => [.ref (w.2.1 27)]) S none S0 := by
  refine gEnter (fun X => [some (.ref (gad X 27))]) (by decide) (fun X => ⟨rfl, rfl⟩) (fun w => Nat.le_of_ble_eq_true rfl) (fun X hp => ?_)
  show AW X RX4 0 cX4_skipBlanks 0 [some (.ref (gad X 27))] [] S
  unfold f_X4_skipBlanks at h
  obtain ⟨R5, hR5, h⟩ := g_bind h
  have E0 : ∀  (S5 : gSt), (some S5) = some S0 → AW X RX4 0 cX4_skipBlanks 38 [none] [] S5 := by
    intro S5 h
    obtain rfl := Option.some.inj h
    exact a_vret hp dX4_skipBlanks_38
  have lp : ∀ (n : Nat)  (S : gSt), gLoop (f_X4_skipBlanks_s0) n (S) = some R5 → AW X RX4 0 cX4_skipBlanks 0 [some (.ref (gad X 27))] [] S := by
    intro n
    induction n with
    | zero => intro  S hR; cases hR
    | succ n ih =>
      intro  S hR
      obtain ⟨q, hs, hR⟩ := g_bind hR
      have hs : f_X4_skipBlanks_s0_b  S = some q := hs
      unfold f_X4_skipBlanks_s0_b at hs
      refine a_aloadn (pc := 0) dX4_skipBlanks_0 rfl rfl ?_
      refine a_getI (pc := 1) flX4_28 sh_27 rfl dX4_skipBlanks_1 ?_
      refine a_aloadn (pc := 4) dX4_skipBlanks_4 rfl rfl ?_
      refine a_getI (pc := 5) flX4_24 sh_27 rfl dX4_skipBlanks_5 ?_
      refine a_icmp_ge (pc := 8) (tgt := 38) dX4_skipBlanks_8 (by decide) (fun c1 => ?_) (fun c1 => ?_)
      · rw [if_pos c1] at hs
        obtain rfl := Option.some.inj hs
        obtain rfl := Option.some.inj hR
        refine a_mask [false] (L' := [none]) rfl ?_
        exact E0  _ h
      · rw [if_neg c1] at hs
        refine a_aloadn (pc := 11) dX4_skipBlanks_11 rfl rfl ?_
        refine a_getA (pc := 12) flX4_9 sh_27 rfl dX4_skipBlanks_12 ?_
        refine a_aloadn (pc := 15) dX4_skipBlanks_15 rfl rfl ?_
        refine a_getI (pc := 16) flX4_28 sh_27 rfl dX4_skipBlanks_16 ?_
        obtain ⟨hi2, hs⟩ := g_if hs
        refine a_iald (pc := 19) sh_28 hi2 dX4_skipBlanks_19 ?_
        refine a_bipush (pc := 20) (v := (32 : Int32)) dX4_skipBlanks_20 (by decide) ?_
        refine a_icmp_ne (pc := 22) (tgt := 38) dX4_skipBlanks_22 (by decide) (fun c3 => ?_) (fun c3 => ?_)
        · rw [if_neg c3] at hs
          obtain rfl := Option.some.inj hs
          obtain rfl := Option.some.inj hR
          refine a_mask [false] (L' := [none]) rfl ?_
          exact E0  _ h
        · rw [if_pos c3] at hs
          refine a_aloadn (pc := 25) dX4_skipBlanks_25 rfl rfl ?_
          refine a_dup (pc := 26) dX4_skipBlanks_26 rfl ?_
          refine a_getI (pc := 27) flX4_28 sh_27 rfl dX4_skipBlanks_27 ?_
          refine a_iconst (pc := 30) (v := (1 : Int32)) dX4_skipBlanks_30 (by decide) ?_
          refine a_iadd (pc := 31) dX4_skipBlanks_31 ?_
          refine a_putI (pc := 32) flX4_28 sh_27 rfl rfl rfl dX4_skipBlanks_32 ?_
          obtain ⟨S4, eS4, hs⟩ := g_let hs
          refine a_nmS eS4 ?_
          refine a_goto (pc := 35) (tgt := 0) dX4_skipBlanks_35 (by decide) ?_
          obtain rfl := Option.some.inj hs
          exact ih  _ hR
  exact lp _  _ hR5
theorem dX4_take_0 : decode cX4_take 0 = .ok (.aload_n 0, 1) := by decide +kernel
theorem dX4_take_1 : decode cX4_take 1 = .ok (.invokevirtual 48, 3) := by decide +kernel
theorem dX4_take_4 : decode cX4_take 4 = .ok (.aload_n 0, 1) := by decide +kernel
theorem dX4_take_5 : decode cX4_take 5 = .ok (.getfield 28, 3) := by decide +kernel
theorem dX4_take_8 : decode cX4_take 8 = .ok (.aload_n 0, 1) := by decide +kernel
theorem dX4_take_9 : decode cX4_take 9 = .ok (.getfield 24, 3) := by decide +kernel
theorem dX4_take_12 : decode cX4_take 12 = .ok (.if_icmp .ge 29, 3) := by decide +kernel
theorem dX4_take_15 : decode cX4_take 15 = .ok (.aload_n 0, 1) := by decide +kernel
theorem dX4_take_16 : decode cX4_take 16 = .ok (.getfield 9, 3) := by decide +kernel
theorem dX4_take_19 : decode cX4_take 19 = .ok (.aload_n 0, 1) := by decide +kernel
theorem dX4_take_20 : decode cX4_take 20 = .ok (.getfield 28, 3) := by decide +kernel
theorem dX4_take_23 : decode cX4_take 23 = .ok (.iaload, 1) := by decide +kernel
theorem dX4_take_24 : decode cX4_take 24 = .ok (.iload_n 1, 1) := by decide +kernel
theorem dX4_take_25 : decode cX4_take 25 = .ok (.if_icmp .lt 16, 3) := by decide +kernel
theorem dX4_take_28 : decode cX4_take 28 = .ok (.aload_n 0, 1) := by decide +kernel
theorem dX4_take_29 : decode cX4_take 29 = .ok (.getfield 9, 3) := by decide +kernel
theorem dX4_take_32 : decode cX4_take 32 = .ok (.aload_n 0, 1) := by decide +kernel
theorem dX4_take_33 : decode cX4_take 33 = .ok (.getfield 28, 3) := by decide +kernel
theorem dX4_take_36 : decode cX4_take 36 = .ok (.iaload, 1) := by decide +kernel
theorem dX4_take_37 : decode cX4_take 37 = .ok (.iload_n 2, 1) := by decide +kernel
theorem dX4_take_38 : decode cX4_take 38 = .ok (.if_icmp .le 5, 3) := by decide +kernel
theorem dX4_take_41 : decode cX4_take 41 = .ok (.iconst (-1), 1) := by decide +kernel
theorem dX4_take_42 : decode cX4_take 42 = .ok (.ireturn, 1) := by decide +kernel
theorem dX4_take_43 : decode cX4_take 43 = .ok (.aload_n 0, 1) := by decide +kernel
theorem dX4_take_44 : decode cX4_take 44 = .ok (.dup, 1) := by decide +kernel
theorem dX4_take_45 : decode cX4_take 45 = .ok (.getfield 28, 3) := by decide +kernel
theorem dX4_take_48 : decode cX4_take 48 = .ok (.iconst 1, 1) := by decide +kernel
theorem dX4_take_49 : decode cX4_take 49 = .ok (.iadd, 1) := by decide +kernel
theorem dX4_take_50 : decode cX4_take 50 = .ok (.putfield 28, 3) := by decide +kernel
theorem dX4_take_53 : decode cX4_take 53 = .ok (.aload_n 0, 1) := by decide +kernel
theorem dX4_take_54 : decode cX4_take 54 = .ok (.getfield 9, 3) := by decide +kernel
theorem dX4_take_57 : decode cX4_take 57 = .ok (.aload_n 0, 1) := by decide +kernel
theorem dX4_take_58 : decode cX4_take 58 = .ok (.getfield 28, 3) := by decide +kernel
theorem dX4_take_61 : decode cX4_take 61 = .ok (.iconst 1, 1) := by decide +kernel
theorem dX4_take_62 : decode cX4_take 62 = .ok (.isub, 1) := by decide +kernel
theorem dX4_take_63 : decode cX4_take 63 = .ok (.iaload, 1) := by decide +kernel
theorem dX4_take_64 : decode cX4_take 64 = .ok (.iload_n 1, 1) := by decide +kernel
theorem dX4_take_65 : decode cX4_take 65 = .ok (.isub, 1) := by decide +kernel
theorem dX4_take_66 : decode cX4_take 66 = .ok (.ireturn, 1) := by decide +kernel
def f_X4_take (p1 : Int32) (p2 : Int32) (S : gSt) : Option (Int32 × gSt) :=
(f_X4_skipBlanks S).bind fun S1 =>
(if (S1.1 27 4) ≤ (S1.1 27 5) then
some ((-1 : Int32), S1)
else
if gin (S1.1 27 5) 60 then
((if (S1.1 28 (S1.1 27 5).toNatClampNeg) < p1 then
some ((-1 : Int32), S1)
else
if gin (S1.1 27 5) 60 then
((if (S1.1 28 (S1.1 27 5).toNatClampNeg) ≤ p2 then
gLet (gI S1 27 5 ((S1.1 27 5) + (1 : Int32))) fun S8 =>
if gin ((S8.1 27 5) - (1 : Int32)) 60 then
(some ((S8.1 28 ((S8.1 27 5) - (1 : Int32)).toNatClampNeg) - p1, S8)) else none
else
some ((-1 : Int32), S1))) else none)) else none)
set_option maxHeartbeats 4000000 in
set_option maxRecDepth 20000 in
theorem ok_X4_take {p1 : Int32} {p2 : Int32} {S S0 : gSt} {r0 : Int32}  (h : f_X4_take p1 p2 S = some (r0, S0)) : gCT yX4_take cX4_take 3 (some .int) 1 (fun w => [.ref (w.2.1 27), .int p1, .int p2]) S (some (.int r0)) S0 := by
  refine gEnter (fun X => [some (.ref (gad X 27)), some (.int p1), some (.int p2)]) (by decide) (fun X => ⟨rfl, rfl⟩) (fun w => Nat.le_of_ble_eq_true rfl) (fun X hp => ?_)
  show AW X RX4 1 cX4_take 0 [some (.ref (gad X 27)), some (.int p1), some (.int p2)] [] S
  unfold f_X4_take at h
  refine a_aloadn (pc := 0) dX4_take_0 rfl rfl ?_
  obtain ⟨S1, hc2, h⟩ := g_bind h
  refine a_invVv (pc := 1) (ok_X4_skipBlanks hc2) gyX4_skipBlanks vyX4_skipBlanks mlX4_48 sh_27 rfl (As := []) rfl rfl (by decide) (st := []) rfl (Nat.le_of_ble_eq_true rfl) dX4_take_1 ?_
  refine a_aloadn (pc := 4) dX4_take_4 rfl rfl ?_
  refine a_getI (pc := 5) flX4_28 sh_27 rfl dX4_take_5 ?_
  refine a_aloadn (pc := 8) dX4_take_8 rfl rfl ?_
  refine a_getI (pc := 9) flX4_24 sh_27 rfl dX4_take_9 ?_
  refine a_icmp_ge (pc := 12) (tgt := 41) dX4_take_12 (by decide) (fun c3 => ?_) (fun c3 => ?_)
  · rw [if_pos c3] at h
    refine a_iconst (pc := 41) (v := (-1 : Int32)) dX4_take_41 (by decide) ?_
    obtain ⟨rfl, rfl⟩ := Prod.mk.inj (Option.some.inj h)
    exact a_iret hp dX4_take_42
  · rw [if_neg c3] at h
    refine a_aloadn (pc := 15) dX4_take_15 rfl rfl ?_
    refine a_getA (pc := 16) flX4_9 sh_27 rfl dX4_take_16 ?_
    refine a_aloadn (pc := 19) dX4_take_19 rfl rfl ?_
    refine a_getI (pc := 20) flX4_28 sh_27 rfl dX4_take_20 ?_
    obtain ⟨hi4, h⟩ := g_if h
    refine a_iald (pc := 23) sh_28 hi4 dX4_take_23 ?_
    refine a_iloadn (pc := 24) dX4_take_24 rfl rfl ?_
    refine a_icmp_lt (pc := 25) (tgt := 41) dX4_take_25 (by decide) (fun c5 => ?_) (fun c5 => ?_)
    · rw [if_pos c5] at h
      refine a_iconst (pc := 41) (v := (-1 : Int32)) dX4_take_41 (by decide) ?_
      obtain ⟨rfl, rfl⟩ := Prod.mk.inj (Option.some.inj h)
      exact a_iret hp dX4_take_42
    · rw [if_neg c5] at h
      refine a_aloadn (pc := 28) dX4_take_28 rfl rfl ?_
      refine a_getA (pc := 29) flX4_9 sh_27 rfl dX4_take_29 ?_
      refine a_aloadn (pc := 32) dX4_take_32 rfl rfl ?_
      refine a_getI (pc := 33) flX4_28 sh_27 rfl dX4_take_33 ?_
      obtain ⟨hi6, h⟩ := g_if h
      refine a_iald (pc := 36) sh_28 hi6 dX4_take_36 ?_
      refine a_iloadn (pc := 37) dX4_take_37 rfl rfl ?_
      refine a_icmp_le (pc := 38) (tgt := 43) dX4_take_38 (by decide) (fun c7 => ?_) (fun c7 => ?_)
      · rw [if_pos c7] at h
        refine a_aloadn (pc := 43) dX4_take_43 rfl rfl ?_
        refine a_dup (pc := 44) dX4_take_44 rfl ?_
        refine a_getI (pc := 45) flX4_28 sh_27 rfl dX4_take_45 ?_
        refine a_iconst (pc := 48) (v := (1 : Int32)) dX4_take_48 (by decide) ?_
        refine a_iadd (pc := 49) dX4_take_49 ?_
        refine a_putI (pc := 50) flX4_28 sh_27 rfl rfl rfl dX4_take_50 ?_
        obtain ⟨S8, eS8, h⟩ := g_let h
        refine a_nmS eS8 ?_
        refine a_aloadn (pc := 53) dX4_take_53 rfl rfl ?_
        refine a_getA (pc := 54) flX4_9 sh_27 rfl dX4_take_54 ?_
        refine a_aloadn (pc := 57) dX4_take_57 rfl rfl ?_
        refine a_getI (pc := 58) flX4_28 sh_27 rfl dX4_take_58 ?_
        refine a_iconst (pc := 61) (v := (1 : Int32)) dX4_take_61 (by decide) ?_
        refine a_isub (pc := 62) dX4_take_62 ?_
        obtain ⟨hi9, h⟩ := g_if h
        refine a_iald (pc := 63) sh_28 hi9 dX4_take_63 ?_
        refine a_iloadn (pc := 64) dX4_take_64 rfl rfl ?_
        refine a_isub (pc := 65) dX4_take_65 ?_
        obtain ⟨rfl, rfl⟩ := Prod.mk.inj (Option.some.inj h)
        exact a_iret hp dX4_take_66
      · rw [if_neg c7] at h
        refine a_iconst (pc := 41) (v := (-1 : Int32)) dX4_take_41 (by decide) ?_
        obtain ⟨rfl, rfl⟩ := Prod.mk.inj (Option.some.inj h)
        exact a_iret hp dX4_take_42
theorem dJ0_isLatin1_aae02_0 : decode cJ0_isLatin1_aae02 0 = .ok (.getstatic 38, 3) := by decide +kernel
theorem dJ0_isLatin1_aae02_3 : decode cJ0_isLatin1_aae02 3 = .ok (.ifCond .eq 14, 3) := by decide +kernel
theorem dJ0_isLatin1_aae02_6 : decode cJ0_isLatin1_aae02 6 = .ok (.aload_n 0, 1) := by decide +kernel
theorem dJ0_isLatin1_aae02_7 : decode cJ0_isLatin1_aae02 7 = .ok (.getfield 15, 3) := by decide +kernel
theorem dJ0_isLatin1_aae02_10 : decode cJ0_isLatin1_aae02 10 = .ok (.ifCond .ne 7, 3) := by decide +kernel
theorem dJ0_isLatin1_aae02_13 : decode cJ0_isLatin1_aae02 13 = .ok (.iconst 1, 1) := by decide +kernel
theorem dJ0_isLatin1_aae02_14 : decode cJ0_isLatin1_aae02 14 = .ok (.goto 4, 3) := by decide +kernel
theorem dJ0_isLatin1_aae02_17 : decode cJ0_isLatin1_aae02 17 = .ok (.iconst 0, 1) := by decide +kernel
theorem dJ0_isLatin1_aae02_18 : decode cJ0_isLatin1_aae02 18 = .ok (.ireturn, 1) := by decide +kernel
def f_J0_isLatin1_aae02 (S : gSt) : Option (Int32 × gSt) :=
(if (1 : Int32) = 0 then
some ((0 : Int32), S)
else
(if (0 : Int32) = 0 then
some ((1 : Int32), S)
else
some ((0 : Int32), S)))
set_option maxHeartbeats 4000000 in
set_option maxRecDepth 20000 in
theorem ok_J0_isLatin1_aae02 {S S0 : gSt} {r0 : Int32}  (h : f_J0_isLatin1_aae02 S = some (r0, S0)) : gCT yJ0_isLatin1_aae02 cJ0_isLatin1_aae02 1 (some .boolean) 0 (fun w => [.ref (w.2.2.2 2)]) S (some (.int r0)) S0 := by
  refine gEnter (fun X => [some (.ref ((gw X).2.2.2 2))]) (by decide) (fun X => ⟨rfl, rfl⟩) (fun w => Nat.le_of_ble_eq_true rfl) (fun X hp => ?_)
  show AW X RJ0 0 cJ0_isLatin1_aae02 0 [some (.ref ((gw X).2.2.2 2))] [] S
  unfold f_J0_isLatin1_aae02 at h
  refine a_getcs (pc := 0) fjJ0_38 dJ0_isLatin1_aae02_0 ?_
  refine a_if_eq (pc := 3) (tgt := 17) dJ0_isLatin1_aae02_3 (by decide) (fun c1 => ?_) (fun c1 => ?_)
  · rw [if_pos c1] at h
    refine a_iconst (pc := 17) (v := (0 : Int32)) dJ0_isLatin1_aae02_17 (by decide) ?_
    obtain ⟨rfl, rfl⟩ := Prod.mk.inj (Option.some.inj h)
    exact a_zret hp rfl  dJ0_isLatin1_aae02_18
  · rw [if_neg c1] at h
    refine a_aloadn (pc := 6) dJ0_isLatin1_aae02_6 rfl rfl ?_
    refine a_coder (pc := 7) fjJ0_15 dJ0_isLatin1_aae02_7 ?_
    refine a_if_ne (pc := 10) (tgt := 17) dJ0_isLatin1_aae02_10 (by decide) (fun c2 => ?_) (fun c2 => ?_)
    · rw [if_neg c2] at h
      refine a_iconst (pc := 17) (v := (0 : Int32)) dJ0_isLatin1_aae02_17 (by decide) ?_
      obtain ⟨rfl, rfl⟩ := Prod.mk.inj (Option.some.inj h)
      exact a_zret hp rfl  dJ0_isLatin1_aae02_18
    · rw [if_pos c2] at h
      refine a_iconst (pc := 13) (v := (1 : Int32)) dJ0_isLatin1_aae02_13 (by decide) ?_
      refine a_goto (pc := 14) (tgt := 18) dJ0_isLatin1_aae02_14 (by decide) ?_
      obtain ⟨rfl, rfl⟩ := Prod.mk.inj (Option.some.inj h)
      exact a_zret hp rfl  dJ0_isLatin1_aae02_18
theorem dJ0_coder_7d493_0 : decode cJ0_coder_7d493 0 = .ok (.getstatic 38, 3) := by decide +kernel
theorem dJ0_coder_7d493_3 : decode cJ0_coder_7d493 3 = .ok (.ifCond .eq 10, 3) := by decide +kernel
theorem dJ0_coder_7d493_6 : decode cJ0_coder_7d493 6 = .ok (.aload_n 0, 1) := by decide +kernel
theorem dJ0_coder_7d493_7 : decode cJ0_coder_7d493 7 = .ok (.getfield 15, 3) := by decide +kernel
theorem dJ0_coder_7d493_10 : decode cJ0_coder_7d493 10 = .ok (.goto 4, 3) := by decide +kernel
theorem dJ0_coder_7d493_13 : decode cJ0_coder_7d493 13 = .ok (.iconst 1, 1) := by decide +kernel
theorem dJ0_coder_7d493_14 : decode cJ0_coder_7d493 14 = .ok (.ireturn, 1) := by decide +kernel
def f_J0_coder_7d493 (S : gSt) : Option (Int32 × gSt) :=
(if (1 : Int32) = 0 then
some ((1 : Int32), S)
else
some ((0 : Int32), S))
set_option maxHeartbeats 4000000 in
set_option maxRecDepth 20000 in
theorem ok_J0_coder_7d493 {S S0 : gSt} {r0 : Int32}  (h : f_J0_coder_7d493 S = some (r0, S0)) : gCT yJ0_coder_7d493 cJ0_coder_7d493 1 (some .byte) 0 (fun w => [.ref (w.2.2.2 2)]) S (some (.int r0)) S0 := by
  refine gEnter (fun X => [some (.ref ((gw X).2.2.2 2))]) (by decide) (fun X => ⟨rfl, rfl⟩) (fun w => Nat.le_of_ble_eq_true rfl) (fun X hp => ?_)
  show AW X RJ0 0 cJ0_coder_7d493 0 [some (.ref ((gw X).2.2.2 2))] [] S
  unfold f_J0_coder_7d493 at h
  refine a_getcs (pc := 0) fjJ0_38 dJ0_coder_7d493_0 ?_
  refine a_if_eq (pc := 3) (tgt := 13) dJ0_coder_7d493_3 (by decide) (fun c1 => ?_) (fun c1 => ?_)
  · rw [if_pos c1] at h
    refine a_iconst (pc := 13) (v := (1 : Int32)) dJ0_coder_7d493_13 (by decide) ?_
    obtain ⟨rfl, rfl⟩ := Prod.mk.inj (Option.some.inj h)
    exact a_bret hp (by decide) dJ0_coder_7d493_14
  · rw [if_neg c1] at h
    refine a_aloadn (pc := 6) dJ0_coder_7d493_6 rfl rfl ?_
    refine a_coder (pc := 7) fjJ0_15 dJ0_coder_7d493_7 ?_
    refine a_goto (pc := 10) (tgt := 14) dJ0_coder_7d493_10 (by decide) ?_
    obtain ⟨rfl, rfl⟩ := Prod.mk.inj (Option.some.inj h)
    exact a_bret hp (by decide) dJ0_coder_7d493_14
theorem dJ0_length_8abf5_0 : decode cJ0_length_8abf5 0 = .ok (.aload_n 0, 1) := by decide +kernel
theorem dJ0_length_8abf5_1 : decode cJ0_length_8abf5 1 = .ok (.getfield 9, 3) := by decide +kernel
theorem dJ0_length_8abf5_4 : decode cJ0_length_8abf5 4 = .ok (.arraylength, 1) := by decide +kernel
theorem dJ0_length_8abf5_5 : decode cJ0_length_8abf5 5 = .ok (.aload_n 0, 1) := by decide +kernel
theorem dJ0_length_8abf5_6 : decode cJ0_length_8abf5 6 = .ok (.invokevirtual 335, 3) := by decide +kernel
theorem dJ0_length_8abf5_9 : decode cJ0_length_8abf5 9 = .ok (.ishr, 1) := by decide +kernel
theorem dJ0_length_8abf5_10 : decode cJ0_length_8abf5 10 = .ok (.ireturn, 1) := by decide +kernel
def f_J0_length_8abf5 (S : gSt) : Option (Int32 × gSt) :=
gBind2 (f_J0_coder_7d493 S) fun r3 S1 =>
some ((5 : Int32) >>> (r3 &&& 31), S1)
set_option maxHeartbeats 4000000 in
set_option maxRecDepth 20000 in
theorem ok_J0_length_8abf5 {S S0 : gSt} {r0 : Int32}  (h : f_J0_length_8abf5 S = some (r0, S0)) : gCT yJ0_length_8abf5 cJ0_length_8abf5 1 (some .int) 1 (fun w => [.ref (w.2.2.2 2)]) S (some (.int r0)) S0 := by
  refine gEnter (fun X => [some (.ref ((gw X).2.2.2 2))]) (by decide) (fun X => ⟨rfl, rfl⟩) (fun w => Nat.le_of_ble_eq_true rfl) (fun X hp => ?_)
  show AW X RJ0 1 cJ0_length_8abf5 0 [some (.ref ((gw X).2.2.2 2))] [] S
  unfold f_J0_length_8abf5 at h
  refine a_aloadn (pc := 0) dJ0_length_8abf5_0 rfl rfl ?_
  refine a_value (pc := 1) fjJ0_9 dJ0_length_8abf5_1 ?_
  refine a_tblen (pc := 4) dJ0_length_8abf5_4 ?_
  refine a_aloadn (pc := 5) dJ0_length_8abf5_5 rfl rfl ?_
  obtain ⟨r3, S1, hc2, h⟩ := g_bind2 h
  refine a_invTi (pc := 6) (ok_J0_coder_7d493 hc2) gyJ0_coder_7d493 vyJ0_coder_7d493 mlJ0_335 rfl (As := []) rfl rfl (by decide) (st := [.int (5 : Int32)]) rfl (Nat.le_of_ble_eq_true rfl) dJ0_length_8abf5_6 ?_
  refine a_ishr (pc := 9) dJ0_length_8abf5_9 ?_
  obtain ⟨rfl, rfl⟩ := Prod.mk.inj (Option.some.inj h)
  exact a_iret hp dJ0_length_8abf5_10
theorem dJ1_canEncode_9a6ad_0 : decode cJ1_canEncode_9a6ad 0 = .ok (.iload_n 0, 1) := by decide +kernel
theorem dJ1_canEncode_9a6ad_1 : decode cJ1_canEncode_9a6ad 1 = .ok (.ifCond .lt 14, 3) := by decide +kernel
theorem dJ1_canEncode_9a6ad_4 : decode cJ1_canEncode_9a6ad 4 = .ok (.iload_n 0, 1) := by decide +kernel
theorem dJ1_canEncode_9a6ad_5 : decode cJ1_canEncode_9a6ad 5 = .ok (.sipush 255, 3) := by decide +kernel
theorem dJ1_canEncode_9a6ad_8 : decode cJ1_canEncode_9a6ad 8 = .ok (.if_icmp .gt 7, 3) := by decide +kernel
theorem dJ1_canEncode_9a6ad_11 : decode cJ1_canEncode_9a6ad 11 = .ok (.iconst 1, 1) := by decide +kernel
theorem dJ1_canEncode_9a6ad_12 : decode cJ1_canEncode_9a6ad 12 = .ok (.goto 4, 3) := by decide +kernel
theorem dJ1_canEncode_9a6ad_15 : decode cJ1_canEncode_9a6ad 15 = .ok (.iconst 0, 1) := by decide +kernel
theorem dJ1_canEncode_9a6ad_16 : decode cJ1_canEncode_9a6ad 16 = .ok (.ireturn, 1) := by decide +kernel
def f_J1_canEncode_9a6ad (p0 : Int32) (S : gSt) : Option (Int32 × gSt) :=
(if p0 < 0 then
some ((0 : Int32), S)
else
(if (255 : Int32) < p0 then
some ((0 : Int32), S)
else
some ((1 : Int32), S)))
set_option maxHeartbeats 4000000 in
set_option maxRecDepth 20000 in
theorem ok_J1_canEncode_9a6ad {p0 : Int32} {S S0 : gSt} {r0 : Int32}  (h : f_J1_canEncode_9a6ad p0 S = some (r0, S0)) : gCT yJ1_canEncode_9a6ad cJ1_canEncode_9a6ad 1 (some .boolean) 0 (fun w => [.int p0]) S (some (.int r0)) S0 := by
  refine gEnter (fun X => [some (.int p0)]) (by decide) (fun X => ⟨rfl, rfl⟩) (fun w => Nat.le_of_ble_eq_true rfl) (fun X hp => ?_)
  show AW X RJ1 0 cJ1_canEncode_9a6ad 0 [some (.int p0)] [] S
  unfold f_J1_canEncode_9a6ad at h
  refine a_iloadn (pc := 0) dJ1_canEncode_9a6ad_0 rfl rfl ?_
  refine a_if_lt (pc := 1) (tgt := 15) dJ1_canEncode_9a6ad_1 (by decide) (fun c1 => ?_) (fun c1 => ?_)
  · rw [if_pos c1] at h
    refine a_iconst (pc := 15) (v := (0 : Int32)) dJ1_canEncode_9a6ad_15 (by decide) ?_
    obtain ⟨rfl, rfl⟩ := Prod.mk.inj (Option.some.inj h)
    exact a_zret hp rfl  dJ1_canEncode_9a6ad_16
  · rw [if_neg c1] at h
    refine a_iloadn (pc := 4) dJ1_canEncode_9a6ad_4 rfl rfl ?_
    refine a_sipush (pc := 5) (v := (255 : Int32)) dJ1_canEncode_9a6ad_5 (by decide) ?_
    refine a_icmp_gt (pc := 8) (tgt := 15) dJ1_canEncode_9a6ad_8 (by decide) (fun c2 => ?_) (fun c2 => ?_)
    · rw [if_pos c2] at h
      refine a_iconst (pc := 15) (v := (0 : Int32)) dJ1_canEncode_9a6ad_15 (by decide) ?_
      obtain ⟨rfl, rfl⟩ := Prod.mk.inj (Option.some.inj h)
      exact a_zret hp rfl  dJ1_canEncode_9a6ad_16
    · rw [if_neg c2] at h
      refine a_iconst (pc := 11) (v := (1 : Int32)) dJ1_canEncode_9a6ad_11 (by decide) ?_
      refine a_goto (pc := 12) (tgt := 16) dJ1_canEncode_9a6ad_12 (by decide) ?_
      obtain ⟨rfl, rfl⟩ := Prod.mk.inj (Option.some.inj h)
      exact a_zret hp rfl  dJ1_canEncode_9a6ad_16
theorem dJ1_indexOfChar_4cfef_0 : decode cJ1_indexOfChar_4cfef 0 = .ok (.iload_n 1, 1) := by decide +kernel
theorem dJ1_indexOfChar_4cfef_1 : decode cJ1_indexOfChar_4cfef 1 = .ok (.i2b, 1) := by decide +kernel
theorem dJ1_indexOfChar_4cfef_2 : decode cJ1_indexOfChar_4cfef 2 = .ok (.istore 4, 2) := by decide +kernel
theorem dJ1_indexOfChar_4cfef_4 : decode cJ1_indexOfChar_4cfef 4 = .ok (.iload_n 2, 1) := by decide +kernel
theorem dJ1_indexOfChar_4cfef_5 : decode cJ1_indexOfChar_4cfef 5 = .ok (.istore 5, 2) := by decide +kernel
theorem dJ1_indexOfChar_4cfef_7 : decode cJ1_indexOfChar_4cfef 7 = .ok (.iload 5, 2) := by decide +kernel
theorem dJ1_indexOfChar_4cfef_9 : decode cJ1_indexOfChar_4cfef 9 = .ok (.iload_n 3, 1) := by decide +kernel
theorem dJ1_indexOfChar_4cfef_10 : decode cJ1_indexOfChar_4cfef 10 = .ok (.if_icmp .ge 21, 3) := by decide +kernel
theorem dJ1_indexOfChar_4cfef_13 : decode cJ1_indexOfChar_4cfef 13 = .ok (.aload_n 0, 1) := by decide +kernel
theorem dJ1_indexOfChar_4cfef_14 : decode cJ1_indexOfChar_4cfef 14 = .ok (.iload 5, 2) := by decide +kernel
theorem dJ1_indexOfChar_4cfef_16 : decode cJ1_indexOfChar_4cfef 16 = .ok (.baload, 1) := by decide +kernel
theorem dJ1_indexOfChar_4cfef_17 : decode cJ1_indexOfChar_4cfef 17 = .ok (.iload 4, 2) := by decide +kernel
theorem dJ1_indexOfChar_4cfef_19 : decode cJ1_indexOfChar_4cfef 19 = .ok (.if_icmp .ne 6, 3) := by decide +kernel
theorem dJ1_indexOfChar_4cfef_22 : decode cJ1_indexOfChar_4cfef 22 = .ok (.iload 5, 2) := by decide +kernel
theorem dJ1_indexOfChar_4cfef_24 : decode cJ1_indexOfChar_4cfef 24 = .ok (.ireturn, 1) := by decide +kernel
theorem dJ1_indexOfChar_4cfef_25 : decode cJ1_indexOfChar_4cfef 25 = .ok (.iinc 5 1, 3) := by decide +kernel
theorem dJ1_indexOfChar_4cfef_28 : decode cJ1_indexOfChar_4cfef 28 = .ok (.goto (-21), 3) := by decide +kernel
theorem dJ1_indexOfChar_4cfef_31 : decode cJ1_indexOfChar_4cfef 31 = .ok (.iconst (-1), 1) := by decide +kernel
theorem dJ1_indexOfChar_4cfef_32 : decode cJ1_indexOfChar_4cfef 32 = .ok (.ireturn, 1) := by decide +kernel
def f_J1_indexOfChar_4cfef_s7_b (x3 : Int32) (x4 : Int32) (x5 : Int32) (S : gSt) : Option ((Int32 × Int32 × Int32 × gSt) ⊕ ((Int32 × gSt) ⊕ (gSt))) :=
(if x3 ≤ x5 then
some (.inr (.inr (S)))
else
if gin x5 5 then
((if (([112, 115, 104, 107, 111] : List Int32).getD x5.toNatClampNeg 0) = x4 then
some (.inr (.inl (x5, S)))
else
some (.inl (x3, x4, x5 + (1 : Int32), S)))) else none)
def f_J1_indexOfChar_4cfef_s7 : (Int32 × Int32 × Int32 × gSt) → Option ((Int32 × Int32 × Int32 × gSt) ⊕ ((Int32 × gSt) ⊕ (gSt))) := fun t => f_J1_indexOfChar_4cfef_s7_b t.1 t.2.1 t.2.2.1 t.2.2.2
def f_J1_indexOfChar_4cfef (p1 : Int32) (p2 : Int32) (p3 : Int32) (S : gSt) : Option (Int32 × gSt) :=
gLet (p1.toInt8.toInt32) fun v1 =>
(gLoop (f_J1_indexOfChar_4cfef_s7) gFuel (p3, v1, p2, S)).bind fun q5 => match q5 with
| .inl (v5, T5) => some (v5, T5)
| .inr S5 =>
some ((-1 : Int32), S5)
set_option maxHeartbeats 4000000 in
set_option maxRecDepth 20000 in
theorem ok_J1_indexOfChar_4cfef {p1 : Int32} {p2 : Int32} {p3 : Int32} {S S0 : gSt} {r0 : Int32}  (h : f_J1_indexOfChar_4cfef p1 p2 p3 S = some (r0, S0)) : gCT yJ1_indexOfChar_4cfef cJ1_indexOfChar_4cfef 6 (some .int) 0 (fun w => [.ref (w.2.2.2 3), .int p1, .int p2, .int p3]) S (some (.int r0)) S0 := by
  refine gEnter (fun X => [some (.ref ((gw X).2.2.2 3)), some (.int p1), some (.int p2), some (.int p3), none, none]) (by decide) (fun X => ⟨rfl, rfl⟩) (fun w => Nat.le_of_ble_eq_true rfl) (fun X hp => ?_)
  show AW X RJ1 0 cJ1_indexOfChar_4cfef 0 [some (.ref ((gw X).2.2.2 3)), some (.int p1), some (.int p2), some (.int p3), none, none] [] S
  unfold f_J1_indexOfChar_4cfef at h
  refine a_iloadn (pc := 0) dJ1_indexOfChar_4cfef_0 rfl rfl ?_
  refine a_i2b (pc := 1) dJ1_indexOfChar_4cfef_1 ?_
  obtain ⟨v1, ev1, h⟩ := g_let h
  refine a_nmI ev1 ?_
  refine a_istore (pc := 2) dJ1_indexOfChar_4cfef_2 (Nat.le_of_ble_eq_true rfl) rfl (L' := [some (.ref ((gw X).2.2.2 3)), some (.int p1), some (.int p2), some (.int p3), some (.int v1), none]) rfl ?_
  refine a_iloadn (pc := 4) dJ1_indexOfChar_4cfef_4 rfl rfl ?_
  refine a_istore (pc := 5) dJ1_indexOfChar_4cfef_5 (Nat.le_of_ble_eq_true rfl) rfl (L' := [some (.ref ((gw X).2.2.2 3)), some (.int p1), some (.int p2), some (.int p3), some (.int v1), some (.int p2)]) rfl ?_
  obtain ⟨R5, hR5, h⟩ := g_bind h
  refine a_mask [true, false, false, true, true, true] (L' := [some (.ref ((gw X).2.2.2 3)), none, none, some (.int p3), some (.int v1), some (.int p2)]) rfl ?_
  have E7 : ∀  (S5 : gSt), (some ((-1 : Int32), S5)) = some (r0, S0) → AW X RJ1 0 cJ1_indexOfChar_4cfef 31 [none, none, none, none, none, none] [] S5 := by
    intro S5 h
    refine a_iconst (pc := 31) (v := (-1 : Int32)) dJ1_indexOfChar_4cfef_31 (by decide) ?_
    obtain ⟨rfl, rfl⟩ := Prod.mk.inj (Option.some.inj h)
    exact a_iret hp dJ1_indexOfChar_4cfef_32
  have lp : ∀ (n : Nat) (x3 : Int32) (x4 : Int32) (x5 : Int32) (S : gSt), gLoop (f_J1_indexOfChar_4cfef_s7) n (x3, x4, x5, S) = some R5 → AW X RJ1 0 cJ1_indexOfChar_4cfef 7 [some (.ref ((gw X).2.2.2 3)), none, none, some (.int x3), some (.int x4), some (.int x5)] [] S := by
    intro n
    induction n with
    | zero => intro x3 x4 x5 S hR; cases hR
    | succ n ih =>
      intro x3 x4 x5 S hR
      obtain ⟨q, hs, hR⟩ := g_bind hR
      have hs : f_J1_indexOfChar_4cfef_s7_b x3 x4 x5 S = some q := hs
      unfold f_J1_indexOfChar_4cfef_s7_b at hs
      refine a_iload (pc := 7) dJ1_indexOfChar_4cfef_7 rfl ?_
      refine a_iloadn (pc := 9) dJ1_indexOfChar_4cfef_9 rfl rfl ?_
      refine a_icmp_ge (pc := 10) (tgt := 31) dJ1_indexOfChar_4cfef_10 (by decide) (fun c2 => ?_) (fun c2 => ?_)
      · rw [if_pos c2] at hs
        obtain rfl := Option.some.inj hs
        obtain rfl := Option.some.inj hR
        refine a_mask [false, true, true, false, false, false] (L' := [none, none, none, none, none, none]) rfl ?_
        exact E7  _ h
      · rw [if_neg c2] at hs
        refine a_aloadn (pc := 13) dJ1_indexOfChar_4cfef_13 rfl rfl ?_
        refine a_iload (pc := 14) dJ1_indexOfChar_4cfef_14 rfl ?_
        obtain ⟨hi3, hs⟩ := g_if hs
        refine a_tbald (pc := 16) hi3 dJ1_indexOfChar_4cfef_16 ?_
        refine a_iload (pc := 17) dJ1_indexOfChar_4cfef_17 rfl ?_
        refine a_icmp_ne (pc := 19) (tgt := 25) dJ1_indexOfChar_4cfef_19 (by decide) (fun c4 => ?_) (fun c4 => ?_)
        · rw [if_neg c4] at hs
          refine a_iinc (pc := 25) dJ1_indexOfChar_4cfef_25 rfl (v := x5 + (1 : Int32)) rfl (Nat.le_of_ble_eq_true rfl) rfl (L' := [some (.ref ((gw X).2.2.2 3)), none, none, some (.int x3), some (.int x4), some (.int (x5 + (1 : Int32)))]) rfl ?_
          refine a_goto (pc := 28) (tgt := 7) dJ1_indexOfChar_4cfef_28 (by decide) ?_
          obtain rfl := Option.some.inj hs
          exact ih _ _ _ _ hR
        · rw [if_pos c4] at hs
          refine a_iload (pc := 22) dJ1_indexOfChar_4cfef_22 rfl ?_
          obtain rfl := Option.some.inj hs
          obtain rfl := Option.some.inj hR
          obtain ⟨rfl, rfl⟩ := Prod.mk.inj (Option.some.inj h)
          exact a_iret hp dJ1_indexOfChar_4cfef_24
  exact lp _ _ _ _ _ hR5
theorem dJ1_indexOf_4cfef_0 : decode cJ1_indexOf_4cfef 0 = .ok (.iload_n 1, 1) := by decide +kernel
theorem dJ1_indexOf_4cfef_1 : decode cJ1_indexOf_4cfef 1 = .ok (.invokestatic 88, 3) := by decide +kernel
theorem dJ1_indexOf_4cfef_4 : decode cJ1_indexOf_4cfef 4 = .ok (.ifCond .ne 5, 3) := by decide +kernel
theorem dJ1_indexOf_4cfef_7 : decode cJ1_indexOf_4cfef 7 = .ok (.iconst (-1), 1) := by decide +kernel
theorem dJ1_indexOf_4cfef_8 : decode cJ1_indexOf_4cfef 8 = .ok (.ireturn, 1) := by decide +kernel
theorem dJ1_indexOf_4cfef_9 : decode cJ1_indexOf_4cfef 9 = .ok (.iload_n 2, 1) := by decide +kernel
theorem dJ1_indexOf_4cfef_10 : decode cJ1_indexOf_4cfef 10 = .ok (.iconst 0, 1) := by decide +kernel
theorem dJ1_indexOf_4cfef_11 : decode cJ1_indexOf_4cfef 11 = .ok (.invokestatic 92, 3) := by decide +kernel
theorem dJ1_indexOf_4cfef_14 : decode cJ1_indexOf_4cfef 14 = .ok (.istore_n 2, 1) := by decide +kernel
theorem dJ1_indexOf_4cfef_15 : decode cJ1_indexOf_4cfef 15 = .ok (.iload_n 3, 1) := by decide +kernel
theorem dJ1_indexOf_4cfef_16 : decode cJ1_indexOf_4cfef 16 = .ok (.aload_n 0, 1) := by decide +kernel
theorem dJ1_indexOf_4cfef_17 : decode cJ1_indexOf_4cfef 17 = .ok (.arraylength, 1) := by decide +kernel
theorem dJ1_indexOf_4cfef_18 : decode cJ1_indexOf_4cfef 18 = .ok (.invokestatic 38, 3) := by decide +kernel
theorem dJ1_indexOf_4cfef_21 : decode cJ1_indexOf_4cfef 21 = .ok (.istore_n 3, 1) := by decide +kernel
theorem dJ1_indexOf_4cfef_22 : decode cJ1_indexOf_4cfef 22 = .ok (.iload_n 2, 1) := by decide +kernel
theorem dJ1_indexOf_4cfef_23 : decode cJ1_indexOf_4cfef 23 = .ok (.iload_n 3, 1) := by decide +kernel
theorem dJ1_indexOf_4cfef_24 : decode cJ1_indexOf_4cfef 24 = .ok (.if_icmp .lt 5, 3) := by decide +kernel
theorem dJ1_indexOf_4cfef_27 : decode cJ1_indexOf_4cfef 27 = .ok (.iconst (-1), 1) := by decide +kernel
theorem dJ1_indexOf_4cfef_28 : decode cJ1_indexOf_4cfef 28 = .ok (.ireturn, 1) := by decide +kernel
theorem dJ1_indexOf_4cfef_29 : decode cJ1_indexOf_4cfef 29 = .ok (.aload_n 0, 1) := by decide +kernel
theorem dJ1_indexOf_4cfef_30 : decode cJ1_indexOf_4cfef 30 = .ok (.iload_n 1, 1) := by decide +kernel
theorem dJ1_indexOf_4cfef_31 : decode cJ1_indexOf_4cfef 31 = .ok (.iload_n 2, 1) := by decide +kernel
theorem dJ1_indexOf_4cfef_32 : decode cJ1_indexOf_4cfef 32 = .ok (.iload_n 3, 1) := by decide +kernel
theorem dJ1_indexOf_4cfef_33 : decode cJ1_indexOf_4cfef 33 = .ok (.invokestatic 95, 3) := by decide +kernel
theorem dJ1_indexOf_4cfef_36 : decode cJ1_indexOf_4cfef 36 = .ok (.ireturn, 1) := by decide +kernel
def f_J1_indexOf_4cfef (p1 : Int32) (p2 : Int32) (p3 : Int32) (S : gSt) : Option (Int32 × gSt) :=
gBind2 (f_J1_canEncode_9a6ad p1 S) fun r3 S1 =>
(if r3 = 0 then
some ((-1 : Int32), S1)
else
gLet (if p2 < (0 : Int32) then (0 : Int32) else p2) fun v5 =>
gLet (if (5 : Int32) < p3 then (5 : Int32) else p3) fun v6 =>
(if v5 < v6 then
gBind2 (f_J1_indexOfChar_4cfef p1 v5 v6 S1) fun r10 S8 =>
some (r10, S8)
else
some ((-1 : Int32), S1)))
set_option maxHeartbeats 4000000 in
set_option maxRecDepth 20000 in
theorem ok_J1_indexOf_4cfef {p1 : Int32} {p2 : Int32} {p3 : Int32} {S S0 : gSt} {r0 : Int32}  (h : f_J1_indexOf_4cfef p1 p2 p3 S = some (r0, S0)) : gCT yJ1_indexOf_4cfef cJ1_indexOf_4cfef 4 (some .int) 1 (fun w => [.ref (w.2.2.2 3), .int p1, .int p2, .int p3]) S (some (.int r0)) S0 := by
  refine gEnter (fun X => [some (.ref ((gw X).2.2.2 3)), some (.int p1), some (.int p2), some (.int p3)]) (by decide) (fun X => ⟨rfl, rfl⟩) (fun w => Nat.le_of_ble_eq_true rfl) (fun X hp => ?_)
  show AW X RJ1 1 cJ1_indexOf_4cfef 0 [some (.ref ((gw X).2.2.2 3)), some (.int p1), some (.int p2), some (.int p3)] [] S
  unfold f_J1_indexOf_4cfef at h
  refine a_iloadn (pc := 0) dJ1_indexOf_4cfef_0 rfl rfl ?_
  obtain ⟨r3, S1, hc2, h⟩ := g_bind2 h
  refine a_invSi (pc := 1) (ok_J1_canEncode_9a6ad hc2) gyJ1_canEncode_9a6ad syJ1_canEncode_9a6ad mlJ1_88 (As := [.int p1]) rfl rfl (by decide) (st := []) rfl (Nat.le_of_ble_eq_true rfl) dJ1_indexOf_4cfef_1 ?_
  refine a_if_ne (pc := 4) (tgt := 9) dJ1_indexOf_4cfef_4 (by decide) (fun c4 => ?_) (fun c4 => ?_)
  · rw [if_neg c4] at h
    refine a_iloadn (pc := 9) dJ1_indexOf_4cfef_9 rfl rfl ?_
    refine a_iconst (pc := 10) (v := (0 : Int32)) dJ1_indexOf_4cfef_10 (by decide) ?_
    refine a_max (pc := 11) mlJ1_92 (by decide) (Nat.le_of_ble_eq_true rfl) dJ1_indexOf_4cfef_11 ?_
    obtain ⟨v5, ev5, h⟩ := g_let h
    refine a_nmI ev5 ?_
    refine a_istoren (pc := 14) dJ1_indexOf_4cfef_14 rfl (Nat.le_of_ble_eq_true rfl) rfl (L' := [some (.ref ((gw X).2.2.2 3)), some (.int p1), some (.int v5), some (.int p3)]) rfl ?_
    refine a_iloadn (pc := 15) dJ1_indexOf_4cfef_15 rfl rfl ?_
    refine a_aloadn (pc := 16) dJ1_indexOf_4cfef_16 rfl rfl ?_
    refine a_tblen (pc := 17) dJ1_indexOf_4cfef_17 ?_
    refine a_min (pc := 18) mlJ1_38 (by decide) (Nat.le_of_ble_eq_true rfl) dJ1_indexOf_4cfef_18 ?_
    obtain ⟨v6, ev6, h⟩ := g_let h
    refine a_nmI ev6 ?_
    refine a_istoren (pc := 21) dJ1_indexOf_4cfef_21 rfl (Nat.le_of_ble_eq_true rfl) rfl (L' := [some (.ref ((gw X).2.2.2 3)), some (.int p1), some (.int v5), some (.int v6)]) rfl ?_
    refine a_iloadn (pc := 22) dJ1_indexOf_4cfef_22 rfl rfl ?_
    refine a_iloadn (pc := 23) dJ1_indexOf_4cfef_23 rfl rfl ?_
    refine a_icmp_lt (pc := 24) (tgt := 29) dJ1_indexOf_4cfef_24 (by decide) (fun c7 => ?_) (fun c7 => ?_)
    · rw [if_pos c7] at h
      refine a_aloadn (pc := 29) dJ1_indexOf_4cfef_29 rfl rfl ?_
      refine a_iloadn (pc := 30) dJ1_indexOf_4cfef_30 rfl rfl ?_
      refine a_iloadn (pc := 31) dJ1_indexOf_4cfef_31 rfl rfl ?_
      refine a_iloadn (pc := 32) dJ1_indexOf_4cfef_32 rfl rfl ?_
      obtain ⟨r10, S8, hc9, h⟩ := g_bind2 h
      refine a_invSi (pc := 33) (ok_J1_indexOfChar_4cfef hc9) gyJ1_indexOfChar_4cfef syJ1_indexOfChar_4cfef mlJ1_95 (As := [.ref ((gw X).2.2.2 3), .int p1, .int v5, .int v6]) rfl rfl (by decide) (st := []) rfl (Nat.le_of_ble_eq_true rfl) dJ1_indexOf_4cfef_33 ?_
      obtain ⟨rfl, rfl⟩ := Prod.mk.inj (Option.some.inj h)
      exact a_iret hp dJ1_indexOf_4cfef_36
    · rw [if_neg c7] at h
      refine a_iconst (pc := 27) (v := (-1 : Int32)) dJ1_indexOf_4cfef_27 (by decide) ?_
      obtain ⟨rfl, rfl⟩ := Prod.mk.inj (Option.some.inj h)
      exact a_iret hp dJ1_indexOf_4cfef_28
  · rw [if_pos c4] at h
    refine a_iconst (pc := 7) (v := (-1 : Int32)) dJ1_indexOf_4cfef_7 (by decide) ?_
    obtain ⟨rfl, rfl⟩ := Prod.mk.inj (Option.some.inj h)
    exact a_iret hp dJ1_indexOf_4cfef_8
theorem dJ0_indexOf_7cf53_0 : decode cJ0_indexOf_7cf53 0 = .ok (.aload_n 0, 1) := by decide +kernel
theorem dJ0_indexOf_7cf53_1 : decode cJ0_indexOf_7cf53 1 = .ok (.invokevirtual 492, 3) := by decide +kernel
theorem dJ0_indexOf_7cf53_4 : decode cJ0_indexOf_7cf53 4 = .ok (.ifCond .eq 19, 3) := by decide +kernel
theorem dJ0_indexOf_7cf53_7 : decode cJ0_indexOf_7cf53 7 = .ok (.aload_n 0, 1) := by decide +kernel
theorem dJ0_indexOf_7cf53_8 : decode cJ0_indexOf_7cf53 8 = .ok (.getfield 9, 3) := by decide +kernel
theorem dJ0_indexOf_7cf53_11 : decode cJ0_indexOf_7cf53 11 = .ok (.iload_n 1, 1) := by decide +kernel
theorem dJ0_indexOf_7cf53_12 : decode cJ0_indexOf_7cf53 12 = .ok (.iload_n 2, 1) := by decide +kernel
theorem dJ0_indexOf_7cf53_13 : decode cJ0_indexOf_7cf53 13 = .ok (.aload_n 0, 1) := by decide +kernel
theorem dJ0_indexOf_7cf53_14 : decode cJ0_indexOf_7cf53 14 = .ok (.invokevirtual 505, 3) := by decide +kernel
theorem dJ0_indexOf_7cf53_17 : decode cJ0_indexOf_7cf53 17 = .ok (.invokestatic 637, 3) := by decide +kernel
theorem dJ0_indexOf_7cf53_20 : decode cJ0_indexOf_7cf53 20 = .ok (.goto 16, 3) := by decide +kernel
theorem dJ0_indexOf_7cf53_23 : decode cJ0_indexOf_7cf53 23 = .ok (.aload_n 0, 1) := by decide +kernel
theorem dJ0_indexOf_7cf53_24 : decode cJ0_indexOf_7cf53 24 = .ok (.getfield 9, 3) := by decide +kernel
theorem dJ0_indexOf_7cf53_27 : decode cJ0_indexOf_7cf53 27 = .ok (.iload_n 1, 1) := by decide +kernel
theorem dJ0_indexOf_7cf53_28 : decode cJ0_indexOf_7cf53 28 = .ok (.iload_n 2, 1) := by decide +kernel
theorem dJ0_indexOf_7cf53_29 : decode cJ0_indexOf_7cf53 29 = .ok (.aload_n 0, 1) := by decide +kernel
theorem dJ0_indexOf_7cf53_30 : decode cJ0_indexOf_7cf53 30 = .ok (.invokevirtual 505, 3) := by decide +kernel
theorem dJ0_indexOf_7cf53_33 : decode cJ0_indexOf_7cf53 33 = .ok (.invokestatic 640, 3) := by decide +kernel
theorem dJ0_indexOf_7cf53_36 : decode cJ0_indexOf_7cf53 36 = .ok (.ireturn, 1) := by decide +kernel
def f_J0_indexOf_7cf53 (p1 : Int32) (p2 : Int32) (S : gSt) : Option (Int32 × gSt) :=
gBind2 (f_J0_isLatin1_aae02 S) fun r3 S1 =>
(if r3 = 0 then
gBind2 (f_J0_length_8abf5 S1) fun r7 S5 =>
none
else
gBind2 (f_J0_length_8abf5 S1) fun r10 S8 =>
gBind2 (f_J1_indexOf_4cfef p1 p2 r10 S8) fun r13 S11 =>
some (r13, S11))
set_option maxHeartbeats 4000000 in
set_option maxRecDepth 20000 in
theorem ok_J0_indexOf_7cf53 {p1 : Int32} {p2 : Int32} {S S0 : gSt} {r0 : Int32}  (h : f_J0_indexOf_7cf53 p1 p2 S = some (r0, S0)) : gCT yJ0_indexOf_7cf53 cJ0_indexOf_7cf53 3 (some .int) 2 (fun w => [.ref (w.2.2.2 2), .int p1, .int p2]) S (some (.int r0)) S0 := by
  refine gEnter (fun X => [some (.ref ((gw X).2.2.2 2)), some (.int p1), some (.int p2)]) (by decide) (fun X => ⟨rfl, rfl⟩) (fun w => Nat.le_of_ble_eq_true rfl) (fun X hp => ?_)
  show AW X RJ0 2 cJ0_indexOf_7cf53 0 [some (.ref ((gw X).2.2.2 2)), some (.int p1), some (.int p2)] [] S
  unfold f_J0_indexOf_7cf53 at h
  refine a_aloadn (pc := 0) dJ0_indexOf_7cf53_0 rfl rfl ?_
  obtain ⟨r3, S1, hc2, h⟩ := g_bind2 h
  refine a_invTi (pc := 1) (ok_J0_isLatin1_aae02 hc2) gyJ0_isLatin1_aae02 vyJ0_isLatin1_aae02 mlJ0_492 rfl (As := []) rfl rfl (by decide) (st := []) rfl (Nat.le_of_ble_eq_true rfl) dJ0_indexOf_7cf53_1 ?_
  refine a_if_eq (pc := 4) (tgt := 23) dJ0_indexOf_7cf53_4 (by decide) (fun c4 => ?_) (fun c4 => ?_)
  · rw [if_pos c4] at h
    refine a_aloadn (pc := 23) dJ0_indexOf_7cf53_23 rfl rfl ?_
    refine a_value (pc := 24) fjJ0_9 dJ0_indexOf_7cf53_24 ?_
    refine a_iloadn (pc := 27) dJ0_indexOf_7cf53_27 rfl rfl ?_
    refine a_iloadn (pc := 28) dJ0_indexOf_7cf53_28 rfl rfl ?_
    refine a_aloadn (pc := 29) dJ0_indexOf_7cf53_29 rfl rfl ?_
    obtain ⟨r7, S5, hc6, h⟩ := g_bind2 h
    refine a_invTi (pc := 30) (ok_J0_length_8abf5 hc6) gyJ0_length_8abf5 vyJ0_length_8abf5 mlJ0_505 rfl (As := []) rfl rfl (by decide) (st := [.int p2, .int p1, .ref ((gw X).2.2.2 3)]) rfl (Nat.le_of_ble_eq_true rfl) dJ0_indexOf_7cf53_30 ?_
    cases h
  · rw [if_neg c4] at h
    refine a_aloadn (pc := 7) dJ0_indexOf_7cf53_7 rfl rfl ?_
    refine a_value (pc := 8) fjJ0_9 dJ0_indexOf_7cf53_8 ?_
    refine a_iloadn (pc := 11) dJ0_indexOf_7cf53_11 rfl rfl ?_
    refine a_iloadn (pc := 12) dJ0_indexOf_7cf53_12 rfl rfl ?_
    refine a_aloadn (pc := 13) dJ0_indexOf_7cf53_13 rfl rfl ?_
    obtain ⟨r10, S8, hc9, h⟩ := g_bind2 h
    refine a_invTi (pc := 14) (ok_J0_length_8abf5 hc9) gyJ0_length_8abf5 vyJ0_length_8abf5 mlJ0_505 rfl (As := []) rfl rfl (by decide) (st := [.int p2, .int p1, .ref ((gw X).2.2.2 3)]) rfl (Nat.le_of_ble_eq_true rfl) dJ0_indexOf_7cf53_14 ?_
    obtain ⟨r13, S11, hc12, h⟩ := g_bind2 h
    refine a_invSi (pc := 17) (ok_J1_indexOf_4cfef hc12) gyJ1_indexOf_4cfef syJ1_indexOf_4cfef mlJ0_637 (As := [.ref ((gw X).2.2.2 3), .int p1, .int p2, .int r10]) rfl rfl (by decide) (st := []) rfl (Nat.le_of_ble_eq_true rfl) dJ0_indexOf_7cf53_17 ?_
    refine a_goto (pc := 20) (tgt := 36) dJ0_indexOf_7cf53_20 (by decide) ?_
    obtain ⟨rfl, rfl⟩ := Prod.mk.inj (Option.some.inj h)
    exact a_iret hp dJ0_indexOf_7cf53_36
theorem dJ0_indexOf_0f7a4_0 : decode cJ0_indexOf_0f7a4 0 = .ok (.aload_n 0, 1) := by decide +kernel
theorem dJ0_indexOf_0f7a4_1 : decode cJ0_indexOf_0f7a4 1 = .ok (.iload_n 1, 1) := by decide +kernel
theorem dJ0_indexOf_0f7a4_2 : decode cJ0_indexOf_0f7a4 2 = .ok (.iconst 0, 1) := by decide +kernel
theorem dJ0_indexOf_0f7a4_3 : decode cJ0_indexOf_0f7a4 3 = .ok (.invokevirtual 633, 3) := by decide +kernel
theorem dJ0_indexOf_0f7a4_6 : decode cJ0_indexOf_0f7a4 6 = .ok (.ireturn, 1) := by decide +kernel
def f_J0_indexOf_0f7a4 (p1 : Int32) (S : gSt) : Option (Int32 × gSt) :=
gBind2 (f_J0_indexOf_7cf53 p1 (0 : Int32) S) fun r3 S1 =>
some (r3, S1)
set_option maxHeartbeats 4000000 in
set_option maxRecDepth 20000 in
theorem ok_J0_indexOf_0f7a4 {p1 : Int32} {S S0 : gSt} {r0 : Int32}  (h : f_J0_indexOf_0f7a4 p1 S = some (r0, S0)) : gCT yJ0_indexOf_0f7a4 cJ0_indexOf_0f7a4 2 (some .int) 3 (fun w => [.ref (w.2.2.2 2), .int p1]) S (some (.int r0)) S0 := by
  refine gEnter (fun X => [some (.ref ((gw X).2.2.2 2)), some (.int p1)]) (by decide) (fun X => ⟨rfl, rfl⟩) (fun w => Nat.le_of_ble_eq_true rfl) (fun X hp => ?_)
  show AW X RJ0 3 cJ0_indexOf_0f7a4 0 [some (.ref ((gw X).2.2.2 2)), some (.int p1)] [] S
  unfold f_J0_indexOf_0f7a4 at h
  refine a_aloadn (pc := 0) dJ0_indexOf_0f7a4_0 rfl rfl ?_
  refine a_iloadn (pc := 1) dJ0_indexOf_0f7a4_1 rfl rfl ?_
  refine a_iconst (pc := 2) (v := (0 : Int32)) dJ0_indexOf_0f7a4_2 (by decide) ?_
  obtain ⟨r3, S1, hc2, h⟩ := g_bind2 h
  refine a_invTi (pc := 3) (ok_J0_indexOf_7cf53 hc2) gyJ0_indexOf_7cf53 vyJ0_indexOf_7cf53 mlJ0_633 rfl (As := [.int p1, .int (0 : Int32)]) rfl rfl (by decide) (st := []) rfl (Nat.le_of_ble_eq_true rfl) dJ0_indexOf_0f7a4_3 ?_
  obtain ⟨rfl, rfl⟩ := Prod.mk.inj (Option.some.inj h)
  exact a_iret hp dJ0_indexOf_0f7a4_6
theorem dX4_takeKind_0 : decode cX4_takeKind 0 = .ok (.aload_n 0, 1) := by decide +kernel
theorem dX4_takeKind_1 : decode cX4_takeKind 1 = .ok (.invokevirtual 48, 3) := by decide +kernel
theorem dX4_takeKind_4 : decode cX4_takeKind 4 = .ok (.aload_n 0, 1) := by decide +kernel
theorem dX4_takeKind_5 : decode cX4_takeKind 5 = .ok (.getfield 28, 3) := by decide +kernel
theorem dX4_takeKind_8 : decode cX4_takeKind 8 = .ok (.aload_n 0, 1) := by decide +kernel
theorem dX4_takeKind_9 : decode cX4_takeKind 9 = .ok (.getfield 24, 3) := by decide +kernel
theorem dX4_takeKind_12 : decode cX4_takeKind 12 = .ok (.if_icmp .ge 21, 3) := by decide +kernel
theorem dX4_takeKind_15 : decode cX4_takeKind 15 = .ok (.ldc 55, 2) := by decide +kernel
theorem dX4_takeKind_17 : decode cX4_takeKind 17 = .ok (.aload_n 0, 1) := by decide +kernel
theorem dX4_takeKind_18 : decode cX4_takeKind 18 = .ok (.getfield 9, 3) := by decide +kernel
theorem dX4_takeKind_21 : decode cX4_takeKind 21 = .ok (.aload_n 0, 1) := by decide +kernel
theorem dX4_takeKind_22 : decode cX4_takeKind 22 = .ok (.getfield 28, 3) := by decide +kernel
theorem dX4_takeKind_25 : decode cX4_takeKind 25 = .ok (.iaload, 1) := by decide +kernel
theorem dX4_takeKind_26 : decode cX4_takeKind 26 = .ok (.i2c, 1) := by decide +kernel
theorem dX4_takeKind_27 : decode cX4_takeKind 27 = .ok (.invokevirtual 57, 3) := by decide +kernel
theorem dX4_takeKind_30 : decode cX4_takeKind 30 = .ok (.goto 4, 3) := by decide +kernel
theorem dX4_takeKind_33 : decode cX4_takeKind 33 = .ok (.iconst (-1), 1) := by decide +kernel
theorem dX4_takeKind_34 : decode cX4_takeKind 34 = .ok (.istore_n 1, 1) := by decide +kernel
theorem dX4_takeKind_35 : decode cX4_takeKind 35 = .ok (.iload_n 1, 1) := by decide +kernel
theorem dX4_takeKind_36 : decode cX4_takeKind 36 = .ok (.ifCond .lt 13, 3) := by decide +kernel
theorem dX4_takeKind_39 : decode cX4_takeKind 39 = .ok (.aload_n 0, 1) := by decide +kernel
theorem dX4_takeKind_40 : decode cX4_takeKind 40 = .ok (.dup, 1) := by decide +kernel
theorem dX4_takeKind_41 : decode cX4_takeKind 41 = .ok (.getfield 28, 3) := by decide +kernel
theorem dX4_takeKind_44 : decode cX4_takeKind 44 = .ok (.iconst 1, 1) := by decide +kernel
theorem dX4_takeKind_45 : decode cX4_takeKind 45 = .ok (.iadd, 1) := by decide +kernel
theorem dX4_takeKind_46 : decode cX4_takeKind 46 = .ok (.putfield 28, 3) := by decide +kernel
theorem dX4_takeKind_49 : decode cX4_takeKind 49 = .ok (.iload_n 1, 1) := by decide +kernel
theorem dX4_takeKind_50 : decode cX4_takeKind 50 = .ok (.ireturn, 1) := by decide +kernel
def f_X4_takeKind_j34 (t0 : Int32) (S : gSt) : Option (Int32 × gSt) :=
(if t0 < 0 then
some (t0, S)
else
gLet (gI S 27 5 ((S.1 27 5) + (1 : Int32))) fun S2 =>
some (t0, S2))
def f_X4_takeKind (S : gSt) : Option (Int32 × gSt) :=
(f_X4_skipBlanks S).bind fun S3 =>
(if (S3.1 27 4) ≤ (S3.1 27 5) then
f_X4_takeKind_j34 (-1 : Int32) S3
else
if gin (S3.1 27 5) 60 then
(gBind2 (f_J0_indexOf_0f7a4 (((S3.1 28 (S3.1 27 5).toNatClampNeg).toUInt32 % 65536).toInt32) S3) fun r9 S7 =>
f_X4_takeKind_j34 r9 S7) else none)
set_option maxHeartbeats 4000000 in
set_option maxRecDepth 20000 in
theorem ok_X4_takeKind {S S0 : gSt} {r0 : Int32}  (h : f_X4_takeKind S = some (r0, S0)) : gCT yX4_takeKind cX4_takeKind 2 (some .int) 4 (fun w => [.ref (w.2.1 27)]) S (some (.int r0)) S0 := by
  refine gEnter (fun X => [some (.ref (gad X 27)), none]) (by decide) (fun X => ⟨rfl, rfl⟩) (fun w => Nat.le_of_ble_eq_true rfl) (fun X hp => ?_)
  show AW X RX4 4 cX4_takeKind 0 [some (.ref (gad X 27)), none] [] S
  unfold f_X4_takeKind at h
  have J34 : ∀ (t0 : Int32) (S : gSt), f_X4_takeKind_j34 t0 S = some (r0, S0) → AW X RX4 4 cX4_takeKind 34 [some (.ref (gad X 27)), none] [.int t0] S := by
    intro t0 S h
    unfold f_X4_takeKind_j34 at h
    refine a_istoren (pc := 34) dX4_takeKind_34 rfl (Nat.le_of_ble_eq_true rfl) rfl (L' := [some (.ref (gad X 27)), some (.int t0)]) rfl ?_
    refine a_iloadn (pc := 35) dX4_takeKind_35 rfl rfl ?_
    refine a_if_lt (pc := 36) (tgt := 49) dX4_takeKind_36 (by decide) (fun c1 => ?_) (fun c1 => ?_)
    · rw [if_pos c1] at h
      refine a_iloadn (pc := 49) dX4_takeKind_49 rfl rfl ?_
      obtain ⟨rfl, rfl⟩ := Prod.mk.inj (Option.some.inj h)
      exact a_iret hp dX4_takeKind_50
    · rw [if_neg c1] at h
      refine a_aloadn (pc := 39) dX4_takeKind_39 rfl rfl ?_
      refine a_dup (pc := 40) dX4_takeKind_40 rfl ?_
      refine a_getI (pc := 41) flX4_28 sh_27 rfl dX4_takeKind_41 ?_
      refine a_iconst (pc := 44) (v := (1 : Int32)) dX4_takeKind_44 (by decide) ?_
      refine a_iadd (pc := 45) dX4_takeKind_45 ?_
      refine a_putI (pc := 46) flX4_28 sh_27 rfl rfl rfl dX4_takeKind_46 ?_
      obtain ⟨S2, eS2, h⟩ := g_let h
      refine a_nmS eS2 ?_
      refine a_iloadn (pc := 49) dX4_takeKind_49 rfl rfl ?_
      obtain ⟨rfl, rfl⟩ := Prod.mk.inj (Option.some.inj h)
      exact a_iret hp dX4_takeKind_50
  refine a_aloadn (pc := 0) dX4_takeKind_0 rfl rfl ?_
  obtain ⟨S3, hc4, h⟩ := g_bind h
  refine a_invVv (pc := 1) (ok_X4_skipBlanks hc4) gyX4_skipBlanks vyX4_skipBlanks mlX4_48 sh_27 rfl (As := []) rfl rfl (by decide) (st := []) rfl (Nat.le_of_ble_eq_true rfl) dX4_takeKind_1 ?_
  refine a_aloadn (pc := 4) dX4_takeKind_4 rfl rfl ?_
  refine a_getI (pc := 5) flX4_28 sh_27 rfl dX4_takeKind_5 ?_
  refine a_aloadn (pc := 8) dX4_takeKind_8 rfl rfl ?_
  refine a_getI (pc := 9) flX4_24 sh_27 rfl dX4_takeKind_9 ?_
  refine a_icmp_ge (pc := 12) (tgt := 33) dX4_takeKind_12 (by decide) (fun c5 => ?_) (fun c5 => ?_)
  · rw [if_pos c5] at h
    refine a_iconst (pc := 33) (v := (-1 : Int32)) dX4_takeKind_33 (by decide) ?_
    exact J34 _ _ h
  · rw [if_neg c5] at h
    refine a_ldcS (pc := 15) dX4_takeKind_15 ?_
    refine a_aloadn (pc := 17) dX4_takeKind_17 rfl rfl ?_
    refine a_getA (pc := 18) flX4_9 sh_27 rfl dX4_takeKind_18 ?_
    refine a_aloadn (pc := 21) dX4_takeKind_21 rfl rfl ?_
    refine a_getI (pc := 22) flX4_28 sh_27 rfl dX4_takeKind_22 ?_
    obtain ⟨hi6, h⟩ := g_if h
    refine a_iald (pc := 25) sh_28 hi6 dX4_takeKind_25 ?_
    refine a_i2c (pc := 26) dX4_takeKind_26 ?_
    obtain ⟨r9, S7, hc8, h⟩ := g_bind2 h
    refine a_invTi (pc := 27) (ok_J0_indexOf_0f7a4 hc8) gyJ0_indexOf_0f7a4 vyJ0_indexOf_0f7a4 mlX4_57 rfl (As := [.int (((S3.1 28 (S3.1 27 5).toNatClampNeg).toUInt32 % 65536).toInt32)]) rfl rfl (by decide) (st := []) rfl (Nat.le_of_ble_eq_true rfl) dX4_takeKind_27 ?_
    refine a_goto (pc := 30) (tgt := 34) dX4_takeKind_30 (by decide) ?_
    exact J34 _ _ h
theorem dX4_takeWalker_0 : decode cX4_takeWalker 0 = .ok (.aload_n 0, 1) := by decide +kernel
theorem dX4_takeWalker_1 : decode cX4_takeWalker 1 = .ok (.invokevirtual 51, 3) := by decide +kernel
theorem dX4_takeWalker_4 : decode cX4_takeWalker 4 = .ok (.istore_n 2, 1) := by decide +kernel
theorem dX4_takeWalker_5 : decode cX4_takeWalker 5 = .ok (.iload_n 2, 1) := by decide +kernel
theorem dX4_takeWalker_6 : decode cX4_takeWalker 6 = .ok (.ifCond .ge 7, 3) := by decide +kernel
theorem dX4_takeWalker_9 : decode cX4_takeWalker 9 = .ok (.iconst (-1), 1) := by decide +kernel
theorem dX4_takeWalker_10 : decode cX4_takeWalker 10 = .ok (.goto 11, 3) := by decide +kernel
theorem dX4_takeWalker_13 : decode cX4_takeWalker 13 = .ok (.aload_n 0, 1) := by decide +kernel
theorem dX4_takeWalker_14 : decode cX4_takeWalker 14 = .ok (.bipush 49, 2) := by decide +kernel
theorem dX4_takeWalker_16 : decode cX4_takeWalker 16 = .ok (.bipush 57, 2) := by decide +kernel
theorem dX4_takeWalker_18 : decode cX4_takeWalker 18 = .ok (.invokevirtual 40, 3) := by decide +kernel
theorem dX4_takeWalker_21 : decode cX4_takeWalker 21 = .ok (.istore_n 3, 1) := by decide +kernel
theorem dX4_takeWalker_22 : decode cX4_takeWalker 22 = .ok (.iload_n 3, 1) := by decide +kernel
theorem dX4_takeWalker_23 : decode cX4_takeWalker 23 = .ok (.ifCond .ge 7, 3) := by decide +kernel
theorem dX4_takeWalker_26 : decode cX4_takeWalker 26 = .ok (.iconst (-1), 1) := by decide +kernel
theorem dX4_takeWalker_27 : decode cX4_takeWalker 27 = .ok (.goto 11, 3) := by decide +kernel
theorem dX4_takeWalker_30 : decode cX4_takeWalker 30 = .ok (.aload_n 0, 1) := by decide +kernel
theorem dX4_takeWalker_31 : decode cX4_takeWalker 31 = .ok (.bipush 48, 2) := by decide +kernel
theorem dX4_takeWalker_33 : decode cX4_takeWalker 33 = .ok (.bipush 55, 2) := by decide +kernel
theorem dX4_takeWalker_35 : decode cX4_takeWalker 35 = .ok (.invokevirtual 40, 3) := by decide +kernel
theorem dX4_takeWalker_38 : decode cX4_takeWalker 38 = .ok (.istore 4, 2) := by decide +kernel
theorem dX4_takeWalker_40 : decode cX4_takeWalker 40 = .ok (.iload 4, 2) := by decide +kernel
theorem dX4_takeWalker_42 : decode cX4_takeWalker 42 = .ok (.ifCond .ge 7, 3) := by decide +kernel
theorem dX4_takeWalker_45 : decode cX4_takeWalker 45 = .ok (.iconst (-1), 1) := by decide +kernel
theorem dX4_takeWalker_46 : decode cX4_takeWalker 46 = .ok (.goto 11, 3) := by decide +kernel
theorem dX4_takeWalker_49 : decode cX4_takeWalker 49 = .ok (.aload_n 0, 1) := by decide +kernel
theorem dX4_takeWalker_50 : decode cX4_takeWalker 50 = .ok (.bipush 48, 2) := by decide +kernel
theorem dX4_takeWalker_52 : decode cX4_takeWalker 52 = .ok (.bipush 55, 2) := by decide +kernel
theorem dX4_takeWalker_54 : decode cX4_takeWalker 54 = .ok (.invokevirtual 40, 3) := by decide +kernel
theorem dX4_takeWalker_57 : decode cX4_takeWalker 57 = .ok (.istore 5, 2) := by decide +kernel
theorem dX4_takeWalker_59 : decode cX4_takeWalker 59 = .ok (.iload 5, 2) := by decide +kernel
theorem dX4_takeWalker_61 : decode cX4_takeWalker 61 = .ok (.ifCond .ge 5, 3) := by decide +kernel
theorem dX4_takeWalker_64 : decode cX4_takeWalker 64 = .ok (.iconst 0, 1) := by decide +kernel
theorem dX4_takeWalker_65 : decode cX4_takeWalker 65 = .ok (.ireturn, 1) := by decide +kernel
theorem dX4_takeWalker_66 : decode cX4_takeWalker 66 = .ok (.aload_n 0, 1) := by decide +kernel
theorem dX4_takeWalker_67 : decode cX4_takeWalker 67 = .ok (.getfield 15, 3) := by decide +kernel
theorem dX4_takeWalker_70 : decode cX4_takeWalker 70 = .ok (.iload_n 1, 1) := by decide +kernel
theorem dX4_takeWalker_71 : decode cX4_takeWalker 71 = .ok (.iload_n 2, 1) := by decide +kernel
theorem dX4_takeWalker_72 : decode cX4_takeWalker 72 = .ok (.iastore, 1) := by decide +kernel
theorem dX4_takeWalker_73 : decode cX4_takeWalker 73 = .ok (.aload_n 0, 1) := by decide +kernel
theorem dX4_takeWalker_74 : decode cX4_takeWalker 74 = .ok (.getfield 18, 3) := by decide +kernel
theorem dX4_takeWalker_77 : decode cX4_takeWalker 77 = .ok (.iload_n 1, 1) := by decide +kernel
theorem dX4_takeWalker_78 : decode cX4_takeWalker 78 = .ok (.iload_n 3, 1) := by decide +kernel
theorem dX4_takeWalker_79 : decode cX4_takeWalker 79 = .ok (.iconst 1, 1) := by decide +kernel
theorem dX4_takeWalker_80 : decode cX4_takeWalker 80 = .ok (.iadd, 1) := by decide +kernel
theorem dX4_takeWalker_81 : decode cX4_takeWalker 81 = .ok (.iastore, 1) := by decide +kernel
theorem dX4_takeWalker_82 : decode cX4_takeWalker 82 = .ok (.aload_n 0, 1) := by decide +kernel
theorem dX4_takeWalker_83 : decode cX4_takeWalker 83 = .ok (.getfield 21, 3) := by decide +kernel
theorem dX4_takeWalker_86 : decode cX4_takeWalker 86 = .ok (.iload_n 1, 1) := by decide +kernel
theorem dX4_takeWalker_87 : decode cX4_takeWalker 87 = .ok (.iload 5, 2) := by decide +kernel
theorem dX4_takeWalker_89 : decode cX4_takeWalker 89 = .ok (.bipush 8, 2) := by decide +kernel
theorem dX4_takeWalker_91 : decode cX4_takeWalker 91 = .ok (.imul, 1) := by decide +kernel
theorem dX4_takeWalker_92 : decode cX4_takeWalker 92 = .ok (.iload 4, 2) := by decide +kernel
theorem dX4_takeWalker_94 : decode cX4_takeWalker 94 = .ok (.iadd, 1) := by decide +kernel
theorem dX4_takeWalker_95 : decode cX4_takeWalker 95 = .ok (.iastore, 1) := by decide +kernel
theorem dX4_takeWalker_96 : decode cX4_takeWalker 96 = .ok (.iconst 1, 1) := by decide +kernel
theorem dX4_takeWalker_97 : decode cX4_takeWalker 97 = .ok (.ireturn, 1) := by decide +kernel
def f_X4_takeWalker_j57 (x1 : Int32) (x2 : Int32) (x3 : Int32) (x4 : Int32) (t0 : Int32) (S : gSt) : Option (Int32 × gSt) :=
(if 0 ≤ t0 then
if gin x1 6 then
gLet (gI S 29 x1.toNatClampNeg x2) fun S3 =>
(if gin x1 6 then
gLet (gI S3 30 x1.toNatClampNeg (x3 + (1 : Int32))) fun S5 =>
(if gin x1 6 then
gLet (gI S5 31 x1.toNatClampNeg ((t0 * (8 : Int32)) + x4)) fun S7 =>
(some ((1 : Int32), S7)) else none) else none) else none
else
some ((0 : Int32), S))
def f_X4_takeWalker_j38 (x1 : Int32) (x2 : Int32) (x3 : Int32) (t0 : Int32) (S : gSt) : Option (Int32 × gSt) :=
(if 0 ≤ t0 then
gBind2 (f_X4_take (48 : Int32) (55 : Int32) S) fun r11 S9 =>
f_X4_takeWalker_j57 x1 x2 x3 t0 r11 S9
else
f_X4_takeWalker_j57 x1 x2 x3 t0 (-1 : Int32) S)
def f_X4_takeWalker_j21 (x1 : Int32) (x2 : Int32) (t0 : Int32) (S : gSt) : Option (Int32 × gSt) :=
(if 0 ≤ t0 then
gBind2 (f_X4_take (48 : Int32) (55 : Int32) S) fun r15 S13 =>
f_X4_takeWalker_j38 x1 x2 t0 r15 S13
else
f_X4_takeWalker_j38 x1 x2 t0 (-1 : Int32) S)
def f_X4_takeWalker (p1 : Int32) (S : gSt) : Option (Int32 × gSt) :=
gBind2 (f_X4_takeKind S) fun r18 S16 =>
(if 0 ≤ r18 then
gBind2 (f_X4_take (49 : Int32) (57 : Int32) S16) fun r22 S20 =>
f_X4_takeWalker_j21 p1 r18 r22 S20
else
f_X4_takeWalker_j21 p1 r18 (-1 : Int32) S16)
set_option maxHeartbeats 4000000 in
set_option maxRecDepth 20000 in
theorem ok_X4_takeWalker {p1 : Int32} {S S0 : gSt} {r0 : Int32}  (h : f_X4_takeWalker p1 S = some (r0, S0)) : gCT yX4_takeWalker cX4_takeWalker 6 (some .boolean) 5 (fun w => [.ref (w.2.1 27), .int p1]) S (some (.int r0)) S0 := by
  refine gEnter (fun X => [some (.ref (gad X 27)), some (.int p1), none, none, none, none]) (by decide) (fun X => ⟨rfl, rfl⟩) (fun w => Nat.le_of_ble_eq_true rfl) (fun X hp => ?_)
  show AW X RX4 5 cX4_takeWalker 0 [some (.ref (gad X 27)), some (.int p1), none, none, none, none] [] S
  unfold f_X4_takeWalker at h
  have J57 : ∀ (x1 : Int32) (x2 : Int32) (x3 : Int32) (x4 : Int32) (t0 : Int32) (S : gSt), f_X4_takeWalker_j57 x1 x2 x3 x4 t0 S = some (r0, S0) → AW X RX4 5 cX4_takeWalker 57 [some (.ref (gad X 27)), some (.int x1), some (.int x2), some (.int x3), some (.int x4), none] [.int t0] S := by
    intro x1 x2 x3 x4 t0 S h
    unfold f_X4_takeWalker_j57 at h
    refine a_istore (pc := 57) dX4_takeWalker_57 (Nat.le_of_ble_eq_true rfl) rfl (L' := [some (.ref (gad X 27)), some (.int x1), some (.int x2), some (.int x3), some (.int x4), some (.int t0)]) rfl ?_
    refine a_iload (pc := 59) dX4_takeWalker_59 rfl ?_
    refine a_if_ge (pc := 61) (tgt := 66) dX4_takeWalker_61 (by decide) (fun c1 => ?_) (fun c1 => ?_)
    · rw [if_pos c1] at h
      refine a_aloadn (pc := 66) dX4_takeWalker_66 rfl rfl ?_
      refine a_getA (pc := 67) flX4_15 sh_27 rfl dX4_takeWalker_67 ?_
      refine a_iloadn (pc := 70) dX4_takeWalker_70 rfl rfl ?_
      refine a_iloadn (pc := 71) dX4_takeWalker_71 rfl rfl ?_
      obtain ⟨hi2, h⟩ := g_if h
      refine a_iast (pc := 72) sh_29 hi2 dX4_takeWalker_72 ?_
      obtain ⟨S3, eS3, h⟩ := g_let h
      refine a_nmS eS3 ?_
      refine a_aloadn (pc := 73) dX4_takeWalker_73 rfl rfl ?_
      refine a_getA (pc := 74) flX4_18 sh_27 rfl dX4_takeWalker_74 ?_
      refine a_iloadn (pc := 77) dX4_takeWalker_77 rfl rfl ?_
      refine a_iloadn (pc := 78) dX4_takeWalker_78 rfl rfl ?_
      refine a_iconst (pc := 79) (v := (1 : Int32)) dX4_takeWalker_79 (by decide) ?_
      refine a_iadd (pc := 80) dX4_takeWalker_80 ?_
      obtain ⟨hi4, h⟩ := g_if h
      refine a_iast (pc := 81) sh_30 hi4 dX4_takeWalker_81 ?_
      obtain ⟨S5, eS5, h⟩ := g_let h
      refine a_nmS eS5 ?_
      refine a_aloadn (pc := 82) dX4_takeWalker_82 rfl rfl ?_
      refine a_getA (pc := 83) flX4_21 sh_27 rfl dX4_takeWalker_83 ?_
      refine a_iloadn (pc := 86) dX4_takeWalker_86 rfl rfl ?_
      refine a_iload (pc := 87) dX4_takeWalker_87 rfl ?_
      refine a_bipush (pc := 89) (v := (8 : Int32)) dX4_takeWalker_89 (by decide) ?_
      refine a_imul (pc := 91) dX4_takeWalker_91 ?_
      refine a_iload (pc := 92) dX4_takeWalker_92 rfl ?_
      refine a_iadd (pc := 94) dX4_takeWalker_94 ?_
      obtain ⟨hi6, h⟩ := g_if h
      refine a_iast (pc := 95) sh_31 hi6 dX4_takeWalker_95 ?_
      obtain ⟨S7, eS7, h⟩ := g_let h
      refine a_nmS eS7 ?_
      refine a_iconst (pc := 96) (v := (1 : Int32)) dX4_takeWalker_96 (by decide) ?_
      obtain ⟨rfl, rfl⟩ := Prod.mk.inj (Option.some.inj h)
      exact a_zret hp rfl  dX4_takeWalker_97
    · rw [if_neg c1] at h
      refine a_iconst (pc := 64) (v := (0 : Int32)) dX4_takeWalker_64 (by decide) ?_
      obtain ⟨rfl, rfl⟩ := Prod.mk.inj (Option.some.inj h)
      exact a_zret hp rfl  dX4_takeWalker_65
  have J38 : ∀ (x1 : Int32) (x2 : Int32) (x3 : Int32) (t0 : Int32) (S : gSt), f_X4_takeWalker_j38 x1 x2 x3 t0 S = some (r0, S0) → AW X RX4 5 cX4_takeWalker 38 [some (.ref (gad X 27)), some (.int x1), some (.int x2), some (.int x3), none, none] [.int t0] S := by
    intro x1 x2 x3 t0 S h
    unfold f_X4_takeWalker_j38 at h
    refine a_istore (pc := 38) dX4_takeWalker_38 (Nat.le_of_ble_eq_true rfl) rfl (L' := [some (.ref (gad X 27)), some (.int x1), some (.int x2), some (.int x3), some (.int t0), none]) rfl ?_
    refine a_iload (pc := 40) dX4_takeWalker_40 rfl ?_
    refine a_if_ge (pc := 42) (tgt := 49) dX4_takeWalker_42 (by decide) (fun c8 => ?_) (fun c8 => ?_)
    · rw [if_pos c8] at h
      refine a_aloadn (pc := 49) dX4_takeWalker_49 rfl rfl ?_
      refine a_bipush (pc := 50) (v := (48 : Int32)) dX4_takeWalker_50 (by decide) ?_
      refine a_bipush (pc := 52) (v := (55 : Int32)) dX4_takeWalker_52 (by decide) ?_
      obtain ⟨r11, S9, hc10, h⟩ := g_bind2 h
      refine a_invVi (pc := 54) (ok_X4_take hc10) gyX4_take vyX4_take mlX4_40 sh_27 rfl (As := [.int (48 : Int32), .int (55 : Int32)]) rfl rfl (by decide) (st := []) rfl (Nat.le_of_ble_eq_true rfl) dX4_takeWalker_54 ?_
      exact J57 _ _ _ _ _ _ h
    · rw [if_neg c8] at h
      refine a_iconst (pc := 45) (v := (-1 : Int32)) dX4_takeWalker_45 (by decide) ?_
      refine a_goto (pc := 46) (tgt := 57) dX4_takeWalker_46 (by decide) ?_
      exact J57 _ _ _ _ _ _ h
  have J21 : ∀ (x1 : Int32) (x2 : Int32) (t0 : Int32) (S : gSt), f_X4_takeWalker_j21 x1 x2 t0 S = some (r0, S0) → AW X RX4 5 cX4_takeWalker 21 [some (.ref (gad X 27)), some (.int x1), some (.int x2), none, none, none] [.int t0] S := by
    intro x1 x2 t0 S h
    unfold f_X4_takeWalker_j21 at h
    refine a_istoren (pc := 21) dX4_takeWalker_21 rfl (Nat.le_of_ble_eq_true rfl) rfl (L' := [some (.ref (gad X 27)), some (.int x1), some (.int x2), some (.int t0), none, none]) rfl ?_
    refine a_iloadn (pc := 22) dX4_takeWalker_22 rfl rfl ?_
    refine a_if_ge (pc := 23) (tgt := 30) dX4_takeWalker_23 (by decide) (fun c12 => ?_) (fun c12 => ?_)
    · rw [if_pos c12] at h
      refine a_aloadn (pc := 30) dX4_takeWalker_30 rfl rfl ?_
      refine a_bipush (pc := 31) (v := (48 : Int32)) dX4_takeWalker_31 (by decide) ?_
      refine a_bipush (pc := 33) (v := (55 : Int32)) dX4_takeWalker_33 (by decide) ?_
      obtain ⟨r15, S13, hc14, h⟩ := g_bind2 h
      refine a_invVi (pc := 35) (ok_X4_take hc14) gyX4_take vyX4_take mlX4_40 sh_27 rfl (As := [.int (48 : Int32), .int (55 : Int32)]) rfl rfl (by decide) (st := []) rfl (Nat.le_of_ble_eq_true rfl) dX4_takeWalker_35 ?_
      exact J38 _ _ _ _ _ h
    · rw [if_neg c12] at h
      refine a_iconst (pc := 26) (v := (-1 : Int32)) dX4_takeWalker_26 (by decide) ?_
      refine a_goto (pc := 27) (tgt := 38) dX4_takeWalker_27 (by decide) ?_
      exact J38 _ _ _ _ _ h
  refine a_aloadn (pc := 0) dX4_takeWalker_0 rfl rfl ?_
  obtain ⟨r18, S16, hc17, h⟩ := g_bind2 h
  refine a_invVi (pc := 1) (ok_X4_takeKind hc17) gyX4_takeKind vyX4_takeKind mlX4_51 sh_27 rfl (As := []) rfl rfl (by decide) (st := []) rfl (Nat.le_of_ble_eq_true rfl) dX4_takeWalker_1 ?_
  refine a_istoren (pc := 4) dX4_takeWalker_4 rfl (Nat.le_of_ble_eq_true rfl) rfl (L' := [some (.ref (gad X 27)), some (.int p1), some (.int r18), none, none, none]) rfl ?_
  refine a_iloadn (pc := 5) dX4_takeWalker_5 rfl rfl ?_
  refine a_if_ge (pc := 6) (tgt := 13) dX4_takeWalker_6 (by decide) (fun c19 => ?_) (fun c19 => ?_)
  · rw [if_pos c19] at h
    refine a_aloadn (pc := 13) dX4_takeWalker_13 rfl rfl ?_
    refine a_bipush (pc := 14) (v := (49 : Int32)) dX4_takeWalker_14 (by decide) ?_
    refine a_bipush (pc := 16) (v := (57 : Int32)) dX4_takeWalker_16 (by decide) ?_
    obtain ⟨r22, S20, hc21, h⟩ := g_bind2 h
    refine a_invVi (pc := 18) (ok_X4_take hc21) gyX4_take vyX4_take mlX4_40 sh_27 rfl (As := [.int (49 : Int32), .int (57 : Int32)]) rfl rfl (by decide) (st := []) rfl (Nat.le_of_ble_eq_true rfl) dX4_takeWalker_18 ?_
    exact J21 _ _ _ _ h
  · rw [if_neg c19] at h
    refine a_iconst (pc := 9) (v := (-1 : Int32)) dX4_takeWalker_9 (by decide) ?_
    refine a_goto (pc := 10) (tgt := 21) dX4_takeWalker_10 (by decide) ?_
    exact J21 _ _ _ _ h
theorem dX4_parse_0 : decode cX4_parse 0 = .ok (.aload_n 0, 1) := by decide +kernel
theorem dX4_parse_1 : decode cX4_parse 1 = .ok (.iconst 0, 1) := by decide +kernel
theorem dX4_parse_2 : decode cX4_parse 2 = .ok (.putfield 28, 3) := by decide +kernel
theorem dX4_parse_5 : decode cX4_parse 5 = .ok (.aload_n 0, 1) := by decide +kernel
theorem dX4_parse_6 : decode cX4_parse 6 = .ok (.iconst 0, 1) := by decide +kernel
theorem dX4_parse_7 : decode cX4_parse 7 = .ok (.putfield 37, 3) := by decide +kernel
theorem dX4_parse_10 : decode cX4_parse 10 = .ok (.aload_n 0, 1) := by decide +kernel
theorem dX4_parse_11 : decode cX4_parse 11 = .ok (.aload_n 0, 1) := by decide +kernel
theorem dX4_parse_12 : decode cX4_parse 12 = .ok (.bipush 48, 2) := by decide +kernel
theorem dX4_parse_14 : decode cX4_parse 14 = .ok (.bipush 57, 2) := by decide +kernel
theorem dX4_parse_16 : decode cX4_parse 16 = .ok (.invokevirtual 40, 3) := by decide +kernel
theorem dX4_parse_19 : decode cX4_parse 19 = .ok (.putfield 31, 3) := by decide +kernel
theorem dX4_parse_22 : decode cX4_parse 22 = .ok (.aload_n 0, 1) := by decide +kernel
theorem dX4_parse_23 : decode cX4_parse 23 = .ok (.aload_n 0, 1) := by decide +kernel
theorem dX4_parse_24 : decode cX4_parse 24 = .ok (.getfield 31, 3) := by decide +kernel
theorem dX4_parse_27 : decode cX4_parse 27 = .ok (.ifCond .ge 7, 3) := by decide +kernel
theorem dX4_parse_30 : decode cX4_parse 30 = .ok (.iconst (-1), 1) := by decide +kernel
theorem dX4_parse_31 : decode cX4_parse 31 = .ok (.goto 11, 3) := by decide +kernel
theorem dX4_parse_34 : decode cX4_parse 34 = .ok (.aload_n 0, 1) := by decide +kernel
theorem dX4_parse_35 : decode cX4_parse 35 = .ok (.bipush 48, 2) := by decide +kernel
theorem dX4_parse_37 : decode cX4_parse 37 = .ok (.bipush 51, 2) := by decide +kernel
theorem dX4_parse_39 : decode cX4_parse 39 = .ok (.invokevirtual 40, 3) := by decide +kernel
theorem dX4_parse_42 : decode cX4_parse 42 = .ok (.putfield 34, 3) := by decide +kernel
theorem dX4_parse_45 : decode cX4_parse 45 = .ok (.aload_n 0, 1) := by decide +kernel
theorem dX4_parse_46 : decode cX4_parse 46 = .ok (.getfield 34, 3) := by decide +kernel
theorem dX4_parse_49 : decode cX4_parse 49 = .ok (.ifCond .lt 14, 3) := by decide +kernel
theorem dX4_parse_52 : decode cX4_parse 52 = .ok (.aload_n 0, 1) := by decide +kernel
theorem dX4_parse_53 : decode cX4_parse 53 = .ok (.bipush 59, 2) := by decide +kernel
theorem dX4_parse_55 : decode cX4_parse 55 = .ok (.bipush 59, 2) := by decide +kernel
theorem dX4_parse_57 : decode cX4_parse 57 = .ok (.invokevirtual 40, 3) := by decide +kernel
theorem dX4_parse_60 : decode cX4_parse 60 = .ok (.ifCond .ge 11, 3) := by decide +kernel
theorem dX4_parse_63 : decode cX4_parse 63 = .ok (.bipush (-20), 2) := by decide +kernel
theorem dX4_parse_65 : decode cX4_parse 65 = .ok (.aload_n 0, 1) := by decide +kernel
theorem dX4_parse_66 : decode cX4_parse 66 = .ok (.getfield 28, 3) := by decide +kernel
theorem dX4_parse_69 : decode cX4_parse 69 = .ok (.isub, 1) := by decide +kernel
theorem dX4_parse_70 : decode cX4_parse 70 = .ok (.ireturn, 1) := by decide +kernel
theorem dX4_parse_71 : decode cX4_parse 71 = .ok (.iconst 0, 1) := by decide +kernel
theorem dX4_parse_72 : decode cX4_parse 72 = .ok (.istore_n 1, 1) := by decide +kernel
theorem dX4_parse_73 : decode cX4_parse 73 = .ok (.iload_n 1, 1) := by decide +kernel
theorem dX4_parse_74 : decode cX4_parse 74 = .ok (.bipush 6, 2) := by decide +kernel
theorem dX4_parse_76 : decode cX4_parse 76 = .ok (.if_icmp .ge 67, 3) := by decide +kernel
theorem dX4_parse_79 : decode cX4_parse 79 = .ok (.iload_n 1, 1) := by decide +kernel
theorem dX4_parse_80 : decode cX4_parse 80 = .ok (.ifCond .le 14, 3) := by decide +kernel
theorem dX4_parse_83 : decode cX4_parse 83 = .ok (.aload_n 0, 1) := by decide +kernel
theorem dX4_parse_84 : decode cX4_parse 84 = .ok (.bipush 44, 2) := by decide +kernel
theorem dX4_parse_86 : decode cX4_parse 86 = .ok (.bipush 44, 2) := by decide +kernel
theorem dX4_parse_88 : decode cX4_parse 88 = .ok (.invokevirtual 40, 3) := by decide +kernel
theorem dX4_parse_91 : decode cX4_parse 91 = .ok (.ifCond .lt 11, 3) := by decide +kernel
theorem dX4_parse_94 : decode cX4_parse 94 = .ok (.aload_n 0, 1) := by decide +kernel
theorem dX4_parse_95 : decode cX4_parse 95 = .ok (.iload_n 1, 1) := by decide +kernel
theorem dX4_parse_96 : decode cX4_parse 96 = .ok (.invokevirtual 44, 3) := by decide +kernel
theorem dX4_parse_99 : decode cX4_parse 99 = .ok (.ifCond .ne 11, 3) := by decide +kernel
theorem dX4_parse_102 : decode cX4_parse 102 = .ok (.bipush (-20), 2) := by decide +kernel
theorem dX4_parse_104 : decode cX4_parse 104 = .ok (.aload_n 0, 1) := by decide +kernel
theorem dX4_parse_105 : decode cX4_parse 105 = .ok (.getfield 28, 3) := by decide +kernel
theorem dX4_parse_108 : decode cX4_parse 108 = .ok (.isub, 1) := by decide +kernel
theorem dX4_parse_109 : decode cX4_parse 109 = .ok (.ireturn, 1) := by decide +kernel
theorem dX4_parse_110 : decode cX4_parse 110 = .ok (.aload_n 0, 1) := by decide +kernel
theorem dX4_parse_111 : decode cX4_parse 111 = .ok (.iload_n 1, 1) := by decide +kernel
theorem dX4_parse_112 : decode cX4_parse 112 = .ok (.iconst 1, 1) := by decide +kernel
theorem dX4_parse_113 : decode cX4_parse 113 = .ok (.iadd, 1) := by decide +kernel
theorem dX4_parse_114 : decode cX4_parse 114 = .ok (.putfield 37, 3) := by decide +kernel
theorem dX4_parse_117 : decode cX4_parse 117 = .ok (.aload_n 0, 1) := by decide +kernel
theorem dX4_parse_118 : decode cX4_parse 118 = .ok (.invokevirtual 48, 3) := by decide +kernel
theorem dX4_parse_121 : decode cX4_parse 121 = .ok (.aload_n 0, 1) := by decide +kernel
theorem dX4_parse_122 : decode cX4_parse 122 = .ok (.getfield 28, 3) := by decide +kernel
theorem dX4_parse_125 : decode cX4_parse 125 = .ok (.aload_n 0, 1) := by decide +kernel
theorem dX4_parse_126 : decode cX4_parse 126 = .ok (.getfield 24, 3) := by decide +kernel
theorem dX4_parse_129 : decode cX4_parse 129 = .ok (.if_icmp .lt 8, 3) := by decide +kernel
theorem dX4_parse_132 : decode cX4_parse 132 = .ok (.aload_n 0, 1) := by decide +kernel
theorem dX4_parse_133 : decode cX4_parse 133 = .ok (.getfield 37, 3) := by decide +kernel
theorem dX4_parse_136 : decode cX4_parse 136 = .ok (.ireturn, 1) := by decide +kernel
theorem dX4_parse_137 : decode cX4_parse 137 = .ok (.iinc 1 1, 3) := by decide +kernel
theorem dX4_parse_140 : decode cX4_parse 140 = .ok (.goto (-67), 3) := by decide +kernel
theorem dX4_parse_143 : decode cX4_parse 143 = .ok (.bipush (-20), 2) := by decide +kernel
theorem dX4_parse_145 : decode cX4_parse 145 = .ok (.aload_n 0, 1) := by decide +kernel
theorem dX4_parse_146 : decode cX4_parse 146 = .ok (.getfield 28, 3) := by decide +kernel
theorem dX4_parse_149 : decode cX4_parse 149 = .ok (.isub, 1) := by decide +kernel
theorem dX4_parse_150 : decode cX4_parse 150 = .ok (.ireturn, 1) := by decide +kernel
def f_X4_parse_j94 (x1 : Int32) (S : gSt) : Option ((Int32 × gSt) ⊕ ((Int32 × gSt) ⊕ (gSt))) :=
gBind2 (f_X4_takeWalker x1 S) fun r9 S7 =>
(if r9 = 0 then
some (.inr (.inl ((-20 : Int32) - (S7.1 27 5), S7)))
else
gLet (gI S7 27 8 (x1 + (1 : Int32))) fun S11 =>
(f_X4_skipBlanks S11).bind fun S12 =>
(if (S12.1 27 5) < (S12.1 27 4) then
some (.inl (x1 + (1 : Int32), S12))
else
some (.inr (.inl (S12.1 27 8, S12)))))
def f_X4_parse_s73_b (x1 : Int32) (S : gSt) : Option ((Int32 × gSt) ⊕ ((Int32 × gSt) ⊕ (gSt))) :=
(if (6 : Int32) ≤ x1 then
some (.inr (.inr (S)))
else
(if x1 ≤ 0 then
f_X4_parse_j94 x1 S
else
gBind2 (f_X4_take (44 : Int32) (44 : Int32) S) fun r19 S17 =>
(if r19 < 0 then
some (.inr (.inl ((-20 : Int32) - (S17.1 27 5), S17)))
else
f_X4_parse_j94 x1 S17)))
def f_X4_parse_s73 : (Int32 × gSt) → Option ((Int32 × gSt) ⊕ ((Int32 × gSt) ⊕ (gSt))) := fun t => f_X4_parse_s73_b t.1 t.2
def f_X4_parse_j42 (t0 : Int32) (S : gSt) : Option (Int32 × gSt) :=
gLet (gI S 27 7 t0) fun S1 =>
(if (S1.1 27 7) < 0 then
some ((-20 : Int32) - (S1.1 27 5), S1)
else
gBind2 (f_X4_take (59 : Int32) (59 : Int32) S1) fun r5 S3 =>
(if 0 ≤ r5 then
(gLoop (f_X4_parse_s73) gFuel ((0 : Int32), S3)).bind fun q21 => match q21 with
| .inl (v21, T21) => some (v21, T21)
| .inr S21 =>
some ((-20 : Int32) - (S21.1 27 5), S21)
else
some ((-20 : Int32) - (S3.1 27 5), S3)))
def f_X4_parse (S : gSt) : Option (Int32 × gSt) :=
gLet (gI S 27 5 (0 : Int32)) fun S22 =>
gLet (gI S22 27 8 (0 : Int32)) fun S23 =>
gBind2 (f_X4_take (48 : Int32) (57 : Int32) S23) fun r26 S24 =>
gLet (gI S24 27 6 r26) fun S27 =>
(if 0 ≤ (S27.1 27 6) then
gBind2 (f_X4_take (48 : Int32) (51 : Int32) S27) fun r31 S29 =>
f_X4_parse_j42 r31 S29
else
f_X4_parse_j42 (-1 : Int32) S27)
set_option maxHeartbeats 4000000 in
set_option maxRecDepth 20000 in
theorem ok_X4_parse {S S0 : gSt} {r0 : Int32}  (h : f_X4_parse S = some (r0, S0)) : gCT yX4_parse cX4_parse 2 (some .int) 6 (fun w => [.ref (w.2.1 27)]) S (some (.int r0)) S0 := by
  refine gEnter (fun X => [some (.ref (gad X 27)), none]) (by decide) (fun X => ⟨rfl, rfl⟩) (fun w => Nat.le_of_ble_eq_true rfl) (fun X hp => ?_)
  show AW X RX4 6 cX4_parse 0 [some (.ref (gad X 27)), none] [] S
  unfold f_X4_parse at h
  have J42 : ∀ (t0 : Int32) (S : gSt), f_X4_parse_j42 t0 S = some (r0, S0) → AW X RX4 6 cX4_parse 42 [some (.ref (gad X 27)), none] [.int t0, .ref (gad X 27)] S := by
    intro t0 S h
    unfold f_X4_parse_j42 at h
    refine a_putI (pc := 42) flX4_34 sh_27 rfl rfl rfl dX4_parse_42 ?_
    obtain ⟨S1, eS1, h⟩ := g_let h
    refine a_nmS eS1 ?_
    refine a_aloadn (pc := 45) dX4_parse_45 rfl rfl ?_
    refine a_getI (pc := 46) flX4_34 sh_27 rfl dX4_parse_46 ?_
    refine a_if_lt (pc := 49) (tgt := 63) dX4_parse_49 (by decide) (fun c2 => ?_) (fun c2 => ?_)
    · rw [if_pos c2] at h
      refine a_bipush (pc := 63) (v := (-20 : Int32)) dX4_parse_63 (by decide) ?_
      refine a_aloadn (pc := 65) dX4_parse_65 rfl rfl ?_
      refine a_getI (pc := 66) flX4_28 sh_27 rfl dX4_parse_66 ?_
      refine a_isub (pc := 69) dX4_parse_69 ?_
      obtain ⟨rfl, rfl⟩ := Prod.mk.inj (Option.some.inj h)
      exact a_iret hp dX4_parse_70
    · rw [if_neg c2] at h
      refine a_aloadn (pc := 52) dX4_parse_52 rfl rfl ?_
      refine a_bipush (pc := 53) (v := (59 : Int32)) dX4_parse_53 (by decide) ?_
      refine a_bipush (pc := 55) (v := (59 : Int32)) dX4_parse_55 (by decide) ?_
      obtain ⟨r5, S3, hc4, h⟩ := g_bind2 h
      refine a_invVi (pc := 57) (ok_X4_take hc4) gyX4_take vyX4_take mlX4_40 sh_27 rfl (As := [.int (59 : Int32), .int (59 : Int32)]) rfl rfl (by decide) (st := []) rfl (Nat.le_of_ble_eq_true rfl) dX4_parse_57 ?_
      refine a_if_ge (pc := 60) (tgt := 71) dX4_parse_60 (by decide) (fun c6 => ?_) (fun c6 => ?_)
      · rw [if_pos c6] at h
        refine a_iconst (pc := 71) (v := (0 : Int32)) dX4_parse_71 (by decide) ?_
        refine a_istoren (pc := 72) dX4_parse_72 rfl (Nat.le_of_ble_eq_true rfl) rfl (L' := [some (.ref (gad X 27)), some (.int (0 : Int32))]) rfl ?_
        obtain ⟨R21, hR21, h⟩ := g_bind h
        have E73 : ∀  (S21 : gSt), (some ((-20 : Int32) - (S21.1 27 5), S21)) = some (r0, S0) → AW X RX4 6 cX4_parse 143 [some (.ref (gad X 27)), none] [] S21 := by
          intro S21 h
          refine a_bipush (pc := 143) (v := (-20 : Int32)) dX4_parse_143 (by decide) ?_
          refine a_aloadn (pc := 145) dX4_parse_145 rfl rfl ?_
          refine a_getI (pc := 146) flX4_28 sh_27 rfl dX4_parse_146 ?_
          refine a_isub (pc := 149) dX4_parse_149 ?_
          obtain ⟨rfl, rfl⟩ := Prod.mk.inj (Option.some.inj h)
          exact a_iret hp dX4_parse_150
        have lp : ∀ (n : Nat) (x1 : Int32) (S : gSt), gLoop (f_X4_parse_s73) n (x1, S) = some R21 → AW X RX4 6 cX4_parse 73 [some (.ref (gad X 27)), some (.int x1)] [] S := by
          intro n
          induction n with
          | zero => intro x1 S hR; cases hR
          | succ n ih =>
            intro x1 S hR
            obtain ⟨q, hs, hR⟩ := g_bind hR
            have hs : f_X4_parse_s73_b x1 S = some q := hs
            unfold f_X4_parse_s73_b at hs
            have J94 : ∀ (x1 : Int32) (S : gSt), f_X4_parse_j94 x1 S = some q → AW X RX4 6 cX4_parse 94 [some (.ref (gad X 27)), some (.int x1)] [] S := by
              intro x1 S hs
              unfold f_X4_parse_j94 at hs
              refine a_aloadn (pc := 94) dX4_parse_94 rfl rfl ?_
              refine a_iloadn (pc := 95) dX4_parse_95 rfl rfl ?_
              obtain ⟨r9, S7, hc8, hs⟩ := g_bind2 hs
              refine a_invVi (pc := 96) (ok_X4_takeWalker hc8) gyX4_takeWalker vyX4_takeWalker mlX4_44 sh_27 rfl (As := [.int x1]) rfl rfl (by decide) (st := []) rfl (Nat.le_of_ble_eq_true rfl) dX4_parse_96 ?_
              refine a_if_ne (pc := 99) (tgt := 110) dX4_parse_99 (by decide) (fun c10 => ?_) (fun c10 => ?_)
              · rw [if_neg c10] at hs
                refine a_aloadn (pc := 110) dX4_parse_110 rfl rfl ?_
                refine a_iloadn (pc := 111) dX4_parse_111 rfl rfl ?_
                refine a_iconst (pc := 112) (v := (1 : Int32)) dX4_parse_112 (by decide) ?_
                refine a_iadd (pc := 113) dX4_parse_113 ?_
                refine a_putI (pc := 114) flX4_37 sh_27 rfl rfl rfl dX4_parse_114 ?_
                obtain ⟨S11, eS11, hs⟩ := g_let hs
                refine a_nmS eS11 ?_
                refine a_aloadn (pc := 117) dX4_parse_117 rfl rfl ?_
                obtain ⟨S12, hc13, hs⟩ := g_bind hs
                refine a_invVv (pc := 118) (ok_X4_skipBlanks hc13) gyX4_skipBlanks vyX4_skipBlanks mlX4_48 sh_27 rfl (As := []) rfl rfl (by decide) (st := []) rfl (Nat.le_of_ble_eq_true rfl) dX4_parse_118 ?_
                refine a_aloadn (pc := 121) dX4_parse_121 rfl rfl ?_
                refine a_getI (pc := 122) flX4_28 sh_27 rfl dX4_parse_122 ?_
                refine a_aloadn (pc := 125) dX4_parse_125 rfl rfl ?_
                refine a_getI (pc := 126) flX4_24 sh_27 rfl dX4_parse_126 ?_
                refine a_icmp_lt (pc := 129) (tgt := 137) dX4_parse_129 (by decide) (fun c14 => ?_) (fun c14 => ?_)
                · rw [if_pos c14] at hs
                  refine a_iinc (pc := 137) dX4_parse_137 rfl (v := x1 + (1 : Int32)) rfl (Nat.le_of_ble_eq_true rfl) rfl (L' := [some (.ref (gad X 27)), some (.int (x1 + (1 : Int32)))]) rfl ?_
                  refine a_goto (pc := 140) (tgt := 73) dX4_parse_140 (by decide) ?_
                  obtain rfl := Option.some.inj hs
                  exact ih _ _ hR
                · rw [if_neg c14] at hs
                  refine a_aloadn (pc := 132) dX4_parse_132 rfl rfl ?_
                  refine a_getI (pc := 133) flX4_37 sh_27 rfl dX4_parse_133 ?_
                  obtain rfl := Option.some.inj hs
                  obtain rfl := Option.some.inj hR
                  obtain ⟨rfl, rfl⟩ := Prod.mk.inj (Option.some.inj h)
                  exact a_iret hp dX4_parse_136
              · rw [if_pos c10] at hs
                refine a_bipush (pc := 102) (v := (-20 : Int32)) dX4_parse_102 (by decide) ?_
                refine a_aloadn (pc := 104) dX4_parse_104 rfl rfl ?_
                refine a_getI (pc := 105) flX4_28 sh_27 rfl dX4_parse_105 ?_
                refine a_isub (pc := 108) dX4_parse_108 ?_
                obtain rfl := Option.some.inj hs
                obtain rfl := Option.some.inj hR
                obtain ⟨rfl, rfl⟩ := Prod.mk.inj (Option.some.inj h)
                exact a_iret hp dX4_parse_109
            refine a_iloadn (pc := 73) dX4_parse_73 rfl rfl ?_
            refine a_bipush (pc := 74) (v := (6 : Int32)) dX4_parse_74 (by decide) ?_
            refine a_icmp_ge (pc := 76) (tgt := 143) dX4_parse_76 (by decide) (fun c15 => ?_) (fun c15 => ?_)
            · rw [if_pos c15] at hs
              obtain rfl := Option.some.inj hs
              obtain rfl := Option.some.inj hR
              refine a_mask [true, false] (L' := [some (.ref (gad X 27)), none]) rfl ?_
              exact E73  _ h
            · rw [if_neg c15] at hs
              refine a_iloadn (pc := 79) dX4_parse_79 rfl rfl ?_
              refine a_if_le (pc := 80) (tgt := 94) dX4_parse_80 (by decide) (fun c16 => ?_) (fun c16 => ?_)
              · rw [if_pos c16] at hs
                exact J94 _ _ hs
              · rw [if_neg c16] at hs
                refine a_aloadn (pc := 83) dX4_parse_83 rfl rfl ?_
                refine a_bipush (pc := 84) (v := (44 : Int32)) dX4_parse_84 (by decide) ?_
                refine a_bipush (pc := 86) (v := (44 : Int32)) dX4_parse_86 (by decide) ?_
                obtain ⟨r19, S17, hc18, hs⟩ := g_bind2 hs
                refine a_invVi (pc := 88) (ok_X4_take hc18) gyX4_take vyX4_take mlX4_40 sh_27 rfl (As := [.int (44 : Int32), .int (44 : Int32)]) rfl rfl (by decide) (st := []) rfl (Nat.le_of_ble_eq_true rfl) dX4_parse_88 ?_
                refine a_if_lt (pc := 91) (tgt := 102) dX4_parse_91 (by decide) (fun c20 => ?_) (fun c20 => ?_)
                · rw [if_pos c20] at hs
                  refine a_bipush (pc := 102) (v := (-20 : Int32)) dX4_parse_102 (by decide) ?_
                  refine a_aloadn (pc := 104) dX4_parse_104 rfl rfl ?_
                  refine a_getI (pc := 105) flX4_28 sh_27 rfl dX4_parse_105 ?_
                  refine a_isub (pc := 108) dX4_parse_108 ?_
                  obtain rfl := Option.some.inj hs
                  obtain rfl := Option.some.inj hR
                  obtain ⟨rfl, rfl⟩ := Prod.mk.inj (Option.some.inj h)
                  exact a_iret hp dX4_parse_109
                · rw [if_neg c20] at hs
                  exact J94 _ _ hs
        exact lp _ _ _ hR21
      · rw [if_neg c6] at h
        refine a_bipush (pc := 63) (v := (-20 : Int32)) dX4_parse_63 (by decide) ?_
        refine a_aloadn (pc := 65) dX4_parse_65 rfl rfl ?_
        refine a_getI (pc := 66) flX4_28 sh_27 rfl dX4_parse_66 ?_
        refine a_isub (pc := 69) dX4_parse_69 ?_
        obtain ⟨rfl, rfl⟩ := Prod.mk.inj (Option.some.inj h)
        exact a_iret hp dX4_parse_70
  refine a_aloadn (pc := 0) dX4_parse_0 rfl rfl ?_
  refine a_iconst (pc := 1) (v := (0 : Int32)) dX4_parse_1 (by decide) ?_
  refine a_putI (pc := 2) flX4_28 sh_27 rfl rfl rfl dX4_parse_2 ?_
  obtain ⟨S22, eS22, h⟩ := g_let h
  refine a_nmS eS22 ?_
  refine a_aloadn (pc := 5) dX4_parse_5 rfl rfl ?_
  refine a_iconst (pc := 6) (v := (0 : Int32)) dX4_parse_6 (by decide) ?_
  refine a_putI (pc := 7) flX4_37 sh_27 rfl rfl rfl dX4_parse_7 ?_
  obtain ⟨S23, eS23, h⟩ := g_let h
  refine a_nmS eS23 ?_
  refine a_aloadn (pc := 10) dX4_parse_10 rfl rfl ?_
  refine a_aloadn (pc := 11) dX4_parse_11 rfl rfl ?_
  refine a_bipush (pc := 12) (v := (48 : Int32)) dX4_parse_12 (by decide) ?_
  refine a_bipush (pc := 14) (v := (57 : Int32)) dX4_parse_14 (by decide) ?_
  obtain ⟨r26, S24, hc25, h⟩ := g_bind2 h
  refine a_invVi (pc := 16) (ok_X4_take hc25) gyX4_take vyX4_take mlX4_40 sh_27 rfl (As := [.int (48 : Int32), .int (57 : Int32)]) rfl rfl (by decide) (st := [.ref (gad X 27)]) rfl (Nat.le_of_ble_eq_true rfl) dX4_parse_16 ?_
  refine a_putI (pc := 19) flX4_31 sh_27 rfl rfl rfl dX4_parse_19 ?_
  obtain ⟨S27, eS27, h⟩ := g_let h
  refine a_nmS eS27 ?_
  refine a_aloadn (pc := 22) dX4_parse_22 rfl rfl ?_
  refine a_aloadn (pc := 23) dX4_parse_23 rfl rfl ?_
  refine a_getI (pc := 24) flX4_31 sh_27 rfl dX4_parse_24 ?_
  refine a_if_ge (pc := 27) (tgt := 34) dX4_parse_27 (by decide) (fun c28 => ?_) (fun c28 => ?_)
  · rw [if_pos c28] at h
    refine a_aloadn (pc := 34) dX4_parse_34 rfl rfl ?_
    refine a_bipush (pc := 35) (v := (48 : Int32)) dX4_parse_35 (by decide) ?_
    refine a_bipush (pc := 37) (v := (51 : Int32)) dX4_parse_37 (by decide) ?_
    obtain ⟨r31, S29, hc30, h⟩ := g_bind2 h
    refine a_invVi (pc := 39) (ok_X4_take hc30) gyX4_take vyX4_take mlX4_40 sh_27 rfl (As := [.int (48 : Int32), .int (51 : Int32)]) rfl rfl (by decide) (st := [.ref (gad X 27)]) rfl (Nat.le_of_ble_eq_true rfl) dX4_parse_39 ?_
    exact J42 _ _ h
  · rw [if_neg c28] at h
    refine a_iconst (pc := 30) (v := (-1 : Int32)) dX4_parse_30 (by decide) ?_
    refine a_goto (pc := 31) (tgt := 42) dX4_parse_31 (by decide) ?_
    exact J42 _ _ h
def f_J7_fill_53178_7_s5_b (x1 : Int32) (x2 : Int32) (x3 : Int32) (S : gSt) : Option ((Int32 × Int32 × Int32 × gSt) ⊕ (gSt)) :=
(if x3 ≤ x2 then
some (.inr (S))
else
if gin x2 384 then
gLet (gI S 7 x2.toNatClampNeg x1) fun S3 =>
(some (.inl (x1, x2 + (1 : Int32), x3, S3))) else none)
def f_J7_fill_53178_7_s5 : (Int32 × Int32 × Int32 × gSt) → Option ((Int32 × Int32 × Int32 × gSt) ⊕ (gSt)) := fun t => f_J7_fill_53178_7_s5_b t.1 t.2.1 t.2.2.1 t.2.2.2
def f_J7_fill_53178_7 (p1 : Int32) (S : gSt) : Option gSt :=
(gLoop (f_J7_fill_53178_7_s5) gFuel (p1, (0 : Int32), (384 : Int32), S)).bind fun q4 => match q4 with
| S4 =>
some S4
set_option maxHeartbeats 4000000 in
set_option maxRecDepth 20000 in
theorem ok_J7_fill_53178_7 {p1 : Int32} {S S0 : gSt}  (h : f_J7_fill_53178_7 p1 S = some S0) : gCT yJ7_fill_53178 cJ7_fill_53178 4 none 0 (fun w => [.ref (w.2.1 7), .int p1]) S none S0 := by
  refine gEnter (fun X => [some (.ref (gad X 7)), some (.int p1), none, none]) (by decide) (fun X => ⟨rfl, rfl⟩) (fun w => Nat.le_of_ble_eq_true rfl) (fun X hp => ?_)
  show AW X RJ7 0 cJ7_fill_53178 0 [some (.ref (gad X 7)), some (.int p1), none, none] [] S
  unfold f_J7_fill_53178_7 at h
  refine a_iconst (pc := 0) (v := (0 : Int32)) dJ7_fill_53178_0 (by decide) ?_
  refine a_istoren (pc := 1) dJ7_fill_53178_1 rfl (Nat.le_of_ble_eq_true rfl) rfl (L' := [some (.ref (gad X 7)), some (.int p1), some (.int (0 : Int32)), none]) rfl ?_
  refine a_aloadn (pc := 2) dJ7_fill_53178_2 rfl rfl ?_
  refine a_alen (pc := 3) sh_7 (by decide) (v := (384 : Int32)) (by decide) dJ7_fill_53178_3 ?_
  refine a_istoren (pc := 4) dJ7_fill_53178_4 rfl (Nat.le_of_ble_eq_true rfl) rfl (L' := [some (.ref (gad X 7)), some (.int p1), some (.int (0 : Int32)), some (.int (384 : Int32))]) rfl ?_
  obtain ⟨R4, hR4, h⟩ := g_bind h
  have E5 : ∀  (S4 : gSt), (some S4) = some S0 → AW X RJ7 0 cJ7_fill_53178 20 [none, none, none, none] [] S4 := by
    intro S4 h
    obtain rfl := Option.some.inj h
    exact a_vret hp dJ7_fill_53178_20
  have lp : ∀ (n : Nat) (x1 : Int32) (x2 : Int32) (x3 : Int32) (S : gSt), gLoop (f_J7_fill_53178_7_s5) n (x1, x2, x3, S) = some R4 → AW X RJ7 0 cJ7_fill_53178 5 [some (.ref (gad X 7)), some (.int x1), some (.int x2), some (.int x3)] [] S := by
    intro n
    induction n with
    | zero => intro x1 x2 x3 S hR; cases hR
    | succ n ih =>
      intro x1 x2 x3 S hR
      obtain ⟨q, hs, hR⟩ := g_bind hR
      have hs : f_J7_fill_53178_7_s5_b x1 x2 x3 S = some q := hs
      unfold f_J7_fill_53178_7_s5_b at hs
      refine a_iloadn (pc := 5) dJ7_fill_53178_5 rfl rfl ?_
      refine a_iloadn (pc := 6) dJ7_fill_53178_6 rfl rfl ?_
      refine a_icmp_ge (pc := 7) (tgt := 20) dJ7_fill_53178_7 (by decide) (fun c1 => ?_) (fun c1 => ?_)
      · rw [if_pos c1] at hs
        obtain rfl := Option.some.inj hs
        obtain rfl := Option.some.inj hR
        refine a_mask [false, false, false, false] (L' := [none, none, none, none]) rfl ?_
        exact E5  _ h
      · rw [if_neg c1] at hs
        refine a_aloadn (pc := 10) dJ7_fill_53178_10 rfl rfl ?_
        refine a_iloadn (pc := 11) dJ7_fill_53178_11 rfl rfl ?_
        refine a_iloadn (pc := 12) dJ7_fill_53178_12 rfl rfl ?_
        obtain ⟨hi2, hs⟩ := g_if hs
        refine a_iast (pc := 13) sh_7 hi2 dJ7_fill_53178_13 ?_
        obtain ⟨S3, eS3, hs⟩ := g_let hs
        refine a_nmS eS3 ?_
        refine a_iinc (pc := 14) dJ7_fill_53178_14 rfl (v := x2 + (1 : Int32)) rfl (Nat.le_of_ble_eq_true rfl) rfl (L' := [some (.ref (gad X 7)), some (.int x1), some (.int (x2 + (1 : Int32))), some (.int x3)]) rfl ?_
        refine a_goto (pc := 17) (tgt := 5) dJ7_fill_53178_17 (by decide) ?_
        obtain rfl := Option.some.inj hs
        exact ih _ _ _ _ hR
  exact lp _ _ _ _ _ hR4
