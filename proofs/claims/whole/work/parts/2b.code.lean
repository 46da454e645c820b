theorem dX6_isle_0 : decode cX6_isle 0 = .ok (.iload_n 1, 1) := by decide +kernel
theorem dX6_isle_1 : decode cX6_isle 1 = .ok (.ifCond .lt 26, 3) := by decide +kernel
theorem dX6_isle_4 : decode cX6_isle 4 = .ok (.iload_n 1, 1) := by decide +kernel
theorem dX6_isle_5 : decode cX6_isle 5 = .ok (.iconst 4, 1) := by decide +kernel
theorem dX6_isle_6 : decode cX6_isle 6 = .ok (.if_icmp .gt 21, 3) := by decide +kernel
theorem dX6_isle_9 : decode cX6_isle 9 = .ok (.iload_n 2, 1) := by decide +kernel
theorem dX6_isle_10 : decode cX6_isle 10 = .ok (.getstatic 102, 3) := by decide +kernel
theorem dX6_isle_13 : decode cX6_isle 13 = .ok (.iload_n 1, 1) := by decide +kernel
theorem dX6_isle_14 : decode cX6_isle 14 = .ok (.iaload, 1) := by decide +kernel
theorem dX6_isle_15 : decode cX6_isle 15 = .ok (.if_icmp .lt 12, 3) := by decide +kernel
theorem dX6_isle_18 : decode cX6_isle 18 = .ok (.iload_n 2, 1) := by decide +kernel
theorem dX6_isle_19 : decode cX6_isle 19 = .ok (.getstatic 105, 3) := by decide +kernel
theorem dX6_isle_22 : decode cX6_isle 22 = .ok (.iload_n 1, 1) := by decide +kernel
theorem dX6_isle_23 : decode cX6_isle 23 = .ok (.iaload, 1) := by decide +kernel
theorem dX6_isle_24 : decode cX6_isle 24 = .ok (.if_icmp .le 5, 3) := by decide +kernel
theorem dX6_isle_27 : decode cX6_isle 27 = .ok (.iconst (-1), 1) := by decide +kernel
theorem dX6_isle_28 : decode cX6_isle 28 = .ok (.ireturn, 1) := by decide +kernel
theorem dX6_isle_29 : decode cX6_isle 29 = .ok (.aload_n 0, 1) := by decide +kernel
theorem dX6_isle_30 : decode cX6_isle 30 = .ok (.getfield 12, 3) := by decide +kernel
theorem dX6_isle_33 : decode cX6_isle 33 = .ok (.getfield 108, 3) := by decide +kernel
theorem dX6_isle_36 : decode cX6_isle 36 = .ok (.iload_n 1, 1) := by decide +kernel
theorem dX6_isle_37 : decode cX6_isle 37 = .ok (.iaload, 1) := by decide +kernel
theorem dX6_isle_38 : decode cX6_isle 38 = .ok (.istore_n 3, 1) := by decide +kernel
theorem dX6_isle_39 : decode cX6_isle 39 = .ok (.aload_n 0, 1) := by decide +kernel
theorem dX6_isle_40 : decode cX6_isle 40 = .ok (.getfield 12, 3) := by decide +kernel
theorem dX6_isle_43 : decode cX6_isle 43 = .ok (.getfield 108, 3) := by decide +kernel
theorem dX6_isle_46 : decode cX6_isle 46 = .ok (.iload_n 1, 1) := by decide +kernel
theorem dX6_isle_47 : decode cX6_isle 47 = .ok (.iload_n 2, 1) := by decide +kernel
theorem dX6_isle_48 : decode cX6_isle 48 = .ok (.iastore, 1) := by decide +kernel
theorem dX6_isle_49 : decode cX6_isle 49 = .ok (.iload_n 3, 1) := by decide +kernel
theorem dX6_isle_50 : decode cX6_isle 50 = .ok (.ireturn, 1) := by decide +kernel
def f_X6_isle (p1 : Int32) (p2 : Int32) (S : gSt) : Option (Int32 × gSt) :=
(if p1 < 0 then
some ((-1 : Int32), S)
else
(if (4 : Int32) < p1 then
some ((-1 : Int32), S)
else
if gin p1 5 then
((if p2 < (([0, 0, 0, 2, 0] : List Int32).getD p1.toNatClampNeg 0) then
some ((-1 : Int32), S)
else
if gin p1 5 then
((if p2 ≤ (([8, 9, 3, 12, 8] : List Int32).getD p1.toNatClampNeg 0) then
if gin p1 5 then
(gLet (S.1 2 p1.toNatClampNeg) fun v8 =>
if gin p1 5 then
gLet (gI S 2 p1.toNatClampNeg p2) fun S10 =>
(some (v8, S10)) else none) else none
else
some ((-1 : Int32), S))) else none)) else none))
set_option maxHeartbeats 4000000 in
set_option maxRecDepth 20000 in
theorem ok_X6_isle {p1 : Int32} {p2 : Int32} {S S0 : gSt} {r0 : Int32}  (h : f_X6_isle p1 p2 S = some (r0, S0)) : gCT yX6_isle cX6_isle 4 (some .int) 0 (fun w => [.ref (w.2.1 0), .int p1, .int p2]) S (some (.int r0)) S0 := by
  refine gEnter (fun X => [some (.ref (gad X 0)), some (.int p1), some (.int p2), none]) (by decide) (fun X => ⟨rfl, rfl⟩) (fun w => Nat.le_of_ble_eq_true rfl) (fun X hp => ?_)
  show AW X RX6 0 cX6_isle 0 [some (.ref (gad X 0)), some (.int p1), some (.int p2), none] [] S
  unfold f_X6_isle at h
  refine a_iloadn (pc := 0) dX6_isle_0 rfl rfl ?_
  refine a_if_lt (pc := 1) (tgt := 27) dX6_isle_1 (by decide) (fun c1 => ?_) (fun c1 => ?_)
  · rw [if_pos c1] at h
    refine a_iconst (pc := 27) (v := (-1 : Int32)) dX6_isle_27 (by decide) ?_
    obtain ⟨rfl, rfl⟩ := Prod.mk.inj (Option.some.inj h)
    exact a_iret hp dX6_isle_28
  · rw [if_neg c1] at h
    refine a_iloadn (pc := 4) dX6_isle_4 rfl rfl ?_
    refine a_iconst (pc := 5) (v := (4 : Int32)) dX6_isle_5 (by decide) ?_
    refine a_icmp_gt (pc := 6) (tgt := 27) dX6_isle_6 (by decide) (fun c2 => ?_) (fun c2 => ?_)
    · rw [if_pos c2] at h
      refine a_iconst (pc := 27) (v := (-1 : Int32)) dX6_isle_27 (by decide) ?_
      obtain ⟨rfl, rfl⟩ := Prod.mk.inj (Option.some.inj h)
      exact a_iret hp dX6_isle_28
    · rw [if_neg c2] at h
      refine a_iloadn (pc := 9) dX6_isle_9 rfl rfl ?_
      refine a_gets0 (ref := "") (pc := 10) fsX6_102 dX6_isle_10 ?_
      refine a_iloadn (pc := 13) dX6_isle_13 rfl rfl ?_
      obtain ⟨hi3, h⟩ := g_if h
      refine a_sald0 (pc := 14) hi3 dX6_isle_14 ?_
      refine a_icmp_lt (pc := 15) (tgt := 27) dX6_isle_15 (by decide) (fun c4 => ?_) (fun c4 => ?_)
      · rw [if_pos c4] at h
        refine a_iconst (pc := 27) (v := (-1 : Int32)) dX6_isle_27 (by decide) ?_
        obtain ⟨rfl, rfl⟩ := Prod.mk.inj (Option.some.inj h)
        exact a_iret hp dX6_isle_28
      · rw [if_neg c4] at h
        refine a_iloadn (pc := 18) dX6_isle_18 rfl rfl ?_
        refine a_gets1 (ref := "") (pc := 19) fsX6_105 dX6_isle_19 ?_
        refine a_iloadn (pc := 22) dX6_isle_22 rfl rfl ?_
        obtain ⟨hi5, h⟩ := g_if h
        refine a_sald1 (pc := 23) hi5 dX6_isle_23 ?_
        refine a_icmp_le (pc := 24) (tgt := 29) dX6_isle_24 (by decide) (fun c6 => ?_) (fun c6 => ?_)
        · rw [if_pos c6] at h
          refine a_aloadn (pc := 29) dX6_isle_29 rfl rfl ?_
          refine a_getA (pc := 30) flX6_12 sh_0 rfl dX6_isle_30 ?_
          refine a_getA (pc := 33) flX6_108 sh_1 rfl dX6_isle_33 ?_
          refine a_iloadn (pc := 36) dX6_isle_36 rfl rfl ?_
          obtain ⟨hi7, h⟩ := g_if h
          refine a_iald (pc := 37) sh_2 hi7 dX6_isle_37 ?_
          obtain ⟨v8, ev8, h⟩ := g_let h
          refine a_nmI ev8 ?_
          refine a_istoren (pc := 38) dX6_isle_38 rfl (Nat.le_of_ble_eq_true rfl) rfl (L' := [some (.ref (gad X 0)), some (.int p1), some (.int p2), some (.int v8)]) rfl ?_
          refine a_aloadn (pc := 39) dX6_isle_39 rfl rfl ?_
          refine a_getA (pc := 40) flX6_12 sh_0 rfl dX6_isle_40 ?_
          refine a_getA (pc := 43) flX6_108 sh_1 rfl dX6_isle_43 ?_
          refine a_iloadn (pc := 46) dX6_isle_46 rfl rfl ?_
          refine a_iloadn (pc := 47) dX6_isle_47 rfl rfl ?_
          obtain ⟨hi9, h⟩ := g_if h
          refine a_iast (pc := 48) sh_2 hi9 dX6_isle_48 ?_
          obtain ⟨S10, eS10, h⟩ := g_let h
          refine a_nmS eS10 ?_
          refine a_iloadn (pc := 49) dX6_isle_49 rfl rfl ?_
          obtain ⟨rfl, rfl⟩ := Prod.mk.inj (Option.some.inj h)
          exact a_iret hp dX6_isle_50
        · rw [if_neg c6] at h
          refine a_iconst (pc := 27) (v := (-1 : Int32)) dX6_isle_27 (by decide) ?_
          obtain ⟨rfl, rfl⟩ := Prod.mk.inj (Option.some.inj h)
          exact a_iret hp dX6_isle_28
theorem dX6_print_0 : decode cX6_print 0 = .ok (.aload_n 0, 1) := by decide +kernel
theorem dX6_print_1 : decode cX6_print 1 = .ok (.getfield 12, 3) := by decide +kernel
theorem dX6_print_4 : decode cX6_print 4 = .ok (.iload_n 1, 1) := by decide +kernel
theorem dX6_print_5 : decode cX6_print 5 = .ok (.invokevirtual 72, 3) := by decide +kernel
theorem dX6_print_8 : decode cX6_print 8 = .ok (.ifCond .eq 10, 3) := by decide +kernel
theorem dX6_print_11 : decode cX6_print 11 = .ok (.iload_n 2, 1) := by decide +kernel
theorem dX6_print_12 : decode cX6_print 12 = .ok (.invokestatic 51, 3) := by decide +kernel
theorem dX6_print_15 : decode cX6_print 15 = .ok (.ifCond .ne 5, 3) := by decide +kernel
theorem dX6_print_18 : decode cX6_print 18 = .ok (.iconst (-1), 1) := by decide +kernel
theorem dX6_print_19 : decode cX6_print 19 = .ok (.ireturn, 1) := by decide +kernel
theorem dX6_print_20 : decode cX6_print 20 = .ok (.aload_n 0, 1) := by decide +kernel
theorem dX6_print_21 : decode cX6_print 21 = .ok (.getfield 12, 3) := by decide +kernel
theorem dX6_print_24 : decode cX6_print 24 = .ok (.getfield 111, 3) := by decide +kernel
theorem dX6_print_27 : decode cX6_print 27 = .ok (.iload_n 1, 1) := by decide +kernel
theorem dX6_print_28 : decode cX6_print 28 = .ok (.bipush 64, 2) := by decide +kernel
theorem dX6_print_30 : decode cX6_print 30 = .ok (.imul, 1) := by decide +kernel
theorem dX6_print_31 : decode cX6_print 31 = .ok (.iload_n 2, 1) := by decide +kernel
theorem dX6_print_32 : decode cX6_print 32 = .ok (.iadd, 1) := by decide +kernel
theorem dX6_print_33 : decode cX6_print 33 = .ok (.iaload, 1) := by decide +kernel
theorem dX6_print_34 : decode cX6_print 34 = .ok (.ireturn, 1) := by decide +kernel
def f_X6_print (p1 : Int32) (p2 : Int32) (S : gSt) : Option (Int32 × gSt) :=
gBind2 (f_X0_has p1 S) fun r3 S1 =>
(if r3 = 0 then
some ((-1 : Int32), S1)
else
gBind2 (f_X6_isCell p2 S1) fun r7 S5 =>
(if r7 = 0 then
some ((-1 : Int32), S5)
else
if gin ((p1 * (64 : Int32)) + p2) 384 then
(some (S5.1 7 ((p1 * (64 : Int32)) + p2).toNatClampNeg, S5)) else none))
set_option maxHeartbeats 4000000 in
set_option maxRecDepth 20000 in
theorem ok_X6_print {p1 : Int32} {p2 : Int32} {S S0 : gSt} {r0 : Int32}  (h : f_X6_print p1 p2 S = some (r0, S0)) : gCT yX6_print cX6_print 3 (some .int) 1 (fun w => [.ref (w.2.1 0), .int p1, .int p2]) S (some (.int r0)) S0 := by
  refine gEnter (fun X => [some (.ref (gad X 0)), some (.int p1), some (.int p2)]) (by decide) (fun X => ⟨rfl, rfl⟩) (fun w => Nat.le_of_ble_eq_true rfl) (fun X hp => ?_)
  show AW X RX6 1 cX6_print 0 [some (.ref (gad X 0)), some (.int p1), some (.int p2)] [] S
  unfold f_X6_print at h
  refine a_aloadn (pc := 0) dX6_print_0 rfl rfl ?_
  refine a_getA (pc := 1) flX6_12 sh_0 rfl dX6_print_1 ?_
  refine a_iloadn (pc := 4) dX6_print_4 rfl rfl ?_
  obtain ⟨r3, S1, hc2, h⟩ := g_bind2 h
  refine a_invVi (pc := 5) (ok_X0_has hc2) gyX0_has vyX0_has mlX6_72 sh_1 rfl (As := [.int p1]) rfl rfl (by decide) (st := []) rfl (Nat.le_of_ble_eq_true rfl) dX6_print_5 ?_
  refine a_if_eq (pc := 8) (tgt := 18) dX6_print_8 (by decide) (fun c4 => ?_) (fun c4 => ?_)
  · rw [if_pos c4] at h
    refine a_iconst (pc := 18) (v := (-1 : Int32)) dX6_print_18 (by decide) ?_
    obtain ⟨rfl, rfl⟩ := Prod.mk.inj (Option.some.inj h)
    exact a_iret hp dX6_print_19
  · rw [if_neg c4] at h
    refine a_iloadn (pc := 11) dX6_print_11 rfl rfl ?_
    obtain ⟨r7, S5, hc6, h⟩ := g_bind2 h
    refine a_invSi (pc := 12) (ok_X6_isCell hc6) gyX6_isCell syX6_isCell mlX6_51 (As := [.int p2]) rfl rfl (by decide) (st := []) rfl (Nat.le_of_ble_eq_true rfl) dX6_print_12 ?_
    refine a_if_ne (pc := 15) (tgt := 20) dX6_print_15 (by decide) (fun c8 => ?_) (fun c8 => ?_)
    · rw [if_neg c8] at h
      refine a_aloadn (pc := 20) dX6_print_20 rfl rfl ?_
      refine a_getA (pc := 21) flX6_12 sh_0 rfl dX6_print_21 ?_
      refine a_getA (pc := 24) flX6_111 sh_1 rfl dX6_print_24 ?_
      refine a_iloadn (pc := 27) dX6_print_27 rfl rfl ?_
      refine a_bipush (pc := 28) (v := (64 : Int32)) dX6_print_28 (by decide) ?_
      refine a_imul (pc := 30) dX6_print_30 ?_
      refine a_iloadn (pc := 31) dX6_print_31 rfl rfl ?_
      refine a_iadd (pc := 32) dX6_print_32 ?_
      obtain ⟨hi9, h⟩ := g_if h
      refine a_iald (pc := 33) sh_7 hi9 dX6_print_33 ?_
      obtain ⟨rfl, rfl⟩ := Prod.mk.inj (Option.some.inj h)
      exact a_iret hp dX6_print_34
    · rw [if_pos c8] at h
      refine a_iconst (pc := 18) (v := (-1 : Int32)) dX6_print_18 (by decide) ?_
      obtain ⟨rfl, rfl⟩ := Prod.mk.inj (Option.some.inj h)
      exact a_iret hp dX6_print_19
theorem dX6_claim_0 : decode cX6_claim 0 = .ok (.aload_n 0, 1) := by decide +kernel
theorem dX6_claim_1 : decode cX6_claim 1 = .ok (.getfield 12, 3) := by decide +kernel
theorem dX6_claim_4 : decode cX6_claim 4 = .ok (.iload_n 1, 1) := by decide +kernel
theorem dX6_claim_5 : decode cX6_claim 5 = .ok (.invokevirtual 72, 3) := by decide +kernel
theorem dX6_claim_8 : decode cX6_claim 8 = .ok (.ifCond .eq 10, 3) := by decide +kernel
theorem dX6_claim_11 : decode cX6_claim 11 = .ok (.iload_n 2, 1) := by decide +kernel
theorem dX6_claim_12 : decode cX6_claim 12 = .ok (.invokestatic 51, 3) := by decide +kernel
theorem dX6_claim_15 : decode cX6_claim 15 = .ok (.ifCond .ne 5, 3) := by decide +kernel
theorem dX6_claim_18 : decode cX6_claim 18 = .ok (.iconst (-1), 1) := by decide +kernel
theorem dX6_claim_19 : decode cX6_claim 19 = .ok (.ireturn, 1) := by decide +kernel
theorem dX6_claim_20 : decode cX6_claim 20 = .ok (.aload_n 0, 1) := by decide +kernel
theorem dX6_claim_21 : decode cX6_claim 21 = .ok (.getfield 39, 3) := by decide +kernel
theorem dX6_claim_24 : decode cX6_claim 24 = .ok (.aload_n 0, 1) := by decide +kernel
theorem dX6_claim_25 : decode cX6_claim 25 = .ok (.getfield 12, 3) := by decide +kernel
theorem dX6_claim_28 : decode cX6_claim 28 = .ok (.iconst 0, 1) := by decide +kernel
theorem dX6_claim_29 : decode cX6_claim 29 = .ok (.invokevirtual 95, 3) := by decide +kernel
theorem dX6_claim_32 : decode cX6_claim 32 = .ok (.aload_n 0, 1) := by decide +kernel
theorem dX6_claim_33 : decode cX6_claim 33 = .ok (.getfield 39, 3) := by decide +kernel
theorem dX6_claim_36 : decode cX6_claim 36 = .ok (.getfield 114, 3) := by decide +kernel
theorem dX6_claim_39 : decode cX6_claim 39 = .ok (.iload_n 1, 1) := by decide +kernel
theorem dX6_claim_40 : decode cX6_claim 40 = .ok (.bipush 64, 2) := by decide +kernel
theorem dX6_claim_42 : decode cX6_claim 42 = .ok (.imul, 1) := by decide +kernel
theorem dX6_claim_43 : decode cX6_claim 43 = .ok (.iload_n 2, 1) := by decide +kernel
theorem dX6_claim_44 : decode cX6_claim 44 = .ok (.iadd, 1) := by decide +kernel
theorem dX6_claim_45 : decode cX6_claim 45 = .ok (.iaload, 1) := by decide +kernel
theorem dX6_claim_46 : decode cX6_claim 46 = .ok (.ireturn, 1) := by decide +kernel
def f_X6_claim (p1 : Int32) (p2 : Int32) (S : gSt) : Option (Int32 × gSt) :=
gBind2 (f_X0_has p1 S) fun r3 S1 =>
(if r3 = 0 then
some ((-1 : Int32), S1)
else
gBind2 (f_X6_isCell p2 S1) fun r7 S5 =>
(if r7 = 0 then
some ((-1 : Int32), S5)
else
(f_X3_look (0 : Int32) S5).bind fun S9 =>
if gin ((p1 * (64 : Int32)) + p2) 384 then
(some (S9.1 42 ((p1 * (64 : Int32)) + p2).toNatClampNeg, S9)) else none))
set_option maxHeartbeats 4000000 in
set_option maxRecDepth 20000 in
theorem ok_X6_claim {p1 : Int32} {p2 : Int32} {S S0 : gSt} {r0 : Int32}  (h : f_X6_claim p1 p2 S = some (r0, S0)) : gCT yX6_claim cX6_claim 3 (some .int) 4 (fun w => [.ref (w.2.1 0), .int p1, .int p2]) S (some (.int r0)) S0 := by
  refine gEnter (fun X => [some (.ref (gad X 0)), some (.int p1), some (.int p2)]) (by decide) (fun X => ⟨rfl, rfl⟩) (fun w => Nat.le_of_ble_eq_true rfl) (fun X hp => ?_)
  show AW X RX6 4 cX6_claim 0 [some (.ref (gad X 0)), some (.int p1), some (.int p2)] [] S
  unfold f_X6_claim at h
  refine a_aloadn (pc := 0) dX6_claim_0 rfl rfl ?_
  refine a_getA (pc := 1) flX6_12 sh_0 rfl dX6_claim_1 ?_
  refine a_iloadn (pc := 4) dX6_claim_4 rfl rfl ?_
  obtain ⟨r3, S1, hc2, h⟩ := g_bind2 h
  refine a_invVi (pc := 5) (ok_X0_has hc2) gyX0_has vyX0_has mlX6_72 sh_1 rfl (As := [.int p1]) rfl rfl (by decide) (st := []) rfl (Nat.le_of_ble_eq_true rfl) dX6_claim_5 ?_
  refine a_if_eq (pc := 8) (tgt := 18) dX6_claim_8 (by decide) (fun c4 => ?_) (fun c4 => ?_)
  · rw [if_pos c4] at h
    refine a_iconst (pc := 18) (v := (-1 : Int32)) dX6_claim_18 (by decide) ?_
    obtain ⟨rfl, rfl⟩ := Prod.mk.inj (Option.some.inj h)
    exact a_iret hp dX6_claim_19
  · rw [if_neg c4] at h
    refine a_iloadn (pc := 11) dX6_claim_11 rfl rfl ?_
    obtain ⟨r7, S5, hc6, h⟩ := g_bind2 h
    refine a_invSi (pc := 12) (ok_X6_isCell hc6) gyX6_isCell syX6_isCell mlX6_51 (As := [.int p2]) rfl rfl (by decide) (st := []) rfl (Nat.le_of_ble_eq_true rfl) dX6_claim_12 ?_
    refine a_if_ne (pc := 15) (tgt := 20) dX6_claim_15 (by decide) (fun c8 => ?_) (fun c8 => ?_)
    · rw [if_neg c8] at h
      refine a_aloadn (pc := 20) dX6_claim_20 rfl rfl ?_
      refine a_getA (pc := 21) flX6_39 sh_0 rfl dX6_claim_21 ?_
      refine a_aloadn (pc := 24) dX6_claim_24 rfl rfl ?_
      refine a_getA (pc := 25) flX6_12 sh_0 rfl dX6_claim_25 ?_
      refine a_iconst (pc := 28) (v := (0 : Int32)) dX6_claim_28 (by decide) ?_
      obtain ⟨S9, hc10, h⟩ := g_bind h
      refine a_invVv (pc := 29) (ok_X3_look hc10) gyX3_look vyX3_look mlX6_95 sh_41 rfl (As := [.ref (gad X 1), .int (0 : Int32)]) rfl rfl (by decide) (st := []) rfl (Nat.le_of_ble_eq_true rfl) dX6_claim_29 ?_
      refine a_aloadn (pc := 32) dX6_claim_32 rfl rfl ?_
      refine a_getA (pc := 33) flX6_39 sh_0 rfl dX6_claim_33 ?_
      refine a_getA (pc := 36) flX6_114 sh_41 rfl dX6_claim_36 ?_
      refine a_iloadn (pc := 39) dX6_claim_39 rfl rfl ?_
      refine a_bipush (pc := 40) (v := (64 : Int32)) dX6_claim_40 (by decide) ?_
      refine a_imul (pc := 42) dX6_claim_42 ?_
      refine a_iloadn (pc := 43) dX6_claim_43 rfl rfl ?_
      refine a_iadd (pc := 44) dX6_claim_44 ?_
      obtain ⟨hi11, h⟩ := g_if h
      refine a_iald (pc := 45) sh_42 hi11 dX6_claim_45 ?_
      obtain ⟨rfl, rfl⟩ := Prod.mk.inj (Option.some.inj h)
      exact a_iret hp dX6_claim_46
    · rw [if_pos c8] at h
      refine a_iconst (pc := 18) (v := (-1 : Int32)) dX6_claim_18 (by decide) ?_
      obtain ⟨rfl, rfl⟩ := Prod.mk.inj (Option.some.inj h)
      exact a_iret hp dX6_claim_19
theorem dX6_ahead_0 : decode cX6_ahead 0 = .ok (.iload_n 1, 1) := by decide +kernel
theorem dX6_ahead_1 : decode cX6_ahead 1 = .ok (.invokestatic 51, 3) := by decide +kernel
theorem dX6_ahead_4 : decode cX6_ahead 4 = .ok (.ifCond .eq 13, 3) := by decide +kernel
theorem dX6_ahead_7 : decode cX6_ahead 7 = .ok (.iload_n 2, 1) := by decide +kernel
theorem dX6_ahead_8 : decode cX6_ahead 8 = .ok (.ifCond .lt 9, 3) := by decide +kernel
theorem dX6_ahead_11 : decode cX6_ahead 11 = .ok (.iload_n 2, 1) := by decide +kernel
theorem dX6_ahead_12 : decode cX6_ahead 12 = .ok (.bipush 48, 2) := by decide +kernel
theorem dX6_ahead_14 : decode cX6_ahead 14 = .ok (.if_icmp .le 5, 3) := by decide +kernel
theorem dX6_ahead_17 : decode cX6_ahead 17 = .ok (.iconst (-1), 1) := by decide +kernel
theorem dX6_ahead_18 : decode cX6_ahead 18 = .ok (.ireturn, 1) := by decide +kernel
theorem dX6_ahead_19 : decode cX6_ahead 19 = .ok (.aload_n 0, 1) := by decide +kernel
theorem dX6_ahead_20 : decode cX6_ahead 20 = .ok (.getfield 39, 3) := by decide +kernel
theorem dX6_ahead_23 : decode cX6_ahead 23 = .ok (.aload_n 0, 1) := by decide +kernel
theorem dX6_ahead_24 : decode cX6_ahead 24 = .ok (.getfield 12, 3) := by decide +kernel
theorem dX6_ahead_27 : decode cX6_ahead 27 = .ok (.iload_n 2, 1) := by decide +kernel
theorem dX6_ahead_28 : decode cX6_ahead 28 = .ok (.invokevirtual 95, 3) := by decide +kernel
theorem dX6_ahead_31 : decode cX6_ahead 31 = .ok (.aload_n 0, 1) := by decide +kernel
theorem dX6_ahead_32 : decode cX6_ahead 32 = .ok (.getfield 39, 3) := by decide +kernel
theorem dX6_ahead_35 : decode cX6_ahead 35 = .ok (.iload_n 1, 1) := by decide +kernel
theorem dX6_ahead_36 : decode cX6_ahead 36 = .ok (.invokevirtual 176, 3) := by decide +kernel
theorem dX6_ahead_39 : decode cX6_ahead 39 = .ok (.ireturn, 1) := by decide +kernel
def f_X6_ahead (p1 : Int32) (p2 : Int32) (S : gSt) : Option (Int32 × gSt) :=
gBind2 (f_X6_isCell p1 S) fun r3 S1 =>
(if r3 = 0 then
some ((-1 : Int32), S1)
else
(if p2 < 0 then
some ((-1 : Int32), S1)
else
(if p2 ≤ (48 : Int32) then
(f_X3_look p2 S1).bind fun S7 =>
gBind2 (f_X3_holderOf p1 S7) fun r11 S9 =>
some (r11, S9)
else
some ((-1 : Int32), S1))))
set_option maxHeartbeats 4000000 in
set_option maxRecDepth 20000 in
theorem ok_X6_ahead {p1 : Int32} {p2 : Int32} {S S0 : gSt} {r0 : Int32}  (h : f_X6_ahead p1 p2 S = some (r0, S0)) : gCT yX6_ahead cX6_ahead 3 (some .int) 4 (fun w => [.ref (w.2.1 0), .int p1, .int p2]) S (some (.int r0)) S0 := by
  refine gEnter (fun X => [some (.ref (gad X 0)), some (.int p1), some (.int p2)]) (by decide) (fun X => ⟨rfl, rfl⟩) (fun w => Nat.le_of_ble_eq_true rfl) (fun X hp => ?_)
  show AW X RX6 4 cX6_ahead 0 [some (.ref (gad X 0)), some (.int p1), some (.int p2)] [] S
  unfold f_X6_ahead at h
  refine a_iloadn (pc := 0) dX6_ahead_0 rfl rfl ?_
  obtain ⟨r3, S1, hc2, h⟩ := g_bind2 h
  refine a_invSi (pc := 1) (ok_X6_isCell hc2) gyX6_isCell syX6_isCell mlX6_51 (As := [.int p1]) rfl rfl (by decide) (st := []) rfl (Nat.le_of_ble_eq_true rfl) dX6_ahead_1 ?_
  refine a_if_eq (pc := 4) (tgt := 17) dX6_ahead_4 (by decide) (fun c4 => ?_) (fun c4 => ?_)
  · rw [if_pos c4] at h
    refine a_iconst (pc := 17) (v := (-1 : Int32)) dX6_ahead_17 (by decide) ?_
    obtain ⟨rfl, rfl⟩ := Prod.mk.inj (Option.some.inj h)
    exact a_iret hp dX6_ahead_18
  · rw [if_neg c4] at h
    refine a_iloadn (pc := 7) dX6_ahead_7 rfl rfl ?_
    refine a_if_lt (pc := 8) (tgt := 17) dX6_ahead_8 (by decide) (fun c5 => ?_) (fun c5 => ?_)
    · rw [if_pos c5] at h
      refine a_iconst (pc := 17) (v := (-1 : Int32)) dX6_ahead_17 (by decide) ?_
      obtain ⟨rfl, rfl⟩ := Prod.mk.inj (Option.some.inj h)
      exact a_iret hp dX6_ahead_18
    · rw [if_neg c5] at h
      refine a_iloadn (pc := 11) dX6_ahead_11 rfl rfl ?_
      refine a_bipush (pc := 12) (v := (48 : Int32)) dX6_ahead_12 (by decide) ?_
      refine a_icmp_le (pc := 14) (tgt := 19) dX6_ahead_14 (by decide) (fun c6 => ?_) (fun c6 => ?_)
      · rw [if_pos c6] at h
        refine a_aloadn (pc := 19) dX6_ahead_19 rfl rfl ?_
        refine a_getA (pc := 20) flX6_39 sh_0 rfl dX6_ahead_20 ?_
        refine a_aloadn (pc := 23) dX6_ahead_23 rfl rfl ?_
        refine a_getA (pc := 24) flX6_12 sh_0 rfl dX6_ahead_24 ?_
        refine a_iloadn (pc := 27) dX6_ahead_27 rfl rfl ?_
        obtain ⟨S7, hc8, h⟩ := g_bind h
        refine a_invVv (pc := 28) (ok_X3_look hc8) gyX3_look vyX3_look mlX6_95 sh_41 rfl (As := [.ref (gad X 1), .int p2]) rfl rfl (by decide) (st := []) rfl (Nat.le_of_ble_eq_true rfl) dX6_ahead_28 ?_
        refine a_aloadn (pc := 31) dX6_ahead_31 rfl rfl ?_
        refine a_getA (pc := 32) flX6_39 sh_0 rfl dX6_ahead_32 ?_
        refine a_iloadn (pc := 35) dX6_ahead_35 rfl rfl ?_
        obtain ⟨r11, S9, hc10, h⟩ := g_bind2 h
        refine a_invVi (pc := 36) (ok_X3_holderOf hc10) gyX3_holderOf vyX3_holderOf mlX6_176 sh_41 rfl (As := [.int p1]) rfl rfl (by decide) (st := []) rfl (Nat.le_of_ble_eq_true rfl) dX6_ahead_36 ?_
        obtain ⟨rfl, rfl⟩ := Prod.mk.inj (Option.some.inj h)
        exact a_iret hp dX6_ahead_39
      · rw [if_neg c6] at h
        refine a_iconst (pc := 17) (v := (-1 : Int32)) dX6_ahead_17 (by decide) ?_
        obtain ⟨rfl, rfl⟩ := Prod.mk.inj (Option.some.inj h)
        exact a_iret hp dX6_ahead_18
theorem dX6_held_0 : decode cX6_held 0 = .ok (.aload_n 0, 1) := by decide +kernel
theorem dX6_held_1 : decode cX6_held 1 = .ok (.iload_n 1, 1) := by decide +kernel
theorem dX6_held_2 : decode cX6_held 2 = .ok (.iconst 0, 1) := by decide +kernel
theorem dX6_held_3 : decode cX6_held 3 = .ok (.invokevirtual 117, 3) := by decide +kernel
theorem dX6_held_6 : decode cX6_held 6 = .ok (.ireturn, 1) := by decide +kernel
def f_X6_held (p1 : Int32) (S : gSt) : Option (Int32 × gSt) :=
gBind2 (f_X6_ahead p1 (0 : Int32) S) fun r3 S1 =>
some (r3, S1)
set_option maxHeartbeats 4000000 in
set_option maxRecDepth 20000 in
theorem ok_X6_held {p1 : Int32} {S S0 : gSt} {r0 : Int32}  (h : f_X6_held p1 S = some (r0, S0)) : gCT yX6_held cX6_held 2 (some .int) 5 (fun w => [.ref (w.2.1 0), .int p1]) S (some (.int r0)) S0 := by
  refine gEnter (fun X => [some (.ref (gad X 0)), some (.int p1)]) (by decide) (fun X => ⟨rfl, rfl⟩) (fun w => Nat.le_of_ble_eq_true rfl) (fun X hp => ?_)
  show AW X RX6 5 cX6_held 0 [some (.ref (gad X 0)), some (.int p1)] [] S
  unfold f_X6_held at h
  refine a_aloadn (pc := 0) dX6_held_0 rfl rfl ?_
  refine a_iloadn (pc := 1) dX6_held_1 rfl rfl ?_
  refine a_iconst (pc := 2) (v := (0 : Int32)) dX6_held_2 (by decide) ?_
  obtain ⟨r3, S1, hc2, h⟩ := g_bind2 h
  refine a_invVi (pc := 3) (ok_X6_ahead hc2) gyX6_ahead vyX6_ahead mlX6_117 sh_0 rfl (As := [.int p1, .int (0 : Int32)]) rfl rfl (by decide) (st := []) rfl (Nat.le_of_ble_eq_true rfl) dX6_held_3 ?_
  obtain ⟨rfl, rfl⟩ := Prod.mk.inj (Option.some.inj h)
  exact a_iret hp dX6_held_6
theorem dX4_put_0 : decode cX4_put 0 = .ok (.aload_n 0, 1) := by decide +kernel
theorem dX4_put_1 : decode cX4_put 1 = .ok (.getfield 24, 3) := by decide +kernel
theorem dX4_put_4 : decode cX4_put 4 = .ok (.bipush 60, 2) := by decide +kernel
theorem dX4_put_6 : decode cX4_put 6 = .ok (.if_icmp .lt 5, 3) := by decide +kernel
theorem dX4_put_9 : decode cX4_put 9 = .ok (.iconst 0, 1) := by decide +kernel
theorem dX4_put_10 : decode cX4_put 10 = .ok (.ireturn, 1) := by decide +kernel
theorem dX4_put_11 : decode cX4_put 11 = .ok (.aload_n 0, 1) := by decide +kernel
theorem dX4_put_12 : decode cX4_put 12 = .ok (.getfield 9, 3) := by decide +kernel
theorem dX4_put_15 : decode cX4_put 15 = .ok (.aload_n 0, 1) := by decide +kernel
theorem dX4_put_16 : decode cX4_put 16 = .ok (.getfield 24, 3) := by decide +kernel
theorem dX4_put_19 : decode cX4_put 19 = .ok (.iload_n 1, 1) := by decide +kernel
theorem dX4_put_20 : decode cX4_put 20 = .ok (.iastore, 1) := by decide +kernel
theorem dX4_put_21 : decode cX4_put 21 = .ok (.aload_n 0, 1) := by decide +kernel
theorem dX4_put_22 : decode cX4_put 22 = .ok (.dup, 1) := by decide +kernel
theorem dX4_put_23 : decode cX4_put 23 = .ok (.getfield 24, 3) := by decide +kernel
theorem dX4_put_26 : decode cX4_put 26 = .ok (.iconst 1, 1) := by decide +kernel
theorem dX4_put_27 : decode cX4_put 27 = .ok (.iadd, 1) := by decide +kernel
theorem dX4_put_28 : decode cX4_put 28 = .ok (.putfield 24, 3) := by decide +kernel
theorem dX4_put_31 : decode cX4_put 31 = .ok (.iconst 1, 1) := by decide +kernel
theorem dX4_put_32 : decode cX4_put 32 = .ok (.ireturn, 1) := by decide +kernel
def f_X4_put (p1 : Int32) (S : gSt) : Option (Int32 × gSt) :=
(if (S.1 27 4) < (60 : Int32) then
if gin (S.1 27 4) 60 then
gLet (gI S 28 (S.1 27 4).toNatClampNeg p1) fun S3 =>
(gLet (gI S3 27 4 ((S3.1 27 4) + (1 : Int32))) fun S4 =>
some ((1 : Int32), S4)) else none
else
some ((0 : Int32), S))
set_option maxHeartbeats 4000000 in
set_option maxRecDepth 20000 in
theorem ok_X4_put {p1 : Int32} {S S0 : gSt} {r0 : Int32}  (h : f_X4_put p1 S = some (r0, S0)) : gCT yX4_put cX4_put 2 (some .boolean) 0 (fun w => [.ref (w.2.1 27), .int p1]) S (some (.int r0)) S0 := by
  refine gEnter (fun X => [some (.ref (gad X 27)), some (.int p1)]) (by decide) (fun X => ⟨rfl, rfl⟩) (fun w => Nat.le_of_ble_eq_true rfl) (fun X hp => ?_)
  show AW X RX4 0 cX4_put 0 [some (.ref (gad X 27)), some (.int p1)] [] S
  unfold f_X4_put at h
  refine a_aloadn (pc := 0) dX4_put_0 rfl rfl ?_
  refine a_getI (pc := 1) flX4_24 sh_27 rfl dX4_put_1 ?_
  refine a_bipush (pc := 4) (v := (60 : Int32)) dX4_put_4 (by decide) ?_
  refine a_icmp_lt (pc := 6) (tgt := 11) dX4_put_6 (by decide) (fun c1 => ?_) (fun c1 => ?_)
  · rw [if_pos c1] at h
    refine a_aloadn (pc := 11) dX4_put_11 rfl rfl ?_
    refine a_getA (pc := 12) flX4_9 sh_27 rfl dX4_put_12 ?_
    refine a_aloadn (pc := 15) dX4_put_15 rfl rfl ?_
    refine a_getI (pc := 16) flX4_24 sh_27 rfl dX4_put_16 ?_
    refine a_iloadn (pc := 19) dX4_put_19 rfl rfl ?_
    obtain ⟨hi2, h⟩ := g_if h
    refine a_iast (pc := 20) sh_28 hi2 dX4_put_20 ?_
    obtain ⟨S3, eS3, h⟩ := g_let h
    refine a_nmS eS3 ?_
    refine a_aloadn (pc := 21) dX4_put_21 rfl rfl ?_
    refine a_dup (pc := 22) dX4_put_22 rfl ?_
    refine a_getI (pc := 23) flX4_24 sh_27 rfl dX4_put_23 ?_
    refine a_iconst (pc := 26) (v := (1 : Int32)) dX4_put_26 (by decide) ?_
    refine a_iadd (pc := 27) dX4_put_27 ?_
    refine a_putI (pc := 28) flX4_24 sh_27 rfl rfl rfl dX4_put_28 ?_
    obtain ⟨S4, eS4, h⟩ := g_let h
    refine a_nmS eS4 ?_
    refine a_iconst (pc := 31) (v := (1 : Int32)) dX4_put_31 (by decide) ?_
    obtain ⟨rfl, rfl⟩ := Prod.mk.inj (Option.some.inj h)
    exact a_zret hp rfl  dX4_put_32
  · rw [if_neg c1] at h
    refine a_iconst (pc := 9) (v := (0 : Int32)) dX4_put_9 (by decide) ?_
    obtain ⟨rfl, rfl⟩ := Prod.mk.inj (Option.some.inj h)
    exact a_zret hp rfl  dX4_put_10
theorem dX6_type_0 : decode cX6_type 0 = .ok (.iload_n 1, 1) := by decide +kernel
theorem dX6_type_1 : decode cX6_type 1 = .ok (.bipush 32, 2) := by decide +kernel
theorem dX6_type_3 : decode cX6_type 3 = .ok (.if_icmp .lt 9, 3) := by decide +kernel
theorem dX6_type_6 : decode cX6_type 6 = .ok (.iload_n 1, 1) := by decide +kernel
theorem dX6_type_7 : decode cX6_type 7 = .ok (.bipush 126, 2) := by decide +kernel
theorem dX6_type_9 : decode cX6_type 9 = .ok (.if_icmp .le 5, 3) := by decide +kernel
theorem dX6_type_12 : decode cX6_type 12 = .ok (.iconst (-1), 1) := by decide +kernel
theorem dX6_type_13 : decode cX6_type 13 = .ok (.ireturn, 1) := by decide +kernel
theorem dX6_type_14 : decode cX6_type 14 = .ok (.aload_n 0, 1) := by decide +kernel
theorem dX6_type_15 : decode cX6_type 15 = .ok (.getfield 26, 3) := by decide +kernel
theorem dX6_type_18 : decode cX6_type 18 = .ok (.iload_n 1, 1) := by decide +kernel
theorem dX6_type_19 : decode cX6_type 19 = .ok (.invokevirtual 121, 3) := by decide +kernel
theorem dX6_type_22 : decode cX6_type 22 = .ok (.ifCond .eq 13, 3) := by decide +kernel
theorem dX6_type_25 : decode cX6_type 25 = .ok (.aload_n 0, 1) := by decide +kernel
theorem dX6_type_26 : decode cX6_type 26 = .ok (.getfield 26, 3) := by decide +kernel
theorem dX6_type_29 : decode cX6_type 29 = .ok (.getfield 124, 3) := by decide +kernel
theorem dX6_type_32 : decode cX6_type 32 = .ok (.goto 5, 3) := by decide +kernel
theorem dX6_type_35 : decode cX6_type 35 = .ok (.bipush (-3), 2) := by decide +kernel
theorem dX6_type_37 : decode cX6_type 37 = .ok (.ireturn, 1) := by decide +kernel
def f_X6_type (p1 : Int32) (S : gSt) : Option (Int32 × gSt) :=
(if p1 < (32 : Int32) then
some ((-1 : Int32), S)
else
(if p1 ≤ (126 : Int32) then
gBind2 (f_X4_put p1 S) fun r5 S3 =>
(if r5 = 0 then
some ((-3 : Int32), S3)
else
some (S3.1 27 4, S3))
else
some ((-1 : Int32), S)))
set_option maxHeartbeats 4000000 in
set_option maxRecDepth 20000 in
theorem ok_X6_type {p1 : Int32} {S S0 : gSt} {r0 : Int32}  (h : f_X6_type p1 S = some (r0, S0)) : gCT yX6_type cX6_type 2 (some .int) 1 (fun w => [.ref (w.2.1 0), .int p1]) S (some (.int r0)) S0 := by
  refine gEnter (fun X => [some (.ref (gad X 0)), some (.int p1)]) (by decide) (fun X => ⟨rfl, rfl⟩) (fun w => Nat.le_of_ble_eq_true rfl) (fun X hp => ?_)
  show AW X RX6 1 cX6_type 0 [some (.ref (gad X 0)), some (.int p1)] [] S
  unfold f_X6_type at h
  refine a_iloadn (pc := 0) dX6_type_0 rfl rfl ?_
  refine a_bipush (pc := 1) (v := (32 : Int32)) dX6_type_1 (by decide) ?_
  refine a_icmp_lt (pc := 3) (tgt := 12) dX6_type_3 (by decide) (fun c1 => ?_) (fun c1 => ?_)
  · rw [if_pos c1] at h
    refine a_iconst (pc := 12) (v := (-1 : Int32)) dX6_type_12 (by decide) ?_
    obtain ⟨rfl, rfl⟩ := Prod.mk.inj (Option.some.inj h)
    exact a_iret hp dX6_type_13
  · rw [if_neg c1] at h
    refine a_iloadn (pc := 6) dX6_type_6 rfl rfl ?_
    refine a_bipush (pc := 7) (v := (126 : Int32)) dX6_type_7 (by decide) ?_
    refine a_icmp_le (pc := 9) (tgt := 14) dX6_type_9 (by decide) (fun c2 => ?_) (fun c2 => ?_)
    · rw [if_pos c2] at h
      refine a_aloadn (pc := 14) dX6_type_14 rfl rfl ?_
      refine a_getA (pc := 15) flX6_26 sh_0 rfl dX6_type_15 ?_
      refine a_iloadn (pc := 18) dX6_type_18 rfl rfl ?_
      obtain ⟨r5, S3, hc4, h⟩ := g_bind2 h
      refine a_invVi (pc := 19) (ok_X4_put hc4) gyX4_put vyX4_put mlX6_121 sh_27 rfl (As := [.int p1]) rfl rfl (by decide) (st := []) rfl (Nat.le_of_ble_eq_true rfl) dX6_type_19 ?_
      refine a_if_eq (pc := 22) (tgt := 35) dX6_type_22 (by decide) (fun c6 => ?_) (fun c6 => ?_)
      · rw [if_pos c6] at h
        refine a_bipush (pc := 35) (v := (-3 : Int32)) dX6_type_35 (by decide) ?_
        obtain ⟨rfl, rfl⟩ := Prod.mk.inj (Option.some.inj h)
        exact a_iret hp dX6_type_37
      · rw [if_neg c6] at h
        refine a_aloadn (pc := 25) dX6_type_25 rfl rfl ?_
        refine a_getA (pc := 26) flX6_26 sh_0 rfl dX6_type_26 ?_
        refine a_getI (pc := 29) flX6_124 sh_27 rfl dX6_type_29 ?_
        refine a_goto (pc := 32) (tgt := 37) dX6_type_32 (by decide) ?_
        obtain ⟨rfl, rfl⟩ := Prod.mk.inj (Option.some.inj h)
        exact a_iret hp dX6_type_37
    · rw [if_neg c2] at h
      refine a_iconst (pc := 12) (v := (-1 : Int32)) dX6_type_12 (by decide) ?_
      obtain ⟨rfl, rfl⟩ := Prod.mk.inj (Option.some.inj h)
      exact a_iret hp dX6_type_13
theorem dX4_skipBlanks_0 : decode cX4_skipBlanks 0 = .ok (.aload_n 0, 1) := by decide +kernel
theorem dX4_skipBlanks_1 : decode cX4_skipBlanks 1 = .ok (.getfield 28, 3) := by decide +kernel
theorem dX4_skipBlanks_4 : decode cX4_skipBlanks 4 = .ok (.aload_n 0, 1) := by decide +kernel
theorem dX4_skipBlanks_5 : decode cX4_skipBlanks 5 = .ok (.getfield 24, 3) := by decide +kernel
theorem dX4_skipBlanks_8 : decode cX4_skipBlanks 8 = .ok (.if_icmp .ge 30, 3) := by decide +kernel
theorem dX4_skipBlanks_11 : decode cX4_skipBlanks 11 = .ok (.aload_n 0, 1) := by decide +kernel
theorem dX4_skipBlanks_12 : decode cX4_skipBlanks 12 = .ok (.getfield 9, 3) := by decide +kernel
theorem dX4_skipBlanks_15 : decode cX4_skipBlanks 15 = .ok (.aload_n 0, 1) := by decide +kernel
theorem dX4_skipBlanks_16 : decode cX4_skipBlanks 16 = .ok (.getfield 28, 3) := by decide +kernel
theorem dX4_skipBlanks_19 : decode cX4_skipBlanks 19 = .ok (.iaload, 1) := by decide +kernel
theorem dX4_skipBlanks_20 : decode cX4_skipBlanks 20 = .ok (.bipush 32, 2) := by decide +kernel
theorem dX4_skipBlanks_22 : decode cX4_skipBlanks 22 = .ok (.if_icmp .ne 16, 3) := by decide +kernel
theorem dX4_skipBlanks_25 : decode cX4_skipBlanks 25 = .ok (.aload_n 0, 1) := by decide +kernel
theorem dX4_skipBlanks_26 : decode cX4_skipBlanks 26 = .ok (.dup, 1) := by decide +kernel
theorem dX4_skipBlanks_27 : decode cX4_skipBlanks 27 = .ok (.getfield 28, 3) := by decide +kernel
theorem dX4_skipBlanks_30 : decode cX4_skipBlanks 30 = .ok (.iconst 1, 1) := by decide +kernel
theorem dX4_skipBlanks_31 : decode cX4_skipBlanks 31 = .ok (.iadd, 1) := by decide +kernel
theorem dX4_skipBlanks_32 : decode cX4_skipBlanks 32 = .ok (.putfield 28, 3) := by decide +kernel
theorem dX4_skipBlanks_35 : decode cX4_skipBlanks 35 = .ok (.goto (-35), 3) := by decide +kernel
theorem dX4_skipBlanks_38 : decode cX4_skipBlanks 38 = .ok (.return_, 1) := by decide +kernel
def f_X4_skipBlanks_s0_b (S : gSt) : Option ((gSt) ⊕ (gSt)) :=
(if (S.1 27 4) ≤ (S.1 27 5) then
some (.inr (S))
else
if gin (S.1 27 5) 60 then
((if (S.1 28 (S.1 27 5).toNatClampNeg) = (32 : Int32) then
gLet (gI S 27 5 ((S.1 27 5) + (1 : Int32))) fun S4 =>
some (.inl (S4))
else
some (.inr (S)))) else none)
def f_X4_skipBlanks_s0 : (gSt) → Option ((gSt) ⊕ (gSt)) := fun t => f_X4_skipBlanks_s0_b t
def f_X4_skipBlanks (S : gSt) : Option gSt :=
(gLoop (f_X4_skipBlanks_s0) gFuel (S)).bind fun q5 => match q5 with
| S5 =>
some S5
set_option maxHeartbeats 4000000 in
set_option maxRecDepth 20000 in
theorem ok_X4_skipBlanks {S S0 : gSt}  (h : f_X4_skipBlanks S = some S0) : gCT yX4_skipBlanks cX4_skipBlanks 1 none 0 (fun w => [.ref (w.2.1 27)]) S none S0 := by
  refine gEnter (fun X => [some (.ref (gad X 27))]) (by decide) (fun X => ⟨rfl, rfl⟩) (fun w => Nat.le_of_ble_eq_true rfl) (fun X hp => ?_)
  show AW X RX4 0 cX4_skipBlanks 0 [some (.ref (gad X 27))] [] S
  unfold f_X4_skipBlanks at h
  obtain ⟨R5, hR5, h⟩ := g_bind h
  have E0 : ∀  (S5 : gSt), (some S5) = some S0 → AW X RX4 0 cX4_skipBlanks 38 [none] [] S5 := by
    intro S5 h
    obtain rfl := Option.some.inj h
    exact a_vret hp dX4_skipBlanks_38
  have lp : ∀ (n : Nat)  (S : gSt), gLoop (f_X4_skipBlanks_s0) n (S) = some R5 → AW X RX4 0 cX4_skipBlanks 0 [some (.ref (gad X 27))] [] S := by
    intro n
    induction n with
    | zero => intro  S hR; cases hR
    | succ n ih =>
      intro  S hR
      obtain ⟨q, hs, hR⟩ := g_bind hR
      have hs : f_X4_skipBlanks_s0_b  S = some q := hs
      unfold f_X4_skipBlanks_s0_b at hs
      refine a_aloadn (pc := 0) dX4_skipBlanks_0 rfl rfl ?_
      refine a_getI (pc := 1) flX4_28 sh_27 rfl dX4_skipBlanks_1 ?_
      refine a_aloadn (pc := 4) dX4_skipBlanks_4 rfl rfl ?_
      refine a_getI (pc := 5) flX4_24 sh_27 rfl dX4_skipBlanks_5 ?_
      refine a_icmp_ge (pc := 8) (tgt := 38) dX4_skipBlanks_8 (by decide) (fun c1 => ?_) (fun c1 => ?_)
      · rw [if_pos c1] at hs
        obtain rfl := Option.some.inj hs
        obtain rfl := Option.some.inj hR
        refine a_mask [false] (L' := [none]) rfl ?_
        exact E0  _ h
      · rw [if_neg c1] at hs
        refine a_aloadn (pc := 11) dX4_skipBlanks_11 rfl rfl ?_
        refine a_getA (pc := 12) flX4_9 sh_27 rfl dX4_skipBlanks_12 ?_
        refine a_aloadn (pc := 15) dX4_skipBlanks_15 rfl rfl ?_
        refine a_getI (pc := 16) flX4_28 sh_27 rfl dX4_skipBlanks_16 ?_
        obtain ⟨hi2, hs⟩ := g_if hs
        refine a_iald (pc := 19) sh_28 hi2 dX4_skipBlanks_19 ?_
        refine a_bipush (pc := 20) (v := (32 : Int32)) dX4_skipBlanks_20 (by decide) ?_
        refine a_icmp_ne (pc := 22) (tgt := 38) dX4_skipBlanks_22 (by decide) (fun c3 => ?_) (fun c3 => ?_)
        · rw [if_neg c3] at hs
          obtain rfl := Option.some.inj hs
          obtain rfl := Option.some.inj hR
          refine a_mask [false] (L' := [none]) rfl ?_
          exact E0  _ h
        · rw [if_pos c3] at hs
          refine a_aloadn (pc := 25) dX4_skipBlanks_25 rfl rfl ?_
          refine a_dup (pc := 26) dX4_skipBlanks_26 rfl ?_
          refine a_getI (pc := 27) flX4_28 sh_27 rfl dX4_skipBlanks_27 ?_
          refine a_iconst (pc := 30) (v := (1 : Int32)) dX4_skipBlanks_30 (by decide) ?_
          refine a_iadd (pc := 31) dX4_skipBlanks_31 ?_
          refine a_putI (pc := 32) flX4_28 sh_27 rfl rfl rfl dX4_skipBlanks_32 ?_
          obtain ⟨S4, eS4, hs⟩ := g_let hs
          refine a_nmS eS4 ?_
          refine a_goto (pc := 35) (tgt := 0) dX4_skipBlanks_35 (by decide) ?_
          obtain rfl := Option.some.inj hs
          exact ih  _ hR
  exact lp _  _ hR5
theorem dX4_take_0 : decode cX4_take 0 = .ok (.aload_n 0, 1) := by decide +kernel
theorem dX4_take_1 : decode cX4_take 1 = .ok (.invokevirtual 48, 3) := by decide +kernel
theorem dX4_take_4 : decode cX4_take 4 = .ok (.aload_n 0, 1) := by decide +kernel
theorem dX4_take_5 : decode cX4_take 5 = .ok (.getfield 28, 3) := by decide +kernel
theorem dX4_take_8 : decode cX4_take 8 = .ok (.aload_n 0, 1) := by decide +kernel
theorem dX4_take_9 : decode cX4_take 9 = .ok (.getfield 24, 3) := by decide +kernel
theorem dX4_take_12 : decode cX4_take 12 = .ok (.if_icmp .ge 29, 3) := by decide +kernel
theorem dX4_take_15 : decode cX4_take 15 = .ok (.aload_n 0, 1) := by decide +kernel
theorem dX4_take_16 : decode cX4_take 16 = .ok (.getfield 9, 3) := by decide +kernel
theorem dX4_take_19 : decode cX4_take 19 = .ok (.aload_n 0, 1) := by decide +kernel
theorem dX4_take_20 : decode cX4_take 20 = .ok (.getfield 28, 3) := by decide +kernel
theorem dX4_take_23 : decode cX4_take 23 = .ok (.iaload, 1) := by decide +kernel
theorem dX4_take_24 : decode cX4_take 24 = .ok (.iload_n 1, 1) := by decide +kernel
theorem dX4_take_25 : decode cX4_take 25 = .ok (.if_icmp .lt 16, 3) := by decide +kernel
theorem dX4_take_28 : decode cX4_take 28 = .ok (.aload_n 0, 1) := by decide +kernel
theorem dX4_take_29 : decode cX4_take 29 = .ok (.getfield 9, 3) := by decide +kernel
theorem dX4_take_32 : decode cX4_take 32 = .ok (.aload_n 0, 1) := by decide +kernel
theorem dX4_take_33 : decode cX4_take 33 = .ok (.getfield 28, 3) := by decide +kernel
theorem dX4_take_36 : decode cX4_take 36 = .ok (.iaload, 1) := by decide +kernel
theorem dX4_take_37 : decode cX4_take 37 = .ok (.iload_n 2, 1) := by decide +kernel
theorem dX4_take_38 : decode cX4_take 38 = .ok (.if_icmp .le 5, 3) := by decide +kernel
theorem dX4_take_41 : decode cX4_take 41 = .ok (.iconst (-1), 1) := by decide +kernel
theorem dX4_take_42 : decode cX4_take 42 = .ok (.ireturn, 1) := by decide +kernel
theorem dX4_take_43 : decode cX4_take 43 = .ok (.aload_n 0, 1) := by decide +kernel
theorem dX4_take_44 : decode cX4_take 44 = .ok (.dup, 1) := by decide +kernel
theorem dX4_take_45 : decode cX4_take 45 = .ok (.getfield 28, 3) := by decide +kernel
theorem dX4_take_48 : decode cX4_take 48 = .ok (.iconst 1, 1) := by decide +kernel
theorem dX4_take_49 : decode cX4_take 49 = .ok (.iadd, 1) := by decide +kernel
theorem dX4_take_50 : decode cX4_take 50 = .ok (.putfield 28, 3) := by decide +kernel
theorem dX4_take_53 : decode cX4_take 53 = .ok (.aload_n 0, 1) := by decide +kernel
theorem dX4_take_54 : decode cX4_take 54 = .ok (.getfield 9, 3) := by decide +kernel
theorem dX4_take_57 : decode cX4_take 57 = .ok (.aload_n 0, 1) := by decide +kernel
theorem dX4_take_58 : decode cX4_take 58 = .ok (.getfield 28, 3) := by decide +kernel
theorem dX4_take_61 : decode cX4_take 61 = .ok (.iconst 1, 1) := by decide +kernel
theorem dX4_take_62 : decode cX4_take 62 = .ok (.isub, 1) := by decide +kernel
theorem dX4_take_63 : decode cX4_take 63 = .ok (.iaload, 1) := by decide +kernel
theorem dX4_take_64 : decode cX4_take 64 = .ok (.iload_n 1, 1) := by decide +kernel
theorem dX4_take_65 : decode cX4_take 65 = .ok (.isub, 1) := by decide +kernel
theorem dX4_take_66 : decode cX4_take 66 = .ok (.ireturn, 1) := by decide +kernel
def f_X4_take (p1 : Int32) (p2 : Int32) (S : gSt) : Option (Int32 × gSt) :=
(f_X4_skipBlanks S).bind fun S1 =>
(if (S1.1 27 4) ≤ (S1.1 27 5) then
some ((-1 : Int32), S1)
else
if gin (S1.1 27 5) 60 then
((if (S1.1 28 (S1.1 27 5).toNatClampNeg) < p1 then
some ((-1 : Int32), S1)
else
if gin (S1.1 27 5) 60 then
((if (S1.1 28 (S1.1 27 5).toNatClampNeg) ≤ p2 then
gLet (gI S1 27 5 ((S1.1 27 5) + (1 : Int32))) fun S8 =>
if gin ((S8.1 27 5) - (1 : Int32)) 60 then
(some ((S8.1 28 ((S8.1 27 5) - (1 : Int32)).toNatClampNeg) - p1, S8)) else none
else
some ((-1 : Int32), S1))) else none)) else none)
set_option maxHeartbeats 4000000 in
set_option maxRecDepth 20000 in
theorem ok_X4_take {p1 : Int32} {p2 : Int32} {S S0 : gSt} {r0 : Int32}  (h : f_X4_take p1 p2 S = some (r0, S0)) : gCT yX4_take cX4_take 3 (some .int) 1 (fun w => [.ref (w.2.1 27), .int p1, .int p2]) S (some (.int r0)) S0 := by
  refine gEnter (fun X => [some (.ref (gad X 27)), some (.int p1), some (.int p2)]) (by decide) (fun X => ⟨rfl, rfl⟩) (fun w => Nat.le_of_ble_eq_true rfl) (fun X hp => ?_)
  show AW X RX4 1 cX4_take 0 [some (.ref (gad X 27)), some (.int p1), some (.int p2)] [] S
  unfold f_X4_take at h
  refine a_aloadn (pc := 0) dX4_take_0 rfl rfl ?_
  obtain ⟨S1, hc2, h⟩ := g_bind h
  refine a_invVv (pc := 1) (ok_X4_skipBlanks hc2) gyX4_skipBlanks vyX4_skipBlanks mlX4_48 sh_27 rfl (As := []) rfl rfl (by decide) (st := []) rfl (Nat.le_of_ble_eq_true rfl) dX4_take_1 ?_
  refine a_aloadn (pc := 4) dX4_take_4 rfl rfl ?_
  refine a_getI (pc := 5) flX4_28 sh_27 rfl dX4_take_5 ?_
  refine a_aloadn (pc := 8) dX4_take_8 rfl rfl ?_
  refine a_getI (pc := 9) flX4_24 sh_27 rfl dX4_take_9 ?_
  refine a_icmp_ge (pc := 12) (tgt := 41) dX4_take_12 (by decide) (fun c3 => ?_) (fun c3 => ?_)
  · rw [if_pos c3] at h
    refine a_iconst (pc := 41) (v := (-1 : Int32)) dX4_take_41 (by decide) ?_
    obtain ⟨rfl, rfl⟩ := Prod.mk.inj (Option.some.inj h)
    exact a_iret hp dX4_take_42
  · rw [if_neg c3] at h
    refine a_aloadn (pc := 15) dX4_take_15 rfl rfl ?_
    refine a_getA (pc := 16) flX4_9 sh_27 rfl dX4_take_16 ?_
    refine a_aloadn (pc := 19) dX4_take_19 rfl rfl ?_
    refine a_getI (pc := 20) flX4_28 sh_27 rfl dX4_take_20 ?_
    obtain ⟨hi4, h⟩ := g_if h
    refine a_iald (pc := 23) sh_28 hi4 dX4_take_23 ?_
    refine a_iloadn (pc := 24) dX4_take_24 rfl rfl ?_
    refine a_icmp_lt (pc := 25) (tgt := 41) dX4_take_25 (by decide) (fun c5 => ?_) (fun c5 => ?_)
    · rw [if_pos c5] at h
      refine a_iconst (pc := 41) (v := (-1 : Int32)) dX4_take_41 (by decide) ?_
      obtain ⟨rfl, rfl⟩ := Prod.mk.inj (Option.some.inj h)
      exact a_iret hp dX4_take_42
    · rw [if_neg c5] at h
      refine a_aloadn (pc := 28) dX4_take_28 rfl rfl ?_
      refine a_getA (pc := 29) flX4_9 sh_27 rfl dX4_take_29 ?_
      refine a_aloadn (pc := 32) dX4_take_32 rfl rfl ?_
      refine a_getI (pc := 33) flX4_28 sh_27 rfl dX4_take_33 ?_
      obtain ⟨hi6, h⟩ := g_if h
      refine a_iald (pc := 36) sh_28 hi6 dX4_take_36 ?_
      refine a_iloadn (pc := 37) dX4_take_37 rfl rfl ?_
      refine a_icmp_le (pc := 38) (tgt := 43) dX4_take_38 (by decide) (fun c7 => ?_) (fun c7 => ?_)
      · rw [if_pos c7] at h
        refine a_aloadn (pc := 43) dX4_take_43 rfl rfl ?_
        refine a_dup (pc := 44) dX4_take_44 rfl ?_
        refine a_getI (pc := 45) flX4_28 sh_27 rfl dX4_take_45 ?_
        refine a_iconst (pc := 48) (v := (1 : Int32)) dX4_take_48 (by decide) ?_
        refine a_iadd (pc := 49) dX4_take_49 ?_
        refine a_putI (pc := 50) flX4_28 sh_27 rfl rfl rfl dX4_take_50 ?_
        obtain ⟨S8, eS8, h⟩ := g_let h
        refine a_nmS eS8 ?_
        refine a_aloadn (pc := 53) dX4_take_53 rfl rfl ?_
        refine a_getA (pc := 54) flX4_9 sh_27 rfl dX4_take_54 ?_
        refine a_aloadn (pc := 57) dX4_take_57 rfl rfl ?_
        refine a_getI (pc := 58) flX4_28 sh_27 rfl dX4_take_58 ?_
        refine a_iconst (pc := 61) (v := (1 : Int32)) dX4_take_61 (by decide) ?_
        refine a_isub (pc := 62) dX4_take_62 ?_
        obtain ⟨hi9, h⟩ := g_if h
        refine a_iald (pc := 63) sh_28 hi9 dX4_take_63 ?_
        refine a_iloadn (pc := 64) dX4_take_64 rfl rfl ?_
        refine a_isub (pc := 65) dX4_take_65 ?_
        obtain ⟨rfl, rfl⟩ := Prod.mk.inj (Option.some.inj h)
        exact a_iret hp dX4_take_66
      · rw [if_neg c7] at h
        refine a_iconst (pc := 41) (v := (-1 : Int32)) dX4_take_41 (by decide) ?_
        obtain ⟨rfl, rfl⟩ := Prod.mk.inj (Option.some.inj h)
        exact a_iret hp dX4_take_42
theorem dX0_isTrodden_0 : decode cX0_isTrodden 0 = .ok (.iload_n 1, 1) := by decide +kernel
theorem dX0_isTrodden_1 : decode cX0_isTrodden 1 = .ok (.istore_n 2, 1) := by decide +kernel
theorem dX0_isTrodden_2 : decode cX0_isTrodden 2 = .ok (.iload_n 2, 1) := by decide +kernel
theorem dX0_isTrodden_3 : decode cX0_isTrodden 3 = .ok (.sipush 384, 3) := by decide +kernel
theorem dX0_isTrodden_6 : decode cX0_isTrodden 6 = .ok (.if_icmp .ge 20, 3) := by decide +kernel
theorem dX0_isTrodden_9 : decode cX0_isTrodden 9 = .ok (.aload_n 0, 1) := by decide +kernel
theorem dX0_isTrodden_10 : decode cX0_isTrodden 10 = .ok (.getfield 27, 3) := by decide +kernel
theorem dX0_isTrodden_13 : decode cX0_isTrodden 13 = .ok (.iload_n 2, 1) := by decide +kernel
theorem dX0_isTrodden_14 : decode cX0_isTrodden 14 = .ok (.iaload, 1) := by decide +kernel
theorem dX0_isTrodden_15 : decode cX0_isTrodden 15 = .ok (.ifCond .le 5, 3) := by decide +kernel
theorem dX0_isTrodden_18 : decode cX0_isTrodden 18 = .ok (.iconst 1, 1) := by decide +kernel
theorem dX0_isTrodden_19 : decode cX0_isTrodden 19 = .ok (.ireturn, 1) := by decide +kernel
theorem dX0_isTrodden_20 : decode cX0_isTrodden 20 = .ok (.iinc 2 64, 3) := by decide +kernel
theorem dX0_isTrodden_23 : decode cX0_isTrodden 23 = .ok (.goto (-21), 3) := by decide +kernel
theorem dX0_isTrodden_26 : decode cX0_isTrodden 26 = .ok (.iconst 0, 1) := by decide +kernel
theorem dX0_isTrodden_27 : decode cX0_isTrodden 27 = .ok (.ireturn, 1) := by decide +kernel
def f_X0_isTrodden_s2_b (x2 : Int32) (S : gSt) : Option ((Int32 × gSt) ⊕ ((Int32 × gSt) ⊕ (gSt))) :=
(if (384 : Int32) ≤ x2 then
some (.inr (.inr (S)))
else
if gin x2 384 then
((if (S.1 7 x2.toNatClampNeg) ≤ 0 then
some (.inl (x2 + (64 : Int32), S))
else
some (.inr (.inl ((1 : Int32), S))))) else none)
def f_X0_isTrodden_s2 : (Int32 × gSt) → Option ((Int32 × gSt) ⊕ ((Int32 × gSt) ⊕ (gSt))) := fun t => f_X0_isTrodden_s2_b t.1 t.2
def f_X0_isTrodden (p1 : Int32) (S : gSt) : Option (Int32 × gSt) :=
(gLoop (f_X0_isTrodden_s2) gFuel (p1, S)).bind fun q4 => match q4 with
| .inl (v4, T4) => some (v4, T4)
| .inr S4 =>
some ((0 : Int32), S4)
set_option maxHeartbeats 4000000 in
set_option maxRecDepth 20000 in
theorem ok_X0_isTrodden {p1 : Int32} {S S0 : gSt} {r0 : Int32}  (h : f_X0_isTrodden p1 S = some (r0, S0)) : gCT yX0_isTrodden cX0_isTrodden 3 (some .boolean) 0 (fun w => [.ref (w.2.1 1), .int p1]) S (some (.int r0)) S0 := by
  refine gEnter (fun X => [some (.ref (gad X 1)), some (.int p1), none]) (by decide) (fun X => ⟨rfl, rfl⟩) (fun w => Nat.le_of_ble_eq_true rfl) (fun X hp => ?_)
  show AW X RX0 0 cX0_isTrodden 0 [some (.ref (gad X 1)), some (.int p1), none] [] S
  unfold f_X0_isTrodden at h
  refine a_iloadn (pc := 0) dX0_isTrodden_0 rfl rfl ?_
  refine a_istoren (pc := 1) dX0_isTrodden_1 rfl (Nat.le_of_ble_eq_true rfl) rfl (L' := [some (.ref (gad X 1)), some (.int p1), some (.int p1)]) rfl ?_
  obtain ⟨R4, hR4, h⟩ := g_bind h
  refine a_mask [true, false, true] (L' := [some (.ref (gad X 1)), none, some (.int p1)]) rfl ?_
  have E2 : ∀  (S4 : gSt), (some ((0 : Int32), S4)) = some (r0, S0) → AW X RX0 0 cX0_isTrodden 26 [none, none, none] [] S4 := by
    intro S4 h
    refine a_iconst (pc := 26) (v := (0 : Int32)) dX0_isTrodden_26 (by decide) ?_
    obtain ⟨rfl, rfl⟩ := Prod.mk.inj (Option.some.inj h)
    exact a_zret hp rfl  dX0_isTrodden_27
  have lp : ∀ (n : Nat) (x2 : Int32) (S : gSt), gLoop (f_X0_isTrodden_s2) n (x2, S) = some R4 → AW X RX0 0 cX0_isTrodden 2 [some (.ref (gad X 1)), none, some (.int x2)] [] S := by
    intro n
    induction n with
    | zero => intro x2 S hR; cases hR
    | succ n ih =>
      intro x2 S hR
      obtain ⟨q, hs, hR⟩ := g_bind hR
      have hs : f_X0_isTrodden_s2_b x2 S = some q := hs
      unfold f_X0_isTrodden_s2_b at hs
      refine a_iloadn (pc := 2) dX0_isTrodden_2 rfl rfl ?_
      refine a_sipush (pc := 3) (v := (384 : Int32)) dX0_isTrodden_3 (by decide) ?_
      refine a_icmp_ge (pc := 6) (tgt := 26) dX0_isTrodden_6 (by decide) (fun c1 => ?_) (fun c1 => ?_)
      · rw [if_pos c1] at hs
        obtain rfl := Option.some.inj hs
        obtain rfl := Option.some.inj hR
        refine a_mask [false, true, false] (L' := [none, none, none]) rfl ?_
        exact E2  _ h
      · rw [if_neg c1] at hs
        refine a_aloadn (pc := 9) dX0_isTrodden_9 rfl rfl ?_
        refine a_getA (pc := 10) flX0_27 sh_1 rfl dX0_isTrodden_10 ?_
        refine a_iloadn (pc := 13) dX0_isTrodden_13 rfl rfl ?_
        obtain ⟨hi2, hs⟩ := g_if hs
        refine a_iald (pc := 14) sh_7 hi2 dX0_isTrodden_14 ?_
        refine a_if_le (pc := 15) (tgt := 20) dX0_isTrodden_15 (by decide) (fun c3 => ?_) (fun c3 => ?_)
        · rw [if_pos c3] at hs
          refine a_iinc (pc := 20) dX0_isTrodden_20 rfl (v := x2 + (64 : Int32)) rfl (Nat.le_of_ble_eq_true rfl) rfl (L' := [some (.ref (gad X 1)), none, some (.int (x2 + (64 : Int32)))]) rfl ?_
          refine a_goto (pc := 23) (tgt := 2) dX0_isTrodden_23 (by decide) ?_
          obtain rfl := Option.some.inj hs
          exact ih _ _ hR
        · rw [if_neg c3] at hs
          refine a_iconst (pc := 18) (v := (1 : Int32)) dX0_isTrodden_18 (by decide) ?_
          obtain rfl := Option.some.inj hs
          obtain rfl := Option.some.inj hR
          obtain ⟨rfl, rfl⟩ := Prod.mk.inj (Option.some.inj h)
          exact a_zret hp rfl  dX0_isTrodden_19
  exact lp _ _ _ hR4
theorem dX0_troddenCells_0 : decode cX0_troddenCells 0 = .ok (.iconst 0, 1) := by decide +kernel
theorem dX0_troddenCells_1 : decode cX0_troddenCells 1 = .ok (.istore_n 1, 1) := by decide +kernel
theorem dX0_troddenCells_2 : decode cX0_troddenCells 2 = .ok (.iconst 0, 1) := by decide +kernel
theorem dX0_troddenCells_3 : decode cX0_troddenCells 3 = .ok (.istore_n 2, 1) := by decide +kernel
theorem dX0_troddenCells_4 : decode cX0_troddenCells 4 = .ok (.iload_n 2, 1) := by decide +kernel
theorem dX0_troddenCells_5 : decode cX0_troddenCells 5 = .ok (.bipush 64, 2) := by decide +kernel
theorem dX0_troddenCells_7 : decode cX0_troddenCells 7 = .ok (.if_icmp .ge 20, 3) := by decide +kernel
theorem dX0_troddenCells_10 : decode cX0_troddenCells 10 = .ok (.aload_n 0, 1) := by decide +kernel
theorem dX0_troddenCells_11 : decode cX0_troddenCells 11 = .ok (.iload_n 2, 1) := by decide +kernel
theorem dX0_troddenCells_12 : decode cX0_troddenCells 12 = .ok (.invokevirtual 119, 3) := by decide +kernel
theorem dX0_troddenCells_15 : decode cX0_troddenCells 15 = .ok (.ifCond .eq 6, 3) := by decide +kernel
theorem dX0_troddenCells_18 : decode cX0_troddenCells 18 = .ok (.iinc 1 1, 3) := by decide +kernel
theorem dX0_troddenCells_21 : decode cX0_troddenCells 21 = .ok (.iinc 2 1, 3) := by decide +kernel
theorem dX0_troddenCells_24 : decode cX0_troddenCells 24 = .ok (.goto (-20), 3) := by decide +kernel
theorem dX0_troddenCells_27 : decode cX0_troddenCells 27 = .ok (.iload_n 1, 1) := by decide +kernel
theorem dX0_troddenCells_28 : decode cX0_troddenCells 28 = .ok (.ireturn, 1) := by decide +kernel
def f_X0_troddenCells_s4_b (x1 : Int32) (x2 : Int32) (S : gSt) : Option ((Int32 × Int32 × gSt) ⊕ (Int32 × gSt)) :=
(if (64 : Int32) ≤ x2 then
some (.inr (x1, S))
else
gBind2 (f_X0_isTrodden x2 S) fun r4 S2 =>
(if r4 = 0 then
some (.inl (x1, x2 + (1 : Int32), S2))
else
some (.inl (x1 + (1 : Int32), x2 + (1 : Int32), S2))))
def f_X0_troddenCells_s4 : (Int32 × Int32 × gSt) → Option ((Int32 × Int32 × gSt) ⊕ (Int32 × gSt)) := fun t => f_X0_troddenCells_s4_b t.1 t.2.1 t.2.2
def f_X0_troddenCells (S : gSt) : Option (Int32 × gSt) :=
(gLoop (f_X0_troddenCells_s4) gFuel ((0 : Int32), (0 : Int32), S)).bind fun q6 => match q6 with
| (y1_6, S6) =>
some (y1_6, S6)
set_option maxHeartbeats 4000000 in
set_option maxRecDepth 20000 in
theorem ok_X0_troddenCells {S S0 : gSt} {r0 : Int32}  (h : f_X0_troddenCells S = some (r0, S0)) : gCT yX0_troddenCells cX0_troddenCells 3 (some .int) 1 (fun w => [.ref (w.2.1 1)]) S (some (.int r0)) S0 := by
  refine gEnter (fun X => [some (.ref (gad X 1)), none, none]) (by decide) (fun X => ⟨rfl, rfl⟩) (fun w => Nat.le_of_ble_eq_true rfl) (fun X hp => ?_)
  show AW X RX0 1 cX0_troddenCells 0 [some (.ref (gad X 1)), none, none] [] S
  unfold f_X0_troddenCells at h
  refine a_iconst (pc := 0) (v := (0 : Int32)) dX0_troddenCells_0 (by decide) ?_
  refine a_istoren (pc := 1) dX0_troddenCells_1 rfl (Nat.le_of_ble_eq_true rfl) rfl (L' := [some (.ref (gad X 1)), some (.int (0 : Int32)), none]) rfl ?_
  refine a_iconst (pc := 2) (v := (0 : Int32)) dX0_troddenCells_2 (by decide) ?_
  refine a_istoren (pc := 3) dX0_troddenCells_3 rfl (Nat.le_of_ble_eq_true rfl) rfl (L' := [some (.ref (gad X 1)), some (.int (0 : Int32)), some (.int (0 : Int32))]) rfl ?_
  obtain ⟨R6, hR6, h⟩ := g_bind h
  have E4 : ∀ (y1_6 : Int32) (S6 : gSt), (some (y1_6, S6)) = some (r0, S0) → AW X RX0 1 cX0_troddenCells 27 [none, some (.int y1_6), none] [] S6 := by
    intro y1_6 S6 h
    refine a_iloadn (pc := 27) dX0_troddenCells_27 rfl rfl ?_
    obtain ⟨rfl, rfl⟩ := Prod.mk.inj (Option.some.inj h)
    exact a_iret hp dX0_troddenCells_28
  have lp : ∀ (n : Nat) (x1 : Int32) (x2 : Int32) (S : gSt), gLoop (f_X0_troddenCells_s4) n (x1, x2, S) = some R6 → AW X RX0 1 cX0_troddenCells 4 [some (.ref (gad X 1)), some (.int x1), some (.int x2)] [] S := by
    intro n
    induction n with
    | zero => intro x1 x2 S hR; cases hR
    | succ n ih =>
      intro x1 x2 S hR
      obtain ⟨q, hs, hR⟩ := g_bind hR
      have hs : f_X0_troddenCells_s4_b x1 x2 S = some q := hs
      unfold f_X0_troddenCells_s4_b at hs
      refine a_iloadn (pc := 4) dX0_troddenCells_4 rfl rfl ?_
      refine a_bipush (pc := 5) (v := (64 : Int32)) dX0_troddenCells_5 (by decide) ?_
      refine a_icmp_ge (pc := 7) (tgt := 27) dX0_troddenCells_7 (by decide) (fun c1 => ?_) (fun c1 => ?_)
      · rw [if_pos c1] at hs
        obtain rfl := Option.some.inj hs
        obtain rfl := Option.some.inj hR
        refine a_mask [false, true, false] (L' := [none, some (.int x1), none]) rfl ?_
        exact E4 _ _ h
      · rw [if_neg c1] at hs
        refine a_aloadn (pc := 10) dX0_troddenCells_10 rfl rfl ?_
        refine a_iloadn (pc := 11) dX0_troddenCells_11 rfl rfl ?_
        obtain ⟨r4, S2, hc3, hs⟩ := g_bind2 hs
        refine a_invVi (pc := 12) (ok_X0_isTrodden hc3) gyX0_isTrodden vyX0_isTrodden mlX0_119 sh_1 rfl (As := [.int x2]) rfl rfl (by decide) (st := []) rfl (Nat.le_of_ble_eq_true rfl) dX0_troddenCells_12 ?_
        refine a_if_eq (pc := 15) (tgt := 21) dX0_troddenCells_15 (by decide) (fun c5 => ?_) (fun c5 => ?_)
        · rw [if_pos c5] at hs
          refine a_iinc (pc := 21) dX0_troddenCells_21 rfl (v := x2 + (1 : Int32)) rfl (Nat.le_of_ble_eq_true rfl) rfl (L' := [some (.ref (gad X 1)), some (.int x1), some (.int (x2 + (1 : Int32)))]) rfl ?_
          refine a_goto (pc := 24) (tgt := 4) dX0_troddenCells_24 (by decide) ?_
          obtain rfl := Option.some.inj hs
          exact ih _ _ _ hR
        · rw [if_neg c5] at hs
          refine a_iinc (pc := 18) dX0_troddenCells_18 rfl (v := x1 + (1 : Int32)) rfl (Nat.le_of_ble_eq_true rfl) rfl (L' := [some (.ref (gad X 1)), some (.int (x1 + (1 : Int32))), some (.int x2)]) rfl ?_
          refine a_iinc (pc := 21) dX0_troddenCells_21 rfl (v := x2 + (1 : Int32)) rfl (Nat.le_of_ble_eq_true rfl) rfl (L' := [some (.ref (gad X 1)), some (.int (x1 + (1 : Int32))), some (.int (x2 + (1 : Int32)))]) rfl ?_
          refine a_goto (pc := 24) (tgt := 4) dX0_troddenCells_24 (by decide) ?_
          obtain rfl := Option.some.inj hs
          exact ih _ _ _ hR
  exact lp _ _ _ _ hR6
theorem dX6_count_0 : decode cX6_count 0 = .ok (.iload_n 1, 1) := by decide +kernel
theorem dX6_count_1 : decode cX6_count 1 = .ok (.iconst 2, 1) := by decide +kernel
theorem dX6_count_2 : decode cX6_count 2 = .ok (.if_icmp .lt 21, 3) := by decide +kernel
theorem dX6_count_5 : decode cX6_count 5 = .ok (.iload_n 1, 1) := by decide +kernel
theorem dX6_count_6 : decode cX6_count 6 = .ok (.bipush 6, 2) := by decide +kernel
theorem dX6_count_8 : decode cX6_count 8 = .ok (.if_icmp .gt 15, 3) := by decide +kernel
theorem dX6_count_11 : decode cX6_count 11 = .ok (.aload_n 0, 1) := by decide +kernel
theorem dX6_count_12 : decode cX6_count 12 = .ok (.getfield 12, 3) := by decide +kernel
theorem dX6_count_15 : decode cX6_count 15 = .ok (.getfield 108, 3) := by decide +kernel
theorem dX6_count_18 : decode cX6_count 18 = .ok (.iload_n 1, 1) := by decide +kernel
theorem dX6_count_19 : decode cX6_count 19 = .ok (.iconst 2, 1) := by decide +kernel
theorem dX6_count_20 : decode cX6_count 20 = .ok (.isub, 1) := by decide +kernel
theorem dX6_count_21 : decode cX6_count 21 = .ok (.iaload, 1) := by decide +kernel
theorem dX6_count_22 : decode cX6_count 22 = .ok (.ireturn, 1) := by decide +kernel
theorem dX6_count_23 : decode cX6_count 23 = .ok (.iload_n 1, 1) := by decide +kernel
theorem dX6_count_24 : decode cX6_count 24 = .ok (.tableswitch 111 0 9 #[56, 64, 111, 111, 111, 111, 111, 72, 83, 103], 56) := by decide +kernel
theorem dX6_count_80 : decode cX6_count 80 = .ok (.aload_n 0, 1) := by decide +kernel
theorem dX6_count_81 : decode cX6_count 81 = .ok (.getfield 12, 3) := by decide +kernel
theorem dX6_count_84 : decode cX6_count 84 = .ok (.getfield 55, 3) := by decide +kernel
theorem dX6_count_87 : decode cX6_count 87 = .ok (.ireturn, 1) := by decide +kernel
theorem dX6_count_88 : decode cX6_count 88 = .ok (.aload_n 0, 1) := by decide +kernel
theorem dX6_count_89 : decode cX6_count 89 = .ok (.getfield 12, 3) := by decide +kernel
theorem dX6_count_92 : decode cX6_count 92 = .ok (.getfield 135, 3) := by decide +kernel
theorem dX6_count_95 : decode cX6_count 95 = .ok (.ireturn, 1) := by decide +kernel
theorem dX6_count_96 : decode cX6_count 96 = .ok (.aload_n 0, 1) := by decide +kernel
theorem dX6_count_97 : decode cX6_count 97 = .ok (.getfield 12, 3) := by decide +kernel
theorem dX6_count_100 : decode cX6_count 100 = .ok (.getfield 59, 3) := by decide +kernel
theorem dX6_count_103 : decode cX6_count 103 = .ok (.getfield 138, 3) := by decide +kernel
theorem dX6_count_106 : decode cX6_count 106 = .ok (.ireturn, 1) := by decide +kernel
theorem dX6_count_107 : decode cX6_count 107 = .ok (.aload_n 0, 1) := by decide +kernel
theorem dX6_count_108 : decode cX6_count 108 = .ok (.getfield 39, 3) := by decide +kernel
theorem dX6_count_111 : decode cX6_count 111 = .ok (.aload_n 0, 1) := by decide +kernel
theorem dX6_count_112 : decode cX6_count 112 = .ok (.getfield 12, 3) := by decide +kernel
theorem dX6_count_115 : decode cX6_count 115 = .ok (.iconst 0, 1) := by decide +kernel
theorem dX6_count_116 : decode cX6_count 116 = .ok (.invokevirtual 95, 3) := by decide +kernel
theorem dX6_count_119 : decode cX6_count 119 = .ok (.aload_n 0, 1) := by decide +kernel
theorem dX6_count_120 : decode cX6_count 120 = .ok (.getfield 39, 3) := by decide +kernel
theorem dX6_count_123 : decode cX6_count 123 = .ok (.getfield 141, 3) := by decide +kernel
theorem dX6_count_126 : decode cX6_count 126 = .ok (.ireturn, 1) := by decide +kernel
theorem dX6_count_127 : decode cX6_count 127 = .ok (.aload_n 0, 1) := by decide +kernel
theorem dX6_count_128 : decode cX6_count 128 = .ok (.getfield 12, 3) := by decide +kernel
theorem dX6_count_131 : decode cX6_count 131 = .ok (.invokevirtual 144, 3) := by decide +kernel
theorem dX6_count_134 : decode cX6_count 134 = .ok (.ireturn, 1) := by decide +kernel
theorem dX6_count_135 : decode cX6_count 135 = .ok (.iconst (-1), 1) := by decide +kernel
theorem dX6_count_136 : decode cX6_count 136 = .ok (.ireturn, 1) := by decide +kernel
def f_X6_count_j23 (x1 : Int32) (S : gSt) : Option (Int32 × gSt) :=
(if x1.toInt < 0 ∨ 9 < x1.toInt then
some ((-1 : Int32), S)
else if x1 = (0 : Int32) then
some (S.1 1 7, S)
else if x1 = (1 : Int32) then
some (S.1 1 8, S)
else if x1 = (2 : Int32) then
some ((-1 : Int32), S)
else if x1 = (3 : Int32) then
some ((-1 : Int32), S)
else if x1 = (4 : Int32) then
some ((-1 : Int32), S)
else if x1 = (5 : Int32) then
some ((-1 : Int32), S)
else if x1 = (6 : Int32) then
some ((-1 : Int32), S)
else if x1 = (7 : Int32) then
some (S.1 8 6, S)
else if x1 = (8 : Int32) then
(f_X3_look (0 : Int32) S).bind fun S11 =>
some (S11.1 41 2, S11)
else if x1 = (9 : Int32) then
gBind2 (f_X0_troddenCells S) fun r16 S14 =>
some (r16, S14)
else none)
def f_X6_count (p1 : Int32) (S : gSt) : Option (Int32 × gSt) :=
(if p1 < (2 : Int32) then
f_X6_count_j23 p1 S
else
(if (6 : Int32) < p1 then
f_X6_count_j23 p1 S
else
if gin (p1 - (2 : Int32)) 5 then
(some (S.1 2 (p1 - (2 : Int32)).toNatClampNeg, S)) else none))
set_option maxHeartbeats 4000000 in
set_option maxRecDepth 20000 in
theorem ok_X6_count {p1 : Int32} {S S0 : gSt} {r0 : Int32}  (h : f_X6_count p1 S = some (r0, S0)) : gCT yX6_count cX6_count 2 (some .int) 4 (fun w => [.ref (w.2.1 0), .int p1]) S (some (.int r0)) S0 := by
  refine gEnter (fun X => [some (.ref (gad X 0)), some (.int p1)]) (by decide) (fun X => ⟨rfl, rfl⟩) (fun w => Nat.le_of_ble_eq_true rfl) (fun X hp => ?_)
  show AW X RX6 4 cX6_count 0 [some (.ref (gad X 0)), some (.int p1)] [] S
  unfold f_X6_count at h
  have J23 : ∀ (x1 : Int32) (S : gSt), f_X6_count_j23 x1 S = some (r0, S0) → AW X RX6 4 cX6_count 23 [some (.ref (gad X 0)), some (.int x1)] [] S := by
    intro x1 S h
    unfold f_X6_count_j23 at h
    refine a_iloadn (pc := 23) dX6_count_23 rfl rfl ?_
    by_cases c1 : x1.toInt < 0 ∨ 9 < x1.toInt
    · rw [if_pos c1] at h
      refine a_tabOut (pc := 24) (tgt := 135) dX6_count_24 c1 (by decide) ?_
      refine a_iconst (pc := 135) (v := (-1 : Int32)) dX6_count_135 (by decide) ?_
      obtain ⟨rfl, rfl⟩ := Prod.mk.inj (Option.some.inj h)
      exact a_iret hp dX6_count_136
    rw [if_neg c1] at h
    by_cases c2 : x1 = (0 : Int32)
    · rw [if_pos c2] at h
      refine a_nmI c2 ?_
      refine a_tabIn (pc := 24) (off := 56) (tgt := 80) dX6_count_24 (by decide) (by decide) (by decide) (by decide) ?_
      refine a_aloadn (pc := 80) dX6_count_80 rfl rfl ?_
      refine a_getA (pc := 81) flX6_12 sh_0 rfl dX6_count_81 ?_
      refine a_getI (pc := 84) flX6_55 sh_1 rfl dX6_count_84 ?_
      obtain ⟨rfl, rfl⟩ := Prod.mk.inj (Option.some.inj h)
      exact a_iret hp dX6_count_87
    rw [if_neg c2] at h
    by_cases c3 : x1 = (1 : Int32)
    · rw [if_pos c3] at h
      refine a_nmI c3 ?_
      refine a_tabIn (pc := 24) (off := 64) (tgt := 88) dX6_count_24 (by decide) (by decide) (by decide) (by decide) ?_
      refine a_aloadn (pc := 88) dX6_count_88 rfl rfl ?_
      refine a_getA (pc := 89) flX6_12 sh_0 rfl dX6_count_89 ?_
      refine a_getI (pc := 92) flX6_135 sh_1 rfl dX6_count_92 ?_
      obtain ⟨rfl, rfl⟩ := Prod.mk.inj (Option.some.inj h)
      exact a_iret hp dX6_count_95
    rw [if_neg c3] at h
    by_cases c4 : x1 = (2 : Int32)
    · rw [if_pos c4] at h
      refine a_nmI c4 ?_
      refine a_tabIn (pc := 24) (off := 111) (tgt := 135) dX6_count_24 (by decide) (by decide) (by decide) (by decide) ?_
      refine a_iconst (pc := 135) (v := (-1 : Int32)) dX6_count_135 (by decide) ?_
      obtain ⟨rfl, rfl⟩ := Prod.mk.inj (Option.some.inj h)
      exact a_iret hp dX6_count_136
    rw [if_neg c4] at h
    by_cases c5 : x1 = (3 : Int32)
    · rw [if_pos c5] at h
      refine a_nmI c5 ?_
      refine a_tabIn (pc := 24) (off := 111) (tgt := 135) dX6_count_24 (by decide) (by decide) (by decide) (by decide) ?_
      refine a_iconst (pc := 135) (v := (-1 : Int32)) dX6_count_135 (by decide) ?_
      obtain ⟨rfl, rfl⟩ := Prod.mk.inj (Option.some.inj h)
      exact a_iret hp dX6_count_136
    rw [if_neg c5] at h
    by_cases c6 : x1 = (4 : Int32)
    · rw [if_pos c6] at h
      refine a_nmI c6 ?_
      refine a_tabIn (pc := 24) (off := 111) (tgt := 135) dX6_count_24 (by decide) (by decide) (by decide) (by decide) ?_
      refine a_iconst (pc := 135) (v := (-1 : Int32)) dX6_count_135 (by decide) ?_
      obtain ⟨rfl, rfl⟩ := Prod.mk.inj (Option.some.inj h)
      exact a_iret hp dX6_count_136
    rw [if_neg c6] at h
    by_cases c7 : x1 = (5 : Int32)
    · rw [if_pos c7] at h
      refine a_nmI c7 ?_
      refine a_tabIn (pc := 24) (off := 111) (tgt := 135) dX6_count_24 (by decide) (by decide) (by decide) (by decide) ?_
      refine a_iconst (pc := 135) (v := (-1 : Int32)) dX6_count_135 (by decide) ?_
      obtain ⟨rfl, rfl⟩ := Prod.mk.inj (Option.some.inj h)
      exact a_iret hp dX6_count_136
    rw [if_neg c7] at h
    by_cases c8 : x1 = (6 : Int32)
    · rw [if_pos c8] at h
      refine a_nmI c8 ?_
      refine a_tabIn (pc := 24) (off := 111) (tgt := 135) dX6_count_24 (by decide) (by decide) (by decide) (by decide) ?_
      refine a_iconst (pc := 135) (v := (-1 : Int32)) dX6_count_135 (by decide) ?_
      obtain ⟨rfl, rfl⟩ := Prod.mk.inj (Option.some.inj h)
      exact a_iret hp dX6_count_136
    rw [if_neg c8] at h
    by_cases c9 : x1 = (7 : Int32)
    · rw [if_pos c9] at h
      refine a_nmI c9 ?_
      refine a_tabIn (pc := 24) (off := 72) (tgt := 96) dX6_count_24 (by decide) (by decide) (by decide) (by decide) ?_
      refine a_aloadn (pc := 96) dX6_count_96 rfl rfl ?_
      refine a_getA (pc := 97) flX6_12 sh_0 rfl dX6_count_97 ?_
      refine a_getA (pc := 100) flX6_59 sh_1 rfl dX6_count_100 ?_
      refine a_getI (pc := 103) flX6_138 sh_8 rfl dX6_count_103 ?_
      obtain ⟨rfl, rfl⟩ := Prod.mk.inj (Option.some.inj h)
      exact a_iret hp dX6_count_106
    rw [if_neg c9] at h
    by_cases c10 : x1 = (8 : Int32)
    · rw [if_pos c10] at h
      refine a_nmI c10 ?_
      refine a_tabIn (pc := 24) (off := 83) (tgt := 107) dX6_count_24 (by decide) (by decide) (by decide) (by decide) ?_
      refine a_aloadn (pc := 107) dX6_count_107 rfl rfl ?_
      refine a_getA (pc := 108) flX6_39 sh_0 rfl dX6_count_108 ?_
      refine a_aloadn (pc := 111) dX6_count_111 rfl rfl ?_
      refine a_getA (pc := 112) flX6_12 sh_0 rfl dX6_count_112 ?_
      refine a_iconst (pc := 115) (v := (0 : Int32)) dX6_count_115 (by decide) ?_
      obtain ⟨S11, hc12, h⟩ := g_bind h
      refine a_invVv (pc := 116) (ok_X3_look hc12) gyX3_look vyX3_look mlX6_95 sh_41 rfl (As := [.ref (gad X 1), .int (0 : Int32)]) rfl rfl (by decide) (st := []) rfl (Nat.le_of_ble_eq_true rfl) dX6_count_116 ?_
      refine a_aloadn (pc := 119) dX6_count_119 rfl rfl ?_
      refine a_getA (pc := 120) flX6_39 sh_0 rfl dX6_count_120 ?_
      refine a_getI (pc := 123) flX6_141 sh_41 rfl dX6_count_123 ?_
      obtain ⟨rfl, rfl⟩ := Prod.mk.inj (Option.some.inj h)
      exact a_iret hp dX6_count_126
    rw [if_neg c10] at h
    by_cases c13 : x1 = (9 : Int32)
    · rw [if_pos c13] at h
      refine a_nmI c13 ?_
      refine a_tabIn (pc := 24) (off := 103) (tgt := 127) dX6_count_24 (by decide) (by decide) (by decide) (by decide) ?_
      refine a_aloadn (pc := 127) dX6_count_127 rfl rfl ?_
      refine a_getA (pc := 128) flX6_12 sh_0 rfl dX6_count_128 ?_
      obtain ⟨r16, S14, hc15, h⟩ := g_bind2 h
      refine a_invVi (pc := 131) (ok_X0_troddenCells hc15) gyX0_troddenCells vyX0_troddenCells mlX6_144 sh_1 rfl (As := []) rfl rfl (by decide) (st := []) rfl (Nat.le_of_ble_eq_true rfl) dX6_count_131 ?_
      obtain ⟨rfl, rfl⟩ := Prod.mk.inj (Option.some.inj h)
      exact a_iret hp dX6_count_134
    rw [if_neg c13] at h
    cases h
  refine a_iloadn (pc := 0) dX6_count_0 rfl rfl ?_
  refine a_iconst (pc := 1) (v := (2 : Int32)) dX6_count_1 (by decide) ?_
  refine a_icmp_lt (pc := 2) (tgt := 23) dX6_count_2 (by decide) (fun c17 => ?_) (fun c17 => ?_)
  · rw [if_pos c17] at h
    exact J23 _ _ h
  · rw [if_neg c17] at h
    refine a_iloadn (pc := 5) dX6_count_5 rfl rfl ?_
    refine a_bipush (pc := 6) (v := (6 : Int32)) dX6_count_6 (by decide) ?_
    refine a_icmp_gt (pc := 8) (tgt := 23) dX6_count_8 (by decide) (fun c18 => ?_) (fun c18 => ?_)
    · rw [if_pos c18] at h
      exact J23 _ _ h
    · rw [if_neg c18] at h
      refine a_aloadn (pc := 11) dX6_count_11 rfl rfl ?_
      refine a_getA (pc := 12) flX6_12 sh_0 rfl dX6_count_12 ?_
      refine a_getA (pc := 15) flX6_108 sh_1 rfl dX6_count_15 ?_
      refine a_iloadn (pc := 18) dX6_count_18 rfl rfl ?_
      refine a_iconst (pc := 19) (v := (2 : Int32)) dX6_count_19 (by decide) ?_
      refine a_isub (pc := 20) dX6_count_20 ?_
      obtain ⟨hi19, h⟩ := g_if h
      refine a_iald (pc := 21) sh_2 hi19 dX6_count_21 ?_
      obtain ⟨rfl, rfl⟩ := Prod.mk.inj (Option.some.inj h)
      exact a_iret hp dX6_count_22
theorem dX6_beside_0 : decode cX6_beside 0 = .ok (.iload_n 1, 1) := by decide +kernel
theorem dX6_beside_1 : decode cX6_beside 1 = .ok (.tableswitch 80 0 2 #[27, 45, 64], 27) := by decide +kernel
theorem dX6_beside_28 : decode cX6_beside 28 = .ok (.iload_n 0, 1) := by decide +kernel
theorem dX6_beside_29 : decode cX6_beside 29 = .ok (.invokestatic 273, 3) := by decide +kernel
theorem dX6_beside_32 : decode cX6_beside 32 = .ok (.bipush 7, 2) := by decide +kernel
theorem dX6_beside_34 : decode cX6_beside 34 = .ok (.if_icmp .ge 9, 3) := by decide +kernel
theorem dX6_beside_37 : decode cX6_beside 37 = .ok (.iload_n 0, 1) := by decide +kernel
theorem dX6_beside_38 : decode cX6_beside 38 = .ok (.iconst 1, 1) := by decide +kernel
theorem dX6_beside_39 : decode cX6_beside 39 = .ok (.iadd, 1) := by decide +kernel
theorem dX6_beside_40 : decode cX6_beside 40 = .ok (.goto 5, 3) := by decide +kernel
theorem dX6_beside_43 : decode cX6_beside 43 = .ok (.bipush (-2), 2) := by decide +kernel
theorem dX6_beside_45 : decode cX6_beside 45 = .ok (.ireturn, 1) := by decide +kernel
theorem dX6_beside_46 : decode cX6_beside 46 = .ok (.iload_n 0, 1) := by decide +kernel
theorem dX6_beside_47 : decode cX6_beside 47 = .ok (.invokestatic 276, 3) := by decide +kernel
theorem dX6_beside_50 : decode cX6_beside 50 = .ok (.bipush 7, 2) := by decide +kernel
theorem dX6_beside_52 : decode cX6_beside 52 = .ok (.if_icmp .ge 10, 3) := by decide +kernel
theorem dX6_beside_55 : decode cX6_beside 55 = .ok (.iload_n 0, 1) := by decide +kernel
theorem dX6_beside_56 : decode cX6_beside 56 = .ok (.bipush 8, 2) := by decide +kernel
theorem dX6_beside_58 : decode cX6_beside 58 = .ok (.iadd, 1) := by decide +kernel
theorem dX6_beside_59 : decode cX6_beside 59 = .ok (.goto 5, 3) := by decide +kernel
theorem dX6_beside_62 : decode cX6_beside 62 = .ok (.bipush (-2), 2) := by decide +kernel
theorem dX6_beside_64 : decode cX6_beside 64 = .ok (.ireturn, 1) := by decide +kernel
theorem dX6_beside_65 : decode cX6_beside 65 = .ok (.iload_n 0, 1) := by decide +kernel
theorem dX6_beside_66 : decode cX6_beside 66 = .ok (.invokestatic 273, 3) := by decide +kernel
theorem dX6_beside_69 : decode cX6_beside 69 = .ok (.ifCond .le 9, 3) := by decide +kernel
theorem dX6_beside_72 : decode cX6_beside 72 = .ok (.iload_n 0, 1) := by decide +kernel
theorem dX6_beside_73 : decode cX6_beside 73 = .ok (.iconst 1, 1) := by decide +kernel
theorem dX6_beside_74 : decode cX6_beside 74 = .ok (.isub, 1) := by decide +kernel
theorem dX6_beside_75 : decode cX6_beside 75 = .ok (.goto 5, 3) := by decide +kernel
theorem dX6_beside_78 : decode cX6_beside 78 = .ok (.bipush (-2), 2) := by decide +kernel
theorem dX6_beside_80 : decode cX6_beside 80 = .ok (.ireturn, 1) := by decide +kernel
theorem dX6_beside_81 : decode cX6_beside 81 = .ok (.iload_n 0, 1) := by decide +kernel
theorem dX6_beside_82 : decode cX6_beside 82 = .ok (.invokestatic 276, 3) := by decide +kernel
theorem dX6_beside_85 : decode cX6_beside 85 = .ok (.ifCond .le 10, 3) := by decide +kernel
theorem dX6_beside_88 : decode cX6_beside 88 = .ok (.iload_n 0, 1) := by decide +kernel
theorem dX6_beside_89 : decode cX6_beside 89 = .ok (.bipush 8, 2) := by decide +kernel
theorem dX6_beside_91 : decode cX6_beside 91 = .ok (.isub, 1) := by decide +kernel
theorem dX6_beside_92 : decode cX6_beside 92 = .ok (.goto 5, 3) := by decide +kernel
theorem dX6_beside_95 : decode cX6_beside 95 = .ok (.bipush (-2), 2) := by decide +kernel
theorem dX6_beside_97 : decode cX6_beside 97 = .ok (.ireturn, 1) := by decide +kernel
def f_X6_beside (p0 : Int32) (p1 : Int32) (S : gSt) : Option (Int32 × gSt) :=
(if p1.toInt < 0 ∨ 2 < p1.toInt then
gBind2 (f_X6_rowOf p0 S) fun r4 S2 =>
(if r4 ≤ 0 then
some ((-2 : Int32), S2)
else
some (p0 - (8 : Int32), S2))
else if p1 = (0 : Int32) then
gBind2 (f_X6_columnOf p0 S) fun r9 S7 =>
(if (7 : Int32) ≤ r9 then
some ((-2 : Int32), S7)
else
some (p0 + (1 : Int32), S7))
else if p1 = (1 : Int32) then
gBind2 (f_X6_rowOf p0 S) fun r14 S12 =>
(if (7 : Int32) ≤ r14 then
some ((-2 : Int32), S12)
else
some (p0 + (8 : Int32), S12))
else if p1 = (2 : Int32) then
gBind2 (f_X6_columnOf p0 S) fun r19 S17 =>
(if r19 ≤ 0 then
some ((-2 : Int32), S17)
else
some (p0 - (1 : Int32), S17))
else none)
set_option maxHeartbeats 4000000 in
set_option maxRecDepth 20000 in
theorem ok_X6_beside {p0 : Int32} {p1 : Int32} {S S0 : gSt} {r0 : Int32}  (h : f_X6_beside p0 p1 S = some (r0, S0)) : gCT yX6_beside cX6_beside 2 (some .int) 1 (fun w => [.int p0, .int p1]) S (some (.int r0)) S0 := by
  refine gEnter (fun X => [some (.int p0), some (.int p1)]) (by decide) (fun X => ⟨rfl, rfl⟩) (fun w => Nat.le_of_ble_eq_true rfl) (fun X hp => ?_)
  show AW X RX6 1 cX6_beside 0 [some (.int p0), some (.int p1)] [] S
  unfold f_X6_beside at h
  refine a_iloadn (pc := 0) dX6_beside_0 rfl rfl ?_
  by_cases c1 : p1.toInt < 0 ∨ 2 < p1.toInt
  · rw [if_pos c1] at h
    refine a_tabOut (pc := 1) (tgt := 81) dX6_beside_1 c1 (by decide) ?_
    refine a_iloadn (pc := 81) dX6_beside_81 rfl rfl ?_
    obtain ⟨r4, S2, hc3, h⟩ := g_bind2 h
    refine a_invSi (pc := 82) (ok_X6_rowOf hc3) gyX6_rowOf syX6_rowOf mlX6_276 (As := [.int p0]) rfl rfl (by decide) (st := []) rfl (Nat.le_of_ble_eq_true rfl) dX6_beside_82 ?_
    refine a_if_le (pc := 85) (tgt := 95) dX6_beside_85 (by decide) (fun c5 => ?_) (fun c5 => ?_)
    · rw [if_pos c5] at h
      refine a_bipush (pc := 95) (v := (-2 : Int32)) dX6_beside_95 (by decide) ?_
      obtain ⟨rfl, rfl⟩ := Prod.mk.inj (Option.some.inj h)
      exact a_iret hp dX6_beside_97
    · rw [if_neg c5] at h
      refine a_iloadn (pc := 88) dX6_beside_88 rfl rfl ?_
      refine a_bipush (pc := 89) (v := (8 : Int32)) dX6_beside_89 (by decide) ?_
      refine a_isub (pc := 91) dX6_beside_91 ?_
      refine a_goto (pc := 92) (tgt := 97) dX6_beside_92 (by decide) ?_
      obtain ⟨rfl, rfl⟩ := Prod.mk.inj (Option.some.inj h)
      exact a_iret hp dX6_beside_97
  rw [if_neg c1] at h
  by_cases c6 : p1 = (0 : Int32)
  · rw [if_pos c6] at h
    refine a_nmI c6 ?_
    refine a_tabIn (pc := 1) (off := 27) (tgt := 28) dX6_beside_1 (by decide) (by decide) (by decide) (by decide) ?_
    refine a_iloadn (pc := 28) dX6_beside_28 rfl rfl ?_
    obtain ⟨r9, S7, hc8, h⟩ := g_bind2 h
    refine a_invSi (pc := 29) (ok_X6_columnOf hc8) gyX6_columnOf syX6_columnOf mlX6_273 (As := [.int p0]) rfl rfl (by decide) (st := []) rfl (Nat.le_of_ble_eq_true rfl) dX6_beside_29 ?_
    refine a_bipush (pc := 32) (v := (7 : Int32)) dX6_beside_32 (by decide) ?_
    refine a_icmp_ge (pc := 34) (tgt := 43) dX6_beside_34 (by decide) (fun c10 => ?_) (fun c10 => ?_)
    · rw [if_pos c10] at h
      refine a_bipush (pc := 43) (v := (-2 : Int32)) dX6_beside_43 (by decide) ?_
      obtain ⟨rfl, rfl⟩ := Prod.mk.inj (Option.some.inj h)
      exact a_iret hp dX6_beside_45
    · rw [if_neg c10] at h
      refine a_iloadn (pc := 37) dX6_beside_37 rfl rfl ?_
      refine a_iconst (pc := 38) (v := (1 : Int32)) dX6_beside_38 (by decide) ?_
      refine a_iadd (pc := 39) dX6_beside_39 ?_
      refine a_goto (pc := 40) (tgt := 45) dX6_beside_40 (by decide) ?_
      obtain ⟨rfl, rfl⟩ := Prod.mk.inj (Option.some.inj h)
      exact a_iret hp dX6_beside_45
  rw [if_neg c6] at h
  by_cases c11 : p1 = (1 : Int32)
  · rw [if_pos c11] at h
    refine a_nmI c11 ?_
    refine a_tabIn (pc := 1) (off := 45) (tgt := 46) dX6_beside_1 (by decide) (by decide) (by decide) (by decide) ?_
    refine a_iloadn (pc := 46) dX6_beside_46 rfl rfl ?_
    obtain ⟨r14, S12, hc13, h⟩ := g_bind2 h
    refine a_invSi (pc := 47) (ok_X6_rowOf hc13) gyX6_rowOf syX6_rowOf mlX6_276 (As := [.int p0]) rfl rfl (by decide) (st := []) rfl (Nat.le_of_ble_eq_true rfl) dX6_beside_47 ?_
    refine a_bipush (pc := 50) (v := (7 : Int32)) dX6_beside_50 (by decide) ?_
    refine a_icmp_ge (pc := 52) (tgt := 62) dX6_beside_52 (by decide) (fun c15 => ?_) (fun c15 => ?_)
    · rw [if_pos c15] at h
      refine a_bipush (pc := 62) (v := (-2 : Int32)) dX6_beside_62 (by decide) ?_
      obtain ⟨rfl, rfl⟩ := Prod.mk.inj (Option.some.inj h)
      exact a_iret hp dX6_beside_64
    · rw [if_neg c15] at h
      refine a_iloadn (pc := 55) dX6_beside_55 rfl rfl ?_
      refine a_bipush (pc := 56) (v := (8 : Int32)) dX6_beside_56 (by decide) ?_
      refine a_iadd (pc := 58) dX6_beside_58 ?_
      refine a_goto (pc := 59) (tgt := 64) dX6_beside_59 (by decide) ?_
      obtain ⟨rfl, rfl⟩ := Prod.mk.inj (Option.some.inj h)
      exact a_iret hp dX6_beside_64
  rw [if_neg c11] at h
  by_cases c16 : p1 = (2 : Int32)
  · rw [if_pos c16] at h
    refine a_nmI c16 ?_
    refine a_tabIn (pc := 1) (off := 64) (tgt := 65) dX6_beside_1 (by decide) (by decide) (by decide) (by decide) ?_
    refine a_iloadn (pc := 65) dX6_beside_65 rfl rfl ?_
    obtain ⟨r19, S17, hc18, h⟩ := g_bind2 h
    refine a_invSi (pc := 66) (ok_X6_columnOf hc18) gyX6_columnOf syX6_columnOf mlX6_273 (As := [.int p0]) rfl rfl (by decide) (st := []) rfl (Nat.le_of_ble_eq_true rfl) dX6_beside_66 ?_
    refine a_if_le (pc := 69) (tgt := 78) dX6_beside_69 (by decide) (fun c20 => ?_) (fun c20 => ?_)
    · rw [if_pos c20] at h
      refine a_bipush (pc := 78) (v := (-2 : Int32)) dX6_beside_78 (by decide) ?_
      obtain ⟨rfl, rfl⟩ := Prod.mk.inj (Option.some.inj h)
      exact a_iret hp dX6_beside_80
    · rw [if_neg c20] at h
      refine a_iloadn (pc := 72) dX6_beside_72 rfl rfl ?_
      refine a_iconst (pc := 73) (v := (1 : Int32)) dX6_beside_73 (by decide) ?_
      refine a_isub (pc := 74) dX6_beside_74 ?_
      refine a_goto (pc := 75) (tgt := 80) dX6_beside_75 (by decide) ?_
      obtain ⟨rfl, rfl⟩ := Prod.mk.inj (Option.some.inj h)
      exact a_iret hp dX6_beside_80
  rw [if_neg c16] at h
  cases h
theorem dX1_keep_0 : decode cX1_keep 0 = .ok (.aload_n 1, 1) := by decide +kernel
theorem dX1_keep_1 : decode cX1_keep 1 = .ok (.getfield 34, 3) := by decide +kernel
theorem dX1_keep_4 : decode cX1_keep 4 = .ok (.iconst 0, 1) := by decide +kernel
theorem dX1_keep_5 : decode cX1_keep 5 = .ok (.aload_n 0, 1) := by decide +kernel
theorem dX1_keep_6 : decode cX1_keep 6 = .ok (.getfield 9, 3) := by decide +kernel
theorem dX1_keep_9 : decode cX1_keep 9 = .ok (.aload_n 0, 1) := by decide +kernel
theorem dX1_keep_10 : decode cX1_keep 10 = .ok (.getfield 27, 3) := by decide +kernel
theorem dX1_keep_13 : decode cX1_keep 13 = .ok (.sipush 384, 3) := by decide +kernel
theorem dX1_keep_16 : decode cX1_keep 16 = .ok (.imul, 1) := by decide +kernel
theorem dX1_keep_17 : decode cX1_keep 17 = .ok (.sipush 384, 3) := by decide +kernel
theorem dX1_keep_20 : decode cX1_keep 20 = .ok (.invokestatic 37, 3) := by decide +kernel
theorem dX1_keep_23 : decode cX1_keep 23 = .ok (.aload_n 1, 1) := by decide +kernel
theorem dX1_keep_24 : decode cX1_keep 24 = .ok (.getfield 43, 3) := by decide +kernel
theorem dX1_keep_27 : decode cX1_keep 27 = .ok (.iconst 0, 1) := by decide +kernel
theorem dX1_keep_28 : decode cX1_keep 28 = .ok (.aload_n 0, 1) := by decide +kernel
theorem dX1_keep_29 : decode cX1_keep 29 = .ok (.getfield 15, 3) := by decide +kernel
theorem dX1_keep_32 : decode cX1_keep 32 = .ok (.aload_n 0, 1) := by decide +kernel
theorem dX1_keep_33 : decode cX1_keep 33 = .ok (.getfield 27, 3) := by decide +kernel
theorem dX1_keep_36 : decode cX1_keep 36 = .ok (.bipush 6, 2) := by decide +kernel
theorem dX1_keep_38 : decode cX1_keep 38 = .ok (.imul, 1) := by decide +kernel
theorem dX1_keep_39 : decode cX1_keep 39 = .ok (.bipush 6, 2) := by decide +kernel
theorem dX1_keep_41 : decode cX1_keep 41 = .ok (.invokestatic 37, 3) := by decide +kernel
theorem dX1_keep_44 : decode cX1_keep 44 = .ok (.aload_n 1, 1) := by decide +kernel
theorem dX1_keep_45 : decode cX1_keep 45 = .ok (.getfield 44, 3) := by decide +kernel
theorem dX1_keep_48 : decode cX1_keep 48 = .ok (.iconst 0, 1) := by decide +kernel
theorem dX1_keep_49 : decode cX1_keep 49 = .ok (.aload_n 0, 1) := by decide +kernel
theorem dX1_keep_50 : decode cX1_keep 50 = .ok (.getfield 18, 3) := by decide +kernel
theorem dX1_keep_53 : decode cX1_keep 53 = .ok (.aload_n 0, 1) := by decide +kernel
theorem dX1_keep_54 : decode cX1_keep 54 = .ok (.getfield 27, 3) := by decide +kernel
theorem dX1_keep_57 : decode cX1_keep 57 = .ok (.bipush 6, 2) := by decide +kernel
theorem dX1_keep_59 : decode cX1_keep 59 = .ok (.imul, 1) := by decide +kernel
theorem dX1_keep_60 : decode cX1_keep 60 = .ok (.bipush 6, 2) := by decide +kernel
theorem dX1_keep_62 : decode cX1_keep 62 = .ok (.invokestatic 37, 3) := by decide +kernel
theorem dX1_keep_65 : decode cX1_keep 65 = .ok (.aload_n 0, 1) := by decide +kernel
theorem dX1_keep_66 : decode cX1_keep 66 = .ok (.getfield 21, 3) := by decide +kernel
theorem dX1_keep_69 : decode cX1_keep 69 = .ok (.aload_n 0, 1) := by decide +kernel
theorem dX1_keep_70 : decode cX1_keep 70 = .ok (.getfield 27, 3) := by decide +kernel
theorem dX1_keep_73 : decode cX1_keep 73 = .ok (.aload_n 1, 1) := by decide +kernel
theorem dX1_keep_74 : decode cX1_keep 74 = .ok (.getfield 45, 3) := by decide +kernel
theorem dX1_keep_77 : decode cX1_keep 77 = .ok (.iastore, 1) := by decide +kernel
theorem dX1_keep_78 : decode cX1_keep 78 = .ok (.aload_n 0, 1) := by decide +kernel
theorem dX1_keep_79 : decode cX1_keep 79 = .ok (.getfield 24, 3) := by decide +kernel
theorem dX1_keep_82 : decode cX1_keep 82 = .ok (.aload_n 0, 1) := by decide +kernel
theorem dX1_keep_83 : decode cX1_keep 83 = .ok (.getfield 27, 3) := by decide +kernel
theorem dX1_keep_86 : decode cX1_keep 86 = .ok (.aload_n 1, 1) := by decide +kernel
theorem dX1_keep_87 : decode cX1_keep 87 = .ok (.getfield 48, 3) := by decide +kernel
theorem dX1_keep_90 : decode cX1_keep 90 = .ok (.iastore, 1) := by decide +kernel
theorem dX1_keep_91 : decode cX1_keep 91 = .ok (.aload_n 0, 1) := by decide +kernel
theorem dX1_keep_92 : decode cX1_keep 92 = .ok (.aload_n 0, 1) := by decide +kernel
theorem dX1_keep_93 : decode cX1_keep 93 = .ok (.getfield 27, 3) := by decide +kernel
theorem dX1_keep_96 : decode cX1_keep 96 = .ok (.iconst 1, 1) := by decide +kernel
theorem dX1_keep_97 : decode cX1_keep 97 = .ok (.iadd, 1) := by decide +kernel
theorem dX1_keep_98 : decode cX1_keep 98 = .ok (.bipush 8, 2) := by decide +kernel
theorem dX1_keep_100 : decode cX1_keep 100 = .ok (.irem, 1) := by decide +kernel
theorem dX1_keep_101 : decode cX1_keep 101 = .ok (.putfield 27, 3) := by decide +kernel
theorem dX1_keep_104 : decode cX1_keep 104 = .ok (.aload_n 0, 1) := by decide +kernel
theorem dX1_keep_105 : decode cX1_keep 105 = .ok (.bipush 8, 2) := by decide +kernel
theorem dX1_keep_107 : decode cX1_keep 107 = .ok (.aload_n 0, 1) := by decide +kernel
theorem dX1_keep_108 : decode cX1_keep 108 = .ok (.getfield 31, 3) := by decide +kernel
theorem dX1_keep_111 : decode cX1_keep 111 = .ok (.iconst 1, 1) := by decide +kernel
theorem dX1_keep_112 : decode cX1_keep 112 = .ok (.iadd, 1) := by decide +kernel
theorem dX1_keep_113 : decode cX1_keep 113 = .ok (.invokestatic 51, 3) := by decide +kernel
theorem dX1_keep_116 : decode cX1_keep 116 = .ok (.putfield 31, 3) := by decide +kernel
theorem dX1_keep_119 : decode cX1_keep 119 = .ok (.return_, 1) := by decide +kernel
def f_X1_keep (S : gSt) : Option gSt :=
if gcp (0 : Int32) ((S.1 8 5) * (384 : Int32)) (384 : Int32) 384 3072 then
gLet (gR S 9 (va_cpy (S.1 7) (S.1 9) (0 : Int32).toNatClampNeg ((S.1 8 5) * (384 : Int32)).toNatClampNeg (384 : Int32).toNatClampNeg)) fun S2 =>
(if gcp (0 : Int32) ((S2.1 8 5) * (6 : Int32)) (6 : Int32) 6 48 then
gLet (gR S2 10 (va_cpy (S2.1 5) (S2.1 10) (0 : Int32).toNatClampNeg ((S2.1 8 5) * (6 : Int32)).toNatClampNeg (6 : Int32).toNatClampNeg)) fun S4 =>
(if gcp (0 : Int32) ((S4.1 8 5) * (6 : Int32)) (6 : Int32) 6 48 then
gLet (gR S4 11 (va_cpy (S4.1 6) (S4.1 11) (0 : Int32).toNatClampNeg ((S4.1 8 5) * (6 : Int32)).toNatClampNeg (6 : Int32).toNatClampNeg)) fun S6 =>
(if gin (S6.1 8 5) 8 then
gLet (gI S6 12 (S6.1 8 5).toNatClampNeg (S6.1 1 8)) fun S8 =>
(if gin (S8.1 8 5) 8 then
gLet (gI S8 13 (S8.1 8 5).toNatClampNeg (S8.1 1 9)) fun S10 =>
(gLet (gI S10 8 5 (((S10.1 8 5) + (1 : Int32)) - ((S10.1 8 5) + (1 : Int32)) / (8 : Int32) * (8 : Int32))) fun S11 =>
gLet (gI S11 8 6 (if ((S11.1 8 6) + (1 : Int32)) < (8 : Int32) then ((S11.1 8 6) + (1 : Int32)) else (8 : Int32))) fun S12 =>
some S12) else none) else none) else none) else none) else none
set_option maxHeartbeats 4000000 in
set_option maxRecDepth 20000 in
theorem ok_X1_keep {S S0 : gSt}  (h : f_X1_keep S = some S0) : gCT yX1_keep cX1_keep 2 none 1 (fun w => [.ref (w.2.1 8), .ref (w.2.1 1)]) S none S0 := by
  refine gEnter (fun X => [some (.ref (gad X 8)), some (.ref (gad X 1))]) (by decide) (fun X => ⟨rfl, rfl⟩) (fun w => Nat.le_of_ble_eq_true rfl) (fun X hp => ?_)
  show AW X RX1 1 cX1_keep 0 [some (.ref (gad X 8)), some (.ref (gad X 1))] [] S
  unfold f_X1_keep at h
  refine a_aloadn (pc := 0) dX1_keep_0 rfl rfl ?_
  refine a_getA (pc := 1) flX1_34 sh_1 rfl dX1_keep_1 ?_
  refine a_iconst (pc := 4) (v := (0 : Int32)) dX1_keep_4 (by decide) ?_
  refine a_aloadn (pc := 5) dX1_keep_5 rfl rfl ?_
  refine a_getA (pc := 6) flX1_9 sh_8 rfl dX1_keep_6 ?_
  refine a_aloadn (pc := 9) dX1_keep_9 rfl rfl ?_
  refine a_getI (pc := 10) flX1_27 sh_8 rfl dX1_keep_10 ?_
  refine a_sipush (pc := 13) (v := (384 : Int32)) dX1_keep_13 (by decide) ?_
  refine a_imul (pc := 16) dX1_keep_16 ?_
  refine a_sipush (pc := 17) (v := (384 : Int32)) dX1_keep_17 (by decide) ?_
  obtain ⟨hi1, h⟩ := g_if h
  refine a_copyi (pc := 20) sh_7 sh_9 hi1 mlX1_37 (by decide) (Nat.le_of_ble_eq_true rfl) dX1_keep_20 ?_
  obtain ⟨S2, eS2, h⟩ := g_let h
  refine a_nmS eS2 ?_
  refine a_aloadn (pc := 23) dX1_keep_23 rfl rfl ?_
  refine a_getA (pc := 24) flX1_43 sh_1 rfl dX1_keep_24 ?_
  refine a_iconst (pc := 27) (v := (0 : Int32)) dX1_keep_27 (by decide) ?_
  refine a_aloadn (pc := 28) dX1_keep_28 rfl rfl ?_
  refine a_getA (pc := 29) flX1_15 sh_8 rfl dX1_keep_29 ?_
  refine a_aloadn (pc := 32) dX1_keep_32 rfl rfl ?_
  refine a_getI (pc := 33) flX1_27 sh_8 rfl dX1_keep_33 ?_
  refine a_bipush (pc := 36) (v := (6 : Int32)) dX1_keep_36 (by decide) ?_
  refine a_imul (pc := 38) dX1_keep_38 ?_
  refine a_bipush (pc := 39) (v := (6 : Int32)) dX1_keep_39 (by decide) ?_
  obtain ⟨hi3, h⟩ := g_if h
  refine a_copyi (pc := 41) sh_5 sh_10 hi3 mlX1_37 (by decide) (Nat.le_of_ble_eq_true rfl) dX1_keep_41 ?_
  obtain ⟨S4, eS4, h⟩ := g_let h
  refine a_nmS eS4 ?_
  refine a_aloadn (pc := 44) dX1_keep_44 rfl rfl ?_
  refine a_getA (pc := 45) flX1_44 sh_1 rfl dX1_keep_45 ?_
  refine a_iconst (pc := 48) (v := (0 : Int32)) dX1_keep_48 (by decide) ?_
  refine a_aloadn (pc := 49) dX1_keep_49 rfl rfl ?_
  refine a_getA (pc := 50) flX1_18 sh_8 rfl dX1_keep_50 ?_
  refine a_aloadn (pc := 53) dX1_keep_53 rfl rfl ?_
  refine a_getI (pc := 54) flX1_27 sh_8 rfl dX1_keep_54 ?_
  refine a_bipush (pc := 57) (v := (6 : Int32)) dX1_keep_57 (by decide) ?_
  refine a_imul (pc := 59) dX1_keep_59 ?_
  refine a_bipush (pc := 60) (v := (6 : Int32)) dX1_keep_60 (by decide) ?_
  obtain ⟨hi5, h⟩ := g_if h
  refine a_copyi (pc := 62) sh_6 sh_11 hi5 mlX1_37 (by decide) (Nat.le_of_ble_eq_true rfl) dX1_keep_62 ?_
  obtain ⟨S6, eS6, h⟩ := g_let h
  refine a_nmS eS6 ?_
  refine a_aloadn (pc := 65) dX1_keep_65 rfl rfl ?_
  refine a_getA (pc := 66) flX1_21 sh_8 rfl dX1_keep_66 ?_
  refine a_aloadn (pc := 69) dX1_keep_69 rfl rfl ?_
  refine a_getI (pc := 70) flX1_27 sh_8 rfl dX1_keep_70 ?_
  refine a_aloadn (pc := 73) dX1_keep_73 rfl rfl ?_
  refine a_getI (pc := 74) flX1_45 sh_1 rfl dX1_keep_74 ?_
  obtain ⟨hi7, h⟩ := g_if h
  refine a_iast (pc := 77) sh_12 hi7 dX1_keep_77 ?_
  obtain ⟨S8, eS8, h⟩ := g_let h
  refine a_nmS eS8 ?_
  refine a_aloadn (pc := 78) dX1_keep_78 rfl rfl ?_
  refine a_getA (pc := 79) flX1_24 sh_8 rfl dX1_keep_79 ?_
  refine a_aloadn (pc := 82) dX1_keep_82 rfl rfl ?_
  refine a_getI (pc := 83) flX1_27 sh_8 rfl dX1_keep_83 ?_
  refine a_aloadn (pc := 86) dX1_keep_86 rfl rfl ?_
  refine a_getI (pc := 87) flX1_48 sh_1 rfl dX1_keep_87 ?_
  obtain ⟨hi9, h⟩ := g_if h
  refine a_iast (pc := 90) sh_13 hi9 dX1_keep_90 ?_
  obtain ⟨S10, eS10, h⟩ := g_let h
  refine a_nmS eS10 ?_
  refine a_aloadn (pc := 91) dX1_keep_91 rfl rfl ?_
  refine a_aloadn (pc := 92) dX1_keep_92 rfl rfl ?_
  refine a_getI (pc := 93) flX1_27 sh_8 rfl dX1_keep_93 ?_
  refine a_iconst (pc := 96) (v := (1 : Int32)) dX1_keep_96 (by decide) ?_
  refine a_iadd (pc := 97) dX1_keep_97 ?_
  refine a_bipush (pc := 98) (v := (8 : Int32)) dX1_keep_98 (by decide) ?_
  refine a_irem (pc := 100) dX1_keep_100 (by decide) ?_
  refine a_putI (pc := 101) flX1_27 sh_8 rfl rfl rfl dX1_keep_101 ?_
  obtain ⟨S11, eS11, h⟩ := g_let h
  refine a_nmS eS11 ?_
  refine a_aloadn (pc := 104) dX1_keep_104 rfl rfl ?_
  refine a_bipush (pc := 105) (v := (8 : Int32)) dX1_keep_105 (by decide) ?_
  refine a_aloadn (pc := 107) dX1_keep_107 rfl rfl ?_
  refine a_getI (pc := 108) flX1_31 sh_8 rfl dX1_keep_108 ?_
  refine a_iconst (pc := 111) (v := (1 : Int32)) dX1_keep_111 (by decide) ?_
  refine a_iadd (pc := 112) dX1_keep_112 ?_
  refine a_min (pc := 113) mlX1_51 (by decide) (Nat.le_of_ble_eq_true rfl) dX1_keep_113 ?_
  refine a_putI (pc := 116) flX1_31 sh_8 rfl rfl rfl dX1_keep_116 ?_
  obtain ⟨S12, eS12, h⟩ := g_let h
  refine a_nmS eS12 ?_
  obtain rfl := Option.some.inj h
  exact a_vret hp dX1_keep_119
theorem dX6_comesDown_0 : decode cX6_comesDown 0 = .ok (.iload_n 0, 1) := by decide +kernel
theorem dX6_comesDown_1 : decode cX6_comesDown 1 = .ok (.iconst 4, 1) := by decide +kernel
theorem dX6_comesDown_2 : decode cX6_comesDown 2 = .ok (.if_icmp .ne 9, 3) := by decide +kernel
theorem dX6_comesDown_5 : decode cX6_comesDown 5 = .ok (.iload_n 1, 1) := by decide +kernel
theorem dX6_comesDown_6 : decode cX6_comesDown 6 = .ok (.iconst 1, 1) := by decide +kernel
theorem dX6_comesDown_7 : decode cX6_comesDown 7 = .ok (.iand, 1) := by decide +kernel
theorem dX6_comesDown_8 : decode cX6_comesDown 8 = .ok (.ifCond .ne 7, 3) := by decide +kernel
theorem dX6_comesDown_11 : decode cX6_comesDown 11 = .ok (.iconst 1, 1) := by decide +kernel
theorem dX6_comesDown_12 : decode cX6_comesDown 12 = .ok (.goto 4, 3) := by decide +kernel
theorem dX6_comesDown_15 : decode cX6_comesDown 15 = .ok (.iconst 0, 1) := by decide +kernel
theorem dX6_comesDown_16 : decode cX6_comesDown 16 = .ok (.ireturn, 1) := by decide +kernel
def f_X6_comesDown (p0 : Int32) (p1 : Int32) (S : gSt) : Option (Int32 × gSt) :=
(if p0 = (4 : Int32) then
(if (p1 &&& (1 : Int32)) = 0 then
some ((1 : Int32), S)
else
some ((0 : Int32), S))
else
some ((1 : Int32), S))
set_option maxHeartbeats 4000000 in
set_option maxRecDepth 20000 in
theorem ok_X6_comesDown {p0 : Int32} {p1 : Int32} {S S0 : gSt} {r0 : Int32}  (h : f_X6_comesDown p0 p1 S = some (r0, S0)) : gCT yX6_comesDown cX6_comesDown 2 (some .boolean) 0 (fun w => [.int p0, .int p1]) S (some (.int r0)) S0 := by
  refine gEnter (fun X => [some (.int p0), some (.int p1)]) (by decide) (fun X => ⟨rfl, rfl⟩) (fun w => Nat.le_of_ble_eq_true rfl) (fun X hp => ?_)
  show AW X RX6 0 cX6_comesDown 0 [some (.int p0), some (.int p1)] [] S
  unfold f_X6_comesDown at h
  refine a_iloadn (pc := 0) dX6_comesDown_0 rfl rfl ?_
  refine a_iconst (pc := 1) (v := (4 : Int32)) dX6_comesDown_1 (by decide) ?_
  refine a_icmp_ne (pc := 2) (tgt := 11) dX6_comesDown_2 (by decide) (fun c1 => ?_) (fun c1 => ?_)
  · rw [if_neg c1] at h
    refine a_iconst (pc := 11) (v := (1 : Int32)) dX6_comesDown_11 (by decide) ?_
    refine a_goto (pc := 12) (tgt := 16) dX6_comesDown_12 (by decide) ?_
    obtain ⟨rfl, rfl⟩ := Prod.mk.inj (Option.some.inj h)
    exact a_zret hp rfl  dX6_comesDown_16
  · rw [if_pos c1] at h
    refine a_iloadn (pc := 5) dX6_comesDown_5 rfl rfl ?_
    refine a_iconst (pc := 6) (v := (1 : Int32)) dX6_comesDown_6 (by decide) ?_
    refine a_iand (pc := 7) dX6_comesDown_7 ?_
    refine a_if_ne (pc := 8) (tgt := 15) dX6_comesDown_8 (by decide) (fun c2 => ?_) (fun c2 => ?_)
    · rw [if_neg c2] at h
      refine a_iconst (pc := 15) (v := (0 : Int32)) dX6_comesDown_15 (by decide) ?_
      obtain ⟨rfl, rfl⟩ := Prod.mk.inj (Option.some.inj h)
      exact a_zret hp rfl  dX6_comesDown_16
    · rw [if_pos c2] at h
      refine a_iconst (pc := 11) (v := (1 : Int32)) dX6_comesDown_11 (by decide) ?_
      refine a_goto (pc := 12) (tgt := 16) dX6_comesDown_12 (by decide) ?_
      obtain ⟨rfl, rfl⟩ := Prod.mk.inj (Option.some.inj h)
      exact a_zret hp rfl  dX6_comesDown_16
theorem dX6_deepen_0 : decode cX6_deepen 0 = .ok (.aload_n 0, 1) := by decide +kernel
theorem dX6_deepen_1 : decode cX6_deepen 1 = .ok (.iload_n 1, 1) := by decide +kernel
theorem dX6_deepen_2 : decode cX6_deepen 2 = .ok (.bipush 99, 2) := by decide +kernel
theorem dX6_deepen_4 : decode cX6_deepen 4 = .ok (.aload_n 0, 1) := by decide +kernel
theorem dX6_deepen_5 : decode cX6_deepen 5 = .ok (.iload_n 1, 1) := by decide +kernel
theorem dX6_deepen_6 : decode cX6_deepen 6 = .ok (.iaload, 1) := by decide +kernel
theorem dX6_deepen_7 : decode cX6_deepen 7 = .ok (.iload_n 2, 1) := by decide +kernel
theorem dX6_deepen_8 : decode cX6_deepen 8 = .ok (.iadd, 1) := by decide +kernel
theorem dX6_deepen_9 : decode cX6_deepen 9 = .ok (.invokestatic 287, 3) := by decide +kernel
theorem dX6_deepen_12 : decode cX6_deepen 12 = .ok (.iastore, 1) := by decide +kernel
theorem dX6_deepen_13 : decode cX6_deepen 13 = .ok (.return_, 1) := by decide +kernel
def f_X6_deepen_7 (p1 : Int32) (p2 : Int32) (S : gSt) : Option gSt :=
if gin p1 384 then
(if gin p1 384 then
gLet (gI S 7 p1.toNatClampNeg (if ((S.1 7 p1.toNatClampNeg) + p2) < (99 : Int32) then ((S.1 7 p1.toNatClampNeg) + p2) else (99 : Int32))) fun S3 =>
(some S3) else none) else none
set_option maxHeartbeats 4000000 in
set_option maxRecDepth 20000 in
theorem ok_X6_deepen_7 {p1 : Int32} {p2 : Int32} {S S0 : gSt}  (h : f_X6_deepen_7 p1 p2 S = some S0) : gCT yX6_deepen cX6_deepen 3 none 1 (fun w => [.ref (w.2.1 7), .int p1, .int p2]) S none S0 := by
  refine gEnter (fun X => [some (.ref (gad X 7)), some (.int p1), some (.int p2)]) (by decide) (fun X => ⟨rfl, rfl⟩) (fun w => Nat.le_of_ble_eq_true rfl) (fun X hp => ?_)
  show AW X RX6 1 cX6_deepen 0 [some (.ref (gad X 7)), some (.int p1), some (.int p2)] [] S
  unfold f_X6_deepen_7 at h
  refine a_aloadn (pc := 0) dX6_deepen_0 rfl rfl ?_
  refine a_iloadn (pc := 1) dX6_deepen_1 rfl rfl ?_
  refine a_bipush (pc := 2) (v := (99 : Int32)) dX6_deepen_2 (by decide) ?_
  refine a_aloadn (pc := 4) dX6_deepen_4 rfl rfl ?_
  refine a_iloadn (pc := 5) dX6_deepen_5 rfl rfl ?_
  obtain ⟨hi1, h⟩ := g_if h
  refine a_iald (pc := 6) sh_7 hi1 dX6_deepen_6 ?_
  refine a_iloadn (pc := 7) dX6_deepen_7 rfl rfl ?_
  refine a_iadd (pc := 8) dX6_deepen_8 ?_
  refine a_min (pc := 9) mlX6_287 (by decide) (Nat.le_of_ble_eq_true rfl) dX6_deepen_9 ?_
  obtain ⟨hi2, h⟩ := g_if h
  refine a_iast (pc := 12) sh_7 hi2 dX6_deepen_12 ?_
  obtain ⟨S3, eS3, h⟩ := g_let h
  refine a_nmS eS3 ?_
  obtain rfl := Option.some.inj h
  exact a_vret hp dX6_deepen_13
theorem dX0_stepTo_0 : decode cX0_stepTo 0 = .ok (.aload_n 0, 1) := by decide +kernel
theorem dX0_stepTo_1 : decode cX0_stepTo 1 = .ok (.getfield 21, 3) := by decide +kernel
theorem dX0_stepTo_4 : decode cX0_stepTo 4 = .ok (.iload_n 1, 1) := by decide +kernel
theorem dX0_stepTo_5 : decode cX0_stepTo 5 = .ok (.iaload, 1) := by decide +kernel
theorem dX0_stepTo_6 : decode cX0_stepTo 6 = .ok (.istore_n 3, 1) := by decide +kernel
theorem dX0_stepTo_7 : decode cX0_stepTo 7 = .ok (.aload_n 0, 1) := by decide +kernel
theorem dX0_stepTo_8 : decode cX0_stepTo 8 = .ok (.getfield 21, 3) := by decide +kernel
theorem dX0_stepTo_11 : decode cX0_stepTo 11 = .ok (.iload_n 1, 1) := by decide +kernel
theorem dX0_stepTo_12 : decode cX0_stepTo 12 = .ok (.iload_n 2, 1) := by decide +kernel
theorem dX0_stepTo_13 : decode cX0_stepTo 13 = .ok (.iastore, 1) := by decide +kernel
theorem dX0_stepTo_14 : decode cX0_stepTo 14 = .ok (.aload_n 0, 1) := by decide +kernel
theorem dX0_stepTo_15 : decode cX0_stepTo 15 = .ok (.getfield 24, 3) := by decide +kernel
theorem dX0_stepTo_18 : decode cX0_stepTo 18 = .ok (.iload_n 1, 1) := by decide +kernel
theorem dX0_stepTo_19 : decode cX0_stepTo 19 = .ok (.dup2, 1) := by decide +kernel
theorem dX0_stepTo_20 : decode cX0_stepTo 20 = .ok (.iaload, 1) := by decide +kernel
theorem dX0_stepTo_21 : decode cX0_stepTo 21 = .ok (.iconst 1, 1) := by decide +kernel
theorem dX0_stepTo_22 : decode cX0_stepTo 22 = .ok (.iadd, 1) := by decide +kernel
theorem dX0_stepTo_23 : decode cX0_stepTo 23 = .ok (.iastore, 1) := by decide +kernel
theorem dX0_stepTo_24 : decode cX0_stepTo 24 = .ok (.aload_n 0, 1) := by decide +kernel
theorem dX0_stepTo_25 : decode cX0_stepTo 25 = .ok (.getfield 15, 3) := by decide +kernel
theorem dX0_stepTo_28 : decode cX0_stepTo 28 = .ok (.iload_n 1, 1) := by decide +kernel
theorem dX0_stepTo_29 : decode cX0_stepTo 29 = .ok (.iaload, 1) := by decide +kernel
theorem dX0_stepTo_30 : decode cX0_stepTo 30 = .ok (.aload_n 0, 1) := by decide +kernel
theorem dX0_stepTo_31 : decode cX0_stepTo 31 = .ok (.getfield 24, 3) := by decide +kernel
theorem dX0_stepTo_34 : decode cX0_stepTo 34 = .ok (.iload_n 1, 1) := by decide +kernel
theorem dX0_stepTo_35 : decode cX0_stepTo 35 = .ok (.iaload, 1) := by decide +kernel
theorem dX0_stepTo_36 : decode cX0_stepTo 36 = .ok (.invokestatic 82, 3) := by decide +kernel
theorem dX0_stepTo_39 : decode cX0_stepTo 39 = .ok (.ifCond .eq 55, 3) := by decide +kernel
theorem dX0_stepTo_42 : decode cX0_stepTo 42 = .ok (.aload_n 0, 1) := by decide +kernel
theorem dX0_stepTo_43 : decode cX0_stepTo 43 = .ok (.iload_n 1, 1) := by decide +kernel
theorem dX0_stepTo_44 : decode cX0_stepTo 44 = .ok (.invokevirtual 86, 3) := by decide +kernel
theorem dX0_stepTo_47 : decode cX0_stepTo 47 = .ok (.bipush 64, 2) := by decide +kernel
theorem dX0_stepTo_49 : decode cX0_stepTo 49 = .ok (.imul, 1) := by decide +kernel
theorem dX0_stepTo_50 : decode cX0_stepTo 50 = .ok (.istore 4, 2) := by decide +kernel
theorem dX0_stepTo_52 : decode cX0_stepTo 52 = .ok (.aload_n 0, 1) := by decide +kernel
theorem dX0_stepTo_53 : decode cX0_stepTo 53 = .ok (.getfield 27, 3) := by decide +kernel
theorem dX0_stepTo_56 : decode cX0_stepTo 56 = .ok (.iload 4, 2) := by decide +kernel
theorem dX0_stepTo_58 : decode cX0_stepTo 58 = .ok (.iload_n 2, 1) := by decide +kernel
theorem dX0_stepTo_59 : decode cX0_stepTo 59 = .ok (.iadd, 1) := by decide +kernel
theorem dX0_stepTo_60 : decode cX0_stepTo 60 = .ok (.aload_n 0, 1) := by decide +kernel
theorem dX0_stepTo_61 : decode cX0_stepTo 61 = .ok (.iload_n 1, 1) := by decide +kernel
theorem dX0_stepTo_62 : decode cX0_stepTo 62 = .ok (.invokevirtual 90, 3) := by decide +kernel
theorem dX0_stepTo_65 : decode cX0_stepTo 65 = .ok (.invokestatic 93, 3) := by decide +kernel
theorem dX0_stepTo_68 : decode cX0_stepTo 68 = .ok (.aload_n 0, 1) := by decide +kernel
theorem dX0_stepTo_69 : decode cX0_stepTo 69 = .ok (.getfield 15, 3) := by decide +kernel
theorem dX0_stepTo_72 : decode cX0_stepTo 72 = .ok (.iload_n 1, 1) := by decide +kernel
theorem dX0_stepTo_73 : decode cX0_stepTo 73 = .ok (.iaload, 1) := by decide +kernel
theorem dX0_stepTo_74 : decode cX0_stepTo 74 = .ok (.iconst 3, 1) := by decide +kernel
theorem dX0_stepTo_75 : decode cX0_stepTo 75 = .ok (.if_icmp .ne 19, 3) := by decide +kernel
theorem dX0_stepTo_78 : decode cX0_stepTo 78 = .ok (.aload_n 0, 1) := by decide +kernel
theorem dX0_stepTo_79 : decode cX0_stepTo 79 = .ok (.getfield 27, 3) := by decide +kernel
theorem dX0_stepTo_82 : decode cX0_stepTo 82 = .ok (.iload 4, 2) := by decide +kernel
theorem dX0_stepTo_84 : decode cX0_stepTo 84 = .ok (.iload_n 3, 1) := by decide +kernel
theorem dX0_stepTo_85 : decode cX0_stepTo 85 = .ok (.iadd, 1) := by decide +kernel
theorem dX0_stepTo_86 : decode cX0_stepTo 86 = .ok (.aload_n 0, 1) := by decide +kernel
theorem dX0_stepTo_87 : decode cX0_stepTo 87 = .ok (.iload_n 1, 1) := by decide +kernel
theorem dX0_stepTo_88 : decode cX0_stepTo 88 = .ok (.invokevirtual 90, 3) := by decide +kernel
theorem dX0_stepTo_91 : decode cX0_stepTo 91 = .ok (.invokestatic 93, 3) := by decide +kernel
theorem dX0_stepTo_94 : decode cX0_stepTo 94 = .ok (.return_, 1) := by decide +kernel
def f_X0_stepTo (p1 : Int32) (p2 : Int32) (S : gSt) : Option gSt :=
if gin p1 6 then
(gLet (S.1 5 p1.toNatClampNeg) fun v2 =>
if gin p1 6 then
gLet (gI S 5 p1.toNatClampNeg p2) fun S4 =>
(if gin p1 6 then
(if gin p1 6 then
gLet (gI S4 6 p1.toNatClampNeg ((S4.1 6 p1.toNatClampNeg) + (1 : Int32))) fun S7 =>
(if gin p1 6 then
(if gin p1 6 then
(gBind2 (f_X6_comesDown (S7.1 3 p1.toNatClampNeg) (S7.1 6 p1.toNatClampNeg) S7) fun r12 S10 =>
(if r12 = 0 then
some S10
else
gBind2 (f_X0_shoesOf p1 S10) fun r16 S14 =>
gLet (r16 * (64 : Int32)) fun v17 =>
gBind2 (f_X0_treadOf p1 S14) fun r20 S18 =>
(f_X6_deepen_7 (v17 + p2) r20 S18).bind fun S21 =>
if gin p1 6 then
((if (S21.1 3 p1.toNatClampNeg) = (3 : Int32) then
gBind2 (f_X0_treadOf p1 S21) fun r27 S25 =>
(f_X6_deepen_7 (v17 + v2) r27 S25).bind fun S28 =>
some S28
else
some S21)) else none)) else none) else none) else none) else none) else none) else none
set_option maxHeartbeats 4000000 in
set_option maxRecDepth 20000 in
theorem ok_X0_stepTo {p1 : Int32} {p2 : Int32} {S S0 : gSt}  (h : f_X0_stepTo p1 p2 S = some S0) : gCT yX0_stepTo cX0_stepTo 5 none 2 (fun w => [.ref (w.2.1 1), .int p1, .int p2]) S none S0 := by
  refine gEnter (fun X => [some (.ref (gad X 1)), some (.int p1), some (.int p2), none, none]) (by decide) (fun X => ⟨rfl, rfl⟩) (fun w => Nat.le_of_ble_eq_true rfl) (fun X hp => ?_)
  show AW X RX0 2 cX0_stepTo 0 [some (.ref (gad X 1)), some (.int p1), some (.int p2), none, none] [] S
  unfold f_X0_stepTo at h
  refine a_aloadn (pc := 0) dX0_stepTo_0 rfl rfl ?_
  refine a_getA (pc := 1) flX0_21 sh_1 rfl dX0_stepTo_1 ?_
  refine a_iloadn (pc := 4) dX0_stepTo_4 rfl rfl ?_
  obtain ⟨hi1, h⟩ := g_if h
  refine a_iald (pc := 5) sh_5 hi1 dX0_stepTo_5 ?_
  obtain ⟨v2, ev2, h⟩ := g_let h
  refine a_nmI ev2 ?_
  refine a_istoren (pc := 6) dX0_stepTo_6 rfl (Nat.le_of_ble_eq_true rfl) rfl (L' := [some (.ref (gad X 1)), some (.int p1), some (.int p2), some (.int v2), none]) rfl ?_
  refine a_aloadn (pc := 7) dX0_stepTo_7 rfl rfl ?_
  refine a_getA (pc := 8) flX0_21 sh_1 rfl dX0_stepTo_8 ?_
  refine a_iloadn (pc := 11) dX0_stepTo_11 rfl rfl ?_
  refine a_iloadn (pc := 12) dX0_stepTo_12 rfl rfl ?_
  obtain ⟨hi3, h⟩ := g_if h
  refine a_iast (pc := 13) sh_5 hi3 dX0_stepTo_13 ?_
  obtain ⟨S4, eS4, h⟩ := g_let h
  refine a_nmS eS4 ?_
  refine a_aloadn (pc := 14) dX0_stepTo_14 rfl rfl ?_
  refine a_getA (pc := 15) flX0_24 sh_1 rfl dX0_stepTo_15 ?_
  refine a_iloadn (pc := 18) dX0_stepTo_18 rfl rfl ?_
  refine a_dup2 (pc := 19) dX0_stepTo_19 rfl rfl ?_
  obtain ⟨hi5, h⟩ := g_if h
  refine a_iald (pc := 20) sh_6 hi5 dX0_stepTo_20 ?_
  refine a_iconst (pc := 21) (v := (1 : Int32)) dX0_stepTo_21 (by decide) ?_
  refine a_iadd (pc := 22) dX0_stepTo_22 ?_
  obtain ⟨hi6, h⟩ := g_if h
  refine a_iast (pc := 23) sh_6 hi6 dX0_stepTo_23 ?_
  obtain ⟨S7, eS7, h⟩ := g_let h
  refine a_nmS eS7 ?_
  refine a_aloadn (pc := 24) dX0_stepTo_24 rfl rfl ?_
  refine a_getA (pc := 25) flX0_15 sh_1 rfl dX0_stepTo_25 ?_
  refine a_iloadn (pc := 28) dX0_stepTo_28 rfl rfl ?_
  obtain ⟨hi8, h⟩ := g_if h
  refine a_iald (pc := 29) sh_3 hi8 dX0_stepTo_29 ?_
  refine a_aloadn (pc := 30) dX0_stepTo_30 rfl rfl ?_
  refine a_getA (pc := 31) flX0_24 sh_1 rfl dX0_stepTo_31 ?_
  refine a_iloadn (pc := 34) dX0_stepTo_34 rfl rfl ?_
  obtain ⟨hi9, h⟩ := g_if h
  refine a_iald (pc := 35) sh_6 hi9 dX0_stepTo_35 ?_
  obtain ⟨r12, S10, hc11, h⟩ := g_bind2 h
  refine a_invSNi (pc := 36) (ok_X6_comesDown hc11) gyX6_comesDown syX6_comesDown mlX0_82 (As := [.int (S7.1 3 p1.toNatClampNeg), .int (S7.1 6 p1.toNatClampNeg)]) rfl rfl (by decide) (st := []) rfl (Nat.le_of_ble_eq_true rfl) dX0_stepTo_36 ?_
  refine a_if_eq (pc := 39) (tgt := 94) dX0_stepTo_39 (by decide) (fun c13 => ?_) (fun c13 => ?_)
  · rw [if_pos c13] at h
    obtain rfl := Option.some.inj h
    exact a_vret hp dX0_stepTo_94
  · rw [if_neg c13] at h
    refine a_aloadn (pc := 42) dX0_stepTo_42 rfl rfl ?_
    refine a_iloadn (pc := 43) dX0_stepTo_43 rfl rfl ?_
    obtain ⟨r16, S14, hc15, h⟩ := g_bind2 h
    refine a_invVi (pc := 44) (ok_X0_shoesOf hc15) gyX0_shoesOf vyX0_shoesOf mlX0_86 sh_1 rfl (As := [.int p1]) rfl rfl (by decide) (st := []) rfl (Nat.le_of_ble_eq_true rfl) dX0_stepTo_44 ?_
    refine a_bipush (pc := 47) (v := (64 : Int32)) dX0_stepTo_47 (by decide) ?_
    refine a_imul (pc := 49) dX0_stepTo_49 ?_
    obtain ⟨v17, ev17, h⟩ := g_let h
    refine a_nmI ev17 ?_
    refine a_istore (pc := 50) dX0_stepTo_50 (Nat.le_of_ble_eq_true rfl) rfl (L' := [some (.ref (gad X 1)), some (.int p1), some (.int p2), some (.int v2), some (.int v17)]) rfl ?_
    refine a_aloadn (pc := 52) dX0_stepTo_52 rfl rfl ?_
    refine a_getA (pc := 53) flX0_27 sh_1 rfl dX0_stepTo_53 ?_
    refine a_iload (pc := 56) dX0_stepTo_56 rfl ?_
    refine a_iloadn (pc := 58) dX0_stepTo_58 rfl rfl ?_
    refine a_iadd (pc := 59) dX0_stepTo_59 ?_
    refine a_aloadn (pc := 60) dX0_stepTo_60 rfl rfl ?_
    refine a_iloadn (pc := 61) dX0_stepTo_61 rfl rfl ?_
    obtain ⟨r20, S18, hc19, h⟩ := g_bind2 h
    refine a_invVi (pc := 62) (ok_X0_treadOf hc19) gyX0_treadOf vyX0_treadOf mlX0_90 sh_1 rfl (As := [.int p1]) rfl rfl (by decide) (st := [.int (v17 + p2), .ref (gad X 7)]) rfl (Nat.le_of_ble_eq_true rfl) dX0_stepTo_62 ?_
    obtain ⟨S21, hc22, h⟩ := g_bind h
    refine a_invSNv (pc := 65) (ok_X6_deepen_7 hc22) gyX6_deepen syX6_deepen mlX0_93 (As := [.ref (gad X 7), .int (v17 + p2), .int r20]) rfl rfl (by decide) (st := []) rfl (Nat.le_of_ble_eq_true rfl) dX0_stepTo_65 ?_
    refine a_aloadn (pc := 68) dX0_stepTo_68 rfl rfl ?_
    refine a_getA (pc := 69) flX0_15 sh_1 rfl dX0_stepTo_69 ?_
    refine a_iloadn (pc := 72) dX0_stepTo_72 rfl rfl ?_
    obtain ⟨hi23, h⟩ := g_if h
    refine a_iald (pc := 73) sh_3 hi23 dX0_stepTo_73 ?_
    refine a_iconst (pc := 74) (v := (3 : Int32)) dX0_stepTo_74 (by decide) ?_
    refine a_icmp_ne (pc := 75) (tgt := 94) dX0_stepTo_75 (by decide) (fun c24 => ?_) (fun c24 => ?_)
    · rw [if_neg c24] at h
      obtain rfl := Option.some.inj h
      exact a_vret hp dX0_stepTo_94
    · rw [if_pos c24] at h
      refine a_aloadn (pc := 78) dX0_stepTo_78 rfl rfl ?_
      refine a_getA (pc := 79) flX0_27 sh_1 rfl dX0_stepTo_79 ?_
      refine a_iload (pc := 82) dX0_stepTo_82 rfl ?_
      refine a_iloadn (pc := 84) dX0_stepTo_84 rfl rfl ?_
      refine a_iadd (pc := 85) dX0_stepTo_85 ?_
      refine a_aloadn (pc := 86) dX0_stepTo_86 rfl rfl ?_
      refine a_iloadn (pc := 87) dX0_stepTo_87 rfl rfl ?_
      obtain ⟨r27, S25, hc26, h⟩ := g_bind2 h
      refine a_invVi (pc := 88) (ok_X0_treadOf hc26) gyX0_treadOf vyX0_treadOf mlX0_90 sh_1 rfl (As := [.int p1]) rfl rfl (by decide) (st := [.int (v17 + v2), .ref (gad X 7)]) rfl (Nat.le_of_ble_eq_true rfl) dX0_stepTo_88 ?_
      obtain ⟨S28, hc29, h⟩ := g_bind h
      refine a_invSNv (pc := 91) (ok_X6_deepen_7 hc29) gyX6_deepen syX6_deepen mlX0_93 (As := [.ref (gad X 7), .int (v17 + v2), .int r27]) rfl rfl (by decide) (st := []) rfl (Nat.le_of_ble_eq_true rfl) dX0_stepTo_91 ?_
      obtain rfl := Option.some.inj h
      exact a_vret hp dX0_stepTo_94
theorem dX6_step_0 : decode cX6_step 0 = .ok (.aload_n 0, 1) := by decide +kernel
theorem dX6_step_1 : decode cX6_step 1 = .ok (.getfield 12, 3) := by decide +kernel
theorem dX6_step_4 : decode cX6_step 4 = .ok (.iload_n 1, 1) := by decide +kernel
theorem dX6_step_5 : decode cX6_step 5 = .ok (.invokevirtual 72, 3) := by decide +kernel
theorem dX6_step_8 : decode cX6_step 8 = .ok (.ifCond .eq 12, 3) := by decide +kernel
theorem dX6_step_11 : decode cX6_step 11 = .ok (.iload_n 2, 1) := by decide +kernel
theorem dX6_step_12 : decode cX6_step 12 = .ok (.ifCond .lt 8, 3) := by decide +kernel
theorem dX6_step_15 : decode cX6_step 15 = .ok (.iload_n 2, 1) := by decide +kernel
theorem dX6_step_16 : decode cX6_step 16 = .ok (.iconst 3, 1) := by decide +kernel
theorem dX6_step_17 : decode cX6_step 17 = .ok (.if_icmp .le 5, 3) := by decide +kernel
theorem dX6_step_20 : decode cX6_step 20 = .ok (.iconst (-1), 1) := by decide +kernel
theorem dX6_step_21 : decode cX6_step 21 = .ok (.ireturn, 1) := by decide +kernel
theorem dX6_step_22 : decode cX6_step 22 = .ok (.aload_n 0, 1) := by decide +kernel
theorem dX6_step_23 : decode cX6_step 23 = .ok (.getfield 12, 3) := by decide +kernel
theorem dX6_step_26 : decode cX6_step 26 = .ok (.getfield 82, 3) := by decide +kernel
theorem dX6_step_29 : decode cX6_step 29 = .ok (.iload_n 1, 1) := by decide +kernel
theorem dX6_step_30 : decode cX6_step 30 = .ok (.iaload, 1) := by decide +kernel
theorem dX6_step_31 : decode cX6_step 31 = .ok (.iload_n 2, 1) := by decide +kernel
theorem dX6_step_32 : decode cX6_step 32 = .ok (.invokestatic 147, 3) := by decide +kernel
theorem dX6_step_35 : decode cX6_step 35 = .ok (.istore_n 3, 1) := by decide +kernel
theorem dX6_step_36 : decode cX6_step 36 = .ok (.iload_n 3, 1) := by decide +kernel
theorem dX6_step_37 : decode cX6_step 37 = .ok (.ifCond .ge 6, 3) := by decide +kernel
theorem dX6_step_40 : decode cX6_step 40 = .ok (.bipush (-2), 2) := by decide +kernel
theorem dX6_step_42 : decode cX6_step 42 = .ok (.ireturn, 1) := by decide +kernel
theorem dX6_step_43 : decode cX6_step 43 = .ok (.aload_n 0, 1) := by decide +kernel
theorem dX6_step_44 : decode cX6_step 44 = .ok (.getfield 12, 3) := by decide +kernel
theorem dX6_step_47 : decode cX6_step 47 = .ok (.getfield 59, 3) := by decide +kernel
theorem dX6_step_50 : decode cX6_step 50 = .ok (.aload_n 0, 1) := by decide +kernel
theorem dX6_step_51 : decode cX6_step 51 = .ok (.getfield 12, 3) := by decide +kernel
theorem dX6_step_54 : decode cX6_step 54 = .ok (.invokevirtual 150, 3) := by decide +kernel
theorem dX6_step_57 : decode cX6_step 57 = .ok (.aload_n 0, 1) := by decide +kernel
theorem dX6_step_58 : decode cX6_step 58 = .ok (.getfield 12, 3) := by decide +kernel
theorem dX6_step_61 : decode cX6_step 61 = .ok (.iload_n 1, 1) := by decide +kernel
theorem dX6_step_62 : decode cX6_step 62 = .ok (.iload_n 3, 1) := by decide +kernel
theorem dX6_step_63 : decode cX6_step 63 = .ok (.invokevirtual 154, 3) := by decide +kernel
theorem dX6_step_66 : decode cX6_step 66 = .ok (.iload_n 3, 1) := by decide +kernel
theorem dX6_step_67 : decode cX6_step 67 = .ok (.ireturn, 1) := by decide +kernel
def f_X6_step (p1 : Int32) (p2 : Int32) (S : gSt) : Option (Int32 × gSt) :=
gBind2 (f_X0_has p1 S) fun r3 S1 =>
(if r3 = 0 then
some ((-1 : Int32), S1)
else
(if p2 < 0 then
some ((-1 : Int32), S1)
else
(if p2 ≤ (3 : Int32) then
if gin p1 6 then
(gBind2 (f_X6_beside (S1.1 5 p1.toNatClampNeg) p2 S1) fun r10 S8 =>
(if 0 ≤ r10 then
(f_X1_keep S8).bind fun S12 =>
(f_X0_stepTo p1 r10 S12).bind fun S14 =>
some (r10, S14)
else
some ((-2 : Int32), S8))) else none
else
some ((-1 : Int32), S1))))
set_option maxHeartbeats 4000000 in
set_option maxRecDepth 20000 in
theorem ok_X6_step {p1 : Int32} {p2 : Int32} {S S0 : gSt} {r0 : Int32}  (h : f_X6_step p1 p2 S = some (r0, S0)) : gCT yX6_step cX6_step 4 (some .int) 3 (fun w => [.ref (w.2.1 0), .int p1, .int p2]) S (some (.int r0)) S0 := by
  refine gEnter (fun X => [some (.ref (gad X 0)), some (.int p1), some (.int p2), none]) (by decide) (fun X => ⟨rfl, rfl⟩) (fun w => Nat.le_of_ble_eq_true rfl) (fun X hp => ?_)
  show AW X RX6 3 cX6_step 0 [some (.ref (gad X 0)), some (.int p1), some (.int p2), none] [] S
  unfold f_X6_step at h
  refine a_aloadn (pc := 0) dX6_step_0 rfl rfl ?_
  refine a_getA (pc := 1) flX6_12 sh_0 rfl dX6_step_1 ?_
  refine a_iloadn (pc := 4) dX6_step_4 rfl rfl ?_
  obtain ⟨r3, S1, hc2, h⟩ := g_bind2 h
  refine a_invVi (pc := 5) (ok_X0_has hc2) gyX0_has vyX0_has mlX6_72 sh_1 rfl (As := [.int p1]) rfl rfl (by decide) (st := []) rfl (Nat.le_of_ble_eq_true rfl) dX6_step_5 ?_
  refine a_if_eq (pc := 8) (tgt := 20) dX6_step_8 (by decide) (fun c4 => ?_) (fun c4 => ?_)
  · rw [if_pos c4] at h
    refine a_iconst (pc := 20) (v := (-1 : Int32)) dX6_step_20 (by decide) ?_
    obtain ⟨rfl, rfl⟩ := Prod.mk.inj (Option.some.inj h)
    exact a_iret hp dX6_step_21
  · rw [if_neg c4] at h
    refine a_iloadn (pc := 11) dX6_step_11 rfl rfl ?_
    refine a_if_lt (pc := 12) (tgt := 20) dX6_step_12 (by decide) (fun c5 => ?_) (fun c5 => ?_)
    · rw [if_pos c5] at h
      refine a_iconst (pc := 20) (v := (-1 : Int32)) dX6_step_20 (by decide) ?_
      obtain ⟨rfl, rfl⟩ := Prod.mk.inj (Option.some.inj h)
      exact a_iret hp dX6_step_21
    · rw [if_neg c5] at h
      refine a_iloadn (pc := 15) dX6_step_15 rfl rfl ?_
      refine a_iconst (pc := 16) (v := (3 : Int32)) dX6_step_16 (by decide) ?_
      refine a_icmp_le (pc := 17) (tgt := 22) dX6_step_17 (by decide) (fun c6 => ?_) (fun c6 => ?_)
      · rw [if_pos c6] at h
        refine a_aloadn (pc := 22) dX6_step_22 rfl rfl ?_
        refine a_getA (pc := 23) flX6_12 sh_0 rfl dX6_step_23 ?_
        refine a_getA (pc := 26) flX6_82 sh_1 rfl dX6_step_26 ?_
        refine a_iloadn (pc := 29) dX6_step_29 rfl rfl ?_
        obtain ⟨hi7, h⟩ := g_if h
        refine a_iald (pc := 30) sh_5 hi7 dX6_step_30 ?_
        refine a_iloadn (pc := 31) dX6_step_31 rfl rfl ?_
        obtain ⟨r10, S8, hc9, h⟩ := g_bind2 h
        refine a_invSi (pc := 32) (ok_X6_beside hc9) gyX6_beside syX6_beside mlX6_147 (As := [.int (S1.1 5 p1.toNatClampNeg), .int p2]) rfl rfl (by decide) (st := []) rfl (Nat.le_of_ble_eq_true rfl) dX6_step_32 ?_
        refine a_istoren (pc := 35) dX6_step_35 rfl (Nat.le_of_ble_eq_true rfl) rfl (L' := [some (.ref (gad X 0)), some (.int p1), some (.int p2), some (.int r10)]) rfl ?_
        refine a_iloadn (pc := 36) dX6_step_36 rfl rfl ?_
        refine a_if_ge (pc := 37) (tgt := 43) dX6_step_37 (by decide) (fun c11 => ?_) (fun c11 => ?_)
        · rw [if_pos c11] at h
          refine a_aloadn (pc := 43) dX6_step_43 rfl rfl ?_
          refine a_getA (pc := 44) flX6_12 sh_0 rfl dX6_step_44 ?_
          refine a_getA (pc := 47) flX6_59 sh_1 rfl dX6_step_47 ?_
          refine a_aloadn (pc := 50) dX6_step_50 rfl rfl ?_
          refine a_getA (pc := 51) flX6_12 sh_0 rfl dX6_step_51 ?_
          obtain ⟨S12, hc13, h⟩ := g_bind h
          refine a_invVv (pc := 54) (ok_X1_keep hc13) gyX1_keep vyX1_keep mlX6_150 sh_8 rfl (As := [.ref (gad X 1)]) rfl rfl (by decide) (st := []) rfl (Nat.le_of_ble_eq_true rfl) dX6_step_54 ?_
          refine a_aloadn (pc := 57) dX6_step_57 rfl rfl ?_
          refine a_getA (pc := 58) flX6_12 sh_0 rfl dX6_step_58 ?_
          refine a_iloadn (pc := 61) dX6_step_61 rfl rfl ?_
          refine a_iloadn (pc := 62) dX6_step_62 rfl rfl ?_
          obtain ⟨S14, hc15, h⟩ := g_bind h
          refine a_invVv (pc := 63) (ok_X0_stepTo hc15) gyX0_stepTo vyX0_stepTo mlX6_154 sh_1 rfl (As := [.int p1, .int r10]) rfl rfl (by decide) (st := []) rfl (Nat.le_of_ble_eq_true rfl) dX6_step_63 ?_
          refine a_iloadn (pc := 66) dX6_step_66 rfl rfl ?_
          obtain ⟨rfl, rfl⟩ := Prod.mk.inj (Option.some.inj h)
          exact a_iret hp dX6_step_67
        · rw [if_neg c11] at h
          refine a_bipush (pc := 40) (v := (-2 : Int32)) dX6_step_40 (by decide) ?_
          obtain ⟨rfl, rfl⟩ := Prod.mk.inj (Option.some.inj h)
          exact a_iret hp dX6_step_42
      · rw [if_neg c6] at h
        refine a_iconst (pc := 20) (v := (-1 : Int32)) dX6_step_20 (by decide) ?_
        obtain ⟨rfl, rfl⟩ := Prod.mk.inj (Option.some.inj h)
        exact a_iret hp dX6_step_21
theorem dX6_hoursFault_0 : decode cX6_hoursFault 0 = .ok (.iload_n 1, 1) := by decide +kernel
theorem dX6_hoursFault_1 : decode cX6_hoursFault 1 = .ok (.iconst 1, 1) := by decide +kernel
theorem dX6_hoursFault_2 : decode cX6_hoursFault 2 = .ok (.if_icmp .lt 9, 3) := by decide +kernel
theorem dX6_hoursFault_5 : decode cX6_hoursFault 5 = .ok (.iload_n 1, 1) := by decide +kernel
theorem dX6_hoursFault_6 : decode cX6_hoursFault 6 = .ok (.bipush 24, 2) := by decide +kernel
theorem dX6_hoursFault_8 : decode cX6_hoursFault 8 = .ok (.if_icmp .le 5, 3) := by decide +kernel
theorem dX6_hoursFault_11 : decode cX6_hoursFault 11 = .ok (.iconst (-1), 1) := by decide +kernel
theorem dX6_hoursFault_12 : decode cX6_hoursFault 12 = .ok (.ireturn, 1) := by decide +kernel
theorem dX6_hoursFault_13 : decode cX6_hoursFault 13 = .ok (.aload_n 0, 1) := by decide +kernel
theorem dX6_hoursFault_14 : decode cX6_hoursFault 14 = .ok (.getfield 12, 3) := by decide +kernel
theorem dX6_hoursFault_17 : decode cX6_hoursFault 17 = .ok (.getfield 135, 3) := by decide +kernel
theorem dX6_hoursFault_20 : decode cX6_hoursFault 20 = .ok (.sipush 9999, 3) := by decide +kernel
theorem dX6_hoursFault_23 : decode cX6_hoursFault 23 = .ok (.iload_n 1, 1) := by decide +kernel
theorem dX6_hoursFault_24 : decode cX6_hoursFault 24 = .ok (.isub, 1) := by decide +kernel
theorem dX6_hoursFault_25 : decode cX6_hoursFault 25 = .ok (.if_icmp .le 8, 3) := by decide +kernel
theorem dX6_hoursFault_28 : decode cX6_hoursFault 28 = .ok (.bipush (-3), 2) := by decide +kernel
theorem dX6_hoursFault_30 : decode cX6_hoursFault 30 = .ok (.goto 4, 3) := by decide +kernel
theorem dX6_hoursFault_33 : decode cX6_hoursFault 33 = .ok (.iconst 0, 1) := by decide +kernel
theorem dX6_hoursFault_34 : decode cX6_hoursFault 34 = .ok (.ireturn, 1) := by decide +kernel
def f_X6_hoursFault (p1 : Int32) (S : gSt) : Option (Int32 × gSt) :=
(if p1 < (1 : Int32) then
some ((-1 : Int32), S)
else
(if p1 ≤ (24 : Int32) then
(if (S.1 1 8) ≤ ((9999 : Int32) - p1) then
some ((0 : Int32), S)
else
some ((-3 : Int32), S))
else
some ((-1 : Int32), S)))
set_option maxHeartbeats 4000000 in
set_option maxRecDepth 20000 in
theorem ok_X6_hoursFault {p1 : Int32} {S S0 : gSt} {r0 : Int32}  (h : f_X6_hoursFault p1 S = some (r0, S0)) : gCT yX6_hoursFault cX6_hoursFault 2 (some .int) 0 (fun w => [.ref (w.2.1 0), .int p1]) S (some (.int r0)) S0 := by
  refine gEnter (fun X => [some (.ref (gad X 0)), some (.int p1)]) (by decide) (fun X => ⟨rfl, rfl⟩) (fun w => Nat.le_of_ble_eq_true rfl) (fun X hp => ?_)
  show AW X RX6 0 cX6_hoursFault 0 [some (.ref (gad X 0)), some (.int p1)] [] S
  unfold f_X6_hoursFault at h
  refine a_iloadn (pc := 0) dX6_hoursFault_0 rfl rfl ?_
  refine a_iconst (pc := 1) (v := (1 : Int32)) dX6_hoursFault_1 (by decide) ?_
  refine a_icmp_lt (pc := 2) (tgt := 11) dX6_hoursFault_2 (by decide) (fun c1 => ?_) (fun c1 => ?_)
  · rw [if_pos c1] at h
    refine a_iconst (pc := 11) (v := (-1 : Int32)) dX6_hoursFault_11 (by decide) ?_
    obtain ⟨rfl, rfl⟩ := Prod.mk.inj (Option.some.inj h)
    exact a_iret hp dX6_hoursFault_12
  · rw [if_neg c1] at h
    refine a_iloadn (pc := 5) dX6_hoursFault_5 rfl rfl ?_
    refine a_bipush (pc := 6) (v := (24 : Int32)) dX6_hoursFault_6 (by decide) ?_
    refine a_icmp_le (pc := 8) (tgt := 13) dX6_hoursFault_8 (by decide) (fun c2 => ?_) (fun c2 => ?_)
    · rw [if_pos c2] at h
      refine a_aloadn (pc := 13) dX6_hoursFault_13 rfl rfl ?_
      refine a_getA (pc := 14) flX6_12 sh_0 rfl dX6_hoursFault_14 ?_
      refine a_getI (pc := 17) flX6_135 sh_1 rfl dX6_hoursFault_17 ?_
      refine a_sipush (pc := 20) (v := (9999 : Int32)) dX6_hoursFault_20 (by decide) ?_
      refine a_iloadn (pc := 23) dX6_hoursFault_23 rfl rfl ?_
      refine a_isub (pc := 24) dX6_hoursFault_24 ?_
      refine a_icmp_le (pc := 25) (tgt := 33) dX6_hoursFault_25 (by decide) (fun c3 => ?_) (fun c3 => ?_)
      · rw [if_pos c3] at h
        refine a_iconst (pc := 33) (v := (0 : Int32)) dX6_hoursFault_33 (by decide) ?_
        obtain ⟨rfl, rfl⟩ := Prod.mk.inj (Option.some.inj h)
        exact a_iret hp dX6_hoursFault_34
      · rw [if_neg c3] at h
        refine a_bipush (pc := 28) (v := (-3 : Int32)) dX6_hoursFault_28 (by decide) ?_
        refine a_goto (pc := 30) (tgt := 34) dX6_hoursFault_30 (by decide) ?_
        obtain ⟨rfl, rfl⟩ := Prod.mk.inj (Option.some.inj h)
        exact a_iret hp dX6_hoursFault_34
    · rw [if_neg c2] at h
      refine a_iconst (pc := 11) (v := (-1 : Int32)) dX6_hoursFault_11 (by decide) ?_
      obtain ⟨rfl, rfl⟩ := Prod.mk.inj (Option.some.inj h)
      exact a_iret hp dX6_hoursFault_12
