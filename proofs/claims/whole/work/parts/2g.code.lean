theorem dX2_end_0 : decode cX2_end 0 = .ok (.aload_n 0, 1) := by decide +kernel
theorem dX2_end_1 : decode cX2_end 1 = .ok (.getfield 19, 3) := by decide +kernel
theorem dX2_end_4 : decode cX2_end 4 = .ok (.istore_n 1, 1) := by decide +kernel
theorem dX2_end_5 : decode cX2_end 5 = .ok (.aload_n 0, 1) := by decide +kernel
theorem dX2_end_6 : decode cX2_end 6 = .ok (.iconst (-1), 1) := by decide +kernel
theorem dX2_end_7 : decode cX2_end 7 = .ok (.putfield 15, 3) := by decide +kernel
theorem dX2_end_10 : decode cX2_end 10 = .ok (.aload_n 0, 1) := by decide +kernel
theorem dX2_end_11 : decode cX2_end 11 = .ok (.iconst 0, 1) := by decide +kernel
theorem dX2_end_12 : decode cX2_end 12 = .ok (.putfield 19, 3) := by decide +kernel
theorem dX2_end_15 : decode cX2_end 15 = .ok (.iload_n 1, 1) := by decide +kernel
theorem dX2_end_16 : decode cX2_end 16 = .ok (.ireturn, 1) := by decide +kernel
def f_X2_end (j : Nat) (S : gSt) : Option (Int32 × gSt) :=
gLet (S.1 (33 + j) 2) fun v1 =>
gLet (gI S (33 + j) 1 (-1 : Int32)) fun S2 =>
gLet (gI S2 (33 + j) 2 (0 : Int32)) fun S3 =>
some (v1, S3)
set_option maxHeartbeats 4000000 in
set_option maxRecDepth 20000 in
theorem ok_X2_end {j : Nat} {S S0 : gSt} {r0 : Int32}  (hj : j < 4) (h : f_X2_end j S = some (r0, S0)) : gCT yX2_end cX2_end 2 (some .int) 0 (fun w => [.ref (w.2.1 (33 + j))]) S (some (.int r0)) S0 := by
  refine gEnter (fun X => [some (.ref (gad X (33 + j))), none]) (by decide) (fun X => ⟨rfl, rfl⟩) (fun w => Nat.le_of_ble_eq_true rfl) (fun X hp => ?_)
  show AW X RX2 0 cX2_end 0 [some (.ref (gad X (33 + j))), none] [] S
  unfold f_X2_end at h
  refine a_aloadn (pc := 0) dX2_end_0 rfl rfl ?_
  refine a_getI (pc := 1) flX2_19 (sh_sheet hj) rfl dX2_end_1 ?_
  obtain ⟨v1, ev1, h⟩ := g_let h
  refine a_nmI ev1 ?_
  refine a_istoren (pc := 4) dX2_end_4 rfl (Nat.le_of_ble_eq_true rfl) rfl (L' := [some (.ref (gad X (33 + j))), some (.int v1)]) rfl ?_
  refine a_aloadn (pc := 5) dX2_end_5 rfl rfl ?_
  refine a_iconst (pc := 6) (v := (-1 : Int32)) dX2_end_6 (by decide) ?_
  refine a_putI (pc := 7) flX2_15 (sh_sheet hj) rfl rfl rfl dX2_end_7 ?_
  obtain ⟨S2, eS2, h⟩ := g_let h
  refine a_nmS eS2 ?_
  refine a_aloadn (pc := 10) dX2_end_10 rfl rfl ?_
  refine a_iconst (pc := 11) (v := (0 : Int32)) dX2_end_11 (by decide) ?_
  refine a_putI (pc := 12) flX2_19 (sh_sheet hj) rfl rfl rfl dX2_end_12 ?_
  obtain ⟨S3, eS3, h⟩ := g_let h
  refine a_nmS eS3 ?_
  refine a_iloadn (pc := 15) dX2_end_15 rfl rfl ?_
  obtain ⟨rfl, rfl⟩ := Prod.mk.inj (Option.some.inj h)
  exact a_iret hp dX2_end_16
theorem dX6_drop_0 : decode cX6_drop 0 = .ok (.iload_n 1, 1) := by decide +kernel
theorem dX6_drop_1 : decode cX6_drop 1 = .ok (.invokestatic 245, 3) := by decide +kernel
theorem dX6_drop_4 : decode cX6_drop 4 = .ok (.ifCond .ne 5, 3) := by decide +kernel
theorem dX6_drop_7 : decode cX6_drop 7 = .ok (.iconst (-1), 1) := by decide +kernel
theorem dX6_drop_8 : decode cX6_drop 8 = .ok (.ireturn, 1) := by decide +kernel
theorem dX6_drop_9 : decode cX6_drop 9 = .ok (.aload_n 0, 1) := by decide +kernel
theorem dX6_drop_10 : decode cX6_drop 10 = .ok (.getfield 32, 3) := by decide +kernel
theorem dX6_drop_13 : decode cX6_drop 13 = .ok (.iload_n 1, 1) := by decide +kernel
theorem dX6_drop_14 : decode cX6_drop 14 = .ok (.aaload, 1) := by decide +kernel
theorem dX6_drop_15 : decode cX6_drop 15 = .ok (.invokevirtual 250, 3) := by decide +kernel
theorem dX6_drop_18 : decode cX6_drop 18 = .ok (.ifCond .eq 6, 3) := by decide +kernel
theorem dX6_drop_21 : decode cX6_drop 21 = .ok (.bipush (-11), 2) := by decide +kernel
theorem dX6_drop_23 : decode cX6_drop 23 = .ok (.ireturn, 1) := by decide +kernel
theorem dX6_drop_24 : decode cX6_drop 24 = .ok (.aload_n 0, 1) := by decide +kernel
theorem dX6_drop_25 : decode cX6_drop 25 = .ok (.getfield 32, 3) := by decide +kernel
theorem dX6_drop_28 : decode cX6_drop 28 = .ok (.iload_n 1, 1) := by decide +kernel
theorem dX6_drop_29 : decode cX6_drop 29 = .ok (.aaload, 1) := by decide +kernel
theorem dX6_drop_30 : decode cX6_drop 30 = .ok (.invokevirtual 254, 3) := by decide +kernel
theorem dX6_drop_33 : decode cX6_drop 33 = .ok (.ireturn, 1) := by decide +kernel
def f_X6_drop (p1 : Int32) (S : gSt) : Option (Int32 × gSt) :=
gBind2 (f_X6_isSheet p1 S) fun r3 S1 =>
(if r3 = 0 then
some ((-1 : Int32), S1)
else
if gin p1 4 then
(gBind2 (f_X2_isNothing (p1.toNatClampNeg) S1) fun r8 S6 =>
(if r8 = 0 then
if gin p1 4 then
(gBind2 (f_X2_end (p1.toNatClampNeg) S6) fun r13 S11 =>
some (r13, S11)) else none
else
some ((-11 : Int32), S6))) else none)
set_option maxHeartbeats 4000000 in
set_option maxRecDepth 20000 in
theorem ok_X6_drop {p1 : Int32} {S S0 : gSt} {r0 : Int32}  (h : f_X6_drop p1 S = some (r0, S0)) : gCT yX6_drop cX6_drop 2 (some .int) 1 (fun w => [.ref (w.2.1 0), .int p1]) S (some (.int r0)) S0 := by
  refine gEnter (fun X => [some (.ref (gad X 0)), some (.int p1)]) (by decide) (fun X => ⟨rfl, rfl⟩) (fun w => Nat.le_of_ble_eq_true rfl) (fun X hp => ?_)
  show AW X RX6 1 cX6_drop 0 [some (.ref (gad X 0)), some (.int p1)] [] S
  unfold f_X6_drop at h
  refine a_iloadn (pc := 0) dX6_drop_0 rfl rfl ?_
  obtain ⟨r3, S1, hc2, h⟩ := g_bind2 h
  refine a_invSi (pc := 1) (ok_X6_isSheet hc2) gyX6_isSheet syX6_isSheet mlX6_245 (As := [.int p1]) rfl rfl (by decide) (st := []) rfl (Nat.le_of_ble_eq_true rfl) dX6_drop_1 ?_
  refine a_if_ne (pc := 4) (tgt := 9) dX6_drop_4 (by decide) (fun c4 => ?_) (fun c4 => ?_)
  · rw [if_neg c4] at h
    refine a_aloadn (pc := 9) dX6_drop_9 rfl rfl ?_
    refine a_getA (pc := 10) flX6_32 sh_0 rfl dX6_drop_10 ?_
    refine a_iloadn (pc := 13) dX6_drop_13 rfl rfl ?_
    obtain ⟨hi5, h⟩ := g_if h
    refine a_aald (pc := 14) sh_32 hi5 dX6_drop_14 ?_
    obtain ⟨r8, S6, hc7, h⟩ := g_bind2 h
    refine a_invVi (pc := 15) (ok_X2_isNothing (gin_lt hi5) hc7) gyX2_isNothing vyX2_isNothing mlX6_250 (sh_sheet (gin_lt hi5)) rfl (As := []) rfl rfl (by decide) (st := []) rfl (Nat.le_of_ble_eq_true rfl) dX6_drop_15 ?_
    refine a_if_eq (pc := 18) (tgt := 24) dX6_drop_18 (by decide) (fun c9 => ?_) (fun c9 => ?_)
    · rw [if_pos c9] at h
      refine a_aloadn (pc := 24) dX6_drop_24 rfl rfl ?_
      refine a_getA (pc := 25) flX6_32 sh_0 rfl dX6_drop_25 ?_
      refine a_iloadn (pc := 28) dX6_drop_28 rfl rfl ?_
      obtain ⟨hi10, h⟩ := g_if h
      refine a_aald (pc := 29) sh_32 hi10 dX6_drop_29 ?_
      obtain ⟨r13, S11, hc12, h⟩ := g_bind2 h
      refine a_invVi (pc := 30) (ok_X2_end (gin_lt hi10) hc12) gyX2_end vyX2_end mlX6_254 (sh_sheet (gin_lt hi10)) rfl (As := []) rfl rfl (by decide) (st := []) rfl (Nat.le_of_ble_eq_true rfl) dX6_drop_30 ?_
      obtain ⟨rfl, rfl⟩ := Prod.mk.inj (Option.some.inj h)
      exact a_iret hp dX6_drop_33
    · rw [if_neg c9] at h
      refine a_bipush (pc := 21) (v := (-11 : Int32)) dX6_drop_21 (by decide) ?_
      obtain ⟨rfl, rfl⟩ := Prod.mk.inj (Option.some.inj h)
      exact a_iret hp dX6_drop_23
  · rw [if_pos c4] at h
    refine a_iconst (pc := 7) (v := (-1 : Int32)) dX6_drop_7 (by decide) ?_
    obtain ⟨rfl, rfl⟩ := Prod.mk.inj (Option.some.inj h)
    exact a_iret hp dX6_drop_8
theorem dX6_lowestBits_0 : decode cX6_lowestBits 0 = .ok (.iload_n 0, 1) := by decide +kernel
theorem dX6_lowestBits_1 : decode cX6_lowestBits 1 = .ok (.tableswitch 41 0 2 #[27, 32, 37], 27) := by decide +kernel
theorem dX6_lowestBits_28 : decode cX6_lowestBits 28 = .ok (.lload_n 1, 1) := by decide +kernel
theorem dX6_lowestBits_29 : decode cX6_lowestBits 29 = .ok (.l2i, 1) := by decide +kernel
theorem dX6_lowestBits_30 : decode cX6_lowestBits 30 = .ok (.i2b, 1) := by decide +kernel
theorem dX6_lowestBits_31 : decode cX6_lowestBits 31 = .ok (.i2l, 1) := by decide +kernel
theorem dX6_lowestBits_32 : decode cX6_lowestBits 32 = .ok (.lreturn, 1) := by decide +kernel
theorem dX6_lowestBits_33 : decode cX6_lowestBits 33 = .ok (.lload_n 1, 1) := by decide +kernel
theorem dX6_lowestBits_34 : decode cX6_lowestBits 34 = .ok (.l2i, 1) := by decide +kernel
theorem dX6_lowestBits_35 : decode cX6_lowestBits 35 = .ok (.i2s, 1) := by decide +kernel
theorem dX6_lowestBits_36 : decode cX6_lowestBits 36 = .ok (.i2l, 1) := by decide +kernel
theorem dX6_lowestBits_37 : decode cX6_lowestBits 37 = .ok (.lreturn, 1) := by decide +kernel
theorem dX6_lowestBits_38 : decode cX6_lowestBits 38 = .ok (.lload_n 1, 1) := by decide +kernel
theorem dX6_lowestBits_39 : decode cX6_lowestBits 39 = .ok (.l2i, 1) := by decide +kernel
theorem dX6_lowestBits_40 : decode cX6_lowestBits 40 = .ok (.i2l, 1) := by decide +kernel
theorem dX6_lowestBits_41 : decode cX6_lowestBits 41 = .ok (.lreturn, 1) := by decide +kernel
theorem dX6_lowestBits_42 : decode cX6_lowestBits 42 = .ok (.lload_n 1, 1) := by decide +kernel
theorem dX6_lowestBits_43 : decode cX6_lowestBits 43 = .ok (.lreturn, 1) := by decide +kernel
def f_X6_lowestBits (p0 : Int32) (p1 : Int64) (S : gSt) : Option (Int64 × gSt) :=
(if p0.toInt < 0 ∨ 2 < p0.toInt then
some (p1, S)
else if p0 = (0 : Int32) then
some (((p1.toInt32).toInt8.toInt32).toInt64, S)
else if p0 = (1 : Int32) then
some (((p1.toInt32).toInt16.toInt32).toInt64, S)
else if p0 = (2 : Int32) then
some ((p1.toInt32).toInt64, S)
else none)
set_option maxHeartbeats 4000000 in
set_option maxRecDepth 20000 in
theorem ok_X6_lowestBits {p0 : Int32} {p1 : Int64} {S S0 : gSt} {r0 : Int64}  (h : f_X6_lowestBits p0 p1 S = some (r0, S0)) : gCT yX6_lowestBits cX6_lowestBits 3 (some .long) 0 (fun w => [.int p0, .long p1]) S (some (.long r0)) S0 := by
  refine gEnter (fun X => [some (.int p0), some (.long p1), none]) (by decide) (fun X => ⟨rfl, rfl⟩) (fun w => Nat.le_of_ble_eq_true rfl) (fun X hp => ?_)
  show AW X RX6 0 cX6_lowestBits 0 [some (.int p0), some (.long p1), none] [] S
  unfold f_X6_lowestBits at h
  refine a_iloadn (pc := 0) dX6_lowestBits_0 rfl rfl ?_
  by_cases c1 : p0.toInt < 0 ∨ 2 < p0.toInt
  · rw [if_pos c1] at h
    refine a_tabOut (pc := 1) (tgt := 42) dX6_lowestBits_1 c1 (by decide) ?_
    refine a_lloadn (pc := 42) dX6_lowestBits_42 rfl rfl ?_
    obtain ⟨rfl, rfl⟩ := Prod.mk.inj (Option.some.inj h)
    exact a_lret hp dX6_lowestBits_43
  rw [if_neg c1] at h
  by_cases c2 : p0 = (0 : Int32)
  · rw [if_pos c2] at h
    refine a_nmI c2 ?_
    refine a_tabIn (pc := 1) (off := 27) (tgt := 28) dX6_lowestBits_1 (by decide) (by decide) (by decide) (by decide) ?_
    refine a_lloadn (pc := 28) dX6_lowestBits_28 rfl rfl ?_
    refine a_l2i (pc := 29) dX6_lowestBits_29 ?_
    refine a_i2b (pc := 30) dX6_lowestBits_30 ?_
    refine a_i2l (pc := 31) dX6_lowestBits_31 ?_
    obtain ⟨rfl, rfl⟩ := Prod.mk.inj (Option.some.inj h)
    exact a_lret hp dX6_lowestBits_32
  rw [if_neg c2] at h
  by_cases c3 : p0 = (1 : Int32)
  · rw [if_pos c3] at h
    refine a_nmI c3 ?_
    refine a_tabIn (pc := 1) (off := 32) (tgt := 33) dX6_lowestBits_1 (by decide) (by decide) (by decide) (by decide) ?_
    refine a_lloadn (pc := 33) dX6_lowestBits_33 rfl rfl ?_
    refine a_l2i (pc := 34) dX6_lowestBits_34 ?_
    refine a_i2s (pc := 35) dX6_lowestBits_35 ?_
    refine a_i2l (pc := 36) dX6_lowestBits_36 ?_
    obtain ⟨rfl, rfl⟩ := Prod.mk.inj (Option.some.inj h)
    exact a_lret hp dX6_lowestBits_37
  rw [if_neg c3] at h
  by_cases c4 : p0 = (2 : Int32)
  · rw [if_pos c4] at h
    refine a_nmI c4 ?_
    refine a_tabIn (pc := 1) (off := 37) (tgt := 38) dX6_lowestBits_1 (by decide) (by decide) (by decide) (by decide) ?_
    refine a_lloadn (pc := 38) dX6_lowestBits_38 rfl rfl ?_
    refine a_l2i (pc := 39) dX6_lowestBits_39 ?_
    refine a_i2l (pc := 40) dX6_lowestBits_40 ?_
    obtain ⟨rfl, rfl⟩ := Prod.mk.inj (Option.some.inj h)
    exact a_lret hp dX6_lowestBits_41
  rw [if_neg c4] at h
  cases h
theorem dX6_item_0 : decode cX6_item 0 = .ok (.aload_n 0, 1) := by decide +kernel
theorem dX6_item_1 : decode cX6_item 1 = .ok (.iload_n 1, 1) := by decide +kernel
theorem dX6_item_2 : decode cX6_item 2 = .ok (.iload_n 2, 1) := by decide +kernel
theorem dX6_item_3 : decode cX6_item 3 = .ok (.iload_n 3, 1) := by decide +kernel
theorem dX6_item_4 : decode cX6_item 4 = .ok (.iconst 1, 1) := by decide +kernel
theorem dX6_item_5 : decode cX6_item 5 = .ok (.invokevirtual 218, 3) := by decide +kernel
theorem dX6_item_8 : decode cX6_item 8 = .ok (.istore 6, 2) := by decide +kernel
theorem dX6_item_10 : decode cX6_item 10 = .ok (.iload 6, 2) := by decide +kernel
theorem dX6_item_12 : decode cX6_item 12 = .ok (.ifCond .ge 6, 3) := by decide +kernel
theorem dX6_item_15 : decode cX6_item 15 = .ok (.iload 6, 2) := by decide +kernel
theorem dX6_item_17 : decode cX6_item 17 = .ok (.ireturn, 1) := by decide +kernel
theorem dX6_item_18 : decode cX6_item 18 = .ok (.aload_n 0, 1) := by decide +kernel
theorem dX6_item_19 : decode cX6_item 19 = .ok (.getfield 32, 3) := by decide +kernel
theorem dX6_item_22 : decode cX6_item 22 = .ok (.iload_n 1, 1) := by decide +kernel
theorem dX6_item_23 : decode cX6_item 23 = .ok (.aaload, 1) := by decide +kernel
theorem dX6_item_24 : decode cX6_item 24 = .ok (.getfield 237, 3) := by decide +kernel
theorem dX6_item_27 : decode cX6_item 27 = .ok (.iload_n 3, 1) := by decide +kernel
theorem dX6_item_28 : decode cX6_item 28 = .ok (.iload_n 2, 1) := by decide +kernel
theorem dX6_item_29 : decode cX6_item 29 = .ok (.lload 4, 2) := by decide +kernel
theorem dX6_item_31 : decode cX6_item 31 = .ok (.invokestatic 257, 3) := by decide +kernel
theorem dX6_item_34 : decode cX6_item 34 = .ok (.lastore, 1) := by decide +kernel
theorem dX6_item_35 : decode cX6_item 35 = .ok (.iconst 1, 1) := by decide +kernel
theorem dX6_item_36 : decode cX6_item 36 = .ok (.ireturn, 1) := by decide +kernel
def f_X6_item (p1 : Int32) (p2 : Int32) (p3 : Int32) (p4 : Int64) (S : gSt) : Option (Int32 × gSt) :=
gBind2 (f_X6_itemsFault p1 p2 p3 (1 : Int32) S) fun r3 S1 =>
(if 0 ≤ r3 then
if gin p1 4 then
(gBind2 (f_X6_lowestBits p2 p4 S1) fun r8 S6 =>
if gin p3 24 then
gLet (gJ S6 (37 + (p1.toNatClampNeg)) p3.toNatClampNeg r8) fun S10 =>
(some ((1 : Int32), S10)) else none) else none
else
some (r3, S1))
set_option maxHeartbeats 4000000 in
set_option maxRecDepth 20000 in
theorem ok_X6_item {p1 : Int32} {p2 : Int32} {p3 : Int32} {p4 : Int64} {S S0 : gSt} {r0 : Int32}  (h : f_X6_item p1 p2 p3 p4 S = some (r0, S0)) : gCT yX6_item cX6_item 7 (some .int) 2 (fun w => [.ref (w.2.1 0), .int p1, .int p2, .int p3, .long p4]) S (some (.int r0)) S0 := by
  refine gEnter (fun X => [some (.ref (gad X 0)), some (.int p1), some (.int p2), some (.int p3), some (.long p4), none, none]) (by decide) (fun X => ⟨rfl, rfl⟩) (fun w => Nat.le_of_ble_eq_true rfl) (fun X hp => ?_)
  show AW X RX6 2 cX6_item 0 [some (.ref (gad X 0)), some (.int p1), some (.int p2), some (.int p3), some (.long p4), none, none] [] S
  unfold f_X6_item at h
  refine a_aloadn (pc := 0) dX6_item_0 rfl rfl ?_
  refine a_iloadn (pc := 1) dX6_item_1 rfl rfl ?_
  refine a_iloadn (pc := 2) dX6_item_2 rfl rfl ?_
  refine a_iloadn (pc := 3) dX6_item_3 rfl rfl ?_
  refine a_iconst (pc := 4) (v := (1 : Int32)) dX6_item_4 (by decide) ?_
  obtain ⟨r3, S1, hc2, h⟩ := g_bind2 h
  refine a_invVi (pc := 5) (ok_X6_itemsFault hc2) gyX6_itemsFault vyX6_itemsFault mlX6_218 sh_0 rfl (As := [.int p1, .int p2, .int p3, .int (1 : Int32)]) rfl rfl (by decide) (st := []) rfl (Nat.le_of_ble_eq_true rfl) dX6_item_5 ?_
  refine a_istore (pc := 8) dX6_item_8 (Nat.le_of_ble_eq_true rfl) rfl (L' := [some (.ref (gad X 0)), some (.int p1), some (.int p2), some (.int p3), some (.long p4), none, some (.int r3)]) rfl ?_
  refine a_iload (pc := 10) dX6_item_10 rfl ?_
  refine a_if_ge (pc := 12) (tgt := 18) dX6_item_12 (by decide) (fun c4 => ?_) (fun c4 => ?_)
  · rw [if_pos c4] at h
    refine a_aloadn (pc := 18) dX6_item_18 rfl rfl ?_
    refine a_getA (pc := 19) flX6_32 sh_0 rfl dX6_item_19 ?_
    refine a_iloadn (pc := 22) dX6_item_22 rfl rfl ?_
    obtain ⟨hi5, h⟩ := g_if h
    refine a_aald (pc := 23) sh_32 hi5 dX6_item_23 ?_
    refine a_getA (pc := 24) flX6_237 (sh_sheet (gin_lt hi5)) rfl dX6_item_24 ?_
    refine a_iloadn (pc := 27) dX6_item_27 rfl rfl ?_
    refine a_iloadn (pc := 28) dX6_item_28 rfl rfl ?_
    refine a_lload (pc := 29) dX6_item_29 rfl ?_
    obtain ⟨r8, S6, hc7, h⟩ := g_bind2 h
    refine a_invSl (pc := 31) (ok_X6_lowestBits hc7) gyX6_lowestBits syX6_lowestBits mlX6_257 (As := [.int p2, .long p4]) rfl rfl (by decide) (st := [.int p3, .ref (gad X (37 + (p1.toNatClampNeg)))]) rfl (Nat.le_of_ble_eq_true rfl) dX6_item_31 ?_
    obtain ⟨hi9, h⟩ := g_if h
    refine a_last (pc := 34) (sh_items (gin_lt hi5)) hi9 dX6_item_34 ?_
    obtain ⟨S10, eS10, h⟩ := g_let h
    refine a_nmS eS10 ?_
    refine a_iconst (pc := 35) (v := (1 : Int32)) dX6_item_35 (by decide) ?_
    obtain ⟨rfl, rfl⟩ := Prod.mk.inj (Option.some.inj h)
    exact a_iret hp dX6_item_36
  · rw [if_neg c4] at h
    refine a_iload (pc := 15) dX6_item_15 rfl ?_
    obtain ⟨rfl, rfl⟩ := Prod.mk.inj (Option.some.inj h)
    exact a_iret hp dX6_item_17
theorem dX6_copy_0 : decode cX6_copy 0 = .ok (.iload_n 1, 1) := by decide +kernel
theorem dX6_copy_1 : decode cX6_copy 1 = .ok (.invokestatic 245, 3) := by decide +kernel
theorem dX6_copy_4 : decode cX6_copy 4 = .ok (.ifCond .eq 10, 3) := by decide +kernel
theorem dX6_copy_7 : decode cX6_copy 7 = .ok (.iload_n 3, 1) := by decide +kernel
theorem dX6_copy_8 : decode cX6_copy 8 = .ok (.invokestatic 245, 3) := by decide +kernel
theorem dX6_copy_11 : decode cX6_copy 11 = .ok (.ifCond .ne 5, 3) := by decide +kernel
theorem dX6_copy_14 : decode cX6_copy 14 = .ok (.iconst (-1), 1) := by decide +kernel
theorem dX6_copy_15 : decode cX6_copy 15 = .ok (.ireturn, 1) := by decide +kernel
theorem dX6_copy_16 : decode cX6_copy 16 = .ok (.aload_n 0, 1) := by decide +kernel
theorem dX6_copy_17 : decode cX6_copy 17 = .ok (.getfield 32, 3) := by decide +kernel
theorem dX6_copy_20 : decode cX6_copy 20 = .ok (.iload_n 1, 1) := by decide +kernel
theorem dX6_copy_21 : decode cX6_copy 21 = .ok (.aaload, 1) := by decide +kernel
theorem dX6_copy_22 : decode cX6_copy 22 = .ok (.astore 6, 2) := by decide +kernel
theorem dX6_copy_24 : decode cX6_copy 24 = .ok (.aload_n 0, 1) := by decide +kernel
theorem dX6_copy_25 : decode cX6_copy 25 = .ok (.getfield 32, 3) := by decide +kernel
theorem dX6_copy_28 : decode cX6_copy 28 = .ok (.iload_n 3, 1) := by decide +kernel
theorem dX6_copy_29 : decode cX6_copy 29 = .ok (.aaload, 1) := by decide +kernel
theorem dX6_copy_30 : decode cX6_copy 30 = .ok (.astore 7, 2) := by decide +kernel
theorem dX6_copy_32 : decode cX6_copy 32 = .ok (.aload 6, 2) := by decide +kernel
theorem dX6_copy_34 : decode cX6_copy 34 = .ok (.invokevirtual 250, 3) := by decide +kernel
theorem dX6_copy_37 : decode cX6_copy 37 = .ok (.ifCond .ne 11, 3) := by decide +kernel
theorem dX6_copy_40 : decode cX6_copy 40 = .ok (.aload 7, 2) := by decide +kernel
theorem dX6_copy_42 : decode cX6_copy 42 = .ok (.invokevirtual 250, 3) := by decide +kernel
theorem dX6_copy_45 : decode cX6_copy 45 = .ok (.ifCond .eq 6, 3) := by decide +kernel
theorem dX6_copy_48 : decode cX6_copy 48 = .ok (.bipush (-11), 2) := by decide +kernel
theorem dX6_copy_50 : decode cX6_copy 50 = .ok (.ireturn, 1) := by decide +kernel
theorem dX6_copy_51 : decode cX6_copy 51 = .ok (.aload 6, 2) := by decide +kernel
theorem dX6_copy_53 : decode cX6_copy 53 = .ok (.getfield 261, 3) := by decide +kernel
theorem dX6_copy_56 : decode cX6_copy 56 = .ok (.aload 7, 2) := by decide +kernel
theorem dX6_copy_58 : decode cX6_copy 58 = .ok (.getfield 261, 3) := by decide +kernel
theorem dX6_copy_61 : decode cX6_copy 61 = .ok (.if_icmp .eq 6, 3) := by decide +kernel
theorem dX6_copy_64 : decode cX6_copy 64 = .ok (.bipush (-12), 2) := by decide +kernel
theorem dX6_copy_66 : decode cX6_copy 66 = .ok (.ireturn, 1) := by decide +kernel
theorem dX6_copy_67 : decode cX6_copy 67 = .ok (.aload 6, 2) := by decide +kernel
theorem dX6_copy_69 : decode cX6_copy 69 = .ok (.iload_n 2, 1) := by decide +kernel
theorem dX6_copy_70 : decode cX6_copy 70 = .ok (.iload 5, 2) := by decide +kernel
theorem dX6_copy_72 : decode cX6_copy 72 = .ok (.invokevirtual 264, 3) := by decide +kernel
theorem dX6_copy_75 : decode cX6_copy 75 = .ok (.ifCond .eq 15, 3) := by decide +kernel
theorem dX6_copy_78 : decode cX6_copy 78 = .ok (.aload 7, 2) := by decide +kernel
theorem dX6_copy_80 : decode cX6_copy 80 = .ok (.iload 4, 2) := by decide +kernel
theorem dX6_copy_82 : decode cX6_copy 82 = .ok (.iload 5, 2) := by decide +kernel
theorem dX6_copy_84 : decode cX6_copy 84 = .ok (.invokevirtual 264, 3) := by decide +kernel
theorem dX6_copy_87 : decode cX6_copy 87 = .ok (.ifCond .ne 6, 3) := by decide +kernel
theorem dX6_copy_90 : decode cX6_copy 90 = .ok (.bipush (-13), 2) := by decide +kernel
theorem dX6_copy_92 : decode cX6_copy 92 = .ok (.ireturn, 1) := by decide +kernel
theorem dX6_copy_93 : decode cX6_copy 93 = .ok (.aload 6, 2) := by decide +kernel
theorem dX6_copy_95 : decode cX6_copy 95 = .ok (.getfield 237, 3) := by decide +kernel
theorem dX6_copy_98 : decode cX6_copy 98 = .ok (.iload_n 2, 1) := by decide +kernel
theorem dX6_copy_99 : decode cX6_copy 99 = .ok (.aload 7, 2) := by decide +kernel
theorem dX6_copy_101 : decode cX6_copy 101 = .ok (.getfield 237, 3) := by decide +kernel
theorem dX6_copy_104 : decode cX6_copy 104 = .ok (.iload 4, 2) := by decide +kernel
theorem dX6_copy_106 : decode cX6_copy 106 = .ok (.iload 5, 2) := by decide +kernel
theorem dX6_copy_108 : decode cX6_copy 108 = .ok (.invokestatic 267, 3) := by decide +kernel
theorem dX6_copy_111 : decode cX6_copy 111 = .ok (.iload 5, 2) := by decide +kernel
theorem dX6_copy_113 : decode cX6_copy 113 = .ok (.ireturn, 1) := by decide +kernel
def f_X6_copy (p1 : Int32) (p2 : Int32) (p3 : Int32) (p4 : Int32) (p5 : Int32) (S : gSt) : Option (Int32 × gSt) :=
gBind2 (f_X6_isSheet p1 S) fun r3 S1 =>
(if r3 = 0 then
some ((-1 : Int32), S1)
else
gBind2 (f_X6_isSheet p3 S1) fun r7 S5 =>
(if r7 = 0 then
some ((-1 : Int32), S5)
else
if gin p1 4 then
(if gin p3 4 then
(gBind2 (f_X2_isNothing (p1.toNatClampNeg) S5) fun r13 S11 =>
(if r13 = 0 then
gBind2 (f_X2_isNothing (p3.toNatClampNeg) S11) fun r17 S15 =>
(if r17 = 0 then
(if (S15.1 (33 + (p1.toNatClampNeg)) 1) = (S15.1 (33 + (p3.toNatClampNeg)) 1) then
gBind2 (f_X2_spans (p1.toNatClampNeg) p2 p5 S15) fun r22 S20 =>
(if r22 = 0 then
some ((-13 : Int32), S20)
else
gBind2 (f_X2_spans (p3.toNatClampNeg) p4 p5 S20) fun r26 S24 =>
(if r26 = 0 then
some ((-13 : Int32), S24)
else
if gcp p2 p4 p5 24 24 then
gLet (gQ2 S24 (37 + (p3.toNatClampNeg)) (va_cpy (S24.2 (37 + (p1.toNatClampNeg))) (S24.2 (37 + (p3.toNatClampNeg))) p2.toNatClampNeg p4.toNatClampNeg p5.toNatClampNeg)) fun S29 =>
(some (p5, S29)) else none))
else
some ((-12 : Int32), S15))
else
some ((-11 : Int32), S15))
else
some ((-11 : Int32), S11))) else none) else none))
set_option maxHeartbeats 4000000 in
set_option maxRecDepth 20000 in
theorem ok_X6_copy {p1 : Int32} {p2 : Int32} {p3 : Int32} {p4 : Int32} {p5 : Int32} {S S0 : gSt} {r0 : Int32}  (h : f_X6_copy p1 p2 p3 p4 p5 S = some (r0, S0)) : gCT yX6_copy cX6_copy 8 (some .int) 1 (fun w => [.ref (w.2.1 0), .int p1, .int p2, .int p3, .int p4, .int p5]) S (some (.int r0)) S0 := by
  refine gEnter (fun X => [some (.ref (gad X 0)), some (.int p1), some (.int p2), some (.int p3), some (.int p4), some (.int p5), none, none]) (by decide) (fun X => ⟨rfl, rfl⟩) (fun w => Nat.le_of_ble_eq_true rfl) (fun X hp => ?_)
  show AW X RX6 1 cX6_copy 0 [some (.ref (gad X 0)), some (.int p1), some (.int p2), some (.int p3), some (.int p4), some (.int p5), none, none] [] S
  unfold f_X6_copy at h
  refine a_iloadn (pc := 0) dX6_copy_0 rfl rfl ?_
  obtain ⟨r3, S1, hc2, h⟩ := g_bind2 h
  refine a_invSi (pc := 1) (ok_X6_isSheet hc2) gyX6_isSheet syX6_isSheet mlX6_245 (As := [.int p1]) rfl rfl (by decide) (st := []) rfl (Nat.le_of_ble_eq_true rfl) dX6_copy_1 ?_
  refine a_if_eq (pc := 4) (tgt := 14) dX6_copy_4 (by decide) (fun c4 => ?_) (fun c4 => ?_)
  · rw [if_pos c4] at h
    refine a_iconst (pc := 14) (v := (-1 : Int32)) dX6_copy_14 (by decide) ?_
    obtain ⟨rfl, rfl⟩ := Prod.mk.inj (Option.some.inj h)
    exact a_iret hp dX6_copy_15
  · rw [if_neg c4] at h
    refine a_iloadn (pc := 7) dX6_copy_7 rfl rfl ?_
    obtain ⟨r7, S5, hc6, h⟩ := g_bind2 h
    refine a_invSi (pc := 8) (ok_X6_isSheet hc6) gyX6_isSheet syX6_isSheet mlX6_245 (As := [.int p3]) rfl rfl (by decide) (st := []) rfl (Nat.le_of_ble_eq_true rfl) dX6_copy_8 ?_
    refine a_if_ne (pc := 11) (tgt := 16) dX6_copy_11 (by decide) (fun c8 => ?_) (fun c8 => ?_)
    · rw [if_neg c8] at h
      refine a_aloadn (pc := 16) dX6_copy_16 rfl rfl ?_
      refine a_getA (pc := 17) flX6_32 sh_0 rfl dX6_copy_17 ?_
      refine a_iloadn (pc := 20) dX6_copy_20 rfl rfl ?_
      obtain ⟨hi9, h⟩ := g_if h
      refine a_aald (pc := 21) sh_32 hi9 dX6_copy_21 ?_
      refine a_astore (pc := 22) dX6_copy_22 (Nat.le_of_ble_eq_true rfl) rfl (L' := [some (.ref (gad X 0)), some (.int p1), some (.int p2), some (.int p3), some (.int p4), some (.int p5), some (.ref (gad X (33 + (p1.toNatClampNeg)))), none]) rfl ?_
      refine a_aloadn (pc := 24) dX6_copy_24 rfl rfl ?_
      refine a_getA (pc := 25) flX6_32 sh_0 rfl dX6_copy_25 ?_
      refine a_iloadn (pc := 28) dX6_copy_28 rfl rfl ?_
      obtain ⟨hi10, h⟩ := g_if h
      refine a_aald (pc := 29) sh_32 hi10 dX6_copy_29 ?_
      refine a_astore (pc := 30) dX6_copy_30 (Nat.le_of_ble_eq_true rfl) rfl (L' := [some (.ref (gad X 0)), some (.int p1), some (.int p2), some (.int p3), some (.int p4), some (.int p5), some (.ref (gad X (33 + (p1.toNatClampNeg)))), some (.ref (gad X (33 + (p3.toNatClampNeg))))]) rfl ?_
      refine a_aload (pc := 32) dX6_copy_32 rfl ?_
      obtain ⟨r13, S11, hc12, h⟩ := g_bind2 h
      refine a_invVi (pc := 34) (ok_X2_isNothing (gin_lt hi9) hc12) gyX2_isNothing vyX2_isNothing mlX6_250 (sh_sheet (gin_lt hi9)) rfl (As := []) rfl rfl (by decide) (st := []) rfl (Nat.le_of_ble_eq_true rfl) dX6_copy_34 ?_
      refine a_if_ne (pc := 37) (tgt := 48) dX6_copy_37 (by decide) (fun c14 => ?_) (fun c14 => ?_)
      · rw [if_neg c14] at h
        refine a_bipush (pc := 48) (v := (-11 : Int32)) dX6_copy_48 (by decide) ?_
        obtain ⟨rfl, rfl⟩ := Prod.mk.inj (Option.some.inj h)
        exact a_iret hp dX6_copy_50
      · rw [if_pos c14] at h
        refine a_aload (pc := 40) dX6_copy_40 rfl ?_
        obtain ⟨r17, S15, hc16, h⟩ := g_bind2 h
        refine a_invVi (pc := 42) (ok_X2_isNothing (gin_lt hi10) hc16) gyX2_isNothing vyX2_isNothing mlX6_250 (sh_sheet (gin_lt hi10)) rfl (As := []) rfl rfl (by decide) (st := []) rfl (Nat.le_of_ble_eq_true rfl) dX6_copy_42 ?_
        refine a_if_eq (pc := 45) (tgt := 51) dX6_copy_45 (by decide) (fun c18 => ?_) (fun c18 => ?_)
        · rw [if_pos c18] at h
          refine a_aload (pc := 51) dX6_copy_51 rfl ?_
          refine a_getI (pc := 53) flX6_261 (sh_sheet (gin_lt hi9)) rfl dX6_copy_53 ?_
          refine a_aload (pc := 56) dX6_copy_56 rfl ?_
          refine a_getI (pc := 58) flX6_261 (sh_sheet (gin_lt hi10)) rfl dX6_copy_58 ?_
          refine a_icmp_eq (pc := 61) (tgt := 67) dX6_copy_61 (by decide) (fun c19 => ?_) (fun c19 => ?_)
          · rw [if_pos c19] at h
            refine a_aload (pc := 67) dX6_copy_67 rfl ?_
            refine a_iloadn (pc := 69) dX6_copy_69 rfl rfl ?_
            refine a_iload (pc := 70) dX6_copy_70 rfl ?_
            obtain ⟨r22, S20, hc21, h⟩ := g_bind2 h
            refine a_invVi (pc := 72) (ok_X2_spans (gin_lt hi9) hc21) gyX2_spans vyX2_spans mlX6_264 (sh_sheet (gin_lt hi9)) rfl (As := [.int p2, .int p5]) rfl rfl (by decide) (st := []) rfl (Nat.le_of_ble_eq_true rfl) dX6_copy_72 ?_
            refine a_if_eq (pc := 75) (tgt := 90) dX6_copy_75 (by decide) (fun c23 => ?_) (fun c23 => ?_)
            · rw [if_pos c23] at h
              refine a_bipush (pc := 90) (v := (-13 : Int32)) dX6_copy_90 (by decide) ?_
              obtain ⟨rfl, rfl⟩ := Prod.mk.inj (Option.some.inj h)
              exact a_iret hp dX6_copy_92
            · rw [if_neg c23] at h
              refine a_aload (pc := 78) dX6_copy_78 rfl ?_
              refine a_iload (pc := 80) dX6_copy_80 rfl ?_
              refine a_iload (pc := 82) dX6_copy_82 rfl ?_
              obtain ⟨r26, S24, hc25, h⟩ := g_bind2 h
              refine a_invVi (pc := 84) (ok_X2_spans (gin_lt hi10) hc25) gyX2_spans vyX2_spans mlX6_264 (sh_sheet (gin_lt hi10)) rfl (As := [.int p4, .int p5]) rfl rfl (by decide) (st := []) rfl (Nat.le_of_ble_eq_true rfl) dX6_copy_84 ?_
              refine a_if_ne (pc := 87) (tgt := 93) dX6_copy_87 (by decide) (fun c27 => ?_) (fun c27 => ?_)
              · rw [if_neg c27] at h
                refine a_aload (pc := 93) dX6_copy_93 rfl ?_
                refine a_getA (pc := 95) flX6_237 (sh_sheet (gin_lt hi9)) rfl dX6_copy_95 ?_
                refine a_iloadn (pc := 98) dX6_copy_98 rfl rfl ?_
                refine a_aload (pc := 99) dX6_copy_99 rfl ?_
                refine a_getA (pc := 101) flX6_237 (sh_sheet (gin_lt hi10)) rfl dX6_copy_101 ?_
                refine a_iload (pc := 104) dX6_copy_104 rfl ?_
                refine a_iload (pc := 106) dX6_copy_106 rfl ?_
                obtain ⟨hi28, h⟩ := g_if h
                refine a_copyl (pc := 108) (sh_items (gin_lt hi9)) (sh_items (gin_lt hi10)) hi28 mlX6_267 (by decide) (Nat.le_of_ble_eq_true rfl) dX6_copy_108 ?_
                obtain ⟨S29, eS29, h⟩ := g_let h
                refine a_nmS eS29 ?_
                refine a_iload (pc := 111) dX6_copy_111 rfl ?_
                obtain ⟨rfl, rfl⟩ := Prod.mk.inj (Option.some.inj h)
                exact a_iret hp dX6_copy_113
              · rw [if_pos c27] at h
                refine a_bipush (pc := 90) (v := (-13 : Int32)) dX6_copy_90 (by decide) ?_
                obtain ⟨rfl, rfl⟩ := Prod.mk.inj (Option.some.inj h)
                exact a_iret hp dX6_copy_92
          · rw [if_neg c19] at h
            refine a_bipush (pc := 64) (v := (-12 : Int32)) dX6_copy_64 (by decide) ?_
            obtain ⟨rfl, rfl⟩ := Prod.mk.inj (Option.some.inj h)
            exact a_iret hp dX6_copy_66
        · rw [if_neg c18] at h
          refine a_bipush (pc := 48) (v := (-11 : Int32)) dX6_copy_48 (by decide) ?_
          obtain ⟨rfl, rfl⟩ := Prod.mk.inj (Option.some.inj h)
          exact a_iret hp dX6_copy_50
    · rw [if_pos c8] at h
      refine a_iconst (pc := 14) (v := (-1 : Int32)) dX6_copy_14 (by decide) ?_
      obtain ⟨rfl, rfl⟩ := Prod.mk.inj (Option.some.inj h)
      exact a_iret hp dX6_copy_15
theorem dX7_in_0 : decode cX7_in 0 = .ok (.lload_n 0, 1) := by decide +kernel
theorem dX7_in_1 : decode cX7_in 1 = .ok (.lload_n 2, 1) := by decide +kernel
theorem dX7_in_2 : decode cX7_in 2 = .ok (.lcmp, 1) := by decide +kernel
theorem dX7_in_3 : decode cX7_in 3 = .ok (.ifCond .lt 14, 3) := by decide +kernel
theorem dX7_in_6 : decode cX7_in 6 = .ok (.lload_n 0, 1) := by decide +kernel
theorem dX7_in_7 : decode cX7_in 7 = .ok (.lload 4, 2) := by decide +kernel
theorem dX7_in_9 : decode cX7_in 9 = .ok (.lcmp, 1) := by decide +kernel
theorem dX7_in_10 : decode cX7_in 10 = .ok (.ifCond .gt 7, 3) := by decide +kernel
theorem dX7_in_13 : decode cX7_in 13 = .ok (.iconst 1, 1) := by decide +kernel
theorem dX7_in_14 : decode cX7_in 14 = .ok (.goto 4, 3) := by decide +kernel
theorem dX7_in_17 : decode cX7_in 17 = .ok (.iconst 0, 1) := by decide +kernel
theorem dX7_in_18 : decode cX7_in 18 = .ok (.ireturn, 1) := by decide +kernel
def f_X7_in (p0 : Int64) (p2 : Int64) (p4 : Int64) (S : gSt) : Option (Int32 × gSt) :=
(if (lg_cmp p0 p2) < 0 then
some ((0 : Int32), S)
else
(if 0 < (lg_cmp p0 p4) then
some ((0 : Int32), S)
else
some ((1 : Int32), S)))
set_option maxHeartbeats 4000000 in
set_option maxRecDepth 20000 in
theorem ok_X7_in {p0 : Int64} {p2 : Int64} {p4 : Int64} {S S0 : gSt} {r0 : Int32}  (h : f_X7_in p0 p2 p4 S = some (r0, S0)) : gCT yX7_in cX7_in 6 (some .boolean) 0 (fun w => [.long p0, .long p2, .long p4]) S (some (.int r0)) S0 := by
  refine gEnter (fun X => [some (.long p0), none, some (.long p2), none, some (.long p4), none]) (by decide) (fun X => ⟨rfl, rfl⟩) (fun w => Nat.le_of_ble_eq_true rfl) (fun X hp => ?_)
  show AW X RX7 0 cX7_in 0 [some (.long p0), none, some (.long p2), none, some (.long p4), none] [] S
  unfold f_X7_in at h
  refine a_lloadn (pc := 0) dX7_in_0 rfl rfl ?_
  refine a_lloadn (pc := 1) dX7_in_1 rfl rfl ?_
  refine a_lcmp (pc := 2) dX7_in_2 ?_
  refine a_if_lt (pc := 3) (tgt := 17) dX7_in_3 (by decide) (fun c1 => ?_) (fun c1 => ?_)
  · rw [if_pos c1] at h
    refine a_iconst (pc := 17) (v := (0 : Int32)) dX7_in_17 (by decide) ?_
    obtain ⟨rfl, rfl⟩ := Prod.mk.inj (Option.some.inj h)
    exact a_zret hp rfl  dX7_in_18
  · rw [if_neg c1] at h
    refine a_lloadn (pc := 6) dX7_in_6 rfl rfl ?_
    refine a_lload (pc := 7) dX7_in_7 rfl ?_
    refine a_lcmp (pc := 9) dX7_in_9 ?_
    refine a_if_gt (pc := 10) (tgt := 17) dX7_in_10 (by decide) (fun c2 => ?_) (fun c2 => ?_)
    · rw [if_pos c2] at h
      refine a_iconst (pc := 17) (v := (0 : Int32)) dX7_in_17 (by decide) ?_
      obtain ⟨rfl, rfl⟩ := Prod.mk.inj (Option.some.inj h)
      exact a_zret hp rfl  dX7_in_18
    · rw [if_neg c2] at h
      refine a_iconst (pc := 13) (v := (1 : Int32)) dX7_in_13 (by decide) ?_
      refine a_goto (pc := 14) (tgt := 18) dX7_in_14 (by decide) ?_
      obtain ⟨rfl, rfl⟩ := Prod.mk.inj (Option.some.inj h)
      exact a_zret hp rfl  dX7_in_18
theorem dX7_isCell_0 : decode cX7_isCell 0 = .ok (.iload_n 0, 1) := by decide +kernel
theorem dX7_isCell_1 : decode cX7_isCell 1 = .ok (.i2l, 1) := by decide +kernel
theorem dX7_isCell_2 : decode cX7_isCell 2 = .ok (.lconst 0, 1) := by decide +kernel
theorem dX7_isCell_3 : decode cX7_isCell 3 = .ok (.ldc2_w 55, 3) := by decide +kernel
theorem dX7_isCell_6 : decode cX7_isCell 6 = .ok (.invokestatic 51, 3) := by decide +kernel
theorem dX7_isCell_9 : decode cX7_isCell 9 = .ok (.ireturn, 1) := by decide +kernel
def f_X7_isCell (p0 : Int32) (S : gSt) : Option (Int32 × gSt) :=
gBind2 (f_X7_in (p0.toInt64) (0 : Int64) (63 : Int64) S) fun r3 S1 =>
if gbool r3 then
some (r3, S1) else none
set_option maxHeartbeats 4000000 in
set_option maxRecDepth 20000 in
theorem ok_X7_isCell {p0 : Int32} {S S0 : gSt} {r0 : Int32}  (h : f_X7_isCell p0 S = some (r0, S0)) : gCT yX7_isCell cX7_isCell 1 (some .boolean) 1 (fun w => [.int p0]) S (some (.int r0)) S0 := by
  refine gEnter (fun X => [some (.int p0)]) (by decide) (fun X => ⟨rfl, rfl⟩) (fun w => Nat.le_of_ble_eq_true rfl) (fun X hp => ?_)
  show AW X RX7 1 cX7_isCell 0 [some (.int p0)] [] S
  unfold f_X7_isCell at h
  refine a_iloadn (pc := 0) dX7_isCell_0 rfl rfl ?_
  refine a_i2l (pc := 1) dX7_isCell_1 ?_
  refine a_lconst (pc := 2) (v := (0 : Int64)) dX7_isCell_2 (by decide) ?_
  refine a_ldc2 (pc := 3) kX7_55 dX7_isCell_3 ?_
  obtain ⟨r3, S1, hc2, h⟩ := g_bind2 h
  refine a_invSi (pc := 6) (ok_X7_in hc2) gyX7_in syX7_in mlX7_51 (As := [.long (p0.toInt64), .long (0 : Int64), .long (63 : Int64)]) rfl rfl (by decide) (st := []) rfl (Nat.le_of_ble_eq_true rfl) dX7_isCell_6 ?_
  obtain ⟨hb4, h⟩ := g_if h
  obtain ⟨rfl, rfl⟩ := Prod.mk.inj (Option.some.inj h)
  exact a_zret hp hb4  dX7_isCell_9
theorem dX7_walker_0 : decode cX7_walker 0 = .ok (.iload_n 1, 1) := by decide +kernel
theorem dX7_walker_1 : decode cX7_walker 1 = .ok (.i2l, 1) := by decide +kernel
theorem dX7_walker_2 : decode cX7_walker 2 = .ok (.lconst 0, 1) := by decide +kernel
theorem dX7_walker_3 : decode cX7_walker 3 = .ok (.ldc2_w 61, 3) := by decide +kernel
theorem dX7_walker_6 : decode cX7_walker 6 = .ok (.invokestatic 51, 3) := by decide +kernel
theorem dX7_walker_9 : decode cX7_walker 9 = .ok (.ifCond .eq 22, 3) := by decide +kernel
theorem dX7_walker_12 : decode cX7_walker 12 = .ok (.iload_n 2, 1) := by decide +kernel
theorem dX7_walker_13 : decode cX7_walker 13 = .ok (.i2l, 1) := by decide +kernel
theorem dX7_walker_14 : decode cX7_walker 14 = .ok (.lconst 1, 1) := by decide +kernel
theorem dX7_walker_15 : decode cX7_walker 15 = .ok (.ldc2_w 63, 3) := by decide +kernel
theorem dX7_walker_18 : decode cX7_walker 18 = .ok (.invokestatic 51, 3) := by decide +kernel
theorem dX7_walker_21 : decode cX7_walker 21 = .ok (.ifCond .eq 10, 3) := by decide +kernel
theorem dX7_walker_24 : decode cX7_walker 24 = .ok (.iload_n 3, 1) := by decide +kernel
theorem dX7_walker_25 : decode cX7_walker 25 = .ok (.invokestatic 65, 3) := by decide +kernel
theorem dX7_walker_28 : decode cX7_walker 28 = .ok (.ifCond .ne 5, 3) := by decide +kernel
theorem dX7_walker_31 : decode cX7_walker 31 = .ok (.iconst (-1), 1) := by decide +kernel
theorem dX7_walker_32 : decode cX7_walker 32 = .ok (.ireturn, 1) := by decide +kernel
theorem dX7_walker_33 : decode cX7_walker 33 = .ok (.aload_n 0, 1) := by decide +kernel
theorem dX7_walker_34 : decode cX7_walker 34 = .ok (.getfield 7, 3) := by decide +kernel
theorem dX7_walker_37 : decode cX7_walker 37 = .ok (.iconst 5, 1) := by decide +kernel
theorem dX7_walker_38 : decode cX7_walker 38 = .ok (.iaload, 1) := by decide +kernel
theorem dX7_walker_39 : decode cX7_walker 39 = .ok (.bipush 6, 2) := by decide +kernel
theorem dX7_walker_41 : decode cX7_walker 41 = .ok (.if_icmp .ne 6, 3) := by decide +kernel
theorem dX7_walker_44 : decode cX7_walker 44 = .ok (.bipush (-3), 2) := by decide +kernel
theorem dX7_walker_46 : decode cX7_walker 46 = .ok (.ireturn, 1) := by decide +kernel
theorem dX7_walker_47 : decode cX7_walker 47 = .ok (.bipush 8, 2) := by decide +kernel
theorem dX7_walker_49 : decode cX7_walker 49 = .ok (.iconst 4, 1) := by decide +kernel
theorem dX7_walker_50 : decode cX7_walker 50 = .ok (.aload_n 0, 1) := by decide +kernel
theorem dX7_walker_51 : decode cX7_walker 51 = .ok (.getfield 7, 3) := by decide +kernel
theorem dX7_walker_54 : decode cX7_walker 54 = .ok (.iconst 5, 1) := by decide +kernel
theorem dX7_walker_55 : decode cX7_walker 55 = .ok (.iaload, 1) := by decide +kernel
theorem dX7_walker_56 : decode cX7_walker 56 = .ok (.imul, 1) := by decide +kernel
theorem dX7_walker_57 : decode cX7_walker 57 = .ok (.iadd, 1) := by decide +kernel
theorem dX7_walker_58 : decode cX7_walker 58 = .ok (.istore 4, 2) := by decide +kernel
theorem dX7_walker_60 : decode cX7_walker 60 = .ok (.aload_n 0, 1) := by decide +kernel
theorem dX7_walker_61 : decode cX7_walker 61 = .ok (.getfield 7, 3) := by decide +kernel
theorem dX7_walker_64 : decode cX7_walker 64 = .ok (.iload 4, 2) := by decide +kernel
theorem dX7_walker_66 : decode cX7_walker 66 = .ok (.iload_n 1, 1) := by decide +kernel
theorem dX7_walker_67 : decode cX7_walker 67 = .ok (.iastore, 1) := by decide +kernel
theorem dX7_walker_68 : decode cX7_walker 68 = .ok (.aload_n 0, 1) := by decide +kernel
theorem dX7_walker_69 : decode cX7_walker 69 = .ok (.getfield 7, 3) := by decide +kernel
theorem dX7_walker_72 : decode cX7_walker 72 = .ok (.iload 4, 2) := by decide +kernel
theorem dX7_walker_74 : decode cX7_walker 74 = .ok (.iconst 1, 1) := by decide +kernel
theorem dX7_walker_75 : decode cX7_walker 75 = .ok (.iadd, 1) := by decide +kernel
theorem dX7_walker_76 : decode cX7_walker 76 = .ok (.iload_n 2, 1) := by decide +kernel
theorem dX7_walker_77 : decode cX7_walker 77 = .ok (.iastore, 1) := by decide +kernel
theorem dX7_walker_78 : decode cX7_walker 78 = .ok (.aload_n 0, 1) := by decide +kernel
theorem dX7_walker_79 : decode cX7_walker 79 = .ok (.getfield 7, 3) := by decide +kernel
theorem dX7_walker_82 : decode cX7_walker 82 = .ok (.iload 4, 2) := by decide +kernel
theorem dX7_walker_84 : decode cX7_walker 84 = .ok (.iconst 2, 1) := by decide +kernel
theorem dX7_walker_85 : decode cX7_walker 85 = .ok (.iadd, 1) := by decide +kernel
theorem dX7_walker_86 : decode cX7_walker 86 = .ok (.iload_n 3, 1) := by decide +kernel
theorem dX7_walker_87 : decode cX7_walker 87 = .ok (.iastore, 1) := by decide +kernel
theorem dX7_walker_88 : decode cX7_walker 88 = .ok (.aload_n 0, 1) := by decide +kernel
theorem dX7_walker_89 : decode cX7_walker 89 = .ok (.getfield 7, 3) := by decide +kernel
theorem dX7_walker_92 : decode cX7_walker 92 = .ok (.iload 4, 2) := by decide +kernel
theorem dX7_walker_94 : decode cX7_walker 94 = .ok (.iconst 3, 1) := by decide +kernel
theorem dX7_walker_95 : decode cX7_walker 95 = .ok (.iadd, 1) := by decide +kernel
theorem dX7_walker_96 : decode cX7_walker 96 = .ok (.iconst 0, 1) := by decide +kernel
theorem dX7_walker_97 : decode cX7_walker 97 = .ok (.iastore, 1) := by decide +kernel
theorem dX7_walker_98 : decode cX7_walker 98 = .ok (.aload_n 0, 1) := by decide +kernel
theorem dX7_walker_99 : decode cX7_walker 99 = .ok (.getfield 7, 3) := by decide +kernel
theorem dX7_walker_102 : decode cX7_walker 102 = .ok (.iconst 5, 1) := by decide +kernel
theorem dX7_walker_103 : decode cX7_walker 103 = .ok (.dup2, 1) := by decide +kernel
theorem dX7_walker_104 : decode cX7_walker 104 = .ok (.iaload, 1) := by decide +kernel
theorem dX7_walker_105 : decode cX7_walker 105 = .ok (.iconst 1, 1) := by decide +kernel
theorem dX7_walker_106 : decode cX7_walker 106 = .ok (.iadd, 1) := by decide +kernel
theorem dX7_walker_107 : decode cX7_walker 107 = .ok (.iastore, 1) := by decide +kernel
theorem dX7_walker_108 : decode cX7_walker 108 = .ok (.aload_n 0, 1) := by decide +kernel
theorem dX7_walker_109 : decode cX7_walker 109 = .ok (.iconst 0, 1) := by decide +kernel
theorem dX7_walker_110 : decode cX7_walker 110 = .ok (.putfield 69, 3) := by decide +kernel
theorem dX7_walker_113 : decode cX7_walker 113 = .ok (.aload_n 0, 1) := by decide +kernel
theorem dX7_walker_114 : decode cX7_walker 114 = .ok (.getfield 7, 3) := by decide +kernel
theorem dX7_walker_117 : decode cX7_walker 117 = .ok (.iconst 5, 1) := by decide +kernel
theorem dX7_walker_118 : decode cX7_walker 118 = .ok (.iaload, 1) := by decide +kernel
theorem dX7_walker_119 : decode cX7_walker 119 = .ok (.iconst 1, 1) := by decide +kernel
theorem dX7_walker_120 : decode cX7_walker 120 = .ok (.isub, 1) := by decide +kernel
theorem dX7_walker_121 : decode cX7_walker 121 = .ok (.ireturn, 1) := by decide +kernel
def f_X7_walker (p1 : Int32) (p2 : Int32) (p3 : Int32) (S : gSt) : Option (Int32 × gSt) :=
gBind2 (f_X7_in (p1.toInt64) (0 : Int64) (4 : Int64) S) fun r3 S1 =>
(if r3 = 0 then
some ((-1 : Int32), S1)
else
gBind2 (f_X7_in (p2.toInt64) (1 : Int64) (9 : Int64) S1) fun r7 S5 =>
(if r7 = 0 then
some ((-1 : Int32), S5)
else
gBind2 (f_X7_isCell p3 S5) fun r11 S9 =>
(if r11 = 0 then
some ((-1 : Int32), S9)
else
if gin (5 : Int32) 416 then
((if (S9.1 48 (5 : Int32).toNatClampNeg) = (6 : Int32) then
some ((-3 : Int32), S9)
else
if gin (5 : Int32) 416 then
(gLet ((8 : Int32) + ((4 : Int32) * (S9.1 48 (5 : Int32).toNatClampNeg))) fun v16 =>
if gin v16 416 then
gLet (gI S9 48 v16.toNatClampNeg p1) fun S18 =>
(if gin (v16 + (1 : Int32)) 416 then
gLet (gI S18 48 (v16 + (1 : Int32)).toNatClampNeg p2) fun S20 =>
(if gin (v16 + (2 : Int32)) 416 then
gLet (gI S20 48 (v16 + (2 : Int32)).toNatClampNeg p3) fun S22 =>
(if gin (v16 + (3 : Int32)) 416 then
gLet (gI S22 48 (v16 + (3 : Int32)).toNatClampNeg (0 : Int32)) fun S24 =>
(if gin (5 : Int32) 416 then
(if gin (5 : Int32) 416 then
gLet (gI S24 48 (5 : Int32).toNatClampNeg ((S24.1 48 (5 : Int32).toNatClampNeg) + (1 : Int32))) fun S27 =>
(gLet (gI S27 47 8 (0 : Int32)) fun S28 =>
if gin (5 : Int32) 416 then
(some ((S28.1 48 (5 : Int32).toNatClampNeg) - (1 : Int32), S28)) else none) else none) else none) else none) else none) else none) else none) else none)) else none)))
set_option maxHeartbeats 4000000 in
set_option maxRecDepth 20000 in
theorem ok_X7_walker {p1 : Int32} {p2 : Int32} {p3 : Int32} {S S0 : gSt} {r0 : Int32}  (h : f_X7_walker p1 p2 p3 S = some (r0, S0)) : gCT yX7_walker cX7_walker 5 (some .int) 2 (fun w => [.ref (w.2.1 47), .int p1, .int p2, .int p3]) S (some (.int r0)) S0 := by
  refine gEnter (fun X => [some (.ref (gad X 47)), some (.int p1), some (.int p2), some (.int p3), none]) (by decide) (fun X => ⟨rfl, rfl⟩) (fun w => Nat.le_of_ble_eq_true rfl) (fun X hp => ?_)
  show AW X RX7 2 cX7_walker 0 [some (.ref (gad X 47)), some (.int p1), some (.int p2), some (.int p3), none] [] S
  unfold f_X7_walker at h
  refine a_iloadn (pc := 0) dX7_walker_0 rfl rfl ?_
  refine a_i2l (pc := 1) dX7_walker_1 ?_
  refine a_lconst (pc := 2) (v := (0 : Int64)) dX7_walker_2 (by decide) ?_
  refine a_ldc2 (pc := 3) kX7_61 dX7_walker_3 ?_
  obtain ⟨r3, S1, hc2, h⟩ := g_bind2 h
  refine a_invSi (pc := 6) (ok_X7_in hc2) gyX7_in syX7_in mlX7_51 (As := [.long (p1.toInt64), .long (0 : Int64), .long (4 : Int64)]) rfl rfl (by decide) (st := []) rfl (Nat.le_of_ble_eq_true rfl) dX7_walker_6 ?_
  refine a_if_eq (pc := 9) (tgt := 31) dX7_walker_9 (by decide) (fun c4 => ?_) (fun c4 => ?_)
  · rw [if_pos c4] at h
    refine a_iconst (pc := 31) (v := (-1 : Int32)) dX7_walker_31 (by decide) ?_
    obtain ⟨rfl, rfl⟩ := Prod.mk.inj (Option.some.inj h)
    exact a_iret hp dX7_walker_32
  · rw [if_neg c4] at h
    refine a_iloadn (pc := 12) dX7_walker_12 rfl rfl ?_
    refine a_i2l (pc := 13) dX7_walker_13 ?_
    refine a_lconst (pc := 14) (v := (1 : Int64)) dX7_walker_14 (by decide) ?_
    refine a_ldc2 (pc := 15) kX7_63 dX7_walker_15 ?_
    obtain ⟨r7, S5, hc6, h⟩ := g_bind2 h
    refine a_invSi (pc := 18) (ok_X7_in hc6) gyX7_in syX7_in mlX7_51 (As := [.long (p2.toInt64), .long (1 : Int64), .long (9 : Int64)]) rfl rfl (by decide) (st := []) rfl (Nat.le_of_ble_eq_true rfl) dX7_walker_18 ?_
    refine a_if_eq (pc := 21) (tgt := 31) dX7_walker_21 (by decide) (fun c8 => ?_) (fun c8 => ?_)
    · rw [if_pos c8] at h
      refine a_iconst (pc := 31) (v := (-1 : Int32)) dX7_walker_31 (by decide) ?_
      obtain ⟨rfl, rfl⟩ := Prod.mk.inj (Option.some.inj h)
      exact a_iret hp dX7_walker_32
    · rw [if_neg c8] at h
      refine a_iloadn (pc := 24) dX7_walker_24 rfl rfl ?_
      obtain ⟨r11, S9, hc10, h⟩ := g_bind2 h
      refine a_invSi (pc := 25) (ok_X7_isCell hc10) gyX7_isCell syX7_isCell mlX7_65 (As := [.int p3]) rfl rfl (by decide) (st := []) rfl (Nat.le_of_ble_eq_true rfl) dX7_walker_25 ?_
      refine a_if_ne (pc := 28) (tgt := 33) dX7_walker_28 (by decide) (fun c12 => ?_) (fun c12 => ?_)
      · rw [if_neg c12] at h
        refine a_aloadn (pc := 33) dX7_walker_33 rfl rfl ?_
        refine a_getA (pc := 34) flX7_7 sh_47 rfl dX7_walker_34 ?_
        refine a_iconst (pc := 37) (v := (5 : Int32)) dX7_walker_37 (by decide) ?_
        obtain ⟨hi13, h⟩ := g_if h
        refine a_iald (pc := 38) sh_48 hi13 dX7_walker_38 ?_
        refine a_bipush (pc := 39) (v := (6 : Int32)) dX7_walker_39 (by decide) ?_
        refine a_icmp_ne (pc := 41) (tgt := 47) dX7_walker_41 (by decide) (fun c14 => ?_) (fun c14 => ?_)
        · rw [if_neg c14] at h
          refine a_bipush (pc := 47) (v := (8 : Int32)) dX7_walker_47 (by decide) ?_
          refine a_iconst (pc := 49) (v := (4 : Int32)) dX7_walker_49 (by decide) ?_
          refine a_aloadn (pc := 50) dX7_walker_50 rfl rfl ?_
          refine a_getA (pc := 51) flX7_7 sh_47 rfl dX7_walker_51 ?_
          refine a_iconst (pc := 54) (v := (5 : Int32)) dX7_walker_54 (by decide) ?_
          obtain ⟨hi15, h⟩ := g_if h
          refine a_iald (pc := 55) sh_48 hi15 dX7_walker_55 ?_
          refine a_imul (pc := 56) dX7_walker_56 ?_
          refine a_iadd (pc := 57) dX7_walker_57 ?_
          obtain ⟨v16, ev16, h⟩ := g_let h
          refine a_nmI ev16 ?_
          refine a_istore (pc := 58) dX7_walker_58 (Nat.le_of_ble_eq_true rfl) rfl (L' := [some (.ref (gad X 47)), some (.int p1), some (.int p2), some (.int p3), some (.int v16)]) rfl ?_
          refine a_aloadn (pc := 60) dX7_walker_60 rfl rfl ?_
          refine a_getA (pc := 61) flX7_7 sh_47 rfl dX7_walker_61 ?_
          refine a_iload (pc := 64) dX7_walker_64 rfl ?_
          refine a_iloadn (pc := 66) dX7_walker_66 rfl rfl ?_
          obtain ⟨hi17, h⟩ := g_if h
          refine a_iast (pc := 67) sh_48 hi17 dX7_walker_67 ?_
          obtain ⟨S18, eS18, h⟩ := g_let h
          refine a_nmS eS18 ?_
          refine a_aloadn (pc := 68) dX7_walker_68 rfl rfl ?_
          refine a_getA (pc := 69) flX7_7 sh_47 rfl dX7_walker_69 ?_
          refine a_iload (pc := 72) dX7_walker_72 rfl ?_
          refine a_iconst (pc := 74) (v := (1 : Int32)) dX7_walker_74 (by decide) ?_
          refine a_iadd (pc := 75) dX7_walker_75 ?_
          refine a_iloadn (pc := 76) dX7_walker_76 rfl rfl ?_
          obtain ⟨hi19, h⟩ := g_if h
          refine a_iast (pc := 77) sh_48 hi19 dX7_walker_77 ?_
          obtain ⟨S20, eS20, h⟩ := g_let h
          refine a_nmS eS20 ?_
          refine a_aloadn (pc := 78) dX7_walker_78 rfl rfl ?_
          refine a_getA (pc := 79) flX7_7 sh_47 rfl dX7_walker_79 ?_
          refine a_iload (pc := 82) dX7_walker_82 rfl ?_
          refine a_iconst (pc := 84) (v := (2 : Int32)) dX7_walker_84 (by decide) ?_
          refine a_iadd (pc := 85) dX7_walker_85 ?_
          refine a_iloadn (pc := 86) dX7_walker_86 rfl rfl ?_
          obtain ⟨hi21, h⟩ := g_if h
          refine a_iast (pc := 87) sh_48 hi21 dX7_walker_87 ?_
          obtain ⟨S22, eS22, h⟩ := g_let h
          refine a_nmS eS22 ?_
          refine a_aloadn (pc := 88) dX7_walker_88 rfl rfl ?_
          refine a_getA (pc := 89) flX7_7 sh_47 rfl dX7_walker_89 ?_
          refine a_iload (pc := 92) dX7_walker_92 rfl ?_
          refine a_iconst (pc := 94) (v := (3 : Int32)) dX7_walker_94 (by decide) ?_
          refine a_iadd (pc := 95) dX7_walker_95 ?_
          refine a_iconst (pc := 96) (v := (0 : Int32)) dX7_walker_96 (by decide) ?_
          obtain ⟨hi23, h⟩ := g_if h
          refine a_iast (pc := 97) sh_48 hi23 dX7_walker_97 ?_
          obtain ⟨S24, eS24, h⟩ := g_let h
          refine a_nmS eS24 ?_
          refine a_aloadn (pc := 98) dX7_walker_98 rfl rfl ?_
          refine a_getA (pc := 99) flX7_7 sh_47 rfl dX7_walker_99 ?_
          refine a_iconst (pc := 102) (v := (5 : Int32)) dX7_walker_102 (by decide) ?_
          refine a_dup2 (pc := 103) dX7_walker_103 rfl rfl ?_
          obtain ⟨hi25, h⟩ := g_if h
          refine a_iald (pc := 104) sh_48 hi25 dX7_walker_104 ?_
          refine a_iconst (pc := 105) (v := (1 : Int32)) dX7_walker_105 (by decide) ?_
          refine a_iadd (pc := 106) dX7_walker_106 ?_
          obtain ⟨hi26, h⟩ := g_if h
          refine a_iast (pc := 107) sh_48 hi26 dX7_walker_107 ?_
          obtain ⟨S27, eS27, h⟩ := g_let h
          refine a_nmS eS27 ?_
          refine a_aloadn (pc := 108) dX7_walker_108 rfl rfl ?_
          refine a_iconst (pc := 109) (v := (0 : Int32)) dX7_walker_109 (by decide) ?_
          refine a_putI (pc := 110) flX7_69 sh_47 rfl rfl rfl dX7_walker_110 ?_
          obtain ⟨S28, eS28, h⟩ := g_let h
          refine a_nmS eS28 ?_
          refine a_aloadn (pc := 113) dX7_walker_113 rfl rfl ?_
          refine a_getA (pc := 114) flX7_7 sh_47 rfl dX7_walker_114 ?_
          refine a_iconst (pc := 117) (v := (5 : Int32)) dX7_walker_117 (by decide) ?_
          obtain ⟨hi29, h⟩ := g_if h
          refine a_iald (pc := 118) sh_48 hi29 dX7_walker_118 ?_
          refine a_iconst (pc := 119) (v := (1 : Int32)) dX7_walker_119 (by decide) ?_
          refine a_isub (pc := 120) dX7_walker_120 ?_
          obtain ⟨rfl, rfl⟩ := Prod.mk.inj (Option.some.inj h)
          exact a_iret hp dX7_walker_121
        · rw [if_pos c14] at h
          refine a_bipush (pc := 44) (v := (-3 : Int32)) dX7_walker_44 (by decide) ?_
          obtain ⟨rfl, rfl⟩ := Prod.mk.inj (Option.some.inj h)
          exact a_iret hp dX7_walker_46
      · rw [if_pos c12] at h
        refine a_iconst (pc := 31) (v := (-1 : Int32)) dX7_walker_31 (by decide) ?_
        obtain ⟨rfl, rfl⟩ := Prod.mk.inj (Option.some.inj h)
        exact a_iret hp dX7_walker_32
theorem dX7_isWalker_0 : decode cX7_isWalker 0 = .ok (.iload_n 1, 1) := by decide +kernel
theorem dX7_isWalker_1 : decode cX7_isWalker 1 = .ok (.i2l, 1) := by decide +kernel
theorem dX7_isWalker_2 : decode cX7_isWalker 2 = .ok (.lconst 0, 1) := by decide +kernel
theorem dX7_isWalker_3 : decode cX7_isWalker 3 = .ok (.aload_n 0, 1) := by decide +kernel
theorem dX7_isWalker_4 : decode cX7_isWalker 4 = .ok (.getfield 7, 3) := by decide +kernel
theorem dX7_isWalker_7 : decode cX7_isWalker 7 = .ok (.iconst 5, 1) := by decide +kernel
theorem dX7_isWalker_8 : decode cX7_isWalker 8 = .ok (.iaload, 1) := by decide +kernel
theorem dX7_isWalker_9 : decode cX7_isWalker 9 = .ok (.iconst 1, 1) := by decide +kernel
theorem dX7_isWalker_10 : decode cX7_isWalker 10 = .ok (.isub, 1) := by decide +kernel
theorem dX7_isWalker_11 : decode cX7_isWalker 11 = .ok (.i2l, 1) := by decide +kernel
theorem dX7_isWalker_12 : decode cX7_isWalker 12 = .ok (.invokestatic 51, 3) := by decide +kernel
theorem dX7_isWalker_15 : decode cX7_isWalker 15 = .ok (.ireturn, 1) := by decide +kernel
def f_X7_isWalker (p1 : Int32) (S : gSt) : Option (Int32 × gSt) :=
if gin (5 : Int32) 416 then
(gBind2 (f_X7_in (p1.toInt64) (0 : Int64) (((S.1 48 (5 : Int32).toNatClampNeg) - (1 : Int32)).toInt64) S) fun r4 S2 =>
if gbool r4 then
some (r4, S2) else none) else none
set_option maxHeartbeats 4000000 in
set_option maxRecDepth 20000 in
theorem ok_X7_isWalker {p1 : Int32} {S S0 : gSt} {r0 : Int32}  (h : f_X7_isWalker p1 S = some (r0, S0)) : gCT yX7_isWalker cX7_isWalker 2 (some .boolean) 1 (fun w => [.ref (w.2.1 47), .int p1]) S (some (.int r0)) S0 := by
  refine gEnter (fun X => [some (.ref (gad X 47)), some (.int p1)]) (by decide) (fun X => ⟨rfl, rfl⟩) (fun w => Nat.le_of_ble_eq_true rfl) (fun X hp => ?_)
  show AW X RX7 1 cX7_isWalker 0 [some (.ref (gad X 47)), some (.int p1)] [] S
  unfold f_X7_isWalker at h
  refine a_iloadn (pc := 0) dX7_isWalker_0 rfl rfl ?_
  refine a_i2l (pc := 1) dX7_isWalker_1 ?_
  refine a_lconst (pc := 2) (v := (0 : Int64)) dX7_isWalker_2 (by decide) ?_
  refine a_aloadn (pc := 3) dX7_isWalker_3 rfl rfl ?_
  refine a_getA (pc := 4) flX7_7 sh_47 rfl dX7_isWalker_4 ?_
  refine a_iconst (pc := 7) (v := (5 : Int32)) dX7_isWalker_7 (by decide) ?_
  obtain ⟨hi1, h⟩ := g_if h
  refine a_iald (pc := 8) sh_48 hi1 dX7_isWalker_8 ?_
  refine a_iconst (pc := 9) (v := (1 : Int32)) dX7_isWalker_9 (by decide) ?_
  refine a_isub (pc := 10) dX7_isWalker_10 ?_
  refine a_i2l (pc := 11) dX7_isWalker_11 ?_
  obtain ⟨r4, S2, hc3, h⟩ := g_bind2 h
  refine a_invSi (pc := 12) (ok_X7_in hc3) gyX7_in syX7_in mlX7_51 (As := [.long (p1.toInt64), .long (0 : Int64), .long (((S.1 48 (5 : Int32).toNatClampNeg) - (1 : Int32)).toInt64)]) rfl rfl (by decide) (st := []) rfl (Nat.le_of_ble_eq_true rfl) dX7_isWalker_12 ?_
  obtain ⟨hb5, h⟩ := g_if h
  obtain ⟨rfl, rfl⟩ := Prod.mk.inj (Option.some.inj h)
  exact a_zret hp hb5  dX7_isWalker_15
theorem dX7_claimOf_0 : decode cX7_claimOf 0 = .ok (.iconst 0, 1) := by decide +kernel
theorem dX7_claimOf_1 : decode cX7_claimOf 1 = .ok (.istore_n 3, 1) := by decide +kernel
theorem dX7_claimOf_2 : decode cX7_claimOf 2 = .ok (.aload_n 0, 1) := by decide +kernel
theorem dX7_claimOf_3 : decode cX7_claimOf 3 = .ok (.getfield 7, 3) := by decide +kernel
theorem dX7_claimOf_6 : decode cX7_claimOf 6 = .ok (.iconst 2, 1) := by decide +kernel
theorem dX7_claimOf_7 : decode cX7_claimOf 7 = .ok (.iaload, 1) := by decide +kernel
theorem dX7_claimOf_8 : decode cX7_claimOf 8 = .ok (.istore 4, 2) := by decide +kernel
theorem dX7_claimOf_10 : decode cX7_claimOf 10 = .ok (.iload_n 2, 1) := by decide +kernel
theorem dX7_claimOf_11 : decode cX7_claimOf 11 = .ok (.bipush 8, 2) := by decide +kernel
theorem dX7_claimOf_13 : decode cX7_claimOf 13 = .ok (.idiv, 1) := by decide +kernel
theorem dX7_claimOf_14 : decode cX7_claimOf 14 = .ok (.iload 4, 2) := by decide +kernel
theorem dX7_claimOf_16 : decode cX7_claimOf 16 = .ok (.isub, 1) := by decide +kernel
theorem dX7_claimOf_17 : decode cX7_claimOf 17 = .ok (.istore 5, 2) := by decide +kernel
theorem dX7_claimOf_19 : decode cX7_claimOf 19 = .ok (.iload 5, 2) := by decide +kernel
theorem dX7_claimOf_21 : decode cX7_claimOf 21 = .ok (.iload_n 2, 1) := by decide +kernel
theorem dX7_claimOf_22 : decode cX7_claimOf 22 = .ok (.bipush 8, 2) := by decide +kernel
theorem dX7_claimOf_24 : decode cX7_claimOf 24 = .ok (.idiv, 1) := by decide +kernel
theorem dX7_claimOf_25 : decode cX7_claimOf 25 = .ok (.iload 4, 2) := by decide +kernel
theorem dX7_claimOf_27 : decode cX7_claimOf 27 = .ok (.iadd, 1) := by decide +kernel
theorem dX7_claimOf_28 : decode cX7_claimOf 28 = .ok (.if_icmp .gt 102, 3) := by decide +kernel
theorem dX7_claimOf_31 : decode cX7_claimOf 31 = .ok (.iload_n 2, 1) := by decide +kernel
theorem dX7_claimOf_32 : decode cX7_claimOf 32 = .ok (.bipush 8, 2) := by decide +kernel
theorem dX7_claimOf_34 : decode cX7_claimOf 34 = .ok (.irem, 1) := by decide +kernel
theorem dX7_claimOf_35 : decode cX7_claimOf 35 = .ok (.iload 4, 2) := by decide +kernel
theorem dX7_claimOf_37 : decode cX7_claimOf 37 = .ok (.isub, 1) := by decide +kernel
theorem dX7_claimOf_38 : decode cX7_claimOf 38 = .ok (.istore 6, 2) := by decide +kernel
theorem dX7_claimOf_40 : decode cX7_claimOf 40 = .ok (.iload 6, 2) := by decide +kernel
theorem dX7_claimOf_42 : decode cX7_claimOf 42 = .ok (.iload_n 2, 1) := by decide +kernel
theorem dX7_claimOf_43 : decode cX7_claimOf 43 = .ok (.bipush 8, 2) := by decide +kernel
theorem dX7_claimOf_45 : decode cX7_claimOf 45 = .ok (.irem, 1) := by decide +kernel
theorem dX7_claimOf_46 : decode cX7_claimOf 46 = .ok (.iload 4, 2) := by decide +kernel
theorem dX7_claimOf_48 : decode cX7_claimOf 48 = .ok (.iadd, 1) := by decide +kernel
theorem dX7_claimOf_49 : decode cX7_claimOf 49 = .ok (.if_icmp .gt 75, 3) := by decide +kernel
theorem dX7_claimOf_52 : decode cX7_claimOf 52 = .ok (.iload 6, 2) := by decide +kernel
theorem dX7_claimOf_54 : decode cX7_claimOf 54 = .ok (.i2l, 1) := by decide +kernel
theorem dX7_claimOf_55 : decode cX7_claimOf 55 = .ok (.lconst 0, 1) := by decide +kernel
theorem dX7_claimOf_56 : decode cX7_claimOf 56 = .ok (.ldc2_w 73, 3) := by decide +kernel
theorem dX7_claimOf_59 : decode cX7_claimOf 59 = .ok (.invokestatic 51, 3) := by decide +kernel
theorem dX7_claimOf_62 : decode cX7_claimOf 62 = .ok (.ifCond .eq 40, 3) := by decide +kernel
theorem dX7_claimOf_65 : decode cX7_claimOf 65 = .ok (.iload 5, 2) := by decide +kernel
theorem dX7_claimOf_67 : decode cX7_claimOf 67 = .ok (.i2l, 1) := by decide +kernel
theorem dX7_claimOf_68 : decode cX7_claimOf 68 = .ok (.lconst 0, 1) := by decide +kernel
theorem dX7_claimOf_69 : decode cX7_claimOf 69 = .ok (.ldc2_w 73, 3) := by decide +kernel
theorem dX7_claimOf_72 : decode cX7_claimOf 72 = .ok (.invokestatic 51, 3) := by decide +kernel
theorem dX7_claimOf_75 : decode cX7_claimOf 75 = .ok (.ifCond .eq 27, 3) := by decide +kernel
theorem dX7_claimOf_78 : decode cX7_claimOf 78 = .ok (.aload_n 0, 1) := by decide +kernel
theorem dX7_claimOf_79 : decode cX7_claimOf 79 = .ok (.getfield 7, 3) := by decide +kernel
theorem dX7_claimOf_82 : decode cX7_claimOf 82 = .ok (.bipush 32, 2) := by decide +kernel
theorem dX7_claimOf_84 : decode cX7_claimOf 84 = .ok (.bipush 64, 2) := by decide +kernel
theorem dX7_claimOf_86 : decode cX7_claimOf 86 = .ok (.iload_n 1, 1) := by decide +kernel
theorem dX7_claimOf_87 : decode cX7_claimOf 87 = .ok (.imul, 1) := by decide +kernel
theorem dX7_claimOf_88 : decode cX7_claimOf 88 = .ok (.iadd, 1) := by decide +kernel
theorem dX7_claimOf_89 : decode cX7_claimOf 89 = .ok (.bipush 8, 2) := by decide +kernel
theorem dX7_claimOf_91 : decode cX7_claimOf 91 = .ok (.iload 5, 2) := by decide +kernel
theorem dX7_claimOf_93 : decode cX7_claimOf 93 = .ok (.imul, 1) := by decide +kernel
theorem dX7_claimOf_94 : decode cX7_claimOf 94 = .ok (.iadd, 1) := by decide +kernel
theorem dX7_claimOf_95 : decode cX7_claimOf 95 = .ok (.iload 6, 2) := by decide +kernel
theorem dX7_claimOf_97 : decode cX7_claimOf 97 = .ok (.iadd, 1) := by decide +kernel
theorem dX7_claimOf_98 : decode cX7_claimOf 98 = .ok (.iaload, 1) := by decide +kernel
theorem dX7_claimOf_99 : decode cX7_claimOf 99 = .ok (.goto 4, 3) := by decide +kernel
theorem dX7_claimOf_102 : decode cX7_claimOf 102 = .ok (.iconst 0, 1) := by decide +kernel
theorem dX7_claimOf_103 : decode cX7_claimOf 103 = .ok (.istore 7, 2) := by decide +kernel
theorem dX7_claimOf_105 : decode cX7_claimOf 105 = .ok (.iload 7, 2) := by decide +kernel
theorem dX7_claimOf_107 : decode cX7_claimOf 107 = .ok (.iload_n 3, 1) := by decide +kernel
theorem dX7_claimOf_108 : decode cX7_claimOf 108 = .ok (.if_icmp .le 8, 3) := by decide +kernel
theorem dX7_claimOf_111 : decode cX7_claimOf 111 = .ok (.iload 7, 2) := by decide +kernel
theorem dX7_claimOf_113 : decode cX7_claimOf 113 = .ok (.goto 4, 3) := by decide +kernel
theorem dX7_claimOf_116 : decode cX7_claimOf 116 = .ok (.iload_n 3, 1) := by decide +kernel
theorem dX7_claimOf_117 : decode cX7_claimOf 117 = .ok (.istore_n 3, 1) := by decide +kernel
theorem dX7_claimOf_118 : decode cX7_claimOf 118 = .ok (.iinc 6 1, 3) := by decide +kernel
theorem dX7_claimOf_121 : decode cX7_claimOf 121 = .ok (.goto (-81), 3) := by decide +kernel
theorem dX7_claimOf_124 : decode cX7_claimOf 124 = .ok (.iinc 5 1, 3) := by decide +kernel
theorem dX7_claimOf_127 : decode cX7_claimOf 127 = .ok (.goto (-108), 3) := by decide +kernel
theorem dX7_claimOf_130 : decode cX7_claimOf 130 = .ok (.iload_n 3, 1) := by decide +kernel
theorem dX7_claimOf_131 : decode cX7_claimOf 131 = .ok (.ireturn, 1) := by decide +kernel
def f_X7_claimOf_j103 (x1 : Int32) (x2 : Int32) (x3 : Int32) (x4 : Int32) (x5 : Int32) (x6 : Int32) (t0 : Int32) (S : gSt) : Option ((Int32 × Int32 × Int32 × Int32 × Int32 × Int32 × gSt) ⊕ (Int32 × Int32 × Int32 × Int32 × Int32 × gSt)) :=
(if t0 ≤ x3 then
some (.inl (x1, x2, x3, x4, x5, x6 + (1 : Int32), S))
else
some (.inl (x1, x2, t0, x4, x5, x6 + (1 : Int32), S)))
def f_X7_claimOf_j102 (x1 : Int32) (x2 : Int32) (x3 : Int32) (x4 : Int32) (x5 : Int32) (x6 : Int32) (S : gSt) : Option ((Int32 × Int32 × Int32 × Int32 × Int32 × Int32 × gSt) ⊕ (Int32 × Int32 × Int32 × Int32 × Int32 × gSt)) :=
f_X7_claimOf_j103 x1 x2 x3 x4 x5 x6 (0 : Int32) S
def f_X7_claimOf_s40_b (x1 : Int32) (x2 : Int32) (x3 : Int32) (x4 : Int32) (x5 : Int32) (x6 : Int32) (S : gSt) : Option ((Int32 × Int32 × Int32 × Int32 × Int32 × Int32 × gSt) ⊕ (Int32 × Int32 × Int32 × Int32 × Int32 × gSt)) :=
(if ((x2 - x2 / (8 : Int32) * (8 : Int32)) + x4) < x6 then
some (.inr (x1, x2, x3, x4, x5, S))
else
gBind2 (f_X7_in (x6.toInt64) (0 : Int64) (7 : Int64) S) fun r10 S8 =>
(if r10 = 0 then
f_X7_claimOf_j102 x1 x2 x3 x4 x5 x6 S8
else
gBind2 (f_X7_in (x5.toInt64) (0 : Int64) (7 : Int64) S8) fun r14 S12 =>
(if r14 = 0 then
f_X7_claimOf_j102 x1 x2 x3 x4 x5 x6 S12
else
if gin ((((32 : Int32) + ((64 : Int32) * x1)) + ((8 : Int32) * x5)) + x6) 416 then
(f_X7_claimOf_j103 x1 x2 x3 x4 x5 x6 (S12.1 48 ((((32 : Int32) + ((64 : Int32) * x1)) + ((8 : Int32) * x5)) + x6).toNatClampNeg) S12) else none)))
def f_X7_claimOf_s40 : (Int32 × Int32 × Int32 × Int32 × Int32 × Int32 × gSt) → Option ((Int32 × Int32 × Int32 × Int32 × Int32 × Int32 × gSt) ⊕ (Int32 × Int32 × Int32 × Int32 × Int32 × gSt)) := fun t => f_X7_claimOf_s40_b t.1 t.2.1 t.2.2.1 t.2.2.2.1 t.2.2.2.2.1 t.2.2.2.2.2.1 t.2.2.2.2.2.2
def f_X7_claimOf_s19_b (x1 : Int32) (x2 : Int32) (x3 : Int32) (x4 : Int32) (x5 : Int32) (S : gSt) : Option ((Int32 × Int32 × Int32 × Int32 × Int32 × gSt) ⊕ (Int32 × gSt)) :=
(if ((x2 / (8 : Int32)) + x4) < x5 then
some (.inr (x3, S))
else
gLet ((x2 - x2 / (8 : Int32) * (8 : Int32)) - x4) fun v5 =>
(gLoop (f_X7_claimOf_s40) gFuel (x1, x2, x3, x4, x5, v5, S)).bind fun q17 => match q17 with
| (y1_17, y2_17, y3_17, y4_17, y5_17, S17) =>
some (.inl (y1_17, y2_17, y3_17, y4_17, y5_17 + (1 : Int32), S17)))
def f_X7_claimOf_s19 : (Int32 × Int32 × Int32 × Int32 × Int32 × gSt) → Option ((Int32 × Int32 × Int32 × Int32 × Int32 × gSt) ⊕ (Int32 × gSt)) := fun t => f_X7_claimOf_s19_b t.1 t.2.1 t.2.2.1 t.2.2.2.1 t.2.2.2.2.1 t.2.2.2.2.2
def f_X7_claimOf (p1 : Int32) (p2 : Int32) (S : gSt) : Option (Int32 × gSt) :=
if gin (2 : Int32) 416 then
(gLet (S.1 48 (2 : Int32).toNatClampNeg) fun v2 =>
gLet ((p2 / (8 : Int32)) - v2) fun v3 =>
(gLoop (f_X7_claimOf_s19) gFuel (p1, p2, (0 : Int32), v2, v3, S)).bind fun q18 => match q18 with
| (y3_18, S18) =>
some (y3_18, S18)) else none
set_option maxHeartbeats 4000000 in
set_option maxRecDepth 20000 in
theorem ok_X7_claimOf {p1 : Int32} {p2 : Int32} {S S0 : gSt} {r0 : Int32}  (h : f_X7_claimOf p1 p2 S = some (r0, S0)) : gCT yX7_claimOf cX7_claimOf 8 (some .int) 1 (fun w => [.ref (w.2.1 47), .int p1, .int p2]) S (some (.int r0)) S0 := by
  refine gEnter (fun X => [some (.ref (gad X 47)), some (.int p1), some (.int p2), none, none, none, none, none]) (by decide) (fun X => ⟨rfl, rfl⟩) (fun w => Nat.le_of_ble_eq_true rfl) (fun X hp => ?_)
  show AW X RX7 1 cX7_claimOf 0 [some (.ref (gad X 47)), some (.int p1), some (.int p2), none, none, none, none, none] [] S
  unfold f_X7_claimOf at h
  refine a_iconst (pc := 0) (v := (0 : Int32)) dX7_claimOf_0 (by decide) ?_
  refine a_istoren (pc := 1) dX7_claimOf_1 rfl (Nat.le_of_ble_eq_true rfl) rfl (L' := [some (.ref (gad X 47)), some (.int p1), some (.int p2), some (.int (0 : Int32)), none, none, none, none]) rfl ?_
  refine a_aloadn (pc := 2) dX7_claimOf_2 rfl rfl ?_
  refine a_getA (pc := 3) flX7_7 sh_47 rfl dX7_claimOf_3 ?_
  refine a_iconst (pc := 6) (v := (2 : Int32)) dX7_claimOf_6 (by decide) ?_
  obtain ⟨hi1, h⟩ := g_if h
  refine a_iald (pc := 7) sh_48 hi1 dX7_claimOf_7 ?_
  obtain ⟨v2, ev2, h⟩ := g_let h
  refine a_nmI ev2 ?_
  refine a_istore (pc := 8) dX7_claimOf_8 (Nat.le_of_ble_eq_true rfl) rfl (L' := [some (.ref (gad X 47)), some (.int p1), some (.int p2), some (.int (0 : Int32)), some (.int v2), none, none, none]) rfl ?_
  refine a_iloadn (pc := 10) dX7_claimOf_10 rfl rfl ?_
  refine a_bipush (pc := 11) (v := (8 : Int32)) dX7_claimOf_11 (by decide) ?_
  refine a_idiv (pc := 13) dX7_claimOf_13 (by decide) ?_
  refine a_iload (pc := 14) dX7_claimOf_14 rfl ?_
  refine a_isub (pc := 16) dX7_claimOf_16 ?_
  obtain ⟨v3, ev3, h⟩ := g_let h
  refine a_nmI ev3 ?_
  refine a_istore (pc := 17) dX7_claimOf_17 (Nat.le_of_ble_eq_true rfl) rfl (L' := [some (.ref (gad X 47)), some (.int p1), some (.int p2), some (.int (0 : Int32)), some (.int v2), some (.int v3), none, none]) rfl ?_
  obtain ⟨R18, hR18, h⟩ := g_bind h
  have E19 : ∀ (y3_18 : Int32) (S18 : gSt), (some (y3_18, S18)) = some (r0, S0) → AW X RX7 1 cX7_claimOf 130 [none, none, none, some (.int y3_18), none, none, none, none] [] S18 := by
    intro y3_18 S18 h
    refine a_iloadn (pc := 130) dX7_claimOf_130 rfl rfl ?_
    obtain ⟨rfl, rfl⟩ := Prod.mk.inj (Option.some.inj h)
    exact a_iret hp dX7_claimOf_131
  have lp : ∀ (n : Nat) (x1 : Int32) (x2 : Int32) (x3 : Int32) (x4 : Int32) (x5 : Int32) (S : gSt), gLoop (f_X7_claimOf_s19) n (x1, x2, x3, x4, x5, S) = some R18 → AW X RX7 1 cX7_claimOf 19 [some (.ref (gad X 47)), some (.int x1), some (.int x2), some (.int x3), some (.int x4), some (.int x5), none, none] [] S := by
    intro n
    induction n with
    | zero => intro x1 x2 x3 x4 x5 S hR; cases hR
    | succ n ih =>
      intro x1 x2 x3 x4 x5 S hR
      obtain ⟨q, hs, hR⟩ := g_bind hR
      have hs : f_X7_claimOf_s19_b x1 x2 x3 x4 x5 S = some q := hs
      unfold f_X7_claimOf_s19_b at hs
      refine a_iload (pc := 19) dX7_claimOf_19 rfl ?_
      refine a_iloadn (pc := 21) dX7_claimOf_21 rfl rfl ?_
      refine a_bipush (pc := 22) (v := (8 : Int32)) dX7_claimOf_22 (by decide) ?_
      refine a_idiv (pc := 24) dX7_claimOf_24 (by decide) ?_
      refine a_iload (pc := 25) dX7_claimOf_25 rfl ?_
      refine a_iadd (pc := 27) dX7_claimOf_27 ?_
      refine a_icmp_gt (pc := 28) (tgt := 130) dX7_claimOf_28 (by decide) (fun c4 => ?_) (fun c4 => ?_)
      · rw [if_pos c4] at hs
        obtain rfl := Option.some.inj hs
        obtain rfl := Option.some.inj hR
        refine a_mask [false, false, false, true, false, false, true, true] (L' := [none, none, none, some (.int x3), none, none, none, none]) rfl ?_
        exact E19 _ _ h
      · rw [if_neg c4] at hs
        refine a_iloadn (pc := 31) dX7_claimOf_31 rfl rfl ?_
        refine a_bipush (pc := 32) (v := (8 : Int32)) dX7_claimOf_32 (by decide) ?_
        refine a_irem (pc := 34) dX7_claimOf_34 (by decide) ?_
        refine a_iload (pc := 35) dX7_claimOf_35 rfl ?_
        refine a_isub (pc := 37) dX7_claimOf_37 ?_
        obtain ⟨v5, ev5, hs⟩ := g_let hs
        refine a_nmI ev5 ?_
        refine a_istore (pc := 38) dX7_claimOf_38 (Nat.le_of_ble_eq_true rfl) rfl (L' := [some (.ref (gad X 47)), some (.int x1), some (.int x2), some (.int x3), some (.int x4), some (.int x5), some (.int v5), none]) rfl ?_
        obtain ⟨R17, hR17, hs⟩ := g_bind hs
        have E40 : ∀ (y1_17 : Int32) (y2_17 : Int32) (y3_17 : Int32) (y4_17 : Int32) (y5_17 : Int32) (S17 : gSt), (some (.inl (y1_17, y2_17, y3_17, y4_17, y5_17 + (1 : Int32), S17))) = some q → AW X RX7 1 cX7_claimOf 124 [some (.ref (gad X 47)), some (.int y1_17), some (.int y2_17), some (.int y3_17), some (.int y4_17), some (.int y5_17), none, none] [] S17 := by
          intro y1_17 y2_17 y3_17 y4_17 y5_17 S17 hs
          refine a_iinc (pc := 124) dX7_claimOf_124 rfl (v := y5_17 + (1 : Int32)) rfl (Nat.le_of_ble_eq_true rfl) rfl (L' := [some (.ref (gad X 47)), some (.int y1_17), some (.int y2_17), some (.int y3_17), some (.int y4_17), some (.int (y5_17 + (1 : Int32))), none, none]) rfl ?_
          refine a_goto (pc := 127) (tgt := 19) dX7_claimOf_127 (by decide) ?_
          obtain rfl := Option.some.inj hs
          exact ih _ _ _ _ _ _ hR
        have lp : ∀ (n : Nat) (x1 : Int32) (x2 : Int32) (x3 : Int32) (x4 : Int32) (x5 : Int32) (x6 : Int32) (S : gSt), gLoop (f_X7_claimOf_s40) n (x1, x2, x3, x4, x5, x6, S) = some R17 → AW X RX7 1 cX7_claimOf 40 [some (.ref (gad X 47)), some (.int x1), some (.int x2), some (.int x3), some (.int x4), some (.int x5), some (.int x6), none] [] S := by
          intro n
          induction n with
          | zero => intro x1 x2 x3 x4 x5 x6 S hR; cases hR
          | succ n ih =>
            intro x1 x2 x3 x4 x5 x6 S hR
            obtain ⟨q, hs, hR⟩ := g_bind hR
            have hs : f_X7_claimOf_s40_b x1 x2 x3 x4 x5 x6 S = some q := hs
            unfold f_X7_claimOf_s40_b at hs
            have J103 : ∀ (x1 : Int32) (x2 : Int32) (x3 : Int32) (x4 : Int32) (x5 : Int32) (x6 : Int32) (t0 : Int32) (S : gSt), f_X7_claimOf_j103 x1 x2 x3 x4 x5 x6 t0 S = some q → AW X RX7 1 cX7_claimOf 103 [some (.ref (gad X 47)), some (.int x1), some (.int x2), some (.int x3), some (.int x4), some (.int x5), some (.int x6), none] [.int t0] S := by
              intro x1 x2 x3 x4 x5 x6 t0 S hs
              unfold f_X7_claimOf_j103 at hs
              refine a_istore (pc := 103) dX7_claimOf_103 (Nat.le_of_ble_eq_true rfl) rfl (L' := [some (.ref (gad X 47)), some (.int x1), some (.int x2), some (.int x3), some (.int x4), some (.int x5), some (.int x6), some (.int t0)]) rfl ?_
              refine a_iload (pc := 105) dX7_claimOf_105 rfl ?_
              refine a_iloadn (pc := 107) dX7_claimOf_107 rfl rfl ?_
              refine a_icmp_le (pc := 108) (tgt := 116) dX7_claimOf_108 (by decide) (fun c6 => ?_) (fun c6 => ?_)
              · rw [if_pos c6] at hs
                refine a_iloadn (pc := 116) dX7_claimOf_116 rfl rfl ?_
                refine a_istoren (pc := 117) dX7_claimOf_117 rfl (Nat.le_of_ble_eq_true rfl) rfl (L' := [some (.ref (gad X 47)), some (.int x1), some (.int x2), some (.int x3), some (.int x4), some (.int x5), some (.int x6), some (.int t0)]) rfl ?_
                refine a_iinc (pc := 118) dX7_claimOf_118 rfl (v := x6 + (1 : Int32)) rfl (Nat.le_of_ble_eq_true rfl) rfl (L' := [some (.ref (gad X 47)), some (.int x1), some (.int x2), some (.int x3), some (.int x4), some (.int x5), some (.int (x6 + (1 : Int32))), some (.int t0)]) rfl ?_
                refine a_goto (pc := 121) (tgt := 40) dX7_claimOf_121 (by decide) ?_
                obtain rfl := Option.some.inj hs
                refine a_mask [true, true, true, true, true, true, true, false] (L' := [some (.ref (gad X 47)), some (.int x1), some (.int x2), some (.int x3), some (.int x4), some (.int x5), some (.int (x6 + (1 : Int32))), none]) rfl ?_
                exact ih _ _ _ _ _ _ _ hR
              · rw [if_neg c6] at hs
                refine a_iload (pc := 111) dX7_claimOf_111 rfl ?_
                refine a_goto (pc := 113) (tgt := 117) dX7_claimOf_113 (by decide) ?_
                refine a_istoren (pc := 117) dX7_claimOf_117 rfl (Nat.le_of_ble_eq_true rfl) rfl (L' := [some (.ref (gad X 47)), some (.int x1), some (.int x2), some (.int t0), some (.int x4), some (.int x5), some (.int x6), some (.int t0)]) rfl ?_
                refine a_iinc (pc := 118) dX7_claimOf_118 rfl (v := x6 + (1 : Int32)) rfl (Nat.le_of_ble_eq_true rfl) rfl (L' := [some (.ref (gad X 47)), some (.int x1), some (.int x2), some (.int t0), some (.int x4), some (.int x5), some (.int (x6 + (1 : Int32))), some (.int t0)]) rfl ?_
                refine a_goto (pc := 121) (tgt := 40) dX7_claimOf_121 (by decide) ?_
                obtain rfl := Option.some.inj hs
                refine a_mask [true, true, true, true, true, true, true, false] (L' := [some (.ref (gad X 47)), some (.int x1), some (.int x2), some (.int t0), some (.int x4), some (.int x5), some (.int (x6 + (1 : Int32))), none]) rfl ?_
                exact ih _ _ _ _ _ _ _ hR
            have J102 : ∀ (x1 : Int32) (x2 : Int32) (x3 : Int32) (x4 : Int32) (x5 : Int32) (x6 : Int32) (S : gSt), f_X7_claimOf_j102 x1 x2 x3 x4 x5 x6 S = some q → AW X RX7 1 cX7_claimOf 102 [some (.ref (gad X 47)), some (.int x1), some (.int x2), some (.int x3), some (.int x4), some (.int x5), some (.int x6), none] [] S := by
              intro x1 x2 x3 x4 x5 x6 S hs
              unfold f_X7_claimOf_j102 at hs
              refine a_iconst (pc := 102) (v := (0 : Int32)) dX7_claimOf_102 (by decide) ?_
              exact J103 _ _ _ _ _ _ _ _ hs
            refine a_iload (pc := 40) dX7_claimOf_40 rfl ?_
            refine a_iloadn (pc := 42) dX7_claimOf_42 rfl rfl ?_
            refine a_bipush (pc := 43) (v := (8 : Int32)) dX7_claimOf_43 (by decide) ?_
            refine a_irem (pc := 45) dX7_claimOf_45 (by decide) ?_
            refine a_iload (pc := 46) dX7_claimOf_46 rfl ?_
            refine a_iadd (pc := 48) dX7_claimOf_48 ?_
            refine a_icmp_gt (pc := 49) (tgt := 124) dX7_claimOf_49 (by decide) (fun c7 => ?_) (fun c7 => ?_)
            · rw [if_pos c7] at hs
              obtain rfl := Option.some.inj hs
              obtain rfl := Option.some.inj hR
              refine a_mask [true, true, true, true, true, true, false, true] (L' := [some (.ref (gad X 47)), some (.int x1), some (.int x2), some (.int x3), some (.int x4), some (.int x5), none, none]) rfl ?_
              exact E40 _ _ _ _ _ _ hs
            · rw [if_neg c7] at hs
              refine a_iload (pc := 52) dX7_claimOf_52 rfl ?_
              refine a_i2l (pc := 54) dX7_claimOf_54 ?_
              refine a_lconst (pc := 55) (v := (0 : Int64)) dX7_claimOf_55 (by decide) ?_
              refine a_ldc2 (pc := 56) kX7_73 dX7_claimOf_56 ?_
              obtain ⟨r10, S8, hc9, hs⟩ := g_bind2 hs
              refine a_invSi (pc := 59) (ok_X7_in hc9) gyX7_in syX7_in mlX7_51 (As := [.long (x6.toInt64), .long (0 : Int64), .long (7 : Int64)]) rfl rfl (by decide) (st := []) rfl (Nat.le_of_ble_eq_true rfl) dX7_claimOf_59 ?_
              refine a_if_eq (pc := 62) (tgt := 102) dX7_claimOf_62 (by decide) (fun c11 => ?_) (fun c11 => ?_)
              · rw [if_pos c11] at hs
                exact J102 _ _ _ _ _ _ _ hs
              · rw [if_neg c11] at hs
                refine a_iload (pc := 65) dX7_claimOf_65 rfl ?_
                refine a_i2l (pc := 67) dX7_claimOf_67 ?_
                refine a_lconst (pc := 68) (v := (0 : Int64)) dX7_claimOf_68 (by decide) ?_
                refine a_ldc2 (pc := 69) kX7_73 dX7_claimOf_69 ?_
                obtain ⟨r14, S12, hc13, hs⟩ := g_bind2 hs
                refine a_invSi (pc := 72) (ok_X7_in hc13) gyX7_in syX7_in mlX7_51 (As := [.long (x5.toInt64), .long (0 : Int64), .long (7 : Int64)]) rfl rfl (by decide) (st := []) rfl (Nat.le_of_ble_eq_true rfl) dX7_claimOf_72 ?_
                refine a_if_eq (pc := 75) (tgt := 102) dX7_claimOf_75 (by decide) (fun c15 => ?_) (fun c15 => ?_)
                · rw [if_pos c15] at hs
                  exact J102 _ _ _ _ _ _ _ hs
                · rw [if_neg c15] at hs
                  refine a_aloadn (pc := 78) dX7_claimOf_78 rfl rfl ?_
                  refine a_getA (pc := 79) flX7_7 sh_47 rfl dX7_claimOf_79 ?_
                  refine a_bipush (pc := 82) (v := (32 : Int32)) dX7_claimOf_82 (by decide) ?_
                  refine a_bipush (pc := 84) (v := (64 : Int32)) dX7_claimOf_84 (by decide) ?_
                  refine a_iloadn (pc := 86) dX7_claimOf_86 rfl rfl ?_
                  refine a_imul (pc := 87) dX7_claimOf_87 ?_
                  refine a_iadd (pc := 88) dX7_claimOf_88 ?_
                  refine a_bipush (pc := 89) (v := (8 : Int32)) dX7_claimOf_89 (by decide) ?_
                  refine a_iload (pc := 91) dX7_claimOf_91 rfl ?_
                  refine a_imul (pc := 93) dX7_claimOf_93 ?_
                  refine a_iadd (pc := 94) dX7_claimOf_94 ?_
                  refine a_iload (pc := 95) dX7_claimOf_95 rfl ?_
                  refine a_iadd (pc := 97) dX7_claimOf_97 ?_
                  obtain ⟨hi16, hs⟩ := g_if hs
                  refine a_iald (pc := 98) sh_48 hi16 dX7_claimOf_98 ?_
                  refine a_goto (pc := 99) (tgt := 103) dX7_claimOf_99 (by decide) ?_
                  exact J103 _ _ _ _ _ _ _ _ hs
        exact lp _ _ _ _ _ _ _ _ hR17
  exact lp _ _ _ _ _ _ _ hR18
theorem dX7_holder_0 : decode cX7_holder 0 = .ok (.bipush (-4), 2) := by decide +kernel
theorem dX7_holder_2 : decode cX7_holder 2 = .ok (.istore_n 2, 1) := by decide +kernel
theorem dX7_holder_3 : decode cX7_holder 3 = .ok (.iconst 0, 1) := by decide +kernel
theorem dX7_holder_4 : decode cX7_holder 4 = .ok (.istore_n 3, 1) := by decide +kernel
theorem dX7_holder_5 : decode cX7_holder 5 = .ok (.iconst 0, 1) := by decide +kernel
theorem dX7_holder_6 : decode cX7_holder 6 = .ok (.istore 4, 2) := by decide +kernel
theorem dX7_holder_8 : decode cX7_holder 8 = .ok (.iload 4, 2) := by decide +kernel
theorem dX7_holder_10 : decode cX7_holder 10 = .ok (.aload_n 0, 1) := by decide +kernel
theorem dX7_holder_11 : decode cX7_holder 11 = .ok (.getfield 7, 3) := by decide +kernel
theorem dX7_holder_14 : decode cX7_holder 14 = .ok (.iconst 5, 1) := by decide +kernel
theorem dX7_holder_15 : decode cX7_holder 15 = .ok (.iaload, 1) := by decide +kernel
theorem dX7_holder_16 : decode cX7_holder 16 = .ok (.if_icmp .ge 55, 3) := by decide +kernel
theorem dX7_holder_19 : decode cX7_holder 19 = .ok (.aload_n 0, 1) := by decide +kernel
theorem dX7_holder_20 : decode cX7_holder 20 = .ok (.iload 4, 2) := by decide +kernel
theorem dX7_holder_22 : decode cX7_holder 22 = .ok (.iload_n 1, 1) := by decide +kernel
theorem dX7_holder_23 : decode cX7_holder 23 = .ok (.invokevirtual 75, 3) := by decide +kernel
theorem dX7_holder_26 : decode cX7_holder 26 = .ok (.istore 5, 2) := by decide +kernel
theorem dX7_holder_28 : decode cX7_holder 28 = .ok (.iload 5, 2) := by decide +kernel
theorem dX7_holder_30 : decode cX7_holder 30 = .ok (.iload_n 3, 1) := by decide +kernel
theorem dX7_holder_31 : decode cX7_holder 31 = .ok (.if_icmp .le 8, 3) := by decide +kernel
theorem dX7_holder_34 : decode cX7_holder 34 = .ok (.iload 4, 2) := by decide +kernel
theorem dX7_holder_36 : decode cX7_holder 36 = .ok (.goto 15, 3) := by decide +kernel
theorem dX7_holder_39 : decode cX7_holder 39 = .ok (.iload 5, 2) := by decide +kernel
theorem dX7_holder_41 : decode cX7_holder 41 = .ok (.iload_n 3, 1) := by decide +kernel
theorem dX7_holder_42 : decode cX7_holder 42 = .ok (.if_icmp .ne 8, 3) := by decide +kernel
theorem dX7_holder_45 : decode cX7_holder 45 = .ok (.bipush (-4), 2) := by decide +kernel
theorem dX7_holder_47 : decode cX7_holder 47 = .ok (.goto 4, 3) := by decide +kernel
theorem dX7_holder_50 : decode cX7_holder 50 = .ok (.iload_n 2, 1) := by decide +kernel
theorem dX7_holder_51 : decode cX7_holder 51 = .ok (.istore_n 2, 1) := by decide +kernel
theorem dX7_holder_52 : decode cX7_holder 52 = .ok (.iload 5, 2) := by decide +kernel
theorem dX7_holder_54 : decode cX7_holder 54 = .ok (.iload_n 3, 1) := by decide +kernel
theorem dX7_holder_55 : decode cX7_holder 55 = .ok (.if_icmp .le 8, 3) := by decide +kernel
theorem dX7_holder_58 : decode cX7_holder 58 = .ok (.iload 5, 2) := by decide +kernel
theorem dX7_holder_60 : decode cX7_holder 60 = .ok (.goto 4, 3) := by decide +kernel
theorem dX7_holder_63 : decode cX7_holder 63 = .ok (.iload_n 3, 1) := by decide +kernel
theorem dX7_holder_64 : decode cX7_holder 64 = .ok (.istore_n 3, 1) := by decide +kernel
theorem dX7_holder_65 : decode cX7_holder 65 = .ok (.iinc 4 1, 3) := by decide +kernel
theorem dX7_holder_68 : decode cX7_holder 68 = .ok (.goto (-60), 3) := by decide +kernel
theorem dX7_holder_71 : decode cX7_holder 71 = .ok (.iload_n 3, 1) := by decide +kernel
theorem dX7_holder_72 : decode cX7_holder 72 = .ok (.ifCond .ne 8, 3) := by decide +kernel
theorem dX7_holder_75 : decode cX7_holder 75 = .ok (.bipush (-4), 2) := by decide +kernel
theorem dX7_holder_77 : decode cX7_holder 77 = .ok (.goto 4, 3) := by decide +kernel
theorem dX7_holder_80 : decode cX7_holder 80 = .ok (.iload_n 2, 1) := by decide +kernel
theorem dX7_holder_81 : decode cX7_holder 81 = .ok (.ireturn, 1) := by decide +kernel
def f_X7_holder_j51 (x1 : Int32) (x3 : Int32) (x4 : Int32) (x5 : Int32) (t0 : Int32) (S : gSt) : Option ((Int32 × Int32 × Int32 × Int32 × gSt) ⊕ (Int32 × Int32 × gSt)) :=
(if x5 ≤ x3 then
some (.inl (x1, t0, x3, x4 + (1 : Int32), S))
else
some (.inl (x1, t0, x5, x4 + (1 : Int32), S)))
def f_X7_holder_s8_b (x1 : Int32) (x2 : Int32) (x3 : Int32) (x4 : Int32) (S : gSt) : Option ((Int32 × Int32 × Int32 × Int32 × gSt) ⊕ (Int32 × Int32 × gSt)) :=
if gin (5 : Int32) 416 then
((if (S.1 48 (5 : Int32).toNatClampNeg) ≤ x4 then
some (.inr (x2, x3, S))
else
gBind2 (f_X7_claimOf x4 x1 S) fun r6 S4 =>
(if r6 ≤ x3 then
(if r6 = x3 then
f_X7_holder_j51 x1 x3 x4 r6 (-4 : Int32) S4
else
f_X7_holder_j51 x1 x3 x4 r6 x2 S4)
else
f_X7_holder_j51 x1 x3 x4 r6 x4 S4))) else none
def f_X7_holder_s8 : (Int32 × Int32 × Int32 × Int32 × gSt) → Option ((Int32 × Int32 × Int32 × Int32 × gSt) ⊕ (Int32 × Int32 × gSt)) := fun t => f_X7_holder_s8_b t.1 t.2.1 t.2.2.1 t.2.2.2.1 t.2.2.2.2
def f_X7_holder (p1 : Int32) (S : gSt) : Option (Int32 × gSt) :=
(gLoop (f_X7_holder_s8) gFuel (p1, (-4 : Int32), (0 : Int32), (0 : Int32), S)).bind fun q9 => match q9 with
| (y2_9, y3_9, S9) =>
(if y3_9 = 0 then
some ((-4 : Int32), S9)
else
some (y2_9, S9))
set_option maxHeartbeats 4000000 in
set_option maxRecDepth 20000 in
theorem ok_X7_holder {p1 : Int32} {S S0 : gSt} {r0 : Int32}  (h : f_X7_holder p1 S = some (r0, S0)) : gCT yX7_holder cX7_holder 6 (some .int) 2 (fun w => [.ref (w.2.1 47), .int p1]) S (some (.int r0)) S0 := by
  refine gEnter (fun X => [some (.ref (gad X 47)), some (.int p1), none, none, none, none]) (by decide) (fun X => ⟨rfl, rfl⟩) (fun w => Nat.le_of_ble_eq_true rfl) (fun X hp => ?_)
  show AW X RX7 2 cX7_holder 0 [some (.ref (gad X 47)), some (.int p1), none, none, none, none] [] S
  unfold f_X7_holder at h
  refine a_bipush (pc := 0) (v := (-4 : Int32)) dX7_holder_0 (by decide) ?_
  refine a_istoren (pc := 2) dX7_holder_2 rfl (Nat.le_of_ble_eq_true rfl) rfl (L' := [some (.ref (gad X 47)), some (.int p1), some (.int (-4 : Int32)), none, none, none]) rfl ?_
  refine a_iconst (pc := 3) (v := (0 : Int32)) dX7_holder_3 (by decide) ?_
  refine a_istoren (pc := 4) dX7_holder_4 rfl (Nat.le_of_ble_eq_true rfl) rfl (L' := [some (.ref (gad X 47)), some (.int p1), some (.int (-4 : Int32)), some (.int (0 : Int32)), none, none]) rfl ?_
  refine a_iconst (pc := 5) (v := (0 : Int32)) dX7_holder_5 (by decide) ?_
  refine a_istore (pc := 6) dX7_holder_6 (Nat.le_of_ble_eq_true rfl) rfl (L' := [some (.ref (gad X 47)), some (.int p1), some (.int (-4 : Int32)), some (.int (0 : Int32)), some (.int (0 : Int32)), none]) rfl ?_
  obtain ⟨R9, hR9, h⟩ := g_bind h
  have E8 : ∀ (y2_9 : Int32) (y3_9 : Int32) (S9 : gSt), ((if y3_9 = 0 then some ((-4 : Int32), S9) else some (y2_9, S9))) = some (r0, S0) → AW X RX7 2 cX7_holder 71 [none, none, some (.int y2_9), some (.int y3_9), none, none] [] S9 := by
    intro y2_9 y3_9 S9 h
    refine a_iloadn (pc := 71) dX7_holder_71 rfl rfl ?_
    refine a_if_ne (pc := 72) (tgt := 80) dX7_holder_72 (by decide) (fun c10 => ?_) (fun c10 => ?_)
    · rw [if_neg c10] at h
      refine a_iloadn (pc := 80) dX7_holder_80 rfl rfl ?_
      obtain ⟨rfl, rfl⟩ := Prod.mk.inj (Option.some.inj h)
      exact a_iret hp dX7_holder_81
    · rw [if_pos c10] at h
      refine a_bipush (pc := 75) (v := (-4 : Int32)) dX7_holder_75 (by decide) ?_
      refine a_goto (pc := 77) (tgt := 81) dX7_holder_77 (by decide) ?_
      obtain ⟨rfl, rfl⟩ := Prod.mk.inj (Option.some.inj h)
      exact a_iret hp dX7_holder_81
  have lp : ∀ (n : Nat) (x1 : Int32) (x2 : Int32) (x3 : Int32) (x4 : Int32) (S : gSt), gLoop (f_X7_holder_s8) n (x1, x2, x3, x4, S) = some R9 → AW X RX7 2 cX7_holder 8 [some (.ref (gad X 47)), some (.int x1), some (.int x2), some (.int x3), some (.int x4), none] [] S := by
    intro n
    induction n with
    | zero => intro x1 x2 x3 x4 S hR; cases hR
    | succ n ih =>
      intro x1 x2 x3 x4 S hR
      obtain ⟨q, hs, hR⟩ := g_bind hR
      have hs : f_X7_holder_s8_b x1 x2 x3 x4 S = some q := hs
      unfold f_X7_holder_s8_b at hs
      have J51 : ∀ (x1 : Int32) (x3 : Int32) (x4 : Int32) (x5 : Int32) (t0 : Int32) (S : gSt), f_X7_holder_j51 x1 x3 x4 x5 t0 S = some q → AW X RX7 2 cX7_holder 51 [some (.ref (gad X 47)), some (.int x1), none, some (.int x3), some (.int x4), some (.int x5)] [.int t0] S := by
        intro x1 x3 x4 x5 t0 S hs
        unfold f_X7_holder_j51 at hs
        refine a_istoren (pc := 51) dX7_holder_51 rfl (Nat.le_of_ble_eq_true rfl) rfl (L' := [some (.ref (gad X 47)), some (.int x1), some (.int t0), some (.int x3), some (.int x4), some (.int x5)]) rfl ?_
        refine a_iload (pc := 52) dX7_holder_52 rfl ?_
        refine a_iloadn (pc := 54) dX7_holder_54 rfl rfl ?_
        refine a_icmp_le (pc := 55) (tgt := 63) dX7_holder_55 (by decide) (fun c1 => ?_) (fun c1 => ?_)
        · rw [if_pos c1] at hs
          refine a_iloadn (pc := 63) dX7_holder_63 rfl rfl ?_
          refine a_istoren (pc := 64) dX7_holder_64 rfl (Nat.le_of_ble_eq_true rfl) rfl (L' := [some (.ref (gad X 47)), some (.int x1), some (.int t0), some (.int x3), some (.int x4), some (.int x5)]) rfl ?_
          refine a_iinc (pc := 65) dX7_holder_65 rfl (v := x4 + (1 : Int32)) rfl (Nat.le_of_ble_eq_true rfl) rfl (L' := [some (.ref (gad X 47)), some (.int x1), some (.int t0), some (.int x3), some (.int (x4 + (1 : Int32))), some (.int x5)]) rfl ?_
          refine a_goto (pc := 68) (tgt := 8) dX7_holder_68 (by decide) ?_
          obtain rfl := Option.some.inj hs
          refine a_mask [true, true, true, true, true, false] (L' := [some (.ref (gad X 47)), some (.int x1), some (.int t0), some (.int x3), some (.int (x4 + (1 : Int32))), none]) rfl ?_
          exact ih _ _ _ _ _ hR
        · rw [if_neg c1] at hs
          refine a_iload (pc := 58) dX7_holder_58 rfl ?_
          refine a_goto (pc := 60) (tgt := 64) dX7_holder_60 (by decide) ?_
          refine a_istoren (pc := 64) dX7_holder_64 rfl (Nat.le_of_ble_eq_true rfl) rfl (L' := [some (.ref (gad X 47)), some (.int x1), some (.int t0), some (.int x5), some (.int x4), some (.int x5)]) rfl ?_
          refine a_iinc (pc := 65) dX7_holder_65 rfl (v := x4 + (1 : Int32)) rfl (Nat.le_of_ble_eq_true rfl) rfl (L' := [some (.ref (gad X 47)), some (.int x1), some (.int t0), some (.int x5), some (.int (x4 + (1 : Int32))), some (.int x5)]) rfl ?_
          refine a_goto (pc := 68) (tgt := 8) dX7_holder_68 (by decide) ?_
          obtain rfl := Option.some.inj hs
          refine a_mask [true, true, true, true, true, false] (L' := [some (.ref (gad X 47)), some (.int x1), some (.int t0), some (.int x5), some (.int (x4 + (1 : Int32))), none]) rfl ?_
          exact ih _ _ _ _ _ hR
      refine a_iload (pc := 8) dX7_holder_8 rfl ?_
      refine a_aloadn (pc := 10) dX7_holder_10 rfl rfl ?_
      refine a_getA (pc := 11) flX7_7 sh_47 rfl dX7_holder_11 ?_
      refine a_iconst (pc := 14) (v := (5 : Int32)) dX7_holder_14 (by decide) ?_
      obtain ⟨hi2, hs⟩ := g_if hs
      refine a_iald (pc := 15) sh_48 hi2 dX7_holder_15 ?_
      refine a_icmp_ge (pc := 16) (tgt := 71) dX7_holder_16 (by decide) (fun c3 => ?_) (fun c3 => ?_)
      · rw [if_pos c3] at hs
        obtain rfl := Option.some.inj hs
        obtain rfl := Option.some.inj hR
        refine a_mask [false, false, true, true, false, true] (L' := [none, none, some (.int x2), some (.int x3), none, none]) rfl ?_
        exact E8 _ _ _ h
      · rw [if_neg c3] at hs
        refine a_aloadn (pc := 19) dX7_holder_19 rfl rfl ?_
        refine a_iload (pc := 20) dX7_holder_20 rfl ?_
        refine a_iloadn (pc := 22) dX7_holder_22 rfl rfl ?_
        obtain ⟨r6, S4, hc5, hs⟩ := g_bind2 hs
        refine a_invVi (pc := 23) (ok_X7_claimOf hc5) gyX7_claimOf vyX7_claimOf mlX7_75 sh_47 rfl (As := [.int x4, .int x1]) rfl rfl (by decide) (st := []) rfl (Nat.le_of_ble_eq_true rfl) dX7_holder_23 ?_
        refine a_istore (pc := 26) dX7_holder_26 (Nat.le_of_ble_eq_true rfl) rfl (L' := [some (.ref (gad X 47)), some (.int x1), some (.int x2), some (.int x3), some (.int x4), some (.int r6)]) rfl ?_
        refine a_iload (pc := 28) dX7_holder_28 rfl ?_
        refine a_iloadn (pc := 30) dX7_holder_30 rfl rfl ?_
        refine a_icmp_le (pc := 31) (tgt := 39) dX7_holder_31 (by decide) (fun c7 => ?_) (fun c7 => ?_)
        · rw [if_pos c7] at hs
          refine a_iload (pc := 39) dX7_holder_39 rfl ?_
          refine a_iloadn (pc := 41) dX7_holder_41 rfl rfl ?_
          refine a_icmp_ne (pc := 42) (tgt := 50) dX7_holder_42 (by decide) (fun c8 => ?_) (fun c8 => ?_)
          · rw [if_neg c8] at hs
            refine a_iloadn (pc := 50) dX7_holder_50 rfl rfl ?_
            refine a_mask [true, true, false, true, true, true] (L' := [some (.ref (gad X 47)), some (.int x1), none, some (.int x3), some (.int x4), some (.int r6)]) rfl ?_
            exact J51 _ _ _ _ _ _ hs
          · rw [if_pos c8] at hs
            refine a_bipush (pc := 45) (v := (-4 : Int32)) dX7_holder_45 (by decide) ?_
            refine a_goto (pc := 47) (tgt := 51) dX7_holder_47 (by decide) ?_
            refine a_mask [true, true, false, true, true, true] (L' := [some (.ref (gad X 47)), some (.int x1), none, some (.int x3), some (.int x4), some (.int r6)]) rfl ?_
            exact J51 _ _ _ _ _ _ hs
        · rw [if_neg c7] at hs
          refine a_iload (pc := 34) dX7_holder_34 rfl ?_
          refine a_goto (pc := 36) (tgt := 51) dX7_holder_36 (by decide) ?_
          refine a_mask [true, true, false, true, true, true] (L' := [some (.ref (gad X 47)), some (.int x1), none, some (.int x3), some (.int x4), some (.int r6)]) rfl ?_
          exact J51 _ _ _ _ _ _ hs
  exact lp _ _ _ _ _ _ hR9
theorem dX7_landOf_0 : decode cX7_landOf 0 = .ok (.iconst 0, 1) := by decide +kernel
theorem dX7_landOf_1 : decode cX7_landOf 1 = .ok (.istore_n 2, 1) := by decide +kernel
theorem dX7_landOf_2 : decode cX7_landOf 2 = .ok (.iconst 0, 1) := by decide +kernel
theorem dX7_landOf_3 : decode cX7_landOf 3 = .ok (.istore_n 3, 1) := by decide +kernel
theorem dX7_landOf_4 : decode cX7_landOf 4 = .ok (.iload_n 3, 1) := by decide +kernel
theorem dX7_landOf_5 : decode cX7_landOf 5 = .ok (.bipush 64, 2) := by decide +kernel
theorem dX7_landOf_7 : decode cX7_landOf 7 = .ok (.if_icmp .ge 26, 3) := by decide +kernel
theorem dX7_landOf_10 : decode cX7_landOf 10 = .ok (.iload_n 2, 1) := by decide +kernel
theorem dX7_landOf_11 : decode cX7_landOf 11 = .ok (.aload_n 0, 1) := by decide +kernel
theorem dX7_landOf_12 : decode cX7_landOf 12 = .ok (.iload_n 3, 1) := by decide +kernel
theorem dX7_landOf_13 : decode cX7_landOf 13 = .ok (.invokevirtual 79, 3) := by decide +kernel
theorem dX7_landOf_16 : decode cX7_landOf 16 = .ok (.iload_n 1, 1) := by decide +kernel
theorem dX7_landOf_17 : decode cX7_landOf 17 = .ok (.if_icmp .ne 7, 3) := by decide +kernel
theorem dX7_landOf_20 : decode cX7_landOf 20 = .ok (.iconst 1, 1) := by decide +kernel
theorem dX7_landOf_21 : decode cX7_landOf 21 = .ok (.goto 4, 3) := by decide +kernel
theorem dX7_landOf_24 : decode cX7_landOf 24 = .ok (.iconst 0, 1) := by decide +kernel
theorem dX7_landOf_25 : decode cX7_landOf 25 = .ok (.iadd, 1) := by decide +kernel
theorem dX7_landOf_26 : decode cX7_landOf 26 = .ok (.istore_n 2, 1) := by decide +kernel
theorem dX7_landOf_27 : decode cX7_landOf 27 = .ok (.iinc 3 1, 3) := by decide +kernel
theorem dX7_landOf_30 : decode cX7_landOf 30 = .ok (.goto (-26), 3) := by decide +kernel
theorem dX7_landOf_33 : decode cX7_landOf 33 = .ok (.iload_n 2, 1) := by decide +kernel
theorem dX7_landOf_34 : decode cX7_landOf 34 = .ok (.ireturn, 1) := by decide +kernel
def f_X7_landOf_s4_b (x1 : Int32) (x2 : Int32) (x3 : Int32) (S : gSt) : Option ((Int32 × Int32 × Int32 × gSt) ⊕ (Int32 × gSt)) :=
(if (64 : Int32) ≤ x3 then
some (.inr (x2, S))
else
gBind2 (f_X7_holder x3 S) fun r4 S2 =>
(if r4 = x1 then
gLet (x2 + (1 : Int32)) fun v7 =>
some (.inl (x1, v7, x3 + (1 : Int32), S2))
else
gLet (x2 + (0 : Int32)) fun v6 =>
some (.inl (x1, v6, x3 + (1 : Int32), S2))))
def f_X7_landOf_s4 : (Int32 × Int32 × Int32 × gSt) → Option ((Int32 × Int32 × Int32 × gSt) ⊕ (Int32 × gSt)) := fun t => f_X7_landOf_s4_b t.1 t.2.1 t.2.2.1 t.2.2.2
def f_X7_landOf (p1 : Int32) (S : gSt) : Option (Int32 × gSt) :=
(gLoop (f_X7_landOf_s4) gFuel (p1, (0 : Int32), (0 : Int32), S)).bind fun q8 => match q8 with
| (y2_8, S8) =>
some (y2_8, S8)
set_option maxHeartbeats 4000000 in
set_option maxRecDepth 20000 in
theorem ok_X7_landOf {p1 : Int32} {S S0 : gSt} {r0 : Int32}  (h : f_X7_landOf p1 S = some (r0, S0)) : gCT yX7_landOf cX7_landOf 4 (some .int) 3 (fun w => [.ref (w.2.1 47), .int p1]) S (some (.int r0)) S0 := by
  refine gEnter (fun X => [some (.ref (gad X 47)), some (.int p1), none, none]) (by decide) (fun X => ⟨rfl, rfl⟩) (fun w => Nat.le_of_ble_eq_true rfl) (fun X hp => ?_)
  show AW X RX7 3 cX7_landOf 0 [some (.ref (gad X 47)), some (.int p1), none, none] [] S
  unfold f_X7_landOf at h
  refine a_iconst (pc := 0) (v := (0 : Int32)) dX7_landOf_0 (by decide) ?_
  refine a_istoren (pc := 1) dX7_landOf_1 rfl (Nat.le_of_ble_eq_true rfl) rfl (L' := [some (.ref (gad X 47)), some (.int p1), some (.int (0 : Int32)), none]) rfl ?_
  refine a_iconst (pc := 2) (v := (0 : Int32)) dX7_landOf_2 (by decide) ?_
  refine a_istoren (pc := 3) dX7_landOf_3 rfl (Nat.le_of_ble_eq_true rfl) rfl (L' := [some (.ref (gad X 47)), some (.int p1), some (.int (0 : Int32)), some (.int (0 : Int32))]) rfl ?_
  obtain ⟨R8, hR8, h⟩ := g_bind h
  have E4 : ∀ (y2_8 : Int32) (S8 : gSt), (some (y2_8, S8)) = some (r0, S0) → AW X RX7 3 cX7_landOf 33 [none, none, some (.int y2_8), none] [] S8 := by
    intro y2_8 S8 h
    refine a_iloadn (pc := 33) dX7_landOf_33 rfl rfl ?_
    obtain ⟨rfl, rfl⟩ := Prod.mk.inj (Option.some.inj h)
    exact a_iret hp dX7_landOf_34
  have lp : ∀ (n : Nat) (x1 : Int32) (x2 : Int32) (x3 : Int32) (S : gSt), gLoop (f_X7_landOf_s4) n (x1, x2, x3, S) = some R8 → AW X RX7 3 cX7_landOf 4 [some (.ref (gad X 47)), some (.int x1), some (.int x2), some (.int x3)] [] S := by
    intro n
    induction n with
    | zero => intro x1 x2 x3 S hR; cases hR
    | succ n ih =>
      intro x1 x2 x3 S hR
      obtain ⟨q, hs, hR⟩ := g_bind hR
      have hs : f_X7_landOf_s4_b x1 x2 x3 S = some q := hs
      unfold f_X7_landOf_s4_b at hs
      refine a_iloadn (pc := 4) dX7_landOf_4 rfl rfl ?_
      refine a_bipush (pc := 5) (v := (64 : Int32)) dX7_landOf_5 (by decide) ?_
      refine a_icmp_ge (pc := 7) (tgt := 33) dX7_landOf_7 (by decide) (fun c1 => ?_) (fun c1 => ?_)
      · rw [if_pos c1] at hs
        obtain rfl := Option.some.inj hs
        obtain rfl := Option.some.inj hR
        refine a_mask [false, false, true, false] (L' := [none, none, some (.int x2), none]) rfl ?_
        exact E4 _ _ h
      · rw [if_neg c1] at hs
        refine a_iloadn (pc := 10) dX7_landOf_10 rfl rfl ?_
        refine a_aloadn (pc := 11) dX7_landOf_11 rfl rfl ?_
        refine a_iloadn (pc := 12) dX7_landOf_12 rfl rfl ?_
        obtain ⟨r4, S2, hc3, hs⟩ := g_bind2 hs
        refine a_invVi (pc := 13) (ok_X7_holder hc3) gyX7_holder vyX7_holder mlX7_79 sh_47 rfl (As := [.int x3]) rfl rfl (by decide) (st := [.int x2]) rfl (Nat.le_of_ble_eq_true rfl) dX7_landOf_13 ?_
        refine a_iloadn (pc := 16) dX7_landOf_16 rfl rfl ?_
        refine a_icmp_ne (pc := 17) (tgt := 24) dX7_landOf_17 (by decide) (fun c5 => ?_) (fun c5 => ?_)
        · rw [if_neg c5] at hs
          refine a_iconst (pc := 24) (v := (0 : Int32)) dX7_landOf_24 (by decide) ?_
          refine a_iadd (pc := 25) dX7_landOf_25 ?_
          obtain ⟨v6, ev6, hs⟩ := g_let hs
          refine a_nmI ev6 ?_
          refine a_istoren (pc := 26) dX7_landOf_26 rfl (Nat.le_of_ble_eq_true rfl) rfl (L' := [some (.ref (gad X 47)), some (.int x1), some (.int v6), some (.int x3)]) rfl ?_
          refine a_iinc (pc := 27) dX7_landOf_27 rfl (v := x3 + (1 : Int32)) rfl (Nat.le_of_ble_eq_true rfl) rfl (L' := [some (.ref (gad X 47)), some (.int x1), some (.int v6), some (.int (x3 + (1 : Int32)))]) rfl ?_
          refine a_goto (pc := 30) (tgt := 4) dX7_landOf_30 (by decide) ?_
          obtain rfl := Option.some.inj hs
          exact ih _ _ _ _ hR
        · rw [if_pos c5] at hs
          refine a_iconst (pc := 20) (v := (1 : Int32)) dX7_landOf_20 (by decide) ?_
          refine a_goto (pc := 21) (tgt := 25) dX7_landOf_21 (by decide) ?_
          refine a_iadd (pc := 25) dX7_landOf_25 ?_
          obtain ⟨v7, ev7, hs⟩ := g_let hs
          refine a_nmI ev7 ?_
          refine a_istoren (pc := 26) dX7_landOf_26 rfl (Nat.le_of_ble_eq_true rfl) rfl (L' := [some (.ref (gad X 47)), some (.int x1), some (.int v7), some (.int x3)]) rfl ?_
          refine a_iinc (pc := 27) dX7_landOf_27 rfl (v := x3 + (1 : Int32)) rfl (Nat.le_of_ble_eq_true rfl) rfl (L' := [some (.ref (gad X 47)), some (.int x1), some (.int v7), some (.int (x3 + (1 : Int32)))]) rfl ?_
          refine a_goto (pc := 30) (tgt := 4) dX7_landOf_30 (by decide) ?_
          obtain rfl := Option.some.inj hs
          exact ih _ _ _ _ hR
  exact lp _ _ _ _ _ hR8
theorem dX7_kind_0 : decode cX7_kind 0 = .ok (.aload_n 0, 1) := by decide +kernel
theorem dX7_kind_1 : decode cX7_kind 1 = .ok (.getfield 7, 3) := by decide +kernel
theorem dX7_kind_4 : decode cX7_kind 4 = .ok (.bipush 8, 2) := by decide +kernel
theorem dX7_kind_6 : decode cX7_kind 6 = .ok (.iconst 4, 1) := by decide +kernel
theorem dX7_kind_7 : decode cX7_kind 7 = .ok (.iload_n 1, 1) := by decide +kernel
theorem dX7_kind_8 : decode cX7_kind 8 = .ok (.imul, 1) := by decide +kernel
theorem dX7_kind_9 : decode cX7_kind 9 = .ok (.iadd, 1) := by decide +kernel
theorem dX7_kind_10 : decode cX7_kind 10 = .ok (.iaload, 1) := by decide +kernel
theorem dX7_kind_11 : decode cX7_kind 11 = .ok (.ireturn, 1) := by decide +kernel
def f_X7_kind (p1 : Int32) (S : gSt) : Option (Int32 × gSt) :=
if gin ((8 : Int32) + ((4 : Int32) * p1)) 416 then
(some (S.1 48 ((8 : Int32) + ((4 : Int32) * p1)).toNatClampNeg, S)) else none
set_option maxHeartbeats 4000000 in
set_option maxRecDepth 20000 in
theorem ok_X7_kind {p1 : Int32} {S S0 : gSt} {r0 : Int32}  (h : f_X7_kind p1 S = some (r0, S0)) : gCT yX7_kind cX7_kind 2 (some .int) 0 (fun w => [.ref (w.2.1 47), .int p1]) S (some (.int r0)) S0 := by
  refine gEnter (fun X => [some (.ref (gad X 47)), some (.int p1)]) (by decide) (fun X => ⟨rfl, rfl⟩) (fun w => Nat.le_of_ble_eq_true rfl) (fun X hp => ?_)
  show AW X RX7 0 cX7_kind 0 [some (.ref (gad X 47)), some (.int p1)] [] S
  unfold f_X7_kind at h
  refine a_aloadn (pc := 0) dX7_kind_0 rfl rfl ?_
  refine a_getA (pc := 1) flX7_7 sh_47 rfl dX7_kind_1 ?_
  refine a_bipush (pc := 4) (v := (8 : Int32)) dX7_kind_4 (by decide) ?_
  refine a_iconst (pc := 6) (v := (4 : Int32)) dX7_kind_6 (by decide) ?_
  refine a_iloadn (pc := 7) dX7_kind_7 rfl rfl ?_
  refine a_imul (pc := 8) dX7_kind_8 ?_
  refine a_iadd (pc := 9) dX7_kind_9 ?_
  obtain ⟨hi1, h⟩ := g_if h
  refine a_iald (pc := 10) sh_48 hi1 dX7_kind_10 ?_
  obtain ⟨rfl, rfl⟩ := Prod.mk.inj (Option.some.inj h)
  exact a_iret hp dX7_kind_11
theorem dX7_shoesOf_0 : decode cX7_shoesOf 0 = .ok (.aload_n 0, 1) := by decide +kernel
theorem dX7_shoesOf_1 : decode cX7_shoesOf 1 = .ok (.iload_n 1, 1) := by decide +kernel
theorem dX7_shoesOf_2 : decode cX7_shoesOf 2 = .ok (.invokevirtual 57, 3) := by decide +kernel
theorem dX7_shoesOf_5 : decode cX7_shoesOf 5 = .ok (.iconst 1, 1) := by decide +kernel
theorem dX7_shoesOf_6 : decode cX7_shoesOf 6 = .ok (.if_icmp .eq 7, 3) := by decide +kernel
theorem dX7_shoesOf_9 : decode cX7_shoesOf 9 = .ok (.iload_n 1, 1) := by decide +kernel
theorem dX7_shoesOf_10 : decode cX7_shoesOf 10 = .ok (.goto 22, 3) := by decide +kernel
theorem dX7_shoesOf_13 : decode cX7_shoesOf 13 = .ok (.iload_n 1, 1) := by decide +kernel
theorem dX7_shoesOf_14 : decode cX7_shoesOf 14 = .ok (.iconst 1, 1) := by decide +kernel
theorem dX7_shoesOf_15 : decode cX7_shoesOf 15 = .ok (.iadd, 1) := by decide +kernel
theorem dX7_shoesOf_16 : decode cX7_shoesOf 16 = .ok (.aload_n 0, 1) := by decide +kernel
theorem dX7_shoesOf_17 : decode cX7_shoesOf 17 = .ok (.getfield 7, 3) := by decide +kernel
theorem dX7_shoesOf_20 : decode cX7_shoesOf 20 = .ok (.iconst 5, 1) := by decide +kernel
theorem dX7_shoesOf_21 : decode cX7_shoesOf 21 = .ok (.iaload, 1) := by decide +kernel
theorem dX7_shoesOf_22 : decode cX7_shoesOf 22 = .ok (.if_icmp .ne 7, 3) := by decide +kernel
theorem dX7_shoesOf_25 : decode cX7_shoesOf 25 = .ok (.iconst 0, 1) := by decide +kernel
theorem dX7_shoesOf_26 : decode cX7_shoesOf 26 = .ok (.goto 6, 3) := by decide +kernel
theorem dX7_shoesOf_29 : decode cX7_shoesOf 29 = .ok (.iload_n 1, 1) := by decide +kernel
theorem dX7_shoesOf_30 : decode cX7_shoesOf 30 = .ok (.iconst 1, 1) := by decide +kernel
theorem dX7_shoesOf_31 : decode cX7_shoesOf 31 = .ok (.iadd, 1) := by decide +kernel
theorem dX7_shoesOf_32 : decode cX7_shoesOf 32 = .ok (.ireturn, 1) := by decide +kernel
def f_X7_shoesOf (p1 : Int32) (S : gSt) : Option (Int32 × gSt) :=
gBind2 (f_X7_kind p1 S) fun r3 S1 =>
(if r3 = (1 : Int32) then
if gin (5 : Int32) 416 then
((if (p1 + (1 : Int32)) = (S1.1 48 (5 : Int32).toNatClampNeg) then
some ((0 : Int32), S1)
else
some (p1 + (1 : Int32), S1))) else none
else
some (p1, S1))
set_option maxHeartbeats 4000000 in
set_option maxRecDepth 20000 in
theorem ok_X7_shoesOf {p1 : Int32} {S S0 : gSt} {r0 : Int32}  (h : f_X7_shoesOf p1 S = some (r0, S0)) : gCT yX7_shoesOf cX7_shoesOf 2 (some .int) 1 (fun w => [.ref (w.2.1 47), .int p1]) S (some (.int r0)) S0 := by
  refine gEnter (fun X => [some (.ref (gad X 47)), some (.int p1)]) (by decide) (fun X => ⟨rfl, rfl⟩) (fun w => Nat.le_of_ble_eq_true rfl) (fun X hp => ?_)
  show AW X RX7 1 cX7_shoesOf 0 [some (.ref (gad X 47)), some (.int p1)] [] S
  unfold f_X7_shoesOf at h
  refine a_aloadn (pc := 0) dX7_shoesOf_0 rfl rfl ?_
  refine a_iloadn (pc := 1) dX7_shoesOf_1 rfl rfl ?_
  obtain ⟨r3, S1, hc2, h⟩ := g_bind2 h
  refine a_invVi (pc := 2) (ok_X7_kind hc2) gyX7_kind vyX7_kind mlX7_57 sh_47 rfl (As := [.int p1]) rfl rfl (by decide) (st := []) rfl (Nat.le_of_ble_eq_true rfl) dX7_shoesOf_2 ?_
  refine a_iconst (pc := 5) (v := (1 : Int32)) dX7_shoesOf_5 (by decide) ?_
  refine a_icmp_eq (pc := 6) (tgt := 13) dX7_shoesOf_6 (by decide) (fun c4 => ?_) (fun c4 => ?_)
  · rw [if_pos c4] at h
    refine a_iloadn (pc := 13) dX7_shoesOf_13 rfl rfl ?_
    refine a_iconst (pc := 14) (v := (1 : Int32)) dX7_shoesOf_14 (by decide) ?_
    refine a_iadd (pc := 15) dX7_shoesOf_15 ?_
    refine a_aloadn (pc := 16) dX7_shoesOf_16 rfl rfl ?_
    refine a_getA (pc := 17) flX7_7 sh_47 rfl dX7_shoesOf_17 ?_
    refine a_iconst (pc := 20) (v := (5 : Int32)) dX7_shoesOf_20 (by decide) ?_
    obtain ⟨hi5, h⟩ := g_if h
    refine a_iald (pc := 21) sh_48 hi5 dX7_shoesOf_21 ?_
    refine a_icmp_ne (pc := 22) (tgt := 29) dX7_shoesOf_22 (by decide) (fun c6 => ?_) (fun c6 => ?_)
    · rw [if_neg c6] at h
      refine a_iloadn (pc := 29) dX7_shoesOf_29 rfl rfl ?_
      refine a_iconst (pc := 30) (v := (1 : Int32)) dX7_shoesOf_30 (by decide) ?_
      refine a_iadd (pc := 31) dX7_shoesOf_31 ?_
      obtain ⟨rfl, rfl⟩ := Prod.mk.inj (Option.some.inj h)
      exact a_iret hp dX7_shoesOf_32
    · rw [if_pos c6] at h
      refine a_iconst (pc := 25) (v := (0 : Int32)) dX7_shoesOf_25 (by decide) ?_
      refine a_goto (pc := 26) (tgt := 32) dX7_shoesOf_26 (by decide) ?_
      obtain ⟨rfl, rfl⟩ := Prod.mk.inj (Option.some.inj h)
      exact a_iret hp dX7_shoesOf_32
  · rw [if_neg c4] at h
    refine a_iloadn (pc := 9) dX7_shoesOf_9 rfl rfl ?_
    refine a_goto (pc := 10) (tgt := 32) dX7_shoesOf_10 (by decide) ?_
    obtain ⟨rfl, rfl⟩ := Prod.mk.inj (Option.some.inj h)
    exact a_iret hp dX7_shoesOf_32
theorem dX7_deep_0 : decode cX7_deep 0 = .ok (.aload_n 0, 1) := by decide +kernel
theorem dX7_deep_1 : decode cX7_deep 1 = .ok (.getfield 7, 3) := by decide +kernel
theorem dX7_deep_4 : decode cX7_deep 4 = .ok (.bipush 8, 2) := by decide +kernel
theorem dX7_deep_6 : decode cX7_deep 6 = .ok (.iconst 4, 1) := by decide +kernel
theorem dX7_deep_7 : decode cX7_deep 7 = .ok (.iload_n 1, 1) := by decide +kernel
theorem dX7_deep_8 : decode cX7_deep 8 = .ok (.imul, 1) := by decide +kernel
theorem dX7_deep_9 : decode cX7_deep 9 = .ok (.iadd, 1) := by decide +kernel
theorem dX7_deep_10 : decode cX7_deep 10 = .ok (.iconst 1, 1) := by decide +kernel
theorem dX7_deep_11 : decode cX7_deep 11 = .ok (.iadd, 1) := by decide +kernel
theorem dX7_deep_12 : decode cX7_deep 12 = .ok (.iaload, 1) := by decide +kernel
theorem dX7_deep_13 : decode cX7_deep 13 = .ok (.istore_n 2, 1) := by decide +kernel
theorem dX7_deep_14 : decode cX7_deep 14 = .ok (.aload_n 0, 1) := by decide +kernel
theorem dX7_deep_15 : decode cX7_deep 15 = .ok (.iload_n 1, 1) := by decide +kernel
theorem dX7_deep_16 : decode cX7_deep 16 = .ok (.invokevirtual 57, 3) := by decide +kernel
theorem dX7_deep_19 : decode cX7_deep 19 = .ok (.iconst 2, 1) := by decide +kernel
theorem dX7_deep_20 : decode cX7_deep 20 = .ok (.if_icmp .eq 12, 3) := by decide +kernel
theorem dX7_deep_23 : decode cX7_deep 23 = .ok (.aload_n 0, 1) := by decide +kernel
theorem dX7_deep_24 : decode cX7_deep 24 = .ok (.iload_n 1, 1) := by decide +kernel
theorem dX7_deep_25 : decode cX7_deep 25 = .ok (.invokevirtual 57, 3) := by decide +kernel
theorem dX7_deep_28 : decode cX7_deep 28 = .ok (.iconst 3, 1) := by decide +kernel
theorem dX7_deep_29 : decode cX7_deep 29 = .ok (.if_icmp .ne 9, 3) := by decide +kernel
theorem dX7_deep_32 : decode cX7_deep 32 = .ok (.iconst 2, 1) := by decide +kernel
theorem dX7_deep_33 : decode cX7_deep 33 = .ok (.iload_n 2, 1) := by decide +kernel
theorem dX7_deep_34 : decode cX7_deep 34 = .ok (.imul, 1) := by decide +kernel
theorem dX7_deep_35 : decode cX7_deep 35 = .ok (.goto 19, 3) := by decide +kernel
theorem dX7_deep_38 : decode cX7_deep 38 = .ok (.aload_n 0, 1) := by decide +kernel
theorem dX7_deep_39 : decode cX7_deep 39 = .ok (.iload_n 1, 1) := by decide +kernel
theorem dX7_deep_40 : decode cX7_deep 40 = .ok (.invokevirtual 57, 3) := by decide +kernel
theorem dX7_deep_43 : decode cX7_deep 43 = .ok (.iconst 4, 1) := by decide +kernel
theorem dX7_deep_44 : decode cX7_deep 44 = .ok (.if_icmp .ne 9, 3) := by decide +kernel
theorem dX7_deep_47 : decode cX7_deep 47 = .ok (.iload_n 2, 1) := by decide +kernel
theorem dX7_deep_48 : decode cX7_deep 48 = .ok (.iconst 1, 1) := by decide +kernel
theorem dX7_deep_49 : decode cX7_deep 49 = .ok (.iadd, 1) := by decide +kernel
theorem dX7_deep_50 : decode cX7_deep 50 = .ok (.goto 4, 3) := by decide +kernel
theorem dX7_deep_53 : decode cX7_deep 53 = .ok (.iload_n 2, 1) := by decide +kernel
theorem dX7_deep_54 : decode cX7_deep 54 = .ok (.ireturn, 1) := by decide +kernel
def f_X7_deep (p1 : Int32) (S : gSt) : Option (Int32 × gSt) :=
if gin (((8 : Int32) + ((4 : Int32) * p1)) + (1 : Int32)) 416 then
(gLet (S.1 48 (((8 : Int32) + ((4 : Int32) * p1)) + (1 : Int32)).toNatClampNeg) fun v2 =>
gBind2 (f_X7_kind p1 S) fun r5 S3 =>
(if r5 = (2 : Int32) then
some ((2 : Int32) * v2, S3)
else
gBind2 (f_X7_kind p1 S3) fun r9 S7 =>
(if r9 = (3 : Int32) then
some ((2 : Int32) * v2, S7)
else
gBind2 (f_X7_kind p1 S7) fun r13 S11 =>
(if r13 = (4 : Int32) then
some (v2 + (1 : Int32), S11)
else
some (v2, S11))))) else none
set_option maxHeartbeats 4000000 in
set_option maxRecDepth 20000 in
theorem ok_X7_deep {p1 : Int32} {S S0 : gSt} {r0 : Int32}  (h : f_X7_deep p1 S = some (r0, S0)) : gCT yX7_deep cX7_deep 3 (some .int) 1 (fun w => [.ref (w.2.1 47), .int p1]) S (some (.int r0)) S0 := by
  refine gEnter (fun X => [some (.ref (gad X 47)), some (.int p1), none]) (by decide) (fun X => ⟨rfl, rfl⟩) (fun w => Nat.le_of_ble_eq_true rfl) (fun X hp => ?_)
  show AW X RX7 1 cX7_deep 0 [some (.ref (gad X 47)), some (.int p1), none] [] S
  unfold f_X7_deep at h
  refine a_aloadn (pc := 0) dX7_deep_0 rfl rfl ?_
  refine a_getA (pc := 1) flX7_7 sh_47 rfl dX7_deep_1 ?_
  refine a_bipush (pc := 4) (v := (8 : Int32)) dX7_deep_4 (by decide) ?_
  refine a_iconst (pc := 6) (v := (4 : Int32)) dX7_deep_6 (by decide) ?_
  refine a_iloadn (pc := 7) dX7_deep_7 rfl rfl ?_
  refine a_imul (pc := 8) dX7_deep_8 ?_
  refine a_iadd (pc := 9) dX7_deep_9 ?_
  refine a_iconst (pc := 10) (v := (1 : Int32)) dX7_deep_10 (by decide) ?_
  refine a_iadd (pc := 11) dX7_deep_11 ?_
  obtain ⟨hi1, h⟩ := g_if h
  refine a_iald (pc := 12) sh_48 hi1 dX7_deep_12 ?_
  obtain ⟨v2, ev2, h⟩ := g_let h
  refine a_nmI ev2 ?_
  refine a_istoren (pc := 13) dX7_deep_13 rfl (Nat.le_of_ble_eq_true rfl) rfl (L' := [some (.ref (gad X 47)), some (.int p1), some (.int v2)]) rfl ?_
  refine a_aloadn (pc := 14) dX7_deep_14 rfl rfl ?_
  refine a_iloadn (pc := 15) dX7_deep_15 rfl rfl ?_
  obtain ⟨r5, S3, hc4, h⟩ := g_bind2 h
  refine a_invVi (pc := 16) (ok_X7_kind hc4) gyX7_kind vyX7_kind mlX7_57 sh_47 rfl (As := [.int p1]) rfl rfl (by decide) (st := []) rfl (Nat.le_of_ble_eq_true rfl) dX7_deep_16 ?_
  refine a_iconst (pc := 19) (v := (2 : Int32)) dX7_deep_19 (by decide) ?_
  refine a_icmp_eq (pc := 20) (tgt := 32) dX7_deep_20 (by decide) (fun c6 => ?_) (fun c6 => ?_)
  · rw [if_pos c6] at h
    refine a_iconst (pc := 32) (v := (2 : Int32)) dX7_deep_32 (by decide) ?_
    refine a_iloadn (pc := 33) dX7_deep_33 rfl rfl ?_
    refine a_imul (pc := 34) dX7_deep_34 ?_
    refine a_goto (pc := 35) (tgt := 54) dX7_deep_35 (by decide) ?_
    obtain ⟨rfl, rfl⟩ := Prod.mk.inj (Option.some.inj h)
    exact a_iret hp dX7_deep_54
  · rw [if_neg c6] at h
    refine a_aloadn (pc := 23) dX7_deep_23 rfl rfl ?_
    refine a_iloadn (pc := 24) dX7_deep_24 rfl rfl ?_
    obtain ⟨r9, S7, hc8, h⟩ := g_bind2 h
    refine a_invVi (pc := 25) (ok_X7_kind hc8) gyX7_kind vyX7_kind mlX7_57 sh_47 rfl (As := [.int p1]) rfl rfl (by decide) (st := []) rfl (Nat.le_of_ble_eq_true rfl) dX7_deep_25 ?_
    refine a_iconst (pc := 28) (v := (3 : Int32)) dX7_deep_28 (by decide) ?_
    refine a_icmp_ne (pc := 29) (tgt := 38) dX7_deep_29 (by decide) (fun c10 => ?_) (fun c10 => ?_)
    · rw [if_neg c10] at h
      refine a_aloadn (pc := 38) dX7_deep_38 rfl rfl ?_
      refine a_iloadn (pc := 39) dX7_deep_39 rfl rfl ?_
      obtain ⟨r13, S11, hc12, h⟩ := g_bind2 h
      refine a_invVi (pc := 40) (ok_X7_kind hc12) gyX7_kind vyX7_kind mlX7_57 sh_47 rfl (As := [.int p1]) rfl rfl (by decide) (st := []) rfl (Nat.le_of_ble_eq_true rfl) dX7_deep_40 ?_
      refine a_iconst (pc := 43) (v := (4 : Int32)) dX7_deep_43 (by decide) ?_
      refine a_icmp_ne (pc := 44) (tgt := 53) dX7_deep_44 (by decide) (fun c14 => ?_) (fun c14 => ?_)
      · rw [if_neg c14] at h
        refine a_iloadn (pc := 53) dX7_deep_53 rfl rfl ?_
        obtain ⟨rfl, rfl⟩ := Prod.mk.inj (Option.some.inj h)
        exact a_iret hp dX7_deep_54
      · rw [if_pos c14] at h
        refine a_iloadn (pc := 47) dX7_deep_47 rfl rfl ?_
        refine a_iconst (pc := 48) (v := (1 : Int32)) dX7_deep_48 (by decide) ?_
        refine a_iadd (pc := 49) dX7_deep_49 ?_
        refine a_goto (pc := 50) (tgt := 54) dX7_deep_50 (by decide) ?_
        obtain ⟨rfl, rfl⟩ := Prod.mk.inj (Option.some.inj h)
        exact a_iret hp dX7_deep_54
    · rw [if_pos c10] at h
      refine a_iconst (pc := 32) (v := (2 : Int32)) dX7_deep_32 (by decide) ?_
      refine a_iloadn (pc := 33) dX7_deep_33 rfl rfl ?_
      refine a_imul (pc := 34) dX7_deep_34 ?_
      refine a_goto (pc := 35) (tgt := 54) dX7_deep_35 (by decide) ?_
      obtain ⟨rfl, rfl⟩ := Prod.mk.inj (Option.some.inj h)
      exact a_iret hp dX7_deep_54
theorem dX7_of_0 : decode cX7_of 0 = .ok (.aload_n 0, 1) := by decide +kernel
theorem dX7_of_1 : decode cX7_of 1 = .ok (.iload_n 1, 1) := by decide +kernel
theorem dX7_of_2 : decode cX7_of 2 = .ok (.invokevirtual 82, 3) := by decide +kernel
theorem dX7_of_5 : decode cX7_of 5 = .ok (.ifCond .eq 15, 3) := by decide +kernel
theorem dX7_of_8 : decode cX7_of 8 = .ok (.iload_n 2, 1) := by decide +kernel
theorem dX7_of_9 : decode cX7_of 9 = .ok (.i2l, 1) := by decide +kernel
theorem dX7_of_10 : decode cX7_of 10 = .ok (.lconst 0, 1) := by decide +kernel
theorem dX7_of_11 : decode cX7_of 11 = .ok (.ldc2_w 85, 3) := by decide +kernel
theorem dX7_of_14 : decode cX7_of 14 = .ok (.invokestatic 51, 3) := by decide +kernel
theorem dX7_of_17 : decode cX7_of 17 = .ok (.ifCond .ne 5, 3) := by decide +kernel
theorem dX7_of_20 : decode cX7_of 20 = .ok (.iconst (-1), 1) := by decide +kernel
theorem dX7_of_21 : decode cX7_of 21 = .ok (.ireturn, 1) := by decide +kernel
theorem dX7_of_22 : decode cX7_of 22 = .ok (.iload_n 2, 1) := by decide +kernel
theorem dX7_of_23 : decode cX7_of 23 = .ok (.iconst 4, 1) := by decide +kernel
theorem dX7_of_24 : decode cX7_of 24 = .ok (.if_icmp .ge 19, 3) := by decide +kernel
theorem dX7_of_27 : decode cX7_of 27 = .ok (.aload_n 0, 1) := by decide +kernel
theorem dX7_of_28 : decode cX7_of 28 = .ok (.getfield 7, 3) := by decide +kernel
theorem dX7_of_31 : decode cX7_of 31 = .ok (.bipush 8, 2) := by decide +kernel
theorem dX7_of_33 : decode cX7_of 33 = .ok (.iconst 4, 1) := by decide +kernel
theorem dX7_of_34 : decode cX7_of 34 = .ok (.iload_n 1, 1) := by decide +kernel
theorem dX7_of_35 : decode cX7_of 35 = .ok (.imul, 1) := by decide +kernel
theorem dX7_of_36 : decode cX7_of 36 = .ok (.iadd, 1) := by decide +kernel
theorem dX7_of_37 : decode cX7_of 37 = .ok (.iload_n 2, 1) := by decide +kernel
theorem dX7_of_38 : decode cX7_of 38 = .ok (.iadd, 1) := by decide +kernel
theorem dX7_of_39 : decode cX7_of 39 = .ok (.iaload, 1) := by decide +kernel
theorem dX7_of_40 : decode cX7_of 40 = .ok (.goto 34, 3) := by decide +kernel
theorem dX7_of_43 : decode cX7_of 43 = .ok (.iload_n 2, 1) := by decide +kernel
theorem dX7_of_44 : decode cX7_of 44 = .ok (.iconst 4, 1) := by decide +kernel
theorem dX7_of_45 : decode cX7_of 45 = .ok (.if_icmp .ne 11, 3) := by decide +kernel
theorem dX7_of_48 : decode cX7_of 48 = .ok (.aload_n 0, 1) := by decide +kernel
theorem dX7_of_49 : decode cX7_of 49 = .ok (.iload_n 1, 1) := by decide +kernel
theorem dX7_of_50 : decode cX7_of 50 = .ok (.invokevirtual 87, 3) := by decide +kernel
theorem dX7_of_53 : decode cX7_of 53 = .ok (.goto 21, 3) := by decide +kernel
theorem dX7_of_56 : decode cX7_of 56 = .ok (.iload_n 2, 1) := by decide +kernel
theorem dX7_of_57 : decode cX7_of 57 = .ok (.iconst 5, 1) := by decide +kernel
theorem dX7_of_58 : decode cX7_of 58 = .ok (.if_icmp .ne 11, 3) := by decide +kernel
theorem dX7_of_61 : decode cX7_of 61 = .ok (.aload_n 0, 1) := by decide +kernel
theorem dX7_of_62 : decode cX7_of 62 = .ok (.iload_n 1, 1) := by decide +kernel
theorem dX7_of_63 : decode cX7_of 63 = .ok (.invokevirtual 90, 3) := by decide +kernel
theorem dX7_of_66 : decode cX7_of 66 = .ok (.goto 8, 3) := by decide +kernel
theorem dX7_of_69 : decode cX7_of 69 = .ok (.aload_n 0, 1) := by decide +kernel
theorem dX7_of_70 : decode cX7_of 70 = .ok (.iload_n 1, 1) := by decide +kernel
theorem dX7_of_71 : decode cX7_of 71 = .ok (.invokevirtual 93, 3) := by decide +kernel
theorem dX7_of_74 : decode cX7_of 74 = .ok (.ireturn, 1) := by decide +kernel
def f_X7_of (p1 : Int32) (p2 : Int32) (S : gSt) : Option (Int32 × gSt) :=
gBind2 (f_X7_isWalker p1 S) fun r3 S1 =>
(if r3 = 0 then
some ((-1 : Int32), S1)
else
gBind2 (f_X7_in (p2.toInt64) (0 : Int64) (6 : Int64) S1) fun r7 S5 =>
(if r7 = 0 then
some ((-1 : Int32), S5)
else
(if (4 : Int32) ≤ p2 then
(if p2 = (4 : Int32) then
gBind2 (f_X7_deep p1 S5) fun r20 S18 =>
some (r20, S18)
else
(if p2 = (5 : Int32) then
gBind2 (f_X7_shoesOf p1 S5) fun r17 S15 =>
some (r17, S15)
else
gBind2 (f_X7_landOf p1 S5) fun r14 S12 =>
some (r14, S12)))
else
if gin (((8 : Int32) + ((4 : Int32) * p1)) + p2) 416 then
(some (S5.1 48 (((8 : Int32) + ((4 : Int32) * p1)) + p2).toNatClampNeg, S5)) else none)))
set_option maxHeartbeats 4000000 in
set_option maxRecDepth 20000 in
theorem ok_X7_of {p1 : Int32} {p2 : Int32} {S S0 : gSt} {r0 : Int32}  (h : f_X7_of p1 p2 S = some (r0, S0)) : gCT yX7_of cX7_of 3 (some .int) 4 (fun w => [.ref (w.2.1 47), .int p1, .int p2]) S (some (.int r0)) S0 := by
  refine gEnter (fun X => [some (.ref (gad X 47)), some (.int p1), some (.int p2)]) (by decide) (fun X => ⟨rfl, rfl⟩) (fun w => Nat.le_of_ble_eq_true rfl) (fun X hp => ?_)
  show AW X RX7 4 cX7_of 0 [some (.ref (gad X 47)), some (.int p1), some (.int p2)] [] S
  unfold f_X7_of at h
  refine a_aloadn (pc := 0) dX7_of_0 rfl rfl ?_
  refine a_iloadn (pc := 1) dX7_of_1 rfl rfl ?_
  obtain ⟨r3, S1, hc2, h⟩ := g_bind2 h
  refine a_invVi (pc := 2) (ok_X7_isWalker hc2) gyX7_isWalker vyX7_isWalker mlX7_82 sh_47 rfl (As := [.int p1]) rfl rfl (by decide) (st := []) rfl (Nat.le_of_ble_eq_true rfl) dX7_of_2 ?_
  refine a_if_eq (pc := 5) (tgt := 20) dX7_of_5 (by decide) (fun c4 => ?_) (fun c4 => ?_)
  · rw [if_pos c4] at h
    refine a_iconst (pc := 20) (v := (-1 : Int32)) dX7_of_20 (by decide) ?_
    obtain ⟨rfl, rfl⟩ := Prod.mk.inj (Option.some.inj h)
    exact a_iret hp dX7_of_21
  · rw [if_neg c4] at h
    refine a_iloadn (pc := 8) dX7_of_8 rfl rfl ?_
    refine a_i2l (pc := 9) dX7_of_9 ?_
    refine a_lconst (pc := 10) (v := (0 : Int64)) dX7_of_10 (by decide) ?_
    refine a_ldc2 (pc := 11) kX7_85 dX7_of_11 ?_
    obtain ⟨r7, S5, hc6, h⟩ := g_bind2 h
    refine a_invSi (pc := 14) (ok_X7_in hc6) gyX7_in syX7_in mlX7_51 (As := [.long (p2.toInt64), .long (0 : Int64), .long (6 : Int64)]) rfl rfl (by decide) (st := []) rfl (Nat.le_of_ble_eq_true rfl) dX7_of_14 ?_
    refine a_if_ne (pc := 17) (tgt := 22) dX7_of_17 (by decide) (fun c8 => ?_) (fun c8 => ?_)
    · rw [if_neg c8] at h
      refine a_iloadn (pc := 22) dX7_of_22 rfl rfl ?_
      refine a_iconst (pc := 23) (v := (4 : Int32)) dX7_of_23 (by decide) ?_
      refine a_icmp_ge (pc := 24) (tgt := 43) dX7_of_24 (by decide) (fun c9 => ?_) (fun c9 => ?_)
      · rw [if_pos c9] at h
        refine a_iloadn (pc := 43) dX7_of_43 rfl rfl ?_
        refine a_iconst (pc := 44) (v := (4 : Int32)) dX7_of_44 (by decide) ?_
        refine a_icmp_ne (pc := 45) (tgt := 56) dX7_of_45 (by decide) (fun c10 => ?_) (fun c10 => ?_)
        · rw [if_neg c10] at h
          refine a_iloadn (pc := 56) dX7_of_56 rfl rfl ?_
          refine a_iconst (pc := 57) (v := (5 : Int32)) dX7_of_57 (by decide) ?_
          refine a_icmp_ne (pc := 58) (tgt := 69) dX7_of_58 (by decide) (fun c11 => ?_) (fun c11 => ?_)
          · rw [if_neg c11] at h
            refine a_aloadn (pc := 69) dX7_of_69 rfl rfl ?_
            refine a_iloadn (pc := 70) dX7_of_70 rfl rfl ?_
            obtain ⟨r14, S12, hc13, h⟩ := g_bind2 h
            refine a_invVi (pc := 71) (ok_X7_landOf hc13) gyX7_landOf vyX7_landOf mlX7_93 sh_47 rfl (As := [.int p1]) rfl rfl (by decide) (st := []) rfl (Nat.le_of_ble_eq_true rfl) dX7_of_71 ?_
            obtain ⟨rfl, rfl⟩ := Prod.mk.inj (Option.some.inj h)
            exact a_iret hp dX7_of_74
          · rw [if_pos c11] at h
            refine a_aloadn (pc := 61) dX7_of_61 rfl rfl ?_
            refine a_iloadn (pc := 62) dX7_of_62 rfl rfl ?_
            obtain ⟨r17, S15, hc16, h⟩ := g_bind2 h
            refine a_invVi (pc := 63) (ok_X7_shoesOf hc16) gyX7_shoesOf vyX7_shoesOf mlX7_90 sh_47 rfl (As := [.int p1]) rfl rfl (by decide) (st := []) rfl (Nat.le_of_ble_eq_true rfl) dX7_of_63 ?_
            refine a_goto (pc := 66) (tgt := 74) dX7_of_66 (by decide) ?_
            obtain ⟨rfl, rfl⟩ := Prod.mk.inj (Option.some.inj h)
            exact a_iret hp dX7_of_74
        · rw [if_pos c10] at h
          refine a_aloadn (pc := 48) dX7_of_48 rfl rfl ?_
          refine a_iloadn (pc := 49) dX7_of_49 rfl rfl ?_
          obtain ⟨r20, S18, hc19, h⟩ := g_bind2 h
          refine a_invVi (pc := 50) (ok_X7_deep hc19) gyX7_deep vyX7_deep mlX7_87 sh_47 rfl (As := [.int p1]) rfl rfl (by decide) (st := []) rfl (Nat.le_of_ble_eq_true rfl) dX7_of_50 ?_
          refine a_goto (pc := 53) (tgt := 74) dX7_of_53 (by decide) ?_
          obtain ⟨rfl, rfl⟩ := Prod.mk.inj (Option.some.inj h)
          exact a_iret hp dX7_of_74
      · rw [if_neg c9] at h
        refine a_aloadn (pc := 27) dX7_of_27 rfl rfl ?_
        refine a_getA (pc := 28) flX7_7 sh_47 rfl dX7_of_28 ?_
        refine a_bipush (pc := 31) (v := (8 : Int32)) dX7_of_31 (by decide) ?_
        refine a_iconst (pc := 33) (v := (4 : Int32)) dX7_of_33 (by decide) ?_
        refine a_iloadn (pc := 34) dX7_of_34 rfl rfl ?_
        refine a_imul (pc := 35) dX7_of_35 ?_
        refine a_iadd (pc := 36) dX7_of_36 ?_
        refine a_iloadn (pc := 37) dX7_of_37 rfl rfl ?_
        refine a_iadd (pc := 38) dX7_of_38 ?_
        obtain ⟨hi21, h⟩ := g_if h
        refine a_iald (pc := 39) sh_48 hi21 dX7_of_39 ?_
        refine a_goto (pc := 40) (tgt := 74) dX7_of_40 (by decide) ?_
        obtain ⟨rfl, rfl⟩ := Prod.mk.inj (Option.some.inj h)
        exact a_iret hp dX7_of_74
    · rw [if_pos c8] at h
      refine a_iconst (pc := 20) (v := (-1 : Int32)) dX7_of_20 (by decide) ?_
      obtain ⟨rfl, rfl⟩ := Prod.mk.inj (Option.some.inj h)
      exact a_iret hp dX7_of_21
