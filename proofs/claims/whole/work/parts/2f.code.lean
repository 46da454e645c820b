theorem dX6_isSheet_0 : decode cX6_isSheet 0 = .ok (.iload_n 0, 1) := by decide +kernel
theorem dX6_isSheet_1 : decode cX6_isSheet 1 = .ok (.ifCond .lt 12, 3) := by decide +kernel
theorem dX6_isSheet_4 : decode cX6_isSheet 4 = .ok (.iload_n 0, 1) := by decide +kernel
theorem dX6_isSheet_5 : decode cX6_isSheet 5 = .ok (.iconst 4, 1) := by decide +kernel
theorem dX6_isSheet_6 : decode cX6_isSheet 6 = .ok (.if_icmp .ge 7, 3) := by decide +kernel
theorem dX6_isSheet_9 : decode cX6_isSheet 9 = .ok (.iconst 1, 1) := by decide +kernel
theorem dX6_isSheet_10 : decode cX6_isSheet 10 = .ok (.goto 4, 3) := by decide +kernel
theorem dX6_isSheet_13 : decode cX6_isSheet 13 = .ok (.iconst 0, 1) := by decide +kernel
theorem dX6_isSheet_14 : decode cX6_isSheet 14 = .ok (.ireturn, 1) := by decide +kernel
def f_X6_isSheet (p0 : Int32) (S : gSt) : Option (Int32 × gSt) :=
(if p0 < 0 then
some ((0 : Int32), S)
else
(if (4 : Int32) ≤ p0 then
some ((0 : Int32), S)
else
some ((1 : Int32), S)))
set_option maxHeartbeats 4000000 in
set_option maxRecDepth 20000 in
theorem ok_X6_isSheet {p0 : Int32} {S S0 : gSt} {r0 : Int32}  (h : f_X6_isSheet p0 S = some (r0, S0)) : gCT yX6_isSheet cX6_isSheet 1 (some .boolean) 0 (fun w => [.int p0]) S (some (.int r0)) S0 := by
  refine gEnter (fun X => [some (.int p0)]) (by decide) (fun X => ⟨rfl, rfl⟩) (fun w => Nat.le_of_ble_eq_true rfl) (fun X hp => ?_)
  show AW X RX6 0 cX6_isSheet 0 [some (.int p0)] [] S
  unfold f_X6_isSheet at h
  refine a_iloadn (pc := 0) dX6_isSheet_0 rfl rfl ?_
  refine a_if_lt (pc := 1) (tgt := 13) dX6_isSheet_1 (by decide) (fun c1 => ?_) (fun c1 => ?_)
  · rw [if_pos c1] at h
    refine a_iconst (pc := 13) (v := (0 : Int32)) dX6_isSheet_13 (by decide) ?_
    obtain ⟨rfl, rfl⟩ := Prod.mk.inj (Option.some.inj h)
    exact a_zret hp rfl  dX6_isSheet_14
  · rw [if_neg c1] at h
    refine a_iloadn (pc := 4) dX6_isSheet_4 rfl rfl ?_
    refine a_iconst (pc := 5) (v := (4 : Int32)) dX6_isSheet_5 (by decide) ?_
    refine a_icmp_ge (pc := 6) (tgt := 13) dX6_isSheet_6 (by decide) (fun c2 => ?_) (fun c2 => ?_)
    · rw [if_pos c2] at h
      refine a_iconst (pc := 13) (v := (0 : Int32)) dX6_isSheet_13 (by decide) ?_
      obtain ⟨rfl, rfl⟩ := Prod.mk.inj (Option.some.inj h)
      exact a_zret hp rfl  dX6_isSheet_14
    · rw [if_neg c2] at h
      refine a_iconst (pc := 9) (v := (1 : Int32)) dX6_isSheet_9 (by decide) ?_
      refine a_goto (pc := 10) (tgt := 14) dX6_isSheet_10 (by decide) ?_
      obtain ⟨rfl, rfl⟩ := Prod.mk.inj (Option.some.inj h)
      exact a_zret hp rfl  dX6_isSheet_14
theorem dX2_isNothing_0 : decode cX2_isNothing 0 = .ok (.aload_n 0, 1) := by decide +kernel
theorem dX2_isNothing_1 : decode cX2_isNothing 1 = .ok (.getfield 15, 3) := by decide +kernel
theorem dX2_isNothing_4 : decode cX2_isNothing 4 = .ok (.ifCond .ge 7, 3) := by decide +kernel
theorem dX2_isNothing_7 : decode cX2_isNothing 7 = .ok (.iconst 1, 1) := by decide +kernel
theorem dX2_isNothing_8 : decode cX2_isNothing 8 = .ok (.goto 4, 3) := by decide +kernel
theorem dX2_isNothing_11 : decode cX2_isNothing 11 = .ok (.iconst 0, 1) := by decide +kernel
theorem dX2_isNothing_12 : decode cX2_isNothing 12 = .ok (.ireturn, 1) := by decide +kernel
def f_X2_isNothing (j : Nat) (S : gSt) : Option (Int32 × gSt) :=
(if 0 ≤ (S.1 (33 + j) 1) then
some ((0 : Int32), S)
else
some ((1 : Int32), S))
set_option maxHeartbeats 4000000 in
set_option maxRecDepth 20000 in
theorem ok_X2_isNothing {j : Nat} {S S0 : gSt} {r0 : Int32}  (hj : j < 4) (h : f_X2_isNothing j S = some (r0, S0)) : gCT yX2_isNothing cX2_isNothing 1 (some .boolean) 0 (fun w => [.ref (w.2.1 (33 + j))]) S (some (.int r0)) S0 := by
  refine gEnter (fun X => [some (.ref (gad X (33 + j)))]) (by decide) (fun X => ⟨rfl, rfl⟩) (fun w => Nat.le_of_ble_eq_true rfl) (fun X hp => ?_)
  show AW X RX2 0 cX2_isNothing 0 [some (.ref (gad X (33 + j)))] [] S
  unfold f_X2_isNothing at h
  refine a_aloadn (pc := 0) dX2_isNothing_0 rfl rfl ?_
  refine a_getI (pc := 1) flX2_15 (sh_sheet hj) rfl dX2_isNothing_1 ?_
  refine a_if_ge (pc := 4) (tgt := 11) dX2_isNothing_4 (by decide) (fun c1 => ?_) (fun c1 => ?_)
  · rw [if_pos c1] at h
    refine a_iconst (pc := 11) (v := (0 : Int32)) dX2_isNothing_11 (by decide) ?_
    obtain ⟨rfl, rfl⟩ := Prod.mk.inj (Option.some.inj h)
    exact a_zret hp rfl  dX2_isNothing_12
  · rw [if_neg c1] at h
    refine a_iconst (pc := 7) (v := (1 : Int32)) dX2_isNothing_7 (by decide) ?_
    refine a_goto (pc := 8) (tgt := 12) dX2_isNothing_8 (by decide) ?_
    obtain ⟨rfl, rfl⟩ := Prod.mk.inj (Option.some.inj h)
    exact a_zret hp rfl  dX2_isNothing_12
theorem dX2_spans_0 : decode cX2_spans 0 = .ok (.iload_n 1, 1) := by decide +kernel
theorem dX2_spans_1 : decode cX2_spans 1 = .ok (.ifCond .lt 21, 3) := by decide +kernel
theorem dX2_spans_4 : decode cX2_spans 4 = .ok (.iload_n 2, 1) := by decide +kernel
theorem dX2_spans_5 : decode cX2_spans 5 = .ok (.ifCond .lt 17, 3) := by decide +kernel
theorem dX2_spans_8 : decode cX2_spans 8 = .ok (.iload_n 2, 1) := by decide +kernel
theorem dX2_spans_9 : decode cX2_spans 9 = .ok (.aload_n 0, 1) := by decide +kernel
theorem dX2_spans_10 : decode cX2_spans 10 = .ok (.getfield 19, 3) := by decide +kernel
theorem dX2_spans_13 : decode cX2_spans 13 = .ok (.iload_n 1, 1) := by decide +kernel
theorem dX2_spans_14 : decode cX2_spans 14 = .ok (.isub, 1) := by decide +kernel
theorem dX2_spans_15 : decode cX2_spans 15 = .ok (.if_icmp .gt 7, 3) := by decide +kernel
theorem dX2_spans_18 : decode cX2_spans 18 = .ok (.iconst 1, 1) := by decide +kernel
theorem dX2_spans_19 : decode cX2_spans 19 = .ok (.goto 4, 3) := by decide +kernel
theorem dX2_spans_22 : decode cX2_spans 22 = .ok (.iconst 0, 1) := by decide +kernel
theorem dX2_spans_23 : decode cX2_spans 23 = .ok (.ireturn, 1) := by decide +kernel
def f_X2_spans (j : Nat) (p1 : Int32) (p2 : Int32) (S : gSt) : Option (Int32 × gSt) :=
(if p1 < 0 then
some ((0 : Int32), S)
else
(if p2 < 0 then
some ((0 : Int32), S)
else
(if ((S.1 (33 + j) 2) - p1) < p2 then
some ((0 : Int32), S)
else
some ((1 : Int32), S))))
set_option maxHeartbeats 4000000 in
set_option maxRecDepth 20000 in
theorem ok_X2_spans {j : Nat} {p1 : Int32} {p2 : Int32} {S S0 : gSt} {r0 : Int32}  (hj : j < 4) (h : f_X2_spans j p1 p2 S = some (r0, S0)) : gCT yX2_spans cX2_spans 3 (some .boolean) 0 (fun w => [.ref (w.2.1 (33 + j)), .int p1, .int p2]) S (some (.int r0)) S0 := by
  refine gEnter (fun X => [some (.ref (gad X (33 + j))), some (.int p1), some (.int p2)]) (by decide) (fun X => ⟨rfl, rfl⟩) (fun w => Nat.le_of_ble_eq_true rfl) (fun X hp => ?_)
  show AW X RX2 0 cX2_spans 0 [some (.ref (gad X (33 + j))), some (.int p1), some (.int p2)] [] S
  unfold f_X2_spans at h
  refine a_iloadn (pc := 0) dX2_spans_0 rfl rfl ?_
  refine a_if_lt (pc := 1) (tgt := 22) dX2_spans_1 (by decide) (fun c1 => ?_) (fun c1 => ?_)
  · rw [if_pos c1] at h
    refine a_iconst (pc := 22) (v := (0 : Int32)) dX2_spans_22 (by decide) ?_
    obtain ⟨rfl, rfl⟩ := Prod.mk.inj (Option.some.inj h)
    exact a_zret hp rfl  dX2_spans_23
  · rw [if_neg c1] at h
    refine a_iloadn (pc := 4) dX2_spans_4 rfl rfl ?_
    refine a_if_lt (pc := 5) (tgt := 22) dX2_spans_5 (by decide) (fun c2 => ?_) (fun c2 => ?_)
    · rw [if_pos c2] at h
      refine a_iconst (pc := 22) (v := (0 : Int32)) dX2_spans_22 (by decide) ?_
      obtain ⟨rfl, rfl⟩ := Prod.mk.inj (Option.some.inj h)
      exact a_zret hp rfl  dX2_spans_23
    · rw [if_neg c2] at h
      refine a_iloadn (pc := 8) dX2_spans_8 rfl rfl ?_
      refine a_aloadn (pc := 9) dX2_spans_9 rfl rfl ?_
      refine a_getI (pc := 10) flX2_19 (sh_sheet hj) rfl dX2_spans_10 ?_
      refine a_iloadn (pc := 13) dX2_spans_13 rfl rfl ?_
      refine a_isub (pc := 14) dX2_spans_14 ?_
      refine a_icmp_gt (pc := 15) (tgt := 22) dX2_spans_15 (by decide) (fun c3 => ?_) (fun c3 => ?_)
      · rw [if_pos c3] at h
        refine a_iconst (pc := 22) (v := (0 : Int32)) dX2_spans_22 (by decide) ?_
        obtain ⟨rfl, rfl⟩ := Prod.mk.inj (Option.some.inj h)
        exact a_zret hp rfl  dX2_spans_23
      · rw [if_neg c3] at h
        refine a_iconst (pc := 18) (v := (1 : Int32)) dX2_spans_18 (by decide) ?_
        refine a_goto (pc := 19) (tgt := 23) dX2_spans_19 (by decide) ?_
        obtain ⟨rfl, rfl⟩ := Prod.mk.inj (Option.some.inj h)
        exact a_zret hp rfl  dX2_spans_23
theorem dX6_itemsFault_0 : decode cX6_itemsFault 0 = .ok (.iload_n 1, 1) := by decide +kernel
theorem dX6_itemsFault_1 : decode cX6_itemsFault 1 = .ok (.invokestatic 245, 3) := by decide +kernel
theorem dX6_itemsFault_4 : decode cX6_itemsFault 4 = .ok (.ifCond .eq 12, 3) := by decide +kernel
theorem dX6_itemsFault_7 : decode cX6_itemsFault 7 = .ok (.iload_n 2, 1) := by decide +kernel
theorem dX6_itemsFault_8 : decode cX6_itemsFault 8 = .ok (.ifCond .lt 8, 3) := by decide +kernel
theorem dX6_itemsFault_11 : decode cX6_itemsFault 11 = .ok (.iload_n 2, 1) := by decide +kernel
theorem dX6_itemsFault_12 : decode cX6_itemsFault 12 = .ok (.iconst 3, 1) := by decide +kernel
theorem dX6_itemsFault_13 : decode cX6_itemsFault 13 = .ok (.if_icmp .le 5, 3) := by decide +kernel
theorem dX6_itemsFault_16 : decode cX6_itemsFault 16 = .ok (.iconst (-1), 1) := by decide +kernel
theorem dX6_itemsFault_17 : decode cX6_itemsFault 17 = .ok (.ireturn, 1) := by decide +kernel
theorem dX6_itemsFault_18 : decode cX6_itemsFault 18 = .ok (.aload_n 0, 1) := by decide +kernel
theorem dX6_itemsFault_19 : decode cX6_itemsFault 19 = .ok (.getfield 32, 3) := by decide +kernel
theorem dX6_itemsFault_22 : decode cX6_itemsFault 22 = .ok (.iload_n 1, 1) := by decide +kernel
theorem dX6_itemsFault_23 : decode cX6_itemsFault 23 = .ok (.aaload, 1) := by decide +kernel
theorem dX6_itemsFault_24 : decode cX6_itemsFault 24 = .ok (.invokevirtual 250, 3) := by decide +kernel
theorem dX6_itemsFault_27 : decode cX6_itemsFault 27 = .ok (.ifCond .eq 6, 3) := by decide +kernel
theorem dX6_itemsFault_30 : decode cX6_itemsFault 30 = .ok (.bipush (-11), 2) := by decide +kernel
theorem dX6_itemsFault_32 : decode cX6_itemsFault 32 = .ok (.ireturn, 1) := by decide +kernel
theorem dX6_itemsFault_33 : decode cX6_itemsFault 33 = .ok (.aload_n 0, 1) := by decide +kernel
theorem dX6_itemsFault_34 : decode cX6_itemsFault 34 = .ok (.getfield 32, 3) := by decide +kernel
theorem dX6_itemsFault_37 : decode cX6_itemsFault 37 = .ok (.iload_n 1, 1) := by decide +kernel
theorem dX6_itemsFault_38 : decode cX6_itemsFault 38 = .ok (.aaload, 1) := by decide +kernel
theorem dX6_itemsFault_39 : decode cX6_itemsFault 39 = .ok (.getfield 261, 3) := by decide +kernel
theorem dX6_itemsFault_42 : decode cX6_itemsFault 42 = .ok (.iload_n 2, 1) := by decide +kernel
theorem dX6_itemsFault_43 : decode cX6_itemsFault 43 = .ok (.if_icmp .eq 6, 3) := by decide +kernel
theorem dX6_itemsFault_46 : decode cX6_itemsFault 46 = .ok (.bipush (-12), 2) := by decide +kernel
theorem dX6_itemsFault_48 : decode cX6_itemsFault 48 = .ok (.ireturn, 1) := by decide +kernel
theorem dX6_itemsFault_49 : decode cX6_itemsFault 49 = .ok (.aload_n 0, 1) := by decide +kernel
theorem dX6_itemsFault_50 : decode cX6_itemsFault 50 = .ok (.getfield 32, 3) := by decide +kernel
theorem dX6_itemsFault_53 : decode cX6_itemsFault 53 = .ok (.iload_n 1, 1) := by decide +kernel
theorem dX6_itemsFault_54 : decode cX6_itemsFault 54 = .ok (.aaload, 1) := by decide +kernel
theorem dX6_itemsFault_55 : decode cX6_itemsFault 55 = .ok (.iload_n 3, 1) := by decide +kernel
theorem dX6_itemsFault_56 : decode cX6_itemsFault 56 = .ok (.iload 4, 2) := by decide +kernel
theorem dX6_itemsFault_58 : decode cX6_itemsFault 58 = .ok (.invokevirtual 264, 3) := by decide +kernel
theorem dX6_itemsFault_61 : decode cX6_itemsFault 61 = .ok (.ifCond .eq 7, 3) := by decide +kernel
theorem dX6_itemsFault_64 : decode cX6_itemsFault 64 = .ok (.iconst 0, 1) := by decide +kernel
theorem dX6_itemsFault_65 : decode cX6_itemsFault 65 = .ok (.goto 5, 3) := by decide +kernel
theorem dX6_itemsFault_68 : decode cX6_itemsFault 68 = .ok (.bipush (-13), 2) := by decide +kernel
theorem dX6_itemsFault_70 : decode cX6_itemsFault 70 = .ok (.ireturn, 1) := by decide +kernel
def f_X6_itemsFault (p1 : Int32) (p2 : Int32) (p3 : Int32) (p4 : Int32) (S : gSt) : Option (Int32 × gSt) :=
gBind2 (f_X6_isSheet p1 S) fun r3 S1 =>
(if r3 = 0 then
some ((-1 : Int32), S1)
else
(if p2 < 0 then
some ((-1 : Int32), S1)
else
(if p2 ≤ (3 : Int32) then
if gin p1 4 then
(gBind2 (f_X2_isNothing (p1.toNatClampNeg) S1) fun r10 S8 =>
(if r10 = 0 then
if gin p1 4 then
((if (S8.1 (33 + (p1.toNatClampNeg)) 1) = p2 then
if gin p1 4 then
(gBind2 (f_X2_spans (p1.toNatClampNeg) p3 p4 S8) fun r17 S15 =>
(if r17 = 0 then
some ((-13 : Int32), S15)
else
some ((0 : Int32), S15))) else none
else
some ((-12 : Int32), S8))) else none
else
some ((-11 : Int32), S8))) else none
else
some ((-1 : Int32), S1))))
set_option maxHeartbeats 4000000 in
set_option maxRecDepth 20000 in
theorem ok_X6_itemsFault {p1 : Int32} {p2 : Int32} {p3 : Int32} {p4 : Int32} {S S0 : gSt} {r0 : Int32}  (h : f_X6_itemsFault p1 p2 p3 p4 S = some (r0, S0)) : gCT yX6_itemsFault cX6_itemsFault 5 (some .int) 1 (fun w => [.ref (w.2.1 0), .int p1, .int p2, .int p3, .int p4]) S (some (.int r0)) S0 := by
  refine gEnter (fun X => [some (.ref (gad X 0)), some (.int p1), some (.int p2), some (.int p3), some (.int p4)]) (by decide) (fun X => ⟨rfl, rfl⟩) (fun w => Nat.le_of_ble_eq_true rfl) (fun X hp => ?_)
  show AW X RX6 1 cX6_itemsFault 0 [some (.ref (gad X 0)), some (.int p1), some (.int p2), some (.int p3), some (.int p4)] [] S
  unfold f_X6_itemsFault at h
  refine a_iloadn (pc := 0) dX6_itemsFault_0 rfl rfl ?_
  obtain ⟨r3, S1, hc2, h⟩ := g_bind2 h
  refine a_invSi (pc := 1) (ok_X6_isSheet hc2) gyX6_isSheet syX6_isSheet mlX6_245 (As := [.int p1]) rfl rfl (by decide) (st := []) rfl (Nat.le_of_ble_eq_true rfl) dX6_itemsFault_1 ?_
  refine a_if_eq (pc := 4) (tgt := 16) dX6_itemsFault_4 (by decide) (fun c4 => ?_) (fun c4 => ?_)
  · rw [if_pos c4] at h
    refine a_iconst (pc := 16) (v := (-1 : Int32)) dX6_itemsFault_16 (by decide) ?_
    obtain ⟨rfl, rfl⟩ := Prod.mk.inj (Option.some.inj h)
    exact a_iret hp dX6_itemsFault_17
  · rw [if_neg c4] at h
    refine a_iloadn (pc := 7) dX6_itemsFault_7 rfl rfl ?_
    refine a_if_lt (pc := 8) (tgt := 16) dX6_itemsFault_8 (by decide) (fun c5 => ?_) (fun c5 => ?_)
    · rw [if_pos c5] at h
      refine a_iconst (pc := 16) (v := (-1 : Int32)) dX6_itemsFault_16 (by decide) ?_
      obtain ⟨rfl, rfl⟩ := Prod.mk.inj (Option.some.inj h)
      exact a_iret hp dX6_itemsFault_17
    · rw [if_neg c5] at h
      refine a_iloadn (pc := 11) dX6_itemsFault_11 rfl rfl ?_
      refine a_iconst (pc := 12) (v := (3 : Int32)) dX6_itemsFault_12 (by decide) ?_
      refine a_icmp_le (pc := 13) (tgt := 18) dX6_itemsFault_13 (by decide) (fun c6 => ?_) (fun c6 => ?_)
      · rw [if_pos c6] at h
        refine a_aloadn (pc := 18) dX6_itemsFault_18 rfl rfl ?_
        refine a_getA (pc := 19) flX6_32 sh_0 rfl dX6_itemsFault_19 ?_
        refine a_iloadn (pc := 22) dX6_itemsFault_22 rfl rfl ?_
        obtain ⟨hi7, h⟩ := g_if h
        refine a_aald (pc := 23) sh_32 hi7 dX6_itemsFault_23 ?_
        obtain ⟨r10, S8, hc9, h⟩ := g_bind2 h
        refine a_invVi (pc := 24) (ok_X2_isNothing (gin_lt hi7) hc9) gyX2_isNothing vyX2_isNothing mlX6_250 (sh_sheet (gin_lt hi7)) rfl (As := []) rfl rfl (by decide) (st := []) rfl (Nat.le_of_ble_eq_true rfl) dX6_itemsFault_24 ?_
        refine a_if_eq (pc := 27) (tgt := 33) dX6_itemsFault_27 (by decide) (fun c11 => ?_) (fun c11 => ?_)
        · rw [if_pos c11] at h
          refine a_aloadn (pc := 33) dX6_itemsFault_33 rfl rfl ?_
          refine a_getA (pc := 34) flX6_32 sh_0 rfl dX6_itemsFault_34 ?_
          refine a_iloadn (pc := 37) dX6_itemsFault_37 rfl rfl ?_
          obtain ⟨hi12, h⟩ := g_if h
          refine a_aald (pc := 38) sh_32 hi12 dX6_itemsFault_38 ?_
          refine a_getI (pc := 39) flX6_261 (sh_sheet (gin_lt hi12)) rfl dX6_itemsFault_39 ?_
          refine a_iloadn (pc := 42) dX6_itemsFault_42 rfl rfl ?_
          refine a_icmp_eq (pc := 43) (tgt := 49) dX6_itemsFault_43 (by decide) (fun c13 => ?_) (fun c13 => ?_)
          · rw [if_pos c13] at h
            refine a_aloadn (pc := 49) dX6_itemsFault_49 rfl rfl ?_
            refine a_getA (pc := 50) flX6_32 sh_0 rfl dX6_itemsFault_50 ?_
            refine a_iloadn (pc := 53) dX6_itemsFault_53 rfl rfl ?_
            obtain ⟨hi14, h⟩ := g_if h
            refine a_aald (pc := 54) sh_32 hi14 dX6_itemsFault_54 ?_
            refine a_iloadn (pc := 55) dX6_itemsFault_55 rfl rfl ?_
            refine a_iload (pc := 56) dX6_itemsFault_56 rfl ?_
            obtain ⟨r17, S15, hc16, h⟩ := g_bind2 h
            refine a_invVi (pc := 58) (ok_X2_spans (gin_lt hi14) hc16) gyX2_spans vyX2_spans mlX6_264 (sh_sheet (gin_lt hi14)) rfl (As := [.int p3, .int p4]) rfl rfl (by decide) (st := []) rfl (Nat.le_of_ble_eq_true rfl) dX6_itemsFault_58 ?_
            refine a_if_eq (pc := 61) (tgt := 68) dX6_itemsFault_61 (by decide) (fun c18 => ?_) (fun c18 => ?_)
            · rw [if_pos c18] at h
              refine a_bipush (pc := 68) (v := (-13 : Int32)) dX6_itemsFault_68 (by decide) ?_
              obtain ⟨rfl, rfl⟩ := Prod.mk.inj (Option.some.inj h)
              exact a_iret hp dX6_itemsFault_70
            · rw [if_neg c18] at h
              refine a_iconst (pc := 64) (v := (0 : Int32)) dX6_itemsFault_64 (by decide) ?_
              refine a_goto (pc := 65) (tgt := 70) dX6_itemsFault_65 (by decide) ?_
              obtain ⟨rfl, rfl⟩ := Prod.mk.inj (Option.some.inj h)
              exact a_iret hp dX6_itemsFault_70
          · rw [if_neg c13] at h
            refine a_bipush (pc := 46) (v := (-12 : Int32)) dX6_itemsFault_46 (by decide) ?_
            obtain ⟨rfl, rfl⟩ := Prod.mk.inj (Option.some.inj h)
            exact a_iret hp dX6_itemsFault_48
        · rw [if_neg c11] at h
          refine a_bipush (pc := 30) (v := (-11 : Int32)) dX6_itemsFault_30 (by decide) ?_
          obtain ⟨rfl, rfl⟩ := Prod.mk.inj (Option.some.inj h)
          exact a_iret hp dX6_itemsFault_32
      · rw [if_neg c6] at h
        refine a_iconst (pc := 16) (v := (-1 : Int32)) dX6_itemsFault_16 (by decide) ?_
        obtain ⟨rfl, rfl⟩ := Prod.mk.inj (Option.some.inj h)
        exact a_iret hp dX6_itemsFault_17
theorem dX2_isWithin_0 : decode cX2_isWithin 0 = .ok (.aload_n 0, 1) := by decide +kernel
theorem dX2_isWithin_1 : decode cX2_isWithin 1 = .ok (.getfield 9, 3) := by decide +kernel
theorem dX2_isWithin_4 : decode cX2_isWithin 4 = .ok (.iload_n 1, 1) := by decide +kernel
theorem dX2_isWithin_5 : decode cX2_isWithin 5 = .ok (.laload, 1) := by decide +kernel
theorem dX2_isWithin_6 : decode cX2_isWithin 6 = .ok (.lconst 0, 1) := by decide +kernel
theorem dX2_isWithin_7 : decode cX2_isWithin 7 = .ok (.lcmp, 1) := by decide +kernel
theorem dX2_isWithin_8 : decode cX2_isWithin 8 = .ok (.ifCond .lt 19, 3) := by decide +kernel
theorem dX2_isWithin_11 : decode cX2_isWithin 11 = .ok (.aload_n 0, 1) := by decide +kernel
theorem dX2_isWithin_12 : decode cX2_isWithin 12 = .ok (.getfield 9, 3) := by decide +kernel
theorem dX2_isWithin_15 : decode cX2_isWithin 15 = .ok (.iload_n 1, 1) := by decide +kernel
theorem dX2_isWithin_16 : decode cX2_isWithin 16 = .ok (.laload, 1) := by decide +kernel
theorem dX2_isWithin_17 : decode cX2_isWithin 17 = .ok (.iload_n 2, 1) := by decide +kernel
theorem dX2_isWithin_18 : decode cX2_isWithin 18 = .ok (.i2l, 1) := by decide +kernel
theorem dX2_isWithin_19 : decode cX2_isWithin 19 = .ok (.lcmp, 1) := by decide +kernel
theorem dX2_isWithin_20 : decode cX2_isWithin 20 = .ok (.ifCond .gt 7, 3) := by decide +kernel
theorem dX2_isWithin_23 : decode cX2_isWithin 23 = .ok (.iconst 1, 1) := by decide +kernel
theorem dX2_isWithin_24 : decode cX2_isWithin 24 = .ok (.goto 4, 3) := by decide +kernel
theorem dX2_isWithin_27 : decode cX2_isWithin 27 = .ok (.iconst 0, 1) := by decide +kernel
theorem dX2_isWithin_28 : decode cX2_isWithin 28 = .ok (.ireturn, 1) := by decide +kernel
def f_X2_isWithin (j : Nat) (p1 : Int32) (p2 : Int32) (S : gSt) : Option (Int32 × gSt) :=
if gin p1 24 then
((if (lg_cmp (S.2 (37 + j) p1.toNatClampNeg) (0 : Int64)) < 0 then
some ((0 : Int32), S)
else
if gin p1 24 then
((if 0 < (lg_cmp (S.2 (37 + j) p1.toNatClampNeg) (p2.toInt64)) then
some ((0 : Int32), S)
else
some ((1 : Int32), S))) else none)) else none
set_option maxHeartbeats 4000000 in
set_option maxRecDepth 20000 in
theorem ok_X2_isWithin {j : Nat} {p1 : Int32} {p2 : Int32} {S S0 : gSt} {r0 : Int32}  (hj : j < 4) (h : f_X2_isWithin j p1 p2 S = some (r0, S0)) : gCT yX2_isWithin cX2_isWithin 3 (some .boolean) 0 (fun w => [.ref (w.2.1 (33 + j)), .int p1, .int p2]) S (some (.int r0)) S0 := by
  refine gEnter (fun X => [some (.ref (gad X (33 + j))), some (.int p1), some (.int p2)]) (by decide) (fun X => ⟨rfl, rfl⟩) (fun w => Nat.le_of_ble_eq_true rfl) (fun X hp => ?_)
  show AW X RX2 0 cX2_isWithin 0 [some (.ref (gad X (33 + j))), some (.int p1), some (.int p2)] [] S
  unfold f_X2_isWithin at h
  refine a_aloadn (pc := 0) dX2_isWithin_0 rfl rfl ?_
  refine a_getA (pc := 1) flX2_9 (sh_sheet hj) rfl dX2_isWithin_1 ?_
  refine a_iloadn (pc := 4) dX2_isWithin_4 rfl rfl ?_
  obtain ⟨hi1, h⟩ := g_if h
  refine a_lald (pc := 5) (sh_items hj) hi1 dX2_isWithin_5 ?_
  refine a_lconst (pc := 6) (v := (0 : Int64)) dX2_isWithin_6 (by decide) ?_
  refine a_lcmp (pc := 7) dX2_isWithin_7 ?_
  refine a_if_lt (pc := 8) (tgt := 27) dX2_isWithin_8 (by decide) (fun c2 => ?_) (fun c2 => ?_)
  · rw [if_pos c2] at h
    refine a_iconst (pc := 27) (v := (0 : Int32)) dX2_isWithin_27 (by decide) ?_
    obtain ⟨rfl, rfl⟩ := Prod.mk.inj (Option.some.inj h)
    exact a_zret hp rfl  dX2_isWithin_28
  · rw [if_neg c2] at h
    refine a_aloadn (pc := 11) dX2_isWithin_11 rfl rfl ?_
    refine a_getA (pc := 12) flX2_9 (sh_sheet hj) rfl dX2_isWithin_12 ?_
    refine a_iloadn (pc := 15) dX2_isWithin_15 rfl rfl ?_
    obtain ⟨hi3, h⟩ := g_if h
    refine a_lald (pc := 16) (sh_items hj) hi3 dX2_isWithin_16 ?_
    refine a_iloadn (pc := 17) dX2_isWithin_17 rfl rfl ?_
    refine a_i2l (pc := 18) dX2_isWithin_18 ?_
    refine a_lcmp (pc := 19) dX2_isWithin_19 ?_
    refine a_if_gt (pc := 20) (tgt := 27) dX2_isWithin_20 (by decide) (fun c4 => ?_) (fun c4 => ?_)
    · rw [if_pos c4] at h
      refine a_iconst (pc := 27) (v := (0 : Int32)) dX2_isWithin_27 (by decide) ?_
      obtain ⟨rfl, rfl⟩ := Prod.mk.inj (Option.some.inj h)
      exact a_zret hp rfl  dX2_isWithin_28
    · rw [if_neg c4] at h
      refine a_iconst (pc := 23) (v := (1 : Int32)) dX2_isWithin_23 (by decide) ?_
      refine a_goto (pc := 24) (tgt := 28) dX2_isWithin_24 (by decide) ?_
      obtain ⟨rfl, rfl⟩ := Prod.mk.inj (Option.some.inj h)
      exact a_zret hp rfl  dX2_isWithin_28
theorem dX6_isLandOfAll_0 : decode cX6_isLandOfAll 0 = .ok (.iconst 0, 1) := by decide +kernel
theorem dX6_isLandOfAll_1 : decode cX6_isLandOfAll 1 = .ok (.istore_n 3, 1) := by decide +kernel
theorem dX6_isLandOfAll_2 : decode cX6_isLandOfAll 2 = .ok (.iload_n 3, 1) := by decide +kernel
theorem dX6_isLandOfAll_3 : decode cX6_isLandOfAll 3 = .ok (.aload_n 0, 1) := by decide +kernel
theorem dX6_isLandOfAll_4 : decode cX6_isLandOfAll 4 = .ok (.getfield 12, 3) := by decide +kernel
theorem dX6_isLandOfAll_7 : decode cX6_isLandOfAll 7 = .ok (.getfield 55, 3) := by decide +kernel
theorem dX6_isLandOfAll_10 : decode cX6_isLandOfAll 10 = .ok (.if_icmp .ge 33, 3) := by decide +kernel
theorem dX6_isLandOfAll_13 : decode cX6_isLandOfAll 13 = .ok (.aload_n 1, 1) := by decide +kernel
theorem dX6_isLandOfAll_14 : decode cX6_isLandOfAll 14 = .ok (.getfield 237, 3) := by decide +kernel
theorem dX6_isLandOfAll_17 : decode cX6_isLandOfAll 17 = .ok (.iload_n 2, 1) := by decide +kernel
theorem dX6_isLandOfAll_18 : decode cX6_isLandOfAll 18 = .ok (.iload_n 3, 1) := by decide +kernel
theorem dX6_isLandOfAll_19 : decode cX6_isLandOfAll 19 = .ok (.iadd, 1) := by decide +kernel
theorem dX6_isLandOfAll_20 : decode cX6_isLandOfAll 20 = .ok (.laload, 1) := by decide +kernel
theorem dX6_isLandOfAll_21 : decode cX6_isLandOfAll 21 = .ok (.aload_n 0, 1) := by decide +kernel
theorem dX6_isLandOfAll_22 : decode cX6_isLandOfAll 22 = .ok (.getfield 39, 3) := by decide +kernel
theorem dX6_isLandOfAll_25 : decode cX6_isLandOfAll 25 = .ok (.getfield 99, 3) := by decide +kernel
theorem dX6_isLandOfAll_28 : decode cX6_isLandOfAll 28 = .ok (.iload_n 3, 1) := by decide +kernel
theorem dX6_isLandOfAll_29 : decode cX6_isLandOfAll 29 = .ok (.iaload, 1) := by decide +kernel
theorem dX6_isLandOfAll_30 : decode cX6_isLandOfAll 30 = .ok (.i2l, 1) := by decide +kernel
theorem dX6_isLandOfAll_31 : decode cX6_isLandOfAll 31 = .ok (.lcmp, 1) := by decide +kernel
theorem dX6_isLandOfAll_32 : decode cX6_isLandOfAll 32 = .ok (.ifCond .eq 5, 3) := by decide +kernel
theorem dX6_isLandOfAll_35 : decode cX6_isLandOfAll 35 = .ok (.iconst 0, 1) := by decide +kernel
theorem dX6_isLandOfAll_36 : decode cX6_isLandOfAll 36 = .ok (.ireturn, 1) := by decide +kernel
theorem dX6_isLandOfAll_37 : decode cX6_isLandOfAll 37 = .ok (.iinc 3 1, 3) := by decide +kernel
theorem dX6_isLandOfAll_40 : decode cX6_isLandOfAll 40 = .ok (.goto (-38), 3) := by decide +kernel
theorem dX6_isLandOfAll_43 : decode cX6_isLandOfAll 43 = .ok (.iconst 1, 1) := by decide +kernel
theorem dX6_isLandOfAll_44 : decode cX6_isLandOfAll 44 = .ok (.ireturn, 1) := by decide +kernel
def f_X6_isLandOfAll_s2_b (j : Nat) (x2 : Int32) (x3 : Int32) (S : gSt) : Option ((Int32 × Int32 × gSt) ⊕ ((Int32 × gSt) ⊕ (gSt))) :=
(if (S.1 1 7) ≤ x3 then
some (.inr (.inr (S)))
else
if gin (x2 + x3) 24 then
(if gin x3 6 then
((if (lg_cmp (S.2 (37 + j) (x2 + x3).toNatClampNeg) ((S.1 43 x3.toNatClampNeg).toInt64)) = 0 then
some (.inl (x2, x3 + (1 : Int32), S))
else
some (.inr (.inl ((0 : Int32), S))))) else none) else none)
def f_X6_isLandOfAll_s2 (j : Nat) : (Int32 × Int32 × gSt) → Option ((Int32 × Int32 × gSt) ⊕ ((Int32 × gSt) ⊕ (gSt))) := fun t => f_X6_isLandOfAll_s2_b j t.1 t.2.1 t.2.2
def f_X6_isLandOfAll (j : Nat) (p2 : Int32) (S : gSt) : Option (Int32 × gSt) :=
(gLoop (f_X6_isLandOfAll_s2 j) gFuel (p2, (0 : Int32), S)).bind fun q5 => match q5 with
| .inl (v5, T5) => some (v5, T5)
| .inr S5 =>
some ((1 : Int32), S5)
set_option maxHeartbeats 4000000 in
set_option maxRecDepth 20000 in
theorem ok_X6_isLandOfAll {j : Nat} {p2 : Int32} {S S0 : gSt} {r0 : Int32}  (hj : j < 4) (h : f_X6_isLandOfAll j p2 S = some (r0, S0)) : gCT yX6_isLandOfAll cX6_isLandOfAll 4 (some .boolean) 0 (fun w => [.ref (w.2.1 0), .ref (w.2.1 (33 + j)), .int p2]) S (some (.int r0)) S0 := by
  refine gEnter (fun X => [some (.ref (gad X 0)), some (.ref (gad X (33 + j))), some (.int p2), none]) (by decide) (fun X => ⟨rfl, rfl⟩) (fun w => Nat.le_of_ble_eq_true rfl) (fun X hp => ?_)
  show AW X RX6 0 cX6_isLandOfAll 0 [some (.ref (gad X 0)), some (.ref (gad X (33 + j))), some (.int p2), none] [] S
  unfold f_X6_isLandOfAll at h
  refine a_iconst (pc := 0) (v := (0 : Int32)) dX6_isLandOfAll_0 (by decide) ?_
  refine a_istoren (pc := 1) dX6_isLandOfAll_1 rfl (Nat.le_of_ble_eq_true rfl) rfl (L' := [some (.ref (gad X 0)), some (.ref (gad X (33 + j))), some (.int p2), some (.int (0 : Int32))]) rfl ?_
  obtain ⟨R5, hR5, h⟩ := g_bind h
  have E2 : ∀  (S5 : gSt), (some ((1 : Int32), S5)) = some (r0, S0) → AW X RX6 0 cX6_isLandOfAll 43 [none, none, none, none] [] S5 := by
    intro S5 h
    refine a_iconst (pc := 43) (v := (1 : Int32)) dX6_isLandOfAll_43 (by decide) ?_
    obtain ⟨rfl, rfl⟩ := Prod.mk.inj (Option.some.inj h)
    exact a_zret hp rfl  dX6_isLandOfAll_44
  have lp : ∀ (n : Nat) (x2 : Int32) (x3 : Int32) (S : gSt), gLoop (f_X6_isLandOfAll_s2 j) n (x2, x3, S) = some R5 → AW X RX6 0 cX6_isLandOfAll 2 [some (.ref (gad X 0)), some (.ref (gad X (33 + j))), some (.int x2), some (.int x3)] [] S := by
    intro n
    induction n with
    | zero => intro x2 x3 S hR; cases hR
    | succ n ih =>
      intro x2 x3 S hR
      obtain ⟨q, hs, hR⟩ := g_bind hR
      have hs : f_X6_isLandOfAll_s2_b j x2 x3 S = some q := hs
      unfold f_X6_isLandOfAll_s2_b at hs
      refine a_iloadn (pc := 2) dX6_isLandOfAll_2 rfl rfl ?_
      refine a_aloadn (pc := 3) dX6_isLandOfAll_3 rfl rfl ?_
      refine a_getA (pc := 4) flX6_12 sh_0 rfl dX6_isLandOfAll_4 ?_
      refine a_getI (pc := 7) flX6_55 sh_1 rfl dX6_isLandOfAll_7 ?_
      refine a_icmp_ge (pc := 10) (tgt := 43) dX6_isLandOfAll_10 (by decide) (fun c1 => ?_) (fun c1 => ?_)
      · rw [if_pos c1] at hs
        obtain rfl := Option.some.inj hs
        obtain rfl := Option.some.inj hR
        refine a_mask [false, false, false, false] (L' := [none, none, none, none]) rfl ?_
        exact E2  _ h
      · rw [if_neg c1] at hs
        refine a_aloadn (pc := 13) dX6_isLandOfAll_13 rfl rfl ?_
        refine a_getA (pc := 14) flX6_237 (sh_sheet hj) rfl dX6_isLandOfAll_14 ?_
        refine a_iloadn (pc := 17) dX6_isLandOfAll_17 rfl rfl ?_
        refine a_iloadn (pc := 18) dX6_isLandOfAll_18 rfl rfl ?_
        refine a_iadd (pc := 19) dX6_isLandOfAll_19 ?_
        obtain ⟨hi2, hs⟩ := g_if hs
        refine a_lald (pc := 20) (sh_items hj) hi2 dX6_isLandOfAll_20 ?_
        refine a_aloadn (pc := 21) dX6_isLandOfAll_21 rfl rfl ?_
        refine a_getA (pc := 22) flX6_39 sh_0 rfl dX6_isLandOfAll_22 ?_
        refine a_getA (pc := 25) flX6_99 sh_41 rfl dX6_isLandOfAll_25 ?_
        refine a_iloadn (pc := 28) dX6_isLandOfAll_28 rfl rfl ?_
        obtain ⟨hi3, hs⟩ := g_if hs
        refine a_iald (pc := 29) sh_43 hi3 dX6_isLandOfAll_29 ?_
        refine a_i2l (pc := 30) dX6_isLandOfAll_30 ?_
        refine a_lcmp (pc := 31) dX6_isLandOfAll_31 ?_
        refine a_if_eq (pc := 32) (tgt := 37) dX6_isLandOfAll_32 (by decide) (fun c4 => ?_) (fun c4 => ?_)
        · rw [if_pos c4] at hs
          refine a_iinc (pc := 37) dX6_isLandOfAll_37 rfl (v := x3 + (1 : Int32)) rfl (Nat.le_of_ble_eq_true rfl) rfl (L' := [some (.ref (gad X 0)), some (.ref (gad X (33 + j))), some (.int x2), some (.int (x3 + (1 : Int32)))]) rfl ?_
          refine a_goto (pc := 40) (tgt := 2) dX6_isLandOfAll_40 (by decide) ?_
          obtain rfl := Option.some.inj hs
          exact ih _ _ _ hR
        · rw [if_neg c4] at hs
          refine a_iconst (pc := 35) (v := (0 : Int32)) dX6_isLandOfAll_35 (by decide) ?_
          obtain rfl := Option.some.inj hs
          obtain rfl := Option.some.inj hR
          obtain ⟨rfl, rfl⟩ := Prod.mk.inj (Option.some.inj h)
          exact a_zret hp rfl  dX6_isLandOfAll_36
  exact lp _ _ _ _ hR5
theorem dX6_raked_0 : decode cX6_raked 0 = .ok (.iload 4, 2) := by decide +kernel
theorem dX6_raked_2 : decode cX6_raked 2 = .ok (.ifCond .lt 9, 3) := by decide +kernel
theorem dX6_raked_5 : decode cX6_raked 5 = .ok (.iload 4, 2) := by decide +kernel
theorem dX6_raked_7 : decode cX6_raked 7 = .ok (.iconst 1, 1) := by decide +kernel
theorem dX6_raked_8 : decode cX6_raked 8 = .ok (.if_icmp .le 5, 3) := by decide +kernel
theorem dX6_raked_11 : decode cX6_raked 11 = .ok (.iconst (-1), 1) := by decide +kernel
theorem dX6_raked_12 : decode cX6_raked 12 = .ok (.ireturn, 1) := by decide +kernel
theorem dX6_raked_13 : decode cX6_raked 13 = .ok (.aload_n 0, 1) := by decide +kernel
theorem dX6_raked_14 : decode cX6_raked 14 = .ok (.iload_n 1, 1) := by decide +kernel
theorem dX6_raked_15 : decode cX6_raked 15 = .ok (.iload_n 2, 1) := by decide +kernel
theorem dX6_raked_16 : decode cX6_raked 16 = .ok (.iload_n 3, 1) := by decide +kernel
theorem dX6_raked_17 : decode cX6_raked 17 = .ok (.aload_n 0, 1) := by decide +kernel
theorem dX6_raked_18 : decode cX6_raked 18 = .ok (.getfield 12, 3) := by decide +kernel
theorem dX6_raked_21 : decode cX6_raked 21 = .ok (.getfield 55, 3) := by decide +kernel
theorem dX6_raked_24 : decode cX6_raked 24 = .ok (.invokevirtual 218, 3) := by decide +kernel
theorem dX6_raked_27 : decode cX6_raked 27 = .ok (.istore 5, 2) := by decide +kernel
theorem dX6_raked_29 : decode cX6_raked 29 = .ok (.iload 5, 2) := by decide +kernel
theorem dX6_raked_31 : decode cX6_raked 31 = .ok (.ifCond .ge 6, 3) := by decide +kernel
theorem dX6_raked_34 : decode cX6_raked 34 = .ok (.iload 5, 2) := by decide +kernel
theorem dX6_raked_36 : decode cX6_raked 36 = .ok (.ireturn, 1) := by decide +kernel
theorem dX6_raked_37 : decode cX6_raked 37 = .ok (.iconst 0, 1) := by decide +kernel
theorem dX6_raked_38 : decode cX6_raked 38 = .ok (.istore 6, 2) := by decide +kernel
theorem dX6_raked_40 : decode cX6_raked 40 = .ok (.iload 6, 2) := by decide +kernel
theorem dX6_raked_42 : decode cX6_raked 42 = .ok (.aload_n 0, 1) := by decide +kernel
theorem dX6_raked_43 : decode cX6_raked 43 = .ok (.getfield 12, 3) := by decide +kernel
theorem dX6_raked_46 : decode cX6_raked 46 = .ok (.getfield 55, 3) := by decide +kernel
theorem dX6_raked_49 : decode cX6_raked 49 = .ok (.if_icmp .ge 30, 3) := by decide +kernel
theorem dX6_raked_52 : decode cX6_raked 52 = .ok (.aload_n 0, 1) := by decide +kernel
theorem dX6_raked_53 : decode cX6_raked 53 = .ok (.getfield 32, 3) := by decide +kernel
theorem dX6_raked_56 : decode cX6_raked 56 = .ok (.iload_n 1, 1) := by decide +kernel
theorem dX6_raked_57 : decode cX6_raked 57 = .ok (.aaload, 1) := by decide +kernel
theorem dX6_raked_58 : decode cX6_raked 58 = .ok (.iload_n 3, 1) := by decide +kernel
theorem dX6_raked_59 : decode cX6_raked 59 = .ok (.iload 6, 2) := by decide +kernel
theorem dX6_raked_61 : decode cX6_raked 61 = .ok (.iadd, 1) := by decide +kernel
theorem dX6_raked_62 : decode cX6_raked 62 = .ok (.bipush 64, 2) := by decide +kernel
theorem dX6_raked_64 : decode cX6_raked 64 = .ok (.invokevirtual 222, 3) := by decide +kernel
theorem dX6_raked_67 : decode cX6_raked 67 = .ok (.ifCond .ne 6, 3) := by decide +kernel
theorem dX6_raked_70 : decode cX6_raked 70 = .ok (.bipush (-2), 2) := by decide +kernel
theorem dX6_raked_72 : decode cX6_raked 72 = .ok (.ireturn, 1) := by decide +kernel
theorem dX6_raked_73 : decode cX6_raked 73 = .ok (.iinc 6 1, 3) := by decide +kernel
theorem dX6_raked_76 : decode cX6_raked 76 = .ok (.goto (-36), 3) := by decide +kernel
theorem dX6_raked_79 : decode cX6_raked 79 = .ok (.aload_n 0, 1) := by decide +kernel
theorem dX6_raked_80 : decode cX6_raked 80 = .ok (.getfield 39, 3) := by decide +kernel
theorem dX6_raked_83 : decode cX6_raked 83 = .ok (.aload_n 0, 1) := by decide +kernel
theorem dX6_raked_84 : decode cX6_raked 84 = .ok (.getfield 12, 3) := by decide +kernel
theorem dX6_raked_87 : decode cX6_raked 87 = .ok (.iconst 0, 1) := by decide +kernel
theorem dX6_raked_88 : decode cX6_raked 88 = .ok (.invokevirtual 95, 3) := by decide +kernel
theorem dX6_raked_91 : decode cX6_raked 91 = .ok (.aload_n 0, 1) := by decide +kernel
theorem dX6_raked_92 : decode cX6_raked 92 = .ok (.aload_n 0, 1) := by decide +kernel
theorem dX6_raked_93 : decode cX6_raked 93 = .ok (.getfield 32, 3) := by decide +kernel
theorem dX6_raked_96 : decode cX6_raked 96 = .ok (.iload_n 1, 1) := by decide +kernel
theorem dX6_raked_97 : decode cX6_raked 97 = .ok (.aaload, 1) := by decide +kernel
theorem dX6_raked_98 : decode cX6_raked 98 = .ok (.iload_n 3, 1) := by decide +kernel
theorem dX6_raked_99 : decode cX6_raked 99 = .ok (.invokevirtual 226, 3) := by decide +kernel
theorem dX6_raked_102 : decode cX6_raked 102 = .ok (.istore 6, 2) := by decide +kernel
theorem dX6_raked_104 : decode cX6_raked 104 = .ok (.iconst 0, 1) := by decide +kernel
theorem dX6_raked_105 : decode cX6_raked 105 = .ok (.istore 7, 2) := by decide +kernel
theorem dX6_raked_107 : decode cX6_raked 107 = .ok (.bipush (-4), 2) := by decide +kernel
theorem dX6_raked_109 : decode cX6_raked 109 = .ok (.istore 8, 2) := by decide +kernel
theorem dX6_raked_111 : decode cX6_raked 111 = .ok (.bipush 63, 2) := by decide +kernel
theorem dX6_raked_113 : decode cX6_raked 113 = .ok (.istore 9, 2) := by decide +kernel
theorem dX6_raked_115 : decode cX6_raked 115 = .ok (.iload 9, 2) := by decide +kernel
theorem dX6_raked_117 : decode cX6_raked 117 = .ok (.ifCond .lt 64, 3) := by decide +kernel
theorem dX6_raked_120 : decode cX6_raked 120 = .ok (.iload 6, 2) := by decide +kernel
theorem dX6_raked_122 : decode cX6_raked 122 = .ok (.istore 10, 2) := by decide +kernel
theorem dX6_raked_124 : decode cX6_raked 124 = .ok (.aload_n 0, 1) := by decide +kernel
theorem dX6_raked_125 : decode cX6_raked 125 = .ok (.getfield 12, 3) := by decide +kernel
theorem dX6_raked_128 : decode cX6_raked 128 = .ok (.iload 9, 2) := by decide +kernel
theorem dX6_raked_130 : decode cX6_raked 130 = .ok (.invokevirtual 230, 3) := by decide +kernel
theorem dX6_raked_133 : decode cX6_raked 133 = .ok (.ifCond .eq 30, 3) := by decide +kernel
theorem dX6_raked_136 : decode cX6_raked 136 = .ok (.aload_n 0, 1) := by decide +kernel
theorem dX6_raked_137 : decode cX6_raked 137 = .ok (.getfield 39, 3) := by decide +kernel
theorem dX6_raked_140 : decode cX6_raked 140 = .ok (.aload_n 0, 1) := by decide +kernel
theorem dX6_raked_141 : decode cX6_raked 141 = .ok (.getfield 12, 3) := by decide +kernel
theorem dX6_raked_144 : decode cX6_raked 144 = .ok (.iconst 0, 1) := by decide +kernel
theorem dX6_raked_145 : decode cX6_raked 145 = .ok (.iload 9, 2) := by decide +kernel
theorem dX6_raked_147 : decode cX6_raked 147 = .ok (.invokevirtual 233, 3) := by decide +kernel
theorem dX6_raked_150 : decode cX6_raked 150 = .ok (.aload_n 0, 1) := by decide +kernel
theorem dX6_raked_151 : decode cX6_raked 151 = .ok (.aload_n 0, 1) := by decide +kernel
theorem dX6_raked_152 : decode cX6_raked 152 = .ok (.getfield 32, 3) := by decide +kernel
theorem dX6_raked_155 : decode cX6_raked 155 = .ok (.iload_n 1, 1) := by decide +kernel
theorem dX6_raked_156 : decode cX6_raked 156 = .ok (.aaload, 1) := by decide +kernel
theorem dX6_raked_157 : decode cX6_raked 157 = .ok (.iload_n 3, 1) := by decide +kernel
theorem dX6_raked_158 : decode cX6_raked 158 = .ok (.invokevirtual 226, 3) := by decide +kernel
theorem dX6_raked_161 : decode cX6_raked 161 = .ok (.istore 10, 2) := by decide +kernel
theorem dX6_raked_163 : decode cX6_raked 163 = .ok (.iload 10, 2) := by decide +kernel
theorem dX6_raked_165 : decode cX6_raked 165 = .ok (.ifCond .eq 10, 3) := by decide +kernel
theorem dX6_raked_168 : decode cX6_raked 168 = .ok (.iinc 7 1, 3) := by decide +kernel
theorem dX6_raked_171 : decode cX6_raked 171 = .ok (.iload 9, 2) := by decide +kernel
theorem dX6_raked_173 : decode cX6_raked 173 = .ok (.istore 8, 2) := by decide +kernel
theorem dX6_raked_175 : decode cX6_raked 175 = .ok (.iinc 9 (-1), 3) := by decide +kernel
theorem dX6_raked_178 : decode cX6_raked 178 = .ok (.goto (-63), 3) := by decide +kernel
theorem dX6_raked_181 : decode cX6_raked 181 = .ok (.iload 4, 2) := by decide +kernel
theorem dX6_raked_183 : decode cX6_raked 183 = .ok (.ifCond .ne 8, 3) := by decide +kernel
theorem dX6_raked_186 : decode cX6_raked 186 = .ok (.iload 7, 2) := by decide +kernel
theorem dX6_raked_188 : decode cX6_raked 188 = .ok (.goto 5, 3) := by decide +kernel
theorem dX6_raked_191 : decode cX6_raked 191 = .ok (.iload 8, 2) := by decide +kernel
theorem dX6_raked_193 : decode cX6_raked 193 = .ok (.ireturn, 1) := by decide +kernel
def f_X6_raked_s40_b (x1 : Int32) (x3 : Int32) (x4 : Int32) (x6 : Int32) (S : gSt) : Option ((Int32 × Int32 × Int32 × Int32 × gSt) ⊕ ((Int32 × gSt) ⊕ (Int32 × Int32 × Int32 × gSt))) :=
(if (S.1 1 7) ≤ x6 then
some (.inr (.inr (x1, x3, x4, S)))
else
if gin x1 4 then
(gBind2 (f_X2_isWithin (x1.toNatClampNeg) (x3 + x6) (64 : Int32) S) fun r11 S9 =>
(if r11 = 0 then
some (.inr (.inl ((-2 : Int32), S9)))
else
some (.inl (x1, x3, x4, x6 + (1 : Int32), S9)))) else none)
def f_X6_raked_s40 : (Int32 × Int32 × Int32 × Int32 × gSt) → Option ((Int32 × Int32 × Int32 × Int32 × gSt) ⊕ ((Int32 × gSt) ⊕ (Int32 × Int32 × Int32 × gSt))) := fun t => f_X6_raked_s40_b t.1 t.2.1 t.2.2.1 t.2.2.2.1 t.2.2.2.2
def f_X6_raked_s115_b (x1 : Int32) (x3 : Int32) (x4 : Int32) (x6 : Int32) (x7 : Int32) (x8 : Int32) (x9 : Int32) (S : gSt) : Option ((Int32 × Int32 × Int32 × Int32 × Int32 × Int32 × Int32 × gSt) ⊕ (Int32 × Int32 × Int32 × gSt)) :=
(if x9 < 0 then
some (.inr (x4, x7, x8, S))
else
gBind2 (f_X0_isTrodden x9 S) fun r23 S21 =>
(if r23 = 0 then
(if x6 = 0 then
some (.inl (x1, x3, x4, x6, x7, x8, x9 + (-1 : Int32), S21))
else
some (.inl (x1, x3, x4, x6, x7 + (1 : Int32), x9, x9 + (-1 : Int32), S21)))
else
(f_X3_lookWithout (0 : Int32) x9 S21).bind fun S26 =>
if gin x1 4 then
(gBind2 (f_X6_isLandOfAll (x1.toNatClampNeg) x3 S26) fun r31 S29 =>
(if r31 = 0 then
some (.inl (x1, x3, x4, x6, x7, x8, x9 + (-1 : Int32), S29))
else
some (.inl (x1, x3, x4, x6, x7 + (1 : Int32), x9, x9 + (-1 : Int32), S29)))) else none))
def f_X6_raked_s115 : (Int32 × Int32 × Int32 × Int32 × Int32 × Int32 × Int32 × gSt) → Option ((Int32 × Int32 × Int32 × Int32 × Int32 × Int32 × Int32 × gSt) ⊕ (Int32 × Int32 × Int32 × gSt)) := fun t => f_X6_raked_s115_b t.1 t.2.1 t.2.2.1 t.2.2.2.1 t.2.2.2.2.1 t.2.2.2.2.2.1 t.2.2.2.2.2.2.1 t.2.2.2.2.2.2.2
def f_X6_raked (p1 : Int32) (p2 : Int32) (p3 : Int32) (p4 : Int32) (S : gSt) : Option (Int32 × gSt) :=
(if p4 < 0 then
some ((-1 : Int32), S)
else
(if p4 ≤ (1 : Int32) then
gBind2 (f_X6_itemsFault p1 p2 p3 (S.1 1 7) S) fun r5 S3 =>
(if 0 ≤ r5 then
(gLoop (f_X6_raked_s40) gFuel (p1, p3, p4, (0 : Int32), S3)).bind fun q13 => match q13 with
| .inl (v13, T13) => some (v13, T13)
| .inr (y1_13, y3_13, y4_13, S13) =>
(f_X3_look (0 : Int32) S13).bind fun S14 =>
if gin y1_13 4 then
(gBind2 (f_X6_isLandOfAll (y1_13.toNatClampNeg) y3_13 S14) fun r19 S17 =>
(gLoop (f_X6_raked_s115) gFuel (y1_13, y3_13, y4_13, r19, (0 : Int32), (-4 : Int32), (63 : Int32), S17)).bind fun q33 => match q33 with
| (y4_33, y7_33, y8_33, S33) =>
(if y4_33 = 0 then
some (y7_33, S33)
else
some (y8_33, S33))) else none
else
some (r5, S3))
else
some ((-1 : Int32), S)))
set_option maxHeartbeats 4000000 in
set_option maxRecDepth 20000 in
theorem ok_X6_raked {p1 : Int32} {p2 : Int32} {p3 : Int32} {p4 : Int32} {S S0 : gSt} {r0 : Int32}  (h : f_X6_raked p1 p2 p3 p4 S = some (r0, S0)) : gCT yX6_raked cX6_raked 11 (some .int) 4 (fun w => [.ref (w.2.1 0), .int p1, .int p2, .int p3, .int p4]) S (some (.int r0)) S0 := by
  refine gEnter (fun X => [some (.ref (gad X 0)), some (.int p1), some (.int p2), some (.int p3), some (.int p4), none, none, none, none, none, none]) (by decide) (fun X => ⟨rfl, rfl⟩) (fun w => Nat.le_of_ble_eq_true rfl) (fun X hp => ?_)
  show AW X RX6 4 cX6_raked 0 [some (.ref (gad X 0)), some (.int p1), some (.int p2), some (.int p3), some (.int p4), none, none, none, none, none, none] [] S
  unfold f_X6_raked at h
  refine a_iload (pc := 0) dX6_raked_0 rfl ?_
  refine a_if_lt (pc := 2) (tgt := 11) dX6_raked_2 (by decide) (fun c1 => ?_) (fun c1 => ?_)
  · rw [if_pos c1] at h
    refine a_iconst (pc := 11) (v := (-1 : Int32)) dX6_raked_11 (by decide) ?_
    obtain ⟨rfl, rfl⟩ := Prod.mk.inj (Option.some.inj h)
    exact a_iret hp dX6_raked_12
  · rw [if_neg c1] at h
    refine a_iload (pc := 5) dX6_raked_5 rfl ?_
    refine a_iconst (pc := 7) (v := (1 : Int32)) dX6_raked_7 (by decide) ?_
    refine a_icmp_le (pc := 8) (tgt := 13) dX6_raked_8 (by decide) (fun c2 => ?_) (fun c2 => ?_)
    · rw [if_pos c2] at h
      refine a_aloadn (pc := 13) dX6_raked_13 rfl rfl ?_
      refine a_iloadn (pc := 14) dX6_raked_14 rfl rfl ?_
      refine a_iloadn (pc := 15) dX6_raked_15 rfl rfl ?_
      refine a_iloadn (pc := 16) dX6_raked_16 rfl rfl ?_
      refine a_aloadn (pc := 17) dX6_raked_17 rfl rfl ?_
      refine a_getA (pc := 18) flX6_12 sh_0 rfl dX6_raked_18 ?_
      refine a_getI (pc := 21) flX6_55 sh_1 rfl dX6_raked_21 ?_
      obtain ⟨r5, S3, hc4, h⟩ := g_bind2 h
      refine a_invVi (pc := 24) (ok_X6_itemsFault hc4) gyX6_itemsFault vyX6_itemsFault mlX6_218 sh_0 rfl (As := [.int p1, .int p2, .int p3, .int (S.1 1 7)]) rfl rfl (by decide) (st := []) rfl (Nat.le_of_ble_eq_true rfl) dX6_raked_24 ?_
      refine a_istore (pc := 27) dX6_raked_27 (Nat.le_of_ble_eq_true rfl) rfl (L' := [some (.ref (gad X 0)), some (.int p1), some (.int p2), some (.int p3), some (.int p4), some (.int r5), none, none, none, none, none]) rfl ?_
      refine a_iload (pc := 29) dX6_raked_29 rfl ?_
      refine a_if_ge (pc := 31) (tgt := 37) dX6_raked_31 (by decide) (fun c6 => ?_) (fun c6 => ?_)
      · rw [if_pos c6] at h
        refine a_iconst (pc := 37) (v := (0 : Int32)) dX6_raked_37 (by decide) ?_
        refine a_istore (pc := 38) dX6_raked_38 (Nat.le_of_ble_eq_true rfl) rfl (L' := [some (.ref (gad X 0)), some (.int p1), some (.int p2), some (.int p3), some (.int p4), some (.int r5), some (.int (0 : Int32)), none, none, none, none]) rfl ?_
        obtain ⟨R13, hR13, h⟩ := g_bind h
        refine a_mask [true, true, false, true, true, false, true, true, true, true, true] (L' := [some (.ref (gad X 0)), some (.int p1), none, some (.int p3), some (.int p4), none, some (.int (0 : Int32)), none, none, none, none]) rfl ?_
        have E40 : ∀ (y1_13 : Int32) (y3_13 : Int32) (y4_13 : Int32) (S13 : gSt), ((f_X3_look (0 : Int32) S13).bind fun S14 => if gin y1_13 4 then (gBind2 (f_X6_isLandOfAll (y1_13.toNatClampNeg) y3_13 S14) fun r19 S17 => (gLoop (f_X6_raked_s115) gFuel (y1_13, y3_13, y4_13, r19, (0 : Int32), (-4 : Int32), (63 : Int32), S17)).bind fun q33 => match q33 with | (y4_33, y7_33, y8_33, S33) => (if y4_33 = 0 then some (y7_33, S33) else some (y8_33, S33))) else none) = some (r0, S0) → AW X RX6 4 cX6_raked 79 [some (.ref (gad X 0)), some (.int y1_13), none, some (.int y3_13), some (.int y4_13), none, none, none, none, none, none] [] S13 := by
          intro y1_13 y3_13 y4_13 S13 h
          refine a_aloadn (pc := 79) dX6_raked_79 rfl rfl ?_
          refine a_getA (pc := 80) flX6_39 sh_0 rfl dX6_raked_80 ?_
          refine a_aloadn (pc := 83) dX6_raked_83 rfl rfl ?_
          refine a_getA (pc := 84) flX6_12 sh_0 rfl dX6_raked_84 ?_
          refine a_iconst (pc := 87) (v := (0 : Int32)) dX6_raked_87 (by decide) ?_
          obtain ⟨S14, hc15, h⟩ := g_bind h
          refine a_invVv (pc := 88) (ok_X3_look hc15) gyX3_look vyX3_look mlX6_95 sh_41 rfl (As := [.ref (gad X 1), .int (0 : Int32)]) rfl rfl (by decide) (st := []) rfl (Nat.le_of_ble_eq_true rfl) dX6_raked_88 ?_
          refine a_aloadn (pc := 91) dX6_raked_91 rfl rfl ?_
          refine a_aloadn (pc := 92) dX6_raked_92 rfl rfl ?_
          refine a_getA (pc := 93) flX6_32 sh_0 rfl dX6_raked_93 ?_
          refine a_iloadn (pc := 96) dX6_raked_96 rfl rfl ?_
          obtain ⟨hi16, h⟩ := g_if h
          refine a_aald (pc := 97) sh_32 hi16 dX6_raked_97 ?_
          refine a_iloadn (pc := 98) dX6_raked_98 rfl rfl ?_
          obtain ⟨r19, S17, hc18, h⟩ := g_bind2 h
          refine a_invVi (pc := 99) (ok_X6_isLandOfAll (gin_lt hi16) hc18) gyX6_isLandOfAll vyX6_isLandOfAll mlX6_226 sh_0 rfl (As := [.ref (gad X (33 + (y1_13.toNatClampNeg))), .int y3_13]) rfl rfl (by decide) (st := []) rfl (Nat.le_of_ble_eq_true rfl) dX6_raked_99 ?_
          refine a_istore (pc := 102) dX6_raked_102 (Nat.le_of_ble_eq_true rfl) rfl (L' := [some (.ref (gad X 0)), some (.int y1_13), none, some (.int y3_13), some (.int y4_13), none, some (.int r19), none, none, none, none]) rfl ?_
          refine a_iconst (pc := 104) (v := (0 : Int32)) dX6_raked_104 (by decide) ?_
          refine a_istore (pc := 105) dX6_raked_105 (Nat.le_of_ble_eq_true rfl) rfl (L' := [some (.ref (gad X 0)), some (.int y1_13), none, some (.int y3_13), some (.int y4_13), none, some (.int r19), some (.int (0 : Int32)), none, none, none]) rfl ?_
          refine a_bipush (pc := 107) (v := (-4 : Int32)) dX6_raked_107 (by decide) ?_
          refine a_istore (pc := 109) dX6_raked_109 (Nat.le_of_ble_eq_true rfl) rfl (L' := [some (.ref (gad X 0)), some (.int y1_13), none, some (.int y3_13), some (.int y4_13), none, some (.int r19), some (.int (0 : Int32)), some (.int (-4 : Int32)), none, none]) rfl ?_
          refine a_bipush (pc := 111) (v := (63 : Int32)) dX6_raked_111 (by decide) ?_
          refine a_istore (pc := 113) dX6_raked_113 (Nat.le_of_ble_eq_true rfl) rfl (L' := [some (.ref (gad X 0)), some (.int y1_13), none, some (.int y3_13), some (.int y4_13), none, some (.int r19), some (.int (0 : Int32)), some (.int (-4 : Int32)), some (.int (63 : Int32)), none]) rfl ?_
          obtain ⟨R33, hR33, h⟩ := g_bind h
          have E115 : ∀ (y4_33 : Int32) (y7_33 : Int32) (y8_33 : Int32) (S33 : gSt), ((if y4_33 = 0 then some (y7_33, S33) else some (y8_33, S33))) = some (r0, S0) → AW X RX6 4 cX6_raked 181 [none, none, none, none, some (.int y4_33), none, none, some (.int y7_33), some (.int y8_33), none, none] [] S33 := by
            intro y4_33 y7_33 y8_33 S33 h
            refine a_iload (pc := 181) dX6_raked_181 rfl ?_
            refine a_if_ne (pc := 183) (tgt := 191) dX6_raked_183 (by decide) (fun c34 => ?_) (fun c34 => ?_)
            · rw [if_neg c34] at h
              refine a_iload (pc := 191) dX6_raked_191 rfl ?_
              obtain ⟨rfl, rfl⟩ := Prod.mk.inj (Option.some.inj h)
              exact a_iret hp dX6_raked_193
            · rw [if_pos c34] at h
              refine a_iload (pc := 186) dX6_raked_186 rfl ?_
              refine a_goto (pc := 188) (tgt := 193) dX6_raked_188 (by decide) ?_
              obtain ⟨rfl, rfl⟩ := Prod.mk.inj (Option.some.inj h)
              exact a_iret hp dX6_raked_193
          have lp : ∀ (n : Nat) (x1 : Int32) (x3 : Int32) (x4 : Int32) (x6 : Int32) (x7 : Int32) (x8 : Int32) (x9 : Int32) (S : gSt), gLoop (f_X6_raked_s115) n (x1, x3, x4, x6, x7, x8, x9, S) = some R33 → AW X RX6 4 cX6_raked 115 [some (.ref (gad X 0)), some (.int x1), none, some (.int x3), some (.int x4), none, some (.int x6), some (.int x7), some (.int x8), some (.int x9), none] [] S := by
            intro n
            induction n with
            | zero => intro x1 x3 x4 x6 x7 x8 x9 S hR; cases hR
            | succ n ih =>
              intro x1 x3 x4 x6 x7 x8 x9 S hR
              obtain ⟨q, hs, hR⟩ := g_bind hR
              have hs : f_X6_raked_s115_b x1 x3 x4 x6 x7 x8 x9 S = some q := hs
              unfold f_X6_raked_s115_b at hs
              refine a_iload (pc := 115) dX6_raked_115 rfl ?_
              refine a_if_lt (pc := 117) (tgt := 181) dX6_raked_117 (by decide) (fun c20 => ?_) (fun c20 => ?_)
              · rw [if_pos c20] at hs
                obtain rfl := Option.some.inj hs
                obtain rfl := Option.some.inj hR
                refine a_mask [false, false, true, false, true, true, false, true, true, false, true] (L' := [none, none, none, none, some (.int x4), none, none, some (.int x7), some (.int x8), none, none]) rfl ?_
                exact E115 _ _ _ _ h
              · rw [if_neg c20] at hs
                refine a_iload (pc := 120) dX6_raked_120 rfl ?_
                refine a_istore (pc := 122) dX6_raked_122 (Nat.le_of_ble_eq_true rfl) rfl (L' := [some (.ref (gad X 0)), some (.int x1), none, some (.int x3), some (.int x4), none, some (.int x6), some (.int x7), some (.int x8), some (.int x9), some (.int x6)]) rfl ?_
                refine a_aloadn (pc := 124) dX6_raked_124 rfl rfl ?_
                refine a_getA (pc := 125) flX6_12 sh_0 rfl dX6_raked_125 ?_
                refine a_iload (pc := 128) dX6_raked_128 rfl ?_
                obtain ⟨r23, S21, hc22, hs⟩ := g_bind2 hs
                refine a_invVi (pc := 130) (ok_X0_isTrodden hc22) gyX0_isTrodden vyX0_isTrodden mlX6_230 sh_1 rfl (As := [.int x9]) rfl rfl (by decide) (st := []) rfl (Nat.le_of_ble_eq_true rfl) dX6_raked_130 ?_
                refine a_if_eq (pc := 133) (tgt := 163) dX6_raked_133 (by decide) (fun c24 => ?_) (fun c24 => ?_)
                · rw [if_pos c24] at hs
                  refine a_iload (pc := 163) dX6_raked_163 rfl ?_
                  refine a_if_eq (pc := 165) (tgt := 175) dX6_raked_165 (by decide) (fun c25 => ?_) (fun c25 => ?_)
                  · rw [if_pos c25] at hs
                    refine a_iinc (pc := 175) dX6_raked_175 rfl (v := x9 + (-1 : Int32)) rfl (Nat.le_of_ble_eq_true rfl) rfl (L' := [some (.ref (gad X 0)), some (.int x1), none, some (.int x3), some (.int x4), none, some (.int x6), some (.int x7), some (.int x8), some (.int (x9 + (-1 : Int32))), some (.int x6)]) rfl ?_
                    refine a_goto (pc := 178) (tgt := 115) dX6_raked_178 (by decide) ?_
                    obtain rfl := Option.some.inj hs
                    refine a_mask [true, true, true, true, true, true, true, true, true, true, false] (L' := [some (.ref (gad X 0)), some (.int x1), none, some (.int x3), some (.int x4), none, some (.int x6), some (.int x7), some (.int x8), some (.int (x9 + (-1 : Int32))), none]) rfl ?_
                    exact ih _ _ _ _ _ _ _ _ hR
                  · rw [if_neg c25] at hs
                    refine a_iinc (pc := 168) dX6_raked_168 rfl (v := x7 + (1 : Int32)) rfl (Nat.le_of_ble_eq_true rfl) rfl (L' := [some (.ref (gad X 0)), some (.int x1), none, some (.int x3), some (.int x4), none, some (.int x6), some (.int (x7 + (1 : Int32))), some (.int x8), some (.int x9), some (.int x6)]) rfl ?_
                    refine a_iload (pc := 171) dX6_raked_171 rfl ?_
                    refine a_istore (pc := 173) dX6_raked_173 (Nat.le_of_ble_eq_true rfl) rfl (L' := [some (.ref (gad X 0)), some (.int x1), none, some (.int x3), some (.int x4), none, some (.int x6), some (.int (x7 + (1 : Int32))), some (.int x9), some (.int x9), some (.int x6)]) rfl ?_
                    refine a_iinc (pc := 175) dX6_raked_175 rfl (v := x9 + (-1 : Int32)) rfl (Nat.le_of_ble_eq_true rfl) rfl (L' := [some (.ref (gad X 0)), some (.int x1), none, some (.int x3), some (.int x4), none, some (.int x6), some (.int (x7 + (1 : Int32))), some (.int x9), some (.int (x9 + (-1 : Int32))), some (.int x6)]) rfl ?_
                    refine a_goto (pc := 178) (tgt := 115) dX6_raked_178 (by decide) ?_
                    obtain rfl := Option.some.inj hs
                    refine a_mask [true, true, true, true, true, true, true, true, true, true, false] (L' := [some (.ref (gad X 0)), some (.int x1), none, some (.int x3), some (.int x4), none, some (.int x6), some (.int (x7 + (1 : Int32))), some (.int x9), some (.int (x9 + (-1 : Int32))), none]) rfl ?_
                    exact ih _ _ _ _ _ _ _ _ hR
                · rw [if_neg c24] at hs
                  refine a_aloadn (pc := 136) dX6_raked_136 rfl rfl ?_
                  refine a_getA (pc := 137) flX6_39 sh_0 rfl dX6_raked_137 ?_
                  refine a_aloadn (pc := 140) dX6_raked_140 rfl rfl ?_
                  refine a_getA (pc := 141) flX6_12 sh_0 rfl dX6_raked_141 ?_
                  refine a_iconst (pc := 144) (v := (0 : Int32)) dX6_raked_144 (by decide) ?_
                  refine a_iload (pc := 145) dX6_raked_145 rfl ?_
                  obtain ⟨S26, hc27, hs⟩ := g_bind hs
                  refine a_invVv (pc := 147) (ok_X3_lookWithout hc27) gyX3_lookWithout vyX3_lookWithout mlX6_233 sh_41 rfl (As := [.ref (gad X 1), .int (0 : Int32), .int x9]) rfl rfl (by decide) (st := []) rfl (Nat.le_of_ble_eq_true rfl) dX6_raked_147 ?_
                  refine a_aloadn (pc := 150) dX6_raked_150 rfl rfl ?_
                  refine a_aloadn (pc := 151) dX6_raked_151 rfl rfl ?_
                  refine a_getA (pc := 152) flX6_32 sh_0 rfl dX6_raked_152 ?_
                  refine a_iloadn (pc := 155) dX6_raked_155 rfl rfl ?_
                  obtain ⟨hi28, hs⟩ := g_if hs
                  refine a_aald (pc := 156) sh_32 hi28 dX6_raked_156 ?_
                  refine a_iloadn (pc := 157) dX6_raked_157 rfl rfl ?_
                  obtain ⟨r31, S29, hc30, hs⟩ := g_bind2 hs
                  refine a_invVi (pc := 158) (ok_X6_isLandOfAll (gin_lt hi28) hc30) gyX6_isLandOfAll vyX6_isLandOfAll mlX6_226 sh_0 rfl (As := [.ref (gad X (33 + (x1.toNatClampNeg))), .int x3]) rfl rfl (by decide) (st := []) rfl (Nat.le_of_ble_eq_true rfl) dX6_raked_158 ?_
                  refine a_istore (pc := 161) dX6_raked_161 (Nat.le_of_ble_eq_true rfl) rfl (L' := [some (.ref (gad X 0)), some (.int x1), none, some (.int x3), some (.int x4), none, some (.int x6), some (.int x7), some (.int x8), some (.int x9), some (.int r31)]) rfl ?_
                  refine a_iload (pc := 163) dX6_raked_163 rfl ?_
                  refine a_if_eq (pc := 165) (tgt := 175) dX6_raked_165 (by decide) (fun c32 => ?_) (fun c32 => ?_)
                  · rw [if_pos c32] at hs
                    refine a_iinc (pc := 175) dX6_raked_175 rfl (v := x9 + (-1 : Int32)) rfl (Nat.le_of_ble_eq_true rfl) rfl (L' := [some (.ref (gad X 0)), some (.int x1), none, some (.int x3), some (.int x4), none, some (.int x6), some (.int x7), some (.int x8), some (.int (x9 + (-1 : Int32))), some (.int r31)]) rfl ?_
                    refine a_goto (pc := 178) (tgt := 115) dX6_raked_178 (by decide) ?_
                    obtain rfl := Option.some.inj hs
                    refine a_mask [true, true, true, true, true, true, true, true, true, true, false] (L' := [some (.ref (gad X 0)), some (.int x1), none, some (.int x3), some (.int x4), none, some (.int x6), some (.int x7), some (.int x8), some (.int (x9 + (-1 : Int32))), none]) rfl ?_
                    exact ih _ _ _ _ _ _ _ _ hR
                  · rw [if_neg c32] at hs
                    refine a_iinc (pc := 168) dX6_raked_168 rfl (v := x7 + (1 : Int32)) rfl (Nat.le_of_ble_eq_true rfl) rfl (L' := [some (.ref (gad X 0)), some (.int x1), none, some (.int x3), some (.int x4), none, some (.int x6), some (.int (x7 + (1 : Int32))), some (.int x8), some (.int x9), some (.int r31)]) rfl ?_
                    refine a_iload (pc := 171) dX6_raked_171 rfl ?_
                    refine a_istore (pc := 173) dX6_raked_173 (Nat.le_of_ble_eq_true rfl) rfl (L' := [some (.ref (gad X 0)), some (.int x1), none, some (.int x3), some (.int x4), none, some (.int x6), some (.int (x7 + (1 : Int32))), some (.int x9), some (.int x9), some (.int r31)]) rfl ?_
                    refine a_iinc (pc := 175) dX6_raked_175 rfl (v := x9 + (-1 : Int32)) rfl (Nat.le_of_ble_eq_true rfl) rfl (L' := [some (.ref (gad X 0)), some (.int x1), none, some (.int x3), some (.int x4), none, some (.int x6), some (.int (x7 + (1 : Int32))), some (.int x9), some (.int (x9 + (-1 : Int32))), some (.int r31)]) rfl ?_
                    refine a_goto (pc := 178) (tgt := 115) dX6_raked_178 (by decide) ?_
                    obtain rfl := Option.some.inj hs
                    refine a_mask [true, true, true, true, true, true, true, true, true, true, false] (L' := [some (.ref (gad X 0)), some (.int x1), none, some (.int x3), some (.int x4), none, some (.int x6), some (.int (x7 + (1 : Int32))), some (.int x9), some (.int (x9 + (-1 : Int32))), none]) rfl ?_
                    exact ih _ _ _ _ _ _ _ _ hR
          exact lp _ _ _ _ _ _ _ _ _ hR33
        have lp : ∀ (n : Nat) (x1 : Int32) (x3 : Int32) (x4 : Int32) (x6 : Int32) (S : gSt), gLoop (f_X6_raked_s40) n (x1, x3, x4, x6, S) = some R13 → AW X RX6 4 cX6_raked 40 [some (.ref (gad X 0)), some (.int x1), none, some (.int x3), some (.int x4), none, some (.int x6), none, none, none, none] [] S := by
          intro n
          induction n with
          | zero => intro x1 x3 x4 x6 S hR; cases hR
          | succ n ih =>
            intro x1 x3 x4 x6 S hR
            obtain ⟨q, hs, hR⟩ := g_bind hR
            have hs : f_X6_raked_s40_b x1 x3 x4 x6 S = some q := hs
            unfold f_X6_raked_s40_b at hs
            refine a_iload (pc := 40) dX6_raked_40 rfl ?_
            refine a_aloadn (pc := 42) dX6_raked_42 rfl rfl ?_
            refine a_getA (pc := 43) flX6_12 sh_0 rfl dX6_raked_43 ?_
            refine a_getI (pc := 46) flX6_55 sh_1 rfl dX6_raked_46 ?_
            refine a_icmp_ge (pc := 49) (tgt := 79) dX6_raked_49 (by decide) (fun c7 => ?_) (fun c7 => ?_)
            · rw [if_pos c7] at hs
              obtain rfl := Option.some.inj hs
              obtain rfl := Option.some.inj hR
              refine a_mask [true, true, true, true, true, true, false, true, true, true, true] (L' := [some (.ref (gad X 0)), some (.int x1), none, some (.int x3), some (.int x4), none, none, none, none, none, none]) rfl ?_
              exact E40 _ _ _ _ h
            · rw [if_neg c7] at hs
              refine a_aloadn (pc := 52) dX6_raked_52 rfl rfl ?_
              refine a_getA (pc := 53) flX6_32 sh_0 rfl dX6_raked_53 ?_
              refine a_iloadn (pc := 56) dX6_raked_56 rfl rfl ?_
              obtain ⟨hi8, hs⟩ := g_if hs
              refine a_aald (pc := 57) sh_32 hi8 dX6_raked_57 ?_
              refine a_iloadn (pc := 58) dX6_raked_58 rfl rfl ?_
              refine a_iload (pc := 59) dX6_raked_59 rfl ?_
              refine a_iadd (pc := 61) dX6_raked_61 ?_
              refine a_bipush (pc := 62) (v := (64 : Int32)) dX6_raked_62 (by decide) ?_
              obtain ⟨r11, S9, hc10, hs⟩ := g_bind2 hs
              refine a_invVi (pc := 64) (ok_X2_isWithin (gin_lt hi8) hc10) gyX2_isWithin vyX2_isWithin mlX6_222 (sh_sheet (gin_lt hi8)) rfl (As := [.int (x3 + x6), .int (64 : Int32)]) rfl rfl (by decide) (st := []) rfl (Nat.le_of_ble_eq_true rfl) dX6_raked_64 ?_
              refine a_if_ne (pc := 67) (tgt := 73) dX6_raked_67 (by decide) (fun c12 => ?_) (fun c12 => ?_)
              · rw [if_neg c12] at hs
                refine a_iinc (pc := 73) dX6_raked_73 rfl (v := x6 + (1 : Int32)) rfl (Nat.le_of_ble_eq_true rfl) rfl (L' := [some (.ref (gad X 0)), some (.int x1), none, some (.int x3), some (.int x4), none, some (.int (x6 + (1 : Int32))), none, none, none, none]) rfl ?_
                refine a_goto (pc := 76) (tgt := 40) dX6_raked_76 (by decide) ?_
                obtain rfl := Option.some.inj hs
                exact ih _ _ _ _ _ hR
              · rw [if_pos c12] at hs
                refine a_bipush (pc := 70) (v := (-2 : Int32)) dX6_raked_70 (by decide) ?_
                obtain rfl := Option.some.inj hs
                obtain rfl := Option.some.inj hR
                obtain ⟨rfl, rfl⟩ := Prod.mk.inj (Option.some.inj h)
                exact a_iret hp dX6_raked_72
        exact lp _ _ _ _ _ _ hR13
      · rw [if_neg c6] at h
        refine a_iload (pc := 34) dX6_raked_34 rfl ?_
        obtain ⟨rfl, rfl⟩ := Prod.mk.inj (Option.some.inj h)
        exact a_iret hp dX6_raked_36
    · rw [if_neg c2] at h
      refine a_iconst (pc := 11) (v := (-1 : Int32)) dX6_raked_11 (by decide) ?_
      obtain ⟨rfl, rfl⟩ := Prod.mk.inj (Option.some.inj h)
      exact a_iret hp dX6_raked_12
theorem dX6_hasPrints_0 : decode cX6_hasPrints 0 = .ok (.iconst 0, 1) := by decide +kernel
theorem dX6_hasPrints_1 : decode cX6_hasPrints 1 = .ok (.istore 5, 2) := by decide +kernel
theorem dX6_hasPrints_3 : decode cX6_hasPrints 3 = .ok (.iload 5, 2) := by decide +kernel
theorem dX6_hasPrints_5 : decode cX6_hasPrints 5 = .ok (.iload 4, 2) := by decide +kernel
theorem dX6_hasPrints_7 : decode cX6_hasPrints 7 = .ok (.if_icmp .ge 58, 3) := by decide +kernel
theorem dX6_hasPrints_10 : decode cX6_hasPrints 10 = .ok (.aload_n 2, 1) := by decide +kernel
theorem dX6_hasPrints_11 : decode cX6_hasPrints 11 = .ok (.getfield 237, 3) := by decide +kernel
theorem dX6_hasPrints_14 : decode cX6_hasPrints 14 = .ok (.iload_n 3, 1) := by decide +kernel
theorem dX6_hasPrints_15 : decode cX6_hasPrints 15 = .ok (.iconst 2, 1) := by decide +kernel
theorem dX6_hasPrints_16 : decode cX6_hasPrints 16 = .ok (.iload 5, 2) := by decide +kernel
theorem dX6_hasPrints_18 : decode cX6_hasPrints 18 = .ok (.imul, 1) := by decide +kernel
theorem dX6_hasPrints_19 : decode cX6_hasPrints 19 = .ok (.iadd, 1) := by decide +kernel
theorem dX6_hasPrints_20 : decode cX6_hasPrints 20 = .ok (.laload, 1) := by decide +kernel
theorem dX6_hasPrints_21 : decode cX6_hasPrints 21 = .ok (.l2i, 1) := by decide +kernel
theorem dX6_hasPrints_22 : decode cX6_hasPrints 22 = .ok (.istore 6, 2) := by decide +kernel
theorem dX6_hasPrints_24 : decode cX6_hasPrints 24 = .ok (.aload_n 0, 1) := by decide +kernel
theorem dX6_hasPrints_25 : decode cX6_hasPrints 25 = .ok (.getfield 12, 3) := by decide +kernel
theorem dX6_hasPrints_28 : decode cX6_hasPrints 28 = .ok (.getfield 111, 3) := by decide +kernel
theorem dX6_hasPrints_31 : decode cX6_hasPrints 31 = .ok (.iload_n 1, 1) := by decide +kernel
theorem dX6_hasPrints_32 : decode cX6_hasPrints 32 = .ok (.bipush 64, 2) := by decide +kernel
theorem dX6_hasPrints_34 : decode cX6_hasPrints 34 = .ok (.imul, 1) := by decide +kernel
theorem dX6_hasPrints_35 : decode cX6_hasPrints 35 = .ok (.iload 6, 2) := by decide +kernel
theorem dX6_hasPrints_37 : decode cX6_hasPrints 37 = .ok (.iadd, 1) := by decide +kernel
theorem dX6_hasPrints_38 : decode cX6_hasPrints 38 = .ok (.iaload, 1) := by decide +kernel
theorem dX6_hasPrints_39 : decode cX6_hasPrints 39 = .ok (.i2l, 1) := by decide +kernel
theorem dX6_hasPrints_40 : decode cX6_hasPrints 40 = .ok (.aload_n 2, 1) := by decide +kernel
theorem dX6_hasPrints_41 : decode cX6_hasPrints 41 = .ok (.getfield 237, 3) := by decide +kernel
theorem dX6_hasPrints_44 : decode cX6_hasPrints 44 = .ok (.iload_n 3, 1) := by decide +kernel
theorem dX6_hasPrints_45 : decode cX6_hasPrints 45 = .ok (.iconst 2, 1) := by decide +kernel
theorem dX6_hasPrints_46 : decode cX6_hasPrints 46 = .ok (.iload 5, 2) := by decide +kernel
theorem dX6_hasPrints_48 : decode cX6_hasPrints 48 = .ok (.imul, 1) := by decide +kernel
theorem dX6_hasPrints_49 : decode cX6_hasPrints 49 = .ok (.iadd, 1) := by decide +kernel
theorem dX6_hasPrints_50 : decode cX6_hasPrints 50 = .ok (.iconst 1, 1) := by decide +kernel
theorem dX6_hasPrints_51 : decode cX6_hasPrints 51 = .ok (.iadd, 1) := by decide +kernel
theorem dX6_hasPrints_52 : decode cX6_hasPrints 52 = .ok (.laload, 1) := by decide +kernel
theorem dX6_hasPrints_53 : decode cX6_hasPrints 53 = .ok (.lcmp, 1) := by decide +kernel
theorem dX6_hasPrints_54 : decode cX6_hasPrints 54 = .ok (.ifCond .eq 5, 3) := by decide +kernel
theorem dX6_hasPrints_57 : decode cX6_hasPrints 57 = .ok (.iconst 0, 1) := by decide +kernel
theorem dX6_hasPrints_58 : decode cX6_hasPrints 58 = .ok (.ireturn, 1) := by decide +kernel
theorem dX6_hasPrints_59 : decode cX6_hasPrints 59 = .ok (.iinc 5 1, 3) := by decide +kernel
theorem dX6_hasPrints_62 : decode cX6_hasPrints 62 = .ok (.goto (-59), 3) := by decide +kernel
theorem dX6_hasPrints_65 : decode cX6_hasPrints 65 = .ok (.iconst 1, 1) := by decide +kernel
theorem dX6_hasPrints_66 : decode cX6_hasPrints 66 = .ok (.ireturn, 1) := by decide +kernel
def f_X6_hasPrints_s3_b (j : Nat) (x1 : Int32) (x3 : Int32) (x4 : Int32) (x5 : Int32) (S : gSt) : Option ((Int32 × Int32 × Int32 × Int32 × gSt) ⊕ ((Int32 × gSt) ⊕ (gSt))) :=
(if x4 ≤ x5 then
some (.inr (.inr (S)))
else
if gin (x3 + ((2 : Int32) * x5)) 24 then
(gLet ((S.2 (37 + j) (x3 + ((2 : Int32) * x5)).toNatClampNeg).toInt32) fun v3 =>
if gin ((x1 * (64 : Int32)) + v3) 384 then
(if gin ((x3 + ((2 : Int32) * x5)) + (1 : Int32)) 24 then
((if (lg_cmp ((S.1 7 ((x1 * (64 : Int32)) + v3).toNatClampNeg).toInt64) (S.2 (37 + j) ((x3 + ((2 : Int32) * x5)) + (1 : Int32)).toNatClampNeg)) = 0 then
some (.inl (x1, x3, x4, x5 + (1 : Int32), S))
else
some (.inr (.inl ((0 : Int32), S))))) else none) else none) else none)
def f_X6_hasPrints_s3 (j : Nat) : (Int32 × Int32 × Int32 × Int32 × gSt) → Option ((Int32 × Int32 × Int32 × Int32 × gSt) ⊕ ((Int32 × gSt) ⊕ (gSt))) := fun t => f_X6_hasPrints_s3_b j t.1 t.2.1 t.2.2.1 t.2.2.2.1 t.2.2.2.2
def f_X6_hasPrints (j : Nat) (p1 : Int32) (p3 : Int32) (p4 : Int32) (S : gSt) : Option (Int32 × gSt) :=
(gLoop (f_X6_hasPrints_s3 j) gFuel (p1, p3, p4, (0 : Int32), S)).bind fun q7 => match q7 with
| .inl (v7, T7) => some (v7, T7)
| .inr S7 =>
some ((1 : Int32), S7)
set_option maxHeartbeats 4000000 in
set_option maxRecDepth 20000 in
theorem ok_X6_hasPrints {j : Nat} {p1 : Int32} {p3 : Int32} {p4 : Int32} {S S0 : gSt} {r0 : Int32}  (hj : j < 4) (h : f_X6_hasPrints j p1 p3 p4 S = some (r0, S0)) : gCT yX6_hasPrints cX6_hasPrints 7 (some .boolean) 0 (fun w => [.ref (w.2.1 0), .int p1, .ref (w.2.1 (33 + j)), .int p3, .int p4]) S (some (.int r0)) S0 := by
  refine gEnter (fun X => [some (.ref (gad X 0)), some (.int p1), some (.ref (gad X (33 + j))), some (.int p3), some (.int p4), none, none]) (by decide) (fun X => ⟨rfl, rfl⟩) (fun w => Nat.le_of_ble_eq_true rfl) (fun X hp => ?_)
  show AW X RX6 0 cX6_hasPrints 0 [some (.ref (gad X 0)), some (.int p1), some (.ref (gad X (33 + j))), some (.int p3), some (.int p4), none, none] [] S
  unfold f_X6_hasPrints at h
  refine a_iconst (pc := 0) (v := (0 : Int32)) dX6_hasPrints_0 (by decide) ?_
  refine a_istore (pc := 1) dX6_hasPrints_1 (Nat.le_of_ble_eq_true rfl) rfl (L' := [some (.ref (gad X 0)), some (.int p1), some (.ref (gad X (33 + j))), some (.int p3), some (.int p4), some (.int (0 : Int32)), none]) rfl ?_
  obtain ⟨R7, hR7, h⟩ := g_bind h
  have E3 : ∀  (S7 : gSt), (some ((1 : Int32), S7)) = some (r0, S0) → AW X RX6 0 cX6_hasPrints 65 [none, none, none, none, none, none, none] [] S7 := by
    intro S7 h
    refine a_iconst (pc := 65) (v := (1 : Int32)) dX6_hasPrints_65 (by decide) ?_
    obtain ⟨rfl, rfl⟩ := Prod.mk.inj (Option.some.inj h)
    exact a_zret hp rfl  dX6_hasPrints_66
  have lp : ∀ (n : Nat) (x1 : Int32) (x3 : Int32) (x4 : Int32) (x5 : Int32) (S : gSt), gLoop (f_X6_hasPrints_s3 j) n (x1, x3, x4, x5, S) = some R7 → AW X RX6 0 cX6_hasPrints 3 [some (.ref (gad X 0)), some (.int x1), some (.ref (gad X (33 + j))), some (.int x3), some (.int x4), some (.int x5), none] [] S := by
    intro n
    induction n with
    | zero => intro x1 x3 x4 x5 S hR; cases hR
    | succ n ih =>
      intro x1 x3 x4 x5 S hR
      obtain ⟨q, hs, hR⟩ := g_bind hR
      have hs : f_X6_hasPrints_s3_b j x1 x3 x4 x5 S = some q := hs
      unfold f_X6_hasPrints_s3_b at hs
      refine a_iload (pc := 3) dX6_hasPrints_3 rfl ?_
      refine a_iload (pc := 5) dX6_hasPrints_5 rfl ?_
      refine a_icmp_ge (pc := 7) (tgt := 65) dX6_hasPrints_7 (by decide) (fun c1 => ?_) (fun c1 => ?_)
      · rw [if_pos c1] at hs
        obtain rfl := Option.some.inj hs
        obtain rfl := Option.some.inj hR
        refine a_mask [false, false, false, false, false, false, true] (L' := [none, none, none, none, none, none, none]) rfl ?_
        exact E3  _ h
      · rw [if_neg c1] at hs
        refine a_aloadn (pc := 10) dX6_hasPrints_10 rfl rfl ?_
        refine a_getA (pc := 11) flX6_237 (sh_sheet hj) rfl dX6_hasPrints_11 ?_
        refine a_iloadn (pc := 14) dX6_hasPrints_14 rfl rfl ?_
        refine a_iconst (pc := 15) (v := (2 : Int32)) dX6_hasPrints_15 (by decide) ?_
        refine a_iload (pc := 16) dX6_hasPrints_16 rfl ?_
        refine a_imul (pc := 18) dX6_hasPrints_18 ?_
        refine a_iadd (pc := 19) dX6_hasPrints_19 ?_
        obtain ⟨hi2, hs⟩ := g_if hs
        refine a_lald (pc := 20) (sh_items hj) hi2 dX6_hasPrints_20 ?_
        refine a_l2i (pc := 21) dX6_hasPrints_21 ?_
        obtain ⟨v3, ev3, hs⟩ := g_let hs
        refine a_nmI ev3 ?_
        refine a_istore (pc := 22) dX6_hasPrints_22 (Nat.le_of_ble_eq_true rfl) rfl (L' := [some (.ref (gad X 0)), some (.int x1), some (.ref (gad X (33 + j))), some (.int x3), some (.int x4), some (.int x5), some (.int v3)]) rfl ?_
        refine a_aloadn (pc := 24) dX6_hasPrints_24 rfl rfl ?_
        refine a_getA (pc := 25) flX6_12 sh_0 rfl dX6_hasPrints_25 ?_
        refine a_getA (pc := 28) flX6_111 sh_1 rfl dX6_hasPrints_28 ?_
        refine a_iloadn (pc := 31) dX6_hasPrints_31 rfl rfl ?_
        refine a_bipush (pc := 32) (v := (64 : Int32)) dX6_hasPrints_32 (by decide) ?_
        refine a_imul (pc := 34) dX6_hasPrints_34 ?_
        refine a_iload (pc := 35) dX6_hasPrints_35 rfl ?_
        refine a_iadd (pc := 37) dX6_hasPrints_37 ?_
        obtain ⟨hi4, hs⟩ := g_if hs
        refine a_iald (pc := 38) sh_7 hi4 dX6_hasPrints_38 ?_
        refine a_i2l (pc := 39) dX6_hasPrints_39 ?_
        refine a_aloadn (pc := 40) dX6_hasPrints_40 rfl rfl ?_
        refine a_getA (pc := 41) flX6_237 (sh_sheet hj) rfl dX6_hasPrints_41 ?_
        refine a_iloadn (pc := 44) dX6_hasPrints_44 rfl rfl ?_
        refine a_iconst (pc := 45) (v := (2 : Int32)) dX6_hasPrints_45 (by decide) ?_
        refine a_iload (pc := 46) dX6_hasPrints_46 rfl ?_
        refine a_imul (pc := 48) dX6_hasPrints_48 ?_
        refine a_iadd (pc := 49) dX6_hasPrints_49 ?_
        refine a_iconst (pc := 50) (v := (1 : Int32)) dX6_hasPrints_50 (by decide) ?_
        refine a_iadd (pc := 51) dX6_hasPrints_51 ?_
        obtain ⟨hi5, hs⟩ := g_if hs
        refine a_lald (pc := 52) (sh_items hj) hi5 dX6_hasPrints_52 ?_
        refine a_lcmp (pc := 53) dX6_hasPrints_53 ?_
        refine a_if_eq (pc := 54) (tgt := 59) dX6_hasPrints_54 (by decide) (fun c6 => ?_) (fun c6 => ?_)
        · rw [if_pos c6] at hs
          refine a_iinc (pc := 59) dX6_hasPrints_59 rfl (v := x5 + (1 : Int32)) rfl (Nat.le_of_ble_eq_true rfl) rfl (L' := [some (.ref (gad X 0)), some (.int x1), some (.ref (gad X (33 + j))), some (.int x3), some (.int x4), some (.int (x5 + (1 : Int32))), some (.int v3)]) rfl ?_
          refine a_goto (pc := 62) (tgt := 3) dX6_hasPrints_62 (by decide) ?_
          obtain rfl := Option.some.inj hs
          refine a_mask [true, true, true, true, true, true, false] (L' := [some (.ref (gad X 0)), some (.int x1), some (.ref (gad X (33 + j))), some (.int x3), some (.int x4), some (.int (x5 + (1 : Int32))), none]) rfl ?_
          exact ih _ _ _ _ _ hR
        · rw [if_neg c6] at hs
          refine a_iconst (pc := 57) (v := (0 : Int32)) dX6_hasPrints_57 (by decide) ?_
          obtain rfl := Option.some.inj hs
          obtain rfl := Option.some.inj hR
          obtain ⟨rfl, rfl⟩ := Prod.mk.inj (Option.some.inj h)
          exact a_zret hp rfl  dX6_hasPrints_58
  exact lp _ _ _ _ _ _ hR7
theorem dX6_shoes_0 : decode cX6_shoes 0 = .ok (.iload 4, 2) := by decide +kernel
theorem dX6_shoes_2 : decode cX6_shoes 2 = .ok (.iconst 1, 1) := by decide +kernel
theorem dX6_shoes_3 : decode cX6_shoes 3 = .ok (.if_icmp .lt 10, 3) := by decide +kernel
theorem dX6_shoes_6 : decode cX6_shoes 6 = .ok (.iload 4, 2) := by decide +kernel
theorem dX6_shoes_8 : decode cX6_shoes 8 = .ok (.bipush 8, 2) := by decide +kernel
theorem dX6_shoes_10 : decode cX6_shoes 10 = .ok (.if_icmp .le 5, 3) := by decide +kernel
theorem dX6_shoes_13 : decode cX6_shoes 13 = .ok (.iconst (-1), 1) := by decide +kernel
theorem dX6_shoes_14 : decode cX6_shoes 14 = .ok (.ireturn, 1) := by decide +kernel
theorem dX6_shoes_15 : decode cX6_shoes 15 = .ok (.aload_n 0, 1) := by decide +kernel
theorem dX6_shoes_16 : decode cX6_shoes 16 = .ok (.iload_n 1, 1) := by decide +kernel
theorem dX6_shoes_17 : decode cX6_shoes 17 = .ok (.iload_n 2, 1) := by decide +kernel
theorem dX6_shoes_18 : decode cX6_shoes 18 = .ok (.iload_n 3, 1) := by decide +kernel
theorem dX6_shoes_19 : decode cX6_shoes 19 = .ok (.iconst 2, 1) := by decide +kernel
theorem dX6_shoes_20 : decode cX6_shoes 20 = .ok (.iload 4, 2) := by decide +kernel
theorem dX6_shoes_22 : decode cX6_shoes 22 = .ok (.imul, 1) := by decide +kernel
theorem dX6_shoes_23 : decode cX6_shoes 23 = .ok (.invokevirtual 218, 3) := by decide +kernel
theorem dX6_shoes_26 : decode cX6_shoes 26 = .ok (.istore 5, 2) := by decide +kernel
theorem dX6_shoes_28 : decode cX6_shoes 28 = .ok (.iload 5, 2) := by decide +kernel
theorem dX6_shoes_30 : decode cX6_shoes 30 = .ok (.ifCond .ge 6, 3) := by decide +kernel
theorem dX6_shoes_33 : decode cX6_shoes 33 = .ok (.iload 5, 2) := by decide +kernel
theorem dX6_shoes_35 : decode cX6_shoes 35 = .ok (.ireturn, 1) := by decide +kernel
theorem dX6_shoes_36 : decode cX6_shoes 36 = .ok (.iconst 0, 1) := by decide +kernel
theorem dX6_shoes_37 : decode cX6_shoes 37 = .ok (.istore 6, 2) := by decide +kernel
theorem dX6_shoes_39 : decode cX6_shoes 39 = .ok (.iload 6, 2) := by decide +kernel
theorem dX6_shoes_41 : decode cX6_shoes 41 = .ok (.iload 4, 2) := by decide +kernel
theorem dX6_shoes_43 : decode cX6_shoes 43 = .ok (.if_icmp .ge 54, 3) := by decide +kernel
theorem dX6_shoes_46 : decode cX6_shoes 46 = .ok (.aload_n 0, 1) := by decide +kernel
theorem dX6_shoes_47 : decode cX6_shoes 47 = .ok (.getfield 32, 3) := by decide +kernel
theorem dX6_shoes_50 : decode cX6_shoes 50 = .ok (.iload_n 1, 1) := by decide +kernel
theorem dX6_shoes_51 : decode cX6_shoes 51 = .ok (.aaload, 1) := by decide +kernel
theorem dX6_shoes_52 : decode cX6_shoes 52 = .ok (.iload_n 3, 1) := by decide +kernel
theorem dX6_shoes_53 : decode cX6_shoes 53 = .ok (.iconst 2, 1) := by decide +kernel
theorem dX6_shoes_54 : decode cX6_shoes 54 = .ok (.iload 6, 2) := by decide +kernel
theorem dX6_shoes_56 : decode cX6_shoes 56 = .ok (.imul, 1) := by decide +kernel
theorem dX6_shoes_57 : decode cX6_shoes 57 = .ok (.iadd, 1) := by decide +kernel
theorem dX6_shoes_58 : decode cX6_shoes 58 = .ok (.bipush 63, 2) := by decide +kernel
theorem dX6_shoes_60 : decode cX6_shoes 60 = .ok (.invokevirtual 222, 3) := by decide +kernel
theorem dX6_shoes_63 : decode cX6_shoes 63 = .ok (.ifCond .eq 25, 3) := by decide +kernel
theorem dX6_shoes_66 : decode cX6_shoes 66 = .ok (.aload_n 0, 1) := by decide +kernel
theorem dX6_shoes_67 : decode cX6_shoes 67 = .ok (.getfield 32, 3) := by decide +kernel
theorem dX6_shoes_70 : decode cX6_shoes 70 = .ok (.iload_n 1, 1) := by decide +kernel
theorem dX6_shoes_71 : decode cX6_shoes 71 = .ok (.aaload, 1) := by decide +kernel
theorem dX6_shoes_72 : decode cX6_shoes 72 = .ok (.iload_n 3, 1) := by decide +kernel
theorem dX6_shoes_73 : decode cX6_shoes 73 = .ok (.iconst 2, 1) := by decide +kernel
theorem dX6_shoes_74 : decode cX6_shoes 74 = .ok (.iload 6, 2) := by decide +kernel
theorem dX6_shoes_76 : decode cX6_shoes 76 = .ok (.imul, 1) := by decide +kernel
theorem dX6_shoes_77 : decode cX6_shoes 77 = .ok (.iadd, 1) := by decide +kernel
theorem dX6_shoes_78 : decode cX6_shoes 78 = .ok (.iconst 1, 1) := by decide +kernel
theorem dX6_shoes_79 : decode cX6_shoes 79 = .ok (.iadd, 1) := by decide +kernel
theorem dX6_shoes_80 : decode cX6_shoes 80 = .ok (.bipush 99, 2) := by decide +kernel
theorem dX6_shoes_82 : decode cX6_shoes 82 = .ok (.invokevirtual 222, 3) := by decide +kernel
theorem dX6_shoes_85 : decode cX6_shoes 85 = .ok (.ifCond .ne 6, 3) := by decide +kernel
theorem dX6_shoes_88 : decode cX6_shoes 88 = .ok (.bipush (-2), 2) := by decide +kernel
theorem dX6_shoes_90 : decode cX6_shoes 90 = .ok (.ireturn, 1) := by decide +kernel
theorem dX6_shoes_91 : decode cX6_shoes 91 = .ok (.iinc 6 1, 3) := by decide +kernel
theorem dX6_shoes_94 : decode cX6_shoes 94 = .ok (.goto (-55), 3) := by decide +kernel
theorem dX6_shoes_97 : decode cX6_shoes 97 = .ok (.iconst 0, 1) := by decide +kernel
theorem dX6_shoes_98 : decode cX6_shoes 98 = .ok (.istore 6, 2) := by decide +kernel
theorem dX6_shoes_100 : decode cX6_shoes 100 = .ok (.iconst 0, 1) := by decide +kernel
theorem dX6_shoes_101 : decode cX6_shoes 101 = .ok (.istore 7, 2) := by decide +kernel
theorem dX6_shoes_103 : decode cX6_shoes 103 = .ok (.iload 7, 2) := by decide +kernel
theorem dX6_shoes_105 : decode cX6_shoes 105 = .ok (.aload_n 0, 1) := by decide +kernel
theorem dX6_shoes_106 : decode cX6_shoes 106 = .ok (.getfield 12, 3) := by decide +kernel
theorem dX6_shoes_109 : decode cX6_shoes 109 = .ok (.getfield 55, 3) := by decide +kernel
theorem dX6_shoes_112 : decode cX6_shoes 112 = .ok (.if_icmp .ge 36, 3) := by decide +kernel
theorem dX6_shoes_115 : decode cX6_shoes 115 = .ok (.aload_n 0, 1) := by decide +kernel
theorem dX6_shoes_116 : decode cX6_shoes 116 = .ok (.iload 7, 2) := by decide +kernel
theorem dX6_shoes_118 : decode cX6_shoes 118 = .ok (.aload_n 0, 1) := by decide +kernel
theorem dX6_shoes_119 : decode cX6_shoes 119 = .ok (.getfield 32, 3) := by decide +kernel
theorem dX6_shoes_122 : decode cX6_shoes 122 = .ok (.iload_n 1, 1) := by decide +kernel
theorem dX6_shoes_123 : decode cX6_shoes 123 = .ok (.aaload, 1) := by decide +kernel
theorem dX6_shoes_124 : decode cX6_shoes 124 = .ok (.iload_n 3, 1) := by decide +kernel
theorem dX6_shoes_125 : decode cX6_shoes 125 = .ok (.iload 4, 2) := by decide +kernel
theorem dX6_shoes_127 : decode cX6_shoes 127 = .ok (.invokevirtual 241, 3) := by decide +kernel
theorem dX6_shoes_130 : decode cX6_shoes 130 = .ok (.ifCond .eq 12, 3) := by decide +kernel
theorem dX6_shoes_133 : decode cX6_shoes 133 = .ok (.iload 6, 2) := by decide +kernel
theorem dX6_shoes_135 : decode cX6_shoes 135 = .ok (.iconst 1, 1) := by decide +kernel
theorem dX6_shoes_136 : decode cX6_shoes 136 = .ok (.iload 7, 2) := by decide +kernel
theorem dX6_shoes_138 : decode cX6_shoes 138 = .ok (.ishl, 1) := by decide +kernel
theorem dX6_shoes_139 : decode cX6_shoes 139 = .ok (.ior, 1) := by decide +kernel
theorem dX6_shoes_140 : decode cX6_shoes 140 = .ok (.istore 6, 2) := by decide +kernel
theorem dX6_shoes_142 : decode cX6_shoes 142 = .ok (.iinc 7 1, 3) := by decide +kernel
theorem dX6_shoes_145 : decode cX6_shoes 145 = .ok (.goto (-42), 3) := by decide +kernel
theorem dX6_shoes_148 : decode cX6_shoes 148 = .ok (.iload 6, 2) := by decide +kernel
theorem dX6_shoes_150 : decode cX6_shoes 150 = .ok (.ireturn, 1) := by decide +kernel
def f_X6_shoes_s39_b (x1 : Int32) (x3 : Int32) (x4 : Int32) (x6 : Int32) (S : gSt) : Option ((Int32 × Int32 × Int32 × Int32 × gSt) ⊕ ((Int32 × gSt) ⊕ (Int32 × Int32 × Int32 × gSt))) :=
(if x4 ≤ x6 then
some (.inr (.inr (x1, x3, x4, S)))
else
if gin x1 4 then
(gBind2 (f_X2_isWithin (x1.toNatClampNeg) (x3 + ((2 : Int32) * x6)) (63 : Int32) S) fun r11 S9 =>
(if r11 = 0 then
some (.inr (.inl ((-2 : Int32), S9)))
else
if gin x1 4 then
(gBind2 (f_X2_isWithin (x1.toNatClampNeg) ((x3 + ((2 : Int32) * x6)) + (1 : Int32)) (99 : Int32) S9) fun r16 S14 =>
(if r16 = 0 then
some (.inr (.inl ((-2 : Int32), S14)))
else
some (.inl (x1, x3, x4, x6 + (1 : Int32), S14)))) else none)) else none)
def f_X6_shoes_s39 : (Int32 × Int32 × Int32 × Int32 × gSt) → Option ((Int32 × Int32 × Int32 × Int32 × gSt) ⊕ ((Int32 × gSt) ⊕ (Int32 × Int32 × Int32 × gSt))) := fun t => f_X6_shoes_s39_b t.1 t.2.1 t.2.2.1 t.2.2.2.1 t.2.2.2.2
def f_X6_shoes_s103_b (x1 : Int32) (x3 : Int32) (x4 : Int32) (x6 : Int32) (x7 : Int32) (S : gSt) : Option ((Int32 × Int32 × Int32 × Int32 × Int32 × gSt) ⊕ (Int32 × gSt)) :=
(if (S.1 1 7) ≤ x7 then
some (.inr (x6, S))
else
if gin x1 4 then
(gBind2 (f_X6_hasPrints (x1.toNatClampNeg) x7 x3 x4 S) fun r23 S21 =>
(if r23 = 0 then
some (.inl (x1, x3, x4, x6, x7 + (1 : Int32), S21))
else
gLet (x6 ||| ((1 : Int32) <<< (x7 &&& 31))) fun v25 =>
some (.inl (x1, x3, x4, v25, x7 + (1 : Int32), S21)))) else none)
def f_X6_shoes_s103 : (Int32 × Int32 × Int32 × Int32 × Int32 × gSt) → Option ((Int32 × Int32 × Int32 × Int32 × Int32 × gSt) ⊕ (Int32 × gSt)) := fun t => f_X6_shoes_s103_b t.1 t.2.1 t.2.2.1 t.2.2.2.1 t.2.2.2.2.1 t.2.2.2.2.2
def f_X6_shoes (p1 : Int32) (p2 : Int32) (p3 : Int32) (p4 : Int32) (S : gSt) : Option (Int32 × gSt) :=
(if p4 < (1 : Int32) then
some ((-1 : Int32), S)
else
(if p4 ≤ (8 : Int32) then
gBind2 (f_X6_itemsFault p1 p2 p3 ((2 : Int32) * p4) S) fun r5 S3 =>
(if 0 ≤ r5 then
(gLoop (f_X6_shoes_s39) gFuel (p1, p3, p4, (0 : Int32), S3)).bind fun q18 => match q18 with
| .inl (v18, T18) => some (v18, T18)
| .inr (y1_18, y3_18, y4_18, S18) =>
(gLoop (f_X6_shoes_s103) gFuel (y1_18, y3_18, y4_18, (0 : Int32), (0 : Int32), S18)).bind fun q26 => match q26 with
| (y6_26, S26) =>
some (y6_26, S26)
else
some (r5, S3))
else
some ((-1 : Int32), S)))
set_option maxHeartbeats 4000000 in
set_option maxRecDepth 20000 in
theorem ok_X6_shoes {p1 : Int32} {p2 : Int32} {p3 : Int32} {p4 : Int32} {S S0 : gSt} {r0 : Int32}  (h : f_X6_shoes p1 p2 p3 p4 S = some (r0, S0)) : gCT yX6_shoes cX6_shoes 8 (some .int) 2 (fun w => [.ref (w.2.1 0), .int p1, .int p2, .int p3, .int p4]) S (some (.int r0)) S0 := by
  refine gEnter (fun X => [some (.ref (gad X 0)), some (.int p1), some (.int p2), some (.int p3), some (.int p4), none, none, none]) (by decide) (fun X => ⟨rfl, rfl⟩) (fun w => Nat.le_of_ble_eq_true rfl) (fun X hp => ?_)
  show AW X RX6 2 cX6_shoes 0 [some (.ref (gad X 0)), some (.int p1), some (.int p2), some (.int p3), some (.int p4), none, none, none] [] S
  unfold f_X6_shoes at h
  refine a_iload (pc := 0) dX6_shoes_0 rfl ?_
  refine a_iconst (pc := 2) (v := (1 : Int32)) dX6_shoes_2 (by decide) ?_
  refine a_icmp_lt (pc := 3) (tgt := 13) dX6_shoes_3 (by decide) (fun c1 => ?_) (fun c1 => ?_)
  · rw [if_pos c1] at h
    refine a_iconst (pc := 13) (v := (-1 : Int32)) dX6_shoes_13 (by decide) ?_
    obtain ⟨rfl, rfl⟩ := Prod.mk.inj (Option.some.inj h)
    exact a_iret hp dX6_shoes_14
  · rw [if_neg c1] at h
    refine a_iload (pc := 6) dX6_shoes_6 rfl ?_
    refine a_bipush (pc := 8) (v := (8 : Int32)) dX6_shoes_8 (by decide) ?_
    refine a_icmp_le (pc := 10) (tgt := 15) dX6_shoes_10 (by decide) (fun c2 => ?_) (fun c2 => ?_)
    · rw [if_pos c2] at h
      refine a_aloadn (pc := 15) dX6_shoes_15 rfl rfl ?_
      refine a_iloadn (pc := 16) dX6_shoes_16 rfl rfl ?_
      refine a_iloadn (pc := 17) dX6_shoes_17 rfl rfl ?_
      refine a_iloadn (pc := 18) dX6_shoes_18 rfl rfl ?_
      refine a_iconst (pc := 19) (v := (2 : Int32)) dX6_shoes_19 (by decide) ?_
      refine a_iload (pc := 20) dX6_shoes_20 rfl ?_
      refine a_imul (pc := 22) dX6_shoes_22 ?_
      obtain ⟨r5, S3, hc4, h⟩ := g_bind2 h
      refine a_invVi (pc := 23) (ok_X6_itemsFault hc4) gyX6_itemsFault vyX6_itemsFault mlX6_218 sh_0 rfl (As := [.int p1, .int p2, .int p3, .int ((2 : Int32) * p4)]) rfl rfl (by decide) (st := []) rfl (Nat.le_of_ble_eq_true rfl) dX6_shoes_23 ?_
      refine a_istore (pc := 26) dX6_shoes_26 (Nat.le_of_ble_eq_true rfl) rfl (L' := [some (.ref (gad X 0)), some (.int p1), some (.int p2), some (.int p3), some (.int p4), some (.int r5), none, none]) rfl ?_
      refine a_iload (pc := 28) dX6_shoes_28 rfl ?_
      refine a_if_ge (pc := 30) (tgt := 36) dX6_shoes_30 (by decide) (fun c6 => ?_) (fun c6 => ?_)
      · rw [if_pos c6] at h
        refine a_iconst (pc := 36) (v := (0 : Int32)) dX6_shoes_36 (by decide) ?_
        refine a_istore (pc := 37) dX6_shoes_37 (Nat.le_of_ble_eq_true rfl) rfl (L' := [some (.ref (gad X 0)), some (.int p1), some (.int p2), some (.int p3), some (.int p4), some (.int r5), some (.int (0 : Int32)), none]) rfl ?_
        obtain ⟨R18, hR18, h⟩ := g_bind h
        refine a_mask [true, true, false, true, true, false, true, true] (L' := [some (.ref (gad X 0)), some (.int p1), none, some (.int p3), some (.int p4), none, some (.int (0 : Int32)), none]) rfl ?_
        have E39 : ∀ (y1_18 : Int32) (y3_18 : Int32) (y4_18 : Int32) (S18 : gSt), ((gLoop (f_X6_shoes_s103) gFuel (y1_18, y3_18, y4_18, (0 : Int32), (0 : Int32), S18)).bind fun q26 => match q26 with | (y6_26, S26) => some (y6_26, S26)) = some (r0, S0) → AW X RX6 2 cX6_shoes 97 [some (.ref (gad X 0)), some (.int y1_18), none, some (.int y3_18), some (.int y4_18), none, none, none] [] S18 := by
          intro y1_18 y3_18 y4_18 S18 h
          refine a_iconst (pc := 97) (v := (0 : Int32)) dX6_shoes_97 (by decide) ?_
          refine a_istore (pc := 98) dX6_shoes_98 (Nat.le_of_ble_eq_true rfl) rfl (L' := [some (.ref (gad X 0)), some (.int y1_18), none, some (.int y3_18), some (.int y4_18), none, some (.int (0 : Int32)), none]) rfl ?_
          refine a_iconst (pc := 100) (v := (0 : Int32)) dX6_shoes_100 (by decide) ?_
          refine a_istore (pc := 101) dX6_shoes_101 (Nat.le_of_ble_eq_true rfl) rfl (L' := [some (.ref (gad X 0)), some (.int y1_18), none, some (.int y3_18), some (.int y4_18), none, some (.int (0 : Int32)), some (.int (0 : Int32))]) rfl ?_
          obtain ⟨R26, hR26, h⟩ := g_bind h
          have E103 : ∀ (y6_26 : Int32) (S26 : gSt), (some (y6_26, S26)) = some (r0, S0) → AW X RX6 2 cX6_shoes 148 [none, none, none, none, none, none, some (.int y6_26), none] [] S26 := by
            intro y6_26 S26 h
            refine a_iload (pc := 148) dX6_shoes_148 rfl ?_
            obtain ⟨rfl, rfl⟩ := Prod.mk.inj (Option.some.inj h)
            exact a_iret hp dX6_shoes_150
          have lp : ∀ (n : Nat) (x1 : Int32) (x3 : Int32) (x4 : Int32) (x6 : Int32) (x7 : Int32) (S : gSt), gLoop (f_X6_shoes_s103) n (x1, x3, x4, x6, x7, S) = some R26 → AW X RX6 2 cX6_shoes 103 [some (.ref (gad X 0)), some (.int x1), none, some (.int x3), some (.int x4), none, some (.int x6), some (.int x7)] [] S := by
            intro n
            induction n with
            | zero => intro x1 x3 x4 x6 x7 S hR; cases hR
            | succ n ih =>
              intro x1 x3 x4 x6 x7 S hR
              obtain ⟨q, hs, hR⟩ := g_bind hR
              have hs : f_X6_shoes_s103_b x1 x3 x4 x6 x7 S = some q := hs
              unfold f_X6_shoes_s103_b at hs
              refine a_iload (pc := 103) dX6_shoes_103 rfl ?_
              refine a_aloadn (pc := 105) dX6_shoes_105 rfl rfl ?_
              refine a_getA (pc := 106) flX6_12 sh_0 rfl dX6_shoes_106 ?_
              refine a_getI (pc := 109) flX6_55 sh_1 rfl dX6_shoes_109 ?_
              refine a_icmp_ge (pc := 112) (tgt := 148) dX6_shoes_112 (by decide) (fun c19 => ?_) (fun c19 => ?_)
              · rw [if_pos c19] at hs
                obtain rfl := Option.some.inj hs
                obtain rfl := Option.some.inj hR
                refine a_mask [false, false, true, false, false, true, true, false] (L' := [none, none, none, none, none, none, some (.int x6), none]) rfl ?_
                exact E103 _ _ h
              · rw [if_neg c19] at hs
                refine a_aloadn (pc := 115) dX6_shoes_115 rfl rfl ?_
                refine a_iload (pc := 116) dX6_shoes_116 rfl ?_
                refine a_aloadn (pc := 118) dX6_shoes_118 rfl rfl ?_
                refine a_getA (pc := 119) flX6_32 sh_0 rfl dX6_shoes_119 ?_
                refine a_iloadn (pc := 122) dX6_shoes_122 rfl rfl ?_
                obtain ⟨hi20, hs⟩ := g_if hs
                refine a_aald (pc := 123) sh_32 hi20 dX6_shoes_123 ?_
                refine a_iloadn (pc := 124) dX6_shoes_124 rfl rfl ?_
                refine a_iload (pc := 125) dX6_shoes_125 rfl ?_
                obtain ⟨r23, S21, hc22, hs⟩ := g_bind2 hs
                refine a_invVi (pc := 127) (ok_X6_hasPrints (gin_lt hi20) hc22) gyX6_hasPrints vyX6_hasPrints mlX6_241 sh_0 rfl (As := [.int x7, .ref (gad X (33 + (x1.toNatClampNeg))), .int x3, .int x4]) rfl rfl (by decide) (st := []) rfl (Nat.le_of_ble_eq_true rfl) dX6_shoes_127 ?_
                refine a_if_eq (pc := 130) (tgt := 142) dX6_shoes_130 (by decide) (fun c24 => ?_) (fun c24 => ?_)
                · rw [if_pos c24] at hs
                  refine a_iinc (pc := 142) dX6_shoes_142 rfl (v := x7 + (1 : Int32)) rfl (Nat.le_of_ble_eq_true rfl) rfl (L' := [some (.ref (gad X 0)), some (.int x1), none, some (.int x3), some (.int x4), none, some (.int x6), some (.int (x7 + (1 : Int32)))]) rfl ?_
                  refine a_goto (pc := 145) (tgt := 103) dX6_shoes_145 (by decide) ?_
                  obtain rfl := Option.some.inj hs
                  exact ih _ _ _ _ _ _ hR
                · rw [if_neg c24] at hs
                  refine a_iload (pc := 133) dX6_shoes_133 rfl ?_
                  refine a_iconst (pc := 135) (v := (1 : Int32)) dX6_shoes_135 (by decide) ?_
                  refine a_iload (pc := 136) dX6_shoes_136 rfl ?_
                  refine a_ishl (pc := 138) dX6_shoes_138 ?_
                  refine a_ior (pc := 139) dX6_shoes_139 ?_
                  obtain ⟨v25, ev25, hs⟩ := g_let hs
                  refine a_nmI ev25 ?_
                  refine a_istore (pc := 140) dX6_shoes_140 (Nat.le_of_ble_eq_true rfl) rfl (L' := [some (.ref (gad X 0)), some (.int x1), none, some (.int x3), some (.int x4), none, some (.int v25), some (.int x7)]) rfl ?_
                  refine a_iinc (pc := 142) dX6_shoes_142 rfl (v := x7 + (1 : Int32)) rfl (Nat.le_of_ble_eq_true rfl) rfl (L' := [some (.ref (gad X 0)), some (.int x1), none, some (.int x3), some (.int x4), none, some (.int v25), some (.int (x7 + (1 : Int32)))]) rfl ?_
                  refine a_goto (pc := 145) (tgt := 103) dX6_shoes_145 (by decide) ?_
                  obtain rfl := Option.some.inj hs
                  exact ih _ _ _ _ _ _ hR
          exact lp _ _ _ _ _ _ _ hR26
        have lp : ∀ (n : Nat) (x1 : Int32) (x3 : Int32) (x4 : Int32) (x6 : Int32) (S : gSt), gLoop (f_X6_shoes_s39) n (x1, x3, x4, x6, S) = some R18 → AW X RX6 2 cX6_shoes 39 [some (.ref (gad X 0)), some (.int x1), none, some (.int x3), some (.int x4), none, some (.int x6), none] [] S := by
          intro n
          induction n with
          | zero => intro x1 x3 x4 x6 S hR; cases hR
          | succ n ih =>
            intro x1 x3 x4 x6 S hR
            obtain ⟨q, hs, hR⟩ := g_bind hR
            have hs : f_X6_shoes_s39_b x1 x3 x4 x6 S = some q := hs
            unfold f_X6_shoes_s39_b at hs
            refine a_iload (pc := 39) dX6_shoes_39 rfl ?_
            refine a_iload (pc := 41) dX6_shoes_41 rfl ?_
            refine a_icmp_ge (pc := 43) (tgt := 97) dX6_shoes_43 (by decide) (fun c7 => ?_) (fun c7 => ?_)
            · rw [if_pos c7] at hs
              obtain rfl := Option.some.inj hs
              obtain rfl := Option.some.inj hR
              refine a_mask [true, true, true, true, true, true, false, true] (L' := [some (.ref (gad X 0)), some (.int x1), none, some (.int x3), some (.int x4), none, none, none]) rfl ?_
              exact E39 _ _ _ _ h
            · rw [if_neg c7] at hs
              refine a_aloadn (pc := 46) dX6_shoes_46 rfl rfl ?_
              refine a_getA (pc := 47) flX6_32 sh_0 rfl dX6_shoes_47 ?_
              refine a_iloadn (pc := 50) dX6_shoes_50 rfl rfl ?_
              obtain ⟨hi8, hs⟩ := g_if hs
              refine a_aald (pc := 51) sh_32 hi8 dX6_shoes_51 ?_
              refine a_iloadn (pc := 52) dX6_shoes_52 rfl rfl ?_
              refine a_iconst (pc := 53) (v := (2 : Int32)) dX6_shoes_53 (by decide) ?_
              refine a_iload (pc := 54) dX6_shoes_54 rfl ?_
              refine a_imul (pc := 56) dX6_shoes_56 ?_
              refine a_iadd (pc := 57) dX6_shoes_57 ?_
              refine a_bipush (pc := 58) (v := (63 : Int32)) dX6_shoes_58 (by decide) ?_
              obtain ⟨r11, S9, hc10, hs⟩ := g_bind2 hs
              refine a_invVi (pc := 60) (ok_X2_isWithin (gin_lt hi8) hc10) gyX2_isWithin vyX2_isWithin mlX6_222 (sh_sheet (gin_lt hi8)) rfl (As := [.int (x3 + ((2 : Int32) * x6)), .int (63 : Int32)]) rfl rfl (by decide) (st := []) rfl (Nat.le_of_ble_eq_true rfl) dX6_shoes_60 ?_
              refine a_if_eq (pc := 63) (tgt := 88) dX6_shoes_63 (by decide) (fun c12 => ?_) (fun c12 => ?_)
              · rw [if_pos c12] at hs
                refine a_bipush (pc := 88) (v := (-2 : Int32)) dX6_shoes_88 (by decide) ?_
                obtain rfl := Option.some.inj hs
                obtain rfl := Option.some.inj hR
                obtain ⟨rfl, rfl⟩ := Prod.mk.inj (Option.some.inj h)
                exact a_iret hp dX6_shoes_90
              · rw [if_neg c12] at hs
                refine a_aloadn (pc := 66) dX6_shoes_66 rfl rfl ?_
                refine a_getA (pc := 67) flX6_32 sh_0 rfl dX6_shoes_67 ?_
                refine a_iloadn (pc := 70) dX6_shoes_70 rfl rfl ?_
                obtain ⟨hi13, hs⟩ := g_if hs
                refine a_aald (pc := 71) sh_32 hi13 dX6_shoes_71 ?_
                refine a_iloadn (pc := 72) dX6_shoes_72 rfl rfl ?_
                refine a_iconst (pc := 73) (v := (2 : Int32)) dX6_shoes_73 (by decide) ?_
                refine a_iload (pc := 74) dX6_shoes_74 rfl ?_
                refine a_imul (pc := 76) dX6_shoes_76 ?_
                refine a_iadd (pc := 77) dX6_shoes_77 ?_
                refine a_iconst (pc := 78) (v := (1 : Int32)) dX6_shoes_78 (by decide) ?_
                refine a_iadd (pc := 79) dX6_shoes_79 ?_
                refine a_bipush (pc := 80) (v := (99 : Int32)) dX6_shoes_80 (by decide) ?_
                obtain ⟨r16, S14, hc15, hs⟩ := g_bind2 hs
                refine a_invVi (pc := 82) (ok_X2_isWithin (gin_lt hi13) hc15) gyX2_isWithin vyX2_isWithin mlX6_222 (sh_sheet (gin_lt hi13)) rfl (As := [.int ((x3 + ((2 : Int32) * x6)) + (1 : Int32)), .int (99 : Int32)]) rfl rfl (by decide) (st := []) rfl (Nat.le_of_ble_eq_true rfl) dX6_shoes_82 ?_
                refine a_if_ne (pc := 85) (tgt := 91) dX6_shoes_85 (by decide) (fun c17 => ?_) (fun c17 => ?_)
                · rw [if_neg c17] at hs
                  refine a_iinc (pc := 91) dX6_shoes_91 rfl (v := x6 + (1 : Int32)) rfl (Nat.le_of_ble_eq_true rfl) rfl (L' := [some (.ref (gad X 0)), some (.int x1), none, some (.int x3), some (.int x4), none, some (.int (x6 + (1 : Int32))), none]) rfl ?_
                  refine a_goto (pc := 94) (tgt := 39) dX6_shoes_94 (by decide) ?_
                  obtain rfl := Option.some.inj hs
                  exact ih _ _ _ _ _ hR
                · rw [if_pos c17] at hs
                  refine a_bipush (pc := 88) (v := (-2 : Int32)) dX6_shoes_88 (by decide) ?_
                  obtain rfl := Option.some.inj hs
                  obtain rfl := Option.some.inj hR
                  obtain ⟨rfl, rfl⟩ := Prod.mk.inj (Option.some.inj h)
                  exact a_iret hp dX6_shoes_90
        exact lp _ _ _ _ _ _ hR18
      · rw [if_neg c6] at h
        refine a_iload (pc := 33) dX6_shoes_33 rfl ?_
        obtain ⟨rfl, rfl⟩ := Prod.mk.inj (Option.some.inj h)
        exact a_iret hp dX6_shoes_35
    · rw [if_neg c2] at h
      refine a_iconst (pc := 13) (v := (-1 : Int32)) dX6_shoes_13 (by decide) ?_
      obtain ⟨rfl, rfl⟩ := Prod.mk.inj (Option.some.inj h)
      exact a_iret hp dX6_shoes_14
theorem dX6_film_0 : decode cX6_film 0 = .ok (.aload_n 0, 1) := by decide +kernel
theorem dX6_film_1 : decode cX6_film 1 = .ok (.getfield 12, 3) := by decide +kernel
theorem dX6_film_4 : decode cX6_film 4 = .ok (.iload_n 1, 1) := by decide +kernel
theorem dX6_film_5 : decode cX6_film 5 = .ok (.invokevirtual 72, 3) := by decide +kernel
theorem dX6_film_8 : decode cX6_film 8 = .ok (.ifCond .eq 14, 3) := by decide +kernel
theorem dX6_film_11 : decode cX6_film 11 = .ok (.iload_n 2, 1) := by decide +kernel
theorem dX6_film_12 : decode cX6_film 12 = .ok (.iconst 1, 1) := by decide +kernel
theorem dX6_film_13 : decode cX6_film 13 = .ok (.if_icmp .lt 9, 3) := by decide +kernel
theorem dX6_film_16 : decode cX6_film 16 = .ok (.iload_n 2, 1) := by decide +kernel
theorem dX6_film_17 : decode cX6_film 17 = .ok (.bipush 24, 2) := by decide +kernel
theorem dX6_film_19 : decode cX6_film 19 = .ok (.if_icmp .le 5, 3) := by decide +kernel
theorem dX6_film_22 : decode cX6_film 22 = .ok (.iconst (-1), 1) := by decide +kernel
theorem dX6_film_23 : decode cX6_film 23 = .ok (.ireturn, 1) := by decide +kernel
theorem dX6_film_24 : decode cX6_film 24 = .ok (.aload_n 0, 1) := by decide +kernel
theorem dX6_film_25 : decode cX6_film 25 = .ok (.iload_n 3, 1) := by decide +kernel
theorem dX6_film_26 : decode cX6_film 26 = .ok (.iload 4, 2) := by decide +kernel
theorem dX6_film_28 : decode cX6_film 28 = .ok (.iload 5, 2) := by decide +kernel
theorem dX6_film_30 : decode cX6_film 30 = .ok (.iload_n 2, 1) := by decide +kernel
theorem dX6_film_31 : decode cX6_film 31 = .ok (.invokevirtual 218, 3) := by decide +kernel
theorem dX6_film_34 : decode cX6_film 34 = .ok (.istore 6, 2) := by decide +kernel
theorem dX6_film_36 : decode cX6_film 36 = .ok (.iload 6, 2) := by decide +kernel
theorem dX6_film_38 : decode cX6_film 38 = .ok (.ifCond .ge 6, 3) := by decide +kernel
theorem dX6_film_41 : decode cX6_film 41 = .ok (.iload 6, 2) := by decide +kernel
theorem dX6_film_43 : decode cX6_film 43 = .ok (.ireturn, 1) := by decide +kernel
theorem dX6_film_44 : decode cX6_film 44 = .ok (.iconst 0, 1) := by decide +kernel
theorem dX6_film_45 : decode cX6_film 45 = .ok (.istore 7, 2) := by decide +kernel
theorem dX6_film_47 : decode cX6_film 47 = .ok (.iload 7, 2) := by decide +kernel
theorem dX6_film_49 : decode cX6_film 49 = .ok (.iload_n 2, 1) := by decide +kernel
theorem dX6_film_50 : decode cX6_film 50 = .ok (.if_icmp .ge 49, 3) := by decide +kernel
theorem dX6_film_53 : decode cX6_film 53 = .ok (.aload_n 0, 1) := by decide +kernel
theorem dX6_film_54 : decode cX6_film 54 = .ok (.getfield 39, 3) := by decide +kernel
theorem dX6_film_57 : decode cX6_film 57 = .ok (.aload_n 0, 1) := by decide +kernel
theorem dX6_film_58 : decode cX6_film 58 = .ok (.getfield 12, 3) := by decide +kernel
theorem dX6_film_61 : decode cX6_film 61 = .ok (.iload 7, 2) := by decide +kernel
theorem dX6_film_63 : decode cX6_film 63 = .ok (.iconst 1, 1) := by decide +kernel
theorem dX6_film_64 : decode cX6_film 64 = .ok (.iadd, 1) := by decide +kernel
theorem dX6_film_65 : decode cX6_film 65 = .ok (.invokevirtual 95, 3) := by decide +kernel
theorem dX6_film_68 : decode cX6_film 68 = .ok (.aload_n 0, 1) := by decide +kernel
theorem dX6_film_69 : decode cX6_film 69 = .ok (.getfield 32, 3) := by decide +kernel
theorem dX6_film_72 : decode cX6_film 72 = .ok (.iload_n 3, 1) := by decide +kernel
theorem dX6_film_73 : decode cX6_film 73 = .ok (.aaload, 1) := by decide +kernel
theorem dX6_film_74 : decode cX6_film 74 = .ok (.getfield 237, 3) := by decide +kernel
theorem dX6_film_77 : decode cX6_film 77 = .ok (.iload 5, 2) := by decide +kernel
theorem dX6_film_79 : decode cX6_film 79 = .ok (.iload 7, 2) := by decide +kernel
theorem dX6_film_81 : decode cX6_film 81 = .ok (.iadd, 1) := by decide +kernel
theorem dX6_film_82 : decode cX6_film 82 = .ok (.aload_n 0, 1) := by decide +kernel
theorem dX6_film_83 : decode cX6_film 83 = .ok (.getfield 39, 3) := by decide +kernel
theorem dX6_film_86 : decode cX6_film 86 = .ok (.getfield 99, 3) := by decide +kernel
theorem dX6_film_89 : decode cX6_film 89 = .ok (.iload_n 1, 1) := by decide +kernel
theorem dX6_film_90 : decode cX6_film 90 = .ok (.iaload, 1) := by decide +kernel
theorem dX6_film_91 : decode cX6_film 91 = .ok (.i2l, 1) := by decide +kernel
theorem dX6_film_92 : decode cX6_film 92 = .ok (.lastore, 1) := by decide +kernel
theorem dX6_film_93 : decode cX6_film 93 = .ok (.iinc 7 1, 3) := by decide +kernel
theorem dX6_film_96 : decode cX6_film 96 = .ok (.goto (-49), 3) := by decide +kernel
theorem dX6_film_99 : decode cX6_film 99 = .ok (.iload_n 2, 1) := by decide +kernel
theorem dX6_film_100 : decode cX6_film 100 = .ok (.ireturn, 1) := by decide +kernel
def f_X6_film_s47_b (x1 : Int32) (x2 : Int32) (x3 : Int32) (x5 : Int32) (x7 : Int32) (S : gSt) : Option ((Int32 × Int32 × Int32 × Int32 × Int32 × gSt) ⊕ (Int32 × gSt)) :=
(if x2 ≤ x7 then
some (.inr (x2, S))
else
(f_X3_look (x7 + (1 : Int32)) S).bind fun S12 =>
if gin x3 4 then
(if gin x1 6 then
(if gin (x5 + x7) 24 then
gLet (gJ S12 (37 + (x3.toNatClampNeg)) (x5 + x7).toNatClampNeg ((S12.1 43 x1.toNatClampNeg).toInt64)) fun S17 =>
(some (.inl (x1, x2, x3, x5, x7 + (1 : Int32), S17))) else none) else none) else none)
def f_X6_film_s47 : (Int32 × Int32 × Int32 × Int32 × Int32 × gSt) → Option ((Int32 × Int32 × Int32 × Int32 × Int32 × gSt) ⊕ (Int32 × gSt)) := fun t => f_X6_film_s47_b t.1 t.2.1 t.2.2.1 t.2.2.2.1 t.2.2.2.2.1 t.2.2.2.2.2
def f_X6_film (p1 : Int32) (p2 : Int32) (p3 : Int32) (p4 : Int32) (p5 : Int32) (S : gSt) : Option (Int32 × gSt) :=
gBind2 (f_X0_has p1 S) fun r3 S1 =>
(if r3 = 0 then
some ((-1 : Int32), S1)
else
(if p2 < (1 : Int32) then
some ((-1 : Int32), S1)
else
(if p2 ≤ (24 : Int32) then
gBind2 (f_X6_itemsFault p3 p4 p5 p2 S1) fun r9 S7 =>
(if 0 ≤ r9 then
(gLoop (f_X6_film_s47) gFuel (p1, p2, p3, p5, (0 : Int32), S7)).bind fun q18 => match q18 with
| (y2_18, S18) =>
some (y2_18, S18)
else
some (r9, S7))
else
some ((-1 : Int32), S1))))
set_option maxHeartbeats 4000000 in
set_option maxRecDepth 20000 in
theorem ok_X6_film {p1 : Int32} {p2 : Int32} {p3 : Int32} {p4 : Int32} {p5 : Int32} {S S0 : gSt} {r0 : Int32}  (h : f_X6_film p1 p2 p3 p4 p5 S = some (r0, S0)) : gCT yX6_film cX6_film 8 (some .int) 4 (fun w => [.ref (w.2.1 0), .int p1, .int p2, .int p3, .int p4, .int p5]) S (some (.int r0)) S0 := by
  refine gEnter (fun X => [some (.ref (gad X 0)), some (.int p1), some (.int p2), some (.int p3), some (.int p4), some (.int p5), none, none]) (by decide) (fun X => ⟨rfl, rfl⟩) (fun w => Nat.le_of_ble_eq_true rfl) (fun X hp => ?_)
  show AW X RX6 4 cX6_film 0 [some (.ref (gad X 0)), some (.int p1), some (.int p2), some (.int p3), some (.int p4), some (.int p5), none, none] [] S
  unfold f_X6_film at h
  refine a_aloadn (pc := 0) dX6_film_0 rfl rfl ?_
  refine a_getA (pc := 1) flX6_12 sh_0 rfl dX6_film_1 ?_
  refine a_iloadn (pc := 4) dX6_film_4 rfl rfl ?_
  obtain ⟨r3, S1, hc2, h⟩ := g_bind2 h
  refine a_invVi (pc := 5) (ok_X0_has hc2) gyX0_has vyX0_has mlX6_72 sh_1 rfl (As := [.int p1]) rfl rfl (by decide) (st := []) rfl (Nat.le_of_ble_eq_true rfl) dX6_film_5 ?_
  refine a_if_eq (pc := 8) (tgt := 22) dX6_film_8 (by decide) (fun c4 => ?_) (fun c4 => ?_)
  · rw [if_pos c4] at h
    refine a_iconst (pc := 22) (v := (-1 : Int32)) dX6_film_22 (by decide) ?_
    obtain ⟨rfl, rfl⟩ := Prod.mk.inj (Option.some.inj h)
    exact a_iret hp dX6_film_23
  · rw [if_neg c4] at h
    refine a_iloadn (pc := 11) dX6_film_11 rfl rfl ?_
    refine a_iconst (pc := 12) (v := (1 : Int32)) dX6_film_12 (by decide) ?_
    refine a_icmp_lt (pc := 13) (tgt := 22) dX6_film_13 (by decide) (fun c5 => ?_) (fun c5 => ?_)
    · rw [if_pos c5] at h
      refine a_iconst (pc := 22) (v := (-1 : Int32)) dX6_film_22 (by decide) ?_
      obtain ⟨rfl, rfl⟩ := Prod.mk.inj (Option.some.inj h)
      exact a_iret hp dX6_film_23
    · rw [if_neg c5] at h
      refine a_iloadn (pc := 16) dX6_film_16 rfl rfl ?_
      refine a_bipush (pc := 17) (v := (24 : Int32)) dX6_film_17 (by decide) ?_
      refine a_icmp_le (pc := 19) (tgt := 24) dX6_film_19 (by decide) (fun c6 => ?_) (fun c6 => ?_)
      · rw [if_pos c6] at h
        refine a_aloadn (pc := 24) dX6_film_24 rfl rfl ?_
        refine a_iloadn (pc := 25) dX6_film_25 rfl rfl ?_
        refine a_iload (pc := 26) dX6_film_26 rfl ?_
        refine a_iload (pc := 28) dX6_film_28 rfl ?_
        refine a_iloadn (pc := 30) dX6_film_30 rfl rfl ?_
        obtain ⟨r9, S7, hc8, h⟩ := g_bind2 h
        refine a_invVi (pc := 31) (ok_X6_itemsFault hc8) gyX6_itemsFault vyX6_itemsFault mlX6_218 sh_0 rfl (As := [.int p3, .int p4, .int p5, .int p2]) rfl rfl (by decide) (st := []) rfl (Nat.le_of_ble_eq_true rfl) dX6_film_31 ?_
        refine a_istore (pc := 34) dX6_film_34 (Nat.le_of_ble_eq_true rfl) rfl (L' := [some (.ref (gad X 0)), some (.int p1), some (.int p2), some (.int p3), some (.int p4), some (.int p5), some (.int r9), none]) rfl ?_
        refine a_iload (pc := 36) dX6_film_36 rfl ?_
        refine a_if_ge (pc := 38) (tgt := 44) dX6_film_38 (by decide) (fun c10 => ?_) (fun c10 => ?_)
        · rw [if_pos c10] at h
          refine a_iconst (pc := 44) (v := (0 : Int32)) dX6_film_44 (by decide) ?_
          refine a_istore (pc := 45) dX6_film_45 (Nat.le_of_ble_eq_true rfl) rfl (L' := [some (.ref (gad X 0)), some (.int p1), some (.int p2), some (.int p3), some (.int p4), some (.int p5), some (.int r9), some (.int (0 : Int32))]) rfl ?_
          obtain ⟨R18, hR18, h⟩ := g_bind h
          refine a_mask [true, true, true, true, false, true, false, true] (L' := [some (.ref (gad X 0)), some (.int p1), some (.int p2), some (.int p3), none, some (.int p5), none, some (.int (0 : Int32))]) rfl ?_
          have E47 : ∀ (y2_18 : Int32) (S18 : gSt), (some (y2_18, S18)) = some (r0, S0) → AW X RX6 4 cX6_film 99 [none, none, some (.int y2_18), none, none, none, none, none] [] S18 := by
            intro y2_18 S18 h
            refine a_iloadn (pc := 99) dX6_film_99 rfl rfl ?_
            obtain ⟨rfl, rfl⟩ := Prod.mk.inj (Option.some.inj h)
            exact a_iret hp dX6_film_100
          have lp : ∀ (n : Nat) (x1 : Int32) (x2 : Int32) (x3 : Int32) (x5 : Int32) (x7 : Int32) (S : gSt), gLoop (f_X6_film_s47) n (x1, x2, x3, x5, x7, S) = some R18 → AW X RX6 4 cX6_film 47 [some (.ref (gad X 0)), some (.int x1), some (.int x2), some (.int x3), none, some (.int x5), none, some (.int x7)] [] S := by
            intro n
            induction n with
            | zero => intro x1 x2 x3 x5 x7 S hR; cases hR
            | succ n ih =>
              intro x1 x2 x3 x5 x7 S hR
              obtain ⟨q, hs, hR⟩ := g_bind hR
              have hs : f_X6_film_s47_b x1 x2 x3 x5 x7 S = some q := hs
              unfold f_X6_film_s47_b at hs
              refine a_iload (pc := 47) dX6_film_47 rfl ?_
              refine a_iloadn (pc := 49) dX6_film_49 rfl rfl ?_
              refine a_icmp_ge (pc := 50) (tgt := 99) dX6_film_50 (by decide) (fun c11 => ?_) (fun c11 => ?_)
              · rw [if_pos c11] at hs
                obtain rfl := Option.some.inj hs
                obtain rfl := Option.some.inj hR
                refine a_mask [false, false, true, false, true, false, true, false] (L' := [none, none, some (.int x2), none, none, none, none, none]) rfl ?_
                exact E47 _ _ h
              · rw [if_neg c11] at hs
                refine a_aloadn (pc := 53) dX6_film_53 rfl rfl ?_
                refine a_getA (pc := 54) flX6_39 sh_0 rfl dX6_film_54 ?_
                refine a_aloadn (pc := 57) dX6_film_57 rfl rfl ?_
                refine a_getA (pc := 58) flX6_12 sh_0 rfl dX6_film_58 ?_
                refine a_iload (pc := 61) dX6_film_61 rfl ?_
                refine a_iconst (pc := 63) (v := (1 : Int32)) dX6_film_63 (by decide) ?_
                refine a_iadd (pc := 64) dX6_film_64 ?_
                obtain ⟨S12, hc13, hs⟩ := g_bind hs
                refine a_invVv (pc := 65) (ok_X3_look hc13) gyX3_look vyX3_look mlX6_95 sh_41 rfl (As := [.ref (gad X 1), .int (x7 + (1 : Int32))]) rfl rfl (by decide) (st := []) rfl (Nat.le_of_ble_eq_true rfl) dX6_film_65 ?_
                refine a_aloadn (pc := 68) dX6_film_68 rfl rfl ?_
                refine a_getA (pc := 69) flX6_32 sh_0 rfl dX6_film_69 ?_
                refine a_iloadn (pc := 72) dX6_film_72 rfl rfl ?_
                obtain ⟨hi14, hs⟩ := g_if hs
                refine a_aald (pc := 73) sh_32 hi14 dX6_film_73 ?_
                refine a_getA (pc := 74) flX6_237 (sh_sheet (gin_lt hi14)) rfl dX6_film_74 ?_
                refine a_iload (pc := 77) dX6_film_77 rfl ?_
                refine a_iload (pc := 79) dX6_film_79 rfl ?_
                refine a_iadd (pc := 81) dX6_film_81 ?_
                refine a_aloadn (pc := 82) dX6_film_82 rfl rfl ?_
                refine a_getA (pc := 83) flX6_39 sh_0 rfl dX6_film_83 ?_
                refine a_getA (pc := 86) flX6_99 sh_41 rfl dX6_film_86 ?_
                refine a_iloadn (pc := 89) dX6_film_89 rfl rfl ?_
                obtain ⟨hi15, hs⟩ := g_if hs
                refine a_iald (pc := 90) sh_43 hi15 dX6_film_90 ?_
                refine a_i2l (pc := 91) dX6_film_91 ?_
                obtain ⟨hi16, hs⟩ := g_if hs
                refine a_last (pc := 92) (sh_items (gin_lt hi14)) hi16 dX6_film_92 ?_
                obtain ⟨S17, eS17, hs⟩ := g_let hs
                refine a_nmS eS17 ?_
                refine a_iinc (pc := 93) dX6_film_93 rfl (v := x7 + (1 : Int32)) rfl (Nat.le_of_ble_eq_true rfl) rfl (L' := [some (.ref (gad X 0)), some (.int x1), some (.int x2), some (.int x3), none, some (.int x5), none, some (.int (x7 + (1 : Int32)))]) rfl ?_
                refine a_goto (pc := 96) (tgt := 47) dX6_film_96 (by decide) ?_
                obtain rfl := Option.some.inj hs
                exact ih _ _ _ _ _ _ hR
          exact lp _ _ _ _ _ _ _ hR18
        · rw [if_neg c10] at h
          refine a_iload (pc := 41) dX6_film_41 rfl ?_
          obtain ⟨rfl, rfl⟩ := Prod.mk.inj (Option.some.inj h)
          exact a_iret hp dX6_film_43
      · rw [if_neg c6] at h
        refine a_iconst (pc := 22) (v := (-1 : Int32)) dX6_film_22 (by decide) ?_
        obtain ⟨rfl, rfl⟩ := Prod.mk.inj (Option.some.inj h)
        exact a_iret hp dX6_film_23
theorem dJ7_fill_d0a16_0 : decode cJ7_fill_d0a16 0 = .ok (.iconst 0, 1) := by decide +kernel
theorem dJ7_fill_d0a16_1 : decode cJ7_fill_d0a16 1 = .ok (.istore_n 3, 1) := by decide +kernel
theorem dJ7_fill_d0a16_2 : decode cJ7_fill_d0a16 2 = .ok (.aload_n 0, 1) := by decide +kernel
theorem dJ7_fill_d0a16_3 : decode cJ7_fill_d0a16 3 = .ok (.arraylength, 1) := by decide +kernel
theorem dJ7_fill_d0a16_4 : decode cJ7_fill_d0a16 4 = .ok (.istore 4, 2) := by decide +kernel
theorem dJ7_fill_d0a16_6 : decode cJ7_fill_d0a16 6 = .ok (.iload_n 3, 1) := by decide +kernel
theorem dJ7_fill_d0a16_7 : decode cJ7_fill_d0a16 7 = .ok (.iload 4, 2) := by decide +kernel
theorem dJ7_fill_d0a16_9 : decode cJ7_fill_d0a16 9 = .ok (.if_icmp .ge 13, 3) := by decide +kernel
theorem dJ7_fill_d0a16_12 : decode cJ7_fill_d0a16 12 = .ok (.aload_n 0, 1) := by decide +kernel
theorem dJ7_fill_d0a16_13 : decode cJ7_fill_d0a16 13 = .ok (.iload_n 3, 1) := by decide +kernel
theorem dJ7_fill_d0a16_14 : decode cJ7_fill_d0a16 14 = .ok (.lload_n 1, 1) := by decide +kernel
theorem dJ7_fill_d0a16_15 : decode cJ7_fill_d0a16 15 = .ok (.lastore, 1) := by decide +kernel
theorem dJ7_fill_d0a16_16 : decode cJ7_fill_d0a16 16 = .ok (.iinc 3 1, 3) := by decide +kernel
theorem dJ7_fill_d0a16_19 : decode cJ7_fill_d0a16 19 = .ok (.goto (-13), 3) := by decide +kernel
theorem dJ7_fill_d0a16_22 : decode cJ7_fill_d0a16 22 = .ok (.return_, 1) := by decide +kernel
def f_J7_fill_d0a16_items_s6_b (j : Nat) (x1 : Int64) (x3 : Int32) (x4 : Int32) (S : gSt) : Option ((Int64 × Int32 × Int32 × gSt) ⊕ (gSt)) :=
(if x4 ≤ x3 then
some (.inr (S))
else
if gin x3 24 then
gLet (gJ S (37 + j) x3.toNatClampNeg x1) fun S3 =>
(some (.inl (x1, x3 + (1 : Int32), x4, S3))) else none)
def f_J7_fill_d0a16_items_s6 (j : Nat) : (Int64 × Int32 × Int32 × gSt) → Option ((Int64 × Int32 × Int32 × gSt) ⊕ (gSt)) := fun t => f_J7_fill_d0a16_items_s6_b j t.1 t.2.1 t.2.2.1 t.2.2.2
def f_J7_fill_d0a16_items (j : Nat) (p1 : Int64) (S : gSt) : Option gSt :=
(gLoop (f_J7_fill_d0a16_items_s6 j) gFuel (p1, (0 : Int32), (24 : Int32), S)).bind fun q4 => match q4 with
| S4 =>
some S4
set_option maxHeartbeats 4000000 in
set_option maxRecDepth 20000 in
theorem ok_J7_fill_d0a16_items {j : Nat} {p1 : Int64} {S S0 : gSt}  (hj : j < 4) (h : f_J7_fill_d0a16_items j p1 S = some S0) : gCT yJ7_fill_d0a16 cJ7_fill_d0a16 5 none 0 (fun w => [.ref (w.2.1 (37 + j)), .long p1]) S none S0 := by
  refine gEnter (fun X => [some (.ref (gad X (37 + j))), some (.long p1), none, none, none]) (by decide) (fun X => ⟨rfl, rfl⟩) (fun w => Nat.le_of_ble_eq_true rfl) (fun X hp => ?_)
  show AW X RJ7 0 cJ7_fill_d0a16 0 [some (.ref (gad X (37 + j))), some (.long p1), none, none, none] [] S
  unfold f_J7_fill_d0a16_items at h
  refine a_iconst (pc := 0) (v := (0 : Int32)) dJ7_fill_d0a16_0 (by decide) ?_
  refine a_istoren (pc := 1) dJ7_fill_d0a16_1 rfl (Nat.le_of_ble_eq_true rfl) rfl (L' := [some (.ref (gad X (37 + j))), some (.long p1), none, some (.int (0 : Int32)), none]) rfl ?_
  refine a_aloadn (pc := 2) dJ7_fill_d0a16_2 rfl rfl ?_
  refine a_alen (pc := 3) (sh_items hj) (by decide) (v := (24 : Int32)) (by decide) dJ7_fill_d0a16_3 ?_
  refine a_istore (pc := 4) dJ7_fill_d0a16_4 (Nat.le_of_ble_eq_true rfl) rfl (L' := [some (.ref (gad X (37 + j))), some (.long p1), none, some (.int (0 : Int32)), some (.int (24 : Int32))]) rfl ?_
  obtain ⟨R4, hR4, h⟩ := g_bind h
  have E6 : ∀  (S4 : gSt), (some S4) = some S0 → AW X RJ7 0 cJ7_fill_d0a16 22 [none, none, none, none, none] [] S4 := by
    intro S4 h
    obtain rfl := Option.some.inj h
    exact a_vret hp dJ7_fill_d0a16_22
  have lp : ∀ (n : Nat) (x1 : Int64) (x3 : Int32) (x4 : Int32) (S : gSt), gLoop (f_J7_fill_d0a16_items_s6 j) n (x1, x3, x4, S) = some R4 → AW X RJ7 0 cJ7_fill_d0a16 6 [some (.ref (gad X (37 + j))), some (.long x1), none, some (.int x3), some (.int x4)] [] S := by
    intro n
    induction n with
    | zero => intro x1 x3 x4 S hR; cases hR
    | succ n ih =>
      intro x1 x3 x4 S hR
      obtain ⟨q, hs, hR⟩ := g_bind hR
      have hs : f_J7_fill_d0a16_items_s6_b j x1 x3 x4 S = some q := hs
      unfold f_J7_fill_d0a16_items_s6_b at hs
      refine a_iloadn (pc := 6) dJ7_fill_d0a16_6 rfl rfl ?_
      refine a_iload (pc := 7) dJ7_fill_d0a16_7 rfl ?_
      refine a_icmp_ge (pc := 9) (tgt := 22) dJ7_fill_d0a16_9 (by decide) (fun c1 => ?_) (fun c1 => ?_)
      · rw [if_pos c1] at hs
        obtain rfl := Option.some.inj hs
        obtain rfl := Option.some.inj hR
        refine a_mask [false, false, true, false, false] (L' := [none, none, none, none, none]) rfl ?_
        exact E6  _ h
      · rw [if_neg c1] at hs
        refine a_aloadn (pc := 12) dJ7_fill_d0a16_12 rfl rfl ?_
        refine a_iloadn (pc := 13) dJ7_fill_d0a16_13 rfl rfl ?_
        refine a_lloadn (pc := 14) dJ7_fill_d0a16_14 rfl rfl ?_
        obtain ⟨hi2, hs⟩ := g_if hs
        refine a_last (pc := 15) (sh_items hj) hi2 dJ7_fill_d0a16_15 ?_
        obtain ⟨S3, eS3, hs⟩ := g_let hs
        refine a_nmS eS3 ?_
        refine a_iinc (pc := 16) dJ7_fill_d0a16_16 rfl (v := x3 + (1 : Int32)) rfl (Nat.le_of_ble_eq_true rfl) rfl (L' := [some (.ref (gad X (37 + j))), some (.long x1), none, some (.int (x3 + (1 : Int32))), some (.int x4)]) rfl ?_
        refine a_goto (pc := 19) (tgt := 6) dJ7_fill_d0a16_19 (by decide) ?_
        obtain rfl := Option.some.inj hs
        exact ih _ _ _ _ hR
  exact lp _ _ _ _ _ hR4
theorem dX2_begin_0 : decode cX2_begin 0 = .ok (.aload_n 0, 1) := by decide +kernel
theorem dX2_begin_1 : decode cX2_begin 1 = .ok (.iload_n 1, 1) := by decide +kernel
theorem dX2_begin_2 : decode cX2_begin 2 = .ok (.putfield 15, 3) := by decide +kernel
theorem dX2_begin_5 : decode cX2_begin 5 = .ok (.aload_n 0, 1) := by decide +kernel
theorem dX2_begin_6 : decode cX2_begin 6 = .ok (.iload_n 2, 1) := by decide +kernel
theorem dX2_begin_7 : decode cX2_begin 7 = .ok (.putfield 19, 3) := by decide +kernel
theorem dX2_begin_10 : decode cX2_begin 10 = .ok (.aload_n 0, 1) := by decide +kernel
theorem dX2_begin_11 : decode cX2_begin 11 = .ok (.getfield 9, 3) := by decide +kernel
theorem dX2_begin_14 : decode cX2_begin 14 = .ok (.lconst 0, 1) := by decide +kernel
theorem dX2_begin_15 : decode cX2_begin 15 = .ok (.invokestatic 22, 3) := by decide +kernel
theorem dX2_begin_18 : decode cX2_begin 18 = .ok (.return_, 1) := by decide +kernel
def f_X2_begin (j : Nat) (p1 : Int32) (p2 : Int32) (S : gSt) : Option gSt :=
gLet (gI S (33 + j) 1 p1) fun S1 =>
gLet (gI S1 (33 + j) 2 p2) fun S2 =>
(f_J7_fill_d0a16_items j (0 : Int64) S2).bind fun S3 =>
some S3
set_option maxHeartbeats 4000000 in
set_option maxRecDepth 20000 in
theorem ok_X2_begin {j : Nat} {p1 : Int32} {p2 : Int32} {S S0 : gSt}  (hj : j < 4) (h : f_X2_begin j p1 p2 S = some S0) : gCT yX2_begin cX2_begin 3 none 1 (fun w => [.ref (w.2.1 (33 + j)), .int p1, .int p2]) S none S0 := by
  refine gEnter (fun X => [some (.ref (gad X (33 + j))), some (.int p1), some (.int p2)]) (by decide) (fun X => ⟨rfl, rfl⟩) (fun w => Nat.le_of_ble_eq_true rfl) (fun X hp => ?_)
  show AW X RX2 1 cX2_begin 0 [some (.ref (gad X (33 + j))), some (.int p1), some (.int p2)] [] S
  unfold f_X2_begin at h
  refine a_aloadn (pc := 0) dX2_begin_0 rfl rfl ?_
  refine a_iloadn (pc := 1) dX2_begin_1 rfl rfl ?_
  refine a_putI (pc := 2) flX2_15 (sh_sheet hj) rfl rfl rfl dX2_begin_2 ?_
  obtain ⟨S1, eS1, h⟩ := g_let h
  refine a_nmS eS1 ?_
  refine a_aloadn (pc := 5) dX2_begin_5 rfl rfl ?_
  refine a_iloadn (pc := 6) dX2_begin_6 rfl rfl ?_
  refine a_putI (pc := 7) flX2_19 (sh_sheet hj) rfl rfl rfl dX2_begin_7 ?_
  obtain ⟨S2, eS2, h⟩ := g_let h
  refine a_nmS eS2 ?_
  refine a_aloadn (pc := 10) dX2_begin_10 rfl rfl ?_
  refine a_getA (pc := 11) flX2_9 (sh_sheet hj) rfl dX2_begin_11 ?_
  refine a_lconst (pc := 14) (v := (0 : Int64)) dX2_begin_14 (by decide) ?_
  obtain ⟨S3, hc4, h⟩ := g_bind h
  refine a_invSv (pc := 15) (ok_J7_fill_d0a16_items hj hc4) gyJ7_fill_d0a16 syJ7_fill_d0a16 mlX2_22 (As := [.ref (gad X (37 + j)), .long (0 : Int64)]) rfl rfl (by decide) (st := []) rfl (Nat.le_of_ble_eq_true rfl) dX2_begin_15 ?_
  obtain rfl := Option.some.inj h
  exact a_vret hp dX2_begin_18
theorem dX6_sheet_0 : decode cX6_sheet 0 = .ok (.iload_n 1, 1) := by decide +kernel
theorem dX6_sheet_1 : decode cX6_sheet 1 = .ok (.invokestatic 245, 3) := by decide +kernel
theorem dX6_sheet_4 : decode cX6_sheet 4 = .ok (.ifCond .eq 18, 3) := by decide +kernel
theorem dX6_sheet_7 : decode cX6_sheet 7 = .ok (.iload_n 2, 1) := by decide +kernel
theorem dX6_sheet_8 : decode cX6_sheet 8 = .ok (.ifCond .lt 14, 3) := by decide +kernel
theorem dX6_sheet_11 : decode cX6_sheet 11 = .ok (.iload_n 2, 1) := by decide +kernel
theorem dX6_sheet_12 : decode cX6_sheet 12 = .ok (.iconst 3, 1) := by decide +kernel
theorem dX6_sheet_13 : decode cX6_sheet 13 = .ok (.if_icmp .gt 9, 3) := by decide +kernel
theorem dX6_sheet_16 : decode cX6_sheet 16 = .ok (.iload_n 3, 1) := by decide +kernel
theorem dX6_sheet_17 : decode cX6_sheet 17 = .ok (.bipush 24, 2) := by decide +kernel
theorem dX6_sheet_19 : decode cX6_sheet 19 = .ok (.if_icmp .le 5, 3) := by decide +kernel
theorem dX6_sheet_22 : decode cX6_sheet 22 = .ok (.iconst (-1), 1) := by decide +kernel
theorem dX6_sheet_23 : decode cX6_sheet 23 = .ok (.ireturn, 1) := by decide +kernel
theorem dX6_sheet_24 : decode cX6_sheet 24 = .ok (.iload_n 3, 1) := by decide +kernel
theorem dX6_sheet_25 : decode cX6_sheet 25 = .ok (.ifCond .ge 6, 3) := by decide +kernel
theorem dX6_sheet_28 : decode cX6_sheet 28 = .ok (.bipush (-14), 2) := by decide +kernel
theorem dX6_sheet_30 : decode cX6_sheet 30 = .ok (.ireturn, 1) := by decide +kernel
theorem dX6_sheet_31 : decode cX6_sheet 31 = .ok (.aload_n 0, 1) := by decide +kernel
theorem dX6_sheet_32 : decode cX6_sheet 32 = .ok (.getfield 32, 3) := by decide +kernel
theorem dX6_sheet_35 : decode cX6_sheet 35 = .ok (.iload_n 1, 1) := by decide +kernel
theorem dX6_sheet_36 : decode cX6_sheet 36 = .ok (.aaload, 1) := by decide +kernel
theorem dX6_sheet_37 : decode cX6_sheet 37 = .ok (.iload_n 2, 1) := by decide +kernel
theorem dX6_sheet_38 : decode cX6_sheet 38 = .ok (.iload_n 3, 1) := by decide +kernel
theorem dX6_sheet_39 : decode cX6_sheet 39 = .ok (.invokevirtual 248, 3) := by decide +kernel
theorem dX6_sheet_42 : decode cX6_sheet 42 = .ok (.iload_n 3, 1) := by decide +kernel
theorem dX6_sheet_43 : decode cX6_sheet 43 = .ok (.ireturn, 1) := by decide +kernel
def f_X6_sheet (p1 : Int32) (p2 : Int32) (p3 : Int32) (S : gSt) : Option (Int32 × gSt) :=
gBind2 (f_X6_isSheet p1 S) fun r3 S1 =>
(if r3 = 0 then
some ((-1 : Int32), S1)
else
(if p2 < 0 then
some ((-1 : Int32), S1)
else
(if (3 : Int32) < p2 then
some ((-1 : Int32), S1)
else
(if p3 ≤ (24 : Int32) then
(if 0 ≤ p3 then
if gin p1 4 then
((f_X2_begin (p1.toNatClampNeg) p2 p3 S1).bind fun S10 =>
some (p3, S10)) else none
else
some ((-14 : Int32), S1))
else
some ((-1 : Int32), S1)))))
set_option maxHeartbeats 4000000 in
set_option maxRecDepth 20000 in
theorem ok_X6_sheet {p1 : Int32} {p2 : Int32} {p3 : Int32} {S S0 : gSt} {r0 : Int32}  (h : f_X6_sheet p1 p2 p3 S = some (r0, S0)) : gCT yX6_sheet cX6_sheet 4 (some .int) 2 (fun w => [.ref (w.2.1 0), .int p1, .int p2, .int p3]) S (some (.int r0)) S0 := by
  refine gEnter (fun X => [some (.ref (gad X 0)), some (.int p1), some (.int p2), some (.int p3)]) (by decide) (fun X => ⟨rfl, rfl⟩) (fun w => Nat.le_of_ble_eq_true rfl) (fun X hp => ?_)
  show AW X RX6 2 cX6_sheet 0 [some (.ref (gad X 0)), some (.int p1), some (.int p2), some (.int p3)] [] S
  unfold f_X6_sheet at h
  refine a_iloadn (pc := 0) dX6_sheet_0 rfl rfl ?_
  obtain ⟨r3, S1, hc2, h⟩ := g_bind2 h
  refine a_invSi (pc := 1) (ok_X6_isSheet hc2) gyX6_isSheet syX6_isSheet mlX6_245 (As := [.int p1]) rfl rfl (by decide) (st := []) rfl (Nat.le_of_ble_eq_true rfl) dX6_sheet_1 ?_
  refine a_if_eq (pc := 4) (tgt := 22) dX6_sheet_4 (by decide) (fun c4 => ?_) (fun c4 => ?_)
  · rw [if_pos c4] at h
    refine a_iconst (pc := 22) (v := (-1 : Int32)) dX6_sheet_22 (by decide) ?_
    obtain ⟨rfl, rfl⟩ := Prod.mk.inj (Option.some.inj h)
    exact a_iret hp dX6_sheet_23
  · rw [if_neg c4] at h
    refine a_iloadn (pc := 7) dX6_sheet_7 rfl rfl ?_
    refine a_if_lt (pc := 8) (tgt := 22) dX6_sheet_8 (by decide) (fun c5 => ?_) (fun c5 => ?_)
    · rw [if_pos c5] at h
      refine a_iconst (pc := 22) (v := (-1 : Int32)) dX6_sheet_22 (by decide) ?_
      obtain ⟨rfl, rfl⟩ := Prod.mk.inj (Option.some.inj h)
      exact a_iret hp dX6_sheet_23
    · rw [if_neg c5] at h
      refine a_iloadn (pc := 11) dX6_sheet_11 rfl rfl ?_
      refine a_iconst (pc := 12) (v := (3 : Int32)) dX6_sheet_12 (by decide) ?_
      refine a_icmp_gt (pc := 13) (tgt := 22) dX6_sheet_13 (by decide) (fun c6 => ?_) (fun c6 => ?_)
      · rw [if_pos c6] at h
        refine a_iconst (pc := 22) (v := (-1 : Int32)) dX6_sheet_22 (by decide) ?_
        obtain ⟨rfl, rfl⟩ := Prod.mk.inj (Option.some.inj h)
        exact a_iret hp dX6_sheet_23
      · rw [if_neg c6] at h
        refine a_iloadn (pc := 16) dX6_sheet_16 rfl rfl ?_
        refine a_bipush (pc := 17) (v := (24 : Int32)) dX6_sheet_17 (by decide) ?_
        refine a_icmp_le (pc := 19) (tgt := 24) dX6_sheet_19 (by decide) (fun c7 => ?_) (fun c7 => ?_)
        · rw [if_pos c7] at h
          refine a_iloadn (pc := 24) dX6_sheet_24 rfl rfl ?_
          refine a_if_ge (pc := 25) (tgt := 31) dX6_sheet_25 (by decide) (fun c8 => ?_) (fun c8 => ?_)
          · rw [if_pos c8] at h
            refine a_aloadn (pc := 31) dX6_sheet_31 rfl rfl ?_
            refine a_getA (pc := 32) flX6_32 sh_0 rfl dX6_sheet_32 ?_
            refine a_iloadn (pc := 35) dX6_sheet_35 rfl rfl ?_
            obtain ⟨hi9, h⟩ := g_if h
            refine a_aald (pc := 36) sh_32 hi9 dX6_sheet_36 ?_
            refine a_iloadn (pc := 37) dX6_sheet_37 rfl rfl ?_
            refine a_iloadn (pc := 38) dX6_sheet_38 rfl rfl ?_
            obtain ⟨S10, hc11, h⟩ := g_bind h
            refine a_invVv (pc := 39) (ok_X2_begin (gin_lt hi9) hc11) gyX2_begin vyX2_begin mlX6_248 (sh_sheet (gin_lt hi9)) rfl (As := [.int p2, .int p3]) rfl rfl (by decide) (st := []) rfl (Nat.le_of_ble_eq_true rfl) dX6_sheet_39 ?_
            refine a_iloadn (pc := 42) dX6_sheet_42 rfl rfl ?_
            obtain ⟨rfl, rfl⟩ := Prod.mk.inj (Option.some.inj h)
            exact a_iret hp dX6_sheet_43
          · rw [if_neg c8] at h
            refine a_bipush (pc := 28) (v := (-14 : Int32)) dX6_sheet_28 (by decide) ?_
            obtain ⟨rfl, rfl⟩ := Prod.mk.inj (Option.some.inj h)
            exact a_iret hp dX6_sheet_30
        · rw [if_neg c7] at h
          refine a_iconst (pc := 22) (v := (-1 : Int32)) dX6_sheet_22 (by decide) ?_
          obtain ⟨rfl, rfl⟩ := Prod.mk.inj (Option.some.inj h)
          exact a_iret hp dX6_sheet_23
