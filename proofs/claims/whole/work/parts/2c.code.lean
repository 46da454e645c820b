theorem dX0_settleAs_0 : decode cX0_settleAs 0 = .ok (.aload_n 0, 1) := by decide +kernel
theorem dX0_settleAs_1 : decode cX0_settleAs 1 = .ok (.getfield 33, 3) := by decide +kernel
theorem dX0_settleAs_4 : decode cX0_settleAs 4 = .ok (.invokevirtual 57, 3) := by decide +kernel
theorem dX0_settleAs_7 : decode cX0_settleAs 7 = .ok (.aload_n 0, 1) := by decide +kernel
theorem dX0_settleAs_8 : decode cX0_settleAs 8 = .ok (.getfield 27, 3) := by decide +kernel
theorem dX0_settleAs_11 : decode cX0_settleAs 11 = .ok (.iconst 0, 1) := by decide +kernel
theorem dX0_settleAs_12 : decode cX0_settleAs 12 = .ok (.invokestatic 60, 3) := by decide +kernel
theorem dX0_settleAs_15 : decode cX0_settleAs 15 = .ok (.aload_n 0, 1) := by decide +kernel
theorem dX0_settleAs_16 : decode cX0_settleAs 16 = .ok (.getfield 9, 3) := by decide +kernel
theorem dX0_settleAs_19 : decode cX0_settleAs 19 = .ok (.iconst 1, 1) := by decide +kernel
theorem dX0_settleAs_20 : decode cX0_settleAs 20 = .ok (.aload_n 1, 1) := by decide +kernel
theorem dX0_settleAs_21 : decode cX0_settleAs 21 = .ok (.getfield 66, 3) := by decide +kernel
theorem dX0_settleAs_24 : decode cX0_settleAs 24 = .ok (.iastore, 1) := by decide +kernel
theorem dX0_settleAs_25 : decode cX0_settleAs 25 = .ok (.aload_n 0, 1) := by decide +kernel
theorem dX0_settleAs_26 : decode cX0_settleAs 26 = .ok (.getfield 9, 3) := by decide +kernel
theorem dX0_settleAs_29 : decode cX0_settleAs 29 = .ok (.iconst 2, 1) := by decide +kernel
theorem dX0_settleAs_30 : decode cX0_settleAs 30 = .ok (.aload_n 1, 1) := by decide +kernel
theorem dX0_settleAs_31 : decode cX0_settleAs 31 = .ok (.getfield 71, 3) := by decide +kernel
theorem dX0_settleAs_34 : decode cX0_settleAs 34 = .ok (.iastore, 1) := by decide +kernel
theorem dX0_settleAs_35 : decode cX0_settleAs 35 = .ok (.aload_n 0, 1) := by decide +kernel
theorem dX0_settleAs_36 : decode cX0_settleAs 36 = .ok (.iconst 0, 1) := by decide +kernel
theorem dX0_settleAs_37 : decode cX0_settleAs 37 = .ok (.putfield 41, 3) := by decide +kernel
theorem dX0_settleAs_40 : decode cX0_settleAs 40 = .ok (.aload_n 0, 1) := by decide +kernel
theorem dX0_settleAs_41 : decode cX0_settleAs 41 = .ok (.iconst 0, 1) := by decide +kernel
theorem dX0_settleAs_42 : decode cX0_settleAs 42 = .ok (.putfield 37, 3) := by decide +kernel
theorem dX0_settleAs_45 : decode cX0_settleAs 45 = .ok (.iconst 0, 1) := by decide +kernel
theorem dX0_settleAs_46 : decode cX0_settleAs 46 = .ok (.istore_n 2, 1) := by decide +kernel
theorem dX0_settleAs_47 : decode cX0_settleAs 47 = .ok (.iload_n 2, 1) := by decide +kernel
theorem dX0_settleAs_48 : decode cX0_settleAs 48 = .ok (.aload_n 1, 1) := by decide +kernel
theorem dX0_settleAs_49 : decode cX0_settleAs 49 = .ok (.getfield 74, 3) := by decide +kernel
theorem dX0_settleAs_52 : decode cX0_settleAs 52 = .ok (.if_icmp .ge 32, 3) := by decide +kernel
theorem dX0_settleAs_55 : decode cX0_settleAs 55 = .ok (.aload_n 0, 1) := by decide +kernel
theorem dX0_settleAs_56 : decode cX0_settleAs 56 = .ok (.aload_n 1, 1) := by decide +kernel
theorem dX0_settleAs_57 : decode cX0_settleAs 57 = .ok (.getfield 75, 3) := by decide +kernel
theorem dX0_settleAs_60 : decode cX0_settleAs 60 = .ok (.iload_n 2, 1) := by decide +kernel
theorem dX0_settleAs_61 : decode cX0_settleAs 61 = .ok (.iaload, 1) := by decide +kernel
theorem dX0_settleAs_62 : decode cX0_settleAs 62 = .ok (.aload_n 1, 1) := by decide +kernel
theorem dX0_settleAs_63 : decode cX0_settleAs 63 = .ok (.getfield 76, 3) := by decide +kernel
theorem dX0_settleAs_66 : decode cX0_settleAs 66 = .ok (.iload_n 2, 1) := by decide +kernel
theorem dX0_settleAs_67 : decode cX0_settleAs 67 = .ok (.iaload, 1) := by decide +kernel
theorem dX0_settleAs_68 : decode cX0_settleAs 68 = .ok (.aload_n 1, 1) := by decide +kernel
theorem dX0_settleAs_69 : decode cX0_settleAs 69 = .ok (.getfield 77, 3) := by decide +kernel
theorem dX0_settleAs_72 : decode cX0_settleAs 72 = .ok (.iload_n 2, 1) := by decide +kernel
theorem dX0_settleAs_73 : decode cX0_settleAs 73 = .ok (.iaload, 1) := by decide +kernel
theorem dX0_settleAs_74 : decode cX0_settleAs 74 = .ok (.invokevirtual 78, 3) := by decide +kernel
theorem dX0_settleAs_77 : decode cX0_settleAs 77 = .ok (.pop, 1) := by decide +kernel
theorem dX0_settleAs_78 : decode cX0_settleAs 78 = .ok (.iinc 2 1, 3) := by decide +kernel
theorem dX0_settleAs_81 : decode cX0_settleAs 81 = .ok (.goto (-34), 3) := by decide +kernel
theorem dX0_settleAs_84 : decode cX0_settleAs 84 = .ok (.return_, 1) := by decide +kernel
def f_X0_settleAs_s47_b (x2 : Int32) (S : gSt) : Option ((Int32 × gSt) ⊕ (gSt)) :=
(if (S.1 27 8) ≤ x2 then
some (.inr (S))
else
if gin x2 6 then
(if gin x2 6 then
(if gin x2 6 then
(gBind2 (f_X0_enter (S.1 29 x2.toNatClampNeg) (S.1 30 x2.toNatClampNeg) (S.1 31 x2.toNatClampNeg) S) fun r17 S15 =>
some (.inl (x2 + (1 : Int32), S15))) else none) else none) else none)
def f_X0_settleAs_s47 : (Int32 × gSt) → Option ((Int32 × gSt) ⊕ (gSt)) := fun t => f_X0_settleAs_s47_b t.1 t.2
def f_X0_settleAs (S : gSt) : Option gSt :=
(f_X1_forget S).bind fun S1 =>
(f_J7_fill_53178_7 (0 : Int32) S1).bind fun S3 =>
if gin (1 : Int32) 5 then
gLet (gI S3 2 (1 : Int32).toNatClampNeg (S3.1 27 6)) fun S6 =>
(if gin (2 : Int32) 5 then
gLet (gI S6 2 (2 : Int32).toNatClampNeg (S6.1 27 7)) fun S8 =>
(gLet (gI S8 1 8 (0 : Int32)) fun S9 =>
gLet (gI S9 1 7 (0 : Int32)) fun S10 =>
(gLoop (f_X0_settleAs_s47) gFuel ((0 : Int32), S10)).bind fun q18 => match q18 with
| S18 =>
some S18) else none) else none
set_option maxHeartbeats 4000000 in
set_option maxRecDepth 20000 in
theorem ok_X0_settleAs {S S0 : gSt}  (h : f_X0_settleAs S = some S0) : gCT yX0_settleAs cX0_settleAs 3 none 1 (fun w => [.ref (w.2.1 1), .ref (w.2.1 27)]) S none S0 := by
  refine gEnter (fun X => [some (.ref (gad X 1)), some (.ref (gad X 27)), none]) (by decide) (fun X => ⟨rfl, rfl⟩) (fun w => Nat.le_of_ble_eq_true rfl) (fun X hp => ?_)
  show AW X RX0 1 cX0_settleAs 0 [some (.ref (gad X 1)), some (.ref (gad X 27)), none] [] S
  unfold f_X0_settleAs at h
  refine a_aloadn (pc := 0) dX0_settleAs_0 rfl rfl ?_
  refine a_getA (pc := 1) flX0_33 sh_1 rfl dX0_settleAs_1 ?_
  obtain ⟨S1, hc2, h⟩ := g_bind h
  refine a_invVv (pc := 4) (ok_X1_forget hc2) gyX1_forget vyX1_forget mlX0_57 sh_8 rfl (As := []) rfl rfl (by decide) (st := []) rfl (Nat.le_of_ble_eq_true rfl) dX0_settleAs_4 ?_
  refine a_aloadn (pc := 7) dX0_settleAs_7 rfl rfl ?_
  refine a_getA (pc := 8) flX0_27 sh_1 rfl dX0_settleAs_8 ?_
  refine a_iconst (pc := 11) (v := (0 : Int32)) dX0_settleAs_11 (by decide) ?_
  obtain ⟨S3, hc4, h⟩ := g_bind h
  refine a_invSv (pc := 12) (ok_J7_fill_53178_7 hc4) gyJ7_fill_53178 syJ7_fill_53178 mlX0_60 (As := [.ref (gad X 7), .int (0 : Int32)]) rfl rfl (by decide) (st := []) rfl (Nat.le_of_ble_eq_true rfl) dX0_settleAs_12 ?_
  refine a_aloadn (pc := 15) dX0_settleAs_15 rfl rfl ?_
  refine a_getA (pc := 16) flX0_9 sh_1 rfl dX0_settleAs_16 ?_
  refine a_iconst (pc := 19) (v := (1 : Int32)) dX0_settleAs_19 (by decide) ?_
  refine a_aloadn (pc := 20) dX0_settleAs_20 rfl rfl ?_
  refine a_getI (pc := 21) flX0_66 sh_27 rfl dX0_settleAs_21 ?_
  obtain ⟨hi5, h⟩ := g_if h
  refine a_iast (pc := 24) sh_2 hi5 dX0_settleAs_24 ?_
  obtain ⟨S6, eS6, h⟩ := g_let h
  refine a_nmS eS6 ?_
  refine a_aloadn (pc := 25) dX0_settleAs_25 rfl rfl ?_
  refine a_getA (pc := 26) flX0_9 sh_1 rfl dX0_settleAs_26 ?_
  refine a_iconst (pc := 29) (v := (2 : Int32)) dX0_settleAs_29 (by decide) ?_
  refine a_aloadn (pc := 30) dX0_settleAs_30 rfl rfl ?_
  refine a_getI (pc := 31) flX0_71 sh_27 rfl dX0_settleAs_31 ?_
  obtain ⟨hi7, h⟩ := g_if h
  refine a_iast (pc := 34) sh_2 hi7 dX0_settleAs_34 ?_
  obtain ⟨S8, eS8, h⟩ := g_let h
  refine a_nmS eS8 ?_
  refine a_aloadn (pc := 35) dX0_settleAs_35 rfl rfl ?_
  refine a_iconst (pc := 36) (v := (0 : Int32)) dX0_settleAs_36 (by decide) ?_
  refine a_putI (pc := 37) flX0_41 sh_1 rfl rfl rfl dX0_settleAs_37 ?_
  obtain ⟨S9, eS9, h⟩ := g_let h
  refine a_nmS eS9 ?_
  refine a_aloadn (pc := 40) dX0_settleAs_40 rfl rfl ?_
  refine a_iconst (pc := 41) (v := (0 : Int32)) dX0_settleAs_41 (by decide) ?_
  refine a_putI (pc := 42) flX0_37 sh_1 rfl rfl rfl dX0_settleAs_42 ?_
  obtain ⟨S10, eS10, h⟩ := g_let h
  refine a_nmS eS10 ?_
  refine a_iconst (pc := 45) (v := (0 : Int32)) dX0_settleAs_45 (by decide) ?_
  refine a_istoren (pc := 46) dX0_settleAs_46 rfl (Nat.le_of_ble_eq_true rfl) rfl (L' := [some (.ref (gad X 1)), some (.ref (gad X 27)), some (.int (0 : Int32))]) rfl ?_
  obtain ⟨R18, hR18, h⟩ := g_bind h
  have E47 : ∀  (S18 : gSt), (some S18) = some S0 → AW X RX0 1 cX0_settleAs 84 [none, none, none] [] S18 := by
    intro S18 h
    obtain rfl := Option.some.inj h
    exact a_vret hp dX0_settleAs_84
  have lp : ∀ (n : Nat) (x2 : Int32) (S : gSt), gLoop (f_X0_settleAs_s47) n (x2, S) = some R18 → AW X RX0 1 cX0_settleAs 47 [some (.ref (gad X 1)), some (.ref (gad X 27)), some (.int x2)] [] S := by
    intro n
    induction n with
    | zero => intro x2 S hR; cases hR
    | succ n ih =>
      intro x2 S hR
      obtain ⟨q, hs, hR⟩ := g_bind hR
      have hs : f_X0_settleAs_s47_b x2 S = some q := hs
      unfold f_X0_settleAs_s47_b at hs
      refine a_iloadn (pc := 47) dX0_settleAs_47 rfl rfl ?_
      refine a_aloadn (pc := 48) dX0_settleAs_48 rfl rfl ?_
      refine a_getI (pc := 49) flX0_74 sh_27 rfl dX0_settleAs_49 ?_
      refine a_icmp_ge (pc := 52) (tgt := 84) dX0_settleAs_52 (by decide) (fun c11 => ?_) (fun c11 => ?_)
      · rw [if_pos c11] at hs
        obtain rfl := Option.some.inj hs
        obtain rfl := Option.some.inj hR
        refine a_mask [false, false, false] (L' := [none, none, none]) rfl ?_
        exact E47  _ h
      · rw [if_neg c11] at hs
        refine a_aloadn (pc := 55) dX0_settleAs_55 rfl rfl ?_
        refine a_aloadn (pc := 56) dX0_settleAs_56 rfl rfl ?_
        refine a_getA (pc := 57) flX0_75 sh_27 rfl dX0_settleAs_57 ?_
        refine a_iloadn (pc := 60) dX0_settleAs_60 rfl rfl ?_
        obtain ⟨hi12, hs⟩ := g_if hs
        refine a_iald (pc := 61) sh_29 hi12 dX0_settleAs_61 ?_
        refine a_aloadn (pc := 62) dX0_settleAs_62 rfl rfl ?_
        refine a_getA (pc := 63) flX0_76 sh_27 rfl dX0_settleAs_63 ?_
        refine a_iloadn (pc := 66) dX0_settleAs_66 rfl rfl ?_
        obtain ⟨hi13, hs⟩ := g_if hs
        refine a_iald (pc := 67) sh_30 hi13 dX0_settleAs_67 ?_
        refine a_aloadn (pc := 68) dX0_settleAs_68 rfl rfl ?_
        refine a_getA (pc := 69) flX0_77 sh_27 rfl dX0_settleAs_69 ?_
        refine a_iloadn (pc := 72) dX0_settleAs_72 rfl rfl ?_
        obtain ⟨hi14, hs⟩ := g_if hs
        refine a_iald (pc := 73) sh_31 hi14 dX0_settleAs_73 ?_
        obtain ⟨r17, S15, hc16, hs⟩ := g_bind2 hs
        refine a_invVi (pc := 74) (ok_X0_enter hc16) gyX0_enter vyX0_enter mlX0_78 sh_1 rfl (As := [.int (S.1 29 x2.toNatClampNeg), .int (S.1 30 x2.toNatClampNeg), .int (S.1 31 x2.toNatClampNeg)]) rfl rfl (by decide) (st := []) rfl (Nat.le_of_ble_eq_true rfl) dX0_settleAs_74 ?_
        refine a_pop (pc := 77) dX0_settleAs_77 rfl ?_
        refine a_iinc (pc := 78) dX0_settleAs_78 rfl (v := x2 + (1 : Int32)) rfl (Nat.le_of_ble_eq_true rfl) rfl (L' := [some (.ref (gad X 1)), some (.ref (gad X 27)), some (.int (x2 + (1 : Int32)))]) rfl ?_
        refine a_goto (pc := 81) (tgt := 47) dX0_settleAs_81 (by decide) ?_
        obtain rfl := Option.some.inj hs
        exact ih _ _ hR
  exact lp _ _ _ hR18
theorem dX6_settle_0 : decode cX6_settle 0 = .ok (.aload_n 0, 1) := by decide +kernel
theorem dX6_settle_1 : decode cX6_settle 1 = .ok (.getfield 26, 3) := by decide +kernel
theorem dX6_settle_4 : decode cX6_settle 4 = .ok (.invokevirtual 127, 3) := by decide +kernel
theorem dX6_settle_7 : decode cX6_settle 7 = .ok (.istore_n 1, 1) := by decide +kernel
theorem dX6_settle_8 : decode cX6_settle 8 = .ok (.aload_n 0, 1) := by decide +kernel
theorem dX6_settle_9 : decode cX6_settle 9 = .ok (.getfield 26, 3) := by decide +kernel
theorem dX6_settle_12 : decode cX6_settle 12 = .ok (.iconst 0, 1) := by decide +kernel
theorem dX6_settle_13 : decode cX6_settle 13 = .ok (.putfield 124, 3) := by decide +kernel
theorem dX6_settle_16 : decode cX6_settle 16 = .ok (.iload_n 1, 1) := by decide +kernel
theorem dX6_settle_17 : decode cX6_settle 17 = .ok (.ifCond .le 14, 3) := by decide +kernel
theorem dX6_settle_20 : decode cX6_settle 20 = .ok (.aload_n 0, 1) := by decide +kernel
theorem dX6_settle_21 : decode cX6_settle 21 = .ok (.getfield 12, 3) := by decide +kernel
theorem dX6_settle_24 : decode cX6_settle 24 = .ok (.aload_n 0, 1) := by decide +kernel
theorem dX6_settle_25 : decode cX6_settle 25 = .ok (.getfield 26, 3) := by decide +kernel
theorem dX6_settle_28 : decode cX6_settle 28 = .ok (.invokevirtual 131, 3) := by decide +kernel
theorem dX6_settle_31 : decode cX6_settle 31 = .ok (.iload_n 1, 1) := by decide +kernel
theorem dX6_settle_32 : decode cX6_settle 32 = .ok (.ireturn, 1) := by decide +kernel
def f_X6_settle (S : gSt) : Option (Int32 × gSt) :=
gBind2 (f_X4_parse S) fun r3 S1 =>
gLet (gI S1 27 4 (0 : Int32)) fun S4 =>
(if r3 ≤ 0 then
some (r3, S4)
else
(f_X0_settleAs S4).bind fun S6 =>
some (r3, S6))
set_option maxHeartbeats 4000000 in
set_option maxRecDepth 20000 in
theorem ok_X6_settle {S S0 : gSt} {r0 : Int32}  (h : f_X6_settle S = some (r0, S0)) : gCT yX6_settle cX6_settle 2 (some .int) 7 (fun w => [.ref (w.2.1 0)]) S (some (.int r0)) S0 := by
  refine gEnter (fun X => [some (.ref (gad X 0)), none]) (by decide) (fun X => ⟨rfl, rfl⟩) (fun w => Nat.le_of_ble_eq_true rfl) (fun X hp => ?_)
  show AW X RX6 7 cX6_settle 0 [some (.ref (gad X 0)), none] [] S
  unfold f_X6_settle at h
  refine a_aloadn (pc := 0) dX6_settle_0 rfl rfl ?_
  refine a_getA (pc := 1) flX6_26 sh_0 rfl dX6_settle_1 ?_
  obtain ⟨r3, S1, hc2, h⟩ := g_bind2 h
  refine a_invVi (pc := 4) (ok_X4_parse hc2) gyX4_parse vyX4_parse mlX6_127 sh_27 rfl (As := []) rfl rfl (by decide) (st := []) rfl (Nat.le_of_ble_eq_true rfl) dX6_settle_4 ?_
  refine a_istoren (pc := 7) dX6_settle_7 rfl (Nat.le_of_ble_eq_true rfl) rfl (L' := [some (.ref (gad X 0)), some (.int r3)]) rfl ?_
  refine a_aloadn (pc := 8) dX6_settle_8 rfl rfl ?_
  refine a_getA (pc := 9) flX6_26 sh_0 rfl dX6_settle_9 ?_
  refine a_iconst (pc := 12) (v := (0 : Int32)) dX6_settle_12 (by decide) ?_
  refine a_putI (pc := 13) flX6_124 sh_27 rfl rfl rfl dX6_settle_13 ?_
  obtain ⟨S4, eS4, h⟩ := g_let h
  refine a_nmS eS4 ?_
  refine a_iloadn (pc := 16) dX6_settle_16 rfl rfl ?_
  refine a_if_le (pc := 17) (tgt := 31) dX6_settle_17 (by decide) (fun c5 => ?_) (fun c5 => ?_)
  · rw [if_pos c5] at h
    refine a_iloadn (pc := 31) dX6_settle_31 rfl rfl ?_
    obtain ⟨rfl, rfl⟩ := Prod.mk.inj (Option.some.inj h)
    exact a_iret hp dX6_settle_32
  · rw [if_neg c5] at h
    refine a_aloadn (pc := 20) dX6_settle_20 rfl rfl ?_
    refine a_getA (pc := 21) flX6_12 sh_0 rfl dX6_settle_21 ?_
    refine a_aloadn (pc := 24) dX6_settle_24 rfl rfl ?_
    refine a_getA (pc := 25) flX6_26 sh_0 rfl dX6_settle_25 ?_
    obtain ⟨S6, hc7, h⟩ := g_bind h
    refine a_invVv (pc := 28) (ok_X0_settleAs hc7) gyX0_settleAs vyX0_settleAs mlX6_131 sh_1 rfl (As := [.ref (gad X 27)]) rfl rfl (by decide) (st := []) rfl (Nat.le_of_ble_eq_true rfl) dX6_settle_28 ?_
    refine a_iloadn (pc := 31) dX6_settle_31 rfl rfl ?_
    obtain ⟨rfl, rfl⟩ := Prod.mk.inj (Option.some.inj h)
    exact a_iret hp dX6_settle_32
theorem dX0_isTrodden_0 : decode cX0_isTrodden 0 = .ok (.iload_n 1, 1) := by decide +kernel
theorem dX0_isTrodden_1 : decode cX0_isTrodden 1 = .ok (.istore_n 2, 1) := by decide +kernel
theorem dX0_isTrodden_2 : decode cX0_isTrodden 2 = .ok (.iload_n 2, 1) := by decide +kernel
theorem dX0_isTrodden_3 : decode cX0_isTrodden 3 = .ok (.sipush 384, 3) := by decide +kernel
theorem dX0_isTrodden_6 : decode cX0_isTrodden 6 = .ok (.if_icmp .ge 20, 3) := by decide +kernel
theorem dX0_isTrodden_9 : decode cX0_isTrodden 9 = .ok (.aload_n 0, 1) := by decide +kernel
theorem dX0_isTrodden_10 : decode cX0_isTrodden 10 = .ok (.getfield 27, 3) := by decide +kernel
theorem dX0_isTrodden_13 : decode cX0_isTrodden 13 = .ok (.iload_n 2, 1) := by decide +kernel
theorem dX0_isTrodden_14 : decode cX0_isTrodden 14 = .ok (.iaload, 1) := by decide +kernel
theorem dX0_isTrodden_15 : decode cX0_isTrodden 15 = .ok (.ifCond .le 5, 3) := by decide +kernel
theorem dX0_isTrodden_18 : decode cX0_isTrodden 18 = .ok (.iconst 1, 1) := by decide +kernel
theorem dX0_isTrodden_19 : decode cX0_isTrodden 19 = .ok (.ireturn, 1) := by decide +kernel
theorem dX0_isTrodden_20 : decode cX0_isTrodden 20 = .ok (.iinc 2 64, 3) := by decide +kernel
theorem dX0_isTrodden_23 : decode cX0_isTrodden 23 = .ok (.goto (-21), 3) := by decide +kernel
theorem dX0_isTrodden_26 : decode cX0_isTrodden 26 = .ok (.iconst 0, 1) := by decide +kernel
theorem dX0_isTrodden_27 : decode cX0_isTrodden 27 = .ok (.ireturn, 1) := by decide +kernel
def f_X0_isTrodden_s2_b (x2 : Int32) (S : gSt) : Option ((Int32 × gSt) ⊕ ((Int32 × gSt) ⊕ (gSt))) :=
(if (384 : Int32) ≤ x2 then
some (.inr (.inr (S)))
else
if gin x2 384 then
((if (S.1 7 x2.toNatClampNeg) ≤ 0 then
some (.inl (x2 + (64 : Int32), S))
else
some (.inr (.inl ((1 : Int32), S))))) else none)
def f_X0_isTrodden_s2 : (Int32 × gSt) → Option ((Int32 × gSt) ⊕ ((Int32 × gSt) ⊕ (gSt))) := fun t => f_X0_isTrodden_s2_b t.1 t.2
def f_X0_isTrodden (p1 : Int32) (S : gSt) : Option (Int32 × gSt) :=
(gLoop (f_X0_isTrodden_s2) gFuel (p1, S)).bind fun q4 => match q4 with
| .inl (v4, T4) => some (v4, T4)
| .inr S4 =>
some ((0 : Int32), S4)
set_option maxHeartbeats 4000000 in
set_option maxRecDepth 20000 in
theorem ok_X0_isTrodden {p1 : Int32} {S S0 : gSt} {r0 : Int32}  (h : f_X0_isTrodden p1 S = some (r0, S0)) : gCT yX0_isTrodden cX0_isTrodden 3 (some .boolean) 0 (fun w => [.ref (w.2.1 1), .int p1]) S (some (.int r0)) S0 := by
  refine gEnter (fun X => [some (.ref (gad X 1)), some (.int p1), none]) (by decide) (fun X => ⟨rfl, rfl⟩) (fun w => Nat.le_of_ble_eq_true rfl) (fun X hp => ?_)
  show AW X RX0 0 cX0_isTrodden 0 [some (.ref (gad X 1)), some (.int p1), none] [] S
  unfold f_X0_isTrodden at h
  refine a_iloadn (pc := 0) dX0_isTrodden_0 rfl rfl ?_
  refine a_istoren (pc := 1) dX0_isTrodden_1 rfl (Nat.le_of_ble_eq_true rfl) rfl (L' := [some (.ref (gad X 1)), some (.int p1), some (.int p1)]) rfl ?_
  obtain ⟨R4, hR4, h⟩ := g_bind h
  refine a_mask [true, false, true] (L' := [some (.ref (gad X 1)), none, some (.int p1)]) rfl ?_
  have E2 : ∀  (S4 : gSt), (some ((0 : Int32), S4)) = some (r0, S0) → AW X RX0 0 cX0_isTrodden 26 [none, none, none] [] S4 := by
    intro S4 h
    refine a_iconst (pc := 26) (v := (0 : Int32)) dX0_isTrodden_26 (by decide) ?_
    obtain ⟨rfl, rfl⟩ := Prod.mk.inj (Option.some.inj h)
    exact a_zret hp rfl  dX0_isTrodden_27
  have lp : ∀ (n : Nat) (x2 : Int32) (S : gSt), gLoop (f_X0_isTrodden_s2) n (x2, S) = some R4 → AW X RX0 0 cX0_isTrodden 2 [some (.ref (gad X 1)), none, some (.int x2)] [] S := by
    intro n
    induction n with
    | zero => intro x2 S hR; cases hR
    | succ n ih =>
      intro x2 S hR
      obtain ⟨q, hs, hR⟩ := g_bind hR
      have hs : f_X0_isTrodden_s2_b x2 S = some q := hs
      unfold f_X0_isTrodden_s2_b at hs
      refine a_iloadn (pc := 2) dX0_isTrodden_2 rfl rfl ?_
      refine a_sipush (pc := 3) (v := (384 : Int32)) dX0_isTrodden_3 (by decide) ?_
      refine a_icmp_ge (pc := 6) (tgt := 26) dX0_isTrodden_6 (by decide) (fun c1 => ?_) (fun c1 => ?_)
      · rw [if_pos c1] at hs
        obtain rfl := Option.some.inj hs
        obtain rfl := Option.some.inj hR
        refine a_mask [false, true, false] (L' := [none, none, none]) rfl ?_
        exact E2  _ h
      · rw [if_neg c1] at hs
        refine a_aloadn (pc := 9) dX0_isTrodden_9 rfl rfl ?_
        refine a_getA (pc := 10) flX0_27 sh_1 rfl dX0_isTrodden_10 ?_
        refine a_iloadn (pc := 13) dX0_isTrodden_13 rfl rfl ?_
        obtain ⟨hi2, hs⟩ := g_if hs
        refine a_iald (pc := 14) sh_7 hi2 dX0_isTrodden_14 ?_
        refine a_if_le (pc := 15) (tgt := 20) dX0_isTrodden_15 (by decide) (fun c3 => ?_) (fun c3 => ?_)
        · rw [if_pos c3] at hs
          refine a_iinc (pc := 20) dX0_isTrodden_20 rfl (v := x2 + (64 : Int32)) rfl (Nat.le_of_ble_eq_true rfl) rfl (L' := [some (.ref (gad X 1)), none, some (.int (x2 + (64 : Int32)))]) rfl ?_
          refine a_goto (pc := 23) (tgt := 2) dX0_isTrodden_23 (by decide) ?_
          obtain rfl := Option.some.inj hs
          exact ih _ _ hR
        · rw [if_neg c3] at hs
          refine a_iconst (pc := 18) (v := (1 : Int32)) dX0_isTrodden_18 (by decide) ?_
          obtain rfl := Option.some.inj hs
          obtain rfl := Option.some.inj hR
          obtain ⟨rfl, rfl⟩ := Prod.mk.inj (Option.some.inj h)
          exact a_zret hp rfl  dX0_isTrodden_19
  exact lp _ _ _ hR4
theorem dX0_troddenCells_0 : decode cX0_troddenCells 0 = .ok (.iconst 0, 1) := by decide +kernel
theorem dX0_troddenCells_1 : decode cX0_troddenCells 1 = .ok (.istore_n 1, 1) := by decide +kernel
theorem dX0_troddenCells_2 : decode cX0_troddenCells 2 = .ok (.iconst 0, 1) := by decide +kernel
theorem dX0_troddenCells_3 : decode cX0_troddenCells 3 = .ok (.istore_n 2, 1) := by decide +kernel
theorem dX0_troddenCells_4 : decode cX0_troddenCells 4 = .ok (.iload_n 2, 1) := by decide +kernel
theorem dX0_troddenCells_5 : decode cX0_troddenCells 5 = .ok (.bipush 64, 2) := by decide +kernel
theorem dX0_troddenCells_7 : decode cX0_troddenCells 7 = .ok (.if_icmp .ge 20, 3) := by decide +kernel
theorem dX0_troddenCells_10 : decode cX0_troddenCells 10 = .ok (.aload_n 0, 1) := by decide +kernel
theorem dX0_troddenCells_11 : decode cX0_troddenCells 11 = .ok (.iload_n 2, 1) := by decide +kernel
theorem dX0_troddenCells_12 : decode cX0_troddenCells 12 = .ok (.invokevirtual 119, 3) := by decide +kernel
theorem dX0_troddenCells_15 : decode cX0_troddenCells 15 = .ok (.ifCond .eq 6, 3) := by decide +kernel
theorem dX0_troddenCells_18 : decode cX0_troddenCells 18 = .ok (.iinc 1 1, 3) := by decide +kernel
theorem dX0_troddenCells_21 : decode cX0_troddenCells 21 = .ok (.iinc 2 1, 3) := by decide +kernel
theorem dX0_troddenCells_24 : decode cX0_troddenCells 24 = .ok (.goto (-20), 3) := by decide +kernel
theorem dX0_troddenCells_27 : decode cX0_troddenCells 27 = .ok (.iload_n 1, 1) := by decide +kernel
theorem dX0_troddenCells_28 : decode cX0_troddenCells 28 = .ok (.ireturn, 1) := by decide +kernel
def f_X0_troddenCells_s4_b (x1 : Int32) (x2 : Int32) (S : gSt) : Option ((Int32 × Int32 × gSt) ⊕ (Int32 × gSt)) :=
(if (64 : Int32) ≤ x2 then
some (.inr (x1, S))
else
gBind2 (f_X0_isTrodden x2 S) fun r4 S2 =>
(if r4 = 0 then
some (.inl (x1, x2 + (1 : Int32), S2))
else
some (.inl (x1 + (1 : Int32), x2 + (1 : Int32), S2))))
def f_X0_troddenCells_s4 : (Int32 × Int32 × gSt) → Option ((Int32 × Int32 × gSt) ⊕ (Int32 × gSt)) := fun t => f_X0_troddenCells_s4_b t.1 t.2.1 t.2.2
def f_X0_troddenCells (S : gSt) : Option (Int32 × gSt) :=
(gLoop (f_X0_troddenCells_s4) gFuel ((0 : Int32), (0 : Int32), S)).bind fun q6 => match q6 with
| (y1_6, S6) =>
some (y1_6, S6)
set_option maxHeartbeats 4000000 in
set_option maxRecDepth 20000 in
theorem ok_X0_troddenCells {S S0 : gSt} {r0 : Int32}  (h : f_X0_troddenCells S = some (r0, S0)) : gCT yX0_troddenCells cX0_troddenCells 3 (some .int) 1 (fun w => [.ref (w.2.1 1)]) S (some (.int r0)) S0 := by
  refine gEnter (fun X => [some (.ref (gad X 1)), none, none]) (by decide) (fun X => ⟨rfl, rfl⟩) (fun w => Nat.le_of_ble_eq_true rfl) (fun X hp => ?_)
  show AW X RX0 1 cX0_troddenCells 0 [some (.ref (gad X 1)), none, none] [] S
  unfold f_X0_troddenCells at h
  refine a_iconst (pc := 0) (v := (0 : Int32)) dX0_troddenCells_0 (by decide) ?_
  refine a_istoren (pc := 1) dX0_troddenCells_1 rfl (Nat.le_of_ble_eq_true rfl) rfl (L' := [some (.ref (gad X 1)), some (.int (0 : Int32)), none]) rfl ?_
  refine a_iconst (pc := 2) (v := (0 : Int32)) dX0_troddenCells_2 (by decide) ?_
  refine a_istoren (pc := 3) dX0_troddenCells_3 rfl (Nat.le_of_ble_eq_true rfl) rfl (L' := [some (.ref (gad X 1)), some (.int (0 : Int32)), some (.int (0 : Int32))]) rfl ?_
  obtain ⟨R6, hR6, h⟩ := g_bind h
  have E4 : ∀ (y1_6 : Int32) (S6 : gSt), (some (y1_6, S6)) = some (r0, S0) → AW X RX0 1 cX0_troddenCells 27 [none, some (.int y1_6), none] [] S6 := by
    intro y1_6 S6 h
    refine a_iloadn (pc := 27) dX0_troddenCells_27 rfl rfl ?_
    obtain ⟨rfl, rfl⟩ := Prod.mk.inj (Option.some.inj h)
    exact a_iret hp dX0_troddenCells_28
  have lp : ∀ (n : Nat) (x1 : Int32) (x2 : Int32) (S : gSt), gLoop (f_X0_troddenCells_s4) n (x1, x2, S) = some R6 → AW X RX0 1 cX0_troddenCells 4 [some (.ref (gad X 1)), some (.int x1), some (.int x2)] [] S := by
    intro n
    induction n with
    | zero => intro x1 x2 S hR; cases hR
    | succ n ih =>
      intro x1 x2 S hR
      obtain ⟨q, hs, hR⟩ := g_bind hR
      have hs : f_X0_troddenCells_s4_b x1 x2 S = some q := hs
      unfold f_X0_troddenCells_s4_b at hs
      refine a_iloadn (pc := 4) dX0_troddenCells_4 rfl rfl ?_
      refine a_bipush (pc := 5) (v := (64 : Int32)) dX0_troddenCells_5 (by decide) ?_
      refine a_icmp_ge (pc := 7) (tgt := 27) dX0_troddenCells_7 (by decide) (fun c1 => ?_) (fun c1 => ?_)
      · rw [if_pos c1] at hs
        obtain rfl := Option.some.inj hs
        obtain rfl := Option.some.inj hR
        refine a_mask [false, true, false] (L' := [none, some (.int x1), none]) rfl ?_
        exact E4 _ _ h
      · rw [if_neg c1] at hs
        refine a_aloadn (pc := 10) dX0_troddenCells_10 rfl rfl ?_
        refine a_iloadn (pc := 11) dX0_troddenCells_11 rfl rfl ?_
        obtain ⟨r4, S2, hc3, hs⟩ := g_bind2 hs
        refine a_invVi (pc := 12) (ok_X0_isTrodden hc3) gyX0_isTrodden vyX0_isTrodden mlX0_119 sh_1 rfl (As := [.int x2]) rfl rfl (by decide) (st := []) rfl (Nat.le_of_ble_eq_true rfl) dX0_troddenCells_12 ?_
        refine a_if_eq (pc := 15) (tgt := 21) dX0_troddenCells_15 (by decide) (fun c5 => ?_) (fun c5 => ?_)
        · rw [if_pos c5] at hs
          refine a_iinc (pc := 21) dX0_troddenCells_21 rfl (v := x2 + (1 : Int32)) rfl (Nat.le_of_ble_eq_true rfl) rfl (L' := [some (.ref (gad X 1)), some (.int x1), some (.int (x2 + (1 : Int32)))]) rfl ?_
          refine a_goto (pc := 24) (tgt := 4) dX0_troddenCells_24 (by decide) ?_
          obtain rfl := Option.some.inj hs
          exact ih _ _ _ hR
        · rw [if_neg c5] at hs
          refine a_iinc (pc := 18) dX0_troddenCells_18 rfl (v := x1 + (1 : Int32)) rfl (Nat.le_of_ble_eq_true rfl) rfl (L' := [some (.ref (gad X 1)), some (.int (x1 + (1 : Int32))), some (.int x2)]) rfl ?_
          refine a_iinc (pc := 21) dX0_troddenCells_21 rfl (v := x2 + (1 : Int32)) rfl (Nat.le_of_ble_eq_true rfl) rfl (L' := [some (.ref (gad X 1)), some (.int (x1 + (1 : Int32))), some (.int (x2 + (1 : Int32)))]) rfl ?_
          refine a_goto (pc := 24) (tgt := 4) dX0_troddenCells_24 (by decide) ?_
          obtain rfl := Option.some.inj hs
          exact ih _ _ _ hR
  exact lp _ _ _ _ hR6
theorem dX6_count_0 : decode cX6_count 0 = .ok (.iload_n 1, 1) := by decide +kernel
theorem dX6_count_1 : decode cX6_count 1 = .ok (.iconst 2, 1) := by decide +kernel
theorem dX6_count_2 : decode cX6_count 2 = .ok (.if_icmp .lt 21, 3) := by decide +kernel
theorem dX6_count_5 : decode cX6_count 5 = .ok (.iload_n 1, 1) := by decide +kernel
theorem dX6_count_6 : decode cX6_count 6 = .ok (.bipush 6, 2) := by decide +kernel
theorem dX6_count_8 : decode cX6_count 8 = .ok (.if_icmp .gt 15, 3) := by decide +kernel
theorem dX6_count_11 : decode cX6_count 11 = .ok (.aload_n 0, 1) := by decide +kernel
theorem dX6_count_12 : decode cX6_count 12 = .ok (.getfield 12, 3) := by decide +kernel
theorem dX6_count_15 : decode cX6_count 15 = .ok (.getfield 108, 3) := by decide +kernel
theorem dX6_count_18 : decode cX6_count 18 = .ok (.iload_n 1, 1) := by decide +kernel
theorem dX6_count_19 : decode cX6_count 19 = .ok (.iconst 2, 1) := by decide +kernel
theorem dX6_count_20 : decode cX6_count 20 = .ok (.isub, 1) := by decide +kernel
theorem dX6_count_21 : decode cX6_count 21 = .ok (.iaload, 1) := by decide +kernel
theorem dX6_count_22 : decode cX6_count 22 = .ok (.ireturn, 1) := by decide +kernel
theorem dX6_count_23 : decode cX6_count 23 = .ok (.iload_n 1, 1) := by decide +kernel
theorem dX6_count_24 : decode cX6_count 24 = .ok (.tableswitch 111 0 9 #[56, 64, 111, 111, 111, 111, 111, 72, 83, 103], 56) := by decide +kernel
theorem dX6_count_80 : decode cX6_count 80 = .ok (.aload_n 0, 1) := by decide +kernel
theorem dX6_count_81 : decode cX6_count 81 = .ok (.getfield 12, 3) := by decide +kernel
theorem dX6_count_84 : decode cX6_count 84 = .ok (.getfield 55, 3) := by decide +kernel
theorem dX6_count_87 : decode cX6_count 87 = .ok (.ireturn, 1) := by decide +kernel
theorem dX6_count_88 : decode cX6_count 88 = .ok (.aload_n 0, 1) := by decide +kernel
theorem dX6_count_89 : decode cX6_count 89 = .ok (.getfield 12, 3) := by decide +kernel
theorem dX6_count_92 : decode cX6_count 92 = .ok (.getfield 135, 3) := by decide +kernel
theorem dX6_count_95 : decode cX6_count 95 = .ok (.ireturn, 1) := by decide +kernel
theorem dX6_count_96 : decode cX6_count 96 = .ok (.aload_n 0, 1) := by decide +kernel
theorem dX6_count_97 : decode cX6_count 97 = .ok (.getfield 12, 3) := by decide +kernel
theorem dX6_count_100 : decode cX6_count 100 = .ok (.getfield 59, 3) := by decide +kernel
theorem dX6_count_103 : decode cX6_count 103 = .ok (.getfield 138, 3) := by decide +kernel
theorem dX6_count_106 : decode cX6_count 106 = .ok (.ireturn, 1) := by decide +kernel
theorem dX6_count_107 : decode cX6_count 107 = .ok (.aload_n 0, 1) := by decide +kernel
theorem dX6_count_108 : decode cX6_count 108 = .ok (.getfield 39, 3) := by decide +kernel
theorem dX6_count_111 : decode cX6_count 111 = .ok (.aload_n 0, 1) := by decide +kernel
theorem dX6_count_112 : decode cX6_count 112 = .ok (.getfield 12, 3) := by decide +kernel
theorem dX6_count_115 : decode cX6_count 115 = .ok (.iconst 0, 1) := by decide +kernel
theorem dX6_count_116 : decode cX6_count 116 = .ok (.invokevirtual 95, 3) := by decide +kernel
theorem dX6_count_119 : decode cX6_count 119 = .ok (.aload_n 0, 1) := by decide +kernel
theorem dX6_count_120 : decode cX6_count 120 = .ok (.getfield 39, 3) := by decide +kernel
theorem dX6_count_123 : decode cX6_count 123 = .ok (.getfield 141, 3) := by decide +kernel
theorem dX6_count_126 : decode cX6_count 126 = .ok (.ireturn, 1) := by decide +kernel
theorem dX6_count_127 : decode cX6_count 127 = .ok (.aload_n 0, 1) := by decide +kernel
theorem dX6_count_128 : decode cX6_count 128 = .ok (.getfield 12, 3) := by decide +kernel
theorem dX6_count_131 : decode cX6_count 131 = .ok (.invokevirtual 144, 3) := by decide +kernel
theorem dX6_count_134 : decode cX6_count 134 = .ok (.ireturn, 1) := by decide +kernel
theorem dX6_count_135 : decode cX6_count 135 = .ok (.iconst (-1), 1) := by decide +kernel
theorem dX6_count_136 : decode cX6_count 136 = .ok (.ireturn, 1) := by decide +kernel
def f_X6_count_j23 (x1 : Int32) (S : gSt) : Option (Int32 × gSt) :=
(if x1.toInt < 0 ∨ 9 < x1.toInt then
some ((-1 : Int32), S)
else if x1 = (0 : Int32) then
some (S.1 1 7, S)
else if x1 = (1 : Int32) then
some (S.1 1 8, S)
else if x1 = (2 : Int32) then
some ((-1 : Int32), S)
else if x1 = (3 : Int32) then
some ((-1 : Int32), S)
else if x1 = (4 : Int32) then
some ((-1 : Int32), S)
else if x1 = (5 : Int32) then
some ((-1 : Int32), S)
else if x1 = (6 : Int32) then
some ((-1 : Int32), S)
else if x1 = (7 : Int32) then
some (S.1 8 6, S)
else if x1 = (8 : Int32) then
(f_X3_look (0 : Int32) S).bind fun S11 =>
some (S11.1 41 2, S11)
else if x1 = (9 : Int32) then
gBind2 (f_X0_troddenCells S) fun r16 S14 =>
some (r16, S14)
else none)
def f_X6_count (p1 : Int32) (S : gSt) : Option (Int32 × gSt) :=
(if p1 < (2 : Int32) then
f_X6_count_j23 p1 S
else
(if (6 : Int32) < p1 then
f_X6_count_j23 p1 S
else
if gin (p1 - (2 : Int32)) 5 then
(some (S.1 2 (p1 - (2 : Int32)).toNatClampNeg, S)) else none))
set_option maxHeartbeats 4000000 in
set_option maxRecDepth 20000 in
theorem ok_X6_count {p1 : Int32} {S S0 : gSt} {r0 : Int32}  (h : f_X6_count p1 S = some (r0, S0)) : gCT yX6_count cX6_count 2 (some .int) 4 (fun w => [.ref (w.2.1 0), .int p1]) S (some (.int r0)) S0 := by
  refine gEnter (fun X => [some (.ref (gad X 0)), some (.int p1)]) (by decide) (fun X => ⟨rfl, rfl⟩) (fun w => Nat.le_of_ble_eq_true rfl) (fun X hp => ?_)
  show AW X RX6 4 cX6_count 0 [some (.ref (gad X 0)), some (.int p1)] [] S
  unfold f_X6_count at h
  have J23 : ∀ (x1 : Int32) (S : gSt), f_X6_count_j23 x1 S = some (r0, S0) → AW X RX6 4 cX6_count 23 [some (.ref (gad X 0)), some (.int x1)] [] S := by
    intro x1 S h
    unfold f_X6_count_j23 at h
    refine a_iloadn (pc := 23) dX6_count_23 rfl rfl ?_
    by_cases c1 : x1.toInt < 0 ∨ 9 < x1.toInt
    · rw [if_pos c1] at h
      refine a_tabOut (pc := 24) (tgt := 135) dX6_count_24 c1 (by decide) ?_
      refine a_iconst (pc := 135) (v := (-1 : Int32)) dX6_count_135 (by decide) ?_
      obtain ⟨rfl, rfl⟩ := Prod.mk.inj (Option.some.inj h)
      exact a_iret hp dX6_count_136
    rw [if_neg c1] at h
    by_cases c2 : x1 = (0 : Int32)
    · rw [if_pos c2] at h
      refine a_nmI c2 ?_
      refine a_tabIn (pc := 24) (off := 56) (tgt := 80) dX6_count_24 (by decide) (by decide) (by decide) (by decide) ?_
      refine a_aloadn (pc := 80) dX6_count_80 rfl rfl ?_
      refine a_getA (pc := 81) flX6_12 sh_0 rfl dX6_count_81 ?_
      refine a_getI (pc := 84) flX6_55 sh_1 rfl dX6_count_84 ?_
      obtain ⟨rfl, rfl⟩ := Prod.mk.inj (Option.some.inj h)
      exact a_iret hp dX6_count_87
    rw [if_neg c2] at h
    by_cases c3 : x1 = (1 : Int32)
    · rw [if_pos c3] at h
      refine a_nmI c3 ?_
      refine a_tabIn (pc := 24) (off := 64) (tgt := 88) dX6_count_24 (by decide) (by decide) (by decide) (by decide) ?_
      refine a_aloadn (pc := 88) dX6_count_88 rfl rfl ?_
      refine a_getA (pc := 89) flX6_12 sh_0 rfl dX6_count_89 ?_
      refine a_getI (pc := 92) flX6_135 sh_1 rfl dX6_count_92 ?_
      obtain ⟨rfl, rfl⟩ := Prod.mk.inj (Option.some.inj h)
      exact a_iret hp dX6_count_95
    rw [if_neg c3] at h
    by_cases c4 : x1 = (2 : Int32)
    · rw [if_pos c4] at h
      refine a_nmI c4 ?_
      refine a_tabIn (pc := 24) (off := 111) (tgt := 135) dX6_count_24 (by decide) (by decide) (by decide) (by decide) ?_
      refine a_iconst (pc := 135) (v := (-1 : Int32)) dX6_count_135 (by decide) ?_
      obtain ⟨rfl, rfl⟩ := Prod.mk.inj (Option.some.inj h)
      exact a_iret hp dX6_count_136
    rw [if_neg c4] at h
    by_cases c5 : x1 = (3 : Int32)
    · rw [if_pos c5] at h
      refine a_nmI c5 ?_
      refine a_tabIn (pc := 24) (off := 111) (tgt := 135) dX6_count_24 (by decide) (by decide) (by decide) (by decide) ?_
      refine a_iconst (pc := 135) (v := (-1 : Int32)) dX6_count_135 (by decide) ?_
      obtain ⟨rfl, rfl⟩ := Prod.mk.inj (Option.some.inj h)
      exact a_iret hp dX6_count_136
    rw [if_neg c5] at h
    by_cases c6 : x1 = (4 : Int32)
    · rw [if_pos c6] at h
      refine a_nmI c6 ?_
      refine a_tabIn (pc := 24) (off := 111) (tgt := 135) dX6_count_24 (by decide) (by decide) (by decide) (by decide) ?_
      refine a_iconst (pc := 135) (v := (-1 : Int32)) dX6_count_135 (by decide) ?_
      obtain ⟨rfl, rfl⟩ := Prod.mk.inj (Option.some.inj h)
      exact a_iret hp dX6_count_136
    rw [if_neg c6] at h
    by_cases c7 : x1 = (5 : Int32)
    · rw [if_pos c7] at h
      refine a_nmI c7 ?_
      refine a_tabIn (pc := 24) (off := 111) (tgt := 135) dX6_count_24 (by decide) (by decide) (by decide) (by decide) ?_
      refine a_iconst (pc := 135) (v := (-1 : Int32)) dX6_count_135 (by decide) ?_
      obtain ⟨rfl, rfl⟩ := Prod.mk.inj (Option.some.inj h)
      exact a_iret hp dX6_count_136
    rw [if_neg c7] at h
    by_cases c8 : x1 = (6 : Int32)
    · rw [if_pos c8] at h
      refine a_nmI c8 ?_
      refine a_tabIn (pc := 24) (off := 111) (tgt := 135) dX6_count_24 (by decide) (by decide) (by decide) (by decide) ?_
      refine a_iconst (pc := 135) (v := (-1 : Int32)) dX6_count_135 (by decide) ?_
      obtain ⟨rfl, rfl⟩ := Prod.mk.inj (Option.some.inj h)
      exact a_iret hp dX6_count_136
    rw [if_neg c8] at h
    by_cases c9 : x1 = (7 : Int32)
    · rw [if_pos c9] at h
      refine a_nmI c9 ?_
      refine a_tabIn (pc := 24) (off := 72) (tgt := 96) dX6_count_24 (by decide) (by decide) (by decide) (by decide) ?_
      refine a_aloadn (pc := 96) dX6_count_96 rfl rfl ?_
      refine a_getA (pc := 97) flX6_12 sh_0 rfl dX6_count_97 ?_
      refine a_getA (pc := 100) flX6_59 sh_1 rfl dX6_count_100 ?_
      refine a_getI (pc := 103) flX6_138 sh_8 rfl dX6_count_103 ?_
      obtain ⟨rfl, rfl⟩ := Prod.mk.inj (Option.some.inj h)
      exact a_iret hp dX6_count_106
    rw [if_neg c9] at h
    by_cases c10 : x1 = (8 : Int32)
    · rw [if_pos c10] at h
      refine a_nmI c10 ?_
      refine a_tabIn (pc := 24) (off := 83) (tgt := 107) dX6_count_24 (by decide) (by decide) (by decide) (by decide) ?_
      refine a_aloadn (pc := 107) dX6_count_107 rfl rfl ?_
      refine a_getA (pc := 108) flX6_39 sh_0 rfl dX6_count_108 ?_
      refine a_aloadn (pc := 111) dX6_count_111 rfl rfl ?_
      refine a_getA (pc := 112) flX6_12 sh_0 rfl dX6_count_112 ?_
      refine a_iconst (pc := 115) (v := (0 : Int32)) dX6_count_115 (by decide) ?_
      obtain ⟨S11, hc12, h⟩ := g_bind h
      refine a_invVv (pc := 116) (ok_X3_look hc12) gyX3_look vyX3_look mlX6_95 sh_41 rfl (As := [.ref (gad X 1), .int (0 : Int32)]) rfl rfl (by decide) (st := []) rfl (Nat.le_of_ble_eq_true rfl) dX6_count_116 ?_
      refine a_aloadn (pc := 119) dX6_count_119 rfl rfl ?_
      refine a_getA (pc := 120) flX6_39 sh_0 rfl dX6_count_120 ?_
      refine a_getI (pc := 123) flX6_141 sh_41 rfl dX6_count_123 ?_
      obtain ⟨rfl, rfl⟩ := Prod.mk.inj (Option.some.inj h)
      exact a_iret hp dX6_count_126
    rw [if_neg c10] at h
    by_cases c13 : x1 = (9 : Int32)
    · rw [if_pos c13] at h
      refine a_nmI c13 ?_
      refine a_tabIn (pc := 24) (off := 103) (tgt := 127) dX6_count_24 (by decide) (by decide) (by decide) (by decide) ?_
      refine a_aloadn (pc := 127) dX6_count_127 rfl rfl ?_
      refine a_getA (pc := 128) flX6_12 sh_0 rfl dX6_count_128 ?_
      obtain ⟨r16, S14, hc15, h⟩ := g_bind2 h
      refine a_invVi (pc := 131) (ok_X0_troddenCells hc15) gyX0_troddenCells vyX0_troddenCells mlX6_144 sh_1 rfl (As := []) rfl rfl (by decide) (st := []) rfl (Nat.le_of_ble_eq_true rfl) dX6_count_131 ?_
      obtain ⟨rfl, rfl⟩ := Prod.mk.inj (Option.some.inj h)
      exact a_iret hp dX6_count_134
    rw [if_neg c13] at h
    cases h
  refine a_iloadn (pc := 0) dX6_count_0 rfl rfl ?_
  refine a_iconst (pc := 1) (v := (2 : Int32)) dX6_count_1 (by decide) ?_
  refine a_icmp_lt (pc := 2) (tgt := 23) dX6_count_2 (by decide) (fun c17 => ?_) (fun c17 => ?_)
  · rw [if_pos c17] at h
    exact J23 _ _ h
  · rw [if_neg c17] at h
    refine a_iloadn (pc := 5) dX6_count_5 rfl rfl ?_
    refine a_bipush (pc := 6) (v := (6 : Int32)) dX6_count_6 (by decide) ?_
    refine a_icmp_gt (pc := 8) (tgt := 23) dX6_count_8 (by decide) (fun c18 => ?_) (fun c18 => ?_)
    · rw [if_pos c18] at h
      exact J23 _ _ h
    · rw [if_neg c18] at h
      refine a_aloadn (pc := 11) dX6_count_11 rfl rfl ?_
      refine a_getA (pc := 12) flX6_12 sh_0 rfl dX6_count_12 ?_
      refine a_getA (pc := 15) flX6_108 sh_1 rfl dX6_count_15 ?_
      refine a_iloadn (pc := 18) dX6_count_18 rfl rfl ?_
      refine a_iconst (pc := 19) (v := (2 : Int32)) dX6_count_19 (by decide) ?_
      refine a_isub (pc := 20) dX6_count_20 ?_
      obtain ⟨hi19, h⟩ := g_if h
      refine a_iald (pc := 21) sh_2 hi19 dX6_count_21 ?_
      obtain ⟨rfl, rfl⟩ := Prod.mk.inj (Option.some.inj h)
      exact a_iret hp dX6_count_22
theorem dX6_beside_0 : decode cX6_beside 0 = .ok (.iload_n 1, 1) := by decide +kernel
theorem dX6_beside_1 : decode cX6_beside 1 = .ok (.tableswitch 80 0 2 #[27, 45, 64], 27) := by decide +kernel
theorem dX6_beside_28 : decode cX6_beside 28 = .ok (.iload_n 0, 1) := by decide +kernel
theorem dX6_beside_29 : decode cX6_beside 29 = .ok (.invokestatic 273, 3) := by decide +kernel
theorem dX6_beside_32 : decode cX6_beside 32 = .ok (.bipush 7, 2) := by decide +kernel
theorem dX6_beside_34 : decode cX6_beside 34 = .ok (.if_icmp .ge 9, 3) := by decide +kernel
theorem dX6_beside_37 : decode cX6_beside 37 = .ok (.iload_n 0, 1) := by decide +kernel
theorem dX6_beside_38 : decode cX6_beside 38 = .ok (.iconst 1, 1) := by decide +kernel
theorem dX6_beside_39 : decode cX6_beside 39 = .ok (.iadd, 1) := by decide +kernel
theorem dX6_beside_40 : decode cX6_beside 40 = .ok (.goto 5, 3) := by decide +kernel
theorem dX6_beside_43 : decode cX6_beside 43 = .ok (.bipush (-2), 2) := by decide +kernel
theorem dX6_beside_45 : decode cX6_beside 45 = .ok (.ireturn, 1) := by decide +kernel
theorem dX6_beside_46 : decode cX6_beside 46 = .ok (.iload_n 0, 1) := by decide +kernel
theorem dX6_beside_47 : decode cX6_beside 47 = .ok (.invokestatic 276, 3) := by decide +kernel
theorem dX6_beside_50 : decode cX6_beside 50 = .ok (.bipush 7, 2) := by decide +kernel
theorem dX6_beside_52 : decode cX6_beside 52 = .ok (.if_icmp .ge 10, 3) := by decide +kernel
theorem dX6_beside_55 : decode cX6_beside 55 = .ok (.iload_n 0, 1) := by decide +kernel
theorem dX6_beside_56 : decode cX6_beside 56 = .ok (.bipush 8, 2) := by decide +kernel
theorem dX6_beside_58 : decode cX6_beside 58 = .ok (.iadd, 1) := by decide +kernel
theorem dX6_beside_59 : decode cX6_beside 59 = .ok (.goto 5, 3) := by decide +kernel
theorem dX6_beside_62 : decode cX6_beside 62 = .ok (.bipush (-2), 2) := by decide +kernel
theorem dX6_beside_64 : decode cX6_beside 64 = .ok (.ireturn, 1) := by decide +kernel
theorem dX6_beside_65 : decode cX6_beside 65 = .ok (.iload_n 0, 1) := by decide +kernel
theorem dX6_beside_66 : decode cX6_beside 66 = .ok (.invokestatic 273, 3) := by decide +kernel
theorem dX6_beside_69 : decode cX6_beside 69 = .ok (.ifCond .le 9, 3) := by decide +kernel
theorem dX6_beside_72 : decode cX6_beside 72 = .ok (.iload_n 0, 1) := by decide +kernel
theorem dX6_beside_73 : decode cX6_beside 73 = .ok (.iconst 1, 1) := by decide +kernel
theorem dX6_beside_74 : decode cX6_beside 74 = .ok (.isub, 1) := by decide +kernel
theorem dX6_beside_75 : decode cX6_beside 75 = .ok (.goto 5, 3) := by decide +kernel
theorem dX6_beside_78 : decode cX6_beside 78 = .ok (.bipush (-2), 2) := by decide +kernel
theorem dX6_beside_80 : decode cX6_beside 80 = .ok (.ireturn, 1) := by decide +kernel
theorem dX6_beside_81 : decode cX6_beside 81 = .ok (.iload_n 0, 1) := by decide +kernel
theorem dX6_beside_82 : decode cX6_beside 82 = .ok (.invokestatic 276, 3) := by decide +kernel
theorem dX6_beside_85 : decode cX6_beside 85 = .ok (.ifCond .le 10, 3) := by decide +kernel
theorem dX6_beside_88 : decode cX6_beside 88 = .ok (.iload_n 0, 1) := by decide +kernel
theorem dX6_beside_89 : decode cX6_beside 89 = .ok (.bipush 8, 2) := by decide +kernel
theorem dX6_beside_91 : decode cX6_beside 91 = .ok (.isub, 1) := by decide +kernel
theorem dX6_beside_92 : decode cX6_beside 92 = .ok (.goto 5, 3) := by decide +kernel
theorem dX6_beside_95 : decode cX6_beside 95 = .ok (.bipush (-2), 2) := by decide +kernel
theorem dX6_beside_97 : decode cX6_beside 97 = .ok (.ireturn, 1) := by decide +kernel
def f_X6_beside (p0 : Int32) (p1 : Int32) (S : gSt) : Option (Int32 × gSt) :=
(if p1.toInt < 0 ∨ 2 < p1.toInt then
gBind2 (f_X6_rowOf p0 S) fun r4 S2 =>
(if r4 ≤ 0 then
some ((-2 : Int32), S2)
else
some (p0 - (8 : Int32), S2))
else if p1 = (0 : Int32) then
gBind2 (f_X6_columnOf p0 S) fun r9 S7 =>
(if (7 : Int32) ≤ r9 then
some ((-2 : Int32), S7)
else
some (p0 + (1 : Int32), S7))
else if p1 = (1 : Int32) then
gBind2 (f_X6_rowOf p0 S) fun r14 S12 =>
(if (7 : Int32) ≤ r14 then
some ((-2 : Int32), S12)
else
some (p0 + (8 : Int32), S12))
else if p1 = (2 : Int32) then
gBind2 (f_X6_columnOf p0 S) fun r19 S17 =>
(if r19 ≤ 0 then
some ((-2 : Int32), S17)
else
some (p0 - (1 : Int32), S17))
else none)
set_option maxHeartbeats 4000000 in
set_option maxRecDepth 20000 in
theorem ok_X6_beside {p0 : Int32} {p1 : Int32} {S S0 : gSt} {r0 : Int32}  (h : f_X6_beside p0 p1 S = some (r0, S0)) : gCT yX6_beside cX6_beside 2 (some .int) 1 (fun w => [.int p0, .int p1]) S (some (.int r0)) S0 := by
  refine gEnter (fun X => [some (.int p0), some (.int p1)]) (by decide) (fun X => ⟨rfl, rfl⟩) (fun w => Nat.le_of_ble_eq_true rfl) (fun X hp => ?_)
  show AW X RX6 1 cX6_beside 0 [some (.int p0), some (.int p1)] [] S
  unfold f_X6_beside at h
  refine a_iloadn (pc := 0) dX6_beside_0 rfl rfl ?_
  by_cases c1 : p1.toInt < 0 ∨ 2 < p1.toInt
  · rw [if_pos c1] at h
    refine a_tabOut (pc := 1) (tgt := 81) dX6_beside_1 c1 (by decide) ?_
    refine a_iloadn (pc := 81) dX6_beside_81 rfl rfl ?_
    obtain ⟨r4, S2, hc3, h⟩ := g_bind2 h
    refine a_invSi (pc := 82) (ok_X6_rowOf hc3) gyX6_rowOf syX6_rowOf mlX6_276 (As := [.int p0]) rfl rfl (by decide) (st := []) rfl (Nat.le_of_ble_eq_true rfl) dX6_beside_82 ?_
    refine a_if_le (pc := 85) (tgt := 95) dX6_beside_85 (by decide) (fun c5 => ?_) (fun c5 => ?_)
    · rw [if_pos c5] at h
      refine a_bipush (pc := 95) (v := (-2 : Int32)) dX6_beside_95 (by decide) ?_
      obtain ⟨rfl, rfl⟩ := Prod.mk.inj (Option.some.inj h)
      exact a_iret hp dX6_beside_97
    · rw [if_neg c5] at h
      refine a_iloadn (pc := 88) dX6_beside_88 rfl rfl ?_
      refine a_bipush (pc := 89) (v := (8 : Int32)) dX6_beside_89 (by decide) ?_
      refine a_isub (pc := 91) dX6_beside_91 ?_
      refine a_goto (pc := 92) (tgt := 97) dX6_beside_92 (by decide) ?_
      obtain ⟨rfl, rfl⟩ := Prod.mk.inj (Option.some.inj h)
      exact a_iret hp dX6_beside_97
  rw [if_neg c1] at h
  by_cases c6 : p1 = (0 : Int32)
  · rw [if_pos c6] at h
    refine a_nmI c6 ?_
    refine a_tabIn (pc := 1) (off := 27) (tgt := 28) dX6_beside_1 (by decide) (by decide) (by decide) (by decide) ?_
    refine a_iloadn (pc := 28) dX6_beside_28 rfl rfl ?_
    obtain ⟨r9, S7, hc8, h⟩ := g_bind2 h
    refine a_invSi (pc := 29) (ok_X6_columnOf hc8) gyX6_columnOf syX6_columnOf mlX6_273 (As := [.int p0]) rfl rfl (by decide) (st := []) rfl (Nat.le_of_ble_eq_true rfl) dX6_beside_29 ?_
    refine a_bipush (pc := 32) (v := (7 : Int32)) dX6_beside_32 (by decide) ?_
    refine a_icmp_ge (pc := 34) (tgt := 43) dX6_beside_34 (by decide) (fun c10 => ?_) (fun c10 => ?_)
    · rw [if_pos c10] at h
      refine a_bipush (pc := 43) (v := (-2 : Int32)) dX6_beside_43 (by decide) ?_
      obtain ⟨rfl, rfl⟩ := Prod.mk.inj (Option.some.inj h)
      exact a_iret hp dX6_beside_45
    · rw [if_neg c10] at h
      refine a_iloadn (pc := 37) dX6_beside_37 rfl rfl ?_
      refine a_iconst (pc := 38) (v := (1 : Int32)) dX6_beside_38 (by decide) ?_
      refine a_iadd (pc := 39) dX6_beside_39 ?_
      refine a_goto (pc := 40) (tgt := 45) dX6_beside_40 (by decide) ?_
      obtain ⟨rfl, rfl⟩ := Prod.mk.inj (Option.some.inj h)
      exact a_iret hp dX6_beside_45
  rw [if_neg c6] at h
  by_cases c11 : p1 = (1 : Int32)
  · rw [if_pos c11] at h
    refine a_nmI c11 ?_
    refine a_tabIn (pc := 1) (off := 45) (tgt := 46) dX6_beside_1 (by decide) (by decide) (by decide) (by decide) ?_
    refine a_iloadn (pc := 46) dX6_beside_46 rfl rfl ?_
    obtain ⟨r14, S12, hc13, h⟩ := g_bind2 h
    refine a_invSi (pc := 47) (ok_X6_rowOf hc13) gyX6_rowOf syX6_rowOf mlX6_276 (As := [.int p0]) rfl rfl (by decide) (st := []) rfl (Nat.le_of_ble_eq_true rfl) dX6_beside_47 ?_
    refine a_bipush (pc := 50) (v := (7 : Int32)) dX6_beside_50 (by decide) ?_
    refine a_icmp_ge (pc := 52) (tgt := 62) dX6_beside_52 (by decide) (fun c15 => ?_) (fun c15 => ?_)
    · rw [if_pos c15] at h
      refine a_bipush (pc := 62) (v := (-2 : Int32)) dX6_beside_62 (by decide) ?_
      obtain ⟨rfl, rfl⟩ := Prod.mk.inj (Option.some.inj h)
      exact a_iret hp dX6_beside_64
    · rw [if_neg c15] at h
      refine a_iloadn (pc := 55) dX6_beside_55 rfl rfl ?_
      refine a_bipush (pc := 56) (v := (8 : Int32)) dX6_beside_56 (by decide) ?_
      refine a_iadd (pc := 58) dX6_beside_58 ?_
      refine a_goto (pc := 59) (tgt := 64) dX6_beside_59 (by decide) ?_
      obtain ⟨rfl, rfl⟩ := Prod.mk.inj (Option.some.inj h)
      exact a_iret hp dX6_beside_64
  rw [if_neg c11] at h
  by_cases c16 : p1 = (2 : Int32)
  · rw [if_pos c16] at h
    refine a_nmI c16 ?_
    refine a_tabIn (pc := 1) (off := 64) (tgt := 65) dX6_beside_1 (by decide) (by decide) (by decide) (by decide) ?_
    refine a_iloadn (pc := 65) dX6_beside_65 rfl rfl ?_
    obtain ⟨r19, S17, hc18, h⟩ := g_bind2 h
    refine a_invSi (pc := 66) (ok_X6_columnOf hc18) gyX6_columnOf syX6_columnOf mlX6_273 (As := [.int p0]) rfl rfl (by decide) (st := []) rfl (Nat.le_of_ble_eq_true rfl) dX6_beside_66 ?_
    refine a_if_le (pc := 69) (tgt := 78) dX6_beside_69 (by decide) (fun c20 => ?_) (fun c20 => ?_)
    · rw [if_pos c20] at h
      refine a_bipush (pc := 78) (v := (-2 : Int32)) dX6_beside_78 (by decide) ?_
      obtain ⟨rfl, rfl⟩ := Prod.mk.inj (Option.some.inj h)
      exact a_iret hp dX6_beside_80
    · rw [if_neg c20] at h
      refine a_iloadn (pc := 72) dX6_beside_72 rfl rfl ?_
      refine a_iconst (pc := 73) (v := (1 : Int32)) dX6_beside_73 (by decide) ?_
      refine a_isub (pc := 74) dX6_beside_74 ?_
      refine a_goto (pc := 75) (tgt := 80) dX6_beside_75 (by decide) ?_
      obtain ⟨rfl, rfl⟩ := Prod.mk.inj (Option.some.inj h)
      exact a_iret hp dX6_beside_80
  rw [if_neg c16] at h
  cases h
theorem dX1_keep_0 : decode cX1_keep 0 = .ok (.aload_n 1, 1) := by decide +kernel
theorem dX1_keep_1 : decode cX1_keep 1 = .ok (.getfield 34, 3) := by decide +kernel
theorem dX1_keep_4 : decode cX1_keep 4 = .ok (.iconst 0, 1) := by decide +kernel
theorem dX1_keep_5 : decode cX1_keep 5 = .ok (.aload_n 0, 1) := by decide +kernel
theorem dX1_keep_6 : decode cX1_keep 6 = .ok (.getfield 9, 3) := by decide +kernel
theorem dX1_keep_9 : decode cX1_keep 9 = .ok (.aload_n 0, 1) := by decide +kernel
theorem dX1_keep_10 : decode cX1_keep 10 = .ok (.getfield 27, 3) := by decide +kernel
theorem dX1_keep_13 : decode cX1_keep 13 = .ok (.sipush 384, 3) := by decide +kernel
theorem dX1_keep_16 : decode cX1_keep 16 = .ok (.imul, 1) := by decide +kernel
theorem dX1_keep_17 : decode cX1_keep 17 = .ok (.sipush 384, 3) := by decide +kernel
theorem dX1_keep_20 : decode cX1_keep 20 = .ok (.invokestatic 37, 3) := by decide +kernel
theorem dX1_keep_23 : decode cX1_keep 23 = .ok (.aload_n 1, 1) := by decide +kernel
theorem dX1_keep_24 : decode cX1_keep 24 = .ok (.getfield 43, 3) := by decide +kernel
theorem dX1_keep_27 : decode cX1_keep 27 = .ok (.iconst 0, 1) := by decide +kernel
theorem dX1_keep_28 : decode cX1_keep 28 = .ok (.aload_n 0, 1) := by decide +kernel
theorem dX1_keep_29 : decode cX1_keep 29 = .ok (.getfield 15, 3) := by decide +kernel
theorem dX1_keep_32 : decode cX1_keep 32 = .ok (.aload_n 0, 1) := by decide +kernel
theorem dX1_keep_33 : decode cX1_keep 33 = .ok (.getfield 27, 3) := by decide +kernel
theorem dX1_keep_36 : decode cX1_keep 36 = .ok (.bipush 6, 2) := by decide +kernel
theorem dX1_keep_38 : decode cX1_keep 38 = .ok (.imul, 1) := by decide +kernel
theorem dX1_keep_39 : decode cX1_keep 39 = .ok (.bipush 6, 2) := by decide +kernel
theorem dX1_keep_41 : decode cX1_keep 41 = .ok (.invokestatic 37, 3) := by decide +kernel
theorem dX1_keep_44 : decode cX1_keep 44 = .ok (.aload_n 1, 1) := by decide +kernel
theorem dX1_keep_45 : decode cX1_keep 45 = .ok (.getfield 44, 3) := by decide +kernel
theorem dX1_keep_48 : decode cX1_keep 48 = .ok (.iconst 0, 1) := by decide +kernel
theorem dX1_keep_49 : decode cX1_keep 49 = .ok (.aload_n 0, 1) := by decide +kernel
theorem dX1_keep_50 : decode cX1_keep 50 = .ok (.getfield 18, 3) := by decide +kernel
theorem dX1_keep_53 : decode cX1_keep 53 = .ok (.aload_n 0, 1) := by decide +kernel
theorem dX1_keep_54 : decode cX1_keep 54 = .ok (.getfield 27, 3) := by decide +kernel
theorem dX1_keep_57 : decode cX1_keep 57 = .ok (.bipush 6, 2) := by decide +kernel
theorem dX1_keep_59 : decode cX1_keep 59 = .ok (.imul, 1) := by decide +kernel
theorem dX1_keep_60 : decode cX1_keep 60 = .ok (.bipush 6, 2) := by decide +kernel
theorem dX1_keep_62 : decode cX1_keep 62 = .ok (.invokestatic 37, 3) := by decide +kernel
theorem dX1_keep_65 : decode cX1_keep 65 = .ok (.aload_n 0, 1) := by decide +kernel
theorem dX1_keep_66 : decode cX1_keep 66 = .ok (.getfield 21, 3) := by decide +kernel
theorem dX1_keep_69 : decode cX1_keep 69 = .ok (.aload_n 0, 1) := by decide +kernel
theorem dX1_keep_70 : decode cX1_keep 70 = .ok (.getfield 27, 3) := by decide +kernel
theorem dX1_keep_73 : decode cX1_keep 73 = .ok (.aload_n 1, 1) := by decide +kernel
theorem dX1_keep_74 : decode cX1_keep 74 = .ok (.getfield 45, 3) := by decide +kernel
theorem dX1_keep_77 : decode cX1_keep 77 = .ok (.iastore, 1) := by decide +kernel
theorem dX1_keep_78 : decode cX1_keep 78 = .ok (.aload_n 0, 1) := by decide +kernel
theorem dX1_keep_79 : decode cX1_keep 79 = .ok (.getfield 24, 3) := by decide +kernel
theorem dX1_keep_82 : decode cX1_keep 82 = .ok (.aload_n 0, 1) := by decide +kernel
theorem dX1_keep_83 : decode cX1_keep 83 = .ok (.getfield 27, 3) := by decide +kernel
theorem dX1_keep_86 : decode cX1_keep 86 = .ok (.aload_n 1, 1) := by decide +kernel
theorem dX1_keep_87 : decode cX1_keep 87 = .ok (.getfield 48, 3) := by decide +kernel
theorem dX1_keep_90 : decode cX1_keep 90 = .ok (.iastore, 1) := by decide +kernel
theorem dX1_keep_91 : decode cX1_keep 91 = .ok (.aload_n 0, 1) := by decide +kernel
theorem dX1_keep_92 : decode cX1_keep 92 = .ok (.aload_n 0, 1) := by decide +kernel
theorem dX1_keep_93 : decode cX1_keep 93 = .ok (.getfield 27, 3) := by decide +kernel
theorem dX1_keep_96 : decode cX1_keep 96 = .ok (.iconst 1, 1) := by decide +kernel
theorem dX1_keep_97 : decode cX1_keep 97 = .ok (.iadd, 1) := by decide +kernel
theorem dX1_keep_98 : decode cX1_keep 98 = .ok (.bipush 8, 2) := by decide +kernel
theorem dX1_keep_100 : decode cX1_keep 100 = .ok (.irem, 1) := by decide +kernel
theorem dX1_keep_101 : decode cX1_keep 101 = .ok (.putfield 27, 3) := by decide +kernel
theorem dX1_keep_104 : decode cX1_keep 104 = .ok (.aload_n 0, 1) := by decide +kernel
theorem dX1_keep_105 : decode cX1_keep 105 = .ok (.bipush 8, 2) := by decide +kernel
theorem dX1_keep_107 : decode cX1_keep 107 = .ok (.aload_n 0, 1) := by decide +kernel
theorem dX1_keep_108 : decode cX1_keep 108 = .ok (.getfield 31, 3) := by decide +kernel
theorem dX1_keep_111 : decode cX1_keep 111 = .ok (.iconst 1, 1) := by decide +kernel
theorem dX1_keep_112 : decode cX1_keep 112 = .ok (.iadd, 1) := by decide +kernel
theorem dX1_keep_113 : decode cX1_keep 113 = .ok (.invokestatic 51, 3) := by decide +kernel
theorem dX1_keep_116 : decode cX1_keep 116 = .ok (.putfield 31, 3) := by decide +kernel
theorem dX1_keep_119 : decode cX1_keep 119 = .ok (.return_, 1) := by decide +kernel
def f_X1_keep (S : gSt) : Option gSt :=
if gcp (0 : Int32) ((S.1 8 5) * (384 : Int32)) (384 : Int32) 384 3072 then
gLet (gR S 9 (va_cpy (S.1 7) (S.1 9) (0 : Int32).toNatClampNeg ((S.1 8 5) * (384 : Int32)).toNatClampNeg (384 : Int32).toNatClampNeg)) fun S2 =>
(if gcp (0 : Int32) ((S2.1 8 5) * (6 : Int32)) (6 : Int32) 6 48 then
gLet (gR S2 10 (va_cpy (S2.1 5) (S2.1 10) (0 : Int32).toNatClampNeg ((S2.1 8 5) * (6 : Int32)).toNatClampNeg (6 : Int32).toNatClampNeg)) fun S4 =>
(if gcp (0 : Int32) ((S4.1 8 5) * (6 : Int32)) (6 : Int32) 6 48 then
gLet (gR S4 11 (va_cpy (S4.1 6) (S4.1 11) (0 : Int32).toNatClampNeg ((S4.1 8 5) * (6 : Int32)).toNatClampNeg (6 : Int32).toNatClampNeg)) fun S6 =>
(if gin (S6.1 8 5) 8 then
gLet (gI S6 12 (S6.1 8 5).toNatClampNeg (S6.1 1 8)) fun S8 =>
(if gin (S8.1 8 5) 8 then
gLet (gI S8 13 (S8.1 8 5).toNatClampNeg (S8.1 1 9)) fun S10 =>
(gLet (gI S10 8 5 (((S10.1 8 5) + (1 : Int32)) - ((S10.1 8 5) + (1 : Int32)) / (8 : Int32) * (8 : Int32))) fun S11 =>
gLet (gI S11 8 6 (if ((S11.1 8 6) + (1 : Int32)) < (8 : Int32) then ((S11.1 8 6) + (1 : Int32)) else (8 : Int32))) fun S12 =>
some S12) else none) else none) else none) else none) else none
set_option maxHeartbeats 4000000 in
set_option maxRecDepth 20000 in
theorem ok_X1_keep {S S0 : gSt}  (h : f_X1_keep S = some S0) : gCT yX1_keep cX1_keep 2 none 1 (fun w => [.ref (w.2.1 8), .ref (w.2.1 1)]) S none S0 := by
  refine gEnter (fun X => [some (.ref (gad X 8)), some (.ref (gad X 1))]) (by decide) (fun X => ⟨rfl, rfl⟩) (fun w => Nat.le_of_ble_eq_true rfl) (fun X hp => ?_)
  show AW X RX1 1 cX1_keep 0 [some (.ref (gad X 8)), some (.ref (gad X 1))] [] S
  unfold f_X1_keep at h
  refine a_aloadn (pc := 0) dX1_keep_0 rfl rfl ?_
  refine a_getA (pc := 1) flX1_34 sh_1 rfl dX1_keep_1 ?_
  refine a_iconst (pc := 4) (v := (0 : Int32)) dX1_keep_4 (by decide) ?_
  refine a_aloadn (pc := 5) dX1_keep_5 rfl rfl ?_
  refine a_getA (pc := 6) flX1_9 sh_8 rfl dX1_keep_6 ?_
  refine a_aloadn (pc := 9) dX1_keep_9 rfl rfl ?_
  refine a_getI (pc := 10) flX1_27 sh_8 rfl dX1_keep_10 ?_
  refine a_sipush (pc := 13) (v := (384 : Int32)) dX1_keep_13 (by decide) ?_
  refine a_imul (pc := 16) dX1_keep_16 ?_
  refine a_sipush (pc := 17) (v := (384 : Int32)) dX1_keep_17 (by decide) ?_
  obtain ⟨hi1, h⟩ := g_if h
  refine a_copyi (pc := 20) sh_7 sh_9 hi1 mlX1_37 (by decide) (Nat.le_of_ble_eq_true rfl) dX1_keep_20 ?_
  obtain ⟨S2, eS2, h⟩ := g_let h
  refine a_nmS eS2 ?_
  refine a_aloadn (pc := 23) dX1_keep_23 rfl rfl ?_
  refine a_getA (pc := 24) flX1_43 sh_1 rfl dX1_keep_24 ?_
  refine a_iconst (pc := 27) (v := (0 : Int32)) dX1_keep_27 (by decide) ?_
  refine a_aloadn (pc := 28) dX1_keep_28 rfl rfl ?_
  refine a_getA (pc := 29) flX1_15 sh_8 rfl dX1_keep_29 ?_
  refine a_aloadn (pc := 32) dX1_keep_32 rfl rfl ?_
  refine a_getI (pc := 33) flX1_27 sh_8 rfl dX1_keep_33 ?_
  refine a_bipush (pc := 36) (v := (6 : Int32)) dX1_keep_36 (by decide) ?_
  refine a_imul (pc := 38) dX1_keep_38 ?_
  refine a_bipush (pc := 39) (v := (6 : Int32)) dX1_keep_39 (by decide) ?_
  obtain ⟨hi3, h⟩ := g_if h
  refine a_copyi (pc := 41) sh_5 sh_10 hi3 mlX1_37 (by decide) (Nat.le_of_ble_eq_true rfl) dX1_keep_41 ?_
  obtain ⟨S4, eS4, h⟩ := g_let h
  refine a_nmS eS4 ?_
  refine a_aloadn (pc := 44) dX1_keep_44 rfl rfl ?_
  refine a_getA (pc := 45) flX1_44 sh_1 rfl dX1_keep_45 ?_
  refine a_iconst (pc := 48) (v := (0 : Int32)) dX1_keep_48 (by decide) ?_
  refine a_aloadn (pc := 49) dX1_keep_49 rfl rfl ?_
  refine a_getA (pc := 50) flX1_18 sh_8 rfl dX1_keep_50 ?_
  refine a_aloadn (pc := 53) dX1_keep_53 rfl rfl ?_
  refine a_getI (pc := 54) flX1_27 sh_8 rfl dX1_keep_54 ?_
  refine a_bipush (pc := 57) (v := (6 : Int32)) dX1_keep_57 (by decide) ?_
  refine a_imul (pc := 59) dX1_keep_59 ?_
  refine a_bipush (pc := 60) (v := (6 : Int32)) dX1_keep_60 (by decide) ?_
  obtain ⟨hi5, h⟩ := g_if h
  refine a_copyi (pc := 62) sh_6 sh_11 hi5 mlX1_37 (by decide) (Nat.le_of_ble_eq_true rfl) dX1_keep_62 ?_
  obtain ⟨S6, eS6, h⟩ := g_let h
  refine a_nmS eS6 ?_
  refine a_aloadn (pc := 65) dX1_keep_65 rfl rfl ?_
  refine a_getA (pc := 66) flX1_21 sh_8 rfl dX1_keep_66 ?_
  refine a_aloadn (pc := 69) dX1_keep_69 rfl rfl ?_
  refine a_getI (pc := 70) flX1_27 sh_8 rfl dX1_keep_70 ?_
  refine a_aloadn (pc := 73) dX1_keep_73 rfl rfl ?_
  refine a_getI (pc := 74) flX1_45 sh_1 rfl dX1_keep_74 ?_
  obtain ⟨hi7, h⟩ := g_if h
  refine a_iast (pc := 77) sh_12 hi7 dX1_keep_77 ?_
  obtain ⟨S8, eS8, h⟩ := g_let h
  refine a_nmS eS8 ?_
  refine a_aloadn (pc := 78) dX1_keep_78 rfl rfl ?_
  refine a_getA (pc := 79) flX1_24 sh_8 rfl dX1_keep_79 ?_
  refine a_aloadn (pc := 82) dX1_keep_82 rfl rfl ?_
  refine a_getI (pc := 83) flX1_27 sh_8 rfl dX1_keep_83 ?_
  refine a_aloadn (pc := 86) dX1_keep_86 rfl rfl ?_
  refine a_getI (pc := 87) flX1_48 sh_1 rfl dX1_keep_87 ?_
  obtain ⟨hi9, h⟩ := g_if h
  refine a_iast (pc := 90) sh_13 hi9 dX1_keep_90 ?_
  obtain ⟨S10, eS10, h⟩ := g_let h
  refine a_nmS eS10 ?_
  refine a_aloadn (pc := 91) dX1_keep_91 rfl rfl ?_
  refine a_aloadn (pc := 92) dX1_keep_92 rfl rfl ?_
  refine a_getI (pc := 93) flX1_27 sh_8 rfl dX1_keep_93 ?_
  refine a_iconst (pc := 96) (v := (1 : Int32)) dX1_keep_96 (by decide) ?_
  refine a_iadd (pc := 97) dX1_keep_97 ?_
  refine a_bipush (pc := 98) (v := (8 : Int32)) dX1_keep_98 (by decide) ?_
  refine a_irem (pc := 100) dX1_keep_100 (by decide) ?_
  refine a_putI (pc := 101) flX1_27 sh_8 rfl rfl rfl dX1_keep_101 ?_
  obtain ⟨S11, eS11, h⟩ := g_let h
  refine a_nmS eS11 ?_
  refine a_aloadn (pc := 104) dX1_keep_104 rfl rfl ?_
  refine a_bipush (pc := 105) (v := (8 : Int32)) dX1_keep_105 (by decide) ?_
  refine a_aloadn (pc := 107) dX1_keep_107 rfl rfl ?_
  refine a_getI (pc := 108) flX1_31 sh_8 rfl dX1_keep_108 ?_
  refine a_iconst (pc := 111) (v := (1 : Int32)) dX1_keep_111 (by decide) ?_
  refine a_iadd (pc := 112) dX1_keep_112 ?_
  refine a_min (pc := 113) mlX1_51 (by decide) (Nat.le_of_ble_eq_true rfl) dX1_keep_113 ?_
  refine a_putI (pc := 116) flX1_31 sh_8 rfl rfl rfl dX1_keep_116 ?_
  obtain ⟨S12, eS12, h⟩ := g_let h
  refine a_nmS eS12 ?_
  obtain rfl := Option.some.inj h
  exact a_vret hp dX1_keep_119
theorem dX6_comesDown_0 : decode cX6_comesDown 0 = .ok (.iload_n 0, 1) := by decide +kernel
theorem dX6_comesDown_1 : decode cX6_comesDown 1 = .ok (.iconst 4, 1) := by decide +kernel
theorem dX6_comesDown_2 : decode cX6_comesDown 2 = .ok (.if_icmp .ne 9, 3) := by decide +kernel
theorem dX6_comesDown_5 : decode cX6_comesDown 5 = .ok (.iload_n 1, 1) := by decide +kernel
theorem dX6_comesDown_6 : decode cX6_comesDown 6 = .ok (.iconst 1, 1) := by decide +kernel
theorem dX6_comesDown_7 : decode cX6_comesDown 7 = .ok (.iand, 1) := by decide +kernel
theorem dX6_comesDown_8 : decode cX6_comesDown 8 = .ok (.ifCond .ne 7, 3) := by decide +kernel
theorem dX6_comesDown_11 : decode cX6_comesDown 11 = .ok (.iconst 1, 1) := by decide +kernel
theorem dX6_comesDown_12 : decode cX6_comesDown 12 = .ok (.goto 4, 3) := by decide +kernel
theorem dX6_comesDown_15 : decode cX6_comesDown 15 = .ok (.iconst 0, 1) := by decide +kernel
theorem dX6_comesDown_16 : decode cX6_comesDown 16 = .ok (.ireturn, 1) := by decide +kernel
def f_X6_comesDown (p0 : Int32) (p1 : Int32) (S : gSt) : Option (Int32 × gSt) :=
(if p0 = (4 : Int32) then
(if (p1 &&& (1 : Int32)) = 0 then
some ((1 : Int32), S)
else
some ((0 : Int32), S))
else
some ((1 : Int32), S))
set_option maxHeartbeats 4000000 in
set_option maxRecDepth 20000 in
theorem ok_X6_comesDown {p0 : Int32} {p1 : Int32} {S S0 : gSt} {r0 : Int32}  (h : f_X6_comesDown p0 p1 S = some (r0, S0)) : gCT yX6_comesDown cX6_comesDown 2 (some .boolean) 0 (fun w => [.int p0, .int p1]) S (some (.int r0)) S0 := by
  refine gEnter (fun X => [some (.int p0), some (.int p1)]) (by decide) (fun X => ⟨rfl, rfl⟩) (fun w => Nat.le_of_ble_eq_true rfl) (fun X hp => ?_)
  show AW X RX6 0 cX6_comesDown 0 [some (.int p0), some (.int p1)] [] S
  unfold f_X6_comesDown at h
  refine a_iloadn (pc := 0) dX6_comesDown_0 rfl rfl ?_
  refine a_iconst (pc := 1) (v := (4 : Int32)) dX6_comesDown_1 (by decide) ?_
  refine a_icmp_ne (pc := 2) (tgt := 11) dX6_comesDown_2 (by decide) (fun c1 => ?_) (fun c1 => ?_)
  · rw [if_neg c1] at h
    refine a_iconst (pc := 11) (v := (1 : Int32)) dX6_comesDown_11 (by decide) ?_
    refine a_goto (pc := 12) (tgt := 16) dX6_comesDown_12 (by decide) ?_
    obtain ⟨rfl, rfl⟩ := Prod.mk.inj (Option.some.inj h)
    exact a_zret hp rfl  dX6_comesDown_16
  · rw [if_pos c1] at h
    refine a_iloadn (pc := 5) dX6_comesDown_5 rfl rfl ?_
    refine a_iconst (pc := 6) (v := (1 : Int32)) dX6_comesDown_6 (by decide) ?_
    refine a_iand (pc := 7) dX6_comesDown_7 ?_
    refine a_if_ne (pc := 8) (tgt := 15) dX6_comesDown_8 (by decide) (fun c2 => ?_) (fun c2 => ?_)
    · rw [if_neg c2] at h
      refine a_iconst (pc := 15) (v := (0 : Int32)) dX6_comesDown_15 (by decide) ?_
      obtain ⟨rfl, rfl⟩ := Prod.mk.inj (Option.some.inj h)
      exact a_zret hp rfl  dX6_comesDown_16
    · rw [if_pos c2] at h
      refine a_iconst (pc := 11) (v := (1 : Int32)) dX6_comesDown_11 (by decide) ?_
      refine a_goto (pc := 12) (tgt := 16) dX6_comesDown_12 (by decide) ?_
      obtain ⟨rfl, rfl⟩ := Prod.mk.inj (Option.some.inj h)
      exact a_zret hp rfl  dX6_comesDown_16
theorem dX6_deepen_0 : decode cX6_deepen 0 = .ok (.aload_n 0, 1) := by decide +kernel
theorem dX6_deepen_1 : decode cX6_deepen 1 = .ok (.iload_n 1, 1) := by decide +kernel
theorem dX6_deepen_2 : decode cX6_deepen 2 = .ok (.bipush 99, 2) := by decide +kernel
theorem dX6_deepen_4 : decode cX6_deepen 4 = .ok (.aload_n 0, 1) := by decide +kernel
theorem dX6_deepen_5 : decode cX6_deepen 5 = .ok (.iload_n 1, 1) := by decide +kernel
theorem dX6_deepen_6 : decode cX6_deepen 6 = .ok (.iaload, 1) := by decide +kernel
theorem dX6_deepen_7 : decode cX6_deepen 7 = .ok (.iload_n 2, 1) := by decide +kernel
theorem dX6_deepen_8 : decode cX6_deepen 8 = .ok (.iadd, 1) := by decide +kernel
theorem dX6_deepen_9 : decode cX6_deepen 9 = .ok (.invokestatic 287, 3) := by decide +kernel
theorem dX6_deepen_12 : decode cX6_deepen 12 = .ok (.iastore, 1) := by decide +kernel
theorem dX6_deepen_13 : decode cX6_deepen 13 = .ok (.return_, 1) := by decide +kernel
def f_X6_deepen_7 (p1 : Int32) (p2 : Int32) (S : gSt) : Option gSt :=
if gin p1 384 then
(if gin p1 384 then
gLet (gI S 7 p1.toNatClampNeg (if ((S.1 7 p1.toNatClampNeg) + p2) < (99 : Int32) then ((S.1 7 p1.toNatClampNeg) + p2) else (99 : Int32))) fun S3 =>
(some S3) else none) else none
set_option maxHeartbeats 4000000 in
set_option maxRecDepth 20000 in
theorem ok_X6_deepen_7 {p1 : Int32} {p2 : Int32} {S S0 : gSt}  (h : f_X6_deepen_7 p1 p2 S = some S0) : gCT yX6_deepen cX6_deepen 3 none 1 (fun w => [.ref (w.2.1 7), .int p1, .int p2]) S none S0 := by
  refine gEnter (fun X => [some (.ref (gad X 7)), some (.int p1), some (.int p2)]) (by decide) (fun X => ⟨rfl, rfl⟩) (fun w => Nat.le_of_ble_eq_true rfl) (fun X hp => ?_)
  show AW X RX6 1 cX6_deepen 0 [some (.ref (gad X 7)), some (.int p1), some (.int p2)] [] S
  unfold f_X6_deepen_7 at h
  refine a_aloadn (pc := 0) dX6_deepen_0 rfl rfl ?_
  refine a_iloadn (pc := 1) dX6_deepen_1 rfl rfl ?_
  refine a_bipush (pc := 2) (v := (99 : Int32)) dX6_deepen_2 (by decide) ?_
  refine a_aloadn (pc := 4) dX6_deepen_4 rfl rfl ?_
  refine a_iloadn (pc := 5) dX6_deepen_5 rfl rfl ?_
  obtain ⟨hi1, h⟩ := g_if h
  refine a_iald (pc := 6) sh_7 hi1 dX6_deepen_6 ?_
  refine a_iloadn (pc := 7) dX6_deepen_7 rfl rfl ?_
  refine a_iadd (pc := 8) dX6_deepen_8 ?_
  refine a_min (pc := 9) mlX6_287 (by decide) (Nat.le_of_ble_eq_true rfl) dX6_deepen_9 ?_
  obtain ⟨hi2, h⟩ := g_if h
  refine a_iast (pc := 12) sh_7 hi2 dX6_deepen_12 ?_
  obtain ⟨S3, eS3, h⟩ := g_let h
  refine a_nmS eS3 ?_
  obtain rfl := Option.some.inj h
  exact a_vret hp dX6_deepen_13
theorem dX0_stepTo_0 : decode cX0_stepTo 0 = .ok (.aload_n 0, 1) := by decide +kernel
theorem dX0_stepTo_1 : decode cX0_stepTo 1 = .ok (.getfield 21, 3) := by decide +kernel
theorem dX0_stepTo_4 : decode cX0_stepTo 4 = .ok (.iload_n 1, 1) := by decide +kernel
theorem dX0_stepTo_5 : decode cX0_stepTo 5 = .ok (.iaload, 1) := by decide +kernel
theorem dX0_stepTo_6 : decode cX0_stepTo 6 = .ok (.istore_n 3, 1) := by decide +kernel
theorem dX0_stepTo_7 : decode cX0_stepTo 7 = .ok (.aload_n 0, 1) := by decide +kernel
theorem dX0_stepTo_8 : decode cX0_stepTo 8 = .ok (.getfield 21, 3) := by decide +kernel
theorem dX0_stepTo_11 : decode cX0_stepTo 11 = .ok (.iload_n 1, 1) := by decide +kernel
theorem dX0_stepTo_12 : decode cX0_stepTo 12 = .ok (.iload_n 2, 1) := by decide +kernel
theorem dX0_stepTo_13 : decode cX0_stepTo 13 = .ok (.iastore, 1) := by decide +kernel
theorem dX0_stepTo_14 : decode cX0_stepTo 14 = .ok (.aload_n 0, 1) := by decide +kernel
theorem dX0_stepTo_15 : decode cX0_stepTo 15 = .ok (.getfield 24, 3) := by decide +kernel
theorem dX0_stepTo_18 : decode cX0_stepTo 18 = .ok (.iload_n 1, 1) := by decide +kernel
theorem dX0_stepTo_19 : decode cX0_stepTo 19 = .ok (.dup2, 1) := by decide +kernel
theorem dX0_stepTo_20 : decode cX0_stepTo 20 = .ok (.iaload, 1) := by decide +kernel
theorem dX0_stepTo_21 : decode cX0_stepTo 21 = .ok (.iconst 1, 1) := by decide +kernel
theorem dX0_stepTo_22 : decode cX0_stepTo 22 = .ok (.iadd, 1) := by decide +kernel
theorem dX0_stepTo_23 : decode cX0_stepTo 23 = .ok (.iastore, 1) := by decide +kernel
theorem dX0_stepTo_24 : decode cX0_stepTo 24 = .ok (.aload_n 0, 1) := by decide +kernel
theorem dX0_stepTo_25 : decode cX0_stepTo 25 = .ok (.getfield 15, 3) := by decide +kernel
theorem dX0_stepTo_28 : decode cX0_stepTo 28 = .ok (.iload_n 1, 1) := by decide +kernel
theorem dX0_stepTo_29 : decode cX0_stepTo 29 = .ok (.iaload, 1) := by decide +kernel
theorem dX0_stepTo_30 : decode cX0_stepTo 30 = .ok (.aload_n 0, 1) := by decide +kernel
theorem dX0_stepTo_31 : decode cX0_stepTo 31 = .ok (.getfield 24, 3) := by decide +kernel
theorem dX0_stepTo_34 : decode cX0_stepTo 34 = .ok (.iload_n 1, 1) := by decide +kernel
theorem dX0_stepTo_35 : decode cX0_stepTo 35 = .ok (.iaload, 1) := by decide +kernel
theorem dX0_stepTo_36 : decode cX0_stepTo 36 = .ok (.invokestatic 82, 3) := by decide +kernel
theorem dX0_stepTo_39 : decode cX0_stepTo 39 = .ok (.ifCond .eq 55, 3) := by decide +kernel
theorem dX0_stepTo_42 : decode cX0_stepTo 42 = .ok (.aload_n 0, 1) := by decide +kernel
theorem dX0_stepTo_43 : decode cX0_stepTo 43 = .ok (.iload_n 1, 1) := by decide +kernel
theorem dX0_stepTo_44 : decode cX0_stepTo 44 = .ok (.invokevirtual 86, 3) := by decide +kernel
theorem dX0_stepTo_47 : decode cX0_stepTo 47 = .ok (.bipush 64, 2) := by decide +kernel
theorem dX0_stepTo_49 : decode cX0_stepTo 49 = .ok (.imul, 1) := by decide +kernel
theorem dX0_stepTo_50 : decode cX0_stepTo 50 = .ok (.istore 4, 2) := by decide +kernel
theorem dX0_stepTo_52 : decode cX0_stepTo 52 = .ok (.aload_n 0, 1) := by decide +kernel
theorem dX0_stepTo_53 : decode cX0_stepTo 53 = .ok (.getfield 27, 3) := by decide +kernel
theorem dX0_stepTo_56 : decode cX0_stepTo 56 = .ok (.iload 4, 2) := by decide +kernel
theorem dX0_stepTo_58 : decode cX0_stepTo 58 = .ok (.iload_n 2, 1) := by decide +kernel
theorem dX0_stepTo_59 : decode cX0_stepTo 59 = .ok (.iadd, 1) := by decide +kernel
theorem dX0_stepTo_60 : decode cX0_stepTo 60 = .ok (.aload_n 0, 1) := by decide +kernel
theorem dX0_stepTo_61 : decode cX0_stepTo 61 = .ok (.iload_n 1, 1) := by decide +kernel
theorem dX0_stepTo_62 : decode cX0_stepTo 62 = .ok (.invokevirtual 90, 3) := by decide +kernel
theorem dX0_stepTo_65 : decode cX0_stepTo 65 = .ok (.invokestatic 93, 3) := by decide +kernel
theorem dX0_stepTo_68 : decode cX0_stepTo 68 = .ok (.aload_n 0, 1) := by decide +kernel
theorem dX0_stepTo_69 : decode cX0_stepTo 69 = .ok (.getfield 15, 3) := by decide +kernel
theorem dX0_stepTo_72 : decode cX0_stepTo 72 = .ok (.iload_n 1, 1) := by decide +kernel
theorem dX0_stepTo_73 : decode cX0_stepTo 73 = .ok (.iaload, 1) := by decide +kernel
theorem dX0_stepTo_74 : decode cX0_stepTo 74 = .ok (.iconst 3, 1) := by decide +kernel
theorem dX0_stepTo_75 : decode cX0_stepTo 75 = .ok (.if_icmp .ne 19, 3) := by decide +kernel
theorem dX0_stepTo_78 : decode cX0_stepTo 78 = .ok (.aload_n 0, 1) := by decide +kernel
theorem dX0_stepTo_79 : decode cX0_stepTo 79 = .ok (.getfield 27, 3) := by decide +kernel
theorem dX0_stepTo_82 : decode cX0_stepTo 82 = .ok (.iload 4, 2) := by decide +kernel
theorem dX0_stepTo_84 : decode cX0_stepTo 84 = .ok (.iload_n 3, 1) := by decide +kernel
theorem dX0_stepTo_85 : decode cX0_stepTo 85 = .ok (.iadd, 1) := by decide +kernel
theorem dX0_stepTo_86 : decode cX0_stepTo 86 = .ok (.aload_n 0, 1) := by decide +kernel
theorem dX0_stepTo_87 : decode cX0_stepTo 87 = .ok (.iload_n 1, 1) := by decide +kernel
theorem dX0_stepTo_88 : decode cX0_stepTo 88 = .ok (.invokevirtual 90, 3) := by decide +kernel
theorem dX0_stepTo_91 : decode cX0_stepTo 91 = .ok (.invokestatic 93, 3) := by decide +kernel
theorem dX0_stepTo_94 : decode cX0_stepTo 94 = .ok (.return_, 1) := by decide +kernel
def f_X0_stepTo (p1 : Int32) (p2 : Int32) (S : gSt) : Option gSt :=
if gin p1 6 then
(gLet (S.1 5 p1.toNatClampNeg) fun v2 =>
if gin p1 6 then
gLet (gI S 5 p1.toNatClampNeg p2) fun S4 =>
(if gin p1 6 then
(if gin p1 6 then
gLet (gI S4 6 p1.toNatClampNeg ((S4.1 6 p1.toNatClampNeg) + (1 : Int32))) fun S7 =>
(if gin p1 6 then
(if gin p1 6 then
(gBind2 (f_X6_comesDown (S7.1 3 p1.toNatClampNeg) (S7.1 6 p1.toNatClampNeg) S7) fun r12 S10 =>
(if r12 = 0 then
some S10
else
gBind2 (f_X0_shoesOf p1 S10) fun r16 S14 =>
gLet (r16 * (64 : Int32)) fun v17 =>
gBind2 (f_X0_treadOf p1 S14) fun r20 S18 =>
(f_X6_deepen_7 (v17 + p2) r20 S18).bind fun S21 =>
if gin p1 6 then
((if (S21.1 3 p1.toNatClampNeg) = (3 : Int32) then
gBind2 (f_X0_treadOf p1 S21) fun r27 S25 =>
(f_X6_deepen_7 (v17 + v2) r27 S25).bind fun S28 =>
some S28
else
some S21)) else none)) else none) else none) else none) else none) else none) else none
set_option maxHeartbeats 4000000 in
set_option maxRecDepth 20000 in
theorem ok_X0_stepTo {p1 : Int32} {p2 : Int32} {S S0 : gSt}  (h : f_X0_stepTo p1 p2 S = some S0) : gCT yX0_stepTo cX0_stepTo 5 none 2 (fun w => [.ref (w.2.1 1), .int p1, .int p2]) S none S0 := by
  refine gEnter (fun X => [some (.ref (gad X 1)), some (.int p1), some (.int p2), none, none]) (by decide) (fun X => ⟨rfl, rfl⟩) (fun w => Nat.le_of_ble_eq_true rfl) (fun X hp => ?_)
  show AW X RX0 2 cX0_stepTo 0 [some (.ref (gad X 1)), some (.int p1), some (.int p2), none, none] [] S
  unfold f_X0_stepTo at h
  refine a_aloadn (pc := 0) dX0_stepTo_0 rfl rfl ?_
  refine a_getA (pc := 1) flX0_21 sh_1 rfl dX0_stepTo_1 ?_
  refine a_iloadn (pc := 4) dX0_stepTo_4 rfl rfl ?_
  obtain ⟨hi1, h⟩ := g_if h
  refine a_iald (pc := 5) sh_5 hi1 dX0_stepTo_5 ?_
  obtain ⟨v2, ev2, h⟩ := g_let h
  refine a_nmI ev2 ?_
  refine a_istoren (pc := 6) dX0_stepTo_6 rfl (Nat.le_of_ble_eq_true rfl) rfl (L' := [some (.ref (gad X 1)), some (.int p1), some (.int p2), some (.int v2), none]) rfl ?_
  refine a_aloadn (pc := 7) dX0_stepTo_7 rfl rfl ?_
  refine a_getA (pc := 8) flX0_21 sh_1 rfl dX0_stepTo_8 ?_
  refine a_iloadn (pc := 11) dX0_stepTo_11 rfl rfl ?_
  refine a_iloadn (pc := 12) dX0_stepTo_12 rfl rfl ?_
  obtain ⟨hi3, h⟩ := g_if h
  refine a_iast (pc := 13) sh_5 hi3 dX0_stepTo_13 ?_
  obtain ⟨S4, eS4, h⟩ := g_let h
  refine a_nmS eS4 ?_
  refine a_aloadn (pc := 14) dX0_stepTo_14 rfl rfl ?_
  refine a_getA (pc := 15) flX0_24 sh_1 rfl dX0_stepTo_15 ?_
  refine a_iloadn (pc := 18) dX0_stepTo_18 rfl rfl ?_
  refine a_dup2 (pc := 19) dX0_stepTo_19 rfl rfl ?_
  obtain ⟨hi5, h⟩ := g_if h
  refine a_iald (pc := 20) sh_6 hi5 dX0_stepTo_20 ?_
  refine a_iconst (pc := 21) (v := (1 : Int32)) dX0_stepTo_21 (by decide) ?_
  refine a_iadd (pc := 22) dX0_stepTo_22 ?_
  obtain ⟨hi6, h⟩ := g_if h
  refine a_iast (pc := 23) sh_6 hi6 dX0_stepTo_23 ?_
  obtain ⟨S7, eS7, h⟩ := g_let h
  refine a_nmS eS7 ?_
  refine a_aloadn (pc := 24) dX0_stepTo_24 rfl rfl ?_
  refine a_getA (pc := 25) flX0_15 sh_1 rfl dX0_stepTo_25 ?_
  refine a_iloadn (pc := 28) dX0_stepTo_28 rfl rfl ?_
  obtain ⟨hi8, h⟩ := g_if h
  refine a_iald (pc := 29) sh_3 hi8 dX0_stepTo_29 ?_
  refine a_aloadn (pc := 30) dX0_stepTo_30 rfl rfl ?_
  refine a_getA (pc := 31) flX0_24 sh_1 rfl dX0_stepTo_31 ?_
  refine a_iloadn (pc := 34) dX0_stepTo_34 rfl rfl ?_
  obtain ⟨hi9, h⟩ := g_if h
  refine a_iald (pc := 35) sh_6 hi9 dX0_stepTo_35 ?_
  obtain ⟨r12, S10, hc11, h⟩ := g_bind2 h
  refine a_invSNi (pc := 36) (ok_X6_comesDown hc11) gyX6_comesDown syX6_comesDown mlX0_82 (As := [.int (S7.1 3 p1.toNatClampNeg), .int (S7.1 6 p1.toNatClampNeg)]) rfl rfl (by decide) (st := []) rfl (Nat.le_of_ble_eq_true rfl) dX0_stepTo_36 ?_
  refine a_if_eq (pc := 39) (tgt := 94) dX0_stepTo_39 (by decide) (fun c13 => ?_) (fun c13 => ?_)
  · rw [if_pos c13] at h
    obtain rfl := Option.some.inj h
    exact a_vret hp dX0_stepTo_94
  · rw [if_neg c13] at h
    refine a_aloadn (pc := 42) dX0_stepTo_42 rfl rfl ?_
    refine a_iloadn (pc := 43) dX0_stepTo_43 rfl rfl ?_
    obtain ⟨r16, S14, hc15, h⟩ := g_bind2 h
    refine a_invVi (pc := 44) (ok_X0_shoesOf hc15) gyX0_shoesOf vyX0_shoesOf mlX0_86 sh_1 rfl (As := [.int p1]) rfl rfl (by decide) (st := []) rfl (Nat.le_of_ble_eq_true rfl) dX0_stepTo_44 ?_
    refine a_bipush (pc := 47) (v := (64 : Int32)) dX0_stepTo_47 (by decide) ?_
    refine a_imul (pc := 49) dX0_stepTo_49 ?_
    obtain ⟨v17, ev17, h⟩ := g_let h
    refine a_nmI ev17 ?_
    refine a_istore (pc := 50) dX0_stepTo_50 (Nat.le_of_ble_eq_true rfl) rfl (L' := [some (.ref (gad X 1)), some (.int p1), some (.int p2), some (.int v2), some (.int v17)]) rfl ?_
    refine a_aloadn (pc := 52) dX0_stepTo_52 rfl rfl ?_
    refine a_getA (pc := 53) flX0_27 sh_1 rfl dX0_stepTo_53 ?_
    refine a_iload (pc := 56) dX0_stepTo_56 rfl ?_
    refine a_iloadn (pc := 58) dX0_stepTo_58 rfl rfl ?_
    refine a_iadd (pc := 59) dX0_stepTo_59 ?_
    refine a_aloadn (pc := 60) dX0_stepTo_60 rfl rfl ?_
    refine a_iloadn (pc := 61) dX0_stepTo_61 rfl rfl ?_
    obtain ⟨r20, S18, hc19, h⟩ := g_bind2 h
    refine a_invVi (pc := 62) (ok_X0_treadOf hc19) gyX0_treadOf vyX0_treadOf mlX0_90 sh_1 rfl (As := [.int p1]) rfl rfl (by decide) (st := [.int (v17 + p2), .ref (gad X 7)]) rfl (Nat.le_of_ble_eq_true rfl) dX0_stepTo_62 ?_
    obtain ⟨S21, hc22, h⟩ := g_bind h
    refine a_invSNv (pc := 65) (ok_X6_deepen_7 hc22) gyX6_deepen syX6_deepen mlX0_93 (As := [.ref (gad X 7), .int (v17 + p2), .int r20]) rfl rfl (by decide) (st := []) rfl (Nat.le_of_ble_eq_true rfl) dX0_stepTo_65 ?_
    refine a_aloadn (pc := 68) dX0_stepTo_68 rfl rfl ?_
    refine a_getA (pc := 69) flX0_15 sh_1 rfl dX0_stepTo_69 ?_
    refine a_iloadn (pc := 72) dX0_stepTo_72 rfl rfl ?_
    obtain ⟨hi23, h⟩ := g_if h
    refine a_iald (pc := 73) sh_3 hi23 dX0_stepTo_73 ?_
    refine a_iconst (pc := 74) (v := (3 : Int32)) dX0_stepTo_74 (by decide) ?_
    refine a_icmp_ne (pc := 75) (tgt := 94) dX0_stepTo_75 (by decide) (fun c24 => ?_) (fun c24 => ?_)
    · rw [if_neg c24] at h
      obtain rfl := Option.some.inj h
      exact a_vret hp dX0_stepTo_94
    · rw [if_pos c24] at h
      refine a_aloadn (pc := 78) dX0_stepTo_78 rfl rfl ?_
      refine a_getA (pc := 79) flX0_27 sh_1 rfl dX0_stepTo_79 ?_
      refine a_iload (pc := 82) dX0_stepTo_82 rfl ?_
      refine a_iloadn (pc := 84) dX0_stepTo_84 rfl rfl ?_
      refine a_iadd (pc := 85) dX0_stepTo_85 ?_
      refine a_aloadn (pc := 86) dX0_stepTo_86 rfl rfl ?_
      refine a_iloadn (pc := 87) dX0_stepTo_87 rfl rfl ?_
      obtain ⟨r27, S25, hc26, h⟩ := g_bind2 h
      refine a_invVi (pc := 88) (ok_X0_treadOf hc26) gyX0_treadOf vyX0_treadOf mlX0_90 sh_1 rfl (As := [.int p1]) rfl rfl (by decide) (st := [.int (v17 + v2), .ref (gad X 7)]) rfl (Nat.le_of_ble_eq_true rfl) dX0_stepTo_88 ?_
      obtain ⟨S28, hc29, h⟩ := g_bind h
      refine a_invSNv (pc := 91) (ok_X6_deepen_7 hc29) gyX6_deepen syX6_deepen mlX0_93 (As := [.ref (gad X 7), .int (v17 + v2), .int r27]) rfl rfl (by decide) (st := []) rfl (Nat.le_of_ble_eq_true rfl) dX0_stepTo_91 ?_
      obtain rfl := Option.some.inj h
      exact a_vret hp dX0_stepTo_94
theorem dX6_step_0 : decode cX6_step 0 = .ok (.aload_n 0, 1) := by decide +kernel
theorem dX6_step_1 : decode cX6_step 1 = .ok (.getfield 12, 3) := by decide +kernel
theorem dX6_step_4 : decode cX6_step 4 = .ok (.iload_n 1, 1) := by decide +kernel
theorem dX6_step_5 : decode cX6_step 5 = .ok (.invokevirtual 72, 3) := by decide +kernel
theorem dX6_step_8 : decode cX6_step 8 = .ok (.ifCond .eq 12, 3) := by decide +kernel
theorem dX6_step_11 : decode cX6_step 11 = .ok (.iload_n 2, 1) := by decide +kernel
theorem dX6_step_12 : decode cX6_step 12 = .ok (.ifCond .lt 8, 3) := by decide +kernel
theorem dX6_step_15 : decode cX6_step 15 = .ok (.iload_n 2, 1) := by decide +kernel
theorem dX6_step_16 : decode cX6_step 16 = .ok (.iconst 3, 1) := by decide +kernel
theorem dX6_step_17 : decode cX6_step 17 = .ok (.if_icmp .le 5, 3) := by decide +kernel
theorem dX6_step_20 : decode cX6_step 20 = .ok (.iconst (-1), 1) := by decide +kernel
theorem dX6_step_21 : decode cX6_step 21 = .ok (.ireturn, 1) := by decide +kernel
theorem dX6_step_22 : decode cX6_step 22 = .ok (.aload_n 0, 1) := by decide +kernel
theorem dX6_step_23 : decode cX6_step 23 = .ok (.getfield 12, 3) := by decide +kernel
theorem dX6_step_26 : decode cX6_step 26 = .ok (.getfield 82, 3) := by decide +kernel
theorem dX6_step_29 : decode cX6_step 29 = .ok (.iload_n 1, 1) := by decide +kernel
theorem dX6_step_30 : decode cX6_step 30 = .ok (.iaload, 1) := by decide +kernel
theorem dX6_step_31 : decode cX6_step 31 = .ok (.iload_n 2, 1) := by decide +kernel
theorem dX6_step_32 : decode cX6_step 32 = .ok (.invokestatic 147, 3) := by decide +kernel
theorem dX6_step_35 : decode cX6_step 35 = .ok (.istore_n 3, 1) := by decide +kernel
theorem dX6_step_36 : decode cX6_step 36 = .ok (.iload_n 3, 1) := by decide +kernel
theorem dX6_step_37 : decode cX6_step 37 = .ok (.ifCond .ge 6, 3) := by decide +kernel
theorem dX6_step_40 : decode cX6_step 40 = .ok (.bipush (-2), 2) := by decide +kernel
theorem dX6_step_42 : decode cX6_step 42 = .ok (.ireturn, 1) := by decide +kernel
theorem dX6_step_43 : decode cX6_step 43 = .ok (.aload_n 0, 1) := by decide +kernel
theorem dX6_step_44 : decode cX6_step 44 = .ok (.getfield 12, 3) := by decide +kernel
theorem dX6_step_47 : decode cX6_step 47 = .ok (.getfield 59, 3) := by decide +kernel
theorem dX6_step_50 : decode cX6_step 50 = .ok (.aload_n 0, 1) := by decide +kernel
theorem dX6_step_51 : decode cX6_step 51 = .ok (.getfield 12, 3) := by decide +kernel
theorem dX6_step_54 : decode cX6_step 54 = .ok (.invokevirtual 150, 3) := by decide +kernel
theorem dX6_step_57 : decode cX6_step 57 = .ok (.aload_n 0, 1) := by decide +kernel
theorem dX6_step_58 : decode cX6_step 58 = .ok (.getfield 12, 3) := by decide +kernel
theorem dX6_step_61 : decode cX6_step 61 = .ok (.iload_n 1, 1) := by decide +kernel
theorem dX6_step_62 : decode cX6_step 62 = .ok (.iload_n 3, 1) := by decide +kernel
theorem dX6_step_63 : decode cX6_step 63 = .ok (.invokevirtual 154, 3) := by decide +kernel
theorem dX6_step_66 : decode cX6_step 66 = .ok (.iload_n 3, 1) := by decide +kernel
theorem dX6_step_67 : decode cX6_step 67 = .ok (.ireturn, 1) := by decide +kernel
def f_X6_step (p1 : Int32) (p2 : Int32) (S : gSt) : Option (Int32 × gSt) :=
gBind2 (f_X0_has p1 S) fun r3 S1 =>
(if r3 = 0 then
some ((-1 : Int32), S1)
else
(if p2 < 0 then
some ((-1 : Int32), S1)
else
(if p2 ≤ (3 : Int32) then
if gin p1 6 then
(gBind2 (f_X6_beside (S1.1 5 p1.toNatClampNeg) p2 S1) fun r10 S8 =>
(if 0 ≤ r10 then
(f_X1_keep S8).bind fun S12 =>
(f_X0_stepTo p1 r10 S12).bind fun S14 =>
some (r10, S14)
else
some ((-2 : Int32), S8))) else none
else
some ((-1 : Int32), S1))))
set_option maxHeartbeats 4000000 in
set_option maxRecDepth 20000 in
theorem ok_X6_step {p1 : Int32} {p2 : Int32} {S S0 : gSt} {r0 : Int32}  (h : f_X6_step p1 p2 S = some (r0, S0)) : gCT yX6_step cX6_step 4 (some .int) 3 (fun w => [.ref (w.2.1 0), .int p1, .int p2]) S (some (.int r0)) S0 := by
  refine gEnter (fun X => [some (.ref (gad X 0)), some (.int p1), some (.int p2), none]) (by decide) (fun X => ⟨rfl, rfl⟩) (fun w => Nat.le_of_ble_eq_true rfl) (fun X hp => ?_)
  show AW X RX6 3 cX6_step 0 [some (.ref (gad X 0)), some (.int p1), some (.int p2), none] [] S
  unfold f_X6_step at h
  refine a_aloadn (pc := 0) dX6_step_0 rfl rfl ?_
  refine a_getA (pc := 1) flX6_12 sh_0 rfl dX6_step_1 ?_
  refine a_iloadn (pc := 4) dX6_step_4 rfl rfl ?_
  obtain ⟨r3, S1, hc2, h⟩ := g_bind2 h
  refine a_invVi (pc := 5) (ok_X0_has hc2) gyX0_has vyX0_has mlX6_72 sh_1 rfl (As := [.int p1]) rfl rfl (by decide) (st := []) rfl (Nat.le_of_ble_eq_true rfl) dX6_step_5 ?_
  refine a_if_eq (pc := 8) (tgt := 20) dX6_step_8 (by decide) (fun c4 => ?_) (fun c4 => ?_)
  · rw [if_pos c4] at h
    refine a_iconst (pc := 20) (v := (-1 : Int32)) dX6_step_20 (by decide) ?_
    obtain ⟨rfl, rfl⟩ := Prod.mk.inj (Option.some.inj h)
    exact a_iret hp dX6_step_21
  · rw [if_neg c4] at h
    refine a_iloadn (pc := 11) dX6_step_11 rfl rfl ?_
    refine a_if_lt (pc := 12) (tgt := 20) dX6_step_12 (by decide) (fun c5 => ?_) (fun c5 => ?_)
    · rw [if_pos c5] at h
      refine a_iconst (pc := 20) (v := (-1 : Int32)) dX6_step_20 (by decide) ?_
      obtain ⟨rfl, rfl⟩ := Prod.mk.inj (Option.some.inj h)
      exact a_iret hp dX6_step_21
    · rw [if_neg c5] at h
      refine a_iloadn (pc := 15) dX6_step_15 rfl rfl ?_
      refine a_iconst (pc := 16) (v := (3 : Int32)) dX6_step_16 (by decide) ?_
      refine a_icmp_le (pc := 17) (tgt := 22) dX6_step_17 (by decide) (fun c6 => ?_) (fun c6 => ?_)
      · rw [if_pos c6] at h
        refine a_aloadn (pc := 22) dX6_step_22 rfl rfl ?_
        refine a_getA (pc := 23) flX6_12 sh_0 rfl dX6_step_23 ?_
        refine a_getA (pc := 26) flX6_82 sh_1 rfl dX6_step_26 ?_
        refine a_iloadn (pc := 29) dX6_step_29 rfl rfl ?_
        obtain ⟨hi7, h⟩ := g_if h
        refine a_iald (pc := 30) sh_5 hi7 dX6_step_30 ?_
        refine a_iloadn (pc := 31) dX6_step_31 rfl rfl ?_
        obtain ⟨r10, S8, hc9, h⟩ := g_bind2 h
        refine a_invSi (pc := 32) (ok_X6_beside hc9) gyX6_beside syX6_beside mlX6_147 (As := [.int (S1.1 5 p1.toNatClampNeg), .int p2]) rfl rfl (by decide) (st := []) rfl (Nat.le_of_ble_eq_true rfl) dX6_step_32 ?_
        refine a_istoren (pc := 35) dX6_step_35 rfl (Nat.le_of_ble_eq_true rfl) rfl (L' := [some (.ref (gad X 0)), some (.int p1), some (.int p2), some (.int r10)]) rfl ?_
        refine a_iloadn (pc := 36) dX6_step_36 rfl rfl ?_
        refine a_if_ge (pc := 37) (tgt := 43) dX6_step_37 (by decide) (fun c11 => ?_) (fun c11 => ?_)
        · rw [if_pos c11] at h
          refine a_aloadn (pc := 43) dX6_step_43 rfl rfl ?_
          refine a_getA (pc := 44) flX6_12 sh_0 rfl dX6_step_44 ?_
          refine a_getA (pc := 47) flX6_59 sh_1 rfl dX6_step_47 ?_
          refine a_aloadn (pc := 50) dX6_step_50 rfl rfl ?_
          refine a_getA (pc := 51) flX6_12 sh_0 rfl dX6_step_51 ?_
          obtain ⟨S12, hc13, h⟩ := g_bind h
          refine a_invVv (pc := 54) (ok_X1_keep hc13) gyX1_keep vyX1_keep mlX6_150 sh_8 rfl (As := [.ref (gad X 1)]) rfl rfl (by decide) (st := []) rfl (Nat.le_of_ble_eq_true rfl) dX6_step_54 ?_
          refine a_aloadn (pc := 57) dX6_step_57 rfl rfl ?_
          refine a_getA (pc := 58) flX6_12 sh_0 rfl dX6_step_58 ?_
          refine a_iloadn (pc := 61) dX6_step_61 rfl rfl ?_
          refine a_iloadn (pc := 62) dX6_step_62 rfl rfl ?_
          obtain ⟨S14, hc15, h⟩ := g_bind h
          refine a_invVv (pc := 63) (ok_X0_stepTo hc15) gyX0_stepTo vyX0_stepTo mlX6_154 sh_1 rfl (As := [.int p1, .int r10]) rfl rfl (by decide) (st := []) rfl (Nat.le_of_ble_eq_true rfl) dX6_step_63 ?_
          refine a_iloadn (pc := 66) dX6_step_66 rfl rfl ?_
          obtain ⟨rfl, rfl⟩ := Prod.mk.inj (Option.some.inj h)
          exact a_iret hp dX6_step_67
        · rw [if_neg c11] at h
          refine a_bipush (pc := 40) (v := (-2 : Int32)) dX6_step_40 (by decide) ?_
          obtain ⟨rfl, rfl⟩ := Prod.mk.inj (Option.some.inj h)
          exact a_iret hp dX6_step_42
      · rw [if_neg c6] at h
        refine a_iconst (pc := 20) (v := (-1 : Int32)) dX6_step_20 (by decide) ?_
        obtain ⟨rfl, rfl⟩ := Prod.mk.inj (Option.some.inj h)
        exact a_iret hp dX6_step_21
theorem dX6_hoursFault_0 : decode cX6_hoursFault 0 = .ok (.iload_n 1, 1) := by decide +kernel
theorem dX6_hoursFault_1 : decode cX6_hoursFault 1 = .ok (.iconst 1, 1) := by decide +kernel
theorem dX6_hoursFault_2 : decode cX6_hoursFault 2 = .ok (.if_icmp .lt 9, 3) := by decide +kernel
theorem dX6_hoursFault_5 : decode cX6_hoursFault 5 = .ok (.iload_n 1, 1) := by decide +kernel
theorem dX6_hoursFault_6 : decode cX6_hoursFault 6 = .ok (.bipush 24, 2) := by decide +kernel
theorem dX6_hoursFault_8 : decode cX6_hoursFault 8 = .ok (.if_icmp .le 5, 3) := by decide +kernel
theorem dX6_hoursFault_11 : decode cX6_hoursFault 11 = .ok (.iconst (-1), 1) := by decide +kernel
theorem dX6_hoursFault_12 : decode cX6_hoursFault 12 = .ok (.ireturn, 1) := by decide +kernel
theorem dX6_hoursFault_13 : decode cX6_hoursFault 13 = .ok (.aload_n 0, 1) := by decide +kernel
theorem dX6_hoursFault_14 : decode cX6_hoursFault 14 = .ok (.getfield 12, 3) := by decide +kernel
theorem dX6_hoursFault_17 : decode cX6_hoursFault 17 = .ok (.getfield 135, 3) := by decide +kernel
theorem dX6_hoursFault_20 : decode cX6_hoursFault 20 = .ok (.sipush 9999, 3) := by decide +kernel
theorem dX6_hoursFault_23 : decode cX6_hoursFault 23 = .ok (.iload_n 1, 1) := by decide +kernel
theorem dX6_hoursFault_24 : decode cX6_hoursFault 24 = .ok (.isub, 1) := by decide +kernel
theorem dX6_hoursFault_25 : decode cX6_hoursFault 25 = .ok (.if_icmp .le 8, 3) := by decide +kernel
theorem dX6_hoursFault_28 : decode cX6_hoursFault 28 = .ok (.bipush (-3), 2) := by decide +kernel
theorem dX6_hoursFault_30 : decode cX6_hoursFault 30 = .ok (.goto 4, 3) := by decide +kernel
theorem dX6_hoursFault_33 : decode cX6_hoursFault 33 = .ok (.iconst 0, 1) := by decide +kernel
theorem dX6_hoursFault_34 : decode cX6_hoursFault 34 = .ok (.ireturn, 1) := by decide +kernel
def f_X6_hoursFault (p1 : Int32) (S : gSt) : Option (Int32 × gSt) :=
(if p1 < (1 : Int32) then
some ((-1 : Int32), S)
else
(if p1 ≤ (24 : Int32) then
(if (S.1 1 8) ≤ ((9999 : Int32) - p1) then
some ((0 : Int32), S)
else
some ((-3 : Int32), S))
else
some ((-1 : Int32), S)))
set_option maxHeartbeats 4000000 in
set_option maxRecDepth 20000 in
theorem ok_X6_hoursFault {p1 : Int32} {S S0 : gSt} {r0 : Int32}  (h : f_X6_hoursFault p1 S = some (r0, S0)) : gCT yX6_hoursFault cX6_hoursFault 2 (some .int) 0 (fun w => [.ref (w.2.1 0), .int p1]) S (some (.int r0)) S0 := by
  refine gEnter (fun X => [some (.ref (gad X 0)), some (.int p1)]) (by decide) (fun X => ⟨rfl, rfl⟩) (fun w => Nat.le_of_ble_eq_true rfl) (fun X hp => ?_)
  show AW X RX6 0 cX6_hoursFault 0 [some (.ref (gad X 0)), some (.int p1)] [] S
  unfold f_X6_hoursFault at h
  refine a_iloadn (pc := 0) dX6_hoursFault_0 rfl rfl ?_
  refine a_iconst (pc := 1) (v := (1 : Int32)) dX6_hoursFault_1 (by decide) ?_
  refine a_icmp_lt (pc := 2) (tgt := 11) dX6_hoursFault_2 (by decide) (fun c1 => ?_) (fun c1 => ?_)
  · rw [if_pos c1] at h
    refine a_iconst (pc := 11) (v := (-1 : Int32)) dX6_hoursFault_11 (by decide) ?_
    obtain ⟨rfl, rfl⟩ := Prod.mk.inj (Option.some.inj h)
    exact a_iret hp dX6_hoursFault_12
  · rw [if_neg c1] at h
    refine a_iloadn (pc := 5) dX6_hoursFault_5 rfl rfl ?_
    refine a_bipush (pc := 6) (v := (24 : Int32)) dX6_hoursFault_6 (by decide) ?_
    refine a_icmp_le (pc := 8) (tgt := 13) dX6_hoursFault_8 (by decide) (fun c2 => ?_) (fun c2 => ?_)
    · rw [if_pos c2] at h
      refine a_aloadn (pc := 13) dX6_hoursFault_13 rfl rfl ?_
      refine a_getA (pc := 14) flX6_12 sh_0 rfl dX6_hoursFault_14 ?_
      refine a_getI (pc := 17) flX6_135 sh_1 rfl dX6_hoursFault_17 ?_
      refine a_sipush (pc := 20) (v := (9999 : Int32)) dX6_hoursFault_20 (by decide) ?_
      refine a_iloadn (pc := 23) dX6_hoursFault_23 rfl rfl ?_
      refine a_isub (pc := 24) dX6_hoursFault_24 ?_
      refine a_icmp_le (pc := 25) (tgt := 33) dX6_hoursFault_25 (by decide) (fun c3 => ?_) (fun c3 => ?_)
      · rw [if_pos c3] at h
        refine a_iconst (pc := 33) (v := (0 : Int32)) dX6_hoursFault_33 (by decide) ?_
        obtain ⟨rfl, rfl⟩ := Prod.mk.inj (Option.some.inj h)
        exact a_iret hp dX6_hoursFault_34
      · rw [if_neg c3] at h
        refine a_bipush (pc := 28) (v := (-3 : Int32)) dX6_hoursFault_28 (by decide) ?_
        refine a_goto (pc := 30) (tgt := 34) dX6_hoursFault_30 (by decide) ?_
        obtain ⟨rfl, rfl⟩ := Prod.mk.inj (Option.some.inj h)
        exact a_iret hp dX6_hoursFault_34
    · rw [if_neg c2] at h
      refine a_iconst (pc := 11) (v := (-1 : Int32)) dX6_hoursFault_11 (by decide) ?_
      obtain ⟨rfl, rfl⟩ := Prod.mk.inj (Option.some.inj h)
      exact a_iret hp dX6_hoursFault_12
theorem dX0_passHour_0 : decode cX0_passHour 0 = .ok (.iconst 0, 1) := by decide +kernel
theorem dX0_passHour_1 : decode cX0_passHour 1 = .ok (.istore_n 1, 1) := by decide +kernel
theorem dX0_passHour_2 : decode cX0_passHour 2 = .ok (.iload_n 1, 1) := by decide +kernel
theorem dX0_passHour_3 : decode cX0_passHour 3 = .ok (.aload_n 0, 1) := by decide +kernel
theorem dX0_passHour_4 : decode cX0_passHour 4 = .ok (.getfield 37, 3) := by decide +kernel
theorem dX0_passHour_7 : decode cX0_passHour 7 = .ok (.bipush 64, 2) := by decide +kernel
theorem dX0_passHour_9 : decode cX0_passHour 9 = .ok (.imul, 1) := by decide +kernel
theorem dX0_passHour_10 : decode cX0_passHour 10 = .ok (.if_icmp .ge 39, 3) := by decide +kernel
theorem dX0_passHour_13 : decode cX0_passHour 13 = .ok (.aload_n 0, 1) := by decide +kernel
theorem dX0_passHour_14 : decode cX0_passHour 14 = .ok (.getfield 27, 3) := by decide +kernel
theorem dX0_passHour_17 : decode cX0_passHour 17 = .ok (.iload_n 1, 1) := by decide +kernel
theorem dX0_passHour_18 : decode cX0_passHour 18 = .ok (.iaload, 1) := by decide +kernel
theorem dX0_passHour_19 : decode cX0_passHour 19 = .ok (.ifCond .le 24, 3) := by decide +kernel
theorem dX0_passHour_22 : decode cX0_passHour 22 = .ok (.aload_n 0, 1) := by decide +kernel
theorem dX0_passHour_23 : decode cX0_passHour 23 = .ok (.getfield 27, 3) := by decide +kernel
theorem dX0_passHour_26 : decode cX0_passHour 26 = .ok (.iload_n 1, 1) := by decide +kernel
theorem dX0_passHour_27 : decode cX0_passHour 27 = .ok (.aload_n 0, 1) := by decide +kernel
theorem dX0_passHour_28 : decode cX0_passHour 28 = .ok (.aload_n 0, 1) := by decide +kernel
theorem dX0_passHour_29 : decode cX0_passHour 29 = .ok (.getfield 27, 3) := by decide +kernel
theorem dX0_passHour_32 : decode cX0_passHour 32 = .ok (.iload_n 1, 1) := by decide +kernel
theorem dX0_passHour_33 : decode cX0_passHour 33 = .ok (.iaload, 1) := by decide +kernel
theorem dX0_passHour_34 : decode cX0_passHour 34 = .ok (.iload_n 1, 1) := by decide +kernel
theorem dX0_passHour_35 : decode cX0_passHour 35 = .ok (.bipush 64, 2) := by decide +kernel
theorem dX0_passHour_37 : decode cX0_passHour 37 = .ok (.irem, 1) := by decide +kernel
theorem dX0_passHour_38 : decode cX0_passHour 38 = .ok (.iconst 1, 1) := by decide +kernel
theorem dX0_passHour_39 : decode cX0_passHour 39 = .ok (.invokevirtual 97, 3) := by decide +kernel
theorem dX0_passHour_42 : decode cX0_passHour 42 = .ok (.iastore, 1) := by decide +kernel
theorem dX0_passHour_43 : decode cX0_passHour 43 = .ok (.iinc 1 1, 3) := by decide +kernel
theorem dX0_passHour_46 : decode cX0_passHour 46 = .ok (.goto (-44), 3) := by decide +kernel
theorem dX0_passHour_49 : decode cX0_passHour 49 = .ok (.aload_n 0, 1) := by decide +kernel
theorem dX0_passHour_50 : decode cX0_passHour 50 = .ok (.dup, 1) := by decide +kernel
theorem dX0_passHour_51 : decode cX0_passHour 51 = .ok (.getfield 41, 3) := by decide +kernel
theorem dX0_passHour_54 : decode cX0_passHour 54 = .ok (.iconst 1, 1) := by decide +kernel
theorem dX0_passHour_55 : decode cX0_passHour 55 = .ok (.iadd, 1) := by decide +kernel
theorem dX0_passHour_56 : decode cX0_passHour 56 = .ok (.putfield 41, 3) := by decide +kernel
theorem dX0_passHour_59 : decode cX0_passHour 59 = .ok (.return_, 1) := by decide +kernel
def f_X0_passHour_s2_b (x1 : Int32) (S : gSt) : Option ((Int32 × gSt) ⊕ (gSt)) :=
(if ((S.1 1 7) * (64 : Int32)) ≤ x1 then
some (.inr (S))
else
if gin x1 384 then
((if (S.1 7 x1.toNatClampNeg) ≤ 0 then
some (.inl (x1 + (1 : Int32), S))
else
if gin x1 384 then
(gBind2 (f_X0_depthBehind (S.1 7 x1.toNatClampNeg) (x1 - x1 / (64 : Int32) * (64 : Int32)) (1 : Int32) S) fun r7 S5 =>
if gin x1 384 then
gLet (gI S5 7 x1.toNatClampNeg r7) fun S9 =>
(some (.inl (x1 + (1 : Int32), S9))) else none) else none)) else none)
def f_X0_passHour_s2 : (Int32 × gSt) → Option ((Int32 × gSt) ⊕ (gSt)) := fun t => f_X0_passHour_s2_b t.1 t.2
def f_X0_passHour (S : gSt) : Option gSt :=
(gLoop (f_X0_passHour_s2) gFuel ((0 : Int32), S)).bind fun q10 => match q10 with
| S10 =>
gLet (gI S10 1 8 ((S10.1 1 8) + (1 : Int32))) fun S11 =>
some S11
set_option maxHeartbeats 4000000 in
set_option maxRecDepth 20000 in
theorem ok_X0_passHour {S S0 : gSt}  (h : f_X0_passHour S = some S0) : gCT yX0_passHour cX0_passHour 2 none 2 (fun w => [.ref (w.2.1 1)]) S none S0 := by
  refine gEnter (fun X => [some (.ref (gad X 1)), none]) (by decide) (fun X => ⟨rfl, rfl⟩) (fun w => Nat.le_of_ble_eq_true rfl) (fun X hp => ?_)
  show AW X RX0 2 cX0_passHour 0 [some (.ref (gad X 1)), none] [] S
  unfold f_X0_passHour at h
  refine a_iconst (pc := 0) (v := (0 : Int32)) dX0_passHour_0 (by decide) ?_
  refine a_istoren (pc := 1) dX0_passHour_1 rfl (Nat.le_of_ble_eq_true rfl) rfl (L' := [some (.ref (gad X 1)), some (.int (0 : Int32))]) rfl ?_
  obtain ⟨R10, hR10, h⟩ := g_bind h
  have E2 : ∀  (S10 : gSt), (gLet (gI S10 1 8 ((S10.1 1 8) + (1 : Int32))) fun S11 => some S11) = some S0 → AW X RX0 2 cX0_passHour 49 [some (.ref (gad X 1)), none] [] S10 := by
    intro S10 h
    refine a_aloadn (pc := 49) dX0_passHour_49 rfl rfl ?_
    refine a_dup (pc := 50) dX0_passHour_50 rfl ?_
    refine a_getI (pc := 51) flX0_41 sh_1 rfl dX0_passHour_51 ?_
    refine a_iconst (pc := 54) (v := (1 : Int32)) dX0_passHour_54 (by decide) ?_
    refine a_iadd (pc := 55) dX0_passHour_55 ?_
    refine a_putI (pc := 56) flX0_41 sh_1 rfl rfl rfl dX0_passHour_56 ?_
    obtain ⟨S11, eS11, h⟩ := g_let h
    refine a_nmS eS11 ?_
    obtain rfl := Option.some.inj h
    exact a_vret hp dX0_passHour_59
  have lp : ∀ (n : Nat) (x1 : Int32) (S : gSt), gLoop (f_X0_passHour_s2) n (x1, S) = some R10 → AW X RX0 2 cX0_passHour 2 [some (.ref (gad X 1)), some (.int x1)] [] S := by
    intro n
    induction n with
    | zero => intro x1 S hR; cases hR
    | succ n ih =>
      intro x1 S hR
      obtain ⟨q, hs, hR⟩ := g_bind hR
      have hs : f_X0_passHour_s2_b x1 S = some q := hs
      unfold f_X0_passHour_s2_b at hs
      refine a_iloadn (pc := 2) dX0_passHour_2 rfl rfl ?_
      refine a_aloadn (pc := 3) dX0_passHour_3 rfl rfl ?_
      refine a_getI (pc := 4) flX0_37 sh_1 rfl dX0_passHour_4 ?_
      refine a_bipush (pc := 7) (v := (64 : Int32)) dX0_passHour_7 (by decide) ?_
      refine a_imul (pc := 9) dX0_passHour_9 ?_
      refine a_icmp_ge (pc := 10) (tgt := 49) dX0_passHour_10 (by decide) (fun c1 => ?_) (fun c1 => ?_)
      · rw [if_pos c1] at hs
        obtain rfl := Option.some.inj hs
        obtain rfl := Option.some.inj hR
        refine a_mask [true, false] (L' := [some (.ref (gad X 1)), none]) rfl ?_
        exact E2  _ h
      · rw [if_neg c1] at hs
        refine a_aloadn (pc := 13) dX0_passHour_13 rfl rfl ?_
        refine a_getA (pc := 14) flX0_27 sh_1 rfl dX0_passHour_14 ?_
        refine a_iloadn (pc := 17) dX0_passHour_17 rfl rfl ?_
        obtain ⟨hi2, hs⟩ := g_if hs
        refine a_iald (pc := 18) sh_7 hi2 dX0_passHour_18 ?_
        refine a_if_le (pc := 19) (tgt := 43) dX0_passHour_19 (by decide) (fun c3 => ?_) (fun c3 => ?_)
        · rw [if_pos c3] at hs
          refine a_iinc (pc := 43) dX0_passHour_43 rfl (v := x1 + (1 : Int32)) rfl (Nat.le_of_ble_eq_true rfl) rfl (L' := [some (.ref (gad X 1)), some (.int (x1 + (1 : Int32)))]) rfl ?_
          refine a_goto (pc := 46) (tgt := 2) dX0_passHour_46 (by decide) ?_
          obtain rfl := Option.some.inj hs
          exact ih _ _ hR
        · rw [if_neg c3] at hs
          refine a_aloadn (pc := 22) dX0_passHour_22 rfl rfl ?_
          refine a_getA (pc := 23) flX0_27 sh_1 rfl dX0_passHour_23 ?_
          refine a_iloadn (pc := 26) dX0_passHour_26 rfl rfl ?_
          refine a_aloadn (pc := 27) dX0_passHour_27 rfl rfl ?_
          refine a_aloadn (pc := 28) dX0_passHour_28 rfl rfl ?_
          refine a_getA (pc := 29) flX0_27 sh_1 rfl dX0_passHour_29 ?_
          refine a_iloadn (pc := 32) dX0_passHour_32 rfl rfl ?_
          obtain ⟨hi4, hs⟩ := g_if hs
          refine a_iald (pc := 33) sh_7 hi4 dX0_passHour_33 ?_
          refine a_iloadn (pc := 34) dX0_passHour_34 rfl rfl ?_
          refine a_bipush (pc := 35) (v := (64 : Int32)) dX0_passHour_35 (by decide) ?_
          refine a_irem (pc := 37) dX0_passHour_37 (by decide) ?_
          refine a_iconst (pc := 38) (v := (1 : Int32)) dX0_passHour_38 (by decide) ?_
          obtain ⟨r7, S5, hc6, hs⟩ := g_bind2 hs
          refine a_invVi (pc := 39) (ok_X0_depthBehind hc6) gyX0_depthBehind vyX0_depthBehind mlX0_97 sh_1 rfl (As := [.int (S.1 7 x1.toNatClampNeg), .int (x1 - x1 / (64 : Int32) * (64 : Int32)), .int (1 : Int32)]) rfl rfl (by decide) (st := [.int x1, .ref (gad X 7)]) rfl (Nat.le_of_ble_eq_true rfl) dX0_passHour_39 ?_
          obtain ⟨hi8, hs⟩ := g_if hs
          refine a_iast (pc := 42) sh_7 hi8 dX0_passHour_42 ?_
          obtain ⟨S9, eS9, hs⟩ := g_let hs
          refine a_nmS eS9 ?_
          refine a_iinc (pc := 43) dX0_passHour_43 rfl (v := x1 + (1 : Int32)) rfl (Nat.le_of_ble_eq_true rfl) rfl (L' := [some (.ref (gad X 1)), some (.int (x1 + (1 : Int32)))]) rfl ?_
          refine a_goto (pc := 46) (tgt := 2) dX0_passHour_46 (by decide) ?_
          obtain rfl := Option.some.inj hs
          exact ih _ _ hR
  exact lp _ _ _ hR10
theorem dX6_hours_0 : decode cX6_hours 0 = .ok (.aload_n 0, 1) := by decide +kernel
theorem dX6_hours_1 : decode cX6_hours 1 = .ok (.iload_n 1, 1) := by decide +kernel
theorem dX6_hours_2 : decode cX6_hours 2 = .ok (.invokevirtual 158, 3) := by decide +kernel
theorem dX6_hours_5 : decode cX6_hours 5 = .ok (.istore_n 2, 1) := by decide +kernel
theorem dX6_hours_6 : decode cX6_hours 6 = .ok (.iload_n 2, 1) := by decide +kernel
theorem dX6_hours_7 : decode cX6_hours 7 = .ok (.ifCond .ge 5, 3) := by decide +kernel
theorem dX6_hours_10 : decode cX6_hours 10 = .ok (.iload_n 2, 1) := by decide +kernel
theorem dX6_hours_11 : decode cX6_hours 11 = .ok (.ireturn, 1) := by decide +kernel
theorem dX6_hours_12 : decode cX6_hours 12 = .ok (.iconst 0, 1) := by decide +kernel
theorem dX6_hours_13 : decode cX6_hours 13 = .ok (.istore_n 3, 1) := by decide +kernel
theorem dX6_hours_14 : decode cX6_hours 14 = .ok (.iload_n 3, 1) := by decide +kernel
theorem dX6_hours_15 : decode cX6_hours 15 = .ok (.iload_n 1, 1) := by decide +kernel
theorem dX6_hours_16 : decode cX6_hours 16 = .ok (.if_icmp .ge 30, 3) := by decide +kernel
theorem dX6_hours_19 : decode cX6_hours 19 = .ok (.aload_n 0, 1) := by decide +kernel
theorem dX6_hours_20 : decode cX6_hours 20 = .ok (.getfield 12, 3) := by decide +kernel
theorem dX6_hours_23 : decode cX6_hours 23 = .ok (.getfield 59, 3) := by decide +kernel
theorem dX6_hours_26 : decode cX6_hours 26 = .ok (.aload_n 0, 1) := by decide +kernel
theorem dX6_hours_27 : decode cX6_hours 27 = .ok (.getfield 12, 3) := by decide +kernel
theorem dX6_hours_30 : decode cX6_hours 30 = .ok (.invokevirtual 150, 3) := by decide +kernel
theorem dX6_hours_33 : decode cX6_hours 33 = .ok (.aload_n 0, 1) := by decide +kernel
theorem dX6_hours_34 : decode cX6_hours 34 = .ok (.getfield 12, 3) := by decide +kernel
theorem dX6_hours_37 : decode cX6_hours 37 = .ok (.invokevirtual 161, 3) := by decide +kernel
theorem dX6_hours_40 : decode cX6_hours 40 = .ok (.iinc 3 1, 3) := by decide +kernel
theorem dX6_hours_43 : decode cX6_hours 43 = .ok (.goto (-29), 3) := by decide +kernel
theorem dX6_hours_46 : decode cX6_hours 46 = .ok (.aload_n 0, 1) := by decide +kernel
theorem dX6_hours_47 : decode cX6_hours 47 = .ok (.getfield 39, 3) := by decide +kernel
theorem dX6_hours_50 : decode cX6_hours 50 = .ok (.aload_n 0, 1) := by decide +kernel
theorem dX6_hours_51 : decode cX6_hours 51 = .ok (.getfield 12, 3) := by decide +kernel
theorem dX6_hours_54 : decode cX6_hours 54 = .ok (.iconst 0, 1) := by decide +kernel
theorem dX6_hours_55 : decode cX6_hours 55 = .ok (.invokevirtual 95, 3) := by decide +kernel
theorem dX6_hours_58 : decode cX6_hours 58 = .ok (.aload_n 0, 1) := by decide +kernel
theorem dX6_hours_59 : decode cX6_hours 59 = .ok (.getfield 39, 3) := by decide +kernel
theorem dX6_hours_62 : decode cX6_hours 62 = .ok (.getfield 141, 3) := by decide +kernel
theorem dX6_hours_65 : decode cX6_hours 65 = .ok (.ireturn, 1) := by decide +kernel
def f_X6_hours_s14_b (x1 : Int32) (x3 : Int32) (S : gSt) : Option ((Int32 × Int32 × gSt) ⊕ (gSt)) :=
(if x1 ≤ x3 then
some (.inr (S))
else
(f_X1_keep S).bind fun S6 =>
(f_X0_passHour S6).bind fun S8 =>
some (.inl (x1, x3 + (1 : Int32), S8)))
def f_X6_hours_s14 : (Int32 × Int32 × gSt) → Option ((Int32 × Int32 × gSt) ⊕ (gSt)) := fun t => f_X6_hours_s14_b t.1 t.2.1 t.2.2
def f_X6_hours (p1 : Int32) (S : gSt) : Option (Int32 × gSt) :=
gBind2 (f_X6_hoursFault p1 S) fun r3 S1 =>
(if 0 ≤ r3 then
(gLoop (f_X6_hours_s14) gFuel (p1, (0 : Int32), S1)).bind fun q10 => match q10 with
| S10 =>
(f_X3_look (0 : Int32) S10).bind fun S11 =>
some (S11.1 41 2, S11)
else
some (r3, S1))
set_option maxHeartbeats 4000000 in
set_option maxRecDepth 20000 in
theorem ok_X6_hours {p1 : Int32} {S S0 : gSt} {r0 : Int32}  (h : f_X6_hours p1 S = some (r0, S0)) : gCT yX6_hours cX6_hours 4 (some .int) 4 (fun w => [.ref (w.2.1 0), .int p1]) S (some (.int r0)) S0 := by
  refine gEnter (fun X => [some (.ref (gad X 0)), some (.int p1), none, none]) (by decide) (fun X => ⟨rfl, rfl⟩) (fun w => Nat.le_of_ble_eq_true rfl) (fun X hp => ?_)
  show AW X RX6 4 cX6_hours 0 [some (.ref (gad X 0)), some (.int p1), none, none] [] S
  unfold f_X6_hours at h
  refine a_aloadn (pc := 0) dX6_hours_0 rfl rfl ?_
  refine a_iloadn (pc := 1) dX6_hours_1 rfl rfl ?_
  obtain ⟨r3, S1, hc2, h⟩ := g_bind2 h
  refine a_invVi (pc := 2) (ok_X6_hoursFault hc2) gyX6_hoursFault vyX6_hoursFault mlX6_158 sh_0 rfl (As := [.int p1]) rfl rfl (by decide) (st := []) rfl (Nat.le_of_ble_eq_true rfl) dX6_hours_2 ?_
  refine a_istoren (pc := 5) dX6_hours_5 rfl (Nat.le_of_ble_eq_true rfl) rfl (L' := [some (.ref (gad X 0)), some (.int p1), some (.int r3), none]) rfl ?_
  refine a_iloadn (pc := 6) dX6_hours_6 rfl rfl ?_
  refine a_if_ge (pc := 7) (tgt := 12) dX6_hours_7 (by decide) (fun c4 => ?_) (fun c4 => ?_)
  · rw [if_pos c4] at h
    refine a_iconst (pc := 12) (v := (0 : Int32)) dX6_hours_12 (by decide) ?_
    refine a_istoren (pc := 13) dX6_hours_13 rfl (Nat.le_of_ble_eq_true rfl) rfl (L' := [some (.ref (gad X 0)), some (.int p1), some (.int r3), some (.int (0 : Int32))]) rfl ?_
    obtain ⟨R10, hR10, h⟩ := g_bind h
    refine a_mask [true, true, false, true] (L' := [some (.ref (gad X 0)), some (.int p1), none, some (.int (0 : Int32))]) rfl ?_
    have E14 : ∀  (S10 : gSt), ((f_X3_look (0 : Int32) S10).bind fun S11 => some (S11.1 41 2, S11)) = some (r0, S0) → AW X RX6 4 cX6_hours 46 [some (.ref (gad X 0)), none, none, none] [] S10 := by
      intro S10 h
      refine a_aloadn (pc := 46) dX6_hours_46 rfl rfl ?_
      refine a_getA (pc := 47) flX6_39 sh_0 rfl dX6_hours_47 ?_
      refine a_aloadn (pc := 50) dX6_hours_50 rfl rfl ?_
      refine a_getA (pc := 51) flX6_12 sh_0 rfl dX6_hours_51 ?_
      refine a_iconst (pc := 54) (v := (0 : Int32)) dX6_hours_54 (by decide) ?_
      obtain ⟨S11, hc12, h⟩ := g_bind h
      refine a_invVv (pc := 55) (ok_X3_look hc12) gyX3_look vyX3_look mlX6_95 sh_41 rfl (As := [.ref (gad X 1), .int (0 : Int32)]) rfl rfl (by decide) (st := []) rfl (Nat.le_of_ble_eq_true rfl) dX6_hours_55 ?_
      refine a_aloadn (pc := 58) dX6_hours_58 rfl rfl ?_
      refine a_getA (pc := 59) flX6_39 sh_0 rfl dX6_hours_59 ?_
      refine a_getI (pc := 62) flX6_141 sh_41 rfl dX6_hours_62 ?_
      obtain ⟨rfl, rfl⟩ := Prod.mk.inj (Option.some.inj h)
      exact a_iret hp dX6_hours_65
    have lp : ∀ (n : Nat) (x1 : Int32) (x3 : Int32) (S : gSt), gLoop (f_X6_hours_s14) n (x1, x3, S) = some R10 → AW X RX6 4 cX6_hours 14 [some (.ref (gad X 0)), some (.int x1), none, some (.int x3)] [] S := by
      intro n
      induction n with
      | zero => intro x1 x3 S hR; cases hR
      | succ n ih =>
        intro x1 x3 S hR
        obtain ⟨q, hs, hR⟩ := g_bind hR
        have hs : f_X6_hours_s14_b x1 x3 S = some q := hs
        unfold f_X6_hours_s14_b at hs
        refine a_iloadn (pc := 14) dX6_hours_14 rfl rfl ?_
        refine a_iloadn (pc := 15) dX6_hours_15 rfl rfl ?_
        refine a_icmp_ge (pc := 16) (tgt := 46) dX6_hours_16 (by decide) (fun c5 => ?_) (fun c5 => ?_)
        · rw [if_pos c5] at hs
          obtain rfl := Option.some.inj hs
          obtain rfl := Option.some.inj hR
          refine a_mask [true, false, true, false] (L' := [some (.ref (gad X 0)), none, none, none]) rfl ?_
          exact E14  _ h
        · rw [if_neg c5] at hs
          refine a_aloadn (pc := 19) dX6_hours_19 rfl rfl ?_
          refine a_getA (pc := 20) flX6_12 sh_0 rfl dX6_hours_20 ?_
          refine a_getA (pc := 23) flX6_59 sh_1 rfl dX6_hours_23 ?_
          refine a_aloadn (pc := 26) dX6_hours_26 rfl rfl ?_
          refine a_getA (pc := 27) flX6_12 sh_0 rfl dX6_hours_27 ?_
          obtain ⟨S6, hc7, hs⟩ := g_bind hs
          refine a_invVv (pc := 30) (ok_X1_keep hc7) gyX1_keep vyX1_keep mlX6_150 sh_8 rfl (As := [.ref (gad X 1)]) rfl rfl (by decide) (st := []) rfl (Nat.le_of_ble_eq_true rfl) dX6_hours_30 ?_
          refine a_aloadn (pc := 33) dX6_hours_33 rfl rfl ?_
          refine a_getA (pc := 34) flX6_12 sh_0 rfl dX6_hours_34 ?_
          obtain ⟨S8, hc9, hs⟩ := g_bind hs
          refine a_invVv (pc := 37) (ok_X0_passHour hc9) gyX0_passHour vyX0_passHour mlX6_161 sh_1 rfl (As := []) rfl rfl (by decide) (st := []) rfl (Nat.le_of_ble_eq_true rfl) dX6_hours_37 ?_
          refine a_iinc (pc := 40) dX6_hours_40 rfl (v := x3 + (1 : Int32)) rfl (Nat.le_of_ble_eq_true rfl) rfl (L' := [some (.ref (gad X 0)), some (.int x1), none, some (.int (x3 + (1 : Int32)))]) rfl ?_
          refine a_goto (pc := 43) (tgt := 14) dX6_hours_43 (by decide) ?_
          obtain rfl := Option.some.inj hs
          exact ih _ _ _ hR
    exact lp _ _ _ _ hR10
  · rw [if_neg c4] at h
    refine a_iloadn (pc := 10) dX6_hours_10 rfl rfl ?_
    obtain ⟨rfl, rfl⟩ := Prod.mk.inj (Option.some.inj h)
    exact a_iret hp dX6_hours_11
theorem dX0_drawCell_0 : decode cX0_drawCell 0 = .ok (.aload_n 0, 1) := by decide +kernel
theorem dX0_drawCell_1 : decode cX0_drawCell 1 = .ok (.aload_n 0, 1) := by decide +kernel
theorem dX0_drawCell_2 : decode cX0_drawCell 2 = .ok (.getfield 44, 3) := by decide +kernel
theorem dX0_drawCell_5 : decode cX0_drawCell 5 = .ok (.i2l, 1) := by decide +kernel
theorem dX0_drawCell_6 : decode cX0_drawCell 6 = .ok (.ldc2_w 113, 3) := by decide +kernel
theorem dX0_drawCell_9 : decode cX0_drawCell 9 = .ok (.lmul, 1) := by decide +kernel
theorem dX0_drawCell_10 : decode cX0_drawCell 10 = .ok (.ldc2_w 115, 3) := by decide +kernel
theorem dX0_drawCell_13 : decode cX0_drawCell 13 = .ok (.ladd, 1) := by decide +kernel
theorem dX0_drawCell_14 : decode cX0_drawCell 14 = .ok (.ldc2_w 117, 3) := by decide +kernel
theorem dX0_drawCell_17 : decode cX0_drawCell 17 = .ok (.land, 1) := by decide +kernel
theorem dX0_drawCell_18 : decode cX0_drawCell 18 = .ok (.l2i, 1) := by decide +kernel
theorem dX0_drawCell_19 : decode cX0_drawCell 19 = .ok (.putfield 44, 3) := by decide +kernel
theorem dX0_drawCell_22 : decode cX0_drawCell 22 = .ok (.aload_n 0, 1) := by decide +kernel
theorem dX0_drawCell_23 : decode cX0_drawCell 23 = .ok (.getfield 44, 3) := by decide +kernel
theorem dX0_drawCell_26 : decode cX0_drawCell 26 = .ok (.bipush 16, 2) := by decide +kernel
theorem dX0_drawCell_28 : decode cX0_drawCell 28 = .ok (.ishr, 1) := by decide +kernel
theorem dX0_drawCell_29 : decode cX0_drawCell 29 = .ok (.bipush 63, 2) := by decide +kernel
theorem dX0_drawCell_31 : decode cX0_drawCell 31 = .ok (.iand, 1) := by decide +kernel
theorem dX0_drawCell_32 : decode cX0_drawCell 32 = .ok (.ireturn, 1) := by decide +kernel
def f_X0_drawCell (S : gSt) : Option (Int32 × gSt) :=
gLet (gI S 1 9 ((((((S.1 1 9).toInt64) * (1103515245 : Int64)) + (12345 : Int64)) &&& (2147483647 : Int64)).toInt32)) fun S1 =>
some (((S1.1 1 9) >>> ((16 : Int32) &&& 31)) &&& (63 : Int32), S1)
set_option maxHeartbeats 4000000 in
set_option maxRecDepth 20000 in
theorem ok_X0_drawCell {S S0 : gSt} {r0 : Int32}  (h : f_X0_drawCell S = some (r0, S0)) : gCT yX0_drawCell cX0_drawCell 1 (some .int) 0 (fun w => [.ref (w.2.1 1)]) S (some (.int r0)) S0 := by
  refine gEnter (fun X => [some (.ref (gad X 1))]) (by decide) (fun X => ⟨rfl, rfl⟩) (fun w => Nat.le_of_ble_eq_true rfl) (fun X hp => ?_)
  show AW X RX0 0 cX0_drawCell 0 [some (.ref (gad X 1))] [] S
  unfold f_X0_drawCell at h
  refine a_aloadn (pc := 0) dX0_drawCell_0 rfl rfl ?_
  refine a_aloadn (pc := 1) dX0_drawCell_1 rfl rfl ?_
  refine a_getI (pc := 2) flX0_44 sh_1 rfl dX0_drawCell_2 ?_
  refine a_i2l (pc := 5) dX0_drawCell_5 ?_
  refine a_ldc2 (pc := 6) kX0_113 dX0_drawCell_6 ?_
  refine a_lmul (pc := 9) dX0_drawCell_9 ?_
  refine a_ldc2 (pc := 10) kX0_115 dX0_drawCell_10 ?_
  refine a_ladd (pc := 13) dX0_drawCell_13 ?_
  refine a_ldc2 (pc := 14) kX0_117 dX0_drawCell_14 ?_
  refine a_land (pc := 17) dX0_drawCell_17 ?_
  refine a_l2i (pc := 18) dX0_drawCell_18 ?_
  refine a_putI (pc := 19) flX0_44 sh_1 rfl rfl rfl dX0_drawCell_19 ?_
  obtain ⟨S1, eS1, h⟩ := g_let h
  refine a_nmS eS1 ?_
  refine a_aloadn (pc := 22) dX0_drawCell_22 rfl rfl ?_
  refine a_getI (pc := 23) flX0_44 sh_1 rfl dX0_drawCell_23 ?_
  refine a_bipush (pc := 26) (v := (16 : Int32)) dX0_drawCell_26 (by decide) ?_
  refine a_ishr (pc := 28) dX0_drawCell_28 ?_
  refine a_bipush (pc := 29) (v := (63 : Int32)) dX0_drawCell_29 (by decide) ?_
  refine a_iand (pc := 31) dX0_drawCell_31 ?_
  obtain ⟨rfl, rfl⟩ := Prod.mk.inj (Option.some.inj h)
  exact a_iret hp dX0_drawCell_32
theorem dX0_sweep_0 : decode cX0_sweep 0 = .ok (.iconst 0, 1) := by decide +kernel
theorem dX0_sweep_1 : decode cX0_sweep 1 = .ok (.istore_n 2, 1) := by decide +kernel
theorem dX0_sweep_2 : decode cX0_sweep 2 = .ok (.iload_n 1, 1) := by decide +kernel
theorem dX0_sweep_3 : decode cX0_sweep 3 = .ok (.istore_n 3, 1) := by decide +kernel
theorem dX0_sweep_4 : decode cX0_sweep 4 = .ok (.iload_n 3, 1) := by decide +kernel
theorem dX0_sweep_5 : decode cX0_sweep 5 = .ok (.sipush 384, 3) := by decide +kernel
theorem dX0_sweep_8 : decode cX0_sweep 8 = .ok (.if_icmp .ge 28, 3) := by decide +kernel
theorem dX0_sweep_11 : decode cX0_sweep 11 = .ok (.aload_n 0, 1) := by decide +kernel
theorem dX0_sweep_12 : decode cX0_sweep 12 = .ok (.getfield 27, 3) := by decide +kernel
theorem dX0_sweep_15 : decode cX0_sweep 15 = .ok (.iload_n 3, 1) := by decide +kernel
theorem dX0_sweep_16 : decode cX0_sweep 16 = .ok (.iaload, 1) := by decide +kernel
theorem dX0_sweep_17 : decode cX0_sweep 17 = .ok (.ifCond .le 13, 3) := by decide +kernel
theorem dX0_sweep_20 : decode cX0_sweep 20 = .ok (.iinc 2 1, 3) := by decide +kernel
theorem dX0_sweep_23 : decode cX0_sweep 23 = .ok (.aload_n 0, 1) := by decide +kernel
theorem dX0_sweep_24 : decode cX0_sweep 24 = .ok (.getfield 27, 3) := by decide +kernel
theorem dX0_sweep_27 : decode cX0_sweep 27 = .ok (.iload_n 3, 1) := by decide +kernel
theorem dX0_sweep_28 : decode cX0_sweep 28 = .ok (.iconst 0, 1) := by decide +kernel
theorem dX0_sweep_29 : decode cX0_sweep 29 = .ok (.iastore, 1) := by decide +kernel
theorem dX0_sweep_30 : decode cX0_sweep 30 = .ok (.iinc 3 64, 3) := by decide +kernel
theorem dX0_sweep_33 : decode cX0_sweep 33 = .ok (.goto (-29), 3) := by decide +kernel
theorem dX0_sweep_36 : decode cX0_sweep 36 = .ok (.iload_n 2, 1) := by decide +kernel
theorem dX0_sweep_37 : decode cX0_sweep 37 = .ok (.ireturn, 1) := by decide +kernel
def f_X0_sweep_s4_b (x2 : Int32) (x3 : Int32) (S : gSt) : Option ((Int32 × Int32 × gSt) ⊕ (Int32 × gSt)) :=
(if (384 : Int32) ≤ x3 then
some (.inr (x2, S))
else
if gin x3 384 then
((if (S.1 7 x3.toNatClampNeg) ≤ 0 then
some (.inl (x2, x3 + (64 : Int32), S))
else
if gin x3 384 then
gLet (gI S 7 x3.toNatClampNeg (0 : Int32)) fun S5 =>
(some (.inl (x2 + (1 : Int32), x3 + (64 : Int32), S5))) else none)) else none)
def f_X0_sweep_s4 : (Int32 × Int32 × gSt) → Option ((Int32 × Int32 × gSt) ⊕ (Int32 × gSt)) := fun t => f_X0_sweep_s4_b t.1 t.2.1 t.2.2
def f_X0_sweep (p1 : Int32) (S : gSt) : Option (Int32 × gSt) :=
(gLoop (f_X0_sweep_s4) gFuel ((0 : Int32), p1, S)).bind fun q6 => match q6 with
| (y2_6, S6) =>
some (y2_6, S6)
set_option maxHeartbeats 4000000 in
set_option maxRecDepth 20000 in
theorem ok_X0_sweep {p1 : Int32} {S S0 : gSt} {r0 : Int32}  (h : f_X0_sweep p1 S = some (r0, S0)) : gCT yX0_sweep cX0_sweep 4 (some .int) 0 (fun w => [.ref (w.2.1 1), .int p1]) S (some (.int r0)) S0 := by
  refine gEnter (fun X => [some (.ref (gad X 1)), some (.int p1), none, none]) (by decide) (fun X => ⟨rfl, rfl⟩) (fun w => Nat.le_of_ble_eq_true rfl) (fun X hp => ?_)
  show AW X RX0 0 cX0_sweep 0 [some (.ref (gad X 1)), some (.int p1), none, none] [] S
  unfold f_X0_sweep at h
  refine a_iconst (pc := 0) (v := (0 : Int32)) dX0_sweep_0 (by decide) ?_
  refine a_istoren (pc := 1) dX0_sweep_1 rfl (Nat.le_of_ble_eq_true rfl) rfl (L' := [some (.ref (gad X 1)), some (.int p1), some (.int (0 : Int32)), none]) rfl ?_
  refine a_iloadn (pc := 2) dX0_sweep_2 rfl rfl ?_
  refine a_istoren (pc := 3) dX0_sweep_3 rfl (Nat.le_of_ble_eq_true rfl) rfl (L' := [some (.ref (gad X 1)), some (.int p1), some (.int (0 : Int32)), some (.int p1)]) rfl ?_
  obtain ⟨R6, hR6, h⟩ := g_bind h
  refine a_mask [true, false, true, true] (L' := [some (.ref (gad X 1)), none, some (.int (0 : Int32)), some (.int p1)]) rfl ?_
  have E4 : ∀ (y2_6 : Int32) (S6 : gSt), (some (y2_6, S6)) = some (r0, S0) → AW X RX0 0 cX0_sweep 36 [none, none, some (.int y2_6), none] [] S6 := by
    intro y2_6 S6 h
    refine a_iloadn (pc := 36) dX0_sweep_36 rfl rfl ?_
    obtain ⟨rfl, rfl⟩ := Prod.mk.inj (Option.some.inj h)
    exact a_iret hp dX0_sweep_37
  have lp : ∀ (n : Nat) (x2 : Int32) (x3 : Int32) (S : gSt), gLoop (f_X0_sweep_s4) n (x2, x3, S) = some R6 → AW X RX0 0 cX0_sweep 4 [some (.ref (gad X 1)), none, some (.int x2), some (.int x3)] [] S := by
    intro n
    induction n with
    | zero => intro x2 x3 S hR; cases hR
    | succ n ih =>
      intro x2 x3 S hR
      obtain ⟨q, hs, hR⟩ := g_bind hR
      have hs : f_X0_sweep_s4_b x2 x3 S = some q := hs
      unfold f_X0_sweep_s4_b at hs
      refine a_iloadn (pc := 4) dX0_sweep_4 rfl rfl ?_
      refine a_sipush (pc := 5) (v := (384 : Int32)) dX0_sweep_5 (by decide) ?_
      refine a_icmp_ge (pc := 8) (tgt := 36) dX0_sweep_8 (by decide) (fun c1 => ?_) (fun c1 => ?_)
      · rw [if_pos c1] at hs
        obtain rfl := Option.some.inj hs
        obtain rfl := Option.some.inj hR
        refine a_mask [false, true, true, false] (L' := [none, none, some (.int x2), none]) rfl ?_
        exact E4 _ _ h
      · rw [if_neg c1] at hs
        refine a_aloadn (pc := 11) dX0_sweep_11 rfl rfl ?_
        refine a_getA (pc := 12) flX0_27 sh_1 rfl dX0_sweep_12 ?_
        refine a_iloadn (pc := 15) dX0_sweep_15 rfl rfl ?_
        obtain ⟨hi2, hs⟩ := g_if hs
        refine a_iald (pc := 16) sh_7 hi2 dX0_sweep_16 ?_
        refine a_if_le (pc := 17) (tgt := 30) dX0_sweep_17 (by decide) (fun c3 => ?_) (fun c3 => ?_)
        · rw [if_pos c3] at hs
          refine a_iinc (pc := 30) dX0_sweep_30 rfl (v := x3 + (64 : Int32)) rfl (Nat.le_of_ble_eq_true rfl) rfl (L' := [some (.ref (gad X 1)), none, some (.int x2), some (.int (x3 + (64 : Int32)))]) rfl ?_
          refine a_goto (pc := 33) (tgt := 4) dX0_sweep_33 (by decide) ?_
          obtain rfl := Option.some.inj hs
          exact ih _ _ _ hR
        · rw [if_neg c3] at hs
          refine a_iinc (pc := 20) dX0_sweep_20 rfl (v := x2 + (1 : Int32)) rfl (Nat.le_of_ble_eq_true rfl) rfl (L' := [some (.ref (gad X 1)), none, some (.int (x2 + (1 : Int32))), some (.int x3)]) rfl ?_
          refine a_aloadn (pc := 23) dX0_sweep_23 rfl rfl ?_
          refine a_getA (pc := 24) flX0_27 sh_1 rfl dX0_sweep_24 ?_
          refine a_iloadn (pc := 27) dX0_sweep_27 rfl rfl ?_
          refine a_iconst (pc := 28) (v := (0 : Int32)) dX0_sweep_28 (by decide) ?_
          obtain ⟨hi4, hs⟩ := g_if hs
          refine a_iast (pc := 29) sh_7 hi4 dX0_sweep_29 ?_
          obtain ⟨S5, eS5, hs⟩ := g_let hs
          refine a_nmS eS5 ?_
          refine a_iinc (pc := 30) dX0_sweep_30 rfl (v := x3 + (64 : Int32)) rfl (Nat.le_of_ble_eq_true rfl) rfl (L' := [some (.ref (gad X 1)), none, some (.int (x2 + (1 : Int32))), some (.int (x3 + (64 : Int32)))]) rfl ?_
          refine a_goto (pc := 33) (tgt := 4) dX0_sweep_33 (by decide) ?_
          obtain rfl := Option.some.inj hs
          exact ih _ _ _ hR
  exact lp _ _ _ _ hR6
