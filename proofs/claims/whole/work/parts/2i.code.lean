theorem dX7_rakes_0 : decode cX7_rakes 0 = .ok (.aload_n 0, 1) := by decide +kernel
theorem dX7_rakes_1 : decode cX7_rakes 1 = .ok (.iload_n 1, 1) := by decide +kernel
theorem dX7_rakes_2 : decode cX7_rakes 2 = .ok (.invokevirtual 108, 3) := by decide +kernel
theorem dX7_rakes_5 : decode cX7_rakes 5 = .ok (.istore_n 2, 1) := by decide +kernel
theorem dX7_rakes_6 : decode cX7_rakes 6 = .ok (.iconst 0, 1) := by decide +kernel
theorem dX7_rakes_7 : decode cX7_rakes 7 = .ok (.istore_n 3, 1) := by decide +kernel
theorem dX7_rakes_8 : decode cX7_rakes 8 = .ok (.iload_n 3, 1) := by decide +kernel
theorem dX7_rakes_9 : decode cX7_rakes 9 = .ok (.aload_n 0, 1) := by decide +kernel
theorem dX7_rakes_10 : decode cX7_rakes 10 = .ok (.getfield 7, 3) := by decide +kernel
theorem dX7_rakes_13 : decode cX7_rakes 13 = .ok (.iconst 5, 1) := by decide +kernel
theorem dX7_rakes_14 : decode cX7_rakes 14 = .ok (.iaload, 1) := by decide +kernel
theorem dX7_rakes_15 : decode cX7_rakes 15 = .ok (.if_icmp .ge 24, 3) := by decide +kernel
theorem dX7_rakes_18 : decode cX7_rakes 18 = .ok (.aload_n 0, 1) := by decide +kernel
theorem dX7_rakes_19 : decode cX7_rakes 19 = .ok (.getfield 7, 3) := by decide +kernel
theorem dX7_rakes_22 : decode cX7_rakes 22 = .ok (.bipush 32, 2) := by decide +kernel
theorem dX7_rakes_24 : decode cX7_rakes 24 = .ok (.bipush 64, 2) := by decide +kernel
theorem dX7_rakes_26 : decode cX7_rakes 26 = .ok (.iload_n 3, 1) := by decide +kernel
theorem dX7_rakes_27 : decode cX7_rakes 27 = .ok (.imul, 1) := by decide +kernel
theorem dX7_rakes_28 : decode cX7_rakes 28 = .ok (.iadd, 1) := by decide +kernel
theorem dX7_rakes_29 : decode cX7_rakes 29 = .ok (.iload_n 1, 1) := by decide +kernel
theorem dX7_rakes_30 : decode cX7_rakes 30 = .ok (.iadd, 1) := by decide +kernel
theorem dX7_rakes_31 : decode cX7_rakes 31 = .ok (.iconst 0, 1) := by decide +kernel
theorem dX7_rakes_32 : decode cX7_rakes 32 = .ok (.iastore, 1) := by decide +kernel
theorem dX7_rakes_33 : decode cX7_rakes 33 = .ok (.iinc 3 1, 3) := by decide +kernel
theorem dX7_rakes_36 : decode cX7_rakes 36 = .ok (.goto (-28), 3) := by decide +kernel
theorem dX7_rakes_39 : decode cX7_rakes 39 = .ok (.iload_n 2, 1) := by decide +kernel
theorem dX7_rakes_40 : decode cX7_rakes 40 = .ok (.ireturn, 1) := by decide +kernel
def f_X7_rakes_s8_b (x1 : Int32) (x2 : Int32) (x3 : Int32) (S : gSt) : Option ((Int32 × Int32 × Int32 × gSt) ⊕ (Int32 × gSt)) :=
if gin (5 : Int32) 416 then
((if (S.1 48 (5 : Int32).toNatClampNeg) ≤ x3 then
some (.inr (x2, S))
else
if gin (((32 : Int32) + ((64 : Int32) * x3)) + x1) 416 then
gLet (gI S 48 (((32 : Int32) + ((64 : Int32) * x3)) + x1).toNatClampNeg (0 : Int32)) fun S7 =>
(some (.inl (x1, x2, x3 + (1 : Int32), S7))) else none)) else none
def f_X7_rakes_s8 : (Int32 × Int32 × Int32 × gSt) → Option ((Int32 × Int32 × Int32 × gSt) ⊕ (Int32 × gSt)) := fun t => f_X7_rakes_s8_b t.1 t.2.1 t.2.2.1 t.2.2.2
def f_X7_rakes (p1 : Int32) (S : gSt) : Option (Int32 × gSt) :=
gBind2 (f_X7_prints p1 S) fun r3 S1 =>
(gLoop (f_X7_rakes_s8) gFuel (p1, r3, (0 : Int32), S1)).bind fun q8 => match q8 with
| (y2_8, S8) =>
some (y2_8, S8)
set_option maxHeartbeats 4000000 in
set_option maxRecDepth 20000 in
theorem ok_X7_rakes {p1 : Int32} {S S0 : gSt} {r0 : Int32}  (h : f_X7_rakes p1 S = some (r0, S0)) : gCT yX7_rakes cX7_rakes 4 (some .int) 1 (fun w => [.ref (w.2.1 47), .int p1]) S (some (.int r0)) S0 := by
  refine gEnter (fun X => [some (.ref (gad X 47)), some (.int p1), none, none]) (by decide) (fun X => ⟨rfl, rfl⟩) (fun w => Nat.le_of_ble_eq_true rfl) (fun X hp => ?_)
  show AW X RX7 1 cX7_rakes 0 [some (.ref (gad X 47)), some (.int p1), none, none] [] S
  unfold f_X7_rakes at h
  refine a_aloadn (pc := 0) dX7_rakes_0 rfl rfl ?_
  refine a_iloadn (pc := 1) dX7_rakes_1 rfl rfl ?_
  obtain ⟨r3, S1, hc2, h⟩ := g_bind2 h
  refine a_invVi (pc := 2) (ok_X7_prints hc2) gyX7_prints vyX7_prints mlX7_108 sh_47 rfl (As := [.int p1]) rfl rfl (by decide) (st := []) rfl (Nat.le_of_ble_eq_true rfl) dX7_rakes_2 ?_
  refine a_istoren (pc := 5) dX7_rakes_5 rfl (Nat.le_of_ble_eq_true rfl) rfl (L' := [some (.ref (gad X 47)), some (.int p1), some (.int r3), none]) rfl ?_
  refine a_iconst (pc := 6) (v := (0 : Int32)) dX7_rakes_6 (by decide) ?_
  refine a_istoren (pc := 7) dX7_rakes_7 rfl (Nat.le_of_ble_eq_true rfl) rfl (L' := [some (.ref (gad X 47)), some (.int p1), some (.int r3), some (.int (0 : Int32))]) rfl ?_
  obtain ⟨R8, hR8, h⟩ := g_bind h
  have E8 : ∀ (y2_8 : Int32) (S8 : gSt), (some (y2_8, S8)) = some (r0, S0) → AW X RX7 1 cX7_rakes 39 [none, none, some (.int y2_8), none] [] S8 := by
    intro y2_8 S8 h
    refine a_iloadn (pc := 39) dX7_rakes_39 rfl rfl ?_
    obtain ⟨rfl, rfl⟩ := Prod.mk.inj (Option.some.inj h)
    exact a_iret hp dX7_rakes_40
  have lp : ∀ (n : Nat) (x1 : Int32) (x2 : Int32) (x3 : Int32) (S : gSt), gLoop (f_X7_rakes_s8) n (x1, x2, x3, S) = some R8 → AW X RX7 1 cX7_rakes 8 [some (.ref (gad X 47)), some (.int x1), some (.int x2), some (.int x3)] [] S := by
    intro n
    induction n with
    | zero => intro x1 x2 x3 S hR; cases hR
    | succ n ih =>
      intro x1 x2 x3 S hR
      obtain ⟨q, hs, hR⟩ := g_bind hR
      have hs : f_X7_rakes_s8_b x1 x2 x3 S = some q := hs
      unfold f_X7_rakes_s8_b at hs
      refine a_iloadn (pc := 8) dX7_rakes_8 rfl rfl ?_
      refine a_aloadn (pc := 9) dX7_rakes_9 rfl rfl ?_
      refine a_getA (pc := 10) flX7_7 sh_47 rfl dX7_rakes_10 ?_
      refine a_iconst (pc := 13) (v := (5 : Int32)) dX7_rakes_13 (by decide) ?_
      obtain ⟨hi4, hs⟩ := g_if hs
      refine a_iald (pc := 14) sh_48 hi4 dX7_rakes_14 ?_
      refine a_icmp_ge (pc := 15) (tgt := 39) dX7_rakes_15 (by decide) (fun c5 => ?_) (fun c5 => ?_)
      · rw [if_pos c5] at hs
        obtain rfl := Option.some.inj hs
        obtain rfl := Option.some.inj hR
        refine a_mask [false, false, true, false] (L' := [none, none, some (.int x2), none]) rfl ?_
        exact E8 _ _ h
      · rw [if_neg c5] at hs
        refine a_aloadn (pc := 18) dX7_rakes_18 rfl rfl ?_
        refine a_getA (pc := 19) flX7_7 sh_47 rfl dX7_rakes_19 ?_
        refine a_bipush (pc := 22) (v := (32 : Int32)) dX7_rakes_22 (by decide) ?_
        refine a_bipush (pc := 24) (v := (64 : Int32)) dX7_rakes_24 (by decide) ?_
        refine a_iloadn (pc := 26) dX7_rakes_26 rfl rfl ?_
        refine a_imul (pc := 27) dX7_rakes_27 ?_
        refine a_iadd (pc := 28) dX7_rakes_28 ?_
        refine a_iloadn (pc := 29) dX7_rakes_29 rfl rfl ?_
        refine a_iadd (pc := 30) dX7_rakes_30 ?_
        refine a_iconst (pc := 31) (v := (0 : Int32)) dX7_rakes_31 (by decide) ?_
        obtain ⟨hi6, hs⟩ := g_if hs
        refine a_iast (pc := 32) sh_48 hi6 dX7_rakes_32 ?_
        obtain ⟨S7, eS7, hs⟩ := g_let hs
        refine a_nmS eS7 ?_
        refine a_iinc (pc := 33) dX7_rakes_33 rfl (v := x3 + (1 : Int32)) rfl (Nat.le_of_ble_eq_true rfl) rfl (L' := [some (.ref (gad X 47)), some (.int x1), some (.int x2), some (.int (x3 + (1 : Int32)))]) rfl ?_
        refine a_goto (pc := 36) (tgt := 8) dX7_rakes_36 (by decide) ?_
        obtain rfl := Option.some.inj hs
        exact ih _ _ _ _ hR
  exact lp _ _ _ _ _ hR8
theorem dX7_drift_0 : decode cX7_drift 0 = .ok (.iload_n 1, 1) := by decide +kernel
theorem dX7_drift_1 : decode cX7_drift 1 = .ok (.i2l, 1) := by decide +kernel
theorem dX7_drift_2 : decode cX7_drift 2 = .ok (.lconst 1, 1) := by decide +kernel
theorem dX7_drift_3 : decode cX7_drift 3 = .ok (.ldc2_w 159, 3) := by decide +kernel
theorem dX7_drift_6 : decode cX7_drift 6 = .ok (.invokestatic 51, 3) := by decide +kernel
theorem dX7_drift_9 : decode cX7_drift 9 = .ok (.ifCond .ne 5, 3) := by decide +kernel
theorem dX7_drift_12 : decode cX7_drift 12 = .ok (.iconst (-1), 1) := by decide +kernel
theorem dX7_drift_13 : decode cX7_drift 13 = .ok (.ireturn, 1) := by decide +kernel
theorem dX7_drift_14 : decode cX7_drift 14 = .ok (.aload_n 0, 1) := by decide +kernel
theorem dX7_drift_15 : decode cX7_drift 15 = .ok (.getfield 7, 3) := by decide +kernel
theorem dX7_drift_18 : decode cX7_drift 18 = .ok (.bipush 6, 2) := by decide +kernel
theorem dX7_drift_20 : decode cX7_drift 20 = .ok (.iaload, 1) := by decide +kernel
theorem dX7_drift_21 : decode cX7_drift 21 = .ok (.iload_n 1, 1) := by decide +kernel
theorem dX7_drift_22 : decode cX7_drift 22 = .ok (.iadd, 1) := by decide +kernel
theorem dX7_drift_23 : decode cX7_drift 23 = .ok (.sipush 9999, 3) := by decide +kernel
theorem dX7_drift_26 : decode cX7_drift 26 = .ok (.if_icmp .le 6, 3) := by decide +kernel
theorem dX7_drift_29 : decode cX7_drift 29 = .ok (.bipush (-3), 2) := by decide +kernel
theorem dX7_drift_31 : decode cX7_drift 31 = .ok (.ireturn, 1) := by decide +kernel
theorem dX7_drift_32 : decode cX7_drift 32 = .ok (.iconst 0, 1) := by decide +kernel
theorem dX7_drift_33 : decode cX7_drift 33 = .ok (.istore_n 2, 1) := by decide +kernel
theorem dX7_drift_34 : decode cX7_drift 34 = .ok (.iconst 0, 1) := by decide +kernel
theorem dX7_drift_35 : decode cX7_drift 35 = .ok (.istore_n 3, 1) := by decide +kernel
theorem dX7_drift_36 : decode cX7_drift 36 = .ok (.iload_n 3, 1) := by decide +kernel
theorem dX7_drift_37 : decode cX7_drift 37 = .ok (.iload_n 1, 1) := by decide +kernel
theorem dX7_drift_38 : decode cX7_drift 38 = .ok (.if_icmp .ge 65, 3) := by decide +kernel
theorem dX7_drift_41 : decode cX7_drift 41 = .ok (.aload_n 0, 1) := by decide +kernel
theorem dX7_drift_42 : decode cX7_drift 42 = .ok (.invokevirtual 153, 3) := by decide +kernel
theorem dX7_drift_45 : decode cX7_drift 45 = .ok (.aload_n 0, 1) := by decide +kernel
theorem dX7_drift_46 : decode cX7_drift 46 = .ok (.invokevirtual 161, 3) := by decide +kernel
theorem dX7_drift_49 : decode cX7_drift 49 = .ok (.aload_n 0, 1) := by decide +kernel
theorem dX7_drift_50 : decode cX7_drift 50 = .ok (.getfield 7, 3) := by decide +kernel
theorem dX7_drift_53 : decode cX7_drift 53 = .ok (.bipush 7, 2) := by decide +kernel
theorem dX7_drift_55 : decode cX7_drift 55 = .ok (.aload_n 0, 1) := by decide +kernel
theorem dX7_drift_56 : decode cX7_drift 56 = .ok (.getfield 7, 3) := by decide +kernel
theorem dX7_drift_59 : decode cX7_drift 59 = .ok (.bipush 7, 2) := by decide +kernel
theorem dX7_drift_61 : decode cX7_drift 61 = .ok (.iaload, 1) := by decide +kernel
theorem dX7_drift_62 : decode cX7_drift 62 = .ok (.i2l, 1) := by decide +kernel
theorem dX7_drift_63 : decode cX7_drift 63 = .ok (.ldc2_w 164, 3) := by decide +kernel
theorem dX7_drift_66 : decode cX7_drift 66 = .ok (.lmul, 1) := by decide +kernel
theorem dX7_drift_67 : decode cX7_drift 67 = .ok (.ldc2_w 166, 3) := by decide +kernel
theorem dX7_drift_70 : decode cX7_drift 70 = .ok (.ladd, 1) := by decide +kernel
theorem dX7_drift_71 : decode cX7_drift 71 = .ok (.ldc2_w 168, 3) := by decide +kernel
theorem dX7_drift_74 : decode cX7_drift 74 = .ok (.land, 1) := by decide +kernel
theorem dX7_drift_75 : decode cX7_drift 75 = .ok (.l2i, 1) := by decide +kernel
theorem dX7_drift_76 : decode cX7_drift 76 = .ok (.iastore, 1) := by decide +kernel
theorem dX7_drift_77 : decode cX7_drift 77 = .ok (.iload_n 2, 1) := by decide +kernel
theorem dX7_drift_78 : decode cX7_drift 78 = .ok (.aload_n 0, 1) := by decide +kernel
theorem dX7_drift_79 : decode cX7_drift 79 = .ok (.aload_n 0, 1) := by decide +kernel
theorem dX7_drift_80 : decode cX7_drift 80 = .ok (.getfield 7, 3) := by decide +kernel
theorem dX7_drift_83 : decode cX7_drift 83 = .ok (.bipush 7, 2) := by decide +kernel
theorem dX7_drift_85 : decode cX7_drift 85 = .ok (.iaload, 1) := by decide +kernel
theorem dX7_drift_86 : decode cX7_drift 86 = .ok (.ldc 170, 2) := by decide +kernel
theorem dX7_drift_88 : decode cX7_drift 88 = .ok (.idiv, 1) := by decide +kernel
theorem dX7_drift_89 : decode cX7_drift 89 = .ok (.bipush 64, 2) := by decide +kernel
theorem dX7_drift_91 : decode cX7_drift 91 = .ok (.irem, 1) := by decide +kernel
theorem dX7_drift_92 : decode cX7_drift 92 = .ok (.invokevirtual 171, 3) := by decide +kernel
theorem dX7_drift_95 : decode cX7_drift 95 = .ok (.iadd, 1) := by decide +kernel
theorem dX7_drift_96 : decode cX7_drift 96 = .ok (.istore_n 2, 1) := by decide +kernel
theorem dX7_drift_97 : decode cX7_drift 97 = .ok (.iinc 3 1, 3) := by decide +kernel
theorem dX7_drift_100 : decode cX7_drift 100 = .ok (.goto (-64), 3) := by decide +kernel
theorem dX7_drift_103 : decode cX7_drift 103 = .ok (.iload_n 2, 1) := by decide +kernel
theorem dX7_drift_104 : decode cX7_drift 104 = .ok (.ireturn, 1) := by decide +kernel
def f_X7_drift_s36_b (x1 : Int32) (x2 : Int32) (x3 : Int32) (S : gSt) : Option ((Int32 × Int32 × Int32 × gSt) ⊕ (Int32 × gSt)) :=
(if x1 ≤ x3 then
some (.inr (x2, S))
else
(f_X7_notes S).bind fun S8 =>
(f_X7_goesBy S8).bind fun S10 =>
if gin (7 : Int32) 416 then
(if gin (7 : Int32) 416 then
gLet (gI S10 48 (7 : Int32).toNatClampNeg ((((((S10.1 48 (7 : Int32).toNatClampNeg).toInt64) * (1103515245 : Int64)) + (12345 : Int64)) &&& (2147483647 : Int64)).toInt32)) fun S14 =>
(if gin (7 : Int32) 416 then
(gBind2 (f_X7_rakes (((S14.1 48 (7 : Int32).toNatClampNeg) / (65536 : Int32)) - ((S14.1 48 (7 : Int32).toNatClampNeg) / (65536 : Int32)) / (64 : Int32) * (64 : Int32)) S14) fun r18 S16 =>
gLet (x2 + r18) fun v19 =>
some (.inl (x1, v19, x3 + (1 : Int32), S16))) else none) else none) else none)
def f_X7_drift_s36 : (Int32 × Int32 × Int32 × gSt) → Option ((Int32 × Int32 × Int32 × gSt) ⊕ (Int32 × gSt)) := fun t => f_X7_drift_s36_b t.1 t.2.1 t.2.2.1 t.2.2.2
def f_X7_drift (p1 : Int32) (S : gSt) : Option (Int32 × gSt) :=
gBind2 (f_X7_in (p1.toInt64) (1 : Int64) (24 : Int64) S) fun r3 S1 =>
(if r3 = 0 then
some ((-1 : Int32), S1)
else
if gin (6 : Int32) 416 then
((if ((S1.1 48 (6 : Int32).toNatClampNeg) + p1) ≤ (9999 : Int32) then
(gLoop (f_X7_drift_s36) gFuel (p1, (0 : Int32), (0 : Int32), S1)).bind fun q20 => match q20 with
| (y2_20, S20) =>
some (y2_20, S20)
else
some ((-3 : Int32), S1))) else none)
set_option maxHeartbeats 4000000 in
set_option maxRecDepth 20000 in
theorem ok_X7_drift {p1 : Int32} {S S0 : gSt} {r0 : Int32}  (h : f_X7_drift p1 S = some (r0, S0)) : gCT yX7_drift cX7_drift 4 (some .int) 2 (fun w => [.ref (w.2.1 47), .int p1]) S (some (.int r0)) S0 := by
  refine gEnter (fun X => [some (.ref (gad X 47)), some (.int p1), none, none]) (by decide) (fun X => ⟨rfl, rfl⟩) (fun w => Nat.le_of_ble_eq_true rfl) (fun X hp => ?_)
  show AW X RX7 2 cX7_drift 0 [some (.ref (gad X 47)), some (.int p1), none, none] [] S
  unfold f_X7_drift at h
  refine a_iloadn (pc := 0) dX7_drift_0 rfl rfl ?_
  refine a_i2l (pc := 1) dX7_drift_1 ?_
  refine a_lconst (pc := 2) (v := (1 : Int64)) dX7_drift_2 (by decide) ?_
  refine a_ldc2 (pc := 3) kX7_159 dX7_drift_3 ?_
  obtain ⟨r3, S1, hc2, h⟩ := g_bind2 h
  refine a_invSi (pc := 6) (ok_X7_in hc2) gyX7_in syX7_in mlX7_51 (As := [.long (p1.toInt64), .long (1 : Int64), .long (24 : Int64)]) rfl rfl (by decide) (st := []) rfl (Nat.le_of_ble_eq_true rfl) dX7_drift_6 ?_
  refine a_if_ne (pc := 9) (tgt := 14) dX7_drift_9 (by decide) (fun c4 => ?_) (fun c4 => ?_)
  · rw [if_neg c4] at h
    refine a_aloadn (pc := 14) dX7_drift_14 rfl rfl ?_
    refine a_getA (pc := 15) flX7_7 sh_47 rfl dX7_drift_15 ?_
    refine a_bipush (pc := 18) (v := (6 : Int32)) dX7_drift_18 (by decide) ?_
    obtain ⟨hi5, h⟩ := g_if h
    refine a_iald (pc := 20) sh_48 hi5 dX7_drift_20 ?_
    refine a_iloadn (pc := 21) dX7_drift_21 rfl rfl ?_
    refine a_iadd (pc := 22) dX7_drift_22 ?_
    refine a_sipush (pc := 23) (v := (9999 : Int32)) dX7_drift_23 (by decide) ?_
    refine a_icmp_le (pc := 26) (tgt := 32) dX7_drift_26 (by decide) (fun c6 => ?_) (fun c6 => ?_)
    · rw [if_pos c6] at h
      refine a_iconst (pc := 32) (v := (0 : Int32)) dX7_drift_32 (by decide) ?_
      refine a_istoren (pc := 33) dX7_drift_33 rfl (Nat.le_of_ble_eq_true rfl) rfl (L' := [some (.ref (gad X 47)), some (.int p1), some (.int (0 : Int32)), none]) rfl ?_
      refine a_iconst (pc := 34) (v := (0 : Int32)) dX7_drift_34 (by decide) ?_
      refine a_istoren (pc := 35) dX7_drift_35 rfl (Nat.le_of_ble_eq_true rfl) rfl (L' := [some (.ref (gad X 47)), some (.int p1), some (.int (0 : Int32)), some (.int (0 : Int32))]) rfl ?_
      obtain ⟨R20, hR20, h⟩ := g_bind h
      have E36 : ∀ (y2_20 : Int32) (S20 : gSt), (some (y2_20, S20)) = some (r0, S0) → AW X RX7 2 cX7_drift 103 [none, none, some (.int y2_20), none] [] S20 := by
        intro y2_20 S20 h
        refine a_iloadn (pc := 103) dX7_drift_103 rfl rfl ?_
        obtain ⟨rfl, rfl⟩ := Prod.mk.inj (Option.some.inj h)
        exact a_iret hp dX7_drift_104
      have lp : ∀ (n : Nat) (x1 : Int32) (x2 : Int32) (x3 : Int32) (S : gSt), gLoop (f_X7_drift_s36) n (x1, x2, x3, S) = some R20 → AW X RX7 2 cX7_drift 36 [some (.ref (gad X 47)), some (.int x1), some (.int x2), some (.int x3)] [] S := by
        intro n
        induction n with
        | zero => intro x1 x2 x3 S hR; cases hR
        | succ n ih =>
          intro x1 x2 x3 S hR
          obtain ⟨q, hs, hR⟩ := g_bind hR
          have hs : f_X7_drift_s36_b x1 x2 x3 S = some q := hs
          unfold f_X7_drift_s36_b at hs
          refine a_iloadn (pc := 36) dX7_drift_36 rfl rfl ?_
          refine a_iloadn (pc := 37) dX7_drift_37 rfl rfl ?_
          refine a_icmp_ge (pc := 38) (tgt := 103) dX7_drift_38 (by decide) (fun c7 => ?_) (fun c7 => ?_)
          · rw [if_pos c7] at hs
            obtain rfl := Option.some.inj hs
            obtain rfl := Option.some.inj hR
            refine a_mask [false, false, true, false] (L' := [none, none, some (.int x2), none]) rfl ?_
            exact E36 _ _ h
          · rw [if_neg c7] at hs
            refine a_aloadn (pc := 41) dX7_drift_41 rfl rfl ?_
            obtain ⟨S8, hc9, hs⟩ := g_bind hs
            refine a_invVv (pc := 42) (ok_X7_notes hc9) gyX7_notes vyX7_notes mlX7_153 sh_47 rfl (As := []) rfl rfl (by decide) (st := []) rfl (Nat.le_of_ble_eq_true rfl) dX7_drift_42 ?_
            refine a_aloadn (pc := 45) dX7_drift_45 rfl rfl ?_
            obtain ⟨S10, hc11, hs⟩ := g_bind hs
            refine a_invVv (pc := 46) (ok_X7_goesBy hc11) gyX7_goesBy vyX7_goesBy mlX7_161 sh_47 rfl (As := []) rfl rfl (by decide) (st := []) rfl (Nat.le_of_ble_eq_true rfl) dX7_drift_46 ?_
            refine a_aloadn (pc := 49) dX7_drift_49 rfl rfl ?_
            refine a_getA (pc := 50) flX7_7 sh_47 rfl dX7_drift_50 ?_
            refine a_bipush (pc := 53) (v := (7 : Int32)) dX7_drift_53 (by decide) ?_
            refine a_aloadn (pc := 55) dX7_drift_55 rfl rfl ?_
            refine a_getA (pc := 56) flX7_7 sh_47 rfl dX7_drift_56 ?_
            refine a_bipush (pc := 59) (v := (7 : Int32)) dX7_drift_59 (by decide) ?_
            obtain ⟨hi12, hs⟩ := g_if hs
            refine a_iald (pc := 61) sh_48 hi12 dX7_drift_61 ?_
            refine a_i2l (pc := 62) dX7_drift_62 ?_
            refine a_ldc2 (pc := 63) kX7_164 dX7_drift_63 ?_
            refine a_lmul (pc := 66) dX7_drift_66 ?_
            refine a_ldc2 (pc := 67) kX7_166 dX7_drift_67 ?_
            refine a_ladd (pc := 70) dX7_drift_70 ?_
            refine a_ldc2 (pc := 71) kX7_168 dX7_drift_71 ?_
            refine a_land (pc := 74) dX7_drift_74 ?_
            refine a_l2i (pc := 75) dX7_drift_75 ?_
            obtain ⟨hi13, hs⟩ := g_if hs
            refine a_iast (pc := 76) sh_48 hi13 dX7_drift_76 ?_
            obtain ⟨S14, eS14, hs⟩ := g_let hs
            refine a_nmS eS14 ?_
            refine a_iloadn (pc := 77) dX7_drift_77 rfl rfl ?_
            refine a_aloadn (pc := 78) dX7_drift_78 rfl rfl ?_
            refine a_aloadn (pc := 79) dX7_drift_79 rfl rfl ?_
            refine a_getA (pc := 80) flX7_7 sh_47 rfl dX7_drift_80 ?_
            refine a_bipush (pc := 83) (v := (7 : Int32)) dX7_drift_83 (by decide) ?_
            obtain ⟨hi15, hs⟩ := g_if hs
            refine a_iald (pc := 85) sh_48 hi15 dX7_drift_85 ?_
            refine a_ldc (pc := 86) kX7_170 dX7_drift_86 ?_
            refine a_idiv (pc := 88) dX7_drift_88 (by decide) ?_
            refine a_bipush (pc := 89) (v := (64 : Int32)) dX7_drift_89 (by decide) ?_
            refine a_irem (pc := 91) dX7_drift_91 (by decide) ?_
            obtain ⟨r18, S16, hc17, hs⟩ := g_bind2 hs
            refine a_invVi (pc := 92) (ok_X7_rakes hc17) gyX7_rakes vyX7_rakes mlX7_171 sh_47 rfl (As := [.int (((S14.1 48 (7 : Int32).toNatClampNeg) / (65536 : Int32)) - ((S14.1 48 (7 : Int32).toNatClampNeg) / (65536 : Int32)) / (64 : Int32) * (64 : Int32))]) rfl rfl (by decide) (st := [.int x2]) rfl (Nat.le_of_ble_eq_true rfl) dX7_drift_92 ?_
            refine a_iadd (pc := 95) dX7_drift_95 ?_
            obtain ⟨v19, ev19, hs⟩ := g_let hs
            refine a_nmI ev19 ?_
            refine a_istoren (pc := 96) dX7_drift_96 rfl (Nat.le_of_ble_eq_true rfl) rfl (L' := [some (.ref (gad X 47)), some (.int x1), some (.int v19), some (.int x3)]) rfl ?_
            refine a_iinc (pc := 97) dX7_drift_97 rfl (v := x3 + (1 : Int32)) rfl (Nat.le_of_ble_eq_true rfl) rfl (L' := [some (.ref (gad X 47)), some (.int x1), some (.int v19), some (.int (x3 + (1 : Int32)))]) rfl ?_
            refine a_goto (pc := 100) (tgt := 36) dX7_drift_100 (by decide) ?_
            obtain rfl := Option.some.inj hs
            exact ih _ _ _ _ hR
      exact lp _ _ _ _ _ hR20
    · rw [if_neg c6] at h
      refine a_bipush (pc := 29) (v := (-3 : Int32)) dX7_drift_29 (by decide) ?_
      obtain ⟨rfl, rfl⟩ := Prod.mk.inj (Option.some.inj h)
      exact a_iret hp dX7_drift_31
  · rw [if_pos c4] at h
    refine a_iconst (pc := 12) (v := (-1 : Int32)) dX7_drift_12 (by decide) ?_
    obtain ⟨rfl, rfl⟩ := Prod.mk.inj (Option.some.inj h)
    exact a_iret hp dX7_drift_13
theorem dX7_rake_0 : decode cX7_rake 0 = .ok (.iload_n 1, 1) := by decide +kernel
theorem dX7_rake_1 : decode cX7_rake 1 = .ok (.invokestatic 65, 3) := by decide +kernel
theorem dX7_rake_4 : decode cX7_rake 4 = .ok (.ifCond .ne 5, 3) := by decide +kernel
theorem dX7_rake_7 : decode cX7_rake 7 = .ok (.iconst (-1), 1) := by decide +kernel
theorem dX7_rake_8 : decode cX7_rake 8 = .ok (.ireturn, 1) := by decide +kernel
theorem dX7_rake_9 : decode cX7_rake 9 = .ok (.aload_n 0, 1) := by decide +kernel
theorem dX7_rake_10 : decode cX7_rake 10 = .ok (.invokevirtual 153, 3) := by decide +kernel
theorem dX7_rake_13 : decode cX7_rake 13 = .ok (.aload_n 0, 1) := by decide +kernel
theorem dX7_rake_14 : decode cX7_rake 14 = .ok (.iload_n 1, 1) := by decide +kernel
theorem dX7_rake_15 : decode cX7_rake 15 = .ok (.invokevirtual 171, 3) := by decide +kernel
theorem dX7_rake_18 : decode cX7_rake 18 = .ok (.ireturn, 1) := by decide +kernel
def f_X7_rake (p1 : Int32) (S : gSt) : Option (Int32 × gSt) :=
gBind2 (f_X7_isCell p1 S) fun r3 S1 =>
(if r3 = 0 then
some ((-1 : Int32), S1)
else
(f_X7_notes S1).bind fun S5 =>
gBind2 (f_X7_rakes p1 S5) fun r9 S7 =>
some (r9, S7))
set_option maxHeartbeats 4000000 in
set_option maxRecDepth 20000 in
theorem ok_X7_rake {p1 : Int32} {S S0 : gSt} {r0 : Int32}  (h : f_X7_rake p1 S = some (r0, S0)) : gCT yX7_rake cX7_rake 2 (some .int) 2 (fun w => [.ref (w.2.1 47), .int p1]) S (some (.int r0)) S0 := by
  refine gEnter (fun X => [some (.ref (gad X 47)), some (.int p1)]) (by decide) (fun X => ⟨rfl, rfl⟩) (fun w => Nat.le_of_ble_eq_true rfl) (fun X hp => ?_)
  show AW X RX7 2 cX7_rake 0 [some (.ref (gad X 47)), some (.int p1)] [] S
  unfold f_X7_rake at h
  refine a_iloadn (pc := 0) dX7_rake_0 rfl rfl ?_
  obtain ⟨r3, S1, hc2, h⟩ := g_bind2 h
  refine a_invSi (pc := 1) (ok_X7_isCell hc2) gyX7_isCell syX7_isCell mlX7_65 (As := [.int p1]) rfl rfl (by decide) (st := []) rfl (Nat.le_of_ble_eq_true rfl) dX7_rake_1 ?_
  refine a_if_ne (pc := 4) (tgt := 9) dX7_rake_4 (by decide) (fun c4 => ?_) (fun c4 => ?_)
  · rw [if_neg c4] at h
    refine a_aloadn (pc := 9) dX7_rake_9 rfl rfl ?_
    obtain ⟨S5, hc6, h⟩ := g_bind h
    refine a_invVv (pc := 10) (ok_X7_notes hc6) gyX7_notes vyX7_notes mlX7_153 sh_47 rfl (As := []) rfl rfl (by decide) (st := []) rfl (Nat.le_of_ble_eq_true rfl) dX7_rake_10 ?_
    refine a_aloadn (pc := 13) dX7_rake_13 rfl rfl ?_
    refine a_iloadn (pc := 14) dX7_rake_14 rfl rfl ?_
    obtain ⟨r9, S7, hc8, h⟩ := g_bind2 h
    refine a_invVi (pc := 15) (ok_X7_rakes hc8) gyX7_rakes vyX7_rakes mlX7_171 sh_47 rfl (As := [.int p1]) rfl rfl (by decide) (st := []) rfl (Nat.le_of_ble_eq_true rfl) dX7_rake_15 ?_
    obtain ⟨rfl, rfl⟩ := Prod.mk.inj (Option.some.inj h)
    exact a_iret hp dX7_rake_18
  · rw [if_pos c4] at h
    refine a_iconst (pc := 7) (v := (-1 : Int32)) dX7_rake_7 (by decide) ?_
    obtain ⟨rfl, rfl⟩ := Prod.mk.inj (Option.some.inj h)
    exact a_iret hp dX7_rake_8
theorem dX7_undo_0 : decode cX7_undo 0 = .ok (.aload_n 0, 1) := by decide +kernel
theorem dX7_undo_1 : decode cX7_undo 1 = .ok (.getfield 69, 3) := by decide +kernel
theorem dX7_undo_4 : decode cX7_undo 4 = .ok (.ifCond .ne 6, 3) := by decide +kernel
theorem dX7_undo_7 : decode cX7_undo 7 = .ok (.bipush (-4), 2) := by decide +kernel
theorem dX7_undo_9 : decode cX7_undo 9 = .ok (.ireturn, 1) := by decide +kernel
theorem dX7_undo_10 : decode cX7_undo 10 = .ok (.aload_n 0, 1) := by decide +kernel
theorem dX7_undo_11 : decode cX7_undo 11 = .ok (.dup, 1) := by decide +kernel
theorem dX7_undo_12 : decode cX7_undo 12 = .ok (.getfield 69, 3) := by decide +kernel
theorem dX7_undo_15 : decode cX7_undo 15 = .ok (.iconst 1, 1) := by decide +kernel
theorem dX7_undo_16 : decode cX7_undo 16 = .ok (.isub, 1) := by decide +kernel
theorem dX7_undo_17 : decode cX7_undo 17 = .ok (.putfield 69, 3) := by decide +kernel
theorem dX7_undo_20 : decode cX7_undo 20 = .ok (.sipush 416, 3) := by decide +kernel
theorem dX7_undo_23 : decode cX7_undo 23 = .ok (.aload_n 0, 1) := by decide +kernel
theorem dX7_undo_24 : decode cX7_undo 24 = .ok (.getfield 69, 3) := by decide +kernel
theorem dX7_undo_27 : decode cX7_undo 27 = .ok (.imul, 1) := by decide +kernel
theorem dX7_undo_28 : decode cX7_undo 28 = .ok (.istore_n 1, 1) := by decide +kernel
theorem dX7_undo_29 : decode cX7_undo 29 = .ok (.aload_n 0, 1) := by decide +kernel
theorem dX7_undo_30 : decode cX7_undo 30 = .ok (.getfield 7, 3) := by decide +kernel
theorem dX7_undo_33 : decode cX7_undo 33 = .ok (.bipush 6, 2) := by decide +kernel
theorem dX7_undo_35 : decode cX7_undo 35 = .ok (.aload_n 0, 1) := by decide +kernel
theorem dX7_undo_36 : decode cX7_undo 36 = .ok (.getfield 22, 3) := by decide +kernel
theorem dX7_undo_39 : decode cX7_undo 39 = .ok (.iload_n 1, 1) := by decide +kernel
theorem dX7_undo_40 : decode cX7_undo 40 = .ok (.bipush 6, 2) := by decide +kernel
theorem dX7_undo_42 : decode cX7_undo 42 = .ok (.iadd, 1) := by decide +kernel
theorem dX7_undo_43 : decode cX7_undo 43 = .ok (.iaload, 1) := by decide +kernel
theorem dX7_undo_44 : decode cX7_undo 44 = .ok (.iastore, 1) := by decide +kernel
theorem dX7_undo_45 : decode cX7_undo 45 = .ok (.aload_n 0, 1) := by decide +kernel
theorem dX7_undo_46 : decode cX7_undo 46 = .ok (.getfield 7, 3) := by decide +kernel
theorem dX7_undo_49 : decode cX7_undo 49 = .ok (.bipush 7, 2) := by decide +kernel
theorem dX7_undo_51 : decode cX7_undo 51 = .ok (.aload_n 0, 1) := by decide +kernel
theorem dX7_undo_52 : decode cX7_undo 52 = .ok (.getfield 22, 3) := by decide +kernel
theorem dX7_undo_55 : decode cX7_undo 55 = .ok (.iload_n 1, 1) := by decide +kernel
theorem dX7_undo_56 : decode cX7_undo 56 = .ok (.bipush 7, 2) := by decide +kernel
theorem dX7_undo_58 : decode cX7_undo 58 = .ok (.iadd, 1) := by decide +kernel
theorem dX7_undo_59 : decode cX7_undo 59 = .ok (.iaload, 1) := by decide +kernel
theorem dX7_undo_60 : decode cX7_undo 60 = .ok (.iastore, 1) := by decide +kernel
theorem dX7_undo_61 : decode cX7_undo 61 = .ok (.bipush 8, 2) := by decide +kernel
theorem dX7_undo_63 : decode cX7_undo 63 = .ok (.istore_n 2, 1) := by decide +kernel
theorem dX7_undo_64 : decode cX7_undo 64 = .ok (.iload_n 2, 1) := by decide +kernel
theorem dX7_undo_65 : decode cX7_undo 65 = .ok (.sipush 416, 3) := by decide +kernel
theorem dX7_undo_68 : decode cX7_undo 68 = .ok (.if_icmp .ge 23, 3) := by decide +kernel
theorem dX7_undo_71 : decode cX7_undo 71 = .ok (.aload_n 0, 1) := by decide +kernel
theorem dX7_undo_72 : decode cX7_undo 72 = .ok (.getfield 7, 3) := by decide +kernel
theorem dX7_undo_75 : decode cX7_undo 75 = .ok (.iload_n 2, 1) := by decide +kernel
theorem dX7_undo_76 : decode cX7_undo 76 = .ok (.aload_n 0, 1) := by decide +kernel
theorem dX7_undo_77 : decode cX7_undo 77 = .ok (.getfield 22, 3) := by decide +kernel
theorem dX7_undo_80 : decode cX7_undo 80 = .ok (.iload_n 1, 1) := by decide +kernel
theorem dX7_undo_81 : decode cX7_undo 81 = .ok (.iload_n 2, 1) := by decide +kernel
theorem dX7_undo_82 : decode cX7_undo 82 = .ok (.iadd, 1) := by decide +kernel
theorem dX7_undo_83 : decode cX7_undo 83 = .ok (.iaload, 1) := by decide +kernel
theorem dX7_undo_84 : decode cX7_undo 84 = .ok (.iastore, 1) := by decide +kernel
theorem dX7_undo_85 : decode cX7_undo 85 = .ok (.iinc 2 1, 3) := by decide +kernel
theorem dX7_undo_88 : decode cX7_undo 88 = .ok (.goto (-24), 3) := by decide +kernel
theorem dX7_undo_91 : decode cX7_undo 91 = .ok (.aload_n 0, 1) := by decide +kernel
theorem dX7_undo_92 : decode cX7_undo 92 = .ok (.getfield 69, 3) := by decide +kernel
theorem dX7_undo_95 : decode cX7_undo 95 = .ok (.ireturn, 1) := by decide +kernel
def f_X7_undo_s64_b (x1 : Int32) (x2 : Int32) (S : gSt) : Option ((Int32 × Int32 × gSt) ⊕ (gSt)) :=
(if (416 : Int32) ≤ x2 then
some (.inr (S))
else
if gin (x1 + x2) 3328 then
(if gin x2 416 then
gLet (gI S 48 x2.toNatClampNeg (S.1 52 (x1 + x2).toNatClampNeg)) fun S13 =>
(some (.inl (x1, x2 + (1 : Int32), S13))) else none) else none)
def f_X7_undo_s64 : (Int32 × Int32 × gSt) → Option ((Int32 × Int32 × gSt) ⊕ (gSt)) := fun t => f_X7_undo_s64_b t.1 t.2.1 t.2.2
def f_X7_undo (S : gSt) : Option (Int32 × gSt) :=
(if (S.1 47 8) = 0 then
some ((-4 : Int32), S)
else
gLet (gI S 47 8 ((S.1 47 8) - (1 : Int32))) fun S2 =>
gLet ((416 : Int32) * (S2.1 47 8)) fun v3 =>
if gin (v3 + (6 : Int32)) 3328 then
(if gin (6 : Int32) 416 then
gLet (gI S2 48 (6 : Int32).toNatClampNeg (S2.1 52 (v3 + (6 : Int32)).toNatClampNeg)) fun S6 =>
(if gin (v3 + (7 : Int32)) 3328 then
(if gin (7 : Int32) 416 then
gLet (gI S6 48 (7 : Int32).toNatClampNeg (S6.1 52 (v3 + (7 : Int32)).toNatClampNeg)) fun S9 =>
((gLoop (f_X7_undo_s64) gFuel (v3, (8 : Int32), S9)).bind fun q14 => match q14 with
| S14 =>
some (S14.1 47 8, S14)) else none) else none) else none) else none)
set_option maxHeartbeats 4000000 in
set_option maxRecDepth 20000 in
theorem ok_X7_undo {S S0 : gSt} {r0 : Int32}  (h : f_X7_undo S = some (r0, S0)) : gCT yX7_undo cX7_undo 3 (some .int) 0 (fun w => [.ref (w.2.1 47)]) S (some (.int r0)) S0 := by
  refine gEnter (fun X => [some (.ref (gad X 47)), none, none]) (by decide) (fun X => ⟨rfl, rfl⟩) (fun w => Nat.le_of_ble_eq_true rfl) (fun X hp => ?_)
  show AW X RX7 0 cX7_undo 0 [some (.ref (gad X 47)), none, none] [] S
  unfold f_X7_undo at h
  refine a_aloadn (pc := 0) dX7_undo_0 rfl rfl ?_
  refine a_getI (pc := 1) flX7_69 sh_47 rfl dX7_undo_1 ?_
  refine a_if_ne (pc := 4) (tgt := 10) dX7_undo_4 (by decide) (fun c1 => ?_) (fun c1 => ?_)
  · rw [if_neg c1] at h
    refine a_aloadn (pc := 10) dX7_undo_10 rfl rfl ?_
    refine a_dup (pc := 11) dX7_undo_11 rfl ?_
    refine a_getI (pc := 12) flX7_69 sh_47 rfl dX7_undo_12 ?_
    refine a_iconst (pc := 15) (v := (1 : Int32)) dX7_undo_15 (by decide) ?_
    refine a_isub (pc := 16) dX7_undo_16 ?_
    refine a_putI (pc := 17) flX7_69 sh_47 rfl rfl rfl dX7_undo_17 ?_
    obtain ⟨S2, eS2, h⟩ := g_let h
    refine a_nmS eS2 ?_
    refine a_sipush (pc := 20) (v := (416 : Int32)) dX7_undo_20 (by decide) ?_
    refine a_aloadn (pc := 23) dX7_undo_23 rfl rfl ?_
    refine a_getI (pc := 24) flX7_69 sh_47 rfl dX7_undo_24 ?_
    refine a_imul (pc := 27) dX7_undo_27 ?_
    obtain ⟨v3, ev3, h⟩ := g_let h
    refine a_nmI ev3 ?_
    refine a_istoren (pc := 28) dX7_undo_28 rfl (Nat.le_of_ble_eq_true rfl) rfl (L' := [some (.ref (gad X 47)), some (.int v3), none]) rfl ?_
    refine a_aloadn (pc := 29) dX7_undo_29 rfl rfl ?_
    refine a_getA (pc := 30) flX7_7 sh_47 rfl dX7_undo_30 ?_
    refine a_bipush (pc := 33) (v := (6 : Int32)) dX7_undo_33 (by decide) ?_
    refine a_aloadn (pc := 35) dX7_undo_35 rfl rfl ?_
    refine a_getA (pc := 36) flX7_22 sh_47 rfl dX7_undo_36 ?_
    refine a_iloadn (pc := 39) dX7_undo_39 rfl rfl ?_
    refine a_bipush (pc := 40) (v := (6 : Int32)) dX7_undo_40 (by decide) ?_
    refine a_iadd (pc := 42) dX7_undo_42 ?_
    obtain ⟨hi4, h⟩ := g_if h
    refine a_iald (pc := 43) sh_52 hi4 dX7_undo_43 ?_
    obtain ⟨hi5, h⟩ := g_if h
    refine a_iast (pc := 44) sh_48 hi5 dX7_undo_44 ?_
    obtain ⟨S6, eS6, h⟩ := g_let h
    refine a_nmS eS6 ?_
    refine a_aloadn (pc := 45) dX7_undo_45 rfl rfl ?_
    refine a_getA (pc := 46) flX7_7 sh_47 rfl dX7_undo_46 ?_
    refine a_bipush (pc := 49) (v := (7 : Int32)) dX7_undo_49 (by decide) ?_
    refine a_aloadn (pc := 51) dX7_undo_51 rfl rfl ?_
    refine a_getA (pc := 52) flX7_22 sh_47 rfl dX7_undo_52 ?_
    refine a_iloadn (pc := 55) dX7_undo_55 rfl rfl ?_
    refine a_bipush (pc := 56) (v := (7 : Int32)) dX7_undo_56 (by decide) ?_
    refine a_iadd (pc := 58) dX7_undo_58 ?_
    obtain ⟨hi7, h⟩ := g_if h
    refine a_iald (pc := 59) sh_52 hi7 dX7_undo_59 ?_
    obtain ⟨hi8, h⟩ := g_if h
    refine a_iast (pc := 60) sh_48 hi8 dX7_undo_60 ?_
    obtain ⟨S9, eS9, h⟩ := g_let h
    refine a_nmS eS9 ?_
    refine a_bipush (pc := 61) (v := (8 : Int32)) dX7_undo_61 (by decide) ?_
    refine a_istoren (pc := 63) dX7_undo_63 rfl (Nat.le_of_ble_eq_true rfl) rfl (L' := [some (.ref (gad X 47)), some (.int v3), some (.int (8 : Int32))]) rfl ?_
    obtain ⟨R14, hR14, h⟩ := g_bind h
    have E64 : ∀  (S14 : gSt), (some (S14.1 47 8, S14)) = some (r0, S0) → AW X RX7 0 cX7_undo 91 [some (.ref (gad X 47)), none, none] [] S14 := by
      intro S14 h
      refine a_aloadn (pc := 91) dX7_undo_91 rfl rfl ?_
      refine a_getI (pc := 92) flX7_69 sh_47 rfl dX7_undo_92 ?_
      obtain ⟨rfl, rfl⟩ := Prod.mk.inj (Option.some.inj h)
      exact a_iret hp dX7_undo_95
    have lp : ∀ (n : Nat) (x1 : Int32) (x2 : Int32) (S : gSt), gLoop (f_X7_undo_s64) n (x1, x2, S) = some R14 → AW X RX7 0 cX7_undo 64 [some (.ref (gad X 47)), some (.int x1), some (.int x2)] [] S := by
      intro n
      induction n with
      | zero => intro x1 x2 S hR; cases hR
      | succ n ih =>
        intro x1 x2 S hR
        obtain ⟨q, hs, hR⟩ := g_bind hR
        have hs : f_X7_undo_s64_b x1 x2 S = some q := hs
        unfold f_X7_undo_s64_b at hs
        refine a_iloadn (pc := 64) dX7_undo_64 rfl rfl ?_
        refine a_sipush (pc := 65) (v := (416 : Int32)) dX7_undo_65 (by decide) ?_
        refine a_icmp_ge (pc := 68) (tgt := 91) dX7_undo_68 (by decide) (fun c10 => ?_) (fun c10 => ?_)
        · rw [if_pos c10] at hs
          obtain rfl := Option.some.inj hs
          obtain rfl := Option.some.inj hR
          refine a_mask [true, false, false] (L' := [some (.ref (gad X 47)), none, none]) rfl ?_
          exact E64  _ h
        · rw [if_neg c10] at hs
          refine a_aloadn (pc := 71) dX7_undo_71 rfl rfl ?_
          refine a_getA (pc := 72) flX7_7 sh_47 rfl dX7_undo_72 ?_
          refine a_iloadn (pc := 75) dX7_undo_75 rfl rfl ?_
          refine a_aloadn (pc := 76) dX7_undo_76 rfl rfl ?_
          refine a_getA (pc := 77) flX7_22 sh_47 rfl dX7_undo_77 ?_
          refine a_iloadn (pc := 80) dX7_undo_80 rfl rfl ?_
          refine a_iloadn (pc := 81) dX7_undo_81 rfl rfl ?_
          refine a_iadd (pc := 82) dX7_undo_82 ?_
          obtain ⟨hi11, hs⟩ := g_if hs
          refine a_iald (pc := 83) sh_52 hi11 dX7_undo_83 ?_
          obtain ⟨hi12, hs⟩ := g_if hs
          refine a_iast (pc := 84) sh_48 hi12 dX7_undo_84 ?_
          obtain ⟨S13, eS13, hs⟩ := g_let hs
          refine a_nmS eS13 ?_
          refine a_iinc (pc := 85) dX7_undo_85 rfl (v := x2 + (1 : Int32)) rfl (Nat.le_of_ble_eq_true rfl) rfl (L' := [some (.ref (gad X 47)), some (.int x1), some (.int (x2 + (1 : Int32)))]) rfl ?_
          refine a_goto (pc := 88) (tgt := 64) dX7_undo_88 (by decide) ?_
          obtain rfl := Option.some.inj hs
          exact ih _ _ _ hR
    exact lp _ _ _ _ hR14
  · rw [if_pos c1] at h
    refine a_bipush (pc := 7) (v := (-4 : Int32)) dX7_undo_7 (by decide) ?_
    obtain ⟨rfl, rfl⟩ := Prod.mk.inj (Option.some.inj h)
    exact a_iret hp dX7_undo_9
theorem dX7_seed_0 : decode cX7_seed 0 = .ok (.iload_n 1, 1) := by decide +kernel
theorem dX7_seed_1 : decode cX7_seed 1 = .ok (.ifCond .ge 5, 3) := by decide +kernel
theorem dX7_seed_4 : decode cX7_seed 4 = .ok (.iconst (-1), 1) := by decide +kernel
theorem dX7_seed_5 : decode cX7_seed 5 = .ok (.ireturn, 1) := by decide +kernel
theorem dX7_seed_6 : decode cX7_seed 6 = .ok (.aload_n 0, 1) := by decide +kernel
theorem dX7_seed_7 : decode cX7_seed 7 = .ok (.getfield 7, 3) := by decide +kernel
theorem dX7_seed_10 : decode cX7_seed 10 = .ok (.bipush 7, 2) := by decide +kernel
theorem dX7_seed_12 : decode cX7_seed 12 = .ok (.iaload, 1) := by decide +kernel
theorem dX7_seed_13 : decode cX7_seed 13 = .ok (.istore_n 2, 1) := by decide +kernel
theorem dX7_seed_14 : decode cX7_seed 14 = .ok (.aload_n 0, 1) := by decide +kernel
theorem dX7_seed_15 : decode cX7_seed 15 = .ok (.getfield 7, 3) := by decide +kernel
theorem dX7_seed_18 : decode cX7_seed 18 = .ok (.bipush 7, 2) := by decide +kernel
theorem dX7_seed_20 : decode cX7_seed 20 = .ok (.iload_n 1, 1) := by decide +kernel
theorem dX7_seed_21 : decode cX7_seed 21 = .ok (.iastore, 1) := by decide +kernel
theorem dX7_seed_22 : decode cX7_seed 22 = .ok (.iload_n 2, 1) := by decide +kernel
theorem dX7_seed_23 : decode cX7_seed 23 = .ok (.ireturn, 1) := by decide +kernel
def f_X7_seed (p1 : Int32) (S : gSt) : Option (Int32 × gSt) :=
(if 0 ≤ p1 then
if gin (7 : Int32) 416 then
(gLet (S.1 48 (7 : Int32).toNatClampNeg) fun v3 =>
if gin (7 : Int32) 416 then
gLet (gI S 48 (7 : Int32).toNatClampNeg p1) fun S5 =>
(some (v3, S5)) else none) else none
else
some ((-1 : Int32), S))
set_option maxHeartbeats 4000000 in
set_option maxRecDepth 20000 in
theorem ok_X7_seed {p1 : Int32} {S S0 : gSt} {r0 : Int32}  (h : f_X7_seed p1 S = some (r0, S0)) : gCT yX7_seed cX7_seed 3 (some .int) 0 (fun w => [.ref (w.2.1 47), .int p1]) S (some (.int r0)) S0 := by
  refine gEnter (fun X => [some (.ref (gad X 47)), some (.int p1), none]) (by decide) (fun X => ⟨rfl, rfl⟩) (fun w => Nat.le_of_ble_eq_true rfl) (fun X hp => ?_)
  show AW X RX7 0 cX7_seed 0 [some (.ref (gad X 47)), some (.int p1), none] [] S
  unfold f_X7_seed at h
  refine a_iloadn (pc := 0) dX7_seed_0 rfl rfl ?_
  refine a_if_ge (pc := 1) (tgt := 6) dX7_seed_1 (by decide) (fun c1 => ?_) (fun c1 => ?_)
  · rw [if_pos c1] at h
    refine a_aloadn (pc := 6) dX7_seed_6 rfl rfl ?_
    refine a_getA (pc := 7) flX7_7 sh_47 rfl dX7_seed_7 ?_
    refine a_bipush (pc := 10) (v := (7 : Int32)) dX7_seed_10 (by decide) ?_
    obtain ⟨hi2, h⟩ := g_if h
    refine a_iald (pc := 12) sh_48 hi2 dX7_seed_12 ?_
    obtain ⟨v3, ev3, h⟩ := g_let h
    refine a_nmI ev3 ?_
    refine a_istoren (pc := 13) dX7_seed_13 rfl (Nat.le_of_ble_eq_true rfl) rfl (L' := [some (.ref (gad X 47)), some (.int p1), some (.int v3)]) rfl ?_
    refine a_aloadn (pc := 14) dX7_seed_14 rfl rfl ?_
    refine a_getA (pc := 15) flX7_7 sh_47 rfl dX7_seed_15 ?_
    refine a_bipush (pc := 18) (v := (7 : Int32)) dX7_seed_18 (by decide) ?_
    refine a_iloadn (pc := 20) dX7_seed_20 rfl rfl ?_
    obtain ⟨hi4, h⟩ := g_if h
    refine a_iast (pc := 21) sh_48 hi4 dX7_seed_21 ?_
    obtain ⟨S5, eS5, h⟩ := g_let h
    refine a_nmS eS5 ?_
    refine a_iloadn (pc := 22) dX7_seed_22 rfl rfl ?_
    obtain ⟨rfl, rfl⟩ := Prod.mk.inj (Option.some.inj h)
    exact a_iret hp dX7_seed_23
  · rw [if_neg c1] at h
    refine a_iconst (pc := 4) (v := (-1 : Int32)) dX7_seed_4 (by decide) ?_
    obtain ⟨rfl, rfl⟩ := Prod.mk.inj (Option.some.inj h)
    exact a_iret hp dX7_seed_5
theorem dX7_asides_0 : decode cX7_asides 0 = .ok (.iconst 0, 1) := by decide +kernel
theorem dX7_asides_1 : decode cX7_asides 1 = .ok (.istore_n 1, 1) := by decide +kernel
theorem dX7_asides_2 : decode cX7_asides 2 = .ok (.iload_n 1, 1) := by decide +kernel
theorem dX7_asides_3 : decode cX7_asides 3 = .ok (.sipush 416, 3) := by decide +kernel
theorem dX7_asides_6 : decode cX7_asides 6 = .ok (.if_icmp .ge 21, 3) := by decide +kernel
theorem dX7_asides_9 : decode cX7_asides 9 = .ok (.aload_n 0, 1) := by decide +kernel
theorem dX7_asides_10 : decode cX7_asides 10 = .ok (.getfield 25, 3) := by decide +kernel
theorem dX7_asides_13 : decode cX7_asides 13 = .ok (.iload_n 1, 1) := by decide +kernel
theorem dX7_asides_14 : decode cX7_asides 14 = .ok (.aload_n 0, 1) := by decide +kernel
theorem dX7_asides_15 : decode cX7_asides 15 = .ok (.getfield 7, 3) := by decide +kernel
theorem dX7_asides_18 : decode cX7_asides 18 = .ok (.iload_n 1, 1) := by decide +kernel
theorem dX7_asides_19 : decode cX7_asides 19 = .ok (.iaload, 1) := by decide +kernel
theorem dX7_asides_20 : decode cX7_asides 20 = .ok (.iastore, 1) := by decide +kernel
theorem dX7_asides_21 : decode cX7_asides 21 = .ok (.iinc 1 1, 3) := by decide +kernel
theorem dX7_asides_24 : decode cX7_asides 24 = .ok (.goto (-22), 3) := by decide +kernel
theorem dX7_asides_27 : decode cX7_asides 27 = .ok (.return_, 1) := by decide +kernel
def f_X7_asides_s2_b (x1 : Int32) (S : gSt) : Option ((Int32 × gSt) ⊕ (gSt)) :=
(if (416 : Int32) ≤ x1 then
some (.inr (S))
else
if gin x1 416 then
(if gin x1 416 then
gLet (gI S 53 x1.toNatClampNeg (S.1 48 x1.toNatClampNeg)) fun S4 =>
(some (.inl (x1 + (1 : Int32), S4))) else none) else none)
def f_X7_asides_s2 : (Int32 × gSt) → Option ((Int32 × gSt) ⊕ (gSt)) := fun t => f_X7_asides_s2_b t.1 t.2
def f_X7_asides (S : gSt) : Option gSt :=
(gLoop (f_X7_asides_s2) gFuel ((0 : Int32), S)).bind fun q5 => match q5 with
| S5 =>
some S5
set_option maxHeartbeats 4000000 in
set_option maxRecDepth 20000 in
theorem ok_X7_asides {S S0 : gSt}  (h : f_X7_asides S = some S0) : gCT yX7_asides cX7_asides 2 none 0 (fun w => [.ref (w.2.1 47)]) S none S0 := by
  refine gEnter (fun X => [some (.ref (gad X 47)), none]) (by decide) (fun X => ⟨rfl, rfl⟩) (fun w => Nat.le_of_ble_eq_true rfl) (fun X hp => ?_)
  show AW X RX7 0 cX7_asides 0 [some (.ref (gad X 47)), none] [] S
  unfold f_X7_asides at h
  refine a_iconst (pc := 0) (v := (0 : Int32)) dX7_asides_0 (by decide) ?_
  refine a_istoren (pc := 1) dX7_asides_1 rfl (Nat.le_of_ble_eq_true rfl) rfl (L' := [some (.ref (gad X 47)), some (.int (0 : Int32))]) rfl ?_
  obtain ⟨R5, hR5, h⟩ := g_bind h
  have E2 : ∀  (S5 : gSt), (some S5) = some S0 → AW X RX7 0 cX7_asides 27 [none, none] [] S5 := by
    intro S5 h
    obtain rfl := Option.some.inj h
    exact a_vret hp dX7_asides_27
  have lp : ∀ (n : Nat) (x1 : Int32) (S : gSt), gLoop (f_X7_asides_s2) n (x1, S) = some R5 → AW X RX7 0 cX7_asides 2 [some (.ref (gad X 47)), some (.int x1)] [] S := by
    intro n
    induction n with
    | zero => intro x1 S hR; cases hR
    | succ n ih =>
      intro x1 S hR
      obtain ⟨q, hs, hR⟩ := g_bind hR
      have hs : f_X7_asides_s2_b x1 S = some q := hs
      unfold f_X7_asides_s2_b at hs
      refine a_iloadn (pc := 2) dX7_asides_2 rfl rfl ?_
      refine a_sipush (pc := 3) (v := (416 : Int32)) dX7_asides_3 (by decide) ?_
      refine a_icmp_ge (pc := 6) (tgt := 27) dX7_asides_6 (by decide) (fun c1 => ?_) (fun c1 => ?_)
      · rw [if_pos c1] at hs
        obtain rfl := Option.some.inj hs
        obtain rfl := Option.some.inj hR
        refine a_mask [false, false] (L' := [none, none]) rfl ?_
        exact E2  _ h
      · rw [if_neg c1] at hs
        refine a_aloadn (pc := 9) dX7_asides_9 rfl rfl ?_
        refine a_getA (pc := 10) flX7_25 sh_47 rfl dX7_asides_10 ?_
        refine a_iloadn (pc := 13) dX7_asides_13 rfl rfl ?_
        refine a_aloadn (pc := 14) dX7_asides_14 rfl rfl ?_
        refine a_getA (pc := 15) flX7_7 sh_47 rfl dX7_asides_15 ?_
        refine a_iloadn (pc := 18) dX7_asides_18 rfl rfl ?_
        obtain ⟨hi2, hs⟩ := g_if hs
        refine a_iald (pc := 19) sh_48 hi2 dX7_asides_19 ?_
        obtain ⟨hi3, hs⟩ := g_if hs
        refine a_iast (pc := 20) sh_53 hi3 dX7_asides_20 ?_
        obtain ⟨S4, eS4, hs⟩ := g_let hs
        refine a_nmS eS4 ?_
        refine a_iinc (pc := 21) dX7_asides_21 rfl (v := x1 + (1 : Int32)) rfl (Nat.le_of_ble_eq_true rfl) rfl (L' := [some (.ref (gad X 47)), some (.int (x1 + (1 : Int32)))]) rfl ?_
        refine a_goto (pc := 24) (tgt := 2) dX7_asides_24 (by decide) ?_
        obtain rfl := Option.some.inj hs
        exact ih _ _ hR
  exact lp _ _ _ hR5
theorem dX7_goesOn_0 : decode cX7_goesOn 0 = .ok (.iconst 0, 1) := by decide +kernel
theorem dX7_goesOn_1 : decode cX7_goesOn 1 = .ok (.istore_n 2, 1) := by decide +kernel
theorem dX7_goesOn_2 : decode cX7_goesOn 2 = .ok (.iload_n 2, 1) := by decide +kernel
theorem dX7_goesOn_3 : decode cX7_goesOn 3 = .ok (.iload_n 1, 1) := by decide +kernel
theorem dX7_goesOn_4 : decode cX7_goesOn 4 = .ok (.if_icmp .ge 13, 3) := by decide +kernel
theorem dX7_goesOn_7 : decode cX7_goesOn 7 = .ok (.aload_n 0, 1) := by decide +kernel
theorem dX7_goesOn_8 : decode cX7_goesOn 8 = .ok (.invokevirtual 161, 3) := by decide +kernel
theorem dX7_goesOn_11 : decode cX7_goesOn 11 = .ok (.iinc 2 1, 3) := by decide +kernel
theorem dX7_goesOn_14 : decode cX7_goesOn 14 = .ok (.goto (-12), 3) := by decide +kernel
theorem dX7_goesOn_17 : decode cX7_goesOn 17 = .ok (.return_, 1) := by decide +kernel
def f_X7_goesOn_s2_b (x1 : Int32) (x2 : Int32) (S : gSt) : Option ((Int32 × Int32 × gSt) ⊕ (gSt)) :=
(if x1 ≤ x2 then
some (.inr (S))
else
(f_X7_goesBy S).bind fun S2 =>
some (.inl (x1, x2 + (1 : Int32), S2)))
def f_X7_goesOn_s2 : (Int32 × Int32 × gSt) → Option ((Int32 × Int32 × gSt) ⊕ (gSt)) := fun t => f_X7_goesOn_s2_b t.1 t.2.1 t.2.2
def f_X7_goesOn (p1 : Int32) (S : gSt) : Option gSt :=
(gLoop (f_X7_goesOn_s2) gFuel (p1, (0 : Int32), S)).bind fun q4 => match q4 with
| S4 =>
some S4
set_option maxHeartbeats 4000000 in
set_option maxRecDepth 20000 in
theorem ok_X7_goesOn {p1 : Int32} {S S0 : gSt}  (h : f_X7_goesOn p1 S = some S0) : gCT yX7_goesOn cX7_goesOn 3 none 1 (fun w => [.ref (w.2.1 47), .int p1]) S none S0 := by
  refine gEnter (fun X => [some (.ref (gad X 47)), some (.int p1), none]) (by decide) (fun X => ⟨rfl, rfl⟩) (fun w => Nat.le_of_ble_eq_true rfl) (fun X hp => ?_)
  show AW X RX7 1 cX7_goesOn 0 [some (.ref (gad X 47)), some (.int p1), none] [] S
  unfold f_X7_goesOn at h
  refine a_iconst (pc := 0) (v := (0 : Int32)) dX7_goesOn_0 (by decide) ?_
  refine a_istoren (pc := 1) dX7_goesOn_1 rfl (Nat.le_of_ble_eq_true rfl) rfl (L' := [some (.ref (gad X 47)), some (.int p1), some (.int (0 : Int32))]) rfl ?_
  obtain ⟨R4, hR4, h⟩ := g_bind h
  have E2 : ∀  (S4 : gSt), (some S4) = some S0 → AW X RX7 1 cX7_goesOn 17 [none, none, none] [] S4 := by
    intro S4 h
    obtain rfl := Option.some.inj h
    exact a_vret hp dX7_goesOn_17
  have lp : ∀ (n : Nat) (x1 : Int32) (x2 : Int32) (S : gSt), gLoop (f_X7_goesOn_s2) n (x1, x2, S) = some R4 → AW X RX7 1 cX7_goesOn 2 [some (.ref (gad X 47)), some (.int x1), some (.int x2)] [] S := by
    intro n
    induction n with
    | zero => intro x1 x2 S hR; cases hR
    | succ n ih =>
      intro x1 x2 S hR
      obtain ⟨q, hs, hR⟩ := g_bind hR
      have hs : f_X7_goesOn_s2_b x1 x2 S = some q := hs
      unfold f_X7_goesOn_s2_b at hs
      refine a_iloadn (pc := 2) dX7_goesOn_2 rfl rfl ?_
      refine a_iloadn (pc := 3) dX7_goesOn_3 rfl rfl ?_
      refine a_icmp_ge (pc := 4) (tgt := 17) dX7_goesOn_4 (by decide) (fun c1 => ?_) (fun c1 => ?_)
      · rw [if_pos c1] at hs
        obtain rfl := Option.some.inj hs
        obtain rfl := Option.some.inj hR
        refine a_mask [false, false, false] (L' := [none, none, none]) rfl ?_
        exact E2  _ h
      · rw [if_neg c1] at hs
        refine a_aloadn (pc := 7) dX7_goesOn_7 rfl rfl ?_
        obtain ⟨S2, hc3, hs⟩ := g_bind hs
        refine a_invVv (pc := 8) (ok_X7_goesBy hc3) gyX7_goesBy vyX7_goesBy mlX7_161 sh_47 rfl (As := []) rfl rfl (by decide) (st := []) rfl (Nat.le_of_ble_eq_true rfl) dX7_goesOn_8 ?_
        refine a_iinc (pc := 11) dX7_goesOn_11 rfl (v := x2 + (1 : Int32)) rfl (Nat.le_of_ble_eq_true rfl) rfl (L' := [some (.ref (gad X 47)), some (.int x1), some (.int (x2 + (1 : Int32)))]) rfl ?_
        refine a_goto (pc := 14) (tgt := 2) dX7_goesOn_14 (by decide) ?_
        obtain rfl := Option.some.inj hs
        exact ih _ _ _ hR
  exact lp _ _ _ _ hR4
theorem dX7_backs_0 : decode cX7_backs 0 = .ok (.iconst 0, 1) := by decide +kernel
theorem dX7_backs_1 : decode cX7_backs 1 = .ok (.istore_n 1, 1) := by decide +kernel
theorem dX7_backs_2 : decode cX7_backs 2 = .ok (.iload_n 1, 1) := by decide +kernel
theorem dX7_backs_3 : decode cX7_backs 3 = .ok (.sipush 416, 3) := by decide +kernel
theorem dX7_backs_6 : decode cX7_backs 6 = .ok (.if_icmp .ge 21, 3) := by decide +kernel
theorem dX7_backs_9 : decode cX7_backs 9 = .ok (.aload_n 0, 1) := by decide +kernel
theorem dX7_backs_10 : decode cX7_backs 10 = .ok (.getfield 7, 3) := by decide +kernel
theorem dX7_backs_13 : decode cX7_backs 13 = .ok (.iload_n 1, 1) := by decide +kernel
theorem dX7_backs_14 : decode cX7_backs 14 = .ok (.aload_n 0, 1) := by decide +kernel
theorem dX7_backs_15 : decode cX7_backs 15 = .ok (.getfield 25, 3) := by decide +kernel
theorem dX7_backs_18 : decode cX7_backs 18 = .ok (.iload_n 1, 1) := by decide +kernel
theorem dX7_backs_19 : decode cX7_backs 19 = .ok (.iaload, 1) := by decide +kernel
theorem dX7_backs_20 : decode cX7_backs 20 = .ok (.iastore, 1) := by decide +kernel
theorem dX7_backs_21 : decode cX7_backs 21 = .ok (.iinc 1 1, 3) := by decide +kernel
theorem dX7_backs_24 : decode cX7_backs 24 = .ok (.goto (-22), 3) := by decide +kernel
theorem dX7_backs_27 : decode cX7_backs 27 = .ok (.return_, 1) := by decide +kernel
def f_X7_backs_s2_b (x1 : Int32) (S : gSt) : Option ((Int32 × gSt) ⊕ (gSt)) :=
(if (416 : Int32) ≤ x1 then
some (.inr (S))
else
if gin x1 416 then
(if gin x1 416 then
gLet (gI S 48 x1.toNatClampNeg (S.1 53 x1.toNatClampNeg)) fun S4 =>
(some (.inl (x1 + (1 : Int32), S4))) else none) else none)
def f_X7_backs_s2 : (Int32 × gSt) → Option ((Int32 × gSt) ⊕ (gSt)) := fun t => f_X7_backs_s2_b t.1 t.2
def f_X7_backs (S : gSt) : Option gSt :=
(gLoop (f_X7_backs_s2) gFuel ((0 : Int32), S)).bind fun q5 => match q5 with
| S5 =>
some S5
set_option maxHeartbeats 4000000 in
set_option maxRecDepth 20000 in
theorem ok_X7_backs {S S0 : gSt}  (h : f_X7_backs S = some S0) : gCT yX7_backs cX7_backs 2 none 0 (fun w => [.ref (w.2.1 47)]) S none S0 := by
  refine gEnter (fun X => [some (.ref (gad X 47)), none]) (by decide) (fun X => ⟨rfl, rfl⟩) (fun w => Nat.le_of_ble_eq_true rfl) (fun X hp => ?_)
  show AW X RX7 0 cX7_backs 0 [some (.ref (gad X 47)), none] [] S
  unfold f_X7_backs at h
  refine a_iconst (pc := 0) (v := (0 : Int32)) dX7_backs_0 (by decide) ?_
  refine a_istoren (pc := 1) dX7_backs_1 rfl (Nat.le_of_ble_eq_true rfl) rfl (L' := [some (.ref (gad X 47)), some (.int (0 : Int32))]) rfl ?_
  obtain ⟨R5, hR5, h⟩ := g_bind h
  have E2 : ∀  (S5 : gSt), (some S5) = some S0 → AW X RX7 0 cX7_backs 27 [none, none] [] S5 := by
    intro S5 h
    obtain rfl := Option.some.inj h
    exact a_vret hp dX7_backs_27
  have lp : ∀ (n : Nat) (x1 : Int32) (S : gSt), gLoop (f_X7_backs_s2) n (x1, S) = some R5 → AW X RX7 0 cX7_backs 2 [some (.ref (gad X 47)), some (.int x1)] [] S := by
    intro n
    induction n with
    | zero => intro x1 S hR; cases hR
    | succ n ih =>
      intro x1 S hR
      obtain ⟨q, hs, hR⟩ := g_bind hR
      have hs : f_X7_backs_s2_b x1 S = some q := hs
      unfold f_X7_backs_s2_b at hs
      refine a_iloadn (pc := 2) dX7_backs_2 rfl rfl ?_
      refine a_sipush (pc := 3) (v := (416 : Int32)) dX7_backs_3 (by decide) ?_
      refine a_icmp_ge (pc := 6) (tgt := 27) dX7_backs_6 (by decide) (fun c1 => ?_) (fun c1 => ?_)
      · rw [if_pos c1] at hs
        obtain rfl := Option.some.inj hs
        obtain rfl := Option.some.inj hR
        refine a_mask [false, false] (L' := [none, none]) rfl ?_
        exact E2  _ h
      · rw [if_neg c1] at hs
        refine a_aloadn (pc := 9) dX7_backs_9 rfl rfl ?_
        refine a_getA (pc := 10) flX7_7 sh_47 rfl dX7_backs_10 ?_
        refine a_iloadn (pc := 13) dX7_backs_13 rfl rfl ?_
        refine a_aloadn (pc := 14) dX7_backs_14 rfl rfl ?_
        refine a_getA (pc := 15) flX7_25 sh_47 rfl dX7_backs_15 ?_
        refine a_iloadn (pc := 18) dX7_backs_18 rfl rfl ?_
        obtain ⟨hi2, hs⟩ := g_if hs
        refine a_iald (pc := 19) sh_53 hi2 dX7_backs_19 ?_
        obtain ⟨hi3, hs⟩ := g_if hs
        refine a_iast (pc := 20) sh_48 hi3 dX7_backs_20 ?_
        obtain ⟨S4, eS4, hs⟩ := g_let hs
        refine a_nmS eS4 ?_
        refine a_iinc (pc := 21) dX7_backs_21 rfl (v := x1 + (1 : Int32)) rfl (Nat.le_of_ble_eq_true rfl) rfl (L' := [some (.ref (gad X 47)), some (.int (x1 + (1 : Int32)))]) rfl ?_
        refine a_goto (pc := 24) (tgt := 2) dX7_backs_24 (by decide) ?_
        obtain rfl := Option.some.inj hs
        exact ih _ _ hR
  exact lp _ _ _ hR5
theorem dX7_ahead_0 : decode cX7_ahead 0 = .ok (.iload_n 1, 1) := by decide +kernel
theorem dX7_ahead_1 : decode cX7_ahead 1 = .ok (.invokestatic 65, 3) := by decide +kernel
theorem dX7_ahead_4 : decode cX7_ahead 4 = .ok (.ifCond .eq 15, 3) := by decide +kernel
theorem dX7_ahead_7 : decode cX7_ahead 7 = .ok (.iload_n 2, 1) := by decide +kernel
theorem dX7_ahead_8 : decode cX7_ahead 8 = .ok (.i2l, 1) := by decide +kernel
theorem dX7_ahead_9 : decode cX7_ahead 9 = .ok (.lconst 0, 1) := by decide +kernel
theorem dX7_ahead_10 : decode cX7_ahead 10 = .ok (.ldc2_w 174, 3) := by decide +kernel
theorem dX7_ahead_13 : decode cX7_ahead 13 = .ok (.invokestatic 51, 3) := by decide +kernel
theorem dX7_ahead_16 : decode cX7_ahead 16 = .ok (.ifCond .ne 5, 3) := by decide +kernel
theorem dX7_ahead_19 : decode cX7_ahead 19 = .ok (.iconst (-1), 1) := by decide +kernel
theorem dX7_ahead_20 : decode cX7_ahead 20 = .ok (.ireturn, 1) := by decide +kernel
theorem dX7_ahead_21 : decode cX7_ahead 21 = .ok (.aload_n 0, 1) := by decide +kernel
theorem dX7_ahead_22 : decode cX7_ahead 22 = .ok (.invokevirtual 176, 3) := by decide +kernel
theorem dX7_ahead_25 : decode cX7_ahead 25 = .ok (.aload_n 0, 1) := by decide +kernel
theorem dX7_ahead_26 : decode cX7_ahead 26 = .ok (.iload_n 2, 1) := by decide +kernel
theorem dX7_ahead_27 : decode cX7_ahead 27 = .ok (.invokevirtual 179, 3) := by decide +kernel
theorem dX7_ahead_30 : decode cX7_ahead 30 = .ok (.aload_n 0, 1) := by decide +kernel
theorem dX7_ahead_31 : decode cX7_ahead 31 = .ok (.iload_n 1, 1) := by decide +kernel
theorem dX7_ahead_32 : decode cX7_ahead 32 = .ok (.invokevirtual 79, 3) := by decide +kernel
theorem dX7_ahead_35 : decode cX7_ahead 35 = .ok (.istore_n 3, 1) := by decide +kernel
theorem dX7_ahead_36 : decode cX7_ahead 36 = .ok (.aload_n 0, 1) := by decide +kernel
theorem dX7_ahead_37 : decode cX7_ahead 37 = .ok (.invokevirtual 182, 3) := by decide +kernel
theorem dX7_ahead_40 : decode cX7_ahead 40 = .ok (.iload_n 3, 1) := by decide +kernel
theorem dX7_ahead_41 : decode cX7_ahead 41 = .ok (.ireturn, 1) := by decide +kernel
def f_X7_ahead (p1 : Int32) (p2 : Int32) (S : gSt) : Option (Int32 × gSt) :=
gBind2 (f_X7_isCell p1 S) fun r3 S1 =>
(if r3 = 0 then
some ((-1 : Int32), S1)
else
gBind2 (f_X7_in (p2.toInt64) (0 : Int64) (48 : Int64) S1) fun r7 S5 =>
(if r7 = 0 then
some ((-1 : Int32), S5)
else
(f_X7_asides S5).bind fun S9 =>
(f_X7_goesOn p2 S9).bind fun S11 =>
gBind2 (f_X7_holder p1 S11) fun r15 S13 =>
(f_X7_backs S13).bind fun S16 =>
some (r15, S16)))
set_option maxHeartbeats 4000000 in
set_option maxRecDepth 20000 in
theorem ok_X7_ahead {p1 : Int32} {p2 : Int32} {S S0 : gSt} {r0 : Int32}  (h : f_X7_ahead p1 p2 S = some (r0, S0)) : gCT yX7_ahead cX7_ahead 4 (some .int) 3 (fun w => [.ref (w.2.1 47), .int p1, .int p2]) S (some (.int r0)) S0 := by
  refine gEnter (fun X => [some (.ref (gad X 47)), some (.int p1), some (.int p2), none]) (by decide) (fun X => ⟨rfl, rfl⟩) (fun w => Nat.le_of_ble_eq_true rfl) (fun X hp => ?_)
  show AW X RX7 3 cX7_ahead 0 [some (.ref (gad X 47)), some (.int p1), some (.int p2), none] [] S
  unfold f_X7_ahead at h
  refine a_iloadn (pc := 0) dX7_ahead_0 rfl rfl ?_
  obtain ⟨r3, S1, hc2, h⟩ := g_bind2 h
  refine a_invSi (pc := 1) (ok_X7_isCell hc2) gyX7_isCell syX7_isCell mlX7_65 (As := [.int p1]) rfl rfl (by decide) (st := []) rfl (Nat.le_of_ble_eq_true rfl) dX7_ahead_1 ?_
  refine a_if_eq (pc := 4) (tgt := 19) dX7_ahead_4 (by decide) (fun c4 => ?_) (fun c4 => ?_)
  · rw [if_pos c4] at h
    refine a_iconst (pc := 19) (v := (-1 : Int32)) dX7_ahead_19 (by decide) ?_
    obtain ⟨rfl, rfl⟩ := Prod.mk.inj (Option.some.inj h)
    exact a_iret hp dX7_ahead_20
  · rw [if_neg c4] at h
    refine a_iloadn (pc := 7) dX7_ahead_7 rfl rfl ?_
    refine a_i2l (pc := 8) dX7_ahead_8 ?_
    refine a_lconst (pc := 9) (v := (0 : Int64)) dX7_ahead_9 (by decide) ?_
    refine a_ldc2 (pc := 10) kX7_174 dX7_ahead_10 ?_
    obtain ⟨r7, S5, hc6, h⟩ := g_bind2 h
    refine a_invSi (pc := 13) (ok_X7_in hc6) gyX7_in syX7_in mlX7_51 (As := [.long (p2.toInt64), .long (0 : Int64), .long (48 : Int64)]) rfl rfl (by decide) (st := []) rfl (Nat.le_of_ble_eq_true rfl) dX7_ahead_13 ?_
    refine a_if_ne (pc := 16) (tgt := 21) dX7_ahead_16 (by decide) (fun c8 => ?_) (fun c8 => ?_)
    · rw [if_neg c8] at h
      refine a_aloadn (pc := 21) dX7_ahead_21 rfl rfl ?_
      obtain ⟨S9, hc10, h⟩ := g_bind h
      refine a_invVv (pc := 22) (ok_X7_asides hc10) gyX7_asides vyX7_asides mlX7_176 sh_47 rfl (As := []) rfl rfl (by decide) (st := []) rfl (Nat.le_of_ble_eq_true rfl) dX7_ahead_22 ?_
      refine a_aloadn (pc := 25) dX7_ahead_25 rfl rfl ?_
      refine a_iloadn (pc := 26) dX7_ahead_26 rfl rfl ?_
      obtain ⟨S11, hc12, h⟩ := g_bind h
      refine a_invVv (pc := 27) (ok_X7_goesOn hc12) gyX7_goesOn vyX7_goesOn mlX7_179 sh_47 rfl (As := [.int p2]) rfl rfl (by decide) (st := []) rfl (Nat.le_of_ble_eq_true rfl) dX7_ahead_27 ?_
      refine a_aloadn (pc := 30) dX7_ahead_30 rfl rfl ?_
      refine a_iloadn (pc := 31) dX7_ahead_31 rfl rfl ?_
      obtain ⟨r15, S13, hc14, h⟩ := g_bind2 h
      refine a_invVi (pc := 32) (ok_X7_holder hc14) gyX7_holder vyX7_holder mlX7_79 sh_47 rfl (As := [.int p1]) rfl rfl (by decide) (st := []) rfl (Nat.le_of_ble_eq_true rfl) dX7_ahead_32 ?_
      refine a_istoren (pc := 35) dX7_ahead_35 rfl (Nat.le_of_ble_eq_true rfl) rfl (L' := [some (.ref (gad X 47)), some (.int p1), some (.int p2), some (.int r15)]) rfl ?_
      refine a_aloadn (pc := 36) dX7_ahead_36 rfl rfl ?_
      obtain ⟨S16, hc17, h⟩ := g_bind h
      refine a_invVv (pc := 37) (ok_X7_backs hc17) gyX7_backs vyX7_backs mlX7_182 sh_47 rfl (As := []) rfl rfl (by decide) (st := []) rfl (Nat.le_of_ble_eq_true rfl) dX7_ahead_37 ?_
      refine a_iloadn (pc := 40) dX7_ahead_40 rfl rfl ?_
      obtain ⟨rfl, rfl⟩ := Prod.mk.inj (Option.some.inj h)
      exact a_iret hp dX7_ahead_41
    · rw [if_pos c8] at h
      refine a_iconst (pc := 19) (v := (-1 : Int32)) dX7_ahead_19 (by decide) ?_
      obtain ⟨rfl, rfl⟩ := Prod.mk.inj (Option.some.inj h)
      exact a_iret hp dX7_ahead_20
theorem dX7_land_0 : decode cX7_land 0 = .ok (.aload_n 0, 1) := by decide +kernel
theorem dX7_land_1 : decode cX7_land 1 = .ok (.iload_n 1, 1) := by decide +kernel
theorem dX7_land_2 : decode cX7_land 2 = .ok (.invokevirtual 82, 3) := by decide +kernel
theorem dX7_land_5 : decode cX7_land 5 = .ok (.ifCond .eq 15, 3) := by decide +kernel
theorem dX7_land_8 : decode cX7_land 8 = .ok (.iload_n 2, 1) := by decide +kernel
theorem dX7_land_9 : decode cX7_land 9 = .ok (.i2l, 1) := by decide +kernel
theorem dX7_land_10 : decode cX7_land 10 = .ok (.lconst 0, 1) := by decide +kernel
theorem dX7_land_11 : decode cX7_land 11 = .ok (.ldc2_w 174, 3) := by decide +kernel
theorem dX7_land_14 : decode cX7_land 14 = .ok (.invokestatic 51, 3) := by decide +kernel
theorem dX7_land_17 : decode cX7_land 17 = .ok (.ifCond .ne 5, 3) := by decide +kernel
theorem dX7_land_20 : decode cX7_land 20 = .ok (.iconst (-1), 1) := by decide +kernel
theorem dX7_land_21 : decode cX7_land 21 = .ok (.ireturn, 1) := by decide +kernel
theorem dX7_land_22 : decode cX7_land 22 = .ok (.aload_n 0, 1) := by decide +kernel
theorem dX7_land_23 : decode cX7_land 23 = .ok (.invokevirtual 176, 3) := by decide +kernel
theorem dX7_land_26 : decode cX7_land 26 = .ok (.aload_n 0, 1) := by decide +kernel
theorem dX7_land_27 : decode cX7_land 27 = .ok (.iload_n 2, 1) := by decide +kernel
theorem dX7_land_28 : decode cX7_land 28 = .ok (.invokevirtual 179, 3) := by decide +kernel
theorem dX7_land_31 : decode cX7_land 31 = .ok (.aload_n 0, 1) := by decide +kernel
theorem dX7_land_32 : decode cX7_land 32 = .ok (.iload_n 1, 1) := by decide +kernel
theorem dX7_land_33 : decode cX7_land 33 = .ok (.invokevirtual 93, 3) := by decide +kernel
theorem dX7_land_36 : decode cX7_land 36 = .ok (.istore_n 3, 1) := by decide +kernel
theorem dX7_land_37 : decode cX7_land 37 = .ok (.aload_n 0, 1) := by decide +kernel
theorem dX7_land_38 : decode cX7_land 38 = .ok (.invokevirtual 182, 3) := by decide +kernel
theorem dX7_land_41 : decode cX7_land 41 = .ok (.iload_n 3, 1) := by decide +kernel
theorem dX7_land_42 : decode cX7_land 42 = .ok (.ireturn, 1) := by decide +kernel
def f_X7_land (p1 : Int32) (p2 : Int32) (S : gSt) : Option (Int32 × gSt) :=
gBind2 (f_X7_isWalker p1 S) fun r3 S1 =>
(if r3 = 0 then
some ((-1 : Int32), S1)
else
gBind2 (f_X7_in (p2.toInt64) (0 : Int64) (48 : Int64) S1) fun r7 S5 =>
(if r7 = 0 then
some ((-1 : Int32), S5)
else
(f_X7_asides S5).bind fun S9 =>
(f_X7_goesOn p2 S9).bind fun S11 =>
gBind2 (f_X7_landOf p1 S11) fun r15 S13 =>
(f_X7_backs S13).bind fun S16 =>
some (r15, S16)))
set_option maxHeartbeats 4000000 in
set_option maxRecDepth 20000 in
theorem ok_X7_land {p1 : Int32} {p2 : Int32} {S S0 : gSt} {r0 : Int32}  (h : f_X7_land p1 p2 S = some (r0, S0)) : gCT yX7_land cX7_land 4 (some .int) 4 (fun w => [.ref (w.2.1 47), .int p1, .int p2]) S (some (.int r0)) S0 := by
  refine gEnter (fun X => [some (.ref (gad X 47)), some (.int p1), some (.int p2), none]) (by decide) (fun X => ⟨rfl, rfl⟩) (fun w => Nat.le_of_ble_eq_true rfl) (fun X hp => ?_)
  show AW X RX7 4 cX7_land 0 [some (.ref (gad X 47)), some (.int p1), some (.int p2), none] [] S
  unfold f_X7_land at h
  refine a_aloadn (pc := 0) dX7_land_0 rfl rfl ?_
  refine a_iloadn (pc := 1) dX7_land_1 rfl rfl ?_
  obtain ⟨r3, S1, hc2, h⟩ := g_bind2 h
  refine a_invVi (pc := 2) (ok_X7_isWalker hc2) gyX7_isWalker vyX7_isWalker mlX7_82 sh_47 rfl (As := [.int p1]) rfl rfl (by decide) (st := []) rfl (Nat.le_of_ble_eq_true rfl) dX7_land_2 ?_
  refine a_if_eq (pc := 5) (tgt := 20) dX7_land_5 (by decide) (fun c4 => ?_) (fun c4 => ?_)
  · rw [if_pos c4] at h
    refine a_iconst (pc := 20) (v := (-1 : Int32)) dX7_land_20 (by decide) ?_
    obtain ⟨rfl, rfl⟩ := Prod.mk.inj (Option.some.inj h)
    exact a_iret hp dX7_land_21
  · rw [if_neg c4] at h
    refine a_iloadn (pc := 8) dX7_land_8 rfl rfl ?_
    refine a_i2l (pc := 9) dX7_land_9 ?_
    refine a_lconst (pc := 10) (v := (0 : Int64)) dX7_land_10 (by decide) ?_
    refine a_ldc2 (pc := 11) kX7_174 dX7_land_11 ?_
    obtain ⟨r7, S5, hc6, h⟩ := g_bind2 h
    refine a_invSi (pc := 14) (ok_X7_in hc6) gyX7_in syX7_in mlX7_51 (As := [.long (p2.toInt64), .long (0 : Int64), .long (48 : Int64)]) rfl rfl (by decide) (st := []) rfl (Nat.le_of_ble_eq_true rfl) dX7_land_14 ?_
    refine a_if_ne (pc := 17) (tgt := 22) dX7_land_17 (by decide) (fun c8 => ?_) (fun c8 => ?_)
    · rw [if_neg c8] at h
      refine a_aloadn (pc := 22) dX7_land_22 rfl rfl ?_
      obtain ⟨S9, hc10, h⟩ := g_bind h
      refine a_invVv (pc := 23) (ok_X7_asides hc10) gyX7_asides vyX7_asides mlX7_176 sh_47 rfl (As := []) rfl rfl (by decide) (st := []) rfl (Nat.le_of_ble_eq_true rfl) dX7_land_23 ?_
      refine a_aloadn (pc := 26) dX7_land_26 rfl rfl ?_
      refine a_iloadn (pc := 27) dX7_land_27 rfl rfl ?_
      obtain ⟨S11, hc12, h⟩ := g_bind h
      refine a_invVv (pc := 28) (ok_X7_goesOn hc12) gyX7_goesOn vyX7_goesOn mlX7_179 sh_47 rfl (As := [.int p2]) rfl rfl (by decide) (st := []) rfl (Nat.le_of_ble_eq_true rfl) dX7_land_28 ?_
      refine a_aloadn (pc := 31) dX7_land_31 rfl rfl ?_
      refine a_iloadn (pc := 32) dX7_land_32 rfl rfl ?_
      obtain ⟨r15, S13, hc14, h⟩ := g_bind2 h
      refine a_invVi (pc := 33) (ok_X7_landOf hc14) gyX7_landOf vyX7_landOf mlX7_93 sh_47 rfl (As := [.int p1]) rfl rfl (by decide) (st := []) rfl (Nat.le_of_ble_eq_true rfl) dX7_land_33 ?_
      refine a_istoren (pc := 36) dX7_land_36 rfl (Nat.le_of_ble_eq_true rfl) rfl (L' := [some (.ref (gad X 47)), some (.int p1), some (.int p2), some (.int r15)]) rfl ?_
      refine a_aloadn (pc := 37) dX7_land_37 rfl rfl ?_
      obtain ⟨S16, hc17, h⟩ := g_bind h
      refine a_invVv (pc := 38) (ok_X7_backs hc17) gyX7_backs vyX7_backs mlX7_182 sh_47 rfl (As := []) rfl rfl (by decide) (st := []) rfl (Nat.le_of_ble_eq_true rfl) dX7_land_38 ?_
      refine a_iloadn (pc := 41) dX7_land_41 rfl rfl ?_
      obtain ⟨rfl, rfl⟩ := Prod.mk.inj (Option.some.inj h)
      exact a_iret hp dX7_land_42
    · rw [if_pos c8] at h
      refine a_iconst (pc := 20) (v := (-1 : Int32)) dX7_land_20 (by decide) ?_
      obtain ⟨rfl, rfl⟩ := Prod.mk.inj (Option.some.inj h)
      exact a_iret hp dX7_land_21
theorem dX7_lasts_0 : decode cX7_lasts 0 = .ok (.aload_n 0, 1) := by decide +kernel
theorem dX7_lasts_1 : decode cX7_lasts 1 = .ok (.iload_n 1, 1) := by decide +kernel
theorem dX7_lasts_2 : decode cX7_lasts 2 = .ok (.invokevirtual 82, 3) := by decide +kernel
theorem dX7_lasts_5 : decode cX7_lasts 5 = .ok (.ifCond .eq 10, 3) := by decide +kernel
theorem dX7_lasts_8 : decode cX7_lasts 8 = .ok (.iload_n 2, 1) := by decide +kernel
theorem dX7_lasts_9 : decode cX7_lasts 9 = .ok (.invokestatic 65, 3) := by decide +kernel
theorem dX7_lasts_12 : decode cX7_lasts 12 = .ok (.ifCond .ne 5, 3) := by decide +kernel
theorem dX7_lasts_15 : decode cX7_lasts 15 = .ok (.iconst (-1), 1) := by decide +kernel
theorem dX7_lasts_16 : decode cX7_lasts 16 = .ok (.ireturn, 1) := by decide +kernel
theorem dX7_lasts_17 : decode cX7_lasts 17 = .ok (.aload_n 0, 1) := by decide +kernel
theorem dX7_lasts_18 : decode cX7_lasts 18 = .ok (.iload_n 2, 1) := by decide +kernel
theorem dX7_lasts_19 : decode cX7_lasts 19 = .ok (.invokevirtual 79, 3) := by decide +kernel
theorem dX7_lasts_22 : decode cX7_lasts 22 = .ok (.iload_n 1, 1) := by decide +kernel
theorem dX7_lasts_23 : decode cX7_lasts 23 = .ok (.if_icmp .eq 6, 3) := by decide +kernel
theorem dX7_lasts_26 : decode cX7_lasts 26 = .ok (.bipush (-2), 2) := by decide +kernel
theorem dX7_lasts_28 : decode cX7_lasts 28 = .ok (.ireturn, 1) := by decide +kernel
theorem dX7_lasts_29 : decode cX7_lasts 29 = .ok (.aload_n 0, 1) := by decide +kernel
theorem dX7_lasts_30 : decode cX7_lasts 30 = .ok (.invokevirtual 176, 3) := by decide +kernel
theorem dX7_lasts_33 : decode cX7_lasts 33 = .ok (.iconst 0, 1) := by decide +kernel
theorem dX7_lasts_34 : decode cX7_lasts 34 = .ok (.istore_n 3, 1) := by decide +kernel
theorem dX7_lasts_35 : decode cX7_lasts 35 = .ok (.iload_n 3, 1) := by decide +kernel
theorem dX7_lasts_36 : decode cX7_lasts 36 = .ok (.bipush 49, 2) := by decide +kernel
theorem dX7_lasts_38 : decode cX7_lasts 38 = .ok (.if_icmp .ge 22, 3) := by decide +kernel
theorem dX7_lasts_41 : decode cX7_lasts 41 = .ok (.aload_n 0, 1) := by decide +kernel
theorem dX7_lasts_42 : decode cX7_lasts 42 = .ok (.iload_n 2, 1) := by decide +kernel
theorem dX7_lasts_43 : decode cX7_lasts 43 = .ok (.invokevirtual 79, 3) := by decide +kernel
theorem dX7_lasts_46 : decode cX7_lasts 46 = .ok (.iload_n 1, 1) := by decide +kernel
theorem dX7_lasts_47 : decode cX7_lasts 47 = .ok (.if_icmp .ne 13, 3) := by decide +kernel
theorem dX7_lasts_50 : decode cX7_lasts 50 = .ok (.aload_n 0, 1) := by decide +kernel
theorem dX7_lasts_51 : decode cX7_lasts 51 = .ok (.invokevirtual 161, 3) := by decide +kernel
theorem dX7_lasts_54 : decode cX7_lasts 54 = .ok (.iinc 3 1, 3) := by decide +kernel
theorem dX7_lasts_57 : decode cX7_lasts 57 = .ok (.goto (-22), 3) := by decide +kernel
theorem dX7_lasts_60 : decode cX7_lasts 60 = .ok (.aload_n 0, 1) := by decide +kernel
theorem dX7_lasts_61 : decode cX7_lasts 61 = .ok (.invokevirtual 182, 3) := by decide +kernel
theorem dX7_lasts_64 : decode cX7_lasts 64 = .ok (.iload_n 3, 1) := by decide +kernel
theorem dX7_lasts_65 : decode cX7_lasts 65 = .ok (.bipush 48, 2) := by decide +kernel
theorem dX7_lasts_67 : decode cX7_lasts 67 = .ok (.if_icmp .le 8, 3) := by decide +kernel
theorem dX7_lasts_70 : decode cX7_lasts 70 = .ok (.bipush (-4), 2) := by decide +kernel
theorem dX7_lasts_72 : decode cX7_lasts 72 = .ok (.goto 4, 3) := by decide +kernel
theorem dX7_lasts_75 : decode cX7_lasts 75 = .ok (.iload_n 3, 1) := by decide +kernel
theorem dX7_lasts_76 : decode cX7_lasts 76 = .ok (.ireturn, 1) := by decide +kernel
def f_X7_lasts_j60 (x3 : Int32) (S : gSt) : Option (Int32 × gSt) :=
(f_X7_backs S).bind fun S1 =>
(if x3 ≤ (48 : Int32) then
some (x3, S1)
else
some ((-4 : Int32), S1))
def f_X7_lasts_s35_b (x1 : Int32) (x2 : Int32) (x3 : Int32) (S : gSt) : Option ((Int32 × Int32 × Int32 × gSt) ⊕ (Int32 × gSt)) :=
(if (49 : Int32) ≤ x3 then
some (.inr (x3, S))
else
gBind2 (f_X7_holder x2 S) fun r21 S19 =>
(if r21 = x1 then
(f_X7_goesBy S19).bind fun S23 =>
some (.inl (x1, x2, x3 + (1 : Int32), S23))
else
some (.inr (x3, S19))))
def f_X7_lasts_s35 : (Int32 × Int32 × Int32 × gSt) → Option ((Int32 × Int32 × Int32 × gSt) ⊕ (Int32 × gSt)) := fun t => f_X7_lasts_s35_b t.1 t.2.1 t.2.2.1 t.2.2.2
def f_X7_lasts (p1 : Int32) (p2 : Int32) (S : gSt) : Option (Int32 × gSt) :=
gBind2 (f_X7_isWalker p1 S) fun r6 S4 =>
(if r6 = 0 then
some ((-1 : Int32), S4)
else
gBind2 (f_X7_isCell p2 S4) fun r10 S8 =>
(if r10 = 0 then
some ((-1 : Int32), S8)
else
gBind2 (f_X7_holder p2 S8) fun r14 S12 =>
(if r14 = p1 then
(f_X7_asides S12).bind fun S16 =>
(gLoop (f_X7_lasts_s35) gFuel (p1, p2, (0 : Int32), S16)).bind fun q25 => match q25 with
| (y3_25, S25) =>
f_X7_lasts_j60 y3_25 S25
else
some ((-2 : Int32), S12))))
set_option maxHeartbeats 4000000 in
set_option maxRecDepth 20000 in
theorem ok_X7_lasts {p1 : Int32} {p2 : Int32} {S S0 : gSt} {r0 : Int32}  (h : f_X7_lasts p1 p2 S = some (r0, S0)) : gCT yX7_lasts cX7_lasts 4 (some .int) 3 (fun w => [.ref (w.2.1 47), .int p1, .int p2]) S (some (.int r0)) S0 := by
  refine gEnter (fun X => [some (.ref (gad X 47)), some (.int p1), some (.int p2), none]) (by decide) (fun X => ⟨rfl, rfl⟩) (fun w => Nat.le_of_ble_eq_true rfl) (fun X hp => ?_)
  show AW X RX7 3 cX7_lasts 0 [some (.ref (gad X 47)), some (.int p1), some (.int p2), none] [] S
  unfold f_X7_lasts at h
  have J60 : ∀ (x3 : Int32) (S : gSt), f_X7_lasts_j60 x3 S = some (r0, S0) → AW X RX7 3 cX7_lasts 60 [some (.ref (gad X 47)), none, none, some (.int x3)] [] S := by
    intro x3 S h
    unfold f_X7_lasts_j60 at h
    refine a_aloadn (pc := 60) dX7_lasts_60 rfl rfl ?_
    obtain ⟨S1, hc2, h⟩ := g_bind h
    refine a_invVv (pc := 61) (ok_X7_backs hc2) gyX7_backs vyX7_backs mlX7_182 sh_47 rfl (As := []) rfl rfl (by decide) (st := []) rfl (Nat.le_of_ble_eq_true rfl) dX7_lasts_61 ?_
    refine a_iloadn (pc := 64) dX7_lasts_64 rfl rfl ?_
    refine a_bipush (pc := 65) (v := (48 : Int32)) dX7_lasts_65 (by decide) ?_
    refine a_icmp_le (pc := 67) (tgt := 75) dX7_lasts_67 (by decide) (fun c3 => ?_) (fun c3 => ?_)
    · rw [if_pos c3] at h
      refine a_iloadn (pc := 75) dX7_lasts_75 rfl rfl ?_
      obtain ⟨rfl, rfl⟩ := Prod.mk.inj (Option.some.inj h)
      exact a_iret hp dX7_lasts_76
    · rw [if_neg c3] at h
      refine a_bipush (pc := 70) (v := (-4 : Int32)) dX7_lasts_70 (by decide) ?_
      refine a_goto (pc := 72) (tgt := 76) dX7_lasts_72 (by decide) ?_
      obtain ⟨rfl, rfl⟩ := Prod.mk.inj (Option.some.inj h)
      exact a_iret hp dX7_lasts_76
  refine a_aloadn (pc := 0) dX7_lasts_0 rfl rfl ?_
  refine a_iloadn (pc := 1) dX7_lasts_1 rfl rfl ?_
  obtain ⟨r6, S4, hc5, h⟩ := g_bind2 h
  refine a_invVi (pc := 2) (ok_X7_isWalker hc5) gyX7_isWalker vyX7_isWalker mlX7_82 sh_47 rfl (As := [.int p1]) rfl rfl (by decide) (st := []) rfl (Nat.le_of_ble_eq_true rfl) dX7_lasts_2 ?_
  refine a_if_eq (pc := 5) (tgt := 15) dX7_lasts_5 (by decide) (fun c7 => ?_) (fun c7 => ?_)
  · rw [if_pos c7] at h
    refine a_iconst (pc := 15) (v := (-1 : Int32)) dX7_lasts_15 (by decide) ?_
    obtain ⟨rfl, rfl⟩ := Prod.mk.inj (Option.some.inj h)
    exact a_iret hp dX7_lasts_16
  · rw [if_neg c7] at h
    refine a_iloadn (pc := 8) dX7_lasts_8 rfl rfl ?_
    obtain ⟨r10, S8, hc9, h⟩ := g_bind2 h
    refine a_invSi (pc := 9) (ok_X7_isCell hc9) gyX7_isCell syX7_isCell mlX7_65 (As := [.int p2]) rfl rfl (by decide) (st := []) rfl (Nat.le_of_ble_eq_true rfl) dX7_lasts_9 ?_
    refine a_if_ne (pc := 12) (tgt := 17) dX7_lasts_12 (by decide) (fun c11 => ?_) (fun c11 => ?_)
    · rw [if_neg c11] at h
      refine a_aloadn (pc := 17) dX7_lasts_17 rfl rfl ?_
      refine a_iloadn (pc := 18) dX7_lasts_18 rfl rfl ?_
      obtain ⟨r14, S12, hc13, h⟩ := g_bind2 h
      refine a_invVi (pc := 19) (ok_X7_holder hc13) gyX7_holder vyX7_holder mlX7_79 sh_47 rfl (As := [.int p2]) rfl rfl (by decide) (st := []) rfl (Nat.le_of_ble_eq_true rfl) dX7_lasts_19 ?_
      refine a_iloadn (pc := 22) dX7_lasts_22 rfl rfl ?_
      refine a_icmp_eq (pc := 23) (tgt := 29) dX7_lasts_23 (by decide) (fun c15 => ?_) (fun c15 => ?_)
      · rw [if_pos c15] at h
        refine a_aloadn (pc := 29) dX7_lasts_29 rfl rfl ?_
        obtain ⟨S16, hc17, h⟩ := g_bind h
        refine a_invVv (pc := 30) (ok_X7_asides hc17) gyX7_asides vyX7_asides mlX7_176 sh_47 rfl (As := []) rfl rfl (by decide) (st := []) rfl (Nat.le_of_ble_eq_true rfl) dX7_lasts_30 ?_
        refine a_iconst (pc := 33) (v := (0 : Int32)) dX7_lasts_33 (by decide) ?_
        refine a_istoren (pc := 34) dX7_lasts_34 rfl (Nat.le_of_ble_eq_true rfl) rfl (L' := [some (.ref (gad X 47)), some (.int p1), some (.int p2), some (.int (0 : Int32))]) rfl ?_
        obtain ⟨R25, hR25, h⟩ := g_bind h
        have E35 : ∀ (y3_25 : Int32) (S25 : gSt), (f_X7_lasts_j60 y3_25 S25) = some (r0, S0) → AW X RX7 3 cX7_lasts 60 [some (.ref (gad X 47)), none, none, some (.int y3_25)] [] S25 := by
          intro y3_25 S25 h
          exact J60 _ _ h
        have lp : ∀ (n : Nat) (x1 : Int32) (x2 : Int32) (x3 : Int32) (S : gSt), gLoop (f_X7_lasts_s35) n (x1, x2, x3, S) = some R25 → AW X RX7 3 cX7_lasts 35 [some (.ref (gad X 47)), some (.int x1), some (.int x2), some (.int x3)] [] S := by
          intro n
          induction n with
          | zero => intro x1 x2 x3 S hR; cases hR
          | succ n ih =>
            intro x1 x2 x3 S hR
            obtain ⟨q, hs, hR⟩ := g_bind hR
            have hs : f_X7_lasts_s35_b x1 x2 x3 S = some q := hs
            unfold f_X7_lasts_s35_b at hs
            refine a_iloadn (pc := 35) dX7_lasts_35 rfl rfl ?_
            refine a_bipush (pc := 36) (v := (49 : Int32)) dX7_lasts_36 (by decide) ?_
            refine a_icmp_ge (pc := 38) (tgt := 60) dX7_lasts_38 (by decide) (fun c18 => ?_) (fun c18 => ?_)
            · rw [if_pos c18] at hs
              obtain rfl := Option.some.inj hs
              obtain rfl := Option.some.inj hR
              refine a_mask [true, false, false, true] (L' := [some (.ref (gad X 47)), none, none, some (.int x3)]) rfl ?_
              exact E35 _ _ h
            · rw [if_neg c18] at hs
              refine a_aloadn (pc := 41) dX7_lasts_41 rfl rfl ?_
              refine a_iloadn (pc := 42) dX7_lasts_42 rfl rfl ?_
              obtain ⟨r21, S19, hc20, hs⟩ := g_bind2 hs
              refine a_invVi (pc := 43) (ok_X7_holder hc20) gyX7_holder vyX7_holder mlX7_79 sh_47 rfl (As := [.int x2]) rfl rfl (by decide) (st := []) rfl (Nat.le_of_ble_eq_true rfl) dX7_lasts_43 ?_
              refine a_iloadn (pc := 46) dX7_lasts_46 rfl rfl ?_
              refine a_icmp_ne (pc := 47) (tgt := 60) dX7_lasts_47 (by decide) (fun c22 => ?_) (fun c22 => ?_)
              · rw [if_neg c22] at hs
                obtain rfl := Option.some.inj hs
                obtain rfl := Option.some.inj hR
                refine a_mask [true, false, false, true] (L' := [some (.ref (gad X 47)), none, none, some (.int x3)]) rfl ?_
                exact E35 _ _ h
              · rw [if_pos c22] at hs
                refine a_aloadn (pc := 50) dX7_lasts_50 rfl rfl ?_
                obtain ⟨S23, hc24, hs⟩ := g_bind hs
                refine a_invVv (pc := 51) (ok_X7_goesBy hc24) gyX7_goesBy vyX7_goesBy mlX7_161 sh_47 rfl (As := []) rfl rfl (by decide) (st := []) rfl (Nat.le_of_ble_eq_true rfl) dX7_lasts_51 ?_
                refine a_iinc (pc := 54) dX7_lasts_54 rfl (v := x3 + (1 : Int32)) rfl (Nat.le_of_ble_eq_true rfl) rfl (L' := [some (.ref (gad X 47)), some (.int x1), some (.int x2), some (.int (x3 + (1 : Int32)))]) rfl ?_
                refine a_goto (pc := 57) (tgt := 35) dX7_lasts_57 (by decide) ?_
                obtain rfl := Option.some.inj hs
                exact ih _ _ _ _ hR
        exact lp _ _ _ _ _ hR25
      · rw [if_neg c15] at h
        refine a_bipush (pc := 26) (v := (-2 : Int32)) dX7_lasts_26 (by decide) ?_
        obtain ⟨rfl, rfl⟩ := Prod.mk.inj (Option.some.inj h)
        exact a_iret hp dX7_lasts_28
    · rw [if_pos c11] at h
      refine a_iconst (pc := 15) (v := (-1 : Int32)) dX7_lasts_15 (by decide) ?_
      obtain ⟨rfl, rfl⟩ := Prod.mk.inj (Option.some.inj h)
      exact a_iret hp dX7_lasts_16
theorem dX7_county_0 : decode cX7_county 0 = .ok (.aload_n 0, 1) := by decide +kernel
theorem dX7_county_1 : decode cX7_county 1 = .ok (.iload_n 1, 1) := by decide +kernel
theorem dX7_county_2 : decode cX7_county 2 = .ok (.invokevirtual 82, 3) := by decide +kernel
theorem dX7_county_5 : decode cX7_county 5 = .ok (.ifCond .ne 5, 3) := by decide +kernel
theorem dX7_county_8 : decode cX7_county 8 = .ok (.iconst (-1), 1) := by decide +kernel
theorem dX7_county_9 : decode cX7_county 9 = .ok (.ireturn, 1) := by decide +kernel
theorem dX7_county_10 : decode cX7_county 10 = .ok (.iconst 0, 1) := by decide +kernel
theorem dX7_county_11 : decode cX7_county 11 = .ok (.istore_n 2, 1) := by decide +kernel
theorem dX7_county_12 : decode cX7_county 12 = .ok (.iload_n 2, 1) := by decide +kernel
theorem dX7_county_13 : decode cX7_county 13 = .ok (.bipush 64, 2) := by decide +kernel
theorem dX7_county_15 : decode cX7_county 15 = .ok (.if_icmp .ge 75, 3) := by decide +kernel
theorem dX7_county_18 : decode cX7_county 18 = .ok (.iload_n 2, 1) := by decide +kernel
theorem dX7_county_19 : decode cX7_county 19 = .ok (.bipush 8, 2) := by decide +kernel
theorem dX7_county_21 : decode cX7_county 21 = .ok (.irem, 1) := by decide +kernel
theorem dX7_county_22 : decode cX7_county 22 = .ok (.ifCond .eq 24, 3) := by decide +kernel
theorem dX7_county_25 : decode cX7_county 25 = .ok (.iload_n 2, 1) := by decide +kernel
theorem dX7_county_26 : decode cX7_county 26 = .ok (.bipush 8, 2) := by decide +kernel
theorem dX7_county_28 : decode cX7_county 28 = .ok (.irem, 1) := by decide +kernel
theorem dX7_county_29 : decode cX7_county 29 = .ok (.bipush 7, 2) := by decide +kernel
theorem dX7_county_31 : decode cX7_county 31 = .ok (.if_icmp .eq 15, 3) := by decide +kernel
theorem dX7_county_34 : decode cX7_county 34 = .ok (.iload_n 2, 1) := by decide +kernel
theorem dX7_county_35 : decode cX7_county 35 = .ok (.bipush 8, 2) := by decide +kernel
theorem dX7_county_37 : decode cX7_county 37 = .ok (.if_icmp .lt 9, 3) := by decide +kernel
theorem dX7_county_40 : decode cX7_county 40 = .ok (.iload_n 2, 1) := by decide +kernel
theorem dX7_county_41 : decode cX7_county 41 = .ok (.bipush 55, 2) := by decide +kernel
theorem dX7_county_43 : decode cX7_county 43 = .ok (.if_icmp .le 7, 3) := by decide +kernel
theorem dX7_county_46 : decode cX7_county 46 = .ok (.iconst 1, 1) := by decide +kernel
theorem dX7_county_47 : decode cX7_county 47 = .ok (.goto 4, 3) := by decide +kernel
theorem dX7_county_50 : decode cX7_county 50 = .ok (.iconst 0, 1) := by decide +kernel
theorem dX7_county_51 : decode cX7_county 51 = .ok (.istore_n 3, 1) := by decide +kernel
theorem dX7_county_52 : decode cX7_county 52 = .ok (.aload_n 0, 1) := by decide +kernel
theorem dX7_county_53 : decode cX7_county 53 = .ok (.getfield 28, 3) := by decide +kernel
theorem dX7_county_56 : decode cX7_county 56 = .ok (.iload_n 2, 1) := by decide +kernel
theorem dX7_county_57 : decode cX7_county 57 = .ok (.iload_n 3, 1) := by decide +kernel
theorem dX7_county_58 : decode cX7_county 58 = .ok (.ifCond .eq 24, 3) := by decide +kernel
theorem dX7_county_61 : decode cX7_county 61 = .ok (.aload_n 0, 1) := by decide +kernel
theorem dX7_county_62 : decode cX7_county 62 = .ok (.getfield 7, 3) := by decide +kernel
theorem dX7_county_65 : decode cX7_county 65 = .ok (.bipush 32, 2) := by decide +kernel
theorem dX7_county_67 : decode cX7_county 67 = .ok (.bipush 64, 2) := by decide +kernel
theorem dX7_county_69 : decode cX7_county 69 = .ok (.iload_n 1, 1) := by decide +kernel
theorem dX7_county_70 : decode cX7_county 70 = .ok (.imul, 1) := by decide +kernel
theorem dX7_county_71 : decode cX7_county 71 = .ok (.iadd, 1) := by decide +kernel
theorem dX7_county_72 : decode cX7_county 72 = .ok (.iload_n 2, 1) := by decide +kernel
theorem dX7_county_73 : decode cX7_county 73 = .ok (.iadd, 1) := by decide +kernel
theorem dX7_county_74 : decode cX7_county 74 = .ok (.iaload, 1) := by decide +kernel
theorem dX7_county_75 : decode cX7_county 75 = .ok (.ifCond .ne 7, 3) := by decide +kernel
theorem dX7_county_78 : decode cX7_county 78 = .ok (.iconst 1, 1) := by decide +kernel
theorem dX7_county_79 : decode cX7_county 79 = .ok (.goto 4, 3) := by decide +kernel
theorem dX7_county_82 : decode cX7_county 82 = .ok (.iconst 0, 1) := by decide +kernel
theorem dX7_county_83 : decode cX7_county 83 = .ok (.bastore, 1) := by decide +kernel
theorem dX7_county_84 : decode cX7_county 84 = .ok (.iinc 2 1, 3) := by decide +kernel
theorem dX7_county_87 : decode cX7_county 87 = .ok (.goto (-75), 3) := by decide +kernel
theorem dX7_county_90 : decode cX7_county 90 = .ok (.iconst 1, 1) := by decide +kernel
theorem dX7_county_91 : decode cX7_county 91 = .ok (.istore_n 2, 1) := by decide +kernel
theorem dX7_county_92 : decode cX7_county 92 = .ok (.iload_n 2, 1) := by decide +kernel
theorem dX7_county_93 : decode cX7_county 93 = .ok (.ifCond .eq 99, 3) := by decide +kernel
theorem dX7_county_96 : decode cX7_county 96 = .ok (.iconst 0, 1) := by decide +kernel
theorem dX7_county_97 : decode cX7_county 97 = .ok (.istore_n 2, 1) := by decide +kernel
theorem dX7_county_98 : decode cX7_county 98 = .ok (.iconst 0, 1) := by decide +kernel
theorem dX7_county_99 : decode cX7_county 99 = .ok (.istore_n 3, 1) := by decide +kernel
theorem dX7_county_100 : decode cX7_county 100 = .ok (.iload_n 3, 1) := by decide +kernel
theorem dX7_county_101 : decode cX7_county 101 = .ok (.bipush 64, 2) := by decide +kernel
theorem dX7_county_103 : decode cX7_county 103 = .ok (.if_icmp .ge 86, 3) := by decide +kernel
theorem dX7_county_106 : decode cX7_county 106 = .ok (.iconst 0, 1) := by decide +kernel
theorem dX7_county_107 : decode cX7_county 107 = .ok (.istore 4, 2) := by decide +kernel
theorem dX7_county_109 : decode cX7_county 109 = .ok (.iload 4, 2) := by decide +kernel
theorem dX7_county_111 : decode cX7_county 111 = .ok (.iconst 4, 1) := by decide +kernel
theorem dX7_county_112 : decode cX7_county 112 = .ok (.if_icmp .ge 71, 3) := by decide +kernel
theorem dX7_county_115 : decode cX7_county 115 = .ok (.aload_n 0, 1) := by decide +kernel
theorem dX7_county_116 : decode cX7_county 116 = .ok (.getfield 28, 3) := by decide +kernel
theorem dX7_county_119 : decode cX7_county 119 = .ok (.iload_n 3, 1) := by decide +kernel
theorem dX7_county_120 : decode cX7_county 120 = .ok (.baload, 1) := by decide +kernel
theorem dX7_county_121 : decode cX7_county 121 = .ok (.ifCond .eq 62, 3) := by decide +kernel
theorem dX7_county_124 : decode cX7_county 124 = .ok (.iload_n 3, 1) := by decide +kernel
theorem dX7_county_125 : decode cX7_county 125 = .ok (.iload 4, 2) := by decide +kernel
theorem dX7_county_127 : decode cX7_county 127 = .ok (.invokestatic 146, 3) := by decide +kernel
theorem dX7_county_130 : decode cX7_county 130 = .ok (.istore 5, 2) := by decide +kernel
theorem dX7_county_132 : decode cX7_county 132 = .ok (.iload 5, 2) := by decide +kernel
theorem dX7_county_134 : decode cX7_county 134 = .ok (.bipush (-4), 2) := by decide +kernel
theorem dX7_county_136 : decode cX7_county 136 = .ok (.if_icmp .eq 41, 3) := by decide +kernel
theorem dX7_county_139 : decode cX7_county 139 = .ok (.aload_n 0, 1) := by decide +kernel
theorem dX7_county_140 : decode cX7_county 140 = .ok (.getfield 28, 3) := by decide +kernel
theorem dX7_county_143 : decode cX7_county 143 = .ok (.iload 5, 2) := by decide +kernel
theorem dX7_county_145 : decode cX7_county 145 = .ok (.baload, 1) := by decide +kernel
theorem dX7_county_146 : decode cX7_county 146 = .ok (.ifCond .ne 31, 3) := by decide +kernel
theorem dX7_county_149 : decode cX7_county 149 = .ok (.aload_n 0, 1) := by decide +kernel
theorem dX7_county_150 : decode cX7_county 150 = .ok (.getfield 7, 3) := by decide +kernel
theorem dX7_county_153 : decode cX7_county 153 = .ok (.bipush 32, 2) := by decide +kernel
theorem dX7_county_155 : decode cX7_county 155 = .ok (.bipush 64, 2) := by decide +kernel
theorem dX7_county_157 : decode cX7_county 157 = .ok (.iload_n 1, 1) := by decide +kernel
theorem dX7_county_158 : decode cX7_county 158 = .ok (.imul, 1) := by decide +kernel
theorem dX7_county_159 : decode cX7_county 159 = .ok (.iadd, 1) := by decide +kernel
theorem dX7_county_160 : decode cX7_county 160 = .ok (.iload 5, 2) := by decide +kernel
theorem dX7_county_162 : decode cX7_county 162 = .ok (.iadd, 1) := by decide +kernel
theorem dX7_county_163 : decode cX7_county 163 = .ok (.iaload, 1) := by decide +kernel
theorem dX7_county_164 : decode cX7_county 164 = .ok (.ifCond .ne 13, 3) := by decide +kernel
theorem dX7_county_167 : decode cX7_county 167 = .ok (.aload_n 0, 1) := by decide +kernel
theorem dX7_county_168 : decode cX7_county 168 = .ok (.getfield 28, 3) := by decide +kernel
theorem dX7_county_171 : decode cX7_county 171 = .ok (.iload 5, 2) := by decide +kernel
theorem dX7_county_173 : decode cX7_county 173 = .ok (.iconst 1, 1) := by decide +kernel
theorem dX7_county_174 : decode cX7_county 174 = .ok (.bastore, 1) := by decide +kernel
theorem dX7_county_175 : decode cX7_county 175 = .ok (.iconst 1, 1) := by decide +kernel
theorem dX7_county_176 : decode cX7_county 176 = .ok (.istore_n 2, 1) := by decide +kernel
theorem dX7_county_177 : decode cX7_county 177 = .ok (.iinc 4 1, 3) := by decide +kernel
theorem dX7_county_180 : decode cX7_county 180 = .ok (.goto (-71), 3) := by decide +kernel
theorem dX7_county_183 : decode cX7_county 183 = .ok (.iinc 3 1, 3) := by decide +kernel
theorem dX7_county_186 : decode cX7_county 186 = .ok (.goto (-86), 3) := by decide +kernel
theorem dX7_county_189 : decode cX7_county 189 = .ok (.goto (-97), 3) := by decide +kernel
theorem dX7_county_192 : decode cX7_county 192 = .ok (.iconst 0, 1) := by decide +kernel
theorem dX7_county_193 : decode cX7_county 193 = .ok (.istore_n 3, 1) := by decide +kernel
theorem dX7_county_194 : decode cX7_county 194 = .ok (.iconst 0, 1) := by decide +kernel
theorem dX7_county_195 : decode cX7_county 195 = .ok (.istore 4, 2) := by decide +kernel
theorem dX7_county_197 : decode cX7_county 197 = .ok (.iload 4, 2) := by decide +kernel
theorem dX7_county_199 : decode cX7_county 199 = .ok (.bipush 64, 2) := by decide +kernel
theorem dX7_county_201 : decode cX7_county 201 = .ok (.if_icmp .ge 45, 3) := by decide +kernel
theorem dX7_county_204 : decode cX7_county 204 = .ok (.iload_n 3, 1) := by decide +kernel
theorem dX7_county_205 : decode cX7_county 205 = .ok (.aload_n 0, 1) := by decide +kernel
theorem dX7_county_206 : decode cX7_county 206 = .ok (.getfield 28, 3) := by decide +kernel
theorem dX7_county_209 : decode cX7_county 209 = .ok (.iload 4, 2) := by decide +kernel
theorem dX7_county_211 : decode cX7_county 211 = .ok (.baload, 1) := by decide +kernel
theorem dX7_county_212 : decode cX7_county 212 = .ok (.ifCond .ne 25, 3) := by decide +kernel
theorem dX7_county_215 : decode cX7_county 215 = .ok (.aload_n 0, 1) := by decide +kernel
theorem dX7_county_216 : decode cX7_county 216 = .ok (.getfield 7, 3) := by decide +kernel
theorem dX7_county_219 : decode cX7_county 219 = .ok (.bipush 32, 2) := by decide +kernel
theorem dX7_county_221 : decode cX7_county 221 = .ok (.bipush 64, 2) := by decide +kernel
theorem dX7_county_223 : decode cX7_county 223 = .ok (.iload_n 1, 1) := by decide +kernel
theorem dX7_county_224 : decode cX7_county 224 = .ok (.imul, 1) := by decide +kernel
theorem dX7_county_225 : decode cX7_county 225 = .ok (.iadd, 1) := by decide +kernel
theorem dX7_county_226 : decode cX7_county 226 = .ok (.iload 4, 2) := by decide +kernel
theorem dX7_county_228 : decode cX7_county 228 = .ok (.iadd, 1) := by decide +kernel
theorem dX7_county_229 : decode cX7_county 229 = .ok (.iaload, 1) := by decide +kernel
theorem dX7_county_230 : decode cX7_county 230 = .ok (.ifCond .ne 7, 3) := by decide +kernel
theorem dX7_county_233 : decode cX7_county 233 = .ok (.iconst 1, 1) := by decide +kernel
theorem dX7_county_234 : decode cX7_county 234 = .ok (.goto 4, 3) := by decide +kernel
theorem dX7_county_237 : decode cX7_county 237 = .ok (.iconst 0, 1) := by decide +kernel
theorem dX7_county_238 : decode cX7_county 238 = .ok (.iadd, 1) := by decide +kernel
theorem dX7_county_239 : decode cX7_county 239 = .ok (.istore_n 3, 1) := by decide +kernel
theorem dX7_county_240 : decode cX7_county 240 = .ok (.iinc 4 1, 3) := by decide +kernel
theorem dX7_county_243 : decode cX7_county 243 = .ok (.goto (-46), 3) := by decide +kernel
theorem dX7_county_246 : decode cX7_county 246 = .ok (.iload_n 3, 1) := by decide +kernel
theorem dX7_county_247 : decode cX7_county 247 = .ok (.ireturn, 1) := by decide +kernel
def f_X7_county_j51 (x1 : Int32) (x2 : Int32) (t0 : Int32) (S : gSt) : Option ((Int32 × Int32 × gSt) ⊕ (Int32 × gSt)) :=
(if t0 = 0 then
if gin x2 64 then
gLet (gI S 54 x2.toNatClampNeg (0 : Int32)) fun S7 =>
(some (.inl (x1, x2 + (1 : Int32), S7))) else none
else
if gin (((32 : Int32) + ((64 : Int32) * x1)) + x2) 416 then
((if (S.1 48 (((32 : Int32) + ((64 : Int32) * x1)) + x2).toNatClampNeg) = 0 then
if gin x2 64 then
gLet (gI S 54 x2.toNatClampNeg (1 : Int32)) fun S13 =>
(some (.inl (x1, x2 + (1 : Int32), S13))) else none
else
if gin x2 64 then
gLet (gI S 54 x2.toNatClampNeg (0 : Int32)) fun S11 =>
(some (.inl (x1, x2 + (1 : Int32), S11))) else none)) else none)
def f_X7_county_j46 (x1 : Int32) (x2 : Int32) (S : gSt) : Option ((Int32 × Int32 × gSt) ⊕ (Int32 × gSt)) :=
f_X7_county_j51 x1 x2 (1 : Int32) S
def f_X7_county_s12_b (x1 : Int32) (x2 : Int32) (S : gSt) : Option ((Int32 × Int32 × gSt) ⊕ (Int32 × gSt)) :=
(if (64 : Int32) ≤ x2 then
some (.inr (x1, S))
else
(if (x2 - x2 / (8 : Int32) * (8 : Int32)) = 0 then
f_X7_county_j46 x1 x2 S
else
(if (x2 - x2 / (8 : Int32) * (8 : Int32)) = (7 : Int32) then
f_X7_county_j46 x1 x2 S
else
(if x2 < (8 : Int32) then
f_X7_county_j46 x1 x2 S
else
(if x2 ≤ (55 : Int32) then
f_X7_county_j51 x1 x2 (0 : Int32) S
else
f_X7_county_j46 x1 x2 S)))))
def f_X7_county_s12 : (Int32 × Int32 × gSt) → Option ((Int32 × Int32 × gSt) ⊕ (Int32 × gSt)) := fun t => f_X7_county_s12_b t.1 t.2.1 t.2.2
def f_X7_county_s109_b (x1 : Int32) (x2 : Int32) (x3 : Int32) (x4 : Int32) (S : gSt) : Option ((Int32 × Int32 × Int32 × Int32 × gSt) ⊕ (Int32 × Int32 × Int32 × gSt)) :=
(if (4 : Int32) ≤ x4 then
some (.inr (x1, x2, x3, S))
else
if gin x3 64 then
((if (S.1 54 x3.toNatClampNeg) = 0 then
some (.inr (x1, x2, x3, S))
else
gBind2 (f_X7_beside x3 x4 S) fun r27 S25 =>
(if r27 = (-4 : Int32) then
some (.inl (x1, x2, x3, x4 + (1 : Int32), S25))
else
if gin r27 64 then
((if (S25.1 54 r27.toNatClampNeg) = 0 then
if gin (((32 : Int32) + ((64 : Int32) * x1)) + r27) 416 then
((if (S25.1 48 (((32 : Int32) + ((64 : Int32) * x1)) + r27).toNatClampNeg) = 0 then
if gin r27 64 then
gLet (gI S25 54 r27.toNatClampNeg (1 : Int32)) fun S34 =>
(some (.inl (x1, (1 : Int32), x3, x4 + (1 : Int32), S34))) else none
else
some (.inl (x1, x2, x3, x4 + (1 : Int32), S25)))) else none
else
some (.inl (x1, x2, x3, x4 + (1 : Int32), S25)))) else none))) else none)
def f_X7_county_s109 : (Int32 × Int32 × Int32 × Int32 × gSt) → Option ((Int32 × Int32 × Int32 × Int32 × gSt) ⊕ (Int32 × Int32 × Int32 × gSt)) := fun t => f_X7_county_s109_b t.1 t.2.1 t.2.2.1 t.2.2.2.1 t.2.2.2.2
def f_X7_county_s100_b (x1 : Int32) (x2 : Int32) (x3 : Int32) (S : gSt) : Option ((Int32 × Int32 × Int32 × gSt) ⊕ (Int32 × Int32 × gSt)) :=
(if (64 : Int32) ≤ x3 then
some (.inr (x1, x2, S))
else
(gLoop (f_X7_county_s109) gFuel (x1, x2, x3, (0 : Int32), S)).bind fun q35 => match q35 with
| (y1_35, y2_35, y3_35, S35) =>
some (.inl (y1_35, y2_35, y3_35 + (1 : Int32), S35)))
def f_X7_county_s100 : (Int32 × Int32 × Int32 × gSt) → Option ((Int32 × Int32 × Int32 × gSt) ⊕ (Int32 × Int32 × gSt)) := fun t => f_X7_county_s100_b t.1 t.2.1 t.2.2.1 t.2.2.2
def f_X7_county_s92_b (x1 : Int32) (x2 : Int32) (S : gSt) : Option ((Int32 × Int32 × gSt) ⊕ (Int32 × gSt)) :=
(if x2 = 0 then
some (.inr (x1, S))
else
(gLoop (f_X7_county_s100) gFuel (x1, (0 : Int32), (0 : Int32), S)).bind fun q36 => match q36 with
| (y1_36, y2_36, S36) =>
some (.inl (y1_36, y2_36, S36)))
def f_X7_county_s92 : (Int32 × Int32 × gSt) → Option ((Int32 × Int32 × gSt) ⊕ (Int32 × gSt)) := fun t => f_X7_county_s92_b t.1 t.2.1 t.2.2
def f_X7_county_s197_b (x1 : Int32) (x3 : Int32) (x4 : Int32) (S : gSt) : Option ((Int32 × Int32 × Int32 × gSt) ⊕ (Int32 × gSt)) :=
(if (64 : Int32) ≤ x4 then
some (.inr (x3, S))
else
if gin x4 64 then
((if (S.1 54 x4.toNatClampNeg) = 0 then
if gin (((32 : Int32) + ((64 : Int32) * x1)) + x4) 416 then
((if (S.1 48 (((32 : Int32) + ((64 : Int32) * x1)) + x4).toNatClampNeg) = 0 then
gLet (x3 + (1 : Int32)) fun v45 =>
some (.inl (x1, v45, x4 + (1 : Int32), S))
else
gLet (x3 + (0 : Int32)) fun v44 =>
some (.inl (x1, v44, x4 + (1 : Int32), S)))) else none
else
gLet (x3 + (0 : Int32)) fun v41 =>
some (.inl (x1, v41, x4 + (1 : Int32), S)))) else none)
def f_X7_county_s197 : (Int32 × Int32 × Int32 × gSt) → Option ((Int32 × Int32 × Int32 × gSt) ⊕ (Int32 × gSt)) := fun t => f_X7_county_s197_b t.1 t.2.1 t.2.2.1 t.2.2.2
def f_X7_county (p1 : Int32) (S : gSt) : Option (Int32 × gSt) :=
gBind2 (f_X7_isWalker p1 S) fun r3 S1 =>
(if r3 = 0 then
some ((-1 : Int32), S1)
else
(gLoop (f_X7_county_s12) gFuel (p1, (0 : Int32), S1)).bind fun q19 => match q19 with
| (y1_19, S19) =>
(gLoop (f_X7_county_s92) gFuel (y1_19, (1 : Int32), S19)).bind fun q37 => match q37 with
| (y1_37, S37) =>
(gLoop (f_X7_county_s197) gFuel (y1_37, (0 : Int32), (0 : Int32), S37)).bind fun q46 => match q46 with
| (y3_46, S46) =>
some (y3_46, S46))
set_option maxHeartbeats 4000000 in
set_option maxRecDepth 20000 in
theorem ok_X7_county {p1 : Int32} {S S0 : gSt} {r0 : Int32}  (h : f_X7_county p1 S = some (r0, S0)) : gCT yX7_county cX7_county 6 (some .int) 2 (fun w => [.ref (w.2.1 47), .int p1]) S (some (.int r0)) S0 := by
  refine gEnter (fun X => [some (.ref (gad X 47)), some (.int p1), none, none, none, none]) (by decide) (fun X => ⟨rfl, rfl⟩) (fun w => Nat.le_of_ble_eq_true rfl) (fun X hp => ?_)
  show AW X RX7 2 cX7_county 0 [some (.ref (gad X 47)), some (.int p1), none, none, none, none] [] S
  unfold f_X7_county at h
  refine a_aloadn (pc := 0) dX7_county_0 rfl rfl ?_
  refine a_iloadn (pc := 1) dX7_county_1 rfl rfl ?_
  obtain ⟨r3, S1, hc2, h⟩ := g_bind2 h
  refine a_invVi (pc := 2) (ok_X7_isWalker hc2) gyX7_isWalker vyX7_isWalker mlX7_82 sh_47 rfl (As := [.int p1]) rfl rfl (by decide) (st := []) rfl (Nat.le_of_ble_eq_true rfl) dX7_county_2 ?_
  refine a_if_ne (pc := 5) (tgt := 10) dX7_county_5 (by decide) (fun c4 => ?_) (fun c4 => ?_)
  · rw [if_neg c4] at h
    refine a_iconst (pc := 10) (v := (0 : Int32)) dX7_county_10 (by decide) ?_
    refine a_istoren (pc := 11) dX7_county_11 rfl (Nat.le_of_ble_eq_true rfl) rfl (L' := [some (.ref (gad X 47)), some (.int p1), some (.int (0 : Int32)), none, none, none]) rfl ?_
    obtain ⟨R19, hR19, h⟩ := g_bind h
    have E12 : ∀ (y1_19 : Int32) (S19 : gSt), ((gLoop (f_X7_county_s92) gFuel (y1_19, (1 : Int32), S19)).bind fun q37 => match q37 with | (y1_37, S37) => (gLoop (f_X7_county_s197) gFuel (y1_37, (0 : Int32), (0 : Int32), S37)).bind fun q46 => match q46 with | (y3_46, S46) => some (y3_46, S46)) = some (r0, S0) → AW X RX7 2 cX7_county 90 [some (.ref (gad X 47)), some (.int y1_19), none, none, none, none] [] S19 := by
      intro y1_19 S19 h
      refine a_iconst (pc := 90) (v := (1 : Int32)) dX7_county_90 (by decide) ?_
      refine a_istoren (pc := 91) dX7_county_91 rfl (Nat.le_of_ble_eq_true rfl) rfl (L' := [some (.ref (gad X 47)), some (.int y1_19), some (.int (1 : Int32)), none, none, none]) rfl ?_
      obtain ⟨R37, hR37, h⟩ := g_bind h
      have E92 : ∀ (y1_37 : Int32) (S37 : gSt), ((gLoop (f_X7_county_s197) gFuel (y1_37, (0 : Int32), (0 : Int32), S37)).bind fun q46 => match q46 with | (y3_46, S46) => some (y3_46, S46)) = some (r0, S0) → AW X RX7 2 cX7_county 192 [some (.ref (gad X 47)), some (.int y1_37), none, none, none, none] [] S37 := by
        intro y1_37 S37 h
        refine a_iconst (pc := 192) (v := (0 : Int32)) dX7_county_192 (by decide) ?_
        refine a_istoren (pc := 193) dX7_county_193 rfl (Nat.le_of_ble_eq_true rfl) rfl (L' := [some (.ref (gad X 47)), some (.int y1_37), none, some (.int (0 : Int32)), none, none]) rfl ?_
        refine a_iconst (pc := 194) (v := (0 : Int32)) dX7_county_194 (by decide) ?_
        refine a_istore (pc := 195) dX7_county_195 (Nat.le_of_ble_eq_true rfl) rfl (L' := [some (.ref (gad X 47)), some (.int y1_37), none, some (.int (0 : Int32)), some (.int (0 : Int32)), none]) rfl ?_
        obtain ⟨R46, hR46, h⟩ := g_bind h
        have E197 : ∀ (y3_46 : Int32) (S46 : gSt), (some (y3_46, S46)) = some (r0, S0) → AW X RX7 2 cX7_county 246 [none, none, none, some (.int y3_46), none, none] [] S46 := by
          intro y3_46 S46 h
          refine a_iloadn (pc := 246) dX7_county_246 rfl rfl ?_
          obtain ⟨rfl, rfl⟩ := Prod.mk.inj (Option.some.inj h)
          exact a_iret hp dX7_county_247
        have lp : ∀ (n : Nat) (x1 : Int32) (x3 : Int32) (x4 : Int32) (S : gSt), gLoop (f_X7_county_s197) n (x1, x3, x4, S) = some R46 → AW X RX7 2 cX7_county 197 [some (.ref (gad X 47)), some (.int x1), none, some (.int x3), some (.int x4), none] [] S := by
          intro n
          induction n with
          | zero => intro x1 x3 x4 S hR; cases hR
          | succ n ih =>
            intro x1 x3 x4 S hR
            obtain ⟨q, hs, hR⟩ := g_bind hR
            have hs : f_X7_county_s197_b x1 x3 x4 S = some q := hs
            unfold f_X7_county_s197_b at hs
            refine a_iload (pc := 197) dX7_county_197 rfl ?_
            refine a_bipush (pc := 199) (v := (64 : Int32)) dX7_county_199 (by decide) ?_
            refine a_icmp_ge (pc := 201) (tgt := 246) dX7_county_201 (by decide) (fun c38 => ?_) (fun c38 => ?_)
            · rw [if_pos c38] at hs
              obtain rfl := Option.some.inj hs
              obtain rfl := Option.some.inj hR
              refine a_mask [false, false, true, true, false, true] (L' := [none, none, none, some (.int x3), none, none]) rfl ?_
              exact E197 _ _ h
            · rw [if_neg c38] at hs
              refine a_iloadn (pc := 204) dX7_county_204 rfl rfl ?_
              refine a_aloadn (pc := 205) dX7_county_205 rfl rfl ?_
              refine a_getA (pc := 206) flX7_28 sh_47 rfl dX7_county_206 ?_
              refine a_iload (pc := 209) dX7_county_209 rfl ?_
              obtain ⟨hi39, hs⟩ := g_if hs
              refine a_zald (pc := 211) sh_54 hi39 dX7_county_211 ?_
              refine a_if_ne (pc := 212) (tgt := 237) dX7_county_212 (by decide) (fun c40 => ?_) (fun c40 => ?_)
              · rw [if_neg c40] at hs
                refine a_iconst (pc := 237) (v := (0 : Int32)) dX7_county_237 (by decide) ?_
                refine a_iadd (pc := 238) dX7_county_238 ?_
                obtain ⟨v41, ev41, hs⟩ := g_let hs
                refine a_nmI ev41 ?_
                refine a_istoren (pc := 239) dX7_county_239 rfl (Nat.le_of_ble_eq_true rfl) rfl (L' := [some (.ref (gad X 47)), some (.int x1), none, some (.int v41), some (.int x4), none]) rfl ?_
                refine a_iinc (pc := 240) dX7_county_240 rfl (v := x4 + (1 : Int32)) rfl (Nat.le_of_ble_eq_true rfl) rfl (L' := [some (.ref (gad X 47)), some (.int x1), none, some (.int v41), some (.int (x4 + (1 : Int32))), none]) rfl ?_
                refine a_goto (pc := 243) (tgt := 197) dX7_county_243 (by decide) ?_
                obtain rfl := Option.some.inj hs
                exact ih _ _ _ _ hR
              · rw [if_pos c40] at hs
                refine a_aloadn (pc := 215) dX7_county_215 rfl rfl ?_
                refine a_getA (pc := 216) flX7_7 sh_47 rfl dX7_county_216 ?_
                refine a_bipush (pc := 219) (v := (32 : Int32)) dX7_county_219 (by decide) ?_
                refine a_bipush (pc := 221) (v := (64 : Int32)) dX7_county_221 (by decide) ?_
                refine a_iloadn (pc := 223) dX7_county_223 rfl rfl ?_
                refine a_imul (pc := 224) dX7_county_224 ?_
                refine a_iadd (pc := 225) dX7_county_225 ?_
                refine a_iload (pc := 226) dX7_county_226 rfl ?_
                refine a_iadd (pc := 228) dX7_county_228 ?_
                obtain ⟨hi42, hs⟩ := g_if hs
                refine a_iald (pc := 229) sh_48 hi42 dX7_county_229 ?_
                refine a_if_ne (pc := 230) (tgt := 237) dX7_county_230 (by decide) (fun c43 => ?_) (fun c43 => ?_)
                · rw [if_neg c43] at hs
                  refine a_iconst (pc := 237) (v := (0 : Int32)) dX7_county_237 (by decide) ?_
                  refine a_iadd (pc := 238) dX7_county_238 ?_
                  obtain ⟨v44, ev44, hs⟩ := g_let hs
                  refine a_nmI ev44 ?_
                  refine a_istoren (pc := 239) dX7_county_239 rfl (Nat.le_of_ble_eq_true rfl) rfl (L' := [some (.ref (gad X 47)), some (.int x1), none, some (.int v44), some (.int x4), none]) rfl ?_
                  refine a_iinc (pc := 240) dX7_county_240 rfl (v := x4 + (1 : Int32)) rfl (Nat.le_of_ble_eq_true rfl) rfl (L' := [some (.ref (gad X 47)), some (.int x1), none, some (.int v44), some (.int (x4 + (1 : Int32))), none]) rfl ?_
                  refine a_goto (pc := 243) (tgt := 197) dX7_county_243 (by decide) ?_
                  obtain rfl := Option.some.inj hs
                  exact ih _ _ _ _ hR
                · rw [if_pos c43] at hs
                  refine a_iconst (pc := 233) (v := (1 : Int32)) dX7_county_233 (by decide) ?_
                  refine a_goto (pc := 234) (tgt := 238) dX7_county_234 (by decide) ?_
                  refine a_iadd (pc := 238) dX7_county_238 ?_
                  obtain ⟨v45, ev45, hs⟩ := g_let hs
                  refine a_nmI ev45 ?_
                  refine a_istoren (pc := 239) dX7_county_239 rfl (Nat.le_of_ble_eq_true rfl) rfl (L' := [some (.ref (gad X 47)), some (.int x1), none, some (.int v45), some (.int x4), none]) rfl ?_
                  refine a_iinc (pc := 240) dX7_county_240 rfl (v := x4 + (1 : Int32)) rfl (Nat.le_of_ble_eq_true rfl) rfl (L' := [some (.ref (gad X 47)), some (.int x1), none, some (.int v45), some (.int (x4 + (1 : Int32))), none]) rfl ?_
                  refine a_goto (pc := 243) (tgt := 197) dX7_county_243 (by decide) ?_
                  obtain rfl := Option.some.inj hs
                  exact ih _ _ _ _ hR
        exact lp _ _ _ _ _ hR46
      have lp : ∀ (n : Nat) (x1 : Int32) (x2 : Int32) (S : gSt), gLoop (f_X7_county_s92) n (x1, x2, S) = some R37 → AW X RX7 2 cX7_county 92 [some (.ref (gad X 47)), some (.int x1), some (.int x2), none, none, none] [] S := by
        intro n
        induction n with
        | zero => intro x1 x2 S hR; cases hR
        | succ n ih =>
          intro x1 x2 S hR
          obtain ⟨q, hs, hR⟩ := g_bind hR
          have hs : f_X7_county_s92_b x1 x2 S = some q := hs
          unfold f_X7_county_s92_b at hs
          refine a_iloadn (pc := 92) dX7_county_92 rfl rfl ?_
          refine a_if_eq (pc := 93) (tgt := 192) dX7_county_93 (by decide) (fun c20 => ?_) (fun c20 => ?_)
          · rw [if_pos c20] at hs
            obtain rfl := Option.some.inj hs
            obtain rfl := Option.some.inj hR
            refine a_mask [true, true, false, true, true, true] (L' := [some (.ref (gad X 47)), some (.int x1), none, none, none, none]) rfl ?_
            exact E92 _ _ h
          · rw [if_neg c20] at hs
            refine a_iconst (pc := 96) (v := (0 : Int32)) dX7_county_96 (by decide) ?_
            refine a_istoren (pc := 97) dX7_county_97 rfl (Nat.le_of_ble_eq_true rfl) rfl (L' := [some (.ref (gad X 47)), some (.int x1), some (.int (0 : Int32)), none, none, none]) rfl ?_
            refine a_iconst (pc := 98) (v := (0 : Int32)) dX7_county_98 (by decide) ?_
            refine a_istoren (pc := 99) dX7_county_99 rfl (Nat.le_of_ble_eq_true rfl) rfl (L' := [some (.ref (gad X 47)), some (.int x1), some (.int (0 : Int32)), some (.int (0 : Int32)), none, none]) rfl ?_
            obtain ⟨R36, hR36, hs⟩ := g_bind hs
            have E100 : ∀ (y1_36 : Int32) (y2_36 : Int32) (S36 : gSt), (some (.inl (y1_36, y2_36, S36))) = some q → AW X RX7 2 cX7_county 189 [some (.ref (gad X 47)), some (.int y1_36), some (.int y2_36), none, none, none] [] S36 := by
              intro y1_36 y2_36 S36 hs
              refine a_goto (pc := 189) (tgt := 92) dX7_county_189 (by decide) ?_
              obtain rfl := Option.some.inj hs
              exact ih _ _ _ hR
            have lp : ∀ (n : Nat) (x1 : Int32) (x2 : Int32) (x3 : Int32) (S : gSt), gLoop (f_X7_county_s100) n (x1, x2, x3, S) = some R36 → AW X RX7 2 cX7_county 100 [some (.ref (gad X 47)), some (.int x1), some (.int x2), some (.int x3), none, none] [] S := by
              intro n
              induction n with
              | zero => intro x1 x2 x3 S hR; cases hR
              | succ n ih =>
                intro x1 x2 x3 S hR
                obtain ⟨q, hs, hR⟩ := g_bind hR
                have hs : f_X7_county_s100_b x1 x2 x3 S = some q := hs
                unfold f_X7_county_s100_b at hs
                refine a_iloadn (pc := 100) dX7_county_100 rfl rfl ?_
                refine a_bipush (pc := 101) (v := (64 : Int32)) dX7_county_101 (by decide) ?_
                refine a_icmp_ge (pc := 103) (tgt := 189) dX7_county_103 (by decide) (fun c21 => ?_) (fun c21 => ?_)
                · rw [if_pos c21] at hs
                  obtain rfl := Option.some.inj hs
                  obtain rfl := Option.some.inj hR
                  refine a_mask [true, true, true, false, true, true] (L' := [some (.ref (gad X 47)), some (.int x1), some (.int x2), none, none, none]) rfl ?_
                  exact E100 _ _ _ hs
                · rw [if_neg c21] at hs
                  refine a_iconst (pc := 106) (v := (0 : Int32)) dX7_county_106 (by decide) ?_
                  refine a_istore (pc := 107) dX7_county_107 (Nat.le_of_ble_eq_true rfl) rfl (L' := [some (.ref (gad X 47)), some (.int x1), some (.int x2), some (.int x3), some (.int (0 : Int32)), none]) rfl ?_
                  obtain ⟨R35, hR35, hs⟩ := g_bind hs
                  have E109 : ∀ (y1_35 : Int32) (y2_35 : Int32) (y3_35 : Int32) (S35 : gSt), (some (.inl (y1_35, y2_35, y3_35 + (1 : Int32), S35))) = some q → AW X RX7 2 cX7_county 183 [some (.ref (gad X 47)), some (.int y1_35), some (.int y2_35), some (.int y3_35), none, none] [] S35 := by
                    intro y1_35 y2_35 y3_35 S35 hs
                    refine a_iinc (pc := 183) dX7_county_183 rfl (v := y3_35 + (1 : Int32)) rfl (Nat.le_of_ble_eq_true rfl) rfl (L' := [some (.ref (gad X 47)), some (.int y1_35), some (.int y2_35), some (.int (y3_35 + (1 : Int32))), none, none]) rfl ?_
                    refine a_goto (pc := 186) (tgt := 100) dX7_county_186 (by decide) ?_
                    obtain rfl := Option.some.inj hs
                    exact ih _ _ _ _ hR
                  have lp : ∀ (n : Nat) (x1 : Int32) (x2 : Int32) (x3 : Int32) (x4 : Int32) (S : gSt), gLoop (f_X7_county_s109) n (x1, x2, x3, x4, S) = some R35 → AW X RX7 2 cX7_county 109 [some (.ref (gad X 47)), some (.int x1), some (.int x2), some (.int x3), some (.int x4), none] [] S := by
                    intro n
                    induction n with
                    | zero => intro x1 x2 x3 x4 S hR; cases hR
                    | succ n ih =>
                      intro x1 x2 x3 x4 S hR
                      obtain ⟨q, hs, hR⟩ := g_bind hR
                      have hs : f_X7_county_s109_b x1 x2 x3 x4 S = some q := hs
                      unfold f_X7_county_s109_b at hs
                      refine a_iload (pc := 109) dX7_county_109 rfl ?_
                      refine a_iconst (pc := 111) (v := (4 : Int32)) dX7_county_111 (by decide) ?_
                      refine a_icmp_ge (pc := 112) (tgt := 183) dX7_county_112 (by decide) (fun c22 => ?_) (fun c22 => ?_)
                      · rw [if_pos c22] at hs
                        obtain rfl := Option.some.inj hs
                        obtain rfl := Option.some.inj hR
                        refine a_mask [true, true, true, true, false, true] (L' := [some (.ref (gad X 47)), some (.int x1), some (.int x2), some (.int x3), none, none]) rfl ?_
                        exact E109 _ _ _ _ hs
                      · rw [if_neg c22] at hs
                        refine a_aloadn (pc := 115) dX7_county_115 rfl rfl ?_
                        refine a_getA (pc := 116) flX7_28 sh_47 rfl dX7_county_116 ?_
                        refine a_iloadn (pc := 119) dX7_county_119 rfl rfl ?_
                        obtain ⟨hi23, hs⟩ := g_if hs
                        refine a_zald (pc := 120) sh_54 hi23 dX7_county_120 ?_
                        refine a_if_eq (pc := 121) (tgt := 183) dX7_county_121 (by decide) (fun c24 => ?_) (fun c24 => ?_)
                        · rw [if_pos c24] at hs
                          obtain rfl := Option.some.inj hs
                          obtain rfl := Option.some.inj hR
                          refine a_mask [true, true, true, true, false, true] (L' := [some (.ref (gad X 47)), some (.int x1), some (.int x2), some (.int x3), none, none]) rfl ?_
                          exact E109 _ _ _ _ hs
                        · rw [if_neg c24] at hs
                          refine a_iloadn (pc := 124) dX7_county_124 rfl rfl ?_
                          refine a_iload (pc := 125) dX7_county_125 rfl ?_
                          obtain ⟨r27, S25, hc26, hs⟩ := g_bind2 hs
                          refine a_invSi (pc := 127) (ok_X7_beside hc26) gyX7_beside syX7_beside mlX7_146 (As := [.int x3, .int x4]) rfl rfl (by decide) (st := []) rfl (Nat.le_of_ble_eq_true rfl) dX7_county_127 ?_
                          refine a_istore (pc := 130) dX7_county_130 (Nat.le_of_ble_eq_true rfl) rfl (L' := [some (.ref (gad X 47)), some (.int x1), some (.int x2), some (.int x3), some (.int x4), some (.int r27)]) rfl ?_
                          refine a_iload (pc := 132) dX7_county_132 rfl ?_
                          refine a_bipush (pc := 134) (v := (-4 : Int32)) dX7_county_134 (by decide) ?_
                          refine a_icmp_eq (pc := 136) (tgt := 177) dX7_county_136 (by decide) (fun c28 => ?_) (fun c28 => ?_)
                          · rw [if_pos c28] at hs
                            refine a_iinc (pc := 177) dX7_county_177 rfl (v := x4 + (1 : Int32)) rfl (Nat.le_of_ble_eq_true rfl) rfl (L' := [some (.ref (gad X 47)), some (.int x1), some (.int x2), some (.int x3), some (.int (x4 + (1 : Int32))), some (.int r27)]) rfl ?_
                            refine a_goto (pc := 180) (tgt := 109) dX7_county_180 (by decide) ?_
                            obtain rfl := Option.some.inj hs
                            refine a_mask [true, true, true, true, true, false] (L' := [some (.ref (gad X 47)), some (.int x1), some (.int x2), some (.int x3), some (.int (x4 + (1 : Int32))), none]) rfl ?_
                            exact ih _ _ _ _ _ hR
                          · rw [if_neg c28] at hs
                            refine a_aloadn (pc := 139) dX7_county_139 rfl rfl ?_
                            refine a_getA (pc := 140) flX7_28 sh_47 rfl dX7_county_140 ?_
                            refine a_iload (pc := 143) dX7_county_143 rfl ?_
                            obtain ⟨hi29, hs⟩ := g_if hs
                            refine a_zald (pc := 145) sh_54 hi29 dX7_county_145 ?_
                            refine a_if_ne (pc := 146) (tgt := 177) dX7_county_146 (by decide) (fun c30 => ?_) (fun c30 => ?_)
                            · rw [if_neg c30] at hs
                              refine a_iinc (pc := 177) dX7_county_177 rfl (v := x4 + (1 : Int32)) rfl (Nat.le_of_ble_eq_true rfl) rfl (L' := [some (.ref (gad X 47)), some (.int x1), some (.int x2), some (.int x3), some (.int (x4 + (1 : Int32))), some (.int r27)]) rfl ?_
                              refine a_goto (pc := 180) (tgt := 109) dX7_county_180 (by decide) ?_
                              obtain rfl := Option.some.inj hs
                              refine a_mask [true, true, true, true, true, false] (L' := [some (.ref (gad X 47)), some (.int x1), some (.int x2), some (.int x3), some (.int (x4 + (1 : Int32))), none]) rfl ?_
                              exact ih _ _ _ _ _ hR
                            · rw [if_pos c30] at hs
                              refine a_aloadn (pc := 149) dX7_county_149 rfl rfl ?_
                              refine a_getA (pc := 150) flX7_7 sh_47 rfl dX7_county_150 ?_
                              refine a_bipush (pc := 153) (v := (32 : Int32)) dX7_county_153 (by decide) ?_
                              refine a_bipush (pc := 155) (v := (64 : Int32)) dX7_county_155 (by decide) ?_
                              refine a_iloadn (pc := 157) dX7_county_157 rfl rfl ?_
                              refine a_imul (pc := 158) dX7_county_158 ?_
                              refine a_iadd (pc := 159) dX7_county_159 ?_
                              refine a_iload (pc := 160) dX7_county_160 rfl ?_
                              refine a_iadd (pc := 162) dX7_county_162 ?_
                              obtain ⟨hi31, hs⟩ := g_if hs
                              refine a_iald (pc := 163) sh_48 hi31 dX7_county_163 ?_
                              refine a_if_ne (pc := 164) (tgt := 177) dX7_county_164 (by decide) (fun c32 => ?_) (fun c32 => ?_)
                              · rw [if_neg c32] at hs
                                refine a_iinc (pc := 177) dX7_county_177 rfl (v := x4 + (1 : Int32)) rfl (Nat.le_of_ble_eq_true rfl) rfl (L' := [some (.ref (gad X 47)), some (.int x1), some (.int x2), some (.int x3), some (.int (x4 + (1 : Int32))), some (.int r27)]) rfl ?_
                                refine a_goto (pc := 180) (tgt := 109) dX7_county_180 (by decide) ?_
                                obtain rfl := Option.some.inj hs
                                refine a_mask [true, true, true, true, true, false] (L' := [some (.ref (gad X 47)), some (.int x1), some (.int x2), some (.int x3), some (.int (x4 + (1 : Int32))), none]) rfl ?_
                                exact ih _ _ _ _ _ hR
                              · rw [if_pos c32] at hs
                                refine a_aloadn (pc := 167) dX7_county_167 rfl rfl ?_
                                refine a_getA (pc := 168) flX7_28 sh_47 rfl dX7_county_168 ?_
                                refine a_iload (pc := 171) dX7_county_171 rfl ?_
                                refine a_iconst (pc := 173) (v := (1 : Int32)) dX7_county_173 (by decide) ?_
                                obtain ⟨hi33, hs⟩ := g_if hs
                                refine a_zast (pc := 174) sh_54 hi33 rfl dX7_county_174 ?_
                                obtain ⟨S34, eS34, hs⟩ := g_let hs
                                refine a_nmS eS34 ?_
                                refine a_iconst (pc := 175) (v := (1 : Int32)) dX7_county_175 (by decide) ?_
                                refine a_istoren (pc := 176) dX7_county_176 rfl (Nat.le_of_ble_eq_true rfl) rfl (L' := [some (.ref (gad X 47)), some (.int x1), some (.int (1 : Int32)), some (.int x3), some (.int x4), some (.int r27)]) rfl ?_
                                refine a_iinc (pc := 177) dX7_county_177 rfl (v := x4 + (1 : Int32)) rfl (Nat.le_of_ble_eq_true rfl) rfl (L' := [some (.ref (gad X 47)), some (.int x1), some (.int (1 : Int32)), some (.int x3), some (.int (x4 + (1 : Int32))), some (.int r27)]) rfl ?_
                                refine a_goto (pc := 180) (tgt := 109) dX7_county_180 (by decide) ?_
                                obtain rfl := Option.some.inj hs
                                refine a_mask [true, true, true, true, true, false] (L' := [some (.ref (gad X 47)), some (.int x1), some (.int (1 : Int32)), some (.int x3), some (.int (x4 + (1 : Int32))), none]) rfl ?_
                                exact ih _ _ _ _ _ hR
                  exact lp _ _ _ _ _ _ hR35
            exact lp _ _ _ _ _ hR36
      exact lp _ _ _ _ hR37
    have lp : ∀ (n : Nat) (x1 : Int32) (x2 : Int32) (S : gSt), gLoop (f_X7_county_s12) n (x1, x2, S) = some R19 → AW X RX7 2 cX7_county 12 [some (.ref (gad X 47)), some (.int x1), some (.int x2), none, none, none] [] S := by
      intro n
      induction n with
      | zero => intro x1 x2 S hR; cases hR
      | succ n ih =>
        intro x1 x2 S hR
        obtain ⟨q, hs, hR⟩ := g_bind hR
        have hs : f_X7_county_s12_b x1 x2 S = some q := hs
        unfold f_X7_county_s12_b at hs
        have J51 : ∀ (x1 : Int32) (x2 : Int32) (t0 : Int32) (S : gSt), f_X7_county_j51 x1 x2 t0 S = some q → AW X RX7 2 cX7_county 51 [some (.ref (gad X 47)), some (.int x1), some (.int x2), none, none, none] [.int t0] S := by
          intro x1 x2 t0 S hs
          unfold f_X7_county_j51 at hs
          refine a_istoren (pc := 51) dX7_county_51 rfl (Nat.le_of_ble_eq_true rfl) rfl (L' := [some (.ref (gad X 47)), some (.int x1), some (.int x2), some (.int t0), none, none]) rfl ?_
          refine a_aloadn (pc := 52) dX7_county_52 rfl rfl ?_
          refine a_getA (pc := 53) flX7_28 sh_47 rfl dX7_county_53 ?_
          refine a_iloadn (pc := 56) dX7_county_56 rfl rfl ?_
          refine a_iloadn (pc := 57) dX7_county_57 rfl rfl ?_
          refine a_if_eq (pc := 58) (tgt := 82) dX7_county_58 (by decide) (fun c5 => ?_) (fun c5 => ?_)
          · rw [if_pos c5] at hs
            refine a_iconst (pc := 82) (v := (0 : Int32)) dX7_county_82 (by decide) ?_
            obtain ⟨hi6, hs⟩ := g_if hs
            refine a_zast (pc := 83) sh_54 hi6 rfl dX7_county_83 ?_
            obtain ⟨S7, eS7, hs⟩ := g_let hs
            refine a_nmS eS7 ?_
            refine a_iinc (pc := 84) dX7_county_84 rfl (v := x2 + (1 : Int32)) rfl (Nat.le_of_ble_eq_true rfl) rfl (L' := [some (.ref (gad X 47)), some (.int x1), some (.int (x2 + (1 : Int32))), some (.int t0), none, none]) rfl ?_
            refine a_goto (pc := 87) (tgt := 12) dX7_county_87 (by decide) ?_
            obtain rfl := Option.some.inj hs
            refine a_mask [true, true, true, false, true, true] (L' := [some (.ref (gad X 47)), some (.int x1), some (.int (x2 + (1 : Int32))), none, none, none]) rfl ?_
            exact ih _ _ _ hR
          · rw [if_neg c5] at hs
            refine a_aloadn (pc := 61) dX7_county_61 rfl rfl ?_
            refine a_getA (pc := 62) flX7_7 sh_47 rfl dX7_county_62 ?_
            refine a_bipush (pc := 65) (v := (32 : Int32)) dX7_county_65 (by decide) ?_
            refine a_bipush (pc := 67) (v := (64 : Int32)) dX7_county_67 (by decide) ?_
            refine a_iloadn (pc := 69) dX7_county_69 rfl rfl ?_
            refine a_imul (pc := 70) dX7_county_70 ?_
            refine a_iadd (pc := 71) dX7_county_71 ?_
            refine a_iloadn (pc := 72) dX7_county_72 rfl rfl ?_
            refine a_iadd (pc := 73) dX7_county_73 ?_
            obtain ⟨hi8, hs⟩ := g_if hs
            refine a_iald (pc := 74) sh_48 hi8 dX7_county_74 ?_
            refine a_if_ne (pc := 75) (tgt := 82) dX7_county_75 (by decide) (fun c9 => ?_) (fun c9 => ?_)
            · rw [if_neg c9] at hs
              refine a_iconst (pc := 82) (v := (0 : Int32)) dX7_county_82 (by decide) ?_
              obtain ⟨hi10, hs⟩ := g_if hs
              refine a_zast (pc := 83) sh_54 hi10 rfl dX7_county_83 ?_
              obtain ⟨S11, eS11, hs⟩ := g_let hs
              refine a_nmS eS11 ?_
              refine a_iinc (pc := 84) dX7_county_84 rfl (v := x2 + (1 : Int32)) rfl (Nat.le_of_ble_eq_true rfl) rfl (L' := [some (.ref (gad X 47)), some (.int x1), some (.int (x2 + (1 : Int32))), some (.int t0), none, none]) rfl ?_
              refine a_goto (pc := 87) (tgt := 12) dX7_county_87 (by decide) ?_
              obtain rfl := Option.some.inj hs
              refine a_mask [true, true, true, false, true, true] (L' := [some (.ref (gad X 47)), some (.int x1), some (.int (x2 + (1 : Int32))), none, none, none]) rfl ?_
              exact ih _ _ _ hR
            · rw [if_pos c9] at hs
              refine a_iconst (pc := 78) (v := (1 : Int32)) dX7_county_78 (by decide) ?_
              refine a_goto (pc := 79) (tgt := 83) dX7_county_79 (by decide) ?_
              obtain ⟨hi12, hs⟩ := g_if hs
              refine a_zast (pc := 83) sh_54 hi12 rfl dX7_county_83 ?_
              obtain ⟨S13, eS13, hs⟩ := g_let hs
              refine a_nmS eS13 ?_
              refine a_iinc (pc := 84) dX7_county_84 rfl (v := x2 + (1 : Int32)) rfl (Nat.le_of_ble_eq_true rfl) rfl (L' := [some (.ref (gad X 47)), some (.int x1), some (.int (x2 + (1 : Int32))), some (.int t0), none, none]) rfl ?_
              refine a_goto (pc := 87) (tgt := 12) dX7_county_87 (by decide) ?_
              obtain rfl := Option.some.inj hs
              refine a_mask [true, true, true, false, true, true] (L' := [some (.ref (gad X 47)), some (.int x1), some (.int (x2 + (1 : Int32))), none, none, none]) rfl ?_
              exact ih _ _ _ hR
        have J46 : ∀ (x1 : Int32) (x2 : Int32) (S : gSt), f_X7_county_j46 x1 x2 S = some q → AW X RX7 2 cX7_county 46 [some (.ref (gad X 47)), some (.int x1), some (.int x2), none, none, none] [] S := by
          intro x1 x2 S hs
          unfold f_X7_county_j46 at hs
          refine a_iconst (pc := 46) (v := (1 : Int32)) dX7_county_46 (by decide) ?_
          refine a_goto (pc := 47) (tgt := 51) dX7_county_47 (by decide) ?_
          exact J51 _ _ _ _ hs
        refine a_iloadn (pc := 12) dX7_county_12 rfl rfl ?_
        refine a_bipush (pc := 13) (v := (64 : Int32)) dX7_county_13 (by decide) ?_
        refine a_icmp_ge (pc := 15) (tgt := 90) dX7_county_15 (by decide) (fun c14 => ?_) (fun c14 => ?_)
        · rw [if_pos c14] at hs
          obtain rfl := Option.some.inj hs
          obtain rfl := Option.some.inj hR
          refine a_mask [true, true, false, true, true, true] (L' := [some (.ref (gad X 47)), some (.int x1), none, none, none, none]) rfl ?_
          exact E12 _ _ h
        · rw [if_neg c14] at hs
          refine a_iloadn (pc := 18) dX7_county_18 rfl rfl ?_
          refine a_bipush (pc := 19) (v := (8 : Int32)) dX7_county_19 (by decide) ?_
          refine a_irem (pc := 21) dX7_county_21 (by decide) ?_
          refine a_if_eq (pc := 22) (tgt := 46) dX7_county_22 (by decide) (fun c15 => ?_) (fun c15 => ?_)
          · rw [if_pos c15] at hs
            exact J46 _ _ _ hs
          · rw [if_neg c15] at hs
            refine a_iloadn (pc := 25) dX7_county_25 rfl rfl ?_
            refine a_bipush (pc := 26) (v := (8 : Int32)) dX7_county_26 (by decide) ?_
            refine a_irem (pc := 28) dX7_county_28 (by decide) ?_
            refine a_bipush (pc := 29) (v := (7 : Int32)) dX7_county_29 (by decide) ?_
            refine a_icmp_eq (pc := 31) (tgt := 46) dX7_county_31 (by decide) (fun c16 => ?_) (fun c16 => ?_)
            · rw [if_pos c16] at hs
              exact J46 _ _ _ hs
            · rw [if_neg c16] at hs
              refine a_iloadn (pc := 34) dX7_county_34 rfl rfl ?_
              refine a_bipush (pc := 35) (v := (8 : Int32)) dX7_county_35 (by decide) ?_
              refine a_icmp_lt (pc := 37) (tgt := 46) dX7_county_37 (by decide) (fun c17 => ?_) (fun c17 => ?_)
              · rw [if_pos c17] at hs
                exact J46 _ _ _ hs
              · rw [if_neg c17] at hs
                refine a_iloadn (pc := 40) dX7_county_40 rfl rfl ?_
                refine a_bipush (pc := 41) (v := (55 : Int32)) dX7_county_41 (by decide) ?_
                refine a_icmp_le (pc := 43) (tgt := 50) dX7_county_43 (by decide) (fun c18 => ?_) (fun c18 => ?_)
                · rw [if_pos c18] at hs
                  refine a_iconst (pc := 50) (v := (0 : Int32)) dX7_county_50 (by decide) ?_
                  exact J51 _ _ _ _ hs
                · rw [if_neg c18] at hs
                  exact J46 _ _ _ hs
    exact lp _ _ _ _ hR19
  · rw [if_pos c4] at h
    refine a_iconst (pc := 8) (v := (-1 : Int32)) dX7_county_8 (by decide) ?_
    obtain ⟨rfl, rfl⟩ := Prod.mk.inj (Option.some.inj h)
    exact a_iret hp dX7_county_9
