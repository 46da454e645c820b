theorem dX6_drift_0 : decode cX6_drift 0 = .ok (.aload_n 0, 1) := by decide +kernel
theorem dX6_drift_1 : decode cX6_drift 1 = .ok (.iload_n 1, 1) := by decide +kernel
theorem dX6_drift_2 : decode cX6_drift 2 = .ok (.invokevirtual 158, 3) := by decide +kernel
theorem dX6_drift_5 : decode cX6_drift 5 = .ok (.istore_n 2, 1) := by decide +kernel
theorem dX6_drift_6 : decode cX6_drift 6 = .ok (.iload_n 2, 1) := by decide +kernel
theorem dX6_drift_7 : decode cX6_drift 7 = .ok (.ifCond .ge 5, 3) := by decide +kernel
theorem dX6_drift_10 : decode cX6_drift 10 = .ok (.iload_n 2, 1) := by decide +kernel
theorem dX6_drift_11 : decode cX6_drift 11 = .ok (.ireturn, 1) := by decide +kernel
theorem dX6_drift_12 : decode cX6_drift 12 = .ok (.iconst 0, 1) := by decide +kernel
theorem dX6_drift_13 : decode cX6_drift 13 = .ok (.istore_n 3, 1) := by decide +kernel
theorem dX6_drift_14 : decode cX6_drift 14 = .ok (.iconst 0, 1) := by decide +kernel
theorem dX6_drift_15 : decode cX6_drift 15 = .ok (.istore 4, 2) := by decide +kernel
theorem dX6_drift_17 : decode cX6_drift 17 = .ok (.iload 4, 2) := by decide +kernel
theorem dX6_drift_19 : decode cX6_drift 19 = .ok (.iload_n 1, 1) := by decide +kernel
theorem dX6_drift_20 : decode cX6_drift 20 = .ok (.if_icmp .ge 47, 3) := by decide +kernel
theorem dX6_drift_23 : decode cX6_drift 23 = .ok (.aload_n 0, 1) := by decide +kernel
theorem dX6_drift_24 : decode cX6_drift 24 = .ok (.getfield 12, 3) := by decide +kernel
theorem dX6_drift_27 : decode cX6_drift 27 = .ok (.getfield 59, 3) := by decide +kernel
theorem dX6_drift_30 : decode cX6_drift 30 = .ok (.aload_n 0, 1) := by decide +kernel
theorem dX6_drift_31 : decode cX6_drift 31 = .ok (.getfield 12, 3) := by decide +kernel
theorem dX6_drift_34 : decode cX6_drift 34 = .ok (.invokevirtual 150, 3) := by decide +kernel
theorem dX6_drift_37 : decode cX6_drift 37 = .ok (.aload_n 0, 1) := by decide +kernel
theorem dX6_drift_38 : decode cX6_drift 38 = .ok (.getfield 12, 3) := by decide +kernel
theorem dX6_drift_41 : decode cX6_drift 41 = .ok (.invokevirtual 161, 3) := by decide +kernel
theorem dX6_drift_44 : decode cX6_drift 44 = .ok (.iload_n 3, 1) := by decide +kernel
theorem dX6_drift_45 : decode cX6_drift 45 = .ok (.aload_n 0, 1) := by decide +kernel
theorem dX6_drift_46 : decode cX6_drift 46 = .ok (.getfield 12, 3) := by decide +kernel
theorem dX6_drift_49 : decode cX6_drift 49 = .ok (.aload_n 0, 1) := by decide +kernel
theorem dX6_drift_50 : decode cX6_drift 50 = .ok (.getfield 12, 3) := by decide +kernel
theorem dX6_drift_53 : decode cX6_drift 53 = .ok (.invokevirtual 164, 3) := by decide +kernel
theorem dX6_drift_56 : decode cX6_drift 56 = .ok (.invokevirtual 167, 3) := by decide +kernel
theorem dX6_drift_59 : decode cX6_drift 59 = .ok (.iadd, 1) := by decide +kernel
theorem dX6_drift_60 : decode cX6_drift 60 = .ok (.istore_n 3, 1) := by decide +kernel
theorem dX6_drift_61 : decode cX6_drift 61 = .ok (.iinc 4 1, 3) := by decide +kernel
theorem dX6_drift_64 : decode cX6_drift 64 = .ok (.goto (-47), 3) := by decide +kernel
theorem dX6_drift_67 : decode cX6_drift 67 = .ok (.iload_n 3, 1) := by decide +kernel
theorem dX6_drift_68 : decode cX6_drift 68 = .ok (.ireturn, 1) := by decide +kernel
def f_X6_drift_s17_b (x1 : Int32) (x3 : Int32) (x4 : Int32) (S : gSt) : Option ((Int32 × Int32 × Int32 × gSt) ⊕ (Int32 × gSt)) :=
(if x1 ≤ x4 then
some (.inr (x3, S))
else
(f_X1_keep S).bind fun S6 =>
(f_X0_passHour S6).bind fun S8 =>
gBind2 (f_X0_drawCell S8) fun r12 S10 =>
gBind2 (f_X0_sweep r12 S10) fun r15 S13 =>
gLet (x3 + r15) fun v16 =>
some (.inl (x1, v16, x4 + (1 : Int32), S13)))
def f_X6_drift_s17 : (Int32 × Int32 × Int32 × gSt) → Option ((Int32 × Int32 × Int32 × gSt) ⊕ (Int32 × gSt)) := fun t => f_X6_drift_s17_b t.1 t.2.1 t.2.2.1 t.2.2.2
def f_X6_drift (p1 : Int32) (S : gSt) : Option (Int32 × gSt) :=
gBind2 (f_X6_hoursFault p1 S) fun r3 S1 =>
(if 0 ≤ r3 then
(gLoop (f_X6_drift_s17) gFuel (p1, (0 : Int32), (0 : Int32), S1)).bind fun q17 => match q17 with
| (y3_17, S17) =>
some (y3_17, S17)
else
some (r3, S1))
set_option maxHeartbeats 4000000 in
set_option maxRecDepth 20000 in
theorem ok_X6_drift {p1 : Int32} {S S0 : gSt} {r0 : Int32}  (h : f_X6_drift p1 S = some (r0, S0)) : gCT yX6_drift cX6_drift 5 (some .int) 3 (fun w => [.ref (w.2.1 0), .int p1]) S (some (.int r0)) S0 := by
  refine gEnter (fun X => [some (.ref (gad X 0)), some (.int p1), none, none, none]) (by decide) (fun X => ⟨rfl, rfl⟩) (fun w => Nat.le_of_ble_eq_true rfl) (fun X hp => ?_)
  show AW X RX6 3 cX6_drift 0 [some (.ref (gad X 0)), some (.int p1), none, none, none] [] S
  unfold f_X6_drift at h
  refine a_aloadn (pc := 0) dX6_drift_0 rfl rfl ?_
  refine a_iloadn (pc := 1) dX6_drift_1 rfl rfl ?_
  obtain ⟨r3, S1, hc2, h⟩ := g_bind2 h
  refine a_invVi (pc := 2) (ok_X6_hoursFault hc2) gyX6_hoursFault vyX6_hoursFault mlX6_158 sh_0 rfl (As := [.int p1]) rfl rfl (by decide) (st := []) rfl (Nat.le_of_ble_eq_true rfl) dX6_drift_2 ?_
  refine a_istoren (pc := 5) dX6_drift_5 rfl (Nat.le_of_ble_eq_true rfl) rfl (L' := [some (.ref (gad X 0)), some (.int p1), some (.int r3), none, none]) rfl ?_
  refine a_iloadn (pc := 6) dX6_drift_6 rfl rfl ?_
  refine a_if_ge (pc := 7) (tgt := 12) dX6_drift_7 (by decide) (fun c4 => ?_) (fun c4 => ?_)
  · rw [if_pos c4] at h
    refine a_iconst (pc := 12) (v := (0 : Int32)) dX6_drift_12 (by decide) ?_
    refine a_istoren (pc := 13) dX6_drift_13 rfl (Nat.le_of_ble_eq_true rfl) rfl (L' := [some (.ref (gad X 0)), some (.int p1), some (.int r3), some (.int (0 : Int32)), none]) rfl ?_
    refine a_iconst (pc := 14) (v := (0 : Int32)) dX6_drift_14 (by decide) ?_
    refine a_istore (pc := 15) dX6_drift_15 (Nat.le_of_ble_eq_true rfl) rfl (L' := [some (.ref (gad X 0)), some (.int p1), some (.int r3), some (.int (0 : Int32)), some (.int (0 : Int32))]) rfl ?_
    obtain ⟨R17, hR17, h⟩ := g_bind h
    refine a_mask [true, true, false, true, true] (L' := [some (.ref (gad X 0)), some (.int p1), none, some (.int (0 : Int32)), some (.int (0 : Int32))]) rfl ?_
    have E17 : ∀ (y3_17 : Int32) (S17 : gSt), (some (y3_17, S17)) = some (r0, S0) → AW X RX6 3 cX6_drift 67 [none, none, none, some (.int y3_17), none] [] S17 := by
      intro y3_17 S17 h
      refine a_iloadn (pc := 67) dX6_drift_67 rfl rfl ?_
      obtain ⟨rfl, rfl⟩ := Prod.mk.inj (Option.some.inj h)
      exact a_iret hp dX6_drift_68
    have lp : ∀ (n : Nat) (x1 : Int32) (x3 : Int32) (x4 : Int32) (S : gSt), gLoop (f_X6_drift_s17) n (x1, x3, x4, S) = some R17 → AW X RX6 3 cX6_drift 17 [some (.ref (gad X 0)), some (.int x1), none, some (.int x3), some (.int x4)] [] S := by
      intro n
      induction n with
      | zero => intro x1 x3 x4 S hR; cases hR
      | succ n ih =>
        intro x1 x3 x4 S hR
        obtain ⟨q, hs, hR⟩ := g_bind hR
        have hs : f_X6_drift_s17_b x1 x3 x4 S = some q := hs
        unfold f_X6_drift_s17_b at hs
        refine a_iload (pc := 17) dX6_drift_17 rfl ?_
        refine a_iloadn (pc := 19) dX6_drift_19 rfl rfl ?_
        refine a_icmp_ge (pc := 20) (tgt := 67) dX6_drift_20 (by decide) (fun c5 => ?_) (fun c5 => ?_)
        · rw [if_pos c5] at hs
          obtain rfl := Option.some.inj hs
          obtain rfl := Option.some.inj hR
          refine a_mask [false, false, true, true, false] (L' := [none, none, none, some (.int x3), none]) rfl ?_
          exact E17 _ _ h
        · rw [if_neg c5] at hs
          refine a_aloadn (pc := 23) dX6_drift_23 rfl rfl ?_
          refine a_getA (pc := 24) flX6_12 sh_0 rfl dX6_drift_24 ?_
          refine a_getA (pc := 27) flX6_59 sh_1 rfl dX6_drift_27 ?_
          refine a_aloadn (pc := 30) dX6_drift_30 rfl rfl ?_
          refine a_getA (pc := 31) flX6_12 sh_0 rfl dX6_drift_31 ?_
          obtain ⟨S6, hc7, hs⟩ := g_bind hs
          refine a_invVv (pc := 34) (ok_X1_keep hc7) gyX1_keep vyX1_keep mlX6_150 sh_8 rfl (As := [.ref (gad X 1)]) rfl rfl (by decide) (st := []) rfl (Nat.le_of_ble_eq_true rfl) dX6_drift_34 ?_
          refine a_aloadn (pc := 37) dX6_drift_37 rfl rfl ?_
          refine a_getA (pc := 38) flX6_12 sh_0 rfl dX6_drift_38 ?_
          obtain ⟨S8, hc9, hs⟩ := g_bind hs
          refine a_invVv (pc := 41) (ok_X0_passHour hc9) gyX0_passHour vyX0_passHour mlX6_161 sh_1 rfl (As := []) rfl rfl (by decide) (st := []) rfl (Nat.le_of_ble_eq_true rfl) dX6_drift_41 ?_
          refine a_iloadn (pc := 44) dX6_drift_44 rfl rfl ?_
          refine a_aloadn (pc := 45) dX6_drift_45 rfl rfl ?_
          refine a_getA (pc := 46) flX6_12 sh_0 rfl dX6_drift_46 ?_
          refine a_aloadn (pc := 49) dX6_drift_49 rfl rfl ?_
          refine a_getA (pc := 50) flX6_12 sh_0 rfl dX6_drift_50 ?_
          obtain ⟨r12, S10, hc11, hs⟩ := g_bind2 hs
          refine a_invVi (pc := 53) (ok_X0_drawCell hc11) gyX0_drawCell vyX0_drawCell mlX6_164 sh_1 rfl (As := []) rfl rfl (by decide) (st := [.ref (gad X 1), .int x3]) rfl (Nat.le_of_ble_eq_true rfl) dX6_drift_53 ?_
          obtain ⟨r15, S13, hc14, hs⟩ := g_bind2 hs
          refine a_invVi (pc := 56) (ok_X0_sweep hc14) gyX0_sweep vyX0_sweep mlX6_167 sh_1 rfl (As := [.int r12]) rfl rfl (by decide) (st := [.int x3]) rfl (Nat.le_of_ble_eq_true rfl) dX6_drift_56 ?_
          refine a_iadd (pc := 59) dX6_drift_59 ?_
          obtain ⟨v16, ev16, hs⟩ := g_let hs
          refine a_nmI ev16 ?_
          refine a_istoren (pc := 60) dX6_drift_60 rfl (Nat.le_of_ble_eq_true rfl) rfl (L' := [some (.ref (gad X 0)), some (.int x1), none, some (.int v16), some (.int x4)]) rfl ?_
          refine a_iinc (pc := 61) dX6_drift_61 rfl (v := x4 + (1 : Int32)) rfl (Nat.le_of_ble_eq_true rfl) rfl (L' := [some (.ref (gad X 0)), some (.int x1), none, some (.int v16), some (.int (x4 + (1 : Int32)))]) rfl ?_
          refine a_goto (pc := 64) (tgt := 17) dX6_drift_64 (by decide) ?_
          obtain rfl := Option.some.inj hs
          exact ih _ _ _ _ hR
    exact lp _ _ _ _ _ hR17
  · rw [if_neg c4] at h
    refine a_iloadn (pc := 10) dX6_drift_10 rfl rfl ?_
    obtain ⟨rfl, rfl⟩ := Prod.mk.inj (Option.some.inj h)
    exact a_iret hp dX6_drift_11
theorem dX6_rake_0 : decode cX6_rake 0 = .ok (.iload_n 1, 1) := by decide +kernel
theorem dX6_rake_1 : decode cX6_rake 1 = .ok (.invokestatic 51, 3) := by decide +kernel
theorem dX6_rake_4 : decode cX6_rake 4 = .ok (.ifCond .ne 5, 3) := by decide +kernel
theorem dX6_rake_7 : decode cX6_rake 7 = .ok (.iconst (-1), 1) := by decide +kernel
theorem dX6_rake_8 : decode cX6_rake 8 = .ok (.ireturn, 1) := by decide +kernel
theorem dX6_rake_9 : decode cX6_rake 9 = .ok (.aload_n 0, 1) := by decide +kernel
theorem dX6_rake_10 : decode cX6_rake 10 = .ok (.getfield 12, 3) := by decide +kernel
theorem dX6_rake_13 : decode cX6_rake 13 = .ok (.getfield 59, 3) := by decide +kernel
theorem dX6_rake_16 : decode cX6_rake 16 = .ok (.aload_n 0, 1) := by decide +kernel
theorem dX6_rake_17 : decode cX6_rake 17 = .ok (.getfield 12, 3) := by decide +kernel
theorem dX6_rake_20 : decode cX6_rake 20 = .ok (.invokevirtual 150, 3) := by decide +kernel
theorem dX6_rake_23 : decode cX6_rake 23 = .ok (.aload_n 0, 1) := by decide +kernel
theorem dX6_rake_24 : decode cX6_rake 24 = .ok (.getfield 12, 3) := by decide +kernel
theorem dX6_rake_27 : decode cX6_rake 27 = .ok (.iload_n 1, 1) := by decide +kernel
theorem dX6_rake_28 : decode cX6_rake 28 = .ok (.invokevirtual 167, 3) := by decide +kernel
theorem dX6_rake_31 : decode cX6_rake 31 = .ok (.ireturn, 1) := by decide +kernel
def f_X6_rake (p1 : Int32) (S : gSt) : Option (Int32 × gSt) :=
gBind2 (f_X6_isCell p1 S) fun r3 S1 =>
(if r3 = 0 then
some ((-1 : Int32), S1)
else
(f_X1_keep S1).bind fun S5 =>
gBind2 (f_X0_sweep p1 S5) fun r9 S7 =>
some (r9, S7))
set_option maxHeartbeats 4000000 in
set_option maxRecDepth 20000 in
theorem ok_X6_rake {p1 : Int32} {S S0 : gSt} {r0 : Int32}  (h : f_X6_rake p1 S = some (r0, S0)) : gCT yX6_rake cX6_rake 2 (some .int) 2 (fun w => [.ref (w.2.1 0), .int p1]) S (some (.int r0)) S0 := by
  refine gEnter (fun X => [some (.ref (gad X 0)), some (.int p1)]) (by decide) (fun X => ⟨rfl, rfl⟩) (fun w => Nat.le_of_ble_eq_true rfl) (fun X hp => ?_)
  show AW X RX6 2 cX6_rake 0 [some (.ref (gad X 0)), some (.int p1)] [] S
  unfold f_X6_rake at h
  refine a_iloadn (pc := 0) dX6_rake_0 rfl rfl ?_
  obtain ⟨r3, S1, hc2, h⟩ := g_bind2 h
  refine a_invSi (pc := 1) (ok_X6_isCell hc2) gyX6_isCell syX6_isCell mlX6_51 (As := [.int p1]) rfl rfl (by decide) (st := []) rfl (Nat.le_of_ble_eq_true rfl) dX6_rake_1 ?_
  refine a_if_ne (pc := 4) (tgt := 9) dX6_rake_4 (by decide) (fun c4 => ?_) (fun c4 => ?_)
  · rw [if_neg c4] at h
    refine a_aloadn (pc := 9) dX6_rake_9 rfl rfl ?_
    refine a_getA (pc := 10) flX6_12 sh_0 rfl dX6_rake_10 ?_
    refine a_getA (pc := 13) flX6_59 sh_1 rfl dX6_rake_13 ?_
    refine a_aloadn (pc := 16) dX6_rake_16 rfl rfl ?_
    refine a_getA (pc := 17) flX6_12 sh_0 rfl dX6_rake_17 ?_
    obtain ⟨S5, hc6, h⟩ := g_bind h
    refine a_invVv (pc := 20) (ok_X1_keep hc6) gyX1_keep vyX1_keep mlX6_150 sh_8 rfl (As := [.ref (gad X 1)]) rfl rfl (by decide) (st := []) rfl (Nat.le_of_ble_eq_true rfl) dX6_rake_20 ?_
    refine a_aloadn (pc := 23) dX6_rake_23 rfl rfl ?_
    refine a_getA (pc := 24) flX6_12 sh_0 rfl dX6_rake_24 ?_
    refine a_iloadn (pc := 27) dX6_rake_27 rfl rfl ?_
    obtain ⟨r9, S7, hc8, h⟩ := g_bind2 h
    refine a_invVi (pc := 28) (ok_X0_sweep hc8) gyX0_sweep vyX0_sweep mlX6_167 sh_1 rfl (As := [.int p1]) rfl rfl (by decide) (st := []) rfl (Nat.le_of_ble_eq_true rfl) dX6_rake_28 ?_
    obtain ⟨rfl, rfl⟩ := Prod.mk.inj (Option.some.inj h)
    exact a_iret hp dX6_rake_31
  · rw [if_pos c4] at h
    refine a_iconst (pc := 7) (v := (-1 : Int32)) dX6_rake_7 (by decide) ?_
    obtain ⟨rfl, rfl⟩ := Prod.mk.inj (Option.some.inj h)
    exact a_iret hp dX6_rake_8
theorem dX1_giveBack_0 : decode cX1_giveBack 0 = .ok (.aload_n 0, 1) := by decide +kernel
theorem dX1_giveBack_1 : decode cX1_giveBack 1 = .ok (.aload_n 0, 1) := by decide +kernel
theorem dX1_giveBack_2 : decode cX1_giveBack 2 = .ok (.getfield 27, 3) := by decide +kernel
theorem dX1_giveBack_5 : decode cX1_giveBack 5 = .ok (.bipush 8, 2) := by decide +kernel
theorem dX1_giveBack_7 : decode cX1_giveBack 7 = .ok (.iadd, 1) := by decide +kernel
theorem dX1_giveBack_8 : decode cX1_giveBack 8 = .ok (.iconst 1, 1) := by decide +kernel
theorem dX1_giveBack_9 : decode cX1_giveBack 9 = .ok (.isub, 1) := by decide +kernel
theorem dX1_giveBack_10 : decode cX1_giveBack 10 = .ok (.bipush 8, 2) := by decide +kernel
theorem dX1_giveBack_12 : decode cX1_giveBack 12 = .ok (.irem, 1) := by decide +kernel
theorem dX1_giveBack_13 : decode cX1_giveBack 13 = .ok (.putfield 27, 3) := by decide +kernel
theorem dX1_giveBack_16 : decode cX1_giveBack 16 = .ok (.aload_n 0, 1) := by decide +kernel
theorem dX1_giveBack_17 : decode cX1_giveBack 17 = .ok (.dup, 1) := by decide +kernel
theorem dX1_giveBack_18 : decode cX1_giveBack 18 = .ok (.getfield 31, 3) := by decide +kernel
theorem dX1_giveBack_21 : decode cX1_giveBack 21 = .ok (.iconst 1, 1) := by decide +kernel
theorem dX1_giveBack_22 : decode cX1_giveBack 22 = .ok (.isub, 1) := by decide +kernel
theorem dX1_giveBack_23 : decode cX1_giveBack 23 = .ok (.putfield 31, 3) := by decide +kernel
theorem dX1_giveBack_26 : decode cX1_giveBack 26 = .ok (.aload_n 0, 1) := by decide +kernel
theorem dX1_giveBack_27 : decode cX1_giveBack 27 = .ok (.getfield 9, 3) := by decide +kernel
theorem dX1_giveBack_30 : decode cX1_giveBack 30 = .ok (.aload_n 0, 1) := by decide +kernel
theorem dX1_giveBack_31 : decode cX1_giveBack 31 = .ok (.getfield 27, 3) := by decide +kernel
theorem dX1_giveBack_34 : decode cX1_giveBack 34 = .ok (.sipush 384, 3) := by decide +kernel
theorem dX1_giveBack_37 : decode cX1_giveBack 37 = .ok (.imul, 1) := by decide +kernel
theorem dX1_giveBack_38 : decode cX1_giveBack 38 = .ok (.aload_n 1, 1) := by decide +kernel
theorem dX1_giveBack_39 : decode cX1_giveBack 39 = .ok (.getfield 34, 3) := by decide +kernel
theorem dX1_giveBack_42 : decode cX1_giveBack 42 = .ok (.iconst 0, 1) := by decide +kernel
theorem dX1_giveBack_43 : decode cX1_giveBack 43 = .ok (.sipush 384, 3) := by decide +kernel
theorem dX1_giveBack_46 : decode cX1_giveBack 46 = .ok (.invokestatic 37, 3) := by decide +kernel
theorem dX1_giveBack_49 : decode cX1_giveBack 49 = .ok (.aload_n 0, 1) := by decide +kernel
theorem dX1_giveBack_50 : decode cX1_giveBack 50 = .ok (.getfield 15, 3) := by decide +kernel
theorem dX1_giveBack_53 : decode cX1_giveBack 53 = .ok (.aload_n 0, 1) := by decide +kernel
theorem dX1_giveBack_54 : decode cX1_giveBack 54 = .ok (.getfield 27, 3) := by decide +kernel
theorem dX1_giveBack_57 : decode cX1_giveBack 57 = .ok (.bipush 6, 2) := by decide +kernel
theorem dX1_giveBack_59 : decode cX1_giveBack 59 = .ok (.imul, 1) := by decide +kernel
theorem dX1_giveBack_60 : decode cX1_giveBack 60 = .ok (.aload_n 1, 1) := by decide +kernel
theorem dX1_giveBack_61 : decode cX1_giveBack 61 = .ok (.getfield 43, 3) := by decide +kernel
theorem dX1_giveBack_64 : decode cX1_giveBack 64 = .ok (.iconst 0, 1) := by decide +kernel
theorem dX1_giveBack_65 : decode cX1_giveBack 65 = .ok (.bipush 6, 2) := by decide +kernel
theorem dX1_giveBack_67 : decode cX1_giveBack 67 = .ok (.invokestatic 37, 3) := by decide +kernel
theorem dX1_giveBack_70 : decode cX1_giveBack 70 = .ok (.aload_n 0, 1) := by decide +kernel
theorem dX1_giveBack_71 : decode cX1_giveBack 71 = .ok (.getfield 18, 3) := by decide +kernel
theorem dX1_giveBack_74 : decode cX1_giveBack 74 = .ok (.aload_n 0, 1) := by decide +kernel
theorem dX1_giveBack_75 : decode cX1_giveBack 75 = .ok (.getfield 27, 3) := by decide +kernel
theorem dX1_giveBack_78 : decode cX1_giveBack 78 = .ok (.bipush 6, 2) := by decide +kernel
theorem dX1_giveBack_80 : decode cX1_giveBack 80 = .ok (.imul, 1) := by decide +kernel
theorem dX1_giveBack_81 : decode cX1_giveBack 81 = .ok (.aload_n 1, 1) := by decide +kernel
theorem dX1_giveBack_82 : decode cX1_giveBack 82 = .ok (.getfield 44, 3) := by decide +kernel
theorem dX1_giveBack_85 : decode cX1_giveBack 85 = .ok (.iconst 0, 1) := by decide +kernel
theorem dX1_giveBack_86 : decode cX1_giveBack 86 = .ok (.bipush 6, 2) := by decide +kernel
theorem dX1_giveBack_88 : decode cX1_giveBack 88 = .ok (.invokestatic 37, 3) := by decide +kernel
theorem dX1_giveBack_91 : decode cX1_giveBack 91 = .ok (.aload_n 1, 1) := by decide +kernel
theorem dX1_giveBack_92 : decode cX1_giveBack 92 = .ok (.aload_n 0, 1) := by decide +kernel
theorem dX1_giveBack_93 : decode cX1_giveBack 93 = .ok (.getfield 21, 3) := by decide +kernel
theorem dX1_giveBack_96 : decode cX1_giveBack 96 = .ok (.aload_n 0, 1) := by decide +kernel
theorem dX1_giveBack_97 : decode cX1_giveBack 97 = .ok (.getfield 27, 3) := by decide +kernel
theorem dX1_giveBack_100 : decode cX1_giveBack 100 = .ok (.iaload, 1) := by decide +kernel
theorem dX1_giveBack_101 : decode cX1_giveBack 101 = .ok (.putfield 45, 3) := by decide +kernel
theorem dX1_giveBack_104 : decode cX1_giveBack 104 = .ok (.aload_n 1, 1) := by decide +kernel
theorem dX1_giveBack_105 : decode cX1_giveBack 105 = .ok (.aload_n 0, 1) := by decide +kernel
theorem dX1_giveBack_106 : decode cX1_giveBack 106 = .ok (.getfield 24, 3) := by decide +kernel
theorem dX1_giveBack_109 : decode cX1_giveBack 109 = .ok (.aload_n 0, 1) := by decide +kernel
theorem dX1_giveBack_110 : decode cX1_giveBack 110 = .ok (.getfield 27, 3) := by decide +kernel
theorem dX1_giveBack_113 : decode cX1_giveBack 113 = .ok (.iaload, 1) := by decide +kernel
theorem dX1_giveBack_114 : decode cX1_giveBack 114 = .ok (.putfield 48, 3) := by decide +kernel
theorem dX1_giveBack_117 : decode cX1_giveBack 117 = .ok (.return_, 1) := by decide +kernel
def f_X1_giveBack (S : gSt) : Option gSt :=
gLet (gI S 8 5 ((((S.1 8 5) + (8 : Int32)) - (1 : Int32)) - (((S.1 8 5) + (8 : Int32)) - (1 : Int32)) / (8 : Int32) * (8 : Int32))) fun S1 =>
gLet (gI S1 8 6 ((S1.1 8 6) - (1 : Int32))) fun S2 =>
if gcp ((S2.1 8 5) * (384 : Int32)) (0 : Int32) (384 : Int32) 3072 384 then
gLet (gR S2 7 (va_cpy (S2.1 9) (S2.1 7) ((S2.1 8 5) * (384 : Int32)).toNatClampNeg (0 : Int32).toNatClampNeg (384 : Int32).toNatClampNeg)) fun S4 =>
(if gcp ((S4.1 8 5) * (6 : Int32)) (0 : Int32) (6 : Int32) 48 6 then
gLet (gR S4 5 (va_cpy (S4.1 10) (S4.1 5) ((S4.1 8 5) * (6 : Int32)).toNatClampNeg (0 : Int32).toNatClampNeg (6 : Int32).toNatClampNeg)) fun S6 =>
(if gcp ((S6.1 8 5) * (6 : Int32)) (0 : Int32) (6 : Int32) 48 6 then
gLet (gR S6 6 (va_cpy (S6.1 11) (S6.1 6) ((S6.1 8 5) * (6 : Int32)).toNatClampNeg (0 : Int32).toNatClampNeg (6 : Int32).toNatClampNeg)) fun S8 =>
(if gin (S8.1 8 5) 8 then
(gLet (gI S8 1 8 (S8.1 12 (S8.1 8 5).toNatClampNeg)) fun S10 =>
if gin (S10.1 8 5) 8 then
(gLet (gI S10 1 9 (S10.1 13 (S10.1 8 5).toNatClampNeg)) fun S12 =>
some S12) else none) else none) else none) else none) else none
set_option maxHeartbeats 4000000 in
set_option maxRecDepth 20000 in
theorem ok_X1_giveBack {S S0 : gSt}  (h : f_X1_giveBack S = some S0) : gCT yX1_giveBack cX1_giveBack 2 none 1 (fun w => [.ref (w.2.1 8), .ref (w.2.1 1)]) S none S0 := by
  refine gEnter (fun X => [some (.ref (gad X 8)), some (.ref (gad X 1))]) (by decide) (fun X => ⟨rfl, rfl⟩) (fun w => Nat.le_of_ble_eq_true rfl) (fun X hp => ?_)
  show AW X RX1 1 cX1_giveBack 0 [some (.ref (gad X 8)), some (.ref (gad X 1))] [] S
  unfold f_X1_giveBack at h
  refine a_aloadn (pc := 0) dX1_giveBack_0 rfl rfl ?_
  refine a_aloadn (pc := 1) dX1_giveBack_1 rfl rfl ?_
  refine a_getI (pc := 2) flX1_27 sh_8 rfl dX1_giveBack_2 ?_
  refine a_bipush (pc := 5) (v := (8 : Int32)) dX1_giveBack_5 (by decide) ?_
  refine a_iadd (pc := 7) dX1_giveBack_7 ?_
  refine a_iconst (pc := 8) (v := (1 : Int32)) dX1_giveBack_8 (by decide) ?_
  refine a_isub (pc := 9) dX1_giveBack_9 ?_
  refine a_bipush (pc := 10) (v := (8 : Int32)) dX1_giveBack_10 (by decide) ?_
  refine a_irem (pc := 12) dX1_giveBack_12 (by decide) ?_
  refine a_putI (pc := 13) flX1_27 sh_8 rfl rfl rfl dX1_giveBack_13 ?_
  obtain ⟨S1, eS1, h⟩ := g_let h
  refine a_nmS eS1 ?_
  refine a_aloadn (pc := 16) dX1_giveBack_16 rfl rfl ?_
  refine a_dup (pc := 17) dX1_giveBack_17 rfl ?_
  refine a_getI (pc := 18) flX1_31 sh_8 rfl dX1_giveBack_18 ?_
  refine a_iconst (pc := 21) (v := (1 : Int32)) dX1_giveBack_21 (by decide) ?_
  refine a_isub (pc := 22) dX1_giveBack_22 ?_
  refine a_putI (pc := 23) flX1_31 sh_8 rfl rfl rfl dX1_giveBack_23 ?_
  obtain ⟨S2, eS2, h⟩ := g_let h
  refine a_nmS eS2 ?_
  refine a_aloadn (pc := 26) dX1_giveBack_26 rfl rfl ?_
  refine a_getA (pc := 27) flX1_9 sh_8 rfl dX1_giveBack_27 ?_
  refine a_aloadn (pc := 30) dX1_giveBack_30 rfl rfl ?_
  refine a_getI (pc := 31) flX1_27 sh_8 rfl dX1_giveBack_31 ?_
  refine a_sipush (pc := 34) (v := (384 : Int32)) dX1_giveBack_34 (by decide) ?_
  refine a_imul (pc := 37) dX1_giveBack_37 ?_
  refine a_aloadn (pc := 38) dX1_giveBack_38 rfl rfl ?_
  refine a_getA (pc := 39) flX1_34 sh_1 rfl dX1_giveBack_39 ?_
  refine a_iconst (pc := 42) (v := (0 : Int32)) dX1_giveBack_42 (by decide) ?_
  refine a_sipush (pc := 43) (v := (384 : Int32)) dX1_giveBack_43 (by decide) ?_
  obtain ⟨hi3, h⟩ := g_if h
  refine a_copyi (pc := 46) sh_9 sh_7 hi3 mlX1_37 (by decide) (Nat.le_of_ble_eq_true rfl) dX1_giveBack_46 ?_
  obtain ⟨S4, eS4, h⟩ := g_let h
  refine a_nmS eS4 ?_
  refine a_aloadn (pc := 49) dX1_giveBack_49 rfl rfl ?_
  refine a_getA (pc := 50) flX1_15 sh_8 rfl dX1_giveBack_50 ?_
  refine a_aloadn (pc := 53) dX1_giveBack_53 rfl rfl ?_
  refine a_getI (pc := 54) flX1_27 sh_8 rfl dX1_giveBack_54 ?_
  refine a_bipush (pc := 57) (v := (6 : Int32)) dX1_giveBack_57 (by decide) ?_
  refine a_imul (pc := 59) dX1_giveBack_59 ?_
  refine a_aloadn (pc := 60) dX1_giveBack_60 rfl rfl ?_
  refine a_getA (pc := 61) flX1_43 sh_1 rfl dX1_giveBack_61 ?_
  refine a_iconst (pc := 64) (v := (0 : Int32)) dX1_giveBack_64 (by decide) ?_
  refine a_bipush (pc := 65) (v := (6 : Int32)) dX1_giveBack_65 (by decide) ?_
  obtain ⟨hi5, h⟩ := g_if h
  refine a_copyi (pc := 67) sh_10 sh_5 hi5 mlX1_37 (by decide) (Nat.le_of_ble_eq_true rfl) dX1_giveBack_67 ?_
  obtain ⟨S6, eS6, h⟩ := g_let h
  refine a_nmS eS6 ?_
  refine a_aloadn (pc := 70) dX1_giveBack_70 rfl rfl ?_
  refine a_getA (pc := 71) flX1_18 sh_8 rfl dX1_giveBack_71 ?_
  refine a_aloadn (pc := 74) dX1_giveBack_74 rfl rfl ?_
  refine a_getI (pc := 75) flX1_27 sh_8 rfl dX1_giveBack_75 ?_
  refine a_bipush (pc := 78) (v := (6 : Int32)) dX1_giveBack_78 (by decide) ?_
  refine a_imul (pc := 80) dX1_giveBack_80 ?_
  refine a_aloadn (pc := 81) dX1_giveBack_81 rfl rfl ?_
  refine a_getA (pc := 82) flX1_44 sh_1 rfl dX1_giveBack_82 ?_
  refine a_iconst (pc := 85) (v := (0 : Int32)) dX1_giveBack_85 (by decide) ?_
  refine a_bipush (pc := 86) (v := (6 : Int32)) dX1_giveBack_86 (by decide) ?_
  obtain ⟨hi7, h⟩ := g_if h
  refine a_copyi (pc := 88) sh_11 sh_6 hi7 mlX1_37 (by decide) (Nat.le_of_ble_eq_true rfl) dX1_giveBack_88 ?_
  obtain ⟨S8, eS8, h⟩ := g_let h
  refine a_nmS eS8 ?_
  refine a_aloadn (pc := 91) dX1_giveBack_91 rfl rfl ?_
  refine a_aloadn (pc := 92) dX1_giveBack_92 rfl rfl ?_
  refine a_getA (pc := 93) flX1_21 sh_8 rfl dX1_giveBack_93 ?_
  refine a_aloadn (pc := 96) dX1_giveBack_96 rfl rfl ?_
  refine a_getI (pc := 97) flX1_27 sh_8 rfl dX1_giveBack_97 ?_
  obtain ⟨hi9, h⟩ := g_if h
  refine a_iald (pc := 100) sh_12 hi9 dX1_giveBack_100 ?_
  refine a_putI (pc := 101) flX1_45 sh_1 rfl rfl rfl dX1_giveBack_101 ?_
  obtain ⟨S10, eS10, h⟩ := g_let h
  refine a_nmS eS10 ?_
  refine a_aloadn (pc := 104) dX1_giveBack_104 rfl rfl ?_
  refine a_aloadn (pc := 105) dX1_giveBack_105 rfl rfl ?_
  refine a_getA (pc := 106) flX1_24 sh_8 rfl dX1_giveBack_106 ?_
  refine a_aloadn (pc := 109) dX1_giveBack_109 rfl rfl ?_
  refine a_getI (pc := 110) flX1_27 sh_8 rfl dX1_giveBack_110 ?_
  obtain ⟨hi11, h⟩ := g_if h
  refine a_iald (pc := 113) sh_13 hi11 dX1_giveBack_113 ?_
  refine a_putI (pc := 114) flX1_48 sh_1 rfl rfl rfl dX1_giveBack_114 ?_
  obtain ⟨S12, eS12, h⟩ := g_let h
  refine a_nmS eS12 ?_
  obtain rfl := Option.some.inj h
  exact a_vret hp dX1_giveBack_117
theorem dX6_undo_0 : decode cX6_undo 0 = .ok (.aload_n 0, 1) := by decide +kernel
theorem dX6_undo_1 : decode cX6_undo 1 = .ok (.getfield 12, 3) := by decide +kernel
theorem dX6_undo_4 : decode cX6_undo 4 = .ok (.getfield 59, 3) := by decide +kernel
theorem dX6_undo_7 : decode cX6_undo 7 = .ok (.getfield 138, 3) := by decide +kernel
theorem dX6_undo_10 : decode cX6_undo 10 = .ok (.iconst 1, 1) := by decide +kernel
theorem dX6_undo_11 : decode cX6_undo 11 = .ok (.if_icmp .ge 6, 3) := by decide +kernel
theorem dX6_undo_14 : decode cX6_undo 14 = .ok (.bipush (-4), 2) := by decide +kernel
theorem dX6_undo_16 : decode cX6_undo 16 = .ok (.ireturn, 1) := by decide +kernel
theorem dX6_undo_17 : decode cX6_undo 17 = .ok (.aload_n 0, 1) := by decide +kernel
theorem dX6_undo_18 : decode cX6_undo 18 = .ok (.getfield 12, 3) := by decide +kernel
theorem dX6_undo_21 : decode cX6_undo 21 = .ok (.getfield 59, 3) := by decide +kernel
theorem dX6_undo_24 : decode cX6_undo 24 = .ok (.aload_n 0, 1) := by decide +kernel
theorem dX6_undo_25 : decode cX6_undo 25 = .ok (.getfield 12, 3) := by decide +kernel
theorem dX6_undo_28 : decode cX6_undo 28 = .ok (.invokevirtual 170, 3) := by decide +kernel
theorem dX6_undo_31 : decode cX6_undo 31 = .ok (.aload_n 0, 1) := by decide +kernel
theorem dX6_undo_32 : decode cX6_undo 32 = .ok (.getfield 12, 3) := by decide +kernel
theorem dX6_undo_35 : decode cX6_undo 35 = .ok (.getfield 59, 3) := by decide +kernel
theorem dX6_undo_38 : decode cX6_undo 38 = .ok (.getfield 138, 3) := by decide +kernel
theorem dX6_undo_41 : decode cX6_undo 41 = .ok (.ireturn, 1) := by decide +kernel
def f_X6_undo (S : gSt) : Option (Int32 × gSt) :=
(if (1 : Int32) ≤ (S.1 8 6) then
(f_X1_giveBack S).bind fun S2 =>
some (S2.1 8 6, S2)
else
some ((-4 : Int32), S))
set_option maxHeartbeats 4000000 in
set_option maxRecDepth 20000 in
theorem ok_X6_undo {S S0 : gSt} {r0 : Int32}  (h : f_X6_undo S = some (r0, S0)) : gCT yX6_undo cX6_undo 1 (some .int) 2 (fun w => [.ref (w.2.1 0)]) S (some (.int r0)) S0 := by
  refine gEnter (fun X => [some (.ref (gad X 0))]) (by decide) (fun X => ⟨rfl, rfl⟩) (fun w => Nat.le_of_ble_eq_true rfl) (fun X hp => ?_)
  show AW X RX6 2 cX6_undo 0 [some (.ref (gad X 0))] [] S
  unfold f_X6_undo at h
  refine a_aloadn (pc := 0) dX6_undo_0 rfl rfl ?_
  refine a_getA (pc := 1) flX6_12 sh_0 rfl dX6_undo_1 ?_
  refine a_getA (pc := 4) flX6_59 sh_1 rfl dX6_undo_4 ?_
  refine a_getI (pc := 7) flX6_138 sh_8 rfl dX6_undo_7 ?_
  refine a_iconst (pc := 10) (v := (1 : Int32)) dX6_undo_10 (by decide) ?_
  refine a_icmp_ge (pc := 11) (tgt := 17) dX6_undo_11 (by decide) (fun c1 => ?_) (fun c1 => ?_)
  · rw [if_pos c1] at h
    refine a_aloadn (pc := 17) dX6_undo_17 rfl rfl ?_
    refine a_getA (pc := 18) flX6_12 sh_0 rfl dX6_undo_18 ?_
    refine a_getA (pc := 21) flX6_59 sh_1 rfl dX6_undo_21 ?_
    refine a_aloadn (pc := 24) dX6_undo_24 rfl rfl ?_
    refine a_getA (pc := 25) flX6_12 sh_0 rfl dX6_undo_25 ?_
    obtain ⟨S2, hc3, h⟩ := g_bind h
    refine a_invVv (pc := 28) (ok_X1_giveBack hc3) gyX1_giveBack vyX1_giveBack mlX6_170 sh_8 rfl (As := [.ref (gad X 1)]) rfl rfl (by decide) (st := []) rfl (Nat.le_of_ble_eq_true rfl) dX6_undo_28 ?_
    refine a_aloadn (pc := 31) dX6_undo_31 rfl rfl ?_
    refine a_getA (pc := 32) flX6_12 sh_0 rfl dX6_undo_32 ?_
    refine a_getA (pc := 35) flX6_59 sh_1 rfl dX6_undo_35 ?_
    refine a_getI (pc := 38) flX6_138 sh_8 rfl dX6_undo_38 ?_
    obtain ⟨rfl, rfl⟩ := Prod.mk.inj (Option.some.inj h)
    exact a_iret hp dX6_undo_41
  · rw [if_neg c1] at h
    refine a_bipush (pc := 14) (v := (-4 : Int32)) dX6_undo_14 (by decide) ?_
    obtain ⟨rfl, rfl⟩ := Prod.mk.inj (Option.some.inj h)
    exact a_iret hp dX6_undo_16
theorem dX6_seed_0 : decode cX6_seed 0 = .ok (.iload_n 1, 1) := by decide +kernel
theorem dX6_seed_1 : decode cX6_seed 1 = .ok (.ifCond .ge 5, 3) := by decide +kernel
theorem dX6_seed_4 : decode cX6_seed 4 = .ok (.iconst (-1), 1) := by decide +kernel
theorem dX6_seed_5 : decode cX6_seed 5 = .ok (.ireturn, 1) := by decide +kernel
theorem dX6_seed_6 : decode cX6_seed 6 = .ok (.aload_n 0, 1) := by decide +kernel
theorem dX6_seed_7 : decode cX6_seed 7 = .ok (.getfield 12, 3) := by decide +kernel
theorem dX6_seed_10 : decode cX6_seed 10 = .ok (.getfield 173, 3) := by decide +kernel
theorem dX6_seed_13 : decode cX6_seed 13 = .ok (.istore_n 2, 1) := by decide +kernel
theorem dX6_seed_14 : decode cX6_seed 14 = .ok (.aload_n 0, 1) := by decide +kernel
theorem dX6_seed_15 : decode cX6_seed 15 = .ok (.getfield 12, 3) := by decide +kernel
theorem dX6_seed_18 : decode cX6_seed 18 = .ok (.iload_n 1, 1) := by decide +kernel
theorem dX6_seed_19 : decode cX6_seed 19 = .ok (.putfield 173, 3) := by decide +kernel
theorem dX6_seed_22 : decode cX6_seed 22 = .ok (.iload_n 2, 1) := by decide +kernel
theorem dX6_seed_23 : decode cX6_seed 23 = .ok (.ireturn, 1) := by decide +kernel
def f_X6_seed (p1 : Int32) (S : gSt) : Option (Int32 × gSt) :=
(if 0 ≤ p1 then
gLet (S.1 1 9) fun v2 =>
gLet (gI S 1 9 p1) fun S3 =>
some (v2, S3)
else
some ((-1 : Int32), S))
set_option maxHeartbeats 4000000 in
set_option maxRecDepth 20000 in
theorem ok_X6_seed {p1 : Int32} {S S0 : gSt} {r0 : Int32}  (h : f_X6_seed p1 S = some (r0, S0)) : gCT yX6_seed cX6_seed 3 (some .int) 0 (fun w => [.ref (w.2.1 0), .int p1]) S (some (.int r0)) S0 := by
  refine gEnter (fun X => [some (.ref (gad X 0)), some (.int p1), none]) (by decide) (fun X => ⟨rfl, rfl⟩) (fun w => Nat.le_of_ble_eq_true rfl) (fun X hp => ?_)
  show AW X RX6 0 cX6_seed 0 [some (.ref (gad X 0)), some (.int p1), none] [] S
  unfold f_X6_seed at h
  refine a_iloadn (pc := 0) dX6_seed_0 rfl rfl ?_
  refine a_if_ge (pc := 1) (tgt := 6) dX6_seed_1 (by decide) (fun c1 => ?_) (fun c1 => ?_)
  · rw [if_pos c1] at h
    refine a_aloadn (pc := 6) dX6_seed_6 rfl rfl ?_
    refine a_getA (pc := 7) flX6_12 sh_0 rfl dX6_seed_7 ?_
    refine a_getI (pc := 10) flX6_173 sh_1 rfl dX6_seed_10 ?_
    obtain ⟨v2, ev2, h⟩ := g_let h
    refine a_nmI ev2 ?_
    refine a_istoren (pc := 13) dX6_seed_13 rfl (Nat.le_of_ble_eq_true rfl) rfl (L' := [some (.ref (gad X 0)), some (.int p1), some (.int v2)]) rfl ?_
    refine a_aloadn (pc := 14) dX6_seed_14 rfl rfl ?_
    refine a_getA (pc := 15) flX6_12 sh_0 rfl dX6_seed_15 ?_
    refine a_iloadn (pc := 18) dX6_seed_18 rfl rfl ?_
    refine a_putI (pc := 19) flX6_173 sh_1 rfl rfl rfl dX6_seed_19 ?_
    obtain ⟨S3, eS3, h⟩ := g_let h
    refine a_nmS eS3 ?_
    refine a_iloadn (pc := 22) dX6_seed_22 rfl rfl ?_
    obtain ⟨rfl, rfl⟩ := Prod.mk.inj (Option.some.inj h)
    exact a_iret hp dX6_seed_23
  · rw [if_neg c1] at h
    refine a_iconst (pc := 4) (v := (-1 : Int32)) dX6_seed_4 (by decide) ?_
    obtain ⟨rfl, rfl⟩ := Prod.mk.inj (Option.some.inj h)
    exact a_iret hp dX6_seed_5
theorem dX6_land_0 : decode cX6_land 0 = .ok (.aload_n 0, 1) := by decide +kernel
theorem dX6_land_1 : decode cX6_land 1 = .ok (.getfield 12, 3) := by decide +kernel
theorem dX6_land_4 : decode cX6_land 4 = .ok (.iload_n 1, 1) := by decide +kernel
theorem dX6_land_5 : decode cX6_land 5 = .ok (.invokevirtual 72, 3) := by decide +kernel
theorem dX6_land_8 : decode cX6_land 8 = .ok (.ifCond .eq 13, 3) := by decide +kernel
theorem dX6_land_11 : decode cX6_land 11 = .ok (.iload_n 2, 1) := by decide +kernel
theorem dX6_land_12 : decode cX6_land 12 = .ok (.ifCond .lt 9, 3) := by decide +kernel
theorem dX6_land_15 : decode cX6_land 15 = .ok (.iload_n 2, 1) := by decide +kernel
theorem dX6_land_16 : decode cX6_land 16 = .ok (.bipush 48, 2) := by decide +kernel
theorem dX6_land_18 : decode cX6_land 18 = .ok (.if_icmp .le 5, 3) := by decide +kernel
theorem dX6_land_21 : decode cX6_land 21 = .ok (.iconst (-1), 1) := by decide +kernel
theorem dX6_land_22 : decode cX6_land 22 = .ok (.ireturn, 1) := by decide +kernel
theorem dX6_land_23 : decode cX6_land 23 = .ok (.aload_n 0, 1) := by decide +kernel
theorem dX6_land_24 : decode cX6_land 24 = .ok (.getfield 39, 3) := by decide +kernel
theorem dX6_land_27 : decode cX6_land 27 = .ok (.aload_n 0, 1) := by decide +kernel
theorem dX6_land_28 : decode cX6_land 28 = .ok (.getfield 12, 3) := by decide +kernel
theorem dX6_land_31 : decode cX6_land 31 = .ok (.iload_n 2, 1) := by decide +kernel
theorem dX6_land_32 : decode cX6_land 32 = .ok (.invokevirtual 95, 3) := by decide +kernel
theorem dX6_land_35 : decode cX6_land 35 = .ok (.aload_n 0, 1) := by decide +kernel
theorem dX6_land_36 : decode cX6_land 36 = .ok (.getfield 39, 3) := by decide +kernel
theorem dX6_land_39 : decode cX6_land 39 = .ok (.getfield 99, 3) := by decide +kernel
theorem dX6_land_42 : decode cX6_land 42 = .ok (.iload_n 1, 1) := by decide +kernel
theorem dX6_land_43 : decode cX6_land 43 = .ok (.iaload, 1) := by decide +kernel
theorem dX6_land_44 : decode cX6_land 44 = .ok (.ireturn, 1) := by decide +kernel
def f_X6_land (p1 : Int32) (p2 : Int32) (S : gSt) : Option (Int32 × gSt) :=
gBind2 (f_X0_has p1 S) fun r3 S1 =>
(if r3 = 0 then
some ((-1 : Int32), S1)
else
(if p2 < 0 then
some ((-1 : Int32), S1)
else
(if p2 ≤ (48 : Int32) then
(f_X3_look p2 S1).bind fun S7 =>
if gin p1 6 then
(some (S7.1 43 p1.toNatClampNeg, S7)) else none
else
some ((-1 : Int32), S1))))
set_option maxHeartbeats 4000000 in
set_option maxRecDepth 20000 in
theorem ok_X6_land {p1 : Int32} {p2 : Int32} {S S0 : gSt} {r0 : Int32}  (h : f_X6_land p1 p2 S = some (r0, S0)) : gCT yX6_land cX6_land 3 (some .int) 4 (fun w => [.ref (w.2.1 0), .int p1, .int p2]) S (some (.int r0)) S0 := by
  refine gEnter (fun X => [some (.ref (gad X 0)), some (.int p1), some (.int p2)]) (by decide) (fun X => ⟨rfl, rfl⟩) (fun w => Nat.le_of_ble_eq_true rfl) (fun X hp => ?_)
  show AW X RX6 4 cX6_land 0 [some (.ref (gad X 0)), some (.int p1), some (.int p2)] [] S
  unfold f_X6_land at h
  refine a_aloadn (pc := 0) dX6_land_0 rfl rfl ?_
  refine a_getA (pc := 1) flX6_12 sh_0 rfl dX6_land_1 ?_
  refine a_iloadn (pc := 4) dX6_land_4 rfl rfl ?_
  obtain ⟨r3, S1, hc2, h⟩ := g_bind2 h
  refine a_invVi (pc := 5) (ok_X0_has hc2) gyX0_has vyX0_has mlX6_72 sh_1 rfl (As := [.int p1]) rfl rfl (by decide) (st := []) rfl (Nat.le_of_ble_eq_true rfl) dX6_land_5 ?_
  refine a_if_eq (pc := 8) (tgt := 21) dX6_land_8 (by decide) (fun c4 => ?_) (fun c4 => ?_)
  · rw [if_pos c4] at h
    refine a_iconst (pc := 21) (v := (-1 : Int32)) dX6_land_21 (by decide) ?_
    obtain ⟨rfl, rfl⟩ := Prod.mk.inj (Option.some.inj h)
    exact a_iret hp dX6_land_22
  · rw [if_neg c4] at h
    refine a_iloadn (pc := 11) dX6_land_11 rfl rfl ?_
    refine a_if_lt (pc := 12) (tgt := 21) dX6_land_12 (by decide) (fun c5 => ?_) (fun c5 => ?_)
    · rw [if_pos c5] at h
      refine a_iconst (pc := 21) (v := (-1 : Int32)) dX6_land_21 (by decide) ?_
      obtain ⟨rfl, rfl⟩ := Prod.mk.inj (Option.some.inj h)
      exact a_iret hp dX6_land_22
    · rw [if_neg c5] at h
      refine a_iloadn (pc := 15) dX6_land_15 rfl rfl ?_
      refine a_bipush (pc := 16) (v := (48 : Int32)) dX6_land_16 (by decide) ?_
      refine a_icmp_le (pc := 18) (tgt := 23) dX6_land_18 (by decide) (fun c6 => ?_) (fun c6 => ?_)
      · rw [if_pos c6] at h
        refine a_aloadn (pc := 23) dX6_land_23 rfl rfl ?_
        refine a_getA (pc := 24) flX6_39 sh_0 rfl dX6_land_24 ?_
        refine a_aloadn (pc := 27) dX6_land_27 rfl rfl ?_
        refine a_getA (pc := 28) flX6_12 sh_0 rfl dX6_land_28 ?_
        refine a_iloadn (pc := 31) dX6_land_31 rfl rfl ?_
        obtain ⟨S7, hc8, h⟩ := g_bind h
        refine a_invVv (pc := 32) (ok_X3_look hc8) gyX3_look vyX3_look mlX6_95 sh_41 rfl (As := [.ref (gad X 1), .int p2]) rfl rfl (by decide) (st := []) rfl (Nat.le_of_ble_eq_true rfl) dX6_land_32 ?_
        refine a_aloadn (pc := 35) dX6_land_35 rfl rfl ?_
        refine a_getA (pc := 36) flX6_39 sh_0 rfl dX6_land_36 ?_
        refine a_getA (pc := 39) flX6_99 sh_41 rfl dX6_land_39 ?_
        refine a_iloadn (pc := 42) dX6_land_42 rfl rfl ?_
        obtain ⟨hi9, h⟩ := g_if h
        refine a_iald (pc := 43) sh_43 hi9 dX6_land_43 ?_
        obtain ⟨rfl, rfl⟩ := Prod.mk.inj (Option.some.inj h)
        exact a_iret hp dX6_land_44
      · rw [if_neg c6] at h
        refine a_iconst (pc := 21) (v := (-1 : Int32)) dX6_land_21 (by decide) ?_
        obtain ⟨rfl, rfl⟩ := Prod.mk.inj (Option.some.inj h)
        exact a_iret hp dX6_land_22
theorem dX6_lasts_0 : decode cX6_lasts 0 = .ok (.aload_n 0, 1) := by decide +kernel
theorem dX6_lasts_1 : decode cX6_lasts 1 = .ok (.getfield 12, 3) := by decide +kernel
theorem dX6_lasts_4 : decode cX6_lasts 4 = .ok (.iload_n 1, 1) := by decide +kernel
theorem dX6_lasts_5 : decode cX6_lasts 5 = .ok (.invokevirtual 72, 3) := by decide +kernel
theorem dX6_lasts_8 : decode cX6_lasts 8 = .ok (.ifCond .eq 10, 3) := by decide +kernel
theorem dX6_lasts_11 : decode cX6_lasts 11 = .ok (.iload_n 2, 1) := by decide +kernel
theorem dX6_lasts_12 : decode cX6_lasts 12 = .ok (.invokestatic 51, 3) := by decide +kernel
theorem dX6_lasts_15 : decode cX6_lasts 15 = .ok (.ifCond .ne 5, 3) := by decide +kernel
theorem dX6_lasts_18 : decode cX6_lasts 18 = .ok (.iconst (-1), 1) := by decide +kernel
theorem dX6_lasts_19 : decode cX6_lasts 19 = .ok (.ireturn, 1) := by decide +kernel
theorem dX6_lasts_20 : decode cX6_lasts 20 = .ok (.iconst 0, 1) := by decide +kernel
theorem dX6_lasts_21 : decode cX6_lasts 21 = .ok (.istore_n 3, 1) := by decide +kernel
theorem dX6_lasts_22 : decode cX6_lasts 22 = .ok (.iload_n 3, 1) := by decide +kernel
theorem dX6_lasts_23 : decode cX6_lasts 23 = .ok (.bipush 48, 2) := by decide +kernel
theorem dX6_lasts_25 : decode cX6_lasts 25 = .ok (.if_icmp .gt 44, 3) := by decide +kernel
theorem dX6_lasts_28 : decode cX6_lasts 28 = .ok (.aload_n 0, 1) := by decide +kernel
theorem dX6_lasts_29 : decode cX6_lasts 29 = .ok (.getfield 39, 3) := by decide +kernel
theorem dX6_lasts_32 : decode cX6_lasts 32 = .ok (.aload_n 0, 1) := by decide +kernel
theorem dX6_lasts_33 : decode cX6_lasts 33 = .ok (.getfield 12, 3) := by decide +kernel
theorem dX6_lasts_36 : decode cX6_lasts 36 = .ok (.iload_n 3, 1) := by decide +kernel
theorem dX6_lasts_37 : decode cX6_lasts 37 = .ok (.invokevirtual 95, 3) := by decide +kernel
theorem dX6_lasts_40 : decode cX6_lasts 40 = .ok (.aload_n 0, 1) := by decide +kernel
theorem dX6_lasts_41 : decode cX6_lasts 41 = .ok (.getfield 39, 3) := by decide +kernel
theorem dX6_lasts_44 : decode cX6_lasts 44 = .ok (.iload_n 2, 1) := by decide +kernel
theorem dX6_lasts_45 : decode cX6_lasts 45 = .ok (.invokevirtual 176, 3) := by decide +kernel
theorem dX6_lasts_48 : decode cX6_lasts 48 = .ok (.iload_n 1, 1) := by decide +kernel
theorem dX6_lasts_49 : decode cX6_lasts 49 = .ok (.if_icmp .eq 14, 3) := by decide +kernel
theorem dX6_lasts_52 : decode cX6_lasts 52 = .ok (.iload_n 3, 1) := by decide +kernel
theorem dX6_lasts_53 : decode cX6_lasts 53 = .ok (.ifCond .ne 8, 3) := by decide +kernel
theorem dX6_lasts_56 : decode cX6_lasts 56 = .ok (.bipush (-2), 2) := by decide +kernel
theorem dX6_lasts_58 : decode cX6_lasts 58 = .ok (.goto 4, 3) := by decide +kernel
theorem dX6_lasts_61 : decode cX6_lasts 61 = .ok (.iload_n 3, 1) := by decide +kernel
theorem dX6_lasts_62 : decode cX6_lasts 62 = .ok (.ireturn, 1) := by decide +kernel
theorem dX6_lasts_63 : decode cX6_lasts 63 = .ok (.iinc 3 1, 3) := by decide +kernel
theorem dX6_lasts_66 : decode cX6_lasts 66 = .ok (.goto (-44), 3) := by decide +kernel
theorem dX6_lasts_69 : decode cX6_lasts 69 = .ok (.bipush (-4), 2) := by decide +kernel
theorem dX6_lasts_71 : decode cX6_lasts 71 = .ok (.ireturn, 1) := by decide +kernel
def f_X6_lasts_s22_b (x1 : Int32) (x2 : Int32) (x3 : Int32) (S : gSt) : Option ((Int32 × Int32 × Int32 × gSt) ⊕ ((Int32 × gSt) ⊕ (gSt))) :=
(if (48 : Int32) < x3 then
some (.inr (.inr (S)))
else
(f_X3_look x3 S).bind fun S10 =>
gBind2 (f_X3_holderOf x2 S10) fun r14 S12 =>
(if r14 = x1 then
some (.inl (x1, x2, x3 + (1 : Int32), S12))
else
(if x3 = 0 then
some (.inr (.inl ((-2 : Int32), S12)))
else
some (.inr (.inl (x3, S12))))))
def f_X6_lasts_s22 : (Int32 × Int32 × Int32 × gSt) → Option ((Int32 × Int32 × Int32 × gSt) ⊕ ((Int32 × gSt) ⊕ (gSt))) := fun t => f_X6_lasts_s22_b t.1 t.2.1 t.2.2.1 t.2.2.2
def f_X6_lasts (p1 : Int32) (p2 : Int32) (S : gSt) : Option (Int32 × gSt) :=
gBind2 (f_X0_has p1 S) fun r3 S1 =>
(if r3 = 0 then
some ((-1 : Int32), S1)
else
gBind2 (f_X6_isCell p2 S1) fun r7 S5 =>
(if r7 = 0 then
some ((-1 : Int32), S5)
else
(gLoop (f_X6_lasts_s22) gFuel (p1, p2, (0 : Int32), S5)).bind fun q17 => match q17 with
| .inl (v17, T17) => some (v17, T17)
| .inr S17 =>
some ((-4 : Int32), S17)))
set_option maxHeartbeats 4000000 in
set_option maxRecDepth 20000 in
theorem ok_X6_lasts {p1 : Int32} {p2 : Int32} {S S0 : gSt} {r0 : Int32}  (h : f_X6_lasts p1 p2 S = some (r0, S0)) : gCT yX6_lasts cX6_lasts 4 (some .int) 4 (fun w => [.ref (w.2.1 0), .int p1, .int p2]) S (some (.int r0)) S0 := by
  refine gEnter (fun X => [some (.ref (gad X 0)), some (.int p1), some (.int p2), none]) (by decide) (fun X => ⟨rfl, rfl⟩) (fun w => Nat.le_of_ble_eq_true rfl) (fun X hp => ?_)
  show AW X RX6 4 cX6_lasts 0 [some (.ref (gad X 0)), some (.int p1), some (.int p2), none] [] S
  unfold f_X6_lasts at h
  refine a_aloadn (pc := 0) dX6_lasts_0 rfl rfl ?_
  refine a_getA (pc := 1) flX6_12 sh_0 rfl dX6_lasts_1 ?_
  refine a_iloadn (pc := 4) dX6_lasts_4 rfl rfl ?_
  obtain ⟨r3, S1, hc2, h⟩ := g_bind2 h
  refine a_invVi (pc := 5) (ok_X0_has hc2) gyX0_has vyX0_has mlX6_72 sh_1 rfl (As := [.int p1]) rfl rfl (by decide) (st := []) rfl (Nat.le_of_ble_eq_true rfl) dX6_lasts_5 ?_
  refine a_if_eq (pc := 8) (tgt := 18) dX6_lasts_8 (by decide) (fun c4 => ?_) (fun c4 => ?_)
  · rw [if_pos c4] at h
    refine a_iconst (pc := 18) (v := (-1 : Int32)) dX6_lasts_18 (by decide) ?_
    obtain ⟨rfl, rfl⟩ := Prod.mk.inj (Option.some.inj h)
    exact a_iret hp dX6_lasts_19
  · rw [if_neg c4] at h
    refine a_iloadn (pc := 11) dX6_lasts_11 rfl rfl ?_
    obtain ⟨r7, S5, hc6, h⟩ := g_bind2 h
    refine a_invSi (pc := 12) (ok_X6_isCell hc6) gyX6_isCell syX6_isCell mlX6_51 (As := [.int p2]) rfl rfl (by decide) (st := []) rfl (Nat.le_of_ble_eq_true rfl) dX6_lasts_12 ?_
    refine a_if_ne (pc := 15) (tgt := 20) dX6_lasts_15 (by decide) (fun c8 => ?_) (fun c8 => ?_)
    · rw [if_neg c8] at h
      refine a_iconst (pc := 20) (v := (0 : Int32)) dX6_lasts_20 (by decide) ?_
      refine a_istoren (pc := 21) dX6_lasts_21 rfl (Nat.le_of_ble_eq_true rfl) rfl (L' := [some (.ref (gad X 0)), some (.int p1), some (.int p2), some (.int (0 : Int32))]) rfl ?_
      obtain ⟨R17, hR17, h⟩ := g_bind h
      have E22 : ∀  (S17 : gSt), (some ((-4 : Int32), S17)) = some (r0, S0) → AW X RX6 4 cX6_lasts 69 [none, none, none, none] [] S17 := by
        intro S17 h
        refine a_bipush (pc := 69) (v := (-4 : Int32)) dX6_lasts_69 (by decide) ?_
        obtain ⟨rfl, rfl⟩ := Prod.mk.inj (Option.some.inj h)
        exact a_iret hp dX6_lasts_71
      have lp : ∀ (n : Nat) (x1 : Int32) (x2 : Int32) (x3 : Int32) (S : gSt), gLoop (f_X6_lasts_s22) n (x1, x2, x3, S) = some R17 → AW X RX6 4 cX6_lasts 22 [some (.ref (gad X 0)), some (.int x1), some (.int x2), some (.int x3)] [] S := by
        intro n
        induction n with
        | zero => intro x1 x2 x3 S hR; cases hR
        | succ n ih =>
          intro x1 x2 x3 S hR
          obtain ⟨q, hs, hR⟩ := g_bind hR
          have hs : f_X6_lasts_s22_b x1 x2 x3 S = some q := hs
          unfold f_X6_lasts_s22_b at hs
          refine a_iloadn (pc := 22) dX6_lasts_22 rfl rfl ?_
          refine a_bipush (pc := 23) (v := (48 : Int32)) dX6_lasts_23 (by decide) ?_
          refine a_icmp_gt (pc := 25) (tgt := 69) dX6_lasts_25 (by decide) (fun c9 => ?_) (fun c9 => ?_)
          · rw [if_pos c9] at hs
            obtain rfl := Option.some.inj hs
            obtain rfl := Option.some.inj hR
            refine a_mask [false, false, false, false] (L' := [none, none, none, none]) rfl ?_
            exact E22  _ h
          · rw [if_neg c9] at hs
            refine a_aloadn (pc := 28) dX6_lasts_28 rfl rfl ?_
            refine a_getA (pc := 29) flX6_39 sh_0 rfl dX6_lasts_29 ?_
            refine a_aloadn (pc := 32) dX6_lasts_32 rfl rfl ?_
            refine a_getA (pc := 33) flX6_12 sh_0 rfl dX6_lasts_33 ?_
            refine a_iloadn (pc := 36) dX6_lasts_36 rfl rfl ?_
            obtain ⟨S10, hc11, hs⟩ := g_bind hs
            refine a_invVv (pc := 37) (ok_X3_look hc11) gyX3_look vyX3_look mlX6_95 sh_41 rfl (As := [.ref (gad X 1), .int x3]) rfl rfl (by decide) (st := []) rfl (Nat.le_of_ble_eq_true rfl) dX6_lasts_37 ?_
            refine a_aloadn (pc := 40) dX6_lasts_40 rfl rfl ?_
            refine a_getA (pc := 41) flX6_39 sh_0 rfl dX6_lasts_41 ?_
            refine a_iloadn (pc := 44) dX6_lasts_44 rfl rfl ?_
            obtain ⟨r14, S12, hc13, hs⟩ := g_bind2 hs
            refine a_invVi (pc := 45) (ok_X3_holderOf hc13) gyX3_holderOf vyX3_holderOf mlX6_176 sh_41 rfl (As := [.int x2]) rfl rfl (by decide) (st := []) rfl (Nat.le_of_ble_eq_true rfl) dX6_lasts_45 ?_
            refine a_iloadn (pc := 48) dX6_lasts_48 rfl rfl ?_
            refine a_icmp_eq (pc := 49) (tgt := 63) dX6_lasts_49 (by decide) (fun c15 => ?_) (fun c15 => ?_)
            · rw [if_pos c15] at hs
              refine a_iinc (pc := 63) dX6_lasts_63 rfl (v := x3 + (1 : Int32)) rfl (Nat.le_of_ble_eq_true rfl) rfl (L' := [some (.ref (gad X 0)), some (.int x1), some (.int x2), some (.int (x3 + (1 : Int32)))]) rfl ?_
              refine a_goto (pc := 66) (tgt := 22) dX6_lasts_66 (by decide) ?_
              obtain rfl := Option.some.inj hs
              exact ih _ _ _ _ hR
            · rw [if_neg c15] at hs
              refine a_iloadn (pc := 52) dX6_lasts_52 rfl rfl ?_
              refine a_if_ne (pc := 53) (tgt := 61) dX6_lasts_53 (by decide) (fun c16 => ?_) (fun c16 => ?_)
              · rw [if_neg c16] at hs
                refine a_iloadn (pc := 61) dX6_lasts_61 rfl rfl ?_
                obtain rfl := Option.some.inj hs
                obtain rfl := Option.some.inj hR
                obtain ⟨rfl, rfl⟩ := Prod.mk.inj (Option.some.inj h)
                exact a_iret hp dX6_lasts_62
              · rw [if_pos c16] at hs
                refine a_bipush (pc := 56) (v := (-2 : Int32)) dX6_lasts_56 (by decide) ?_
                refine a_goto (pc := 58) (tgt := 62) dX6_lasts_58 (by decide) ?_
                obtain rfl := Option.some.inj hs
                obtain rfl := Option.some.inj hR
                obtain ⟨rfl, rfl⟩ := Prod.mk.inj (Option.some.inj h)
                exact a_iret hp dX6_lasts_62
      exact lp _ _ _ _ _ hR17
    · rw [if_pos c8] at h
      refine a_iconst (pc := 18) (v := (-1 : Int32)) dX6_lasts_18 (by decide) ?_
      obtain ⟨rfl, rfl⟩ := Prod.mk.inj (Option.some.inj h)
      exact a_iret hp dX6_lasts_19
theorem dX6_besideSet_0 : decode cX6_besideSet 0 = .ok (.lload_n 0, 1) := by decide +kernel
theorem dX6_besideSet_1 : decode cX6_besideSet 1 = .ok (.iconst 1, 1) := by decide +kernel
theorem dX6_besideSet_2 : decode cX6_besideSet 2 = .ok (.lshl, 1) := by decide +kernel
theorem dX6_besideSet_3 : decode cX6_besideSet 3 = .ok (.ldc2_w 279, 3) := by decide +kernel
theorem dX6_besideSet_6 : decode cX6_besideSet 6 = .ok (.land, 1) := by decide +kernel
theorem dX6_besideSet_7 : decode cX6_besideSet 7 = .ok (.lload_n 0, 1) := by decide +kernel
theorem dX6_besideSet_8 : decode cX6_besideSet 8 = .ok (.iconst 1, 1) := by decide +kernel
theorem dX6_besideSet_9 : decode cX6_besideSet 9 = .ok (.lushr, 1) := by decide +kernel
theorem dX6_besideSet_10 : decode cX6_besideSet 10 = .ok (.ldc2_w 281, 3) := by decide +kernel
theorem dX6_besideSet_13 : decode cX6_besideSet 13 = .ok (.land, 1) := by decide +kernel
theorem dX6_besideSet_14 : decode cX6_besideSet 14 = .ok (.lor, 1) := by decide +kernel
theorem dX6_besideSet_15 : decode cX6_besideSet 15 = .ok (.lload_n 0, 1) := by decide +kernel
theorem dX6_besideSet_16 : decode cX6_besideSet 16 = .ok (.bipush 8, 2) := by decide +kernel
theorem dX6_besideSet_18 : decode cX6_besideSet 18 = .ok (.lshl, 1) := by decide +kernel
theorem dX6_besideSet_19 : decode cX6_besideSet 19 = .ok (.lor, 1) := by decide +kernel
theorem dX6_besideSet_20 : decode cX6_besideSet 20 = .ok (.lload_n 0, 1) := by decide +kernel
theorem dX6_besideSet_21 : decode cX6_besideSet 21 = .ok (.bipush 8, 2) := by decide +kernel
theorem dX6_besideSet_23 : decode cX6_besideSet 23 = .ok (.lushr, 1) := by decide +kernel
theorem dX6_besideSet_24 : decode cX6_besideSet 24 = .ok (.lor, 1) := by decide +kernel
theorem dX6_besideSet_25 : decode cX6_besideSet 25 = .ok (.lreturn, 1) := by decide +kernel
def f_X6_besideSet (p0 : Int64) (S : gSt) : Option (Int64 × gSt) :=
some (((((p0 <<< ((1 : Int32).toInt64 &&& 63)) &&& (-72340172838076674 : Int64)) ||| (((p0.toUInt64 >>> ((1 : Int32).toInt64.toUInt64 &&& Int64.toUInt64 63)).toInt64) &&& (9187201950435737471 : Int64))) ||| (p0 <<< ((8 : Int32).toInt64 &&& 63))) ||| ((p0.toUInt64 >>> ((8 : Int32).toInt64.toUInt64 &&& Int64.toUInt64 63)).toInt64), S)
set_option maxHeartbeats 4000000 in
set_option maxRecDepth 20000 in
theorem ok_X6_besideSet {p0 : Int64} {S S0 : gSt} {r0 : Int64}  (h : f_X6_besideSet p0 S = some (r0, S0)) : gCT yX6_besideSet cX6_besideSet 2 (some .long) 0 (fun w => [.long p0]) S (some (.long r0)) S0 := by
  refine gEnter (fun X => [some (.long p0), none]) (by decide) (fun X => ⟨rfl, rfl⟩) (fun w => Nat.le_of_ble_eq_true rfl) (fun X hp => ?_)
  show AW X RX6 0 cX6_besideSet 0 [some (.long p0), none] [] S
  unfold f_X6_besideSet at h
  refine a_lloadn (pc := 0) dX6_besideSet_0 rfl rfl ?_
  refine a_iconst (pc := 1) (v := (1 : Int32)) dX6_besideSet_1 (by decide) ?_
  refine a_lshl (pc := 2) dX6_besideSet_2 ?_
  refine a_ldc2 (pc := 3) kX6_279 dX6_besideSet_3 ?_
  refine a_land (pc := 6) dX6_besideSet_6 ?_
  refine a_lloadn (pc := 7) dX6_besideSet_7 rfl rfl ?_
  refine a_iconst (pc := 8) (v := (1 : Int32)) dX6_besideSet_8 (by decide) ?_
  refine a_lushr (pc := 9) dX6_besideSet_9 ?_
  refine a_ldc2 (pc := 10) kX6_281 dX6_besideSet_10 ?_
  refine a_land (pc := 13) dX6_besideSet_13 ?_
  refine a_lor (pc := 14) dX6_besideSet_14 ?_
  refine a_lloadn (pc := 15) dX6_besideSet_15 rfl rfl ?_
  refine a_bipush (pc := 16) (v := (8 : Int32)) dX6_besideSet_16 (by decide) ?_
  refine a_lshl (pc := 18) dX6_besideSet_18 ?_
  refine a_lor (pc := 19) dX6_besideSet_19 ?_
  refine a_lloadn (pc := 20) dX6_besideSet_20 rfl rfl ?_
  refine a_bipush (pc := 21) (v := (8 : Int32)) dX6_besideSet_21 (by decide) ?_
  refine a_lushr (pc := 23) dX6_besideSet_23 ?_
  refine a_lor (pc := 24) dX6_besideSet_24 ?_
  obtain ⟨rfl, rfl⟩ := Prod.mk.inj (Option.some.inj h)
  exact a_lret hp dX6_besideSet_25
theorem dX6_spreadOver_0 : decode cX6_spreadOver 0 = .ok (.lload_n 0, 1) := by decide +kernel
theorem dX6_spreadOver_1 : decode cX6_spreadOver 1 = .ok (.lstore 4, 2) := by decide +kernel
theorem dX6_spreadOver_3 : decode cX6_spreadOver 3 = .ok (.iconst 0, 1) := by decide +kernel
theorem dX6_spreadOver_4 : decode cX6_spreadOver 4 = .ok (.istore 6, 2) := by decide +kernel
theorem dX6_spreadOver_6 : decode cX6_spreadOver 6 = .ok (.iload 6, 2) := by decide +kernel
theorem dX6_spreadOver_8 : decode cX6_spreadOver 8 = .ok (.bipush 64, 2) := by decide +kernel
theorem dX6_spreadOver_10 : decode cX6_spreadOver 10 = .ok (.if_icmp .ge 36, 3) := by decide +kernel
theorem dX6_spreadOver_13 : decode cX6_spreadOver 13 = .ok (.lload 4, 2) := by decide +kernel
theorem dX6_spreadOver_15 : decode cX6_spreadOver 15 = .ok (.lload 4, 2) := by decide +kernel
theorem dX6_spreadOver_17 : decode cX6_spreadOver 17 = .ok (.invokestatic 283, 3) := by decide +kernel
theorem dX6_spreadOver_20 : decode cX6_spreadOver 20 = .ok (.lload_n 2, 1) := by decide +kernel
theorem dX6_spreadOver_21 : decode cX6_spreadOver 21 = .ok (.land, 1) := by decide +kernel
theorem dX6_spreadOver_22 : decode cX6_spreadOver 22 = .ok (.lor, 1) := by decide +kernel
theorem dX6_spreadOver_23 : decode cX6_spreadOver 23 = .ok (.lstore 7, 2) := by decide +kernel
theorem dX6_spreadOver_25 : decode cX6_spreadOver 25 = .ok (.lload 7, 2) := by decide +kernel
theorem dX6_spreadOver_27 : decode cX6_spreadOver 27 = .ok (.lload 4, 2) := by decide +kernel
theorem dX6_spreadOver_29 : decode cX6_spreadOver 29 = .ok (.lcmp, 1) := by decide +kernel
theorem dX6_spreadOver_30 : decode cX6_spreadOver 30 = .ok (.ifCond .ne 6, 3) := by decide +kernel
theorem dX6_spreadOver_33 : decode cX6_spreadOver 33 = .ok (.goto 13, 3) := by decide +kernel
theorem dX6_spreadOver_36 : decode cX6_spreadOver 36 = .ok (.lload 7, 2) := by decide +kernel
theorem dX6_spreadOver_38 : decode cX6_spreadOver 38 = .ok (.lstore 4, 2) := by decide +kernel
theorem dX6_spreadOver_40 : decode cX6_spreadOver 40 = .ok (.iinc 6 1, 3) := by decide +kernel
theorem dX6_spreadOver_43 : decode cX6_spreadOver 43 = .ok (.goto (-37), 3) := by decide +kernel
theorem dX6_spreadOver_46 : decode cX6_spreadOver 46 = .ok (.lload 4, 2) := by decide +kernel
theorem dX6_spreadOver_48 : decode cX6_spreadOver 48 = .ok (.lreturn, 1) := by decide +kernel
def f_X6_spreadOver_s6_b (x2 : Int64) (x4 : Int64) (x6 : Int32) (S : gSt) : Option ((Int64 × Int64 × Int32 × gSt) ⊕ ((Int64 × gSt) ⊕ (Int64 × gSt))) :=
(if (64 : Int32) ≤ x6 then
some (.inr (.inr (x4, S)))
else
gBind2 (f_X6_besideSet x4 S) fun r4 S2 =>
gLet (x4 ||| (r4 &&& x2)) fun v5 =>
(if (lg_cmp v5 x4) = 0 then
some (.inr (.inr (x4, S2)))
else
some (.inl (x2, v5, x6 + (1 : Int32), S2))))
def f_X6_spreadOver_s6 : (Int64 × Int64 × Int32 × gSt) → Option ((Int64 × Int64 × Int32 × gSt) ⊕ ((Int64 × gSt) ⊕ (Int64 × gSt))) := fun t => f_X6_spreadOver_s6_b t.1 t.2.1 t.2.2.1 t.2.2.2
def f_X6_spreadOver (p0 : Int64) (p2 : Int64) (S : gSt) : Option (Int64 × gSt) :=
(gLoop (f_X6_spreadOver_s6) gFuel (p2, p0, (0 : Int32), S)).bind fun q7 => match q7 with
| .inl (v7, T7) => some (v7, T7)
| .inr (y4_7, S7) =>
some (y4_7, S7)
set_option maxHeartbeats 4000000 in
set_option maxRecDepth 20000 in
theorem ok_X6_spreadOver {p0 : Int64} {p2 : Int64} {S S0 : gSt} {r0 : Int64}  (h : f_X6_spreadOver p0 p2 S = some (r0, S0)) : gCT yX6_spreadOver cX6_spreadOver 9 (some .long) 1 (fun w => [.long p0, .long p2]) S (some (.long r0)) S0 := by
  refine gEnter (fun X => [some (.long p0), none, some (.long p2), none, none, none, none, none, none]) (by decide) (fun X => ⟨rfl, rfl⟩) (fun w => Nat.le_of_ble_eq_true rfl) (fun X hp => ?_)
  show AW X RX6 1 cX6_spreadOver 0 [some (.long p0), none, some (.long p2), none, none, none, none, none, none] [] S
  unfold f_X6_spreadOver at h
  refine a_lloadn (pc := 0) dX6_spreadOver_0 rfl rfl ?_
  refine a_lstore (pc := 1) dX6_spreadOver_1 (Nat.le_of_ble_eq_true rfl) rfl (L' := [some (.long p0), none, some (.long p2), none, some (.long p0), none, none, none, none]) rfl ?_
  refine a_iconst (pc := 3) (v := (0 : Int32)) dX6_spreadOver_3 (by decide) ?_
  refine a_istore (pc := 4) dX6_spreadOver_4 (Nat.le_of_ble_eq_true rfl) rfl (L' := [some (.long p0), none, some (.long p2), none, some (.long p0), none, some (.int (0 : Int32)), none, none]) rfl ?_
  obtain ⟨R7, hR7, h⟩ := g_bind h
  refine a_mask [false, true, true, true, true, true, true, true, true] (L' := [none, none, some (.long p2), none, some (.long p0), none, some (.int (0 : Int32)), none, none]) rfl ?_
  have E6 : ∀ (y4_7 : Int64) (S7 : gSt), (some (y4_7, S7)) = some (r0, S0) → AW X RX6 1 cX6_spreadOver 46 [none, none, none, none, some (.long y4_7), none, none, none, none] [] S7 := by
    intro y4_7 S7 h
    refine a_lload (pc := 46) dX6_spreadOver_46 rfl ?_
    obtain ⟨rfl, rfl⟩ := Prod.mk.inj (Option.some.inj h)
    exact a_lret hp dX6_spreadOver_48
  have lp : ∀ (n : Nat) (x2 : Int64) (x4 : Int64) (x6 : Int32) (S : gSt), gLoop (f_X6_spreadOver_s6) n (x2, x4, x6, S) = some R7 → AW X RX6 1 cX6_spreadOver 6 [none, none, some (.long x2), none, some (.long x4), none, some (.int x6), none, none] [] S := by
    intro n
    induction n with
    | zero => intro x2 x4 x6 S hR; cases hR
    | succ n ih =>
      intro x2 x4 x6 S hR
      obtain ⟨q, hs, hR⟩ := g_bind hR
      have hs : f_X6_spreadOver_s6_b x2 x4 x6 S = some q := hs
      unfold f_X6_spreadOver_s6_b at hs
      refine a_iload (pc := 6) dX6_spreadOver_6 rfl ?_
      refine a_bipush (pc := 8) (v := (64 : Int32)) dX6_spreadOver_8 (by decide) ?_
      refine a_icmp_ge (pc := 10) (tgt := 46) dX6_spreadOver_10 (by decide) (fun c1 => ?_) (fun c1 => ?_)
      · rw [if_pos c1] at hs
        obtain rfl := Option.some.inj hs
        obtain rfl := Option.some.inj hR
        refine a_mask [true, true, false, true, true, true, false, true, true] (L' := [none, none, none, none, some (.long x4), none, none, none, none]) rfl ?_
        exact E6 _ _ h
      · rw [if_neg c1] at hs
        refine a_lload (pc := 13) dX6_spreadOver_13 rfl ?_
        refine a_lload (pc := 15) dX6_spreadOver_15 rfl ?_
        obtain ⟨r4, S2, hc3, hs⟩ := g_bind2 hs
        refine a_invSl (pc := 17) (ok_X6_besideSet hc3) gyX6_besideSet syX6_besideSet mlX6_283 (As := [.long x4]) rfl rfl (by decide) (st := [.long x4]) rfl (Nat.le_of_ble_eq_true rfl) dX6_spreadOver_17 ?_
        refine a_lloadn (pc := 20) dX6_spreadOver_20 rfl rfl ?_
        refine a_land (pc := 21) dX6_spreadOver_21 ?_
        refine a_lor (pc := 22) dX6_spreadOver_22 ?_
        obtain ⟨v5, ev5, hs⟩ := g_let hs
        refine a_nmJ ev5 ?_
        refine a_lstore (pc := 23) dX6_spreadOver_23 (Nat.le_of_ble_eq_true rfl) rfl (L' := [none, none, some (.long x2), none, some (.long x4), none, some (.int x6), some (.long v5), none]) rfl ?_
        refine a_lload (pc := 25) dX6_spreadOver_25 rfl ?_
        refine a_lload (pc := 27) dX6_spreadOver_27 rfl ?_
        refine a_lcmp (pc := 29) dX6_spreadOver_29 ?_
        refine a_if_ne (pc := 30) (tgt := 36) dX6_spreadOver_30 (by decide) (fun c6 => ?_) (fun c6 => ?_)
        · rw [if_neg c6] at hs
          refine a_lload (pc := 36) dX6_spreadOver_36 rfl ?_
          refine a_lstore (pc := 38) dX6_spreadOver_38 (Nat.le_of_ble_eq_true rfl) rfl (L' := [none, none, some (.long x2), none, some (.long v5), none, some (.int x6), some (.long v5), none]) rfl ?_
          refine a_iinc (pc := 40) dX6_spreadOver_40 rfl (v := x6 + (1 : Int32)) rfl (Nat.le_of_ble_eq_true rfl) rfl (L' := [none, none, some (.long x2), none, some (.long v5), none, some (.int (x6 + (1 : Int32))), some (.long v5), none]) rfl ?_
          refine a_goto (pc := 43) (tgt := 6) dX6_spreadOver_43 (by decide) ?_
          obtain rfl := Option.some.inj hs
          refine a_mask [true, true, true, true, true, true, true, false, true] (L' := [none, none, some (.long x2), none, some (.long v5), none, some (.int (x6 + (1 : Int32))), none, none]) rfl ?_
          exact ih _ _ _ _ hR
        · rw [if_pos c6] at hs
          refine a_goto (pc := 33) (tgt := 46) dX6_spreadOver_33 (by decide) ?_
          obtain rfl := Option.some.inj hs
          obtain rfl := Option.some.inj hR
          refine a_mask [true, true, false, true, true, true, false, false, true] (L' := [none, none, none, none, some (.long x4), none, none, none, none]) rfl ?_
          exact E6 _ _ h
  exact lp _ _ _ _ _ hR7
theorem dJ13_bitCount_95d88_0 : decode cJ13_bitCount_95d88 0 = .ok (.lload_n 0, 1) := by decide +kernel
theorem dJ13_bitCount_95d88_1 : decode cJ13_bitCount_95d88 1 = .ok (.lload_n 0, 1) := by decide +kernel
theorem dJ13_bitCount_95d88_2 : decode cJ13_bitCount_95d88 2 = .ok (.iconst 1, 1) := by decide +kernel
theorem dJ13_bitCount_95d88_3 : decode cJ13_bitCount_95d88 3 = .ok (.lushr, 1) := by decide +kernel
theorem dJ13_bitCount_95d88_4 : decode cJ13_bitCount_95d88 4 = .ok (.ldc2_w 314, 3) := by decide +kernel
theorem dJ13_bitCount_95d88_7 : decode cJ13_bitCount_95d88 7 = .ok (.land, 1) := by decide +kernel
theorem dJ13_bitCount_95d88_8 : decode cJ13_bitCount_95d88 8 = .ok (.lsub, 1) := by decide +kernel
theorem dJ13_bitCount_95d88_9 : decode cJ13_bitCount_95d88 9 = .ok (.lstore_n 0, 1) := by decide +kernel
theorem dJ13_bitCount_95d88_10 : decode cJ13_bitCount_95d88 10 = .ok (.lload_n 0, 1) := by decide +kernel
theorem dJ13_bitCount_95d88_11 : decode cJ13_bitCount_95d88 11 = .ok (.ldc2_w 316, 3) := by decide +kernel
theorem dJ13_bitCount_95d88_14 : decode cJ13_bitCount_95d88 14 = .ok (.land, 1) := by decide +kernel
theorem dJ13_bitCount_95d88_15 : decode cJ13_bitCount_95d88 15 = .ok (.lload_n 0, 1) := by decide +kernel
theorem dJ13_bitCount_95d88_16 : decode cJ13_bitCount_95d88 16 = .ok (.iconst 2, 1) := by decide +kernel
theorem dJ13_bitCount_95d88_17 : decode cJ13_bitCount_95d88 17 = .ok (.lushr, 1) := by decide +kernel
theorem dJ13_bitCount_95d88_18 : decode cJ13_bitCount_95d88 18 = .ok (.ldc2_w 316, 3) := by decide +kernel
theorem dJ13_bitCount_95d88_21 : decode cJ13_bitCount_95d88 21 = .ok (.land, 1) := by decide +kernel
theorem dJ13_bitCount_95d88_22 : decode cJ13_bitCount_95d88 22 = .ok (.ladd, 1) := by decide +kernel
theorem dJ13_bitCount_95d88_23 : decode cJ13_bitCount_95d88 23 = .ok (.lstore_n 0, 1) := by decide +kernel
theorem dJ13_bitCount_95d88_24 : decode cJ13_bitCount_95d88 24 = .ok (.lload_n 0, 1) := by decide +kernel
theorem dJ13_bitCount_95d88_25 : decode cJ13_bitCount_95d88 25 = .ok (.lload_n 0, 1) := by decide +kernel
theorem dJ13_bitCount_95d88_26 : decode cJ13_bitCount_95d88 26 = .ok (.iconst 4, 1) := by decide +kernel
theorem dJ13_bitCount_95d88_27 : decode cJ13_bitCount_95d88 27 = .ok (.lushr, 1) := by decide +kernel
theorem dJ13_bitCount_95d88_28 : decode cJ13_bitCount_95d88 28 = .ok (.ladd, 1) := by decide +kernel
theorem dJ13_bitCount_95d88_29 : decode cJ13_bitCount_95d88 29 = .ok (.ldc2_w 318, 3) := by decide +kernel
theorem dJ13_bitCount_95d88_32 : decode cJ13_bitCount_95d88 32 = .ok (.land, 1) := by decide +kernel
theorem dJ13_bitCount_95d88_33 : decode cJ13_bitCount_95d88 33 = .ok (.lstore_n 0, 1) := by decide +kernel
theorem dJ13_bitCount_95d88_34 : decode cJ13_bitCount_95d88 34 = .ok (.lload_n 0, 1) := by decide +kernel
theorem dJ13_bitCount_95d88_35 : decode cJ13_bitCount_95d88 35 = .ok (.lload_n 0, 1) := by decide +kernel
theorem dJ13_bitCount_95d88_36 : decode cJ13_bitCount_95d88 36 = .ok (.bipush 8, 2) := by decide +kernel
theorem dJ13_bitCount_95d88_38 : decode cJ13_bitCount_95d88 38 = .ok (.lushr, 1) := by decide +kernel
theorem dJ13_bitCount_95d88_39 : decode cJ13_bitCount_95d88 39 = .ok (.ladd, 1) := by decide +kernel
theorem dJ13_bitCount_95d88_40 : decode cJ13_bitCount_95d88 40 = .ok (.lstore_n 0, 1) := by decide +kernel
theorem dJ13_bitCount_95d88_41 : decode cJ13_bitCount_95d88 41 = .ok (.lload_n 0, 1) := by decide +kernel
theorem dJ13_bitCount_95d88_42 : decode cJ13_bitCount_95d88 42 = .ok (.lload_n 0, 1) := by decide +kernel
theorem dJ13_bitCount_95d88_43 : decode cJ13_bitCount_95d88 43 = .ok (.bipush 16, 2) := by decide +kernel
theorem dJ13_bitCount_95d88_45 : decode cJ13_bitCount_95d88 45 = .ok (.lushr, 1) := by decide +kernel
theorem dJ13_bitCount_95d88_46 : decode cJ13_bitCount_95d88 46 = .ok (.ladd, 1) := by decide +kernel
theorem dJ13_bitCount_95d88_47 : decode cJ13_bitCount_95d88 47 = .ok (.lstore_n 0, 1) := by decide +kernel
theorem dJ13_bitCount_95d88_48 : decode cJ13_bitCount_95d88 48 = .ok (.lload_n 0, 1) := by decide +kernel
theorem dJ13_bitCount_95d88_49 : decode cJ13_bitCount_95d88 49 = .ok (.lload_n 0, 1) := by decide +kernel
theorem dJ13_bitCount_95d88_50 : decode cJ13_bitCount_95d88 50 = .ok (.bipush 32, 2) := by decide +kernel
theorem dJ13_bitCount_95d88_52 : decode cJ13_bitCount_95d88 52 = .ok (.lushr, 1) := by decide +kernel
theorem dJ13_bitCount_95d88_53 : decode cJ13_bitCount_95d88 53 = .ok (.ladd, 1) := by decide +kernel
theorem dJ13_bitCount_95d88_54 : decode cJ13_bitCount_95d88 54 = .ok (.lstore_n 0, 1) := by decide +kernel
theorem dJ13_bitCount_95d88_55 : decode cJ13_bitCount_95d88 55 = .ok (.lload_n 0, 1) := by decide +kernel
theorem dJ13_bitCount_95d88_56 : decode cJ13_bitCount_95d88 56 = .ok (.l2i, 1) := by decide +kernel
theorem dJ13_bitCount_95d88_57 : decode cJ13_bitCount_95d88 57 = .ok (.bipush 127, 2) := by decide +kernel
theorem dJ13_bitCount_95d88_59 : decode cJ13_bitCount_95d88 59 = .ok (.iand, 1) := by decide +kernel
theorem dJ13_bitCount_95d88_60 : decode cJ13_bitCount_95d88 60 = .ok (.ireturn, 1) := by decide +kernel
def f_J13_bitCount_95d88 (p0 : Int64) (S : gSt) : Option (Int32 × gSt) :=
gLet (p0 - (((p0.toUInt64 >>> ((1 : Int32).toInt64.toUInt64 &&& Int64.toUInt64 63)).toInt64) &&& (6148914691236517205 : Int64))) fun v1 =>
gLet ((v1 &&& (3689348814741910323 : Int64)) + (((v1.toUInt64 >>> ((2 : Int32).toInt64.toUInt64 &&& Int64.toUInt64 63)).toInt64) &&& (3689348814741910323 : Int64))) fun v2 =>
gLet ((v2 + ((v2.toUInt64 >>> ((4 : Int32).toInt64.toUInt64 &&& Int64.toUInt64 63)).toInt64)) &&& (1085102592571150095 : Int64)) fun v3 =>
gLet (v3 + ((v3.toUInt64 >>> ((8 : Int32).toInt64.toUInt64 &&& Int64.toUInt64 63)).toInt64)) fun v4 =>
gLet (v4 + ((v4.toUInt64 >>> ((16 : Int32).toInt64.toUInt64 &&& Int64.toUInt64 63)).toInt64)) fun v5 =>
gLet (v5 + ((v5.toUInt64 >>> ((32 : Int32).toInt64.toUInt64 &&& Int64.toUInt64 63)).toInt64)) fun v6 =>
some ((v6.toInt32) &&& (127 : Int32), S)
set_option maxHeartbeats 4000000 in
set_option maxRecDepth 20000 in
theorem ok_J13_bitCount_95d88 {p0 : Int64} {S S0 : gSt} {r0 : Int32}  (h : f_J13_bitCount_95d88 p0 S = some (r0, S0)) : gCT yJ13_bitCount_95d88 cJ13_bitCount_95d88 2 (some .int) 0 (fun w => [.long p0]) S (some (.int r0)) S0 := by
  refine gEnter (fun X => [some (.long p0), none]) (by decide) (fun X => ⟨rfl, rfl⟩) (fun w => Nat.le_of_ble_eq_true rfl) (fun X hp => ?_)
  show AW X RJ13 0 cJ13_bitCount_95d88 0 [some (.long p0), none] [] S
  unfold f_J13_bitCount_95d88 at h
  refine a_lloadn (pc := 0) dJ13_bitCount_95d88_0 rfl rfl ?_
  refine a_lloadn (pc := 1) dJ13_bitCount_95d88_1 rfl rfl ?_
  refine a_iconst (pc := 2) (v := (1 : Int32)) dJ13_bitCount_95d88_2 (by decide) ?_
  refine a_lushr (pc := 3) dJ13_bitCount_95d88_3 ?_
  refine a_ldc2 (pc := 4) kJ13_314 dJ13_bitCount_95d88_4 ?_
  refine a_land (pc := 7) dJ13_bitCount_95d88_7 ?_
  refine a_lsub (pc := 8) dJ13_bitCount_95d88_8 ?_
  obtain ⟨v1, ev1, h⟩ := g_let h
  refine a_nmJ ev1 ?_
  refine a_lstoren (pc := 9) dJ13_bitCount_95d88_9 rfl (Nat.le_of_ble_eq_true rfl) rfl (L' := [some (.long v1), none]) rfl ?_
  refine a_lloadn (pc := 10) dJ13_bitCount_95d88_10 rfl rfl ?_
  refine a_ldc2 (pc := 11) kJ13_316 dJ13_bitCount_95d88_11 ?_
  refine a_land (pc := 14) dJ13_bitCount_95d88_14 ?_
  refine a_lloadn (pc := 15) dJ13_bitCount_95d88_15 rfl rfl ?_
  refine a_iconst (pc := 16) (v := (2 : Int32)) dJ13_bitCount_95d88_16 (by decide) ?_
  refine a_lushr (pc := 17) dJ13_bitCount_95d88_17 ?_
  refine a_ldc2 (pc := 18) kJ13_316 dJ13_bitCount_95d88_18 ?_
  refine a_land (pc := 21) dJ13_bitCount_95d88_21 ?_
  refine a_ladd (pc := 22) dJ13_bitCount_95d88_22 ?_
  obtain ⟨v2, ev2, h⟩ := g_let h
  refine a_nmJ ev2 ?_
  refine a_lstoren (pc := 23) dJ13_bitCount_95d88_23 rfl (Nat.le_of_ble_eq_true rfl) rfl (L' := [some (.long v2), none]) rfl ?_
  refine a_lloadn (pc := 24) dJ13_bitCount_95d88_24 rfl rfl ?_
  refine a_lloadn (pc := 25) dJ13_bitCount_95d88_25 rfl rfl ?_
  refine a_iconst (pc := 26) (v := (4 : Int32)) dJ13_bitCount_95d88_26 (by decide) ?_
  refine a_lushr (pc := 27) dJ13_bitCount_95d88_27 ?_
  refine a_ladd (pc := 28) dJ13_bitCount_95d88_28 ?_
  refine a_ldc2 (pc := 29) kJ13_318 dJ13_bitCount_95d88_29 ?_
  refine a_land (pc := 32) dJ13_bitCount_95d88_32 ?_
  obtain ⟨v3, ev3, h⟩ := g_let h
  refine a_nmJ ev3 ?_
  refine a_lstoren (pc := 33) dJ13_bitCount_95d88_33 rfl (Nat.le_of_ble_eq_true rfl) rfl (L' := [some (.long v3), none]) rfl ?_
  refine a_lloadn (pc := 34) dJ13_bitCount_95d88_34 rfl rfl ?_
  refine a_lloadn (pc := 35) dJ13_bitCount_95d88_35 rfl rfl ?_
  refine a_bipush (pc := 36) (v := (8 : Int32)) dJ13_bitCount_95d88_36 (by decide) ?_
  refine a_lushr (pc := 38) dJ13_bitCount_95d88_38 ?_
  refine a_ladd (pc := 39) dJ13_bitCount_95d88_39 ?_
  obtain ⟨v4, ev4, h⟩ := g_let h
  refine a_nmJ ev4 ?_
  refine a_lstoren (pc := 40) dJ13_bitCount_95d88_40 rfl (Nat.le_of_ble_eq_true rfl) rfl (L' := [some (.long v4), none]) rfl ?_
  refine a_lloadn (pc := 41) dJ13_bitCount_95d88_41 rfl rfl ?_
  refine a_lloadn (pc := 42) dJ13_bitCount_95d88_42 rfl rfl ?_
  refine a_bipush (pc := 43) (v := (16 : Int32)) dJ13_bitCount_95d88_43 (by decide) ?_
  refine a_lushr (pc := 45) dJ13_bitCount_95d88_45 ?_
  refine a_ladd (pc := 46) dJ13_bitCount_95d88_46 ?_
  obtain ⟨v5, ev5, h⟩ := g_let h
  refine a_nmJ ev5 ?_
  refine a_lstoren (pc := 47) dJ13_bitCount_95d88_47 rfl (Nat.le_of_ble_eq_true rfl) rfl (L' := [some (.long v5), none]) rfl ?_
  refine a_lloadn (pc := 48) dJ13_bitCount_95d88_48 rfl rfl ?_
  refine a_lloadn (pc := 49) dJ13_bitCount_95d88_49 rfl rfl ?_
  refine a_bipush (pc := 50) (v := (32 : Int32)) dJ13_bitCount_95d88_50 (by decide) ?_
  refine a_lushr (pc := 52) dJ13_bitCount_95d88_52 ?_
  refine a_ladd (pc := 53) dJ13_bitCount_95d88_53 ?_
  obtain ⟨v6, ev6, h⟩ := g_let h
  refine a_nmJ ev6 ?_
  refine a_lstoren (pc := 54) dJ13_bitCount_95d88_54 rfl (Nat.le_of_ble_eq_true rfl) rfl (L' := [some (.long v6), none]) rfl ?_
  refine a_lloadn (pc := 55) dJ13_bitCount_95d88_55 rfl rfl ?_
  refine a_l2i (pc := 56) dJ13_bitCount_95d88_56 ?_
  refine a_bipush (pc := 57) (v := (127 : Int32)) dJ13_bitCount_95d88_57 (by decide) ?_
  refine a_iand (pc := 59) dJ13_bitCount_95d88_59 ?_
  obtain ⟨rfl, rfl⟩ := Prod.mk.inj (Option.some.inj h)
  exact a_iret hp dJ13_bitCount_95d88_60
theorem dX6_county_0 : decode cX6_county 0 = .ok (.aload_n 0, 1) := by decide +kernel
theorem dX6_county_1 : decode cX6_county 1 = .ok (.getfield 12, 3) := by decide +kernel
theorem dX6_county_4 : decode cX6_county 4 = .ok (.iload_n 1, 1) := by decide +kernel
theorem dX6_county_5 : decode cX6_county 5 = .ok (.invokevirtual 72, 3) := by decide +kernel
theorem dX6_county_8 : decode cX6_county 8 = .ok (.ifCond .ne 5, 3) := by decide +kernel
theorem dX6_county_11 : decode cX6_county 11 = .ok (.iconst (-1), 1) := by decide +kernel
theorem dX6_county_12 : decode cX6_county 12 = .ok (.ireturn, 1) := by decide +kernel
theorem dX6_county_13 : decode cX6_county 13 = .ok (.lconst 0, 1) := by decide +kernel
theorem dX6_county_14 : decode cX6_county 14 = .ok (.lstore_n 2, 1) := by decide +kernel
theorem dX6_county_15 : decode cX6_county 15 = .ok (.iconst 0, 1) := by decide +kernel
theorem dX6_county_16 : decode cX6_county 16 = .ok (.istore 4, 2) := by decide +kernel
theorem dX6_county_18 : decode cX6_county 18 = .ok (.iload 4, 2) := by decide +kernel
theorem dX6_county_20 : decode cX6_county 20 = .ok (.bipush 64, 2) := by decide +kernel
theorem dX6_county_22 : decode cX6_county 22 = .ok (.if_icmp .ge 34, 3) := by decide +kernel
theorem dX6_county_25 : decode cX6_county 25 = .ok (.aload_n 0, 1) := by decide +kernel
theorem dX6_county_26 : decode cX6_county 26 = .ok (.getfield 12, 3) := by decide +kernel
theorem dX6_county_29 : decode cX6_county 29 = .ok (.getfield 111, 3) := by decide +kernel
theorem dX6_county_32 : decode cX6_county 32 = .ok (.iload_n 1, 1) := by decide +kernel
theorem dX6_county_33 : decode cX6_county 33 = .ok (.bipush 64, 2) := by decide +kernel
theorem dX6_county_35 : decode cX6_county 35 = .ok (.imul, 1) := by decide +kernel
theorem dX6_county_36 : decode cX6_county 36 = .ok (.iload 4, 2) := by decide +kernel
theorem dX6_county_38 : decode cX6_county 38 = .ok (.iadd, 1) := by decide +kernel
theorem dX6_county_39 : decode cX6_county 39 = .ok (.iaload, 1) := by decide +kernel
theorem dX6_county_40 : decode cX6_county 40 = .ok (.ifCond .ne 10, 3) := by decide +kernel
theorem dX6_county_43 : decode cX6_county 43 = .ok (.lload_n 2, 1) := by decide +kernel
theorem dX6_county_44 : decode cX6_county 44 = .ok (.lconst 1, 1) := by decide +kernel
theorem dX6_county_45 : decode cX6_county 45 = .ok (.iload 4, 2) := by decide +kernel
theorem dX6_county_47 : decode cX6_county 47 = .ok (.lshl, 1) := by decide +kernel
theorem dX6_county_48 : decode cX6_county 48 = .ok (.lor, 1) := by decide +kernel
theorem dX6_county_49 : decode cX6_county 49 = .ok (.lstore_n 2, 1) := by decide +kernel
theorem dX6_county_50 : decode cX6_county 50 = .ok (.iinc 4 1, 3) := by decide +kernel
theorem dX6_county_53 : decode cX6_county 53 = .ok (.goto (-35), 3) := by decide +kernel
theorem dX6_county_56 : decode cX6_county 56 = .ok (.lload_n 2, 1) := by decide +kernel
theorem dX6_county_57 : decode cX6_county 57 = .ok (.lload_n 2, 1) := by decide +kernel
theorem dX6_county_58 : decode cX6_county 58 = .ok (.ldc2_w 179, 3) := by decide +kernel
theorem dX6_county_61 : decode cX6_county 61 = .ok (.land, 1) := by decide +kernel
theorem dX6_county_62 : decode cX6_county 62 = .ok (.lload_n 2, 1) := by decide +kernel
theorem dX6_county_63 : decode cX6_county 63 = .ok (.invokestatic 181, 3) := by decide +kernel
theorem dX6_county_66 : decode cX6_county 66 = .ok (.ldc2_w 185, 3) := by decide +kernel
theorem dX6_county_69 : decode cX6_county 69 = .ok (.lxor, 1) := by decide +kernel
theorem dX6_county_70 : decode cX6_county 70 = .ok (.land, 1) := by decide +kernel
theorem dX6_county_71 : decode cX6_county 71 = .ok (.invokestatic 187, 3) := by decide +kernel
theorem dX6_county_74 : decode cX6_county 74 = .ok (.ireturn, 1) := by decide +kernel
def f_X6_county_s18_b (x1 : Int32) (x2 : Int64) (x4 : Int32) (S : gSt) : Option ((Int32 × Int64 × Int32 × gSt) ⊕ (Int64 × gSt)) :=
(if (64 : Int32) ≤ x4 then
some (.inr (x2, S))
else
if gin ((x1 * (64 : Int32)) + x4) 384 then
((if (S.1 7 ((x1 * (64 : Int32)) + x4).toNatClampNeg) = 0 then
gLet (x2 ||| ((1 : Int64) <<< (x4.toInt64 &&& 63))) fun v8 =>
some (.inl (x1, v8, x4 + (1 : Int32), S))
else
some (.inl (x1, x2, x4 + (1 : Int32), S)))) else none)
def f_X6_county_s18 : (Int32 × Int64 × Int32 × gSt) → Option ((Int32 × Int64 × Int32 × gSt) ⊕ (Int64 × gSt)) := fun t => f_X6_county_s18_b t.1 t.2.1 t.2.2.1 t.2.2.2
def f_X6_county (p1 : Int32) (S : gSt) : Option (Int32 × gSt) :=
gBind2 (f_X0_has p1 S) fun r3 S1 =>
(if r3 = 0 then
some ((-1 : Int32), S1)
else
(gLoop (f_X6_county_s18) gFuel (p1, (0 : Int64), (0 : Int32), S1)).bind fun q9 => match q9 with
| (y2_9, S9) =>
gBind2 (f_X6_spreadOver (y2_9 &&& (-35604928818740737 : Int64)) y2_9 S9) fun r12 S10 =>
gBind2 (f_J13_bitCount_95d88 (y2_9 &&& (r12 ^^^ (-1 : Int64))) S10) fun r15 S13 =>
some (r15, S13))
set_option maxHeartbeats 4000000 in
set_option maxRecDepth 20000 in
theorem ok_X6_county {p1 : Int32} {S S0 : gSt} {r0 : Int32}  (h : f_X6_county p1 S = some (r0, S0)) : gCT yX6_county cX6_county 5 (some .int) 2 (fun w => [.ref (w.2.1 0), .int p1]) S (some (.int r0)) S0 := by
  refine gEnter (fun X => [some (.ref (gad X 0)), some (.int p1), none, none, none]) (by decide) (fun X => ⟨rfl, rfl⟩) (fun w => Nat.le_of_ble_eq_true rfl) (fun X hp => ?_)
  show AW X RX6 2 cX6_county 0 [some (.ref (gad X 0)), some (.int p1), none, none, none] [] S
  unfold f_X6_county at h
  refine a_aloadn (pc := 0) dX6_county_0 rfl rfl ?_
  refine a_getA (pc := 1) flX6_12 sh_0 rfl dX6_county_1 ?_
  refine a_iloadn (pc := 4) dX6_county_4 rfl rfl ?_
  obtain ⟨r3, S1, hc2, h⟩ := g_bind2 h
  refine a_invVi (pc := 5) (ok_X0_has hc2) gyX0_has vyX0_has mlX6_72 sh_1 rfl (As := [.int p1]) rfl rfl (by decide) (st := []) rfl (Nat.le_of_ble_eq_true rfl) dX6_county_5 ?_
  refine a_if_ne (pc := 8) (tgt := 13) dX6_county_8 (by decide) (fun c4 => ?_) (fun c4 => ?_)
  · rw [if_neg c4] at h
    refine a_lconst (pc := 13) (v := (0 : Int64)) dX6_county_13 (by decide) ?_
    refine a_lstoren (pc := 14) dX6_county_14 rfl (Nat.le_of_ble_eq_true rfl) rfl (L' := [some (.ref (gad X 0)), some (.int p1), some (.long (0 : Int64)), none, none]) rfl ?_
    refine a_iconst (pc := 15) (v := (0 : Int32)) dX6_county_15 (by decide) ?_
    refine a_istore (pc := 16) dX6_county_16 (Nat.le_of_ble_eq_true rfl) rfl (L' := [some (.ref (gad X 0)), some (.int p1), some (.long (0 : Int64)), none, some (.int (0 : Int32))]) rfl ?_
    obtain ⟨R9, hR9, h⟩ := g_bind h
    have E18 : ∀ (y2_9 : Int64) (S9 : gSt), (gBind2 (f_X6_spreadOver (y2_9 &&& (-35604928818740737 : Int64)) y2_9 S9) fun r12 S10 => gBind2 (f_J13_bitCount_95d88 (y2_9 &&& (r12 ^^^ (-1 : Int64))) S10) fun r15 S13 => some (r15, S13)) = some (r0, S0) → AW X RX6 2 cX6_county 56 [none, none, some (.long y2_9), none, none] [] S9 := by
      intro y2_9 S9 h
      refine a_lloadn (pc := 56) dX6_county_56 rfl rfl ?_
      refine a_lloadn (pc := 57) dX6_county_57 rfl rfl ?_
      refine a_ldc2 (pc := 58) kX6_179 dX6_county_58 ?_
      refine a_land (pc := 61) dX6_county_61 ?_
      refine a_lloadn (pc := 62) dX6_county_62 rfl rfl ?_
      obtain ⟨r12, S10, hc11, h⟩ := g_bind2 h
      refine a_invSl (pc := 63) (ok_X6_spreadOver hc11) gyX6_spreadOver syX6_spreadOver mlX6_181 (As := [.long (y2_9 &&& (-35604928818740737 : Int64)), .long y2_9]) rfl rfl (by decide) (st := [.long y2_9]) rfl (Nat.le_of_ble_eq_true rfl) dX6_county_63 ?_
      refine a_ldc2 (pc := 66) kX6_185 dX6_county_66 ?_
      refine a_lxor (pc := 69) dX6_county_69 ?_
      refine a_land (pc := 70) dX6_county_70 ?_
      obtain ⟨r15, S13, hc14, h⟩ := g_bind2 h
      refine a_invSi (pc := 71) (ok_J13_bitCount_95d88 hc14) gyJ13_bitCount_95d88 syJ13_bitCount_95d88 mlX6_187 (As := [.long (y2_9 &&& (r12 ^^^ (-1 : Int64)))]) rfl rfl (by decide) (st := []) rfl (Nat.le_of_ble_eq_true rfl) dX6_county_71 ?_
      obtain ⟨rfl, rfl⟩ := Prod.mk.inj (Option.some.inj h)
      exact a_iret hp dX6_county_74
    have lp : ∀ (n : Nat) (x1 : Int32) (x2 : Int64) (x4 : Int32) (S : gSt), gLoop (f_X6_county_s18) n (x1, x2, x4, S) = some R9 → AW X RX6 2 cX6_county 18 [some (.ref (gad X 0)), some (.int x1), some (.long x2), none, some (.int x4)] [] S := by
      intro n
      induction n with
      | zero => intro x1 x2 x4 S hR; cases hR
      | succ n ih =>
        intro x1 x2 x4 S hR
        obtain ⟨q, hs, hR⟩ := g_bind hR
        have hs : f_X6_county_s18_b x1 x2 x4 S = some q := hs
        unfold f_X6_county_s18_b at hs
        refine a_iload (pc := 18) dX6_county_18 rfl ?_
        refine a_bipush (pc := 20) (v := (64 : Int32)) dX6_county_20 (by decide) ?_
        refine a_icmp_ge (pc := 22) (tgt := 56) dX6_county_22 (by decide) (fun c5 => ?_) (fun c5 => ?_)
        · rw [if_pos c5] at hs
          obtain rfl := Option.some.inj hs
          obtain rfl := Option.some.inj hR
          refine a_mask [false, false, true, true, false] (L' := [none, none, some (.long x2), none, none]) rfl ?_
          exact E18 _ _ h
        · rw [if_neg c5] at hs
          refine a_aloadn (pc := 25) dX6_county_25 rfl rfl ?_
          refine a_getA (pc := 26) flX6_12 sh_0 rfl dX6_county_26 ?_
          refine a_getA (pc := 29) flX6_111 sh_1 rfl dX6_county_29 ?_
          refine a_iloadn (pc := 32) dX6_county_32 rfl rfl ?_
          refine a_bipush (pc := 33) (v := (64 : Int32)) dX6_county_33 (by decide) ?_
          refine a_imul (pc := 35) dX6_county_35 ?_
          refine a_iload (pc := 36) dX6_county_36 rfl ?_
          refine a_iadd (pc := 38) dX6_county_38 ?_
          obtain ⟨hi6, hs⟩ := g_if hs
          refine a_iald (pc := 39) sh_7 hi6 dX6_county_39 ?_
          refine a_if_ne (pc := 40) (tgt := 50) dX6_county_40 (by decide) (fun c7 => ?_) (fun c7 => ?_)
          · rw [if_neg c7] at hs
            refine a_iinc (pc := 50) dX6_county_50 rfl (v := x4 + (1 : Int32)) rfl (Nat.le_of_ble_eq_true rfl) rfl (L' := [some (.ref (gad X 0)), some (.int x1), some (.long x2), none, some (.int (x4 + (1 : Int32)))]) rfl ?_
            refine a_goto (pc := 53) (tgt := 18) dX6_county_53 (by decide) ?_
            obtain rfl := Option.some.inj hs
            exact ih _ _ _ _ hR
          · rw [if_pos c7] at hs
            refine a_lloadn (pc := 43) dX6_county_43 rfl rfl ?_
            refine a_lconst (pc := 44) (v := (1 : Int64)) dX6_county_44 (by decide) ?_
            refine a_iload (pc := 45) dX6_county_45 rfl ?_
            refine a_lshl (pc := 47) dX6_county_47 ?_
            refine a_lor (pc := 48) dX6_county_48 ?_
            obtain ⟨v8, ev8, hs⟩ := g_let hs
            refine a_nmJ ev8 ?_
            refine a_lstoren (pc := 49) dX6_county_49 rfl (Nat.le_of_ble_eq_true rfl) rfl (L' := [some (.ref (gad X 0)), some (.int x1), some (.long v8), none, some (.int x4)]) rfl ?_
            refine a_iinc (pc := 50) dX6_county_50 rfl (v := x4 + (1 : Int32)) rfl (Nat.le_of_ble_eq_true rfl) rfl (L' := [some (.ref (gad X 0)), some (.int x1), some (.long v8), none, some (.int (x4 + (1 : Int32)))]) rfl ?_
            refine a_goto (pc := 53) (tgt := 18) dX6_county_53 (by decide) ?_
            obtain rfl := Option.some.inj hs
            exact ih _ _ _ _ hR
    exact lp _ _ _ _ _ hR9
  · rw [if_pos c4] at h
    refine a_iconst (pc := 11) (v := (-1 : Int32)) dX6_county_11 (by decide) ?_
    obtain ⟨rfl, rfl⟩ := Prod.mk.inj (Option.some.inj h)
    exact a_iret hp dX6_county_12
theorem dX6_fewestTrodden_0 : decode cX6_fewestTrodden 0 = .ok (.lload_n 0, 1) := by decide +kernel
theorem dX6_fewestTrodden_1 : decode cX6_fewestTrodden 1 = .ok (.lstore 6, 2) := by decide +kernel
theorem dX6_fewestTrodden_3 : decode cX6_fewestTrodden 3 = .ok (.iconst 0, 1) := by decide +kernel
theorem dX6_fewestTrodden_4 : decode cX6_fewestTrodden 4 = .ok (.istore 8, 2) := by decide +kernel
theorem dX6_fewestTrodden_6 : decode cX6_fewestTrodden 6 = .ok (.iload 8, 2) := by decide +kernel
theorem dX6_fewestTrodden_8 : decode cX6_fewestTrodden 8 = .ok (.bipush 64, 2) := by decide +kernel
theorem dX6_fewestTrodden_10 : decode cX6_fewestTrodden 10 = .ok (.if_icmp .ge 40, 3) := by decide +kernel
theorem dX6_fewestTrodden_13 : decode cX6_fewestTrodden 13 = .ok (.lload 6, 2) := by decide +kernel
theorem dX6_fewestTrodden_15 : decode cX6_fewestTrodden 15 = .ok (.lload 4, 2) := by decide +kernel
theorem dX6_fewestTrodden_17 : decode cX6_fewestTrodden 17 = .ok (.invokestatic 181, 3) := by decide +kernel
theorem dX6_fewestTrodden_20 : decode cX6_fewestTrodden 20 = .ok (.lstore 6, 2) := by decide +kernel
theorem dX6_fewestTrodden_22 : decode cX6_fewestTrodden 22 = .ok (.lload 6, 2) := by decide +kernel
theorem dX6_fewestTrodden_24 : decode cX6_fewestTrodden 24 = .ok (.lload_n 2, 1) := by decide +kernel
theorem dX6_fewestTrodden_25 : decode cX6_fewestTrodden 25 = .ok (.land, 1) := by decide +kernel
theorem dX6_fewestTrodden_26 : decode cX6_fewestTrodden 26 = .ok (.lconst 0, 1) := by decide +kernel
theorem dX6_fewestTrodden_27 : decode cX6_fewestTrodden 27 = .ok (.lcmp, 1) := by decide +kernel
theorem dX6_fewestTrodden_28 : decode cX6_fewestTrodden 28 = .ok (.ifCond .eq 6, 3) := by decide +kernel
theorem dX6_fewestTrodden_31 : decode cX6_fewestTrodden 31 = .ok (.iload 8, 2) := by decide +kernel
theorem dX6_fewestTrodden_33 : decode cX6_fewestTrodden 33 = .ok (.ireturn, 1) := by decide +kernel
theorem dX6_fewestTrodden_34 : decode cX6_fewestTrodden 34 = .ok (.lload 6, 2) := by decide +kernel
theorem dX6_fewestTrodden_36 : decode cX6_fewestTrodden 36 = .ok (.lload 6, 2) := by decide +kernel
theorem dX6_fewestTrodden_38 : decode cX6_fewestTrodden 38 = .ok (.invokestatic 283, 3) := by decide +kernel
theorem dX6_fewestTrodden_41 : decode cX6_fewestTrodden 41 = .ok (.lor, 1) := by decide +kernel
theorem dX6_fewestTrodden_42 : decode cX6_fewestTrodden 42 = .ok (.lstore 6, 2) := by decide +kernel
theorem dX6_fewestTrodden_44 : decode cX6_fewestTrodden 44 = .ok (.iinc 8 1, 3) := by decide +kernel
theorem dX6_fewestTrodden_47 : decode cX6_fewestTrodden 47 = .ok (.goto (-41), 3) := by decide +kernel
theorem dX6_fewestTrodden_50 : decode cX6_fewestTrodden 50 = .ok (.bipush 64, 2) := by decide +kernel
theorem dX6_fewestTrodden_52 : decode cX6_fewestTrodden 52 = .ok (.ireturn, 1) := by decide +kernel
def f_X6_fewestTrodden_s6_b (x2 : Int64) (x4 : Int64) (x6 : Int64) (x8 : Int32) (S : gSt) : Option ((Int64 × Int64 × Int64 × Int32 × gSt) ⊕ ((Int32 × gSt) ⊕ (gSt))) :=
(if (64 : Int32) ≤ x8 then
some (.inr (.inr (S)))
else
gBind2 (f_X6_spreadOver x6 x4 S) fun r4 S2 =>
(if (lg_cmp (r4 &&& x2) (0 : Int64)) = 0 then
gBind2 (f_X6_besideSet r4 S2) fun r8 S6 =>
gLet (r4 ||| r8) fun v9 =>
some (.inl (x2, x4, v9, x8 + (1 : Int32), S6))
else
some (.inr (.inl (x8, S2)))))
def f_X6_fewestTrodden_s6 : (Int64 × Int64 × Int64 × Int32 × gSt) → Option ((Int64 × Int64 × Int64 × Int32 × gSt) ⊕ ((Int32 × gSt) ⊕ (gSt))) := fun t => f_X6_fewestTrodden_s6_b t.1 t.2.1 t.2.2.1 t.2.2.2.1 t.2.2.2.2
def f_X6_fewestTrodden (p0 : Int64) (p2 : Int64) (p4 : Int64) (S : gSt) : Option (Int32 × gSt) :=
(gLoop (f_X6_fewestTrodden_s6) gFuel (p2, p4, p0, (0 : Int32), S)).bind fun q10 => match q10 with
| .inl (v10, T10) => some (v10, T10)
| .inr S10 =>
some ((64 : Int32), S10)
set_option maxHeartbeats 4000000 in
set_option maxRecDepth 20000 in
theorem ok_X6_fewestTrodden {p0 : Int64} {p2 : Int64} {p4 : Int64} {S S0 : gSt} {r0 : Int32}  (h : f_X6_fewestTrodden p0 p2 p4 S = some (r0, S0)) : gCT yX6_fewestTrodden cX6_fewestTrodden 9 (some .int) 2 (fun w => [.long p0, .long p2, .long p4]) S (some (.int r0)) S0 := by
  refine gEnter (fun X => [some (.long p0), none, some (.long p2), none, some (.long p4), none, none, none, none]) (by decide) (fun X => ⟨rfl, rfl⟩) (fun w => Nat.le_of_ble_eq_true rfl) (fun X hp => ?_)
  show AW X RX6 2 cX6_fewestTrodden 0 [some (.long p0), none, some (.long p2), none, some (.long p4), none, none, none, none] [] S
  unfold f_X6_fewestTrodden at h
  refine a_lloadn (pc := 0) dX6_fewestTrodden_0 rfl rfl ?_
  refine a_lstore (pc := 1) dX6_fewestTrodden_1 (Nat.le_of_ble_eq_true rfl) rfl (L' := [some (.long p0), none, some (.long p2), none, some (.long p4), none, some (.long p0), none, none]) rfl ?_
  refine a_iconst (pc := 3) (v := (0 : Int32)) dX6_fewestTrodden_3 (by decide) ?_
  refine a_istore (pc := 4) dX6_fewestTrodden_4 (Nat.le_of_ble_eq_true rfl) rfl (L' := [some (.long p0), none, some (.long p2), none, some (.long p4), none, some (.long p0), none, some (.int (0 : Int32))]) rfl ?_
  obtain ⟨R10, hR10, h⟩ := g_bind h
  refine a_mask [false, true, true, true, true, true, true, true, true] (L' := [none, none, some (.long p2), none, some (.long p4), none, some (.long p0), none, some (.int (0 : Int32))]) rfl ?_
  have E6 : ∀  (S10 : gSt), (some ((64 : Int32), S10)) = some (r0, S0) → AW X RX6 2 cX6_fewestTrodden 50 [none, none, none, none, none, none, none, none, none] [] S10 := by
    intro S10 h
    refine a_bipush (pc := 50) (v := (64 : Int32)) dX6_fewestTrodden_50 (by decide) ?_
    obtain ⟨rfl, rfl⟩ := Prod.mk.inj (Option.some.inj h)
    exact a_iret hp dX6_fewestTrodden_52
  have lp : ∀ (n : Nat) (x2 : Int64) (x4 : Int64) (x6 : Int64) (x8 : Int32) (S : gSt), gLoop (f_X6_fewestTrodden_s6) n (x2, x4, x6, x8, S) = some R10 → AW X RX6 2 cX6_fewestTrodden 6 [none, none, some (.long x2), none, some (.long x4), none, some (.long x6), none, some (.int x8)] [] S := by
    intro n
    induction n with
    | zero => intro x2 x4 x6 x8 S hR; cases hR
    | succ n ih =>
      intro x2 x4 x6 x8 S hR
      obtain ⟨q, hs, hR⟩ := g_bind hR
      have hs : f_X6_fewestTrodden_s6_b x2 x4 x6 x8 S = some q := hs
      unfold f_X6_fewestTrodden_s6_b at hs
      refine a_iload (pc := 6) dX6_fewestTrodden_6 rfl ?_
      refine a_bipush (pc := 8) (v := (64 : Int32)) dX6_fewestTrodden_8 (by decide) ?_
      refine a_icmp_ge (pc := 10) (tgt := 50) dX6_fewestTrodden_10 (by decide) (fun c1 => ?_) (fun c1 => ?_)
      · rw [if_pos c1] at hs
        obtain rfl := Option.some.inj hs
        obtain rfl := Option.some.inj hR
        refine a_mask [true, true, false, true, false, true, false, true, false] (L' := [none, none, none, none, none, none, none, none, none]) rfl ?_
        exact E6  _ h
      · rw [if_neg c1] at hs
        refine a_lload (pc := 13) dX6_fewestTrodden_13 rfl ?_
        refine a_lload (pc := 15) dX6_fewestTrodden_15 rfl ?_
        obtain ⟨r4, S2, hc3, hs⟩ := g_bind2 hs
        refine a_invSl (pc := 17) (ok_X6_spreadOver hc3) gyX6_spreadOver syX6_spreadOver mlX6_181 (As := [.long x6, .long x4]) rfl rfl (by decide) (st := []) rfl (Nat.le_of_ble_eq_true rfl) dX6_fewestTrodden_17 ?_
        refine a_lstore (pc := 20) dX6_fewestTrodden_20 (Nat.le_of_ble_eq_true rfl) rfl (L' := [none, none, some (.long x2), none, some (.long x4), none, some (.long r4), none, some (.int x8)]) rfl ?_
        refine a_lload (pc := 22) dX6_fewestTrodden_22 rfl ?_
        refine a_lloadn (pc := 24) dX6_fewestTrodden_24 rfl rfl ?_
        refine a_land (pc := 25) dX6_fewestTrodden_25 ?_
        refine a_lconst (pc := 26) (v := (0 : Int64)) dX6_fewestTrodden_26 (by decide) ?_
        refine a_lcmp (pc := 27) dX6_fewestTrodden_27 ?_
        refine a_if_eq (pc := 28) (tgt := 34) dX6_fewestTrodden_28 (by decide) (fun c5 => ?_) (fun c5 => ?_)
        · rw [if_pos c5] at hs
          refine a_lload (pc := 34) dX6_fewestTrodden_34 rfl ?_
          refine a_lload (pc := 36) dX6_fewestTrodden_36 rfl ?_
          obtain ⟨r8, S6, hc7, hs⟩ := g_bind2 hs
          refine a_invSl (pc := 38) (ok_X6_besideSet hc7) gyX6_besideSet syX6_besideSet mlX6_283 (As := [.long r4]) rfl rfl (by decide) (st := [.long r4]) rfl (Nat.le_of_ble_eq_true rfl) dX6_fewestTrodden_38 ?_
          refine a_lor (pc := 41) dX6_fewestTrodden_41 ?_
          obtain ⟨v9, ev9, hs⟩ := g_let hs
          refine a_nmJ ev9 ?_
          refine a_lstore (pc := 42) dX6_fewestTrodden_42 (Nat.le_of_ble_eq_true rfl) rfl (L' := [none, none, some (.long x2), none, some (.long x4), none, some (.long v9), none, some (.int x8)]) rfl ?_
          refine a_iinc (pc := 44) dX6_fewestTrodden_44 rfl (v := x8 + (1 : Int32)) rfl (Nat.le_of_ble_eq_true rfl) rfl (L' := [none, none, some (.long x2), none, some (.long x4), none, some (.long v9), none, some (.int (x8 + (1 : Int32)))]) rfl ?_
          refine a_goto (pc := 47) (tgt := 6) dX6_fewestTrodden_47 (by decide) ?_
          obtain rfl := Option.some.inj hs
          exact ih _ _ _ _ _ hR
        · rw [if_neg c5] at hs
          refine a_iload (pc := 31) dX6_fewestTrodden_31 rfl ?_
          obtain rfl := Option.some.inj hs
          obtain rfl := Option.some.inj hR
          obtain ⟨rfl, rfl⟩ := Prod.mk.inj (Option.some.inj h)
          exact a_iret hp dX6_fewestTrodden_33
  exact lp _ _ _ _ _ _ hR10
theorem dX6_way_0 : decode cX6_way 0 = .ok (.aload_n 0, 1) := by decide +kernel
theorem dX6_way_1 : decode cX6_way 1 = .ok (.getfield 12, 3) := by decide +kernel
theorem dX6_way_4 : decode cX6_way 4 = .ok (.iload_n 1, 1) := by decide +kernel
theorem dX6_way_5 : decode cX6_way 5 = .ok (.invokevirtual 72, 3) := by decide +kernel
theorem dX6_way_8 : decode cX6_way 8 = .ok (.ifCond .eq 17, 3) := by decide +kernel
theorem dX6_way_11 : decode cX6_way 11 = .ok (.iload_n 2, 1) := by decide +kernel
theorem dX6_way_12 : decode cX6_way 12 = .ok (.invokestatic 51, 3) := by decide +kernel
theorem dX6_way_15 : decode cX6_way 15 = .ok (.ifCond .eq 10, 3) := by decide +kernel
theorem dX6_way_18 : decode cX6_way 18 = .ok (.iload_n 3, 1) := by decide +kernel
theorem dX6_way_19 : decode cX6_way 19 = .ok (.invokestatic 51, 3) := by decide +kernel
theorem dX6_way_22 : decode cX6_way 22 = .ok (.ifCond .ne 5, 3) := by decide +kernel
theorem dX6_way_25 : decode cX6_way 25 = .ok (.iconst (-1), 1) := by decide +kernel
theorem dX6_way_26 : decode cX6_way 26 = .ok (.ireturn, 1) := by decide +kernel
theorem dX6_way_27 : decode cX6_way 27 = .ok (.aload_n 0, 1) := by decide +kernel
theorem dX6_way_28 : decode cX6_way 28 = .ok (.getfield 39, 3) := by decide +kernel
theorem dX6_way_31 : decode cX6_way 31 = .ok (.aload_n 0, 1) := by decide +kernel
theorem dX6_way_32 : decode cX6_way 32 = .ok (.getfield 12, 3) := by decide +kernel
theorem dX6_way_35 : decode cX6_way 35 = .ok (.iconst 0, 1) := by decide +kernel
theorem dX6_way_36 : decode cX6_way 36 = .ok (.invokevirtual 95, 3) := by decide +kernel
theorem dX6_way_39 : decode cX6_way 39 = .ok (.lconst 0, 1) := by decide +kernel
theorem dX6_way_40 : decode cX6_way 40 = .ok (.lstore 4, 2) := by decide +kernel
theorem dX6_way_42 : decode cX6_way 42 = .ok (.iconst 0, 1) := by decide +kernel
theorem dX6_way_43 : decode cX6_way 43 = .ok (.istore 6, 2) := by decide +kernel
theorem dX6_way_45 : decode cX6_way 45 = .ok (.iload 6, 2) := by decide +kernel
theorem dX6_way_47 : decode cX6_way 47 = .ok (.bipush 64, 2) := by decide +kernel
theorem dX6_way_49 : decode cX6_way 49 = .ok (.if_icmp .ge 40, 3) := by decide +kernel
theorem dX6_way_52 : decode cX6_way 52 = .ok (.aload_n 0, 1) := by decide +kernel
theorem dX6_way_53 : decode cX6_way 53 = .ok (.getfield 39, 3) := by decide +kernel
theorem dX6_way_56 : decode cX6_way 56 = .ok (.iload 6, 2) := by decide +kernel
theorem dX6_way_58 : decode cX6_way 58 = .ok (.invokevirtual 176, 3) := by decide +kernel
theorem dX6_way_61 : decode cX6_way 61 = .ok (.istore 7, 2) := by decide +kernel
theorem dX6_way_63 : decode cX6_way 63 = .ok (.iload 7, 2) := by decide +kernel
theorem dX6_way_65 : decode cX6_way 65 = .ok (.ifCond .lt 9, 3) := by decide +kernel
theorem dX6_way_68 : decode cX6_way 68 = .ok (.iload 7, 2) := by decide +kernel
theorem dX6_way_70 : decode cX6_way 70 = .ok (.iload_n 1, 1) := by decide +kernel
theorem dX6_way_71 : decode cX6_way 71 = .ok (.if_icmp .ne 12, 3) := by decide +kernel
theorem dX6_way_74 : decode cX6_way 74 = .ok (.lload 4, 2) := by decide +kernel
theorem dX6_way_76 : decode cX6_way 76 = .ok (.lconst 1, 1) := by decide +kernel
theorem dX6_way_77 : decode cX6_way 77 = .ok (.iload 6, 2) := by decide +kernel
theorem dX6_way_79 : decode cX6_way 79 = .ok (.lshl, 1) := by decide +kernel
theorem dX6_way_80 : decode cX6_way 80 = .ok (.lor, 1) := by decide +kernel
theorem dX6_way_81 : decode cX6_way 81 = .ok (.lstore 4, 2) := by decide +kernel
theorem dX6_way_83 : decode cX6_way 83 = .ok (.iinc 6 1, 3) := by decide +kernel
theorem dX6_way_86 : decode cX6_way 86 = .ok (.goto (-41), 3) := by decide +kernel
theorem dX6_way_89 : decode cX6_way 89 = .ok (.lconst 1, 1) := by decide +kernel
theorem dX6_way_90 : decode cX6_way 90 = .ok (.iload_n 2, 1) := by decide +kernel
theorem dX6_way_91 : decode cX6_way 91 = .ok (.lshl, 1) := by decide +kernel
theorem dX6_way_92 : decode cX6_way 92 = .ok (.lconst 1, 1) := by decide +kernel
theorem dX6_way_93 : decode cX6_way 93 = .ok (.iload_n 3, 1) := by decide +kernel
theorem dX6_way_94 : decode cX6_way 94 = .ok (.lshl, 1) := by decide +kernel
theorem dX6_way_95 : decode cX6_way 95 = .ok (.lload 4, 2) := by decide +kernel
theorem dX6_way_97 : decode cX6_way 97 = .ok (.invokestatic 193, 3) := by decide +kernel
theorem dX6_way_100 : decode cX6_way 100 = .ok (.ireturn, 1) := by decide +kernel
def f_X6_way_j74 (x1 : Int32) (x2 : Int32) (x3 : Int32) (x4 : Int64) (x6 : Int32) (S : gSt) : Option ((Int32 × Int32 × Int32 × Int64 × Int32 × gSt) ⊕ (Int32 × Int32 × Int64 × gSt)) :=
gLet (x4 ||| ((1 : Int64) <<< (x6.toInt64 &&& 63))) fun v15 =>
some (.inl (x1, x2, x3, v15, x6 + (1 : Int32), S))
def f_X6_way_s45_b (x1 : Int32) (x2 : Int32) (x3 : Int32) (x4 : Int64) (x6 : Int32) (S : gSt) : Option ((Int32 × Int32 × Int32 × Int64 × Int32 × gSt) ⊕ (Int32 × Int32 × Int64 × gSt)) :=
(if (64 : Int32) ≤ x6 then
some (.inr (x2, x3, x4, S))
else
gBind2 (f_X3_holderOf x6 S) fun r19 S17 =>
(if r19 < 0 then
f_X6_way_j74 x1 x2 x3 x4 x6 S17
else
(if r19 = x1 then
f_X6_way_j74 x1 x2 x3 x4 x6 S17
else
some (.inl (x1, x2, x3, x4, x6 + (1 : Int32), S17)))))
def f_X6_way_s45 : (Int32 × Int32 × Int32 × Int64 × Int32 × gSt) → Option ((Int32 × Int32 × Int32 × Int64 × Int32 × gSt) ⊕ (Int32 × Int32 × Int64 × gSt)) := fun t => f_X6_way_s45_b t.1 t.2.1 t.2.2.1 t.2.2.2.1 t.2.2.2.2.1 t.2.2.2.2.2
def f_X6_way (p1 : Int32) (p2 : Int32) (p3 : Int32) (S : gSt) : Option (Int32 × gSt) :=
gBind2 (f_X0_has p1 S) fun r3 S1 =>
(if r3 = 0 then
some ((-1 : Int32), S1)
else
gBind2 (f_X6_isCell p2 S1) fun r7 S5 =>
(if r7 = 0 then
some ((-1 : Int32), S5)
else
gBind2 (f_X6_isCell p3 S5) fun r11 S9 =>
(if r11 = 0 then
some ((-1 : Int32), S9)
else
(f_X3_look (0 : Int32) S9).bind fun S13 =>
(gLoop (f_X6_way_s45) gFuel (p1, p2, p3, (0 : Int64), (0 : Int32), S13)).bind fun q22 => match q22 with
| (y2_22, y3_22, y4_22, S22) =>
gBind2 (f_X6_fewestTrodden ((1 : Int64) <<< (y2_22.toInt64 &&& 63)) ((1 : Int64) <<< (y3_22.toInt64 &&& 63)) y4_22 S22) fun r25 S23 =>
some (r25, S23))))
set_option maxHeartbeats 4000000 in
set_option maxRecDepth 20000 in
theorem ok_X6_way {p1 : Int32} {p2 : Int32} {p3 : Int32} {S S0 : gSt} {r0 : Int32}  (h : f_X6_way p1 p2 p3 S = some (r0, S0)) : gCT yX6_way cX6_way 8 (some .int) 4 (fun w => [.ref (w.2.1 0), .int p1, .int p2, .int p3]) S (some (.int r0)) S0 := by
  refine gEnter (fun X => [some (.ref (gad X 0)), some (.int p1), some (.int p2), some (.int p3), none, none, none, none]) (by decide) (fun X => ⟨rfl, rfl⟩) (fun w => Nat.le_of_ble_eq_true rfl) (fun X hp => ?_)
  show AW X RX6 4 cX6_way 0 [some (.ref (gad X 0)), some (.int p1), some (.int p2), some (.int p3), none, none, none, none] [] S
  unfold f_X6_way at h
  refine a_aloadn (pc := 0) dX6_way_0 rfl rfl ?_
  refine a_getA (pc := 1) flX6_12 sh_0 rfl dX6_way_1 ?_
  refine a_iloadn (pc := 4) dX6_way_4 rfl rfl ?_
  obtain ⟨r3, S1, hc2, h⟩ := g_bind2 h
  refine a_invVi (pc := 5) (ok_X0_has hc2) gyX0_has vyX0_has mlX6_72 sh_1 rfl (As := [.int p1]) rfl rfl (by decide) (st := []) rfl (Nat.le_of_ble_eq_true rfl) dX6_way_5 ?_
  refine a_if_eq (pc := 8) (tgt := 25) dX6_way_8 (by decide) (fun c4 => ?_) (fun c4 => ?_)
  · rw [if_pos c4] at h
    refine a_iconst (pc := 25) (v := (-1 : Int32)) dX6_way_25 (by decide) ?_
    obtain ⟨rfl, rfl⟩ := Prod.mk.inj (Option.some.inj h)
    exact a_iret hp dX6_way_26
  · rw [if_neg c4] at h
    refine a_iloadn (pc := 11) dX6_way_11 rfl rfl ?_
    obtain ⟨r7, S5, hc6, h⟩ := g_bind2 h
    refine a_invSi (pc := 12) (ok_X6_isCell hc6) gyX6_isCell syX6_isCell mlX6_51 (As := [.int p2]) rfl rfl (by decide) (st := []) rfl (Nat.le_of_ble_eq_true rfl) dX6_way_12 ?_
    refine a_if_eq (pc := 15) (tgt := 25) dX6_way_15 (by decide) (fun c8 => ?_) (fun c8 => ?_)
    · rw [if_pos c8] at h
      refine a_iconst (pc := 25) (v := (-1 : Int32)) dX6_way_25 (by decide) ?_
      obtain ⟨rfl, rfl⟩ := Prod.mk.inj (Option.some.inj h)
      exact a_iret hp dX6_way_26
    · rw [if_neg c8] at h
      refine a_iloadn (pc := 18) dX6_way_18 rfl rfl ?_
      obtain ⟨r11, S9, hc10, h⟩ := g_bind2 h
      refine a_invSi (pc := 19) (ok_X6_isCell hc10) gyX6_isCell syX6_isCell mlX6_51 (As := [.int p3]) rfl rfl (by decide) (st := []) rfl (Nat.le_of_ble_eq_true rfl) dX6_way_19 ?_
      refine a_if_ne (pc := 22) (tgt := 27) dX6_way_22 (by decide) (fun c12 => ?_) (fun c12 => ?_)
      · rw [if_neg c12] at h
        refine a_aloadn (pc := 27) dX6_way_27 rfl rfl ?_
        refine a_getA (pc := 28) flX6_39 sh_0 rfl dX6_way_28 ?_
        refine a_aloadn (pc := 31) dX6_way_31 rfl rfl ?_
        refine a_getA (pc := 32) flX6_12 sh_0 rfl dX6_way_32 ?_
        refine a_iconst (pc := 35) (v := (0 : Int32)) dX6_way_35 (by decide) ?_
        obtain ⟨S13, hc14, h⟩ := g_bind h
        refine a_invVv (pc := 36) (ok_X3_look hc14) gyX3_look vyX3_look mlX6_95 sh_41 rfl (As := [.ref (gad X 1), .int (0 : Int32)]) rfl rfl (by decide) (st := []) rfl (Nat.le_of_ble_eq_true rfl) dX6_way_36 ?_
        refine a_lconst (pc := 39) (v := (0 : Int64)) dX6_way_39 (by decide) ?_
        refine a_lstore (pc := 40) dX6_way_40 (Nat.le_of_ble_eq_true rfl) rfl (L' := [some (.ref (gad X 0)), some (.int p1), some (.int p2), some (.int p3), some (.long (0 : Int64)), none, none, none]) rfl ?_
        refine a_iconst (pc := 42) (v := (0 : Int32)) dX6_way_42 (by decide) ?_
        refine a_istore (pc := 43) dX6_way_43 (Nat.le_of_ble_eq_true rfl) rfl (L' := [some (.ref (gad X 0)), some (.int p1), some (.int p2), some (.int p3), some (.long (0 : Int64)), none, some (.int (0 : Int32)), none]) rfl ?_
        obtain ⟨R22, hR22, h⟩ := g_bind h
        have E45 : ∀ (y2_22 : Int32) (y3_22 : Int32) (y4_22 : Int64) (S22 : gSt), (gBind2 (f_X6_fewestTrodden ((1 : Int64) <<< (y2_22.toInt64 &&& 63)) ((1 : Int64) <<< (y3_22.toInt64 &&& 63)) y4_22 S22) fun r25 S23 => some (r25, S23)) = some (r0, S0) → AW X RX6 4 cX6_way 89 [none, none, some (.int y2_22), some (.int y3_22), some (.long y4_22), none, none, none] [] S22 := by
          intro y2_22 y3_22 y4_22 S22 h
          refine a_lconst (pc := 89) (v := (1 : Int64)) dX6_way_89 (by decide) ?_
          refine a_iloadn (pc := 90) dX6_way_90 rfl rfl ?_
          refine a_lshl (pc := 91) dX6_way_91 ?_
          refine a_lconst (pc := 92) (v := (1 : Int64)) dX6_way_92 (by decide) ?_
          refine a_iloadn (pc := 93) dX6_way_93 rfl rfl ?_
          refine a_lshl (pc := 94) dX6_way_94 ?_
          refine a_lload (pc := 95) dX6_way_95 rfl ?_
          obtain ⟨r25, S23, hc24, h⟩ := g_bind2 h
          refine a_invSi (pc := 97) (ok_X6_fewestTrodden hc24) gyX6_fewestTrodden syX6_fewestTrodden mlX6_193 (As := [.long ((1 : Int64) <<< (y2_22.toInt64 &&& 63)), .long ((1 : Int64) <<< (y3_22.toInt64 &&& 63)), .long y4_22]) rfl rfl (by decide) (st := []) rfl (Nat.le_of_ble_eq_true rfl) dX6_way_97 ?_
          obtain ⟨rfl, rfl⟩ := Prod.mk.inj (Option.some.inj h)
          exact a_iret hp dX6_way_100
        have lp : ∀ (n : Nat) (x1 : Int32) (x2 : Int32) (x3 : Int32) (x4 : Int64) (x6 : Int32) (S : gSt), gLoop (f_X6_way_s45) n (x1, x2, x3, x4, x6, S) = some R22 → AW X RX6 4 cX6_way 45 [some (.ref (gad X 0)), some (.int x1), some (.int x2), some (.int x3), some (.long x4), none, some (.int x6), none] [] S := by
          intro n
          induction n with
          | zero => intro x1 x2 x3 x4 x6 S hR; cases hR
          | succ n ih =>
            intro x1 x2 x3 x4 x6 S hR
            obtain ⟨q, hs, hR⟩ := g_bind hR
            have hs : f_X6_way_s45_b x1 x2 x3 x4 x6 S = some q := hs
            unfold f_X6_way_s45_b at hs
            have J74 : ∀ (x1 : Int32) (x2 : Int32) (x3 : Int32) (x4 : Int64) (x6 : Int32) (S : gSt), f_X6_way_j74 x1 x2 x3 x4 x6 S = some q → AW X RX6 4 cX6_way 74 [some (.ref (gad X 0)), some (.int x1), some (.int x2), some (.int x3), some (.long x4), none, some (.int x6), none] [] S := by
              intro x1 x2 x3 x4 x6 S hs
              unfold f_X6_way_j74 at hs
              refine a_lload (pc := 74) dX6_way_74 rfl ?_
              refine a_lconst (pc := 76) (v := (1 : Int64)) dX6_way_76 (by decide) ?_
              refine a_iload (pc := 77) dX6_way_77 rfl ?_
              refine a_lshl (pc := 79) dX6_way_79 ?_
              refine a_lor (pc := 80) dX6_way_80 ?_
              obtain ⟨v15, ev15, hs⟩ := g_let hs
              refine a_nmJ ev15 ?_
              refine a_lstore (pc := 81) dX6_way_81 (Nat.le_of_ble_eq_true rfl) rfl (L' := [some (.ref (gad X 0)), some (.int x1), some (.int x2), some (.int x3), some (.long v15), none, some (.int x6), none]) rfl ?_
              refine a_iinc (pc := 83) dX6_way_83 rfl (v := x6 + (1 : Int32)) rfl (Nat.le_of_ble_eq_true rfl) rfl (L' := [some (.ref (gad X 0)), some (.int x1), some (.int x2), some (.int x3), some (.long v15), none, some (.int (x6 + (1 : Int32))), none]) rfl ?_
              refine a_goto (pc := 86) (tgt := 45) dX6_way_86 (by decide) ?_
              obtain rfl := Option.some.inj hs
              exact ih _ _ _ _ _ _ hR
            refine a_iload (pc := 45) dX6_way_45 rfl ?_
            refine a_bipush (pc := 47) (v := (64 : Int32)) dX6_way_47 (by decide) ?_
            refine a_icmp_ge (pc := 49) (tgt := 89) dX6_way_49 (by decide) (fun c16 => ?_) (fun c16 => ?_)
            · rw [if_pos c16] at hs
              obtain rfl := Option.some.inj hs
              obtain rfl := Option.some.inj hR
              refine a_mask [false, false, true, true, true, true, false, true] (L' := [none, none, some (.int x2), some (.int x3), some (.long x4), none, none, none]) rfl ?_
              exact E45 _ _ _ _ h
            · rw [if_neg c16] at hs
              refine a_aloadn (pc := 52) dX6_way_52 rfl rfl ?_
              refine a_getA (pc := 53) flX6_39 sh_0 rfl dX6_way_53 ?_
              refine a_iload (pc := 56) dX6_way_56 rfl ?_
              obtain ⟨r19, S17, hc18, hs⟩ := g_bind2 hs
              refine a_invVi (pc := 58) (ok_X3_holderOf hc18) gyX3_holderOf vyX3_holderOf mlX6_176 sh_41 rfl (As := [.int x6]) rfl rfl (by decide) (st := []) rfl (Nat.le_of_ble_eq_true rfl) dX6_way_58 ?_
              refine a_istore (pc := 61) dX6_way_61 (Nat.le_of_ble_eq_true rfl) rfl (L' := [some (.ref (gad X 0)), some (.int x1), some (.int x2), some (.int x3), some (.long x4), none, some (.int x6), some (.int r19)]) rfl ?_
              refine a_iload (pc := 63) dX6_way_63 rfl ?_
              refine a_if_lt (pc := 65) (tgt := 74) dX6_way_65 (by decide) (fun c20 => ?_) (fun c20 => ?_)
              · rw [if_pos c20] at hs
                refine a_mask [true, true, true, true, true, true, true, false] (L' := [some (.ref (gad X 0)), some (.int x1), some (.int x2), some (.int x3), some (.long x4), none, some (.int x6), none]) rfl ?_
                exact J74 _ _ _ _ _ _ hs
              · rw [if_neg c20] at hs
                refine a_iload (pc := 68) dX6_way_68 rfl ?_
                refine a_iloadn (pc := 70) dX6_way_70 rfl rfl ?_
                refine a_icmp_ne (pc := 71) (tgt := 83) dX6_way_71 (by decide) (fun c21 => ?_) (fun c21 => ?_)
                · rw [if_neg c21] at hs
                  refine a_iinc (pc := 83) dX6_way_83 rfl (v := x6 + (1 : Int32)) rfl (Nat.le_of_ble_eq_true rfl) rfl (L' := [some (.ref (gad X 0)), some (.int x1), some (.int x2), some (.int x3), some (.long x4), none, some (.int (x6 + (1 : Int32))), some (.int r19)]) rfl ?_
                  refine a_goto (pc := 86) (tgt := 45) dX6_way_86 (by decide) ?_
                  obtain rfl := Option.some.inj hs
                  refine a_mask [true, true, true, true, true, true, true, false] (L' := [some (.ref (gad X 0)), some (.int x1), some (.int x2), some (.int x3), some (.long x4), none, some (.int (x6 + (1 : Int32))), none]) rfl ?_
                  exact ih _ _ _ _ _ _ hR
                · rw [if_pos c21] at hs
                  refine a_mask [true, true, true, true, true, true, true, false] (L' := [some (.ref (gad X 0)), some (.int x1), some (.int x2), some (.int x3), some (.long x4), none, some (.int x6), none]) rfl ?_
                  exact J74 _ _ _ _ _ _ hs
        exact lp _ _ _ _ _ _ _ hR22
      · rw [if_pos c12] at h
        refine a_iconst (pc := 25) (v := (-1 : Int32)) dX6_way_25 (by decide) ?_
        obtain ⟨rfl, rfl⟩ := Prod.mk.inj (Option.some.inj h)
        exact a_iret hp dX6_way_26
theorem dX5_begin_0 : decode cX5_begin 0 = .ok (.aload_n 0, 1) := by decide +kernel
theorem dX5_begin_1 : decode cX5_begin 1 = .ok (.iload_n 3, 1) := by decide +kernel
theorem dX5_begin_2 : decode cX5_begin 2 = .ok (.putfield 18, 3) := by decide +kernel
theorem dX5_begin_5 : decode cX5_begin 5 = .ok (.aload_n 0, 1) := by decide +kernel
theorem dX5_begin_6 : decode cX5_begin 6 = .ok (.iload 4, 2) := by decide +kernel
theorem dX5_begin_8 : decode cX5_begin 8 = .ok (.putfield 25, 3) := by decide +kernel
theorem dX5_begin_11 : decode cX5_begin 11 = .ok (.aload_n 0, 1) := by decide +kernel
theorem dX5_begin_12 : decode cX5_begin 12 = .ok (.aload_n 1, 1) := by decide +kernel
theorem dX5_begin_13 : decode cX5_begin 13 = .ok (.iload_n 3, 1) := by decide +kernel
theorem dX5_begin_14 : decode cX5_begin 14 = .ok (.invokevirtual 28, 3) := by decide +kernel
theorem dX5_begin_17 : decode cX5_begin 17 = .ok (.bipush 64, 2) := by decide +kernel
theorem dX5_begin_19 : decode cX5_begin 19 = .ok (.imul, 1) := by decide +kernel
theorem dX5_begin_20 : decode cX5_begin 20 = .ok (.putfield 22, 3) := by decide +kernel
theorem dX5_begin_23 : decode cX5_begin 23 = .ok (.aload_n 2, 1) := by decide +kernel
theorem dX5_begin_24 : decode cX5_begin 24 = .ok (.aload_n 1, 1) := by decide +kernel
theorem dX5_begin_25 : decode cX5_begin 25 = .ok (.iload 4, 2) := by decide +kernel
theorem dX5_begin_27 : decode cX5_begin 27 = .ok (.invokevirtual 34, 3) := by decide +kernel
theorem dX5_begin_30 : decode cX5_begin 30 = .ok (.aload_n 2, 1) := by decide +kernel
theorem dX5_begin_31 : decode cX5_begin 31 = .ok (.getfield 40, 3) := by decide +kernel
theorem dX5_begin_34 : decode cX5_begin 34 = .ok (.aload_n 0, 1) := by decide +kernel
theorem dX5_begin_35 : decode cX5_begin 35 = .ok (.getfield 22, 3) := by decide +kernel
theorem dX5_begin_38 : decode cX5_begin 38 = .ok (.aload_n 0, 1) := by decide +kernel
theorem dX5_begin_39 : decode cX5_begin 39 = .ok (.getfield 15, 3) := by decide +kernel
theorem dX5_begin_42 : decode cX5_begin 42 = .ok (.iconst 0, 1) := by decide +kernel
theorem dX5_begin_43 : decode cX5_begin 43 = .ok (.bipush 64, 2) := by decide +kernel
theorem dX5_begin_45 : decode cX5_begin 45 = .ok (.invokestatic 41, 3) := by decide +kernel
theorem dX5_begin_48 : decode cX5_begin 48 = .ok (.return_, 1) := by decide +kernel
def f_X5_begin (p3 : Int32) (p4 : Int32) (S : gSt) : Option gSt :=
gLet (gI S 44 2 p3) fun S1 =>
gLet (gI S1 44 4 p4) fun S2 =>
gBind2 (f_X0_shoesOf p3 S2) fun r5 S3 =>
gLet (gI S3 44 3 (r5 * (64 : Int32))) fun S6 =>
(f_X3_look p4 S6).bind fun S7 =>
if gcp (S7.1 44 3) (0 : Int32) (64 : Int32) 384 64 then
gLet (gR S7 46 (va_cpy (S7.1 42) (S7.1 46) (S7.1 44 3).toNatClampNeg (0 : Int32).toNatClampNeg (64 : Int32).toNatClampNeg)) fun S10 =>
(some S10) else none
set_option maxHeartbeats 4000000 in
set_option maxRecDepth 20000 in
theorem ok_X5_begin {p3 : Int32} {p4 : Int32} {S S0 : gSt}  (h : f_X5_begin p3 p4 S = some S0) : gCT yX5_begin cX5_begin 5 none 4 (fun w => [.ref (w.2.1 44), .ref (w.2.1 1), .ref (w.2.1 41), .int p3, .int p4]) S none S0 := by
  refine gEnter (fun X => [some (.ref (gad X 44)), some (.ref (gad X 1)), some (.ref (gad X 41)), some (.int p3), some (.int p4)]) (by decide) (fun X => ⟨rfl, rfl⟩) (fun w => Nat.le_of_ble_eq_true rfl) (fun X hp => ?_)
  show AW X RX5 4 cX5_begin 0 [some (.ref (gad X 44)), some (.ref (gad X 1)), some (.ref (gad X 41)), some (.int p3), some (.int p4)] [] S
  unfold f_X5_begin at h
  refine a_aloadn (pc := 0) dX5_begin_0 rfl rfl ?_
  refine a_iloadn (pc := 1) dX5_begin_1 rfl rfl ?_
  refine a_putI (pc := 2) flX5_18 sh_44 rfl rfl rfl dX5_begin_2 ?_
  obtain ⟨S1, eS1, h⟩ := g_let h
  refine a_nmS eS1 ?_
  refine a_aloadn (pc := 5) dX5_begin_5 rfl rfl ?_
  refine a_iload (pc := 6) dX5_begin_6 rfl ?_
  refine a_putI (pc := 8) flX5_25 sh_44 rfl rfl rfl dX5_begin_8 ?_
  obtain ⟨S2, eS2, h⟩ := g_let h
  refine a_nmS eS2 ?_
  refine a_aloadn (pc := 11) dX5_begin_11 rfl rfl ?_
  refine a_aloadn (pc := 12) dX5_begin_12 rfl rfl ?_
  refine a_iloadn (pc := 13) dX5_begin_13 rfl rfl ?_
  obtain ⟨r5, S3, hc4, h⟩ := g_bind2 h
  refine a_invVi (pc := 14) (ok_X0_shoesOf hc4) gyX0_shoesOf vyX0_shoesOf mlX5_28 sh_1 rfl (As := [.int p3]) rfl rfl (by decide) (st := [.ref (gad X 44)]) rfl (Nat.le_of_ble_eq_true rfl) dX5_begin_14 ?_
  refine a_bipush (pc := 17) (v := (64 : Int32)) dX5_begin_17 (by decide) ?_
  refine a_imul (pc := 19) dX5_begin_19 ?_
  refine a_putI (pc := 20) flX5_22 sh_44 rfl rfl rfl dX5_begin_20 ?_
  obtain ⟨S6, eS6, h⟩ := g_let h
  refine a_nmS eS6 ?_
  refine a_aloadn (pc := 23) dX5_begin_23 rfl rfl ?_
  refine a_aloadn (pc := 24) dX5_begin_24 rfl rfl ?_
  refine a_iload (pc := 25) dX5_begin_25 rfl ?_
  obtain ⟨S7, hc8, h⟩ := g_bind h
  refine a_invVv (pc := 27) (ok_X3_look hc8) gyX3_look vyX3_look mlX5_34 sh_41 rfl (As := [.ref (gad X 1), .int p4]) rfl rfl (by decide) (st := []) rfl (Nat.le_of_ble_eq_true rfl) dX5_begin_27 ?_
  refine a_aloadn (pc := 30) dX5_begin_30 rfl rfl ?_
  refine a_getA (pc := 31) flX5_40 sh_41 rfl dX5_begin_31 ?_
  refine a_aloadn (pc := 34) dX5_begin_34 rfl rfl ?_
  refine a_getI (pc := 35) flX5_22 sh_44 rfl dX5_begin_35 ?_
  refine a_aloadn (pc := 38) dX5_begin_38 rfl rfl ?_
  refine a_getA (pc := 39) flX5_15 sh_44 rfl dX5_begin_39 ?_
  refine a_iconst (pc := 42) (v := (0 : Int32)) dX5_begin_42 (by decide) ?_
  refine a_bipush (pc := 43) (v := (64 : Int32)) dX5_begin_43 (by decide) ?_
  obtain ⟨hi9, h⟩ := g_if h
  refine a_copyi (pc := 45) sh_42 sh_46 hi9 mlX5_41 (by decide) (Nat.le_of_ble_eq_true rfl) dX5_begin_45 ?_
  obtain ⟨S10, eS10, h⟩ := g_let h
  refine a_nmS eS10 ?_
  obtain rfl := Option.some.inj h
  exact a_vret hp dX5_begin_48
theorem dX6_wayAt_0 : decode cX6_wayAt 0 = .ok (.iload_n 0, 1) := by decide +kernel
theorem dX6_wayAt_1 : decode cX6_wayAt 1 = .ok (.iconst 2, 1) := by decide +kernel
theorem dX6_wayAt_2 : decode cX6_wayAt 2 = .ok (.iload_n 1, 1) := by decide +kernel
theorem dX6_wayAt_3 : decode cX6_wayAt 3 = .ok (.iconst 1, 1) := by decide +kernel
theorem dX6_wayAt_4 : decode cX6_wayAt 4 = .ok (.isub, 1) := by decide +kernel
theorem dX6_wayAt_5 : decode cX6_wayAt 5 = .ok (.iload_n 2, 1) := by decide +kernel
theorem dX6_wayAt_6 : decode cX6_wayAt 6 = .ok (.isub, 1) := by decide +kernel
theorem dX6_wayAt_7 : decode cX6_wayAt 7 = .ok (.imul, 1) := by decide +kernel
theorem dX6_wayAt_8 : decode cX6_wayAt 8 = .ok (.ishr, 1) := by decide +kernel
theorem dX6_wayAt_9 : decode cX6_wayAt 9 = .ok (.iconst 3, 1) := by decide +kernel
theorem dX6_wayAt_10 : decode cX6_wayAt 10 = .ok (.iand, 1) := by decide +kernel
theorem dX6_wayAt_11 : decode cX6_wayAt 11 = .ok (.ireturn, 1) := by decide +kernel
def f_X6_wayAt (p0 : Int32) (p1 : Int32) (p2 : Int32) (S : gSt) : Option (Int32 × gSt) :=
some ((p0 >>> (((2 : Int32) * ((p1 - (1 : Int32)) - p2)) &&& 31)) &&& (3 : Int32), S)
set_option maxHeartbeats 4000000 in
set_option maxRecDepth 20000 in
theorem ok_X6_wayAt {p0 : Int32} {p1 : Int32} {p2 : Int32} {S S0 : gSt} {r0 : Int32}  (h : f_X6_wayAt p0 p1 p2 S = some (r0, S0)) : gCT yX6_wayAt cX6_wayAt 3 (some .int) 0 (fun w => [.int p0, .int p1, .int p2]) S (some (.int r0)) S0 := by
  refine gEnter (fun X => [some (.int p0), some (.int p1), some (.int p2)]) (by decide) (fun X => ⟨rfl, rfl⟩) (fun w => Nat.le_of_ble_eq_true rfl) (fun X hp => ?_)
  show AW X RX6 0 cX6_wayAt 0 [some (.int p0), some (.int p1), some (.int p2)] [] S
  unfold f_X6_wayAt at h
  refine a_iloadn (pc := 0) dX6_wayAt_0 rfl rfl ?_
  refine a_iconst (pc := 1) (v := (2 : Int32)) dX6_wayAt_1 (by decide) ?_
  refine a_iloadn (pc := 2) dX6_wayAt_2 rfl rfl ?_
  refine a_iconst (pc := 3) (v := (1 : Int32)) dX6_wayAt_3 (by decide) ?_
  refine a_isub (pc := 4) dX6_wayAt_4 ?_
  refine a_iloadn (pc := 5) dX6_wayAt_5 rfl rfl ?_
  refine a_isub (pc := 6) dX6_wayAt_6 ?_
  refine a_imul (pc := 7) dX6_wayAt_7 ?_
  refine a_ishr (pc := 8) dX6_wayAt_8 ?_
  refine a_iconst (pc := 9) (v := (3 : Int32)) dX6_wayAt_9 (by decide) ?_
  refine a_iand (pc := 10) dX6_wayAt_10 ?_
  obtain ⟨rfl, rfl⟩ := Prod.mk.inj (Option.some.inj h)
  exact a_iret hp dX6_wayAt_11
def f_X6_deepen_45 (p1 : Int32) (p2 : Int32) (S : gSt) : Option gSt :=
if gin p1 64 then
(if gin p1 64 then
gLet (gI S 45 p1.toNatClampNeg (if ((S.1 45 p1.toNatClampNeg) + p2) < (99 : Int32) then ((S.1 45 p1.toNatClampNeg) + p2) else (99 : Int32))) fun S3 =>
(some S3) else none) else none
set_option maxHeartbeats 4000000 in
set_option maxRecDepth 20000 in
theorem ok_X6_deepen_45 {p1 : Int32} {p2 : Int32} {S S0 : gSt}  (h : f_X6_deepen_45 p1 p2 S = some S0) : gCT yX6_deepen cX6_deepen 3 none 1 (fun w => [.ref (w.2.1 45), .int p1, .int p2]) S none S0 := by
  refine gEnter (fun X => [some (.ref (gad X 45)), some (.int p1), some (.int p2)]) (by decide) (fun X => ⟨rfl, rfl⟩) (fun w => Nat.le_of_ble_eq_true rfl) (fun X hp => ?_)
  show AW X RX6 1 cX6_deepen 0 [some (.ref (gad X 45)), some (.int p1), some (.int p2)] [] S
  unfold f_X6_deepen_45 at h
  refine a_aloadn (pc := 0) dX6_deepen_0 rfl rfl ?_
  refine a_iloadn (pc := 1) dX6_deepen_1 rfl rfl ?_
  refine a_bipush (pc := 2) (v := (99 : Int32)) dX6_deepen_2 (by decide) ?_
  refine a_aloadn (pc := 4) dX6_deepen_4 rfl rfl ?_
  refine a_iloadn (pc := 5) dX6_deepen_5 rfl rfl ?_
  obtain ⟨hi1, h⟩ := g_if h
  refine a_iald (pc := 6) sh_45 hi1 dX6_deepen_6 ?_
  refine a_iloadn (pc := 7) dX6_deepen_7 rfl rfl ?_
  refine a_iadd (pc := 8) dX6_deepen_8 ?_
  refine a_min (pc := 9) mlX6_287 (by decide) (Nat.le_of_ble_eq_true rfl) dX6_deepen_9 ?_
  obtain ⟨hi2, h⟩ := g_if h
  refine a_iast (pc := 12) sh_45 hi2 dX6_deepen_12 ?_
  obtain ⟨S3, eS3, h⟩ := g_let h
  refine a_nmS eS3 ?_
  obtain rfl := Option.some.inj h
  exact a_vret hp dX6_deepen_13
theorem dX5_tread_0 : decode cX5_tread 0 = .ok (.aload_n 0, 1) := by decide +kernel
theorem dX5_tread_1 : decode cX5_tread 1 = .ok (.getfield 9, 3) := by decide +kernel
theorem dX5_tread_4 : decode cX5_tread 4 = .ok (.iload_n 3, 1) := by decide +kernel
theorem dX5_tread_5 : decode cX5_tread 5 = .ok (.aload_n 1, 1) := by decide +kernel
theorem dX5_tread_6 : decode cX5_tread 6 = .ok (.aload_n 0, 1) := by decide +kernel
theorem dX5_tread_7 : decode cX5_tread 7 = .ok (.getfield 18, 3) := by decide +kernel
theorem dX5_tread_10 : decode cX5_tread 10 = .ok (.invokevirtual 73, 3) := by decide +kernel
theorem dX5_tread_13 : decode cX5_tread 13 = .ok (.invokestatic 76, 3) := by decide +kernel
theorem dX5_tread_16 : decode cX5_tread 16 = .ok (.aload_n 2, 1) := by decide +kernel
theorem dX5_tread_17 : decode cX5_tread 17 = .ok (.aload_n 0, 1) := by decide +kernel
theorem dX5_tread_18 : decode cX5_tread 18 = .ok (.getfield 22, 3) := by decide +kernel
theorem dX5_tread_21 : decode cX5_tread 21 = .ok (.iload_n 3, 1) := by decide +kernel
theorem dX5_tread_22 : decode cX5_tread 22 = .ok (.aload_n 1, 1) := by decide +kernel
theorem dX5_tread_23 : decode cX5_tread 23 = .ok (.aload_n 0, 1) := by decide +kernel
theorem dX5_tread_24 : decode cX5_tread 24 = .ok (.getfield 9, 3) := by decide +kernel
theorem dX5_tread_27 : decode cX5_tread 27 = .ok (.iload_n 3, 1) := by decide +kernel
theorem dX5_tread_28 : decode cX5_tread 28 = .ok (.iaload, 1) := by decide +kernel
theorem dX5_tread_29 : decode cX5_tread 29 = .ok (.iload_n 3, 1) := by decide +kernel
theorem dX5_tread_30 : decode cX5_tread 30 = .ok (.aload_n 0, 1) := by decide +kernel
theorem dX5_tread_31 : decode cX5_tread 31 = .ok (.getfield 25, 3) := by decide +kernel
theorem dX5_tread_34 : decode cX5_tread 34 = .ok (.invokevirtual 80, 3) := by decide +kernel
theorem dX5_tread_37 : decode cX5_tread 37 = .ok (.aload_n 1, 1) := by decide +kernel
theorem dX5_tread_38 : decode cX5_tread 38 = .ok (.getfield 83, 3) := by decide +kernel
theorem dX5_tread_41 : decode cX5_tread 41 = .ok (.iconst 2, 1) := by decide +kernel
theorem dX5_tread_42 : decode cX5_tread 42 = .ok (.iaload, 1) := by decide +kernel
theorem dX5_tread_43 : decode cX5_tread 43 = .ok (.invokevirtual 86, 3) := by decide +kernel
theorem dX5_tread_46 : decode cX5_tread 46 = .ok (.return_, 1) := by decide +kernel
def f_X5_tread (p3 : Int32) (S : gSt) : Option gSt :=
gBind2 (f_X0_treadOf (S.1 44 2) S) fun r3 S1 =>
(f_X6_deepen_45 p3 r3 S1).bind fun S4 =>
if gin p3 64 then
(gBind2 (f_X0_depthBehind (S4.1 45 p3.toNatClampNeg) p3 (S4.1 44 4) S4) fun r9 S7 =>
if gin (2 : Int32) 5 then
((f_X3_raise (S4.1 44 3) p3 r9 (S7.1 2 (2 : Int32).toNatClampNeg) S7).bind fun S11 =>
some S11) else none) else none
set_option maxHeartbeats 4000000 in
set_option maxRecDepth 20000 in
theorem ok_X5_tread {p3 : Int32} {S S0 : gSt}  (h : f_X5_tread p3 S = some S0) : gCT yX5_tread cX5_tread 4 none 2 (fun w => [.ref (w.2.1 44), .ref (w.2.1 1), .ref (w.2.1 41), .int p3]) S none S0 := by
  refine gEnter (fun X => [some (.ref (gad X 44)), some (.ref (gad X 1)), some (.ref (gad X 41)), some (.int p3)]) (by decide) (fun X => ⟨rfl, rfl⟩) (fun w => Nat.le_of_ble_eq_true rfl) (fun X hp => ?_)
  show AW X RX5 2 cX5_tread 0 [some (.ref (gad X 44)), some (.ref (gad X 1)), some (.ref (gad X 41)), some (.int p3)] [] S
  unfold f_X5_tread at h
  refine a_aloadn (pc := 0) dX5_tread_0 rfl rfl ?_
  refine a_getA (pc := 1) flX5_9 sh_44 rfl dX5_tread_1 ?_
  refine a_iloadn (pc := 4) dX5_tread_4 rfl rfl ?_
  refine a_aloadn (pc := 5) dX5_tread_5 rfl rfl ?_
  refine a_aloadn (pc := 6) dX5_tread_6 rfl rfl ?_
  refine a_getI (pc := 7) flX5_18 sh_44 rfl dX5_tread_7 ?_
  obtain ⟨r3, S1, hc2, h⟩ := g_bind2 h
  refine a_invVi (pc := 10) (ok_X0_treadOf hc2) gyX0_treadOf vyX0_treadOf mlX5_73 sh_1 rfl (As := [.int (S.1 44 2)]) rfl rfl (by decide) (st := [.int p3, .ref (gad X 45)]) rfl (Nat.le_of_ble_eq_true rfl) dX5_tread_10 ?_
  obtain ⟨S4, hc5, h⟩ := g_bind h
  refine a_invSNv (pc := 13) (ok_X6_deepen_45 hc5) gyX6_deepen syX6_deepen mlX5_76 (As := [.ref (gad X 45), .int p3, .int r3]) rfl rfl (by decide) (st := []) rfl (Nat.le_of_ble_eq_true rfl) dX5_tread_13 ?_
  refine a_aloadn (pc := 16) dX5_tread_16 rfl rfl ?_
  refine a_aloadn (pc := 17) dX5_tread_17 rfl rfl ?_
  refine a_getI (pc := 18) flX5_22 sh_44 rfl dX5_tread_18 ?_
  refine a_iloadn (pc := 21) dX5_tread_21 rfl rfl ?_
  refine a_aloadn (pc := 22) dX5_tread_22 rfl rfl ?_
  refine a_aloadn (pc := 23) dX5_tread_23 rfl rfl ?_
  refine a_getA (pc := 24) flX5_9 sh_44 rfl dX5_tread_24 ?_
  refine a_iloadn (pc := 27) dX5_tread_27 rfl rfl ?_
  obtain ⟨hi6, h⟩ := g_if h
  refine a_iald (pc := 28) sh_45 hi6 dX5_tread_28 ?_
  refine a_iloadn (pc := 29) dX5_tread_29 rfl rfl ?_
  refine a_aloadn (pc := 30) dX5_tread_30 rfl rfl ?_
  refine a_getI (pc := 31) flX5_25 sh_44 rfl dX5_tread_31 ?_
  obtain ⟨r9, S7, hc8, h⟩ := g_bind2 h
  refine a_invVi (pc := 34) (ok_X0_depthBehind hc8) gyX0_depthBehind vyX0_depthBehind mlX5_80 sh_1 rfl (As := [.int (S4.1 45 p3.toNatClampNeg), .int p3, .int (S4.1 44 4)]) rfl rfl (by decide) (st := [.int p3, .int (S4.1 44 3), .ref (gad X 41)]) rfl (Nat.le_of_ble_eq_true rfl) dX5_tread_34 ?_
  refine a_aloadn (pc := 37) dX5_tread_37 rfl rfl ?_
  refine a_getA (pc := 38) flX5_83 sh_1 rfl dX5_tread_38 ?_
  refine a_iconst (pc := 41) (v := (2 : Int32)) dX5_tread_41 (by decide) ?_
  obtain ⟨hi10, h⟩ := g_if h
  refine a_iald (pc := 42) sh_2 hi10 dX5_tread_42 ?_
  obtain ⟨S11, hc12, h⟩ := g_bind h
  refine a_invVv (pc := 43) (ok_X3_raise hc12) gyX3_raise vyX3_raise mlX5_86 sh_41 rfl (As := [.int (S4.1 44 3), .int p3, .int r9, .int (S7.1 2 (2 : Int32).toNatClampNeg)]) rfl rfl (by decide) (st := []) rfl (Nat.le_of_ble_eq_true rfl) dX5_tread_43 ?_
  obtain rfl := Option.some.inj h
  exact a_vret hp dX5_tread_46
