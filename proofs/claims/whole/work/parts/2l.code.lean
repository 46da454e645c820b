theorem dX7_film_0 : decode cX7_film 0 = .ok (.aload_n 0, 1) := by decide +kernel
theorem dX7_film_1 : decode cX7_film 1 = .ok (.iload_n 1, 1) := by decide +kernel
theorem dX7_film_2 : decode cX7_film 2 = .ok (.invokevirtual 82, 3) := by decide +kernel
theorem dX7_film_5 : decode cX7_film 5 = .ok (.ifCond .eq 30, 3) := by decide +kernel
theorem dX7_film_8 : decode cX7_film 8 = .ok (.iload_n 2, 1) := by decide +kernel
theorem dX7_film_9 : decode cX7_film 9 = .ok (.i2l, 1) := by decide +kernel
theorem dX7_film_10 : decode cX7_film 10 = .ok (.lconst 1, 1) := by decide +kernel
theorem dX7_film_11 : decode cX7_film 11 = .ok (.ldc2_w 159, 3) := by decide +kernel
theorem dX7_film_14 : decode cX7_film 14 = .ok (.invokestatic 51, 3) := by decide +kernel
theorem dX7_film_17 : decode cX7_film 17 = .ok (.ifCond .eq 18, 3) := by decide +kernel
theorem dX7_film_20 : decode cX7_film 20 = .ok (.iload_n 3, 1) := by decide +kernel
theorem dX7_film_21 : decode cX7_film 21 = .ok (.invokestatic 201, 3) := by decide +kernel
theorem dX7_film_24 : decode cX7_film 24 = .ok (.ifCond .eq 11, 3) := by decide +kernel
theorem dX7_film_27 : decode cX7_film 27 = .ok (.iload 4, 2) := by decide +kernel
theorem dX7_film_29 : decode cX7_film 29 = .ok (.invokestatic 204, 3) := by decide +kernel
theorem dX7_film_32 : decode cX7_film 32 = .ok (.ifCond .ne 5, 3) := by decide +kernel
theorem dX7_film_35 : decode cX7_film 35 = .ok (.iconst (-1), 1) := by decide +kernel
theorem dX7_film_36 : decode cX7_film 36 = .ok (.ireturn, 1) := by decide +kernel
theorem dX7_film_37 : decode cX7_film 37 = .ok (.aload_n 0, 1) := by decide +kernel
theorem dX7_film_38 : decode cX7_film 38 = .ok (.iload_n 3, 1) := by decide +kernel
theorem dX7_film_39 : decode cX7_film 39 = .ok (.iload 4, 2) := by decide +kernel
theorem dX7_film_41 : decode cX7_film 41 = .ok (.iload 5, 2) := by decide +kernel
theorem dX7_film_43 : decode cX7_film 43 = .ok (.iload_n 2, 1) := by decide +kernel
theorem dX7_film_44 : decode cX7_film 44 = .ok (.invokevirtual 207, 3) := by decide +kernel
theorem dX7_film_47 : decode cX7_film 47 = .ok (.istore 6, 2) := by decide +kernel
theorem dX7_film_49 : decode cX7_film 49 = .ok (.iload 6, 2) := by decide +kernel
theorem dX7_film_51 : decode cX7_film 51 = .ok (.ifCond .ge 6, 3) := by decide +kernel
theorem dX7_film_54 : decode cX7_film 54 = .ok (.iload 6, 2) := by decide +kernel
theorem dX7_film_56 : decode cX7_film 56 = .ok (.ireturn, 1) := by decide +kernel
theorem dX7_film_57 : decode cX7_film 57 = .ok (.aload_n 0, 1) := by decide +kernel
theorem dX7_film_58 : decode cX7_film 58 = .ok (.invokevirtual 176, 3) := by decide +kernel
theorem dX7_film_61 : decode cX7_film 61 = .ok (.iconst 0, 1) := by decide +kernel
theorem dX7_film_62 : decode cX7_film 62 = .ok (.istore 7, 2) := by decide +kernel
theorem dX7_film_64 : decode cX7_film 64 = .ok (.iload 7, 2) := by decide +kernel
theorem dX7_film_66 : decode cX7_film 66 = .ok (.iload_n 2, 1) := by decide +kernel
theorem dX7_film_67 : decode cX7_film 67 = .ok (.if_icmp .ge 34, 3) := by decide +kernel
theorem dX7_film_70 : decode cX7_film 70 = .ok (.aload_n 0, 1) := by decide +kernel
theorem dX7_film_71 : decode cX7_film 71 = .ok (.invokevirtual 161, 3) := by decide +kernel
theorem dX7_film_74 : decode cX7_film 74 = .ok (.aload_n 0, 1) := by decide +kernel
theorem dX7_film_75 : decode cX7_film 75 = .ok (.getfield 44, 3) := by decide +kernel
theorem dX7_film_78 : decode cX7_film 78 = .ok (.bipush 24, 2) := by decide +kernel
theorem dX7_film_80 : decode cX7_film 80 = .ok (.iload_n 3, 1) := by decide +kernel
theorem dX7_film_81 : decode cX7_film 81 = .ok (.imul, 1) := by decide +kernel
theorem dX7_film_82 : decode cX7_film 82 = .ok (.iload 5, 2) := by decide +kernel
theorem dX7_film_84 : decode cX7_film 84 = .ok (.iadd, 1) := by decide +kernel
theorem dX7_film_85 : decode cX7_film 85 = .ok (.iload 7, 2) := by decide +kernel
theorem dX7_film_87 : decode cX7_film 87 = .ok (.iadd, 1) := by decide +kernel
theorem dX7_film_88 : decode cX7_film 88 = .ok (.aload_n 0, 1) := by decide +kernel
theorem dX7_film_89 : decode cX7_film 89 = .ok (.iload_n 1, 1) := by decide +kernel
theorem dX7_film_90 : decode cX7_film 90 = .ok (.invokevirtual 93, 3) := by decide +kernel
theorem dX7_film_93 : decode cX7_film 93 = .ok (.i2l, 1) := by decide +kernel
theorem dX7_film_94 : decode cX7_film 94 = .ok (.lastore, 1) := by decide +kernel
theorem dX7_film_95 : decode cX7_film 95 = .ok (.iinc 7 1, 3) := by decide +kernel
theorem dX7_film_98 : decode cX7_film 98 = .ok (.goto (-34), 3) := by decide +kernel
theorem dX7_film_101 : decode cX7_film 101 = .ok (.aload_n 0, 1) := by decide +kernel
theorem dX7_film_102 : decode cX7_film 102 = .ok (.invokevirtual 182, 3) := by decide +kernel
theorem dX7_film_105 : decode cX7_film 105 = .ok (.iload_n 2, 1) := by decide +kernel
theorem dX7_film_106 : decode cX7_film 106 = .ok (.ireturn, 1) := by decide +kernel
def f_X7_film_s64_b (x1 : Int32) (x2 : Int32) (x3 : Int32) (x5 : Int32) (x7 : Int32) (S : gSt) : Option ((Int32 × Int32 × Int32 × Int32 × Int32 × gSt) ⊕ (Int32 × gSt)) :=
(if x2 ≤ x7 then
some (.inr (x2, S))
else
(f_X7_goesBy S).bind fun S24 =>
gBind2 (f_X7_landOf x1 S24) fun r28 S26 =>
if gin ((((24 : Int32) * x3) + x5) + x7) 96 then
gLet (gJ S26 59 ((((24 : Int32) * x3) + x5) + x7).toNatClampNeg (r28.toInt64)) fun S30 =>
(some (.inl (x1, x2, x3, x5, x7 + (1 : Int32), S30))) else none)
def f_X7_film_s64 : (Int32 × Int32 × Int32 × Int32 × Int32 × gSt) → Option ((Int32 × Int32 × Int32 × Int32 × Int32 × gSt) ⊕ (Int32 × gSt)) := fun t => f_X7_film_s64_b t.1 t.2.1 t.2.2.1 t.2.2.2.1 t.2.2.2.2.1 t.2.2.2.2.2
def f_X7_film (p1 : Int32) (p2 : Int32) (p3 : Int32) (p4 : Int32) (p5 : Int32) (S : gSt) : Option (Int32 × gSt) :=
gBind2 (f_X7_isWalker p1 S) fun r3 S1 =>
(if r3 = 0 then
some ((-1 : Int32), S1)
else
gBind2 (f_X7_in (p2.toInt64) (1 : Int64) (24 : Int64) S1) fun r7 S5 =>
(if r7 = 0 then
some ((-1 : Int32), S5)
else
gBind2 (f_X7_isSheet p3 S5) fun r11 S9 =>
(if r11 = 0 then
some ((-1 : Int32), S9)
else
gBind2 (f_X7_isLane p4 S9) fun r15 S13 =>
(if r15 = 0 then
some ((-1 : Int32), S13)
else
gBind2 (f_X7_why p3 p4 p5 p2 S13) fun r19 S17 =>
(if 0 ≤ r19 then
(f_X7_asides S17).bind fun S21 =>
(gLoop (f_X7_film_s64) gFuel (p1, p2, p3, p5, (0 : Int32), S21)).bind fun q31 => match q31 with
| (y2_31, S31) =>
(f_X7_backs S31).bind fun S32 =>
some (y2_31, S32)
else
some (r19, S17))))))
set_option maxHeartbeats 4000000 in
set_option maxRecDepth 20000 in
theorem ok_X7_film {p1 : Int32} {p2 : Int32} {p3 : Int32} {p4 : Int32} {p5 : Int32} {S S0 : gSt} {r0 : Int32}  (h : f_X7_film p1 p2 p3 p4 p5 S = some (r0, S0)) : gCT yX7_film cX7_film 8 (some .int) 4 (fun w => [.ref (w.2.1 47), .int p1, .int p2, .int p3, .int p4, .int p5]) S (some (.int r0)) S0 := by
  refine gEnter (fun X => [some (.ref (gad X 47)), some (.int p1), some (.int p2), some (.int p3), some (.int p4), some (.int p5), none, none]) (by decide) (fun X => ⟨rfl, rfl⟩) (fun w => Nat.le_of_ble_eq_true rfl) (fun X hp => ?_)
  show AW X RX7 4 cX7_film 0 [some (.ref (gad X 47)), some (.int p1), some (.int p2), some (.int p3), some (.int p4), some (.int p5), none, none] [] S
  unfold f_X7_film at h
  refine a_aloadn (pc := 0) dX7_film_0 rfl rfl ?_
  refine a_iloadn (pc := 1) dX7_film_1 rfl rfl ?_
  obtain ⟨r3, S1, hc2, h⟩ := g_bind2 h
  refine a_invVi (pc := 2) (ok_X7_isWalker hc2) gyX7_isWalker vyX7_isWalker mlX7_82 sh_47 rfl (As := [.int p1]) rfl rfl (by decide) (st := []) rfl (Nat.le_of_ble_eq_true rfl) dX7_film_2 ?_
  refine a_if_eq (pc := 5) (tgt := 35) dX7_film_5 (by decide) (fun c4 => ?_) (fun c4 => ?_)
  · rw [if_pos c4] at h
    refine a_iconst (pc := 35) (v := (-1 : Int32)) dX7_film_35 (by decide) ?_
    obtain ⟨rfl, rfl⟩ := Prod.mk.inj (Option.some.inj h)
    exact a_iret hp dX7_film_36
  · rw [if_neg c4] at h
    refine a_iloadn (pc := 8) dX7_film_8 rfl rfl ?_
    refine a_i2l (pc := 9) dX7_film_9 ?_
    refine a_lconst (pc := 10) (v := (1 : Int64)) dX7_film_10 (by decide) ?_
    refine a_ldc2 (pc := 11) kX7_159 dX7_film_11 ?_
    obtain ⟨r7, S5, hc6, h⟩ := g_bind2 h
    refine a_invSi (pc := 14) (ok_X7_in hc6) gyX7_in syX7_in mlX7_51 (As := [.long (p2.toInt64), .long (1 : Int64), .long (24 : Int64)]) rfl rfl (by decide) (st := []) rfl (Nat.le_of_ble_eq_true rfl) dX7_film_14 ?_
    refine a_if_eq (pc := 17) (tgt := 35) dX7_film_17 (by decide) (fun c8 => ?_) (fun c8 => ?_)
    · rw [if_pos c8] at h
      refine a_iconst (pc := 35) (v := (-1 : Int32)) dX7_film_35 (by decide) ?_
      obtain ⟨rfl, rfl⟩ := Prod.mk.inj (Option.some.inj h)
      exact a_iret hp dX7_film_36
    · rw [if_neg c8] at h
      refine a_iloadn (pc := 20) dX7_film_20 rfl rfl ?_
      obtain ⟨r11, S9, hc10, h⟩ := g_bind2 h
      refine a_invSi (pc := 21) (ok_X7_isSheet hc10) gyX7_isSheet syX7_isSheet mlX7_201 (As := [.int p3]) rfl rfl (by decide) (st := []) rfl (Nat.le_of_ble_eq_true rfl) dX7_film_21 ?_
      refine a_if_eq (pc := 24) (tgt := 35) dX7_film_24 (by decide) (fun c12 => ?_) (fun c12 => ?_)
      · rw [if_pos c12] at h
        refine a_iconst (pc := 35) (v := (-1 : Int32)) dX7_film_35 (by decide) ?_
        obtain ⟨rfl, rfl⟩ := Prod.mk.inj (Option.some.inj h)
        exact a_iret hp dX7_film_36
      · rw [if_neg c12] at h
        refine a_iload (pc := 27) dX7_film_27 rfl ?_
        obtain ⟨r15, S13, hc14, h⟩ := g_bind2 h
        refine a_invSi (pc := 29) (ok_X7_isLane hc14) gyX7_isLane syX7_isLane mlX7_204 (As := [.int p4]) rfl rfl (by decide) (st := []) rfl (Nat.le_of_ble_eq_true rfl) dX7_film_29 ?_
        refine a_if_ne (pc := 32) (tgt := 37) dX7_film_32 (by decide) (fun c16 => ?_) (fun c16 => ?_)
        · rw [if_neg c16] at h
          refine a_aloadn (pc := 37) dX7_film_37 rfl rfl ?_
          refine a_iloadn (pc := 38) dX7_film_38 rfl rfl ?_
          refine a_iload (pc := 39) dX7_film_39 rfl ?_
          refine a_iload (pc := 41) dX7_film_41 rfl ?_
          refine a_iloadn (pc := 43) dX7_film_43 rfl rfl ?_
          obtain ⟨r19, S17, hc18, h⟩ := g_bind2 h
          refine a_invVi (pc := 44) (ok_X7_why hc18) gyX7_why vyX7_why mlX7_207 sh_47 rfl (As := [.int p3, .int p4, .int p5, .int p2]) rfl rfl (by decide) (st := []) rfl (Nat.le_of_ble_eq_true rfl) dX7_film_44 ?_
          refine a_istore (pc := 47) dX7_film_47 (Nat.le_of_ble_eq_true rfl) rfl (L' := [some (.ref (gad X 47)), some (.int p1), some (.int p2), some (.int p3), some (.int p4), some (.int p5), some (.int r19), none]) rfl ?_
          refine a_iload (pc := 49) dX7_film_49 rfl ?_
          refine a_if_ge (pc := 51) (tgt := 57) dX7_film_51 (by decide) (fun c20 => ?_) (fun c20 => ?_)
          · rw [if_pos c20] at h
            refine a_aloadn (pc := 57) dX7_film_57 rfl rfl ?_
            obtain ⟨S21, hc22, h⟩ := g_bind h
            refine a_invVv (pc := 58) (ok_X7_asides hc22) gyX7_asides vyX7_asides mlX7_176 sh_47 rfl (As := []) rfl rfl (by decide) (st := []) rfl (Nat.le_of_ble_eq_true rfl) dX7_film_58 ?_
            refine a_iconst (pc := 61) (v := (0 : Int32)) dX7_film_61 (by decide) ?_
            refine a_istore (pc := 62) dX7_film_62 (Nat.le_of_ble_eq_true rfl) rfl (L' := [some (.ref (gad X 47)), some (.int p1), some (.int p2), some (.int p3), some (.int p4), some (.int p5), some (.int r19), some (.int (0 : Int32))]) rfl ?_
            obtain ⟨R31, hR31, h⟩ := g_bind h
            refine a_mask [true, true, true, true, false, true, false, true] (L' := [some (.ref (gad X 47)), some (.int p1), some (.int p2), some (.int p3), none, some (.int p5), none, some (.int (0 : Int32))]) rfl ?_
            have E64 : ∀ (y2_31 : Int32) (S31 : gSt), ((f_X7_backs S31).bind fun S32 => some (y2_31, S32)) = some (r0, S0) → AW X RX7 4 cX7_film 101 [some (.ref (gad X 47)), none, some (.int y2_31), none, none, none, none, none] [] S31 := by
              intro y2_31 S31 h
              refine a_aloadn (pc := 101) dX7_film_101 rfl rfl ?_
              obtain ⟨S32, hc33, h⟩ := g_bind h
              refine a_invVv (pc := 102) (ok_X7_backs hc33) gyX7_backs vyX7_backs mlX7_182 sh_47 rfl (As := []) rfl rfl (by decide) (st := []) rfl (Nat.le_of_ble_eq_true rfl) dX7_film_102 ?_
              refine a_iloadn (pc := 105) dX7_film_105 rfl rfl ?_
              obtain ⟨rfl, rfl⟩ := Prod.mk.inj (Option.some.inj h)
              exact a_iret hp dX7_film_106
            have lp : ∀ (n : Nat) (x1 : Int32) (x2 : Int32) (x3 : Int32) (x5 : Int32) (x7 : Int32) (S : gSt), gLoop (f_X7_film_s64) n (x1, x2, x3, x5, x7, S) = some R31 → AW X RX7 4 cX7_film 64 [some (.ref (gad X 47)), some (.int x1), some (.int x2), some (.int x3), none, some (.int x5), none, some (.int x7)] [] S := by
              intro n
              induction n with
              | zero => intro x1 x2 x3 x5 x7 S hR; cases hR
              | succ n ih =>
                intro x1 x2 x3 x5 x7 S hR
                obtain ⟨q, hs, hR⟩ := g_bind hR
                have hs : f_X7_film_s64_b x1 x2 x3 x5 x7 S = some q := hs
                unfold f_X7_film_s64_b at hs
                refine a_iload (pc := 64) dX7_film_64 rfl ?_
                refine a_iloadn (pc := 66) dX7_film_66 rfl rfl ?_
                refine a_icmp_ge (pc := 67) (tgt := 101) dX7_film_67 (by decide) (fun c23 => ?_) (fun c23 => ?_)
                · rw [if_pos c23] at hs
                  obtain rfl := Option.some.inj hs
                  obtain rfl := Option.some.inj hR
                  refine a_mask [true, false, true, false, true, false, true, false] (L' := [some (.ref (gad X 47)), none, some (.int x2), none, none, none, none, none]) rfl ?_
                  exact E64 _ _ h
                · rw [if_neg c23] at hs
                  refine a_aloadn (pc := 70) dX7_film_70 rfl rfl ?_
                  obtain ⟨S24, hc25, hs⟩ := g_bind hs
                  refine a_invVv (pc := 71) (ok_X7_goesBy hc25) gyX7_goesBy vyX7_goesBy mlX7_161 sh_47 rfl (As := []) rfl rfl (by decide) (st := []) rfl (Nat.le_of_ble_eq_true rfl) dX7_film_71 ?_
                  refine a_aloadn (pc := 74) dX7_film_74 rfl rfl ?_
                  refine a_getA (pc := 75) flX7_44 sh_47 rfl dX7_film_75 ?_
                  refine a_bipush (pc := 78) (v := (24 : Int32)) dX7_film_78 (by decide) ?_
                  refine a_iloadn (pc := 80) dX7_film_80 rfl rfl ?_
                  refine a_imul (pc := 81) dX7_film_81 ?_
                  refine a_iload (pc := 82) dX7_film_82 rfl ?_
                  refine a_iadd (pc := 84) dX7_film_84 ?_
                  refine a_iload (pc := 85) dX7_film_85 rfl ?_
                  refine a_iadd (pc := 87) dX7_film_87 ?_
                  refine a_aloadn (pc := 88) dX7_film_88 rfl rfl ?_
                  refine a_iloadn (pc := 89) dX7_film_89 rfl rfl ?_
                  obtain ⟨r28, S26, hc27, hs⟩ := g_bind2 hs
                  refine a_invVi (pc := 90) (ok_X7_landOf hc27) gyX7_landOf vyX7_landOf mlX7_93 sh_47 rfl (As := [.int x1]) rfl rfl (by decide) (st := [.int ((((24 : Int32) * x3) + x5) + x7), .ref (gad X 59)]) rfl (Nat.le_of_ble_eq_true rfl) dX7_film_90 ?_
                  refine a_i2l (pc := 93) dX7_film_93 ?_
                  obtain ⟨hi29, hs⟩ := g_if hs
                  refine a_last (pc := 94) sh_59 hi29 dX7_film_94 ?_
                  obtain ⟨S30, eS30, hs⟩ := g_let hs
                  refine a_nmS eS30 ?_
                  refine a_iinc (pc := 95) dX7_film_95 rfl (v := x7 + (1 : Int32)) rfl (Nat.le_of_ble_eq_true rfl) rfl (L' := [some (.ref (gad X 47)), some (.int x1), some (.int x2), some (.int x3), none, some (.int x5), none, some (.int (x7 + (1 : Int32)))]) rfl ?_
                  refine a_goto (pc := 98) (tgt := 64) dX7_film_98 (by decide) ?_
                  obtain rfl := Option.some.inj hs
                  exact ih _ _ _ _ _ _ hR
            exact lp _ _ _ _ _ _ _ hR31
          · rw [if_neg c20] at h
            refine a_iload (pc := 54) dX7_film_54 rfl ?_
            obtain ⟨rfl, rfl⟩ := Prod.mk.inj (Option.some.inj h)
            exact a_iret hp dX7_film_56
        · rw [if_pos c16] at h
          refine a_iconst (pc := 35) (v := (-1 : Int32)) dX7_film_35 (by decide) ?_
          obtain ⟨rfl, rfl⟩ := Prod.mk.inj (Option.some.inj h)
          exact a_iret hp dX7_film_36
theorem dX7_sheet_0 : decode cX7_sheet 0 = .ok (.iload_n 1, 1) := by decide +kernel
theorem dX7_sheet_1 : decode cX7_sheet 1 = .ok (.invokestatic 201, 3) := by decide +kernel
theorem dX7_sheet_4 : decode cX7_sheet 4 = .ok (.ifCond .eq 16, 3) := by decide +kernel
theorem dX7_sheet_7 : decode cX7_sheet 7 = .ok (.iload_n 2, 1) := by decide +kernel
theorem dX7_sheet_8 : decode cX7_sheet 8 = .ok (.invokestatic 204, 3) := by decide +kernel
theorem dX7_sheet_11 : decode cX7_sheet 11 = .ok (.ifCond .eq 9, 3) := by decide +kernel
theorem dX7_sheet_14 : decode cX7_sheet 14 = .ok (.iload_n 3, 1) := by decide +kernel
theorem dX7_sheet_15 : decode cX7_sheet 15 = .ok (.bipush 24, 2) := by decide +kernel
theorem dX7_sheet_17 : decode cX7_sheet 17 = .ok (.if_icmp .le 5, 3) := by decide +kernel
theorem dX7_sheet_20 : decode cX7_sheet 20 = .ok (.iconst (-1), 1) := by decide +kernel
theorem dX7_sheet_21 : decode cX7_sheet 21 = .ok (.ireturn, 1) := by decide +kernel
theorem dX7_sheet_22 : decode cX7_sheet 22 = .ok (.iload_n 3, 1) := by decide +kernel
theorem dX7_sheet_23 : decode cX7_sheet 23 = .ok (.ifCond .ge 6, 3) := by decide +kernel
theorem dX7_sheet_26 : decode cX7_sheet 26 = .ok (.bipush (-14), 2) := by decide +kernel
theorem dX7_sheet_28 : decode cX7_sheet 28 = .ok (.ireturn, 1) := by decide +kernel
theorem dX7_sheet_29 : decode cX7_sheet 29 = .ok (.aload_n 0, 1) := by decide +kernel
theorem dX7_sheet_30 : decode cX7_sheet 30 = .ok (.getfield 38, 3) := by decide +kernel
theorem dX7_sheet_33 : decode cX7_sheet 33 = .ok (.iload_n 1, 1) := by decide +kernel
theorem dX7_sheet_34 : decode cX7_sheet 34 = .ok (.iload_n 2, 1) := by decide +kernel
theorem dX7_sheet_35 : decode cX7_sheet 35 = .ok (.iastore, 1) := by decide +kernel
theorem dX7_sheet_36 : decode cX7_sheet 36 = .ok (.aload_n 0, 1) := by decide +kernel
theorem dX7_sheet_37 : decode cX7_sheet 37 = .ok (.getfield 41, 3) := by decide +kernel
theorem dX7_sheet_40 : decode cX7_sheet 40 = .ok (.iload_n 1, 1) := by decide +kernel
theorem dX7_sheet_41 : decode cX7_sheet 41 = .ok (.iload_n 3, 1) := by decide +kernel
theorem dX7_sheet_42 : decode cX7_sheet 42 = .ok (.iastore, 1) := by decide +kernel
theorem dX7_sheet_43 : decode cX7_sheet 43 = .ok (.iconst 0, 1) := by decide +kernel
theorem dX7_sheet_44 : decode cX7_sheet 44 = .ok (.istore 4, 2) := by decide +kernel
theorem dX7_sheet_46 : decode cX7_sheet 46 = .ok (.iload 4, 2) := by decide +kernel
theorem dX7_sheet_48 : decode cX7_sheet 48 = .ok (.bipush 24, 2) := by decide +kernel
theorem dX7_sheet_50 : decode cX7_sheet 50 = .ok (.if_icmp .ge 22, 3) := by decide +kernel
theorem dX7_sheet_53 : decode cX7_sheet 53 = .ok (.aload_n 0, 1) := by decide +kernel
theorem dX7_sheet_54 : decode cX7_sheet 54 = .ok (.getfield 44, 3) := by decide +kernel
theorem dX7_sheet_57 : decode cX7_sheet 57 = .ok (.bipush 24, 2) := by decide +kernel
theorem dX7_sheet_59 : decode cX7_sheet 59 = .ok (.iload_n 1, 1) := by decide +kernel
theorem dX7_sheet_60 : decode cX7_sheet 60 = .ok (.imul, 1) := by decide +kernel
theorem dX7_sheet_61 : decode cX7_sheet 61 = .ok (.iload 4, 2) := by decide +kernel
theorem dX7_sheet_63 : decode cX7_sheet 63 = .ok (.iadd, 1) := by decide +kernel
theorem dX7_sheet_64 : decode cX7_sheet 64 = .ok (.lconst 0, 1) := by decide +kernel
theorem dX7_sheet_65 : decode cX7_sheet 65 = .ok (.lastore, 1) := by decide +kernel
theorem dX7_sheet_66 : decode cX7_sheet 66 = .ok (.iinc 4 1, 3) := by decide +kernel
theorem dX7_sheet_69 : decode cX7_sheet 69 = .ok (.goto (-23), 3) := by decide +kernel
theorem dX7_sheet_72 : decode cX7_sheet 72 = .ok (.iload_n 3, 1) := by decide +kernel
theorem dX7_sheet_73 : decode cX7_sheet 73 = .ok (.ireturn, 1) := by decide +kernel
def f_X7_sheet_s46_b (x1 : Int32) (x3 : Int32) (x4 : Int32) (S : gSt) : Option ((Int32 × Int32 × Int32 × gSt) ⊕ (Int32 × gSt)) :=
(if (24 : Int32) ≤ x4 then
some (.inr (x3, S))
else
if gin (((24 : Int32) * x1) + x4) 96 then
gLet (gJ S 59 (((24 : Int32) * x1) + x4).toNatClampNeg (0 : Int64)) fun S17 =>
(some (.inl (x1, x3, x4 + (1 : Int32), S17))) else none)
def f_X7_sheet_s46 : (Int32 × Int32 × Int32 × gSt) → Option ((Int32 × Int32 × Int32 × gSt) ⊕ (Int32 × gSt)) := fun t => f_X7_sheet_s46_b t.1 t.2.1 t.2.2.1 t.2.2.2
def f_X7_sheet (p1 : Int32) (p2 : Int32) (p3 : Int32) (S : gSt) : Option (Int32 × gSt) :=
gBind2 (f_X7_isSheet p1 S) fun r3 S1 =>
(if r3 = 0 then
some ((-1 : Int32), S1)
else
gBind2 (f_X7_isLane p2 S1) fun r7 S5 =>
(if r7 = 0 then
some ((-1 : Int32), S5)
else
(if p3 ≤ (24 : Int32) then
(if 0 ≤ p3 then
if gin p1 4 then
gLet (gI S5 57 p1.toNatClampNeg p2) fun S12 =>
(if gin p1 4 then
gLet (gI S12 58 p1.toNatClampNeg p3) fun S14 =>
((gLoop (f_X7_sheet_s46) gFuel (p1, p3, (0 : Int32), S14)).bind fun q18 => match q18 with
| (y3_18, S18) =>
some (y3_18, S18)) else none) else none
else
some ((-14 : Int32), S5))
else
some ((-1 : Int32), S5))))
set_option maxHeartbeats 4000000 in
set_option maxRecDepth 20000 in
theorem ok_X7_sheet {p1 : Int32} {p2 : Int32} {p3 : Int32} {S S0 : gSt} {r0 : Int32}  (h : f_X7_sheet p1 p2 p3 S = some (r0, S0)) : gCT yX7_sheet cX7_sheet 5 (some .int) 2 (fun w => [.ref (w.2.1 47), .int p1, .int p2, .int p3]) S (some (.int r0)) S0 := by
  refine gEnter (fun X => [some (.ref (gad X 47)), some (.int p1), some (.int p2), some (.int p3), none]) (by decide) (fun X => ⟨rfl, rfl⟩) (fun w => Nat.le_of_ble_eq_true rfl) (fun X hp => ?_)
  show AW X RX7 2 cX7_sheet 0 [some (.ref (gad X 47)), some (.int p1), some (.int p2), some (.int p3), none] [] S
  unfold f_X7_sheet at h
  refine a_iloadn (pc := 0) dX7_sheet_0 rfl rfl ?_
  obtain ⟨r3, S1, hc2, h⟩ := g_bind2 h
  refine a_invSi (pc := 1) (ok_X7_isSheet hc2) gyX7_isSheet syX7_isSheet mlX7_201 (As := [.int p1]) rfl rfl (by decide) (st := []) rfl (Nat.le_of_ble_eq_true rfl) dX7_sheet_1 ?_
  refine a_if_eq (pc := 4) (tgt := 20) dX7_sheet_4 (by decide) (fun c4 => ?_) (fun c4 => ?_)
  · rw [if_pos c4] at h
    refine a_iconst (pc := 20) (v := (-1 : Int32)) dX7_sheet_20 (by decide) ?_
    obtain ⟨rfl, rfl⟩ := Prod.mk.inj (Option.some.inj h)
    exact a_iret hp dX7_sheet_21
  · rw [if_neg c4] at h
    refine a_iloadn (pc := 7) dX7_sheet_7 rfl rfl ?_
    obtain ⟨r7, S5, hc6, h⟩ := g_bind2 h
    refine a_invSi (pc := 8) (ok_X7_isLane hc6) gyX7_isLane syX7_isLane mlX7_204 (As := [.int p2]) rfl rfl (by decide) (st := []) rfl (Nat.le_of_ble_eq_true rfl) dX7_sheet_8 ?_
    refine a_if_eq (pc := 11) (tgt := 20) dX7_sheet_11 (by decide) (fun c8 => ?_) (fun c8 => ?_)
    · rw [if_pos c8] at h
      refine a_iconst (pc := 20) (v := (-1 : Int32)) dX7_sheet_20 (by decide) ?_
      obtain ⟨rfl, rfl⟩ := Prod.mk.inj (Option.some.inj h)
      exact a_iret hp dX7_sheet_21
    · rw [if_neg c8] at h
      refine a_iloadn (pc := 14) dX7_sheet_14 rfl rfl ?_
      refine a_bipush (pc := 15) (v := (24 : Int32)) dX7_sheet_15 (by decide) ?_
      refine a_icmp_le (pc := 17) (tgt := 22) dX7_sheet_17 (by decide) (fun c9 => ?_) (fun c9 => ?_)
      · rw [if_pos c9] at h
        refine a_iloadn (pc := 22) dX7_sheet_22 rfl rfl ?_
        refine a_if_ge (pc := 23) (tgt := 29) dX7_sheet_23 (by decide) (fun c10 => ?_) (fun c10 => ?_)
        · rw [if_pos c10] at h
          refine a_aloadn (pc := 29) dX7_sheet_29 rfl rfl ?_
          refine a_getA (pc := 30) flX7_38 sh_47 rfl dX7_sheet_30 ?_
          refine a_iloadn (pc := 33) dX7_sheet_33 rfl rfl ?_
          refine a_iloadn (pc := 34) dX7_sheet_34 rfl rfl ?_
          obtain ⟨hi11, h⟩ := g_if h
          refine a_iast (pc := 35) sh_57 hi11 dX7_sheet_35 ?_
          obtain ⟨S12, eS12, h⟩ := g_let h
          refine a_nmS eS12 ?_
          refine a_aloadn (pc := 36) dX7_sheet_36 rfl rfl ?_
          refine a_getA (pc := 37) flX7_41 sh_47 rfl dX7_sheet_37 ?_
          refine a_iloadn (pc := 40) dX7_sheet_40 rfl rfl ?_
          refine a_iloadn (pc := 41) dX7_sheet_41 rfl rfl ?_
          obtain ⟨hi13, h⟩ := g_if h
          refine a_iast (pc := 42) sh_58 hi13 dX7_sheet_42 ?_
          obtain ⟨S14, eS14, h⟩ := g_let h
          refine a_nmS eS14 ?_
          refine a_iconst (pc := 43) (v := (0 : Int32)) dX7_sheet_43 (by decide) ?_
          refine a_istore (pc := 44) dX7_sheet_44 (Nat.le_of_ble_eq_true rfl) rfl (L' := [some (.ref (gad X 47)), some (.int p1), some (.int p2), some (.int p3), some (.int (0 : Int32))]) rfl ?_
          obtain ⟨R18, hR18, h⟩ := g_bind h
          refine a_mask [true, true, false, true, true] (L' := [some (.ref (gad X 47)), some (.int p1), none, some (.int p3), some (.int (0 : Int32))]) rfl ?_
          have E46 : ∀ (y3_18 : Int32) (S18 : gSt), (some (y3_18, S18)) = some (r0, S0) → AW X RX7 2 cX7_sheet 72 [none, none, none, some (.int y3_18), none] [] S18 := by
            intro y3_18 S18 h
            refine a_iloadn (pc := 72) dX7_sheet_72 rfl rfl ?_
            obtain ⟨rfl, rfl⟩ := Prod.mk.inj (Option.some.inj h)
            exact a_iret hp dX7_sheet_73
          have lp : ∀ (n : Nat) (x1 : Int32) (x3 : Int32) (x4 : Int32) (S : gSt), gLoop (f_X7_sheet_s46) n (x1, x3, x4, S) = some R18 → AW X RX7 2 cX7_sheet 46 [some (.ref (gad X 47)), some (.int x1), none, some (.int x3), some (.int x4)] [] S := by
            intro n
            induction n with
            | zero => intro x1 x3 x4 S hR; cases hR
            | succ n ih =>
              intro x1 x3 x4 S hR
              obtain ⟨q, hs, hR⟩ := g_bind hR
              have hs : f_X7_sheet_s46_b x1 x3 x4 S = some q := hs
              unfold f_X7_sheet_s46_b at hs
              refine a_iload (pc := 46) dX7_sheet_46 rfl ?_
              refine a_bipush (pc := 48) (v := (24 : Int32)) dX7_sheet_48 (by decide) ?_
              refine a_icmp_ge (pc := 50) (tgt := 72) dX7_sheet_50 (by decide) (fun c15 => ?_) (fun c15 => ?_)
              · rw [if_pos c15] at hs
                obtain rfl := Option.some.inj hs
                obtain rfl := Option.some.inj hR
                refine a_mask [false, false, true, true, false] (L' := [none, none, none, some (.int x3), none]) rfl ?_
                exact E46 _ _ h
              · rw [if_neg c15] at hs
                refine a_aloadn (pc := 53) dX7_sheet_53 rfl rfl ?_
                refine a_getA (pc := 54) flX7_44 sh_47 rfl dX7_sheet_54 ?_
                refine a_bipush (pc := 57) (v := (24 : Int32)) dX7_sheet_57 (by decide) ?_
                refine a_iloadn (pc := 59) dX7_sheet_59 rfl rfl ?_
                refine a_imul (pc := 60) dX7_sheet_60 ?_
                refine a_iload (pc := 61) dX7_sheet_61 rfl ?_
                refine a_iadd (pc := 63) dX7_sheet_63 ?_
                refine a_lconst (pc := 64) (v := (0 : Int64)) dX7_sheet_64 (by decide) ?_
                obtain ⟨hi16, hs⟩ := g_if hs
                refine a_last (pc := 65) sh_59 hi16 dX7_sheet_65 ?_
                obtain ⟨S17, eS17, hs⟩ := g_let hs
                refine a_nmS eS17 ?_
                refine a_iinc (pc := 66) dX7_sheet_66 rfl (v := x4 + (1 : Int32)) rfl (Nat.le_of_ble_eq_true rfl) rfl (L' := [some (.ref (gad X 47)), some (.int x1), none, some (.int x3), some (.int (x4 + (1 : Int32)))]) rfl ?_
                refine a_goto (pc := 69) (tgt := 46) dX7_sheet_69 (by decide) ?_
                obtain rfl := Option.some.inj hs
                exact ih _ _ _ _ hR
          exact lp _ _ _ _ _ hR18
        · rw [if_neg c10] at h
          refine a_bipush (pc := 26) (v := (-14 : Int32)) dX7_sheet_26 (by decide) ?_
          obtain ⟨rfl, rfl⟩ := Prod.mk.inj (Option.some.inj h)
          exact a_iret hp dX7_sheet_28
      · rw [if_neg c9] at h
        refine a_iconst (pc := 20) (v := (-1 : Int32)) dX7_sheet_20 (by decide) ?_
        obtain ⟨rfl, rfl⟩ := Prod.mk.inj (Option.some.inj h)
        exact a_iret hp dX7_sheet_21
theorem dX7_drop_0 : decode cX7_drop 0 = .ok (.iload_n 1, 1) := by decide +kernel
theorem dX7_drop_1 : decode cX7_drop 1 = .ok (.invokestatic 201, 3) := by decide +kernel
theorem dX7_drop_4 : decode cX7_drop 4 = .ok (.ifCond .ne 5, 3) := by decide +kernel
theorem dX7_drop_7 : decode cX7_drop 7 = .ok (.iconst (-1), 1) := by decide +kernel
theorem dX7_drop_8 : decode cX7_drop 8 = .ok (.ireturn, 1) := by decide +kernel
theorem dX7_drop_9 : decode cX7_drop 9 = .ok (.aload_n 0, 1) := by decide +kernel
theorem dX7_drop_10 : decode cX7_drop 10 = .ok (.getfield 38, 3) := by decide +kernel
theorem dX7_drop_13 : decode cX7_drop 13 = .ok (.iload_n 1, 1) := by decide +kernel
theorem dX7_drop_14 : decode cX7_drop 14 = .ok (.iaload, 1) := by decide +kernel
theorem dX7_drop_15 : decode cX7_drop 15 = .ok (.ifCond .ge 6, 3) := by decide +kernel
theorem dX7_drop_18 : decode cX7_drop 18 = .ok (.bipush (-11), 2) := by decide +kernel
theorem dX7_drop_20 : decode cX7_drop 20 = .ok (.ireturn, 1) := by decide +kernel
theorem dX7_drop_21 : decode cX7_drop 21 = .ok (.aload_n 0, 1) := by decide +kernel
theorem dX7_drop_22 : decode cX7_drop 22 = .ok (.getfield 38, 3) := by decide +kernel
theorem dX7_drop_25 : decode cX7_drop 25 = .ok (.iload_n 1, 1) := by decide +kernel
theorem dX7_drop_26 : decode cX7_drop 26 = .ok (.iconst (-1), 1) := by decide +kernel
theorem dX7_drop_27 : decode cX7_drop 27 = .ok (.iastore, 1) := by decide +kernel
theorem dX7_drop_28 : decode cX7_drop 28 = .ok (.aload_n 0, 1) := by decide +kernel
theorem dX7_drop_29 : decode cX7_drop 29 = .ok (.getfield 41, 3) := by decide +kernel
theorem dX7_drop_32 : decode cX7_drop 32 = .ok (.iload_n 1, 1) := by decide +kernel
theorem dX7_drop_33 : decode cX7_drop 33 = .ok (.iaload, 1) := by decide +kernel
theorem dX7_drop_34 : decode cX7_drop 34 = .ok (.ireturn, 1) := by decide +kernel
def f_X7_drop (p1 : Int32) (S : gSt) : Option (Int32 × gSt) :=
gBind2 (f_X7_isSheet p1 S) fun r3 S1 =>
(if r3 = 0 then
some ((-1 : Int32), S1)
else
if gin p1 4 then
((if 0 ≤ (S1.1 57 p1.toNatClampNeg) then
if gin p1 4 then
gLet (gI S1 57 p1.toNatClampNeg (-1 : Int32)) fun S8 =>
(if gin p1 4 then
(some (S8.1 58 p1.toNatClampNeg, S8)) else none) else none
else
some ((-11 : Int32), S1))) else none)
set_option maxHeartbeats 4000000 in
set_option maxRecDepth 20000 in
theorem ok_X7_drop {p1 : Int32} {S S0 : gSt} {r0 : Int32}  (h : f_X7_drop p1 S = some (r0, S0)) : gCT yX7_drop cX7_drop 2 (some .int) 2 (fun w => [.ref (w.2.1 47), .int p1]) S (some (.int r0)) S0 := by
  refine gEnter (fun X => [some (.ref (gad X 47)), some (.int p1)]) (by decide) (fun X => ⟨rfl, rfl⟩) (fun w => Nat.le_of_ble_eq_true rfl) (fun X hp => ?_)
  show AW X RX7 2 cX7_drop 0 [some (.ref (gad X 47)), some (.int p1)] [] S
  unfold f_X7_drop at h
  refine a_iloadn (pc := 0) dX7_drop_0 rfl rfl ?_
  obtain ⟨r3, S1, hc2, h⟩ := g_bind2 h
  refine a_invSi (pc := 1) (ok_X7_isSheet hc2) gyX7_isSheet syX7_isSheet mlX7_201 (As := [.int p1]) rfl rfl (by decide) (st := []) rfl (Nat.le_of_ble_eq_true rfl) dX7_drop_1 ?_
  refine a_if_ne (pc := 4) (tgt := 9) dX7_drop_4 (by decide) (fun c4 => ?_) (fun c4 => ?_)
  · rw [if_neg c4] at h
    refine a_aloadn (pc := 9) dX7_drop_9 rfl rfl ?_
    refine a_getA (pc := 10) flX7_38 sh_47 rfl dX7_drop_10 ?_
    refine a_iloadn (pc := 13) dX7_drop_13 rfl rfl ?_
    obtain ⟨hi5, h⟩ := g_if h
    refine a_iald (pc := 14) sh_57 hi5 dX7_drop_14 ?_
    refine a_if_ge (pc := 15) (tgt := 21) dX7_drop_15 (by decide) (fun c6 => ?_) (fun c6 => ?_)
    · rw [if_pos c6] at h
      refine a_aloadn (pc := 21) dX7_drop_21 rfl rfl ?_
      refine a_getA (pc := 22) flX7_38 sh_47 rfl dX7_drop_22 ?_
      refine a_iloadn (pc := 25) dX7_drop_25 rfl rfl ?_
      refine a_iconst (pc := 26) (v := (-1 : Int32)) dX7_drop_26 (by decide) ?_
      obtain ⟨hi7, h⟩ := g_if h
      refine a_iast (pc := 27) sh_57 hi7 dX7_drop_27 ?_
      obtain ⟨S8, eS8, h⟩ := g_let h
      refine a_nmS eS8 ?_
      refine a_aloadn (pc := 28) dX7_drop_28 rfl rfl ?_
      refine a_getA (pc := 29) flX7_41 sh_47 rfl dX7_drop_29 ?_
      refine a_iloadn (pc := 32) dX7_drop_32 rfl rfl ?_
      obtain ⟨hi9, h⟩ := g_if h
      refine a_iald (pc := 33) sh_58 hi9 dX7_drop_33 ?_
      obtain ⟨rfl, rfl⟩ := Prod.mk.inj (Option.some.inj h)
      exact a_iret hp dX7_drop_34
    · rw [if_neg c6] at h
      refine a_bipush (pc := 18) (v := (-11 : Int32)) dX7_drop_18 (by decide) ?_
      obtain ⟨rfl, rfl⟩ := Prod.mk.inj (Option.some.inj h)
      exact a_iret hp dX7_drop_20
  · rw [if_pos c4] at h
    refine a_iconst (pc := 7) (v := (-1 : Int32)) dX7_drop_7 (by decide) ?_
    obtain ⟨rfl, rfl⟩ := Prod.mk.inj (Option.some.inj h)
    exact a_iret hp dX7_drop_8
theorem dX7_item_0 : decode cX7_item 0 = .ok (.iload_n 1, 1) := by decide +kernel
theorem dX7_item_1 : decode cX7_item 1 = .ok (.invokestatic 201, 3) := by decide +kernel
theorem dX7_item_4 : decode cX7_item 4 = .ok (.ifCond .eq 10, 3) := by decide +kernel
theorem dX7_item_7 : decode cX7_item 7 = .ok (.iload_n 2, 1) := by decide +kernel
theorem dX7_item_8 : decode cX7_item 8 = .ok (.invokestatic 204, 3) := by decide +kernel
theorem dX7_item_11 : decode cX7_item 11 = .ok (.ifCond .ne 5, 3) := by decide +kernel
theorem dX7_item_14 : decode cX7_item 14 = .ok (.iconst (-1), 1) := by decide +kernel
theorem dX7_item_15 : decode cX7_item 15 = .ok (.ireturn, 1) := by decide +kernel
theorem dX7_item_16 : decode cX7_item 16 = .ok (.aload_n 0, 1) := by decide +kernel
theorem dX7_item_17 : decode cX7_item 17 = .ok (.iload_n 1, 1) := by decide +kernel
theorem dX7_item_18 : decode cX7_item 18 = .ok (.iload_n 2, 1) := by decide +kernel
theorem dX7_item_19 : decode cX7_item 19 = .ok (.iload_n 3, 1) := by decide +kernel
theorem dX7_item_20 : decode cX7_item 20 = .ok (.iconst 1, 1) := by decide +kernel
theorem dX7_item_21 : decode cX7_item 21 = .ok (.invokevirtual 207, 3) := by decide +kernel
theorem dX7_item_24 : decode cX7_item 24 = .ok (.istore 6, 2) := by decide +kernel
theorem dX7_item_26 : decode cX7_item 26 = .ok (.iload 6, 2) := by decide +kernel
theorem dX7_item_28 : decode cX7_item 28 = .ok (.ifCond .ge 6, 3) := by decide +kernel
theorem dX7_item_31 : decode cX7_item 31 = .ok (.iload 6, 2) := by decide +kernel
theorem dX7_item_33 : decode cX7_item 33 = .ok (.ireturn, 1) := by decide +kernel
theorem dX7_item_34 : decode cX7_item 34 = .ok (.aload_n 0, 1) := by decide +kernel
theorem dX7_item_35 : decode cX7_item 35 = .ok (.getfield 44, 3) := by decide +kernel
theorem dX7_item_38 : decode cX7_item 38 = .ok (.bipush 24, 2) := by decide +kernel
theorem dX7_item_40 : decode cX7_item 40 = .ok (.iload_n 1, 1) := by decide +kernel
theorem dX7_item_41 : decode cX7_item 41 = .ok (.imul, 1) := by decide +kernel
theorem dX7_item_42 : decode cX7_item 42 = .ok (.iload_n 3, 1) := by decide +kernel
theorem dX7_item_43 : decode cX7_item 43 = .ok (.iadd, 1) := by decide +kernel
theorem dX7_item_44 : decode cX7_item 44 = .ok (.iload_n 2, 1) := by decide +kernel
theorem dX7_item_45 : decode cX7_item 45 = .ok (.ifCond .ne 11, 3) := by decide +kernel
theorem dX7_item_48 : decode cX7_item 48 = .ok (.lload 4, 2) := by decide +kernel
theorem dX7_item_50 : decode cX7_item 50 = .ok (.l2i, 1) := by decide +kernel
theorem dX7_item_51 : decode cX7_item 51 = .ok (.i2b, 1) := by decide +kernel
theorem dX7_item_52 : decode cX7_item 52 = .ok (.i2l, 1) := by decide +kernel
theorem dX7_item_53 : decode cX7_item 53 = .ok (.goto 30, 3) := by decide +kernel
theorem dX7_item_56 : decode cX7_item 56 = .ok (.iload_n 2, 1) := by decide +kernel
theorem dX7_item_57 : decode cX7_item 57 = .ok (.iconst 1, 1) := by decide +kernel
theorem dX7_item_58 : decode cX7_item 58 = .ok (.if_icmp .ne 11, 3) := by decide +kernel
theorem dX7_item_61 : decode cX7_item 61 = .ok (.lload 4, 2) := by decide +kernel
theorem dX7_item_63 : decode cX7_item 63 = .ok (.l2i, 1) := by decide +kernel
theorem dX7_item_64 : decode cX7_item 64 = .ok (.i2s, 1) := by decide +kernel
theorem dX7_item_65 : decode cX7_item 65 = .ok (.i2l, 1) := by decide +kernel
theorem dX7_item_66 : decode cX7_item 66 = .ok (.goto 17, 3) := by decide +kernel
theorem dX7_item_69 : decode cX7_item 69 = .ok (.iload_n 2, 1) := by decide +kernel
theorem dX7_item_70 : decode cX7_item 70 = .ok (.iconst 2, 1) := by decide +kernel
theorem dX7_item_71 : decode cX7_item 71 = .ok (.if_icmp .ne 10, 3) := by decide +kernel
theorem dX7_item_74 : decode cX7_item 74 = .ok (.lload 4, 2) := by decide +kernel
theorem dX7_item_76 : decode cX7_item 76 = .ok (.l2i, 1) := by decide +kernel
theorem dX7_item_77 : decode cX7_item 77 = .ok (.i2l, 1) := by decide +kernel
theorem dX7_item_78 : decode cX7_item 78 = .ok (.goto 5, 3) := by decide +kernel
theorem dX7_item_81 : decode cX7_item 81 = .ok (.lload 4, 2) := by decide +kernel
theorem dX7_item_83 : decode cX7_item 83 = .ok (.lastore, 1) := by decide +kernel
theorem dX7_item_84 : decode cX7_item 84 = .ok (.iconst 1, 1) := by decide +kernel
theorem dX7_item_85 : decode cX7_item 85 = .ok (.ireturn, 1) := by decide +kernel
def f_X7_item (p1 : Int32) (p2 : Int32) (p3 : Int32) (p4 : Int64) (S : gSt) : Option (Int32 × gSt) :=
gBind2 (f_X7_isSheet p1 S) fun r3 S1 =>
(if r3 = 0 then
some ((-1 : Int32), S1)
else
gBind2 (f_X7_isLane p2 S1) fun r7 S5 =>
(if r7 = 0 then
some ((-1 : Int32), S5)
else
gBind2 (f_X7_why p1 p2 p3 (1 : Int32) S5) fun r11 S9 =>
(if 0 ≤ r11 then
(if p2 = 0 then
if gin (((24 : Int32) * p1) + p3) 96 then
gLet (gJ S9 59 (((24 : Int32) * p1) + p3).toNatClampNeg (((p4.toInt32).toInt8.toInt32).toInt64)) fun S23 =>
(some ((1 : Int32), S23)) else none
else
(if p2 = (1 : Int32) then
if gin (((24 : Int32) * p1) + p3) 96 then
gLet (gJ S9 59 (((24 : Int32) * p1) + p3).toNatClampNeg (((p4.toInt32).toInt16.toInt32).toInt64)) fun S21 =>
(some ((1 : Int32), S21)) else none
else
(if p2 = (2 : Int32) then
if gin (((24 : Int32) * p1) + p3) 96 then
gLet (gJ S9 59 (((24 : Int32) * p1) + p3).toNatClampNeg ((p4.toInt32).toInt64)) fun S19 =>
(some ((1 : Int32), S19)) else none
else
if gin (((24 : Int32) * p1) + p3) 96 then
gLet (gJ S9 59 (((24 : Int32) * p1) + p3).toNatClampNeg p4) fun S17 =>
(some ((1 : Int32), S17)) else none)))
else
some (r11, S9))))
set_option maxHeartbeats 4000000 in
set_option maxRecDepth 20000 in
theorem ok_X7_item {p1 : Int32} {p2 : Int32} {p3 : Int32} {p4 : Int64} {S S0 : gSt} {r0 : Int32}  (h : f_X7_item p1 p2 p3 p4 S = some (r0, S0)) : gCT yX7_item cX7_item 7 (some .int) 2 (fun w => [.ref (w.2.1 47), .int p1, .int p2, .int p3, .long p4]) S (some (.int r0)) S0 := by
  refine gEnter (fun X => [some (.ref (gad X 47)), some (.int p1), some (.int p2), some (.int p3), some (.long p4), none, none]) (by decide) (fun X => ⟨rfl, rfl⟩) (fun w => Nat.le_of_ble_eq_true rfl) (fun X hp => ?_)
  show AW X RX7 2 cX7_item 0 [some (.ref (gad X 47)), some (.int p1), some (.int p2), some (.int p3), some (.long p4), none, none] [] S
  unfold f_X7_item at h
  refine a_iloadn (pc := 0) dX7_item_0 rfl rfl ?_
  obtain ⟨r3, S1, hc2, h⟩ := g_bind2 h
  refine a_invSi (pc := 1) (ok_X7_isSheet hc2) gyX7_isSheet syX7_isSheet mlX7_201 (As := [.int p1]) rfl rfl (by decide) (st := []) rfl (Nat.le_of_ble_eq_true rfl) dX7_item_1 ?_
  refine a_if_eq (pc := 4) (tgt := 14) dX7_item_4 (by decide) (fun c4 => ?_) (fun c4 => ?_)
  · rw [if_pos c4] at h
    refine a_iconst (pc := 14) (v := (-1 : Int32)) dX7_item_14 (by decide) ?_
    obtain ⟨rfl, rfl⟩ := Prod.mk.inj (Option.some.inj h)
    exact a_iret hp dX7_item_15
  · rw [if_neg c4] at h
    refine a_iloadn (pc := 7) dX7_item_7 rfl rfl ?_
    obtain ⟨r7, S5, hc6, h⟩ := g_bind2 h
    refine a_invSi (pc := 8) (ok_X7_isLane hc6) gyX7_isLane syX7_isLane mlX7_204 (As := [.int p2]) rfl rfl (by decide) (st := []) rfl (Nat.le_of_ble_eq_true rfl) dX7_item_8 ?_
    refine a_if_ne (pc := 11) (tgt := 16) dX7_item_11 (by decide) (fun c8 => ?_) (fun c8 => ?_)
    · rw [if_neg c8] at h
      refine a_aloadn (pc := 16) dX7_item_16 rfl rfl ?_
      refine a_iloadn (pc := 17) dX7_item_17 rfl rfl ?_
      refine a_iloadn (pc := 18) dX7_item_18 rfl rfl ?_
      refine a_iloadn (pc := 19) dX7_item_19 rfl rfl ?_
      refine a_iconst (pc := 20) (v := (1 : Int32)) dX7_item_20 (by decide) ?_
      obtain ⟨r11, S9, hc10, h⟩ := g_bind2 h
      refine a_invVi (pc := 21) (ok_X7_why hc10) gyX7_why vyX7_why mlX7_207 sh_47 rfl (As := [.int p1, .int p2, .int p3, .int (1 : Int32)]) rfl rfl (by decide) (st := []) rfl (Nat.le_of_ble_eq_true rfl) dX7_item_21 ?_
      refine a_istore (pc := 24) dX7_item_24 (Nat.le_of_ble_eq_true rfl) rfl (L' := [some (.ref (gad X 47)), some (.int p1), some (.int p2), some (.int p3), some (.long p4), none, some (.int r11)]) rfl ?_
      refine a_iload (pc := 26) dX7_item_26 rfl ?_
      refine a_if_ge (pc := 28) (tgt := 34) dX7_item_28 (by decide) (fun c12 => ?_) (fun c12 => ?_)
      · rw [if_pos c12] at h
        refine a_aloadn (pc := 34) dX7_item_34 rfl rfl ?_
        refine a_getA (pc := 35) flX7_44 sh_47 rfl dX7_item_35 ?_
        refine a_bipush (pc := 38) (v := (24 : Int32)) dX7_item_38 (by decide) ?_
        refine a_iloadn (pc := 40) dX7_item_40 rfl rfl ?_
        refine a_imul (pc := 41) dX7_item_41 ?_
        refine a_iloadn (pc := 42) dX7_item_42 rfl rfl ?_
        refine a_iadd (pc := 43) dX7_item_43 ?_
        refine a_iloadn (pc := 44) dX7_item_44 rfl rfl ?_
        refine a_if_ne (pc := 45) (tgt := 56) dX7_item_45 (by decide) (fun c13 => ?_) (fun c13 => ?_)
        · rw [if_neg c13] at h
          refine a_iloadn (pc := 56) dX7_item_56 rfl rfl ?_
          refine a_iconst (pc := 57) (v := (1 : Int32)) dX7_item_57 (by decide) ?_
          refine a_icmp_ne (pc := 58) (tgt := 69) dX7_item_58 (by decide) (fun c14 => ?_) (fun c14 => ?_)
          · rw [if_neg c14] at h
            refine a_iloadn (pc := 69) dX7_item_69 rfl rfl ?_
            refine a_iconst (pc := 70) (v := (2 : Int32)) dX7_item_70 (by decide) ?_
            refine a_icmp_ne (pc := 71) (tgt := 81) dX7_item_71 (by decide) (fun c15 => ?_) (fun c15 => ?_)
            · rw [if_neg c15] at h
              refine a_lload (pc := 81) dX7_item_81 rfl ?_
              obtain ⟨hi16, h⟩ := g_if h
              refine a_last (pc := 83) sh_59 hi16 dX7_item_83 ?_
              obtain ⟨S17, eS17, h⟩ := g_let h
              refine a_nmS eS17 ?_
              refine a_iconst (pc := 84) (v := (1 : Int32)) dX7_item_84 (by decide) ?_
              obtain ⟨rfl, rfl⟩ := Prod.mk.inj (Option.some.inj h)
              exact a_iret hp dX7_item_85
            · rw [if_pos c15] at h
              refine a_lload (pc := 74) dX7_item_74 rfl ?_
              refine a_l2i (pc := 76) dX7_item_76 ?_
              refine a_i2l (pc := 77) dX7_item_77 ?_
              refine a_goto (pc := 78) (tgt := 83) dX7_item_78 (by decide) ?_
              obtain ⟨hi18, h⟩ := g_if h
              refine a_last (pc := 83) sh_59 hi18 dX7_item_83 ?_
              obtain ⟨S19, eS19, h⟩ := g_let h
              refine a_nmS eS19 ?_
              refine a_iconst (pc := 84) (v := (1 : Int32)) dX7_item_84 (by decide) ?_
              obtain ⟨rfl, rfl⟩ := Prod.mk.inj (Option.some.inj h)
              exact a_iret hp dX7_item_85
          · rw [if_pos c14] at h
            refine a_lload (pc := 61) dX7_item_61 rfl ?_
            refine a_l2i (pc := 63) dX7_item_63 ?_
            refine a_i2s (pc := 64) dX7_item_64 ?_
            refine a_i2l (pc := 65) dX7_item_65 ?_
            refine a_goto (pc := 66) (tgt := 83) dX7_item_66 (by decide) ?_
            obtain ⟨hi20, h⟩ := g_if h
            refine a_last (pc := 83) sh_59 hi20 dX7_item_83 ?_
            obtain ⟨S21, eS21, h⟩ := g_let h
            refine a_nmS eS21 ?_
            refine a_iconst (pc := 84) (v := (1 : Int32)) dX7_item_84 (by decide) ?_
            obtain ⟨rfl, rfl⟩ := Prod.mk.inj (Option.some.inj h)
            exact a_iret hp dX7_item_85
        · rw [if_pos c13] at h
          refine a_lload (pc := 48) dX7_item_48 rfl ?_
          refine a_l2i (pc := 50) dX7_item_50 ?_
          refine a_i2b (pc := 51) dX7_item_51 ?_
          refine a_i2l (pc := 52) dX7_item_52 ?_
          refine a_goto (pc := 53) (tgt := 83) dX7_item_53 (by decide) ?_
          obtain ⟨hi22, h⟩ := g_if h
          refine a_last (pc := 83) sh_59 hi22 dX7_item_83 ?_
          obtain ⟨S23, eS23, h⟩ := g_let h
          refine a_nmS eS23 ?_
          refine a_iconst (pc := 84) (v := (1 : Int32)) dX7_item_84 (by decide) ?_
          obtain ⟨rfl, rfl⟩ := Prod.mk.inj (Option.some.inj h)
          exact a_iret hp dX7_item_85
      · rw [if_neg c12] at h
        refine a_iload (pc := 31) dX7_item_31 rfl ?_
        obtain ⟨rfl, rfl⟩ := Prod.mk.inj (Option.some.inj h)
        exact a_iret hp dX7_item_33
    · rw [if_pos c8] at h
      refine a_iconst (pc := 14) (v := (-1 : Int32)) dX7_item_14 (by decide) ?_
      obtain ⟨rfl, rfl⟩ := Prod.mk.inj (Option.some.inj h)
      exact a_iret hp dX7_item_15
theorem dX7_copy_0 : decode cX7_copy 0 = .ok (.iload_n 1, 1) := by decide +kernel
theorem dX7_copy_1 : decode cX7_copy 1 = .ok (.invokestatic 201, 3) := by decide +kernel
theorem dX7_copy_4 : decode cX7_copy 4 = .ok (.ifCond .eq 10, 3) := by decide +kernel
theorem dX7_copy_7 : decode cX7_copy 7 = .ok (.iload_n 3, 1) := by decide +kernel
theorem dX7_copy_8 : decode cX7_copy 8 = .ok (.invokestatic 201, 3) := by decide +kernel
theorem dX7_copy_11 : decode cX7_copy 11 = .ok (.ifCond .ne 5, 3) := by decide +kernel
theorem dX7_copy_14 : decode cX7_copy 14 = .ok (.iconst (-1), 1) := by decide +kernel
theorem dX7_copy_15 : decode cX7_copy 15 = .ok (.ireturn, 1) := by decide +kernel
theorem dX7_copy_16 : decode cX7_copy 16 = .ok (.aload_n 0, 1) := by decide +kernel
theorem dX7_copy_17 : decode cX7_copy 17 = .ok (.getfield 38, 3) := by decide +kernel
theorem dX7_copy_20 : decode cX7_copy 20 = .ok (.iload_n 1, 1) := by decide +kernel
theorem dX7_copy_21 : decode cX7_copy 21 = .ok (.iaload, 1) := by decide +kernel
theorem dX7_copy_22 : decode cX7_copy 22 = .ok (.ifCond .lt 12, 3) := by decide +kernel
theorem dX7_copy_25 : decode cX7_copy 25 = .ok (.aload_n 0, 1) := by decide +kernel
theorem dX7_copy_26 : decode cX7_copy 26 = .ok (.getfield 38, 3) := by decide +kernel
theorem dX7_copy_29 : decode cX7_copy 29 = .ok (.iload_n 3, 1) := by decide +kernel
theorem dX7_copy_30 : decode cX7_copy 30 = .ok (.iaload, 1) := by decide +kernel
theorem dX7_copy_31 : decode cX7_copy 31 = .ok (.ifCond .ge 6, 3) := by decide +kernel
theorem dX7_copy_34 : decode cX7_copy 34 = .ok (.bipush (-11), 2) := by decide +kernel
theorem dX7_copy_36 : decode cX7_copy 36 = .ok (.ireturn, 1) := by decide +kernel
theorem dX7_copy_37 : decode cX7_copy 37 = .ok (.aload_n 0, 1) := by decide +kernel
theorem dX7_copy_38 : decode cX7_copy 38 = .ok (.iload_n 3, 1) := by decide +kernel
theorem dX7_copy_39 : decode cX7_copy 39 = .ok (.aload_n 0, 1) := by decide +kernel
theorem dX7_copy_40 : decode cX7_copy 40 = .ok (.getfield 38, 3) := by decide +kernel
theorem dX7_copy_43 : decode cX7_copy 43 = .ok (.iload_n 1, 1) := by decide +kernel
theorem dX7_copy_44 : decode cX7_copy 44 = .ok (.iaload, 1) := by decide +kernel
theorem dX7_copy_45 : decode cX7_copy 45 = .ok (.iload 4, 2) := by decide +kernel
theorem dX7_copy_47 : decode cX7_copy 47 = .ok (.iload 5, 2) := by decide +kernel
theorem dX7_copy_49 : decode cX7_copy 49 = .ok (.invokevirtual 207, 3) := by decide +kernel
theorem dX7_copy_52 : decode cX7_copy 52 = .ok (.istore 6, 2) := by decide +kernel
theorem dX7_copy_54 : decode cX7_copy 54 = .ok (.iload 6, 2) := by decide +kernel
theorem dX7_copy_56 : decode cX7_copy 56 = .ok (.ifCond .ne 20, 3) := by decide +kernel
theorem dX7_copy_59 : decode cX7_copy 59 = .ok (.aload_n 0, 1) := by decide +kernel
theorem dX7_copy_60 : decode cX7_copy 60 = .ok (.iload_n 1, 1) := by decide +kernel
theorem dX7_copy_61 : decode cX7_copy 61 = .ok (.aload_n 0, 1) := by decide +kernel
theorem dX7_copy_62 : decode cX7_copy 62 = .ok (.getfield 38, 3) := by decide +kernel
theorem dX7_copy_65 : decode cX7_copy 65 = .ok (.iload_n 1, 1) := by decide +kernel
theorem dX7_copy_66 : decode cX7_copy 66 = .ok (.iaload, 1) := by decide +kernel
theorem dX7_copy_67 : decode cX7_copy 67 = .ok (.iload_n 2, 1) := by decide +kernel
theorem dX7_copy_68 : decode cX7_copy 68 = .ok (.iload 5, 2) := by decide +kernel
theorem dX7_copy_70 : decode cX7_copy 70 = .ok (.invokevirtual 207, 3) := by decide +kernel
theorem dX7_copy_73 : decode cX7_copy 73 = .ok (.goto 5, 3) := by decide +kernel
theorem dX7_copy_76 : decode cX7_copy 76 = .ok (.iload 6, 2) := by decide +kernel
theorem dX7_copy_78 : decode cX7_copy 78 = .ok (.istore 6, 2) := by decide +kernel
theorem dX7_copy_80 : decode cX7_copy 80 = .ok (.iload 6, 2) := by decide +kernel
theorem dX7_copy_82 : decode cX7_copy 82 = .ok (.ifCond .ge 6, 3) := by decide +kernel
theorem dX7_copy_85 : decode cX7_copy 85 = .ok (.iload 6, 2) := by decide +kernel
theorem dX7_copy_87 : decode cX7_copy 87 = .ok (.ireturn, 1) := by decide +kernel
theorem dX7_copy_88 : decode cX7_copy 88 = .ok (.iconst 0, 1) := by decide +kernel
theorem dX7_copy_89 : decode cX7_copy 89 = .ok (.istore 7, 2) := by decide +kernel
theorem dX7_copy_91 : decode cX7_copy 91 = .ok (.iload 7, 2) := by decide +kernel
theorem dX7_copy_93 : decode cX7_copy 93 = .ok (.iload 5, 2) := by decide +kernel
theorem dX7_copy_95 : decode cX7_copy 95 = .ok (.if_icmp .ge 30, 3) := by decide +kernel
theorem dX7_copy_98 : decode cX7_copy 98 = .ok (.aload_n 0, 1) := by decide +kernel
theorem dX7_copy_99 : decode cX7_copy 99 = .ok (.getfield 48, 3) := by decide +kernel
theorem dX7_copy_102 : decode cX7_copy 102 = .ok (.iload 7, 2) := by decide +kernel
theorem dX7_copy_104 : decode cX7_copy 104 = .ok (.aload_n 0, 1) := by decide +kernel
theorem dX7_copy_105 : decode cX7_copy 105 = .ok (.getfield 44, 3) := by decide +kernel
theorem dX7_copy_108 : decode cX7_copy 108 = .ok (.bipush 24, 2) := by decide +kernel
theorem dX7_copy_110 : decode cX7_copy 110 = .ok (.iload_n 1, 1) := by decide +kernel
theorem dX7_copy_111 : decode cX7_copy 111 = .ok (.imul, 1) := by decide +kernel
theorem dX7_copy_112 : decode cX7_copy 112 = .ok (.iload_n 2, 1) := by decide +kernel
theorem dX7_copy_113 : decode cX7_copy 113 = .ok (.iadd, 1) := by decide +kernel
theorem dX7_copy_114 : decode cX7_copy 114 = .ok (.iload 7, 2) := by decide +kernel
theorem dX7_copy_116 : decode cX7_copy 116 = .ok (.iadd, 1) := by decide +kernel
theorem dX7_copy_117 : decode cX7_copy 117 = .ok (.laload, 1) := by decide +kernel
theorem dX7_copy_118 : decode cX7_copy 118 = .ok (.lastore, 1) := by decide +kernel
theorem dX7_copy_119 : decode cX7_copy 119 = .ok (.iinc 7 1, 3) := by decide +kernel
theorem dX7_copy_122 : decode cX7_copy 122 = .ok (.goto (-31), 3) := by decide +kernel
theorem dX7_copy_125 : decode cX7_copy 125 = .ok (.iconst 0, 1) := by decide +kernel
theorem dX7_copy_126 : decode cX7_copy 126 = .ok (.istore 7, 2) := by decide +kernel
theorem dX7_copy_128 : decode cX7_copy 128 = .ok (.iload 7, 2) := by decide +kernel
theorem dX7_copy_130 : decode cX7_copy 130 = .ok (.iload 5, 2) := by decide +kernel
theorem dX7_copy_132 : decode cX7_copy 132 = .ok (.if_icmp .ge 31, 3) := by decide +kernel
theorem dX7_copy_135 : decode cX7_copy 135 = .ok (.aload_n 0, 1) := by decide +kernel
theorem dX7_copy_136 : decode cX7_copy 136 = .ok (.getfield 44, 3) := by decide +kernel
theorem dX7_copy_139 : decode cX7_copy 139 = .ok (.bipush 24, 2) := by decide +kernel
theorem dX7_copy_141 : decode cX7_copy 141 = .ok (.iload_n 3, 1) := by decide +kernel
theorem dX7_copy_142 : decode cX7_copy 142 = .ok (.imul, 1) := by decide +kernel
theorem dX7_copy_143 : decode cX7_copy 143 = .ok (.iload 4, 2) := by decide +kernel
theorem dX7_copy_145 : decode cX7_copy 145 = .ok (.iadd, 1) := by decide +kernel
theorem dX7_copy_146 : decode cX7_copy 146 = .ok (.iload 7, 2) := by decide +kernel
theorem dX7_copy_148 : decode cX7_copy 148 = .ok (.iadd, 1) := by decide +kernel
theorem dX7_copy_149 : decode cX7_copy 149 = .ok (.aload_n 0, 1) := by decide +kernel
theorem dX7_copy_150 : decode cX7_copy 150 = .ok (.getfield 48, 3) := by decide +kernel
theorem dX7_copy_153 : decode cX7_copy 153 = .ok (.iload 7, 2) := by decide +kernel
theorem dX7_copy_155 : decode cX7_copy 155 = .ok (.laload, 1) := by decide +kernel
theorem dX7_copy_156 : decode cX7_copy 156 = .ok (.lastore, 1) := by decide +kernel
theorem dX7_copy_157 : decode cX7_copy 157 = .ok (.iinc 7 1, 3) := by decide +kernel
theorem dX7_copy_160 : decode cX7_copy 160 = .ok (.goto (-32), 3) := by decide +kernel
theorem dX7_copy_163 : decode cX7_copy 163 = .ok (.iload 5, 2) := by decide +kernel
theorem dX7_copy_165 : decode cX7_copy 165 = .ok (.ireturn, 1) := by decide +kernel
def f_X7_copy_s91_b (x1 : Int32) (x2 : Int32) (x3 : Int32) (x4 : Int32) (x5 : Int32) (x7 : Int32) (S : gSt) : Option ((Int32 × Int32 × Int32 × Int32 × Int32 × Int32 × gSt) ⊕ (Int32 × Int32 × Int32 × gSt)) :=
(if x5 ≤ x7 then
some (.inr (x3, x4, x5, S))
else
if gin ((((24 : Int32) * x1) + x2) + x7) 96 then
(if gin x7 24 then
gLet (gJ S 60 x7.toNatClampNeg (S.2 59 ((((24 : Int32) * x1) + x2) + x7).toNatClampNeg)) fun S5 =>
(some (.inl (x1, x2, x3, x4, x5, x7 + (1 : Int32), S5))) else none) else none)
def f_X7_copy_s91 : (Int32 × Int32 × Int32 × Int32 × Int32 × Int32 × gSt) → Option ((Int32 × Int32 × Int32 × Int32 × Int32 × Int32 × gSt) ⊕ (Int32 × Int32 × Int32 × gSt)) := fun t => f_X7_copy_s91_b t.1 t.2.1 t.2.2.1 t.2.2.2.1 t.2.2.2.2.1 t.2.2.2.2.2.1 t.2.2.2.2.2.2
def f_X7_copy_s128_b (x3 : Int32) (x4 : Int32) (x5 : Int32) (x7 : Int32) (S : gSt) : Option ((Int32 × Int32 × Int32 × Int32 × gSt) ⊕ (Int32 × gSt)) :=
(if x5 ≤ x7 then
some (.inr (x5, S))
else
if gin x7 24 then
(if gin ((((24 : Int32) * x3) + x4) + x7) 96 then
gLet (gJ S 59 ((((24 : Int32) * x3) + x4) + x7).toNatClampNeg (S.2 60 x7.toNatClampNeg)) fun S10 =>
(some (.inl (x3, x4, x5, x7 + (1 : Int32), S10))) else none) else none)
def f_X7_copy_s128 : (Int32 × Int32 × Int32 × Int32 × gSt) → Option ((Int32 × Int32 × Int32 × Int32 × gSt) ⊕ (Int32 × gSt)) := fun t => f_X7_copy_s128_b t.1 t.2.1 t.2.2.1 t.2.2.2.1 t.2.2.2.2
def f_X7_copy_j78 (x1 : Int32) (x2 : Int32) (x3 : Int32) (x4 : Int32) (x5 : Int32) (t0 : Int32) (S : gSt) : Option (Int32 × gSt) :=
(if 0 ≤ t0 then
(gLoop (f_X7_copy_s91) gFuel (x1, x2, x3, x4, x5, (0 : Int32), S)).bind fun q6 => match q6 with
| (y3_6, y4_6, y5_6, S6) =>
(gLoop (f_X7_copy_s128) gFuel (y3_6, y4_6, y5_6, (0 : Int32), S6)).bind fun q11 => match q11 with
| (y5_11, S11) =>
some (y5_11, S11)
else
some (t0, S))
def f_X7_copy (p1 : Int32) (p2 : Int32) (p3 : Int32) (p4 : Int32) (p5 : Int32) (S : gSt) : Option (Int32 × gSt) :=
gBind2 (f_X7_isSheet p1 S) fun r14 S12 =>
(if r14 = 0 then
some ((-1 : Int32), S12)
else
gBind2 (f_X7_isSheet p3 S12) fun r18 S16 =>
(if r18 = 0 then
some ((-1 : Int32), S16)
else
if gin p1 4 then
((if (S16.1 57 p1.toNatClampNeg) < 0 then
some ((-11 : Int32), S16)
else
if gin p3 4 then
((if 0 ≤ (S16.1 57 p3.toNatClampNeg) then
if gin p1 4 then
(gBind2 (f_X7_why p3 (S16.1 57 p1.toNatClampNeg) p4 p5 S16) fun r27 S25 =>
(if r27 = 0 then
if gin p1 4 then
(gBind2 (f_X7_why p1 (S25.1 57 p1.toNatClampNeg) p2 p5 S25) fun r32 S30 =>
f_X7_copy_j78 p1 p2 p3 p4 p5 r32 S30) else none
else
f_X7_copy_j78 p1 p2 p3 p4 p5 r27 S25)) else none
else
some ((-11 : Int32), S16))) else none)) else none))
set_option maxHeartbeats 4000000 in
set_option maxRecDepth 20000 in
theorem ok_X7_copy {p1 : Int32} {p2 : Int32} {p3 : Int32} {p4 : Int32} {p5 : Int32} {S S0 : gSt} {r0 : Int32}  (h : f_X7_copy p1 p2 p3 p4 p5 S = some (r0, S0)) : gCT yX7_copy cX7_copy 8 (some .int) 2 (fun w => [.ref (w.2.1 47), .int p1, .int p2, .int p3, .int p4, .int p5]) S (some (.int r0)) S0 := by
  refine gEnter (fun X => [some (.ref (gad X 47)), some (.int p1), some (.int p2), some (.int p3), some (.int p4), some (.int p5), none, none]) (by decide) (fun X => ⟨rfl, rfl⟩) (fun w => Nat.le_of_ble_eq_true rfl) (fun X hp => ?_)
  show AW X RX7 2 cX7_copy 0 [some (.ref (gad X 47)), some (.int p1), some (.int p2), some (.int p3), some (.int p4), some (.int p5), none, none] [] S
  unfold f_X7_copy at h
  have J78 : ∀ (x1 : Int32) (x2 : Int32) (x3 : Int32) (x4 : Int32) (x5 : Int32) (t0 : Int32) (S : gSt), f_X7_copy_j78 x1 x2 x3 x4 x5 t0 S = some (r0, S0) → AW X RX7 2 cX7_copy 78 [some (.ref (gad X 47)), some (.int x1), some (.int x2), some (.int x3), some (.int x4), some (.int x5), none, none] [.int t0] S := by
    intro x1 x2 x3 x4 x5 t0 S h
    unfold f_X7_copy_j78 at h
    refine a_istore (pc := 78) dX7_copy_78 (Nat.le_of_ble_eq_true rfl) rfl (L' := [some (.ref (gad X 47)), some (.int x1), some (.int x2), some (.int x3), some (.int x4), some (.int x5), some (.int t0), none]) rfl ?_
    refine a_iload (pc := 80) dX7_copy_80 rfl ?_
    refine a_if_ge (pc := 82) (tgt := 88) dX7_copy_82 (by decide) (fun c1 => ?_) (fun c1 => ?_)
    · rw [if_pos c1] at h
      refine a_iconst (pc := 88) (v := (0 : Int32)) dX7_copy_88 (by decide) ?_
      refine a_istore (pc := 89) dX7_copy_89 (Nat.le_of_ble_eq_true rfl) rfl (L' := [some (.ref (gad X 47)), some (.int x1), some (.int x2), some (.int x3), some (.int x4), some (.int x5), some (.int t0), some (.int (0 : Int32))]) rfl ?_
      obtain ⟨R6, hR6, h⟩ := g_bind h
      refine a_mask [true, true, true, true, true, true, false, true] (L' := [some (.ref (gad X 47)), some (.int x1), some (.int x2), some (.int x3), some (.int x4), some (.int x5), none, some (.int (0 : Int32))]) rfl ?_
      have E91 : ∀ (y3_6 : Int32) (y4_6 : Int32) (y5_6 : Int32) (S6 : gSt), ((gLoop (f_X7_copy_s128) gFuel (y3_6, y4_6, y5_6, (0 : Int32), S6)).bind fun q11 => match q11 with | (y5_11, S11) => some (y5_11, S11)) = some (r0, S0) → AW X RX7 2 cX7_copy 125 [some (.ref (gad X 47)), none, none, some (.int y3_6), some (.int y4_6), some (.int y5_6), none, none] [] S6 := by
        intro y3_6 y4_6 y5_6 S6 h
        refine a_iconst (pc := 125) (v := (0 : Int32)) dX7_copy_125 (by decide) ?_
        refine a_istore (pc := 126) dX7_copy_126 (Nat.le_of_ble_eq_true rfl) rfl (L' := [some (.ref (gad X 47)), none, none, some (.int y3_6), some (.int y4_6), some (.int y5_6), none, some (.int (0 : Int32))]) rfl ?_
        obtain ⟨R11, hR11, h⟩ := g_bind h
        have E128 : ∀ (y5_11 : Int32) (S11 : gSt), (some (y5_11, S11)) = some (r0, S0) → AW X RX7 2 cX7_copy 163 [none, none, none, none, none, some (.int y5_11), none, none] [] S11 := by
          intro y5_11 S11 h
          refine a_iload (pc := 163) dX7_copy_163 rfl ?_
          obtain ⟨rfl, rfl⟩ := Prod.mk.inj (Option.some.inj h)
          exact a_iret hp dX7_copy_165
        have lp : ∀ (n : Nat) (x3 : Int32) (x4 : Int32) (x5 : Int32) (x7 : Int32) (S : gSt), gLoop (f_X7_copy_s128) n (x3, x4, x5, x7, S) = some R11 → AW X RX7 2 cX7_copy 128 [some (.ref (gad X 47)), none, none, some (.int x3), some (.int x4), some (.int x5), none, some (.int x7)] [] S := by
          intro n
          induction n with
          | zero => intro x3 x4 x5 x7 S hR; cases hR
          | succ n ih =>
            intro x3 x4 x5 x7 S hR
            obtain ⟨q, hs, hR⟩ := g_bind hR
            have hs : f_X7_copy_s128_b x3 x4 x5 x7 S = some q := hs
            unfold f_X7_copy_s128_b at hs
            refine a_iload (pc := 128) dX7_copy_128 rfl ?_
            refine a_iload (pc := 130) dX7_copy_130 rfl ?_
            refine a_icmp_ge (pc := 132) (tgt := 163) dX7_copy_132 (by decide) (fun c7 => ?_) (fun c7 => ?_)
            · rw [if_pos c7] at hs
              obtain rfl := Option.some.inj hs
              obtain rfl := Option.some.inj hR
              refine a_mask [false, true, true, false, false, true, true, false] (L' := [none, none, none, none, none, some (.int x5), none, none]) rfl ?_
              exact E128 _ _ h
            · rw [if_neg c7] at hs
              refine a_aloadn (pc := 135) dX7_copy_135 rfl rfl ?_
              refine a_getA (pc := 136) flX7_44 sh_47 rfl dX7_copy_136 ?_
              refine a_bipush (pc := 139) (v := (24 : Int32)) dX7_copy_139 (by decide) ?_
              refine a_iloadn (pc := 141) dX7_copy_141 rfl rfl ?_
              refine a_imul (pc := 142) dX7_copy_142 ?_
              refine a_iload (pc := 143) dX7_copy_143 rfl ?_
              refine a_iadd (pc := 145) dX7_copy_145 ?_
              refine a_iload (pc := 146) dX7_copy_146 rfl ?_
              refine a_iadd (pc := 148) dX7_copy_148 ?_
              refine a_aloadn (pc := 149) dX7_copy_149 rfl rfl ?_
              refine a_getA (pc := 150) flX7_48 sh_47 rfl dX7_copy_150 ?_
              refine a_iload (pc := 153) dX7_copy_153 rfl ?_
              obtain ⟨hi8, hs⟩ := g_if hs
              refine a_lald (pc := 155) sh_60 hi8 dX7_copy_155 ?_
              obtain ⟨hi9, hs⟩ := g_if hs
              refine a_last (pc := 156) sh_59 hi9 dX7_copy_156 ?_
              obtain ⟨S10, eS10, hs⟩ := g_let hs
              refine a_nmS eS10 ?_
              refine a_iinc (pc := 157) dX7_copy_157 rfl (v := x7 + (1 : Int32)) rfl (Nat.le_of_ble_eq_true rfl) rfl (L' := [some (.ref (gad X 47)), none, none, some (.int x3), some (.int x4), some (.int x5), none, some (.int (x7 + (1 : Int32)))]) rfl ?_
              refine a_goto (pc := 160) (tgt := 128) dX7_copy_160 (by decide) ?_
              obtain rfl := Option.some.inj hs
              exact ih _ _ _ _ _ hR
        exact lp _ _ _ _ _ _ hR11
      have lp : ∀ (n : Nat) (x1 : Int32) (x2 : Int32) (x3 : Int32) (x4 : Int32) (x5 : Int32) (x7 : Int32) (S : gSt), gLoop (f_X7_copy_s91) n (x1, x2, x3, x4, x5, x7, S) = some R6 → AW X RX7 2 cX7_copy 91 [some (.ref (gad X 47)), some (.int x1), some (.int x2), some (.int x3), some (.int x4), some (.int x5), none, some (.int x7)] [] S := by
        intro n
        induction n with
        | zero => intro x1 x2 x3 x4 x5 x7 S hR; cases hR
        | succ n ih =>
          intro x1 x2 x3 x4 x5 x7 S hR
          obtain ⟨q, hs, hR⟩ := g_bind hR
          have hs : f_X7_copy_s91_b x1 x2 x3 x4 x5 x7 S = some q := hs
          unfold f_X7_copy_s91_b at hs
          refine a_iload (pc := 91) dX7_copy_91 rfl ?_
          refine a_iload (pc := 93) dX7_copy_93 rfl ?_
          refine a_icmp_ge (pc := 95) (tgt := 125) dX7_copy_95 (by decide) (fun c2 => ?_) (fun c2 => ?_)
          · rw [if_pos c2] at hs
            obtain rfl := Option.some.inj hs
            obtain rfl := Option.some.inj hR
            refine a_mask [true, false, false, true, true, true, true, false] (L' := [some (.ref (gad X 47)), none, none, some (.int x3), some (.int x4), some (.int x5), none, none]) rfl ?_
            exact E91 _ _ _ _ h
          · rw [if_neg c2] at hs
            refine a_aloadn (pc := 98) dX7_copy_98 rfl rfl ?_
            refine a_getA (pc := 99) flX7_48 sh_47 rfl dX7_copy_99 ?_
            refine a_iload (pc := 102) dX7_copy_102 rfl ?_
            refine a_aloadn (pc := 104) dX7_copy_104 rfl rfl ?_
            refine a_getA (pc := 105) flX7_44 sh_47 rfl dX7_copy_105 ?_
            refine a_bipush (pc := 108) (v := (24 : Int32)) dX7_copy_108 (by decide) ?_
            refine a_iloadn (pc := 110) dX7_copy_110 rfl rfl ?_
            refine a_imul (pc := 111) dX7_copy_111 ?_
            refine a_iloadn (pc := 112) dX7_copy_112 rfl rfl ?_
            refine a_iadd (pc := 113) dX7_copy_113 ?_
            refine a_iload (pc := 114) dX7_copy_114 rfl ?_
            refine a_iadd (pc := 116) dX7_copy_116 ?_
            obtain ⟨hi3, hs⟩ := g_if hs
            refine a_lald (pc := 117) sh_59 hi3 dX7_copy_117 ?_
            obtain ⟨hi4, hs⟩ := g_if hs
            refine a_last (pc := 118) sh_60 hi4 dX7_copy_118 ?_
            obtain ⟨S5, eS5, hs⟩ := g_let hs
            refine a_nmS eS5 ?_
            refine a_iinc (pc := 119) dX7_copy_119 rfl (v := x7 + (1 : Int32)) rfl (Nat.le_of_ble_eq_true rfl) rfl (L' := [some (.ref (gad X 47)), some (.int x1), some (.int x2), some (.int x3), some (.int x4), some (.int x5), none, some (.int (x7 + (1 : Int32)))]) rfl ?_
            refine a_goto (pc := 122) (tgt := 91) dX7_copy_122 (by decide) ?_
            obtain rfl := Option.some.inj hs
            exact ih _ _ _ _ _ _ _ hR
      exact lp _ _ _ _ _ _ _ _ hR6
    · rw [if_neg c1] at h
      refine a_iload (pc := 85) dX7_copy_85 rfl ?_
      obtain ⟨rfl, rfl⟩ := Prod.mk.inj (Option.some.inj h)
      exact a_iret hp dX7_copy_87
  refine a_iloadn (pc := 0) dX7_copy_0 rfl rfl ?_
  obtain ⟨r14, S12, hc13, h⟩ := g_bind2 h
  refine a_invSi (pc := 1) (ok_X7_isSheet hc13) gyX7_isSheet syX7_isSheet mlX7_201 (As := [.int p1]) rfl rfl (by decide) (st := []) rfl (Nat.le_of_ble_eq_true rfl) dX7_copy_1 ?_
  refine a_if_eq (pc := 4) (tgt := 14) dX7_copy_4 (by decide) (fun c15 => ?_) (fun c15 => ?_)
  · rw [if_pos c15] at h
    refine a_iconst (pc := 14) (v := (-1 : Int32)) dX7_copy_14 (by decide) ?_
    obtain ⟨rfl, rfl⟩ := Prod.mk.inj (Option.some.inj h)
    exact a_iret hp dX7_copy_15
  · rw [if_neg c15] at h
    refine a_iloadn (pc := 7) dX7_copy_7 rfl rfl ?_
    obtain ⟨r18, S16, hc17, h⟩ := g_bind2 h
    refine a_invSi (pc := 8) (ok_X7_isSheet hc17) gyX7_isSheet syX7_isSheet mlX7_201 (As := [.int p3]) rfl rfl (by decide) (st := []) rfl (Nat.le_of_ble_eq_true rfl) dX7_copy_8 ?_
    refine a_if_ne (pc := 11) (tgt := 16) dX7_copy_11 (by decide) (fun c19 => ?_) (fun c19 => ?_)
    · rw [if_neg c19] at h
      refine a_aloadn (pc := 16) dX7_copy_16 rfl rfl ?_
      refine a_getA (pc := 17) flX7_38 sh_47 rfl dX7_copy_17 ?_
      refine a_iloadn (pc := 20) dX7_copy_20 rfl rfl ?_
      obtain ⟨hi20, h⟩ := g_if h
      refine a_iald (pc := 21) sh_57 hi20 dX7_copy_21 ?_
      refine a_if_lt (pc := 22) (tgt := 34) dX7_copy_22 (by decide) (fun c21 => ?_) (fun c21 => ?_)
      · rw [if_pos c21] at h
        refine a_bipush (pc := 34) (v := (-11 : Int32)) dX7_copy_34 (by decide) ?_
        obtain ⟨rfl, rfl⟩ := Prod.mk.inj (Option.some.inj h)
        exact a_iret hp dX7_copy_36
      · rw [if_neg c21] at h
        refine a_aloadn (pc := 25) dX7_copy_25 rfl rfl ?_
        refine a_getA (pc := 26) flX7_38 sh_47 rfl dX7_copy_26 ?_
        refine a_iloadn (pc := 29) dX7_copy_29 rfl rfl ?_
        obtain ⟨hi22, h⟩ := g_if h
        refine a_iald (pc := 30) sh_57 hi22 dX7_copy_30 ?_
        refine a_if_ge (pc := 31) (tgt := 37) dX7_copy_31 (by decide) (fun c23 => ?_) (fun c23 => ?_)
        · rw [if_pos c23] at h
          refine a_aloadn (pc := 37) dX7_copy_37 rfl rfl ?_
          refine a_iloadn (pc := 38) dX7_copy_38 rfl rfl ?_
          refine a_aloadn (pc := 39) dX7_copy_39 rfl rfl ?_
          refine a_getA (pc := 40) flX7_38 sh_47 rfl dX7_copy_40 ?_
          refine a_iloadn (pc := 43) dX7_copy_43 rfl rfl ?_
          obtain ⟨hi24, h⟩ := g_if h
          refine a_iald (pc := 44) sh_57 hi24 dX7_copy_44 ?_
          refine a_iload (pc := 45) dX7_copy_45 rfl ?_
          refine a_iload (pc := 47) dX7_copy_47 rfl ?_
          obtain ⟨r27, S25, hc26, h⟩ := g_bind2 h
          refine a_invVi (pc := 49) (ok_X7_why hc26) gyX7_why vyX7_why mlX7_207 sh_47 rfl (As := [.int p3, .int (S16.1 57 p1.toNatClampNeg), .int p4, .int p5]) rfl rfl (by decide) (st := []) rfl (Nat.le_of_ble_eq_true rfl) dX7_copy_49 ?_
          refine a_istore (pc := 52) dX7_copy_52 (Nat.le_of_ble_eq_true rfl) rfl (L' := [some (.ref (gad X 47)), some (.int p1), some (.int p2), some (.int p3), some (.int p4), some (.int p5), some (.int r27), none]) rfl ?_
          refine a_iload (pc := 54) dX7_copy_54 rfl ?_
          refine a_if_ne (pc := 56) (tgt := 76) dX7_copy_56 (by decide) (fun c28 => ?_) (fun c28 => ?_)
          · rw [if_neg c28] at h
            refine a_iload (pc := 76) dX7_copy_76 rfl ?_
            refine a_mask [true, true, true, true, true, true, false, true] (L' := [some (.ref (gad X 47)), some (.int p1), some (.int p2), some (.int p3), some (.int p4), some (.int p5), none, none]) rfl ?_
            exact J78 _ _ _ _ _ _ _ h
          · rw [if_pos c28] at h
            refine a_aloadn (pc := 59) dX7_copy_59 rfl rfl ?_
            refine a_iloadn (pc := 60) dX7_copy_60 rfl rfl ?_
            refine a_aloadn (pc := 61) dX7_copy_61 rfl rfl ?_
            refine a_getA (pc := 62) flX7_38 sh_47 rfl dX7_copy_62 ?_
            refine a_iloadn (pc := 65) dX7_copy_65 rfl rfl ?_
            obtain ⟨hi29, h⟩ := g_if h
            refine a_iald (pc := 66) sh_57 hi29 dX7_copy_66 ?_
            refine a_iloadn (pc := 67) dX7_copy_67 rfl rfl ?_
            refine a_iload (pc := 68) dX7_copy_68 rfl ?_
            obtain ⟨r32, S30, hc31, h⟩ := g_bind2 h
            refine a_invVi (pc := 70) (ok_X7_why hc31) gyX7_why vyX7_why mlX7_207 sh_47 rfl (As := [.int p1, .int (S25.1 57 p1.toNatClampNeg), .int p2, .int p5]) rfl rfl (by decide) (st := []) rfl (Nat.le_of_ble_eq_true rfl) dX7_copy_70 ?_
            refine a_goto (pc := 73) (tgt := 78) dX7_copy_73 (by decide) ?_
            refine a_mask [true, true, true, true, true, true, false, true] (L' := [some (.ref (gad X 47)), some (.int p1), some (.int p2), some (.int p3), some (.int p4), some (.int p5), none, none]) rfl ?_
            exact J78 _ _ _ _ _ _ _ h
        · rw [if_neg c23] at h
          refine a_bipush (pc := 34) (v := (-11 : Int32)) dX7_copy_34 (by decide) ?_
          obtain ⟨rfl, rfl⟩ := Prod.mk.inj (Option.some.inj h)
          exact a_iret hp dX7_copy_36
    · rw [if_pos c19] at h
      refine a_iconst (pc := 14) (v := (-1 : Int32)) dX7_copy_14 (by decide) ?_
      obtain ⟨rfl, rfl⟩ := Prod.mk.inj (Option.some.inj h)
      exact a_iret hp dX7_copy_15
