theorem dX5_go_0 : decode cX5_go 0 = .ok (.aload_n 1, 1) := by decide +kernel
theorem dX5_go_1 : decode cX5_go 1 = .ok (.getfield 47, 3) := by decide +kernel
theorem dX5_go_4 : decode cX5_go 4 = .ok (.aload_n 0, 1) := by decide +kernel
theorem dX5_go_5 : decode cX5_go 5 = .ok (.getfield 22, 3) := by decide +kernel
theorem dX5_go_8 : decode cX5_go 8 = .ok (.aload_n 0, 1) := by decide +kernel
theorem dX5_go_9 : decode cX5_go 9 = .ok (.getfield 9, 3) := by decide +kernel
theorem dX5_go_12 : decode cX5_go 12 = .ok (.iconst 0, 1) := by decide +kernel
theorem dX5_go_13 : decode cX5_go 13 = .ok (.bipush 64, 2) := by decide +kernel
theorem dX5_go_15 : decode cX5_go 15 = .ok (.invokestatic 41, 3) := by decide +kernel
theorem dX5_go_18 : decode cX5_go 18 = .ok (.aload_n 0, 1) := by decide +kernel
theorem dX5_go_19 : decode cX5_go 19 = .ok (.getfield 15, 3) := by decide +kernel
theorem dX5_go_22 : decode cX5_go 22 = .ok (.iconst 0, 1) := by decide +kernel
theorem dX5_go_23 : decode cX5_go 23 = .ok (.aload_n 2, 1) := by decide +kernel
theorem dX5_go_24 : decode cX5_go 24 = .ok (.getfield 40, 3) := by decide +kernel
theorem dX5_go_27 : decode cX5_go 27 = .ok (.aload_n 0, 1) := by decide +kernel
theorem dX5_go_28 : decode cX5_go 28 = .ok (.getfield 22, 3) := by decide +kernel
theorem dX5_go_31 : decode cX5_go 31 = .ok (.bipush 64, 2) := by decide +kernel
theorem dX5_go_33 : decode cX5_go 33 = .ok (.invokestatic 41, 3) := by decide +kernel
theorem dX5_go_36 : decode cX5_go 36 = .ok (.aload_n 1, 1) := by decide +kernel
theorem dX5_go_37 : decode cX5_go 37 = .ok (.getfield 48, 3) := by decide +kernel
theorem dX5_go_40 : decode cX5_go 40 = .ok (.aload_n 0, 1) := by decide +kernel
theorem dX5_go_41 : decode cX5_go 41 = .ok (.getfield 18, 3) := by decide +kernel
theorem dX5_go_44 : decode cX5_go 44 = .ok (.iaload, 1) := by decide +kernel
theorem dX5_go_45 : decode cX5_go 45 = .ok (.istore 5, 2) := by decide +kernel
theorem dX5_go_47 : decode cX5_go 47 = .ok (.iconst 0, 1) := by decide +kernel
theorem dX5_go_48 : decode cX5_go 48 = .ok (.istore 6, 2) := by decide +kernel
theorem dX5_go_50 : decode cX5_go 50 = .ok (.iload 6, 2) := by decide +kernel
theorem dX5_go_52 : decode cX5_go 52 = .ok (.iload 4, 2) := by decide +kernel
theorem dX5_go_54 : decode cX5_go 54 = .ok (.if_icmp .ge 93, 3) := by decide +kernel
theorem dX5_go_57 : decode cX5_go 57 = .ok (.iload 5, 2) := by decide +kernel
theorem dX5_go_59 : decode cX5_go 59 = .ok (.iload_n 3, 1) := by decide +kernel
theorem dX5_go_60 : decode cX5_go 60 = .ok (.iload 4, 2) := by decide +kernel
theorem dX5_go_62 : decode cX5_go 62 = .ok (.iload 6, 2) := by decide +kernel
theorem dX5_go_64 : decode cX5_go 64 = .ok (.invokestatic 51, 3) := by decide +kernel
theorem dX5_go_67 : decode cX5_go 67 = .ok (.invokestatic 55, 3) := by decide +kernel
theorem dX5_go_70 : decode cX5_go 70 = .ok (.istore 7, 2) := by decide +kernel
theorem dX5_go_72 : decode cX5_go 72 = .ok (.iload 7, 2) := by decide +kernel
theorem dX5_go_74 : decode cX5_go 74 = .ok (.ifCond .ge 5, 3) := by decide +kernel
theorem dX5_go_77 : decode cX5_go 77 = .ok (.iconst 0, 1) := by decide +kernel
theorem dX5_go_78 : decode cX5_go 78 = .ok (.ireturn, 1) := by decide +kernel
theorem dX5_go_79 : decode cX5_go 79 = .ok (.aload_n 1, 1) := by decide +kernel
theorem dX5_go_80 : decode cX5_go 80 = .ok (.getfield 59, 3) := by decide +kernel
theorem dX5_go_83 : decode cX5_go 83 = .ok (.aload_n 0, 1) := by decide +kernel
theorem dX5_go_84 : decode cX5_go 84 = .ok (.getfield 18, 3) := by decide +kernel
theorem dX5_go_87 : decode cX5_go 87 = .ok (.iaload, 1) := by decide +kernel
theorem dX5_go_88 : decode cX5_go 88 = .ok (.aload_n 1, 1) := by decide +kernel
theorem dX5_go_89 : decode cX5_go 89 = .ok (.getfield 62, 3) := by decide +kernel
theorem dX5_go_92 : decode cX5_go 92 = .ok (.aload_n 0, 1) := by decide +kernel
theorem dX5_go_93 : decode cX5_go 93 = .ok (.getfield 18, 3) := by decide +kernel
theorem dX5_go_96 : decode cX5_go 96 = .ok (.iaload, 1) := by decide +kernel
theorem dX5_go_97 : decode cX5_go 97 = .ok (.iload 6, 2) := by decide +kernel
theorem dX5_go_99 : decode cX5_go 99 = .ok (.iadd, 1) := by decide +kernel
theorem dX5_go_100 : decode cX5_go 100 = .ok (.iconst 1, 1) := by decide +kernel
theorem dX5_go_101 : decode cX5_go 101 = .ok (.iadd, 1) := by decide +kernel
theorem dX5_go_102 : decode cX5_go 102 = .ok (.invokestatic 65, 3) := by decide +kernel
theorem dX5_go_105 : decode cX5_go 105 = .ok (.ifCond .eq 32, 3) := by decide +kernel
theorem dX5_go_108 : decode cX5_go 108 = .ok (.aload_n 0, 1) := by decide +kernel
theorem dX5_go_109 : decode cX5_go 109 = .ok (.aload_n 1, 1) := by decide +kernel
theorem dX5_go_110 : decode cX5_go 110 = .ok (.aload_n 2, 1) := by decide +kernel
theorem dX5_go_111 : decode cX5_go 111 = .ok (.iload 7, 2) := by decide +kernel
theorem dX5_go_113 : decode cX5_go 113 = .ok (.invokevirtual 69, 3) := by decide +kernel
theorem dX5_go_116 : decode cX5_go 116 = .ok (.aload_n 1, 1) := by decide +kernel
theorem dX5_go_117 : decode cX5_go 117 = .ok (.getfield 59, 3) := by decide +kernel
theorem dX5_go_120 : decode cX5_go 120 = .ok (.aload_n 0, 1) := by decide +kernel
theorem dX5_go_121 : decode cX5_go 121 = .ok (.getfield 18, 3) := by decide +kernel
theorem dX5_go_124 : decode cX5_go 124 = .ok (.iaload, 1) := by decide +kernel
theorem dX5_go_125 : decode cX5_go 125 = .ok (.iconst 3, 1) := by decide +kernel
theorem dX5_go_126 : decode cX5_go 126 = .ok (.if_icmp .ne 11, 3) := by decide +kernel
theorem dX5_go_129 : decode cX5_go 129 = .ok (.aload_n 0, 1) := by decide +kernel
theorem dX5_go_130 : decode cX5_go 130 = .ok (.aload_n 1, 1) := by decide +kernel
theorem dX5_go_131 : decode cX5_go 131 = .ok (.aload_n 2, 1) := by decide +kernel
theorem dX5_go_132 : decode cX5_go 132 = .ok (.iload 5, 2) := by decide +kernel
theorem dX5_go_134 : decode cX5_go 134 = .ok (.invokevirtual 69, 3) := by decide +kernel
theorem dX5_go_137 : decode cX5_go 137 = .ok (.iload 7, 2) := by decide +kernel
theorem dX5_go_139 : decode cX5_go 139 = .ok (.istore 5, 2) := by decide +kernel
theorem dX5_go_141 : decode cX5_go 141 = .ok (.iinc 6 1, 3) := by decide +kernel
theorem dX5_go_144 : decode cX5_go 144 = .ok (.goto (-94), 3) := by decide +kernel
theorem dX5_go_147 : decode cX5_go 147 = .ok (.iconst 1, 1) := by decide +kernel
theorem dX5_go_148 : decode cX5_go 148 = .ok (.ireturn, 1) := by decide +kernel
def f_X5_go_s50_b (x3 : Int32) (x4 : Int32) (x5 : Int32) (x6 : Int32) (S : gSt) : Option ((Int32 × Int32 × Int32 × Int32 × gSt) ⊕ ((Int32 × gSt) ⊕ (gSt))) :=
(if x4 ≤ x6 then
some (.inr (.inr (S)))
else
gBind2 (f_X6_wayAt x3 x4 x6 S) fun r10 S8 =>
gBind2 (f_X6_beside x5 r10 S8) fun r13 S11 =>
(if 0 ≤ r13 then
if gin (S11.1 44 2) 6 then
(if gin (S11.1 44 2) 6 then
(gBind2 (f_X6_comesDown (S11.1 3 (S11.1 44 2).toNatClampNeg) (((S11.1 6 (S11.1 44 2).toNatClampNeg) + x6) + (1 : Int32)) S11) fun r19 S17 =>
(if r19 = 0 then
some (.inl (x3, x4, r13, x6 + (1 : Int32), S17))
else
(f_X5_tread r13 S17).bind fun S21 =>
if gin (S21.1 44 2) 6 then
((if (S21.1 3 (S21.1 44 2).toNatClampNeg) = (3 : Int32) then
(f_X5_tread x5 S21).bind fun S25 =>
some (.inl (x3, x4, r13, x6 + (1 : Int32), S25))
else
some (.inl (x3, x4, r13, x6 + (1 : Int32), S21)))) else none)) else none) else none
else
some (.inr (.inl ((0 : Int32), S11)))))
def f_X5_go_s50 : (Int32 × Int32 × Int32 × Int32 × gSt) → Option ((Int32 × Int32 × Int32 × Int32 × gSt) ⊕ ((Int32 × gSt) ⊕ (gSt))) := fun t => f_X5_go_s50_b t.1 t.2.1 t.2.2.1 t.2.2.2.1 t.2.2.2.2
def f_X5_go (p3 : Int32) (p4 : Int32) (S : gSt) : Option (Int32 × gSt) :=
if gcp (S.1 44 3) (0 : Int32) (64 : Int32) 384 64 then
gLet (gR S 45 (va_cpy (S.1 7) (S.1 45) (S.1 44 3).toNatClampNeg (0 : Int32).toNatClampNeg (64 : Int32).toNatClampNeg)) fun S2 =>
(if gcp (0 : Int32) (S2.1 44 3) (64 : Int32) 64 384 then
gLet (gR S2 42 (va_cpy (S2.1 46) (S2.1 42) (0 : Int32).toNatClampNeg (S2.1 44 3).toNatClampNeg (64 : Int32).toNatClampNeg)) fun S4 =>
(if gin (S4.1 44 2) 6 then
(gLet (S4.1 5 (S4.1 44 2).toNatClampNeg) fun v6 =>
(gLoop (f_X5_go_s50) gFuel (p3, p4, v6, (0 : Int32), S4)).bind fun q27 => match q27 with
| .inl (v27, T27) => some (v27, T27)
| .inr S27 =>
some ((1 : Int32), S27)) else none) else none) else none
set_option maxHeartbeats 4000000 in
set_option maxRecDepth 20000 in
theorem ok_X5_go {p3 : Int32} {p4 : Int32} {S S0 : gSt} {r0 : Int32}  (h : f_X5_go p3 p4 S = some (r0, S0)) : gCT yX5_go cX5_go 8 (some .boolean) 3 (fun w => [.ref (w.2.1 44), .ref (w.2.1 1), .ref (w.2.1 41), .int p3, .int p4]) S (some (.int r0)) S0 := by
  refine gEnter (fun X => [some (.ref (gad X 44)), some (.ref (gad X 1)), some (.ref (gad X 41)), some (.int p3), some (.int p4), none, none, none]) (by decide) (fun X => ⟨rfl, rfl⟩) (fun w => Nat.le_of_ble_eq_true rfl) (fun X hp => ?_)
  show AW X RX5 3 cX5_go 0 [some (.ref (gad X 44)), some (.ref (gad X 1)), some (.ref (gad X 41)), some (.int p3), some (.int p4), none, none, none] [] S
  unfold f_X5_go at h
  refine a_aloadn (pc := 0) dX5_go_0 rfl rfl ?_
  refine a_getA (pc := 1) flX5_47 sh_1 rfl dX5_go_1 ?_
  refine a_aloadn (pc := 4) dX5_go_4 rfl rfl ?_
  refine a_getI (pc := 5) flX5_22 sh_44 rfl dX5_go_5 ?_
  refine a_aloadn (pc := 8) dX5_go_8 rfl rfl ?_
  refine a_getA (pc := 9) flX5_9 sh_44 rfl dX5_go_9 ?_
  refine a_iconst (pc := 12) (v := (0 : Int32)) dX5_go_12 (by decide) ?_
  refine a_bipush (pc := 13) (v := (64 : Int32)) dX5_go_13 (by decide) ?_
  obtain ⟨hi1, h⟩ := g_if h
  refine a_copyi (pc := 15) sh_7 sh_45 hi1 mlX5_41 (by decide) (Nat.le_of_ble_eq_true rfl) dX5_go_15 ?_
  obtain ⟨S2, eS2, h⟩ := g_let h
  refine a_nmS eS2 ?_
  refine a_aloadn (pc := 18) dX5_go_18 rfl rfl ?_
  refine a_getA (pc := 19) flX5_15 sh_44 rfl dX5_go_19 ?_
  refine a_iconst (pc := 22) (v := (0 : Int32)) dX5_go_22 (by decide) ?_
  refine a_aloadn (pc := 23) dX5_go_23 rfl rfl ?_
  refine a_getA (pc := 24) flX5_40 sh_41 rfl dX5_go_24 ?_
  refine a_aloadn (pc := 27) dX5_go_27 rfl rfl ?_
  refine a_getI (pc := 28) flX5_22 sh_44 rfl dX5_go_28 ?_
  refine a_bipush (pc := 31) (v := (64 : Int32)) dX5_go_31 (by decide) ?_
  obtain ⟨hi3, h⟩ := g_if h
  refine a_copyi (pc := 33) sh_46 sh_42 hi3 mlX5_41 (by decide) (Nat.le_of_ble_eq_true rfl) dX5_go_33 ?_
  obtain ⟨S4, eS4, h⟩ := g_let h
  refine a_nmS eS4 ?_
  refine a_aloadn (pc := 36) dX5_go_36 rfl rfl ?_
  refine a_getA (pc := 37) flX5_48 sh_1 rfl dX5_go_37 ?_
  refine a_aloadn (pc := 40) dX5_go_40 rfl rfl ?_
  refine a_getI (pc := 41) flX5_18 sh_44 rfl dX5_go_41 ?_
  obtain ⟨hi5, h⟩ := g_if h
  refine a_iald (pc := 44) sh_5 hi5 dX5_go_44 ?_
  obtain ⟨v6, ev6, h⟩ := g_let h
  refine a_nmI ev6 ?_
  refine a_istore (pc := 45) dX5_go_45 (Nat.le_of_ble_eq_true rfl) rfl (L' := [some (.ref (gad X 44)), some (.ref (gad X 1)), some (.ref (gad X 41)), some (.int p3), some (.int p4), some (.int v6), none, none]) rfl ?_
  refine a_iconst (pc := 47) (v := (0 : Int32)) dX5_go_47 (by decide) ?_
  refine a_istore (pc := 48) dX5_go_48 (Nat.le_of_ble_eq_true rfl) rfl (L' := [some (.ref (gad X 44)), some (.ref (gad X 1)), some (.ref (gad X 41)), some (.int p3), some (.int p4), some (.int v6), some (.int (0 : Int32)), none]) rfl ?_
  obtain ⟨R27, hR27, h⟩ := g_bind h
  have E50 : ∀  (S27 : gSt), (some ((1 : Int32), S27)) = some (r0, S0) → AW X RX5 3 cX5_go 147 [none, none, none, none, none, none, none, none] [] S27 := by
    intro S27 h
    refine a_iconst (pc := 147) (v := (1 : Int32)) dX5_go_147 (by decide) ?_
    obtain ⟨rfl, rfl⟩ := Prod.mk.inj (Option.some.inj h)
    exact a_zret hp rfl  dX5_go_148
  have lp : ∀ (n : Nat) (x3 : Int32) (x4 : Int32) (x5 : Int32) (x6 : Int32) (S : gSt), gLoop (f_X5_go_s50) n (x3, x4, x5, x6, S) = some R27 → AW X RX5 3 cX5_go 50 [some (.ref (gad X 44)), some (.ref (gad X 1)), some (.ref (gad X 41)), some (.int x3), some (.int x4), some (.int x5), some (.int x6), none] [] S := by
    intro n
    induction n with
    | zero => intro x3 x4 x5 x6 S hR; cases hR
    | succ n ih =>
      intro x3 x4 x5 x6 S hR
      obtain ⟨q, hs, hR⟩ := g_bind hR
      have hs : f_X5_go_s50_b x3 x4 x5 x6 S = some q := hs
      unfold f_X5_go_s50_b at hs
      refine a_iload (pc := 50) dX5_go_50 rfl ?_
      refine a_iload (pc := 52) dX5_go_52 rfl ?_
      refine a_icmp_ge (pc := 54) (tgt := 147) dX5_go_54 (by decide) (fun c7 => ?_) (fun c7 => ?_)
      · rw [if_pos c7] at hs
        obtain rfl := Option.some.inj hs
        obtain rfl := Option.some.inj hR
        refine a_mask [false, false, false, false, false, false, false, true] (L' := [none, none, none, none, none, none, none, none]) rfl ?_
        exact E50  _ h
      · rw [if_neg c7] at hs
        refine a_iload (pc := 57) dX5_go_57 rfl ?_
        refine a_iloadn (pc := 59) dX5_go_59 rfl rfl ?_
        refine a_iload (pc := 60) dX5_go_60 rfl ?_
        refine a_iload (pc := 62) dX5_go_62 rfl ?_
        obtain ⟨r10, S8, hc9, hs⟩ := g_bind2 hs
        refine a_invSNi (pc := 64) (ok_X6_wayAt hc9) gyX6_wayAt syX6_wayAt mlX5_51 (As := [.int x3, .int x4, .int x6]) rfl rfl (by decide) (st := [.int x5]) rfl (Nat.le_of_ble_eq_true rfl) dX5_go_64 ?_
        obtain ⟨r13, S11, hc12, hs⟩ := g_bind2 hs
        refine a_invSNi (pc := 67) (ok_X6_beside hc12) gyX6_beside syX6_beside mlX5_55 (As := [.int x5, .int r10]) rfl rfl (by decide) (st := []) rfl (Nat.le_of_ble_eq_true rfl) dX5_go_67 ?_
        refine a_istore (pc := 70) dX5_go_70 (Nat.le_of_ble_eq_true rfl) rfl (L' := [some (.ref (gad X 44)), some (.ref (gad X 1)), some (.ref (gad X 41)), some (.int x3), some (.int x4), some (.int x5), some (.int x6), some (.int r13)]) rfl ?_
        refine a_iload (pc := 72) dX5_go_72 rfl ?_
        refine a_if_ge (pc := 74) (tgt := 79) dX5_go_74 (by decide) (fun c14 => ?_) (fun c14 => ?_)
        · rw [if_pos c14] at hs
          refine a_aloadn (pc := 79) dX5_go_79 rfl rfl ?_
          refine a_getA (pc := 80) flX5_59 sh_1 rfl dX5_go_80 ?_
          refine a_aloadn (pc := 83) dX5_go_83 rfl rfl ?_
          refine a_getI (pc := 84) flX5_18 sh_44 rfl dX5_go_84 ?_
          obtain ⟨hi15, hs⟩ := g_if hs
          refine a_iald (pc := 87) sh_3 hi15 dX5_go_87 ?_
          refine a_aloadn (pc := 88) dX5_go_88 rfl rfl ?_
          refine a_getA (pc := 89) flX5_62 sh_1 rfl dX5_go_89 ?_
          refine a_aloadn (pc := 92) dX5_go_92 rfl rfl ?_
          refine a_getI (pc := 93) flX5_18 sh_44 rfl dX5_go_93 ?_
          obtain ⟨hi16, hs⟩ := g_if hs
          refine a_iald (pc := 96) sh_6 hi16 dX5_go_96 ?_
          refine a_iload (pc := 97) dX5_go_97 rfl ?_
          refine a_iadd (pc := 99) dX5_go_99 ?_
          refine a_iconst (pc := 100) (v := (1 : Int32)) dX5_go_100 (by decide) ?_
          refine a_iadd (pc := 101) dX5_go_101 ?_
          obtain ⟨r19, S17, hc18, hs⟩ := g_bind2 hs
          refine a_invSNi (pc := 102) (ok_X6_comesDown hc18) gyX6_comesDown syX6_comesDown mlX5_65 (As := [.int (S11.1 3 (S11.1 44 2).toNatClampNeg), .int (((S11.1 6 (S11.1 44 2).toNatClampNeg) + x6) + (1 : Int32))]) rfl rfl (by decide) (st := []) rfl (Nat.le_of_ble_eq_true rfl) dX5_go_102 ?_
          refine a_if_eq (pc := 105) (tgt := 137) dX5_go_105 (by decide) (fun c20 => ?_) (fun c20 => ?_)
          · rw [if_pos c20] at hs
            refine a_iload (pc := 137) dX5_go_137 rfl ?_
            refine a_istore (pc := 139) dX5_go_139 (Nat.le_of_ble_eq_true rfl) rfl (L' := [some (.ref (gad X 44)), some (.ref (gad X 1)), some (.ref (gad X 41)), some (.int x3), some (.int x4), some (.int r13), some (.int x6), some (.int r13)]) rfl ?_
            refine a_iinc (pc := 141) dX5_go_141 rfl (v := x6 + (1 : Int32)) rfl (Nat.le_of_ble_eq_true rfl) rfl (L' := [some (.ref (gad X 44)), some (.ref (gad X 1)), some (.ref (gad X 41)), some (.int x3), some (.int x4), some (.int r13), some (.int (x6 + (1 : Int32))), some (.int r13)]) rfl ?_
            refine a_goto (pc := 144) (tgt := 50) dX5_go_144 (by decide) ?_
            obtain rfl := Option.some.inj hs
            refine a_mask [true, true, true, true, true, true, true, false] (L' := [some (.ref (gad X 44)), some (.ref (gad X 1)), some (.ref (gad X 41)), some (.int x3), some (.int x4), some (.int r13), some (.int (x6 + (1 : Int32))), none]) rfl ?_
            exact ih _ _ _ _ _ hR
          · rw [if_neg c20] at hs
            refine a_aloadn (pc := 108) dX5_go_108 rfl rfl ?_
            refine a_aloadn (pc := 109) dX5_go_109 rfl rfl ?_
            refine a_aloadn (pc := 110) dX5_go_110 rfl rfl ?_
            refine a_iload (pc := 111) dX5_go_111 rfl ?_
            obtain ⟨S21, hc22, hs⟩ := g_bind hs
            refine a_invVv (pc := 113) (ok_X5_tread hc22) gyX5_tread vyX5_tread mlX5_69 sh_44 rfl (As := [.ref (gad X 1), .ref (gad X 41), .int r13]) rfl rfl (by decide) (st := []) rfl (Nat.le_of_ble_eq_true rfl) dX5_go_113 ?_
            refine a_aloadn (pc := 116) dX5_go_116 rfl rfl ?_
            refine a_getA (pc := 117) flX5_59 sh_1 rfl dX5_go_117 ?_
            refine a_aloadn (pc := 120) dX5_go_120 rfl rfl ?_
            refine a_getI (pc := 121) flX5_18 sh_44 rfl dX5_go_121 ?_
            obtain ⟨hi23, hs⟩ := g_if hs
            refine a_iald (pc := 124) sh_3 hi23 dX5_go_124 ?_
            refine a_iconst (pc := 125) (v := (3 : Int32)) dX5_go_125 (by decide) ?_
            refine a_icmp_ne (pc := 126) (tgt := 137) dX5_go_126 (by decide) (fun c24 => ?_) (fun c24 => ?_)
            · rw [if_neg c24] at hs
              refine a_iload (pc := 137) dX5_go_137 rfl ?_
              refine a_istore (pc := 139) dX5_go_139 (Nat.le_of_ble_eq_true rfl) rfl (L' := [some (.ref (gad X 44)), some (.ref (gad X 1)), some (.ref (gad X 41)), some (.int x3), some (.int x4), some (.int r13), some (.int x6), some (.int r13)]) rfl ?_
              refine a_iinc (pc := 141) dX5_go_141 rfl (v := x6 + (1 : Int32)) rfl (Nat.le_of_ble_eq_true rfl) rfl (L' := [some (.ref (gad X 44)), some (.ref (gad X 1)), some (.ref (gad X 41)), some (.int x3), some (.int x4), some (.int r13), some (.int (x6 + (1 : Int32))), some (.int r13)]) rfl ?_
              refine a_goto (pc := 144) (tgt := 50) dX5_go_144 (by decide) ?_
              obtain rfl := Option.some.inj hs
              refine a_mask [true, true, true, true, true, true, true, false] (L' := [some (.ref (gad X 44)), some (.ref (gad X 1)), some (.ref (gad X 41)), some (.int x3), some (.int x4), some (.int r13), some (.int (x6 + (1 : Int32))), none]) rfl ?_
              exact ih _ _ _ _ _ hR
            · rw [if_pos c24] at hs
              refine a_aloadn (pc := 129) dX5_go_129 rfl rfl ?_
              refine a_aloadn (pc := 130) dX5_go_130 rfl rfl ?_
              refine a_aloadn (pc := 131) dX5_go_131 rfl rfl ?_
              refine a_iload (pc := 132) dX5_go_132 rfl ?_
              obtain ⟨S25, hc26, hs⟩ := g_bind hs
              refine a_invVv (pc := 134) (ok_X5_tread hc26) gyX5_tread vyX5_tread mlX5_69 sh_44 rfl (As := [.ref (gad X 1), .ref (gad X 41), .int x5]) rfl rfl (by decide) (st := []) rfl (Nat.le_of_ble_eq_true rfl) dX5_go_134 ?_
              refine a_iload (pc := 137) dX5_go_137 rfl ?_
              refine a_istore (pc := 139) dX5_go_139 (Nat.le_of_ble_eq_true rfl) rfl (L' := [some (.ref (gad X 44)), some (.ref (gad X 1)), some (.ref (gad X 41)), some (.int x3), some (.int x4), some (.int r13), some (.int x6), some (.int r13)]) rfl ?_
              refine a_iinc (pc := 141) dX5_go_141 rfl (v := x6 + (1 : Int32)) rfl (Nat.le_of_ble_eq_true rfl) rfl (L' := [some (.ref (gad X 44)), some (.ref (gad X 1)), some (.ref (gad X 41)), some (.int x3), some (.int x4), some (.int r13), some (.int (x6 + (1 : Int32))), some (.int r13)]) rfl ?_
              refine a_goto (pc := 144) (tgt := 50) dX5_go_144 (by decide) ?_
              obtain rfl := Option.some.inj hs
              refine a_mask [true, true, true, true, true, true, true, false] (L' := [some (.ref (gad X 44)), some (.ref (gad X 1)), some (.ref (gad X 41)), some (.int x3), some (.int x4), some (.int r13), some (.int (x6 + (1 : Int32))), none]) rfl ?_
              exact ih _ _ _ _ _ hR
        · rw [if_neg c14] at hs
          refine a_iconst (pc := 77) (v := (0 : Int32)) dX5_go_77 (by decide) ?_
          obtain rfl := Option.some.inj hs
          obtain rfl := Option.some.inj hR
          obtain ⟨rfl, rfl⟩ := Prod.mk.inj (Option.some.inj h)
          exact a_zret hp rfl  dX5_go_78
  exact lp _ _ _ _ _ _ hR27
theorem dX6_walk_0 : decode cX6_walk 0 = .ok (.aload_n 0, 1) := by decide +kernel
theorem dX6_walk_1 : decode cX6_walk 1 = .ok (.getfield 12, 3) := by decide +kernel
theorem dX6_walk_4 : decode cX6_walk 4 = .ok (.iload_n 1, 1) := by decide +kernel
theorem dX6_walk_5 : decode cX6_walk 5 = .ok (.invokevirtual 72, 3) := by decide +kernel
theorem dX6_walk_8 : decode cX6_walk 8 = .ok (.ifCond .eq 28, 3) := by decide +kernel
theorem dX6_walk_11 : decode cX6_walk 11 = .ok (.iload_n 2, 1) := by decide +kernel
theorem dX6_walk_12 : decode cX6_walk 12 = .ok (.ifCond .lt 24, 3) := by decide +kernel
theorem dX6_walk_15 : decode cX6_walk 15 = .ok (.iload_n 2, 1) := by decide +kernel
theorem dX6_walk_16 : decode cX6_walk 16 = .ok (.iconst 4, 1) := by decide +kernel
theorem dX6_walk_17 : decode cX6_walk 17 = .ok (.if_icmp .gt 19, 3) := by decide +kernel
theorem dX6_walk_20 : decode cX6_walk 20 = .ok (.iload_n 3, 1) := by decide +kernel
theorem dX6_walk_21 : decode cX6_walk 21 = .ok (.ifCond .lt 15, 3) := by decide +kernel
theorem dX6_walk_24 : decode cX6_walk 24 = .ok (.iload_n 3, 1) := by decide +kernel
theorem dX6_walk_25 : decode cX6_walk 25 = .ok (.bipush 12, 2) := by decide +kernel
theorem dX6_walk_27 : decode cX6_walk 27 = .ok (.if_icmp .gt 9, 3) := by decide +kernel
theorem dX6_walk_30 : decode cX6_walk 30 = .ok (.iload 4, 2) := by decide +kernel
theorem dX6_walk_32 : decode cX6_walk 32 = .ok (.iconst (-1), 1) := by decide +kernel
theorem dX6_walk_33 : decode cX6_walk 33 = .ok (.if_icmp .ge 5, 3) := by decide +kernel
theorem dX6_walk_36 : decode cX6_walk 36 = .ok (.iconst (-1), 1) := by decide +kernel
theorem dX6_walk_37 : decode cX6_walk 37 = .ok (.ireturn, 1) := by decide +kernel
theorem dX6_walk_38 : decode cX6_walk 38 = .ok (.iload 4, 2) := by decide +kernel
theorem dX6_walk_40 : decode cX6_walk 40 = .ok (.iload_n 2, 1) := by decide +kernel
theorem dX6_walk_41 : decode cX6_walk 41 = .ok (.if_icmp .lt 6, 3) := by decide +kernel
theorem dX6_walk_44 : decode cX6_walk 44 = .ok (.bipush (-4), 2) := by decide +kernel
theorem dX6_walk_46 : decode cX6_walk 46 = .ok (.ireturn, 1) := by decide +kernel
theorem dX6_walk_47 : decode cX6_walk 47 = .ok (.aload_n 0, 1) := by decide +kernel
theorem dX6_walk_48 : decode cX6_walk 48 = .ok (.getfield 46, 3) := by decide +kernel
theorem dX6_walk_51 : decode cX6_walk 51 = .ok (.aload_n 0, 1) := by decide +kernel
theorem dX6_walk_52 : decode cX6_walk 52 = .ok (.getfield 12, 3) := by decide +kernel
theorem dX6_walk_55 : decode cX6_walk 55 = .ok (.aload_n 0, 1) := by decide +kernel
theorem dX6_walk_56 : decode cX6_walk 56 = .ok (.getfield 39, 3) := by decide +kernel
theorem dX6_walk_59 : decode cX6_walk 59 = .ok (.iload_n 1, 1) := by decide +kernel
theorem dX6_walk_60 : decode cX6_walk 60 = .ok (.iload_n 3, 1) := by decide +kernel
theorem dX6_walk_61 : decode cX6_walk 61 = .ok (.invokevirtual 197, 3) := by decide +kernel
theorem dX6_walk_64 : decode cX6_walk 64 = .ok (.iconst (-1), 1) := by decide +kernel
theorem dX6_walk_65 : decode cX6_walk 65 = .ok (.istore 5, 2) := by decide +kernel
theorem dX6_walk_67 : decode cX6_walk 67 = .ok (.iconst 0, 1) := by decide +kernel
theorem dX6_walk_68 : decode cX6_walk 68 = .ok (.istore 6, 2) := by decide +kernel
theorem dX6_walk_70 : decode cX6_walk 70 = .ok (.iconst 0, 1) := by decide +kernel
theorem dX6_walk_71 : decode cX6_walk 71 = .ok (.istore 7, 2) := by decide +kernel
theorem dX6_walk_73 : decode cX6_walk 73 = .ok (.iload 7, 2) := by decide +kernel
theorem dX6_walk_75 : decode cX6_walk 75 = .ok (.iconst 1, 1) := by decide +kernel
theorem dX6_walk_76 : decode cX6_walk 76 = .ok (.iconst 2, 1) := by decide +kernel
theorem dX6_walk_77 : decode cX6_walk 77 = .ok (.iload_n 2, 1) := by decide +kernel
theorem dX6_walk_78 : decode cX6_walk 78 = .ok (.imul, 1) := by decide +kernel
theorem dX6_walk_79 : decode cX6_walk 79 = .ok (.ishl, 1) := by decide +kernel
theorem dX6_walk_80 : decode cX6_walk 80 = .ok (.if_icmp .ge 66, 3) := by decide +kernel
theorem dX6_walk_83 : decode cX6_walk 83 = .ok (.aload_n 0, 1) := by decide +kernel
theorem dX6_walk_84 : decode cX6_walk 84 = .ok (.getfield 46, 3) := by decide +kernel
theorem dX6_walk_87 : decode cX6_walk 87 = .ok (.aload_n 0, 1) := by decide +kernel
theorem dX6_walk_88 : decode cX6_walk 88 = .ok (.getfield 12, 3) := by decide +kernel
theorem dX6_walk_91 : decode cX6_walk 91 = .ok (.aload_n 0, 1) := by decide +kernel
theorem dX6_walk_92 : decode cX6_walk 92 = .ok (.getfield 39, 3) := by decide +kernel
theorem dX6_walk_95 : decode cX6_walk 95 = .ok (.iload 7, 2) := by decide +kernel
theorem dX6_walk_97 : decode cX6_walk 97 = .ok (.iload_n 2, 1) := by decide +kernel
theorem dX6_walk_98 : decode cX6_walk 98 = .ok (.invokevirtual 201, 3) := by decide +kernel
theorem dX6_walk_101 : decode cX6_walk 101 = .ok (.ifCond .eq 39, 3) := by decide +kernel
theorem dX6_walk_104 : decode cX6_walk 104 = .ok (.aload_n 0, 1) := by decide +kernel
theorem dX6_walk_105 : decode cX6_walk 105 = .ok (.getfield 39, 3) := by decide +kernel
theorem dX6_walk_108 : decode cX6_walk 108 = .ok (.invokevirtual 205, 3) := by decide +kernel
theorem dX6_walk_111 : decode cX6_walk 111 = .ok (.aload_n 0, 1) := by decide +kernel
theorem dX6_walk_112 : decode cX6_walk 112 = .ok (.getfield 39, 3) := by decide +kernel
theorem dX6_walk_115 : decode cX6_walk 115 = .ok (.getfield 99, 3) := by decide +kernel
theorem dX6_walk_118 : decode cX6_walk 118 = .ok (.iload_n 1, 1) := by decide +kernel
theorem dX6_walk_119 : decode cX6_walk 119 = .ok (.iaload, 1) := by decide +kernel
theorem dX6_walk_120 : decode cX6_walk 120 = .ok (.iload 5, 2) := by decide +kernel
theorem dX6_walk_122 : decode cX6_walk 122 = .ok (.if_icmp .le 18, 3) := by decide +kernel
theorem dX6_walk_125 : decode cX6_walk 125 = .ok (.aload_n 0, 1) := by decide +kernel
theorem dX6_walk_126 : decode cX6_walk 126 = .ok (.getfield 39, 3) := by decide +kernel
theorem dX6_walk_129 : decode cX6_walk 129 = .ok (.getfield 99, 3) := by decide +kernel
theorem dX6_walk_132 : decode cX6_walk 132 = .ok (.iload_n 1, 1) := by decide +kernel
theorem dX6_walk_133 : decode cX6_walk 133 = .ok (.iaload, 1) := by decide +kernel
theorem dX6_walk_134 : decode cX6_walk 134 = .ok (.istore 5, 2) := by decide +kernel
theorem dX6_walk_136 : decode cX6_walk 136 = .ok (.iload 7, 2) := by decide +kernel
theorem dX6_walk_138 : decode cX6_walk 138 = .ok (.istore 6, 2) := by decide +kernel
theorem dX6_walk_140 : decode cX6_walk 140 = .ok (.iinc 7 1, 3) := by decide +kernel
theorem dX6_walk_143 : decode cX6_walk 143 = .ok (.goto (-70), 3) := by decide +kernel
theorem dX6_walk_146 : decode cX6_walk 146 = .ok (.iload 4, 2) := by decide +kernel
theorem dX6_walk_148 : decode cX6_walk 148 = .ok (.ifCond .ge 8, 3) := by decide +kernel
theorem dX6_walk_151 : decode cX6_walk 151 = .ok (.iload 5, 2) := by decide +kernel
theorem dX6_walk_153 : decode cX6_walk 153 = .ok (.goto 11, 3) := by decide +kernel
theorem dX6_walk_156 : decode cX6_walk 156 = .ok (.iload 6, 2) := by decide +kernel
theorem dX6_walk_158 : decode cX6_walk 158 = .ok (.iload_n 2, 1) := by decide +kernel
theorem dX6_walk_159 : decode cX6_walk 159 = .ok (.iload 4, 2) := by decide +kernel
theorem dX6_walk_161 : decode cX6_walk 161 = .ok (.invokestatic 208, 3) := by decide +kernel
theorem dX6_walk_164 : decode cX6_walk 164 = .ok (.ireturn, 1) := by decide +kernel
def f_X6_walk_s73_b (x1 : Int32) (x2 : Int32) (x4 : Int32) (x5 : Int32) (x6 : Int32) (x7 : Int32) (S : gSt) : Option ((Int32 × Int32 × Int32 × Int32 × Int32 × Int32 × gSt) ⊕ (Int32 × Int32 × Int32 × Int32 × gSt)) :=
(if ((1 : Int32) <<< (((2 : Int32) * x2) &&& 31)) ≤ x7 then
some (.inr (x2, x4, x5, x6, S))
else
gBind2 (f_X5_go x7 x2 S) fun r16 S14 =>
(if r16 = 0 then
some (.inl (x1, x2, x4, x5, x6, x7 + (1 : Int32), S14))
else
(f_X3_tally S14).bind fun S18 =>
if gin x1 6 then
((if (S18.1 43 x1.toNatClampNeg) ≤ x5 then
some (.inl (x1, x2, x4, x5, x6, x7 + (1 : Int32), S18))
else
if gin x1 6 then
(gLet (S18.1 43 x1.toNatClampNeg) fun v23 =>
some (.inl (x1, x2, x4, v23, x7, x7 + (1 : Int32), S18))) else none)) else none))
def f_X6_walk_s73 : (Int32 × Int32 × Int32 × Int32 × Int32 × Int32 × gSt) → Option ((Int32 × Int32 × Int32 × Int32 × Int32 × Int32 × gSt) ⊕ (Int32 × Int32 × Int32 × Int32 × gSt)) := fun t => f_X6_walk_s73_b t.1 t.2.1 t.2.2.1 t.2.2.2.1 t.2.2.2.2.1 t.2.2.2.2.2.1 t.2.2.2.2.2.2
def f_X6_walk (p1 : Int32) (p2 : Int32) (p3 : Int32) (p4 : Int32) (S : gSt) : Option (Int32 × gSt) :=
gBind2 (f_X0_has p1 S) fun r3 S1 =>
(if r3 = 0 then
some ((-1 : Int32), S1)
else
(if p2 < 0 then
some ((-1 : Int32), S1)
else
(if (4 : Int32) < p2 then
some ((-1 : Int32), S1)
else
(if p3 < 0 then
some ((-1 : Int32), S1)
else
(if (12 : Int32) < p3 then
some ((-1 : Int32), S1)
else
(if (-1 : Int32) ≤ p4 then
(if p4 < p2 then
(f_X5_begin p1 p3 S1).bind fun S11 =>
(gLoop (f_X6_walk_s73) gFuel (p1, p2, p4, (-1 : Int32), (0 : Int32), (0 : Int32), S11)).bind fun q24 => match q24 with
| (y2_24, y4_24, y5_24, y6_24, S24) =>
(if 0 ≤ y4_24 then
gBind2 (f_X6_wayAt y6_24 y2_24 y4_24 S24) fun r28 S26 =>
some (r28, S26)
else
some (y5_24, S24))
else
some ((-4 : Int32), S1))
else
some ((-1 : Int32), S1)))))))
set_option maxHeartbeats 4000000 in
set_option maxRecDepth 20000 in
theorem ok_X6_walk {p1 : Int32} {p2 : Int32} {p3 : Int32} {p4 : Int32} {S S0 : gSt} {r0 : Int32}  (h : f_X6_walk p1 p2 p3 p4 S = some (r0, S0)) : gCT yX6_walk cX6_walk 8 (some .int) 5 (fun w => [.ref (w.2.1 0), .int p1, .int p2, .int p3, .int p4]) S (some (.int r0)) S0 := by
  refine gEnter (fun X => [some (.ref (gad X 0)), some (.int p1), some (.int p2), some (.int p3), some (.int p4), none, none, none]) (by decide) (fun X => ⟨rfl, rfl⟩) (fun w => Nat.le_of_ble_eq_true rfl) (fun X hp => ?_)
  show AW X RX6 5 cX6_walk 0 [some (.ref (gad X 0)), some (.int p1), some (.int p2), some (.int p3), some (.int p4), none, none, none] [] S
  unfold f_X6_walk at h
  refine a_aloadn (pc := 0) dX6_walk_0 rfl rfl ?_
  refine a_getA (pc := 1) flX6_12 sh_0 rfl dX6_walk_1 ?_
  refine a_iloadn (pc := 4) dX6_walk_4 rfl rfl ?_
  obtain ⟨r3, S1, hc2, h⟩ := g_bind2 h
  refine a_invVi (pc := 5) (ok_X0_has hc2) gyX0_has vyX0_has mlX6_72 sh_1 rfl (As := [.int p1]) rfl rfl (by decide) (st := []) rfl (Nat.le_of_ble_eq_true rfl) dX6_walk_5 ?_
  refine a_if_eq (pc := 8) (tgt := 36) dX6_walk_8 (by decide) (fun c4 => ?_) (fun c4 => ?_)
  · rw [if_pos c4] at h
    refine a_iconst (pc := 36) (v := (-1 : Int32)) dX6_walk_36 (by decide) ?_
    obtain ⟨rfl, rfl⟩ := Prod.mk.inj (Option.some.inj h)
    exact a_iret hp dX6_walk_37
  · rw [if_neg c4] at h
    refine a_iloadn (pc := 11) dX6_walk_11 rfl rfl ?_
    refine a_if_lt (pc := 12) (tgt := 36) dX6_walk_12 (by decide) (fun c5 => ?_) (fun c5 => ?_)
    · rw [if_pos c5] at h
      refine a_iconst (pc := 36) (v := (-1 : Int32)) dX6_walk_36 (by decide) ?_
      obtain ⟨rfl, rfl⟩ := Prod.mk.inj (Option.some.inj h)
      exact a_iret hp dX6_walk_37
    · rw [if_neg c5] at h
      refine a_iloadn (pc := 15) dX6_walk_15 rfl rfl ?_
      refine a_iconst (pc := 16) (v := (4 : Int32)) dX6_walk_16 (by decide) ?_
      refine a_icmp_gt (pc := 17) (tgt := 36) dX6_walk_17 (by decide) (fun c6 => ?_) (fun c6 => ?_)
      · rw [if_pos c6] at h
        refine a_iconst (pc := 36) (v := (-1 : Int32)) dX6_walk_36 (by decide) ?_
        obtain ⟨rfl, rfl⟩ := Prod.mk.inj (Option.some.inj h)
        exact a_iret hp dX6_walk_37
      · rw [if_neg c6] at h
        refine a_iloadn (pc := 20) dX6_walk_20 rfl rfl ?_
        refine a_if_lt (pc := 21) (tgt := 36) dX6_walk_21 (by decide) (fun c7 => ?_) (fun c7 => ?_)
        · rw [if_pos c7] at h
          refine a_iconst (pc := 36) (v := (-1 : Int32)) dX6_walk_36 (by decide) ?_
          obtain ⟨rfl, rfl⟩ := Prod.mk.inj (Option.some.inj h)
          exact a_iret hp dX6_walk_37
        · rw [if_neg c7] at h
          refine a_iloadn (pc := 24) dX6_walk_24 rfl rfl ?_
          refine a_bipush (pc := 25) (v := (12 : Int32)) dX6_walk_25 (by decide) ?_
          refine a_icmp_gt (pc := 27) (tgt := 36) dX6_walk_27 (by decide) (fun c8 => ?_) (fun c8 => ?_)
          · rw [if_pos c8] at h
            refine a_iconst (pc := 36) (v := (-1 : Int32)) dX6_walk_36 (by decide) ?_
            obtain ⟨rfl, rfl⟩ := Prod.mk.inj (Option.some.inj h)
            exact a_iret hp dX6_walk_37
          · rw [if_neg c8] at h
            refine a_iload (pc := 30) dX6_walk_30 rfl ?_
            refine a_iconst (pc := 32) (v := (-1 : Int32)) dX6_walk_32 (by decide) ?_
            refine a_icmp_ge (pc := 33) (tgt := 38) dX6_walk_33 (by decide) (fun c9 => ?_) (fun c9 => ?_)
            · rw [if_pos c9] at h
              refine a_iload (pc := 38) dX6_walk_38 rfl ?_
              refine a_iloadn (pc := 40) dX6_walk_40 rfl rfl ?_
              refine a_icmp_lt (pc := 41) (tgt := 47) dX6_walk_41 (by decide) (fun c10 => ?_) (fun c10 => ?_)
              · rw [if_pos c10] at h
                refine a_aloadn (pc := 47) dX6_walk_47 rfl rfl ?_
                refine a_getA (pc := 48) flX6_46 sh_0 rfl dX6_walk_48 ?_
                refine a_aloadn (pc := 51) dX6_walk_51 rfl rfl ?_
                refine a_getA (pc := 52) flX6_12 sh_0 rfl dX6_walk_52 ?_
                refine a_aloadn (pc := 55) dX6_walk_55 rfl rfl ?_
                refine a_getA (pc := 56) flX6_39 sh_0 rfl dX6_walk_56 ?_
                refine a_iloadn (pc := 59) dX6_walk_59 rfl rfl ?_
                refine a_iloadn (pc := 60) dX6_walk_60 rfl rfl ?_
                obtain ⟨S11, hc12, h⟩ := g_bind h
                refine a_invVv (pc := 61) (ok_X5_begin hc12) gyX5_begin vyX5_begin mlX6_197 sh_44 rfl (As := [.ref (gad X 1), .ref (gad X 41), .int p1, .int p3]) rfl rfl (by decide) (st := []) rfl (Nat.le_of_ble_eq_true rfl) dX6_walk_61 ?_
                refine a_iconst (pc := 64) (v := (-1 : Int32)) dX6_walk_64 (by decide) ?_
                refine a_istore (pc := 65) dX6_walk_65 (Nat.le_of_ble_eq_true rfl) rfl (L' := [some (.ref (gad X 0)), some (.int p1), some (.int p2), some (.int p3), some (.int p4), some (.int (-1 : Int32)), none, none]) rfl ?_
                refine a_iconst (pc := 67) (v := (0 : Int32)) dX6_walk_67 (by decide) ?_
                refine a_istore (pc := 68) dX6_walk_68 (Nat.le_of_ble_eq_true rfl) rfl (L' := [some (.ref (gad X 0)), some (.int p1), some (.int p2), some (.int p3), some (.int p4), some (.int (-1 : Int32)), some (.int (0 : Int32)), none]) rfl ?_
                refine a_iconst (pc := 70) (v := (0 : Int32)) dX6_walk_70 (by decide) ?_
                refine a_istore (pc := 71) dX6_walk_71 (Nat.le_of_ble_eq_true rfl) rfl (L' := [some (.ref (gad X 0)), some (.int p1), some (.int p2), some (.int p3), some (.int p4), some (.int (-1 : Int32)), some (.int (0 : Int32)), some (.int (0 : Int32))]) rfl ?_
                obtain ⟨R24, hR24, h⟩ := g_bind h
                refine a_mask [true, true, true, false, true, true, true, true] (L' := [some (.ref (gad X 0)), some (.int p1), some (.int p2), none, some (.int p4), some (.int (-1 : Int32)), some (.int (0 : Int32)), some (.int (0 : Int32))]) rfl ?_
                have E73 : ∀ (y2_24 : Int32) (y4_24 : Int32) (y5_24 : Int32) (y6_24 : Int32) (S24 : gSt), ((if 0 ≤ y4_24 then gBind2 (f_X6_wayAt y6_24 y2_24 y4_24 S24) fun r28 S26 => some (r28, S26) else some (y5_24, S24))) = some (r0, S0) → AW X RX6 5 cX6_walk 146 [none, none, some (.int y2_24), none, some (.int y4_24), some (.int y5_24), some (.int y6_24), none] [] S24 := by
                  intro y2_24 y4_24 y5_24 y6_24 S24 h
                  refine a_iload (pc := 146) dX6_walk_146 rfl ?_
                  refine a_if_ge (pc := 148) (tgt := 156) dX6_walk_148 (by decide) (fun c25 => ?_) (fun c25 => ?_)
                  · rw [if_pos c25] at h
                    refine a_iload (pc := 156) dX6_walk_156 rfl ?_
                    refine a_iloadn (pc := 158) dX6_walk_158 rfl rfl ?_
                    refine a_iload (pc := 159) dX6_walk_159 rfl ?_
                    obtain ⟨r28, S26, hc27, h⟩ := g_bind2 h
                    refine a_invSi (pc := 161) (ok_X6_wayAt hc27) gyX6_wayAt syX6_wayAt mlX6_208 (As := [.int y6_24, .int y2_24, .int y4_24]) rfl rfl (by decide) (st := []) rfl (Nat.le_of_ble_eq_true rfl) dX6_walk_161 ?_
                    obtain ⟨rfl, rfl⟩ := Prod.mk.inj (Option.some.inj h)
                    exact a_iret hp dX6_walk_164
                  · rw [if_neg c25] at h
                    refine a_iload (pc := 151) dX6_walk_151 rfl ?_
                    refine a_goto (pc := 153) (tgt := 164) dX6_walk_153 (by decide) ?_
                    obtain ⟨rfl, rfl⟩ := Prod.mk.inj (Option.some.inj h)
                    exact a_iret hp dX6_walk_164
                have lp : ∀ (n : Nat) (x1 : Int32) (x2 : Int32) (x4 : Int32) (x5 : Int32) (x6 : Int32) (x7 : Int32) (S : gSt), gLoop (f_X6_walk_s73) n (x1, x2, x4, x5, x6, x7, S) = some R24 → AW X RX6 5 cX6_walk 73 [some (.ref (gad X 0)), some (.int x1), some (.int x2), none, some (.int x4), some (.int x5), some (.int x6), some (.int x7)] [] S := by
                  intro n
                  induction n with
                  | zero => intro x1 x2 x4 x5 x6 x7 S hR; cases hR
                  | succ n ih =>
                    intro x1 x2 x4 x5 x6 x7 S hR
                    obtain ⟨q, hs, hR⟩ := g_bind hR
                    have hs : f_X6_walk_s73_b x1 x2 x4 x5 x6 x7 S = some q := hs
                    unfold f_X6_walk_s73_b at hs
                    refine a_iload (pc := 73) dX6_walk_73 rfl ?_
                    refine a_iconst (pc := 75) (v := (1 : Int32)) dX6_walk_75 (by decide) ?_
                    refine a_iconst (pc := 76) (v := (2 : Int32)) dX6_walk_76 (by decide) ?_
                    refine a_iloadn (pc := 77) dX6_walk_77 rfl rfl ?_
                    refine a_imul (pc := 78) dX6_walk_78 ?_
                    refine a_ishl (pc := 79) dX6_walk_79 ?_
                    refine a_icmp_ge (pc := 80) (tgt := 146) dX6_walk_80 (by decide) (fun c13 => ?_) (fun c13 => ?_)
                    · rw [if_pos c13] at hs
                      obtain rfl := Option.some.inj hs
                      obtain rfl := Option.some.inj hR
                      refine a_mask [false, false, true, true, true, true, true, false] (L' := [none, none, some (.int x2), none, some (.int x4), some (.int x5), some (.int x6), none]) rfl ?_
                      exact E73 _ _ _ _ _ h
                    · rw [if_neg c13] at hs
                      refine a_aloadn (pc := 83) dX6_walk_83 rfl rfl ?_
                      refine a_getA (pc := 84) flX6_46 sh_0 rfl dX6_walk_84 ?_
                      refine a_aloadn (pc := 87) dX6_walk_87 rfl rfl ?_
                      refine a_getA (pc := 88) flX6_12 sh_0 rfl dX6_walk_88 ?_
                      refine a_aloadn (pc := 91) dX6_walk_91 rfl rfl ?_
                      refine a_getA (pc := 92) flX6_39 sh_0 rfl dX6_walk_92 ?_
                      refine a_iload (pc := 95) dX6_walk_95 rfl ?_
                      refine a_iloadn (pc := 97) dX6_walk_97 rfl rfl ?_
                      obtain ⟨r16, S14, hc15, hs⟩ := g_bind2 hs
                      refine a_invVi (pc := 98) (ok_X5_go hc15) gyX5_go vyX5_go mlX6_201 sh_44 rfl (As := [.ref (gad X 1), .ref (gad X 41), .int x7, .int x2]) rfl rfl (by decide) (st := []) rfl (Nat.le_of_ble_eq_true rfl) dX6_walk_98 ?_
                      refine a_if_eq (pc := 101) (tgt := 140) dX6_walk_101 (by decide) (fun c17 => ?_) (fun c17 => ?_)
                      · rw [if_pos c17] at hs
                        refine a_iinc (pc := 140) dX6_walk_140 rfl (v := x7 + (1 : Int32)) rfl (Nat.le_of_ble_eq_true rfl) rfl (L' := [some (.ref (gad X 0)), some (.int x1), some (.int x2), none, some (.int x4), some (.int x5), some (.int x6), some (.int (x7 + (1 : Int32)))]) rfl ?_
                        refine a_goto (pc := 143) (tgt := 73) dX6_walk_143 (by decide) ?_
                        obtain rfl := Option.some.inj hs
                        exact ih _ _ _ _ _ _ _ hR
                      · rw [if_neg c17] at hs
                        refine a_aloadn (pc := 104) dX6_walk_104 rfl rfl ?_
                        refine a_getA (pc := 105) flX6_39 sh_0 rfl dX6_walk_105 ?_
                        obtain ⟨S18, hc19, hs⟩ := g_bind hs
                        refine a_invVv (pc := 108) (ok_X3_tally hc19) gyX3_tally vyX3_tally mlX6_205 sh_41 rfl (As := []) rfl rfl (by decide) (st := []) rfl (Nat.le_of_ble_eq_true rfl) dX6_walk_108 ?_
                        refine a_aloadn (pc := 111) dX6_walk_111 rfl rfl ?_
                        refine a_getA (pc := 112) flX6_39 sh_0 rfl dX6_walk_112 ?_
                        refine a_getA (pc := 115) flX6_99 sh_41 rfl dX6_walk_115 ?_
                        refine a_iloadn (pc := 118) dX6_walk_118 rfl rfl ?_
                        obtain ⟨hi20, hs⟩ := g_if hs
                        refine a_iald (pc := 119) sh_43 hi20 dX6_walk_119 ?_
                        refine a_iload (pc := 120) dX6_walk_120 rfl ?_
                        refine a_icmp_le (pc := 122) (tgt := 140) dX6_walk_122 (by decide) (fun c21 => ?_) (fun c21 => ?_)
                        · rw [if_pos c21] at hs
                          refine a_iinc (pc := 140) dX6_walk_140 rfl (v := x7 + (1 : Int32)) rfl (Nat.le_of_ble_eq_true rfl) rfl (L' := [some (.ref (gad X 0)), some (.int x1), some (.int x2), none, some (.int x4), some (.int x5), some (.int x6), some (.int (x7 + (1 : Int32)))]) rfl ?_
                          refine a_goto (pc := 143) (tgt := 73) dX6_walk_143 (by decide) ?_
                          obtain rfl := Option.some.inj hs
                          exact ih _ _ _ _ _ _ _ hR
                        · rw [if_neg c21] at hs
                          refine a_aloadn (pc := 125) dX6_walk_125 rfl rfl ?_
                          refine a_getA (pc := 126) flX6_39 sh_0 rfl dX6_walk_126 ?_
                          refine a_getA (pc := 129) flX6_99 sh_41 rfl dX6_walk_129 ?_
                          refine a_iloadn (pc := 132) dX6_walk_132 rfl rfl ?_
                          obtain ⟨hi22, hs⟩ := g_if hs
                          refine a_iald (pc := 133) sh_43 hi22 dX6_walk_133 ?_
                          obtain ⟨v23, ev23, hs⟩ := g_let hs
                          refine a_nmI ev23 ?_
                          refine a_istore (pc := 134) dX6_walk_134 (Nat.le_of_ble_eq_true rfl) rfl (L' := [some (.ref (gad X 0)), some (.int x1), some (.int x2), none, some (.int x4), some (.int v23), some (.int x6), some (.int x7)]) rfl ?_
                          refine a_iload (pc := 136) dX6_walk_136 rfl ?_
                          refine a_istore (pc := 138) dX6_walk_138 (Nat.le_of_ble_eq_true rfl) rfl (L' := [some (.ref (gad X 0)), some (.int x1), some (.int x2), none, some (.int x4), some (.int v23), some (.int x7), some (.int x7)]) rfl ?_
                          refine a_iinc (pc := 140) dX6_walk_140 rfl (v := x7 + (1 : Int32)) rfl (Nat.le_of_ble_eq_true rfl) rfl (L' := [some (.ref (gad X 0)), some (.int x1), some (.int x2), none, some (.int x4), some (.int v23), some (.int x7), some (.int (x7 + (1 : Int32)))]) rfl ?_
                          refine a_goto (pc := 143) (tgt := 73) dX6_walk_143 (by decide) ?_
                          obtain rfl := Option.some.inj hs
                          exact ih _ _ _ _ _ _ _ hR
                exact lp _ _ _ _ _ _ _ _ hR24
              · rw [if_neg c10] at h
                refine a_bipush (pc := 44) (v := (-4 : Int32)) dX6_walk_44 (by decide) ?_
                obtain ⟨rfl, rfl⟩ := Prod.mk.inj (Option.some.inj h)
                exact a_iret hp dX6_walk_46
            · rw [if_neg c9] at h
              refine a_iconst (pc := 36) (v := (-1 : Int32)) dX6_walk_36 (by decide) ?_
              obtain ⟨rfl, rfl⟩ := Prod.mk.inj (Option.some.inj h)
              exact a_iret hp dX6_walk_37
theorem dX6_well_0 : decode cX6_well 0 = .ok (.aload_n 0, 1) := by decide +kernel
theorem dX6_well_1 : decode cX6_well 1 = .ok (.getfield 12, 3) := by decide +kernel
theorem dX6_well_4 : decode cX6_well 4 = .ok (.iload_n 1, 1) := by decide +kernel
theorem dX6_well_5 : decode cX6_well 5 = .ok (.invokevirtual 72, 3) := by decide +kernel
theorem dX6_well_8 : decode cX6_well 8 = .ok (.ifCond .eq 20, 3) := by decide +kernel
theorem dX6_well_11 : decode cX6_well 11 = .ok (.iload_n 2, 1) := by decide +kernel
theorem dX6_well_12 : decode cX6_well 12 = .ok (.invokestatic 51, 3) := by decide +kernel
theorem dX6_well_15 : decode cX6_well 15 = .ok (.ifCond .eq 13, 3) := by decide +kernel
theorem dX6_well_18 : decode cX6_well 18 = .ok (.iload_n 3, 1) := by decide +kernel
theorem dX6_well_19 : decode cX6_well 19 = .ok (.ifCond .lt 9, 3) := by decide +kernel
theorem dX6_well_22 : decode cX6_well 22 = .ok (.iload_n 3, 1) := by decide +kernel
theorem dX6_well_23 : decode cX6_well 23 = .ok (.bipush 12, 2) := by decide +kernel
theorem dX6_well_25 : decode cX6_well 25 = .ok (.if_icmp .le 5, 3) := by decide +kernel
theorem dX6_well_28 : decode cX6_well 28 = .ok (.iconst (-1), 1) := by decide +kernel
theorem dX6_well_29 : decode cX6_well 29 = .ok (.ireturn, 1) := by decide +kernel
theorem dX6_well_30 : decode cX6_well 30 = .ok (.aload_n 0, 1) := by decide +kernel
theorem dX6_well_31 : decode cX6_well 31 = .ok (.getfield 46, 3) := by decide +kernel
theorem dX6_well_34 : decode cX6_well 34 = .ok (.aload_n 0, 1) := by decide +kernel
theorem dX6_well_35 : decode cX6_well 35 = .ok (.getfield 12, 3) := by decide +kernel
theorem dX6_well_38 : decode cX6_well 38 = .ok (.aload_n 0, 1) := by decide +kernel
theorem dX6_well_39 : decode cX6_well 39 = .ok (.getfield 39, 3) := by decide +kernel
theorem dX6_well_42 : decode cX6_well 42 = .ok (.iload_n 1, 1) := by decide +kernel
theorem dX6_well_43 : decode cX6_well 43 = .ok (.iload_n 3, 1) := by decide +kernel
theorem dX6_well_44 : decode cX6_well 44 = .ok (.invokevirtual 197, 3) := by decide +kernel
theorem dX6_well_47 : decode cX6_well 47 = .ok (.iconst 0, 1) := by decide +kernel
theorem dX6_well_48 : decode cX6_well 48 = .ok (.istore 4, 2) := by decide +kernel
theorem dX6_well_50 : decode cX6_well 50 = .ok (.iload 4, 2) := by decide +kernel
theorem dX6_well_52 : decode cX6_well 52 = .ok (.iconst 4, 1) := by decide +kernel
theorem dX6_well_53 : decode cX6_well 53 = .ok (.if_icmp .gt 66, 3) := by decide +kernel
theorem dX6_well_56 : decode cX6_well 56 = .ok (.iconst 0, 1) := by decide +kernel
theorem dX6_well_57 : decode cX6_well 57 = .ok (.istore 5, 2) := by decide +kernel
theorem dX6_well_59 : decode cX6_well 59 = .ok (.iload 5, 2) := by decide +kernel
theorem dX6_well_61 : decode cX6_well 61 = .ok (.iconst 1, 1) := by decide +kernel
theorem dX6_well_62 : decode cX6_well 62 = .ok (.iconst 2, 1) := by decide +kernel
theorem dX6_well_63 : decode cX6_well 63 = .ok (.iload 4, 2) := by decide +kernel
theorem dX6_well_65 : decode cX6_well 65 = .ok (.imul, 1) := by decide +kernel
theorem dX6_well_66 : decode cX6_well 66 = .ok (.ishl, 1) := by decide +kernel
theorem dX6_well_67 : decode cX6_well 67 = .ok (.if_icmp .ge 46, 3) := by decide +kernel
theorem dX6_well_70 : decode cX6_well 70 = .ok (.aload_n 0, 1) := by decide +kernel
theorem dX6_well_71 : decode cX6_well 71 = .ok (.getfield 46, 3) := by decide +kernel
theorem dX6_well_74 : decode cX6_well 74 = .ok (.aload_n 0, 1) := by decide +kernel
theorem dX6_well_75 : decode cX6_well 75 = .ok (.getfield 12, 3) := by decide +kernel
theorem dX6_well_78 : decode cX6_well 78 = .ok (.aload_n 0, 1) := by decide +kernel
theorem dX6_well_79 : decode cX6_well 79 = .ok (.getfield 39, 3) := by decide +kernel
theorem dX6_well_82 : decode cX6_well 82 = .ok (.iload 5, 2) := by decide +kernel
theorem dX6_well_84 : decode cX6_well 84 = .ok (.iload 4, 2) := by decide +kernel
theorem dX6_well_86 : decode cX6_well 86 = .ok (.invokevirtual 201, 3) := by decide +kernel
theorem dX6_well_89 : decode cX6_well 89 = .ok (.ifCond .eq 18, 3) := by decide +kernel
theorem dX6_well_92 : decode cX6_well 92 = .ok (.aload_n 0, 1) := by decide +kernel
theorem dX6_well_93 : decode cX6_well 93 = .ok (.getfield 39, 3) := by decide +kernel
theorem dX6_well_96 : decode cX6_well 96 = .ok (.iload_n 2, 1) := by decide +kernel
theorem dX6_well_97 : decode cX6_well 97 = .ok (.invokevirtual 176, 3) := by decide +kernel
theorem dX6_well_100 : decode cX6_well 100 = .ok (.iload_n 1, 1) := by decide +kernel
theorem dX6_well_101 : decode cX6_well 101 = .ok (.if_icmp .ne 6, 3) := by decide +kernel
theorem dX6_well_104 : decode cX6_well 104 = .ok (.iload 4, 2) := by decide +kernel
theorem dX6_well_106 : decode cX6_well 106 = .ok (.ireturn, 1) := by decide +kernel
theorem dX6_well_107 : decode cX6_well 107 = .ok (.iinc 5 1, 3) := by decide +kernel
theorem dX6_well_110 : decode cX6_well 110 = .ok (.goto (-51), 3) := by decide +kernel
theorem dX6_well_113 : decode cX6_well 113 = .ok (.iinc 4 1, 3) := by decide +kernel
theorem dX6_well_116 : decode cX6_well 116 = .ok (.goto (-66), 3) := by decide +kernel
theorem dX6_well_119 : decode cX6_well 119 = .ok (.bipush (-4), 2) := by decide +kernel
theorem dX6_well_121 : decode cX6_well 121 = .ok (.ireturn, 1) := by decide +kernel
def f_X6_well_s59_b (x1 : Int32) (x2 : Int32) (x4 : Int32) (x5 : Int32) (S : gSt) : Option ((Int32 × Int32 × Int32 × Int32 × gSt) ⊕ ((Int32 × gSt) ⊕ (Int32 × Int32 × Int32 × gSt))) :=
(if ((1 : Int32) <<< (((2 : Int32) * x4) &&& 31)) ≤ x5 then
some (.inr (.inr (x1, x2, x4, S)))
else
gBind2 (f_X5_go x5 x4 S) fun r17 S15 =>
(if r17 = 0 then
some (.inl (x1, x2, x4, x5 + (1 : Int32), S15))
else
gBind2 (f_X3_holderOf x2 S15) fun r21 S19 =>
(if r21 = x1 then
some (.inr (.inl (x4, S19)))
else
some (.inl (x1, x2, x4, x5 + (1 : Int32), S19)))))
def f_X6_well_s59 : (Int32 × Int32 × Int32 × Int32 × gSt) → Option ((Int32 × Int32 × Int32 × Int32 × gSt) ⊕ ((Int32 × gSt) ⊕ (Int32 × Int32 × Int32 × gSt))) := fun t => f_X6_well_s59_b t.1 t.2.1 t.2.2.1 t.2.2.2.1 t.2.2.2.2
def f_X6_well_s50_b (x1 : Int32) (x2 : Int32) (x4 : Int32) (S : gSt) : Option ((Int32 × Int32 × Int32 × gSt) ⊕ ((Int32 × gSt) ⊕ (gSt))) :=
(if (4 : Int32) < x4 then
some (.inr (.inr (S)))
else
(gLoop (f_X6_well_s59) gFuel (x1, x2, x4, (0 : Int32), S)).bind fun q23 => match q23 with
| .inl (v23, T23) => some (.inr (.inl (v23, T23)))
| .inr (y1_23, y2_23, y4_23, S23) =>
some (.inl (y1_23, y2_23, y4_23 + (1 : Int32), S23)))
def f_X6_well_s50 : (Int32 × Int32 × Int32 × gSt) → Option ((Int32 × Int32 × Int32 × gSt) ⊕ ((Int32 × gSt) ⊕ (gSt))) := fun t => f_X6_well_s50_b t.1 t.2.1 t.2.2.1 t.2.2.2
def f_X6_well (p1 : Int32) (p2 : Int32) (p3 : Int32) (S : gSt) : Option (Int32 × gSt) :=
gBind2 (f_X0_has p1 S) fun r3 S1 =>
(if r3 = 0 then
some ((-1 : Int32), S1)
else
gBind2 (f_X6_isCell p2 S1) fun r7 S5 =>
(if r7 = 0 then
some ((-1 : Int32), S5)
else
(if p3 < 0 then
some ((-1 : Int32), S5)
else
(if p3 ≤ (12 : Int32) then
(f_X5_begin p1 p3 S5).bind fun S11 =>
(gLoop (f_X6_well_s50) gFuel (p1, p2, (0 : Int32), S11)).bind fun q24 => match q24 with
| .inl (v24, T24) => some (v24, T24)
| .inr S24 =>
some ((-4 : Int32), S24)
else
some ((-1 : Int32), S5)))))
set_option maxHeartbeats 4000000 in
set_option maxRecDepth 20000 in
theorem ok_X6_well {p1 : Int32} {p2 : Int32} {p3 : Int32} {S S0 : gSt} {r0 : Int32}  (h : f_X6_well p1 p2 p3 S = some (r0, S0)) : gCT yX6_well cX6_well 6 (some .int) 5 (fun w => [.ref (w.2.1 0), .int p1, .int p2, .int p3]) S (some (.int r0)) S0 := by
  refine gEnter (fun X => [some (.ref (gad X 0)), some (.int p1), some (.int p2), some (.int p3), none, none]) (by decide) (fun X => ⟨rfl, rfl⟩) (fun w => Nat.le_of_ble_eq_true rfl) (fun X hp => ?_)
  show AW X RX6 5 cX6_well 0 [some (.ref (gad X 0)), some (.int p1), some (.int p2), some (.int p3), none, none] [] S
  unfold f_X6_well at h
  refine a_aloadn (pc := 0) dX6_well_0 rfl rfl ?_
  refine a_getA (pc := 1) flX6_12 sh_0 rfl dX6_well_1 ?_
  refine a_iloadn (pc := 4) dX6_well_4 rfl rfl ?_
  obtain ⟨r3, S1, hc2, h⟩ := g_bind2 h
  refine a_invVi (pc := 5) (ok_X0_has hc2) gyX0_has vyX0_has mlX6_72 sh_1 rfl (As := [.int p1]) rfl rfl (by decide) (st := []) rfl (Nat.le_of_ble_eq_true rfl) dX6_well_5 ?_
  refine a_if_eq (pc := 8) (tgt := 28) dX6_well_8 (by decide) (fun c4 => ?_) (fun c4 => ?_)
  · rw [if_pos c4] at h
    refine a_iconst (pc := 28) (v := (-1 : Int32)) dX6_well_28 (by decide) ?_
    obtain ⟨rfl, rfl⟩ := Prod.mk.inj (Option.some.inj h)
    exact a_iret hp dX6_well_29
  · rw [if_neg c4] at h
    refine a_iloadn (pc := 11) dX6_well_11 rfl rfl ?_
    obtain ⟨r7, S5, hc6, h⟩ := g_bind2 h
    refine a_invSi (pc := 12) (ok_X6_isCell hc6) gyX6_isCell syX6_isCell mlX6_51 (As := [.int p2]) rfl rfl (by decide) (st := []) rfl (Nat.le_of_ble_eq_true rfl) dX6_well_12 ?_
    refine a_if_eq (pc := 15) (tgt := 28) dX6_well_15 (by decide) (fun c8 => ?_) (fun c8 => ?_)
    · rw [if_pos c8] at h
      refine a_iconst (pc := 28) (v := (-1 : Int32)) dX6_well_28 (by decide) ?_
      obtain ⟨rfl, rfl⟩ := Prod.mk.inj (Option.some.inj h)
      exact a_iret hp dX6_well_29
    · rw [if_neg c8] at h
      refine a_iloadn (pc := 18) dX6_well_18 rfl rfl ?_
      refine a_if_lt (pc := 19) (tgt := 28) dX6_well_19 (by decide) (fun c9 => ?_) (fun c9 => ?_)
      · rw [if_pos c9] at h
        refine a_iconst (pc := 28) (v := (-1 : Int32)) dX6_well_28 (by decide) ?_
        obtain ⟨rfl, rfl⟩ := Prod.mk.inj (Option.some.inj h)
        exact a_iret hp dX6_well_29
      · rw [if_neg c9] at h
        refine a_iloadn (pc := 22) dX6_well_22 rfl rfl ?_
        refine a_bipush (pc := 23) (v := (12 : Int32)) dX6_well_23 (by decide) ?_
        refine a_icmp_le (pc := 25) (tgt := 30) dX6_well_25 (by decide) (fun c10 => ?_) (fun c10 => ?_)
        · rw [if_pos c10] at h
          refine a_aloadn (pc := 30) dX6_well_30 rfl rfl ?_
          refine a_getA (pc := 31) flX6_46 sh_0 rfl dX6_well_31 ?_
          refine a_aloadn (pc := 34) dX6_well_34 rfl rfl ?_
          refine a_getA (pc := 35) flX6_12 sh_0 rfl dX6_well_35 ?_
          refine a_aloadn (pc := 38) dX6_well_38 rfl rfl ?_
          refine a_getA (pc := 39) flX6_39 sh_0 rfl dX6_well_39 ?_
          refine a_iloadn (pc := 42) dX6_well_42 rfl rfl ?_
          refine a_iloadn (pc := 43) dX6_well_43 rfl rfl ?_
          obtain ⟨S11, hc12, h⟩ := g_bind h
          refine a_invVv (pc := 44) (ok_X5_begin hc12) gyX5_begin vyX5_begin mlX6_197 sh_44 rfl (As := [.ref (gad X 1), .ref (gad X 41), .int p1, .int p3]) rfl rfl (by decide) (st := []) rfl (Nat.le_of_ble_eq_true rfl) dX6_well_44 ?_
          refine a_iconst (pc := 47) (v := (0 : Int32)) dX6_well_47 (by decide) ?_
          refine a_istore (pc := 48) dX6_well_48 (Nat.le_of_ble_eq_true rfl) rfl (L' := [some (.ref (gad X 0)), some (.int p1), some (.int p2), some (.int p3), some (.int (0 : Int32)), none]) rfl ?_
          obtain ⟨R24, hR24, h⟩ := g_bind h
          refine a_mask [true, true, true, false, true, true] (L' := [some (.ref (gad X 0)), some (.int p1), some (.int p2), none, some (.int (0 : Int32)), none]) rfl ?_
          have E50 : ∀  (S24 : gSt), (some ((-4 : Int32), S24)) = some (r0, S0) → AW X RX6 5 cX6_well 119 [none, none, none, none, none, none] [] S24 := by
            intro S24 h
            refine a_bipush (pc := 119) (v := (-4 : Int32)) dX6_well_119 (by decide) ?_
            obtain ⟨rfl, rfl⟩ := Prod.mk.inj (Option.some.inj h)
            exact a_iret hp dX6_well_121
          have lp : ∀ (n : Nat) (x1 : Int32) (x2 : Int32) (x4 : Int32) (S : gSt), gLoop (f_X6_well_s50) n (x1, x2, x4, S) = some R24 → AW X RX6 5 cX6_well 50 [some (.ref (gad X 0)), some (.int x1), some (.int x2), none, some (.int x4), none] [] S := by
            intro n
            induction n with
            | zero => intro x1 x2 x4 S hR; cases hR
            | succ n ih =>
              intro x1 x2 x4 S hR
              obtain ⟨q, hs, hR⟩ := g_bind hR
              have hs : f_X6_well_s50_b x1 x2 x4 S = some q := hs
              unfold f_X6_well_s50_b at hs
              refine a_iload (pc := 50) dX6_well_50 rfl ?_
              refine a_iconst (pc := 52) (v := (4 : Int32)) dX6_well_52 (by decide) ?_
              refine a_icmp_gt (pc := 53) (tgt := 119) dX6_well_53 (by decide) (fun c13 => ?_) (fun c13 => ?_)
              · rw [if_pos c13] at hs
                obtain rfl := Option.some.inj hs
                obtain rfl := Option.some.inj hR
                refine a_mask [false, false, false, true, false, true] (L' := [none, none, none, none, none, none]) rfl ?_
                exact E50  _ h
              · rw [if_neg c13] at hs
                refine a_iconst (pc := 56) (v := (0 : Int32)) dX6_well_56 (by decide) ?_
                refine a_istore (pc := 57) dX6_well_57 (Nat.le_of_ble_eq_true rfl) rfl (L' := [some (.ref (gad X 0)), some (.int x1), some (.int x2), none, some (.int x4), some (.int (0 : Int32))]) rfl ?_
                obtain ⟨R23, hR23, hs⟩ := g_bind hs
                have E59 : ∀ (y1_23 : Int32) (y2_23 : Int32) (y4_23 : Int32) (S23 : gSt), (some (.inl (y1_23, y2_23, y4_23 + (1 : Int32), S23))) = some q → AW X RX6 5 cX6_well 113 [some (.ref (gad X 0)), some (.int y1_23), some (.int y2_23), none, some (.int y4_23), none] [] S23 := by
                  intro y1_23 y2_23 y4_23 S23 hs
                  refine a_iinc (pc := 113) dX6_well_113 rfl (v := y4_23 + (1 : Int32)) rfl (Nat.le_of_ble_eq_true rfl) rfl (L' := [some (.ref (gad X 0)), some (.int y1_23), some (.int y2_23), none, some (.int (y4_23 + (1 : Int32))), none]) rfl ?_
                  refine a_goto (pc := 116) (tgt := 50) dX6_well_116 (by decide) ?_
                  obtain rfl := Option.some.inj hs
                  exact ih _ _ _ _ hR
                have lp : ∀ (n : Nat) (x1 : Int32) (x2 : Int32) (x4 : Int32) (x5 : Int32) (S : gSt), gLoop (f_X6_well_s59) n (x1, x2, x4, x5, S) = some R23 → AW X RX6 5 cX6_well 59 [some (.ref (gad X 0)), some (.int x1), some (.int x2), none, some (.int x4), some (.int x5)] [] S := by
                  intro n
                  induction n with
                  | zero => intro x1 x2 x4 x5 S hR; cases hR
                  | succ n ih =>
                    intro x1 x2 x4 x5 S hR
                    obtain ⟨q, hs, hR⟩ := g_bind hR
                    have hs : f_X6_well_s59_b x1 x2 x4 x5 S = some q := hs
                    unfold f_X6_well_s59_b at hs
                    refine a_iload (pc := 59) dX6_well_59 rfl ?_
                    refine a_iconst (pc := 61) (v := (1 : Int32)) dX6_well_61 (by decide) ?_
                    refine a_iconst (pc := 62) (v := (2 : Int32)) dX6_well_62 (by decide) ?_
                    refine a_iload (pc := 63) dX6_well_63 rfl ?_
                    refine a_imul (pc := 65) dX6_well_65 ?_
                    refine a_ishl (pc := 66) dX6_well_66 ?_
                    refine a_icmp_ge (pc := 67) (tgt := 113) dX6_well_67 (by decide) (fun c14 => ?_) (fun c14 => ?_)
                    · rw [if_pos c14] at hs
                      obtain rfl := Option.some.inj hs
                      obtain rfl := Option.some.inj hR
                      refine a_mask [true, true, true, true, true, false] (L' := [some (.ref (gad X 0)), some (.int x1), some (.int x2), none, some (.int x4), none]) rfl ?_
                      exact E59 _ _ _ _ hs
                    · rw [if_neg c14] at hs
                      refine a_aloadn (pc := 70) dX6_well_70 rfl rfl ?_
                      refine a_getA (pc := 71) flX6_46 sh_0 rfl dX6_well_71 ?_
                      refine a_aloadn (pc := 74) dX6_well_74 rfl rfl ?_
                      refine a_getA (pc := 75) flX6_12 sh_0 rfl dX6_well_75 ?_
                      refine a_aloadn (pc := 78) dX6_well_78 rfl rfl ?_
                      refine a_getA (pc := 79) flX6_39 sh_0 rfl dX6_well_79 ?_
                      refine a_iload (pc := 82) dX6_well_82 rfl ?_
                      refine a_iload (pc := 84) dX6_well_84 rfl ?_
                      obtain ⟨r17, S15, hc16, hs⟩ := g_bind2 hs
                      refine a_invVi (pc := 86) (ok_X5_go hc16) gyX5_go vyX5_go mlX6_201 sh_44 rfl (As := [.ref (gad X 1), .ref (gad X 41), .int x5, .int x4]) rfl rfl (by decide) (st := []) rfl (Nat.le_of_ble_eq_true rfl) dX6_well_86 ?_
                      refine a_if_eq (pc := 89) (tgt := 107) dX6_well_89 (by decide) (fun c18 => ?_) (fun c18 => ?_)
                      · rw [if_pos c18] at hs
                        refine a_iinc (pc := 107) dX6_well_107 rfl (v := x5 + (1 : Int32)) rfl (Nat.le_of_ble_eq_true rfl) rfl (L' := [some (.ref (gad X 0)), some (.int x1), some (.int x2), none, some (.int x4), some (.int (x5 + (1 : Int32)))]) rfl ?_
                        refine a_goto (pc := 110) (tgt := 59) dX6_well_110 (by decide) ?_
                        obtain rfl := Option.some.inj hs
                        exact ih _ _ _ _ _ hR
                      · rw [if_neg c18] at hs
                        refine a_aloadn (pc := 92) dX6_well_92 rfl rfl ?_
                        refine a_getA (pc := 93) flX6_39 sh_0 rfl dX6_well_93 ?_
                        refine a_iloadn (pc := 96) dX6_well_96 rfl rfl ?_
                        obtain ⟨r21, S19, hc20, hs⟩ := g_bind2 hs
                        refine a_invVi (pc := 97) (ok_X3_holderOf hc20) gyX3_holderOf vyX3_holderOf mlX6_176 sh_41 rfl (As := [.int x2]) rfl rfl (by decide) (st := []) rfl (Nat.le_of_ble_eq_true rfl) dX6_well_97 ?_
                        refine a_iloadn (pc := 100) dX6_well_100 rfl rfl ?_
                        refine a_icmp_ne (pc := 101) (tgt := 107) dX6_well_101 (by decide) (fun c22 => ?_) (fun c22 => ?_)
                        · rw [if_neg c22] at hs
                          refine a_iinc (pc := 107) dX6_well_107 rfl (v := x5 + (1 : Int32)) rfl (Nat.le_of_ble_eq_true rfl) rfl (L' := [some (.ref (gad X 0)), some (.int x1), some (.int x2), none, some (.int x4), some (.int (x5 + (1 : Int32)))]) rfl ?_
                          refine a_goto (pc := 110) (tgt := 59) dX6_well_110 (by decide) ?_
                          obtain rfl := Option.some.inj hs
                          exact ih _ _ _ _ _ hR
                        · rw [if_pos c22] at hs
                          refine a_iload (pc := 104) dX6_well_104 rfl ?_
                          obtain rfl := Option.some.inj hs
                          obtain rfl := Option.some.inj hR
                          obtain rfl := Option.some.inj hs
                          obtain rfl := Option.some.inj hR
                          obtain ⟨rfl, rfl⟩ := Prod.mk.inj (Option.some.inj h)
                          exact a_iret hp dX6_well_106
                exact lp _ _ _ _ _ _ hR23
          exact lp _ _ _ _ _ hR24
        · rw [if_neg c10] at h
          refine a_iconst (pc := 28) (v := (-1 : Int32)) dX6_well_28 (by decide) ?_
          obtain ⟨rfl, rfl⟩ := Prod.mk.inj (Option.some.inj h)
          exact a_iret hp dX6_well_29
theorem dX6_crabs_0 : decode cX6_crabs 0 = .ok (.aload_n 0, 1) := by decide +kernel
theorem dX6_crabs_1 : decode cX6_crabs 1 = .ok (.getfield 12, 3) := by decide +kernel
theorem dX6_crabs_4 : decode cX6_crabs 4 = .ok (.iload_n 1, 1) := by decide +kernel
theorem dX6_crabs_5 : decode cX6_crabs 5 = .ok (.invokevirtual 72, 3) := by decide +kernel
theorem dX6_crabs_8 : decode cX6_crabs 8 = .ok (.ifCond .eq 32, 3) := by decide +kernel
theorem dX6_crabs_11 : decode cX6_crabs 11 = .ok (.iload_n 2, 1) := by decide +kernel
theorem dX6_crabs_12 : decode cX6_crabs 12 = .ok (.invokestatic 51, 3) := by decide +kernel
theorem dX6_crabs_15 : decode cX6_crabs 15 = .ok (.ifCond .eq 25, 3) := by decide +kernel
theorem dX6_crabs_18 : decode cX6_crabs 18 = .ok (.iload_n 3, 1) := by decide +kernel
theorem dX6_crabs_19 : decode cX6_crabs 19 = .ok (.ifCond .lt 21, 3) := by decide +kernel
theorem dX6_crabs_22 : decode cX6_crabs 22 = .ok (.iload_n 3, 1) := by decide +kernel
theorem dX6_crabs_23 : decode cX6_crabs 23 = .ok (.bipush 48, 2) := by decide +kernel
theorem dX6_crabs_25 : decode cX6_crabs 25 = .ok (.if_icmp .gt 15, 3) := by decide +kernel
theorem dX6_crabs_28 : decode cX6_crabs 28 = .ok (.iload 4, 2) := by decide +kernel
theorem dX6_crabs_30 : decode cX6_crabs 30 = .ok (.ifCond .lt 10, 3) := by decide +kernel
theorem dX6_crabs_33 : decode cX6_crabs 33 = .ok (.iload 4, 2) := by decide +kernel
theorem dX6_crabs_35 : decode cX6_crabs 35 = .ok (.bipush 100, 2) := by decide +kernel
theorem dX6_crabs_37 : decode cX6_crabs 37 = .ok (.if_icmp .le 5, 3) := by decide +kernel
theorem dX6_crabs_40 : decode cX6_crabs 40 = .ok (.iconst (-1), 1) := by decide +kernel
theorem dX6_crabs_41 : decode cX6_crabs 41 = .ok (.ireturn, 1) := by decide +kernel
theorem dX6_crabs_42 : decode cX6_crabs 42 = .ok (.aload_n 0, 1) := by decide +kernel
theorem dX6_crabs_43 : decode cX6_crabs 43 = .ok (.getfield 12, 3) := by decide +kernel
theorem dX6_crabs_46 : decode cX6_crabs 46 = .ok (.aload_n 0, 1) := by decide +kernel
theorem dX6_crabs_47 : decode cX6_crabs 47 = .ok (.getfield 12, 3) := by decide +kernel
theorem dX6_crabs_50 : decode cX6_crabs 50 = .ok (.getfield 111, 3) := by decide +kernel
theorem dX6_crabs_53 : decode cX6_crabs 53 = .ok (.iload_n 1, 1) := by decide +kernel
theorem dX6_crabs_54 : decode cX6_crabs 54 = .ok (.bipush 64, 2) := by decide +kernel
theorem dX6_crabs_56 : decode cX6_crabs 56 = .ok (.imul, 1) := by decide +kernel
theorem dX6_crabs_57 : decode cX6_crabs 57 = .ok (.iload_n 2, 1) := by decide +kernel
theorem dX6_crabs_58 : decode cX6_crabs 58 = .ok (.iadd, 1) := by decide +kernel
theorem dX6_crabs_59 : decode cX6_crabs 59 = .ok (.iaload, 1) := by decide +kernel
theorem dX6_crabs_60 : decode cX6_crabs 60 = .ok (.iload_n 2, 1) := by decide +kernel
theorem dX6_crabs_61 : decode cX6_crabs 61 = .ok (.iload_n 3, 1) := by decide +kernel
theorem dX6_crabs_62 : decode cX6_crabs 62 = .ok (.invokevirtual 211, 3) := by decide +kernel
theorem dX6_crabs_65 : decode cX6_crabs 65 = .ok (.ifCond .ne 5, 3) := by decide +kernel
theorem dX6_crabs_68 : decode cX6_crabs 68 = .ok (.iconst 0, 1) := by decide +kernel
theorem dX6_crabs_69 : decode cX6_crabs 69 = .ok (.ireturn, 1) := by decide +kernel
theorem dX6_crabs_70 : decode cX6_crabs 70 = .ok (.ldc 214, 2) := by decide +kernel
theorem dX6_crabs_72 : decode cX6_crabs 72 = .ok (.istore 5, 2) := by decide +kernel
theorem dX6_crabs_74 : decode cX6_crabs 74 = .ok (.iconst 0, 1) := by decide +kernel
theorem dX6_crabs_75 : decode cX6_crabs 75 = .ok (.istore 6, 2) := by decide +kernel
theorem dX6_crabs_77 : decode cX6_crabs 77 = .ok (.iload 6, 2) := by decide +kernel
theorem dX6_crabs_79 : decode cX6_crabs 79 = .ok (.iload_n 3, 1) := by decide +kernel
theorem dX6_crabs_80 : decode cX6_crabs 80 = .ok (.if_icmp .ge 22, 3) := by decide +kernel
theorem dX6_crabs_83 : decode cX6_crabs 83 = .ok (.iload 5, 2) := by decide +kernel
theorem dX6_crabs_85 : decode cX6_crabs 85 = .ok (.bipush 100, 2) := by decide +kernel
theorem dX6_crabs_87 : decode cX6_crabs 87 = .ok (.iload 4, 2) := by decide +kernel
theorem dX6_crabs_89 : decode cX6_crabs 89 = .ok (.isub, 1) := by decide +kernel
theorem dX6_crabs_90 : decode cX6_crabs 90 = .ok (.imul, 1) := by decide +kernel
theorem dX6_crabs_91 : decode cX6_crabs 91 = .ok (.bipush 100, 2) := by decide +kernel
theorem dX6_crabs_93 : decode cX6_crabs 93 = .ok (.idiv, 1) := by decide +kernel
theorem dX6_crabs_94 : decode cX6_crabs 94 = .ok (.istore 5, 2) := by decide +kernel
theorem dX6_crabs_96 : decode cX6_crabs 96 = .ok (.iinc 6 1, 3) := by decide +kernel
theorem dX6_crabs_99 : decode cX6_crabs 99 = .ok (.goto (-22), 3) := by decide +kernel
theorem dX6_crabs_102 : decode cX6_crabs 102 = .ok (.iload 5, 2) := by decide +kernel
theorem dX6_crabs_104 : decode cX6_crabs 104 = .ok (.ireturn, 1) := by decide +kernel
def f_X6_crabs_s77_b (x3 : Int32) (x4 : Int32) (x5 : Int32) (x6 : Int32) (S : gSt) : Option ((Int32 × Int32 × Int32 × Int32 × gSt) ⊕ (Int32 × gSt)) :=
(if x3 ≤ x6 then
some (.inr (x5, S))
else
gLet ((x5 * ((100 : Int32) - x4)) / (100 : Int32)) fun v19 =>
some (.inl (x3, x4, v19, x6 + (1 : Int32), S)))
def f_X6_crabs_s77 : (Int32 × Int32 × Int32 × Int32 × gSt) → Option ((Int32 × Int32 × Int32 × Int32 × gSt) ⊕ (Int32 × gSt)) := fun t => f_X6_crabs_s77_b t.1 t.2.1 t.2.2.1 t.2.2.2.1 t.2.2.2.2
def f_X6_crabs (p1 : Int32) (p2 : Int32) (p3 : Int32) (p4 : Int32) (S : gSt) : Option (Int32 × gSt) :=
gBind2 (f_X0_has p1 S) fun r3 S1 =>
(if r3 = 0 then
some ((-1 : Int32), S1)
else
gBind2 (f_X6_isCell p2 S1) fun r7 S5 =>
(if r7 = 0 then
some ((-1 : Int32), S5)
else
(if p3 < 0 then
some ((-1 : Int32), S5)
else
(if (48 : Int32) < p3 then
some ((-1 : Int32), S5)
else
(if p4 < 0 then
some ((-1 : Int32), S5)
else
(if p4 ≤ (100 : Int32) then
if gin ((p1 * (64 : Int32)) + p2) 384 then
(gBind2 (f_X0_depthBehind (S5.1 7 ((p1 * (64 : Int32)) + p2).toNatClampNeg) p2 p3 S5) fun r16 S14 =>
(if r16 = 0 then
some ((0 : Int32), S14)
else
(gLoop (f_X6_crabs_s77) gFuel (p3, p4, (1000000 : Int32), (0 : Int32), S14)).bind fun q20 => match q20 with
| (y5_20, S20) =>
some (y5_20, S20))) else none
else
some ((-1 : Int32), S5)))))))
set_option maxHeartbeats 4000000 in
set_option maxRecDepth 20000 in
theorem ok_X6_crabs {p1 : Int32} {p2 : Int32} {p3 : Int32} {p4 : Int32} {S S0 : gSt} {r0 : Int32}  (h : f_X6_crabs p1 p2 p3 p4 S = some (r0, S0)) : gCT yX6_crabs cX6_crabs 7 (some .int) 2 (fun w => [.ref (w.2.1 0), .int p1, .int p2, .int p3, .int p4]) S (some (.int r0)) S0 := by
  refine gEnter (fun X => [some (.ref (gad X 0)), some (.int p1), some (.int p2), some (.int p3), some (.int p4), none, none]) (by decide) (fun X => ⟨rfl, rfl⟩) (fun w => Nat.le_of_ble_eq_true rfl) (fun X hp => ?_)
  show AW X RX6 2 cX6_crabs 0 [some (.ref (gad X 0)), some (.int p1), some (.int p2), some (.int p3), some (.int p4), none, none] [] S
  unfold f_X6_crabs at h
  refine a_aloadn (pc := 0) dX6_crabs_0 rfl rfl ?_
  refine a_getA (pc := 1) flX6_12 sh_0 rfl dX6_crabs_1 ?_
  refine a_iloadn (pc := 4) dX6_crabs_4 rfl rfl ?_
  obtain ⟨r3, S1, hc2, h⟩ := g_bind2 h
  refine a_invVi (pc := 5) (ok_X0_has hc2) gyX0_has vyX0_has mlX6_72 sh_1 rfl (As := [.int p1]) rfl rfl (by decide) (st := []) rfl (Nat.le_of_ble_eq_true rfl) dX6_crabs_5 ?_
  refine a_if_eq (pc := 8) (tgt := 40) dX6_crabs_8 (by decide) (fun c4 => ?_) (fun c4 => ?_)
  · rw [if_pos c4] at h
    refine a_iconst (pc := 40) (v := (-1 : Int32)) dX6_crabs_40 (by decide) ?_
    obtain ⟨rfl, rfl⟩ := Prod.mk.inj (Option.some.inj h)
    exact a_iret hp dX6_crabs_41
  · rw [if_neg c4] at h
    refine a_iloadn (pc := 11) dX6_crabs_11 rfl rfl ?_
    obtain ⟨r7, S5, hc6, h⟩ := g_bind2 h
    refine a_invSi (pc := 12) (ok_X6_isCell hc6) gyX6_isCell syX6_isCell mlX6_51 (As := [.int p2]) rfl rfl (by decide) (st := []) rfl (Nat.le_of_ble_eq_true rfl) dX6_crabs_12 ?_
    refine a_if_eq (pc := 15) (tgt := 40) dX6_crabs_15 (by decide) (fun c8 => ?_) (fun c8 => ?_)
    · rw [if_pos c8] at h
      refine a_iconst (pc := 40) (v := (-1 : Int32)) dX6_crabs_40 (by decide) ?_
      obtain ⟨rfl, rfl⟩ := Prod.mk.inj (Option.some.inj h)
      exact a_iret hp dX6_crabs_41
    · rw [if_neg c8] at h
      refine a_iloadn (pc := 18) dX6_crabs_18 rfl rfl ?_
      refine a_if_lt (pc := 19) (tgt := 40) dX6_crabs_19 (by decide) (fun c9 => ?_) (fun c9 => ?_)
      · rw [if_pos c9] at h
        refine a_iconst (pc := 40) (v := (-1 : Int32)) dX6_crabs_40 (by decide) ?_
        obtain ⟨rfl, rfl⟩ := Prod.mk.inj (Option.some.inj h)
        exact a_iret hp dX6_crabs_41
      · rw [if_neg c9] at h
        refine a_iloadn (pc := 22) dX6_crabs_22 rfl rfl ?_
        refine a_bipush (pc := 23) (v := (48 : Int32)) dX6_crabs_23 (by decide) ?_
        refine a_icmp_gt (pc := 25) (tgt := 40) dX6_crabs_25 (by decide) (fun c10 => ?_) (fun c10 => ?_)
        · rw [if_pos c10] at h
          refine a_iconst (pc := 40) (v := (-1 : Int32)) dX6_crabs_40 (by decide) ?_
          obtain ⟨rfl, rfl⟩ := Prod.mk.inj (Option.some.inj h)
          exact a_iret hp dX6_crabs_41
        · rw [if_neg c10] at h
          refine a_iload (pc := 28) dX6_crabs_28 rfl ?_
          refine a_if_lt (pc := 30) (tgt := 40) dX6_crabs_30 (by decide) (fun c11 => ?_) (fun c11 => ?_)
          · rw [if_pos c11] at h
            refine a_iconst (pc := 40) (v := (-1 : Int32)) dX6_crabs_40 (by decide) ?_
            obtain ⟨rfl, rfl⟩ := Prod.mk.inj (Option.some.inj h)
            exact a_iret hp dX6_crabs_41
          · rw [if_neg c11] at h
            refine a_iload (pc := 33) dX6_crabs_33 rfl ?_
            refine a_bipush (pc := 35) (v := (100 : Int32)) dX6_crabs_35 (by decide) ?_
            refine a_icmp_le (pc := 37) (tgt := 42) dX6_crabs_37 (by decide) (fun c12 => ?_) (fun c12 => ?_)
            · rw [if_pos c12] at h
              refine a_aloadn (pc := 42) dX6_crabs_42 rfl rfl ?_
              refine a_getA (pc := 43) flX6_12 sh_0 rfl dX6_crabs_43 ?_
              refine a_aloadn (pc := 46) dX6_crabs_46 rfl rfl ?_
              refine a_getA (pc := 47) flX6_12 sh_0 rfl dX6_crabs_47 ?_
              refine a_getA (pc := 50) flX6_111 sh_1 rfl dX6_crabs_50 ?_
              refine a_iloadn (pc := 53) dX6_crabs_53 rfl rfl ?_
              refine a_bipush (pc := 54) (v := (64 : Int32)) dX6_crabs_54 (by decide) ?_
              refine a_imul (pc := 56) dX6_crabs_56 ?_
              refine a_iloadn (pc := 57) dX6_crabs_57 rfl rfl ?_
              refine a_iadd (pc := 58) dX6_crabs_58 ?_
              obtain ⟨hi13, h⟩ := g_if h
              refine a_iald (pc := 59) sh_7 hi13 dX6_crabs_59 ?_
              refine a_iloadn (pc := 60) dX6_crabs_60 rfl rfl ?_
              refine a_iloadn (pc := 61) dX6_crabs_61 rfl rfl ?_
              obtain ⟨r16, S14, hc15, h⟩ := g_bind2 h
              refine a_invVi (pc := 62) (ok_X0_depthBehind hc15) gyX0_depthBehind vyX0_depthBehind mlX6_211 sh_1 rfl (As := [.int (S5.1 7 ((p1 * (64 : Int32)) + p2).toNatClampNeg), .int p2, .int p3]) rfl rfl (by decide) (st := []) rfl (Nat.le_of_ble_eq_true rfl) dX6_crabs_62 ?_
              refine a_if_ne (pc := 65) (tgt := 70) dX6_crabs_65 (by decide) (fun c17 => ?_) (fun c17 => ?_)
              · rw [if_neg c17] at h
                refine a_ldc (pc := 70) kX6_214 dX6_crabs_70 ?_
                refine a_istore (pc := 72) dX6_crabs_72 (Nat.le_of_ble_eq_true rfl) rfl (L' := [some (.ref (gad X 0)), some (.int p1), some (.int p2), some (.int p3), some (.int p4), some (.int (1000000 : Int32)), none]) rfl ?_
                refine a_iconst (pc := 74) (v := (0 : Int32)) dX6_crabs_74 (by decide) ?_
                refine a_istore (pc := 75) dX6_crabs_75 (Nat.le_of_ble_eq_true rfl) rfl (L' := [some (.ref (gad X 0)), some (.int p1), some (.int p2), some (.int p3), some (.int p4), some (.int (1000000 : Int32)), some (.int (0 : Int32))]) rfl ?_
                obtain ⟨R20, hR20, h⟩ := g_bind h
                refine a_mask [false, false, false, true, true, true, true] (L' := [none, none, none, some (.int p3), some (.int p4), some (.int (1000000 : Int32)), some (.int (0 : Int32))]) rfl ?_
                have E77 : ∀ (y5_20 : Int32) (S20 : gSt), (some (y5_20, S20)) = some (r0, S0) → AW X RX6 2 cX6_crabs 102 [none, none, none, none, none, some (.int y5_20), none] [] S20 := by
                  intro y5_20 S20 h
                  refine a_iload (pc := 102) dX6_crabs_102 rfl ?_
                  obtain ⟨rfl, rfl⟩ := Prod.mk.inj (Option.some.inj h)
                  exact a_iret hp dX6_crabs_104
                have lp : ∀ (n : Nat) (x3 : Int32) (x4 : Int32) (x5 : Int32) (x6 : Int32) (S : gSt), gLoop (f_X6_crabs_s77) n (x3, x4, x5, x6, S) = some R20 → AW X RX6 2 cX6_crabs 77 [none, none, none, some (.int x3), some (.int x4), some (.int x5), some (.int x6)] [] S := by
                  intro n
                  induction n with
                  | zero => intro x3 x4 x5 x6 S hR; cases hR
                  | succ n ih =>
                    intro x3 x4 x5 x6 S hR
                    obtain ⟨q, hs, hR⟩ := g_bind hR
                    have hs : f_X6_crabs_s77_b x3 x4 x5 x6 S = some q := hs
                    unfold f_X6_crabs_s77_b at hs
                    refine a_iload (pc := 77) dX6_crabs_77 rfl ?_
                    refine a_iloadn (pc := 79) dX6_crabs_79 rfl rfl ?_
                    refine a_icmp_ge (pc := 80) (tgt := 102) dX6_crabs_80 (by decide) (fun c18 => ?_) (fun c18 => ?_)
                    · rw [if_pos c18] at hs
                      obtain rfl := Option.some.inj hs
                      obtain rfl := Option.some.inj hR
                      refine a_mask [true, true, true, false, false, true, false] (L' := [none, none, none, none, none, some (.int x5), none]) rfl ?_
                      exact E77 _ _ h
                    · rw [if_neg c18] at hs
                      refine a_iload (pc := 83) dX6_crabs_83 rfl ?_
                      refine a_bipush (pc := 85) (v := (100 : Int32)) dX6_crabs_85 (by decide) ?_
                      refine a_iload (pc := 87) dX6_crabs_87 rfl ?_
                      refine a_isub (pc := 89) dX6_crabs_89 ?_
                      refine a_imul (pc := 90) dX6_crabs_90 ?_
                      refine a_bipush (pc := 91) (v := (100 : Int32)) dX6_crabs_91 (by decide) ?_
                      refine a_idiv (pc := 93) dX6_crabs_93 (by decide) ?_
                      obtain ⟨v19, ev19, hs⟩ := g_let hs
                      refine a_nmI ev19 ?_
                      refine a_istore (pc := 94) dX6_crabs_94 (Nat.le_of_ble_eq_true rfl) rfl (L' := [none, none, none, some (.int x3), some (.int x4), some (.int v19), some (.int x6)]) rfl ?_
                      refine a_iinc (pc := 96) dX6_crabs_96 rfl (v := x6 + (1 : Int32)) rfl (Nat.le_of_ble_eq_true rfl) rfl (L' := [none, none, none, some (.int x3), some (.int x4), some (.int v19), some (.int (x6 + (1 : Int32)))]) rfl ?_
                      refine a_goto (pc := 99) (tgt := 77) dX6_crabs_99 (by decide) ?_
                      obtain rfl := Option.some.inj hs
                      exact ih _ _ _ _ _ hR
                exact lp _ _ _ _ _ _ hR20
              · rw [if_pos c17] at h
                refine a_iconst (pc := 68) (v := (0 : Int32)) dX6_crabs_68 (by decide) ?_
                obtain ⟨rfl, rfl⟩ := Prod.mk.inj (Option.some.inj h)
                exact a_iret hp dX6_crabs_69
            · rw [if_neg c12] at h
              refine a_iconst (pc := 40) (v := (-1 : Int32)) dX6_crabs_40 (by decide) ?_
              obtain ⟨rfl, rfl⟩ := Prod.mk.inj (Option.some.inj h)
              exact a_iret hp dX6_crabs_41
theorem dX1_become_0 : decode cX1_become 0 = .ok (.aload_n 1, 1) := by decide +kernel
theorem dX1_become_1 : decode cX1_become 1 = .ok (.getfield 9, 3) := by decide +kernel
theorem dX1_become_4 : decode cX1_become 4 = .ok (.iconst 0, 1) := by decide +kernel
theorem dX1_become_5 : decode cX1_become 5 = .ok (.aload_n 0, 1) := by decide +kernel
theorem dX1_become_6 : decode cX1_become 6 = .ok (.getfield 9, 3) := by decide +kernel
theorem dX1_become_9 : decode cX1_become 9 = .ok (.iconst 0, 1) := by decide +kernel
theorem dX1_become_10 : decode cX1_become 10 = .ok (.aload_n 0, 1) := by decide +kernel
theorem dX1_become_11 : decode cX1_become 11 = .ok (.getfield 9, 3) := by decide +kernel
theorem dX1_become_14 : decode cX1_become 14 = .ok (.arraylength, 1) := by decide +kernel
theorem dX1_become_15 : decode cX1_become 15 = .ok (.invokestatic 37, 3) := by decide +kernel
theorem dX1_become_18 : decode cX1_become 18 = .ok (.aload_n 1, 1) := by decide +kernel
theorem dX1_become_19 : decode cX1_become 19 = .ok (.getfield 15, 3) := by decide +kernel
theorem dX1_become_22 : decode cX1_become 22 = .ok (.iconst 0, 1) := by decide +kernel
theorem dX1_become_23 : decode cX1_become 23 = .ok (.aload_n 0, 1) := by decide +kernel
theorem dX1_become_24 : decode cX1_become 24 = .ok (.getfield 15, 3) := by decide +kernel
theorem dX1_become_27 : decode cX1_become 27 = .ok (.iconst 0, 1) := by decide +kernel
theorem dX1_become_28 : decode cX1_become 28 = .ok (.aload_n 0, 1) := by decide +kernel
theorem dX1_become_29 : decode cX1_become 29 = .ok (.getfield 15, 3) := by decide +kernel
theorem dX1_become_32 : decode cX1_become 32 = .ok (.arraylength, 1) := by decide +kernel
theorem dX1_become_33 : decode cX1_become 33 = .ok (.invokestatic 37, 3) := by decide +kernel
theorem dX1_become_36 : decode cX1_become 36 = .ok (.aload_n 1, 1) := by decide +kernel
theorem dX1_become_37 : decode cX1_become 37 = .ok (.getfield 18, 3) := by decide +kernel
theorem dX1_become_40 : decode cX1_become 40 = .ok (.iconst 0, 1) := by decide +kernel
theorem dX1_become_41 : decode cX1_become 41 = .ok (.aload_n 0, 1) := by decide +kernel
theorem dX1_become_42 : decode cX1_become 42 = .ok (.getfield 18, 3) := by decide +kernel
theorem dX1_become_45 : decode cX1_become 45 = .ok (.iconst 0, 1) := by decide +kernel
theorem dX1_become_46 : decode cX1_become 46 = .ok (.aload_n 0, 1) := by decide +kernel
theorem dX1_become_47 : decode cX1_become 47 = .ok (.getfield 18, 3) := by decide +kernel
theorem dX1_become_50 : decode cX1_become 50 = .ok (.arraylength, 1) := by decide +kernel
theorem dX1_become_51 : decode cX1_become 51 = .ok (.invokestatic 37, 3) := by decide +kernel
theorem dX1_become_54 : decode cX1_become 54 = .ok (.aload_n 1, 1) := by decide +kernel
theorem dX1_become_55 : decode cX1_become 55 = .ok (.getfield 21, 3) := by decide +kernel
theorem dX1_become_58 : decode cX1_become 58 = .ok (.iconst 0, 1) := by decide +kernel
theorem dX1_become_59 : decode cX1_become 59 = .ok (.aload_n 0, 1) := by decide +kernel
theorem dX1_become_60 : decode cX1_become 60 = .ok (.getfield 21, 3) := by decide +kernel
theorem dX1_become_63 : decode cX1_become 63 = .ok (.iconst 0, 1) := by decide +kernel
theorem dX1_become_64 : decode cX1_become 64 = .ok (.aload_n 0, 1) := by decide +kernel
theorem dX1_become_65 : decode cX1_become 65 = .ok (.getfield 21, 3) := by decide +kernel
theorem dX1_become_68 : decode cX1_become 68 = .ok (.arraylength, 1) := by decide +kernel
theorem dX1_become_69 : decode cX1_become 69 = .ok (.invokestatic 37, 3) := by decide +kernel
theorem dX1_become_72 : decode cX1_become 72 = .ok (.aload_n 1, 1) := by decide +kernel
theorem dX1_become_73 : decode cX1_become 73 = .ok (.getfield 24, 3) := by decide +kernel
theorem dX1_become_76 : decode cX1_become 76 = .ok (.iconst 0, 1) := by decide +kernel
theorem dX1_become_77 : decode cX1_become 77 = .ok (.aload_n 0, 1) := by decide +kernel
theorem dX1_become_78 : decode cX1_become 78 = .ok (.getfield 24, 3) := by decide +kernel
theorem dX1_become_81 : decode cX1_become 81 = .ok (.iconst 0, 1) := by decide +kernel
theorem dX1_become_82 : decode cX1_become 82 = .ok (.aload_n 0, 1) := by decide +kernel
theorem dX1_become_83 : decode cX1_become 83 = .ok (.getfield 24, 3) := by decide +kernel
theorem dX1_become_86 : decode cX1_become 86 = .ok (.arraylength, 1) := by decide +kernel
theorem dX1_become_87 : decode cX1_become 87 = .ok (.invokestatic 37, 3) := by decide +kernel
theorem dX1_become_90 : decode cX1_become 90 = .ok (.aload_n 0, 1) := by decide +kernel
theorem dX1_become_91 : decode cX1_become 91 = .ok (.aload_n 1, 1) := by decide +kernel
theorem dX1_become_92 : decode cX1_become 92 = .ok (.getfield 27, 3) := by decide +kernel
theorem dX1_become_95 : decode cX1_become 95 = .ok (.putfield 27, 3) := by decide +kernel
theorem dX1_become_98 : decode cX1_become 98 = .ok (.aload_n 0, 1) := by decide +kernel
theorem dX1_become_99 : decode cX1_become 99 = .ok (.aload_n 1, 1) := by decide +kernel
theorem dX1_become_100 : decode cX1_become 100 = .ok (.getfield 31, 3) := by decide +kernel
theorem dX1_become_103 : decode cX1_become 103 = .ok (.putfield 31, 3) := by decide +kernel
theorem dX1_become_106 : decode cX1_become 106 = .ok (.return_, 1) := by decide +kernel
def f_X1_become_b (S : gSt) : Option gSt :=
if gcp (0 : Int32) (0 : Int32) (3072 : Int32) 3072 3072 then
gLet (gR S 22 (va_cpy (S.1 9) (S.1 22) (0 : Int32).toNatClampNeg (0 : Int32).toNatClampNeg (3072 : Int32).toNatClampNeg)) fun S2 =>
(if gcp (0 : Int32) (0 : Int32) (48 : Int32) 48 48 then
gLet (gR S2 23 (va_cpy (S2.1 10) (S2.1 23) (0 : Int32).toNatClampNeg (0 : Int32).toNatClampNeg (48 : Int32).toNatClampNeg)) fun S4 =>
(if gcp (0 : Int32) (0 : Int32) (48 : Int32) 48 48 then
gLet (gR S4 24 (va_cpy (S4.1 11) (S4.1 24) (0 : Int32).toNatClampNeg (0 : Int32).toNatClampNeg (48 : Int32).toNatClampNeg)) fun S6 =>
(if gcp (0 : Int32) (0 : Int32) (8 : Int32) 8 8 then
gLet (gR S6 25 (va_cpy (S6.1 12) (S6.1 25) (0 : Int32).toNatClampNeg (0 : Int32).toNatClampNeg (8 : Int32).toNatClampNeg)) fun S8 =>
(if gcp (0 : Int32) (0 : Int32) (8 : Int32) 8 8 then
gLet (gR S8 26 (va_cpy (S8.1 13) (S8.1 26) (0 : Int32).toNatClampNeg (0 : Int32).toNatClampNeg (8 : Int32).toNatClampNeg)) fun S10 =>
(gLet (gI S10 21 5 (S10.1 8 5)) fun S11 =>
gLet (gI S11 21 6 (S11.1 8 6)) fun S12 =>
some S12) else none) else none) else none) else none) else none
set_option maxHeartbeats 4000000 in
set_option maxRecDepth 20000 in
theorem ok_X1_become_b {S S0 : gSt}  (h : f_X1_become_b S = some S0) : gCT yX1_become cX1_become 2 none 1 (fun w => [.ref (w.2.1 21), .ref (w.2.1 8)]) S none S0 := by
  refine gEnter (fun X => [some (.ref (gad X 21)), some (.ref (gad X 8))]) (by decide) (fun X => ⟨rfl, rfl⟩) (fun w => Nat.le_of_ble_eq_true rfl) (fun X hp => ?_)
  show AW X RX1 1 cX1_become 0 [some (.ref (gad X 21)), some (.ref (gad X 8))] [] S
  unfold f_X1_become_b at h
  refine a_aloadn (pc := 0) dX1_become_0 rfl rfl ?_
  refine a_getA (pc := 1) flX1_9 sh_8 rfl dX1_become_1 ?_
  refine a_iconst (pc := 4) (v := (0 : Int32)) dX1_become_4 (by decide) ?_
  refine a_aloadn (pc := 5) dX1_become_5 rfl rfl ?_
  refine a_getA (pc := 6) flX1_9 sh_21 rfl dX1_become_6 ?_
  refine a_iconst (pc := 9) (v := (0 : Int32)) dX1_become_9 (by decide) ?_
  refine a_aloadn (pc := 10) dX1_become_10 rfl rfl ?_
  refine a_getA (pc := 11) flX1_9 sh_21 rfl dX1_become_11 ?_
  refine a_alen (pc := 14) sh_22 (by decide) (v := (3072 : Int32)) (by decide) dX1_become_14 ?_
  obtain ⟨hi1, h⟩ := g_if h
  refine a_copyi (pc := 15) sh_9 sh_22 hi1 mlX1_37 (by decide) (Nat.le_of_ble_eq_true rfl) dX1_become_15 ?_
  obtain ⟨S2, eS2, h⟩ := g_let h
  refine a_nmS eS2 ?_
  refine a_aloadn (pc := 18) dX1_become_18 rfl rfl ?_
  refine a_getA (pc := 19) flX1_15 sh_8 rfl dX1_become_19 ?_
  refine a_iconst (pc := 22) (v := (0 : Int32)) dX1_become_22 (by decide) ?_
  refine a_aloadn (pc := 23) dX1_become_23 rfl rfl ?_
  refine a_getA (pc := 24) flX1_15 sh_21 rfl dX1_become_24 ?_
  refine a_iconst (pc := 27) (v := (0 : Int32)) dX1_become_27 (by decide) ?_
  refine a_aloadn (pc := 28) dX1_become_28 rfl rfl ?_
  refine a_getA (pc := 29) flX1_15 sh_21 rfl dX1_become_29 ?_
  refine a_alen (pc := 32) sh_23 (by decide) (v := (48 : Int32)) (by decide) dX1_become_32 ?_
  obtain ⟨hi3, h⟩ := g_if h
  refine a_copyi (pc := 33) sh_10 sh_23 hi3 mlX1_37 (by decide) (Nat.le_of_ble_eq_true rfl) dX1_become_33 ?_
  obtain ⟨S4, eS4, h⟩ := g_let h
  refine a_nmS eS4 ?_
  refine a_aloadn (pc := 36) dX1_become_36 rfl rfl ?_
  refine a_getA (pc := 37) flX1_18 sh_8 rfl dX1_become_37 ?_
  refine a_iconst (pc := 40) (v := (0 : Int32)) dX1_become_40 (by decide) ?_
  refine a_aloadn (pc := 41) dX1_become_41 rfl rfl ?_
  refine a_getA (pc := 42) flX1_18 sh_21 rfl dX1_become_42 ?_
  refine a_iconst (pc := 45) (v := (0 : Int32)) dX1_become_45 (by decide) ?_
  refine a_aloadn (pc := 46) dX1_become_46 rfl rfl ?_
  refine a_getA (pc := 47) flX1_18 sh_21 rfl dX1_become_47 ?_
  refine a_alen (pc := 50) sh_24 (by decide) (v := (48 : Int32)) (by decide) dX1_become_50 ?_
  obtain ⟨hi5, h⟩ := g_if h
  refine a_copyi (pc := 51) sh_11 sh_24 hi5 mlX1_37 (by decide) (Nat.le_of_ble_eq_true rfl) dX1_become_51 ?_
  obtain ⟨S6, eS6, h⟩ := g_let h
  refine a_nmS eS6 ?_
  refine a_aloadn (pc := 54) dX1_become_54 rfl rfl ?_
  refine a_getA (pc := 55) flX1_21 sh_8 rfl dX1_become_55 ?_
  refine a_iconst (pc := 58) (v := (0 : Int32)) dX1_become_58 (by decide) ?_
  refine a_aloadn (pc := 59) dX1_become_59 rfl rfl ?_
  refine a_getA (pc := 60) flX1_21 sh_21 rfl dX1_become_60 ?_
  refine a_iconst (pc := 63) (v := (0 : Int32)) dX1_become_63 (by decide) ?_
  refine a_aloadn (pc := 64) dX1_become_64 rfl rfl ?_
  refine a_getA (pc := 65) flX1_21 sh_21 rfl dX1_become_65 ?_
  refine a_alen (pc := 68) sh_25 (by decide) (v := (8 : Int32)) (by decide) dX1_become_68 ?_
  obtain ⟨hi7, h⟩ := g_if h
  refine a_copyi (pc := 69) sh_12 sh_25 hi7 mlX1_37 (by decide) (Nat.le_of_ble_eq_true rfl) dX1_become_69 ?_
  obtain ⟨S8, eS8, h⟩ := g_let h
  refine a_nmS eS8 ?_
  refine a_aloadn (pc := 72) dX1_become_72 rfl rfl ?_
  refine a_getA (pc := 73) flX1_24 sh_8 rfl dX1_become_73 ?_
  refine a_iconst (pc := 76) (v := (0 : Int32)) dX1_become_76 (by decide) ?_
  refine a_aloadn (pc := 77) dX1_become_77 rfl rfl ?_
  refine a_getA (pc := 78) flX1_24 sh_21 rfl dX1_become_78 ?_
  refine a_iconst (pc := 81) (v := (0 : Int32)) dX1_become_81 (by decide) ?_
  refine a_aloadn (pc := 82) dX1_become_82 rfl rfl ?_
  refine a_getA (pc := 83) flX1_24 sh_21 rfl dX1_become_83 ?_
  refine a_alen (pc := 86) sh_26 (by decide) (v := (8 : Int32)) (by decide) dX1_become_86 ?_
  obtain ⟨hi9, h⟩ := g_if h
  refine a_copyi (pc := 87) sh_13 sh_26 hi9 mlX1_37 (by decide) (Nat.le_of_ble_eq_true rfl) dX1_become_87 ?_
  obtain ⟨S10, eS10, h⟩ := g_let h
  refine a_nmS eS10 ?_
  refine a_aloadn (pc := 90) dX1_become_90 rfl rfl ?_
  refine a_aloadn (pc := 91) dX1_become_91 rfl rfl ?_
  refine a_getI (pc := 92) flX1_27 sh_8 rfl dX1_become_92 ?_
  refine a_putI (pc := 95) flX1_27 sh_21 rfl rfl rfl dX1_become_95 ?_
  obtain ⟨S11, eS11, h⟩ := g_let h
  refine a_nmS eS11 ?_
  refine a_aloadn (pc := 98) dX1_become_98 rfl rfl ?_
  refine a_aloadn (pc := 99) dX1_become_99 rfl rfl ?_
  refine a_getI (pc := 100) flX1_31 sh_8 rfl dX1_become_100 ?_
  refine a_putI (pc := 103) flX1_31 sh_21 rfl rfl rfl dX1_become_103 ?_
  obtain ⟨S12, eS12, h⟩ := g_let h
  refine a_nmS eS12 ?_
  obtain rfl := Option.some.inj h
  exact a_vret hp dX1_become_106
theorem dX0_become_0 : decode cX0_become 0 = .ok (.aload_n 1, 1) := by decide +kernel
theorem dX0_become_1 : decode cX0_become 1 = .ok (.getfield 9, 3) := by decide +kernel
theorem dX0_become_4 : decode cX0_become 4 = .ok (.iconst 0, 1) := by decide +kernel
theorem dX0_become_5 : decode cX0_become 5 = .ok (.aload_n 0, 1) := by decide +kernel
theorem dX0_become_6 : decode cX0_become 6 = .ok (.getfield 9, 3) := by decide +kernel
theorem dX0_become_9 : decode cX0_become 9 = .ok (.iconst 0, 1) := by decide +kernel
theorem dX0_become_10 : decode cX0_become 10 = .ok (.aload_n 0, 1) := by decide +kernel
theorem dX0_become_11 : decode cX0_become 11 = .ok (.getfield 9, 3) := by decide +kernel
theorem dX0_become_14 : decode cX0_become 14 = .ok (.arraylength, 1) := by decide +kernel
theorem dX0_become_15 : decode cX0_become 15 = .ok (.invokestatic 47, 3) := by decide +kernel
theorem dX0_become_18 : decode cX0_become 18 = .ok (.aload_n 1, 1) := by decide +kernel
theorem dX0_become_19 : decode cX0_become 19 = .ok (.getfield 15, 3) := by decide +kernel
theorem dX0_become_22 : decode cX0_become 22 = .ok (.iconst 0, 1) := by decide +kernel
theorem dX0_become_23 : decode cX0_become 23 = .ok (.aload_n 0, 1) := by decide +kernel
theorem dX0_become_24 : decode cX0_become 24 = .ok (.getfield 15, 3) := by decide +kernel
theorem dX0_become_27 : decode cX0_become 27 = .ok (.iconst 0, 1) := by decide +kernel
theorem dX0_become_28 : decode cX0_become 28 = .ok (.bipush 6, 2) := by decide +kernel
theorem dX0_become_30 : decode cX0_become 30 = .ok (.invokestatic 47, 3) := by decide +kernel
theorem dX0_become_33 : decode cX0_become 33 = .ok (.aload_n 1, 1) := by decide +kernel
theorem dX0_become_34 : decode cX0_become 34 = .ok (.getfield 18, 3) := by decide +kernel
theorem dX0_become_37 : decode cX0_become 37 = .ok (.iconst 0, 1) := by decide +kernel
theorem dX0_become_38 : decode cX0_become 38 = .ok (.aload_n 0, 1) := by decide +kernel
theorem dX0_become_39 : decode cX0_become 39 = .ok (.getfield 18, 3) := by decide +kernel
theorem dX0_become_42 : decode cX0_become 42 = .ok (.iconst 0, 1) := by decide +kernel
theorem dX0_become_43 : decode cX0_become 43 = .ok (.bipush 6, 2) := by decide +kernel
theorem dX0_become_45 : decode cX0_become 45 = .ok (.invokestatic 47, 3) := by decide +kernel
theorem dX0_become_48 : decode cX0_become 48 = .ok (.aload_n 1, 1) := by decide +kernel
theorem dX0_become_49 : decode cX0_become 49 = .ok (.getfield 21, 3) := by decide +kernel
theorem dX0_become_52 : decode cX0_become 52 = .ok (.iconst 0, 1) := by decide +kernel
theorem dX0_become_53 : decode cX0_become 53 = .ok (.aload_n 0, 1) := by decide +kernel
theorem dX0_become_54 : decode cX0_become 54 = .ok (.getfield 21, 3) := by decide +kernel
theorem dX0_become_57 : decode cX0_become 57 = .ok (.iconst 0, 1) := by decide +kernel
theorem dX0_become_58 : decode cX0_become 58 = .ok (.bipush 6, 2) := by decide +kernel
theorem dX0_become_60 : decode cX0_become 60 = .ok (.invokestatic 47, 3) := by decide +kernel
theorem dX0_become_63 : decode cX0_become 63 = .ok (.aload_n 1, 1) := by decide +kernel
theorem dX0_become_64 : decode cX0_become 64 = .ok (.getfield 24, 3) := by decide +kernel
theorem dX0_become_67 : decode cX0_become 67 = .ok (.iconst 0, 1) := by decide +kernel
theorem dX0_become_68 : decode cX0_become 68 = .ok (.aload_n 0, 1) := by decide +kernel
theorem dX0_become_69 : decode cX0_become 69 = .ok (.getfield 24, 3) := by decide +kernel
theorem dX0_become_72 : decode cX0_become 72 = .ok (.iconst 0, 1) := by decide +kernel
theorem dX0_become_73 : decode cX0_become 73 = .ok (.bipush 6, 2) := by decide +kernel
theorem dX0_become_75 : decode cX0_become 75 = .ok (.invokestatic 47, 3) := by decide +kernel
theorem dX0_become_78 : decode cX0_become 78 = .ok (.aload_n 1, 1) := by decide +kernel
theorem dX0_become_79 : decode cX0_become 79 = .ok (.getfield 27, 3) := by decide +kernel
theorem dX0_become_82 : decode cX0_become 82 = .ok (.iconst 0, 1) := by decide +kernel
theorem dX0_become_83 : decode cX0_become 83 = .ok (.aload_n 0, 1) := by decide +kernel
theorem dX0_become_84 : decode cX0_become 84 = .ok (.getfield 27, 3) := by decide +kernel
theorem dX0_become_87 : decode cX0_become 87 = .ok (.iconst 0, 1) := by decide +kernel
theorem dX0_become_88 : decode cX0_become 88 = .ok (.sipush 384, 3) := by decide +kernel
theorem dX0_become_91 : decode cX0_become 91 = .ok (.invokestatic 47, 3) := by decide +kernel
theorem dX0_become_94 : decode cX0_become 94 = .ok (.aload_n 0, 1) := by decide +kernel
theorem dX0_become_95 : decode cX0_become 95 = .ok (.getfield 33, 3) := by decide +kernel
theorem dX0_become_98 : decode cX0_become 98 = .ok (.aload_n 1, 1) := by decide +kernel
theorem dX0_become_99 : decode cX0_become 99 = .ok (.getfield 33, 3) := by decide +kernel
theorem dX0_become_102 : decode cX0_become 102 = .ok (.invokevirtual 53, 3) := by decide +kernel
theorem dX0_become_105 : decode cX0_become 105 = .ok (.aload_n 0, 1) := by decide +kernel
theorem dX0_become_106 : decode cX0_become 106 = .ok (.aload_n 1, 1) := by decide +kernel
theorem dX0_become_107 : decode cX0_become 107 = .ok (.getfield 37, 3) := by decide +kernel
theorem dX0_become_110 : decode cX0_become 110 = .ok (.putfield 37, 3) := by decide +kernel
theorem dX0_become_113 : decode cX0_become 113 = .ok (.aload_n 0, 1) := by decide +kernel
theorem dX0_become_114 : decode cX0_become 114 = .ok (.aload_n 1, 1) := by decide +kernel
theorem dX0_become_115 : decode cX0_become 115 = .ok (.getfield 41, 3) := by decide +kernel
theorem dX0_become_118 : decode cX0_become 118 = .ok (.putfield 41, 3) := by decide +kernel
theorem dX0_become_121 : decode cX0_become 121 = .ok (.aload_n 0, 1) := by decide +kernel
theorem dX0_become_122 : decode cX0_become 122 = .ok (.aload_n 1, 1) := by decide +kernel
theorem dX0_become_123 : decode cX0_become 123 = .ok (.getfield 44, 3) := by decide +kernel
theorem dX0_become_126 : decode cX0_become 126 = .ok (.putfield 44, 3) := by decide +kernel
theorem dX0_become_129 : decode cX0_become 129 = .ok (.return_, 1) := by decide +kernel
def f_X0_become_b (S : gSt) : Option gSt :=
if gcp (0 : Int32) (0 : Int32) (5 : Int32) 5 5 then
gLet (gR S 15 (va_cpy (S.1 2) (S.1 15) (0 : Int32).toNatClampNeg (0 : Int32).toNatClampNeg (5 : Int32).toNatClampNeg)) fun S2 =>
(if gcp (0 : Int32) (0 : Int32) (6 : Int32) 6 6 then
gLet (gR S2 16 (va_cpy (S2.1 3) (S2.1 16) (0 : Int32).toNatClampNeg (0 : Int32).toNatClampNeg (6 : Int32).toNatClampNeg)) fun S4 =>
(if gcp (0 : Int32) (0 : Int32) (6 : Int32) 6 6 then
gLet (gR S4 17 (va_cpy (S4.1 4) (S4.1 17) (0 : Int32).toNatClampNeg (0 : Int32).toNatClampNeg (6 : Int32).toNatClampNeg)) fun S6 =>
(if gcp (0 : Int32) (0 : Int32) (6 : Int32) 6 6 then
gLet (gR S6 18 (va_cpy (S6.1 5) (S6.1 18) (0 : Int32).toNatClampNeg (0 : Int32).toNatClampNeg (6 : Int32).toNatClampNeg)) fun S8 =>
(if gcp (0 : Int32) (0 : Int32) (6 : Int32) 6 6 then
gLet (gR S8 19 (va_cpy (S8.1 6) (S8.1 19) (0 : Int32).toNatClampNeg (0 : Int32).toNatClampNeg (6 : Int32).toNatClampNeg)) fun S10 =>
(if gcp (0 : Int32) (0 : Int32) (384 : Int32) 384 384 then
gLet (gR S10 20 (va_cpy (S10.1 7) (S10.1 20) (0 : Int32).toNatClampNeg (0 : Int32).toNatClampNeg (384 : Int32).toNatClampNeg)) fun S12 =>
((f_X1_become_b S12).bind fun S13 =>
gLet (gI S13 14 7 (S13.1 1 7)) fun S15 =>
gLet (gI S15 14 8 (S15.1 1 8)) fun S16 =>
gLet (gI S16 14 9 (S16.1 1 9)) fun S17 =>
some S17) else none) else none) else none) else none) else none) else none
set_option maxHeartbeats 4000000 in
set_option maxRecDepth 20000 in
theorem ok_X0_become_b {S S0 : gSt}  (h : f_X0_become_b S = some S0) : gCT yX0_become cX0_become 2 none 2 (fun w => [.ref (w.2.1 14), .ref (w.2.1 1)]) S none S0 := by
  refine gEnter (fun X => [some (.ref (gad X 14)), some (.ref (gad X 1))]) (by decide) (fun X => ⟨rfl, rfl⟩) (fun w => Nat.le_of_ble_eq_true rfl) (fun X hp => ?_)
  show AW X RX0 2 cX0_become 0 [some (.ref (gad X 14)), some (.ref (gad X 1))] [] S
  unfold f_X0_become_b at h
  refine a_aloadn (pc := 0) dX0_become_0 rfl rfl ?_
  refine a_getA (pc := 1) flX0_9 sh_1 rfl dX0_become_1 ?_
  refine a_iconst (pc := 4) (v := (0 : Int32)) dX0_become_4 (by decide) ?_
  refine a_aloadn (pc := 5) dX0_become_5 rfl rfl ?_
  refine a_getA (pc := 6) flX0_9 sh_14 rfl dX0_become_6 ?_
  refine a_iconst (pc := 9) (v := (0 : Int32)) dX0_become_9 (by decide) ?_
  refine a_aloadn (pc := 10) dX0_become_10 rfl rfl ?_
  refine a_getA (pc := 11) flX0_9 sh_14 rfl dX0_become_11 ?_
  refine a_alen (pc := 14) sh_15 (by decide) (v := (5 : Int32)) (by decide) dX0_become_14 ?_
  obtain ⟨hi1, h⟩ := g_if h
  refine a_copyi (pc := 15) sh_2 sh_15 hi1 mlX0_47 (by decide) (Nat.le_of_ble_eq_true rfl) dX0_become_15 ?_
  obtain ⟨S2, eS2, h⟩ := g_let h
  refine a_nmS eS2 ?_
  refine a_aloadn (pc := 18) dX0_become_18 rfl rfl ?_
  refine a_getA (pc := 19) flX0_15 sh_1 rfl dX0_become_19 ?_
  refine a_iconst (pc := 22) (v := (0 : Int32)) dX0_become_22 (by decide) ?_
  refine a_aloadn (pc := 23) dX0_become_23 rfl rfl ?_
  refine a_getA (pc := 24) flX0_15 sh_14 rfl dX0_become_24 ?_
  refine a_iconst (pc := 27) (v := (0 : Int32)) dX0_become_27 (by decide) ?_
  refine a_bipush (pc := 28) (v := (6 : Int32)) dX0_become_28 (by decide) ?_
  obtain ⟨hi3, h⟩ := g_if h
  refine a_copyi (pc := 30) sh_3 sh_16 hi3 mlX0_47 (by decide) (Nat.le_of_ble_eq_true rfl) dX0_become_30 ?_
  obtain ⟨S4, eS4, h⟩ := g_let h
  refine a_nmS eS4 ?_
  refine a_aloadn (pc := 33) dX0_become_33 rfl rfl ?_
  refine a_getA (pc := 34) flX0_18 sh_1 rfl dX0_become_34 ?_
  refine a_iconst (pc := 37) (v := (0 : Int32)) dX0_become_37 (by decide) ?_
  refine a_aloadn (pc := 38) dX0_become_38 rfl rfl ?_
  refine a_getA (pc := 39) flX0_18 sh_14 rfl dX0_become_39 ?_
  refine a_iconst (pc := 42) (v := (0 : Int32)) dX0_become_42 (by decide) ?_
  refine a_bipush (pc := 43) (v := (6 : Int32)) dX0_become_43 (by decide) ?_
  obtain ⟨hi5, h⟩ := g_if h
  refine a_copyi (pc := 45) sh_4 sh_17 hi5 mlX0_47 (by decide) (Nat.le_of_ble_eq_true rfl) dX0_become_45 ?_
  obtain ⟨S6, eS6, h⟩ := g_let h
  refine a_nmS eS6 ?_
  refine a_aloadn (pc := 48) dX0_become_48 rfl rfl ?_
  refine a_getA (pc := 49) flX0_21 sh_1 rfl dX0_become_49 ?_
  refine a_iconst (pc := 52) (v := (0 : Int32)) dX0_become_52 (by decide) ?_
  refine a_aloadn (pc := 53) dX0_become_53 rfl rfl ?_
  refine a_getA (pc := 54) flX0_21 sh_14 rfl dX0_become_54 ?_
  refine a_iconst (pc := 57) (v := (0 : Int32)) dX0_become_57 (by decide) ?_
  refine a_bipush (pc := 58) (v := (6 : Int32)) dX0_become_58 (by decide) ?_
  obtain ⟨hi7, h⟩ := g_if h
  refine a_copyi (pc := 60) sh_5 sh_18 hi7 mlX0_47 (by decide) (Nat.le_of_ble_eq_true rfl) dX0_become_60 ?_
  obtain ⟨S8, eS8, h⟩ := g_let h
  refine a_nmS eS8 ?_
  refine a_aloadn (pc := 63) dX0_become_63 rfl rfl ?_
  refine a_getA (pc := 64) flX0_24 sh_1 rfl dX0_become_64 ?_
  refine a_iconst (pc := 67) (v := (0 : Int32)) dX0_become_67 (by decide) ?_
  refine a_aloadn (pc := 68) dX0_become_68 rfl rfl ?_
  refine a_getA (pc := 69) flX0_24 sh_14 rfl dX0_become_69 ?_
  refine a_iconst (pc := 72) (v := (0 : Int32)) dX0_become_72 (by decide) ?_
  refine a_bipush (pc := 73) (v := (6 : Int32)) dX0_become_73 (by decide) ?_
  obtain ⟨hi9, h⟩ := g_if h
  refine a_copyi (pc := 75) sh_6 sh_19 hi9 mlX0_47 (by decide) (Nat.le_of_ble_eq_true rfl) dX0_become_75 ?_
  obtain ⟨S10, eS10, h⟩ := g_let h
  refine a_nmS eS10 ?_
  refine a_aloadn (pc := 78) dX0_become_78 rfl rfl ?_
  refine a_getA (pc := 79) flX0_27 sh_1 rfl dX0_become_79 ?_
  refine a_iconst (pc := 82) (v := (0 : Int32)) dX0_become_82 (by decide) ?_
  refine a_aloadn (pc := 83) dX0_become_83 rfl rfl ?_
  refine a_getA (pc := 84) flX0_27 sh_14 rfl dX0_become_84 ?_
  refine a_iconst (pc := 87) (v := (0 : Int32)) dX0_become_87 (by decide) ?_
  refine a_sipush (pc := 88) (v := (384 : Int32)) dX0_become_88 (by decide) ?_
  obtain ⟨hi11, h⟩ := g_if h
  refine a_copyi (pc := 91) sh_7 sh_20 hi11 mlX0_47 (by decide) (Nat.le_of_ble_eq_true rfl) dX0_become_91 ?_
  obtain ⟨S12, eS12, h⟩ := g_let h
  refine a_nmS eS12 ?_
  refine a_aloadn (pc := 94) dX0_become_94 rfl rfl ?_
  refine a_getA (pc := 95) flX0_33 sh_14 rfl dX0_become_95 ?_
  refine a_aloadn (pc := 98) dX0_become_98 rfl rfl ?_
  refine a_getA (pc := 99) flX0_33 sh_1 rfl dX0_become_99 ?_
  obtain ⟨S13, hc14, h⟩ := g_bind h
  refine a_invVv (pc := 102) (ok_X1_become_b hc14) gyX1_become vyX1_become mlX0_53 sh_21 rfl (As := [.ref (gad X 8)]) rfl rfl (by decide) (st := []) rfl (Nat.le_of_ble_eq_true rfl) dX0_become_102 ?_
  refine a_aloadn (pc := 105) dX0_become_105 rfl rfl ?_
  refine a_aloadn (pc := 106) dX0_become_106 rfl rfl ?_
  refine a_getI (pc := 107) flX0_37 sh_1 rfl dX0_become_107 ?_
  refine a_putI (pc := 110) flX0_37 sh_14 rfl rfl rfl dX0_become_110 ?_
  obtain ⟨S15, eS15, h⟩ := g_let h
  refine a_nmS eS15 ?_
  refine a_aloadn (pc := 113) dX0_become_113 rfl rfl ?_
  refine a_aloadn (pc := 114) dX0_become_114 rfl rfl ?_
  refine a_getI (pc := 115) flX0_41 sh_1 rfl dX0_become_115 ?_
  refine a_putI (pc := 118) flX0_41 sh_14 rfl rfl rfl dX0_become_118 ?_
  obtain ⟨S16, eS16, h⟩ := g_let h
  refine a_nmS eS16 ?_
  refine a_aloadn (pc := 121) dX0_become_121 rfl rfl ?_
  refine a_aloadn (pc := 122) dX0_become_122 rfl rfl ?_
  refine a_getI (pc := 123) flX0_44 sh_1 rfl dX0_become_123 ?_
  refine a_putI (pc := 126) flX0_44 sh_14 rfl rfl rfl dX0_become_126 ?_
  obtain ⟨S17, eS17, h⟩ := g_let h
  refine a_nmS eS17 ?_
  obtain rfl := Option.some.inj h
  exact a_vret hp dX0_become_129
theorem dX6_image_0 : decode cX6_image 0 = .ok (.aload_n 0, 1) := by decide +kernel
theorem dX6_image_1 : decode cX6_image 1 = .ok (.getfield 16, 3) := by decide +kernel
theorem dX6_image_4 : decode cX6_image 4 = .ok (.aload_n 0, 1) := by decide +kernel
theorem dX6_image_5 : decode cX6_image 5 = .ok (.getfield 12, 3) := by decide +kernel
theorem dX6_image_8 : decode cX6_image 8 = .ok (.invokevirtual 215, 3) := by decide +kernel
theorem dX6_image_11 : decode cX6_image 11 = .ok (.aload_n 0, 1) := by decide +kernel
theorem dX6_image_12 : decode cX6_image 12 = .ok (.iconst 1, 1) := by decide +kernel
theorem dX6_image_13 : decode cX6_image 13 = .ok (.putfield 19, 3) := by decide +kernel
theorem dX6_image_16 : decode cX6_image 16 = .ok (.iconst 1, 1) := by decide +kernel
theorem dX6_image_17 : decode cX6_image 17 = .ok (.ireturn, 1) := by decide +kernel
def f_X6_image (S : gSt) : Option (Int32 × gSt) :=
(f_X0_become_b S).bind fun S1 =>
gLet (gI S1 0 2 (1 : Int32)) fun S3 =>
some ((1 : Int32), S3)
set_option maxHeartbeats 4000000 in
set_option maxRecDepth 20000 in
theorem ok_X6_image {S S0 : gSt} {r0 : Int32}  (h : f_X6_image S = some (r0, S0)) : gCT yX6_image cX6_image 1 (some .int) 3 (fun w => [.ref (w.2.1 0)]) S (some (.int r0)) S0 := by
  refine gEnter (fun X => [some (.ref (gad X 0))]) (by decide) (fun X => ⟨rfl, rfl⟩) (fun w => Nat.le_of_ble_eq_true rfl) (fun X hp => ?_)
  show AW X RX6 3 cX6_image 0 [some (.ref (gad X 0))] [] S
  unfold f_X6_image at h
  refine a_aloadn (pc := 0) dX6_image_0 rfl rfl ?_
  refine a_getA (pc := 1) flX6_16 sh_0 rfl dX6_image_1 ?_
  refine a_aloadn (pc := 4) dX6_image_4 rfl rfl ?_
  refine a_getA (pc := 5) flX6_12 sh_0 rfl dX6_image_5 ?_
  obtain ⟨S1, hc2, h⟩ := g_bind h
  refine a_invVv (pc := 8) (ok_X0_become_b hc2) gyX0_become vyX0_become mlX6_215 sh_14 rfl (As := [.ref (gad X 1)]) rfl rfl (by decide) (st := []) rfl (Nat.le_of_ble_eq_true rfl) dX6_image_8 ?_
  refine a_aloadn (pc := 11) dX6_image_11 rfl rfl ?_
  refine a_iconst (pc := 12) (v := (1 : Int32)) dX6_image_12 (by decide) ?_
  refine a_putI (pc := 13) flX6_19 sh_0 rfl rfl rfl dX6_image_13 ?_
  obtain ⟨S3, eS3, h⟩ := g_let h
  refine a_nmS eS3 ?_
  refine a_iconst (pc := 16) (v := (1 : Int32)) dX6_image_16 (by decide) ?_
  obtain ⟨rfl, rfl⟩ := Prod.mk.inj (Option.some.inj h)
  exact a_iret hp dX6_image_17
def f_X1_become_a (S : gSt) : Option gSt :=
if gcp (0 : Int32) (0 : Int32) (3072 : Int32) 3072 3072 then
gLet (gR S 9 (va_cpy (S.1 22) (S.1 9) (0 : Int32).toNatClampNeg (0 : Int32).toNatClampNeg (3072 : Int32).toNatClampNeg)) fun S2 =>
(if gcp (0 : Int32) (0 : Int32) (48 : Int32) 48 48 then
gLet (gR S2 10 (va_cpy (S2.1 23) (S2.1 10) (0 : Int32).toNatClampNeg (0 : Int32).toNatClampNeg (48 : Int32).toNatClampNeg)) fun S4 =>
(if gcp (0 : Int32) (0 : Int32) (48 : Int32) 48 48 then
gLet (gR S4 11 (va_cpy (S4.1 24) (S4.1 11) (0 : Int32).toNatClampNeg (0 : Int32).toNatClampNeg (48 : Int32).toNatClampNeg)) fun S6 =>
(if gcp (0 : Int32) (0 : Int32) (8 : Int32) 8 8 then
gLet (gR S6 12 (va_cpy (S6.1 25) (S6.1 12) (0 : Int32).toNatClampNeg (0 : Int32).toNatClampNeg (8 : Int32).toNatClampNeg)) fun S8 =>
(if gcp (0 : Int32) (0 : Int32) (8 : Int32) 8 8 then
gLet (gR S8 13 (va_cpy (S8.1 26) (S8.1 13) (0 : Int32).toNatClampNeg (0 : Int32).toNatClampNeg (8 : Int32).toNatClampNeg)) fun S10 =>
(gLet (gI S10 8 5 (S10.1 21 5)) fun S11 =>
gLet (gI S11 8 6 (S11.1 21 6)) fun S12 =>
some S12) else none) else none) else none) else none) else none
set_option maxHeartbeats 4000000 in
set_option maxRecDepth 20000 in
theorem ok_X1_become_a {S S0 : gSt}  (h : f_X1_become_a S = some S0) : gCT yX1_become cX1_become 2 none 1 (fun w => [.ref (w.2.1 8), .ref (w.2.1 21)]) S none S0 := by
  refine gEnter (fun X => [some (.ref (gad X 8)), some (.ref (gad X 21))]) (by decide) (fun X => ⟨rfl, rfl⟩) (fun w => Nat.le_of_ble_eq_true rfl) (fun X hp => ?_)
  show AW X RX1 1 cX1_become 0 [some (.ref (gad X 8)), some (.ref (gad X 21))] [] S
  unfold f_X1_become_a at h
  refine a_aloadn (pc := 0) dX1_become_0 rfl rfl ?_
  refine a_getA (pc := 1) flX1_9 sh_21 rfl dX1_become_1 ?_
  refine a_iconst (pc := 4) (v := (0 : Int32)) dX1_become_4 (by decide) ?_
  refine a_aloadn (pc := 5) dX1_become_5 rfl rfl ?_
  refine a_getA (pc := 6) flX1_9 sh_8 rfl dX1_become_6 ?_
  refine a_iconst (pc := 9) (v := (0 : Int32)) dX1_become_9 (by decide) ?_
  refine a_aloadn (pc := 10) dX1_become_10 rfl rfl ?_
  refine a_getA (pc := 11) flX1_9 sh_8 rfl dX1_become_11 ?_
  refine a_alen (pc := 14) sh_9 (by decide) (v := (3072 : Int32)) (by decide) dX1_become_14 ?_
  obtain ⟨hi1, h⟩ := g_if h
  refine a_copyi (pc := 15) sh_22 sh_9 hi1 mlX1_37 (by decide) (Nat.le_of_ble_eq_true rfl) dX1_become_15 ?_
  obtain ⟨S2, eS2, h⟩ := g_let h
  refine a_nmS eS2 ?_
  refine a_aloadn (pc := 18) dX1_become_18 rfl rfl ?_
  refine a_getA (pc := 19) flX1_15 sh_21 rfl dX1_become_19 ?_
  refine a_iconst (pc := 22) (v := (0 : Int32)) dX1_become_22 (by decide) ?_
  refine a_aloadn (pc := 23) dX1_become_23 rfl rfl ?_
  refine a_getA (pc := 24) flX1_15 sh_8 rfl dX1_become_24 ?_
  refine a_iconst (pc := 27) (v := (0 : Int32)) dX1_become_27 (by decide) ?_
  refine a_aloadn (pc := 28) dX1_become_28 rfl rfl ?_
  refine a_getA (pc := 29) flX1_15 sh_8 rfl dX1_become_29 ?_
  refine a_alen (pc := 32) sh_10 (by decide) (v := (48 : Int32)) (by decide) dX1_become_32 ?_
  obtain ⟨hi3, h⟩ := g_if h
  refine a_copyi (pc := 33) sh_23 sh_10 hi3 mlX1_37 (by decide) (Nat.le_of_ble_eq_true rfl) dX1_become_33 ?_
  obtain ⟨S4, eS4, h⟩ := g_let h
  refine a_nmS eS4 ?_
  refine a_aloadn (pc := 36) dX1_become_36 rfl rfl ?_
  refine a_getA (pc := 37) flX1_18 sh_21 rfl dX1_become_37 ?_
  refine a_iconst (pc := 40) (v := (0 : Int32)) dX1_become_40 (by decide) ?_
  refine a_aloadn (pc := 41) dX1_become_41 rfl rfl ?_
  refine a_getA (pc := 42) flX1_18 sh_8 rfl dX1_become_42 ?_
  refine a_iconst (pc := 45) (v := (0 : Int32)) dX1_become_45 (by decide) ?_
  refine a_aloadn (pc := 46) dX1_become_46 rfl rfl ?_
  refine a_getA (pc := 47) flX1_18 sh_8 rfl dX1_become_47 ?_
  refine a_alen (pc := 50) sh_11 (by decide) (v := (48 : Int32)) (by decide) dX1_become_50 ?_
  obtain ⟨hi5, h⟩ := g_if h
  refine a_copyi (pc := 51) sh_24 sh_11 hi5 mlX1_37 (by decide) (Nat.le_of_ble_eq_true rfl) dX1_become_51 ?_
  obtain ⟨S6, eS6, h⟩ := g_let h
  refine a_nmS eS6 ?_
  refine a_aloadn (pc := 54) dX1_become_54 rfl rfl ?_
  refine a_getA (pc := 55) flX1_21 sh_21 rfl dX1_become_55 ?_
  refine a_iconst (pc := 58) (v := (0 : Int32)) dX1_become_58 (by decide) ?_
  refine a_aloadn (pc := 59) dX1_become_59 rfl rfl ?_
  refine a_getA (pc := 60) flX1_21 sh_8 rfl dX1_become_60 ?_
  refine a_iconst (pc := 63) (v := (0 : Int32)) dX1_become_63 (by decide) ?_
  refine a_aloadn (pc := 64) dX1_become_64 rfl rfl ?_
  refine a_getA (pc := 65) flX1_21 sh_8 rfl dX1_become_65 ?_
  refine a_alen (pc := 68) sh_12 (by decide) (v := (8 : Int32)) (by decide) dX1_become_68 ?_
  obtain ⟨hi7, h⟩ := g_if h
  refine a_copyi (pc := 69) sh_25 sh_12 hi7 mlX1_37 (by decide) (Nat.le_of_ble_eq_true rfl) dX1_become_69 ?_
  obtain ⟨S8, eS8, h⟩ := g_let h
  refine a_nmS eS8 ?_
  refine a_aloadn (pc := 72) dX1_become_72 rfl rfl ?_
  refine a_getA (pc := 73) flX1_24 sh_21 rfl dX1_become_73 ?_
  refine a_iconst (pc := 76) (v := (0 : Int32)) dX1_become_76 (by decide) ?_
  refine a_aloadn (pc := 77) dX1_become_77 rfl rfl ?_
  refine a_getA (pc := 78) flX1_24 sh_8 rfl dX1_become_78 ?_
  refine a_iconst (pc := 81) (v := (0 : Int32)) dX1_become_81 (by decide) ?_
  refine a_aloadn (pc := 82) dX1_become_82 rfl rfl ?_
  refine a_getA (pc := 83) flX1_24 sh_8 rfl dX1_become_83 ?_
  refine a_alen (pc := 86) sh_13 (by decide) (v := (8 : Int32)) (by decide) dX1_become_86 ?_
  obtain ⟨hi9, h⟩ := g_if h
  refine a_copyi (pc := 87) sh_26 sh_13 hi9 mlX1_37 (by decide) (Nat.le_of_ble_eq_true rfl) dX1_become_87 ?_
  obtain ⟨S10, eS10, h⟩ := g_let h
  refine a_nmS eS10 ?_
  refine a_aloadn (pc := 90) dX1_become_90 rfl rfl ?_
  refine a_aloadn (pc := 91) dX1_become_91 rfl rfl ?_
  refine a_getI (pc := 92) flX1_27 sh_21 rfl dX1_become_92 ?_
  refine a_putI (pc := 95) flX1_27 sh_8 rfl rfl rfl dX1_become_95 ?_
  obtain ⟨S11, eS11, h⟩ := g_let h
  refine a_nmS eS11 ?_
  refine a_aloadn (pc := 98) dX1_become_98 rfl rfl ?_
  refine a_aloadn (pc := 99) dX1_become_99 rfl rfl ?_
  refine a_getI (pc := 100) flX1_31 sh_21 rfl dX1_become_100 ?_
  refine a_putI (pc := 103) flX1_31 sh_8 rfl rfl rfl dX1_become_103 ?_
  obtain ⟨S12, eS12, h⟩ := g_let h
  refine a_nmS eS12 ?_
  obtain rfl := Option.some.inj h
  exact a_vret hp dX1_become_106
def f_X0_become_a (S : gSt) : Option gSt :=
if gcp (0 : Int32) (0 : Int32) (5 : Int32) 5 5 then
gLet (gR S 2 (va_cpy (S.1 15) (S.1 2) (0 : Int32).toNatClampNeg (0 : Int32).toNatClampNeg (5 : Int32).toNatClampNeg)) fun S2 =>
(if gcp (0 : Int32) (0 : Int32) (6 : Int32) 6 6 then
gLet (gR S2 3 (va_cpy (S2.1 16) (S2.1 3) (0 : Int32).toNatClampNeg (0 : Int32).toNatClampNeg (6 : Int32).toNatClampNeg)) fun S4 =>
(if gcp (0 : Int32) (0 : Int32) (6 : Int32) 6 6 then
gLet (gR S4 4 (va_cpy (S4.1 17) (S4.1 4) (0 : Int32).toNatClampNeg (0 : Int32).toNatClampNeg (6 : Int32).toNatClampNeg)) fun S6 =>
(if gcp (0 : Int32) (0 : Int32) (6 : Int32) 6 6 then
gLet (gR S6 5 (va_cpy (S6.1 18) (S6.1 5) (0 : Int32).toNatClampNeg (0 : Int32).toNatClampNeg (6 : Int32).toNatClampNeg)) fun S8 =>
(if gcp (0 : Int32) (0 : Int32) (6 : Int32) 6 6 then
gLet (gR S8 6 (va_cpy (S8.1 19) (S8.1 6) (0 : Int32).toNatClampNeg (0 : Int32).toNatClampNeg (6 : Int32).toNatClampNeg)) fun S10 =>
(if gcp (0 : Int32) (0 : Int32) (384 : Int32) 384 384 then
gLet (gR S10 7 (va_cpy (S10.1 20) (S10.1 7) (0 : Int32).toNatClampNeg (0 : Int32).toNatClampNeg (384 : Int32).toNatClampNeg)) fun S12 =>
((f_X1_become_a S12).bind fun S13 =>
gLet (gI S13 1 7 (S13.1 14 7)) fun S15 =>
gLet (gI S15 1 8 (S15.1 14 8)) fun S16 =>
gLet (gI S16 1 9 (S16.1 14 9)) fun S17 =>
some S17) else none) else none) else none) else none) else none) else none
set_option maxHeartbeats 4000000 in
set_option maxRecDepth 20000 in
theorem ok_X0_become_a {S S0 : gSt}  (h : f_X0_become_a S = some S0) : gCT yX0_become cX0_become 2 none 2 (fun w => [.ref (w.2.1 1), .ref (w.2.1 14)]) S none S0 := by
  refine gEnter (fun X => [some (.ref (gad X 1)), some (.ref (gad X 14))]) (by decide) (fun X => ⟨rfl, rfl⟩) (fun w => Nat.le_of_ble_eq_true rfl) (fun X hp => ?_)
  show AW X RX0 2 cX0_become 0 [some (.ref (gad X 1)), some (.ref (gad X 14))] [] S
  unfold f_X0_become_a at h
  refine a_aloadn (pc := 0) dX0_become_0 rfl rfl ?_
  refine a_getA (pc := 1) flX0_9 sh_14 rfl dX0_become_1 ?_
  refine a_iconst (pc := 4) (v := (0 : Int32)) dX0_become_4 (by decide) ?_
  refine a_aloadn (pc := 5) dX0_become_5 rfl rfl ?_
  refine a_getA (pc := 6) flX0_9 sh_1 rfl dX0_become_6 ?_
  refine a_iconst (pc := 9) (v := (0 : Int32)) dX0_become_9 (by decide) ?_
  refine a_aloadn (pc := 10) dX0_become_10 rfl rfl ?_
  refine a_getA (pc := 11) flX0_9 sh_1 rfl dX0_become_11 ?_
  refine a_alen (pc := 14) sh_2 (by decide) (v := (5 : Int32)) (by decide) dX0_become_14 ?_
  obtain ⟨hi1, h⟩ := g_if h
  refine a_copyi (pc := 15) sh_15 sh_2 hi1 mlX0_47 (by decide) (Nat.le_of_ble_eq_true rfl) dX0_become_15 ?_
  obtain ⟨S2, eS2, h⟩ := g_let h
  refine a_nmS eS2 ?_
  refine a_aloadn (pc := 18) dX0_become_18 rfl rfl ?_
  refine a_getA (pc := 19) flX0_15 sh_14 rfl dX0_become_19 ?_
  refine a_iconst (pc := 22) (v := (0 : Int32)) dX0_become_22 (by decide) ?_
  refine a_aloadn (pc := 23) dX0_become_23 rfl rfl ?_
  refine a_getA (pc := 24) flX0_15 sh_1 rfl dX0_become_24 ?_
  refine a_iconst (pc := 27) (v := (0 : Int32)) dX0_become_27 (by decide) ?_
  refine a_bipush (pc := 28) (v := (6 : Int32)) dX0_become_28 (by decide) ?_
  obtain ⟨hi3, h⟩ := g_if h
  refine a_copyi (pc := 30) sh_16 sh_3 hi3 mlX0_47 (by decide) (Nat.le_of_ble_eq_true rfl) dX0_become_30 ?_
  obtain ⟨S4, eS4, h⟩ := g_let h
  refine a_nmS eS4 ?_
  refine a_aloadn (pc := 33) dX0_become_33 rfl rfl ?_
  refine a_getA (pc := 34) flX0_18 sh_14 rfl dX0_become_34 ?_
  refine a_iconst (pc := 37) (v := (0 : Int32)) dX0_become_37 (by decide) ?_
  refine a_aloadn (pc := 38) dX0_become_38 rfl rfl ?_
  refine a_getA (pc := 39) flX0_18 sh_1 rfl dX0_become_39 ?_
  refine a_iconst (pc := 42) (v := (0 : Int32)) dX0_become_42 (by decide) ?_
  refine a_bipush (pc := 43) (v := (6 : Int32)) dX0_become_43 (by decide) ?_
  obtain ⟨hi5, h⟩ := g_if h
  refine a_copyi (pc := 45) sh_17 sh_4 hi5 mlX0_47 (by decide) (Nat.le_of_ble_eq_true rfl) dX0_become_45 ?_
  obtain ⟨S6, eS6, h⟩ := g_let h
  refine a_nmS eS6 ?_
  refine a_aloadn (pc := 48) dX0_become_48 rfl rfl ?_
  refine a_getA (pc := 49) flX0_21 sh_14 rfl dX0_become_49 ?_
  refine a_iconst (pc := 52) (v := (0 : Int32)) dX0_become_52 (by decide) ?_
  refine a_aloadn (pc := 53) dX0_become_53 rfl rfl ?_
  refine a_getA (pc := 54) flX0_21 sh_1 rfl dX0_become_54 ?_
  refine a_iconst (pc := 57) (v := (0 : Int32)) dX0_become_57 (by decide) ?_
  refine a_bipush (pc := 58) (v := (6 : Int32)) dX0_become_58 (by decide) ?_
  obtain ⟨hi7, h⟩ := g_if h
  refine a_copyi (pc := 60) sh_18 sh_5 hi7 mlX0_47 (by decide) (Nat.le_of_ble_eq_true rfl) dX0_become_60 ?_
  obtain ⟨S8, eS8, h⟩ := g_let h
  refine a_nmS eS8 ?_
  refine a_aloadn (pc := 63) dX0_become_63 rfl rfl ?_
  refine a_getA (pc := 64) flX0_24 sh_14 rfl dX0_become_64 ?_
  refine a_iconst (pc := 67) (v := (0 : Int32)) dX0_become_67 (by decide) ?_
  refine a_aloadn (pc := 68) dX0_become_68 rfl rfl ?_
  refine a_getA (pc := 69) flX0_24 sh_1 rfl dX0_become_69 ?_
  refine a_iconst (pc := 72) (v := (0 : Int32)) dX0_become_72 (by decide) ?_
  refine a_bipush (pc := 73) (v := (6 : Int32)) dX0_become_73 (by decide) ?_
  obtain ⟨hi9, h⟩ := g_if h
  refine a_copyi (pc := 75) sh_19 sh_6 hi9 mlX0_47 (by decide) (Nat.le_of_ble_eq_true rfl) dX0_become_75 ?_
  obtain ⟨S10, eS10, h⟩ := g_let h
  refine a_nmS eS10 ?_
  refine a_aloadn (pc := 78) dX0_become_78 rfl rfl ?_
  refine a_getA (pc := 79) flX0_27 sh_14 rfl dX0_become_79 ?_
  refine a_iconst (pc := 82) (v := (0 : Int32)) dX0_become_82 (by decide) ?_
  refine a_aloadn (pc := 83) dX0_become_83 rfl rfl ?_
  refine a_getA (pc := 84) flX0_27 sh_1 rfl dX0_become_84 ?_
  refine a_iconst (pc := 87) (v := (0 : Int32)) dX0_become_87 (by decide) ?_
  refine a_sipush (pc := 88) (v := (384 : Int32)) dX0_become_88 (by decide) ?_
  obtain ⟨hi11, h⟩ := g_if h
  refine a_copyi (pc := 91) sh_20 sh_7 hi11 mlX0_47 (by decide) (Nat.le_of_ble_eq_true rfl) dX0_become_91 ?_
  obtain ⟨S12, eS12, h⟩ := g_let h
  refine a_nmS eS12 ?_
  refine a_aloadn (pc := 94) dX0_become_94 rfl rfl ?_
  refine a_getA (pc := 95) flX0_33 sh_1 rfl dX0_become_95 ?_
  refine a_aloadn (pc := 98) dX0_become_98 rfl rfl ?_
  refine a_getA (pc := 99) flX0_33 sh_14 rfl dX0_become_99 ?_
  obtain ⟨S13, hc14, h⟩ := g_bind h
  refine a_invVv (pc := 102) (ok_X1_become_a hc14) gyX1_become vyX1_become mlX0_53 sh_8 rfl (As := [.ref (gad X 21)]) rfl rfl (by decide) (st := []) rfl (Nat.le_of_ble_eq_true rfl) dX0_become_102 ?_
  refine a_aloadn (pc := 105) dX0_become_105 rfl rfl ?_
  refine a_aloadn (pc := 106) dX0_become_106 rfl rfl ?_
  refine a_getI (pc := 107) flX0_37 sh_14 rfl dX0_become_107 ?_
  refine a_putI (pc := 110) flX0_37 sh_1 rfl rfl rfl dX0_become_110 ?_
  obtain ⟨S15, eS15, h⟩ := g_let h
  refine a_nmS eS15 ?_
  refine a_aloadn (pc := 113) dX0_become_113 rfl rfl ?_
  refine a_aloadn (pc := 114) dX0_become_114 rfl rfl ?_
  refine a_getI (pc := 115) flX0_41 sh_14 rfl dX0_become_115 ?_
  refine a_putI (pc := 118) flX0_41 sh_1 rfl rfl rfl dX0_become_118 ?_
  obtain ⟨S16, eS16, h⟩ := g_let h
  refine a_nmS eS16 ?_
  refine a_aloadn (pc := 121) dX0_become_121 rfl rfl ?_
  refine a_aloadn (pc := 122) dX0_become_122 rfl rfl ?_
  refine a_getI (pc := 123) flX0_44 sh_14 rfl dX0_become_123 ?_
  refine a_putI (pc := 126) flX0_44 sh_1 rfl rfl rfl dX0_become_126 ?_
  obtain ⟨S17, eS17, h⟩ := g_let h
  refine a_nmS eS17 ?_
  obtain rfl := Option.some.inj h
  exact a_vret hp dX0_become_129
theorem dX6_restore_0 : decode cX6_restore 0 = .ok (.aload_n 0, 1) := by decide +kernel
theorem dX6_restore_1 : decode cX6_restore 1 = .ok (.getfield 19, 3) := by decide +kernel
theorem dX6_restore_4 : decode cX6_restore 4 = .ok (.ifCond .ne 6, 3) := by decide +kernel
theorem dX6_restore_7 : decode cX6_restore 7 = .ok (.bipush (-4), 2) := by decide +kernel
theorem dX6_restore_9 : decode cX6_restore 9 = .ok (.ireturn, 1) := by decide +kernel
theorem dX6_restore_10 : decode cX6_restore 10 = .ok (.aload_n 0, 1) := by decide +kernel
theorem dX6_restore_11 : decode cX6_restore 11 = .ok (.getfield 12, 3) := by decide +kernel
theorem dX6_restore_14 : decode cX6_restore 14 = .ok (.aload_n 0, 1) := by decide +kernel
theorem dX6_restore_15 : decode cX6_restore 15 = .ok (.getfield 16, 3) := by decide +kernel
theorem dX6_restore_18 : decode cX6_restore 18 = .ok (.invokevirtual 215, 3) := by decide +kernel
theorem dX6_restore_21 : decode cX6_restore 21 = .ok (.iconst 1, 1) := by decide +kernel
theorem dX6_restore_22 : decode cX6_restore 22 = .ok (.ireturn, 1) := by decide +kernel
def f_X6_restore (S : gSt) : Option (Int32 × gSt) :=
(if (S.1 0 2) = 0 then
some ((-4 : Int32), S)
else
(f_X0_become_a S).bind fun S2 =>
some ((1 : Int32), S2))
set_option maxHeartbeats 4000000 in
set_option maxRecDepth 20000 in
theorem ok_X6_restore {S S0 : gSt} {r0 : Int32}  (h : f_X6_restore S = some (r0, S0)) : gCT yX6_restore cX6_restore 1 (some .int) 3 (fun w => [.ref (w.2.1 0)]) S (some (.int r0)) S0 := by
  refine gEnter (fun X => [some (.ref (gad X 0))]) (by decide) (fun X => ⟨rfl, rfl⟩) (fun w => Nat.le_of_ble_eq_true rfl) (fun X hp => ?_)
  show AW X RX6 3 cX6_restore 0 [some (.ref (gad X 0))] [] S
  unfold f_X6_restore at h
  refine a_aloadn (pc := 0) dX6_restore_0 rfl rfl ?_
  refine a_getI (pc := 1) flX6_19 sh_0 rfl dX6_restore_1 ?_
  refine a_if_ne (pc := 4) (tgt := 10) dX6_restore_4 (by decide) (fun c1 => ?_) (fun c1 => ?_)
  · rw [if_neg c1] at h
    refine a_aloadn (pc := 10) dX6_restore_10 rfl rfl ?_
    refine a_getA (pc := 11) flX6_12 sh_0 rfl dX6_restore_11 ?_
    refine a_aloadn (pc := 14) dX6_restore_14 rfl rfl ?_
    refine a_getA (pc := 15) flX6_16 sh_0 rfl dX6_restore_15 ?_
    obtain ⟨S2, hc3, h⟩ := g_bind h
    refine a_invVv (pc := 18) (ok_X0_become_a hc3) gyX0_become vyX0_become mlX6_215 sh_1 rfl (As := [.ref (gad X 14)]) rfl rfl (by decide) (st := []) rfl (Nat.le_of_ble_eq_true rfl) dX6_restore_18 ?_
    refine a_iconst (pc := 21) (v := (1 : Int32)) dX6_restore_21 (by decide) ?_
    obtain ⟨rfl, rfl⟩ := Prod.mk.inj (Option.some.inj h)
    exact a_iret hp dX6_restore_22
  · rw [if_pos c1] at h
    refine a_bipush (pc := 7) (v := (-4 : Int32)) dX6_restore_7 (by decide) ?_
    obtain ⟨rfl, rfl⟩ := Prod.mk.inj (Option.some.inj h)
    exact a_iret hp dX6_restore_9
