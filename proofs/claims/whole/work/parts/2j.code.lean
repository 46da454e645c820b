theorem dX7_holds_0 : decode cX7_holds 0 = .ok (.iconst 0, 1) := by decide +kernel
theorem dX7_holds_1 : decode cX7_holds 1 = .ok (.istore_n 1, 1) := by decide +kernel
theorem dX7_holds_2 : decode cX7_holds 2 = .ok (.iload_n 1, 1) := by decide +kernel
theorem dX7_holds_3 : decode cX7_holds 3 = .ok (.bipush 64, 2) := by decide +kernel
theorem dX7_holds_5 : decode cX7_holds 5 = .ok (.if_icmp .ge 20, 3) := by decide +kernel
theorem dX7_holds_8 : decode cX7_holds 8 = .ok (.aload_n 0, 1) := by decide +kernel
theorem dX7_holds_9 : decode cX7_holds 9 = .ok (.getfield 13, 3) := by decide +kernel
theorem dX7_holds_12 : decode cX7_holds 12 = .ok (.iload_n 1, 1) := by decide +kernel
theorem dX7_holds_13 : decode cX7_holds 13 = .ok (.aload_n 0, 1) := by decide +kernel
theorem dX7_holds_14 : decode cX7_holds 14 = .ok (.iload_n 1, 1) := by decide +kernel
theorem dX7_holds_15 : decode cX7_holds 15 = .ok (.invokevirtual 79, 3) := by decide +kernel
theorem dX7_holds_18 : decode cX7_holds 18 = .ok (.iastore, 1) := by decide +kernel
theorem dX7_holds_19 : decode cX7_holds 19 = .ok (.iinc 1 1, 3) := by decide +kernel
theorem dX7_holds_22 : decode cX7_holds 22 = .ok (.goto (-20), 3) := by decide +kernel
theorem dX7_holds_25 : decode cX7_holds 25 = .ok (.return_, 1) := by decide +kernel
def f_X7_holds_s2_b (x1 : Int32) (S : gSt) : Option ((Int32 × gSt) ⊕ (gSt)) :=
(if (64 : Int32) ≤ x1 then
some (.inr (S))
else
gBind2 (f_X7_holder x1 S) fun r4 S2 =>
if gin x1 64 then
gLet (gI S2 49 x1.toNatClampNeg r4) fun S6 =>
(some (.inl (x1 + (1 : Int32), S6))) else none)
def f_X7_holds_s2 : (Int32 × gSt) → Option ((Int32 × gSt) ⊕ (gSt)) := fun t => f_X7_holds_s2_b t.1 t.2
def f_X7_holds (S : gSt) : Option gSt :=
(gLoop (f_X7_holds_s2) gFuel ((0 : Int32), S)).bind fun q7 => match q7 with
| S7 =>
some S7
set_option maxHeartbeats 4000000 in
set_option maxRecDepth 20000 in
theorem ok_X7_holds {S S0 : gSt}  (h : f_X7_holds S = some S0) : gCT yX7_holds cX7_holds 2 none 3 (fun w => [.ref (w.2.1 47)]) S none S0 := by
  refine gEnter (fun X => [some (.ref (gad X 47)), none]) (by decide) (fun X => ⟨rfl, rfl⟩) (fun w => Nat.le_of_ble_eq_true rfl) (fun X hp => ?_)
  show AW X RX7 3 cX7_holds 0 [some (.ref (gad X 47)), none] [] S
  unfold f_X7_holds at h
  refine a_iconst (pc := 0) (v := (0 : Int32)) dX7_holds_0 (by decide) ?_
  refine a_istoren (pc := 1) dX7_holds_1 rfl (Nat.le_of_ble_eq_true rfl) rfl (L' := [some (.ref (gad X 47)), some (.int (0 : Int32))]) rfl ?_
  obtain ⟨R7, hR7, h⟩ := g_bind h
  have E2 : ∀  (S7 : gSt), (some S7) = some S0 → AW X RX7 3 cX7_holds 25 [none, none] [] S7 := by
    intro S7 h
    obtain rfl := Option.some.inj h
    exact a_vret hp dX7_holds_25
  have lp : ∀ (n : Nat) (x1 : Int32) (S : gSt), gLoop (f_X7_holds_s2) n (x1, S) = some R7 → AW X RX7 3 cX7_holds 2 [some (.ref (gad X 47)), some (.int x1)] [] S := by
    intro n
    induction n with
    | zero => intro x1 S hR; cases hR
    | succ n ih =>
      intro x1 S hR
      obtain ⟨q, hs, hR⟩ := g_bind hR
      have hs : f_X7_holds_s2_b x1 S = some q := hs
      unfold f_X7_holds_s2_b at hs
      refine a_iloadn (pc := 2) dX7_holds_2 rfl rfl ?_
      refine a_bipush (pc := 3) (v := (64 : Int32)) dX7_holds_3 (by decide) ?_
      refine a_icmp_ge (pc := 5) (tgt := 25) dX7_holds_5 (by decide) (fun c1 => ?_) (fun c1 => ?_)
      · rw [if_pos c1] at hs
        obtain rfl := Option.some.inj hs
        obtain rfl := Option.some.inj hR
        refine a_mask [false, false] (L' := [none, none]) rfl ?_
        exact E2  _ h
      · rw [if_neg c1] at hs
        refine a_aloadn (pc := 8) dX7_holds_8 rfl rfl ?_
        refine a_getA (pc := 9) flX7_13 sh_47 rfl dX7_holds_9 ?_
        refine a_iloadn (pc := 12) dX7_holds_12 rfl rfl ?_
        refine a_aloadn (pc := 13) dX7_holds_13 rfl rfl ?_
        refine a_iloadn (pc := 14) dX7_holds_14 rfl rfl ?_
        obtain ⟨r4, S2, hc3, hs⟩ := g_bind2 hs
        refine a_invVi (pc := 15) (ok_X7_holder hc3) gyX7_holder vyX7_holder mlX7_79 sh_47 rfl (As := [.int x1]) rfl rfl (by decide) (st := [.int x1, .ref (gad X 49)]) rfl (Nat.le_of_ble_eq_true rfl) dX7_holds_15 ?_
        obtain ⟨hi5, hs⟩ := g_if hs
        refine a_iast (pc := 18) sh_49 hi5 dX7_holds_18 ?_
        obtain ⟨S6, eS6, hs⟩ := g_let hs
        refine a_nmS eS6 ?_
        refine a_iinc (pc := 19) dX7_holds_19 rfl (v := x1 + (1 : Int32)) rfl (Nat.le_of_ble_eq_true rfl) rfl (L' := [some (.ref (gad X 47)), some (.int (x1 + (1 : Int32)))]) rfl ?_
        refine a_goto (pc := 22) (tgt := 2) dX7_holds_22 (by decide) ?_
        obtain rfl := Option.some.inj hs
        exact ih _ _ hR
  exact lp _ _ _ hR7
theorem dX7_way_0 : decode cX7_way 0 = .ok (.aload_n 0, 1) := by decide +kernel
theorem dX7_way_1 : decode cX7_way 1 = .ok (.iload_n 1, 1) := by decide +kernel
theorem dX7_way_2 : decode cX7_way 2 = .ok (.invokevirtual 82, 3) := by decide +kernel
theorem dX7_way_5 : decode cX7_way 5 = .ok (.ifCond .eq 17, 3) := by decide +kernel
theorem dX7_way_8 : decode cX7_way 8 = .ok (.iload_n 2, 1) := by decide +kernel
theorem dX7_way_9 : decode cX7_way 9 = .ok (.invokestatic 65, 3) := by decide +kernel
theorem dX7_way_12 : decode cX7_way 12 = .ok (.ifCond .eq 10, 3) := by decide +kernel
theorem dX7_way_15 : decode cX7_way 15 = .ok (.iload_n 3, 1) := by decide +kernel
theorem dX7_way_16 : decode cX7_way 16 = .ok (.invokestatic 65, 3) := by decide +kernel
theorem dX7_way_19 : decode cX7_way 19 = .ok (.ifCond .ne 5, 3) := by decide +kernel
theorem dX7_way_22 : decode cX7_way 22 = .ok (.iconst (-1), 1) := by decide +kernel
theorem dX7_way_23 : decode cX7_way 23 = .ok (.ireturn, 1) := by decide +kernel
theorem dX7_way_24 : decode cX7_way 24 = .ok (.aload_n 0, 1) := by decide +kernel
theorem dX7_way_25 : decode cX7_way 25 = .ok (.invokevirtual 185, 3) := by decide +kernel
theorem dX7_way_28 : decode cX7_way 28 = .ok (.iconst 0, 1) := by decide +kernel
theorem dX7_way_29 : decode cX7_way 29 = .ok (.istore 4, 2) := by decide +kernel
theorem dX7_way_31 : decode cX7_way 31 = .ok (.iload 4, 2) := by decide +kernel
theorem dX7_way_33 : decode cX7_way 33 = .ok (.bipush 64, 2) := by decide +kernel
theorem dX7_way_35 : decode cX7_way 35 = .ok (.if_icmp .ge 29, 3) := by decide +kernel
theorem dX7_way_38 : decode cX7_way 38 = .ok (.aload_n 0, 1) := by decide +kernel
theorem dX7_way_39 : decode cX7_way 39 = .ok (.getfield 32, 3) := by decide +kernel
theorem dX7_way_42 : decode cX7_way 42 = .ok (.iload 4, 2) := by decide +kernel
theorem dX7_way_44 : decode cX7_way 44 = .ok (.iload 4, 2) := by decide +kernel
theorem dX7_way_46 : decode cX7_way 46 = .ok (.iload_n 2, 1) := by decide +kernel
theorem dX7_way_47 : decode cX7_way 47 = .ok (.if_icmp .ne 7, 3) := by decide +kernel
theorem dX7_way_50 : decode cX7_way 50 = .ok (.iconst 0, 1) := by decide +kernel
theorem dX7_way_51 : decode cX7_way 51 = .ok (.goto 6, 3) := by decide +kernel
theorem dX7_way_54 : decode cX7_way 54 = .ok (.sipush 999, 3) := by decide +kernel
theorem dX7_way_57 : decode cX7_way 57 = .ok (.iastore, 1) := by decide +kernel
theorem dX7_way_58 : decode cX7_way 58 = .ok (.iinc 4 1, 3) := by decide +kernel
theorem dX7_way_61 : decode cX7_way 61 = .ok (.goto (-30), 3) := by decide +kernel
theorem dX7_way_64 : decode cX7_way 64 = .ok (.iconst 1, 1) := by decide +kernel
theorem dX7_way_65 : decode cX7_way 65 = .ok (.istore 4, 2) := by decide +kernel
theorem dX7_way_67 : decode cX7_way 67 = .ok (.iload 4, 2) := by decide +kernel
theorem dX7_way_69 : decode cX7_way 69 = .ok (.ifCond .eq 131, 3) := by decide +kernel
theorem dX7_way_72 : decode cX7_way 72 = .ok (.iconst 0, 1) := by decide +kernel
theorem dX7_way_73 : decode cX7_way 73 = .ok (.istore 4, 2) := by decide +kernel
theorem dX7_way_75 : decode cX7_way 75 = .ok (.iconst 0, 1) := by decide +kernel
theorem dX7_way_76 : decode cX7_way 76 = .ok (.istore 5, 2) := by decide +kernel
theorem dX7_way_78 : decode cX7_way 78 = .ok (.iload 5, 2) := by decide +kernel
theorem dX7_way_80 : decode cX7_way 80 = .ok (.bipush 64, 2) := by decide +kernel
theorem dX7_way_82 : decode cX7_way 82 = .ok (.if_icmp .ge 115, 3) := by decide +kernel
theorem dX7_way_85 : decode cX7_way 85 = .ok (.iconst 0, 1) := by decide +kernel
theorem dX7_way_86 : decode cX7_way 86 = .ok (.istore 6, 2) := by decide +kernel
theorem dX7_way_88 : decode cX7_way 88 = .ok (.iload 6, 2) := by decide +kernel
theorem dX7_way_90 : decode cX7_way 90 = .ok (.iconst 4, 1) := by decide +kernel
theorem dX7_way_91 : decode cX7_way 91 = .ok (.if_icmp .ge 100, 3) := by decide +kernel
theorem dX7_way_94 : decode cX7_way 94 = .ok (.iload 5, 2) := by decide +kernel
theorem dX7_way_96 : decode cX7_way 96 = .ok (.iload 6, 2) := by decide +kernel
theorem dX7_way_98 : decode cX7_way 98 = .ok (.invokestatic 146, 3) := by decide +kernel
theorem dX7_way_101 : decode cX7_way 101 = .ok (.istore 7, 2) := by decide +kernel
theorem dX7_way_103 : decode cX7_way 103 = .ok (.iload 7, 2) := by decide +kernel
theorem dX7_way_105 : decode cX7_way 105 = .ok (.bipush (-4), 2) := by decide +kernel
theorem dX7_way_107 : decode cX7_way 107 = .ok (.if_icmp .ne 9, 3) := by decide +kernel
theorem dX7_way_110 : decode cX7_way 110 = .ok (.sipush 999, 3) := by decide +kernel
theorem dX7_way_113 : decode cX7_way 113 = .ok (.goto 39, 3) := by decide +kernel
theorem dX7_way_116 : decode cX7_way 116 = .ok (.aload_n 0, 1) := by decide +kernel
theorem dX7_way_117 : decode cX7_way 117 = .ok (.getfield 32, 3) := by decide +kernel
theorem dX7_way_120 : decode cX7_way 120 = .ok (.iload 5, 2) := by decide +kernel
theorem dX7_way_122 : decode cX7_way 122 = .ok (.iaload, 1) := by decide +kernel
theorem dX7_way_123 : decode cX7_way 123 = .ok (.aload_n 0, 1) := by decide +kernel
theorem dX7_way_124 : decode cX7_way 124 = .ok (.getfield 13, 3) := by decide +kernel
theorem dX7_way_127 : decode cX7_way 127 = .ok (.iload 7, 2) := by decide +kernel
theorem dX7_way_129 : decode cX7_way 129 = .ok (.iaload, 1) := by decide +kernel
theorem dX7_way_130 : decode cX7_way 130 = .ok (.bipush (-4), 2) := by decide +kernel
theorem dX7_way_132 : decode cX7_way 132 = .ok (.if_icmp .eq 14, 3) := by decide +kernel
theorem dX7_way_135 : decode cX7_way 135 = .ok (.aload_n 0, 1) := by decide +kernel
theorem dX7_way_136 : decode cX7_way 136 = .ok (.getfield 13, 3) := by decide +kernel
theorem dX7_way_139 : decode cX7_way 139 = .ok (.iload 7, 2) := by decide +kernel
theorem dX7_way_141 : decode cX7_way 141 = .ok (.iaload, 1) := by decide +kernel
theorem dX7_way_142 : decode cX7_way 142 = .ok (.iload_n 1, 1) := by decide +kernel
theorem dX7_way_143 : decode cX7_way 143 = .ok (.if_icmp .ne 7, 3) := by decide +kernel
theorem dX7_way_146 : decode cX7_way 146 = .ok (.iconst 0, 1) := by decide +kernel
theorem dX7_way_147 : decode cX7_way 147 = .ok (.goto 4, 3) := by decide +kernel
theorem dX7_way_150 : decode cX7_way 150 = .ok (.iconst 1, 1) := by decide +kernel
theorem dX7_way_151 : decode cX7_way 151 = .ok (.iadd, 1) := by decide +kernel
theorem dX7_way_152 : decode cX7_way 152 = .ok (.istore 8, 2) := by decide +kernel
theorem dX7_way_154 : decode cX7_way 154 = .ok (.iload 7, 2) := by decide +kernel
theorem dX7_way_156 : decode cX7_way 156 = .ok (.bipush (-4), 2) := by decide +kernel
theorem dX7_way_158 : decode cX7_way 158 = .ok (.if_icmp .eq 27, 3) := by decide +kernel
theorem dX7_way_161 : decode cX7_way 161 = .ok (.iload 8, 2) := by decide +kernel
theorem dX7_way_163 : decode cX7_way 163 = .ok (.aload_n 0, 1) := by decide +kernel
theorem dX7_way_164 : decode cX7_way 164 = .ok (.getfield 32, 3) := by decide +kernel
theorem dX7_way_167 : decode cX7_way 167 = .ok (.iload 7, 2) := by decide +kernel
theorem dX7_way_169 : decode cX7_way 169 = .ok (.iaload, 1) := by decide +kernel
theorem dX7_way_170 : decode cX7_way 170 = .ok (.if_icmp .ge 15, 3) := by decide +kernel
theorem dX7_way_173 : decode cX7_way 173 = .ok (.aload_n 0, 1) := by decide +kernel
theorem dX7_way_174 : decode cX7_way 174 = .ok (.getfield 32, 3) := by decide +kernel
theorem dX7_way_177 : decode cX7_way 177 = .ok (.iload 7, 2) := by decide +kernel
theorem dX7_way_179 : decode cX7_way 179 = .ok (.iload 8, 2) := by decide +kernel
theorem dX7_way_181 : decode cX7_way 181 = .ok (.iastore, 1) := by decide +kernel
theorem dX7_way_182 : decode cX7_way 182 = .ok (.iconst 1, 1) := by decide +kernel
theorem dX7_way_183 : decode cX7_way 183 = .ok (.istore 4, 2) := by decide +kernel
theorem dX7_way_185 : decode cX7_way 185 = .ok (.iinc 6 1, 3) := by decide +kernel
theorem dX7_way_188 : decode cX7_way 188 = .ok (.goto (-100), 3) := by decide +kernel
theorem dX7_way_191 : decode cX7_way 191 = .ok (.iinc 5 1, 3) := by decide +kernel
theorem dX7_way_194 : decode cX7_way 194 = .ok (.goto (-116), 3) := by decide +kernel
theorem dX7_way_197 : decode cX7_way 197 = .ok (.goto (-130), 3) := by decide +kernel
theorem dX7_way_200 : decode cX7_way 200 = .ok (.aload_n 0, 1) := by decide +kernel
theorem dX7_way_201 : decode cX7_way 201 = .ok (.getfield 32, 3) := by decide +kernel
theorem dX7_way_204 : decode cX7_way 204 = .ok (.iload_n 3, 1) := by decide +kernel
theorem dX7_way_205 : decode cX7_way 205 = .ok (.iaload, 1) := by decide +kernel
theorem dX7_way_206 : decode cX7_way 206 = .ok (.ireturn, 1) := by decide +kernel
def f_X7_way_s31_b (x1 : Int32) (x2 : Int32) (x3 : Int32) (x4 : Int32) (S : gSt) : Option ((Int32 × Int32 × Int32 × Int32 × gSt) ⊕ (Int32 × Int32 × gSt)) :=
(if (64 : Int32) ≤ x4 then
some (.inr (x1, x3, S))
else
(if x4 = x2 then
if gin x4 64 then
gLet (gI S 55 x4.toNatClampNeg (0 : Int32)) fun S20 =>
(some (.inl (x1, x2, x3, x4 + (1 : Int32), S20))) else none
else
if gin x4 64 then
gLet (gI S 55 x4.toNatClampNeg (999 : Int32)) fun S18 =>
(some (.inl (x1, x2, x3, x4 + (1 : Int32), S18))) else none))
def f_X7_way_s31 : (Int32 × Int32 × Int32 × Int32 × gSt) → Option ((Int32 × Int32 × Int32 × Int32 × gSt) ⊕ (Int32 × Int32 × gSt)) := fun t => f_X7_way_s31_b t.1 t.2.1 t.2.2.1 t.2.2.2.1 t.2.2.2.2
def f_X7_way_j152 (x1 : Int32) (x3 : Int32) (x4 : Int32) (x5 : Int32) (x6 : Int32) (x7 : Int32) (t0 : Int32) (S : gSt) : Option ((Int32 × Int32 × Int32 × Int32 × Int32 × gSt) ⊕ (Int32 × Int32 × Int32 × Int32 × gSt)) :=
(if x7 = (-4 : Int32) then
some (.inl (x1, x3, x4, x5, x6 + (1 : Int32), S))
else
if gin x7 64 then
((if (S.1 55 x7.toNatClampNeg) ≤ t0 then
some (.inl (x1, x3, x4, x5, x6 + (1 : Int32), S))
else
if gin x7 64 then
gLet (gI S 55 x7.toNatClampNeg t0) fun S28 =>
(some (.inl (x1, x3, (1 : Int32), x5, x6 + (1 : Int32), S28))) else none)) else none)
def f_X7_way_j151 (x1 : Int32) (x3 : Int32) (x4 : Int32) (x5 : Int32) (x6 : Int32) (x7 : Int32) (t0 : Int32) (t1 : Int32) (S : gSt) : Option ((Int32 × Int32 × Int32 × Int32 × Int32 × gSt) ⊕ (Int32 × Int32 × Int32 × Int32 × gSt)) :=
f_X7_way_j152 x1 x3 x4 x5 x6 x7 (t1 + t0) S
def f_X7_way_j146 (x1 : Int32) (x3 : Int32) (x4 : Int32) (x5 : Int32) (x6 : Int32) (x7 : Int32) (t0 : Int32) (S : gSt) : Option ((Int32 × Int32 × Int32 × Int32 × Int32 × gSt) ⊕ (Int32 × Int32 × Int32 × Int32 × gSt)) :=
f_X7_way_j151 x1 x3 x4 x5 x6 x7 (0 : Int32) t0 S
def f_X7_way_s88_b (x1 : Int32) (x3 : Int32) (x4 : Int32) (x5 : Int32) (x6 : Int32) (S : gSt) : Option ((Int32 × Int32 × Int32 × Int32 × Int32 × gSt) ⊕ (Int32 × Int32 × Int32 × Int32 × gSt)) :=
(if (4 : Int32) ≤ x6 then
some (.inr (x1, x3, x4, x5, S))
else
gBind2 (f_X7_beside x5 x6 S) fun r32 S30 =>
(if r32 = (-4 : Int32) then
f_X7_way_j152 x1 x3 x4 x5 x6 r32 (999 : Int32) S30
else
if gin x5 64 then
(if gin r32 64 then
((if (S30.1 49 r32.toNatClampNeg) = (-4 : Int32) then
f_X7_way_j146 x1 x3 x4 x5 x6 r32 (S30.1 55 x5.toNatClampNeg) S30
else
if gin r32 64 then
((if (S30.1 49 r32.toNatClampNeg) = x1 then
f_X7_way_j146 x1 x3 x4 x5 x6 r32 (S30.1 55 x5.toNatClampNeg) S30
else
f_X7_way_j151 x1 x3 x4 x5 x6 r32 (1 : Int32) (S30.1 55 x5.toNatClampNeg) S30)) else none)) else none) else none))
def f_X7_way_s88 : (Int32 × Int32 × Int32 × Int32 × Int32 × gSt) → Option ((Int32 × Int32 × Int32 × Int32 × Int32 × gSt) ⊕ (Int32 × Int32 × Int32 × Int32 × gSt)) := fun t => f_X7_way_s88_b t.1 t.2.1 t.2.2.1 t.2.2.2.1 t.2.2.2.2.1 t.2.2.2.2.2
def f_X7_way_s78_b (x1 : Int32) (x3 : Int32) (x4 : Int32) (x5 : Int32) (S : gSt) : Option ((Int32 × Int32 × Int32 × Int32 × gSt) ⊕ (Int32 × Int32 × Int32 × gSt)) :=
(if (64 : Int32) ≤ x5 then
some (.inr (x1, x3, x4, S))
else
(gLoop (f_X7_way_s88) gFuel (x1, x3, x4, x5, (0 : Int32), S)).bind fun q39 => match q39 with
| (y1_39, y3_39, y4_39, y5_39, S39) =>
some (.inl (y1_39, y3_39, y4_39, y5_39 + (1 : Int32), S39)))
def f_X7_way_s78 : (Int32 × Int32 × Int32 × Int32 × gSt) → Option ((Int32 × Int32 × Int32 × Int32 × gSt) ⊕ (Int32 × Int32 × Int32 × gSt)) := fun t => f_X7_way_s78_b t.1 t.2.1 t.2.2.1 t.2.2.2.1 t.2.2.2.2
def f_X7_way_s67_b (x1 : Int32) (x3 : Int32) (x4 : Int32) (S : gSt) : Option ((Int32 × Int32 × Int32 × gSt) ⊕ (Int32 × gSt)) :=
(if x4 = 0 then
some (.inr (x3, S))
else
(gLoop (f_X7_way_s78) gFuel (x1, x3, (0 : Int32), (0 : Int32), S)).bind fun q40 => match q40 with
| (y1_40, y3_40, y4_40, S40) =>
some (.inl (y1_40, y3_40, y4_40, S40)))
def f_X7_way_s67 : (Int32 × Int32 × Int32 × gSt) → Option ((Int32 × Int32 × Int32 × gSt) ⊕ (Int32 × gSt)) := fun t => f_X7_way_s67_b t.1 t.2.1 t.2.2.1 t.2.2.2
def f_X7_way (p1 : Int32) (p2 : Int32) (p3 : Int32) (S : gSt) : Option (Int32 × gSt) :=
gBind2 (f_X7_isWalker p1 S) fun r3 S1 =>
(if r3 = 0 then
some ((-1 : Int32), S1)
else
gBind2 (f_X7_isCell p2 S1) fun r7 S5 =>
(if r7 = 0 then
some ((-1 : Int32), S5)
else
gBind2 (f_X7_isCell p3 S5) fun r11 S9 =>
(if r11 = 0 then
some ((-1 : Int32), S9)
else
(f_X7_holds S9).bind fun S13 =>
(gLoop (f_X7_way_s31) gFuel (p1, p2, p3, (0 : Int32), S13)).bind fun q21 => match q21 with
| (y1_21, y3_21, S21) =>
(gLoop (f_X7_way_s67) gFuel (y1_21, y3_21, (1 : Int32), S21)).bind fun q41 => match q41 with
| (y3_41, S41) =>
if gin y3_41 64 then
(some (S41.1 55 y3_41.toNatClampNeg, S41)) else none)))
set_option maxHeartbeats 4000000 in
set_option maxRecDepth 20000 in
theorem ok_X7_way {p1 : Int32} {p2 : Int32} {p3 : Int32} {S S0 : gSt} {r0 : Int32}  (h : f_X7_way p1 p2 p3 S = some (r0, S0)) : gCT yX7_way cX7_way 9 (some .int) 4 (fun w => [.ref (w.2.1 47), .int p1, .int p2, .int p3]) S (some (.int r0)) S0 := by
  refine gEnter (fun X => [some (.ref (gad X 47)), some (.int p1), some (.int p2), some (.int p3), none, none, none, none, none]) (by decide) (fun X => ⟨rfl, rfl⟩) (fun w => Nat.le_of_ble_eq_true rfl) (fun X hp => ?_)
  show AW X RX7 4 cX7_way 0 [some (.ref (gad X 47)), some (.int p1), some (.int p2), some (.int p3), none, none, none, none, none] [] S
  unfold f_X7_way at h
  refine a_aloadn (pc := 0) dX7_way_0 rfl rfl ?_
  refine a_iloadn (pc := 1) dX7_way_1 rfl rfl ?_
  obtain ⟨r3, S1, hc2, h⟩ := g_bind2 h
  refine a_invVi (pc := 2) (ok_X7_isWalker hc2) gyX7_isWalker vyX7_isWalker mlX7_82 sh_47 rfl (As := [.int p1]) rfl rfl (by decide) (st := []) rfl (Nat.le_of_ble_eq_true rfl) dX7_way_2 ?_
  refine a_if_eq (pc := 5) (tgt := 22) dX7_way_5 (by decide) (fun c4 => ?_) (fun c4 => ?_)
  · rw [if_pos c4] at h
    refine a_iconst (pc := 22) (v := (-1 : Int32)) dX7_way_22 (by decide) ?_
    obtain ⟨rfl, rfl⟩ := Prod.mk.inj (Option.some.inj h)
    exact a_iret hp dX7_way_23
  · rw [if_neg c4] at h
    refine a_iloadn (pc := 8) dX7_way_8 rfl rfl ?_
    obtain ⟨r7, S5, hc6, h⟩ := g_bind2 h
    refine a_invSi (pc := 9) (ok_X7_isCell hc6) gyX7_isCell syX7_isCell mlX7_65 (As := [.int p2]) rfl rfl (by decide) (st := []) rfl (Nat.le_of_ble_eq_true rfl) dX7_way_9 ?_
    refine a_if_eq (pc := 12) (tgt := 22) dX7_way_12 (by decide) (fun c8 => ?_) (fun c8 => ?_)
    · rw [if_pos c8] at h
      refine a_iconst (pc := 22) (v := (-1 : Int32)) dX7_way_22 (by decide) ?_
      obtain ⟨rfl, rfl⟩ := Prod.mk.inj (Option.some.inj h)
      exact a_iret hp dX7_way_23
    · rw [if_neg c8] at h
      refine a_iloadn (pc := 15) dX7_way_15 rfl rfl ?_
      obtain ⟨r11, S9, hc10, h⟩ := g_bind2 h
      refine a_invSi (pc := 16) (ok_X7_isCell hc10) gyX7_isCell syX7_isCell mlX7_65 (As := [.int p3]) rfl rfl (by decide) (st := []) rfl (Nat.le_of_ble_eq_true rfl) dX7_way_16 ?_
      refine a_if_ne (pc := 19) (tgt := 24) dX7_way_19 (by decide) (fun c12 => ?_) (fun c12 => ?_)
      · rw [if_neg c12] at h
        refine a_aloadn (pc := 24) dX7_way_24 rfl rfl ?_
        obtain ⟨S13, hc14, h⟩ := g_bind h
        refine a_invVv (pc := 25) (ok_X7_holds hc14) gyX7_holds vyX7_holds mlX7_185 sh_47 rfl (As := []) rfl rfl (by decide) (st := []) rfl (Nat.le_of_ble_eq_true rfl) dX7_way_25 ?_
        refine a_iconst (pc := 28) (v := (0 : Int32)) dX7_way_28 (by decide) ?_
        refine a_istore (pc := 29) dX7_way_29 (Nat.le_of_ble_eq_true rfl) rfl (L' := [some (.ref (gad X 47)), some (.int p1), some (.int p2), some (.int p3), some (.int (0 : Int32)), none, none, none, none]) rfl ?_
        obtain ⟨R21, hR21, h⟩ := g_bind h
        have E31 : ∀ (y1_21 : Int32) (y3_21 : Int32) (S21 : gSt), ((gLoop (f_X7_way_s67) gFuel (y1_21, y3_21, (1 : Int32), S21)).bind fun q41 => match q41 with | (y3_41, S41) => if gin y3_41 64 then (some (S41.1 55 y3_41.toNatClampNeg, S41)) else none) = some (r0, S0) → AW X RX7 4 cX7_way 64 [some (.ref (gad X 47)), some (.int y1_21), none, some (.int y3_21), none, none, none, none, none] [] S21 := by
          intro y1_21 y3_21 S21 h
          refine a_iconst (pc := 64) (v := (1 : Int32)) dX7_way_64 (by decide) ?_
          refine a_istore (pc := 65) dX7_way_65 (Nat.le_of_ble_eq_true rfl) rfl (L' := [some (.ref (gad X 47)), some (.int y1_21), none, some (.int y3_21), some (.int (1 : Int32)), none, none, none, none]) rfl ?_
          obtain ⟨R41, hR41, h⟩ := g_bind h
          have E67 : ∀ (y3_41 : Int32) (S41 : gSt), (if gin y3_41 64 then (some (S41.1 55 y3_41.toNatClampNeg, S41)) else none) = some (r0, S0) → AW X RX7 4 cX7_way 200 [some (.ref (gad X 47)), none, none, some (.int y3_41), none, none, none, none, none] [] S41 := by
            intro y3_41 S41 h
            refine a_aloadn (pc := 200) dX7_way_200 rfl rfl ?_
            refine a_getA (pc := 201) flX7_32 sh_47 rfl dX7_way_201 ?_
            refine a_iloadn (pc := 204) dX7_way_204 rfl rfl ?_
            obtain ⟨hi42, h⟩ := g_if h
            refine a_iald (pc := 205) sh_55 hi42 dX7_way_205 ?_
            obtain ⟨rfl, rfl⟩ := Prod.mk.inj (Option.some.inj h)
            exact a_iret hp dX7_way_206
          have lp : ∀ (n : Nat) (x1 : Int32) (x3 : Int32) (x4 : Int32) (S : gSt), gLoop (f_X7_way_s67) n (x1, x3, x4, S) = some R41 → AW X RX7 4 cX7_way 67 [some (.ref (gad X 47)), some (.int x1), none, some (.int x3), some (.int x4), none, none, none, none] [] S := by
            intro n
            induction n with
            | zero => intro x1 x3 x4 S hR; cases hR
            | succ n ih =>
              intro x1 x3 x4 S hR
              obtain ⟨q, hs, hR⟩ := g_bind hR
              have hs : f_X7_way_s67_b x1 x3 x4 S = some q := hs
              unfold f_X7_way_s67_b at hs
              refine a_iload (pc := 67) dX7_way_67 rfl ?_
              refine a_if_eq (pc := 69) (tgt := 200) dX7_way_69 (by decide) (fun c22 => ?_) (fun c22 => ?_)
              · rw [if_pos c22] at hs
                obtain rfl := Option.some.inj hs
                obtain rfl := Option.some.inj hR
                refine a_mask [true, false, true, true, false, true, true, true, true] (L' := [some (.ref (gad X 47)), none, none, some (.int x3), none, none, none, none, none]) rfl ?_
                exact E67 _ _ h
              · rw [if_neg c22] at hs
                refine a_iconst (pc := 72) (v := (0 : Int32)) dX7_way_72 (by decide) ?_
                refine a_istore (pc := 73) dX7_way_73 (Nat.le_of_ble_eq_true rfl) rfl (L' := [some (.ref (gad X 47)), some (.int x1), none, some (.int x3), some (.int (0 : Int32)), none, none, none, none]) rfl ?_
                refine a_iconst (pc := 75) (v := (0 : Int32)) dX7_way_75 (by decide) ?_
                refine a_istore (pc := 76) dX7_way_76 (Nat.le_of_ble_eq_true rfl) rfl (L' := [some (.ref (gad X 47)), some (.int x1), none, some (.int x3), some (.int (0 : Int32)), some (.int (0 : Int32)), none, none, none]) rfl ?_
                obtain ⟨R40, hR40, hs⟩ := g_bind hs
                have E78 : ∀ (y1_40 : Int32) (y3_40 : Int32) (y4_40 : Int32) (S40 : gSt), (some (.inl (y1_40, y3_40, y4_40, S40))) = some q → AW X RX7 4 cX7_way 197 [some (.ref (gad X 47)), some (.int y1_40), none, some (.int y3_40), some (.int y4_40), none, none, none, none] [] S40 := by
                  intro y1_40 y3_40 y4_40 S40 hs
                  refine a_goto (pc := 197) (tgt := 67) dX7_way_197 (by decide) ?_
                  obtain rfl := Option.some.inj hs
                  exact ih _ _ _ _ hR
                have lp : ∀ (n : Nat) (x1 : Int32) (x3 : Int32) (x4 : Int32) (x5 : Int32) (S : gSt), gLoop (f_X7_way_s78) n (x1, x3, x4, x5, S) = some R40 → AW X RX7 4 cX7_way 78 [some (.ref (gad X 47)), some (.int x1), none, some (.int x3), some (.int x4), some (.int x5), none, none, none] [] S := by
                  intro n
                  induction n with
                  | zero => intro x1 x3 x4 x5 S hR; cases hR
                  | succ n ih =>
                    intro x1 x3 x4 x5 S hR
                    obtain ⟨q, hs, hR⟩ := g_bind hR
                    have hs : f_X7_way_s78_b x1 x3 x4 x5 S = some q := hs
                    unfold f_X7_way_s78_b at hs
                    refine a_iload (pc := 78) dX7_way_78 rfl ?_
                    refine a_bipush (pc := 80) (v := (64 : Int32)) dX7_way_80 (by decide) ?_
                    refine a_icmp_ge (pc := 82) (tgt := 197) dX7_way_82 (by decide) (fun c23 => ?_) (fun c23 => ?_)
                    · rw [if_pos c23] at hs
                      obtain rfl := Option.some.inj hs
                      obtain rfl := Option.some.inj hR
                      refine a_mask [true, true, true, true, true, false, true, true, true] (L' := [some (.ref (gad X 47)), some (.int x1), none, some (.int x3), some (.int x4), none, none, none, none]) rfl ?_
                      exact E78 _ _ _ _ hs
                    · rw [if_neg c23] at hs
                      refine a_iconst (pc := 85) (v := (0 : Int32)) dX7_way_85 (by decide) ?_
                      refine a_istore (pc := 86) dX7_way_86 (Nat.le_of_ble_eq_true rfl) rfl (L' := [some (.ref (gad X 47)), some (.int x1), none, some (.int x3), some (.int x4), some (.int x5), some (.int (0 : Int32)), none, none]) rfl ?_
                      obtain ⟨R39, hR39, hs⟩ := g_bind hs
                      have E88 : ∀ (y1_39 : Int32) (y3_39 : Int32) (y4_39 : Int32) (y5_39 : Int32) (S39 : gSt), (some (.inl (y1_39, y3_39, y4_39, y5_39 + (1 : Int32), S39))) = some q → AW X RX7 4 cX7_way 191 [some (.ref (gad X 47)), some (.int y1_39), none, some (.int y3_39), some (.int y4_39), some (.int y5_39), none, none, none] [] S39 := by
                        intro y1_39 y3_39 y4_39 y5_39 S39 hs
                        refine a_iinc (pc := 191) dX7_way_191 rfl (v := y5_39 + (1 : Int32)) rfl (Nat.le_of_ble_eq_true rfl) rfl (L' := [some (.ref (gad X 47)), some (.int y1_39), none, some (.int y3_39), some (.int y4_39), some (.int (y5_39 + (1 : Int32))), none, none, none]) rfl ?_
                        refine a_goto (pc := 194) (tgt := 78) dX7_way_194 (by decide) ?_
                        obtain rfl := Option.some.inj hs
                        exact ih _ _ _ _ _ hR
                      have lp : ∀ (n : Nat) (x1 : Int32) (x3 : Int32) (x4 : Int32) (x5 : Int32) (x6 : Int32) (S : gSt), gLoop (f_X7_way_s88) n (x1, x3, x4, x5, x6, S) = some R39 → AW X RX7 4 cX7_way 88 [some (.ref (gad X 47)), some (.int x1), none, some (.int x3), some (.int x4), some (.int x5), some (.int x6), none, none] [] S := by
                        intro n
                        induction n with
                        | zero => intro x1 x3 x4 x5 x6 S hR; cases hR
                        | succ n ih =>
                          intro x1 x3 x4 x5 x6 S hR
                          obtain ⟨q, hs, hR⟩ := g_bind hR
                          have hs : f_X7_way_s88_b x1 x3 x4 x5 x6 S = some q := hs
                          unfold f_X7_way_s88_b at hs
                          have J152 : ∀ (x1 : Int32) (x3 : Int32) (x4 : Int32) (x5 : Int32) (x6 : Int32) (x7 : Int32) (t0 : Int32) (S : gSt), f_X7_way_j152 x1 x3 x4 x5 x6 x7 t0 S = some q → AW X RX7 4 cX7_way 152 [some (.ref (gad X 47)), some (.int x1), none, some (.int x3), some (.int x4), some (.int x5), some (.int x6), some (.int x7), none] [.int t0] S := by
                            intro x1 x3 x4 x5 x6 x7 t0 S hs
                            unfold f_X7_way_j152 at hs
                            refine a_istore (pc := 152) dX7_way_152 (Nat.le_of_ble_eq_true rfl) rfl (L' := [some (.ref (gad X 47)), some (.int x1), none, some (.int x3), some (.int x4), some (.int x5), some (.int x6), some (.int x7), some (.int t0)]) rfl ?_
                            refine a_iload (pc := 154) dX7_way_154 rfl ?_
                            refine a_bipush (pc := 156) (v := (-4 : Int32)) dX7_way_156 (by decide) ?_
                            refine a_icmp_eq (pc := 158) (tgt := 185) dX7_way_158 (by decide) (fun c24 => ?_) (fun c24 => ?_)
                            · rw [if_pos c24] at hs
                              refine a_iinc (pc := 185) dX7_way_185 rfl (v := x6 + (1 : Int32)) rfl (Nat.le_of_ble_eq_true rfl) rfl (L' := [some (.ref (gad X 47)), some (.int x1), none, some (.int x3), some (.int x4), some (.int x5), some (.int (x6 + (1 : Int32))), some (.int x7), some (.int t0)]) rfl ?_
                              refine a_goto (pc := 188) (tgt := 88) dX7_way_188 (by decide) ?_
                              obtain rfl := Option.some.inj hs
                              refine a_mask [true, true, true, true, true, true, true, false, false] (L' := [some (.ref (gad X 47)), some (.int x1), none, some (.int x3), some (.int x4), some (.int x5), some (.int (x6 + (1 : Int32))), none, none]) rfl ?_
                              exact ih _ _ _ _ _ _ hR
                            · rw [if_neg c24] at hs
                              refine a_iload (pc := 161) dX7_way_161 rfl ?_
                              refine a_aloadn (pc := 163) dX7_way_163 rfl rfl ?_
                              refine a_getA (pc := 164) flX7_32 sh_47 rfl dX7_way_164 ?_
                              refine a_iload (pc := 167) dX7_way_167 rfl ?_
                              obtain ⟨hi25, hs⟩ := g_if hs
                              refine a_iald (pc := 169) sh_55 hi25 dX7_way_169 ?_
                              refine a_icmp_ge (pc := 170) (tgt := 185) dX7_way_170 (by decide) (fun c26 => ?_) (fun c26 => ?_)
                              · rw [if_pos c26] at hs
                                refine a_iinc (pc := 185) dX7_way_185 rfl (v := x6 + (1 : Int32)) rfl (Nat.le_of_ble_eq_true rfl) rfl (L' := [some (.ref (gad X 47)), some (.int x1), none, some (.int x3), some (.int x4), some (.int x5), some (.int (x6 + (1 : Int32))), some (.int x7), some (.int t0)]) rfl ?_
                                refine a_goto (pc := 188) (tgt := 88) dX7_way_188 (by decide) ?_
                                obtain rfl := Option.some.inj hs
                                refine a_mask [true, true, true, true, true, true, true, false, false] (L' := [some (.ref (gad X 47)), some (.int x1), none, some (.int x3), some (.int x4), some (.int x5), some (.int (x6 + (1 : Int32))), none, none]) rfl ?_
                                exact ih _ _ _ _ _ _ hR
                              · rw [if_neg c26] at hs
                                refine a_aloadn (pc := 173) dX7_way_173 rfl rfl ?_
                                refine a_getA (pc := 174) flX7_32 sh_47 rfl dX7_way_174 ?_
                                refine a_iload (pc := 177) dX7_way_177 rfl ?_
                                refine a_iload (pc := 179) dX7_way_179 rfl ?_
                                obtain ⟨hi27, hs⟩ := g_if hs
                                refine a_iast (pc := 181) sh_55 hi27 dX7_way_181 ?_
                                obtain ⟨S28, eS28, hs⟩ := g_let hs
                                refine a_nmS eS28 ?_
                                refine a_iconst (pc := 182) (v := (1 : Int32)) dX7_way_182 (by decide) ?_
                                refine a_istore (pc := 183) dX7_way_183 (Nat.le_of_ble_eq_true rfl) rfl (L' := [some (.ref (gad X 47)), some (.int x1), none, some (.int x3), some (.int (1 : Int32)), some (.int x5), some (.int x6), some (.int x7), some (.int t0)]) rfl ?_
                                refine a_iinc (pc := 185) dX7_way_185 rfl (v := x6 + (1 : Int32)) rfl (Nat.le_of_ble_eq_true rfl) rfl (L' := [some (.ref (gad X 47)), some (.int x1), none, some (.int x3), some (.int (1 : Int32)), some (.int x5), some (.int (x6 + (1 : Int32))), some (.int x7), some (.int t0)]) rfl ?_
                                refine a_goto (pc := 188) (tgt := 88) dX7_way_188 (by decide) ?_
                                obtain rfl := Option.some.inj hs
                                refine a_mask [true, true, true, true, true, true, true, false, false] (L' := [some (.ref (gad X 47)), some (.int x1), none, some (.int x3), some (.int (1 : Int32)), some (.int x5), some (.int (x6 + (1 : Int32))), none, none]) rfl ?_
                                exact ih _ _ _ _ _ _ hR
                          have J151 : ∀ (x1 : Int32) (x3 : Int32) (x4 : Int32) (x5 : Int32) (x6 : Int32) (x7 : Int32) (t0 : Int32) (t1 : Int32) (S : gSt), f_X7_way_j151 x1 x3 x4 x5 x6 x7 t0 t1 S = some q → AW X RX7 4 cX7_way 151 [some (.ref (gad X 47)), some (.int x1), none, some (.int x3), some (.int x4), some (.int x5), some (.int x6), some (.int x7), none] [.int t0, .int t1] S := by
                            intro x1 x3 x4 x5 x6 x7 t0 t1 S hs
                            unfold f_X7_way_j151 at hs
                            refine a_iadd (pc := 151) dX7_way_151 ?_
                            exact J152 _ _ _ _ _ _ _ _ hs
                          have J146 : ∀ (x1 : Int32) (x3 : Int32) (x4 : Int32) (x5 : Int32) (x6 : Int32) (x7 : Int32) (t0 : Int32) (S : gSt), f_X7_way_j146 x1 x3 x4 x5 x6 x7 t0 S = some q → AW X RX7 4 cX7_way 146 [some (.ref (gad X 47)), some (.int x1), none, some (.int x3), some (.int x4), some (.int x5), some (.int x6), some (.int x7), none] [.int t0] S := by
                            intro x1 x3 x4 x5 x6 x7 t0 S hs
                            unfold f_X7_way_j146 at hs
                            refine a_iconst (pc := 146) (v := (0 : Int32)) dX7_way_146 (by decide) ?_
                            refine a_goto (pc := 147) (tgt := 151) dX7_way_147 (by decide) ?_
                            exact J151 _ _ _ _ _ _ _ _ _ hs
                          refine a_iload (pc := 88) dX7_way_88 rfl ?_
                          refine a_iconst (pc := 90) (v := (4 : Int32)) dX7_way_90 (by decide) ?_
                          refine a_icmp_ge (pc := 91) (tgt := 191) dX7_way_91 (by decide) (fun c29 => ?_) (fun c29 => ?_)
                          · rw [if_pos c29] at hs
                            obtain rfl := Option.some.inj hs
                            obtain rfl := Option.some.inj hR
                            refine a_mask [true, true, true, true, true, true, false, true, true] (L' := [some (.ref (gad X 47)), some (.int x1), none, some (.int x3), some (.int x4), some (.int x5), none, none, none]) rfl ?_
                            exact E88 _ _ _ _ _ hs
                          · rw [if_neg c29] at hs
                            refine a_iload (pc := 94) dX7_way_94 rfl ?_
                            refine a_iload (pc := 96) dX7_way_96 rfl ?_
                            obtain ⟨r32, S30, hc31, hs⟩ := g_bind2 hs
                            refine a_invSi (pc := 98) (ok_X7_beside hc31) gyX7_beside syX7_beside mlX7_146 (As := [.int x5, .int x6]) rfl rfl (by decide) (st := []) rfl (Nat.le_of_ble_eq_true rfl) dX7_way_98 ?_
                            refine a_istore (pc := 101) dX7_way_101 (Nat.le_of_ble_eq_true rfl) rfl (L' := [some (.ref (gad X 47)), some (.int x1), none, some (.int x3), some (.int x4), some (.int x5), some (.int x6), some (.int r32), none]) rfl ?_
                            refine a_iload (pc := 103) dX7_way_103 rfl ?_
                            refine a_bipush (pc := 105) (v := (-4 : Int32)) dX7_way_105 (by decide) ?_
                            refine a_icmp_ne (pc := 107) (tgt := 116) dX7_way_107 (by decide) (fun c33 => ?_) (fun c33 => ?_)
                            · rw [if_neg c33] at hs
                              refine a_aloadn (pc := 116) dX7_way_116 rfl rfl ?_
                              refine a_getA (pc := 117) flX7_32 sh_47 rfl dX7_way_117 ?_
                              refine a_iload (pc := 120) dX7_way_120 rfl ?_
                              obtain ⟨hi34, hs⟩ := g_if hs
                              refine a_iald (pc := 122) sh_55 hi34 dX7_way_122 ?_
                              refine a_aloadn (pc := 123) dX7_way_123 rfl rfl ?_
                              refine a_getA (pc := 124) flX7_13 sh_47 rfl dX7_way_124 ?_
                              refine a_iload (pc := 127) dX7_way_127 rfl ?_
                              obtain ⟨hi35, hs⟩ := g_if hs
                              refine a_iald (pc := 129) sh_49 hi35 dX7_way_129 ?_
                              refine a_bipush (pc := 130) (v := (-4 : Int32)) dX7_way_130 (by decide) ?_
                              refine a_icmp_eq (pc := 132) (tgt := 146) dX7_way_132 (by decide) (fun c36 => ?_) (fun c36 => ?_)
                              · rw [if_pos c36] at hs
                                exact J146 _ _ _ _ _ _ _ _ hs
                              · rw [if_neg c36] at hs
                                refine a_aloadn (pc := 135) dX7_way_135 rfl rfl ?_
                                refine a_getA (pc := 136) flX7_13 sh_47 rfl dX7_way_136 ?_
                                refine a_iload (pc := 139) dX7_way_139 rfl ?_
                                obtain ⟨hi37, hs⟩ := g_if hs
                                refine a_iald (pc := 141) sh_49 hi37 dX7_way_141 ?_
                                refine a_iloadn (pc := 142) dX7_way_142 rfl rfl ?_
                                refine a_icmp_ne (pc := 143) (tgt := 150) dX7_way_143 (by decide) (fun c38 => ?_) (fun c38 => ?_)
                                · rw [if_neg c38] at hs
                                  refine a_iconst (pc := 150) (v := (1 : Int32)) dX7_way_150 (by decide) ?_
                                  exact J151 _ _ _ _ _ _ _ _ _ hs
                                · rw [if_pos c38] at hs
                                  exact J146 _ _ _ _ _ _ _ _ hs
                            · rw [if_pos c33] at hs
                              refine a_sipush (pc := 110) (v := (999 : Int32)) dX7_way_110 (by decide) ?_
                              refine a_goto (pc := 113) (tgt := 152) dX7_way_113 (by decide) ?_
                              exact J152 _ _ _ _ _ _ _ _ hs
                      exact lp _ _ _ _ _ _ _ hR39
                exact lp _ _ _ _ _ _ hR40
          exact lp _ _ _ _ _ hR41
        have lp : ∀ (n : Nat) (x1 : Int32) (x2 : Int32) (x3 : Int32) (x4 : Int32) (S : gSt), gLoop (f_X7_way_s31) n (x1, x2, x3, x4, S) = some R21 → AW X RX7 4 cX7_way 31 [some (.ref (gad X 47)), some (.int x1), some (.int x2), some (.int x3), some (.int x4), none, none, none, none] [] S := by
          intro n
          induction n with
          | zero => intro x1 x2 x3 x4 S hR; cases hR
          | succ n ih =>
            intro x1 x2 x3 x4 S hR
            obtain ⟨q, hs, hR⟩ := g_bind hR
            have hs : f_X7_way_s31_b x1 x2 x3 x4 S = some q := hs
            unfold f_X7_way_s31_b at hs
            refine a_iload (pc := 31) dX7_way_31 rfl ?_
            refine a_bipush (pc := 33) (v := (64 : Int32)) dX7_way_33 (by decide) ?_
            refine a_icmp_ge (pc := 35) (tgt := 64) dX7_way_35 (by decide) (fun c15 => ?_) (fun c15 => ?_)
            · rw [if_pos c15] at hs
              obtain rfl := Option.some.inj hs
              obtain rfl := Option.some.inj hR
              refine a_mask [true, true, false, true, false, true, true, true, true] (L' := [some (.ref (gad X 47)), some (.int x1), none, some (.int x3), none, none, none, none, none]) rfl ?_
              exact E31 _ _ _ h
            · rw [if_neg c15] at hs
              refine a_aloadn (pc := 38) dX7_way_38 rfl rfl ?_
              refine a_getA (pc := 39) flX7_32 sh_47 rfl dX7_way_39 ?_
              refine a_iload (pc := 42) dX7_way_42 rfl ?_
              refine a_iload (pc := 44) dX7_way_44 rfl ?_
              refine a_iloadn (pc := 46) dX7_way_46 rfl rfl ?_
              refine a_icmp_ne (pc := 47) (tgt := 54) dX7_way_47 (by decide) (fun c16 => ?_) (fun c16 => ?_)
              · rw [if_neg c16] at hs
                refine a_sipush (pc := 54) (v := (999 : Int32)) dX7_way_54 (by decide) ?_
                obtain ⟨hi17, hs⟩ := g_if hs
                refine a_iast (pc := 57) sh_55 hi17 dX7_way_57 ?_
                obtain ⟨S18, eS18, hs⟩ := g_let hs
                refine a_nmS eS18 ?_
                refine a_iinc (pc := 58) dX7_way_58 rfl (v := x4 + (1 : Int32)) rfl (Nat.le_of_ble_eq_true rfl) rfl (L' := [some (.ref (gad X 47)), some (.int x1), some (.int x2), some (.int x3), some (.int (x4 + (1 : Int32))), none, none, none, none]) rfl ?_
                refine a_goto (pc := 61) (tgt := 31) dX7_way_61 (by decide) ?_
                obtain rfl := Option.some.inj hs
                exact ih _ _ _ _ _ hR
              · rw [if_pos c16] at hs
                refine a_iconst (pc := 50) (v := (0 : Int32)) dX7_way_50 (by decide) ?_
                refine a_goto (pc := 51) (tgt := 57) dX7_way_51 (by decide) ?_
                obtain ⟨hi19, hs⟩ := g_if hs
                refine a_iast (pc := 57) sh_55 hi19 dX7_way_57 ?_
                obtain ⟨S20, eS20, hs⟩ := g_let hs
                refine a_nmS eS20 ?_
                refine a_iinc (pc := 58) dX7_way_58 rfl (v := x4 + (1 : Int32)) rfl (Nat.le_of_ble_eq_true rfl) rfl (L' := [some (.ref (gad X 47)), some (.int x1), some (.int x2), some (.int x3), some (.int (x4 + (1 : Int32))), none, none, none, none]) rfl ?_
                refine a_goto (pc := 61) (tgt := 31) dX7_way_61 (by decide) ?_
                obtain rfl := Option.some.inj hs
                exact ih _ _ _ _ _ hR
        exact lp _ _ _ _ _ _ hR21
      · rw [if_pos c12] at h
        refine a_iconst (pc := 22) (v := (-1 : Int32)) dX7_way_22 (by decide) ?_
        obtain ⟨rfl, rfl⟩ := Prod.mk.inj (Option.some.inj h)
        exact a_iret hp dX7_way_23
theorem dX7_isGone_0 : decode cX7_isGone 0 = .ok (.iconst 1, 1) := by decide +kernel
theorem dX7_isGone_1 : decode cX7_isGone 1 = .ok (.istore 4, 2) := by decide +kernel
theorem dX7_isGone_3 : decode cX7_isGone 3 = .ok (.iload_n 2, 1) := by decide +kernel
theorem dX7_isGone_4 : decode cX7_isGone 4 = .ok (.iconst 1, 1) := by decide +kernel
theorem dX7_isGone_5 : decode cX7_isGone 5 = .ok (.isub, 1) := by decide +kernel
theorem dX7_isGone_6 : decode cX7_isGone 6 = .ok (.istore 5, 2) := by decide +kernel
theorem dX7_isGone_8 : decode cX7_isGone 8 = .ok (.iload 5, 2) := by decide +kernel
theorem dX7_isGone_10 : decode cX7_isGone 10 = .ok (.ifCond .lt 66, 3) := by decide +kernel
theorem dX7_isGone_13 : decode cX7_isGone 13 = .ok (.iload 4, 2) := by decide +kernel
theorem dX7_isGone_15 : decode cX7_isGone 15 = .ok (.ifCond .eq 61, 3) := by decide +kernel
theorem dX7_isGone_18 : decode cX7_isGone 18 = .ok (.iload_n 3, 1) := by decide +kernel
theorem dX7_isGone_19 : decode cX7_isGone 19 = .ok (.iconst 2, 1) := by decide +kernel
theorem dX7_isGone_20 : decode cX7_isGone 20 = .ok (.iload 5, 2) := by decide +kernel
theorem dX7_isGone_22 : decode cX7_isGone 22 = .ok (.imul, 1) := by decide +kernel
theorem dX7_isGone_23 : decode cX7_isGone 23 = .ok (.ishr, 1) := by decide +kernel
theorem dX7_isGone_24 : decode cX7_isGone 24 = .ok (.iconst 3, 1) := by decide +kernel
theorem dX7_isGone_25 : decode cX7_isGone 25 = .ok (.iand, 1) := by decide +kernel
theorem dX7_isGone_26 : decode cX7_isGone 26 = .ok (.istore 6, 2) := by decide +kernel
theorem dX7_isGone_28 : decode cX7_isGone 28 = .ok (.aload_n 0, 1) := by decide +kernel
theorem dX7_isGone_29 : decode cX7_isGone 29 = .ok (.getfield 7, 3) := by decide +kernel
theorem dX7_isGone_32 : decode cX7_isGone 32 = .ok (.bipush 8, 2) := by decide +kernel
theorem dX7_isGone_34 : decode cX7_isGone 34 = .ok (.iconst 4, 1) := by decide +kernel
theorem dX7_isGone_35 : decode cX7_isGone 35 = .ok (.iload_n 1, 1) := by decide +kernel
theorem dX7_isGone_36 : decode cX7_isGone 36 = .ok (.imul, 1) := by decide +kernel
theorem dX7_isGone_37 : decode cX7_isGone 37 = .ok (.iadd, 1) := by decide +kernel
theorem dX7_isGone_38 : decode cX7_isGone 38 = .ok (.iconst 2, 1) := by decide +kernel
theorem dX7_isGone_39 : decode cX7_isGone 39 = .ok (.iadd, 1) := by decide +kernel
theorem dX7_isGone_40 : decode cX7_isGone 40 = .ok (.iaload, 1) := by decide +kernel
theorem dX7_isGone_41 : decode cX7_isGone 41 = .ok (.iload 6, 2) := by decide +kernel
theorem dX7_isGone_43 : decode cX7_isGone 43 = .ok (.invokestatic 146, 3) := by decide +kernel
theorem dX7_isGone_46 : decode cX7_isGone 46 = .ok (.bipush (-4), 2) := by decide +kernel
theorem dX7_isGone_48 : decode cX7_isGone 48 = .ok (.if_icmp .eq 7, 3) := by decide +kernel
theorem dX7_isGone_51 : decode cX7_isGone 51 = .ok (.iconst 1, 1) := by decide +kernel
theorem dX7_isGone_52 : decode cX7_isGone 52 = .ok (.goto 4, 3) := by decide +kernel
theorem dX7_isGone_55 : decode cX7_isGone 55 = .ok (.iconst 0, 1) := by decide +kernel
theorem dX7_isGone_56 : decode cX7_isGone 56 = .ok (.istore 4, 2) := by decide +kernel
theorem dX7_isGone_58 : decode cX7_isGone 58 = .ok (.iload 4, 2) := by decide +kernel
theorem dX7_isGone_60 : decode cX7_isGone 60 = .ok (.ifCond .eq 10, 3) := by decide +kernel
theorem dX7_isGone_63 : decode cX7_isGone 63 = .ok (.aload_n 0, 1) := by decide +kernel
theorem dX7_isGone_64 : decode cX7_isGone 64 = .ok (.iload_n 1, 1) := by decide +kernel
theorem dX7_isGone_65 : decode cX7_isGone 65 = .ok (.iload 6, 2) := by decide +kernel
theorem dX7_isGone_67 : decode cX7_isGone 67 = .ok (.invokevirtual 156, 3) := by decide +kernel
theorem dX7_isGone_70 : decode cX7_isGone 70 = .ok (.iinc 5 (-1), 3) := by decide +kernel
theorem dX7_isGone_73 : decode cX7_isGone 73 = .ok (.goto (-65), 3) := by decide +kernel
theorem dX7_isGone_76 : decode cX7_isGone 76 = .ok (.iload 4, 2) := by decide +kernel
theorem dX7_isGone_78 : decode cX7_isGone 78 = .ok (.ireturn, 1) := by decide +kernel
def f_X7_isGone_j56 (x1 : Int32) (x3 : Int32) (x5 : Int32) (x6 : Int32) (t0 : Int32) (S : gSt) : Option ((Int32 × Int32 × Int32 × Int32 × gSt) ⊕ (Int32 × gSt)) :=
(if t0 = 0 then
some (.inl (x1, x3, t0, x5 + (-1 : Int32), S))
else
(f_X7_steps x1 x6 S).bind fun S3 =>
some (.inl (x1, x3, t0, x5 + (-1 : Int32), S3)))
def f_X7_isGone_s8_b (x1 : Int32) (x3 : Int32) (x4 : Int32) (x5 : Int32) (S : gSt) : Option ((Int32 × Int32 × Int32 × Int32 × gSt) ⊕ (Int32 × gSt)) :=
(if x5 < 0 then
some (.inr (x4, S))
else
(if x4 = 0 then
some (.inr (x4, S))
else
gLet ((x3 >>> (((2 : Int32) * x5) &&& 31)) &&& (3 : Int32)) fun v7 =>
if gin (((8 : Int32) + ((4 : Int32) * x1)) + (2 : Int32)) 416 then
(gBind2 (f_X7_beside (S.1 48 (((8 : Int32) + ((4 : Int32) * x1)) + (2 : Int32)).toNatClampNeg) v7 S) fun r11 S9 =>
(if r11 = (-4 : Int32) then
f_X7_isGone_j56 x1 x3 x5 v7 (0 : Int32) S9
else
f_X7_isGone_j56 x1 x3 x5 v7 (1 : Int32) S9)) else none))
def f_X7_isGone_s8 : (Int32 × Int32 × Int32 × Int32 × gSt) → Option ((Int32 × Int32 × Int32 × Int32 × gSt) ⊕ (Int32 × gSt)) := fun t => f_X7_isGone_s8_b t.1 t.2.1 t.2.2.1 t.2.2.2.1 t.2.2.2.2
def f_X7_isGone (p1 : Int32) (p2 : Int32) (p3 : Int32) (S : gSt) : Option (Int32 × gSt) :=
gLet (p2 - (1 : Int32)) fun v1 =>
(gLoop (f_X7_isGone_s8) gFuel (p1, p3, (1 : Int32), v1, S)).bind fun q13 => match q13 with
| (y4_13, S13) =>
if gbool y4_13 then
some (y4_13, S13) else none
set_option maxHeartbeats 4000000 in
set_option maxRecDepth 20000 in
theorem ok_X7_isGone {p1 : Int32} {p2 : Int32} {p3 : Int32} {S S0 : gSt} {r0 : Int32}  (h : f_X7_isGone p1 p2 p3 S = some (r0, S0)) : gCT yX7_isGone cX7_isGone 7 (some .boolean) 4 (fun w => [.ref (w.2.1 47), .int p1, .int p2, .int p3]) S (some (.int r0)) S0 := by
  refine gEnter (fun X => [some (.ref (gad X 47)), some (.int p1), some (.int p2), some (.int p3), none, none, none]) (by decide) (fun X => ⟨rfl, rfl⟩) (fun w => Nat.le_of_ble_eq_true rfl) (fun X hp => ?_)
  show AW X RX7 4 cX7_isGone 0 [some (.ref (gad X 47)), some (.int p1), some (.int p2), some (.int p3), none, none, none] [] S
  unfold f_X7_isGone at h
  refine a_iconst (pc := 0) (v := (1 : Int32)) dX7_isGone_0 (by decide) ?_
  refine a_istore (pc := 1) dX7_isGone_1 (Nat.le_of_ble_eq_true rfl) rfl (L' := [some (.ref (gad X 47)), some (.int p1), some (.int p2), some (.int p3), some (.int (1 : Int32)), none, none]) rfl ?_
  refine a_iloadn (pc := 3) dX7_isGone_3 rfl rfl ?_
  refine a_iconst (pc := 4) (v := (1 : Int32)) dX7_isGone_4 (by decide) ?_
  refine a_isub (pc := 5) dX7_isGone_5 ?_
  obtain ⟨v1, ev1, h⟩ := g_let h
  refine a_nmI ev1 ?_
  refine a_istore (pc := 6) dX7_isGone_6 (Nat.le_of_ble_eq_true rfl) rfl (L' := [some (.ref (gad X 47)), some (.int p1), some (.int p2), some (.int p3), some (.int (1 : Int32)), some (.int v1), none]) rfl ?_
  obtain ⟨R13, hR13, h⟩ := g_bind h
  refine a_mask [true, true, false, true, true, true, true] (L' := [some (.ref (gad X 47)), some (.int p1), none, some (.int p3), some (.int (1 : Int32)), some (.int v1), none]) rfl ?_
  have E8 : ∀ (y4_13 : Int32) (S13 : gSt), (if gbool y4_13 then some (y4_13, S13) else none) = some (r0, S0) → AW X RX7 4 cX7_isGone 76 [none, none, none, none, some (.int y4_13), none, none] [] S13 := by
    intro y4_13 S13 h
    refine a_iload (pc := 76) dX7_isGone_76 rfl ?_
    obtain ⟨hb14, h⟩ := g_if h
    obtain ⟨rfl, rfl⟩ := Prod.mk.inj (Option.some.inj h)
    exact a_zret hp hb14  dX7_isGone_78
  have lp : ∀ (n : Nat) (x1 : Int32) (x3 : Int32) (x4 : Int32) (x5 : Int32) (S : gSt), gLoop (f_X7_isGone_s8) n (x1, x3, x4, x5, S) = some R13 → AW X RX7 4 cX7_isGone 8 [some (.ref (gad X 47)), some (.int x1), none, some (.int x3), some (.int x4), some (.int x5), none] [] S := by
    intro n
    induction n with
    | zero => intro x1 x3 x4 x5 S hR; cases hR
    | succ n ih =>
      intro x1 x3 x4 x5 S hR
      obtain ⟨q, hs, hR⟩ := g_bind hR
      have hs : f_X7_isGone_s8_b x1 x3 x4 x5 S = some q := hs
      unfold f_X7_isGone_s8_b at hs
      have J56 : ∀ (x1 : Int32) (x3 : Int32) (x5 : Int32) (x6 : Int32) (t0 : Int32) (S : gSt), f_X7_isGone_j56 x1 x3 x5 x6 t0 S = some q → AW X RX7 4 cX7_isGone 56 [some (.ref (gad X 47)), some (.int x1), none, some (.int x3), none, some (.int x5), some (.int x6)] [.int t0] S := by
        intro x1 x3 x5 x6 t0 S hs
        unfold f_X7_isGone_j56 at hs
        refine a_istore (pc := 56) dX7_isGone_56 (Nat.le_of_ble_eq_true rfl) rfl (L' := [some (.ref (gad X 47)), some (.int x1), none, some (.int x3), some (.int t0), some (.int x5), some (.int x6)]) rfl ?_
        refine a_iload (pc := 58) dX7_isGone_58 rfl ?_
        refine a_if_eq (pc := 60) (tgt := 70) dX7_isGone_60 (by decide) (fun c2 => ?_) (fun c2 => ?_)
        · rw [if_pos c2] at hs
          refine a_iinc (pc := 70) dX7_isGone_70 rfl (v := x5 + (-1 : Int32)) rfl (Nat.le_of_ble_eq_true rfl) rfl (L' := [some (.ref (gad X 47)), some (.int x1), none, some (.int x3), some (.int t0), some (.int (x5 + (-1 : Int32))), some (.int x6)]) rfl ?_
          refine a_goto (pc := 73) (tgt := 8) dX7_isGone_73 (by decide) ?_
          obtain rfl := Option.some.inj hs
          refine a_mask [true, true, true, true, true, true, false] (L' := [some (.ref (gad X 47)), some (.int x1), none, some (.int x3), some (.int t0), some (.int (x5 + (-1 : Int32))), none]) rfl ?_
          exact ih _ _ _ _ _ hR
        · rw [if_neg c2] at hs
          refine a_aloadn (pc := 63) dX7_isGone_63 rfl rfl ?_
          refine a_iloadn (pc := 64) dX7_isGone_64 rfl rfl ?_
          refine a_iload (pc := 65) dX7_isGone_65 rfl ?_
          obtain ⟨S3, hc4, hs⟩ := g_bind hs
          refine a_invVv (pc := 67) (ok_X7_steps hc4) gyX7_steps vyX7_steps mlX7_156 sh_47 rfl (As := [.int x1, .int x6]) rfl rfl (by decide) (st := []) rfl (Nat.le_of_ble_eq_true rfl) dX7_isGone_67 ?_
          refine a_iinc (pc := 70) dX7_isGone_70 rfl (v := x5 + (-1 : Int32)) rfl (Nat.le_of_ble_eq_true rfl) rfl (L' := [some (.ref (gad X 47)), some (.int x1), none, some (.int x3), some (.int t0), some (.int (x5 + (-1 : Int32))), some (.int x6)]) rfl ?_
          refine a_goto (pc := 73) (tgt := 8) dX7_isGone_73 (by decide) ?_
          obtain rfl := Option.some.inj hs
          refine a_mask [true, true, true, true, true, true, false] (L' := [some (.ref (gad X 47)), some (.int x1), none, some (.int x3), some (.int t0), some (.int (x5 + (-1 : Int32))), none]) rfl ?_
          exact ih _ _ _ _ _ hR
      refine a_iload (pc := 8) dX7_isGone_8 rfl ?_
      refine a_if_lt (pc := 10) (tgt := 76) dX7_isGone_10 (by decide) (fun c5 => ?_) (fun c5 => ?_)
      · rw [if_pos c5] at hs
        obtain rfl := Option.some.inj hs
        obtain rfl := Option.some.inj hR
        refine a_mask [false, false, true, false, true, false, true] (L' := [none, none, none, none, some (.int x4), none, none]) rfl ?_
        exact E8 _ _ h
      · rw [if_neg c5] at hs
        refine a_iload (pc := 13) dX7_isGone_13 rfl ?_
        refine a_if_eq (pc := 15) (tgt := 76) dX7_isGone_15 (by decide) (fun c6 => ?_) (fun c6 => ?_)
        · rw [if_pos c6] at hs
          obtain rfl := Option.some.inj hs
          obtain rfl := Option.some.inj hR
          refine a_mask [false, false, true, false, true, false, true] (L' := [none, none, none, none, some (.int x4), none, none]) rfl ?_
          exact E8 _ _ h
        · rw [if_neg c6] at hs
          refine a_iloadn (pc := 18) dX7_isGone_18 rfl rfl ?_
          refine a_iconst (pc := 19) (v := (2 : Int32)) dX7_isGone_19 (by decide) ?_
          refine a_iload (pc := 20) dX7_isGone_20 rfl ?_
          refine a_imul (pc := 22) dX7_isGone_22 ?_
          refine a_ishr (pc := 23) dX7_isGone_23 ?_
          refine a_iconst (pc := 24) (v := (3 : Int32)) dX7_isGone_24 (by decide) ?_
          refine a_iand (pc := 25) dX7_isGone_25 ?_
          obtain ⟨v7, ev7, hs⟩ := g_let hs
          refine a_nmI ev7 ?_
          refine a_istore (pc := 26) dX7_isGone_26 (Nat.le_of_ble_eq_true rfl) rfl (L' := [some (.ref (gad X 47)), some (.int x1), none, some (.int x3), some (.int x4), some (.int x5), some (.int v7)]) rfl ?_
          refine a_aloadn (pc := 28) dX7_isGone_28 rfl rfl ?_
          refine a_getA (pc := 29) flX7_7 sh_47 rfl dX7_isGone_29 ?_
          refine a_bipush (pc := 32) (v := (8 : Int32)) dX7_isGone_32 (by decide) ?_
          refine a_iconst (pc := 34) (v := (4 : Int32)) dX7_isGone_34 (by decide) ?_
          refine a_iloadn (pc := 35) dX7_isGone_35 rfl rfl ?_
          refine a_imul (pc := 36) dX7_isGone_36 ?_
          refine a_iadd (pc := 37) dX7_isGone_37 ?_
          refine a_iconst (pc := 38) (v := (2 : Int32)) dX7_isGone_38 (by decide) ?_
          refine a_iadd (pc := 39) dX7_isGone_39 ?_
          obtain ⟨hi8, hs⟩ := g_if hs
          refine a_iald (pc := 40) sh_48 hi8 dX7_isGone_40 ?_
          refine a_iload (pc := 41) dX7_isGone_41 rfl ?_
          obtain ⟨r11, S9, hc10, hs⟩ := g_bind2 hs
          refine a_invSi (pc := 43) (ok_X7_beside hc10) gyX7_beside syX7_beside mlX7_146 (As := [.int (S.1 48 (((8 : Int32) + ((4 : Int32) * x1)) + (2 : Int32)).toNatClampNeg), .int v7]) rfl rfl (by decide) (st := []) rfl (Nat.le_of_ble_eq_true rfl) dX7_isGone_43 ?_
          refine a_bipush (pc := 46) (v := (-4 : Int32)) dX7_isGone_46 (by decide) ?_
          refine a_icmp_eq (pc := 48) (tgt := 55) dX7_isGone_48 (by decide) (fun c12 => ?_) (fun c12 => ?_)
          · rw [if_pos c12] at hs
            refine a_iconst (pc := 55) (v := (0 : Int32)) dX7_isGone_55 (by decide) ?_
            refine a_mask [true, true, true, true, false, true, true] (L' := [some (.ref (gad X 47)), some (.int x1), none, some (.int x3), none, some (.int x5), some (.int v7)]) rfl ?_
            exact J56 _ _ _ _ _ _ hs
          · rw [if_neg c12] at hs
            refine a_iconst (pc := 51) (v := (1 : Int32)) dX7_isGone_51 (by decide) ?_
            refine a_goto (pc := 52) (tgt := 56) dX7_isGone_52 (by decide) ?_
            refine a_mask [true, true, true, true, false, true, true] (L' := [some (.ref (gad X 47)), some (.int x1), none, some (.int x3), none, some (.int x5), some (.int v7)]) rfl ?_
            exact J56 _ _ _ _ _ _ hs
  exact lp _ _ _ _ _ _ hR13
theorem dX7_walk_0 : decode cX7_walk 0 = .ok (.aload_n 0, 1) := by decide +kernel
theorem dX7_walk_1 : decode cX7_walk 1 = .ok (.iload_n 1, 1) := by decide +kernel
theorem dX7_walk_2 : decode cX7_walk 2 = .ok (.invokevirtual 82, 3) := by decide +kernel
theorem dX7_walk_5 : decode cX7_walk 5 = .ok (.ifCond .eq 33, 3) := by decide +kernel
theorem dX7_walk_8 : decode cX7_walk 8 = .ok (.iload_n 2, 1) := by decide +kernel
theorem dX7_walk_9 : decode cX7_walk 9 = .ok (.i2l, 1) := by decide +kernel
theorem dX7_walk_10 : decode cX7_walk 10 = .ok (.lconst 0, 1) := by decide +kernel
theorem dX7_walk_11 : decode cX7_walk 11 = .ok (.ldc2_w 61, 3) := by decide +kernel
theorem dX7_walk_14 : decode cX7_walk 14 = .ok (.invokestatic 51, 3) := by decide +kernel
theorem dX7_walk_17 : decode cX7_walk 17 = .ok (.ifCond .eq 21, 3) := by decide +kernel
theorem dX7_walk_20 : decode cX7_walk 20 = .ok (.iload_n 3, 1) := by decide +kernel
theorem dX7_walk_21 : decode cX7_walk 21 = .ok (.i2l, 1) := by decide +kernel
theorem dX7_walk_22 : decode cX7_walk 22 = .ok (.lconst 0, 1) := by decide +kernel
theorem dX7_walk_23 : decode cX7_walk 23 = .ok (.ldc2_w 102, 3) := by decide +kernel
theorem dX7_walk_26 : decode cX7_walk 26 = .ok (.invokestatic 51, 3) := by decide +kernel
theorem dX7_walk_29 : decode cX7_walk 29 = .ok (.ifCond .eq 9, 3) := by decide +kernel
theorem dX7_walk_32 : decode cX7_walk 32 = .ok (.iload 4, 2) := by decide +kernel
theorem dX7_walk_34 : decode cX7_walk 34 = .ok (.iconst (-1), 1) := by decide +kernel
theorem dX7_walk_35 : decode cX7_walk 35 = .ok (.if_icmp .ge 5, 3) := by decide +kernel
theorem dX7_walk_38 : decode cX7_walk 38 = .ok (.iconst (-1), 1) := by decide +kernel
theorem dX7_walk_39 : decode cX7_walk 39 = .ok (.ireturn, 1) := by decide +kernel
theorem dX7_walk_40 : decode cX7_walk 40 = .ok (.aload_n 0, 1) := by decide +kernel
theorem dX7_walk_41 : decode cX7_walk 41 = .ok (.invokevirtual 176, 3) := by decide +kernel
theorem dX7_walk_44 : decode cX7_walk 44 = .ok (.iconst 0, 1) := by decide +kernel
theorem dX7_walk_45 : decode cX7_walk 45 = .ok (.istore 5, 2) := by decide +kernel
theorem dX7_walk_47 : decode cX7_walk 47 = .ok (.iconst (-1), 1) := by decide +kernel
theorem dX7_walk_48 : decode cX7_walk 48 = .ok (.istore 6, 2) := by decide +kernel
theorem dX7_walk_50 : decode cX7_walk 50 = .ok (.iconst 0, 1) := by decide +kernel
theorem dX7_walk_51 : decode cX7_walk 51 = .ok (.istore 7, 2) := by decide +kernel
theorem dX7_walk_53 : decode cX7_walk 53 = .ok (.iload 7, 2) := by decide +kernel
theorem dX7_walk_55 : decode cX7_walk 55 = .ok (.iconst 1, 1) := by decide +kernel
theorem dX7_walk_56 : decode cX7_walk 56 = .ok (.iconst 2, 1) := by decide +kernel
theorem dX7_walk_57 : decode cX7_walk 57 = .ok (.iload_n 2, 1) := by decide +kernel
theorem dX7_walk_58 : decode cX7_walk 58 = .ok (.imul, 1) := by decide +kernel
theorem dX7_walk_59 : decode cX7_walk 59 = .ok (.ishl, 1) := by decide +kernel
theorem dX7_walk_60 : decode cX7_walk 60 = .ok (.if_icmp .ge 68, 3) := by decide +kernel
theorem dX7_walk_63 : decode cX7_walk 63 = .ok (.aload_n 0, 1) := by decide +kernel
theorem dX7_walk_64 : decode cX7_walk 64 = .ok (.iload_n 1, 1) := by decide +kernel
theorem dX7_walk_65 : decode cX7_walk 65 = .ok (.iload_n 2, 1) := by decide +kernel
theorem dX7_walk_66 : decode cX7_walk 66 = .ok (.iload 7, 2) := by decide +kernel
theorem dX7_walk_68 : decode cX7_walk 68 = .ok (.invokevirtual 188, 3) := by decide +kernel
theorem dX7_walk_71 : decode cX7_walk 71 = .ok (.ifCond .eq 47, 3) := by decide +kernel
theorem dX7_walk_74 : decode cX7_walk 74 = .ok (.aload_n 0, 1) := by decide +kernel
theorem dX7_walk_75 : decode cX7_walk 75 = .ok (.iload_n 3, 1) := by decide +kernel
theorem dX7_walk_76 : decode cX7_walk 76 = .ok (.invokevirtual 179, 3) := by decide +kernel
theorem dX7_walk_79 : decode cX7_walk 79 = .ok (.aload_n 0, 1) := by decide +kernel
theorem dX7_walk_80 : decode cX7_walk 80 = .ok (.iload_n 1, 1) := by decide +kernel
theorem dX7_walk_81 : decode cX7_walk 81 = .ok (.invokevirtual 93, 3) := by decide +kernel
theorem dX7_walk_84 : decode cX7_walk 84 = .ok (.istore 8, 2) := by decide +kernel
theorem dX7_walk_86 : decode cX7_walk 86 = .ok (.iload 8, 2) := by decide +kernel
theorem dX7_walk_88 : decode cX7_walk 88 = .ok (.iload 6, 2) := by decide +kernel
theorem dX7_walk_90 : decode cX7_walk 90 = .ok (.if_icmp .le 8, 3) := by decide +kernel
theorem dX7_walk_93 : decode cX7_walk 93 = .ok (.iload 7, 2) := by decide +kernel
theorem dX7_walk_95 : decode cX7_walk 95 = .ok (.goto 5, 3) := by decide +kernel
theorem dX7_walk_98 : decode cX7_walk 98 = .ok (.iload 5, 2) := by decide +kernel
theorem dX7_walk_100 : decode cX7_walk 100 = .ok (.istore 5, 2) := by decide +kernel
theorem dX7_walk_102 : decode cX7_walk 102 = .ok (.iload 8, 2) := by decide +kernel
theorem dX7_walk_104 : decode cX7_walk 104 = .ok (.iload 6, 2) := by decide +kernel
theorem dX7_walk_106 : decode cX7_walk 106 = .ok (.if_icmp .le 8, 3) := by decide +kernel
theorem dX7_walk_109 : decode cX7_walk 109 = .ok (.iload 8, 2) := by decide +kernel
theorem dX7_walk_111 : decode cX7_walk 111 = .ok (.goto 5, 3) := by decide +kernel
theorem dX7_walk_114 : decode cX7_walk 114 = .ok (.iload 6, 2) := by decide +kernel
theorem dX7_walk_116 : decode cX7_walk 116 = .ok (.istore 6, 2) := by decide +kernel
theorem dX7_walk_118 : decode cX7_walk 118 = .ok (.aload_n 0, 1) := by decide +kernel
theorem dX7_walk_119 : decode cX7_walk 119 = .ok (.invokevirtual 182, 3) := by decide +kernel
theorem dX7_walk_122 : decode cX7_walk 122 = .ok (.iinc 7 1, 3) := by decide +kernel
theorem dX7_walk_125 : decode cX7_walk 125 = .ok (.goto (-72), 3) := by decide +kernel
theorem dX7_walk_128 : decode cX7_walk 128 = .ok (.iload 4, 2) := by decide +kernel
theorem dX7_walk_130 : decode cX7_walk 130 = .ok (.ifCond .ge 8, 3) := by decide +kernel
theorem dX7_walk_133 : decode cX7_walk 133 = .ok (.iload 6, 2) := by decide +kernel
theorem dX7_walk_135 : decode cX7_walk 135 = .ok (.goto 27, 3) := by decide +kernel
theorem dX7_walk_138 : decode cX7_walk 138 = .ok (.iload 4, 2) := by decide +kernel
theorem dX7_walk_140 : decode cX7_walk 140 = .ok (.iload_n 2, 1) := by decide +kernel
theorem dX7_walk_141 : decode cX7_walk 141 = .ok (.if_icmp .lt 8, 3) := by decide +kernel
theorem dX7_walk_144 : decode cX7_walk 144 = .ok (.bipush (-4), 2) := by decide +kernel
theorem dX7_walk_146 : decode cX7_walk 146 = .ok (.goto 16, 3) := by decide +kernel
theorem dX7_walk_149 : decode cX7_walk 149 = .ok (.iload 5, 2) := by decide +kernel
theorem dX7_walk_151 : decode cX7_walk 151 = .ok (.iconst 2, 1) := by decide +kernel
theorem dX7_walk_152 : decode cX7_walk 152 = .ok (.iload_n 2, 1) := by decide +kernel
theorem dX7_walk_153 : decode cX7_walk 153 = .ok (.iconst 1, 1) := by decide +kernel
theorem dX7_walk_154 : decode cX7_walk 154 = .ok (.isub, 1) := by decide +kernel
theorem dX7_walk_155 : decode cX7_walk 155 = .ok (.iload 4, 2) := by decide +kernel
theorem dX7_walk_157 : decode cX7_walk 157 = .ok (.isub, 1) := by decide +kernel
theorem dX7_walk_158 : decode cX7_walk 158 = .ok (.imul, 1) := by decide +kernel
theorem dX7_walk_159 : decode cX7_walk 159 = .ok (.ishr, 1) := by decide +kernel
theorem dX7_walk_160 : decode cX7_walk 160 = .ok (.iconst 3, 1) := by decide +kernel
theorem dX7_walk_161 : decode cX7_walk 161 = .ok (.iand, 1) := by decide +kernel
theorem dX7_walk_162 : decode cX7_walk 162 = .ok (.ireturn, 1) := by decide +kernel
def f_X7_walk_j100 (x1 : Int32) (x2 : Int32) (x3 : Int32) (x4 : Int32) (x6 : Int32) (x7 : Int32) (x8 : Int32) (t0 : Int32) (S : gSt) : Option ((Int32 × Int32 × Int32 × Int32 × Int32 × Int32 × Int32 × gSt) ⊕ (Int32 × Int32 × Int32 × Int32 × gSt)) :=
(if x8 ≤ x6 then
(f_X7_backs S).bind fun S17 =>
some (.inl (x1, x2, x3, x4, t0, x6, x7 + (1 : Int32), S17))
else
(f_X7_backs S).bind fun S19 =>
some (.inl (x1, x2, x3, x4, t0, x8, x7 + (1 : Int32), S19)))
def f_X7_walk_s53_b (x1 : Int32) (x2 : Int32) (x3 : Int32) (x4 : Int32) (x5 : Int32) (x6 : Int32) (x7 : Int32) (S : gSt) : Option ((Int32 × Int32 × Int32 × Int32 × Int32 × Int32 × Int32 × gSt) ⊕ (Int32 × Int32 × Int32 × Int32 × gSt)) :=
(if ((1 : Int32) <<< (((2 : Int32) * x2) &&& 31)) ≤ x7 then
some (.inr (x2, x4, x5, x6, S))
else
gBind2 (f_X7_isGone x1 x2 x7 S) fun r24 S22 =>
(if r24 = 0 then
(f_X7_backs S22).bind fun S26 =>
some (.inl (x1, x2, x3, x4, x5, x6, x7 + (1 : Int32), S26))
else
(f_X7_goesOn x3 S22).bind fun S28 =>
gBind2 (f_X7_landOf x1 S28) fun r32 S30 =>
(if r32 ≤ x6 then
f_X7_walk_j100 x1 x2 x3 x4 x6 x7 r32 x5 S30
else
f_X7_walk_j100 x1 x2 x3 x4 x6 x7 r32 x7 S30)))
def f_X7_walk_s53 : (Int32 × Int32 × Int32 × Int32 × Int32 × Int32 × Int32 × gSt) → Option ((Int32 × Int32 × Int32 × Int32 × Int32 × Int32 × Int32 × gSt) ⊕ (Int32 × Int32 × Int32 × Int32 × gSt)) := fun t => f_X7_walk_s53_b t.1 t.2.1 t.2.2.1 t.2.2.2.1 t.2.2.2.2.1 t.2.2.2.2.2.1 t.2.2.2.2.2.2.1 t.2.2.2.2.2.2.2
def f_X7_walk (p1 : Int32) (p2 : Int32) (p3 : Int32) (p4 : Int32) (S : gSt) : Option (Int32 × gSt) :=
gBind2 (f_X7_isWalker p1 S) fun r3 S1 =>
(if r3 = 0 then
some ((-1 : Int32), S1)
else
gBind2 (f_X7_in (p2.toInt64) (0 : Int64) (4 : Int64) S1) fun r7 S5 =>
(if r7 = 0 then
some ((-1 : Int32), S5)
else
gBind2 (f_X7_in (p3.toInt64) (0 : Int64) (12 : Int64) S5) fun r11 S9 =>
(if r11 = 0 then
some ((-1 : Int32), S9)
else
(if (-1 : Int32) ≤ p4 then
(f_X7_asides S9).bind fun S14 =>
(gLoop (f_X7_walk_s53) gFuel (p1, p2, p3, p4, (0 : Int32), (-1 : Int32), (0 : Int32), S14)).bind fun q34 => match q34 with
| (y2_34, y4_34, y5_34, y6_34, S34) =>
(if 0 ≤ y4_34 then
(if y4_34 < y2_34 then
some ((y5_34 >>> (((2 : Int32) * ((y2_34 - (1 : Int32)) - y4_34)) &&& 31)) &&& (3 : Int32), S34)
else
some ((-4 : Int32), S34))
else
some (y6_34, S34))
else
some ((-1 : Int32), S9)))))
set_option maxHeartbeats 4000000 in
set_option maxRecDepth 20000 in
theorem ok_X7_walk {p1 : Int32} {p2 : Int32} {p3 : Int32} {p4 : Int32} {S S0 : gSt} {r0 : Int32}  (h : f_X7_walk p1 p2 p3 p4 S = some (r0, S0)) : gCT yX7_walk cX7_walk 9 (some .int) 5 (fun w => [.ref (w.2.1 47), .int p1, .int p2, .int p3, .int p4]) S (some (.int r0)) S0 := by
  refine gEnter (fun X => [some (.ref (gad X 47)), some (.int p1), some (.int p2), some (.int p3), some (.int p4), none, none, none, none]) (by decide) (fun X => ⟨rfl, rfl⟩) (fun w => Nat.le_of_ble_eq_true rfl) (fun X hp => ?_)
  show AW X RX7 5 cX7_walk 0 [some (.ref (gad X 47)), some (.int p1), some (.int p2), some (.int p3), some (.int p4), none, none, none, none] [] S
  unfold f_X7_walk at h
  refine a_aloadn (pc := 0) dX7_walk_0 rfl rfl ?_
  refine a_iloadn (pc := 1) dX7_walk_1 rfl rfl ?_
  obtain ⟨r3, S1, hc2, h⟩ := g_bind2 h
  refine a_invVi (pc := 2) (ok_X7_isWalker hc2) gyX7_isWalker vyX7_isWalker mlX7_82 sh_47 rfl (As := [.int p1]) rfl rfl (by decide) (st := []) rfl (Nat.le_of_ble_eq_true rfl) dX7_walk_2 ?_
  refine a_if_eq (pc := 5) (tgt := 38) dX7_walk_5 (by decide) (fun c4 => ?_) (fun c4 => ?_)
  · rw [if_pos c4] at h
    refine a_iconst (pc := 38) (v := (-1 : Int32)) dX7_walk_38 (by decide) ?_
    obtain ⟨rfl, rfl⟩ := Prod.mk.inj (Option.some.inj h)
    exact a_iret hp dX7_walk_39
  · rw [if_neg c4] at h
    refine a_iloadn (pc := 8) dX7_walk_8 rfl rfl ?_
    refine a_i2l (pc := 9) dX7_walk_9 ?_
    refine a_lconst (pc := 10) (v := (0 : Int64)) dX7_walk_10 (by decide) ?_
    refine a_ldc2 (pc := 11) kX7_61 dX7_walk_11 ?_
    obtain ⟨r7, S5, hc6, h⟩ := g_bind2 h
    refine a_invSi (pc := 14) (ok_X7_in hc6) gyX7_in syX7_in mlX7_51 (As := [.long (p2.toInt64), .long (0 : Int64), .long (4 : Int64)]) rfl rfl (by decide) (st := []) rfl (Nat.le_of_ble_eq_true rfl) dX7_walk_14 ?_
    refine a_if_eq (pc := 17) (tgt := 38) dX7_walk_17 (by decide) (fun c8 => ?_) (fun c8 => ?_)
    · rw [if_pos c8] at h
      refine a_iconst (pc := 38) (v := (-1 : Int32)) dX7_walk_38 (by decide) ?_
      obtain ⟨rfl, rfl⟩ := Prod.mk.inj (Option.some.inj h)
      exact a_iret hp dX7_walk_39
    · rw [if_neg c8] at h
      refine a_iloadn (pc := 20) dX7_walk_20 rfl rfl ?_
      refine a_i2l (pc := 21) dX7_walk_21 ?_
      refine a_lconst (pc := 22) (v := (0 : Int64)) dX7_walk_22 (by decide) ?_
      refine a_ldc2 (pc := 23) kX7_102 dX7_walk_23 ?_
      obtain ⟨r11, S9, hc10, h⟩ := g_bind2 h
      refine a_invSi (pc := 26) (ok_X7_in hc10) gyX7_in syX7_in mlX7_51 (As := [.long (p3.toInt64), .long (0 : Int64), .long (12 : Int64)]) rfl rfl (by decide) (st := []) rfl (Nat.le_of_ble_eq_true rfl) dX7_walk_26 ?_
      refine a_if_eq (pc := 29) (tgt := 38) dX7_walk_29 (by decide) (fun c12 => ?_) (fun c12 => ?_)
      · rw [if_pos c12] at h
        refine a_iconst (pc := 38) (v := (-1 : Int32)) dX7_walk_38 (by decide) ?_
        obtain ⟨rfl, rfl⟩ := Prod.mk.inj (Option.some.inj h)
        exact a_iret hp dX7_walk_39
      · rw [if_neg c12] at h
        refine a_iload (pc := 32) dX7_walk_32 rfl ?_
        refine a_iconst (pc := 34) (v := (-1 : Int32)) dX7_walk_34 (by decide) ?_
        refine a_icmp_ge (pc := 35) (tgt := 40) dX7_walk_35 (by decide) (fun c13 => ?_) (fun c13 => ?_)
        · rw [if_pos c13] at h
          refine a_aloadn (pc := 40) dX7_walk_40 rfl rfl ?_
          obtain ⟨S14, hc15, h⟩ := g_bind h
          refine a_invVv (pc := 41) (ok_X7_asides hc15) gyX7_asides vyX7_asides mlX7_176 sh_47 rfl (As := []) rfl rfl (by decide) (st := []) rfl (Nat.le_of_ble_eq_true rfl) dX7_walk_41 ?_
          refine a_iconst (pc := 44) (v := (0 : Int32)) dX7_walk_44 (by decide) ?_
          refine a_istore (pc := 45) dX7_walk_45 (Nat.le_of_ble_eq_true rfl) rfl (L' := [some (.ref (gad X 47)), some (.int p1), some (.int p2), some (.int p3), some (.int p4), some (.int (0 : Int32)), none, none, none]) rfl ?_
          refine a_iconst (pc := 47) (v := (-1 : Int32)) dX7_walk_47 (by decide) ?_
          refine a_istore (pc := 48) dX7_walk_48 (Nat.le_of_ble_eq_true rfl) rfl (L' := [some (.ref (gad X 47)), some (.int p1), some (.int p2), some (.int p3), some (.int p4), some (.int (0 : Int32)), some (.int (-1 : Int32)), none, none]) rfl ?_
          refine a_iconst (pc := 50) (v := (0 : Int32)) dX7_walk_50 (by decide) ?_
          refine a_istore (pc := 51) dX7_walk_51 (Nat.le_of_ble_eq_true rfl) rfl (L' := [some (.ref (gad X 47)), some (.int p1), some (.int p2), some (.int p3), some (.int p4), some (.int (0 : Int32)), some (.int (-1 : Int32)), some (.int (0 : Int32)), none]) rfl ?_
          obtain ⟨R34, hR34, h⟩ := g_bind h
          have E53 : ∀ (y2_34 : Int32) (y4_34 : Int32) (y5_34 : Int32) (y6_34 : Int32) (S34 : gSt), ((if 0 ≤ y4_34 then (if y4_34 < y2_34 then some ((y5_34 >>> (((2 : Int32) * ((y2_34 - (1 : Int32)) - y4_34)) &&& 31)) &&& (3 : Int32), S34) else some ((-4 : Int32), S34)) else some (y6_34, S34))) = some (r0, S0) → AW X RX7 5 cX7_walk 128 [none, none, some (.int y2_34), none, some (.int y4_34), some (.int y5_34), some (.int y6_34), none, none] [] S34 := by
            intro y2_34 y4_34 y5_34 y6_34 S34 h
            refine a_iload (pc := 128) dX7_walk_128 rfl ?_
            refine a_if_ge (pc := 130) (tgt := 138) dX7_walk_130 (by decide) (fun c35 => ?_) (fun c35 => ?_)
            · rw [if_pos c35] at h
              refine a_iload (pc := 138) dX7_walk_138 rfl ?_
              refine a_iloadn (pc := 140) dX7_walk_140 rfl rfl ?_
              refine a_icmp_lt (pc := 141) (tgt := 149) dX7_walk_141 (by decide) (fun c36 => ?_) (fun c36 => ?_)
              · rw [if_pos c36] at h
                refine a_iload (pc := 149) dX7_walk_149 rfl ?_
                refine a_iconst (pc := 151) (v := (2 : Int32)) dX7_walk_151 (by decide) ?_
                refine a_iloadn (pc := 152) dX7_walk_152 rfl rfl ?_
                refine a_iconst (pc := 153) (v := (1 : Int32)) dX7_walk_153 (by decide) ?_
                refine a_isub (pc := 154) dX7_walk_154 ?_
                refine a_iload (pc := 155) dX7_walk_155 rfl ?_
                refine a_isub (pc := 157) dX7_walk_157 ?_
                refine a_imul (pc := 158) dX7_walk_158 ?_
                refine a_ishr (pc := 159) dX7_walk_159 ?_
                refine a_iconst (pc := 160) (v := (3 : Int32)) dX7_walk_160 (by decide) ?_
                refine a_iand (pc := 161) dX7_walk_161 ?_
                obtain ⟨rfl, rfl⟩ := Prod.mk.inj (Option.some.inj h)
                exact a_iret hp dX7_walk_162
              · rw [if_neg c36] at h
                refine a_bipush (pc := 144) (v := (-4 : Int32)) dX7_walk_144 (by decide) ?_
                refine a_goto (pc := 146) (tgt := 162) dX7_walk_146 (by decide) ?_
                obtain ⟨rfl, rfl⟩ := Prod.mk.inj (Option.some.inj h)
                exact a_iret hp dX7_walk_162
            · rw [if_neg c35] at h
              refine a_iload (pc := 133) dX7_walk_133 rfl ?_
              refine a_goto (pc := 135) (tgt := 162) dX7_walk_135 (by decide) ?_
              obtain ⟨rfl, rfl⟩ := Prod.mk.inj (Option.some.inj h)
              exact a_iret hp dX7_walk_162
          have lp : ∀ (n : Nat) (x1 : Int32) (x2 : Int32) (x3 : Int32) (x4 : Int32) (x5 : Int32) (x6 : Int32) (x7 : Int32) (S : gSt), gLoop (f_X7_walk_s53) n (x1, x2, x3, x4, x5, x6, x7, S) = some R34 → AW X RX7 5 cX7_walk 53 [some (.ref (gad X 47)), some (.int x1), some (.int x2), some (.int x3), some (.int x4), some (.int x5), some (.int x6), some (.int x7), none] [] S := by
            intro n
            induction n with
            | zero => intro x1 x2 x3 x4 x5 x6 x7 S hR; cases hR
            | succ n ih =>
              intro x1 x2 x3 x4 x5 x6 x7 S hR
              obtain ⟨q, hs, hR⟩ := g_bind hR
              have hs : f_X7_walk_s53_b x1 x2 x3 x4 x5 x6 x7 S = some q := hs
              unfold f_X7_walk_s53_b at hs
              have J100 : ∀ (x1 : Int32) (x2 : Int32) (x3 : Int32) (x4 : Int32) (x6 : Int32) (x7 : Int32) (x8 : Int32) (t0 : Int32) (S : gSt), f_X7_walk_j100 x1 x2 x3 x4 x6 x7 x8 t0 S = some q → AW X RX7 5 cX7_walk 100 [some (.ref (gad X 47)), some (.int x1), some (.int x2), some (.int x3), some (.int x4), none, some (.int x6), some (.int x7), some (.int x8)] [.int t0] S := by
                intro x1 x2 x3 x4 x6 x7 x8 t0 S hs
                unfold f_X7_walk_j100 at hs
                refine a_istore (pc := 100) dX7_walk_100 (Nat.le_of_ble_eq_true rfl) rfl (L' := [some (.ref (gad X 47)), some (.int x1), some (.int x2), some (.int x3), some (.int x4), some (.int t0), some (.int x6), some (.int x7), some (.int x8)]) rfl ?_
                refine a_iload (pc := 102) dX7_walk_102 rfl ?_
                refine a_iload (pc := 104) dX7_walk_104 rfl ?_
                refine a_icmp_le (pc := 106) (tgt := 114) dX7_walk_106 (by decide) (fun c16 => ?_) (fun c16 => ?_)
                · rw [if_pos c16] at hs
                  refine a_iload (pc := 114) dX7_walk_114 rfl ?_
                  refine a_istore (pc := 116) dX7_walk_116 (Nat.le_of_ble_eq_true rfl) rfl (L' := [some (.ref (gad X 47)), some (.int x1), some (.int x2), some (.int x3), some (.int x4), some (.int t0), some (.int x6), some (.int x7), some (.int x8)]) rfl ?_
                  refine a_aloadn (pc := 118) dX7_walk_118 rfl rfl ?_
                  obtain ⟨S17, hc18, hs⟩ := g_bind hs
                  refine a_invVv (pc := 119) (ok_X7_backs hc18) gyX7_backs vyX7_backs mlX7_182 sh_47 rfl (As := []) rfl rfl (by decide) (st := []) rfl (Nat.le_of_ble_eq_true rfl) dX7_walk_119 ?_
                  refine a_iinc (pc := 122) dX7_walk_122 rfl (v := x7 + (1 : Int32)) rfl (Nat.le_of_ble_eq_true rfl) rfl (L' := [some (.ref (gad X 47)), some (.int x1), some (.int x2), some (.int x3), some (.int x4), some (.int t0), some (.int x6), some (.int (x7 + (1 : Int32))), some (.int x8)]) rfl ?_
                  refine a_goto (pc := 125) (tgt := 53) dX7_walk_125 (by decide) ?_
                  obtain rfl := Option.some.inj hs
                  refine a_mask [true, true, true, true, true, true, true, true, false] (L' := [some (.ref (gad X 47)), some (.int x1), some (.int x2), some (.int x3), some (.int x4), some (.int t0), some (.int x6), some (.int (x7 + (1 : Int32))), none]) rfl ?_
                  exact ih _ _ _ _ _ _ _ _ hR
                · rw [if_neg c16] at hs
                  refine a_iload (pc := 109) dX7_walk_109 rfl ?_
                  refine a_goto (pc := 111) (tgt := 116) dX7_walk_111 (by decide) ?_
                  refine a_istore (pc := 116) dX7_walk_116 (Nat.le_of_ble_eq_true rfl) rfl (L' := [some (.ref (gad X 47)), some (.int x1), some (.int x2), some (.int x3), some (.int x4), some (.int t0), some (.int x8), some (.int x7), some (.int x8)]) rfl ?_
                  refine a_aloadn (pc := 118) dX7_walk_118 rfl rfl ?_
                  obtain ⟨S19, hc20, hs⟩ := g_bind hs
                  refine a_invVv (pc := 119) (ok_X7_backs hc20) gyX7_backs vyX7_backs mlX7_182 sh_47 rfl (As := []) rfl rfl (by decide) (st := []) rfl (Nat.le_of_ble_eq_true rfl) dX7_walk_119 ?_
                  refine a_iinc (pc := 122) dX7_walk_122 rfl (v := x7 + (1 : Int32)) rfl (Nat.le_of_ble_eq_true rfl) rfl (L' := [some (.ref (gad X 47)), some (.int x1), some (.int x2), some (.int x3), some (.int x4), some (.int t0), some (.int x8), some (.int (x7 + (1 : Int32))), some (.int x8)]) rfl ?_
                  refine a_goto (pc := 125) (tgt := 53) dX7_walk_125 (by decide) ?_
                  obtain rfl := Option.some.inj hs
                  refine a_mask [true, true, true, true, true, true, true, true, false] (L' := [some (.ref (gad X 47)), some (.int x1), some (.int x2), some (.int x3), some (.int x4), some (.int t0), some (.int x8), some (.int (x7 + (1 : Int32))), none]) rfl ?_
                  exact ih _ _ _ _ _ _ _ _ hR
              refine a_iload (pc := 53) dX7_walk_53 rfl ?_
              refine a_iconst (pc := 55) (v := (1 : Int32)) dX7_walk_55 (by decide) ?_
              refine a_iconst (pc := 56) (v := (2 : Int32)) dX7_walk_56 (by decide) ?_
              refine a_iloadn (pc := 57) dX7_walk_57 rfl rfl ?_
              refine a_imul (pc := 58) dX7_walk_58 ?_
              refine a_ishl (pc := 59) dX7_walk_59 ?_
              refine a_icmp_ge (pc := 60) (tgt := 128) dX7_walk_60 (by decide) (fun c21 => ?_) (fun c21 => ?_)
              · rw [if_pos c21] at hs
                obtain rfl := Option.some.inj hs
                obtain rfl := Option.some.inj hR
                refine a_mask [false, false, true, false, true, true, true, false, true] (L' := [none, none, some (.int x2), none, some (.int x4), some (.int x5), some (.int x6), none, none]) rfl ?_
                exact E53 _ _ _ _ _ h
              · rw [if_neg c21] at hs
                refine a_aloadn (pc := 63) dX7_walk_63 rfl rfl ?_
                refine a_iloadn (pc := 64) dX7_walk_64 rfl rfl ?_
                refine a_iloadn (pc := 65) dX7_walk_65 rfl rfl ?_
                refine a_iload (pc := 66) dX7_walk_66 rfl ?_
                obtain ⟨r24, S22, hc23, hs⟩ := g_bind2 hs
                refine a_invVi (pc := 68) (ok_X7_isGone hc23) gyX7_isGone vyX7_isGone mlX7_188 sh_47 rfl (As := [.int x1, .int x2, .int x7]) rfl rfl (by decide) (st := []) rfl (Nat.le_of_ble_eq_true rfl) dX7_walk_68 ?_
                refine a_if_eq (pc := 71) (tgt := 118) dX7_walk_71 (by decide) (fun c25 => ?_) (fun c25 => ?_)
                · rw [if_pos c25] at hs
                  refine a_aloadn (pc := 118) dX7_walk_118 rfl rfl ?_
                  obtain ⟨S26, hc27, hs⟩ := g_bind hs
                  refine a_invVv (pc := 119) (ok_X7_backs hc27) gyX7_backs vyX7_backs mlX7_182 sh_47 rfl (As := []) rfl rfl (by decide) (st := []) rfl (Nat.le_of_ble_eq_true rfl) dX7_walk_119 ?_
                  refine a_iinc (pc := 122) dX7_walk_122 rfl (v := x7 + (1 : Int32)) rfl (Nat.le_of_ble_eq_true rfl) rfl (L' := [some (.ref (gad X 47)), some (.int x1), some (.int x2), some (.int x3), some (.int x4), some (.int x5), some (.int x6), some (.int (x7 + (1 : Int32))), none]) rfl ?_
                  refine a_goto (pc := 125) (tgt := 53) dX7_walk_125 (by decide) ?_
                  obtain rfl := Option.some.inj hs
                  exact ih _ _ _ _ _ _ _ _ hR
                · rw [if_neg c25] at hs
                  refine a_aloadn (pc := 74) dX7_walk_74 rfl rfl ?_
                  refine a_iloadn (pc := 75) dX7_walk_75 rfl rfl ?_
                  obtain ⟨S28, hc29, hs⟩ := g_bind hs
                  refine a_invVv (pc := 76) (ok_X7_goesOn hc29) gyX7_goesOn vyX7_goesOn mlX7_179 sh_47 rfl (As := [.int x3]) rfl rfl (by decide) (st := []) rfl (Nat.le_of_ble_eq_true rfl) dX7_walk_76 ?_
                  refine a_aloadn (pc := 79) dX7_walk_79 rfl rfl ?_
                  refine a_iloadn (pc := 80) dX7_walk_80 rfl rfl ?_
                  obtain ⟨r32, S30, hc31, hs⟩ := g_bind2 hs
                  refine a_invVi (pc := 81) (ok_X7_landOf hc31) gyX7_landOf vyX7_landOf mlX7_93 sh_47 rfl (As := [.int x1]) rfl rfl (by decide) (st := []) rfl (Nat.le_of_ble_eq_true rfl) dX7_walk_81 ?_
                  refine a_istore (pc := 84) dX7_walk_84 (Nat.le_of_ble_eq_true rfl) rfl (L' := [some (.ref (gad X 47)), some (.int x1), some (.int x2), some (.int x3), some (.int x4), some (.int x5), some (.int x6), some (.int x7), some (.int r32)]) rfl ?_
                  refine a_iload (pc := 86) dX7_walk_86 rfl ?_
                  refine a_iload (pc := 88) dX7_walk_88 rfl ?_
                  refine a_icmp_le (pc := 90) (tgt := 98) dX7_walk_90 (by decide) (fun c33 => ?_) (fun c33 => ?_)
                  · rw [if_pos c33] at hs
                    refine a_iload (pc := 98) dX7_walk_98 rfl ?_
                    refine a_mask [true, true, true, true, true, false, true, true, true] (L' := [some (.ref (gad X 47)), some (.int x1), some (.int x2), some (.int x3), some (.int x4), none, some (.int x6), some (.int x7), some (.int r32)]) rfl ?_
                    exact J100 _ _ _ _ _ _ _ _ _ hs
                  · rw [if_neg c33] at hs
                    refine a_iload (pc := 93) dX7_walk_93 rfl ?_
                    refine a_goto (pc := 95) (tgt := 100) dX7_walk_95 (by decide) ?_
                    refine a_mask [true, true, true, true, true, false, true, true, true] (L' := [some (.ref (gad X 47)), some (.int x1), some (.int x2), some (.int x3), some (.int x4), none, some (.int x6), some (.int x7), some (.int r32)]) rfl ?_
                    exact J100 _ _ _ _ _ _ _ _ _ hs
          exact lp _ _ _ _ _ _ _ _ _ hR34
        · rw [if_neg c13] at h
          refine a_iconst (pc := 38) (v := (-1 : Int32)) dX7_walk_38 (by decide) ?_
          obtain ⟨rfl, rfl⟩ := Prod.mk.inj (Option.some.inj h)
          exact a_iret hp dX7_walk_39
theorem dX7_well_0 : decode cX7_well 0 = .ok (.aload_n 0, 1) := by decide +kernel
theorem dX7_well_1 : decode cX7_well 1 = .ok (.iload_n 1, 1) := by decide +kernel
theorem dX7_well_2 : decode cX7_well 2 = .ok (.invokevirtual 82, 3) := by decide +kernel
theorem dX7_well_5 : decode cX7_well 5 = .ok (.ifCond .eq 22, 3) := by decide +kernel
theorem dX7_well_8 : decode cX7_well 8 = .ok (.iload_n 2, 1) := by decide +kernel
theorem dX7_well_9 : decode cX7_well 9 = .ok (.invokestatic 65, 3) := by decide +kernel
theorem dX7_well_12 : decode cX7_well 12 = .ok (.ifCond .eq 15, 3) := by decide +kernel
theorem dX7_well_15 : decode cX7_well 15 = .ok (.iload_n 3, 1) := by decide +kernel
theorem dX7_well_16 : decode cX7_well 16 = .ok (.i2l, 1) := by decide +kernel
theorem dX7_well_17 : decode cX7_well 17 = .ok (.lconst 0, 1) := by decide +kernel
theorem dX7_well_18 : decode cX7_well 18 = .ok (.ldc2_w 102, 3) := by decide +kernel
theorem dX7_well_21 : decode cX7_well 21 = .ok (.invokestatic 51, 3) := by decide +kernel
theorem dX7_well_24 : decode cX7_well 24 = .ok (.ifCond .ne 5, 3) := by decide +kernel
theorem dX7_well_27 : decode cX7_well 27 = .ok (.iconst (-1), 1) := by decide +kernel
theorem dX7_well_28 : decode cX7_well 28 = .ok (.ireturn, 1) := by decide +kernel
theorem dX7_well_29 : decode cX7_well 29 = .ok (.aload_n 0, 1) := by decide +kernel
theorem dX7_well_30 : decode cX7_well 30 = .ok (.invokevirtual 176, 3) := by decide +kernel
theorem dX7_well_33 : decode cX7_well 33 = .ok (.iconst 0, 1) := by decide +kernel
theorem dX7_well_34 : decode cX7_well 34 = .ok (.istore 4, 2) := by decide +kernel
theorem dX7_well_36 : decode cX7_well 36 = .ok (.iload 4, 2) := by decide +kernel
theorem dX7_well_38 : decode cX7_well 38 = .ok (.iconst 5, 1) := by decide +kernel
theorem dX7_well_39 : decode cX7_well 39 = .ok (.if_icmp .ge 78, 3) := by decide +kernel
theorem dX7_well_42 : decode cX7_well 42 = .ok (.iconst 0, 1) := by decide +kernel
theorem dX7_well_43 : decode cX7_well 43 = .ok (.istore 5, 2) := by decide +kernel
theorem dX7_well_45 : decode cX7_well 45 = .ok (.iload 5, 2) := by decide +kernel
theorem dX7_well_47 : decode cX7_well 47 = .ok (.iconst 1, 1) := by decide +kernel
theorem dX7_well_48 : decode cX7_well 48 = .ok (.iconst 2, 1) := by decide +kernel
theorem dX7_well_49 : decode cX7_well 49 = .ok (.iload 4, 2) := by decide +kernel
theorem dX7_well_51 : decode cX7_well 51 = .ok (.imul, 1) := by decide +kernel
theorem dX7_well_52 : decode cX7_well 52 = .ok (.ishl, 1) := by decide +kernel
theorem dX7_well_53 : decode cX7_well 53 = .ok (.if_icmp .ge 58, 3) := by decide +kernel
theorem dX7_well_56 : decode cX7_well 56 = .ok (.aload_n 0, 1) := by decide +kernel
theorem dX7_well_57 : decode cX7_well 57 = .ok (.iload_n 1, 1) := by decide +kernel
theorem dX7_well_58 : decode cX7_well 58 = .ok (.iload 4, 2) := by decide +kernel
theorem dX7_well_60 : decode cX7_well 60 = .ok (.iload 5, 2) := by decide +kernel
theorem dX7_well_62 : decode cX7_well 62 = .ok (.invokevirtual 188, 3) := by decide +kernel
theorem dX7_well_65 : decode cX7_well 65 = .ok (.istore 6, 2) := by decide +kernel
theorem dX7_well_67 : decode cX7_well 67 = .ok (.iload 6, 2) := by decide +kernel
theorem dX7_well_69 : decode cX7_well 69 = .ok (.ifCond .eq 24, 3) := by decide +kernel
theorem dX7_well_72 : decode cX7_well 72 = .ok (.aload_n 0, 1) := by decide +kernel
theorem dX7_well_73 : decode cX7_well 73 = .ok (.iload_n 3, 1) := by decide +kernel
theorem dX7_well_74 : decode cX7_well 74 = .ok (.invokevirtual 179, 3) := by decide +kernel
theorem dX7_well_77 : decode cX7_well 77 = .ok (.aload_n 0, 1) := by decide +kernel
theorem dX7_well_78 : decode cX7_well 78 = .ok (.iload_n 2, 1) := by decide +kernel
theorem dX7_well_79 : decode cX7_well 79 = .ok (.invokevirtual 79, 3) := by decide +kernel
theorem dX7_well_82 : decode cX7_well 82 = .ok (.iload_n 1, 1) := by decide +kernel
theorem dX7_well_83 : decode cX7_well 83 = .ok (.if_icmp .ne 7, 3) := by decide +kernel
theorem dX7_well_86 : decode cX7_well 86 = .ok (.iconst 1, 1) := by decide +kernel
theorem dX7_well_87 : decode cX7_well 87 = .ok (.goto 4, 3) := by decide +kernel
theorem dX7_well_90 : decode cX7_well 90 = .ok (.iconst 0, 1) := by decide +kernel
theorem dX7_well_91 : decode cX7_well 91 = .ok (.istore 6, 2) := by decide +kernel
theorem dX7_well_93 : decode cX7_well 93 = .ok (.aload_n 0, 1) := by decide +kernel
theorem dX7_well_94 : decode cX7_well 94 = .ok (.invokevirtual 182, 3) := by decide +kernel
theorem dX7_well_97 : decode cX7_well 97 = .ok (.iload 6, 2) := by decide +kernel
theorem dX7_well_99 : decode cX7_well 99 = .ok (.ifCond .eq 6, 3) := by decide +kernel
theorem dX7_well_102 : decode cX7_well 102 = .ok (.iload 4, 2) := by decide +kernel
theorem dX7_well_104 : decode cX7_well 104 = .ok (.ireturn, 1) := by decide +kernel
theorem dX7_well_105 : decode cX7_well 105 = .ok (.iinc 5 1, 3) := by decide +kernel
theorem dX7_well_108 : decode cX7_well 108 = .ok (.goto (-63), 3) := by decide +kernel
theorem dX7_well_111 : decode cX7_well 111 = .ok (.iinc 4 1, 3) := by decide +kernel
theorem dX7_well_114 : decode cX7_well 114 = .ok (.goto (-78), 3) := by decide +kernel
theorem dX7_well_117 : decode cX7_well 117 = .ok (.bipush (-4), 2) := by decide +kernel
theorem dX7_well_119 : decode cX7_well 119 = .ok (.ireturn, 1) := by decide +kernel
def f_X7_well_j93 (x1 : Int32) (x2 : Int32) (x3 : Int32) (x4 : Int32) (x5 : Int32) (x6 : Int32) (S : gSt) : Option ((Int32 × Int32 × Int32 × Int32 × Int32 × gSt) ⊕ ((Int32 × gSt) ⊕ (Int32 × Int32 × Int32 × Int32 × gSt))) :=
(f_X7_backs S).bind fun S16 =>
(if x6 = 0 then
some (.inl (x1, x2, x3, x4, x5 + (1 : Int32), S16))
else
some (.inr (.inl (x4, S16))))
def f_X7_well_j91 (x1 : Int32) (x2 : Int32) (x3 : Int32) (x4 : Int32) (x5 : Int32) (t0 : Int32) (S : gSt) : Option ((Int32 × Int32 × Int32 × Int32 × Int32 × gSt) ⊕ ((Int32 × gSt) ⊕ (Int32 × Int32 × Int32 × Int32 × gSt))) :=
f_X7_well_j93 x1 x2 x3 x4 x5 t0 S
def f_X7_well_s45_b (x1 : Int32) (x2 : Int32) (x3 : Int32) (x4 : Int32) (x5 : Int32) (S : gSt) : Option ((Int32 × Int32 × Int32 × Int32 × Int32 × gSt) ⊕ ((Int32 × gSt) ⊕ (Int32 × Int32 × Int32 × Int32 × gSt))) :=
(if ((1 : Int32) <<< (((2 : Int32) * x4) &&& 31)) ≤ x5 then
some (.inr (.inr (x1, x2, x3, x4, S)))
else
gBind2 (f_X7_isGone x1 x4 x5 S) fun r22 S20 =>
(if r22 = 0 then
f_X7_well_j93 x1 x2 x3 x4 x5 r22 S20
else
(f_X7_goesOn x3 S20).bind fun S24 =>
gBind2 (f_X7_holder x2 S24) fun r28 S26 =>
(if r28 = x1 then
f_X7_well_j91 x1 x2 x3 x4 x5 (1 : Int32) S26
else
f_X7_well_j91 x1 x2 x3 x4 x5 (0 : Int32) S26)))
def f_X7_well_s45 : (Int32 × Int32 × Int32 × Int32 × Int32 × gSt) → Option ((Int32 × Int32 × Int32 × Int32 × Int32 × gSt) ⊕ ((Int32 × gSt) ⊕ (Int32 × Int32 × Int32 × Int32 × gSt))) := fun t => f_X7_well_s45_b t.1 t.2.1 t.2.2.1 t.2.2.2.1 t.2.2.2.2.1 t.2.2.2.2.2
def f_X7_well_s36_b (x1 : Int32) (x2 : Int32) (x3 : Int32) (x4 : Int32) (S : gSt) : Option ((Int32 × Int32 × Int32 × Int32 × gSt) ⊕ ((Int32 × gSt) ⊕ (gSt))) :=
(if (5 : Int32) ≤ x4 then
some (.inr (.inr (S)))
else
(gLoop (f_X7_well_s45) gFuel (x1, x2, x3, x4, (0 : Int32), S)).bind fun q30 => match q30 with
| .inl (v30, T30) => some (.inr (.inl (v30, T30)))
| .inr (y1_30, y2_30, y3_30, y4_30, S30) =>
some (.inl (y1_30, y2_30, y3_30, y4_30 + (1 : Int32), S30)))
def f_X7_well_s36 : (Int32 × Int32 × Int32 × Int32 × gSt) → Option ((Int32 × Int32 × Int32 × Int32 × gSt) ⊕ ((Int32 × gSt) ⊕ (gSt))) := fun t => f_X7_well_s36_b t.1 t.2.1 t.2.2.1 t.2.2.2.1 t.2.2.2.2
def f_X7_well (p1 : Int32) (p2 : Int32) (p3 : Int32) (S : gSt) : Option (Int32 × gSt) :=
gBind2 (f_X7_isWalker p1 S) fun r3 S1 =>
(if r3 = 0 then
some ((-1 : Int32), S1)
else
gBind2 (f_X7_isCell p2 S1) fun r7 S5 =>
(if r7 = 0 then
some ((-1 : Int32), S5)
else
gBind2 (f_X7_in (p3.toInt64) (0 : Int64) (12 : Int64) S5) fun r11 S9 =>
(if r11 = 0 then
some ((-1 : Int32), S9)
else
(f_X7_asides S9).bind fun S13 =>
(gLoop (f_X7_well_s36) gFuel (p1, p2, p3, (0 : Int32), S13)).bind fun q31 => match q31 with
| .inl (v31, T31) => some (v31, T31)
| .inr S31 =>
some ((-4 : Int32), S31))))
set_option maxHeartbeats 4000000 in
set_option maxRecDepth 20000 in
theorem ok_X7_well {p1 : Int32} {p2 : Int32} {p3 : Int32} {S S0 : gSt} {r0 : Int32}  (h : f_X7_well p1 p2 p3 S = some (r0, S0)) : gCT yX7_well cX7_well 7 (some .int) 5 (fun w => [.ref (w.2.1 47), .int p1, .int p2, .int p3]) S (some (.int r0)) S0 := by
  refine gEnter (fun X => [some (.ref (gad X 47)), some (.int p1), some (.int p2), some (.int p3), none, none, none]) (by decide) (fun X => ⟨rfl, rfl⟩) (fun w => Nat.le_of_ble_eq_true rfl) (fun X hp => ?_)
  show AW X RX7 5 cX7_well 0 [some (.ref (gad X 47)), some (.int p1), some (.int p2), some (.int p3), none, none, none] [] S
  unfold f_X7_well at h
  refine a_aloadn (pc := 0) dX7_well_0 rfl rfl ?_
  refine a_iloadn (pc := 1) dX7_well_1 rfl rfl ?_
  obtain ⟨r3, S1, hc2, h⟩ := g_bind2 h
  refine a_invVi (pc := 2) (ok_X7_isWalker hc2) gyX7_isWalker vyX7_isWalker mlX7_82 sh_47 rfl (As := [.int p1]) rfl rfl (by decide) (st := []) rfl (Nat.le_of_ble_eq_true rfl) dX7_well_2 ?_
  refine a_if_eq (pc := 5) (tgt := 27) dX7_well_5 (by decide) (fun c4 => ?_) (fun c4 => ?_)
  · rw [if_pos c4] at h
    refine a_iconst (pc := 27) (v := (-1 : Int32)) dX7_well_27 (by decide) ?_
    obtain ⟨rfl, rfl⟩ := Prod.mk.inj (Option.some.inj h)
    exact a_iret hp dX7_well_28
  · rw [if_neg c4] at h
    refine a_iloadn (pc := 8) dX7_well_8 rfl rfl ?_
    obtain ⟨r7, S5, hc6, h⟩ := g_bind2 h
    refine a_invSi (pc := 9) (ok_X7_isCell hc6) gyX7_isCell syX7_isCell mlX7_65 (As := [.int p2]) rfl rfl (by decide) (st := []) rfl (Nat.le_of_ble_eq_true rfl) dX7_well_9 ?_
    refine a_if_eq (pc := 12) (tgt := 27) dX7_well_12 (by decide) (fun c8 => ?_) (fun c8 => ?_)
    · rw [if_pos c8] at h
      refine a_iconst (pc := 27) (v := (-1 : Int32)) dX7_well_27 (by decide) ?_
      obtain ⟨rfl, rfl⟩ := Prod.mk.inj (Option.some.inj h)
      exact a_iret hp dX7_well_28
    · rw [if_neg c8] at h
      refine a_iloadn (pc := 15) dX7_well_15 rfl rfl ?_
      refine a_i2l (pc := 16) dX7_well_16 ?_
      refine a_lconst (pc := 17) (v := (0 : Int64)) dX7_well_17 (by decide) ?_
      refine a_ldc2 (pc := 18) kX7_102 dX7_well_18 ?_
      obtain ⟨r11, S9, hc10, h⟩ := g_bind2 h
      refine a_invSi (pc := 21) (ok_X7_in hc10) gyX7_in syX7_in mlX7_51 (As := [.long (p3.toInt64), .long (0 : Int64), .long (12 : Int64)]) rfl rfl (by decide) (st := []) rfl (Nat.le_of_ble_eq_true rfl) dX7_well_21 ?_
      refine a_if_ne (pc := 24) (tgt := 29) dX7_well_24 (by decide) (fun c12 => ?_) (fun c12 => ?_)
      · rw [if_neg c12] at h
        refine a_aloadn (pc := 29) dX7_well_29 rfl rfl ?_
        obtain ⟨S13, hc14, h⟩ := g_bind h
        refine a_invVv (pc := 30) (ok_X7_asides hc14) gyX7_asides vyX7_asides mlX7_176 sh_47 rfl (As := []) rfl rfl (by decide) (st := []) rfl (Nat.le_of_ble_eq_true rfl) dX7_well_30 ?_
        refine a_iconst (pc := 33) (v := (0 : Int32)) dX7_well_33 (by decide) ?_
        refine a_istore (pc := 34) dX7_well_34 (Nat.le_of_ble_eq_true rfl) rfl (L' := [some (.ref (gad X 47)), some (.int p1), some (.int p2), some (.int p3), some (.int (0 : Int32)), none, none]) rfl ?_
        obtain ⟨R31, hR31, h⟩ := g_bind h
        have E36 : ∀  (S31 : gSt), (some ((-4 : Int32), S31)) = some (r0, S0) → AW X RX7 5 cX7_well 117 [none, none, none, none, none, none, none] [] S31 := by
          intro S31 h
          refine a_bipush (pc := 117) (v := (-4 : Int32)) dX7_well_117 (by decide) ?_
          obtain ⟨rfl, rfl⟩ := Prod.mk.inj (Option.some.inj h)
          exact a_iret hp dX7_well_119
        have lp : ∀ (n : Nat) (x1 : Int32) (x2 : Int32) (x3 : Int32) (x4 : Int32) (S : gSt), gLoop (f_X7_well_s36) n (x1, x2, x3, x4, S) = some R31 → AW X RX7 5 cX7_well 36 [some (.ref (gad X 47)), some (.int x1), some (.int x2), some (.int x3), some (.int x4), none, none] [] S := by
          intro n
          induction n with
          | zero => intro x1 x2 x3 x4 S hR; cases hR
          | succ n ih =>
            intro x1 x2 x3 x4 S hR
            obtain ⟨q, hs, hR⟩ := g_bind hR
            have hs : f_X7_well_s36_b x1 x2 x3 x4 S = some q := hs
            unfold f_X7_well_s36_b at hs
            refine a_iload (pc := 36) dX7_well_36 rfl ?_
            refine a_iconst (pc := 38) (v := (5 : Int32)) dX7_well_38 (by decide) ?_
            refine a_icmp_ge (pc := 39) (tgt := 117) dX7_well_39 (by decide) (fun c15 => ?_) (fun c15 => ?_)
            · rw [if_pos c15] at hs
              obtain rfl := Option.some.inj hs
              obtain rfl := Option.some.inj hR
              refine a_mask [false, false, false, false, false, true, true] (L' := [none, none, none, none, none, none, none]) rfl ?_
              exact E36  _ h
            · rw [if_neg c15] at hs
              refine a_iconst (pc := 42) (v := (0 : Int32)) dX7_well_42 (by decide) ?_
              refine a_istore (pc := 43) dX7_well_43 (Nat.le_of_ble_eq_true rfl) rfl (L' := [some (.ref (gad X 47)), some (.int x1), some (.int x2), some (.int x3), some (.int x4), some (.int (0 : Int32)), none]) rfl ?_
              obtain ⟨R30, hR30, hs⟩ := g_bind hs
              have E45 : ∀ (y1_30 : Int32) (y2_30 : Int32) (y3_30 : Int32) (y4_30 : Int32) (S30 : gSt), (some (.inl (y1_30, y2_30, y3_30, y4_30 + (1 : Int32), S30))) = some q → AW X RX7 5 cX7_well 111 [some (.ref (gad X 47)), some (.int y1_30), some (.int y2_30), some (.int y3_30), some (.int y4_30), none, none] [] S30 := by
                intro y1_30 y2_30 y3_30 y4_30 S30 hs
                refine a_iinc (pc := 111) dX7_well_111 rfl (v := y4_30 + (1 : Int32)) rfl (Nat.le_of_ble_eq_true rfl) rfl (L' := [some (.ref (gad X 47)), some (.int y1_30), some (.int y2_30), some (.int y3_30), some (.int (y4_30 + (1 : Int32))), none, none]) rfl ?_
                refine a_goto (pc := 114) (tgt := 36) dX7_well_114 (by decide) ?_
                obtain rfl := Option.some.inj hs
                exact ih _ _ _ _ _ hR
              have lp : ∀ (n : Nat) (x1 : Int32) (x2 : Int32) (x3 : Int32) (x4 : Int32) (x5 : Int32) (S : gSt), gLoop (f_X7_well_s45) n (x1, x2, x3, x4, x5, S) = some R30 → AW X RX7 5 cX7_well 45 [some (.ref (gad X 47)), some (.int x1), some (.int x2), some (.int x3), some (.int x4), some (.int x5), none] [] S := by
                intro n
                induction n with
                | zero => intro x1 x2 x3 x4 x5 S hR; cases hR
                | succ n ih =>
                  intro x1 x2 x3 x4 x5 S hR
                  obtain ⟨q, hs, hR⟩ := g_bind hR
                  have hs : f_X7_well_s45_b x1 x2 x3 x4 x5 S = some q := hs
                  unfold f_X7_well_s45_b at hs
                  have J93 : ∀ (x1 : Int32) (x2 : Int32) (x3 : Int32) (x4 : Int32) (x5 : Int32) (x6 : Int32) (S : gSt), f_X7_well_j93 x1 x2 x3 x4 x5 x6 S = some q → AW X RX7 5 cX7_well 93 [some (.ref (gad X 47)), some (.int x1), some (.int x2), some (.int x3), some (.int x4), some (.int x5), some (.int x6)] [] S := by
                    intro x1 x2 x3 x4 x5 x6 S hs
                    unfold f_X7_well_j93 at hs
                    refine a_aloadn (pc := 93) dX7_well_93 rfl rfl ?_
                    obtain ⟨S16, hc17, hs⟩ := g_bind hs
                    refine a_invVv (pc := 94) (ok_X7_backs hc17) gyX7_backs vyX7_backs mlX7_182 sh_47 rfl (As := []) rfl rfl (by decide) (st := []) rfl (Nat.le_of_ble_eq_true rfl) dX7_well_94 ?_
                    refine a_iload (pc := 97) dX7_well_97 rfl ?_
                    refine a_if_eq (pc := 99) (tgt := 105) dX7_well_99 (by decide) (fun c18 => ?_) (fun c18 => ?_)
                    · rw [if_pos c18] at hs
                      refine a_iinc (pc := 105) dX7_well_105 rfl (v := x5 + (1 : Int32)) rfl (Nat.le_of_ble_eq_true rfl) rfl (L' := [some (.ref (gad X 47)), some (.int x1), some (.int x2), some (.int x3), some (.int x4), some (.int (x5 + (1 : Int32))), some (.int x6)]) rfl ?_
                      refine a_goto (pc := 108) (tgt := 45) dX7_well_108 (by decide) ?_
                      obtain rfl := Option.some.inj hs
                      refine a_mask [true, true, true, true, true, true, false] (L' := [some (.ref (gad X 47)), some (.int x1), some (.int x2), some (.int x3), some (.int x4), some (.int (x5 + (1 : Int32))), none]) rfl ?_
                      exact ih _ _ _ _ _ _ hR
                    · rw [if_neg c18] at hs
                      refine a_iload (pc := 102) dX7_well_102 rfl ?_
                      obtain rfl := Option.some.inj hs
                      obtain rfl := Option.some.inj hR
                      obtain rfl := Option.some.inj hs
                      obtain rfl := Option.some.inj hR
                      obtain ⟨rfl, rfl⟩ := Prod.mk.inj (Option.some.inj h)
                      exact a_iret hp dX7_well_104
                  have J91 : ∀ (x1 : Int32) (x2 : Int32) (x3 : Int32) (x4 : Int32) (x5 : Int32) (t0 : Int32) (S : gSt), f_X7_well_j91 x1 x2 x3 x4 x5 t0 S = some q → AW X RX7 5 cX7_well 91 [some (.ref (gad X 47)), some (.int x1), some (.int x2), some (.int x3), some (.int x4), some (.int x5), none] [.int t0] S := by
                    intro x1 x2 x3 x4 x5 t0 S hs
                    unfold f_X7_well_j91 at hs
                    refine a_istore (pc := 91) dX7_well_91 (Nat.le_of_ble_eq_true rfl) rfl (L' := [some (.ref (gad X 47)), some (.int x1), some (.int x2), some (.int x3), some (.int x4), some (.int x5), some (.int t0)]) rfl ?_
                    exact J93 _ _ _ _ _ _ _ hs
                  refine a_iload (pc := 45) dX7_well_45 rfl ?_
                  refine a_iconst (pc := 47) (v := (1 : Int32)) dX7_well_47 (by decide) ?_
                  refine a_iconst (pc := 48) (v := (2 : Int32)) dX7_well_48 (by decide) ?_
                  refine a_iload (pc := 49) dX7_well_49 rfl ?_
                  refine a_imul (pc := 51) dX7_well_51 ?_
                  refine a_ishl (pc := 52) dX7_well_52 ?_
                  refine a_icmp_ge (pc := 53) (tgt := 111) dX7_well_53 (by decide) (fun c19 => ?_) (fun c19 => ?_)
                  · rw [if_pos c19] at hs
                    obtain rfl := Option.some.inj hs
                    obtain rfl := Option.some.inj hR
                    refine a_mask [true, true, true, true, true, false, true] (L' := [some (.ref (gad X 47)), some (.int x1), some (.int x2), some (.int x3), some (.int x4), none, none]) rfl ?_
                    exact E45 _ _ _ _ _ hs
                  · rw [if_neg c19] at hs
                    refine a_aloadn (pc := 56) dX7_well_56 rfl rfl ?_
                    refine a_iloadn (pc := 57) dX7_well_57 rfl rfl ?_
                    refine a_iload (pc := 58) dX7_well_58 rfl ?_
                    refine a_iload (pc := 60) dX7_well_60 rfl ?_
                    obtain ⟨r22, S20, hc21, hs⟩ := g_bind2 hs
                    refine a_invVi (pc := 62) (ok_X7_isGone hc21) gyX7_isGone vyX7_isGone mlX7_188 sh_47 rfl (As := [.int x1, .int x4, .int x5]) rfl rfl (by decide) (st := []) rfl (Nat.le_of_ble_eq_true rfl) dX7_well_62 ?_
                    refine a_istore (pc := 65) dX7_well_65 (Nat.le_of_ble_eq_true rfl) rfl (L' := [some (.ref (gad X 47)), some (.int x1), some (.int x2), some (.int x3), some (.int x4), some (.int x5), some (.int r22)]) rfl ?_
                    refine a_iload (pc := 67) dX7_well_67 rfl ?_
                    refine a_if_eq (pc := 69) (tgt := 93) dX7_well_69 (by decide) (fun c23 => ?_) (fun c23 => ?_)
                    · rw [if_pos c23] at hs
                      exact J93 _ _ _ _ _ _ _ hs
                    · rw [if_neg c23] at hs
                      refine a_aloadn (pc := 72) dX7_well_72 rfl rfl ?_
                      refine a_iloadn (pc := 73) dX7_well_73 rfl rfl ?_
                      obtain ⟨S24, hc25, hs⟩ := g_bind hs
                      refine a_invVv (pc := 74) (ok_X7_goesOn hc25) gyX7_goesOn vyX7_goesOn mlX7_179 sh_47 rfl (As := [.int x3]) rfl rfl (by decide) (st := []) rfl (Nat.le_of_ble_eq_true rfl) dX7_well_74 ?_
                      refine a_aloadn (pc := 77) dX7_well_77 rfl rfl ?_
                      refine a_iloadn (pc := 78) dX7_well_78 rfl rfl ?_
                      obtain ⟨r28, S26, hc27, hs⟩ := g_bind2 hs
                      refine a_invVi (pc := 79) (ok_X7_holder hc27) gyX7_holder vyX7_holder mlX7_79 sh_47 rfl (As := [.int x2]) rfl rfl (by decide) (st := []) rfl (Nat.le_of_ble_eq_true rfl) dX7_well_79 ?_
                      refine a_iloadn (pc := 82) dX7_well_82 rfl rfl ?_
                      refine a_icmp_ne (pc := 83) (tgt := 90) dX7_well_83 (by decide) (fun c29 => ?_) (fun c29 => ?_)
                      · rw [if_neg c29] at hs
                        refine a_iconst (pc := 90) (v := (0 : Int32)) dX7_well_90 (by decide) ?_
                        refine a_mask [true, true, true, true, true, true, false] (L' := [some (.ref (gad X 47)), some (.int x1), some (.int x2), some (.int x3), some (.int x4), some (.int x5), none]) rfl ?_
                        exact J91 _ _ _ _ _ _ _ hs
                      · rw [if_pos c29] at hs
                        refine a_iconst (pc := 86) (v := (1 : Int32)) dX7_well_86 (by decide) ?_
                        refine a_goto (pc := 87) (tgt := 91) dX7_well_87 (by decide) ?_
                        refine a_mask [true, true, true, true, true, true, false] (L' := [some (.ref (gad X 47)), some (.int x1), some (.int x2), some (.int x3), some (.int x4), some (.int x5), none]) rfl ?_
                        exact J91 _ _ _ _ _ _ _ hs
              exact lp _ _ _ _ _ _ _ hR30
        exact lp _ _ _ _ _ _ hR31
      · rw [if_pos c12] at h
        refine a_iconst (pc := 27) (v := (-1 : Int32)) dX7_well_27 (by decide) ?_
        obtain ⟨rfl, rfl⟩ := Prod.mk.inj (Option.some.inj h)
        exact a_iret hp dX7_well_28
theorem dX7_crabs_0 : decode cX7_crabs 0 = .ok (.aload_n 0, 1) := by decide +kernel
theorem dX7_crabs_1 : decode cX7_crabs 1 = .ok (.iload_n 1, 1) := by decide +kernel
theorem dX7_crabs_2 : decode cX7_crabs 2 = .ok (.invokevirtual 82, 3) := by decide +kernel
theorem dX7_crabs_5 : decode cX7_crabs 5 = .ok (.ifCond .eq 35, 3) := by decide +kernel
theorem dX7_crabs_8 : decode cX7_crabs 8 = .ok (.iload_n 2, 1) := by decide +kernel
theorem dX7_crabs_9 : decode cX7_crabs 9 = .ok (.invokestatic 65, 3) := by decide +kernel
theorem dX7_crabs_12 : decode cX7_crabs 12 = .ok (.ifCond .eq 28, 3) := by decide +kernel
theorem dX7_crabs_15 : decode cX7_crabs 15 = .ok (.iload_n 3, 1) := by decide +kernel
theorem dX7_crabs_16 : decode cX7_crabs 16 = .ok (.i2l, 1) := by decide +kernel
theorem dX7_crabs_17 : decode cX7_crabs 17 = .ok (.lconst 0, 1) := by decide +kernel
theorem dX7_crabs_18 : decode cX7_crabs 18 = .ok (.ldc2_w 174, 3) := by decide +kernel
theorem dX7_crabs_21 : decode cX7_crabs 21 = .ok (.invokestatic 51, 3) := by decide +kernel
theorem dX7_crabs_24 : decode cX7_crabs 24 = .ok (.ifCond .eq 16, 3) := by decide +kernel
theorem dX7_crabs_27 : decode cX7_crabs 27 = .ok (.iload 4, 2) := by decide +kernel
theorem dX7_crabs_29 : decode cX7_crabs 29 = .ok (.i2l, 1) := by decide +kernel
theorem dX7_crabs_30 : decode cX7_crabs 30 = .ok (.lconst 0, 1) := by decide +kernel
theorem dX7_crabs_31 : decode cX7_crabs 31 = .ok (.ldc2_w 192, 3) := by decide +kernel
theorem dX7_crabs_34 : decode cX7_crabs 34 = .ok (.invokestatic 51, 3) := by decide +kernel
theorem dX7_crabs_37 : decode cX7_crabs 37 = .ok (.ifCond .ne 5, 3) := by decide +kernel
theorem dX7_crabs_40 : decode cX7_crabs 40 = .ok (.iconst (-1), 1) := by decide +kernel
theorem dX7_crabs_41 : decode cX7_crabs 41 = .ok (.ireturn, 1) := by decide +kernel
theorem dX7_crabs_42 : decode cX7_crabs 42 = .ok (.aload_n 0, 1) := by decide +kernel
theorem dX7_crabs_43 : decode cX7_crabs 43 = .ok (.invokevirtual 176, 3) := by decide +kernel
theorem dX7_crabs_46 : decode cX7_crabs 46 = .ok (.aload_n 0, 1) := by decide +kernel
theorem dX7_crabs_47 : decode cX7_crabs 47 = .ok (.iload_n 3, 1) := by decide +kernel
theorem dX7_crabs_48 : decode cX7_crabs 48 = .ok (.invokevirtual 179, 3) := by decide +kernel
theorem dX7_crabs_51 : decode cX7_crabs 51 = .ok (.aload_n 0, 1) := by decide +kernel
theorem dX7_crabs_52 : decode cX7_crabs 52 = .ok (.getfield 7, 3) := by decide +kernel
theorem dX7_crabs_55 : decode cX7_crabs 55 = .ok (.bipush 32, 2) := by decide +kernel
theorem dX7_crabs_57 : decode cX7_crabs 57 = .ok (.bipush 64, 2) := by decide +kernel
theorem dX7_crabs_59 : decode cX7_crabs 59 = .ok (.iload_n 1, 1) := by decide +kernel
theorem dX7_crabs_60 : decode cX7_crabs 60 = .ok (.imul, 1) := by decide +kernel
theorem dX7_crabs_61 : decode cX7_crabs 61 = .ok (.iadd, 1) := by decide +kernel
theorem dX7_crabs_62 : decode cX7_crabs 62 = .ok (.iload_n 2, 1) := by decide +kernel
theorem dX7_crabs_63 : decode cX7_crabs 63 = .ok (.iadd, 1) := by decide +kernel
theorem dX7_crabs_64 : decode cX7_crabs 64 = .ok (.iaload, 1) := by decide +kernel
theorem dX7_crabs_65 : decode cX7_crabs 65 = .ok (.ifCond .le 7, 3) := by decide +kernel
theorem dX7_crabs_68 : decode cX7_crabs 68 = .ok (.iconst 1, 1) := by decide +kernel
theorem dX7_crabs_69 : decode cX7_crabs 69 = .ok (.goto 4, 3) := by decide +kernel
theorem dX7_crabs_72 : decode cX7_crabs 72 = .ok (.iconst 0, 1) := by decide +kernel
theorem dX7_crabs_73 : decode cX7_crabs 73 = .ok (.istore 5, 2) := by decide +kernel
theorem dX7_crabs_75 : decode cX7_crabs 75 = .ok (.aload_n 0, 1) := by decide +kernel
theorem dX7_crabs_76 : decode cX7_crabs 76 = .ok (.invokevirtual 182, 3) := by decide +kernel
theorem dX7_crabs_79 : decode cX7_crabs 79 = .ok (.iload 5, 2) := by decide +kernel
theorem dX7_crabs_81 : decode cX7_crabs 81 = .ok (.ifCond .eq 8, 3) := by decide +kernel
theorem dX7_crabs_84 : decode cX7_crabs 84 = .ok (.ldc 194, 2) := by decide +kernel
theorem dX7_crabs_86 : decode cX7_crabs 86 = .ok (.goto 4, 3) := by decide +kernel
theorem dX7_crabs_89 : decode cX7_crabs 89 = .ok (.iconst 0, 1) := by decide +kernel
theorem dX7_crabs_90 : decode cX7_crabs 90 = .ok (.istore 6, 2) := by decide +kernel
theorem dX7_crabs_92 : decode cX7_crabs 92 = .ok (.iconst 0, 1) := by decide +kernel
theorem dX7_crabs_93 : decode cX7_crabs 93 = .ok (.istore 7, 2) := by decide +kernel
theorem dX7_crabs_95 : decode cX7_crabs 95 = .ok (.iload 7, 2) := by decide +kernel
theorem dX7_crabs_97 : decode cX7_crabs 97 = .ok (.iload_n 3, 1) := by decide +kernel
theorem dX7_crabs_98 : decode cX7_crabs 98 = .ok (.if_icmp .ge 22, 3) := by decide +kernel
theorem dX7_crabs_101 : decode cX7_crabs 101 = .ok (.iload 6, 2) := by decide +kernel
theorem dX7_crabs_103 : decode cX7_crabs 103 = .ok (.bipush 100, 2) := by decide +kernel
theorem dX7_crabs_105 : decode cX7_crabs 105 = .ok (.iload 4, 2) := by decide +kernel
theorem dX7_crabs_107 : decode cX7_crabs 107 = .ok (.isub, 1) := by decide +kernel
theorem dX7_crabs_108 : decode cX7_crabs 108 = .ok (.imul, 1) := by decide +kernel
theorem dX7_crabs_109 : decode cX7_crabs 109 = .ok (.bipush 100, 2) := by decide +kernel
theorem dX7_crabs_111 : decode cX7_crabs 111 = .ok (.idiv, 1) := by decide +kernel
theorem dX7_crabs_112 : decode cX7_crabs 112 = .ok (.istore 6, 2) := by decide +kernel
theorem dX7_crabs_114 : decode cX7_crabs 114 = .ok (.iinc 7 1, 3) := by decide +kernel
theorem dX7_crabs_117 : decode cX7_crabs 117 = .ok (.goto (-22), 3) := by decide +kernel
theorem dX7_crabs_120 : decode cX7_crabs 120 = .ok (.iload 6, 2) := by decide +kernel
theorem dX7_crabs_122 : decode cX7_crabs 122 = .ok (.ireturn, 1) := by decide +kernel
def f_X7_crabs_s95_b (x3 : Int32) (x4 : Int32) (x6 : Int32) (x7 : Int32) (S : gSt) : Option ((Int32 × Int32 × Int32 × Int32 × gSt) ⊕ (Int32 × gSt)) :=
(if x3 ≤ x7 then
some (.inr (x6, S))
else
gLet ((x6 * ((100 : Int32) - x4)) / (100 : Int32)) fun v2 =>
some (.inl (x3, x4, v2, x7 + (1 : Int32), S)))
def f_X7_crabs_s95 : (Int32 × Int32 × Int32 × Int32 × gSt) → Option ((Int32 × Int32 × Int32 × Int32 × gSt) ⊕ (Int32 × gSt)) := fun t => f_X7_crabs_s95_b t.1 t.2.1 t.2.2.1 t.2.2.2.1 t.2.2.2.2
def f_X7_crabs_j90 (x3 : Int32) (x4 : Int32) (t0 : Int32) (S : gSt) : Option (Int32 × gSt) :=
(gLoop (f_X7_crabs_s95) gFuel (x3, x4, t0, (0 : Int32), S)).bind fun q3 => match q3 with
| (y6_3, S3) =>
some (y6_3, S3)
def f_X7_crabs_j73 (x3 : Int32) (x4 : Int32) (t0 : Int32) (S : gSt) : Option (Int32 × gSt) :=
(f_X7_backs S).bind fun S4 =>
(if t0 = 0 then
f_X7_crabs_j90 x3 x4 (0 : Int32) S4
else
f_X7_crabs_j90 x3 x4 (1000000 : Int32) S4)
def f_X7_crabs (p1 : Int32) (p2 : Int32) (p3 : Int32) (p4 : Int32) (S : gSt) : Option (Int32 × gSt) :=
gBind2 (f_X7_isWalker p1 S) fun r9 S7 =>
(if r9 = 0 then
some ((-1 : Int32), S7)
else
gBind2 (f_X7_isCell p2 S7) fun r13 S11 =>
(if r13 = 0 then
some ((-1 : Int32), S11)
else
gBind2 (f_X7_in (p3.toInt64) (0 : Int64) (48 : Int64) S11) fun r17 S15 =>
(if r17 = 0 then
some ((-1 : Int32), S15)
else
gBind2 (f_X7_in (p4.toInt64) (0 : Int64) (100 : Int64) S15) fun r21 S19 =>
(if r21 = 0 then
some ((-1 : Int32), S19)
else
(f_X7_asides S19).bind fun S23 =>
(f_X7_goesOn p3 S23).bind fun S25 =>
if gin (((32 : Int32) + ((64 : Int32) * p1)) + p2) 416 then
((if (S25.1 48 (((32 : Int32) + ((64 : Int32) * p1)) + p2).toNatClampNeg) ≤ 0 then
f_X7_crabs_j73 p3 p4 (0 : Int32) S25
else
f_X7_crabs_j73 p3 p4 (1 : Int32) S25)) else none))))
set_option maxHeartbeats 4000000 in
set_option maxRecDepth 20000 in
theorem ok_X7_crabs {p1 : Int32} {p2 : Int32} {p3 : Int32} {p4 : Int32} {S S0 : gSt} {r0 : Int32}  (h : f_X7_crabs p1 p2 p3 p4 S = some (r0, S0)) : gCT yX7_crabs cX7_crabs 8 (some .int) 2 (fun w => [.ref (w.2.1 47), .int p1, .int p2, .int p3, .int p4]) S (some (.int r0)) S0 := by
  refine gEnter (fun X => [some (.ref (gad X 47)), some (.int p1), some (.int p2), some (.int p3), some (.int p4), none, none, none]) (by decide) (fun X => ⟨rfl, rfl⟩) (fun w => Nat.le_of_ble_eq_true rfl) (fun X hp => ?_)
  show AW X RX7 2 cX7_crabs 0 [some (.ref (gad X 47)), some (.int p1), some (.int p2), some (.int p3), some (.int p4), none, none, none] [] S
  unfold f_X7_crabs at h
  have J90 : ∀ (x3 : Int32) (x4 : Int32) (t0 : Int32) (S : gSt), f_X7_crabs_j90 x3 x4 t0 S = some (r0, S0) → AW X RX7 2 cX7_crabs 90 [none, none, none, some (.int x3), some (.int x4), none, none, none] [.int t0] S := by
    intro x3 x4 t0 S h
    unfold f_X7_crabs_j90 at h
    refine a_istore (pc := 90) dX7_crabs_90 (Nat.le_of_ble_eq_true rfl) rfl (L' := [none, none, none, some (.int x3), some (.int x4), none, some (.int t0), none]) rfl ?_
    refine a_iconst (pc := 92) (v := (0 : Int32)) dX7_crabs_92 (by decide) ?_
    refine a_istore (pc := 93) dX7_crabs_93 (Nat.le_of_ble_eq_true rfl) rfl (L' := [none, none, none, some (.int x3), some (.int x4), none, some (.int t0), some (.int (0 : Int32))]) rfl ?_
    obtain ⟨R3, hR3, h⟩ := g_bind h
    have E95 : ∀ (y6_3 : Int32) (S3 : gSt), (some (y6_3, S3)) = some (r0, S0) → AW X RX7 2 cX7_crabs 120 [none, none, none, none, none, none, some (.int y6_3), none] [] S3 := by
      intro y6_3 S3 h
      refine a_iload (pc := 120) dX7_crabs_120 rfl ?_
      obtain ⟨rfl, rfl⟩ := Prod.mk.inj (Option.some.inj h)
      exact a_iret hp dX7_crabs_122
    have lp : ∀ (n : Nat) (x3 : Int32) (x4 : Int32) (x6 : Int32) (x7 : Int32) (S : gSt), gLoop (f_X7_crabs_s95) n (x3, x4, x6, x7, S) = some R3 → AW X RX7 2 cX7_crabs 95 [none, none, none, some (.int x3), some (.int x4), none, some (.int x6), some (.int x7)] [] S := by
      intro n
      induction n with
      | zero => intro x3 x4 x6 x7 S hR; cases hR
      | succ n ih =>
        intro x3 x4 x6 x7 S hR
        obtain ⟨q, hs, hR⟩ := g_bind hR
        have hs : f_X7_crabs_s95_b x3 x4 x6 x7 S = some q := hs
        unfold f_X7_crabs_s95_b at hs
        refine a_iload (pc := 95) dX7_crabs_95 rfl ?_
        refine a_iloadn (pc := 97) dX7_crabs_97 rfl rfl ?_
        refine a_icmp_ge (pc := 98) (tgt := 120) dX7_crabs_98 (by decide) (fun c1 => ?_) (fun c1 => ?_)
        · rw [if_pos c1] at hs
          obtain rfl := Option.some.inj hs
          obtain rfl := Option.some.inj hR
          refine a_mask [true, true, true, false, false, true, true, false] (L' := [none, none, none, none, none, none, some (.int x6), none]) rfl ?_
          exact E95 _ _ h
        · rw [if_neg c1] at hs
          refine a_iload (pc := 101) dX7_crabs_101 rfl ?_
          refine a_bipush (pc := 103) (v := (100 : Int32)) dX7_crabs_103 (by decide) ?_
          refine a_iload (pc := 105) dX7_crabs_105 rfl ?_
          refine a_isub (pc := 107) dX7_crabs_107 ?_
          refine a_imul (pc := 108) dX7_crabs_108 ?_
          refine a_bipush (pc := 109) (v := (100 : Int32)) dX7_crabs_109 (by decide) ?_
          refine a_idiv (pc := 111) dX7_crabs_111 (by decide) ?_
          obtain ⟨v2, ev2, hs⟩ := g_let hs
          refine a_nmI ev2 ?_
          refine a_istore (pc := 112) dX7_crabs_112 (Nat.le_of_ble_eq_true rfl) rfl (L' := [none, none, none, some (.int x3), some (.int x4), none, some (.int v2), some (.int x7)]) rfl ?_
          refine a_iinc (pc := 114) dX7_crabs_114 rfl (v := x7 + (1 : Int32)) rfl (Nat.le_of_ble_eq_true rfl) rfl (L' := [none, none, none, some (.int x3), some (.int x4), none, some (.int v2), some (.int (x7 + (1 : Int32)))]) rfl ?_
          refine a_goto (pc := 117) (tgt := 95) dX7_crabs_117 (by decide) ?_
          obtain rfl := Option.some.inj hs
          exact ih _ _ _ _ _ hR
    exact lp _ _ _ _ _ _ hR3
  have J73 : ∀ (x3 : Int32) (x4 : Int32) (t0 : Int32) (S : gSt), f_X7_crabs_j73 x3 x4 t0 S = some (r0, S0) → AW X RX7 2 cX7_crabs 73 [some (.ref (gad X 47)), none, none, some (.int x3), some (.int x4), none, none, none] [.int t0] S := by
    intro x3 x4 t0 S h
    unfold f_X7_crabs_j73 at h
    refine a_istore (pc := 73) dX7_crabs_73 (Nat.le_of_ble_eq_true rfl) rfl (L' := [some (.ref (gad X 47)), none, none, some (.int x3), some (.int x4), some (.int t0), none, none]) rfl ?_
    refine a_aloadn (pc := 75) dX7_crabs_75 rfl rfl ?_
    obtain ⟨S4, hc5, h⟩ := g_bind h
    refine a_invVv (pc := 76) (ok_X7_backs hc5) gyX7_backs vyX7_backs mlX7_182 sh_47 rfl (As := []) rfl rfl (by decide) (st := []) rfl (Nat.le_of_ble_eq_true rfl) dX7_crabs_76 ?_
    refine a_iload (pc := 79) dX7_crabs_79 rfl ?_
    refine a_if_eq (pc := 81) (tgt := 89) dX7_crabs_81 (by decide) (fun c6 => ?_) (fun c6 => ?_)
    · rw [if_pos c6] at h
      refine a_iconst (pc := 89) (v := (0 : Int32)) dX7_crabs_89 (by decide) ?_
      refine a_mask [false, true, true, true, true, false, true, true] (L' := [none, none, none, some (.int x3), some (.int x4), none, none, none]) rfl ?_
      exact J90 _ _ _ _ h
    · rw [if_neg c6] at h
      refine a_ldc (pc := 84) kX7_194 dX7_crabs_84 ?_
      refine a_goto (pc := 86) (tgt := 90) dX7_crabs_86 (by decide) ?_
      refine a_mask [false, true, true, true, true, false, true, true] (L' := [none, none, none, some (.int x3), some (.int x4), none, none, none]) rfl ?_
      exact J90 _ _ _ _ h
  refine a_aloadn (pc := 0) dX7_crabs_0 rfl rfl ?_
  refine a_iloadn (pc := 1) dX7_crabs_1 rfl rfl ?_
  obtain ⟨r9, S7, hc8, h⟩ := g_bind2 h
  refine a_invVi (pc := 2) (ok_X7_isWalker hc8) gyX7_isWalker vyX7_isWalker mlX7_82 sh_47 rfl (As := [.int p1]) rfl rfl (by decide) (st := []) rfl (Nat.le_of_ble_eq_true rfl) dX7_crabs_2 ?_
  refine a_if_eq (pc := 5) (tgt := 40) dX7_crabs_5 (by decide) (fun c10 => ?_) (fun c10 => ?_)
  · rw [if_pos c10] at h
    refine a_iconst (pc := 40) (v := (-1 : Int32)) dX7_crabs_40 (by decide) ?_
    obtain ⟨rfl, rfl⟩ := Prod.mk.inj (Option.some.inj h)
    exact a_iret hp dX7_crabs_41
  · rw [if_neg c10] at h
    refine a_iloadn (pc := 8) dX7_crabs_8 rfl rfl ?_
    obtain ⟨r13, S11, hc12, h⟩ := g_bind2 h
    refine a_invSi (pc := 9) (ok_X7_isCell hc12) gyX7_isCell syX7_isCell mlX7_65 (As := [.int p2]) rfl rfl (by decide) (st := []) rfl (Nat.le_of_ble_eq_true rfl) dX7_crabs_9 ?_
    refine a_if_eq (pc := 12) (tgt := 40) dX7_crabs_12 (by decide) (fun c14 => ?_) (fun c14 => ?_)
    · rw [if_pos c14] at h
      refine a_iconst (pc := 40) (v := (-1 : Int32)) dX7_crabs_40 (by decide) ?_
      obtain ⟨rfl, rfl⟩ := Prod.mk.inj (Option.some.inj h)
      exact a_iret hp dX7_crabs_41
    · rw [if_neg c14] at h
      refine a_iloadn (pc := 15) dX7_crabs_15 rfl rfl ?_
      refine a_i2l (pc := 16) dX7_crabs_16 ?_
      refine a_lconst (pc := 17) (v := (0 : Int64)) dX7_crabs_17 (by decide) ?_
      refine a_ldc2 (pc := 18) kX7_174 dX7_crabs_18 ?_
      obtain ⟨r17, S15, hc16, h⟩ := g_bind2 h
      refine a_invSi (pc := 21) (ok_X7_in hc16) gyX7_in syX7_in mlX7_51 (As := [.long (p3.toInt64), .long (0 : Int64), .long (48 : Int64)]) rfl rfl (by decide) (st := []) rfl (Nat.le_of_ble_eq_true rfl) dX7_crabs_21 ?_
      refine a_if_eq (pc := 24) (tgt := 40) dX7_crabs_24 (by decide) (fun c18 => ?_) (fun c18 => ?_)
      · rw [if_pos c18] at h
        refine a_iconst (pc := 40) (v := (-1 : Int32)) dX7_crabs_40 (by decide) ?_
        obtain ⟨rfl, rfl⟩ := Prod.mk.inj (Option.some.inj h)
        exact a_iret hp dX7_crabs_41
      · rw [if_neg c18] at h
        refine a_iload (pc := 27) dX7_crabs_27 rfl ?_
        refine a_i2l (pc := 29) dX7_crabs_29 ?_
        refine a_lconst (pc := 30) (v := (0 : Int64)) dX7_crabs_30 (by decide) ?_
        refine a_ldc2 (pc := 31) kX7_192 dX7_crabs_31 ?_
        obtain ⟨r21, S19, hc20, h⟩ := g_bind2 h
        refine a_invSi (pc := 34) (ok_X7_in hc20) gyX7_in syX7_in mlX7_51 (As := [.long (p4.toInt64), .long (0 : Int64), .long (100 : Int64)]) rfl rfl (by decide) (st := []) rfl (Nat.le_of_ble_eq_true rfl) dX7_crabs_34 ?_
        refine a_if_ne (pc := 37) (tgt := 42) dX7_crabs_37 (by decide) (fun c22 => ?_) (fun c22 => ?_)
        · rw [if_neg c22] at h
          refine a_aloadn (pc := 42) dX7_crabs_42 rfl rfl ?_
          obtain ⟨S23, hc24, h⟩ := g_bind h
          refine a_invVv (pc := 43) (ok_X7_asides hc24) gyX7_asides vyX7_asides mlX7_176 sh_47 rfl (As := []) rfl rfl (by decide) (st := []) rfl (Nat.le_of_ble_eq_true rfl) dX7_crabs_43 ?_
          refine a_aloadn (pc := 46) dX7_crabs_46 rfl rfl ?_
          refine a_iloadn (pc := 47) dX7_crabs_47 rfl rfl ?_
          obtain ⟨S25, hc26, h⟩ := g_bind h
          refine a_invVv (pc := 48) (ok_X7_goesOn hc26) gyX7_goesOn vyX7_goesOn mlX7_179 sh_47 rfl (As := [.int p3]) rfl rfl (by decide) (st := []) rfl (Nat.le_of_ble_eq_true rfl) dX7_crabs_48 ?_
          refine a_aloadn (pc := 51) dX7_crabs_51 rfl rfl ?_
          refine a_getA (pc := 52) flX7_7 sh_47 rfl dX7_crabs_52 ?_
          refine a_bipush (pc := 55) (v := (32 : Int32)) dX7_crabs_55 (by decide) ?_
          refine a_bipush (pc := 57) (v := (64 : Int32)) dX7_crabs_57 (by decide) ?_
          refine a_iloadn (pc := 59) dX7_crabs_59 rfl rfl ?_
          refine a_imul (pc := 60) dX7_crabs_60 ?_
          refine a_iadd (pc := 61) dX7_crabs_61 ?_
          refine a_iloadn (pc := 62) dX7_crabs_62 rfl rfl ?_
          refine a_iadd (pc := 63) dX7_crabs_63 ?_
          obtain ⟨hi27, h⟩ := g_if h
          refine a_iald (pc := 64) sh_48 hi27 dX7_crabs_64 ?_
          refine a_if_le (pc := 65) (tgt := 72) dX7_crabs_65 (by decide) (fun c28 => ?_) (fun c28 => ?_)
          · rw [if_pos c28] at h
            refine a_iconst (pc := 72) (v := (0 : Int32)) dX7_crabs_72 (by decide) ?_
            refine a_mask [true, false, false, true, true, true, true, true] (L' := [some (.ref (gad X 47)), none, none, some (.int p3), some (.int p4), none, none, none]) rfl ?_
            exact J73 _ _ _ _ h
          · rw [if_neg c28] at h
            refine a_iconst (pc := 68) (v := (1 : Int32)) dX7_crabs_68 (by decide) ?_
            refine a_goto (pc := 69) (tgt := 73) dX7_crabs_69 (by decide) ?_
            refine a_mask [true, false, false, true, true, true, true, true] (L' := [some (.ref (gad X 47)), none, none, some (.int p3), some (.int p4), none, none, none]) rfl ?_
            exact J73 _ _ _ _ h
        · rw [if_pos c22] at h
          refine a_iconst (pc := 40) (v := (-1 : Int32)) dX7_crabs_40 (by decide) ?_
          obtain ⟨rfl, rfl⟩ := Prod.mk.inj (Option.some.inj h)
          exact a_iret hp dX7_crabs_41
