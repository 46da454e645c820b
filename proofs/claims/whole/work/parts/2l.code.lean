theorem dX7_shoes_0 : decode cX7_shoes 0 = .ok (.iload_n 1, 1) := by decide +kernel
theorem dX7_shoes_1 : decode cX7_shoes 1 = .ok (.invokestatic 201, 3) := by decide +kernel
theorem dX7_shoes_4 : decode cX7_shoes 4 = .ok (.ifCond .eq 23, 3) := by decide +kernel
theorem dX7_shoes_7 : decode cX7_shoes 7 = .ok (.iload_n 2, 1) := by decide +kernel
theorem dX7_shoes_8 : decode cX7_shoes 8 = .ok (.invokestatic 204, 3) := by decide +kernel
theorem dX7_shoes_11 : decode cX7_shoes 11 = .ok (.ifCond .eq 16, 3) := by decide +kernel
theorem dX7_shoes_14 : decode cX7_shoes 14 = .ok (.iload 4, 2) := by decide +kernel
theorem dX7_shoes_16 : decode cX7_shoes 16 = .ok (.i2l, 1) := by decide +kernel
theorem dX7_shoes_17 : decode cX7_shoes 17 = .ok (.lconst 1, 1) := by decide +kernel
theorem dX7_shoes_18 : decode cX7_shoes 18 = .ok (.ldc2_w 96, 3) := by decide +kernel
theorem dX7_shoes_21 : decode cX7_shoes 21 = .ok (.invokestatic 51, 3) := by decide +kernel
theorem dX7_shoes_24 : decode cX7_shoes 24 = .ok (.ifCond .ne 5, 3) := by decide +kernel
theorem dX7_shoes_27 : decode cX7_shoes 27 = .ok (.iconst (-1), 1) := by decide +kernel
theorem dX7_shoes_28 : decode cX7_shoes 28 = .ok (.ireturn, 1) := by decide +kernel
theorem dX7_shoes_29 : decode cX7_shoes 29 = .ok (.aload_n 0, 1) := by decide +kernel
theorem dX7_shoes_30 : decode cX7_shoes 30 = .ok (.iload_n 1, 1) := by decide +kernel
theorem dX7_shoes_31 : decode cX7_shoes 31 = .ok (.iload_n 2, 1) := by decide +kernel
theorem dX7_shoes_32 : decode cX7_shoes 32 = .ok (.iload_n 3, 1) := by decide +kernel
theorem dX7_shoes_33 : decode cX7_shoes 33 = .ok (.iconst 2, 1) := by decide +kernel
theorem dX7_shoes_34 : decode cX7_shoes 34 = .ok (.iload 4, 2) := by decide +kernel
theorem dX7_shoes_36 : decode cX7_shoes 36 = .ok (.imul, 1) := by decide +kernel
theorem dX7_shoes_37 : decode cX7_shoes 37 = .ok (.invokevirtual 207, 3) := by decide +kernel
theorem dX7_shoes_40 : decode cX7_shoes 40 = .ok (.istore 5, 2) := by decide +kernel
theorem dX7_shoes_42 : decode cX7_shoes 42 = .ok (.iload 5, 2) := by decide +kernel
theorem dX7_shoes_44 : decode cX7_shoes 44 = .ok (.ifCond .ge 6, 3) := by decide +kernel
theorem dX7_shoes_47 : decode cX7_shoes 47 = .ok (.iload 5, 2) := by decide +kernel
theorem dX7_shoes_49 : decode cX7_shoes 49 = .ok (.ireturn, 1) := by decide +kernel
theorem dX7_shoes_50 : decode cX7_shoes 50 = .ok (.bipush 24, 2) := by decide +kernel
theorem dX7_shoes_52 : decode cX7_shoes 52 = .ok (.iload_n 1, 1) := by decide +kernel
theorem dX7_shoes_53 : decode cX7_shoes 53 = .ok (.imul, 1) := by decide +kernel
theorem dX7_shoes_54 : decode cX7_shoes 54 = .ok (.iload_n 3, 1) := by decide +kernel
theorem dX7_shoes_55 : decode cX7_shoes 55 = .ok (.iadd, 1) := by decide +kernel
theorem dX7_shoes_56 : decode cX7_shoes 56 = .ok (.istore 6, 2) := by decide +kernel
theorem dX7_shoes_58 : decode cX7_shoes 58 = .ok (.iconst 0, 1) := by decide +kernel
theorem dX7_shoes_59 : decode cX7_shoes 59 = .ok (.istore 7, 2) := by decide +kernel
theorem dX7_shoes_61 : decode cX7_shoes 61 = .ok (.iload 7, 2) := by decide +kernel
theorem dX7_shoes_63 : decode cX7_shoes 63 = .ok (.iload 4, 2) := by decide +kernel
theorem dX7_shoes_65 : decode cX7_shoes 65 = .ok (.if_icmp .ge 58, 3) := by decide +kernel
theorem dX7_shoes_68 : decode cX7_shoes 68 = .ok (.aload_n 0, 1) := by decide +kernel
theorem dX7_shoes_69 : decode cX7_shoes 69 = .ok (.getfield 44, 3) := by decide +kernel
theorem dX7_shoes_72 : decode cX7_shoes 72 = .ok (.iload 6, 2) := by decide +kernel
theorem dX7_shoes_74 : decode cX7_shoes 74 = .ok (.iconst 2, 1) := by decide +kernel
theorem dX7_shoes_75 : decode cX7_shoes 75 = .ok (.iload 7, 2) := by decide +kernel
theorem dX7_shoes_77 : decode cX7_shoes 77 = .ok (.imul, 1) := by decide +kernel
theorem dX7_shoes_78 : decode cX7_shoes 78 = .ok (.iadd, 1) := by decide +kernel
theorem dX7_shoes_79 : decode cX7_shoes 79 = .ok (.laload, 1) := by decide +kernel
theorem dX7_shoes_80 : decode cX7_shoes 80 = .ok (.lconst 0, 1) := by decide +kernel
theorem dX7_shoes_81 : decode cX7_shoes 81 = .ok (.ldc2_w 55, 3) := by decide +kernel
theorem dX7_shoes_84 : decode cX7_shoes 84 = .ok (.invokestatic 51, 3) := by decide +kernel
theorem dX7_shoes_87 : decode cX7_shoes 87 = .ok (.ifCond .eq 27, 3) := by decide +kernel
theorem dX7_shoes_90 : decode cX7_shoes 90 = .ok (.aload_n 0, 1) := by decide +kernel
theorem dX7_shoes_91 : decode cX7_shoes 91 = .ok (.getfield 44, 3) := by decide +kernel
theorem dX7_shoes_94 : decode cX7_shoes 94 = .ok (.iload 6, 2) := by decide +kernel
theorem dX7_shoes_96 : decode cX7_shoes 96 = .ok (.iconst 2, 1) := by decide +kernel
theorem dX7_shoes_97 : decode cX7_shoes 97 = .ok (.iload 7, 2) := by decide +kernel
theorem dX7_shoes_99 : decode cX7_shoes 99 = .ok (.imul, 1) := by decide +kernel
theorem dX7_shoes_100 : decode cX7_shoes 100 = .ok (.iadd, 1) := by decide +kernel
theorem dX7_shoes_101 : decode cX7_shoes 101 = .ok (.iconst 1, 1) := by decide +kernel
theorem dX7_shoes_102 : decode cX7_shoes 102 = .ok (.iadd, 1) := by decide +kernel
theorem dX7_shoes_103 : decode cX7_shoes 103 = .ok (.laload, 1) := by decide +kernel
theorem dX7_shoes_104 : decode cX7_shoes 104 = .ok (.lconst 0, 1) := by decide +kernel
theorem dX7_shoes_105 : decode cX7_shoes 105 = .ok (.ldc2_w 213, 3) := by decide +kernel
theorem dX7_shoes_108 : decode cX7_shoes 108 = .ok (.invokestatic 51, 3) := by decide +kernel
theorem dX7_shoes_111 : decode cX7_shoes 111 = .ok (.ifCond .ne 6, 3) := by decide +kernel
theorem dX7_shoes_114 : decode cX7_shoes 114 = .ok (.bipush (-2), 2) := by decide +kernel
theorem dX7_shoes_116 : decode cX7_shoes 116 = .ok (.ireturn, 1) := by decide +kernel
theorem dX7_shoes_117 : decode cX7_shoes 117 = .ok (.iinc 7 1, 3) := by decide +kernel
theorem dX7_shoes_120 : decode cX7_shoes 120 = .ok (.goto (-59), 3) := by decide +kernel
theorem dX7_shoes_123 : decode cX7_shoes 123 = .ok (.iconst 0, 1) := by decide +kernel
theorem dX7_shoes_124 : decode cX7_shoes 124 = .ok (.istore 7, 2) := by decide +kernel
theorem dX7_shoes_126 : decode cX7_shoes 126 = .ok (.iconst 0, 1) := by decide +kernel
theorem dX7_shoes_127 : decode cX7_shoes 127 = .ok (.istore 8, 2) := by decide +kernel
theorem dX7_shoes_129 : decode cX7_shoes 129 = .ok (.iload 8, 2) := by decide +kernel
theorem dX7_shoes_131 : decode cX7_shoes 131 = .ok (.aload_n 0, 1) := by decide +kernel
theorem dX7_shoes_132 : decode cX7_shoes 132 = .ok (.getfield 7, 3) := by decide +kernel
theorem dX7_shoes_135 : decode cX7_shoes 135 = .ok (.iconst 5, 1) := by decide +kernel
theorem dX7_shoes_136 : decode cX7_shoes 136 = .ok (.iaload, 1) := by decide +kernel
theorem dX7_shoes_137 : decode cX7_shoes 137 = .ok (.if_icmp .ge 104, 3) := by decide +kernel
theorem dX7_shoes_140 : decode cX7_shoes 140 = .ok (.iconst 1, 1) := by decide +kernel
theorem dX7_shoes_141 : decode cX7_shoes 141 = .ok (.istore 9, 2) := by decide +kernel
theorem dX7_shoes_143 : decode cX7_shoes 143 = .ok (.iconst 0, 1) := by decide +kernel
theorem dX7_shoes_144 : decode cX7_shoes 144 = .ok (.istore 10, 2) := by decide +kernel
theorem dX7_shoes_146 : decode cX7_shoes 146 = .ok (.iload 10, 2) := by decide +kernel
theorem dX7_shoes_148 : decode cX7_shoes 148 = .ok (.iload 4, 2) := by decide +kernel
theorem dX7_shoes_150 : decode cX7_shoes 150 = .ok (.if_icmp .ge 67, 3) := by decide +kernel
theorem dX7_shoes_153 : decode cX7_shoes 153 = .ok (.iload 9, 2) := by decide +kernel
theorem dX7_shoes_155 : decode cX7_shoes 155 = .ok (.ifCond .eq 53, 3) := by decide +kernel
theorem dX7_shoes_158 : decode cX7_shoes 158 = .ok (.aload_n 0, 1) := by decide +kernel
theorem dX7_shoes_159 : decode cX7_shoes 159 = .ok (.getfield 7, 3) := by decide +kernel
theorem dX7_shoes_162 : decode cX7_shoes 162 = .ok (.bipush 32, 2) := by decide +kernel
theorem dX7_shoes_164 : decode cX7_shoes 164 = .ok (.bipush 64, 2) := by decide +kernel
theorem dX7_shoes_166 : decode cX7_shoes 166 = .ok (.iload 8, 2) := by decide +kernel
theorem dX7_shoes_168 : decode cX7_shoes 168 = .ok (.imul, 1) := by decide +kernel
theorem dX7_shoes_169 : decode cX7_shoes 169 = .ok (.iadd, 1) := by decide +kernel
theorem dX7_shoes_170 : decode cX7_shoes 170 = .ok (.aload_n 0, 1) := by decide +kernel
theorem dX7_shoes_171 : decode cX7_shoes 171 = .ok (.getfield 44, 3) := by decide +kernel
theorem dX7_shoes_174 : decode cX7_shoes 174 = .ok (.iload 6, 2) := by decide +kernel
theorem dX7_shoes_176 : decode cX7_shoes 176 = .ok (.iconst 2, 1) := by decide +kernel
theorem dX7_shoes_177 : decode cX7_shoes 177 = .ok (.iload 10, 2) := by decide +kernel
theorem dX7_shoes_179 : decode cX7_shoes 179 = .ok (.imul, 1) := by decide +kernel
theorem dX7_shoes_180 : decode cX7_shoes 180 = .ok (.iadd, 1) := by decide +kernel
theorem dX7_shoes_181 : decode cX7_shoes 181 = .ok (.laload, 1) := by decide +kernel
theorem dX7_shoes_182 : decode cX7_shoes 182 = .ok (.l2i, 1) := by decide +kernel
theorem dX7_shoes_183 : decode cX7_shoes 183 = .ok (.iadd, 1) := by decide +kernel
theorem dX7_shoes_184 : decode cX7_shoes 184 = .ok (.iaload, 1) := by decide +kernel
theorem dX7_shoes_185 : decode cX7_shoes 185 = .ok (.i2l, 1) := by decide +kernel
theorem dX7_shoes_186 : decode cX7_shoes 186 = .ok (.aload_n 0, 1) := by decide +kernel
theorem dX7_shoes_187 : decode cX7_shoes 187 = .ok (.getfield 44, 3) := by decide +kernel
theorem dX7_shoes_190 : decode cX7_shoes 190 = .ok (.iload 6, 2) := by decide +kernel
theorem dX7_shoes_192 : decode cX7_shoes 192 = .ok (.iconst 2, 1) := by decide +kernel
theorem dX7_shoes_193 : decode cX7_shoes 193 = .ok (.iload 10, 2) := by decide +kernel
theorem dX7_shoes_195 : decode cX7_shoes 195 = .ok (.imul, 1) := by decide +kernel
theorem dX7_shoes_196 : decode cX7_shoes 196 = .ok (.iadd, 1) := by decide +kernel
theorem dX7_shoes_197 : decode cX7_shoes 197 = .ok (.iconst 1, 1) := by decide +kernel
theorem dX7_shoes_198 : decode cX7_shoes 198 = .ok (.iadd, 1) := by decide +kernel
theorem dX7_shoes_199 : decode cX7_shoes 199 = .ok (.laload, 1) := by decide +kernel
theorem dX7_shoes_200 : decode cX7_shoes 200 = .ok (.lcmp, 1) := by decide +kernel
theorem dX7_shoes_201 : decode cX7_shoes 201 = .ok (.ifCond .ne 7, 3) := by decide +kernel
theorem dX7_shoes_204 : decode cX7_shoes 204 = .ok (.iconst 1, 1) := by decide +kernel
theorem dX7_shoes_205 : decode cX7_shoes 205 = .ok (.goto 4, 3) := by decide +kernel
theorem dX7_shoes_208 : decode cX7_shoes 208 = .ok (.iconst 0, 1) := by decide +kernel
theorem dX7_shoes_209 : decode cX7_shoes 209 = .ok (.istore 9, 2) := by decide +kernel
theorem dX7_shoes_211 : decode cX7_shoes 211 = .ok (.iinc 10 1, 3) := by decide +kernel
theorem dX7_shoes_214 : decode cX7_shoes 214 = .ok (.goto (-68), 3) := by decide +kernel
theorem dX7_shoes_217 : decode cX7_shoes 217 = .ok (.iload 7, 2) := by decide +kernel
theorem dX7_shoes_219 : decode cX7_shoes 219 = .ok (.iload 9, 2) := by decide +kernel
theorem dX7_shoes_221 : decode cX7_shoes 221 = .ok (.ifCond .eq 10, 3) := by decide +kernel
theorem dX7_shoes_224 : decode cX7_shoes 224 = .ok (.iconst 1, 1) := by decide +kernel
theorem dX7_shoes_225 : decode cX7_shoes 225 = .ok (.iload 8, 2) := by decide +kernel
theorem dX7_shoes_227 : decode cX7_shoes 227 = .ok (.ishl, 1) := by decide +kernel
theorem dX7_shoes_228 : decode cX7_shoes 228 = .ok (.goto 4, 3) := by decide +kernel
theorem dX7_shoes_231 : decode cX7_shoes 231 = .ok (.iconst 0, 1) := by decide +kernel
theorem dX7_shoes_232 : decode cX7_shoes 232 = .ok (.ior, 1) := by decide +kernel
theorem dX7_shoes_233 : decode cX7_shoes 233 = .ok (.istore 7, 2) := by decide +kernel
theorem dX7_shoes_235 : decode cX7_shoes 235 = .ok (.iinc 8 1, 3) := by decide +kernel
theorem dX7_shoes_238 : decode cX7_shoes 238 = .ok (.goto (-109), 3) := by decide +kernel
theorem dX7_shoes_241 : decode cX7_shoes 241 = .ok (.iload 7, 2) := by decide +kernel
theorem dX7_shoes_243 : decode cX7_shoes 243 = .ok (.ireturn, 1) := by decide +kernel
def f_X7_shoes_s61_b (x4 : Int32) (x6 : Int32) (x7 : Int32) (S : gSt) : Option ((Int32 × Int32 × Int32 × gSt) ⊕ ((Int32 × gSt) ⊕ (Int32 × Int32 × gSt))) :=
(if x4 ≤ x7 then
some (.inr (.inr (x4, x6, S)))
else
if gin (x6 + ((2 : Int32) * x7)) 96 then
(gBind2 (f_X7_in (S.2 59 (x6 + ((2 : Int32) * x7)).toNatClampNeg) (0 : Int64) (63 : Int64) S) fun r22 S20 =>
(if r22 = 0 then
some (.inr (.inl ((-2 : Int32), S20)))
else
if gin ((x6 + ((2 : Int32) * x7)) + (1 : Int32)) 96 then
(gBind2 (f_X7_in (S20.2 59 ((x6 + ((2 : Int32) * x7)) + (1 : Int32)).toNatClampNeg) (0 : Int64) (99 : Int64) S20) fun r27 S25 =>
(if r27 = 0 then
some (.inr (.inl ((-2 : Int32), S25)))
else
some (.inl (x4, x6, x7 + (1 : Int32), S25)))) else none)) else none)
def f_X7_shoes_s61 : (Int32 × Int32 × Int32 × gSt) → Option ((Int32 × Int32 × Int32 × gSt) ⊕ ((Int32 × gSt) ⊕ (Int32 × Int32 × gSt))) := fun t => f_X7_shoes_s61_b t.1 t.2.1 t.2.2.1 t.2.2.2
def f_X7_shoes_s146_b (x4 : Int32) (x6 : Int32) (x7 : Int32) (x8 : Int32) (x9 : Int32) (x10 : Int32) (S : gSt) : Option ((Int32 × Int32 × Int32 × Int32 × Int32 × Int32 × gSt) ⊕ (Int32 × Int32 × Int32 × Int32 × Int32 × gSt)) :=
(if x4 ≤ x10 then
some (.inr (x4, x6, x7, x8, x9, S))
else
(if x9 = 0 then
some (.inl (x4, x6, x7, x8, (0 : Int32), x10 + (1 : Int32), S))
else
if gin (x6 + ((2 : Int32) * x10)) 96 then
(if gin (((32 : Int32) + ((64 : Int32) * x8)) + ((S.2 59 (x6 + ((2 : Int32) * x10)).toNatClampNeg).toInt32)) 416 then
(if gin ((x6 + ((2 : Int32) * x10)) + (1 : Int32)) 96 then
((if (lg_cmp ((S.1 48 (((32 : Int32) + ((64 : Int32) * x8)) + ((S.2 59 (x6 + ((2 : Int32) * x10)).toNatClampNeg).toInt32)).toNatClampNeg).toInt64) (S.2 59 ((x6 + ((2 : Int32) * x10)) + (1 : Int32)).toNatClampNeg)) = 0 then
some (.inl (x4, x6, x7, x8, (1 : Int32), x10 + (1 : Int32), S))
else
some (.inl (x4, x6, x7, x8, (0 : Int32), x10 + (1 : Int32), S)))) else none) else none) else none))
def f_X7_shoes_s146 : (Int32 × Int32 × Int32 × Int32 × Int32 × Int32 × gSt) → Option ((Int32 × Int32 × Int32 × Int32 × Int32 × Int32 × gSt) ⊕ (Int32 × Int32 × Int32 × Int32 × Int32 × gSt)) := fun t => f_X7_shoes_s146_b t.1 t.2.1 t.2.2.1 t.2.2.2.1 t.2.2.2.2.1 t.2.2.2.2.2.1 t.2.2.2.2.2.2
def f_X7_shoes_s129_b (x4 : Int32) (x6 : Int32) (x7 : Int32) (x8 : Int32) (S : gSt) : Option ((Int32 × Int32 × Int32 × Int32 × gSt) ⊕ (Int32 × gSt)) :=
if gin (5 : Int32) 416 then
((if (S.1 48 (5 : Int32).toNatClampNeg) ≤ x8 then
some (.inr (x7, S))
else
(gLoop (f_X7_shoes_s146) gFuel (x4, x6, x7, x8, (1 : Int32), (0 : Int32), S)).bind fun q38 => match q38 with
| (y4_38, y6_38, y7_38, y8_38, y9_38, S38) =>
(if y9_38 = 0 then
gLet (y7_38 ||| (0 : Int32)) fun v40 =>
some (.inl (y4_38, y6_38, v40, y8_38 + (1 : Int32), S38))
else
gLet (y7_38 ||| ((1 : Int32) <<< (y8_38 &&& 31))) fun v41 =>
some (.inl (y4_38, y6_38, v41, y8_38 + (1 : Int32), S38))))) else none
def f_X7_shoes_s129 : (Int32 × Int32 × Int32 × Int32 × gSt) → Option ((Int32 × Int32 × Int32 × Int32 × gSt) ⊕ (Int32 × gSt)) := fun t => f_X7_shoes_s129_b t.1 t.2.1 t.2.2.1 t.2.2.2.1 t.2.2.2.2
def f_X7_shoes (p1 : Int32) (p2 : Int32) (p3 : Int32) (p4 : Int32) (S : gSt) : Option (Int32 × gSt) :=
gBind2 (f_X7_isSheet p1 S) fun r3 S1 =>
(if r3 = 0 then
some ((-1 : Int32), S1)
else
gBind2 (f_X7_isLane p2 S1) fun r7 S5 =>
(if r7 = 0 then
some ((-1 : Int32), S5)
else
gBind2 (f_X7_in (p4.toInt64) (1 : Int64) (8 : Int64) S5) fun r11 S9 =>
(if r11 = 0 then
some ((-1 : Int32), S9)
else
gBind2 (f_X7_why p1 p2 p3 ((2 : Int32) * p4) S9) fun r15 S13 =>
(if 0 ≤ r15 then
gLet (((24 : Int32) * p1) + p3) fun v17 =>
(gLoop (f_X7_shoes_s61) gFuel (p4, v17, (0 : Int32), S13)).bind fun q29 => match q29 with
| .inl (v29, T29) => some (v29, T29)
| .inr (y4_29, y6_29, S29) =>
(gLoop (f_X7_shoes_s129) gFuel (y4_29, y6_29, (0 : Int32), (0 : Int32), S29)).bind fun q42 => match q42 with
| (y7_42, S42) =>
some (y7_42, S42)
else
some (r15, S13)))))
set_option maxHeartbeats 4000000 in
set_option maxRecDepth 20000 in
theorem ok_X7_shoes {p1 : Int32} {p2 : Int32} {p3 : Int32} {p4 : Int32} {S S0 : gSt} {r0 : Int32}  (h : f_X7_shoes p1 p2 p3 p4 S = some (r0, S0)) : gCT yX7_shoes cX7_shoes 11 (some .int) 2 (fun w => [.ref (w.2.1 47), .int p1, .int p2, .int p3, .int p4]) S (some (.int r0)) S0 := by
  refine gEnter (fun X => [some (.ref (gad X 47)), some (.int p1), some (.int p2), some (.int p3), some (.int p4), none, none, none, none, none, none]) (by decide) (fun X => ⟨rfl, rfl⟩) (fun w => Nat.le_of_ble_eq_true rfl) (fun X hp => ?_)
  show AW X RX7 2 cX7_shoes 0 [some (.ref (gad X 47)), some (.int p1), some (.int p2), some (.int p3), some (.int p4), none, none, none, none, none, none] [] S
  unfold f_X7_shoes at h
  refine a_iloadn (pc := 0) dX7_shoes_0 rfl rfl ?_
  obtain ⟨r3, S1, hc2, h⟩ := g_bind2 h
  refine a_invSi (pc := 1) (ok_X7_isSheet hc2) gyX7_isSheet syX7_isSheet mlX7_201 (As := [.int p1]) rfl rfl (by decide) (st := []) rfl (Nat.le_of_ble_eq_true rfl) dX7_shoes_1 ?_
  refine a_if_eq (pc := 4) (tgt := 27) dX7_shoes_4 (by decide) (fun c4 => ?_) (fun c4 => ?_)
  · rw [if_pos c4] at h
    refine a_iconst (pc := 27) (v := (-1 : Int32)) dX7_shoes_27 (by decide) ?_
    obtain ⟨rfl, rfl⟩ := Prod.mk.inj (Option.some.inj h)
    exact a_iret hp dX7_shoes_28
  · rw [if_neg c4] at h
    refine a_iloadn (pc := 7) dX7_shoes_7 rfl rfl ?_
    obtain ⟨r7, S5, hc6, h⟩ := g_bind2 h
    refine a_invSi (pc := 8) (ok_X7_isLane hc6) gyX7_isLane syX7_isLane mlX7_204 (As := [.int p2]) rfl rfl (by decide) (st := []) rfl (Nat.le_of_ble_eq_true rfl) dX7_shoes_8 ?_
    refine a_if_eq (pc := 11) (tgt := 27) dX7_shoes_11 (by decide) (fun c8 => ?_) (fun c8 => ?_)
    · rw [if_pos c8] at h
      refine a_iconst (pc := 27) (v := (-1 : Int32)) dX7_shoes_27 (by decide) ?_
      obtain ⟨rfl, rfl⟩ := Prod.mk.inj (Option.some.inj h)
      exact a_iret hp dX7_shoes_28
    · rw [if_neg c8] at h
      refine a_iload (pc := 14) dX7_shoes_14 rfl ?_
      refine a_i2l (pc := 16) dX7_shoes_16 ?_
      refine a_lconst (pc := 17) (v := (1 : Int64)) dX7_shoes_17 (by decide) ?_
      refine a_ldc2 (pc := 18) kX7_96 dX7_shoes_18 ?_
      obtain ⟨r11, S9, hc10, h⟩ := g_bind2 h
      refine a_invSi (pc := 21) (ok_X7_in hc10) gyX7_in syX7_in mlX7_51 (As := [.long (p4.toInt64), .long (1 : Int64), .long (8 : Int64)]) rfl rfl (by decide) (st := []) rfl (Nat.le_of_ble_eq_true rfl) dX7_shoes_21 ?_
      refine a_if_ne (pc := 24) (tgt := 29) dX7_shoes_24 (by decide) (fun c12 => ?_) (fun c12 => ?_)
      · rw [if_neg c12] at h
        refine a_aloadn (pc := 29) dX7_shoes_29 rfl rfl ?_
        refine a_iloadn (pc := 30) dX7_shoes_30 rfl rfl ?_
        refine a_iloadn (pc := 31) dX7_shoes_31 rfl rfl ?_
        refine a_iloadn (pc := 32) dX7_shoes_32 rfl rfl ?_
        refine a_iconst (pc := 33) (v := (2 : Int32)) dX7_shoes_33 (by decide) ?_
        refine a_iload (pc := 34) dX7_shoes_34 rfl ?_
        refine a_imul (pc := 36) dX7_shoes_36 ?_
        obtain ⟨r15, S13, hc14, h⟩ := g_bind2 h
        refine a_invVi (pc := 37) (ok_X7_why hc14) gyX7_why vyX7_why mlX7_207 sh_47 rfl (As := [.int p1, .int p2, .int p3, .int ((2 : Int32) * p4)]) rfl rfl (by decide) (st := []) rfl (Nat.le_of_ble_eq_true rfl) dX7_shoes_37 ?_
        refine a_istore (pc := 40) dX7_shoes_40 (Nat.le_of_ble_eq_true rfl) rfl (L' := [some (.ref (gad X 47)), some (.int p1), some (.int p2), some (.int p3), some (.int p4), some (.int r15), none, none, none, none, none]) rfl ?_
        refine a_iload (pc := 42) dX7_shoes_42 rfl ?_
        refine a_if_ge (pc := 44) (tgt := 50) dX7_shoes_44 (by decide) (fun c16 => ?_) (fun c16 => ?_)
        · rw [if_pos c16] at h
          refine a_bipush (pc := 50) (v := (24 : Int32)) dX7_shoes_50 (by decide) ?_
          refine a_iloadn (pc := 52) dX7_shoes_52 rfl rfl ?_
          refine a_imul (pc := 53) dX7_shoes_53 ?_
          refine a_iloadn (pc := 54) dX7_shoes_54 rfl rfl ?_
          refine a_iadd (pc := 55) dX7_shoes_55 ?_
          obtain ⟨v17, ev17, h⟩ := g_let h
          refine a_nmI ev17 ?_
          refine a_istore (pc := 56) dX7_shoes_56 (Nat.le_of_ble_eq_true rfl) rfl (L' := [some (.ref (gad X 47)), some (.int p1), some (.int p2), some (.int p3), some (.int p4), some (.int r15), some (.int v17), none, none, none, none]) rfl ?_
          refine a_iconst (pc := 58) (v := (0 : Int32)) dX7_shoes_58 (by decide) ?_
          refine a_istore (pc := 59) dX7_shoes_59 (Nat.le_of_ble_eq_true rfl) rfl (L' := [some (.ref (gad X 47)), some (.int p1), some (.int p2), some (.int p3), some (.int p4), some (.int r15), some (.int v17), some (.int (0 : Int32)), none, none, none]) rfl ?_
          obtain ⟨R29, hR29, h⟩ := g_bind h
          refine a_mask [true, false, false, false, true, false, true, true, true, true, true] (L' := [some (.ref (gad X 47)), none, none, none, some (.int p4), none, some (.int v17), some (.int (0 : Int32)), none, none, none]) rfl ?_
          have E61 : ∀ (y4_29 : Int32) (y6_29 : Int32) (S29 : gSt), ((gLoop (f_X7_shoes_s129) gFuel (y4_29, y6_29, (0 : Int32), (0 : Int32), S29)).bind fun q42 => match q42 with | (y7_42, S42) => some (y7_42, S42)) = some (r0, S0) → AW X RX7 2 cX7_shoes 123 [some (.ref (gad X 47)), none, none, none, some (.int y4_29), none, some (.int y6_29), none, none, none, none] [] S29 := by
            intro y4_29 y6_29 S29 h
            refine a_iconst (pc := 123) (v := (0 : Int32)) dX7_shoes_123 (by decide) ?_
            refine a_istore (pc := 124) dX7_shoes_124 (Nat.le_of_ble_eq_true rfl) rfl (L' := [some (.ref (gad X 47)), none, none, none, some (.int y4_29), none, some (.int y6_29), some (.int (0 : Int32)), none, none, none]) rfl ?_
            refine a_iconst (pc := 126) (v := (0 : Int32)) dX7_shoes_126 (by decide) ?_
            refine a_istore (pc := 127) dX7_shoes_127 (Nat.le_of_ble_eq_true rfl) rfl (L' := [some (.ref (gad X 47)), none, none, none, some (.int y4_29), none, some (.int y6_29), some (.int (0 : Int32)), some (.int (0 : Int32)), none, none]) rfl ?_
            obtain ⟨R42, hR42, h⟩ := g_bind h
            have E129 : ∀ (y7_42 : Int32) (S42 : gSt), (some (y7_42, S42)) = some (r0, S0) → AW X RX7 2 cX7_shoes 241 [none, none, none, none, none, none, none, some (.int y7_42), none, none, none] [] S42 := by
              intro y7_42 S42 h
              refine a_iload (pc := 241) dX7_shoes_241 rfl ?_
              obtain ⟨rfl, rfl⟩ := Prod.mk.inj (Option.some.inj h)
              exact a_iret hp dX7_shoes_243
            have lp : ∀ (n : Nat) (x4 : Int32) (x6 : Int32) (x7 : Int32) (x8 : Int32) (S : gSt), gLoop (f_X7_shoes_s129) n (x4, x6, x7, x8, S) = some R42 → AW X RX7 2 cX7_shoes 129 [some (.ref (gad X 47)), none, none, none, some (.int x4), none, some (.int x6), some (.int x7), some (.int x8), none, none] [] S := by
              intro n
              induction n with
              | zero => intro x4 x6 x7 x8 S hR; cases hR
              | succ n ih =>
                intro x4 x6 x7 x8 S hR
                obtain ⟨q, hs, hR⟩ := g_bind hR
                have hs : f_X7_shoes_s129_b x4 x6 x7 x8 S = some q := hs
                unfold f_X7_shoes_s129_b at hs
                refine a_iload (pc := 129) dX7_shoes_129 rfl ?_
                refine a_aloadn (pc := 131) dX7_shoes_131 rfl rfl ?_
                refine a_getA (pc := 132) flX7_7 sh_47 rfl dX7_shoes_132 ?_
                refine a_iconst (pc := 135) (v := (5 : Int32)) dX7_shoes_135 (by decide) ?_
                obtain ⟨hi30, hs⟩ := g_if hs
                refine a_iald (pc := 136) sh_48 hi30 dX7_shoes_136 ?_
                refine a_icmp_ge (pc := 137) (tgt := 241) dX7_shoes_137 (by decide) (fun c31 => ?_) (fun c31 => ?_)
                · rw [if_pos c31] at hs
                  obtain rfl := Option.some.inj hs
                  obtain rfl := Option.some.inj hR
                  refine a_mask [false, true, true, true, false, true, false, true, false, true, true] (L' := [none, none, none, none, none, none, none, some (.int x7), none, none, none]) rfl ?_
                  exact E129 _ _ h
                · rw [if_neg c31] at hs
                  refine a_iconst (pc := 140) (v := (1 : Int32)) dX7_shoes_140 (by decide) ?_
                  refine a_istore (pc := 141) dX7_shoes_141 (Nat.le_of_ble_eq_true rfl) rfl (L' := [some (.ref (gad X 47)), none, none, none, some (.int x4), none, some (.int x6), some (.int x7), some (.int x8), some (.int (1 : Int32)), none]) rfl ?_
                  refine a_iconst (pc := 143) (v := (0 : Int32)) dX7_shoes_143 (by decide) ?_
                  refine a_istore (pc := 144) dX7_shoes_144 (Nat.le_of_ble_eq_true rfl) rfl (L' := [some (.ref (gad X 47)), none, none, none, some (.int x4), none, some (.int x6), some (.int x7), some (.int x8), some (.int (1 : Int32)), some (.int (0 : Int32))]) rfl ?_
                  obtain ⟨R38, hR38, hs⟩ := g_bind hs
                  have E146 : ∀ (y4_38 : Int32) (y6_38 : Int32) (y7_38 : Int32) (y8_38 : Int32) (y9_38 : Int32) (S38 : gSt), ((if y9_38 = 0 then gLet (y7_38 ||| (0 : Int32)) fun v40 => some (.inl (y4_38, y6_38, v40, y8_38 + (1 : Int32), S38)) else gLet (y7_38 ||| ((1 : Int32) <<< (y8_38 &&& 31))) fun v41 => some (.inl (y4_38, y6_38, v41, y8_38 + (1 : Int32), S38)))) = some q → AW X RX7 2 cX7_shoes 217 [some (.ref (gad X 47)), none, none, none, some (.int y4_38), none, some (.int y6_38), some (.int y7_38), some (.int y8_38), some (.int y9_38), none] [] S38 := by
                    intro y4_38 y6_38 y7_38 y8_38 y9_38 S38 hs
                    refine a_iload (pc := 217) dX7_shoes_217 rfl ?_
                    refine a_iload (pc := 219) dX7_shoes_219 rfl ?_
                    refine a_if_eq (pc := 221) (tgt := 231) dX7_shoes_221 (by decide) (fun c39 => ?_) (fun c39 => ?_)
                    · rw [if_pos c39] at hs
                      refine a_iconst (pc := 231) (v := (0 : Int32)) dX7_shoes_231 (by decide) ?_
                      refine a_ior (pc := 232) dX7_shoes_232 ?_
                      obtain ⟨v40, ev40, hs⟩ := g_let hs
                      refine a_nmI ev40 ?_
                      refine a_istore (pc := 233) dX7_shoes_233 (Nat.le_of_ble_eq_true rfl) rfl (L' := [some (.ref (gad X 47)), none, none, none, some (.int y4_38), none, some (.int y6_38), some (.int v40), some (.int y8_38), some (.int y9_38), none]) rfl ?_
                      refine a_iinc (pc := 235) dX7_shoes_235 rfl (v := y8_38 + (1 : Int32)) rfl (Nat.le_of_ble_eq_true rfl) rfl (L' := [some (.ref (gad X 47)), none, none, none, some (.int y4_38), none, some (.int y6_38), some (.int v40), some (.int (y8_38 + (1 : Int32))), some (.int y9_38), none]) rfl ?_
                      refine a_goto (pc := 238) (tgt := 129) dX7_shoes_238 (by decide) ?_
                      obtain rfl := Option.some.inj hs
                      refine a_mask [true, true, true, true, true, true, true, true, true, false, true] (L' := [some (.ref (gad X 47)), none, none, none, some (.int y4_38), none, some (.int y6_38), some (.int v40), some (.int (y8_38 + (1 : Int32))), none, none]) rfl ?_
                      exact ih _ _ _ _ _ hR
                    · rw [if_neg c39] at hs
                      refine a_iconst (pc := 224) (v := (1 : Int32)) dX7_shoes_224 (by decide) ?_
                      refine a_iload (pc := 225) dX7_shoes_225 rfl ?_
                      refine a_ishl (pc := 227) dX7_shoes_227 ?_
                      refine a_goto (pc := 228) (tgt := 232) dX7_shoes_228 (by decide) ?_
                      refine a_ior (pc := 232) dX7_shoes_232 ?_
                      obtain ⟨v41, ev41, hs⟩ := g_let hs
                      refine a_nmI ev41 ?_
                      refine a_istore (pc := 233) dX7_shoes_233 (Nat.le_of_ble_eq_true rfl) rfl (L' := [some (.ref (gad X 47)), none, none, none, some (.int y4_38), none, some (.int y6_38), some (.int v41), some (.int y8_38), some (.int y9_38), none]) rfl ?_
                      refine a_iinc (pc := 235) dX7_shoes_235 rfl (v := y8_38 + (1 : Int32)) rfl (Nat.le_of_ble_eq_true rfl) rfl (L' := [some (.ref (gad X 47)), none, none, none, some (.int y4_38), none, some (.int y6_38), some (.int v41), some (.int (y8_38 + (1 : Int32))), some (.int y9_38), none]) rfl ?_
                      refine a_goto (pc := 238) (tgt := 129) dX7_shoes_238 (by decide) ?_
                      obtain rfl := Option.some.inj hs
                      refine a_mask [true, true, true, true, true, true, true, true, true, false, true] (L' := [some (.ref (gad X 47)), none, none, none, some (.int y4_38), none, some (.int y6_38), some (.int v41), some (.int (y8_38 + (1 : Int32))), none, none]) rfl ?_
                      exact ih _ _ _ _ _ hR
                  have lp : ∀ (n : Nat) (x4 : Int32) (x6 : Int32) (x7 : Int32) (x8 : Int32) (x9 : Int32) (x10 : Int32) (S : gSt), gLoop (f_X7_shoes_s146) n (x4, x6, x7, x8, x9, x10, S) = some R38 → AW X RX7 2 cX7_shoes 146 [some (.ref (gad X 47)), none, none, none, some (.int x4), none, some (.int x6), some (.int x7), some (.int x8), some (.int x9), some (.int x10)] [] S := by
                    intro n
                    induction n with
                    | zero => intro x4 x6 x7 x8 x9 x10 S hR; cases hR
                    | succ n ih =>
                      intro x4 x6 x7 x8 x9 x10 S hR
                      obtain ⟨q, hs, hR⟩ := g_bind hR
                      have hs : f_X7_shoes_s146_b x4 x6 x7 x8 x9 x10 S = some q := hs
                      unfold f_X7_shoes_s146_b at hs
                      refine a_iload (pc := 146) dX7_shoes_146 rfl ?_
                      refine a_iload (pc := 148) dX7_shoes_148 rfl ?_
                      refine a_icmp_ge (pc := 150) (tgt := 217) dX7_shoes_150 (by decide) (fun c32 => ?_) (fun c32 => ?_)
                      · rw [if_pos c32] at hs
                        obtain rfl := Option.some.inj hs
                        obtain rfl := Option.some.inj hR
                        refine a_mask [true, true, true, true, true, true, true, true, true, true, false] (L' := [some (.ref (gad X 47)), none, none, none, some (.int x4), none, some (.int x6), some (.int x7), some (.int x8), some (.int x9), none]) rfl ?_
                        exact E146 _ _ _ _ _ _ hs
                      · rw [if_neg c32] at hs
                        refine a_iload (pc := 153) dX7_shoes_153 rfl ?_
                        refine a_if_eq (pc := 155) (tgt := 208) dX7_shoes_155 (by decide) (fun c33 => ?_) (fun c33 => ?_)
                        · rw [if_pos c33] at hs
                          refine a_iconst (pc := 208) (v := (0 : Int32)) dX7_shoes_208 (by decide) ?_
                          refine a_istore (pc := 209) dX7_shoes_209 (Nat.le_of_ble_eq_true rfl) rfl (L' := [some (.ref (gad X 47)), none, none, none, some (.int x4), none, some (.int x6), some (.int x7), some (.int x8), some (.int (0 : Int32)), some (.int x10)]) rfl ?_
                          refine a_iinc (pc := 211) dX7_shoes_211 rfl (v := x10 + (1 : Int32)) rfl (Nat.le_of_ble_eq_true rfl) rfl (L' := [some (.ref (gad X 47)), none, none, none, some (.int x4), none, some (.int x6), some (.int x7), some (.int x8), some (.int (0 : Int32)), some (.int (x10 + (1 : Int32)))]) rfl ?_
                          refine a_goto (pc := 214) (tgt := 146) dX7_shoes_214 (by decide) ?_
                          obtain rfl := Option.some.inj hs
                          exact ih _ _ _ _ _ _ _ hR
                        · rw [if_neg c33] at hs
                          refine a_aloadn (pc := 158) dX7_shoes_158 rfl rfl ?_
                          refine a_getA (pc := 159) flX7_7 sh_47 rfl dX7_shoes_159 ?_
                          refine a_bipush (pc := 162) (v := (32 : Int32)) dX7_shoes_162 (by decide) ?_
                          refine a_bipush (pc := 164) (v := (64 : Int32)) dX7_shoes_164 (by decide) ?_
                          refine a_iload (pc := 166) dX7_shoes_166 rfl ?_
                          refine a_imul (pc := 168) dX7_shoes_168 ?_
                          refine a_iadd (pc := 169) dX7_shoes_169 ?_
                          refine a_aloadn (pc := 170) dX7_shoes_170 rfl rfl ?_
                          refine a_getA (pc := 171) flX7_44 sh_47 rfl dX7_shoes_171 ?_
                          refine a_iload (pc := 174) dX7_shoes_174 rfl ?_
                          refine a_iconst (pc := 176) (v := (2 : Int32)) dX7_shoes_176 (by decide) ?_
                          refine a_iload (pc := 177) dX7_shoes_177 rfl ?_
                          refine a_imul (pc := 179) dX7_shoes_179 ?_
                          refine a_iadd (pc := 180) dX7_shoes_180 ?_
                          obtain ⟨hi34, hs⟩ := g_if hs
                          refine a_lald (pc := 181) sh_59 hi34 dX7_shoes_181 ?_
                          refine a_l2i (pc := 182) dX7_shoes_182 ?_
                          refine a_iadd (pc := 183) dX7_shoes_183 ?_
                          obtain ⟨hi35, hs⟩ := g_if hs
                          refine a_iald (pc := 184) sh_48 hi35 dX7_shoes_184 ?_
                          refine a_i2l (pc := 185) dX7_shoes_185 ?_
                          refine a_aloadn (pc := 186) dX7_shoes_186 rfl rfl ?_
                          refine a_getA (pc := 187) flX7_44 sh_47 rfl dX7_shoes_187 ?_
                          refine a_iload (pc := 190) dX7_shoes_190 rfl ?_
                          refine a_iconst (pc := 192) (v := (2 : Int32)) dX7_shoes_192 (by decide) ?_
                          refine a_iload (pc := 193) dX7_shoes_193 rfl ?_
                          refine a_imul (pc := 195) dX7_shoes_195 ?_
                          refine a_iadd (pc := 196) dX7_shoes_196 ?_
                          refine a_iconst (pc := 197) (v := (1 : Int32)) dX7_shoes_197 (by decide) ?_
                          refine a_iadd (pc := 198) dX7_shoes_198 ?_
                          obtain ⟨hi36, hs⟩ := g_if hs
                          refine a_lald (pc := 199) sh_59 hi36 dX7_shoes_199 ?_
                          refine a_lcmp (pc := 200) dX7_shoes_200 ?_
                          refine a_if_ne (pc := 201) (tgt := 208) dX7_shoes_201 (by decide) (fun c37 => ?_) (fun c37 => ?_)
                          · rw [if_neg c37] at hs
                            refine a_iconst (pc := 208) (v := (0 : Int32)) dX7_shoes_208 (by decide) ?_
                            refine a_istore (pc := 209) dX7_shoes_209 (Nat.le_of_ble_eq_true rfl) rfl (L' := [some (.ref (gad X 47)), none, none, none, some (.int x4), none, some (.int x6), some (.int x7), some (.int x8), some (.int (0 : Int32)), some (.int x10)]) rfl ?_
                            refine a_iinc (pc := 211) dX7_shoes_211 rfl (v := x10 + (1 : Int32)) rfl (Nat.le_of_ble_eq_true rfl) rfl (L' := [some (.ref (gad X 47)), none, none, none, some (.int x4), none, some (.int x6), some (.int x7), some (.int x8), some (.int (0 : Int32)), some (.int (x10 + (1 : Int32)))]) rfl ?_
                            refine a_goto (pc := 214) (tgt := 146) dX7_shoes_214 (by decide) ?_
                            obtain rfl := Option.some.inj hs
                            exact ih _ _ _ _ _ _ _ hR
                          · rw [if_pos c37] at hs
                            refine a_iconst (pc := 204) (v := (1 : Int32)) dX7_shoes_204 (by decide) ?_
                            refine a_goto (pc := 205) (tgt := 209) dX7_shoes_205 (by decide) ?_
                            refine a_istore (pc := 209) dX7_shoes_209 (Nat.le_of_ble_eq_true rfl) rfl (L' := [some (.ref (gad X 47)), none, none, none, some (.int x4), none, some (.int x6), some (.int x7), some (.int x8), some (.int (1 : Int32)), some (.int x10)]) rfl ?_
                            refine a_iinc (pc := 211) dX7_shoes_211 rfl (v := x10 + (1 : Int32)) rfl (Nat.le_of_ble_eq_true rfl) rfl (L' := [some (.ref (gad X 47)), none, none, none, some (.int x4), none, some (.int x6), some (.int x7), some (.int x8), some (.int (1 : Int32)), some (.int (x10 + (1 : Int32)))]) rfl ?_
                            refine a_goto (pc := 214) (tgt := 146) dX7_shoes_214 (by decide) ?_
                            obtain rfl := Option.some.inj hs
                            exact ih _ _ _ _ _ _ _ hR
                  exact lp _ _ _ _ _ _ _ _ hR38
            exact lp _ _ _ _ _ _ hR42
          have lp : ∀ (n : Nat) (x4 : Int32) (x6 : Int32) (x7 : Int32) (S : gSt), gLoop (f_X7_shoes_s61) n (x4, x6, x7, S) = some R29 → AW X RX7 2 cX7_shoes 61 [some (.ref (gad X 47)), none, none, none, some (.int x4), none, some (.int x6), some (.int x7), none, none, none] [] S := by
            intro n
            induction n with
            | zero => intro x4 x6 x7 S hR; cases hR
            | succ n ih =>
              intro x4 x6 x7 S hR
              obtain ⟨q, hs, hR⟩ := g_bind hR
              have hs : f_X7_shoes_s61_b x4 x6 x7 S = some q := hs
              unfold f_X7_shoes_s61_b at hs
              refine a_iload (pc := 61) dX7_shoes_61 rfl ?_
              refine a_iload (pc := 63) dX7_shoes_63 rfl ?_
              refine a_icmp_ge (pc := 65) (tgt := 123) dX7_shoes_65 (by decide) (fun c18 => ?_) (fun c18 => ?_)
              · rw [if_pos c18] at hs
                obtain rfl := Option.some.inj hs
                obtain rfl := Option.some.inj hR
                refine a_mask [true, true, true, true, true, true, true, false, true, true, true] (L' := [some (.ref (gad X 47)), none, none, none, some (.int x4), none, some (.int x6), none, none, none, none]) rfl ?_
                exact E61 _ _ _ h
              · rw [if_neg c18] at hs
                refine a_aloadn (pc := 68) dX7_shoes_68 rfl rfl ?_
                refine a_getA (pc := 69) flX7_44 sh_47 rfl dX7_shoes_69 ?_
                refine a_iload (pc := 72) dX7_shoes_72 rfl ?_
                refine a_iconst (pc := 74) (v := (2 : Int32)) dX7_shoes_74 (by decide) ?_
                refine a_iload (pc := 75) dX7_shoes_75 rfl ?_
                refine a_imul (pc := 77) dX7_shoes_77 ?_
                refine a_iadd (pc := 78) dX7_shoes_78 ?_
                obtain ⟨hi19, hs⟩ := g_if hs
                refine a_lald (pc := 79) sh_59 hi19 dX7_shoes_79 ?_
                refine a_lconst (pc := 80) (v := (0 : Int64)) dX7_shoes_80 (by decide) ?_
                refine a_ldc2 (pc := 81) kX7_55 dX7_shoes_81 ?_
                obtain ⟨r22, S20, hc21, hs⟩ := g_bind2 hs
                refine a_invSi (pc := 84) (ok_X7_in hc21) gyX7_in syX7_in mlX7_51 (As := [.long (S.2 59 (x6 + ((2 : Int32) * x7)).toNatClampNeg), .long (0 : Int64), .long (63 : Int64)]) rfl rfl (by decide) (st := []) rfl (Nat.le_of_ble_eq_true rfl) dX7_shoes_84 ?_
                refine a_if_eq (pc := 87) (tgt := 114) dX7_shoes_87 (by decide) (fun c23 => ?_) (fun c23 => ?_)
                · rw [if_pos c23] at hs
                  refine a_bipush (pc := 114) (v := (-2 : Int32)) dX7_shoes_114 (by decide) ?_
                  obtain rfl := Option.some.inj hs
                  obtain rfl := Option.some.inj hR
                  obtain ⟨rfl, rfl⟩ := Prod.mk.inj (Option.some.inj h)
                  exact a_iret hp dX7_shoes_116
                · rw [if_neg c23] at hs
                  refine a_aloadn (pc := 90) dX7_shoes_90 rfl rfl ?_
                  refine a_getA (pc := 91) flX7_44 sh_47 rfl dX7_shoes_91 ?_
                  refine a_iload (pc := 94) dX7_shoes_94 rfl ?_
                  refine a_iconst (pc := 96) (v := (2 : Int32)) dX7_shoes_96 (by decide) ?_
                  refine a_iload (pc := 97) dX7_shoes_97 rfl ?_
                  refine a_imul (pc := 99) dX7_shoes_99 ?_
                  refine a_iadd (pc := 100) dX7_shoes_100 ?_
                  refine a_iconst (pc := 101) (v := (1 : Int32)) dX7_shoes_101 (by decide) ?_
                  refine a_iadd (pc := 102) dX7_shoes_102 ?_
                  obtain ⟨hi24, hs⟩ := g_if hs
                  refine a_lald (pc := 103) sh_59 hi24 dX7_shoes_103 ?_
                  refine a_lconst (pc := 104) (v := (0 : Int64)) dX7_shoes_104 (by decide) ?_
                  refine a_ldc2 (pc := 105) kX7_213 dX7_shoes_105 ?_
                  obtain ⟨r27, S25, hc26, hs⟩ := g_bind2 hs
                  refine a_invSi (pc := 108) (ok_X7_in hc26) gyX7_in syX7_in mlX7_51 (As := [.long (S20.2 59 ((x6 + ((2 : Int32) * x7)) + (1 : Int32)).toNatClampNeg), .long (0 : Int64), .long (99 : Int64)]) rfl rfl (by decide) (st := []) rfl (Nat.le_of_ble_eq_true rfl) dX7_shoes_108 ?_
                  refine a_if_ne (pc := 111) (tgt := 117) dX7_shoes_111 (by decide) (fun c28 => ?_) (fun c28 => ?_)
                  · rw [if_neg c28] at hs
                    refine a_iinc (pc := 117) dX7_shoes_117 rfl (v := x7 + (1 : Int32)) rfl (Nat.le_of_ble_eq_true rfl) rfl (L' := [some (.ref (gad X 47)), none, none, none, some (.int x4), none, some (.int x6), some (.int (x7 + (1 : Int32))), none, none, none]) rfl ?_
                    refine a_goto (pc := 120) (tgt := 61) dX7_shoes_120 (by decide) ?_
                    obtain rfl := Option.some.inj hs
                    exact ih _ _ _ _ hR
                  · rw [if_pos c28] at hs
                    refine a_bipush (pc := 114) (v := (-2 : Int32)) dX7_shoes_114 (by decide) ?_
                    obtain rfl := Option.some.inj hs
                    obtain rfl := Option.some.inj hR
                    obtain ⟨rfl, rfl⟩ := Prod.mk.inj (Option.some.inj h)
                    exact a_iret hp dX7_shoes_116
          exact lp _ _ _ _ _ hR29
        · rw [if_neg c16] at h
          refine a_iload (pc := 47) dX7_shoes_47 rfl ?_
          obtain ⟨rfl, rfl⟩ := Prod.mk.inj (Option.some.inj h)
          exact a_iret hp dX7_shoes_49
      · rw [if_pos c12] at h
        refine a_iconst (pc := 27) (v := (-1 : Int32)) dX7_shoes_27 (by decide) ?_
        obtain ⟨rfl, rfl⟩ := Prod.mk.inj (Option.some.inj h)
        exact a_iret hp dX7_shoes_28
theorem dX7_film_0 : decode cX7_film 0 = .ok (.aload_n 0, 1) := by decide +kernel
theorem dX7_film_1 : decode cX7_film 1 = .ok (.iload_n 1, 1) := by decide +kernel
theorem dX7_film_2 : decode cX7_film 2 = .ok (.invokevirtual 82, 3) := by decide +kernel
theorem dX7_film_5 : decode cX7_film 5 = .ok (.ifCond .eq 30, 3) := by decide +kernel
theorem dX7_film_8 : decode cX7_film 8 = .ok (.iload_n 2, 1) := by decide +kernel
theorem dX7_film_9 : decode cX7_film 9 = .ok (.i2l, 1) := by decide +kernel
theorem dX7_film_10 : decode cX7_film 10 = .ok (.lconst 1, 1) := by decide +kernel
theorem dX7_film_11 : decode cX7_film 11 = .ok (.ldc2_w 159, 3) := by decide +kernel
theorem dX7_film_14 : decode cX7_film 14 = .ok (.invokestatic 51, 3) := by decide +kernel
theorem dX7_film_17 : decode cX7_film 17 = .ok (.ifCond .eq 18, 3) := by decide +kernel
theorem dX7_film_20 : decode cX7_film 20 = .ok (.iload_n 3, 1) := by decide +kernel
theorem dX7_film_21 : decode cX7_film 21 = .ok (.invokestatic 201, 3) := by decide +kernel
theorem dX7_film_24 : decode cX7_film 24 = .ok (.ifCond .eq 11, 3) := by decide +kernel
theorem dX7_film_27 : decode cX7_film 27 = .ok (.iload 4, 2) := by decide +kernel
theorem dX7_film_29 : decode cX7_film 29 = .ok (.invokestatic 204, 3) := by decide +kernel
theorem dX7_film_32 : decode cX7_film 32 = .ok (.ifCond .ne 5, 3) := by decide +kernel
theorem dX7_film_35 : decode cX7_film 35 = .ok (.iconst (-1), 1) := by decide +kernel
theorem dX7_film_36 : decode cX7_film 36 = .ok (.ireturn, 1) := by decide +kernel
theorem dX7_film_37 : decode cX7_film 37 = .ok (.aload_n 0, 1) := by decide +kernel
theorem dX7_film_38 : decode cX7_film 38 = .ok (.iload_n 3, 1) := by decide +kernel
theorem dX7_film_39 : decode cX7_film 39 = .ok (.iload 4, 2) := by decide +kernel
theorem dX7_film_41 : decode cX7_film 41 = .ok (.iload 5, 2) := by decide +kernel
theorem dX7_film_43 : decode cX7_film 43 = .ok (.iload_n 2, 1) := by decide +kernel
theorem dX7_film_44 : decode cX7_film 44 = .ok (.invokevirtual 207, 3) := by decide +kernel
theorem dX7_film_47 : decode cX7_film 47 = .ok (.istore 6, 2) := by decide +kernel
theorem dX7_film_49 : decode cX7_film 49 = .ok (.iload 6, 2) := by decide +kernel
theorem dX7_film_51 : decode cX7_film 51 = .ok (.ifCond .ge 6, 3) := by decide +kernel
theorem dX7_film_54 : decode cX7_film 54 = .ok (.iload 6, 2) := by decide +kernel
theorem dX7_film_56 : decode cX7_film 56 = .ok (.ireturn, 1) := by decide +kernel
theorem dX7_film_57 : decode cX7_film 57 = .ok (.aload_n 0, 1) := by decide +kernel
theorem dX7_film_58 : decode cX7_film 58 = .ok (.invokevirtual 176, 3) := by decide +kernel
theorem dX7_film_61 : decode cX7_film 61 = .ok (.iconst 0, 1) := by decide +kernel
theorem dX7_film_62 : decode cX7_film 62 = .ok (.istore 7, 2) := by decide +kernel
theorem dX7_film_64 : decode cX7_film 64 = .ok (.iload 7, 2) := by decide +kernel
theorem dX7_film_66 : decode cX7_film 66 = .ok (.iload_n 2, 1) := by decide +kernel
theorem dX7_film_67 : decode cX7_film 67 = .ok (.if_icmp .ge 34, 3) := by decide +kernel
theorem dX7_film_70 : decode cX7_film 70 = .ok (.aload_n 0, 1) := by decide +kernel
theorem dX7_film_71 : decode cX7_film 71 = .ok (.invokevirtual 161, 3) := by decide +kernel
theorem dX7_film_74 : decode cX7_film 74 = .ok (.aload_n 0, 1) := by decide +kernel
theorem dX7_film_75 : decode cX7_film 75 = .ok (.getfield 44, 3) := by decide +kernel
theorem dX7_film_78 : decode cX7_film 78 = .ok (.bipush 24, 2) := by decide +kernel
theorem dX7_film_80 : decode cX7_film 80 = .ok (.iload_n 3, 1) := by decide +kernel
theorem dX7_film_81 : decode cX7_film 81 = .ok (.imul, 1) := by decide +kernel
theorem dX7_film_82 : decode cX7_film 82 = .ok (.iload 5, 2) := by decide +kernel
theorem dX7_film_84 : decode cX7_film 84 = .ok (.iadd, 1) := by decide +kernel
theorem dX7_film_85 : decode cX7_film 85 = .ok (.iload 7, 2) := by decide +kernel
theorem dX7_film_87 : decode cX7_film 87 = .ok (.iadd, 1) := by decide +kernel
theorem dX7_film_88 : decode cX7_film 88 = .ok (.aload_n 0, 1) := by decide +kernel
theorem dX7_film_89 : decode cX7_film 89 = .ok (.iload_n 1, 1) := by decide +kernel
theorem dX7_film_90 : decode cX7_film 90 = .ok (.invokevirtual 93, 3) := by decide +kernel
theorem dX7_film_93 : decode cX7_film 93 = .ok (.i2l, 1) := by decide +kernel
theorem dX7_film_94 : decode cX7_film 94 = .ok (.lastore, 1) := by decide +kernel
theorem dX7_film_95 : decode cX7_film 95 = .ok (.iinc 7 1, 3) := by decide +kernel
theorem dX7_film_98 : decode cX7_film 98 = .ok (.goto (-34), 3) := by decide +kernel
theorem dX7_film_101 : decode cX7_film 101 = .ok (.aload_n 0, 1) := by decide +kernel
theorem dX7_film_102 : decode cX7_film 102 = .ok (.invokevirtual 182, 3) := by decide +kernel
theorem dX7_film_105 : decode cX7_film 105 = .ok (.iload_n 2, 1) := by decide +kernel
theorem dX7_film_106 : decode cX7_film 106 = .ok (.ireturn, 1) := by decide +kernel
def f_X7_film_s64_b (x1 : Int32) (x2 : Int32) (x3 : Int32) (x5 : Int32) (x7 : Int32) (S : gSt) : Option ((Int32 × Int32 × Int32 × Int32 × Int32 × gSt) ⊕ (Int32 × gSt)) :=
(if x2 ≤ x7 then
some (.inr (x2, S))
else
(f_X7_goesBy S).bind fun S24 =>
gBind2 (f_X7_landOf x1 S24) fun r28 S26 =>
if gin ((((24 : Int32) * x3) + x5) + x7) 96 then
gLet (gJ S26 59 ((((24 : Int32) * x3) + x5) + x7).toNatClampNeg (r28.toInt64)) fun S30 =>
(some (.inl (x1, x2, x3, x5, x7 + (1 : Int32), S30))) else none)
def f_X7_film_s64 : (Int32 × Int32 × Int32 × Int32 × Int32 × gSt) → Option ((Int32 × Int32 × Int32 × Int32 × Int32 × gSt) ⊕ (Int32 × gSt)) := fun t => f_X7_film_s64_b t.1 t.2.1 t.2.2.1 t.2.2.2.1 t.2.2.2.2.1 t.2.2.2.2.2
def f_X7_film (p1 : Int32) (p2 : Int32) (p3 : Int32) (p4 : Int32) (p5 : Int32) (S : gSt) : Option (Int32 × gSt) :=
gBind2 (f_X7_isWalker p1 S) fun r3 S1 =>
(if r3 = 0 then
some ((-1 : Int32), S1)
else
gBind2 (f_X7_in (p2.toInt64) (1 : Int64) (24 : Int64) S1) fun r7 S5 =>
(if r7 = 0 then
some ((-1 : Int32), S5)
else
gBind2 (f_X7_isSheet p3 S5) fun r11 S9 =>
(if r11 = 0 then
some ((-1 : Int32), S9)
else
gBind2 (f_X7_isLane p4 S9) fun r15 S13 =>
(if r15 = 0 then
some ((-1 : Int32), S13)
else
gBind2 (f_X7_why p3 p4 p5 p2 S13) fun r19 S17 =>
(if 0 ≤ r19 then
(f_X7_asides S17).bind fun S21 =>
(gLoop (f_X7_film_s64) gFuel (p1, p2, p3, p5, (0 : Int32), S21)).bind fun q31 => match q31 with
| (y2_31, S31) =>
(f_X7_backs S31).bind fun S32 =>
some (y2_31, S32)
else
some (r19, S17))))))
set_option maxHeartbeats 4000000 in
set_option maxRecDepth 20000 in
theorem ok_X7_film {p1 : Int32} {p2 : Int32} {p3 : Int32} {p4 : Int32} {p5 : Int32} {S S0 : gSt} {r0 : Int32}  (h : f_X7_film p1 p2 p3 p4 p5 S = some (r0, S0)) : gCT yX7_film cX7_film 8 (some .int) 4 (fun w => [.ref (w.2.1 47), .int p1, .int p2, .int p3, .int p4, .int p5]) S (some (.int r0)) S0 := by
  refine gEnter (fun X => [some (.ref (gad X 47)), some (.int p1), some (.int p2), some (.int p3), some (.int p4), some (.int p5), none, none]) (by decide) (fun X => ⟨rfl, rfl⟩) (fun w => Nat.le_of_ble_eq_true rfl) (fun X hp => ?_)
  show AW X RX7 4 cX7_film 0 [some (.ref (gad X 47)), some (.int p1), some (.int p2), some (.int p3), some (.int p4), some (.int p5), none, none] [] S
  unfold f_X7_film at h
  refine a_aloadn (pc := 0) dX7_film_0 rfl rfl ?_
  refine a_iloadn (pc := 1) dX7_film_1 rfl rfl ?_
  obtain ⟨r3, S1, hc2, h⟩ := g_bind2 h
  refine a_invVi (pc := 2) (ok_X7_isWalker hc2) gyX7_isWalker vyX7_isWalker mlX7_82 sh_47 rfl (As := [.int p1]) rfl rfl (by decide) (st := []) rfl (Nat.le_of_ble_eq_true rfl) dX7_film_2 ?_
  refine a_if_eq (pc := 5) (tgt := 35) dX7_film_5 (by decide) (fun c4 => ?_) (fun c4 => ?_)
  · rw [if_pos c4] at h
    refine a_iconst (pc := 35) (v := (-1 : Int32)) dX7_film_35 (by decide) ?_
    obtain ⟨rfl, rfl⟩ := Prod.mk.inj (Option.some.inj h)
    exact a_iret hp dX7_film_36
  · rw [if_neg c4] at h
    refine a_iloadn (pc := 8) dX7_film_8 rfl rfl ?_
    refine a_i2l (pc := 9) dX7_film_9 ?_
    refine a_lconst (pc := 10) (v := (1 : Int64)) dX7_film_10 (by decide) ?_
    refine a_ldc2 (pc := 11) kX7_159 dX7_film_11 ?_
    obtain ⟨r7, S5, hc6, h⟩ := g_bind2 h
    refine a_invSi (pc := 14) (ok_X7_in hc6) gyX7_in syX7_in mlX7_51 (As := [.long (p2.toInt64), .long (1 : Int64), .long (24 : Int64)]) rfl rfl (by decide) (st := []) rfl (Nat.le_of_ble_eq_true rfl) dX7_film_14 ?_
    refine a_if_eq (pc := 17) (tgt := 35) dX7_film_17 (by decide) (fun c8 => ?_) (fun c8 => ?_)
    · rw [if_pos c8] at h
      refine a_iconst (pc := 35) (v := (-1 : Int32)) dX7_film_35 (by decide) ?_
      obtain ⟨rfl, rfl⟩ := Prod.mk.inj (Option.some.inj h)
      exact a_iret hp dX7_film_36
    · rw [if_neg c8] at h
      refine a_iloadn (pc := 20) dX7_film_20 rfl rfl ?_
      obtain ⟨r11, S9, hc10, h⟩ := g_bind2 h
      refine a_invSi (pc := 21) (ok_X7_isSheet hc10) gyX7_isSheet syX7_isSheet mlX7_201 (As := [.int p3]) rfl rfl (by decide) (st := []) rfl (Nat.le_of_ble_eq_true rfl) dX7_film_21 ?_
      refine a_if_eq (pc := 24) (tgt := 35) dX7_film_24 (by decide) (fun c12 => ?_) (fun c12 => ?_)
      · rw [if_pos c12] at h
        refine a_iconst (pc := 35) (v := (-1 : Int32)) dX7_film_35 (by decide) ?_
        obtain ⟨rfl, rfl⟩ := Prod.mk.inj (Option.some.inj h)
        exact a_iret hp dX7_film_36
      · rw [if_neg c12] at h
        refine a_iload (pc := 27) dX7_film_27 rfl ?_
        obtain ⟨r15, S13, hc14, h⟩ := g_bind2 h
        refine a_invSi (pc := 29) (ok_X7_isLane hc14) gyX7_isLane syX7_isLane mlX7_204 (As := [.int p4]) rfl rfl (by decide) (st := []) rfl (Nat.le_of_ble_eq_true rfl) dX7_film_29 ?_
        refine a_if_ne (pc := 32) (tgt := 37) dX7_film_32 (by decide) (fun c16 => ?_) (fun c16 => ?_)
        · rw [if_neg c16] at h
          refine a_aloadn (pc := 37) dX7_film_37 rfl rfl ?_
          refine a_iloadn (pc := 38) dX7_film_38 rfl rfl ?_
          refine a_iload (pc := 39) dX7_film_39 rfl ?_
          refine a_iload (pc := 41) dX7_film_41 rfl ?_
          refine a_iloadn (pc := 43) dX7_film_43 rfl rfl ?_
          obtain ⟨r19, S17, hc18, h⟩ := g_bind2 h
          refine a_invVi (pc := 44) (ok_X7_why hc18) gyX7_why vyX7_why mlX7_207 sh_47 rfl (As := [.int p3, .int p4, .int p5, .int p2]) rfl rfl (by decide) (st := []) rfl (Nat.le_of_ble_eq_true rfl) dX7_film_44 ?_
          refine a_istore (pc := 47) dX7_film_47 (Nat.le_of_ble_eq_true rfl) rfl (L' := [some (.ref (gad X 47)), some (.int p1), some (.int p2), some (.int p3), some (.int p4), some (.int p5), some (.int r19), none]) rfl ?_
          refine a_iload (pc := 49) dX7_film_49 rfl ?_
          refine a_if_ge (pc := 51) (tgt := 57) dX7_film_51 (by decide) (fun c20 => ?_) (fun c20 => ?_)
          · rw [if_pos c20] at h
            refine a_aloadn (pc := 57) dX7_film_57 rfl rfl ?_
            obtain ⟨S21, hc22, h⟩ := g_bind h
            refine a_invVv (pc := 58) (ok_X7_asides hc22) gyX7_asides vyX7_asides mlX7_176 sh_47 rfl (As := []) rfl rfl (by decide) (st := []) rfl (Nat.le_of_ble_eq_true rfl) dX7_film_58 ?_
            refine a_iconst (pc := 61) (v := (0 : Int32)) dX7_film_61 (by decide) ?_
            refine a_istore (pc := 62) dX7_film_62 (Nat.le_of_ble_eq_true rfl) rfl (L' := [some (.ref (gad X 47)), some (.int p1), some (.int p2), some (.int p3), some (.int p4), some (.int p5), some (.int r19), some (.int (0 : Int32))]) rfl ?_
            obtain ⟨R31, hR31, h⟩ := g_bind h
            refine a_mask [true, true, true, true, false, true, false, true] (L' := [some (.ref (gad X 47)), some (.int p1), some (.int p2), some (.int p3), none, some (.int p5), none, some (.int (0 : Int32))]) rfl ?_
            have E64 : ∀ (y2_31 : Int32) (S31 : gSt), ((f_X7_backs S31).bind fun S32 => some (y2_31, S32)) = some (r0, S0) → AW X RX7 4 cX7_film 101 [some (.ref (gad X 47)), none, some (.int y2_31), none, none, none, none, none] [] S31 := by
              intro y2_31 S31 h
              refine a_aloadn (pc := 101) dX7_film_101 rfl rfl ?_
              obtain ⟨S32, hc33, h⟩ := g_bind h
              refine a_invVv (pc := 102) (ok_X7_backs hc33) gyX7_backs vyX7_backs mlX7_182 sh_47 rfl (As := []) rfl rfl (by decide) (st := []) rfl (Nat.le_of_ble_eq_true rfl) dX7_film_102 ?_
              refine a_iloadn (pc := 105) dX7_film_105 rfl rfl ?_
              obtain ⟨rfl, rfl⟩ := Prod.mk.inj (Option.some.inj h)
              exact a_iret hp dX7_film_106
            have lp : ∀ (n : Nat) (x1 : Int32) (x2 : Int32) (x3 : Int32) (x5 : Int32) (x7 : Int32) (S : gSt), gLoop (f_X7_film_s64) n (x1, x2, x3, x5, x7, S) = some R31 → AW X RX7 4 cX7_film 64 [some (.ref (gad X 47)), some (.int x1), some (.int x2), some (.int x3), none, some (.int x5), none, some (.int x7)] [] S := by
              intro n
              induction n with
              | zero => intro x1 x2 x3 x5 x7 S hR; cases hR
              | succ n ih =>
                intro x1 x2 x3 x5 x7 S hR
                obtain ⟨q, hs, hR⟩ := g_bind hR
                have hs : f_X7_film_s64_b x1 x2 x3 x5 x7 S = some q := hs
                unfold f_X7_film_s64_b at hs
                refine a_iload (pc := 64) dX7_film_64 rfl ?_
                refine a_iloadn (pc := 66) dX7_film_66 rfl rfl ?_
                refine a_icmp_ge (pc := 67) (tgt := 101) dX7_film_67 (by decide) (fun c23 => ?_) (fun c23 => ?_)
                · rw [if_pos c23] at hs
                  obtain rfl := Option.some.inj hs
                  obtain rfl := Option.some.inj hR
                  refine a_mask [true, false, true, false, true, false, true, false] (L' := [some (.ref (gad X 47)), none, some (.int x2), none, none, none, none, none]) rfl ?_
                  exact E64 _ _ h
                · rw [if_neg c23] at hs
                  refine a_aloadn (pc := 70) dX7_film_70 rfl rfl ?_
                  obtain ⟨S24, hc25, hs⟩ := g_bind hs
                  refine a_invVv (pc := 71) (ok_X7_goesBy hc25) gyX7_goesBy vyX7_goesBy mlX7_161 sh_47 rfl (As := []) rfl rfl (by decide) (st := []) rfl (Nat.le_of_ble_eq_true rfl) dX7_film_71 ?_
                  refine a_aloadn (pc := 74) dX7_film_74 rfl rfl ?_
                  refine a_getA (pc := 75) flX7_44 sh_47 rfl dX7_film_75 ?_
                  refine a_bipush (pc := 78) (v := (24 : Int32)) dX7_film_78 (by decide) ?_
                  refine a_iloadn (pc := 80) dX7_film_80 rfl rfl ?_
                  refine a_imul (pc := 81) dX7_film_81 ?_
                  refine a_iload (pc := 82) dX7_film_82 rfl ?_
                  refine a_iadd (pc := 84) dX7_film_84 ?_
                  refine a_iload (pc := 85) dX7_film_85 rfl ?_
                  refine a_iadd (pc := 87) dX7_film_87 ?_
                  refine a_aloadn (pc := 88) dX7_film_88 rfl rfl ?_
                  refine a_iloadn (pc := 89) dX7_film_89 rfl rfl ?_
                  obtain ⟨r28, S26, hc27, hs⟩ := g_bind2 hs
                  refine a_invVi (pc := 90) (ok_X7_landOf hc27) gyX7_landOf vyX7_landOf mlX7_93 sh_47 rfl (As := [.int x1]) rfl rfl (by decide) (st := [.int ((((24 : Int32) * x3) + x5) + x7), .ref (gad X 59)]) rfl (Nat.le_of_ble_eq_true rfl) dX7_film_90 ?_
                  refine a_i2l (pc := 93) dX7_film_93 ?_
                  obtain ⟨hi29, hs⟩ := g_if hs
                  refine a_last (pc := 94) sh_59 hi29 dX7_film_94 ?_
                  obtain ⟨S30, eS30, hs⟩ := g_let hs
                  refine a_nmS eS30 ?_
                  refine a_iinc (pc := 95) dX7_film_95 rfl (v := x7 + (1 : Int32)) rfl (Nat.le_of_ble_eq_true rfl) rfl (L' := [some (.ref (gad X 47)), some (.int x1), some (.int x2), some (.int x3), none, some (.int x5), none, some (.int (x7 + (1 : Int32)))]) rfl ?_
                  refine a_goto (pc := 98) (tgt := 64) dX7_film_98 (by decide) ?_
                  obtain rfl := Option.some.inj hs
                  exact ih _ _ _ _ _ _ hR
            exact lp _ _ _ _ _ _ _ hR31
          · rw [if_neg c20] at h
            refine a_iload (pc := 54) dX7_film_54 rfl ?_
            obtain ⟨rfl, rfl⟩ := Prod.mk.inj (Option.some.inj h)
            exact a_iret hp dX7_film_56
        · rw [if_pos c16] at h
          refine a_iconst (pc := 35) (v := (-1 : Int32)) dX7_film_35 (by decide) ?_
          obtain ⟨rfl, rfl⟩ := Prod.mk.inj (Option.some.inj h)
          exact a_iret hp dX7_film_36
theorem dX7_sheet_0 : decode cX7_sheet 0 = .ok (.iload_n 1, 1) := by decide +kernel
theorem dX7_sheet_1 : decode cX7_sheet 1 = .ok (.invokestatic 201, 3) := by decide +kernel
theorem dX7_sheet_4 : decode cX7_sheet 4 = .ok (.ifCond .eq 16, 3) := by decide +kernel
theorem dX7_sheet_7 : decode cX7_sheet 7 = .ok (.iload_n 2, 1) := by decide +kernel
theorem dX7_sheet_8 : decode cX7_sheet 8 = .ok (.invokestatic 204, 3) := by decide +kernel
theorem dX7_sheet_11 : decode cX7_sheet 11 = .ok (.ifCond .eq 9, 3) := by decide +kernel
theorem dX7_sheet_14 : decode cX7_sheet 14 = .ok (.iload_n 3, 1) := by decide +kernel
theorem dX7_sheet_15 : decode cX7_sheet 15 = .ok (.bipush 24, 2) := by decide +kernel
theorem dX7_sheet_17 : decode cX7_sheet 17 = .ok (.if_icmp .le 5, 3) := by decide +kernel
theorem dX7_sheet_20 : decode cX7_sheet 20 = .ok (.iconst (-1), 1) := by decide +kernel
theorem dX7_sheet_21 : decode cX7_sheet 21 = .ok (.ireturn, 1) := by decide +kernel
theorem dX7_sheet_22 : decode cX7_sheet 22 = .ok (.iload_n 3, 1) := by decide +kernel
theorem dX7_sheet_23 : decode cX7_sheet 23 = .ok (.ifCond .ge 6, 3) := by decide +kernel
theorem dX7_sheet_26 : decode cX7_sheet 26 = .ok (.bipush (-14), 2) := by decide +kernel
theorem dX7_sheet_28 : decode cX7_sheet 28 = .ok (.ireturn, 1) := by decide +kernel
theorem dX7_sheet_29 : decode cX7_sheet 29 = .ok (.aload_n 0, 1) := by decide +kernel
theorem dX7_sheet_30 : decode cX7_sheet 30 = .ok (.getfield 38, 3) := by decide +kernel
theorem dX7_sheet_33 : decode cX7_sheet 33 = .ok (.iload_n 1, 1) := by decide +kernel
theorem dX7_sheet_34 : decode cX7_sheet 34 = .ok (.iload_n 2, 1) := by decide +kernel
theorem dX7_sheet_35 : decode cX7_sheet 35 = .ok (.iastore, 1) := by decide +kernel
theorem dX7_sheet_36 : decode cX7_sheet 36 = .ok (.aload_n 0, 1) := by decide +kernel
theorem dX7_sheet_37 : decode cX7_sheet 37 = .ok (.getfield 41, 3) := by decide +kernel
theorem dX7_sheet_40 : decode cX7_sheet 40 = .ok (.iload_n 1, 1) := by decide +kernel
theorem dX7_sheet_41 : decode cX7_sheet 41 = .ok (.iload_n 3, 1) := by decide +kernel
theorem dX7_sheet_42 : decode cX7_sheet 42 = .ok (.iastore, 1) := by decide +kernel
theorem dX7_sheet_43 : decode cX7_sheet 43 = .ok (.iconst 0, 1) := by decide +kernel
theorem dX7_sheet_44 : decode cX7_sheet 44 = .ok (.istore 4, 2) := by decide +kernel
theorem dX7_sheet_46 : decode cX7_sheet 46 = .ok (.iload 4, 2) := by decide +kernel
theorem dX7_sheet_48 : decode cX7_sheet 48 = .ok (.bipush 24, 2) := by decide +kernel
theorem dX7_sheet_50 : decode cX7_sheet 50 = .ok (.if_icmp .ge 22, 3) := by decide +kernel
theorem dX7_sheet_53 : decode cX7_sheet 53 = .ok (.aload_n 0, 1) := by decide +kernel
theorem dX7_sheet_54 : decode cX7_sheet 54 = .ok (.getfield 44, 3) := by decide +kernel
theorem dX7_sheet_57 : decode cX7_sheet 57 = .ok (.bipush 24, 2) := by decide +kernel
theorem dX7_sheet_59 : decode cX7_sheet 59 = .ok (.iload_n 1, 1) := by decide +kernel
theorem dX7_sheet_60 : decode cX7_sheet 60 = .ok (.imul, 1) := by decide +kernel
theorem dX7_sheet_61 : decode cX7_sheet 61 = .ok (.iload 4, 2) := by decide +kernel
theorem dX7_sheet_63 : decode cX7_sheet 63 = .ok (.iadd, 1) := by decide +kernel
theorem dX7_sheet_64 : decode cX7_sheet 64 = .ok (.lconst 0, 1) := by decide +kernel
theorem dX7_sheet_65 : decode cX7_sheet 65 = .ok (.lastore, 1) := by decide +kernel
theorem dX7_sheet_66 : decode cX7_sheet 66 = .ok (.iinc 4 1, 3) := by decide +kernel
theorem dX7_sheet_69 : decode cX7_sheet 69 = .ok (.goto (-23), 3) := by decide +kernel
theorem dX7_sheet_72 : decode cX7_sheet 72 = .ok (.iload_n 3, 1) := by decide +kernel
theorem dX7_sheet_73 : decode cX7_sheet 73 = .ok (.ireturn, 1) := by decide +kernel
def f_X7_sheet_s46_b (x1 : Int32) (x3 : Int32) (x4 : Int32) (S : gSt) : Option ((Int32 × Int32 × Int32 × gSt) ⊕ (Int32 × gSt)) :=
(if (24 : Int32) ≤ x4 then
some (.inr (x3, S))
else
if gin (((24 : Int32) * x1) + x4) 96 then
gLet (gJ S 59 (((24 : Int32) * x1) + x4).toNatClampNeg (0 : Int64)) fun S17 =>
(some (.inl (x1, x3, x4 + (1 : Int32), S17))) else none)
def f_X7_sheet_s46 : (Int32 × Int32 × Int32 × gSt) → Option ((Int32 × Int32 × Int32 × gSt) ⊕ (Int32 × gSt)) := fun t => f_X7_sheet_s46_b t.1 t.2.1 t.2.2.1 t.2.2.2
def f_X7_sheet (p1 : Int32) (p2 : Int32) (p3 : Int32) (S : gSt) : Option (Int32 × gSt) :=
gBind2 (f_X7_isSheet p1 S) fun r3 S1 =>
(if r3 = 0 then
some ((-1 : Int32), S1)
else
gBind2 (f_X7_isLane p2 S1) fun r7 S5 =>
(if r7 = 0 then
some ((-1 : Int32), S5)
else
(if p3 ≤ (24 : Int32) then
(if 0 ≤ p3 then
if gin p1 4 then
gLet (gI S5 57 p1.toNatClampNeg p2) fun S12 =>
(if gin p1 4 then
gLet (gI S12 58 p1.toNatClampNeg p3) fun S14 =>
((gLoop (f_X7_sheet_s46) gFuel (p1, p3, (0 : Int32), S14)).bind fun q18 => match q18 with
| (y3_18, S18) =>
some (y3_18, S18)) else none) else none
else
some ((-14 : Int32), S5))
else
some ((-1 : Int32), S5))))
set_option maxHeartbeats 4000000 in
set_option maxRecDepth 20000 in
theorem ok_X7_sheet {p1 : Int32} {p2 : Int32} {p3 : Int32} {S S0 : gSt} {r0 : Int32}  (h : f_X7_sheet p1 p2 p3 S = some (r0, S0)) : gCT yX7_sheet cX7_sheet 5 (some .int) 2 (fun w => [.ref (w.2.1 47), .int p1, .int p2, .int p3]) S (some (.int r0)) S0 := by
  refine gEnter (fun X => [some (.ref (gad X 47)), some (.int p1), some (.int p2), some (.int p3), none]) (by decide) (fun X => ⟨rfl, rfl⟩) (fun w => Nat.le_of_ble_eq_true rfl) (fun X hp => ?_)
  show AW X RX7 2 cX7_sheet 0 [some (.ref (gad X 47)), some (.int p1), some (.int p2), some (.int p3), none] [] S
  unfold f_X7_sheet at h
  refine a_iloadn (pc := 0) dX7_sheet_0 rfl rfl ?_
  obtain ⟨r3, S1, hc2, h⟩ := g_bind2 h
  refine a_invSi (pc := 1) (ok_X7_isSheet hc2) gyX7_isSheet syX7_isSheet mlX7_201 (As := [.int p1]) rfl rfl (by decide) (st := []) rfl (Nat.le_of_ble_eq_true rfl) dX7_sheet_1 ?_
  refine a_if_eq (pc := 4) (tgt := 20) dX7_sheet_4 (by decide) (fun c4 => ?_) (fun c4 => ?_)
  · rw [if_pos c4] at h
    refine a_iconst (pc := 20) (v := (-1 : Int32)) dX7_sheet_20 (by decide) ?_
    obtain ⟨rfl, rfl⟩ := Prod.mk.inj (Option.some.inj h)
    exact a_iret hp dX7_sheet_21
  · rw [if_neg c4] at h
    refine a_iloadn (pc := 7) dX7_sheet_7 rfl rfl ?_
    obtain ⟨r7, S5, hc6, h⟩ := g_bind2 h
    refine a_invSi (pc := 8) (ok_X7_isLane hc6) gyX7_isLane syX7_isLane mlX7_204 (As := [.int p2]) rfl rfl (by decide) (st := []) rfl (Nat.le_of_ble_eq_true rfl) dX7_sheet_8 ?_
    refine a_if_eq (pc := 11) (tgt := 20) dX7_sheet_11 (by decide) (fun c8 => ?_) (fun c8 => ?_)
    · rw [if_pos c8] at h
      refine a_iconst (pc := 20) (v := (-1 : Int32)) dX7_sheet_20 (by decide) ?_
      obtain ⟨rfl, rfl⟩ := Prod.mk.inj (Option.some.inj h)
      exact a_iret hp dX7_sheet_21
    · rw [if_neg c8] at h
      refine a_iloadn (pc := 14) dX7_sheet_14 rfl rfl ?_
      refine a_bipush (pc := 15) (v := (24 : Int32)) dX7_sheet_15 (by decide) ?_
      refine a_icmp_le (pc := 17) (tgt := 22) dX7_sheet_17 (by decide) (fun c9 => ?_) (fun c9 => ?_)
      · rw [if_pos c9] at h
        refine a_iloadn (pc := 22) dX7_sheet_22 rfl rfl ?_
        refine a_if_ge (pc := 23) (tgt := 29) dX7_sheet_23 (by decide) (fun c10 => ?_) (fun c10 => ?_)
        · rw [if_pos c10] at h
          refine a_aloadn (pc := 29) dX7_sheet_29 rfl rfl ?_
          refine a_getA (pc := 30) flX7_38 sh_47 rfl dX7_sheet_30 ?_
          refine a_iloadn (pc := 33) dX7_sheet_33 rfl rfl ?_
          refine a_iloadn (pc := 34) dX7_sheet_34 rfl rfl ?_
          obtain ⟨hi11, h⟩ := g_if h
          refine a_iast (pc := 35) sh_57 hi11 dX7_sheet_35 ?_
          obtain ⟨S12, eS12, h⟩ := g_let h
          refine a_nmS eS12 ?_
          refine a_aloadn (pc := 36) dX7_sheet_36 rfl rfl ?_
          refine a_getA (pc := 37) flX7_41 sh_47 rfl dX7_sheet_37 ?_
          refine a_iloadn (pc := 40) dX7_sheet_40 rfl rfl ?_
          refine a_iloadn (pc := 41) dX7_sheet_41 rfl rfl ?_
          obtain ⟨hi13, h⟩ := g_if h
          refine a_iast (pc := 42) sh_58 hi13 dX7_sheet_42 ?_
          obtain ⟨S14, eS14, h⟩ := g_let h
          refine a_nmS eS14 ?_
          refine a_iconst (pc := 43) (v := (0 : Int32)) dX7_sheet_43 (by decide) ?_
          refine a_istore (pc := 44) dX7_sheet_44 (Nat.le_of_ble_eq_true rfl) rfl (L' := [some (.ref (gad X 47)), some (.int p1), some (.int p2), some (.int p3), some (.int (0 : Int32))]) rfl ?_
          obtain ⟨R18, hR18, h⟩ := g_bind h
          refine a_mask [true, true, false, true, true] (L' := [some (.ref (gad X 47)), some (.int p1), none, some (.int p3), some (.int (0 : Int32))]) rfl ?_
          have E46 : ∀ (y3_18 : Int32) (S18 : gSt), (some (y3_18, S18)) = some (r0, S0) → AW X RX7 2 cX7_sheet 72 [none, none, none, some (.int y3_18), none] [] S18 := by
            intro y3_18 S18 h
            refine a_iloadn (pc := 72) dX7_sheet_72 rfl rfl ?_
            obtain ⟨rfl, rfl⟩ := Prod.mk.inj (Option.some.inj h)
            exact a_iret hp dX7_sheet_73
          have lp : ∀ (n : Nat) (x1 : Int32) (x3 : Int32) (x4 : Int32) (S : gSt), gLoop (f_X7_sheet_s46) n (x1, x3, x4, S) = some R18 → AW X RX7 2 cX7_sheet 46 [some (.ref (gad X 47)), some (.int x1), none, some (.int x3), some (.int x4)] [] S := by
            intro n
            induction n with
            | zero => intro x1 x3 x4 S hR; cases hR
            | succ n ih =>
              intro x1 x3 x4 S hR
              obtain ⟨q, hs, hR⟩ := g_bind hR
              have hs : f_X7_sheet_s46_b x1 x3 x4 S = some q := hs
              unfold f_X7_sheet_s46_b at hs
              refine a_iload (pc := 46) dX7_sheet_46 rfl ?_
              refine a_bipush (pc := 48) (v := (24 : Int32)) dX7_sheet_48 (by decide) ?_
              refine a_icmp_ge (pc := 50) (tgt := 72) dX7_sheet_50 (by decide) (fun c15 => ?_) (fun c15 => ?_)
              · rw [if_pos c15] at hs
                obtain rfl := Option.some.inj hs
                obtain rfl := Option.some.inj hR
                refine a_mask [false, false, true, true, false] (L' := [none, none, none, some (.int x3), none]) rfl ?_
                exact E46 _ _ h
              · rw [if_neg c15] at hs
                refine a_aloadn (pc := 53) dX7_sheet_53 rfl rfl ?_
                refine a_getA (pc := 54) flX7_44 sh_47 rfl dX7_sheet_54 ?_
                refine a_bipush (pc := 57) (v := (24 : Int32)) dX7_sheet_57 (by decide) ?_
                refine a_iloadn (pc := 59) dX7_sheet_59 rfl rfl ?_
                refine a_imul (pc := 60) dX7_sheet_60 ?_
                refine a_iload (pc := 61) dX7_sheet_61 rfl ?_
                refine a_iadd (pc := 63) dX7_sheet_63 ?_
                refine a_lconst (pc := 64) (v := (0 : Int64)) dX7_sheet_64 (by decide) ?_
                obtain ⟨hi16, hs⟩ := g_if hs
                refine a_last (pc := 65) sh_59 hi16 dX7_sheet_65 ?_
                obtain ⟨S17, eS17, hs⟩ := g_let hs
                refine a_nmS eS17 ?_
                refine a_iinc (pc := 66) dX7_sheet_66 rfl (v := x4 + (1 : Int32)) rfl (Nat.le_of_ble_eq_true rfl) rfl (L' := [some (.ref (gad X 47)), some (.int x1), none, some (.int x3), some (.int (x4 + (1 : Int32)))]) rfl ?_
                refine a_goto (pc := 69) (tgt := 46) dX7_sheet_69 (by decide) ?_
                obtain rfl := Option.some.inj hs
                exact ih _ _ _ _ hR
          exact lp _ _ _ _ _ hR18
        · rw [if_neg c10] at h
          refine a_bipush (pc := 26) (v := (-14 : Int32)) dX7_sheet_26 (by decide) ?_
          obtain ⟨rfl, rfl⟩ := Prod.mk.inj (Option.some.inj h)
          exact a_iret hp dX7_sheet_28
      · rw [if_neg c9] at h
        refine a_iconst (pc := 20) (v := (-1 : Int32)) dX7_sheet_20 (by decide) ?_
        obtain ⟨rfl, rfl⟩ := Prod.mk.inj (Option.some.inj h)
        exact a_iret hp dX7_sheet_21
theorem dX7_drop_0 : decode cX7_drop 0 = .ok (.iload_n 1, 1) := by decide +kernel
theorem dX7_drop_1 : decode cX7_drop 1 = .ok (.invokestatic 201, 3) := by decide +kernel
theorem dX7_drop_4 : decode cX7_drop 4 = .ok (.ifCond .ne 5, 3) := by decide +kernel
theorem dX7_drop_7 : decode cX7_drop 7 = .ok (.iconst (-1), 1) := by decide +kernel
theorem dX7_drop_8 : decode cX7_drop 8 = .ok (.ireturn, 1) := by decide +kernel
theorem dX7_drop_9 : decode cX7_drop 9 = .ok (.aload_n 0, 1) := by decide +kernel
theorem dX7_drop_10 : decode cX7_drop 10 = .ok (.getfield 38, 3) := by decide +kernel
theorem dX7_drop_13 : decode cX7_drop 13 = .ok (.iload_n 1, 1) := by decide +kernel
theorem dX7_drop_14 : decode cX7_drop 14 = .ok (.iaload, 1) := by decide +kernel
theorem dX7_drop_15 : decode cX7_drop 15 = .ok (.ifCond .ge 6, 3) := by decide +kernel
theorem dX7_drop_18 : decode cX7_drop 18 = .ok (.bipush (-11), 2) := by decide +kernel
theorem dX7_drop_20 : decode cX7_drop 20 = .ok (.ireturn, 1) := by decide +kernel
theorem dX7_drop_21 : decode cX7_drop 21 = .ok (.aload_n 0, 1) := by decide +kernel
theorem dX7_drop_22 : decode cX7_drop 22 = .ok (.getfield 38, 3) := by decide +kernel
theorem dX7_drop_25 : decode cX7_drop 25 = .ok (.iload_n 1, 1) := by decide +kernel
theorem dX7_drop_26 : decode cX7_drop 26 = .ok (.iconst (-1), 1) := by decide +kernel
theorem dX7_drop_27 : decode cX7_drop 27 = .ok (.iastore, 1) := by decide +kernel
theorem dX7_drop_28 : decode cX7_drop 28 = .ok (.aload_n 0, 1) := by decide +kernel
theorem dX7_drop_29 : decode cX7_drop 29 = .ok (.getfield 41, 3) := by decide +kernel
theorem dX7_drop_32 : decode cX7_drop 32 = .ok (.iload_n 1, 1) := by decide +kernel
theorem dX7_drop_33 : decode cX7_drop 33 = .ok (.iaload, 1) := by decide +kernel
theorem dX7_drop_34 : decode cX7_drop 34 = .ok (.ireturn, 1) := by decide +kernel
def f_X7_drop (p1 : Int32) (S : gSt) : Option (Int32 × gSt) :=
gBind2 (f_X7_isSheet p1 S) fun r3 S1 =>
(if r3 = 0 then
some ((-1 : Int32), S1)
else
if gin p1 4 then
((if 0 ≤ (S1.1 57 p1.toNatClampNeg) then
if gin p1 4 then
gLet (gI S1 57 p1.toNatClampNeg (-1 : Int32)) fun S8 =>
(if gin p1 4 then
(some (S8.1 58 p1.toNatClampNeg, S8)) else none) else none
else
some ((-11 : Int32), S1))) else none)
set_option maxHeartbeats 4000000 in
set_option maxRecDepth 20000 in
theorem ok_X7_drop {p1 : Int32} {S S0 : gSt} {r0 : Int32}  (h : f_X7_drop p1 S = some (r0, S0)) : gCT yX7_drop cX7_drop 2 (some .int) 2 (fun w => [.ref (w.2.1 47), .int p1]) S (some (.int r0)) S0 := by
  refine gEnter (fun X => [some (.ref (gad X 47)), some (.int p1)]) (by decide) (fun X => ⟨rfl, rfl⟩) (fun w => Nat.le_of_ble_eq_true rfl) (fun X hp => ?_)
  show AW X RX7 2 cX7_drop 0 [some (.ref (gad X 47)), some (.int p1)] [] S
  unfold f_X7_drop at h
  refine a_iloadn (pc := 0) dX7_drop_0 rfl rfl ?_
  obtain ⟨r3, S1, hc2, h⟩ := g_bind2 h
  refine a_invSi (pc := 1) (ok_X7_isSheet hc2) gyX7_isSheet syX7_isSheet mlX7_201 (As := [.int p1]) rfl rfl (by decide) (st := []) rfl (Nat.le_of_ble_eq_true rfl) dX7_drop_1 ?_
  refine a_if_ne (pc := 4) (tgt := 9) dX7_drop_4 (by decide) (fun c4 => ?_) (fun c4 => ?_)
  · rw [if_neg c4] at h
    refine a_aloadn (pc := 9) dX7_drop_9 rfl rfl ?_
    refine a_getA (pc := 10) flX7_38 sh_47 rfl dX7_drop_10 ?_
    refine a_iloadn (pc := 13) dX7_drop_13 rfl rfl ?_
    obtain ⟨hi5, h⟩ := g_if h
    refine a_iald (pc := 14) sh_57 hi5 dX7_drop_14 ?_
    refine a_if_ge (pc := 15) (tgt := 21) dX7_drop_15 (by decide) (fun c6 => ?_) (fun c6 => ?_)
    · rw [if_pos c6] at h
      refine a_aloadn (pc := 21) dX7_drop_21 rfl rfl ?_
      refine a_getA (pc := 22) flX7_38 sh_47 rfl dX7_drop_22 ?_
      refine a_iloadn (pc := 25) dX7_drop_25 rfl rfl ?_
      refine a_iconst (pc := 26) (v := (-1 : Int32)) dX7_drop_26 (by decide) ?_
      obtain ⟨hi7, h⟩ := g_if h
      refine a_iast (pc := 27) sh_57 hi7 dX7_drop_27 ?_
      obtain ⟨S8, eS8, h⟩ := g_let h
      refine a_nmS eS8 ?_
      refine a_aloadn (pc := 28) dX7_drop_28 rfl rfl ?_
      refine a_getA (pc := 29) flX7_41 sh_47 rfl dX7_drop_29 ?_
      refine a_iloadn (pc := 32) dX7_drop_32 rfl rfl ?_
      obtain ⟨hi9, h⟩ := g_if h
      refine a_iald (pc := 33) sh_58 hi9 dX7_drop_33 ?_
      obtain ⟨rfl, rfl⟩ := Prod.mk.inj (Option.some.inj h)
      exact a_iret hp dX7_drop_34
    · rw [if_neg c6] at h
      refine a_bipush (pc := 18) (v := (-11 : Int32)) dX7_drop_18 (by decide) ?_
      obtain ⟨rfl, rfl⟩ := Prod.mk.inj (Option.some.inj h)
      exact a_iret hp dX7_drop_20
  · rw [if_pos c4] at h
    refine a_iconst (pc := 7) (v := (-1 : Int32)) dX7_drop_7 (by decide) ?_
    obtain ⟨rfl, rfl⟩ := Prod.mk.inj (Option.some.inj h)
    exact a_iret hp dX7_drop_8
theorem dX7_item_0 : decode cX7_item 0 = .ok (.iload_n 1, 1) := by decide +kernel
theorem dX7_item_1 : decode cX7_item 1 = .ok (.invokestatic 201, 3) := by decide +kernel
theorem dX7_item_4 : decode cX7_item 4 = .ok (.ifCond .eq 10, 3) := by decide +kernel
theorem dX7_item_7 : decode cX7_item 7 = .ok (.iload_n 2, 1) := by decide +kernel
theorem dX7_item_8 : decode cX7_item 8 = .ok (.invokestatic 204, 3) := by decide +kernel
theorem dX7_item_11 : decode cX7_item 11 = .ok (.ifCond .ne 5, 3) := by decide +kernel
theorem dX7_item_14 : decode cX7_item 14 = .ok (.iconst (-1), 1) := by decide +kernel
theorem dX7_item_15 : decode cX7_item 15 = .ok (.ireturn, 1) := by decide +kernel
theorem dX7_item_16 : decode cX7_item 16 = .ok (.aload_n 0, 1) := by decide +kernel
theorem dX7_item_17 : decode cX7_item 17 = .ok (.iload_n 1, 1) := by decide +kernel
theorem dX7_item_18 : decode cX7_item 18 = .ok (.iload_n 2, 1) := by decide +kernel
theorem dX7_item_19 : decode cX7_item 19 = .ok (.iload_n 3, 1) := by decide +kernel
theorem dX7_item_20 : decode cX7_item 20 = .ok (.iconst 1, 1) := by decide +kernel
theorem dX7_item_21 : decode cX7_item 21 = .ok (.invokevirtual 207, 3) := by decide +kernel
theorem dX7_item_24 : decode cX7_item 24 = .ok (.istore 6, 2) := by decide +kernel
theorem dX7_item_26 : decode cX7_item 26 = .ok (.iload 6, 2) := by decide +kernel
theorem dX7_item_28 : decode cX7_item 28 = .ok (.ifCond .ge 6, 3) := by decide +kernel
theorem dX7_item_31 : decode cX7_item 31 = .ok (.iload 6, 2) := by decide +kernel
theorem dX7_item_33 : decode cX7_item 33 = .ok (.ireturn, 1) := by decide +kernel
theorem dX7_item_34 : decode cX7_item 34 = .ok (.aload_n 0, 1) := by decide +kernel
theorem dX7_item_35 : decode cX7_item 35 = .ok (.getfield 44, 3) := by decide +kernel
theorem dX7_item_38 : decode cX7_item 38 = .ok (.bipush 24, 2) := by decide +kernel
theorem dX7_item_40 : decode cX7_item 40 = .ok (.iload_n 1, 1) := by decide +kernel
theorem dX7_item_41 : decode cX7_item 41 = .ok (.imul, 1) := by decide +kernel
theorem dX7_item_42 : decode cX7_item 42 = .ok (.iload_n 3, 1) := by decide +kernel
theorem dX7_item_43 : decode cX7_item 43 = .ok (.iadd, 1) := by decide +kernel
theorem dX7_item_44 : decode cX7_item 44 = .ok (.iload_n 2, 1) := by decide +kernel
theorem dX7_item_45 : decode cX7_item 45 = .ok (.ifCond .ne 11, 3) := by decide +kernel
theorem dX7_item_48 : decode cX7_item 48 = .ok (.lload 4, 2) := by decide +kernel
theorem dX7_item_50 : decode cX7_item 50 = .ok (.l2i, 1) := by decide +kernel
theorem dX7_item_51 : decode cX7_item 51 = .ok (.i2b, 1) := by decide +kernel
theorem dX7_item_52 : decode cX7_item 52 = .ok (.i2l, 1) := by decide +kernel
theorem dX7_item_53 : decode cX7_item 53 = .ok (.goto 30, 3) := by decide +kernel
theorem dX7_item_56 : decode cX7_item 56 = .ok (.iload_n 2, 1) := by decide +kernel
theorem dX7_item_57 : decode cX7_item 57 = .ok (.iconst 1, 1) := by decide +kernel
theorem dX7_item_58 : decode cX7_item 58 = .ok (.if_icmp .ne 11, 3) := by decide +kernel
theorem dX7_item_61 : decode cX7_item 61 = .ok (.lload 4, 2) := by decide +kernel
theorem dX7_item_63 : decode cX7_item 63 = .ok (.l2i, 1) := by decide +kernel
theorem dX7_item_64 : decode cX7_item 64 = .ok (.i2s, 1) := by decide +kernel
theorem dX7_item_65 : decode cX7_item 65 = .ok (.i2l, 1) := by decide +kernel
theorem dX7_item_66 : decode cX7_item 66 = .ok (.goto 17, 3) := by decide +kernel
theorem dX7_item_69 : decode cX7_item 69 = .ok (.iload_n 2, 1) := by decide +kernel
theorem dX7_item_70 : decode cX7_item 70 = .ok (.iconst 2, 1) := by decide +kernel
theorem dX7_item_71 : decode cX7_item 71 = .ok (.if_icmp .ne 10, 3) := by decide +kernel
theorem dX7_item_74 : decode cX7_item 74 = .ok (.lload 4, 2) := by decide +kernel
theorem dX7_item_76 : decode cX7_item 76 = .ok (.l2i, 1) := by decide +kernel
theorem dX7_item_77 : decode cX7_item 77 = .ok (.i2l, 1) := by decide +kernel
theorem dX7_item_78 : decode cX7_item 78 = .ok (.goto 5, 3) := by decide +kernel
theorem dX7_item_81 : decode cX7_item 81 = .ok (.lload 4, 2) := by decide +kernel
theorem dX7_item_83 : decode cX7_item 83 = .ok (.lastore, 1) := by decide +kernel
theorem dX7_item_84 : decode cX7_item 84 = .ok (.iconst 1, 1) := by decide +kernel
theorem dX7_item_85 : decode cX7_item 85 = .ok (.ireturn, 1) := by decide +kernel
def f_X7_item (p1 : Int32) (p2 : Int32) (p3 : Int32) (p4 : Int64) (S : gSt) : Option (Int32 × gSt) :=
gBind2 (f_X7_isSheet p1 S) fun r3 S1 =>
(if r3 = 0 then
some ((-1 : Int32), S1)
else
gBind2 (f_X7_isLane p2 S1) fun r7 S5 =>
(if r7 = 0 then
some ((-1 : Int32), S5)
else
gBind2 (f_X7_why p1 p2 p3 (1 : Int32) S5) fun r11 S9 =>
(if 0 ≤ r11 then
(if p2 = 0 then
if gin (((24 : Int32) * p1) + p3) 96 then
gLet (gJ S9 59 (((24 : Int32) * p1) + p3).toNatClampNeg (((p4.toInt32).toInt8.toInt32).toInt64)) fun S23 =>
(some ((1 : Int32), S23)) else none
else
(if p2 = (1 : Int32) then
if gin (((24 : Int32) * p1) + p3) 96 then
gLet (gJ S9 59 (((24 : Int32) * p1) + p3).toNatClampNeg (((p4.toInt32).toInt16.toInt32).toInt64)) fun S21 =>
(some ((1 : Int32), S21)) else none
else
(if p2 = (2 : Int32) then
if gin (((24 : Int32) * p1) + p3) 96 then
gLet (gJ S9 59 (((24 : Int32) * p1) + p3).toNatClampNeg ((p4.toInt32).toInt64)) fun S19 =>
(some ((1 : Int32), S19)) else none
else
if gin (((24 : Int32) * p1) + p3) 96 then
gLet (gJ S9 59 (((24 : Int32) * p1) + p3).toNatClampNeg p4) fun S17 =>
(some ((1 : Int32), S17)) else none)))
else
some (r11, S9))))
set_option maxHeartbeats 4000000 in
set_option maxRecDepth 20000 in
theorem ok_X7_item {p1 : Int32} {p2 : Int32} {p3 : Int32} {p4 : Int64} {S S0 : gSt} {r0 : Int32}  (h : f_X7_item p1 p2 p3 p4 S = some (r0, S0)) : gCT yX7_item cX7_item 7 (some .int) 2 (fun w => [.ref (w.2.1 47), .int p1, .int p2, .int p3, .long p4]) S (some (.int r0)) S0 := by
  refine gEnter (fun X => [some (.ref (gad X 47)), some (.int p1), some (.int p2), some (.int p3), some (.long p4), none, none]) (by decide) (fun X => ⟨rfl, rfl⟩) (fun w => Nat.le_of_ble_eq_true rfl) (fun X hp => ?_)
  show AW X RX7 2 cX7_item 0 [some (.ref (gad X 47)), some (.int p1), some (.int p2), some (.int p3), some (.long p4), none, none] [] S
  unfold f_X7_item at h
  refine a_iloadn (pc := 0) dX7_item_0 rfl rfl ?_
  obtain ⟨r3, S1, hc2, h⟩ := g_bind2 h
  refine a_invSi (pc := 1) (ok_X7_isSheet hc2) gyX7_isSheet syX7_isSheet mlX7_201 (As := [.int p1]) rfl rfl (by decide) (st := []) rfl (Nat.le_of_ble_eq_true rfl) dX7_item_1 ?_
  refine a_if_eq (pc := 4) (tgt := 14) dX7_item_4 (by decide) (fun c4 => ?_) (fun c4 => ?_)
  · rw [if_pos c4] at h
    refine a_iconst (pc := 14) (v := (-1 : Int32)) dX7_item_14 (by decide) ?_
    obtain ⟨rfl, rfl⟩ := Prod.mk.inj (Option.some.inj h)
    exact a_iret hp dX7_item_15
  · rw [if_neg c4] at h
    refine a_iloadn (pc := 7) dX7_item_7 rfl rfl ?_
    obtain ⟨r7, S5, hc6, h⟩ := g_bind2 h
    refine a_invSi (pc := 8) (ok_X7_isLane hc6) gyX7_isLane syX7_isLane mlX7_204 (As := [.int p2]) rfl rfl (by decide) (st := []) rfl (Nat.le_of_ble_eq_true rfl) dX7_item_8 ?_
    refine a_if_ne (pc := 11) (tgt := 16) dX7_item_11 (by decide) (fun c8 => ?_) (fun c8 => ?_)
    · rw [if_neg c8] at h
      refine a_aloadn (pc := 16) dX7_item_16 rfl rfl ?_
      refine a_iloadn (pc := 17) dX7_item_17 rfl rfl ?_
      refine a_iloadn (pc := 18) dX7_item_18 rfl rfl ?_
      refine a_iloadn (pc := 19) dX7_item_19 rfl rfl ?_
      refine a_iconst (pc := 20) (v := (1 : Int32)) dX7_item_20 (by decide) ?_
      obtain ⟨r11, S9, hc10, h⟩ := g_bind2 h
      refine a_invVi (pc := 21) (ok_X7_why hc10) gyX7_why vyX7_why mlX7_207 sh_47 rfl (As := [.int p1, .int p2, .int p3, .int (1 : Int32)]) rfl rfl (by decide) (st := []) rfl (Nat.le_of_ble_eq_true rfl) dX7_item_21 ?_
      refine a_istore (pc := 24) dX7_item_24 (Nat.le_of_ble_eq_true rfl) rfl (L' := [some (.ref (gad X 47)), some (.int p1), some (.int p2), some (.int p3), some (.long p4), none, some (.int r11)]) rfl ?_
      refine a_iload (pc := 26) dX7_item_26 rfl ?_
      refine a_if_ge (pc := 28) (tgt := 34) dX7_item_28 (by decide) (fun c12 => ?_) (fun c12 => ?_)
      · rw [if_pos c12] at h
        refine a_aloadn (pc := 34) dX7_item_34 rfl rfl ?_
        refine a_getA (pc := 35) flX7_44 sh_47 rfl dX7_item_35 ?_
        refine a_bipush (pc := 38) (v := (24 : Int32)) dX7_item_38 (by decide) ?_
        refine a_iloadn (pc := 40) dX7_item_40 rfl rfl ?_
        refine a_imul (pc := 41) dX7_item_41 ?_
        refine a_iloadn (pc := 42) dX7_item_42 rfl rfl ?_
        refine a_iadd (pc := 43) dX7_item_43 ?_
        refine a_iloadn (pc := 44) dX7_item_44 rfl rfl ?_
        refine a_if_ne (pc := 45) (tgt := 56) dX7_item_45 (by decide) (fun c13 => ?_) (fun c13 => ?_)
        · rw [if_neg c13] at h
          refine a_iloadn (pc := 56) dX7_item_56 rfl rfl ?_
          refine a_iconst (pc := 57) (v := (1 : Int32)) dX7_item_57 (by decide) ?_
          refine a_icmp_ne (pc := 58) (tgt := 69) dX7_item_58 (by decide) (fun c14 => ?_) (fun c14 => ?_)
          · rw [if_neg c14] at h
            refine a_iloadn (pc := 69) dX7_item_69 rfl rfl ?_
            refine a_iconst (pc := 70) (v := (2 : Int32)) dX7_item_70 (by decide) ?_
            refine a_icmp_ne (pc := 71) (tgt := 81) dX7_item_71 (by decide) (fun c15 => ?_) (fun c15 => ?_)
            · rw [if_neg c15] at h
              refine a_lload (pc := 81) dX7_item_81 rfl ?_
              obtain ⟨hi16, h⟩ := g_if h
              refine a_last (pc := 83) sh_59 hi16 dX7_item_83 ?_
              obtain ⟨S17, eS17, h⟩ := g_let h
              refine a_nmS eS17 ?_
              refine a_iconst (pc := 84) (v := (1 : Int32)) dX7_item_84 (by decide) ?_
              obtain ⟨rfl, rfl⟩ := Prod.mk.inj (Option.some.inj h)
              exact a_iret hp dX7_item_85
            · rw [if_pos c15] at h
              refine a_lload (pc := 74) dX7_item_74 rfl ?_
              refine a_l2i (pc := 76) dX7_item_76 ?_
              refine a_i2l (pc := 77) dX7_item_77 ?_
              refine a_goto (pc := 78) (tgt := 83) dX7_item_78 (by decide) ?_
              obtain ⟨hi18, h⟩ := g_if h
              refine a_last (pc := 83) sh_59 hi18 dX7_item_83 ?_
              obtain ⟨S19, eS19, h⟩ := g_let h
              refine a_nmS eS19 ?_
              refine a_iconst (pc := 84) (v := (1 : Int32)) dX7_item_84 (by decide) ?_
              obtain ⟨rfl, rfl⟩ := Prod.mk.inj (Option.some.inj h)
              exact a_iret hp dX7_item_85
          · rw [if_pos c14] at h
            refine a_lload (pc := 61) dX7_item_61 rfl ?_
            refine a_l2i (pc := 63) dX7_item_63 ?_
            refine a_i2s (pc := 64) dX7_item_64 ?_
            refine a_i2l (pc := 65) dX7_item_65 ?_
            refine a_goto (pc := 66) (tgt := 83) dX7_item_66 (by decide) ?_
            obtain ⟨hi20, h⟩ := g_if h
            refine a_last (pc := 83) sh_59 hi20 dX7_item_83 ?_
            obtain ⟨S21, eS21, h⟩ := g_let h
            refine a_nmS eS21 ?_
            refine a_iconst (pc := 84) (v := (1 : Int32)) dX7_item_84 (by decide) ?_
            obtain ⟨rfl, rfl⟩ := Prod.mk.inj (Option.some.inj h)
            exact a_iret hp dX7_item_85
        · rw [if_pos c13] at h
          refine a_lload (pc := 48) dX7_item_48 rfl ?_
          refine a_l2i (pc := 50) dX7_item_50 ?_
          refine a_i2b (pc := 51) dX7_item_51 ?_
          refine a_i2l (pc := 52) dX7_item_52 ?_
          refine a_goto (pc := 53) (tgt := 83) dX7_item_53 (by decide) ?_
          obtain ⟨hi22, h⟩ := g_if h
          refine a_last (pc := 83) sh_59 hi22 dX7_item_83 ?_
          obtain ⟨S23, eS23, h⟩ := g_let h
          refine a_nmS eS23 ?_
          refine a_iconst (pc := 84) (v := (1 : Int32)) dX7_item_84 (by decide) ?_
          obtain ⟨rfl, rfl⟩ := Prod.mk.inj (Option.some.inj h)
          exact a_iret hp dX7_item_85
      · rw [if_neg c12] at h
        refine a_iload (pc := 31) dX7_item_31 rfl ?_
        obtain ⟨rfl, rfl⟩ := Prod.mk.inj (Option.some.inj h)
        exact a_iret hp dX7_item_33
    · rw [if_pos c8] at h
      refine a_iconst (pc := 14) (v := (-1 : Int32)) dX7_item_14 (by decide) ?_
      obtain ⟨rfl, rfl⟩ := Prod.mk.inj (Option.some.inj h)
      exact a_iret hp dX7_item_15
theorem dX7_copy_0 : decode cX7_copy 0 = .ok (.iload_n 1, 1) := by decide +kernel
theorem dX7_copy_1 : decode cX7_copy 1 = .ok (.invokestatic 201, 3) := by decide +kernel
theorem dX7_copy_4 : decode cX7_copy 4 = .ok (.ifCond .eq 10, 3) := by decide +kernel
theorem dX7_copy_7 : decode cX7_copy 7 = .ok (.iload_n 3, 1) := by decide +kernel
theorem dX7_copy_8 : decode cX7_copy 8 = .ok (.invokestatic 201, 3) := by decide +kernel
theorem dX7_copy_11 : decode cX7_copy 11 = .ok (.ifCond .ne 5, 3) := by decide +kernel
theorem dX7_copy_14 : decode cX7_copy 14 = .ok (.iconst (-1), 1) := by decide +kernel
theorem dX7_copy_15 : decode cX7_copy 15 = .ok (.ireturn, 1) := by decide +kernel
theorem dX7_copy_16 : decode cX7_copy 16 = .ok (.aload_n 0, 1) := by decide +kernel
theorem dX7_copy_17 : decode cX7_copy 17 = .ok (.getfield 38, 3) := by decide +kernel
theorem dX7_copy_20 : decode cX7_copy 20 = .ok (.iload_n 1, 1) := by decide +kernel
theorem dX7_copy_21 : decode cX7_copy 21 = .ok (.iaload, 1) := by decide +kernel
theorem dX7_copy_22 : decode cX7_copy 22 = .ok (.ifCond .lt 12, 3) := by decide +kernel
theorem dX7_copy_25 : decode cX7_copy 25 = .ok (.aload_n 0, 1) := by decide +kernel
theorem dX7_copy_26 : decode cX7_copy 26 = .ok (.getfield 38, 3) := by decide +kernel
theorem dX7_copy_29 : decode cX7_copy 29 = .ok (.iload_n 3, 1) := by decide +kernel
theorem dX7_copy_30 : decode cX7_copy 30 = .ok (.iaload, 1) := by decide +kernel
theorem dX7_copy_31 : decode cX7_copy 31 = .ok (.ifCond .ge 6, 3) := by decide +kernel
theorem dX7_copy_34 : decode cX7_copy 34 = .ok (.bipush (-11), 2) := by decide +kernel
theorem dX7_copy_36 : decode cX7_copy 36 = .ok (.ireturn, 1) := by decide +kernel
theorem dX7_copy_37 : decode cX7_copy 37 = .ok (.aload_n 0, 1) := by decide +kernel
theorem dX7_copy_38 : decode cX7_copy 38 = .ok (.iload_n 3, 1) := by decide +kernel
theorem dX7_copy_39 : decode cX7_copy 39 = .ok (.aload_n 0, 1) := by decide +kernel
theorem dX7_copy_40 : decode cX7_copy 40 = .ok (.getfield 38, 3) := by decide +kernel
theorem dX7_copy_43 : decode cX7_copy 43 = .ok (.iload_n 1, 1) := by decide +kernel
theorem dX7_copy_44 : decode cX7_copy 44 = .ok (.iaload, 1) := by decide +kernel
theorem dX7_copy_45 : decode cX7_copy 45 = .ok (.iload 4, 2) := by decide +kernel
theorem dX7_copy_47 : decode cX7_copy 47 = .ok (.iload 5, 2) := by decide +kernel
theorem dX7_copy_49 : decode cX7_copy 49 = .ok (.invokevirtual 207, 3) := by decide +kernel
theorem dX7_copy_52 : decode cX7_copy 52 = .ok (.istore 6, 2) := by decide +kernel
theorem dX7_copy_54 : decode cX7_copy 54 = .ok (.iload 6, 2) := by decide +kernel
theorem dX7_copy_56 : decode cX7_copy 56 = .ok (.ifCond .ne 20, 3) := by decide +kernel
theorem dX7_copy_59 : decode cX7_copy 59 = .ok (.aload_n 0, 1) := by decide +kernel
theorem dX7_copy_60 : decode cX7_copy 60 = .ok (.iload_n 1, 1) := by decide +kernel
theorem dX7_copy_61 : decode cX7_copy 61 = .ok (.aload_n 0, 1) := by decide +kernel
theorem dX7_copy_62 : decode cX7_copy 62 = .ok (.getfield 38, 3) := by decide +kernel
theorem dX7_copy_65 : decode cX7_copy 65 = .ok (.iload_n 1, 1) := by decide +kernel
theorem dX7_copy_66 : decode cX7_copy 66 = .ok (.iaload, 1) := by decide +kernel
theorem dX7_copy_67 : decode cX7_copy 67 = .ok (.iload_n 2, 1) := by decide +kernel
theorem dX7_copy_68 : decode cX7_copy 68 = .ok (.iload 5, 2) := by decide +kernel
theorem dX7_copy_70 : decode cX7_copy 70 = .ok (.invokevirtual 207, 3) := by decide +kernel
theorem dX7_copy_73 : decode cX7_copy 73 = .ok (.goto 5, 3) := by decide +kernel
theorem dX7_copy_76 : decode cX7_copy 76 = .ok (.iload 6, 2) := by decide +kernel
theorem dX7_copy_78 : decode cX7_copy 78 = .ok (.istore 6, 2) := by decide +kernel
theorem dX7_copy_80 : decode cX7_copy 80 = .ok (.iload 6, 2) := by decide +kernel
theorem dX7_copy_82 : decode cX7_copy 82 = .ok (.ifCond .ge 6, 3) := by decide +kernel
theorem dX7_copy_85 : decode cX7_copy 85 = .ok (.iload 6, 2) := by decide +kernel
theorem dX7_copy_87 : decode cX7_copy 87 = .ok (.ireturn, 1) := by decide +kernel
theorem dX7_copy_88 : decode cX7_copy 88 = .ok (.iconst 0, 1) := by decide +kernel
theorem dX7_copy_89 : decode cX7_copy 89 = .ok (.istore 7, 2) := by decide +kernel
theorem dX7_copy_91 : decode cX7_copy 91 = .ok (.iload 7, 2) := by decide +kernel
theorem dX7_copy_93 : decode cX7_copy 93 = .ok (.iload 5, 2) := by decide +kernel
theorem dX7_copy_95 : decode cX7_copy 95 = .ok (.if_icmp .ge 30, 3) := by decide +kernel
theorem dX7_copy_98 : decode cX7_copy 98 = .ok (.aload_n 0, 1) := by decide +kernel
theorem dX7_copy_99 : decode cX7_copy 99 = .ok (.getfield 48, 3) := by decide +kernel
theorem dX7_copy_102 : decode cX7_copy 102 = .ok (.iload 7, 2) := by decide +kernel
theorem dX7_copy_104 : decode cX7_copy 104 = .ok (.aload_n 0, 1) := by decide +kernel
theorem dX7_copy_105 : decode cX7_copy 105 = .ok (.getfield 44, 3) := by decide +kernel
theorem dX7_copy_108 : decode cX7_copy 108 = .ok (.bipush 24, 2) := by decide +kernel
theorem dX7_copy_110 : decode cX7_copy 110 = .ok (.iload_n 1, 1) := by decide +kernel
theorem dX7_copy_111 : decode cX7_copy 111 = .ok (.imul, 1) := by decide +kernel
theorem dX7_copy_112 : decode cX7_copy 112 = .ok (.iload_n 2, 1) := by decide +kernel
theorem dX7_copy_113 : decode cX7_copy 113 = .ok (.iadd, 1) := by decide +kernel
theorem dX7_copy_114 : decode cX7_copy 114 = .ok (.iload 7, 2) := by decide +kernel
theorem dX7_copy_116 : decode cX7_copy 116 = .ok (.iadd, 1) := by decide +kernel
theorem dX7_copy_117 : decode cX7_copy 117 = .ok (.laload, 1) := by decide +kernel
theorem dX7_copy_118 : decode cX7_copy 118 = .ok (.lastore, 1) := by decide +kernel
theorem dX7_copy_119 : decode cX7_copy 119 = .ok (.iinc 7 1, 3) := by decide +kernel
theorem dX7_copy_122 : decode cX7_copy 122 = .ok (.goto (-31), 3) := by decide +kernel
theorem dX7_copy_125 : decode cX7_copy 125 = .ok (.iconst 0, 1) := by decide +kernel
theorem dX7_copy_126 : decode cX7_copy 126 = .ok (.istore 7, 2) := by decide +kernel
theorem dX7_copy_128 : decode cX7_copy 128 = .ok (.iload 7, 2) := by decide +kernel
theorem dX7_copy_130 : decode cX7_copy 130 = .ok (.iload 5, 2) := by decide +kernel
theorem dX7_copy_132 : decode cX7_copy 132 = .ok (.if_icmp .ge 31, 3) := by decide +kernel
theorem dX7_copy_135 : decode cX7_copy 135 = .ok (.aload_n 0, 1) := by decide +kernel
theorem dX7_copy_136 : decode cX7_copy 136 = .ok (.getfield 44, 3) := by decide +kernel
theorem dX7_copy_139 : decode cX7_copy 139 = .ok (.bipush 24, 2) := by decide +kernel
theorem dX7_copy_141 : decode cX7_copy 141 = .ok (.iload_n 3, 1) := by decide +kernel
theorem dX7_copy_142 : decode cX7_copy 142 = .ok (.imul, 1) := by decide +kernel
theorem dX7_copy_143 : decode cX7_copy 143 = .ok (.iload 4, 2) := by decide +kernel
theorem dX7_copy_145 : decode cX7_copy 145 = .ok (.iadd, 1) := by decide +kernel
theorem dX7_copy_146 : decode cX7_copy 146 = .ok (.iload 7, 2) := by decide +kernel
theorem dX7_copy_148 : decode cX7_copy 148 = .ok (.iadd, 1) := by decide +kernel
theorem dX7_copy_149 : decode cX7_copy 149 = .ok (.aload_n 0, 1) := by decide +kernel
theorem dX7_copy_150 : decode cX7_copy 150 = .ok (.getfield 48, 3) := by decide +kernel
theorem dX7_copy_153 : decode cX7_copy 153 = .ok (.iload 7, 2) := by decide +kernel
theorem dX7_copy_155 : decode cX7_copy 155 = .ok (.laload, 1) := by decide +kernel
theorem dX7_copy_156 : decode cX7_copy 156 = .ok (.lastore, 1) := by decide +kernel
theorem dX7_copy_157 : decode cX7_copy 157 = .ok (.iinc 7 1, 3) := by decide +kernel
theorem dX7_copy_160 : decode cX7_copy 160 = .ok (.goto (-32), 3) := by decide +kernel
theorem dX7_copy_163 : decode cX7_copy 163 = .ok (.iload 5, 2) := by decide +kernel
theorem dX7_copy_165 : decode cX7_copy 165 = .ok (.ireturn, 1) := by decide +kernel
def f_X7_copy_s91_b (x1 : Int32) (x2 : Int32) (x3 : Int32) (x4 : Int32) (x5 : Int32) (x7 : Int32) (S : gSt) : Option ((Int32 × Int32 × Int32 × Int32 × Int32 × Int32 × gSt) ⊕ (Int32 × Int32 × Int32 × gSt)) :=
(if x5 ≤ x7 then
some (.inr (x3, x4, x5, S))
else
if gin ((((24 : Int32) * x1) + x2) + x7) 96 then
(if gin x7 24 then
gLet (gJ S 60 x7.toNatClampNeg (S.2 59 ((((24 : Int32) * x1) + x2) + x7).toNatClampNeg)) fun S5 =>
(some (.inl (x1, x2, x3, x4, x5, x7 + (1 : Int32), S5))) else none) else none)
def f_X7_copy_s91 : (Int32 × Int32 × Int32 × Int32 × Int32 × Int32 × gSt) → Option ((Int32 × Int32 × Int32 × Int32 × Int32 × Int32 × gSt) ⊕ (Int32 × Int32 × Int32 × gSt)) := fun t => f_X7_copy_s91_b t.1 t.2.1 t.2.2.1 t.2.2.2.1 t.2.2.2.2.1 t.2.2.2.2.2.1 t.2.2.2.2.2.2
def f_X7_copy_s128_b (x3 : Int32) (x4 : Int32) (x5 : Int32) (x7 : Int32) (S : gSt) : Option ((Int32 × Int32 × Int32 × Int32 × gSt) ⊕ (Int32 × gSt)) :=
(if x5 ≤ x7 then
some (.inr (x5, S))
else
if gin x7 24 then
(if gin ((((24 : Int32) * x3) + x4) + x7) 96 then
gLet (gJ S 59 ((((24 : Int32) * x3) + x4) + x7).toNatClampNeg (S.2 60 x7.toNatClampNeg)) fun S10 =>
(some (.inl (x3, x4, x5, x7 + (1 : Int32), S10))) else none) else none)
def f_X7_copy_s128 : (Int32 × Int32 × Int32 × Int32 × gSt) → Option ((Int32 × Int32 × Int32 × Int32 × gSt) ⊕ (Int32 × gSt)) := fun t => f_X7_copy_s128_b t.1 t.2.1 t.2.2.1 t.2.2.2.1 t.2.2.2.2
def f_X7_copy_j78 (x1 : Int32) (x2 : Int32) (x3 : Int32) (x4 : Int32) (x5 : Int32) (t0 : Int32) (S : gSt) : Option (Int32 × gSt) :=
(if 0 ≤ t0 then
(gLoop (f_X7_copy_s91) gFuel (x1, x2, x3, x4, x5, (0 : Int32), S)).bind fun q6 => match q6 with
| (y3_6, y4_6, y5_6, S6) =>
(gLoop (f_X7_copy_s128) gFuel (y3_6, y4_6, y5_6, (0 : Int32), S6)).bind fun q11 => match q11 with
| (y5_11, S11) =>
some (y5_11, S11)
else
some (t0, S))
def f_X7_copy (p1 : Int32) (p2 : Int32) (p3 : Int32) (p4 : Int32) (p5 : Int32) (S : gSt) : Option (Int32 × gSt) :=
gBind2 (f_X7_isSheet p1 S) fun r14 S12 =>
(if r14 = 0 then
some ((-1 : Int32), S12)
else
gBind2 (f_X7_isSheet p3 S12) fun r18 S16 =>
(if r18 = 0 then
some ((-1 : Int32), S16)
else
if gin p1 4 then
((if (S16.1 57 p1.toNatClampNeg) < 0 then
some ((-11 : Int32), S16)
else
if gin p3 4 then
((if 0 ≤ (S16.1 57 p3.toNatClampNeg) then
if gin p1 4 then
(gBind2 (f_X7_why p3 (S16.1 57 p1.toNatClampNeg) p4 p5 S16) fun r27 S25 =>
(if r27 = 0 then
if gin p1 4 then
(gBind2 (f_X7_why p1 (S25.1 57 p1.toNatClampNeg) p2 p5 S25) fun r32 S30 =>
f_X7_copy_j78 p1 p2 p3 p4 p5 r32 S30) else none
else
f_X7_copy_j78 p1 p2 p3 p4 p5 r27 S25)) else none
else
some ((-11 : Int32), S16))) else none)) else none))
set_option maxHeartbeats 4000000 in
set_option maxRecDepth 20000 in
theorem ok_X7_copy {p1 : Int32} {p2 : Int32} {p3 : Int32} {p4 : Int32} {p5 : Int32} {S S0 : gSt} {r0 : Int32}  (h : f_X7_copy p1 p2 p3 p4 p5 S = some (r0, S0)) : gCT yX7_copy cX7_copy 8 (some .int) 2 (fun w => [.ref (w.2.1 47), .int p1, .int p2, .int p3, .int p4, .int p5]) S (some (.int r0)) S0 := by
  refine gEnter (fun X => [some (.ref (gad X 47)), some (.int p1), some (.int p2), some (.int p3), some (.int p4), some (.int p5), none, none]) (by decide) (fun X => ⟨rfl, rfl⟩) (fun w => Nat.le_of_ble_eq_true rfl) (fun X hp => ?_)
  show AW X RX7 2 cX7_copy 0 [some (.ref (gad X 47)), some (.int p1), some (.int p2), some (.int p3), some (.int p4), some (.int p5), none, none] [] S
  unfold f_X7_copy at h
  have J78 : ∀ (x1 : Int32) (x2 : Int32) (x3 : Int32) (x4 : Int32) (x5 : Int32) (t0 : Int32) (S : gSt), f_X7_copy_j78 x1 x2 x3 x4 x5 t0 S = some (r0, S0) → AW X RX7 2 cX7_copy 78 [some (.ref (gad X 47)), some (.int x1), some (.int x2), some (.int x3), some (.int x4), some (.int x5), none, none] [.int t0] S := by
    intro x1 x2 x3 x4 x5 t0 S h
    unfold f_X7_copy_j78 at h
    refine a_istore (pc := 78) dX7_copy_78 (Nat.le_of_ble_eq_true rfl) rfl (L' := [some (.ref (gad X 47)), some (.int x1), some (.int x2), some (.int x3), some (.int x4), some (.int x5), some (.int t0), none]) rfl ?_
    refine a_iload (pc := 80) dX7_copy_80 rfl ?_
    refine a_if_ge (pc := 82) (tgt := 88) dX7_copy_82 (by decide) (fun c1 => ?_) (fun c1 => ?_)
    · rw [if_pos c1] at h
      refine a_iconst (pc := 88) (v := (0 : Int32)) dX7_copy_88 (by decide) ?_
      refine a_istore (pc := 89) dX7_copy_89 (Nat.le_of_ble_eq_true rfl) rfl (L' := [some (.ref (gad X 47)), some (.int x1), some (.int x2), some (.int x3), some (.int x4), some (.int x5), some (.int t0), some (.int (0 : Int32))]) rfl ?_
      obtain ⟨R6, hR6, h⟩ := g_bind h
      refine a_mask [true, true, true, true, true, true, false, true] (L' := [some (.ref (gad X 47)), some (.int x1), some (.int x2), some (.int x3), some (.int x4), some (.int x5), none, some (.int (0 : Int32))]) rfl ?_
      have E91 : ∀ (y3_6 : Int32) (y4_6 : Int32) (y5_6 : Int32) (S6 : gSt), ((gLoop (f_X7_copy_s128) gFuel (y3_6, y4_6, y5_6, (0 : Int32), S6)).bind fun q11 => match q11 with | (y5_11, S11) => some (y5_11, S11)) = some (r0, S0) → AW X RX7 2 cX7_copy 125 [some (.ref (gad X 47)), none, none, some (.int y3_6), some (.int y4_6), some (.int y5_6), none, none] [] S6 := by
        intro y3_6 y4_6 y5_6 S6 h
        refine a_iconst (pc := 125) (v := (0 : Int32)) dX7_copy_125 (by decide) ?_
        refine a_istore (pc := 126) dX7_copy_126 (Nat.le_of_ble_eq_true rfl) rfl (L' := [some (.ref (gad X 47)), none, none, some (.int y3_6), some (.int y4_6), some (.int y5_6), none, some (.int (0 : Int32))]) rfl ?_
        obtain ⟨R11, hR11, h⟩ := g_bind h
        have E128 : ∀ (y5_11 : Int32) (S11 : gSt), (some (y5_11, S11)) = some (r0, S0) → AW X RX7 2 cX7_copy 163 [none, none, none, none, none, some (.int y5_11), none, none] [] S11 := by
          intro y5_11 S11 h
          refine a_iload (pc := 163) dX7_copy_163 rfl ?_
          obtain ⟨rfl, rfl⟩ := Prod.mk.inj (Option.some.inj h)
          exact a_iret hp dX7_copy_165
        have lp : ∀ (n : Nat) (x3 : Int32) (x4 : Int32) (x5 : Int32) (x7 : Int32) (S : gSt), gLoop (f_X7_copy_s128) n (x3, x4, x5, x7, S) = some R11 → AW X RX7 2 cX7_copy 128 [some (.ref (gad X 47)), none, none, some (.int x3), some (.int x4), some (.int x5), none, some (.int x7)] [] S := by
          intro n
          induction n with
          | zero => intro x3 x4 x5 x7 S hR; cases hR
          | succ n ih =>
            intro x3 x4 x5 x7 S hR
            obtain ⟨q, hs, hR⟩ := g_bind hR
            have hs : f_X7_copy_s128_b x3 x4 x5 x7 S = some q := hs
            unfold f_X7_copy_s128_b at hs
            refine a_iload (pc := 128) dX7_copy_128 rfl ?_
            refine a_iload (pc := 130) dX7_copy_130 rfl ?_
            refine a_icmp_ge (pc := 132) (tgt := 163) dX7_copy_132 (by decide) (fun c7 => ?_) (fun c7 => ?_)
            · rw [if_pos c7] at hs
              obtain rfl := Option.some.inj hs
              obtain rfl := Option.some.inj hR
              refine a_mask [false, true, true, false, false, true, true, false] (L' := [none, none, none, none, none, some (.int x5), none, none]) rfl ?_
              exact E128 _ _ h
            · rw [if_neg c7] at hs
              refine a_aloadn (pc := 135) dX7_copy_135 rfl rfl ?_
              refine a_getA (pc := 136) flX7_44 sh_47 rfl dX7_copy_136 ?_
              refine a_bipush (pc := 139) (v := (24 : Int32)) dX7_copy_139 (by decide) ?_
              refine a_iloadn (pc := 141) dX7_copy_141 rfl rfl ?_
              refine a_imul (pc := 142) dX7_copy_142 ?_
              refine a_iload (pc := 143) dX7_copy_143 rfl ?_
              refine a_iadd (pc := 145) dX7_copy_145 ?_
              refine a_iload (pc := 146) dX7_copy_146 rfl ?_
              refine a_iadd (pc := 148) dX7_copy_148 ?_
              refine a_aloadn (pc := 149) dX7_copy_149 rfl rfl ?_
              refine a_getA (pc := 150) flX7_48 sh_47 rfl dX7_copy_150 ?_
              refine a_iload (pc := 153) dX7_copy_153 rfl ?_
              obtain ⟨hi8, hs⟩ := g_if hs
              refine a_lald (pc := 155) sh_60 hi8 dX7_copy_155 ?_
              obtain ⟨hi9, hs⟩ := g_if hs
              refine a_last (pc := 156) sh_59 hi9 dX7_copy_156 ?_
              obtain ⟨S10, eS10, hs⟩ := g_let hs
              refine a_nmS eS10 ?_
              refine a_iinc (pc := 157) dX7_copy_157 rfl (v := x7 + (1 : Int32)) rfl (Nat.le_of_ble_eq_true rfl) rfl (L' := [some (.ref (gad X 47)), none, none, some (.int x3), some (.int x4), some (.int x5), none, some (.int (x7 + (1 : Int32)))]) rfl ?_
              refine a_goto (pc := 160) (tgt := 128) dX7_copy_160 (by decide) ?_
              obtain rfl := Option.some.inj hs
              exact ih _ _ _ _ _ hR
        exact lp _ _ _ _ _ _ hR11
      have lp : ∀ (n : Nat) (x1 : Int32) (x2 : Int32) (x3 : Int32) (x4 : Int32) (x5 : Int32) (x7 : Int32) (S : gSt), gLoop (f_X7_copy_s91) n (x1, x2, x3, x4, x5, x7, S) = some R6 → AW X RX7 2 cX7_copy 91 [some (.ref (gad X 47)), some (.int x1), some (.int x2), some (.int x3), some (.int x4), some (.int x5), none, some (.int x7)] [] S := by
        intro n
        induction n with
        | zero => intro x1 x2 x3 x4 x5 x7 S hR; cases hR
        | succ n ih =>
          intro x1 x2 x3 x4 x5 x7 S hR
          obtain ⟨q, hs, hR⟩ := g_bind hR
          have hs : f_X7_copy_s91_b x1 x2 x3 x4 x5 x7 S = some q := hs
          unfold f_X7_copy_s91_b at hs
          refine a_iload (pc := 91) dX7_copy_91 rfl ?_
          refine a_iload (pc := 93) dX7_copy_93 rfl ?_
          refine a_icmp_ge (pc := 95) (tgt := 125) dX7_copy_95 (by decide) (fun c2 => ?_) (fun c2 => ?_)
          · rw [if_pos c2] at hs
            obtain rfl := Option.some.inj hs
            obtain rfl := Option.some.inj hR
            refine a_mask [true, false, false, true, true, true, true, false] (L' := [some (.ref (gad X 47)), none, none, some (.int x3), some (.int x4), some (.int x5), none, none]) rfl ?_
            exact E91 _ _ _ _ h
          · rw [if_neg c2] at hs
            refine a_aloadn (pc := 98) dX7_copy_98 rfl rfl ?_
            refine a_getA (pc := 99) flX7_48 sh_47 rfl dX7_copy_99 ?_
            refine a_iload (pc := 102) dX7_copy_102 rfl ?_
            refine a_aloadn (pc := 104) dX7_copy_104 rfl rfl ?_
            refine a_getA (pc := 105) flX7_44 sh_47 rfl dX7_copy_105 ?_
            refine a_bipush (pc := 108) (v := (24 : Int32)) dX7_copy_108 (by decide) ?_
            refine a_iloadn (pc := 110) dX7_copy_110 rfl rfl ?_
            refine a_imul (pc := 111) dX7_copy_111 ?_
            refine a_iloadn (pc := 112) dX7_copy_112 rfl rfl ?_
            refine a_iadd (pc := 113) dX7_copy_113 ?_
            refine a_iload (pc := 114) dX7_copy_114 rfl ?_
            refine a_iadd (pc := 116) dX7_copy_116 ?_
            obtain ⟨hi3, hs⟩ := g_if hs
            refine a_lald (pc := 117) sh_59 hi3 dX7_copy_117 ?_
            obtain ⟨hi4, hs⟩ := g_if hs
            refine a_last (pc := 118) sh_60 hi4 dX7_copy_118 ?_
            obtain ⟨S5, eS5, hs⟩ := g_let hs
            refine a_nmS eS5 ?_
            refine a_iinc (pc := 119) dX7_copy_119 rfl (v := x7 + (1 : Int32)) rfl (Nat.le_of_ble_eq_true rfl) rfl (L' := [some (.ref (gad X 47)), some (.int x1), some (.int x2), some (.int x3), some (.int x4), some (.int x5), none, some (.int (x7 + (1 : Int32)))]) rfl ?_
            refine a_goto (pc := 122) (tgt := 91) dX7_copy_122 (by decide) ?_
            obtain rfl := Option.some.inj hs
            exact ih _ _ _ _ _ _ _ hR
      exact lp _ _ _ _ _ _ _ _ hR6
    · rw [if_neg c1] at h
      refine a_iload (pc := 85) dX7_copy_85 rfl ?_
      obtain ⟨rfl, rfl⟩ := Prod.mk.inj (Option.some.inj h)
      exact a_iret hp dX7_copy_87
  refine a_iloadn (pc := 0) dX7_copy_0 rfl rfl ?_
  obtain ⟨r14, S12, hc13, h⟩ := g_bind2 h
  refine a_invSi (pc := 1) (ok_X7_isSheet hc13) gyX7_isSheet syX7_isSheet mlX7_201 (As := [.int p1]) rfl rfl (by decide) (st := []) rfl (Nat.le_of_ble_eq_true rfl) dX7_copy_1 ?_
  refine a_if_eq (pc := 4) (tgt := 14) dX7_copy_4 (by decide) (fun c15 => ?_) (fun c15 => ?_)
  · rw [if_pos c15] at h
    refine a_iconst (pc := 14) (v := (-1 : Int32)) dX7_copy_14 (by decide) ?_
    obtain ⟨rfl, rfl⟩ := Prod.mk.inj (Option.some.inj h)
    exact a_iret hp dX7_copy_15
  · rw [if_neg c15] at h
    refine a_iloadn (pc := 7) dX7_copy_7 rfl rfl ?_
    obtain ⟨r18, S16, hc17, h⟩ := g_bind2 h
    refine a_invSi (pc := 8) (ok_X7_isSheet hc17) gyX7_isSheet syX7_isSheet mlX7_201 (As := [.int p3]) rfl rfl (by decide) (st := []) rfl (Nat.le_of_ble_eq_true rfl) dX7_copy_8 ?_
    refine a_if_ne (pc := 11) (tgt := 16) dX7_copy_11 (by decide) (fun c19 => ?_) (fun c19 => ?_)
    · rw [if_neg c19] at h
      refine a_aloadn (pc := 16) dX7_copy_16 rfl rfl ?_
      refine a_getA (pc := 17) flX7_38 sh_47 rfl dX7_copy_17 ?_
      refine a_iloadn (pc := 20) dX7_copy_20 rfl rfl ?_
      obtain ⟨hi20, h⟩ := g_if h
      refine a_iald (pc := 21) sh_57 hi20 dX7_copy_21 ?_
      refine a_if_lt (pc := 22) (tgt := 34) dX7_copy_22 (by decide) (fun c21 => ?_) (fun c21 => ?_)
      · rw [if_pos c21] at h
        refine a_bipush (pc := 34) (v := (-11 : Int32)) dX7_copy_34 (by decide) ?_
        obtain ⟨rfl, rfl⟩ := Prod.mk.inj (Option.some.inj h)
        exact a_iret hp dX7_copy_36
      · rw [if_neg c21] at h
        refine a_aloadn (pc := 25) dX7_copy_25 rfl rfl ?_
        refine a_getA (pc := 26) flX7_38 sh_47 rfl dX7_copy_26 ?_
        refine a_iloadn (pc := 29) dX7_copy_29 rfl rfl ?_
        obtain ⟨hi22, h⟩ := g_if h
        refine a_iald (pc := 30) sh_57 hi22 dX7_copy_30 ?_
        refine a_if_ge (pc := 31) (tgt := 37) dX7_copy_31 (by decide) (fun c23 => ?_) (fun c23 => ?_)
        · rw [if_pos c23] at h
          refine a_aloadn (pc := 37) dX7_copy_37 rfl rfl ?_
          refine a_iloadn (pc := 38) dX7_copy_38 rfl rfl ?_
          refine a_aloadn (pc := 39) dX7_copy_39 rfl rfl ?_
          refine a_getA (pc := 40) flX7_38 sh_47 rfl dX7_copy_40 ?_
          refine a_iloadn (pc := 43) dX7_copy_43 rfl rfl ?_
          obtain ⟨hi24, h⟩ := g_if h
          refine a_iald (pc := 44) sh_57 hi24 dX7_copy_44 ?_
          refine a_iload (pc := 45) dX7_copy_45 rfl ?_
          refine a_iload (pc := 47) dX7_copy_47 rfl ?_
          obtain ⟨r27, S25, hc26, h⟩ := g_bind2 h
          refine a_invVi (pc := 49) (ok_X7_why hc26) gyX7_why vyX7_why mlX7_207 sh_47 rfl (As := [.int p3, .int (S16.1 57 p1.toNatClampNeg), .int p4, .int p5]) rfl rfl (by decide) (st := []) rfl (Nat.le_of_ble_eq_true rfl) dX7_copy_49 ?_
          refine a_istore (pc := 52) dX7_copy_52 (Nat.le_of_ble_eq_true rfl) rfl (L' := [some (.ref (gad X 47)), some (.int p1), some (.int p2), some (.int p3), some (.int p4), some (.int p5), some (.int r27), none]) rfl ?_
          refine a_iload (pc := 54) dX7_copy_54 rfl ?_
          refine a_if_ne (pc := 56) (tgt := 76) dX7_copy_56 (by decide) (fun c28 => ?_) (fun c28 => ?_)
          · rw [if_neg c28] at h
            refine a_iload (pc := 76) dX7_copy_76 rfl ?_
            refine a_mask [true, true, true, true, true, true, false, true] (L' := [some (.ref (gad X 47)), some (.int p1), some (.int p2), some (.int p3), some (.int p4), some (.int p5), none, none]) rfl ?_
            exact J78 _ _ _ _ _ _ _ h
          · rw [if_pos c28] at h
            refine a_aloadn (pc := 59) dX7_copy_59 rfl rfl ?_
            refine a_iloadn (pc := 60) dX7_copy_60 rfl rfl ?_
            refine a_aloadn (pc := 61) dX7_copy_61 rfl rfl ?_
            refine a_getA (pc := 62) flX7_38 sh_47 rfl dX7_copy_62 ?_
            refine a_iloadn (pc := 65) dX7_copy_65 rfl rfl ?_
            obtain ⟨hi29, h⟩ := g_if h
            refine a_iald (pc := 66) sh_57 hi29 dX7_copy_66 ?_
            refine a_iloadn (pc := 67) dX7_copy_67 rfl rfl ?_
            refine a_iload (pc := 68) dX7_copy_68 rfl ?_
            obtain ⟨r32, S30, hc31, h⟩ := g_bind2 h
            refine a_invVi (pc := 70) (ok_X7_why hc31) gyX7_why vyX7_why mlX7_207 sh_47 rfl (As := [.int p1, .int (S25.1 57 p1.toNatClampNeg), .int p2, .int p5]) rfl rfl (by decide) (st := []) rfl (Nat.le_of_ble_eq_true rfl) dX7_copy_70 ?_
            refine a_goto (pc := 73) (tgt := 78) dX7_copy_73 (by decide) ?_
            refine a_mask [true, true, true, true, true, true, false, true] (L' := [some (.ref (gad X 47)), some (.int p1), some (.int p2), some (.int p3), some (.int p4), some (.int p5), none, none]) rfl ?_
            exact J78 _ _ _ _ _ _ _ h
        · rw [if_neg c23] at h
          refine a_bipush (pc := 34) (v := (-11 : Int32)) dX7_copy_34 (by decide) ?_
          obtain ⟨rfl, rfl⟩ := Prod.mk.inj (Option.some.inj h)
          exact a_iret hp dX7_copy_36
    · rw [if_pos c19] at h
      refine a_iconst (pc := 14) (v := (-1 : Int32)) dX7_copy_14 (by decide) ?_
      obtain ⟨rfl, rfl⟩ := Prod.mk.inj (Option.some.inj h)
      exact a_iret hp dX7_copy_15
