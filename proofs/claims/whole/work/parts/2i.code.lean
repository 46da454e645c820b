theorem dX7_beside_0 : decode cX7_beside 0 = .ok (.iload_n 0, 1) := by decide +kernel
theorem dX7_beside_1 : decode cX7_beside 1 = .ok (.bipush 8, 2) := by decide +kernel
theorem dX7_beside_3 : decode cX7_beside 3 = .ok (.irem, 1) := by decide +kernel
theorem dX7_beside_4 : decode cX7_beside 4 = .ok (.istore_n 2, 1) := by decide +kernel
theorem dX7_beside_5 : decode cX7_beside 5 = .ok (.iload_n 0, 1) := by decide +kernel
theorem dX7_beside_6 : decode cX7_beside 6 = .ok (.bipush 8, 2) := by decide +kernel
theorem dX7_beside_8 : decode cX7_beside 8 = .ok (.idiv, 1) := by decide +kernel
theorem dX7_beside_9 : decode cX7_beside 9 = .ok (.istore_n 3, 1) := by decide +kernel
theorem dX7_beside_10 : decode cX7_beside 10 = .ok (.iload_n 1, 1) := by decide +kernel
theorem dX7_beside_11 : decode cX7_beside 11 = .ok (.tableswitch 69 0 2 #[25, 40, 56], 25) := by decide +kernel
theorem dX7_beside_36 : decode cX7_beside 36 = .ok (.iload_n 2, 1) := by decide +kernel
theorem dX7_beside_37 : decode cX7_beside 37 = .ok (.bipush 7, 2) := by decide +kernel
theorem dX7_beside_39 : decode cX7_beside 39 = .ok (.if_icmp .ne 8, 3) := by decide +kernel
theorem dX7_beside_42 : decode cX7_beside 42 = .ok (.bipush (-4), 2) := by decide +kernel
theorem dX7_beside_44 : decode cX7_beside 44 = .ok (.goto 6, 3) := by decide +kernel
theorem dX7_beside_47 : decode cX7_beside 47 = .ok (.iload_n 0, 1) := by decide +kernel
theorem dX7_beside_48 : decode cX7_beside 48 = .ok (.iconst 1, 1) := by decide +kernel
theorem dX7_beside_49 : decode cX7_beside 49 = .ok (.iadd, 1) := by decide +kernel
theorem dX7_beside_50 : decode cX7_beside 50 = .ok (.ireturn, 1) := by decide +kernel
theorem dX7_beside_51 : decode cX7_beside 51 = .ok (.iload_n 3, 1) := by decide +kernel
theorem dX7_beside_52 : decode cX7_beside 52 = .ok (.bipush 7, 2) := by decide +kernel
theorem dX7_beside_54 : decode cX7_beside 54 = .ok (.if_icmp .ne 8, 3) := by decide +kernel
theorem dX7_beside_57 : decode cX7_beside 57 = .ok (.bipush (-4), 2) := by decide +kernel
theorem dX7_beside_59 : decode cX7_beside 59 = .ok (.goto 7, 3) := by decide +kernel
theorem dX7_beside_62 : decode cX7_beside 62 = .ok (.iload_n 0, 1) := by decide +kernel
theorem dX7_beside_63 : decode cX7_beside 63 = .ok (.bipush 8, 2) := by decide +kernel
theorem dX7_beside_65 : decode cX7_beside 65 = .ok (.iadd, 1) := by decide +kernel
theorem dX7_beside_66 : decode cX7_beside 66 = .ok (.ireturn, 1) := by decide +kernel
theorem dX7_beside_67 : decode cX7_beside 67 = .ok (.iload_n 2, 1) := by decide +kernel
theorem dX7_beside_68 : decode cX7_beside 68 = .ok (.ifCond .ne 8, 3) := by decide +kernel
theorem dX7_beside_71 : decode cX7_beside 71 = .ok (.bipush (-4), 2) := by decide +kernel
theorem dX7_beside_73 : decode cX7_beside 73 = .ok (.goto 6, 3) := by decide +kernel
theorem dX7_beside_76 : decode cX7_beside 76 = .ok (.iload_n 0, 1) := by decide +kernel
theorem dX7_beside_77 : decode cX7_beside 77 = .ok (.iconst 1, 1) := by decide +kernel
theorem dX7_beside_78 : decode cX7_beside 78 = .ok (.isub, 1) := by decide +kernel
theorem dX7_beside_79 : decode cX7_beside 79 = .ok (.ireturn, 1) := by decide +kernel
theorem dX7_beside_80 : decode cX7_beside 80 = .ok (.iload_n 3, 1) := by decide +kernel
theorem dX7_beside_81 : decode cX7_beside 81 = .ok (.ifCond .ne 8, 3) := by decide +kernel
theorem dX7_beside_84 : decode cX7_beside 84 = .ok (.bipush (-4), 2) := by decide +kernel
theorem dX7_beside_86 : decode cX7_beside 86 = .ok (.goto 7, 3) := by decide +kernel
theorem dX7_beside_89 : decode cX7_beside 89 = .ok (.iload_n 0, 1) := by decide +kernel
theorem dX7_beside_90 : decode cX7_beside 90 = .ok (.bipush 8, 2) := by decide +kernel
theorem dX7_beside_92 : decode cX7_beside 92 = .ok (.isub, 1) := by decide +kernel
theorem dX7_beside_93 : decode cX7_beside 93 = .ok (.ireturn, 1) := by decide +kernel
def f_X7_beside (p0 : Int32) (p1 : Int32) (S : gSt) : Option (Int32 × gSt) :=
gLet (p0 - p0 / (8 : Int32) * (8 : Int32)) fun v1 =>
gLet (p0 / (8 : Int32)) fun v2 =>
(if p1.toInt < 0 ∨ 2 < p1.toInt then
(if v2 = 0 then
some ((-4 : Int32), S)
else
some (p0 - (8 : Int32), S))
else if p1 = (0 : Int32) then
(if v1 = (7 : Int32) then
some ((-4 : Int32), S)
else
some (p0 + (1 : Int32), S))
else if p1 = (1 : Int32) then
(if v2 = (7 : Int32) then
some ((-4 : Int32), S)
else
some (p0 + (8 : Int32), S))
else if p1 = (2 : Int32) then
(if v1 = 0 then
some ((-4 : Int32), S)
else
some (p0 - (1 : Int32), S))
else none)
set_option maxHeartbeats 4000000 in
set_option maxRecDepth 20000 in
theorem ok_X7_beside {p0 : Int32} {p1 : Int32} {S S0 : gSt} {r0 : Int32}  (h : f_X7_beside p0 p1 S = some (r0, S0)) : gCT yX7_beside cX7_beside 4 (some .int) 0 (fun w => [.int p0, .int p1]) S (some (.int r0)) S0 := by
  refine gEnter (fun X => [some (.int p0), some (.int p1), none, none]) (by decide) (fun X => ⟨rfl, rfl⟩) (fun w => Nat.le_of_ble_eq_true rfl) (fun X hp => ?_)
  show AW X RX7 0 cX7_beside 0 [some (.int p0), some (.int p1), none, none] [] S
  unfold f_X7_beside at h
  refine a_iloadn (pc := 0) dX7_beside_0 rfl rfl ?_
  refine a_bipush (pc := 1) (v := (8 : Int32)) dX7_beside_1 (by decide) ?_
  refine a_irem (pc := 3) dX7_beside_3 (by decide) ?_
  obtain ⟨v1, ev1, h⟩ := g_let h
  refine a_nmI ev1 ?_
  refine a_istoren (pc := 4) dX7_beside_4 rfl (Nat.le_of_ble_eq_true rfl) rfl (L' := [some (.int p0), some (.int p1), some (.int v1), none]) rfl ?_
  refine a_iloadn (pc := 5) dX7_beside_5 rfl rfl ?_
  refine a_bipush (pc := 6) (v := (8 : Int32)) dX7_beside_6 (by decide) ?_
  refine a_idiv (pc := 8) dX7_beside_8 (by decide) ?_
  obtain ⟨v2, ev2, h⟩ := g_let h
  refine a_nmI ev2 ?_
  refine a_istoren (pc := 9) dX7_beside_9 rfl (Nat.le_of_ble_eq_true rfl) rfl (L' := [some (.int p0), some (.int p1), some (.int v1), some (.int v2)]) rfl ?_
  refine a_iloadn (pc := 10) dX7_beside_10 rfl rfl ?_
  by_cases c3 : p1.toInt < 0 ∨ 2 < p1.toInt
  · rw [if_pos c3] at h
    refine a_tabOut (pc := 11) (tgt := 80) dX7_beside_11 c3 (by decide) ?_
    refine a_iloadn (pc := 80) dX7_beside_80 rfl rfl ?_
    refine a_if_ne (pc := 81) (tgt := 89) dX7_beside_81 (by decide) (fun c4 => ?_) (fun c4 => ?_)
    · rw [if_neg c4] at h
      refine a_iloadn (pc := 89) dX7_beside_89 rfl rfl ?_
      refine a_bipush (pc := 90) (v := (8 : Int32)) dX7_beside_90 (by decide) ?_
      refine a_isub (pc := 92) dX7_beside_92 ?_
      obtain ⟨rfl, rfl⟩ := Prod.mk.inj (Option.some.inj h)
      exact a_iret hp dX7_beside_93
    · rw [if_pos c4] at h
      refine a_bipush (pc := 84) (v := (-4 : Int32)) dX7_beside_84 (by decide) ?_
      refine a_goto (pc := 86) (tgt := 93) dX7_beside_86 (by decide) ?_
      obtain ⟨rfl, rfl⟩ := Prod.mk.inj (Option.some.inj h)
      exact a_iret hp dX7_beside_93
  rw [if_neg c3] at h
  by_cases c5 : p1 = (0 : Int32)
  · rw [if_pos c5] at h
    refine a_nmI c5 ?_
    refine a_tabIn (pc := 11) (off := 25) (tgt := 36) dX7_beside_11 (by decide) (by decide) (by decide) (by decide) ?_
    refine a_iloadn (pc := 36) dX7_beside_36 rfl rfl ?_
    refine a_bipush (pc := 37) (v := (7 : Int32)) dX7_beside_37 (by decide) ?_
    refine a_icmp_ne (pc := 39) (tgt := 47) dX7_beside_39 (by decide) (fun c6 => ?_) (fun c6 => ?_)
    · rw [if_neg c6] at h
      refine a_iloadn (pc := 47) dX7_beside_47 rfl rfl ?_
      refine a_iconst (pc := 48) (v := (1 : Int32)) dX7_beside_48 (by decide) ?_
      refine a_iadd (pc := 49) dX7_beside_49 ?_
      obtain ⟨rfl, rfl⟩ := Prod.mk.inj (Option.some.inj h)
      exact a_iret hp dX7_beside_50
    · rw [if_pos c6] at h
      refine a_bipush (pc := 42) (v := (-4 : Int32)) dX7_beside_42 (by decide) ?_
      refine a_goto (pc := 44) (tgt := 50) dX7_beside_44 (by decide) ?_
      obtain ⟨rfl, rfl⟩ := Prod.mk.inj (Option.some.inj h)
      exact a_iret hp dX7_beside_50
  rw [if_neg c5] at h
  by_cases c7 : p1 = (1 : Int32)
  · rw [if_pos c7] at h
    refine a_nmI c7 ?_
    refine a_tabIn (pc := 11) (off := 40) (tgt := 51) dX7_beside_11 (by decide) (by decide) (by decide) (by decide) ?_
    refine a_iloadn (pc := 51) dX7_beside_51 rfl rfl ?_
    refine a_bipush (pc := 52) (v := (7 : Int32)) dX7_beside_52 (by decide) ?_
    refine a_icmp_ne (pc := 54) (tgt := 62) dX7_beside_54 (by decide) (fun c8 => ?_) (fun c8 => ?_)
    · rw [if_neg c8] at h
      refine a_iloadn (pc := 62) dX7_beside_62 rfl rfl ?_
      refine a_bipush (pc := 63) (v := (8 : Int32)) dX7_beside_63 (by decide) ?_
      refine a_iadd (pc := 65) dX7_beside_65 ?_
      obtain ⟨rfl, rfl⟩ := Prod.mk.inj (Option.some.inj h)
      exact a_iret hp dX7_beside_66
    · rw [if_pos c8] at h
      refine a_bipush (pc := 57) (v := (-4 : Int32)) dX7_beside_57 (by decide) ?_
      refine a_goto (pc := 59) (tgt := 66) dX7_beside_59 (by decide) ?_
      obtain ⟨rfl, rfl⟩ := Prod.mk.inj (Option.some.inj h)
      exact a_iret hp dX7_beside_66
  rw [if_neg c7] at h
  by_cases c9 : p1 = (2 : Int32)
  · rw [if_pos c9] at h
    refine a_nmI c9 ?_
    refine a_tabIn (pc := 11) (off := 56) (tgt := 67) dX7_beside_11 (by decide) (by decide) (by decide) (by decide) ?_
    refine a_iloadn (pc := 67) dX7_beside_67 rfl rfl ?_
    refine a_if_ne (pc := 68) (tgt := 76) dX7_beside_68 (by decide) (fun c10 => ?_) (fun c10 => ?_)
    · rw [if_neg c10] at h
      refine a_iloadn (pc := 76) dX7_beside_76 rfl rfl ?_
      refine a_iconst (pc := 77) (v := (1 : Int32)) dX7_beside_77 (by decide) ?_
      refine a_isub (pc := 78) dX7_beside_78 ?_
      obtain ⟨rfl, rfl⟩ := Prod.mk.inj (Option.some.inj h)
      exact a_iret hp dX7_beside_79
    · rw [if_pos c10] at h
      refine a_bipush (pc := 71) (v := (-4 : Int32)) dX7_beside_71 (by decide) ?_
      refine a_goto (pc := 73) (tgt := 79) dX7_beside_73 (by decide) ?_
      obtain ⟨rfl, rfl⟩ := Prod.mk.inj (Option.some.inj h)
      exact a_iret hp dX7_beside_79
  rw [if_neg c9] at h
  cases h
theorem dX7_notes_0 : decode cX7_notes 0 = .ok (.aload_n 0, 1) := by decide +kernel
theorem dX7_notes_1 : decode cX7_notes 1 = .ok (.getfield 69, 3) := by decide +kernel
theorem dX7_notes_4 : decode cX7_notes 4 = .ok (.bipush 8, 2) := by decide +kernel
theorem dX7_notes_6 : decode cX7_notes 6 = .ok (.if_icmp .ne 42, 3) := by decide +kernel
theorem dX7_notes_9 : decode cX7_notes 9 = .ok (.sipush 416, 3) := by decide +kernel
theorem dX7_notes_12 : decode cX7_notes 12 = .ok (.istore_n 1, 1) := by decide +kernel
theorem dX7_notes_13 : decode cX7_notes 13 = .ok (.iload_n 1, 1) := by decide +kernel
theorem dX7_notes_14 : decode cX7_notes 14 = .ok (.sipush 3328, 3) := by decide +kernel
theorem dX7_notes_17 : decode cX7_notes 17 = .ok (.if_icmp .ge 25, 3) := by decide +kernel
theorem dX7_notes_20 : decode cX7_notes 20 = .ok (.aload_n 0, 1) := by decide +kernel
theorem dX7_notes_21 : decode cX7_notes 21 = .ok (.getfield 22, 3) := by decide +kernel
theorem dX7_notes_24 : decode cX7_notes 24 = .ok (.iload_n 1, 1) := by decide +kernel
theorem dX7_notes_25 : decode cX7_notes 25 = .ok (.sipush 416, 3) := by decide +kernel
theorem dX7_notes_28 : decode cX7_notes 28 = .ok (.isub, 1) := by decide +kernel
theorem dX7_notes_29 : decode cX7_notes 29 = .ok (.aload_n 0, 1) := by decide +kernel
theorem dX7_notes_30 : decode cX7_notes 30 = .ok (.getfield 22, 3) := by decide +kernel
theorem dX7_notes_33 : decode cX7_notes 33 = .ok (.iload_n 1, 1) := by decide +kernel
theorem dX7_notes_34 : decode cX7_notes 34 = .ok (.iaload, 1) := by decide +kernel
theorem dX7_notes_35 : decode cX7_notes 35 = .ok (.iastore, 1) := by decide +kernel
theorem dX7_notes_36 : decode cX7_notes 36 = .ok (.iinc 1 1, 3) := by decide +kernel
theorem dX7_notes_39 : decode cX7_notes 39 = .ok (.goto (-26), 3) := by decide +kernel
theorem dX7_notes_42 : decode cX7_notes 42 = .ok (.aload_n 0, 1) := by decide +kernel
theorem dX7_notes_43 : decode cX7_notes 43 = .ok (.bipush 7, 2) := by decide +kernel
theorem dX7_notes_45 : decode cX7_notes 45 = .ok (.putfield 69, 3) := by decide +kernel
theorem dX7_notes_48 : decode cX7_notes 48 = .ok (.iconst 0, 1) := by decide +kernel
theorem dX7_notes_49 : decode cX7_notes 49 = .ok (.istore_n 1, 1) := by decide +kernel
theorem dX7_notes_50 : decode cX7_notes 50 = .ok (.iload_n 1, 1) := by decide +kernel
theorem dX7_notes_51 : decode cX7_notes 51 = .ok (.sipush 416, 3) := by decide +kernel
theorem dX7_notes_54 : decode cX7_notes 54 = .ok (.if_icmp .ge 30, 3) := by decide +kernel
theorem dX7_notes_57 : decode cX7_notes 57 = .ok (.aload_n 0, 1) := by decide +kernel
theorem dX7_notes_58 : decode cX7_notes 58 = .ok (.getfield 22, 3) := by decide +kernel
theorem dX7_notes_61 : decode cX7_notes 61 = .ok (.sipush 416, 3) := by decide +kernel
theorem dX7_notes_64 : decode cX7_notes 64 = .ok (.aload_n 0, 1) := by decide +kernel
theorem dX7_notes_65 : decode cX7_notes 65 = .ok (.getfield 69, 3) := by decide +kernel
theorem dX7_notes_68 : decode cX7_notes 68 = .ok (.imul, 1) := by decide +kernel
theorem dX7_notes_69 : decode cX7_notes 69 = .ok (.iload_n 1, 1) := by decide +kernel
theorem dX7_notes_70 : decode cX7_notes 70 = .ok (.iadd, 1) := by decide +kernel
theorem dX7_notes_71 : decode cX7_notes 71 = .ok (.aload_n 0, 1) := by decide +kernel
theorem dX7_notes_72 : decode cX7_notes 72 = .ok (.getfield 7, 3) := by decide +kernel
theorem dX7_notes_75 : decode cX7_notes 75 = .ok (.iload_n 1, 1) := by decide +kernel
theorem dX7_notes_76 : decode cX7_notes 76 = .ok (.iaload, 1) := by decide +kernel
theorem dX7_notes_77 : decode cX7_notes 77 = .ok (.iastore, 1) := by decide +kernel
theorem dX7_notes_78 : decode cX7_notes 78 = .ok (.iinc 1 1, 3) := by decide +kernel
theorem dX7_notes_81 : decode cX7_notes 81 = .ok (.goto (-31), 3) := by decide +kernel
theorem dX7_notes_84 : decode cX7_notes 84 = .ok (.aload_n 0, 1) := by decide +kernel
theorem dX7_notes_85 : decode cX7_notes 85 = .ok (.dup, 1) := by decide +kernel
theorem dX7_notes_86 : decode cX7_notes 86 = .ok (.getfield 69, 3) := by decide +kernel
theorem dX7_notes_89 : decode cX7_notes 89 = .ok (.iconst 1, 1) := by decide +kernel
theorem dX7_notes_90 : decode cX7_notes 90 = .ok (.iadd, 1) := by decide +kernel
theorem dX7_notes_91 : decode cX7_notes 91 = .ok (.putfield 69, 3) := by decide +kernel
theorem dX7_notes_94 : decode cX7_notes 94 = .ok (.return_, 1) := by decide +kernel
def f_X7_notes_s50_b (x1 : Int32) (S : gSt) : Option ((Int32 × gSt) ⊕ (gSt)) :=
(if (416 : Int32) ≤ x1 then
some (.inr (S))
else
if gin x1 416 then
(if gin (((416 : Int32) * (S.1 47 8)) + x1) 3328 then
gLet (gI S 52 (((416 : Int32) * (S.1 47 8)) + x1).toNatClampNeg (S.1 48 x1.toNatClampNeg)) fun S4 =>
(some (.inl (x1 + (1 : Int32), S4))) else none) else none)
def f_X7_notes_s50 : (Int32 × gSt) → Option ((Int32 × gSt) ⊕ (gSt)) := fun t => f_X7_notes_s50_b t.1 t.2
def f_X7_notes_j48 (S : gSt) : Option gSt :=
(gLoop (f_X7_notes_s50) gFuel ((0 : Int32), S)).bind fun q5 => match q5 with
| S5 =>
gLet (gI S5 47 8 ((S5.1 47 8) + (1 : Int32))) fun S6 =>
some S6
def f_X7_notes_s13_b (x1 : Int32) (S : gSt) : Option ((Int32 × gSt) ⊕ (gSt)) :=
(if (3328 : Int32) ≤ x1 then
some (.inr (S))
else
if gin x1 3328 then
(if gin (x1 - (416 : Int32)) 3328 then
gLet (gI S 52 (x1 - (416 : Int32)).toNatClampNeg (S.1 52 x1.toNatClampNeg)) fun S11 =>
(some (.inl (x1 + (1 : Int32), S11))) else none) else none)
def f_X7_notes_s13 : (Int32 × gSt) → Option ((Int32 × gSt) ⊕ (gSt)) := fun t => f_X7_notes_s13_b t.1 t.2
def f_X7_notes (S : gSt) : Option gSt :=
(if (S.1 47 8) = (8 : Int32) then
(gLoop (f_X7_notes_s13) gFuel ((416 : Int32), S)).bind fun q12 => match q12 with
| S12 =>
gLet (gI S12 47 8 (7 : Int32)) fun S13 =>
f_X7_notes_j48  S13
else
f_X7_notes_j48  S)
set_option maxHeartbeats 4000000 in
set_option maxRecDepth 20000 in
theorem ok_X7_notes {S S0 : gSt}  (h : f_X7_notes S = some S0) : gCT yX7_notes cX7_notes 2 none 0 (fun w => [.ref (w.2.1 47)]) S none S0 := by
  refine gEnter (fun X => [some (.ref (gad X 47)), none]) (by decide) (fun X => ⟨rfl, rfl⟩) (fun w => Nat.le_of_ble_eq_true rfl) (fun X hp => ?_)
  show AW X RX7 0 cX7_notes 0 [some (.ref (gad X 47)), none] [] S
  unfold f_X7_notes at h
  have J48 : ∀ (S : gSt), f_X7_notes_j48  S = some S0 → AW X RX7 0 cX7_notes 48 [some (.ref (gad X 47)), none] [] S := by
    intro  S h
    unfold f_X7_notes_j48 at h
    refine a_iconst (pc := 48) (v := (0 : Int32)) dX7_notes_48 (by decide) ?_
    refine a_istoren (pc := 49) dX7_notes_49 rfl (Nat.le_of_ble_eq_true rfl) rfl (L' := [some (.ref (gad X 47)), some (.int (0 : Int32))]) rfl ?_
    obtain ⟨R5, hR5, h⟩ := g_bind h
    have E50 : ∀  (S5 : gSt), (gLet (gI S5 47 8 ((S5.1 47 8) + (1 : Int32))) fun S6 => some S6) = some S0 → AW X RX7 0 cX7_notes 84 [some (.ref (gad X 47)), none] [] S5 := by
      intro S5 h
      refine a_aloadn (pc := 84) dX7_notes_84 rfl rfl ?_
      refine a_dup (pc := 85) dX7_notes_85 rfl ?_
      refine a_getI (pc := 86) flX7_69 sh_47 rfl dX7_notes_86 ?_
      refine a_iconst (pc := 89) (v := (1 : Int32)) dX7_notes_89 (by decide) ?_
      refine a_iadd (pc := 90) dX7_notes_90 ?_
      refine a_putI (pc := 91) flX7_69 sh_47 rfl rfl rfl dX7_notes_91 ?_
      obtain ⟨S6, eS6, h⟩ := g_let h
      refine a_nmS eS6 ?_
      obtain rfl := Option.some.inj h
      exact a_vret hp dX7_notes_94
    have lp : ∀ (n : Nat) (x1 : Int32) (S : gSt), gLoop (f_X7_notes_s50) n (x1, S) = some R5 → AW X RX7 0 cX7_notes 50 [some (.ref (gad X 47)), some (.int x1)] [] S := by
      intro n
      induction n with
      | zero => intro x1 S hR; cases hR
      | succ n ih =>
        intro x1 S hR
        obtain ⟨q, hs, hR⟩ := g_bind hR
        have hs : f_X7_notes_s50_b x1 S = some q := hs
        unfold f_X7_notes_s50_b at hs
        refine a_iloadn (pc := 50) dX7_notes_50 rfl rfl ?_
        refine a_sipush (pc := 51) (v := (416 : Int32)) dX7_notes_51 (by decide) ?_
        refine a_icmp_ge (pc := 54) (tgt := 84) dX7_notes_54 (by decide) (fun c1 => ?_) (fun c1 => ?_)
        · rw [if_pos c1] at hs
          obtain rfl := Option.some.inj hs
          obtain rfl := Option.some.inj hR
          refine a_mask [true, false] (L' := [some (.ref (gad X 47)), none]) rfl ?_
          exact E50  _ h
        · rw [if_neg c1] at hs
          refine a_aloadn (pc := 57) dX7_notes_57 rfl rfl ?_
          refine a_getA (pc := 58) flX7_22 sh_47 rfl dX7_notes_58 ?_
          refine a_sipush (pc := 61) (v := (416 : Int32)) dX7_notes_61 (by decide) ?_
          refine a_aloadn (pc := 64) dX7_notes_64 rfl rfl ?_
          refine a_getI (pc := 65) flX7_69 sh_47 rfl dX7_notes_65 ?_
          refine a_imul (pc := 68) dX7_notes_68 ?_
          refine a_iloadn (pc := 69) dX7_notes_69 rfl rfl ?_
          refine a_iadd (pc := 70) dX7_notes_70 ?_
          refine a_aloadn (pc := 71) dX7_notes_71 rfl rfl ?_
          refine a_getA (pc := 72) flX7_7 sh_47 rfl dX7_notes_72 ?_
          refine a_iloadn (pc := 75) dX7_notes_75 rfl rfl ?_
          obtain ⟨hi2, hs⟩ := g_if hs
          refine a_iald (pc := 76) sh_48 hi2 dX7_notes_76 ?_
          obtain ⟨hi3, hs⟩ := g_if hs
          refine a_iast (pc := 77) sh_52 hi3 dX7_notes_77 ?_
          obtain ⟨S4, eS4, hs⟩ := g_let hs
          refine a_nmS eS4 ?_
          refine a_iinc (pc := 78) dX7_notes_78 rfl (v := x1 + (1 : Int32)) rfl (Nat.le_of_ble_eq_true rfl) rfl (L' := [some (.ref (gad X 47)), some (.int (x1 + (1 : Int32)))]) rfl ?_
          refine a_goto (pc := 81) (tgt := 50) dX7_notes_81 (by decide) ?_
          obtain rfl := Option.some.inj hs
          exact ih _ _ hR
    exact lp _ _ _ hR5
  refine a_aloadn (pc := 0) dX7_notes_0 rfl rfl ?_
  refine a_getI (pc := 1) flX7_69 sh_47 rfl dX7_notes_1 ?_
  refine a_bipush (pc := 4) (v := (8 : Int32)) dX7_notes_4 (by decide) ?_
  refine a_icmp_ne (pc := 6) (tgt := 48) dX7_notes_6 (by decide) (fun c7 => ?_) (fun c7 => ?_)
  · rw [if_neg c7] at h
    exact J48  _ h
  · rw [if_pos c7] at h
    refine a_sipush (pc := 9) (v := (416 : Int32)) dX7_notes_9 (by decide) ?_
    refine a_istoren (pc := 12) dX7_notes_12 rfl (Nat.le_of_ble_eq_true rfl) rfl (L' := [some (.ref (gad X 47)), some (.int (416 : Int32))]) rfl ?_
    obtain ⟨R12, hR12, h⟩ := g_bind h
    have E13 : ∀  (S12 : gSt), (gLet (gI S12 47 8 (7 : Int32)) fun S13 => f_X7_notes_j48  S13) = some S0 → AW X RX7 0 cX7_notes 42 [some (.ref (gad X 47)), none] [] S12 := by
      intro S12 h
      refine a_aloadn (pc := 42) dX7_notes_42 rfl rfl ?_
      refine a_bipush (pc := 43) (v := (7 : Int32)) dX7_notes_43 (by decide) ?_
      refine a_putI (pc := 45) flX7_69 sh_47 rfl rfl rfl dX7_notes_45 ?_
      obtain ⟨S13, eS13, h⟩ := g_let h
      refine a_nmS eS13 ?_
      exact J48  _ h
    have lp : ∀ (n : Nat) (x1 : Int32) (S : gSt), gLoop (f_X7_notes_s13) n (x1, S) = some R12 → AW X RX7 0 cX7_notes 13 [some (.ref (gad X 47)), some (.int x1)] [] S := by
      intro n
      induction n with
      | zero => intro x1 S hR; cases hR
      | succ n ih =>
        intro x1 S hR
        obtain ⟨q, hs, hR⟩ := g_bind hR
        have hs : f_X7_notes_s13_b x1 S = some q := hs
        unfold f_X7_notes_s13_b at hs
        refine a_iloadn (pc := 13) dX7_notes_13 rfl rfl ?_
        refine a_sipush (pc := 14) (v := (3328 : Int32)) dX7_notes_14 (by decide) ?_
        refine a_icmp_ge (pc := 17) (tgt := 42) dX7_notes_17 (by decide) (fun c8 => ?_) (fun c8 => ?_)
        · rw [if_pos c8] at hs
          obtain rfl := Option.some.inj hs
          obtain rfl := Option.some.inj hR
          refine a_mask [true, false] (L' := [some (.ref (gad X 47)), none]) rfl ?_
          exact E13  _ h
        · rw [if_neg c8] at hs
          refine a_aloadn (pc := 20) dX7_notes_20 rfl rfl ?_
          refine a_getA (pc := 21) flX7_22 sh_47 rfl dX7_notes_21 ?_
          refine a_iloadn (pc := 24) dX7_notes_24 rfl rfl ?_
          refine a_sipush (pc := 25) (v := (416 : Int32)) dX7_notes_25 (by decide) ?_
          refine a_isub (pc := 28) dX7_notes_28 ?_
          refine a_aloadn (pc := 29) dX7_notes_29 rfl rfl ?_
          refine a_getA (pc := 30) flX7_22 sh_47 rfl dX7_notes_30 ?_
          refine a_iloadn (pc := 33) dX7_notes_33 rfl rfl ?_
          obtain ⟨hi9, hs⟩ := g_if hs
          refine a_iald (pc := 34) sh_52 hi9 dX7_notes_34 ?_
          obtain ⟨hi10, hs⟩ := g_if hs
          refine a_iast (pc := 35) sh_52 hi10 dX7_notes_35 ?_
          obtain ⟨S11, eS11, hs⟩ := g_let hs
          refine a_nmS eS11 ?_
          refine a_iinc (pc := 36) dX7_notes_36 rfl (v := x1 + (1 : Int32)) rfl (Nat.le_of_ble_eq_true rfl) rfl (L' := [some (.ref (gad X 47)), some (.int (x1 + (1 : Int32)))]) rfl ?_
          refine a_goto (pc := 39) (tgt := 13) dX7_notes_39 (by decide) ?_
          obtain rfl := Option.some.inj hs
          exact ih _ _ hR
    exact lp _ _ _ hR12
theorem dX7_treads_0 : decode cX7_treads 0 = .ok (.bipush 32, 2) := by decide +kernel
theorem dX7_treads_2 : decode cX7_treads 2 = .ok (.bipush 64, 2) := by decide +kernel
theorem dX7_treads_4 : decode cX7_treads 4 = .ok (.aload_n 0, 1) := by decide +kernel
theorem dX7_treads_5 : decode cX7_treads 5 = .ok (.iload_n 1, 1) := by decide +kernel
theorem dX7_treads_6 : decode cX7_treads 6 = .ok (.invokevirtual 90, 3) := by decide +kernel
theorem dX7_treads_9 : decode cX7_treads 9 = .ok (.imul, 1) := by decide +kernel
theorem dX7_treads_10 : decode cX7_treads 10 = .ok (.iadd, 1) := by decide +kernel
theorem dX7_treads_11 : decode cX7_treads 11 = .ok (.iload_n 2, 1) := by decide +kernel
theorem dX7_treads_12 : decode cX7_treads 12 = .ok (.iadd, 1) := by decide +kernel
theorem dX7_treads_13 : decode cX7_treads 13 = .ok (.istore_n 3, 1) := by decide +kernel
theorem dX7_treads_14 : decode cX7_treads 14 = .ok (.aload_n 0, 1) := by decide +kernel
theorem dX7_treads_15 : decode cX7_treads 15 = .ok (.getfield 7, 3) := by decide +kernel
theorem dX7_treads_18 : decode cX7_treads 18 = .ok (.iload_n 3, 1) := by decide +kernel
theorem dX7_treads_19 : decode cX7_treads 19 = .ok (.aload_n 0, 1) := by decide +kernel
theorem dX7_treads_20 : decode cX7_treads 20 = .ok (.getfield 7, 3) := by decide +kernel
theorem dX7_treads_23 : decode cX7_treads 23 = .ok (.iload_n 3, 1) := by decide +kernel
theorem dX7_treads_24 : decode cX7_treads 24 = .ok (.iaload, 1) := by decide +kernel
theorem dX7_treads_25 : decode cX7_treads 25 = .ok (.aload_n 0, 1) := by decide +kernel
theorem dX7_treads_26 : decode cX7_treads 26 = .ok (.iload_n 1, 1) := by decide +kernel
theorem dX7_treads_27 : decode cX7_treads 27 = .ok (.invokevirtual 87, 3) := by decide +kernel
theorem dX7_treads_30 : decode cX7_treads 30 = .ok (.iadd, 1) := by decide +kernel
theorem dX7_treads_31 : decode cX7_treads 31 = .ok (.bipush 99, 2) := by decide +kernel
theorem dX7_treads_33 : decode cX7_treads 33 = .ok (.if_icmp .le 8, 3) := by decide +kernel
theorem dX7_treads_36 : decode cX7_treads 36 = .ok (.bipush 99, 2) := by decide +kernel
theorem dX7_treads_38 : decode cX7_treads 38 = .ok (.goto 15, 3) := by decide +kernel
theorem dX7_treads_41 : decode cX7_treads 41 = .ok (.aload_n 0, 1) := by decide +kernel
theorem dX7_treads_42 : decode cX7_treads 42 = .ok (.getfield 7, 3) := by decide +kernel
theorem dX7_treads_45 : decode cX7_treads 45 = .ok (.iload_n 3, 1) := by decide +kernel
theorem dX7_treads_46 : decode cX7_treads 46 = .ok (.iaload, 1) := by decide +kernel
theorem dX7_treads_47 : decode cX7_treads 47 = .ok (.aload_n 0, 1) := by decide +kernel
theorem dX7_treads_48 : decode cX7_treads 48 = .ok (.iload_n 1, 1) := by decide +kernel
theorem dX7_treads_49 : decode cX7_treads 49 = .ok (.invokevirtual 87, 3) := by decide +kernel
theorem dX7_treads_52 : decode cX7_treads 52 = .ok (.iadd, 1) := by decide +kernel
theorem dX7_treads_53 : decode cX7_treads 53 = .ok (.iastore, 1) := by decide +kernel
theorem dX7_treads_54 : decode cX7_treads 54 = .ok (.return_, 1) := by decide +kernel
def f_X7_treads (p1 : Int32) (p2 : Int32) (S : gSt) : Option gSt :=
gBind2 (f_X7_shoesOf p1 S) fun r3 S1 =>
gLet (((32 : Int32) + ((64 : Int32) * r3)) + p2) fun v4 =>
if gin v4 416 then
(gBind2 (f_X7_deep p1 S1) fun r8 S6 =>
(if ((S1.1 48 v4.toNatClampNeg) + r8) ≤ (99 : Int32) then
if gin v4 416 then
(gBind2 (f_X7_deep p1 S6) fun r13 S11 =>
if gin v4 416 then
gLet (gI S11 48 v4.toNatClampNeg ((S6.1 48 v4.toNatClampNeg) + r13)) fun S15 =>
(some S15) else none) else none
else
if gin v4 416 then
gLet (gI S6 48 v4.toNatClampNeg (99 : Int32)) fun S17 =>
(some S17) else none)) else none
set_option maxHeartbeats 4000000 in
set_option maxRecDepth 20000 in
theorem ok_X7_treads {p1 : Int32} {p2 : Int32} {S S0 : gSt}  (h : f_X7_treads p1 p2 S = some S0) : gCT yX7_treads cX7_treads 4 none 2 (fun w => [.ref (w.2.1 47), .int p1, .int p2]) S none S0 := by
  refine gEnter (fun X => [some (.ref (gad X 47)), some (.int p1), some (.int p2), none]) (by decide) (fun X => ⟨rfl, rfl⟩) (fun w => Nat.le_of_ble_eq_true rfl) (fun X hp => ?_)
  show AW X RX7 2 cX7_treads 0 [some (.ref (gad X 47)), some (.int p1), some (.int p2), none] [] S
  unfold f_X7_treads at h
  refine a_bipush (pc := 0) (v := (32 : Int32)) dX7_treads_0 (by decide) ?_
  refine a_bipush (pc := 2) (v := (64 : Int32)) dX7_treads_2 (by decide) ?_
  refine a_aloadn (pc := 4) dX7_treads_4 rfl rfl ?_
  refine a_iloadn (pc := 5) dX7_treads_5 rfl rfl ?_
  obtain ⟨r3, S1, hc2, h⟩ := g_bind2 h
  refine a_invVi (pc := 6) (ok_X7_shoesOf hc2) gyX7_shoesOf vyX7_shoesOf mlX7_90 sh_47 rfl (As := [.int p1]) rfl rfl (by decide) (st := [.int (64 : Int32), .int (32 : Int32)]) rfl (Nat.le_of_ble_eq_true rfl) dX7_treads_6 ?_
  refine a_imul (pc := 9) dX7_treads_9 ?_
  refine a_iadd (pc := 10) dX7_treads_10 ?_
  refine a_iloadn (pc := 11) dX7_treads_11 rfl rfl ?_
  refine a_iadd (pc := 12) dX7_treads_12 ?_
  obtain ⟨v4, ev4, h⟩ := g_let h
  refine a_nmI ev4 ?_
  refine a_istoren (pc := 13) dX7_treads_13 rfl (Nat.le_of_ble_eq_true rfl) rfl (L' := [some (.ref (gad X 47)), some (.int p1), some (.int p2), some (.int v4)]) rfl ?_
  refine a_aloadn (pc := 14) dX7_treads_14 rfl rfl ?_
  refine a_getA (pc := 15) flX7_7 sh_47 rfl dX7_treads_15 ?_
  refine a_iloadn (pc := 18) dX7_treads_18 rfl rfl ?_
  refine a_aloadn (pc := 19) dX7_treads_19 rfl rfl ?_
  refine a_getA (pc := 20) flX7_7 sh_47 rfl dX7_treads_20 ?_
  refine a_iloadn (pc := 23) dX7_treads_23 rfl rfl ?_
  obtain ⟨hi5, h⟩ := g_if h
  refine a_iald (pc := 24) sh_48 hi5 dX7_treads_24 ?_
  refine a_aloadn (pc := 25) dX7_treads_25 rfl rfl ?_
  refine a_iloadn (pc := 26) dX7_treads_26 rfl rfl ?_
  obtain ⟨r8, S6, hc7, h⟩ := g_bind2 h
  refine a_invVi (pc := 27) (ok_X7_deep hc7) gyX7_deep vyX7_deep mlX7_87 sh_47 rfl (As := [.int p1]) rfl rfl (by decide) (st := [.int (S1.1 48 v4.toNatClampNeg), .int v4, .ref (gad X 48)]) rfl (Nat.le_of_ble_eq_true rfl) dX7_treads_27 ?_
  refine a_iadd (pc := 30) dX7_treads_30 ?_
  refine a_bipush (pc := 31) (v := (99 : Int32)) dX7_treads_31 (by decide) ?_
  refine a_icmp_le (pc := 33) (tgt := 41) dX7_treads_33 (by decide) (fun c9 => ?_) (fun c9 => ?_)
  · rw [if_pos c9] at h
    refine a_aloadn (pc := 41) dX7_treads_41 rfl rfl ?_
    refine a_getA (pc := 42) flX7_7 sh_47 rfl dX7_treads_42 ?_
    refine a_iloadn (pc := 45) dX7_treads_45 rfl rfl ?_
    obtain ⟨hi10, h⟩ := g_if h
    refine a_iald (pc := 46) sh_48 hi10 dX7_treads_46 ?_
    refine a_aloadn (pc := 47) dX7_treads_47 rfl rfl ?_
    refine a_iloadn (pc := 48) dX7_treads_48 rfl rfl ?_
    obtain ⟨r13, S11, hc12, h⟩ := g_bind2 h
    refine a_invVi (pc := 49) (ok_X7_deep hc12) gyX7_deep vyX7_deep mlX7_87 sh_47 rfl (As := [.int p1]) rfl rfl (by decide) (st := [.int (S6.1 48 v4.toNatClampNeg), .int v4, .ref (gad X 48)]) rfl (Nat.le_of_ble_eq_true rfl) dX7_treads_49 ?_
    refine a_iadd (pc := 52) dX7_treads_52 ?_
    obtain ⟨hi14, h⟩ := g_if h
    refine a_iast (pc := 53) sh_48 hi14 dX7_treads_53 ?_
    obtain ⟨S15, eS15, h⟩ := g_let h
    refine a_nmS eS15 ?_
    obtain rfl := Option.some.inj h
    exact a_vret hp dX7_treads_54
  · rw [if_neg c9] at h
    refine a_bipush (pc := 36) (v := (99 : Int32)) dX7_treads_36 (by decide) ?_
    refine a_goto (pc := 38) (tgt := 53) dX7_treads_38 (by decide) ?_
    obtain ⟨hi16, h⟩ := g_if h
    refine a_iast (pc := 53) sh_48 hi16 dX7_treads_53 ?_
    obtain ⟨S17, eS17, h⟩ := g_let h
    refine a_nmS eS17 ?_
    obtain rfl := Option.some.inj h
    exact a_vret hp dX7_treads_54
theorem dX7_steps_0 : decode cX7_steps 0 = .ok (.bipush 8, 2) := by decide +kernel
theorem dX7_steps_2 : decode cX7_steps 2 = .ok (.iconst 4, 1) := by decide +kernel
theorem dX7_steps_3 : decode cX7_steps 3 = .ok (.iload_n 1, 1) := by decide +kernel
theorem dX7_steps_4 : decode cX7_steps 4 = .ok (.imul, 1) := by decide +kernel
theorem dX7_steps_5 : decode cX7_steps 5 = .ok (.iadd, 1) := by decide +kernel
theorem dX7_steps_6 : decode cX7_steps 6 = .ok (.istore_n 3, 1) := by decide +kernel
theorem dX7_steps_7 : decode cX7_steps 7 = .ok (.aload_n 0, 1) := by decide +kernel
theorem dX7_steps_8 : decode cX7_steps 8 = .ok (.getfield 7, 3) := by decide +kernel
theorem dX7_steps_11 : decode cX7_steps 11 = .ok (.iload_n 3, 1) := by decide +kernel
theorem dX7_steps_12 : decode cX7_steps 12 = .ok (.iconst 2, 1) := by decide +kernel
theorem dX7_steps_13 : decode cX7_steps 13 = .ok (.iadd, 1) := by decide +kernel
theorem dX7_steps_14 : decode cX7_steps 14 = .ok (.iaload, 1) := by decide +kernel
theorem dX7_steps_15 : decode cX7_steps 15 = .ok (.istore 4, 2) := by decide +kernel
theorem dX7_steps_17 : decode cX7_steps 17 = .ok (.aload_n 0, 1) := by decide +kernel
theorem dX7_steps_18 : decode cX7_steps 18 = .ok (.getfield 7, 3) := by decide +kernel
theorem dX7_steps_21 : decode cX7_steps 21 = .ok (.iload_n 3, 1) := by decide +kernel
theorem dX7_steps_22 : decode cX7_steps 22 = .ok (.iconst 2, 1) := by decide +kernel
theorem dX7_steps_23 : decode cX7_steps 23 = .ok (.iadd, 1) := by decide +kernel
theorem dX7_steps_24 : decode cX7_steps 24 = .ok (.iload 4, 2) := by decide +kernel
theorem dX7_steps_26 : decode cX7_steps 26 = .ok (.iload_n 2, 1) := by decide +kernel
theorem dX7_steps_27 : decode cX7_steps 27 = .ok (.invokestatic 146, 3) := by decide +kernel
theorem dX7_steps_30 : decode cX7_steps 30 = .ok (.iastore, 1) := by decide +kernel
theorem dX7_steps_31 : decode cX7_steps 31 = .ok (.aload_n 0, 1) := by decide +kernel
theorem dX7_steps_32 : decode cX7_steps 32 = .ok (.getfield 7, 3) := by decide +kernel
theorem dX7_steps_35 : decode cX7_steps 35 = .ok (.iload_n 3, 1) := by decide +kernel
theorem dX7_steps_36 : decode cX7_steps 36 = .ok (.iconst 3, 1) := by decide +kernel
theorem dX7_steps_37 : decode cX7_steps 37 = .ok (.iadd, 1) := by decide +kernel
theorem dX7_steps_38 : decode cX7_steps 38 = .ok (.dup2, 1) := by decide +kernel
theorem dX7_steps_39 : decode cX7_steps 39 = .ok (.iaload, 1) := by decide +kernel
theorem dX7_steps_40 : decode cX7_steps 40 = .ok (.iconst 1, 1) := by decide +kernel
theorem dX7_steps_41 : decode cX7_steps 41 = .ok (.iadd, 1) := by decide +kernel
theorem dX7_steps_42 : decode cX7_steps 42 = .ok (.iastore, 1) := by decide +kernel
theorem dX7_steps_43 : decode cX7_steps 43 = .ok (.aload_n 0, 1) := by decide +kernel
theorem dX7_steps_44 : decode cX7_steps 44 = .ok (.iload_n 1, 1) := by decide +kernel
theorem dX7_steps_45 : decode cX7_steps 45 = .ok (.invokevirtual 57, 3) := by decide +kernel
theorem dX7_steps_48 : decode cX7_steps 48 = .ok (.iconst 4, 1) := by decide +kernel
theorem dX7_steps_49 : decode cX7_steps 49 = .ok (.if_icmp .ne 16, 3) := by decide +kernel
theorem dX7_steps_52 : decode cX7_steps 52 = .ok (.aload_n 0, 1) := by decide +kernel
theorem dX7_steps_53 : decode cX7_steps 53 = .ok (.getfield 7, 3) := by decide +kernel
theorem dX7_steps_56 : decode cX7_steps 56 = .ok (.iload_n 3, 1) := by decide +kernel
theorem dX7_steps_57 : decode cX7_steps 57 = .ok (.iconst 3, 1) := by decide +kernel
theorem dX7_steps_58 : decode cX7_steps 58 = .ok (.iadd, 1) := by decide +kernel
theorem dX7_steps_59 : decode cX7_steps 59 = .ok (.iaload, 1) := by decide +kernel
theorem dX7_steps_60 : decode cX7_steps 60 = .ok (.iconst 2, 1) := by decide +kernel
theorem dX7_steps_61 : decode cX7_steps 61 = .ok (.irem, 1) := by decide +kernel
theorem dX7_steps_62 : decode cX7_steps 62 = .ok (.ifCond .ne 16, 3) := by decide +kernel
theorem dX7_steps_65 : decode cX7_steps 65 = .ok (.aload_n 0, 1) := by decide +kernel
theorem dX7_steps_66 : decode cX7_steps 66 = .ok (.iload_n 1, 1) := by decide +kernel
theorem dX7_steps_67 : decode cX7_steps 67 = .ok (.aload_n 0, 1) := by decide +kernel
theorem dX7_steps_68 : decode cX7_steps 68 = .ok (.getfield 7, 3) := by decide +kernel
theorem dX7_steps_71 : decode cX7_steps 71 = .ok (.iload_n 3, 1) := by decide +kernel
theorem dX7_steps_72 : decode cX7_steps 72 = .ok (.iconst 2, 1) := by decide +kernel
theorem dX7_steps_73 : decode cX7_steps 73 = .ok (.iadd, 1) := by decide +kernel
theorem dX7_steps_74 : decode cX7_steps 74 = .ok (.iaload, 1) := by decide +kernel
theorem dX7_steps_75 : decode cX7_steps 75 = .ok (.invokevirtual 149, 3) := by decide +kernel
theorem dX7_steps_78 : decode cX7_steps 78 = .ok (.aload_n 0, 1) := by decide +kernel
theorem dX7_steps_79 : decode cX7_steps 79 = .ok (.iload_n 1, 1) := by decide +kernel
theorem dX7_steps_80 : decode cX7_steps 80 = .ok (.invokevirtual 57, 3) := by decide +kernel
theorem dX7_steps_83 : decode cX7_steps 83 = .ok (.iconst 3, 1) := by decide +kernel
theorem dX7_steps_84 : decode cX7_steps 84 = .ok (.if_icmp .ne 10, 3) := by decide +kernel
theorem dX7_steps_87 : decode cX7_steps 87 = .ok (.aload_n 0, 1) := by decide +kernel
theorem dX7_steps_88 : decode cX7_steps 88 = .ok (.iload_n 1, 1) := by decide +kernel
theorem dX7_steps_89 : decode cX7_steps 89 = .ok (.iload 4, 2) := by decide +kernel
theorem dX7_steps_91 : decode cX7_steps 91 = .ok (.invokevirtual 149, 3) := by decide +kernel
theorem dX7_steps_94 : decode cX7_steps 94 = .ok (.return_, 1) := by decide +kernel
def f_X7_steps_j78 (x1 : Int32) (x4 : Int32) (S : gSt) : Option gSt :=
gBind2 (f_X7_kind x1 S) fun r3 S1 =>
(if r3 = (3 : Int32) then
(f_X7_treads x1 x4 S1).bind fun S5 =>
some S5
else
some S1)
def f_X7_steps_j65 (x1 : Int32) (x3 : Int32) (x4 : Int32) (S : gSt) : Option gSt :=
if gin (x3 + (2 : Int32)) 416 then
((f_X7_treads x1 (S.1 48 (x3 + (2 : Int32)).toNatClampNeg) S).bind fun S8 =>
f_X7_steps_j78 x1 x4 S8) else none
def f_X7_steps (p1 : Int32) (p2 : Int32) (S : gSt) : Option gSt :=
gLet ((8 : Int32) + ((4 : Int32) * p1)) fun v10 =>
if gin (v10 + (2 : Int32)) 416 then
(gLet (S.1 48 (v10 + (2 : Int32)).toNatClampNeg) fun v12 =>
gBind2 (f_X7_beside v12 p2 S) fun r15 S13 =>
if gin (v10 + (2 : Int32)) 416 then
gLet (gI S13 48 (v10 + (2 : Int32)).toNatClampNeg r15) fun S17 =>
(if gin (v10 + (3 : Int32)) 416 then
(if gin (v10 + (3 : Int32)) 416 then
gLet (gI S17 48 (v10 + (3 : Int32)).toNatClampNeg ((S17.1 48 (v10 + (3 : Int32)).toNatClampNeg) + (1 : Int32))) fun S20 =>
(gBind2 (f_X7_kind p1 S20) fun r23 S21 =>
(if r23 = (4 : Int32) then
if gin (v10 + (3 : Int32)) 416 then
((if ((S21.1 48 (v10 + (3 : Int32)).toNatClampNeg) - (S21.1 48 (v10 + (3 : Int32)).toNatClampNeg) / (2 : Int32) * (2 : Int32)) = 0 then
f_X7_steps_j65 p1 v10 v12 S21
else
f_X7_steps_j78 p1 v12 S21)) else none
else
f_X7_steps_j65 p1 v10 v12 S21)) else none) else none) else none) else none
set_option maxHeartbeats 4000000 in
set_option maxRecDepth 20000 in
theorem ok_X7_steps {p1 : Int32} {p2 : Int32} {S S0 : gSt}  (h : f_X7_steps p1 p2 S = some S0) : gCT yX7_steps cX7_steps 5 none 3 (fun w => [.ref (w.2.1 47), .int p1, .int p2]) S none S0 := by
  refine gEnter (fun X => [some (.ref (gad X 47)), some (.int p1), some (.int p2), none, none]) (by decide) (fun X => ⟨rfl, rfl⟩) (fun w => Nat.le_of_ble_eq_true rfl) (fun X hp => ?_)
  show AW X RX7 3 cX7_steps 0 [some (.ref (gad X 47)), some (.int p1), some (.int p2), none, none] [] S
  unfold f_X7_steps at h
  have J78 : ∀ (x1 : Int32) (x4 : Int32) (S : gSt), f_X7_steps_j78 x1 x4 S = some S0 → AW X RX7 3 cX7_steps 78 [some (.ref (gad X 47)), some (.int x1), none, none, some (.int x4)] [] S := by
    intro x1 x4 S h
    unfold f_X7_steps_j78 at h
    refine a_aloadn (pc := 78) dX7_steps_78 rfl rfl ?_
    refine a_iloadn (pc := 79) dX7_steps_79 rfl rfl ?_
    obtain ⟨r3, S1, hc2, h⟩ := g_bind2 h
    refine a_invVi (pc := 80) (ok_X7_kind hc2) gyX7_kind vyX7_kind mlX7_57 sh_47 rfl (As := [.int x1]) rfl rfl (by decide) (st := []) rfl (Nat.le_of_ble_eq_true rfl) dX7_steps_80 ?_
    refine a_iconst (pc := 83) (v := (3 : Int32)) dX7_steps_83 (by decide) ?_
    refine a_icmp_ne (pc := 84) (tgt := 94) dX7_steps_84 (by decide) (fun c4 => ?_) (fun c4 => ?_)
    · rw [if_neg c4] at h
      obtain rfl := Option.some.inj h
      exact a_vret hp dX7_steps_94
    · rw [if_pos c4] at h
      refine a_aloadn (pc := 87) dX7_steps_87 rfl rfl ?_
      refine a_iloadn (pc := 88) dX7_steps_88 rfl rfl ?_
      refine a_iload (pc := 89) dX7_steps_89 rfl ?_
      obtain ⟨S5, hc6, h⟩ := g_bind h
      refine a_invVv (pc := 91) (ok_X7_treads hc6) gyX7_treads vyX7_treads mlX7_149 sh_47 rfl (As := [.int x1, .int x4]) rfl rfl (by decide) (st := []) rfl (Nat.le_of_ble_eq_true rfl) dX7_steps_91 ?_
      obtain rfl := Option.some.inj h
      exact a_vret hp dX7_steps_94
  have J65 : ∀ (x1 : Int32) (x3 : Int32) (x4 : Int32) (S : gSt), f_X7_steps_j65 x1 x3 x4 S = some S0 → AW X RX7 3 cX7_steps 65 [some (.ref (gad X 47)), some (.int x1), none, some (.int x3), some (.int x4)] [] S := by
    intro x1 x3 x4 S h
    unfold f_X7_steps_j65 at h
    refine a_aloadn (pc := 65) dX7_steps_65 rfl rfl ?_
    refine a_iloadn (pc := 66) dX7_steps_66 rfl rfl ?_
    refine a_aloadn (pc := 67) dX7_steps_67 rfl rfl ?_
    refine a_getA (pc := 68) flX7_7 sh_47 rfl dX7_steps_68 ?_
    refine a_iloadn (pc := 71) dX7_steps_71 rfl rfl ?_
    refine a_iconst (pc := 72) (v := (2 : Int32)) dX7_steps_72 (by decide) ?_
    refine a_iadd (pc := 73) dX7_steps_73 ?_
    obtain ⟨hi7, h⟩ := g_if h
    refine a_iald (pc := 74) sh_48 hi7 dX7_steps_74 ?_
    obtain ⟨S8, hc9, h⟩ := g_bind h
    refine a_invVv (pc := 75) (ok_X7_treads hc9) gyX7_treads vyX7_treads mlX7_149 sh_47 rfl (As := [.int x1, .int (S.1 48 (x3 + (2 : Int32)).toNatClampNeg)]) rfl rfl (by decide) (st := []) rfl (Nat.le_of_ble_eq_true rfl) dX7_steps_75 ?_
    refine a_mask [true, true, true, false, true] (L' := [some (.ref (gad X 47)), some (.int x1), none, none, some (.int x4)]) rfl ?_
    exact J78 _ _ _ h
  refine a_bipush (pc := 0) (v := (8 : Int32)) dX7_steps_0 (by decide) ?_
  refine a_iconst (pc := 2) (v := (4 : Int32)) dX7_steps_2 (by decide) ?_
  refine a_iloadn (pc := 3) dX7_steps_3 rfl rfl ?_
  refine a_imul (pc := 4) dX7_steps_4 ?_
  refine a_iadd (pc := 5) dX7_steps_5 ?_
  obtain ⟨v10, ev10, h⟩ := g_let h
  refine a_nmI ev10 ?_
  refine a_istoren (pc := 6) dX7_steps_6 rfl (Nat.le_of_ble_eq_true rfl) rfl (L' := [some (.ref (gad X 47)), some (.int p1), some (.int p2), some (.int v10), none]) rfl ?_
  refine a_aloadn (pc := 7) dX7_steps_7 rfl rfl ?_
  refine a_getA (pc := 8) flX7_7 sh_47 rfl dX7_steps_8 ?_
  refine a_iloadn (pc := 11) dX7_steps_11 rfl rfl ?_
  refine a_iconst (pc := 12) (v := (2 : Int32)) dX7_steps_12 (by decide) ?_
  refine a_iadd (pc := 13) dX7_steps_13 ?_
  obtain ⟨hi11, h⟩ := g_if h
  refine a_iald (pc := 14) sh_48 hi11 dX7_steps_14 ?_
  obtain ⟨v12, ev12, h⟩ := g_let h
  refine a_nmI ev12 ?_
  refine a_istore (pc := 15) dX7_steps_15 (Nat.le_of_ble_eq_true rfl) rfl (L' := [some (.ref (gad X 47)), some (.int p1), some (.int p2), some (.int v10), some (.int v12)]) rfl ?_
  refine a_aloadn (pc := 17) dX7_steps_17 rfl rfl ?_
  refine a_getA (pc := 18) flX7_7 sh_47 rfl dX7_steps_18 ?_
  refine a_iloadn (pc := 21) dX7_steps_21 rfl rfl ?_
  refine a_iconst (pc := 22) (v := (2 : Int32)) dX7_steps_22 (by decide) ?_
  refine a_iadd (pc := 23) dX7_steps_23 ?_
  refine a_iload (pc := 24) dX7_steps_24 rfl ?_
  refine a_iloadn (pc := 26) dX7_steps_26 rfl rfl ?_
  obtain ⟨r15, S13, hc14, h⟩ := g_bind2 h
  refine a_invSi (pc := 27) (ok_X7_beside hc14) gyX7_beside syX7_beside mlX7_146 (As := [.int v12, .int p2]) rfl rfl (by decide) (st := [.int (v10 + (2 : Int32)), .ref (gad X 48)]) rfl (Nat.le_of_ble_eq_true rfl) dX7_steps_27 ?_
  obtain ⟨hi16, h⟩ := g_if h
  refine a_iast (pc := 30) sh_48 hi16 dX7_steps_30 ?_
  obtain ⟨S17, eS17, h⟩ := g_let h
  refine a_nmS eS17 ?_
  refine a_aloadn (pc := 31) dX7_steps_31 rfl rfl ?_
  refine a_getA (pc := 32) flX7_7 sh_47 rfl dX7_steps_32 ?_
  refine a_iloadn (pc := 35) dX7_steps_35 rfl rfl ?_
  refine a_iconst (pc := 36) (v := (3 : Int32)) dX7_steps_36 (by decide) ?_
  refine a_iadd (pc := 37) dX7_steps_37 ?_
  refine a_dup2 (pc := 38) dX7_steps_38 rfl rfl ?_
  obtain ⟨hi18, h⟩ := g_if h
  refine a_iald (pc := 39) sh_48 hi18 dX7_steps_39 ?_
  refine a_iconst (pc := 40) (v := (1 : Int32)) dX7_steps_40 (by decide) ?_
  refine a_iadd (pc := 41) dX7_steps_41 ?_
  obtain ⟨hi19, h⟩ := g_if h
  refine a_iast (pc := 42) sh_48 hi19 dX7_steps_42 ?_
  obtain ⟨S20, eS20, h⟩ := g_let h
  refine a_nmS eS20 ?_
  refine a_aloadn (pc := 43) dX7_steps_43 rfl rfl ?_
  refine a_iloadn (pc := 44) dX7_steps_44 rfl rfl ?_
  obtain ⟨r23, S21, hc22, h⟩ := g_bind2 h
  refine a_invVi (pc := 45) (ok_X7_kind hc22) gyX7_kind vyX7_kind mlX7_57 sh_47 rfl (As := [.int p1]) rfl rfl (by decide) (st := []) rfl (Nat.le_of_ble_eq_true rfl) dX7_steps_45 ?_
  refine a_iconst (pc := 48) (v := (4 : Int32)) dX7_steps_48 (by decide) ?_
  refine a_icmp_ne (pc := 49) (tgt := 65) dX7_steps_49 (by decide) (fun c24 => ?_) (fun c24 => ?_)
  · rw [if_neg c24] at h
    refine a_mask [true, true, false, true, true] (L' := [some (.ref (gad X 47)), some (.int p1), none, some (.int v10), some (.int v12)]) rfl ?_
    exact J65 _ _ _ _ h
  · rw [if_pos c24] at h
    refine a_aloadn (pc := 52) dX7_steps_52 rfl rfl ?_
    refine a_getA (pc := 53) flX7_7 sh_47 rfl dX7_steps_53 ?_
    refine a_iloadn (pc := 56) dX7_steps_56 rfl rfl ?_
    refine a_iconst (pc := 57) (v := (3 : Int32)) dX7_steps_57 (by decide) ?_
    refine a_iadd (pc := 58) dX7_steps_58 ?_
    obtain ⟨hi25, h⟩ := g_if h
    refine a_iald (pc := 59) sh_48 hi25 dX7_steps_59 ?_
    refine a_iconst (pc := 60) (v := (2 : Int32)) dX7_steps_60 (by decide) ?_
    refine a_irem (pc := 61) dX7_steps_61 (by decide) ?_
    refine a_if_ne (pc := 62) (tgt := 78) dX7_steps_62 (by decide) (fun c26 => ?_) (fun c26 => ?_)
    · rw [if_neg c26] at h
      refine a_mask [true, true, false, false, true] (L' := [some (.ref (gad X 47)), some (.int p1), none, none, some (.int v12)]) rfl ?_
      exact J78 _ _ _ h
    · rw [if_pos c26] at h
      refine a_mask [true, true, false, true, true] (L' := [some (.ref (gad X 47)), some (.int p1), none, some (.int v10), some (.int v12)]) rfl ?_
      exact J65 _ _ _ _ h
theorem dX7_step_0 : decode cX7_step 0 = .ok (.aload_n 0, 1) := by decide +kernel
theorem dX7_step_1 : decode cX7_step 1 = .ok (.iload_n 1, 1) := by decide +kernel
theorem dX7_step_2 : decode cX7_step 2 = .ok (.invokevirtual 82, 3) := by decide +kernel
theorem dX7_step_5 : decode cX7_step 5 = .ok (.ifCond .eq 15, 3) := by decide +kernel
theorem dX7_step_8 : decode cX7_step 8 = .ok (.iload_n 2, 1) := by decide +kernel
theorem dX7_step_9 : decode cX7_step 9 = .ok (.i2l, 1) := by decide +kernel
theorem dX7_step_10 : decode cX7_step 10 = .ok (.lconst 0, 1) := by decide +kernel
theorem dX7_step_11 : decode cX7_step 11 = .ok (.ldc2_w 98, 3) := by decide +kernel
theorem dX7_step_14 : decode cX7_step 14 = .ok (.invokestatic 51, 3) := by decide +kernel
theorem dX7_step_17 : decode cX7_step 17 = .ok (.ifCond .ne 5, 3) := by decide +kernel
theorem dX7_step_20 : decode cX7_step 20 = .ok (.iconst (-1), 1) := by decide +kernel
theorem dX7_step_21 : decode cX7_step 21 = .ok (.ireturn, 1) := by decide +kernel
theorem dX7_step_22 : decode cX7_step 22 = .ok (.aload_n 0, 1) := by decide +kernel
theorem dX7_step_23 : decode cX7_step 23 = .ok (.getfield 7, 3) := by decide +kernel
theorem dX7_step_26 : decode cX7_step 26 = .ok (.bipush 8, 2) := by decide +kernel
theorem dX7_step_28 : decode cX7_step 28 = .ok (.iconst 4, 1) := by decide +kernel
theorem dX7_step_29 : decode cX7_step 29 = .ok (.iload_n 1, 1) := by decide +kernel
theorem dX7_step_30 : decode cX7_step 30 = .ok (.imul, 1) := by decide +kernel
theorem dX7_step_31 : decode cX7_step 31 = .ok (.iadd, 1) := by decide +kernel
theorem dX7_step_32 : decode cX7_step 32 = .ok (.iconst 2, 1) := by decide +kernel
theorem dX7_step_33 : decode cX7_step 33 = .ok (.iadd, 1) := by decide +kernel
theorem dX7_step_34 : decode cX7_step 34 = .ok (.iaload, 1) := by decide +kernel
theorem dX7_step_35 : decode cX7_step 35 = .ok (.iload_n 2, 1) := by decide +kernel
theorem dX7_step_36 : decode cX7_step 36 = .ok (.invokestatic 146, 3) := by decide +kernel
theorem dX7_step_39 : decode cX7_step 39 = .ok (.bipush (-4), 2) := by decide +kernel
theorem dX7_step_41 : decode cX7_step 41 = .ok (.if_icmp .ne 6, 3) := by decide +kernel
theorem dX7_step_44 : decode cX7_step 44 = .ok (.bipush (-2), 2) := by decide +kernel
theorem dX7_step_46 : decode cX7_step 46 = .ok (.ireturn, 1) := by decide +kernel
theorem dX7_step_47 : decode cX7_step 47 = .ok (.aload_n 0, 1) := by decide +kernel
theorem dX7_step_48 : decode cX7_step 48 = .ok (.invokevirtual 153, 3) := by decide +kernel
theorem dX7_step_51 : decode cX7_step 51 = .ok (.aload_n 0, 1) := by decide +kernel
theorem dX7_step_52 : decode cX7_step 52 = .ok (.iload_n 1, 1) := by decide +kernel
theorem dX7_step_53 : decode cX7_step 53 = .ok (.iload_n 2, 1) := by decide +kernel
theorem dX7_step_54 : decode cX7_step 54 = .ok (.invokevirtual 156, 3) := by decide +kernel
theorem dX7_step_57 : decode cX7_step 57 = .ok (.aload_n 0, 1) := by decide +kernel
theorem dX7_step_58 : decode cX7_step 58 = .ok (.getfield 7, 3) := by decide +kernel
theorem dX7_step_61 : decode cX7_step 61 = .ok (.bipush 8, 2) := by decide +kernel
theorem dX7_step_63 : decode cX7_step 63 = .ok (.iconst 4, 1) := by decide +kernel
theorem dX7_step_64 : decode cX7_step 64 = .ok (.iload_n 1, 1) := by decide +kernel
theorem dX7_step_65 : decode cX7_step 65 = .ok (.imul, 1) := by decide +kernel
theorem dX7_step_66 : decode cX7_step 66 = .ok (.iadd, 1) := by decide +kernel
theorem dX7_step_67 : decode cX7_step 67 = .ok (.iconst 2, 1) := by decide +kernel
theorem dX7_step_68 : decode cX7_step 68 = .ok (.iadd, 1) := by decide +kernel
theorem dX7_step_69 : decode cX7_step 69 = .ok (.iaload, 1) := by decide +kernel
theorem dX7_step_70 : decode cX7_step 70 = .ok (.ireturn, 1) := by decide +kernel
def f_X7_step (p1 : Int32) (p2 : Int32) (S : gSt) : Option (Int32 × gSt) :=
gBind2 (f_X7_isWalker p1 S) fun r3 S1 =>
(if r3 = 0 then
some ((-1 : Int32), S1)
else
gBind2 (f_X7_in (p2.toInt64) (0 : Int64) (3 : Int64) S1) fun r7 S5 =>
(if r7 = 0 then
some ((-1 : Int32), S5)
else
if gin (((8 : Int32) + ((4 : Int32) * p1)) + (2 : Int32)) 416 then
(gBind2 (f_X7_beside (S5.1 48 (((8 : Int32) + ((4 : Int32) * p1)) + (2 : Int32)).toNatClampNeg) p2 S5) fun r12 S10 =>
(if r12 = (-4 : Int32) then
some ((-2 : Int32), S10)
else
(f_X7_notes S10).bind fun S14 =>
(f_X7_steps p1 p2 S14).bind fun S16 =>
if gin (((8 : Int32) + ((4 : Int32) * p1)) + (2 : Int32)) 416 then
(some (S16.1 48 (((8 : Int32) + ((4 : Int32) * p1)) + (2 : Int32)).toNatClampNeg, S16)) else none)) else none))
set_option maxHeartbeats 4000000 in
set_option maxRecDepth 20000 in
theorem ok_X7_step {p1 : Int32} {p2 : Int32} {S S0 : gSt} {r0 : Int32}  (h : f_X7_step p1 p2 S = some (r0, S0)) : gCT yX7_step cX7_step 3 (some .int) 4 (fun w => [.ref (w.2.1 47), .int p1, .int p2]) S (some (.int r0)) S0 := by
  refine gEnter (fun X => [some (.ref (gad X 47)), some (.int p1), some (.int p2)]) (by decide) (fun X => ⟨rfl, rfl⟩) (fun w => Nat.le_of_ble_eq_true rfl) (fun X hp => ?_)
  show AW X RX7 4 cX7_step 0 [some (.ref (gad X 47)), some (.int p1), some (.int p2)] [] S
  unfold f_X7_step at h
  refine a_aloadn (pc := 0) dX7_step_0 rfl rfl ?_
  refine a_iloadn (pc := 1) dX7_step_1 rfl rfl ?_
  obtain ⟨r3, S1, hc2, h⟩ := g_bind2 h
  refine a_invVi (pc := 2) (ok_X7_isWalker hc2) gyX7_isWalker vyX7_isWalker mlX7_82 sh_47 rfl (As := [.int p1]) rfl rfl (by decide) (st := []) rfl (Nat.le_of_ble_eq_true rfl) dX7_step_2 ?_
  refine a_if_eq (pc := 5) (tgt := 20) dX7_step_5 (by decide) (fun c4 => ?_) (fun c4 => ?_)
  · rw [if_pos c4] at h
    refine a_iconst (pc := 20) (v := (-1 : Int32)) dX7_step_20 (by decide) ?_
    obtain ⟨rfl, rfl⟩ := Prod.mk.inj (Option.some.inj h)
    exact a_iret hp dX7_step_21
  · rw [if_neg c4] at h
    refine a_iloadn (pc := 8) dX7_step_8 rfl rfl ?_
    refine a_i2l (pc := 9) dX7_step_9 ?_
    refine a_lconst (pc := 10) (v := (0 : Int64)) dX7_step_10 (by decide) ?_
    refine a_ldc2 (pc := 11) kX7_98 dX7_step_11 ?_
    obtain ⟨r7, S5, hc6, h⟩ := g_bind2 h
    refine a_invSi (pc := 14) (ok_X7_in hc6) gyX7_in syX7_in mlX7_51 (As := [.long (p2.toInt64), .long (0 : Int64), .long (3 : Int64)]) rfl rfl (by decide) (st := []) rfl (Nat.le_of_ble_eq_true rfl) dX7_step_14 ?_
    refine a_if_ne (pc := 17) (tgt := 22) dX7_step_17 (by decide) (fun c8 => ?_) (fun c8 => ?_)
    · rw [if_neg c8] at h
      refine a_aloadn (pc := 22) dX7_step_22 rfl rfl ?_
      refine a_getA (pc := 23) flX7_7 sh_47 rfl dX7_step_23 ?_
      refine a_bipush (pc := 26) (v := (8 : Int32)) dX7_step_26 (by decide) ?_
      refine a_iconst (pc := 28) (v := (4 : Int32)) dX7_step_28 (by decide) ?_
      refine a_iloadn (pc := 29) dX7_step_29 rfl rfl ?_
      refine a_imul (pc := 30) dX7_step_30 ?_
      refine a_iadd (pc := 31) dX7_step_31 ?_
      refine a_iconst (pc := 32) (v := (2 : Int32)) dX7_step_32 (by decide) ?_
      refine a_iadd (pc := 33) dX7_step_33 ?_
      obtain ⟨hi9, h⟩ := g_if h
      refine a_iald (pc := 34) sh_48 hi9 dX7_step_34 ?_
      refine a_iloadn (pc := 35) dX7_step_35 rfl rfl ?_
      obtain ⟨r12, S10, hc11, h⟩ := g_bind2 h
      refine a_invSi (pc := 36) (ok_X7_beside hc11) gyX7_beside syX7_beside mlX7_146 (As := [.int (S5.1 48 (((8 : Int32) + ((4 : Int32) * p1)) + (2 : Int32)).toNatClampNeg), .int p2]) rfl rfl (by decide) (st := []) rfl (Nat.le_of_ble_eq_true rfl) dX7_step_36 ?_
      refine a_bipush (pc := 39) (v := (-4 : Int32)) dX7_step_39 (by decide) ?_
      refine a_icmp_ne (pc := 41) (tgt := 47) dX7_step_41 (by decide) (fun c13 => ?_) (fun c13 => ?_)
      · rw [if_neg c13] at h
        refine a_aloadn (pc := 47) dX7_step_47 rfl rfl ?_
        obtain ⟨S14, hc15, h⟩ := g_bind h
        refine a_invVv (pc := 48) (ok_X7_notes hc15) gyX7_notes vyX7_notes mlX7_153 sh_47 rfl (As := []) rfl rfl (by decide) (st := []) rfl (Nat.le_of_ble_eq_true rfl) dX7_step_48 ?_
        refine a_aloadn (pc := 51) dX7_step_51 rfl rfl ?_
        refine a_iloadn (pc := 52) dX7_step_52 rfl rfl ?_
        refine a_iloadn (pc := 53) dX7_step_53 rfl rfl ?_
        obtain ⟨S16, hc17, h⟩ := g_bind h
        refine a_invVv (pc := 54) (ok_X7_steps hc17) gyX7_steps vyX7_steps mlX7_156 sh_47 rfl (As := [.int p1, .int p2]) rfl rfl (by decide) (st := []) rfl (Nat.le_of_ble_eq_true rfl) dX7_step_54 ?_
        refine a_aloadn (pc := 57) dX7_step_57 rfl rfl ?_
        refine a_getA (pc := 58) flX7_7 sh_47 rfl dX7_step_58 ?_
        refine a_bipush (pc := 61) (v := (8 : Int32)) dX7_step_61 (by decide) ?_
        refine a_iconst (pc := 63) (v := (4 : Int32)) dX7_step_63 (by decide) ?_
        refine a_iloadn (pc := 64) dX7_step_64 rfl rfl ?_
        refine a_imul (pc := 65) dX7_step_65 ?_
        refine a_iadd (pc := 66) dX7_step_66 ?_
        refine a_iconst (pc := 67) (v := (2 : Int32)) dX7_step_67 (by decide) ?_
        refine a_iadd (pc := 68) dX7_step_68 ?_
        obtain ⟨hi18, h⟩ := g_if h
        refine a_iald (pc := 69) sh_48 hi18 dX7_step_69 ?_
        obtain ⟨rfl, rfl⟩ := Prod.mk.inj (Option.some.inj h)
        exact a_iret hp dX7_step_70
      · rw [if_pos c13] at h
        refine a_bipush (pc := 44) (v := (-2 : Int32)) dX7_step_44 (by decide) ?_
        obtain ⟨rfl, rfl⟩ := Prod.mk.inj (Option.some.inj h)
        exact a_iret hp dX7_step_46
    · rw [if_pos c8] at h
      refine a_iconst (pc := 20) (v := (-1 : Int32)) dX7_step_20 (by decide) ?_
      obtain ⟨rfl, rfl⟩ := Prod.mk.inj (Option.some.inj h)
      exact a_iret hp dX7_step_21
theorem dX7_goesBy_0 : decode cX7_goesBy 0 = .ok (.aload_n 0, 1) := by decide +kernel
theorem dX7_goesBy_1 : decode cX7_goesBy 1 = .ok (.getfield 7, 3) := by decide +kernel
theorem dX7_goesBy_4 : decode cX7_goesBy 4 = .ok (.bipush 6, 2) := by decide +kernel
theorem dX7_goesBy_6 : decode cX7_goesBy 6 = .ok (.dup2, 1) := by decide +kernel
theorem dX7_goesBy_7 : decode cX7_goesBy 7 = .ok (.iaload, 1) := by decide +kernel
theorem dX7_goesBy_8 : decode cX7_goesBy 8 = .ok (.iconst 1, 1) := by decide +kernel
theorem dX7_goesBy_9 : decode cX7_goesBy 9 = .ok (.iadd, 1) := by decide +kernel
theorem dX7_goesBy_10 : decode cX7_goesBy 10 = .ok (.iastore, 1) := by decide +kernel
theorem dX7_goesBy_11 : decode cX7_goesBy 11 = .ok (.aload_n 0, 1) := by decide +kernel
theorem dX7_goesBy_12 : decode cX7_goesBy 12 = .ok (.getfield 7, 3) := by decide +kernel
theorem dX7_goesBy_15 : decode cX7_goesBy 15 = .ok (.bipush 6, 2) := by decide +kernel
theorem dX7_goesBy_17 : decode cX7_goesBy 17 = .ok (.iaload, 1) := by decide +kernel
theorem dX7_goesBy_18 : decode cX7_goesBy 18 = .ok (.aload_n 0, 1) := by decide +kernel
theorem dX7_goesBy_19 : decode cX7_goesBy 19 = .ok (.getfield 7, 3) := by decide +kernel
theorem dX7_goesBy_22 : decode cX7_goesBy 22 = .ok (.iconst 3, 1) := by decide +kernel
theorem dX7_goesBy_23 : decode cX7_goesBy 23 = .ok (.iaload, 1) := by decide +kernel
theorem dX7_goesBy_24 : decode cX7_goesBy 24 = .ok (.irem, 1) := by decide +kernel
theorem dX7_goesBy_25 : decode cX7_goesBy 25 = .ok (.ifCond .ne 7, 3) := by decide +kernel
theorem dX7_goesBy_28 : decode cX7_goesBy 28 = .ok (.iconst 1, 1) := by decide +kernel
theorem dX7_goesBy_29 : decode cX7_goesBy 29 = .ok (.goto 4, 3) := by decide +kernel
theorem dX7_goesBy_32 : decode cX7_goesBy 32 = .ok (.iconst 0, 1) := by decide +kernel
theorem dX7_goesBy_33 : decode cX7_goesBy 33 = .ok (.istore_n 1, 1) := by decide +kernel
theorem dX7_goesBy_34 : decode cX7_goesBy 34 = .ok (.iconst 0, 1) := by decide +kernel
theorem dX7_goesBy_35 : decode cX7_goesBy 35 = .ok (.istore_n 2, 1) := by decide +kernel
theorem dX7_goesBy_36 : decode cX7_goesBy 36 = .ok (.iload_n 2, 1) := by decide +kernel
theorem dX7_goesBy_37 : decode cX7_goesBy 37 = .ok (.bipush 64, 2) := by decide +kernel
theorem dX7_goesBy_39 : decode cX7_goesBy 39 = .ok (.aload_n 0, 1) := by decide +kernel
theorem dX7_goesBy_40 : decode cX7_goesBy 40 = .ok (.getfield 7, 3) := by decide +kernel
theorem dX7_goesBy_43 : decode cX7_goesBy 43 = .ok (.iconst 5, 1) := by decide +kernel
theorem dX7_goesBy_44 : decode cX7_goesBy 44 = .ok (.iaload, 1) := by decide +kernel
theorem dX7_goesBy_45 : decode cX7_goesBy 45 = .ok (.imul, 1) := by decide +kernel
theorem dX7_goesBy_46 : decode cX7_goesBy 46 = .ok (.if_icmp .ge 83, 3) := by decide +kernel
theorem dX7_goesBy_49 : decode cX7_goesBy 49 = .ok (.iload_n 2, 1) := by decide +kernel
theorem dX7_goesBy_50 : decode cX7_goesBy 50 = .ok (.bipush 64, 2) := by decide +kernel
theorem dX7_goesBy_52 : decode cX7_goesBy 52 = .ok (.irem, 1) := by decide +kernel
theorem dX7_goesBy_53 : decode cX7_goesBy 53 = .ok (.bipush 8, 2) := by decide +kernel
theorem dX7_goesBy_55 : decode cX7_goesBy 55 = .ok (.idiv, 1) := by decide +kernel
theorem dX7_goesBy_56 : decode cX7_goesBy 56 = .ok (.istore_n 3, 1) := by decide +kernel
theorem dX7_goesBy_57 : decode cX7_goesBy 57 = .ok (.aload_n 0, 1) := by decide +kernel
theorem dX7_goesBy_58 : decode cX7_goesBy 58 = .ok (.getfield 7, 3) := by decide +kernel
theorem dX7_goesBy_61 : decode cX7_goesBy 61 = .ok (.bipush 32, 2) := by decide +kernel
theorem dX7_goesBy_63 : decode cX7_goesBy 63 = .ok (.iload_n 2, 1) := by decide +kernel
theorem dX7_goesBy_64 : decode cX7_goesBy 64 = .ok (.iadd, 1) := by decide +kernel
theorem dX7_goesBy_65 : decode cX7_goesBy 65 = .ok (.iaload, 1) := by decide +kernel
theorem dX7_goesBy_66 : decode cX7_goesBy 66 = .ok (.iload_n 3, 1) := by decide +kernel
theorem dX7_goesBy_67 : decode cX7_goesBy 67 = .ok (.aload_n 0, 1) := by decide +kernel
theorem dX7_goesBy_68 : decode cX7_goesBy 68 = .ok (.getfield 7, 3) := by decide +kernel
theorem dX7_goesBy_71 : decode cX7_goesBy 71 = .ok (.iconst 0, 1) := by decide +kernel
theorem dX7_goesBy_72 : decode cX7_goesBy 72 = .ok (.iaload, 1) := by decide +kernel
theorem dX7_goesBy_73 : decode cX7_goesBy 73 = .ok (.if_icmp .ge 7, 3) := by decide +kernel
theorem dX7_goesBy_76 : decode cX7_goesBy 76 = .ok (.iconst 1, 1) := by decide +kernel
theorem dX7_goesBy_77 : decode cX7_goesBy 77 = .ok (.goto 9, 3) := by decide +kernel
theorem dX7_goesBy_80 : decode cX7_goesBy 80 = .ok (.aload_n 0, 1) := by decide +kernel
theorem dX7_goesBy_81 : decode cX7_goesBy 81 = .ok (.getfield 7, 3) := by decide +kernel
theorem dX7_goesBy_84 : decode cX7_goesBy 84 = .ok (.iconst 1, 1) := by decide +kernel
theorem dX7_goesBy_85 : decode cX7_goesBy 85 = .ok (.iaload, 1) := by decide +kernel
theorem dX7_goesBy_86 : decode cX7_goesBy 86 = .ok (.isub, 1) := by decide +kernel
theorem dX7_goesBy_87 : decode cX7_goesBy 87 = .ok (.istore 4, 2) := by decide +kernel
theorem dX7_goesBy_89 : decode cX7_goesBy 89 = .ok (.aload_n 0, 1) := by decide +kernel
theorem dX7_goesBy_90 : decode cX7_goesBy 90 = .ok (.getfield 7, 3) := by decide +kernel
theorem dX7_goesBy_93 : decode cX7_goesBy 93 = .ok (.bipush 32, 2) := by decide +kernel
theorem dX7_goesBy_95 : decode cX7_goesBy 95 = .ok (.iload_n 2, 1) := by decide +kernel
theorem dX7_goesBy_96 : decode cX7_goesBy 96 = .ok (.iadd, 1) := by decide +kernel
theorem dX7_goesBy_97 : decode cX7_goesBy 97 = .ok (.iload 4, 2) := by decide +kernel
theorem dX7_goesBy_99 : decode cX7_goesBy 99 = .ok (.ifCond .lt 17, 3) := by decide +kernel
theorem dX7_goesBy_102 : decode cX7_goesBy 102 = .ok (.iload_n 1, 1) := by decide +kernel
theorem dX7_goesBy_103 : decode cX7_goesBy 103 = .ok (.ifCond .eq 17, 3) := by decide +kernel
theorem dX7_goesBy_106 : decode cX7_goesBy 106 = .ok (.iload_n 3, 1) := by decide +kernel
theorem dX7_goesBy_107 : decode cX7_goesBy 107 = .ok (.aload_n 0, 1) := by decide +kernel
theorem dX7_goesBy_108 : decode cX7_goesBy 108 = .ok (.getfield 7, 3) := by decide +kernel
theorem dX7_goesBy_111 : decode cX7_goesBy 111 = .ok (.iconst 4, 1) := by decide +kernel
theorem dX7_goesBy_112 : decode cX7_goesBy 112 = .ok (.iaload, 1) := by decide +kernel
theorem dX7_goesBy_113 : decode cX7_goesBy 113 = .ok (.if_icmp .ge 7, 3) := by decide +kernel
theorem dX7_goesBy_116 : decode cX7_goesBy 116 = .ok (.iconst 0, 1) := by decide +kernel
theorem dX7_goesBy_117 : decode cX7_goesBy 117 = .ok (.goto 5, 3) := by decide +kernel
theorem dX7_goesBy_120 : decode cX7_goesBy 120 = .ok (.iload 4, 2) := by decide +kernel
theorem dX7_goesBy_122 : decode cX7_goesBy 122 = .ok (.iastore, 1) := by decide +kernel
theorem dX7_goesBy_123 : decode cX7_goesBy 123 = .ok (.iinc 2 1, 3) := by decide +kernel
theorem dX7_goesBy_126 : decode cX7_goesBy 126 = .ok (.goto (-90), 3) := by decide +kernel
theorem dX7_goesBy_129 : decode cX7_goesBy 129 = .ok (.return_, 1) := by decide +kernel
def f_X7_goesBy_j86 (x1 : Int32) (x2 : Int32) (x3 : Int32) (t0 : Int32) (t1 : Int32) (S : gSt) : Option ((Int32 × Int32 × gSt) ⊕ (gSt)) :=
gLet (t1 - t0) fun v1 =>
(if v1 < 0 then
if gin ((32 : Int32) + x2) 416 then
gLet (gI S 48 ((32 : Int32) + x2).toNatClampNeg (0 : Int32)) fun S4 =>
(some (.inl (x1, x2 + (1 : Int32), S4))) else none
else
(if x1 = 0 then
if gin ((32 : Int32) + x2) 416 then
gLet (gI S 48 ((32 : Int32) + x2).toNatClampNeg v1) fun S7 =>
(some (.inl (x1, x2 + (1 : Int32), S7))) else none
else
if gin (4 : Int32) 416 then
((if (S.1 48 (4 : Int32).toNatClampNeg) ≤ x3 then
if gin ((32 : Int32) + x2) 416 then
gLet (gI S 48 ((32 : Int32) + x2).toNatClampNeg v1) fun S11 =>
(some (.inl (x1, x2 + (1 : Int32), S11))) else none
else
if gin ((32 : Int32) + x2) 416 then
gLet (gI S 48 ((32 : Int32) + x2).toNatClampNeg (0 : Int32)) fun S13 =>
(some (.inl (x1, x2 + (1 : Int32), S13))) else none)) else none))
def f_X7_goesBy_s36_b (x1 : Int32) (x2 : Int32) (S : gSt) : Option ((Int32 × Int32 × gSt) ⊕ (gSt)) :=
if gin (5 : Int32) 416 then
((if ((64 : Int32) * (S.1 48 (5 : Int32).toNatClampNeg)) ≤ x2 then
some (.inr (S))
else
gLet ((x2 - x2 / (64 : Int32) * (64 : Int32)) / (8 : Int32)) fun v16 =>
if gin ((32 : Int32) + x2) 416 then
(if gin (0 : Int32) 416 then
((if (S.1 48 (0 : Int32).toNatClampNeg) ≤ v16 then
if gin (1 : Int32) 416 then
(f_X7_goesBy_j86 x1 x2 v16 (S.1 48 (1 : Int32).toNatClampNeg) (S.1 48 ((32 : Int32) + x2).toNatClampNeg) S) else none
else
f_X7_goesBy_j86 x1 x2 v16 (1 : Int32) (S.1 48 ((32 : Int32) + x2).toNatClampNeg) S)) else none) else none)) else none
def f_X7_goesBy_s36 : (Int32 × Int32 × gSt) → Option ((Int32 × Int32 × gSt) ⊕ (gSt)) := fun t => f_X7_goesBy_s36_b t.1 t.2.1 t.2.2
def f_X7_goesBy_j33 (t0 : Int32) (S : gSt) : Option gSt :=
(gLoop (f_X7_goesBy_s36) gFuel (t0, (0 : Int32), S)).bind fun q21 => match q21 with
| S21 =>
some S21
def f_X7_goesBy (S : gSt) : Option gSt :=
if gin (6 : Int32) 416 then
(if gin (6 : Int32) 416 then
gLet (gI S 48 (6 : Int32).toNatClampNeg ((S.1 48 (6 : Int32).toNatClampNeg) + (1 : Int32))) fun S24 =>
(if gin (6 : Int32) 416 then
(if gin (3 : Int32) 416 then
(if (S24.1 48 (3 : Int32).toNatClampNeg) = 0 then none else
(if ((S24.1 48 (6 : Int32).toNatClampNeg) - (S24.1 48 (6 : Int32).toNatClampNeg) / (S24.1 48 (3 : Int32).toNatClampNeg) * (S24.1 48 (3 : Int32).toNatClampNeg)) = 0 then
f_X7_goesBy_j33 (1 : Int32) S24
else
f_X7_goesBy_j33 (0 : Int32) S24)) else none) else none) else none) else none
set_option maxHeartbeats 4000000 in
set_option maxRecDepth 20000 in
theorem ok_X7_goesBy {S S0 : gSt}  (h : f_X7_goesBy S = some S0) : gCT yX7_goesBy cX7_goesBy 5 none 0 (fun w => [.ref (w.2.1 47)]) S none S0 := by
  refine gEnter (fun X => [some (.ref (gad X 47)), none, none, none, none]) (by decide) (fun X => ⟨rfl, rfl⟩) (fun w => Nat.le_of_ble_eq_true rfl) (fun X hp => ?_)
  show AW X RX7 0 cX7_goesBy 0 [some (.ref (gad X 47)), none, none, none, none] [] S
  unfold f_X7_goesBy at h
  have J33 : ∀ (t0 : Int32) (S : gSt), f_X7_goesBy_j33 t0 S = some S0 → AW X RX7 0 cX7_goesBy 33 [some (.ref (gad X 47)), none, none, none, none] [.int t0] S := by
    intro t0 S h
    unfold f_X7_goesBy_j33 at h
    refine a_istoren (pc := 33) dX7_goesBy_33 rfl (Nat.le_of_ble_eq_true rfl) rfl (L' := [some (.ref (gad X 47)), some (.int t0), none, none, none]) rfl ?_
    refine a_iconst (pc := 34) (v := (0 : Int32)) dX7_goesBy_34 (by decide) ?_
    refine a_istoren (pc := 35) dX7_goesBy_35 rfl (Nat.le_of_ble_eq_true rfl) rfl (L' := [some (.ref (gad X 47)), some (.int t0), some (.int (0 : Int32)), none, none]) rfl ?_
    obtain ⟨R21, hR21, h⟩ := g_bind h
    have E36 : ∀  (S21 : gSt), (some S21) = some S0 → AW X RX7 0 cX7_goesBy 129 [none, none, none, none, none] [] S21 := by
      intro S21 h
      obtain rfl := Option.some.inj h
      exact a_vret hp dX7_goesBy_129
    have lp : ∀ (n : Nat) (x1 : Int32) (x2 : Int32) (S : gSt), gLoop (f_X7_goesBy_s36) n (x1, x2, S) = some R21 → AW X RX7 0 cX7_goesBy 36 [some (.ref (gad X 47)), some (.int x1), some (.int x2), none, none] [] S := by
      intro n
      induction n with
      | zero => intro x1 x2 S hR; cases hR
      | succ n ih =>
        intro x1 x2 S hR
        obtain ⟨q, hs, hR⟩ := g_bind hR
        have hs : f_X7_goesBy_s36_b x1 x2 S = some q := hs
        unfold f_X7_goesBy_s36_b at hs
        have J86 : ∀ (x1 : Int32) (x2 : Int32) (x3 : Int32) (t0 : Int32) (t1 : Int32) (S : gSt), f_X7_goesBy_j86 x1 x2 x3 t0 t1 S = some q → AW X RX7 0 cX7_goesBy 86 [some (.ref (gad X 47)), some (.int x1), some (.int x2), some (.int x3), none] [.int t0, .int t1] S := by
          intro x1 x2 x3 t0 t1 S hs
          unfold f_X7_goesBy_j86 at hs
          refine a_isub (pc := 86) dX7_goesBy_86 ?_
          obtain ⟨v1, ev1, hs⟩ := g_let hs
          refine a_nmI ev1 ?_
          refine a_istore (pc := 87) dX7_goesBy_87 (Nat.le_of_ble_eq_true rfl) rfl (L' := [some (.ref (gad X 47)), some (.int x1), some (.int x2), some (.int x3), some (.int v1)]) rfl ?_
          refine a_aloadn (pc := 89) dX7_goesBy_89 rfl rfl ?_
          refine a_getA (pc := 90) flX7_7 sh_47 rfl dX7_goesBy_90 ?_
          refine a_bipush (pc := 93) (v := (32 : Int32)) dX7_goesBy_93 (by decide) ?_
          refine a_iloadn (pc := 95) dX7_goesBy_95 rfl rfl ?_
          refine a_iadd (pc := 96) dX7_goesBy_96 ?_
          refine a_iload (pc := 97) dX7_goesBy_97 rfl ?_
          refine a_if_lt (pc := 99) (tgt := 116) dX7_goesBy_99 (by decide) (fun c2 => ?_) (fun c2 => ?_)
          · rw [if_pos c2] at hs
            refine a_iconst (pc := 116) (v := (0 : Int32)) dX7_goesBy_116 (by decide) ?_
            refine a_goto (pc := 117) (tgt := 122) dX7_goesBy_117 (by decide) ?_
            obtain ⟨hi3, hs⟩ := g_if hs
            refine a_iast (pc := 122) sh_48 hi3 dX7_goesBy_122 ?_
            obtain ⟨S4, eS4, hs⟩ := g_let hs
            refine a_nmS eS4 ?_
            refine a_iinc (pc := 123) dX7_goesBy_123 rfl (v := x2 + (1 : Int32)) rfl (Nat.le_of_ble_eq_true rfl) rfl (L' := [some (.ref (gad X 47)), some (.int x1), some (.int (x2 + (1 : Int32))), some (.int x3), some (.int v1)]) rfl ?_
            refine a_goto (pc := 126) (tgt := 36) dX7_goesBy_126 (by decide) ?_
            obtain rfl := Option.some.inj hs
            refine a_mask [true, true, true, false, false] (L' := [some (.ref (gad X 47)), some (.int x1), some (.int (x2 + (1 : Int32))), none, none]) rfl ?_
            exact ih _ _ _ hR
          · rw [if_neg c2] at hs
            refine a_iloadn (pc := 102) dX7_goesBy_102 rfl rfl ?_
            refine a_if_eq (pc := 103) (tgt := 120) dX7_goesBy_103 (by decide) (fun c5 => ?_) (fun c5 => ?_)
            · rw [if_pos c5] at hs
              refine a_iload (pc := 120) dX7_goesBy_120 rfl ?_
              obtain ⟨hi6, hs⟩ := g_if hs
              refine a_iast (pc := 122) sh_48 hi6 dX7_goesBy_122 ?_
              obtain ⟨S7, eS7, hs⟩ := g_let hs
              refine a_nmS eS7 ?_
              refine a_iinc (pc := 123) dX7_goesBy_123 rfl (v := x2 + (1 : Int32)) rfl (Nat.le_of_ble_eq_true rfl) rfl (L' := [some (.ref (gad X 47)), some (.int x1), some (.int (x2 + (1 : Int32))), some (.int x3), some (.int v1)]) rfl ?_
              refine a_goto (pc := 126) (tgt := 36) dX7_goesBy_126 (by decide) ?_
              obtain rfl := Option.some.inj hs
              refine a_mask [true, true, true, false, false] (L' := [some (.ref (gad X 47)), some (.int x1), some (.int (x2 + (1 : Int32))), none, none]) rfl ?_
              exact ih _ _ _ hR
            · rw [if_neg c5] at hs
              refine a_iloadn (pc := 106) dX7_goesBy_106 rfl rfl ?_
              refine a_aloadn (pc := 107) dX7_goesBy_107 rfl rfl ?_
              refine a_getA (pc := 108) flX7_7 sh_47 rfl dX7_goesBy_108 ?_
              refine a_iconst (pc := 111) (v := (4 : Int32)) dX7_goesBy_111 (by decide) ?_
              obtain ⟨hi8, hs⟩ := g_if hs
              refine a_iald (pc := 112) sh_48 hi8 dX7_goesBy_112 ?_
              refine a_icmp_ge (pc := 113) (tgt := 120) dX7_goesBy_113 (by decide) (fun c9 => ?_) (fun c9 => ?_)
              · rw [if_pos c9] at hs
                refine a_iload (pc := 120) dX7_goesBy_120 rfl ?_
                obtain ⟨hi10, hs⟩ := g_if hs
                refine a_iast (pc := 122) sh_48 hi10 dX7_goesBy_122 ?_
                obtain ⟨S11, eS11, hs⟩ := g_let hs
                refine a_nmS eS11 ?_
                refine a_iinc (pc := 123) dX7_goesBy_123 rfl (v := x2 + (1 : Int32)) rfl (Nat.le_of_ble_eq_true rfl) rfl (L' := [some (.ref (gad X 47)), some (.int x1), some (.int (x2 + (1 : Int32))), some (.int x3), some (.int v1)]) rfl ?_
                refine a_goto (pc := 126) (tgt := 36) dX7_goesBy_126 (by decide) ?_
                obtain rfl := Option.some.inj hs
                refine a_mask [true, true, true, false, false] (L' := [some (.ref (gad X 47)), some (.int x1), some (.int (x2 + (1 : Int32))), none, none]) rfl ?_
                exact ih _ _ _ hR
              · rw [if_neg c9] at hs
                refine a_iconst (pc := 116) (v := (0 : Int32)) dX7_goesBy_116 (by decide) ?_
                refine a_goto (pc := 117) (tgt := 122) dX7_goesBy_117 (by decide) ?_
                obtain ⟨hi12, hs⟩ := g_if hs
                refine a_iast (pc := 122) sh_48 hi12 dX7_goesBy_122 ?_
                obtain ⟨S13, eS13, hs⟩ := g_let hs
                refine a_nmS eS13 ?_
                refine a_iinc (pc := 123) dX7_goesBy_123 rfl (v := x2 + (1 : Int32)) rfl (Nat.le_of_ble_eq_true rfl) rfl (L' := [some (.ref (gad X 47)), some (.int x1), some (.int (x2 + (1 : Int32))), some (.int x3), some (.int v1)]) rfl ?_
                refine a_goto (pc := 126) (tgt := 36) dX7_goesBy_126 (by decide) ?_
                obtain rfl := Option.some.inj hs
                refine a_mask [true, true, true, false, false] (L' := [some (.ref (gad X 47)), some (.int x1), some (.int (x2 + (1 : Int32))), none, none]) rfl ?_
                exact ih _ _ _ hR
        refine a_iloadn (pc := 36) dX7_goesBy_36 rfl rfl ?_
        refine a_bipush (pc := 37) (v := (64 : Int32)) dX7_goesBy_37 (by decide) ?_
        refine a_aloadn (pc := 39) dX7_goesBy_39 rfl rfl ?_
        refine a_getA (pc := 40) flX7_7 sh_47 rfl dX7_goesBy_40 ?_
        refine a_iconst (pc := 43) (v := (5 : Int32)) dX7_goesBy_43 (by decide) ?_
        obtain ⟨hi14, hs⟩ := g_if hs
        refine a_iald (pc := 44) sh_48 hi14 dX7_goesBy_44 ?_
        refine a_imul (pc := 45) dX7_goesBy_45 ?_
        refine a_icmp_ge (pc := 46) (tgt := 129) dX7_goesBy_46 (by decide) (fun c15 => ?_) (fun c15 => ?_)
        · rw [if_pos c15] at hs
          obtain rfl := Option.some.inj hs
          obtain rfl := Option.some.inj hR
          refine a_mask [false, false, false, true, true] (L' := [none, none, none, none, none]) rfl ?_
          exact E36  _ h
        · rw [if_neg c15] at hs
          refine a_iloadn (pc := 49) dX7_goesBy_49 rfl rfl ?_
          refine a_bipush (pc := 50) (v := (64 : Int32)) dX7_goesBy_50 (by decide) ?_
          refine a_irem (pc := 52) dX7_goesBy_52 (by decide) ?_
          refine a_bipush (pc := 53) (v := (8 : Int32)) dX7_goesBy_53 (by decide) ?_
          refine a_idiv (pc := 55) dX7_goesBy_55 (by decide) ?_
          obtain ⟨v16, ev16, hs⟩ := g_let hs
          refine a_nmI ev16 ?_
          refine a_istoren (pc := 56) dX7_goesBy_56 rfl (Nat.le_of_ble_eq_true rfl) rfl (L' := [some (.ref (gad X 47)), some (.int x1), some (.int x2), some (.int v16), none]) rfl ?_
          refine a_aloadn (pc := 57) dX7_goesBy_57 rfl rfl ?_
          refine a_getA (pc := 58) flX7_7 sh_47 rfl dX7_goesBy_58 ?_
          refine a_bipush (pc := 61) (v := (32 : Int32)) dX7_goesBy_61 (by decide) ?_
          refine a_iloadn (pc := 63) dX7_goesBy_63 rfl rfl ?_
          refine a_iadd (pc := 64) dX7_goesBy_64 ?_
          obtain ⟨hi17, hs⟩ := g_if hs
          refine a_iald (pc := 65) sh_48 hi17 dX7_goesBy_65 ?_
          refine a_iloadn (pc := 66) dX7_goesBy_66 rfl rfl ?_
          refine a_aloadn (pc := 67) dX7_goesBy_67 rfl rfl ?_
          refine a_getA (pc := 68) flX7_7 sh_47 rfl dX7_goesBy_68 ?_
          refine a_iconst (pc := 71) (v := (0 : Int32)) dX7_goesBy_71 (by decide) ?_
          obtain ⟨hi18, hs⟩ := g_if hs
          refine a_iald (pc := 72) sh_48 hi18 dX7_goesBy_72 ?_
          refine a_icmp_ge (pc := 73) (tgt := 80) dX7_goesBy_73 (by decide) (fun c19 => ?_) (fun c19 => ?_)
          · rw [if_pos c19] at hs
            refine a_aloadn (pc := 80) dX7_goesBy_80 rfl rfl ?_
            refine a_getA (pc := 81) flX7_7 sh_47 rfl dX7_goesBy_81 ?_
            refine a_iconst (pc := 84) (v := (1 : Int32)) dX7_goesBy_84 (by decide) ?_
            obtain ⟨hi20, hs⟩ := g_if hs
            refine a_iald (pc := 85) sh_48 hi20 dX7_goesBy_85 ?_
            exact J86 _ _ _ _ _ _ hs
          · rw [if_neg c19] at hs
            refine a_iconst (pc := 76) (v := (1 : Int32)) dX7_goesBy_76 (by decide) ?_
            refine a_goto (pc := 77) (tgt := 86) dX7_goesBy_77 (by decide) ?_
            exact J86 _ _ _ _ _ _ hs
    exact lp _ _ _ _ hR21
  refine a_aloadn (pc := 0) dX7_goesBy_0 rfl rfl ?_
  refine a_getA (pc := 1) flX7_7 sh_47 rfl dX7_goesBy_1 ?_
  refine a_bipush (pc := 4) (v := (6 : Int32)) dX7_goesBy_4 (by decide) ?_
  refine a_dup2 (pc := 6) dX7_goesBy_6 rfl rfl ?_
  obtain ⟨hi22, h⟩ := g_if h
  refine a_iald (pc := 7) sh_48 hi22 dX7_goesBy_7 ?_
  refine a_iconst (pc := 8) (v := (1 : Int32)) dX7_goesBy_8 (by decide) ?_
  refine a_iadd (pc := 9) dX7_goesBy_9 ?_
  obtain ⟨hi23, h⟩ := g_if h
  refine a_iast (pc := 10) sh_48 hi23 dX7_goesBy_10 ?_
  obtain ⟨S24, eS24, h⟩ := g_let h
  refine a_nmS eS24 ?_
  refine a_aloadn (pc := 11) dX7_goesBy_11 rfl rfl ?_
  refine a_getA (pc := 12) flX7_7 sh_47 rfl dX7_goesBy_12 ?_
  refine a_bipush (pc := 15) (v := (6 : Int32)) dX7_goesBy_15 (by decide) ?_
  obtain ⟨hi25, h⟩ := g_if h
  refine a_iald (pc := 17) sh_48 hi25 dX7_goesBy_17 ?_
  refine a_aloadn (pc := 18) dX7_goesBy_18 rfl rfl ?_
  refine a_getA (pc := 19) flX7_7 sh_47 rfl dX7_goesBy_19 ?_
  refine a_iconst (pc := 22) (v := (3 : Int32)) dX7_goesBy_22 (by decide) ?_
  obtain ⟨hi26, h⟩ := g_if h
  refine a_iald (pc := 23) sh_48 hi26 dX7_goesBy_23 ?_
  obtain ⟨hz27, h⟩ := g_ifn h
  refine a_irem (pc := 24) dX7_goesBy_24 hz27 ?_
  refine a_if_ne (pc := 25) (tgt := 32) dX7_goesBy_25 (by decide) (fun c28 => ?_) (fun c28 => ?_)
  · rw [if_neg c28] at h
    refine a_iconst (pc := 32) (v := (0 : Int32)) dX7_goesBy_32 (by decide) ?_
    exact J33 _ _ h
  · rw [if_pos c28] at h
    refine a_iconst (pc := 28) (v := (1 : Int32)) dX7_goesBy_28 (by decide) ?_
    refine a_goto (pc := 29) (tgt := 33) dX7_goesBy_29 (by decide) ?_
    exact J33 _ _ h
theorem dX7_hours_0 : decode cX7_hours 0 = .ok (.iload_n 1, 1) := by decide +kernel
theorem dX7_hours_1 : decode cX7_hours 1 = .ok (.i2l, 1) := by decide +kernel
theorem dX7_hours_2 : decode cX7_hours 2 = .ok (.lconst 1, 1) := by decide +kernel
theorem dX7_hours_3 : decode cX7_hours 3 = .ok (.ldc2_w 159, 3) := by decide +kernel
theorem dX7_hours_6 : decode cX7_hours 6 = .ok (.invokestatic 51, 3) := by decide +kernel
theorem dX7_hours_9 : decode cX7_hours 9 = .ok (.ifCond .ne 5, 3) := by decide +kernel
theorem dX7_hours_12 : decode cX7_hours 12 = .ok (.iconst (-1), 1) := by decide +kernel
theorem dX7_hours_13 : decode cX7_hours 13 = .ok (.ireturn, 1) := by decide +kernel
theorem dX7_hours_14 : decode cX7_hours 14 = .ok (.aload_n 0, 1) := by decide +kernel
theorem dX7_hours_15 : decode cX7_hours 15 = .ok (.getfield 7, 3) := by decide +kernel
theorem dX7_hours_18 : decode cX7_hours 18 = .ok (.bipush 6, 2) := by decide +kernel
theorem dX7_hours_20 : decode cX7_hours 20 = .ok (.iaload, 1) := by decide +kernel
theorem dX7_hours_21 : decode cX7_hours 21 = .ok (.iload_n 1, 1) := by decide +kernel
theorem dX7_hours_22 : decode cX7_hours 22 = .ok (.iadd, 1) := by decide +kernel
theorem dX7_hours_23 : decode cX7_hours 23 = .ok (.sipush 9999, 3) := by decide +kernel
theorem dX7_hours_26 : decode cX7_hours 26 = .ok (.if_icmp .le 6, 3) := by decide +kernel
theorem dX7_hours_29 : decode cX7_hours 29 = .ok (.bipush (-3), 2) := by decide +kernel
theorem dX7_hours_31 : decode cX7_hours 31 = .ok (.ireturn, 1) := by decide +kernel
theorem dX7_hours_32 : decode cX7_hours 32 = .ok (.iconst 0, 1) := by decide +kernel
theorem dX7_hours_33 : decode cX7_hours 33 = .ok (.istore_n 2, 1) := by decide +kernel
theorem dX7_hours_34 : decode cX7_hours 34 = .ok (.iload_n 2, 1) := by decide +kernel
theorem dX7_hours_35 : decode cX7_hours 35 = .ok (.iload_n 1, 1) := by decide +kernel
theorem dX7_hours_36 : decode cX7_hours 36 = .ok (.if_icmp .ge 17, 3) := by decide +kernel
theorem dX7_hours_39 : decode cX7_hours 39 = .ok (.aload_n 0, 1) := by decide +kernel
theorem dX7_hours_40 : decode cX7_hours 40 = .ok (.invokevirtual 153, 3) := by decide +kernel
theorem dX7_hours_43 : decode cX7_hours 43 = .ok (.aload_n 0, 1) := by decide +kernel
theorem dX7_hours_44 : decode cX7_hours 44 = .ok (.invokevirtual 161, 3) := by decide +kernel
theorem dX7_hours_47 : decode cX7_hours 47 = .ok (.iinc 2 1, 3) := by decide +kernel
theorem dX7_hours_50 : decode cX7_hours 50 = .ok (.goto (-16), 3) := by decide +kernel
theorem dX7_hours_53 : decode cX7_hours 53 = .ok (.aload_n 0, 1) := by decide +kernel
theorem dX7_hours_54 : decode cX7_hours 54 = .ok (.invokevirtual 111, 3) := by decide +kernel
theorem dX7_hours_57 : decode cX7_hours 57 = .ok (.ireturn, 1) := by decide +kernel
def f_X7_hours_s34_b (x1 : Int32) (x2 : Int32) (S : gSt) : Option ((Int32 × Int32 × gSt) ⊕ (gSt)) :=
(if x1 ≤ x2 then
some (.inr (S))
else
(f_X7_notes S).bind fun S8 =>
(f_X7_goesBy S8).bind fun S10 =>
some (.inl (x1, x2 + (1 : Int32), S10)))
def f_X7_hours_s34 : (Int32 × Int32 × gSt) → Option ((Int32 × Int32 × gSt) ⊕ (gSt)) := fun t => f_X7_hours_s34_b t.1 t.2.1 t.2.2
def f_X7_hours (p1 : Int32) (S : gSt) : Option (Int32 × gSt) :=
gBind2 (f_X7_in (p1.toInt64) (1 : Int64) (24 : Int64) S) fun r3 S1 =>
(if r3 = 0 then
some ((-1 : Int32), S1)
else
if gin (6 : Int32) 416 then
((if ((S1.1 48 (6 : Int32).toNatClampNeg) + p1) ≤ (9999 : Int32) then
(gLoop (f_X7_hours_s34) gFuel (p1, (0 : Int32), S1)).bind fun q12 => match q12 with
| S12 =>
gBind2 (f_X7_allHeld S12) fun r15 S13 =>
some (r15, S13)
else
some ((-3 : Int32), S1))) else none)
set_option maxHeartbeats 4000000 in
set_option maxRecDepth 20000 in
theorem ok_X7_hours {p1 : Int32} {S S0 : gSt} {r0 : Int32}  (h : f_X7_hours p1 S = some (r0, S0)) : gCT yX7_hours cX7_hours 3 (some .int) 4 (fun w => [.ref (w.2.1 47), .int p1]) S (some (.int r0)) S0 := by
  refine gEnter (fun X => [some (.ref (gad X 47)), some (.int p1), none]) (by decide) (fun X => ⟨rfl, rfl⟩) (fun w => Nat.le_of_ble_eq_true rfl) (fun X hp => ?_)
  show AW X RX7 4 cX7_hours 0 [some (.ref (gad X 47)), some (.int p1), none] [] S
  unfold f_X7_hours at h
  refine a_iloadn (pc := 0) dX7_hours_0 rfl rfl ?_
  refine a_i2l (pc := 1) dX7_hours_1 ?_
  refine a_lconst (pc := 2) (v := (1 : Int64)) dX7_hours_2 (by decide) ?_
  refine a_ldc2 (pc := 3) kX7_159 dX7_hours_3 ?_
  obtain ⟨r3, S1, hc2, h⟩ := g_bind2 h
  refine a_invSi (pc := 6) (ok_X7_in hc2) gyX7_in syX7_in mlX7_51 (As := [.long (p1.toInt64), .long (1 : Int64), .long (24 : Int64)]) rfl rfl (by decide) (st := []) rfl (Nat.le_of_ble_eq_true rfl) dX7_hours_6 ?_
  refine a_if_ne (pc := 9) (tgt := 14) dX7_hours_9 (by decide) (fun c4 => ?_) (fun c4 => ?_)
  · rw [if_neg c4] at h
    refine a_aloadn (pc := 14) dX7_hours_14 rfl rfl ?_
    refine a_getA (pc := 15) flX7_7 sh_47 rfl dX7_hours_15 ?_
    refine a_bipush (pc := 18) (v := (6 : Int32)) dX7_hours_18 (by decide) ?_
    obtain ⟨hi5, h⟩ := g_if h
    refine a_iald (pc := 20) sh_48 hi5 dX7_hours_20 ?_
    refine a_iloadn (pc := 21) dX7_hours_21 rfl rfl ?_
    refine a_iadd (pc := 22) dX7_hours_22 ?_
    refine a_sipush (pc := 23) (v := (9999 : Int32)) dX7_hours_23 (by decide) ?_
    refine a_icmp_le (pc := 26) (tgt := 32) dX7_hours_26 (by decide) (fun c6 => ?_) (fun c6 => ?_)
    · rw [if_pos c6] at h
      refine a_iconst (pc := 32) (v := (0 : Int32)) dX7_hours_32 (by decide) ?_
      refine a_istoren (pc := 33) dX7_hours_33 rfl (Nat.le_of_ble_eq_true rfl) rfl (L' := [some (.ref (gad X 47)), some (.int p1), some (.int (0 : Int32))]) rfl ?_
      obtain ⟨R12, hR12, h⟩ := g_bind h
      have E34 : ∀  (S12 : gSt), (gBind2 (f_X7_allHeld S12) fun r15 S13 => some (r15, S13)) = some (r0, S0) → AW X RX7 4 cX7_hours 53 [some (.ref (gad X 47)), none, none] [] S12 := by
        intro S12 h
        refine a_aloadn (pc := 53) dX7_hours_53 rfl rfl ?_
        obtain ⟨r15, S13, hc14, h⟩ := g_bind2 h
        refine a_invVi (pc := 54) (ok_X7_allHeld hc14) gyX7_allHeld vyX7_allHeld mlX7_111 sh_47 rfl (As := []) rfl rfl (by decide) (st := []) rfl (Nat.le_of_ble_eq_true rfl) dX7_hours_54 ?_
        obtain ⟨rfl, rfl⟩ := Prod.mk.inj (Option.some.inj h)
        exact a_iret hp dX7_hours_57
      have lp : ∀ (n : Nat) (x1 : Int32) (x2 : Int32) (S : gSt), gLoop (f_X7_hours_s34) n (x1, x2, S) = some R12 → AW X RX7 4 cX7_hours 34 [some (.ref (gad X 47)), some (.int x1), some (.int x2)] [] S := by
        intro n
        induction n with
        | zero => intro x1 x2 S hR; cases hR
        | succ n ih =>
          intro x1 x2 S hR
          obtain ⟨q, hs, hR⟩ := g_bind hR
          have hs : f_X7_hours_s34_b x1 x2 S = some q := hs
          unfold f_X7_hours_s34_b at hs
          refine a_iloadn (pc := 34) dX7_hours_34 rfl rfl ?_
          refine a_iloadn (pc := 35) dX7_hours_35 rfl rfl ?_
          refine a_icmp_ge (pc := 36) (tgt := 53) dX7_hours_36 (by decide) (fun c7 => ?_) (fun c7 => ?_)
          · rw [if_pos c7] at hs
            obtain rfl := Option.some.inj hs
            obtain rfl := Option.some.inj hR
            refine a_mask [true, false, false] (L' := [some (.ref (gad X 47)), none, none]) rfl ?_
            exact E34  _ h
          · rw [if_neg c7] at hs
            refine a_aloadn (pc := 39) dX7_hours_39 rfl rfl ?_
            obtain ⟨S8, hc9, hs⟩ := g_bind hs
            refine a_invVv (pc := 40) (ok_X7_notes hc9) gyX7_notes vyX7_notes mlX7_153 sh_47 rfl (As := []) rfl rfl (by decide) (st := []) rfl (Nat.le_of_ble_eq_true rfl) dX7_hours_40 ?_
            refine a_aloadn (pc := 43) dX7_hours_43 rfl rfl ?_
            obtain ⟨S10, hc11, hs⟩ := g_bind hs
            refine a_invVv (pc := 44) (ok_X7_goesBy hc11) gyX7_goesBy vyX7_goesBy mlX7_161 sh_47 rfl (As := []) rfl rfl (by decide) (st := []) rfl (Nat.le_of_ble_eq_true rfl) dX7_hours_44 ?_
            refine a_iinc (pc := 47) dX7_hours_47 rfl (v := x2 + (1 : Int32)) rfl (Nat.le_of_ble_eq_true rfl) rfl (L' := [some (.ref (gad X 47)), some (.int x1), some (.int (x2 + (1 : Int32)))]) rfl ?_
            refine a_goto (pc := 50) (tgt := 34) dX7_hours_50 (by decide) ?_
            obtain rfl := Option.some.inj hs
            exact ih _ _ _ hR
      exact lp _ _ _ _ hR12
    · rw [if_neg c6] at h
      refine a_bipush (pc := 29) (v := (-3 : Int32)) dX7_hours_29 (by decide) ?_
      obtain ⟨rfl, rfl⟩ := Prod.mk.inj (Option.some.inj h)
      exact a_iret hp dX7_hours_31
  · rw [if_pos c4] at h
    refine a_iconst (pc := 12) (v := (-1 : Int32)) dX7_hours_12 (by decide) ?_
    obtain ⟨rfl, rfl⟩ := Prod.mk.inj (Option.some.inj h)
    exact a_iret hp dX7_hours_13
theorem dX7_rakes_0 : decode cX7_rakes 0 = .ok (.aload_n 0, 1) := by decide +kernel
theorem dX7_rakes_1 : decode cX7_rakes 1 = .ok (.iload_n 1, 1) := by decide +kernel
theorem dX7_rakes_2 : decode cX7_rakes 2 = .ok (.invokevirtual 108, 3) := by decide +kernel
theorem dX7_rakes_5 : decode cX7_rakes 5 = .ok (.istore_n 2, 1) := by decide +kernel
theorem dX7_rakes_6 : decode cX7_rakes 6 = .ok (.iconst 0, 1) := by decide +kernel
theorem dX7_rakes_7 : decode cX7_rakes 7 = .ok (.istore_n 3, 1) := by decide +kernel
theorem dX7_rakes_8 : decode cX7_rakes 8 = .ok (.iload_n 3, 1) := by decide +kernel
theorem dX7_rakes_9 : decode cX7_rakes 9 = .ok (.aload_n 0, 1) := by decide +kernel
theorem dX7_rakes_10 : decode cX7_rakes 10 = .ok (.getfield 7, 3) := by decide +kernel
theorem dX7_rakes_13 : decode cX7_rakes 13 = .ok (.iconst 5, 1) := by decide +kernel
theorem dX7_rakes_14 : decode cX7_rakes 14 = .ok (.iaload, 1) := by decide +kernel
theorem dX7_rakes_15 : decode cX7_rakes 15 = .ok (.if_icmp .ge 24, 3) := by decide +kernel
theorem dX7_rakes_18 : decode cX7_rakes 18 = .ok (.aload_n 0, 1) := by decide +kernel
theorem dX7_rakes_19 : decode cX7_rakes 19 = .ok (.getfield 7, 3) := by decide +kernel
theorem dX7_rakes_22 : decode cX7_rakes 22 = .ok (.bipush 32, 2) := by decide +kernel
theorem dX7_rakes_24 : decode cX7_rakes 24 = .ok (.bipush 64, 2) := by decide +kernel
theorem dX7_rakes_26 : decode cX7_rakes 26 = .ok (.iload_n 3, 1) := by decide +kernel
theorem dX7_rakes_27 : decode cX7_rakes 27 = .ok (.imul, 1) := by decide +kernel
theorem dX7_rakes_28 : decode cX7_rakes 28 = .ok (.iadd, 1) := by decide +kernel
theorem dX7_rakes_29 : decode cX7_rakes 29 = .ok (.iload_n 1, 1) := by decide +kernel
theorem dX7_rakes_30 : decode cX7_rakes 30 = .ok (.iadd, 1) := by decide +kernel
theorem dX7_rakes_31 : decode cX7_rakes 31 = .ok (.iconst 0, 1) := by decide +kernel
theorem dX7_rakes_32 : decode cX7_rakes 32 = .ok (.iastore, 1) := by decide +kernel
theorem dX7_rakes_33 : decode cX7_rakes 33 = .ok (.iinc 3 1, 3) := by decide +kernel
theorem dX7_rakes_36 : decode cX7_rakes 36 = .ok (.goto (-28), 3) := by decide +kernel
theorem dX7_rakes_39 : decode cX7_rakes 39 = .ok (.iload_n 2, 1) := by decide +kernel
theorem dX7_rakes_40 : decode cX7_rakes 40 = .ok (.ireturn, 1) := by decide +kernel
def f_X7_rakes_s8_b (x1 : Int32) (x2 : Int32) (x3 : Int32) (S : gSt) : Option ((Int32 × Int32 × Int32 × gSt) ⊕ (Int32 × gSt)) :=
if gin (5 : Int32) 416 then
((if (S.1 48 (5 : Int32).toNatClampNeg) ≤ x3 then
some (.inr (x2, S))
else
if gin (((32 : Int32) + ((64 : Int32) * x3)) + x1) 416 then
gLet (gI S 48 (((32 : Int32) + ((64 : Int32) * x3)) + x1).toNatClampNeg (0 : Int32)) fun S7 =>
(some (.inl (x1, x2, x3 + (1 : Int32), S7))) else none)) else none
def f_X7_rakes_s8 : (Int32 × Int32 × Int32 × gSt) → Option ((Int32 × Int32 × Int32 × gSt) ⊕ (Int32 × gSt)) := fun t => f_X7_rakes_s8_b t.1 t.2.1 t.2.2.1 t.2.2.2
def f_X7_rakes (p1 : Int32) (S : gSt) : Option (Int32 × gSt) :=
gBind2 (f_X7_prints p1 S) fun r3 S1 =>
(gLoop (f_X7_rakes_s8) gFuel (p1, r3, (0 : Int32), S1)).bind fun q8 => match q8 with
| (y2_8, S8) =>
some (y2_8, S8)
set_option maxHeartbeats 4000000 in
set_option maxRecDepth 20000 in
theorem ok_X7_rakes {p1 : Int32} {S S0 : gSt} {r0 : Int32}  (h : f_X7_rakes p1 S = some (r0, S0)) : gCT yX7_rakes cX7_rakes 4 (some .int) 1 (fun w => [.ref (w.2.1 47), .int p1]) S (some (.int r0)) S0 := by
  refine gEnter (fun X => [some (.ref (gad X 47)), some (.int p1), none, none]) (by decide) (fun X => ⟨rfl, rfl⟩) (fun w => Nat.le_of_ble_eq_true rfl) (fun X hp => ?_)
  show AW X RX7 1 cX7_rakes 0 [some (.ref (gad X 47)), some (.int p1), none, none] [] S
  unfold f_X7_rakes at h
  refine a_aloadn (pc := 0) dX7_rakes_0 rfl rfl ?_
  refine a_iloadn (pc := 1) dX7_rakes_1 rfl rfl ?_
  obtain ⟨r3, S1, hc2, h⟩ := g_bind2 h
  refine a_invVi (pc := 2) (ok_X7_prints hc2) gyX7_prints vyX7_prints mlX7_108 sh_47 rfl (As := [.int p1]) rfl rfl (by decide) (st := []) rfl (Nat.le_of_ble_eq_true rfl) dX7_rakes_2 ?_
  refine a_istoren (pc := 5) dX7_rakes_5 rfl (Nat.le_of_ble_eq_true rfl) rfl (L' := [some (.ref (gad X 47)), some (.int p1), some (.int r3), none]) rfl ?_
  refine a_iconst (pc := 6) (v := (0 : Int32)) dX7_rakes_6 (by decide) ?_
  refine a_istoren (pc := 7) dX7_rakes_7 rfl (Nat.le_of_ble_eq_true rfl) rfl (L' := [some (.ref (gad X 47)), some (.int p1), some (.int r3), some (.int (0 : Int32))]) rfl ?_
  obtain ⟨R8, hR8, h⟩ := g_bind h
  have E8 : ∀ (y2_8 : Int32) (S8 : gSt), (some (y2_8, S8)) = some (r0, S0) → AW X RX7 1 cX7_rakes 39 [none, none, some (.int y2_8), none] [] S8 := by
    intro y2_8 S8 h
    refine a_iloadn (pc := 39) dX7_rakes_39 rfl rfl ?_
    obtain ⟨rfl, rfl⟩ := Prod.mk.inj (Option.some.inj h)
    exact a_iret hp dX7_rakes_40
  have lp : ∀ (n : Nat) (x1 : Int32) (x2 : Int32) (x3 : Int32) (S : gSt), gLoop (f_X7_rakes_s8) n (x1, x2, x3, S) = some R8 → AW X RX7 1 cX7_rakes 8 [some (.ref (gad X 47)), some (.int x1), some (.int x2), some (.int x3)] [] S := by
    intro n
    induction n with
    | zero => intro x1 x2 x3 S hR; cases hR
    | succ n ih =>
      intro x1 x2 x3 S hR
      obtain ⟨q, hs, hR⟩ := g_bind hR
      have hs : f_X7_rakes_s8_b x1 x2 x3 S = some q := hs
      unfold f_X7_rakes_s8_b at hs
      refine a_iloadn (pc := 8) dX7_rakes_8 rfl rfl ?_
      refine a_aloadn (pc := 9) dX7_rakes_9 rfl rfl ?_
      refine a_getA (pc := 10) flX7_7 sh_47 rfl dX7_rakes_10 ?_
      refine a_iconst (pc := 13) (v := (5 : Int32)) dX7_rakes_13 (by decide) ?_
      obtain ⟨hi4, hs⟩ := g_if hs
      refine a_iald (pc := 14) sh_48 hi4 dX7_rakes_14 ?_
      refine a_icmp_ge (pc := 15) (tgt := 39) dX7_rakes_15 (by decide) (fun c5 => ?_) (fun c5 => ?_)
      · rw [if_pos c5] at hs
        obtain rfl := Option.some.inj hs
        obtain rfl := Option.some.inj hR
        refine a_mask [false, false, true, false] (L' := [none, none, some (.int x2), none]) rfl ?_
        exact E8 _ _ h
      · rw [if_neg c5] at hs
        refine a_aloadn (pc := 18) dX7_rakes_18 rfl rfl ?_
        refine a_getA (pc := 19) flX7_7 sh_47 rfl dX7_rakes_19 ?_
        refine a_bipush (pc := 22) (v := (32 : Int32)) dX7_rakes_22 (by decide) ?_
        refine a_bipush (pc := 24) (v := (64 : Int32)) dX7_rakes_24 (by decide) ?_
        refine a_iloadn (pc := 26) dX7_rakes_26 rfl rfl ?_
        refine a_imul (pc := 27) dX7_rakes_27 ?_
        refine a_iadd (pc := 28) dX7_rakes_28 ?_
        refine a_iloadn (pc := 29) dX7_rakes_29 rfl rfl ?_
        refine a_iadd (pc := 30) dX7_rakes_30 ?_
        refine a_iconst (pc := 31) (v := (0 : Int32)) dX7_rakes_31 (by decide) ?_
        obtain ⟨hi6, hs⟩ := g_if hs
        refine a_iast (pc := 32) sh_48 hi6 dX7_rakes_32 ?_
        obtain ⟨S7, eS7, hs⟩ := g_let hs
        refine a_nmS eS7 ?_
        refine a_iinc (pc := 33) dX7_rakes_33 rfl (v := x3 + (1 : Int32)) rfl (Nat.le_of_ble_eq_true rfl) rfl (L' := [some (.ref (gad X 47)), some (.int x1), some (.int x2), some (.int (x3 + (1 : Int32)))]) rfl ?_
        refine a_goto (pc := 36) (tgt := 8) dX7_rakes_36 (by decide) ?_
        obtain rfl := Option.some.inj hs
        exact ih _ _ _ _ hR
  exact lp _ _ _ _ _ hR8
theorem dX7_drift_0 : decode cX7_drift 0 = .ok (.iload_n 1, 1) := by decide +kernel
theorem dX7_drift_1 : decode cX7_drift 1 = .ok (.i2l, 1) := by decide +kernel
theorem dX7_drift_2 : decode cX7_drift 2 = .ok (.lconst 1, 1) := by decide +kernel
theorem dX7_drift_3 : decode cX7_drift 3 = .ok (.ldc2_w 159, 3) := by decide +kernel
theorem dX7_drift_6 : decode cX7_drift 6 = .ok (.invokestatic 51, 3) := by decide +kernel
theorem dX7_drift_9 : decode cX7_drift 9 = .ok (.ifCond .ne 5, 3) := by decide +kernel
theorem dX7_drift_12 : decode cX7_drift 12 = .ok (.iconst (-1), 1) := by decide +kernel
theorem dX7_drift_13 : decode cX7_drift 13 = .ok (.ireturn, 1) := by decide +kernel
theorem dX7_drift_14 : decode cX7_drift 14 = .ok (.aload_n 0, 1) := by decide +kernel
theorem dX7_drift_15 : decode cX7_drift 15 = .ok (.getfield 7, 3) := by decide +kernel
theorem dX7_drift_18 : decode cX7_drift 18 = .ok (.bipush 6, 2) := by decide +kernel
theorem dX7_drift_20 : decode cX7_drift 20 = .ok (.iaload, 1) := by decide +kernel
theorem dX7_drift_21 : decode cX7_drift 21 = .ok (.iload_n 1, 1) := by decide +kernel
theorem dX7_drift_22 : decode cX7_drift 22 = .ok (.iadd, 1) := by decide +kernel
theorem dX7_drift_23 : decode cX7_drift 23 = .ok (.sipush 9999, 3) := by decide +kernel
theorem dX7_drift_26 : decode cX7_drift 26 = .ok (.if_icmp .le 6, 3) := by decide +kernel
theorem dX7_drift_29 : decode cX7_drift 29 = .ok (.bipush (-3), 2) := by decide +kernel
theorem dX7_drift_31 : decode cX7_drift 31 = .ok (.ireturn, 1) := by decide +kernel
theorem dX7_drift_32 : decode cX7_drift 32 = .ok (.iconst 0, 1) := by decide +kernel
theorem dX7_drift_33 : decode cX7_drift 33 = .ok (.istore_n 2, 1) := by decide +kernel
theorem dX7_drift_34 : decode cX7_drift 34 = .ok (.iconst 0, 1) := by decide +kernel
theorem dX7_drift_35 : decode cX7_drift 35 = .ok (.istore_n 3, 1) := by decide +kernel
theorem dX7_drift_36 : decode cX7_drift 36 = .ok (.iload_n 3, 1) := by decide +kernel
theorem dX7_drift_37 : decode cX7_drift 37 = .ok (.iload_n 1, 1) := by decide +kernel
theorem dX7_drift_38 : decode cX7_drift 38 = .ok (.if_icmp .ge 65, 3) := by decide +kernel
theorem dX7_drift_41 : decode cX7_drift 41 = .ok (.aload_n 0, 1) := by decide +kernel
theorem dX7_drift_42 : decode cX7_drift 42 = .ok (.invokevirtual 153, 3) := by decide +kernel
theorem dX7_drift_45 : decode cX7_drift 45 = .ok (.aload_n 0, 1) := by decide +kernel
theorem dX7_drift_46 : decode cX7_drift 46 = .ok (.invokevirtual 161, 3) := by decide +kernel
theorem dX7_drift_49 : decode cX7_drift 49 = .ok (.aload_n 0, 1) := by decide +kernel
theorem dX7_drift_50 : decode cX7_drift 50 = .ok (.getfield 7, 3) := by decide +kernel
theorem dX7_drift_53 : decode cX7_drift 53 = .ok (.bipush 7, 2) := by decide +kernel
theorem dX7_drift_55 : decode cX7_drift 55 = .ok (.aload_n 0, 1) := by decide +kernel
theorem dX7_drift_56 : decode cX7_drift 56 = .ok (.getfield 7, 3) := by decide +kernel
theorem dX7_drift_59 : decode cX7_drift 59 = .ok (.bipush 7, 2) := by decide +kernel
theorem dX7_drift_61 : decode cX7_drift 61 = .ok (.iaload, 1) := by decide +kernel
theorem dX7_drift_62 : decode cX7_drift 62 = .ok (.i2l, 1) := by decide +kernel
theorem dX7_drift_63 : decode cX7_drift 63 = .ok (.ldc2_w 164, 3) := by decide +kernel
theorem dX7_drift_66 : decode cX7_drift 66 = .ok (.lmul, 1) := by decide +kernel
theorem dX7_drift_67 : decode cX7_drift 67 = .ok (.ldc2_w 166, 3) := by decide +kernel
theorem dX7_drift_70 : decode cX7_drift 70 = .ok (.ladd, 1) := by decide +kernel
theorem dX7_drift_71 : decode cX7_drift 71 = .ok (.ldc2_w 168, 3) := by decide +kernel
theorem dX7_drift_74 : decode cX7_drift 74 = .ok (.land, 1) := by decide +kernel
theorem dX7_drift_75 : decode cX7_drift 75 = .ok (.l2i, 1) := by decide +kernel
theorem dX7_drift_76 : decode cX7_drift 76 = .ok (.iastore, 1) := by decide +kernel
theorem dX7_drift_77 : decode cX7_drift 77 = .ok (.iload_n 2, 1) := by decide +kernel
theorem dX7_drift_78 : decode cX7_drift 78 = .ok (.aload_n 0, 1) := by decide +kernel
theorem dX7_drift_79 : decode cX7_drift 79 = .ok (.aload_n 0, 1) := by decide +kernel
theorem dX7_drift_80 : decode cX7_drift 80 = .ok (.getfield 7, 3) := by decide +kernel
theorem dX7_drift_83 : decode cX7_drift 83 = .ok (.bipush 7, 2) := by decide +kernel
theorem dX7_drift_85 : decode cX7_drift 85 = .ok (.iaload, 1) := by decide +kernel
theorem dX7_drift_86 : decode cX7_drift 86 = .ok (.ldc 170, 2) := by decide +kernel
theorem dX7_drift_88 : decode cX7_drift 88 = .ok (.idiv, 1) := by decide +kernel
theorem dX7_drift_89 : decode cX7_drift 89 = .ok (.bipush 64, 2) := by decide +kernel
theorem dX7_drift_91 : decode cX7_drift 91 = .ok (.irem, 1) := by decide +kernel
theorem dX7_drift_92 : decode cX7_drift 92 = .ok (.invokevirtual 171, 3) := by decide +kernel
theorem dX7_drift_95 : decode cX7_drift 95 = .ok (.iadd, 1) := by decide +kernel
theorem dX7_drift_96 : decode cX7_drift 96 = .ok (.istore_n 2, 1) := by decide +kernel
theorem dX7_drift_97 : decode cX7_drift 97 = .ok (.iinc 3 1, 3) := by decide +kernel
theorem dX7_drift_100 : decode cX7_drift 100 = .ok (.goto (-64), 3) := by decide +kernel
theorem dX7_drift_103 : decode cX7_drift 103 = .ok (.iload_n 2, 1) := by decide +kernel
theorem dX7_drift_104 : decode cX7_drift 104 = .ok (.ireturn, 1) := by decide +kernel
def f_X7_drift_s36_b (x1 : Int32) (x2 : Int32) (x3 : Int32) (S : gSt) : Option ((Int32 × Int32 × Int32 × gSt) ⊕ (Int32 × gSt)) :=
(if x1 ≤ x3 then
some (.inr (x2, S))
else
(f_X7_notes S).bind fun S8 =>
(f_X7_goesBy S8).bind fun S10 =>
if gin (7 : Int32) 416 then
(if gin (7 : Int32) 416 then
gLet (gI S10 48 (7 : Int32).toNatClampNeg ((((((S10.1 48 (7 : Int32).toNatClampNeg).toInt64) * (1103515245 : Int64)) + (12345 : Int64)) &&& (2147483647 : Int64)).toInt32)) fun S14 =>
(if gin (7 : Int32) 416 then
(gBind2 (f_X7_rakes (((S14.1 48 (7 : Int32).toNatClampNeg) / (65536 : Int32)) - ((S14.1 48 (7 : Int32).toNatClampNeg) / (65536 : Int32)) / (64 : Int32) * (64 : Int32)) S14) fun r18 S16 =>
gLet (x2 + r18) fun v19 =>
some (.inl (x1, v19, x3 + (1 : Int32), S16))) else none) else none) else none)
def f_X7_drift_s36 : (Int32 × Int32 × Int32 × gSt) → Option ((Int32 × Int32 × Int32 × gSt) ⊕ (Int32 × gSt)) := fun t => f_X7_drift_s36_b t.1 t.2.1 t.2.2.1 t.2.2.2
def f_X7_drift (p1 : Int32) (S : gSt) : Option (Int32 × gSt) :=
gBind2 (f_X7_in (p1.toInt64) (1 : Int64) (24 : Int64) S) fun r3 S1 =>
(if r3 = 0 then
some ((-1 : Int32), S1)
else
if gin (6 : Int32) 416 then
((if ((S1.1 48 (6 : Int32).toNatClampNeg) + p1) ≤ (9999 : Int32) then
(gLoop (f_X7_drift_s36) gFuel (p1, (0 : Int32), (0 : Int32), S1)).bind fun q20 => match q20 with
| (y2_20, S20) =>
some (y2_20, S20)
else
some ((-3 : Int32), S1))) else none)
set_option maxHeartbeats 4000000 in
set_option maxRecDepth 20000 in
theorem ok_X7_drift {p1 : Int32} {S S0 : gSt} {r0 : Int32}  (h : f_X7_drift p1 S = some (r0, S0)) : gCT yX7_drift cX7_drift 4 (some .int) 2 (fun w => [.ref (w.2.1 47), .int p1]) S (some (.int r0)) S0 := by
  refine gEnter (fun X => [some (.ref (gad X 47)), some (.int p1), none, none]) (by decide) (fun X => ⟨rfl, rfl⟩) (fun w => Nat.le_of_ble_eq_true rfl) (fun X hp => ?_)
  show AW X RX7 2 cX7_drift 0 [some (.ref (gad X 47)), some (.int p1), none, none] [] S
  unfold f_X7_drift at h
  refine a_iloadn (pc := 0) dX7_drift_0 rfl rfl ?_
  refine a_i2l (pc := 1) dX7_drift_1 ?_
  refine a_lconst (pc := 2) (v := (1 : Int64)) dX7_drift_2 (by decide) ?_
  refine a_ldc2 (pc := 3) kX7_159 dX7_drift_3 ?_
  obtain ⟨r3, S1, hc2, h⟩ := g_bind2 h
  refine a_invSi (pc := 6) (ok_X7_in hc2) gyX7_in syX7_in mlX7_51 (As := [.long (p1.toInt64), .long (1 : Int64), .long (24 : Int64)]) rfl rfl (by decide) (st := []) rfl (Nat.le_of_ble_eq_true rfl) dX7_drift_6 ?_
  refine a_if_ne (pc := 9) (tgt := 14) dX7_drift_9 (by decide) (fun c4 => ?_) (fun c4 => ?_)
  · rw [if_neg c4] at h
    refine a_aloadn (pc := 14) dX7_drift_14 rfl rfl ?_
    refine a_getA (pc := 15) flX7_7 sh_47 rfl dX7_drift_15 ?_
    refine a_bipush (pc := 18) (v := (6 : Int32)) dX7_drift_18 (by decide) ?_
    obtain ⟨hi5, h⟩ := g_if h
    refine a_iald (pc := 20) sh_48 hi5 dX7_drift_20 ?_
    refine a_iloadn (pc := 21) dX7_drift_21 rfl rfl ?_
    refine a_iadd (pc := 22) dX7_drift_22 ?_
    refine a_sipush (pc := 23) (v := (9999 : Int32)) dX7_drift_23 (by decide) ?_
    refine a_icmp_le (pc := 26) (tgt := 32) dX7_drift_26 (by decide) (fun c6 => ?_) (fun c6 => ?_)
    · rw [if_pos c6] at h
      refine a_iconst (pc := 32) (v := (0 : Int32)) dX7_drift_32 (by decide) ?_
      refine a_istoren (pc := 33) dX7_drift_33 rfl (Nat.le_of_ble_eq_true rfl) rfl (L' := [some (.ref (gad X 47)), some (.int p1), some (.int (0 : Int32)), none]) rfl ?_
      refine a_iconst (pc := 34) (v := (0 : Int32)) dX7_drift_34 (by decide) ?_
      refine a_istoren (pc := 35) dX7_drift_35 rfl (Nat.le_of_ble_eq_true rfl) rfl (L' := [some (.ref (gad X 47)), some (.int p1), some (.int (0 : Int32)), some (.int (0 : Int32))]) rfl ?_
      obtain ⟨R20, hR20, h⟩ := g_bind h
      have E36 : ∀ (y2_20 : Int32) (S20 : gSt), (some (y2_20, S20)) = some (r0, S0) → AW X RX7 2 cX7_drift 103 [none, none, some (.int y2_20), none] [] S20 := by
        intro y2_20 S20 h
        refine a_iloadn (pc := 103) dX7_drift_103 rfl rfl ?_
        obtain ⟨rfl, rfl⟩ := Prod.mk.inj (Option.some.inj h)
        exact a_iret hp dX7_drift_104
      have lp : ∀ (n : Nat) (x1 : Int32) (x2 : Int32) (x3 : Int32) (S : gSt), gLoop (f_X7_drift_s36) n (x1, x2, x3, S) = some R20 → AW X RX7 2 cX7_drift 36 [some (.ref (gad X 47)), some (.int x1), some (.int x2), some (.int x3)] [] S := by
        intro n
        induction n with
        | zero => intro x1 x2 x3 S hR; cases hR
        | succ n ih =>
          intro x1 x2 x3 S hR
          obtain ⟨q, hs, hR⟩ := g_bind hR
          have hs : f_X7_drift_s36_b x1 x2 x3 S = some q := hs
          unfold f_X7_drift_s36_b at hs
          refine a_iloadn (pc := 36) dX7_drift_36 rfl rfl ?_
          refine a_iloadn (pc := 37) dX7_drift_37 rfl rfl ?_
          refine a_icmp_ge (pc := 38) (tgt := 103) dX7_drift_38 (by decide) (fun c7 => ?_) (fun c7 => ?_)
          · rw [if_pos c7] at hs
            obtain rfl := Option.some.inj hs
            obtain rfl := Option.some.inj hR
            refine a_mask [false, false, true, false] (L' := [none, none, some (.int x2), none]) rfl ?_
            exact E36 _ _ h
          · rw [if_neg c7] at hs
            refine a_aloadn (pc := 41) dX7_drift_41 rfl rfl ?_
            obtain ⟨S8, hc9, hs⟩ := g_bind hs
            refine a_invVv (pc := 42) (ok_X7_notes hc9) gyX7_notes vyX7_notes mlX7_153 sh_47 rfl (As := []) rfl rfl (by decide) (st := []) rfl (Nat.le_of_ble_eq_true rfl) dX7_drift_42 ?_
            refine a_aloadn (pc := 45) dX7_drift_45 rfl rfl ?_
            obtain ⟨S10, hc11, hs⟩ := g_bind hs
            refine a_invVv (pc := 46) (ok_X7_goesBy hc11) gyX7_goesBy vyX7_goesBy mlX7_161 sh_47 rfl (As := []) rfl rfl (by decide) (st := []) rfl (Nat.le_of_ble_eq_true rfl) dX7_drift_46 ?_
            refine a_aloadn (pc := 49) dX7_drift_49 rfl rfl ?_
            refine a_getA (pc := 50) flX7_7 sh_47 rfl dX7_drift_50 ?_
            refine a_bipush (pc := 53) (v := (7 : Int32)) dX7_drift_53 (by decide) ?_
            refine a_aloadn (pc := 55) dX7_drift_55 rfl rfl ?_
            refine a_getA (pc := 56) flX7_7 sh_47 rfl dX7_drift_56 ?_
            refine a_bipush (pc := 59) (v := (7 : Int32)) dX7_drift_59 (by decide) ?_
            obtain ⟨hi12, hs⟩ := g_if hs
            refine a_iald (pc := 61) sh_48 hi12 dX7_drift_61 ?_
            refine a_i2l (pc := 62) dX7_drift_62 ?_
            refine a_ldc2 (pc := 63) kX7_164 dX7_drift_63 ?_
            refine a_lmul (pc := 66) dX7_drift_66 ?_
            refine a_ldc2 (pc := 67) kX7_166 dX7_drift_67 ?_
            refine a_ladd (pc := 70) dX7_drift_70 ?_
            refine a_ldc2 (pc := 71) kX7_168 dX7_drift_71 ?_
            refine a_land (pc := 74) dX7_drift_74 ?_
            refine a_l2i (pc := 75) dX7_drift_75 ?_
            obtain ⟨hi13, hs⟩ := g_if hs
            refine a_iast (pc := 76) sh_48 hi13 dX7_drift_76 ?_
            obtain ⟨S14, eS14, hs⟩ := g_let hs
            refine a_nmS eS14 ?_
            refine a_iloadn (pc := 77) dX7_drift_77 rfl rfl ?_
            refine a_aloadn (pc := 78) dX7_drift_78 rfl rfl ?_
            refine a_aloadn (pc := 79) dX7_drift_79 rfl rfl ?_
            refine a_getA (pc := 80) flX7_7 sh_47 rfl dX7_drift_80 ?_
            refine a_bipush (pc := 83) (v := (7 : Int32)) dX7_drift_83 (by decide) ?_
            obtain ⟨hi15, hs⟩ := g_if hs
            refine a_iald (pc := 85) sh_48 hi15 dX7_drift_85 ?_
            refine a_ldc (pc := 86) kX7_170 dX7_drift_86 ?_
            refine a_idiv (pc := 88) dX7_drift_88 (by decide) ?_
            refine a_bipush (pc := 89) (v := (64 : Int32)) dX7_drift_89 (by decide) ?_
            refine a_irem (pc := 91) dX7_drift_91 (by decide) ?_
            obtain ⟨r18, S16, hc17, hs⟩ := g_bind2 hs
            refine a_invVi (pc := 92) (ok_X7_rakes hc17) gyX7_rakes vyX7_rakes mlX7_171 sh_47 rfl (As := [.int (((S14.1 48 (7 : Int32).toNatClampNeg) / (65536 : Int32)) - ((S14.1 48 (7 : Int32).toNatClampNeg) / (65536 : Int32)) / (64 : Int32) * (64 : Int32))]) rfl rfl (by decide) (st := [.int x2]) rfl (Nat.le_of_ble_eq_true rfl) dX7_drift_92 ?_
            refine a_iadd (pc := 95) dX7_drift_95 ?_
            obtain ⟨v19, ev19, hs⟩ := g_let hs
            refine a_nmI ev19 ?_
            refine a_istoren (pc := 96) dX7_drift_96 rfl (Nat.le_of_ble_eq_true rfl) rfl (L' := [some (.ref (gad X 47)), some (.int x1), some (.int v19), some (.int x3)]) rfl ?_
            refine a_iinc (pc := 97) dX7_drift_97 rfl (v := x3 + (1 : Int32)) rfl (Nat.le_of_ble_eq_true rfl) rfl (L' := [some (.ref (gad X 47)), some (.int x1), some (.int v19), some (.int (x3 + (1 : Int32)))]) rfl ?_
            refine a_goto (pc := 100) (tgt := 36) dX7_drift_100 (by decide) ?_
            obtain rfl := Option.some.inj hs
            exact ih _ _ _ _ hR
      exact lp _ _ _ _ _ hR20
    · rw [if_neg c6] at h
      refine a_bipush (pc := 29) (v := (-3 : Int32)) dX7_drift_29 (by decide) ?_
      obtain ⟨rfl, rfl⟩ := Prod.mk.inj (Option.some.inj h)
      exact a_iret hp dX7_drift_31
  · rw [if_pos c4] at h
    refine a_iconst (pc := 12) (v := (-1 : Int32)) dX7_drift_12 (by decide) ?_
    obtain ⟨rfl, rfl⟩ := Prod.mk.inj (Option.some.inj h)
    exact a_iret hp dX7_drift_13
theorem dX7_rake_0 : decode cX7_rake 0 = .ok (.iload_n 1, 1) := by decide +kernel
theorem dX7_rake_1 : decode cX7_rake 1 = .ok (.invokestatic 65, 3) := by decide +kernel
theorem dX7_rake_4 : decode cX7_rake 4 = .ok (.ifCond .ne 5, 3) := by decide +kernel
theorem dX7_rake_7 : decode cX7_rake 7 = .ok (.iconst (-1), 1) := by decide +kernel
theorem dX7_rake_8 : decode cX7_rake 8 = .ok (.ireturn, 1) := by decide +kernel
theorem dX7_rake_9 : decode cX7_rake 9 = .ok (.aload_n 0, 1) := by decide +kernel
theorem dX7_rake_10 : decode cX7_rake 10 = .ok (.invokevirtual 153, 3) := by decide +kernel
theorem dX7_rake_13 : decode cX7_rake 13 = .ok (.aload_n 0, 1) := by decide +kernel
theorem dX7_rake_14 : decode cX7_rake 14 = .ok (.iload_n 1, 1) := by decide +kernel
theorem dX7_rake_15 : decode cX7_rake 15 = .ok (.invokevirtual 171, 3) := by decide +kernel
theorem dX7_rake_18 : decode cX7_rake 18 = .ok (.ireturn, 1) := by decide +kernel
def f_X7_rake (p1 : Int32) (S : gSt) : Option (Int32 × gSt) :=
gBind2 (f_X7_isCell p1 S) fun r3 S1 =>
(if r3 = 0 then
some ((-1 : Int32), S1)
else
(f_X7_notes S1).bind fun S5 =>
gBind2 (f_X7_rakes p1 S5) fun r9 S7 =>
some (r9, S7))
set_option maxHeartbeats 4000000 in
set_option maxRecDepth 20000 in
theorem ok_X7_rake {p1 : Int32} {S S0 : gSt} {r0 : Int32}  (h : f_X7_rake p1 S = some (r0, S0)) : gCT yX7_rake cX7_rake 2 (some .int) 2 (fun w => [.ref (w.2.1 47), .int p1]) S (some (.int r0)) S0 := by
  refine gEnter (fun X => [some (.ref (gad X 47)), some (.int p1)]) (by decide) (fun X => ⟨rfl, rfl⟩) (fun w => Nat.le_of_ble_eq_true rfl) (fun X hp => ?_)
  show AW X RX7 2 cX7_rake 0 [some (.ref (gad X 47)), some (.int p1)] [] S
  unfold f_X7_rake at h
  refine a_iloadn (pc := 0) dX7_rake_0 rfl rfl ?_
  obtain ⟨r3, S1, hc2, h⟩ := g_bind2 h
  refine a_invSi (pc := 1) (ok_X7_isCell hc2) gyX7_isCell syX7_isCell mlX7_65 (As := [.int p1]) rfl rfl (by decide) (st := []) rfl (Nat.le_of_ble_eq_true rfl) dX7_rake_1 ?_
  refine a_if_ne (pc := 4) (tgt := 9) dX7_rake_4 (by decide) (fun c4 => ?_) (fun c4 => ?_)
  · rw [if_neg c4] at h
    refine a_aloadn (pc := 9) dX7_rake_9 rfl rfl ?_
    obtain ⟨S5, hc6, h⟩ := g_bind h
    refine a_invVv (pc := 10) (ok_X7_notes hc6) gyX7_notes vyX7_notes mlX7_153 sh_47 rfl (As := []) rfl rfl (by decide) (st := []) rfl (Nat.le_of_ble_eq_true rfl) dX7_rake_10 ?_
    refine a_aloadn (pc := 13) dX7_rake_13 rfl rfl ?_
    refine a_iloadn (pc := 14) dX7_rake_14 rfl rfl ?_
    obtain ⟨r9, S7, hc8, h⟩ := g_bind2 h
    refine a_invVi (pc := 15) (ok_X7_rakes hc8) gyX7_rakes vyX7_rakes mlX7_171 sh_47 rfl (As := [.int p1]) rfl rfl (by decide) (st := []) rfl (Nat.le_of_ble_eq_true rfl) dX7_rake_15 ?_
    obtain ⟨rfl, rfl⟩ := Prod.mk.inj (Option.some.inj h)
    exact a_iret hp dX7_rake_18
  · rw [if_pos c4] at h
    refine a_iconst (pc := 7) (v := (-1 : Int32)) dX7_rake_7 (by decide) ?_
    obtain ⟨rfl, rfl⟩ := Prod.mk.inj (Option.some.inj h)
    exact a_iret hp dX7_rake_8
theorem dX7_undo_0 : decode cX7_undo 0 = .ok (.aload_n 0, 1) := by decide +kernel
theorem dX7_undo_1 : decode cX7_undo 1 = .ok (.getfield 69, 3) := by decide +kernel
theorem dX7_undo_4 : decode cX7_undo 4 = .ok (.ifCond .ne 6, 3) := by decide +kernel
theorem dX7_undo_7 : decode cX7_undo 7 = .ok (.bipush (-4), 2) := by decide +kernel
theorem dX7_undo_9 : decode cX7_undo 9 = .ok (.ireturn, 1) := by decide +kernel
theorem dX7_undo_10 : decode cX7_undo 10 = .ok (.aload_n 0, 1) := by decide +kernel
theorem dX7_undo_11 : decode cX7_undo 11 = .ok (.dup, 1) := by decide +kernel
theorem dX7_undo_12 : decode cX7_undo 12 = .ok (.getfield 69, 3) := by decide +kernel
theorem dX7_undo_15 : decode cX7_undo 15 = .ok (.iconst 1, 1) := by decide +kernel
theorem dX7_undo_16 : decode cX7_undo 16 = .ok (.isub, 1) := by decide +kernel
theorem dX7_undo_17 : decode cX7_undo 17 = .ok (.putfield 69, 3) := by decide +kernel
theorem dX7_undo_20 : decode cX7_undo 20 = .ok (.sipush 416, 3) := by decide +kernel
theorem dX7_undo_23 : decode cX7_undo 23 = .ok (.aload_n 0, 1) := by decide +kernel
theorem dX7_undo_24 : decode cX7_undo 24 = .ok (.getfield 69, 3) := by decide +kernel
theorem dX7_undo_27 : decode cX7_undo 27 = .ok (.imul, 1) := by decide +kernel
theorem dX7_undo_28 : decode cX7_undo 28 = .ok (.istore_n 1, 1) := by decide +kernel
theorem dX7_undo_29 : decode cX7_undo 29 = .ok (.aload_n 0, 1) := by decide +kernel
theorem dX7_undo_30 : decode cX7_undo 30 = .ok (.getfield 7, 3) := by decide +kernel
theorem dX7_undo_33 : decode cX7_undo 33 = .ok (.bipush 6, 2) := by decide +kernel
theorem dX7_undo_35 : decode cX7_undo 35 = .ok (.aload_n 0, 1) := by decide +kernel
theorem dX7_undo_36 : decode cX7_undo 36 = .ok (.getfield 22, 3) := by decide +kernel
theorem dX7_undo_39 : decode cX7_undo 39 = .ok (.iload_n 1, 1) := by decide +kernel
theorem dX7_undo_40 : decode cX7_undo 40 = .ok (.bipush 6, 2) := by decide +kernel
theorem dX7_undo_42 : decode cX7_undo 42 = .ok (.iadd, 1) := by decide +kernel
theorem dX7_undo_43 : decode cX7_undo 43 = .ok (.iaload, 1) := by decide +kernel
theorem dX7_undo_44 : decode cX7_undo 44 = .ok (.iastore, 1) := by decide +kernel
theorem dX7_undo_45 : decode cX7_undo 45 = .ok (.aload_n 0, 1) := by decide +kernel
theorem dX7_undo_46 : decode cX7_undo 46 = .ok (.getfield 7, 3) := by decide +kernel
theorem dX7_undo_49 : decode cX7_undo 49 = .ok (.bipush 7, 2) := by decide +kernel
theorem dX7_undo_51 : decode cX7_undo 51 = .ok (.aload_n 0, 1) := by decide +kernel
theorem dX7_undo_52 : decode cX7_undo 52 = .ok (.getfield 22, 3) := by decide +kernel
theorem dX7_undo_55 : decode cX7_undo 55 = .ok (.iload_n 1, 1) := by decide +kernel
theorem dX7_undo_56 : decode cX7_undo 56 = .ok (.bipush 7, 2) := by decide +kernel
theorem dX7_undo_58 : decode cX7_undo 58 = .ok (.iadd, 1) := by decide +kernel
theorem dX7_undo_59 : decode cX7_undo 59 = .ok (.iaload, 1) := by decide +kernel
theorem dX7_undo_60 : decode cX7_undo 60 = .ok (.iastore, 1) := by decide +kernel
theorem dX7_undo_61 : decode cX7_undo 61 = .ok (.bipush 8, 2) := by decide +kernel
theorem dX7_undo_63 : decode cX7_undo 63 = .ok (.istore_n 2, 1) := by decide +kernel
theorem dX7_undo_64 : decode cX7_undo 64 = .ok (.iload_n 2, 1) := by decide +kernel
theorem dX7_undo_65 : decode cX7_undo 65 = .ok (.sipush 416, 3) := by decide +kernel
theorem dX7_undo_68 : decode cX7_undo 68 = .ok (.if_icmp .ge 23, 3) := by decide +kernel
theorem dX7_undo_71 : decode cX7_undo 71 = .ok (.aload_n 0, 1) := by decide +kernel
theorem dX7_undo_72 : decode cX7_undo 72 = .ok (.getfield 7, 3) := by decide +kernel
theorem dX7_undo_75 : decode cX7_undo 75 = .ok (.iload_n 2, 1) := by decide +kernel
theorem dX7_undo_76 : decode cX7_undo 76 = .ok (.aload_n 0, 1) := by decide +kernel
theorem dX7_undo_77 : decode cX7_undo 77 = .ok (.getfield 22, 3) := by decide +kernel
theorem dX7_undo_80 : decode cX7_undo 80 = .ok (.iload_n 1, 1) := by decide +kernel
theorem dX7_undo_81 : decode cX7_undo 81 = .ok (.iload_n 2, 1) := by decide +kernel
theorem dX7_undo_82 : decode cX7_undo 82 = .ok (.iadd, 1) := by decide +kernel
theorem dX7_undo_83 : decode cX7_undo 83 = .ok (.iaload, 1) := by decide +kernel
theorem dX7_undo_84 : decode cX7_undo 84 = .ok (.iastore, 1) := by decide +kernel
theorem dX7_undo_85 : decode cX7_undo 85 = .ok (.iinc 2 1, 3) := by decide +kernel
theorem dX7_undo_88 : decode cX7_undo 88 = .ok (.goto (-24), 3) := by decide +kernel
theorem dX7_undo_91 : decode cX7_undo 91 = .ok (.aload_n 0, 1) := by decide +kernel
theorem dX7_undo_92 : decode cX7_undo 92 = .ok (.getfield 69, 3) := by decide +kernel
theorem dX7_undo_95 : decode cX7_undo 95 = .ok (.ireturn, 1) := by decide +kernel
def f_X7_undo_s64_b (x1 : Int32) (x2 : Int32) (S : gSt) : Option ((Int32 × Int32 × gSt) ⊕ (gSt)) :=
(if (416 : Int32) ≤ x2 then
some (.inr (S))
else
if gin (x1 + x2) 3328 then
(if gin x2 416 then
gLet (gI S 48 x2.toNatClampNeg (S.1 52 (x1 + x2).toNatClampNeg)) fun S13 =>
(some (.inl (x1, x2 + (1 : Int32), S13))) else none) else none)
def f_X7_undo_s64 : (Int32 × Int32 × gSt) → Option ((Int32 × Int32 × gSt) ⊕ (gSt)) := fun t => f_X7_undo_s64_b t.1 t.2.1 t.2.2
def f_X7_undo (S : gSt) : Option (Int32 × gSt) :=
(if (S.1 47 8) = 0 then
some ((-4 : Int32), S)
else
gLet (gI S 47 8 ((S.1 47 8) - (1 : Int32))) fun S2 =>
gLet ((416 : Int32) * (S2.1 47 8)) fun v3 =>
if gin (v3 + (6 : Int32)) 3328 then
(if gin (6 : Int32) 416 then
gLet (gI S2 48 (6 : Int32).toNatClampNeg (S2.1 52 (v3 + (6 : Int32)).toNatClampNeg)) fun S6 =>
(if gin (v3 + (7 : Int32)) 3328 then
(if gin (7 : Int32) 416 then
gLet (gI S6 48 (7 : Int32).toNatClampNeg (S6.1 52 (v3 + (7 : Int32)).toNatClampNeg)) fun S9 =>
((gLoop (f_X7_undo_s64) gFuel (v3, (8 : Int32), S9)).bind fun q14 => match q14 with
| S14 =>
some (S14.1 47 8, S14)) else none) else none) else none) else none)
set_option maxHeartbeats 4000000 in
set_option maxRecDepth 20000 in
theorem ok_X7_undo {S S0 : gSt} {r0 : Int32}  (h : f_X7_undo S = some (r0, S0)) : gCT yX7_undo cX7_undo 3 (some .int) 0 (fun w => [.ref (w.2.1 47)]) S (some (.int r0)) S0 := by
  refine gEnter (fun X => [some (.ref (gad X 47)), none, none]) (by decide) (fun X => ⟨rfl, rfl⟩) (fun w => Nat.le_of_ble_eq_true rfl) (fun X hp => ?_)
  show AW X RX7 0 cX7_undo 0 [some (.ref (gad X 47)), none, none] [] S
  unfold f_X7_undo at h
  refine a_aloadn (pc := 0) dX7_undo_0 rfl rfl ?_
  refine a_getI (pc := 1) flX7_69 sh_47 rfl dX7_undo_1 ?_
  refine a_if_ne (pc := 4) (tgt := 10) dX7_undo_4 (by decide) (fun c1 => ?_) (fun c1 => ?_)
  · rw [if_neg c1] at h
    refine a_aloadn (pc := 10) dX7_undo_10 rfl rfl ?_
    refine a_dup (pc := 11) dX7_undo_11 rfl ?_
    refine a_getI (pc := 12) flX7_69 sh_47 rfl dX7_undo_12 ?_
    refine a_iconst (pc := 15) (v := (1 : Int32)) dX7_undo_15 (by decide) ?_
    refine a_isub (pc := 16) dX7_undo_16 ?_
    refine a_putI (pc := 17) flX7_69 sh_47 rfl rfl rfl dX7_undo_17 ?_
    obtain ⟨S2, eS2, h⟩ := g_let h
    refine a_nmS eS2 ?_
    refine a_sipush (pc := 20) (v := (416 : Int32)) dX7_undo_20 (by decide) ?_
    refine a_aloadn (pc := 23) dX7_undo_23 rfl rfl ?_
    refine a_getI (pc := 24) flX7_69 sh_47 rfl dX7_undo_24 ?_
    refine a_imul (pc := 27) dX7_undo_27 ?_
    obtain ⟨v3, ev3, h⟩ := g_let h
    refine a_nmI ev3 ?_
    refine a_istoren (pc := 28) dX7_undo_28 rfl (Nat.le_of_ble_eq_true rfl) rfl (L' := [some (.ref (gad X 47)), some (.int v3), none]) rfl ?_
    refine a_aloadn (pc := 29) dX7_undo_29 rfl rfl ?_
    refine a_getA (pc := 30) flX7_7 sh_47 rfl dX7_undo_30 ?_
    refine a_bipush (pc := 33) (v := (6 : Int32)) dX7_undo_33 (by decide) ?_
    refine a_aloadn (pc := 35) dX7_undo_35 rfl rfl ?_
    refine a_getA (pc := 36) flX7_22 sh_47 rfl dX7_undo_36 ?_
    refine a_iloadn (pc := 39) dX7_undo_39 rfl rfl ?_
    refine a_bipush (pc := 40) (v := (6 : Int32)) dX7_undo_40 (by decide) ?_
    refine a_iadd (pc := 42) dX7_undo_42 ?_
    obtain ⟨hi4, h⟩ := g_if h
    refine a_iald (pc := 43) sh_52 hi4 dX7_undo_43 ?_
    obtain ⟨hi5, h⟩ := g_if h
    refine a_iast (pc := 44) sh_48 hi5 dX7_undo_44 ?_
    obtain ⟨S6, eS6, h⟩ := g_let h
    refine a_nmS eS6 ?_
    refine a_aloadn (pc := 45) dX7_undo_45 rfl rfl ?_
    refine a_getA (pc := 46) flX7_7 sh_47 rfl dX7_undo_46 ?_
    refine a_bipush (pc := 49) (v := (7 : Int32)) dX7_undo_49 (by decide) ?_
    refine a_aloadn (pc := 51) dX7_undo_51 rfl rfl ?_
    refine a_getA (pc := 52) flX7_22 sh_47 rfl dX7_undo_52 ?_
    refine a_iloadn (pc := 55) dX7_undo_55 rfl rfl ?_
    refine a_bipush (pc := 56) (v := (7 : Int32)) dX7_undo_56 (by decide) ?_
    refine a_iadd (pc := 58) dX7_undo_58 ?_
    obtain ⟨hi7, h⟩ := g_if h
    refine a_iald (pc := 59) sh_52 hi7 dX7_undo_59 ?_
    obtain ⟨hi8, h⟩ := g_if h
    refine a_iast (pc := 60) sh_48 hi8 dX7_undo_60 ?_
    obtain ⟨S9, eS9, h⟩ := g_let h
    refine a_nmS eS9 ?_
    refine a_bipush (pc := 61) (v := (8 : Int32)) dX7_undo_61 (by decide) ?_
    refine a_istoren (pc := 63) dX7_undo_63 rfl (Nat.le_of_ble_eq_true rfl) rfl (L' := [some (.ref (gad X 47)), some (.int v3), some (.int (8 : Int32))]) rfl ?_
    obtain ⟨R14, hR14, h⟩ := g_bind h
    have E64 : ∀  (S14 : gSt), (some (S14.1 47 8, S14)) = some (r0, S0) → AW X RX7 0 cX7_undo 91 [some (.ref (gad X 47)), none, none] [] S14 := by
      intro S14 h
      refine a_aloadn (pc := 91) dX7_undo_91 rfl rfl ?_
      refine a_getI (pc := 92) flX7_69 sh_47 rfl dX7_undo_92 ?_
      obtain ⟨rfl, rfl⟩ := Prod.mk.inj (Option.some.inj h)
      exact a_iret hp dX7_undo_95
    have lp : ∀ (n : Nat) (x1 : Int32) (x2 : Int32) (S : gSt), gLoop (f_X7_undo_s64) n (x1, x2, S) = some R14 → AW X RX7 0 cX7_undo 64 [some (.ref (gad X 47)), some (.int x1), some (.int x2)] [] S := by
      intro n
      induction n with
      | zero => intro x1 x2 S hR; cases hR
      | succ n ih =>
        intro x1 x2 S hR
        obtain ⟨q, hs, hR⟩ := g_bind hR
        have hs : f_X7_undo_s64_b x1 x2 S = some q := hs
        unfold f_X7_undo_s64_b at hs
        refine a_iloadn (pc := 64) dX7_undo_64 rfl rfl ?_
        refine a_sipush (pc := 65) (v := (416 : Int32)) dX7_undo_65 (by decide) ?_
        refine a_icmp_ge (pc := 68) (tgt := 91) dX7_undo_68 (by decide) (fun c10 => ?_) (fun c10 => ?_)
        · rw [if_pos c10] at hs
          obtain rfl := Option.some.inj hs
          obtain rfl := Option.some.inj hR
          refine a_mask [true, false, false] (L' := [some (.ref (gad X 47)), none, none]) rfl ?_
          exact E64  _ h
        · rw [if_neg c10] at hs
          refine a_aloadn (pc := 71) dX7_undo_71 rfl rfl ?_
          refine a_getA (pc := 72) flX7_7 sh_47 rfl dX7_undo_72 ?_
          refine a_iloadn (pc := 75) dX7_undo_75 rfl rfl ?_
          refine a_aloadn (pc := 76) dX7_undo_76 rfl rfl ?_
          refine a_getA (pc := 77) flX7_22 sh_47 rfl dX7_undo_77 ?_
          refine a_iloadn (pc := 80) dX7_undo_80 rfl rfl ?_
          refine a_iloadn (pc := 81) dX7_undo_81 rfl rfl ?_
          refine a_iadd (pc := 82) dX7_undo_82 ?_
          obtain ⟨hi11, hs⟩ := g_if hs
          refine a_iald (pc := 83) sh_52 hi11 dX7_undo_83 ?_
          obtain ⟨hi12, hs⟩ := g_if hs
          refine a_iast (pc := 84) sh_48 hi12 dX7_undo_84 ?_
          obtain ⟨S13, eS13, hs⟩ := g_let hs
          refine a_nmS eS13 ?_
          refine a_iinc (pc := 85) dX7_undo_85 rfl (v := x2 + (1 : Int32)) rfl (Nat.le_of_ble_eq_true rfl) rfl (L' := [some (.ref (gad X 47)), some (.int x1), some (.int (x2 + (1 : Int32)))]) rfl ?_
          refine a_goto (pc := 88) (tgt := 64) dX7_undo_88 (by decide) ?_
          obtain rfl := Option.some.inj hs
          exact ih _ _ _ hR
    exact lp _ _ _ _ hR14
  · rw [if_pos c1] at h
    refine a_bipush (pc := 7) (v := (-4 : Int32)) dX7_undo_7 (by decide) ?_
    obtain ⟨rfl, rfl⟩ := Prod.mk.inj (Option.some.inj h)
    exact a_iret hp dX7_undo_9
