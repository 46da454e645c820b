theorem dX7_isGone_0 : decode cX7_isGone 0 = .ok (.iconst 1, 1) := by decide +kernel
theorem dX7_isGone_1 : decode cX7_isGone 1 = .ok (.istore 4, 2) := by decide +kernel
theorem dX7_isGone_3 : decode cX7_isGone 3 = .ok (.iload_n 2, 1) := by decide +kernel
theorem dX7_isGone_4 : decode cX7_isGone 4 = .ok (.iconst 1, 1) := by decide +kernel
theorem dX7_isGone_5 : decode cX7_isGone 5 = .ok (.isub, 1) := by decide +kernel
theorem dX7_isGone_6 : decode cX7_isGone 6 = .ok (.istore 5, 2) := by decide +kernel
theorem dX7_isGone_8 : decode cX7_isGone 8 = .ok (.iload 5, 2) := by decide +kernel
theorem dX7_isGone_10 : decode cX7_isGone 10 = .ok (.ifCond .lt 66, 3) := by decide +kernel
theorem dX7_isGone_13 : decode cX7_isGone 13 = .ok (.iload 4, 2) := by decide +kernel
theorem dX7_isGone_15 : decode cX7_isGone 15 = .ok (.ifCond .eq 61, 3) := by decide +kernel
theorem dX7_isGone_18 : decode cX7_isGone 18 = .ok (.iload_n 3, 1) := by decide +kernel
theorem dX7_isGone_19 : decode cX7_isGone 19 = .ok (.iconst 2, 1) := by decide +kernel
theorem dX7_isGone_20 : decode cX7_isGone 20 = .ok (.iload 5, 2) := by decide +kernel
theorem dX7_isGone_22 : decode cX7_isGone 22 = .ok (.imul, 1) := by decide +kernel
theorem dX7_isGone_23 : decode cX7_isGone 23 = .ok (.ishr, 1) := by decide +kernel
theorem dX7_isGone_24 : decode cX7_isGone 24 = .ok (.iconst 3, 1) := by decide +kernel
theorem dX7_isGone_25 : decode cX7_isGone 25 = .ok (.iand, 1) := by decide +kernel
theorem dX7_isGone_26 : decode cX7_isGone 26 = .ok (.istore 6, 2) := by decide +kernel
theorem dX7_isGone_28 : decode cX7_isGone 28 = .ok (.aload_n 0, 1) := by decide +kernel
theorem dX7_isGone_29 : decode cX7_isGone 29 = .ok (.getfield 7, 3) := by decide +kernel
theorem dX7_isGone_32 : decode cX7_isGone 32 = .ok (.bipush 8, 2) := by decide +kernel
theorem dX7_isGone_34 : decode cX7_isGone 34 = .ok (.iconst 4, 1) := by decide +kernel
theorem dX7_isGone_35 : decode cX7_isGone 35 = .ok (.iload_n 1, 1) := by decide +kernel
theorem dX7_isGone_36 : decode cX7_isGone 36 = .ok (.imul, 1) := by decide +kernel
theorem dX7_isGone_37 : decode cX7_isGone 37 = .ok (.iadd, 1) := by decide +kernel
theorem dX7_isGone_38 : decode cX7_isGone 38 = .ok (.iconst 2, 1) := by decide +kernel
theorem dX7_isGone_39 : decode cX7_isGone 39 = .ok (.iadd, 1) := by decide +kernel
theorem dX7_isGone_40 : decode cX7_isGone 40 = .ok (.iaload, 1) := by decide +kernel
theorem dX7_isGone_41 : decode cX7_isGone 41 = .ok (.iload 6, 2) := by decide +kernel
theorem dX7_isGone_43 : decode cX7_isGone 43 = .ok (.invokestatic 146, 3) := by decide +kernel
theorem dX7_isGone_46 : decode cX7_isGone 46 = .ok (.bipush (-4), 2) := by decide +kernel
theorem dX7_isGone_48 : decode cX7_isGone 48 = .ok (.if_icmp .eq 7, 3) := by decide +kernel
theorem dX7_isGone_51 : decode cX7_isGone 51 = .ok (.iconst 1, 1) := by decide +kernel
theorem dX7_isGone_52 : decode cX7_isGone 52 = .ok (.goto 4, 3) := by decide +kernel
theorem dX7_isGone_55 : decode cX7_isGone 55 = .ok (.iconst 0, 1) := by decide +kernel
theorem dX7_isGone_56 : decode cX7_isGone 56 = .ok (.istore 4, 2) := by decide +kernel
theorem dX7_isGone_58 : decode cX7_isGone 58 = .ok (.iload 4, 2) := by decide +kernel
theorem dX7_isGone_60 : decode cX7_isGone 60 = .ok (.ifCond .eq 10, 3) := by decide +kernel
theorem dX7_isGone_63 : decode cX7_isGone 63 = .ok (.aload_n 0, 1) := by decide +kernel
theorem dX7_isGone_64 : decode cX7_isGone 64 = .ok (.iload_n 1, 1) := by decide +kernel
theorem dX7_isGone_65 : decode cX7_isGone 65 = .ok (.iload 6, 2) := by decide +kernel
theorem dX7_isGone_67 : decode cX7_isGone 67 = .ok (.invokevirtual 156, 3) := by decide +kernel
theorem dX7_isGone_70 : decode cX7_isGone 70 = .ok (.iinc 5 (-1), 3) := by decide +kernel
theorem dX7_isGone_73 : decode cX7_isGone 73 = .ok (.goto (-65), 3) := by decide +kernel
theorem dX7_isGone_76 : decode cX7_isGone 76 = .ok (.iload 4, 2) := by decide +kernel
theorem dX7_isGone_78 : decode cX7_isGone 78 = .ok (.ireturn, 1) := by decide +kernel
def f_X7_isGone_j56 (x1 : Int32) (x3 : Int32) (x5 : Int32) (x6 : Int32) (t0 : Int32) (S : gSt) : Option ((Int32 × Int32 × Int32 × Int32 × gSt) ⊕ (Int32 × gSt)) :=
(if t0 = 0 then
some (.inl (x1, x3, t0, x5 + (-1 : Int32), S))
else
(f_X7_steps x1 x6 S).bind fun S3 =>
some (.inl (x1, x3, t0, x5 + (-1 : Int32), S3)))
def f_X7_isGone_s8_b (x1 : Int32) (x3 : Int32) (x4 : Int32) (x5 : Int32) (S : gSt) : Option ((Int32 × Int32 × Int32 × Int32 × gSt) ⊕ (Int32 × gSt)) :=
(if x5 < 0 then
some (.inr (x4, S))
else
(if x4 = 0 then
some (.inr (x4, S))
else
gLet ((x3 >>> (((2 : Int32) * x5) &&& 31)) &&& (3 : Int32)) fun v7 =>
if gin (((8 : Int32) + ((4 : Int32) * x1)) + (2 : Int32)) 416 then
(gBind2 (f_X7_beside (S.1 48 (((8 : Int32) + ((4 : Int32) * x1)) + (2 : Int32)).toNatClampNeg) v7 S) fun r11 S9 =>
(if r11 = (-4 : Int32) then
f_X7_isGone_j56 x1 x3 x5 v7 (0 : Int32) S9
else
f_X7_isGone_j56 x1 x3 x5 v7 (1 : Int32) S9)) else none))
def f_X7_isGone_s8 : (Int32 × Int32 × Int32 × Int32 × gSt) → Option ((Int32 × Int32 × Int32 × Int32 × gSt) ⊕ (Int32 × gSt)) := fun t => f_X7_isGone_s8_b t.1 t.2.1 t.2.2.1 t.2.2.2.1 t.2.2.2.2
def f_X7_isGone (p1 : Int32) (p2 : Int32) (p3 : Int32) (S : gSt) : Option (Int32 × gSt) :=
gLet (p2 - (1 : Int32)) fun v1 =>
(gLoop (f_X7_isGone_s8) gFuel (p1, p3, (1 : Int32), v1, S)).bind fun q13 => match q13 with
| (y4_13, S13) =>
if gbool y4_13 then
some (y4_13, S13) else none
set_option maxHeartbeats 4000000 in
set_option maxRecDepth 20000 in
theorem ok_X7_isGone {p1 : Int32} {p2 : Int32} {p3 : Int32} {S S0 : gSt} {r0 : Int32}  (h : f_X7_isGone p1 p2 p3 S = some (r0, S0)) : gCT yX7_isGone cX7_isGone 7 (some .boolean) 4 (fun w => [.ref (w.2.1 47), .int p1, .int p2, .int p3]) S (some (.int r0)) S0 := by
  refine gEnter (fun X => [some (.ref (gad X 47)), some (.int p1), some (.int p2), some (.int p3), none, none, none]) (by decide) (fun X => ⟨rfl, rfl⟩) (fun w => Nat.le_of_ble_eq_true rfl) (fun X hp => ?_)
  show AW X RX7 4 cX7_isGone 0 [some (.ref (gad X 47)), some (.int p1), some (.int p2), some (.int p3), none, none, none] [] S
  unfold f_X7_isGone at h
  refine a_iconst (pc := 0) (v := (1 : Int32)) dX7_isGone_0 (by decide) ?_
  refine a_istore (pc := 1) dX7_isGone_1 (Nat.le_of_ble_eq_true rfl) rfl (L' := [some (.ref (gad X 47)), some (.int p1), some (.int p2), some (.int p3), some (.int (1 : Int32)), none, none]) rfl ?_
  refine a_iloadn (pc := 3) dX7_isGone_3 rfl rfl ?_
  refine a_iconst (pc := 4) (v := (1 : Int32)) dX7_isGone_4 (by decide) ?_
  refine a_isub (pc := 5) dX7_isGone_5 ?_
  obtain ⟨v1, ev1, h⟩ := g_let h
  refine a_nmI ev1 ?_
  refine a_istore (pc := 6) dX7_isGone_6 (Nat.le_of_ble_eq_true rfl) rfl (L' := [some (.ref (gad X 47)), some (.int p1), some (.int p2), some (.int p3), some (.int (1 : Int32)), some (.int v1), none]) rfl ?_
  obtain ⟨R13, hR13, h⟩ := g_bind h
  refine a_mask [true, true, false, true, true, true, true] (L' := [some (.ref (gad X 47)), some (.int p1), none, some (.int p3), some (.int (1 : Int32)), some (.int v1), none]) rfl ?_
  have E8 : ∀ (y4_13 : Int32) (S13 : gSt), (if gbool y4_13 then some (y4_13, S13) else none) = some (r0, S0) → AW X RX7 4 cX7_isGone 76 [none, none, none, none, some (.int y4_13), none, none] [] S13 := by
    intro y4_13 S13 h
    refine a_iload (pc := 76) dX7_isGone_76 rfl ?_
    obtain ⟨hb14, h⟩ := g_if h
    obtain ⟨rfl, rfl⟩ := Prod.mk.inj (Option.some.inj h)
    exact a_zret hp hb14  dX7_isGone_78
  have lp : ∀ (n : Nat) (x1 : Int32) (x3 : Int32) (x4 : Int32) (x5 : Int32) (S : gSt), gLoop (f_X7_isGone_s8) n (x1, x3, x4, x5, S) = some R13 → AW X RX7 4 cX7_isGone 8 [some (.ref (gad X 47)), some (.int x1), none, some (.int x3), some (.int x4), some (.int x5), none] [] S := by
    intro n
    induction n with
    | zero => intro x1 x3 x4 x5 S hR; cases hR
    | succ n ih =>
      intro x1 x3 x4 x5 S hR
      obtain ⟨q, hs, hR⟩ := g_bind hR
      have hs : f_X7_isGone_s8_b x1 x3 x4 x5 S = some q := hs
      unfold f_X7_isGone_s8_b at hs
      have J56 : ∀ (x1 : Int32) (x3 : Int32) (x5 : Int32) (x6 : Int32) (t0 : Int32) (S : gSt), f_X7_isGone_j56 x1 x3 x5 x6 t0 S = some q → AW X RX7 4 cX7_isGone 56 [some (.ref (gad X 47)), some (.int x1), none, some (.int x3), none, some (.int x5), some (.int x6)] [.int t0] S := by
        intro x1 x3 x5 x6 t0 S hs
        unfold f_X7_isGone_j56 at hs
        refine a_istore (pc := 56) dX7_isGone_56 (Nat.le_of_ble_eq_true rfl) rfl (L' := [some (.ref (gad X 47)), some (.int x1), none, some (.int x3), some (.int t0), some (.int x5), some (.int x6)]) rfl ?_
        refine a_iload (pc := 58) dX7_isGone_58 rfl ?_
        refine a_if_eq (pc := 60) (tgt := 70) dX7_isGone_60 (by decide) (fun c2 => ?_) (fun c2 => ?_)
        · rw [if_pos c2] at hs
          refine a_iinc (pc := 70) dX7_isGone_70 rfl (v := x5 + (-1 : Int32)) rfl (Nat.le_of_ble_eq_true rfl) rfl (L' := [some (.ref (gad X 47)), some (.int x1), none, some (.int x3), some (.int t0), some (.int (x5 + (-1 : Int32))), some (.int x6)]) rfl ?_
          refine a_goto (pc := 73) (tgt := 8) dX7_isGone_73 (by decide) ?_
          obtain rfl := Option.some.inj hs
          refine a_mask [true, true, true, true, true, true, false] (L' := [some (.ref (gad X 47)), some (.int x1), none, some (.int x3), some (.int t0), some (.int (x5 + (-1 : Int32))), none]) rfl ?_
          exact ih _ _ _ _ _ hR
        · rw [if_neg c2] at hs
          refine a_aloadn (pc := 63) dX7_isGone_63 rfl rfl ?_
          refine a_iloadn (pc := 64) dX7_isGone_64 rfl rfl ?_
          refine a_iload (pc := 65) dX7_isGone_65 rfl ?_
          obtain ⟨S3, hc4, hs⟩ := g_bind hs
          refine a_invVv (pc := 67) (ok_X7_steps hc4) gyX7_steps vyX7_steps mlX7_156 sh_47 rfl (As := [.int x1, .int x6]) rfl rfl (by decide) (st := []) rfl (Nat.le_of_ble_eq_true rfl) dX7_isGone_67 ?_
          refine a_iinc (pc := 70) dX7_isGone_70 rfl (v := x5 + (-1 : Int32)) rfl (Nat.le_of_ble_eq_true rfl) rfl (L' := [some (.ref (gad X 47)), some (.int x1), none, some (.int x3), some (.int t0), some (.int (x5 + (-1 : Int32))), some (.int x6)]) rfl ?_
          refine a_goto (pc := 73) (tgt := 8) dX7_isGone_73 (by decide) ?_
          obtain rfl := Option.some.inj hs
          refine a_mask [true, true, true, true, true, true, false] (L' := [some (.ref (gad X 47)), some (.int x1), none, some (.int x3), some (.int t0), some (.int (x5 + (-1 : Int32))), none]) rfl ?_
          exact ih _ _ _ _ _ hR
      refine a_iload (pc := 8) dX7_isGone_8 rfl ?_
      refine a_if_lt (pc := 10) (tgt := 76) dX7_isGone_10 (by decide) (fun c5 => ?_) (fun c5 => ?_)
      · rw [if_pos c5] at hs
        obtain rfl := Option.some.inj hs
        obtain rfl := Option.some.inj hR
        refine a_mask [false, false, true, false, true, false, true] (L' := [none, none, none, none, some (.int x4), none, none]) rfl ?_
        exact E8 _ _ h
      · rw [if_neg c5] at hs
        refine a_iload (pc := 13) dX7_isGone_13 rfl ?_
        refine a_if_eq (pc := 15) (tgt := 76) dX7_isGone_15 (by decide) (fun c6 => ?_) (fun c6 => ?_)
        · rw [if_pos c6] at hs
          obtain rfl := Option.some.inj hs
          obtain rfl := Option.some.inj hR
          refine a_mask [false, false, true, false, true, false, true] (L' := [none, none, none, none, some (.int x4), none, none]) rfl ?_
          exact E8 _ _ h
        · rw [if_neg c6] at hs
          refine a_iloadn (pc := 18) dX7_isGone_18 rfl rfl ?_
          refine a_iconst (pc := 19) (v := (2 : Int32)) dX7_isGone_19 (by decide) ?_
          refine a_iload (pc := 20) dX7_isGone_20 rfl ?_
          refine a_imul (pc := 22) dX7_isGone_22 ?_
          refine a_ishr (pc := 23) dX7_isGone_23 ?_
          refine a_iconst (pc := 24) (v := (3 : Int32)) dX7_isGone_24 (by decide) ?_
          refine a_iand (pc := 25) dX7_isGone_25 ?_
          obtain ⟨v7, ev7, hs⟩ := g_let hs
          refine a_nmI ev7 ?_
          refine a_istore (pc := 26) dX7_isGone_26 (Nat.le_of_ble_eq_true rfl) rfl (L' := [some (.ref (gad X 47)), some (.int x1), none, some (.int x3), some (.int x4), some (.int x5), some (.int v7)]) rfl ?_
          refine a_aloadn (pc := 28) dX7_isGone_28 rfl rfl ?_
          refine a_getA (pc := 29) flX7_7 sh_47 rfl dX7_isGone_29 ?_
          refine a_bipush (pc := 32) (v := (8 : Int32)) dX7_isGone_32 (by decide) ?_
          refine a_iconst (pc := 34) (v := (4 : Int32)) dX7_isGone_34 (by decide) ?_
          refine a_iloadn (pc := 35) dX7_isGone_35 rfl rfl ?_
          refine a_imul (pc := 36) dX7_isGone_36 ?_
          refine a_iadd (pc := 37) dX7_isGone_37 ?_
          refine a_iconst (pc := 38) (v := (2 : Int32)) dX7_isGone_38 (by decide) ?_
          refine a_iadd (pc := 39) dX7_isGone_39 ?_
          obtain ⟨hi8, hs⟩ := g_if hs
          refine a_iald (pc := 40) sh_48 hi8 dX7_isGone_40 ?_
          refine a_iload (pc := 41) dX7_isGone_41 rfl ?_
          obtain ⟨r11, S9, hc10, hs⟩ := g_bind2 hs
          refine a_invSi (pc := 43) (ok_X7_beside hc10) gyX7_beside syX7_beside mlX7_146 (As := [.int (S.1 48 (((8 : Int32) + ((4 : Int32) * x1)) + (2 : Int32)).toNatClampNeg), .int v7]) rfl rfl (by decide) (st := []) rfl (Nat.le_of_ble_eq_true rfl) dX7_isGone_43 ?_
          refine a_bipush (pc := 46) (v := (-4 : Int32)) dX7_isGone_46 (by decide) ?_
          refine a_icmp_eq (pc := 48) (tgt := 55) dX7_isGone_48 (by decide) (fun c12 => ?_) (fun c12 => ?_)
          · rw [if_pos c12] at hs
            refine a_iconst (pc := 55) (v := (0 : Int32)) dX7_isGone_55 (by decide) ?_
            refine a_mask [true, true, true, true, false, true, true] (L' := [some (.ref (gad X 47)), some (.int x1), none, some (.int x3), none, some (.int x5), some (.int v7)]) rfl ?_
            exact J56 _ _ _ _ _ _ hs
          · rw [if_neg c12] at hs
            refine a_iconst (pc := 51) (v := (1 : Int32)) dX7_isGone_51 (by decide) ?_
            refine a_goto (pc := 52) (tgt := 56) dX7_isGone_52 (by decide) ?_
            refine a_mask [true, true, true, true, false, true, true] (L' := [some (.ref (gad X 47)), some (.int x1), none, some (.int x3), none, some (.int x5), some (.int v7)]) rfl ?_
            exact J56 _ _ _ _ _ _ hs
  exact lp _ _ _ _ _ _ hR13
theorem dX7_walk_0 : decode cX7_walk 0 = .ok (.aload_n 0, 1) := by decide +kernel
theorem dX7_walk_1 : decode cX7_walk 1 = .ok (.iload_n 1, 1) := by decide +kernel
theorem dX7_walk_2 : decode cX7_walk 2 = .ok (.invokevirtual 82, 3) := by decide +kernel
theorem dX7_walk_5 : decode cX7_walk 5 = .ok (.ifCond .eq 33, 3) := by decide +kernel
theorem dX7_walk_8 : decode cX7_walk 8 = .ok (.iload_n 2, 1) := by decide +kernel
theorem dX7_walk_9 : decode cX7_walk 9 = .ok (.i2l, 1) := by decide +kernel
theorem dX7_walk_10 : decode cX7_walk 10 = .ok (.lconst 0, 1) := by decide +kernel
theorem dX7_walk_11 : decode cX7_walk 11 = .ok (.ldc2_w 61, 3) := by decide +kernel
theorem dX7_walk_14 : decode cX7_walk 14 = .ok (.invokestatic 51, 3) := by decide +kernel
theorem dX7_walk_17 : decode cX7_walk 17 = .ok (.ifCond .eq 21, 3) := by decide +kernel
theorem dX7_walk_20 : decode cX7_walk 20 = .ok (.iload_n 3, 1) := by decide +kernel
theorem dX7_walk_21 : decode cX7_walk 21 = .ok (.i2l, 1) := by decide +kernel
theorem dX7_walk_22 : decode cX7_walk 22 = .ok (.lconst 0, 1) := by decide +kernel
theorem dX7_walk_23 : decode cX7_walk 23 = .ok (.ldc2_w 102, 3) := by decide +kernel
theorem dX7_walk_26 : decode cX7_walk 26 = .ok (.invokestatic 51, 3) := by decide +kernel
theorem dX7_walk_29 : decode cX7_walk 29 = .ok (.ifCond .eq 9, 3) := by decide +kernel
theorem dX7_walk_32 : decode cX7_walk 32 = .ok (.iload 4, 2) := by decide +kernel
theorem dX7_walk_34 : decode cX7_walk 34 = .ok (.iconst (-1), 1) := by decide +kernel
theorem dX7_walk_35 : decode cX7_walk 35 = .ok (.if_icmp .ge 5, 3) := by decide +kernel
theorem dX7_walk_38 : decode cX7_walk 38 = .ok (.iconst (-1), 1) := by decide +kernel
theorem dX7_walk_39 : decode cX7_walk 39 = .ok (.ireturn, 1) := by decide +kernel
theorem dX7_walk_40 : decode cX7_walk 40 = .ok (.aload_n 0, 1) := by decide +kernel
theorem dX7_walk_41 : decode cX7_walk 41 = .ok (.invokevirtual 176, 3) := by decide +kernel
theorem dX7_walk_44 : decode cX7_walk 44 = .ok (.iconst 0, 1) := by decide +kernel
theorem dX7_walk_45 : decode cX7_walk 45 = .ok (.istore 5, 2) := by decide +kernel
theorem dX7_walk_47 : decode cX7_walk 47 = .ok (.iconst (-1), 1) := by decide +kernel
theorem dX7_walk_48 : decode cX7_walk 48 = .ok (.istore 6, 2) := by decide +kernel
theorem dX7_walk_50 : decode cX7_walk 50 = .ok (.iconst 0, 1) := by decide +kernel
theorem dX7_walk_51 : decode cX7_walk 51 = .ok (.istore 7, 2) := by decide +kernel
theorem dX7_walk_53 : decode cX7_walk 53 = .ok (.iload 7, 2) := by decide +kernel
theorem dX7_walk_55 : decode cX7_walk 55 = .ok (.iconst 1, 1) := by decide +kernel
theorem dX7_walk_56 : decode cX7_walk 56 = .ok (.iconst 2, 1) := by decide +kernel
theorem dX7_walk_57 : decode cX7_walk 57 = .ok (.iload_n 2, 1) := by decide +kernel
theorem dX7_walk_58 : decode cX7_walk 58 = .ok (.imul, 1) := by decide +kernel
theorem dX7_walk_59 : decode cX7_walk 59 = .ok (.ishl, 1) := by decide +kernel
theorem dX7_walk_60 : decode cX7_walk 60 = .ok (.if_icmp .ge 68, 3) := by decide +kernel
theorem dX7_walk_63 : decode cX7_walk 63 = .ok (.aload_n 0, 1) := by decide +kernel
theorem dX7_walk_64 : decode cX7_walk 64 = .ok (.iload_n 1, 1) := by decide +kernel
theorem dX7_walk_65 : decode cX7_walk 65 = .ok (.iload_n 2, 1) := by decide +kernel
theorem dX7_walk_66 : decode cX7_walk 66 = .ok (.iload 7, 2) := by decide +kernel
theorem dX7_walk_68 : decode cX7_walk 68 = .ok (.invokevirtual 188, 3) := by decide +kernel
theorem dX7_walk_71 : decode cX7_walk 71 = .ok (.ifCond .eq 47, 3) := by decide +kernel
theorem dX7_walk_74 : decode cX7_walk 74 = .ok (.aload_n 0, 1) := by decide +kernel
theorem dX7_walk_75 : decode cX7_walk 75 = .ok (.iload_n 3, 1) := by decide +kernel
theorem dX7_walk_76 : decode cX7_walk 76 = .ok (.invokevirtual 179, 3) := by decide +kernel
theorem dX7_walk_79 : decode cX7_walk 79 = .ok (.aload_n 0, 1) := by decide +kernel
theorem dX7_walk_80 : decode cX7_walk 80 = .ok (.iload_n 1, 1) := by decide +kernel
theorem dX7_walk_81 : decode cX7_walk 81 = .ok (.invokevirtual 93, 3) := by decide +kernel
theorem dX7_walk_84 : decode cX7_walk 84 = .ok (.istore 8, 2) := by decide +kernel
theorem dX7_walk_86 : decode cX7_walk 86 = .ok (.iload 8, 2) := by decide +kernel
theorem dX7_walk_88 : decode cX7_walk 88 = .ok (.iload 6, 2) := by decide +kernel
theorem dX7_walk_90 : decode cX7_walk 90 = .ok (.if_icmp .le 8, 3) := by decide +kernel
theorem dX7_walk_93 : decode cX7_walk 93 = .ok (.iload 7, 2) := by decide +kernel
theorem dX7_walk_95 : decode cX7_walk 95 = .ok (.goto 5, 3) := by decide +kernel
theorem dX7_walk_98 : decode cX7_walk 98 = .ok (.iload 5, 2) := by decide +kernel
theorem dX7_walk_100 : decode cX7_walk 100 = .ok (.istore 5, 2) := by decide +kernel
theorem dX7_walk_102 : decode cX7_walk 102 = .ok (.iload 8, 2) := by decide +kernel
theorem dX7_walk_104 : decode cX7_walk 104 = .ok (.iload 6, 2) := by decide +kernel
theorem dX7_walk_106 : decode cX7_walk 106 = .ok (.if_icmp .le 8, 3) := by decide +kernel
theorem dX7_walk_109 : decode cX7_walk 109 = .ok (.iload 8, 2) := by decide +kernel
theorem dX7_walk_111 : decode cX7_walk 111 = .ok (.goto 5, 3) := by decide +kernel
theorem dX7_walk_114 : decode cX7_walk 114 = .ok (.iload 6, 2) := by decide +kernel
theorem dX7_walk_116 : decode cX7_walk 116 = .ok (.istore 6, 2) := by decide +kernel
theorem dX7_walk_118 : decode cX7_walk 118 = .ok (.aload_n 0, 1) := by decide +kernel
theorem dX7_walk_119 : decode cX7_walk 119 = .ok (.invokevirtual 182, 3) := by decide +kernel
theorem dX7_walk_122 : decode cX7_walk 122 = .ok (.iinc 7 1, 3) := by decide +kernel
theorem dX7_walk_125 : decode cX7_walk 125 = .ok (.goto (-72), 3) := by decide +kernel
theorem dX7_walk_128 : decode cX7_walk 128 = .ok (.iload 4, 2) := by decide +kernel
theorem dX7_walk_130 : decode cX7_walk 130 = .ok (.ifCond .ge 8, 3) := by decide +kernel
theorem dX7_walk_133 : decode cX7_walk 133 = .ok (.iload 6, 2) := by decide +kernel
theorem dX7_walk_135 : decode cX7_walk 135 = .ok (.goto 27, 3) := by decide +kernel
theorem dX7_walk_138 : decode cX7_walk 138 = .ok (.iload 4, 2) := by decide +kernel
theorem dX7_walk_140 : decode cX7_walk 140 = .ok (.iload_n 2, 1) := by decide +kernel
theorem dX7_walk_141 : decode cX7_walk 141 = .ok (.if_icmp .lt 8, 3) := by decide +kernel
theorem dX7_walk_144 : decode cX7_walk 144 = .ok (.bipush (-4), 2) := by decide +kernel
theorem dX7_walk_146 : decode cX7_walk 146 = .ok (.goto 16, 3) := by decide +kernel
theorem dX7_walk_149 : decode cX7_walk 149 = .ok (.iload 5, 2) := by decide +kernel
theorem dX7_walk_151 : decode cX7_walk 151 = .ok (.iconst 2, 1) := by decide +kernel
theorem dX7_walk_152 : decode cX7_walk 152 = .ok (.iload_n 2, 1) := by decide +kernel
theorem dX7_walk_153 : decode cX7_walk 153 = .ok (.iconst 1, 1) := by decide +kernel
theorem dX7_walk_154 : decode cX7_walk 154 = .ok (.isub, 1) := by decide +kernel
theorem dX7_walk_155 : decode cX7_walk 155 = .ok (.iload 4, 2) := by decide +kernel
theorem dX7_walk_157 : decode cX7_walk 157 = .ok (.isub, 1) := by decide +kernel
theorem dX7_walk_158 : decode cX7_walk 158 = .ok (.imul, 1) := by decide +kernel
theorem dX7_walk_159 : decode cX7_walk 159 = .ok (.ishr, 1) := by decide +kernel
theorem dX7_walk_160 : decode cX7_walk 160 = .ok (.iconst 3, 1) := by decide +kernel
theorem dX7_walk_161 : decode cX7_walk 161 = .ok (.iand, 1) := by decide +kernel
theorem dX7_walk_162 : decode cX7_walk 162 = .ok (.ireturn, 1) := by decide +kernel
def f_X7_walk_j100 (x1 : Int32) (x2 : Int32) (x3 : Int32) (x4 : Int32) (x6 : Int32) (x7 : Int32) (x8 : Int32) (t0 : Int32) (S : gSt) : Option ((Int32 × Int32 × Int32 × Int32 × Int32 × Int32 × Int32 × gSt) ⊕ (Int32 × Int32 × Int32 × Int32 × gSt)) :=
(if x8 ≤ x6 then
(f_X7_backs S).bind fun S17 =>
some (.inl (x1, x2, x3, x4, t0, x6, x7 + (1 : Int32), S17))
else
(f_X7_backs S).bind fun S19 =>
some (.inl (x1, x2, x3, x4, t0, x8, x7 + (1 : Int32), S19)))
def f_X7_walk_s53_b (x1 : Int32) (x2 : Int32) (x3 : Int32) (x4 : Int32) (x5 : Int32) (x6 : Int32) (x7 : Int32) (S : gSt) : Option ((Int32 × Int32 × Int32 × Int32 × Int32 × Int32 × Int32 × gSt) ⊕ (Int32 × Int32 × Int32 × Int32 × gSt)) :=
(if ((1 : Int32) <<< (((2 : Int32) * x2) &&& 31)) ≤ x7 then
some (.inr (x2, x4, x5, x6, S))
else
gBind2 (f_X7_isGone x1 x2 x7 S) fun r24 S22 =>
(if r24 = 0 then
(f_X7_backs S22).bind fun S26 =>
some (.inl (x1, x2, x3, x4, x5, x6, x7 + (1 : Int32), S26))
else
(f_X7_goesOn x3 S22).bind fun S28 =>
gBind2 (f_X7_landOf x1 S28) fun r32 S30 =>
(if r32 ≤ x6 then
f_X7_walk_j100 x1 x2 x3 x4 x6 x7 r32 x5 S30
else
f_X7_walk_j100 x1 x2 x3 x4 x6 x7 r32 x7 S30)))
def f_X7_walk_s53 : (Int32 × Int32 × Int32 × Int32 × Int32 × Int32 × Int32 × gSt) → Option ((Int32 × Int32 × Int32 × Int32 × Int32 × Int32 × Int32 × gSt) ⊕ (Int32 × Int32 × Int32 × Int32 × gSt)) := fun t => f_X7_walk_s53_b t.1 t.2.1 t.2.2.1 t.2.2.2.1 t.2.2.2.2.1 t.2.2.2.2.2.1 t.2.2.2.2.2.2.1 t.2.2.2.2.2.2.2
def f_X7_walk (p1 : Int32) (p2 : Int32) (p3 : Int32) (p4 : Int32) (S : gSt) : Option (Int32 × gSt) :=
gBind2 (f_X7_isWalker p1 S) fun r3 S1 =>
(if r3 = 0 then
some ((-1 : Int32), S1)
else
gBind2 (f_X7_in (p2.toInt64) (0 : Int64) (4 : Int64) S1) fun r7 S5 =>
(if r7 = 0 then
some ((-1 : Int32), S5)
else
gBind2 (f_X7_in (p3.toInt64) (0 : Int64) (12 : Int64) S5) fun r11 S9 =>
(if r11 = 0 then
some ((-1 : Int32), S9)
else
(if (-1 : Int32) ≤ p4 then
(f_X7_asides S9).bind fun S14 =>
(gLoop (f_X7_walk_s53) gFuel (p1, p2, p3, p4, (0 : Int32), (-1 : Int32), (0 : Int32), S14)).bind fun q34 => match q34 with
| (y2_34, y4_34, y5_34, y6_34, S34) =>
(if 0 ≤ y4_34 then
(if y4_34 < y2_34 then
some ((y5_34 >>> (((2 : Int32) * ((y2_34 - (1 : Int32)) - y4_34)) &&& 31)) &&& (3 : Int32), S34)
else
some ((-4 : Int32), S34))
else
some (y6_34, S34))
else
some ((-1 : Int32), S9)))))
set_option maxHeartbeats 4000000 in
set_option maxRecDepth 20000 in
theorem ok_X7_walk {p1 : Int32} {p2 : Int32} {p3 : Int32} {p4 : Int32} {S S0 : gSt} {r0 : Int32}  (h : f_X7_walk p1 p2 p3 p4 S = some (r0, S0)) : gCT yX7_walk cX7_walk 9 (some .int) 5 (fun w => [.ref (w.2.1 47), .int p1, .int p2, .int p3, .int p4]) S (some (.int r0)) S0 := by
  refine gEnter (fun X => [some (.ref (gad X 47)), some (.int p1), some (.int p2), some (.int p3), some (.int p4), none, none, none, none]) (by decide) (fun X => ⟨rfl, rfl⟩) (fun w => Nat.le_of_ble_eq_true rfl) (fun X hp => ?_)
  show AW X RX7 5 cX7_walk 0 [some (.ref (gad X 47)), some (.int p1), some (.int p2), some (.int p3), some (.int p4), none, none, none, none] [] S
  unfold f_X7_walk at h
  refine a_aloadn (pc := 0) dX7_walk_0 rfl rfl ?_
  refine a_iloadn (pc := 1) dX7_walk_1 rfl rfl ?_
  obtain ⟨r3, S1, hc2, h⟩ := g_bind2 h
  refine a_invVi (pc := 2) (ok_X7_isWalker hc2) gyX7_isWalker vyX7_isWalker mlX7_82 sh_47 rfl (As := [.int p1]) rfl rfl (by decide) (st := []) rfl (Nat.le_of_ble_eq_true rfl) dX7_walk_2 ?_
  refine a_if_eq (pc := 5) (tgt := 38) dX7_walk_5 (by decide) (fun c4 => ?_) (fun c4 => ?_)
  · rw [if_pos c4] at h
    refine a_iconst (pc := 38) (v := (-1 : Int32)) dX7_walk_38 (by decide) ?_
    obtain ⟨rfl, rfl⟩ := Prod.mk.inj (Option.some.inj h)
    exact a_iret hp dX7_walk_39
  · rw [if_neg c4] at h
    refine a_iloadn (pc := 8) dX7_walk_8 rfl rfl ?_
    refine a_i2l (pc := 9) dX7_walk_9 ?_
    refine a_lconst (pc := 10) (v := (0 : Int64)) dX7_walk_10 (by decide) ?_
    refine a_ldc2 (pc := 11) kX7_61 dX7_walk_11 ?_
    obtain ⟨r7, S5, hc6, h⟩ := g_bind2 h
    refine a_invSi (pc := 14) (ok_X7_in hc6) gyX7_in syX7_in mlX7_51 (As := [.long (p2.toInt64), .long (0 : Int64), .long (4 : Int64)]) rfl rfl (by decide) (st := []) rfl (Nat.le_of_ble_eq_true rfl) dX7_walk_14 ?_
    refine a_if_eq (pc := 17) (tgt := 38) dX7_walk_17 (by decide) (fun c8 => ?_) (fun c8 => ?_)
    · rw [if_pos c8] at h
      refine a_iconst (pc := 38) (v := (-1 : Int32)) dX7_walk_38 (by decide) ?_
      obtain ⟨rfl, rfl⟩ := Prod.mk.inj (Option.some.inj h)
      exact a_iret hp dX7_walk_39
    · rw [if_neg c8] at h
      refine a_iloadn (pc := 20) dX7_walk_20 rfl rfl ?_
      refine a_i2l (pc := 21) dX7_walk_21 ?_
      refine a_lconst (pc := 22) (v := (0 : Int64)) dX7_walk_22 (by decide) ?_
      refine a_ldc2 (pc := 23) kX7_102 dX7_walk_23 ?_
      obtain ⟨r11, S9, hc10, h⟩ := g_bind2 h
      refine a_invSi (pc := 26) (ok_X7_in hc10) gyX7_in syX7_in mlX7_51 (As := [.long (p3.toInt64), .long (0 : Int64), .long (12 : Int64)]) rfl rfl (by decide) (st := []) rfl (Nat.le_of_ble_eq_true rfl) dX7_walk_26 ?_
      refine a_if_eq (pc := 29) (tgt := 38) dX7_walk_29 (by decide) (fun c12 => ?_) (fun c12 => ?_)
      · rw [if_pos c12] at h
        refine a_iconst (pc := 38) (v := (-1 : Int32)) dX7_walk_38 (by decide) ?_
        obtain ⟨rfl, rfl⟩ := Prod.mk.inj (Option.some.inj h)
        exact a_iret hp dX7_walk_39
      · rw [if_neg c12] at h
        refine a_iload (pc := 32) dX7_walk_32 rfl ?_
        refine a_iconst (pc := 34) (v := (-1 : Int32)) dX7_walk_34 (by decide) ?_
        refine a_icmp_ge (pc := 35) (tgt := 40) dX7_walk_35 (by decide) (fun c13 => ?_) (fun c13 => ?_)
        · rw [if_pos c13] at h
          refine a_aloadn (pc := 40) dX7_walk_40 rfl rfl ?_
          obtain ⟨S14, hc15, h⟩ := g_bind h
          refine a_invVv (pc := 41) (ok_X7_asides hc15) gyX7_asides vyX7_asides mlX7_176 sh_47 rfl (As := []) rfl rfl (by decide) (st := []) rfl (Nat.le_of_ble_eq_true rfl) dX7_walk_41 ?_
          refine a_iconst (pc := 44) (v := (0 : Int32)) dX7_walk_44 (by decide) ?_
          refine a_istore (pc := 45) dX7_walk_45 (Nat.le_of_ble_eq_true rfl) rfl (L' := [some (.ref (gad X 47)), some (.int p1), some (.int p2), some (.int p3), some (.int p4), some (.int (0 : Int32)), none, none, none]) rfl ?_
          refine a_iconst (pc := 47) (v := (-1 : Int32)) dX7_walk_47 (by decide) ?_
          refine a_istore (pc := 48) dX7_walk_48 (Nat.le_of_ble_eq_true rfl) rfl (L' := [some (.ref (gad X 47)), some (.int p1), some (.int p2), some (.int p3), some (.int p4), some (.int (0 : Int32)), some (.int (-1 : Int32)), none, none]) rfl ?_
          refine a_iconst (pc := 50) (v := (0 : Int32)) dX7_walk_50 (by decide) ?_
          refine a_istore (pc := 51) dX7_walk_51 (Nat.le_of_ble_eq_true rfl) rfl (L' := [some (.ref (gad X 47)), some (.int p1), some (.int p2), some (.int p3), some (.int p4), some (.int (0 : Int32)), some (.int (-1 : Int32)), some (.int (0 : Int32)), none]) rfl ?_
          obtain ⟨R34, hR34, h⟩ := g_bind h
          have E53 : ∀ (y2_34 : Int32) (y4_34 : Int32) (y5_34 : Int32) (y6_34 : Int32) (S34 : gSt), ((if 0 ≤ y4_34 then (if y4_34 < y2_34 then some ((y5_34 >>> (((2 : Int32) * ((y2_34 - (1 : Int32)) - y4_34)) &&& 31)) &&& (3 : Int32), S34) else some ((-4 : Int32), S34)) else some (y6_34, S34))) = some (r0, S0) → AW X RX7 5 cX7_walk 128 [none, none, some (.int y2_34), none, some (.int y4_34), some (.int y5_34), some (.int y6_34), none, none] [] S34 := by
            intro y2_34 y4_34 y5_34 y6_34 S34 h
            refine a_iload (pc := 128) dX7_walk_128 rfl ?_
            refine a_if_ge (pc := 130) (tgt := 138) dX7_walk_130 (by decide) (fun c35 => ?_) (fun c35 => ?_)
            · rw [if_pos c35] at h
              refine a_iload (pc := 138) dX7_walk_138 rfl ?_
              refine a_iloadn (pc := 140) dX7_walk_140 rfl rfl ?_
              refine a_icmp_lt (pc := 141) (tgt := 149) dX7_walk_141 (by decide) (fun c36 => ?_) (fun c36 => ?_)
              · rw [if_pos c36] at h
                refine a_iload (pc := 149) dX7_walk_149 rfl ?_
                refine a_iconst (pc := 151) (v := (2 : Int32)) dX7_walk_151 (by decide) ?_
                refine a_iloadn (pc := 152) dX7_walk_152 rfl rfl ?_
                refine a_iconst (pc := 153) (v := (1 : Int32)) dX7_walk_153 (by decide) ?_
                refine a_isub (pc := 154) dX7_walk_154 ?_
                refine a_iload (pc := 155) dX7_walk_155 rfl ?_
                refine a_isub (pc := 157) dX7_walk_157 ?_
                refine a_imul (pc := 158) dX7_walk_158 ?_
                refine a_ishr (pc := 159) dX7_walk_159 ?_
                refine a_iconst (pc := 160) (v := (3 : Int32)) dX7_walk_160 (by decide) ?_
                refine a_iand (pc := 161) dX7_walk_161 ?_
                obtain ⟨rfl, rfl⟩ := Prod.mk.inj (Option.some.inj h)
                exact a_iret hp dX7_walk_162
              · rw [if_neg c36] at h
                refine a_bipush (pc := 144) (v := (-4 : Int32)) dX7_walk_144 (by decide) ?_
                refine a_goto (pc := 146) (tgt := 162) dX7_walk_146 (by decide) ?_
                obtain ⟨rfl, rfl⟩ := Prod.mk.inj (Option.some.inj h)
                exact a_iret hp dX7_walk_162
            · rw [if_neg c35] at h
              refine a_iload (pc := 133) dX7_walk_133 rfl ?_
              refine a_goto (pc := 135) (tgt := 162) dX7_walk_135 (by decide) ?_
              obtain ⟨rfl, rfl⟩ := Prod.mk.inj (Option.some.inj h)
              exact a_iret hp dX7_walk_162
          have lp : ∀ (n : Nat) (x1 : Int32) (x2 : Int32) (x3 : Int32) (x4 : Int32) (x5 : Int32) (x6 : Int32) (x7 : Int32) (S : gSt), gLoop (f_X7_walk_s53) n (x1, x2, x3, x4, x5, x6, x7, S) = some R34 → AW X RX7 5 cX7_walk 53 [some (.ref (gad X 47)), some (.int x1), some (.int x2), some (.int x3), some (.int x4), some (.int x5), some (.int x6), some (.int x7), none] [] S := by
            intro n
            induction n with
            | zero => intro x1 x2 x3 x4 x5 x6 x7 S hR; cases hR
            | succ n ih =>
              intro x1 x2 x3 x4 x5 x6 x7 S hR
              obtain ⟨q, hs, hR⟩ := g_bind hR
              have hs : f_X7_walk_s53_b x1 x2 x3 x4 x5 x6 x7 S = some q := hs
              unfold f_X7_walk_s53_b at hs
              have J100 : ∀ (x1 : Int32) (x2 : Int32) (x3 : Int32) (x4 : Int32) (x6 : Int32) (x7 : Int32) (x8 : Int32) (t0 : Int32) (S : gSt), f_X7_walk_j100 x1 x2 x3 x4 x6 x7 x8 t0 S = some q → AW X RX7 5 cX7_walk 100 [some (.ref (gad X 47)), some (.int x1), some (.int x2), some (.int x3), some (.int x4), none, some (.int x6), some (.int x7), some (.int x8)] [.int t0] S := by
                intro x1 x2 x3 x4 x6 x7 x8 t0 S hs
                unfold f_X7_walk_j100 at hs
                refine a_istore (pc := 100) dX7_walk_100 (Nat.le_of_ble_eq_true rfl) rfl (L' := [some (.ref (gad X 47)), some (.int x1), some (.int x2), some (.int x3), some (.int x4), some (.int t0), some (.int x6), some (.int x7), some (.int x8)]) rfl ?_
                refine a_iload (pc := 102) dX7_walk_102 rfl ?_
                refine a_iload (pc := 104) dX7_walk_104 rfl ?_
                refine a_icmp_le (pc := 106) (tgt := 114) dX7_walk_106 (by decide) (fun c16 => ?_) (fun c16 => ?_)
                · rw [if_pos c16] at hs
                  refine a_iload (pc := 114) dX7_walk_114 rfl ?_
                  refine a_istore (pc := 116) dX7_walk_116 (Nat.le_of_ble_eq_true rfl) rfl (L' := [some (.ref (gad X 47)), some (.int x1), some (.int x2), some (.int x3), some (.int x4), some (.int t0), some (.int x6), some (.int x7), some (.int x8)]) rfl ?_
                  refine a_aloadn (pc := 118) dX7_walk_118 rfl rfl ?_
                  obtain ⟨S17, hc18, hs⟩ := g_bind hs
                  refine a_invVv (pc := 119) (ok_X7_backs hc18) gyX7_backs vyX7_backs mlX7_182 sh_47 rfl (As := []) rfl rfl (by decide) (st := []) rfl (Nat.le_of_ble_eq_true rfl) dX7_walk_119 ?_
                  refine a_iinc (pc := 122) dX7_walk_122 rfl (v := x7 + (1 : Int32)) rfl (Nat.le_of_ble_eq_true rfl) rfl (L' := [some (.ref (gad X 47)), some (.int x1), some (.int x2), some (.int x3), some (.int x4), some (.int t0), some (.int x6), some (.int (x7 + (1 : Int32))), some (.int x8)]) rfl ?_
                  refine a_goto (pc := 125) (tgt := 53) dX7_walk_125 (by decide) ?_
                  obtain rfl := Option.some.inj hs
                  refine a_mask [true, true, true, true, true, true, true, true, false] (L' := [some (.ref (gad X 47)), some (.int x1), some (.int x2), some (.int x3), some (.int x4), some (.int t0), some (.int x6), some (.int (x7 + (1 : Int32))), none]) rfl ?_
                  exact ih _ _ _ _ _ _ _ _ hR
                · rw [if_neg c16] at hs
                  refine a_iload (pc := 109) dX7_walk_109 rfl ?_
                  refine a_goto (pc := 111) (tgt := 116) dX7_walk_111 (by decide) ?_
                  refine a_istore (pc := 116) dX7_walk_116 (Nat.le_of_ble_eq_true rfl) rfl (L' := [some (.ref (gad X 47)), some (.int x1), some (.int x2), some (.int x3), some (.int x4), some (.int t0), some (.int x8), some (.int x7), some (.int x8)]) rfl ?_
                  refine a_aloadn (pc := 118) dX7_walk_118 rfl rfl ?_
                  obtain ⟨S19, hc20, hs⟩ := g_bind hs
                  refine a_invVv (pc := 119) (ok_X7_backs hc20) gyX7_backs vyX7_backs mlX7_182 sh_47 rfl (As := []) rfl rfl (by decide) (st := []) rfl (Nat.le_of_ble_eq_true rfl) dX7_walk_119 ?_
                  refine a_iinc (pc := 122) dX7_walk_122 rfl (v := x7 + (1 : Int32)) rfl (Nat.le_of_ble_eq_true rfl) rfl (L' := [some (.ref (gad X 47)), some (.int x1), some (.int x2), some (.int x3), some (.int x4), some (.int t0), some (.int x8), some (.int (x7 + (1 : Int32))), some (.int x8)]) rfl ?_
                  refine a_goto (pc := 125) (tgt := 53) dX7_walk_125 (by decide) ?_
                  obtain rfl := Option.some.inj hs
                  refine a_mask [true, true, true, true, true, true, true, true, false] (L' := [some (.ref (gad X 47)), some (.int x1), some (.int x2), some (.int x3), some (.int x4), some (.int t0), some (.int x8), some (.int (x7 + (1 : Int32))), none]) rfl ?_
                  exact ih _ _ _ _ _ _ _ _ hR
              refine a_iload (pc := 53) dX7_walk_53 rfl ?_
              refine a_iconst (pc := 55) (v := (1 : Int32)) dX7_walk_55 (by decide) ?_
              refine a_iconst (pc := 56) (v := (2 : Int32)) dX7_walk_56 (by decide) ?_
              refine a_iloadn (pc := 57) dX7_walk_57 rfl rfl ?_
              refine a_imul (pc := 58) dX7_walk_58 ?_
              refine a_ishl (pc := 59) dX7_walk_59 ?_
              refine a_icmp_ge (pc := 60) (tgt := 128) dX7_walk_60 (by decide) (fun c21 => ?_) (fun c21 => ?_)
              · rw [if_pos c21] at hs
                obtain rfl := Option.some.inj hs
                obtain rfl := Option.some.inj hR
                refine a_mask [false, false, true, false, true, true, true, false, true] (L' := [none, none, some (.int x2), none, some (.int x4), some (.int x5), some (.int x6), none, none]) rfl ?_
                exact E53 _ _ _ _ _ h
              · rw [if_neg c21] at hs
                refine a_aloadn (pc := 63) dX7_walk_63 rfl rfl ?_
                refine a_iloadn (pc := 64) dX7_walk_64 rfl rfl ?_
                refine a_iloadn (pc := 65) dX7_walk_65 rfl rfl ?_
                refine a_iload (pc := 66) dX7_walk_66 rfl ?_
                obtain ⟨r24, S22, hc23, hs⟩ := g_bind2 hs
                refine a_invVi (pc := 68) (ok_X7_isGone hc23) gyX7_isGone vyX7_isGone mlX7_188 sh_47 rfl (As := [.int x1, .int x2, .int x7]) rfl rfl (by decide) (st := []) rfl (Nat.le_of_ble_eq_true rfl) dX7_walk_68 ?_
                refine a_if_eq (pc := 71) (tgt := 118) dX7_walk_71 (by decide) (fun c25 => ?_) (fun c25 => ?_)
                · rw [if_pos c25] at hs
                  refine a_aloadn (pc := 118) dX7_walk_118 rfl rfl ?_
                  obtain ⟨S26, hc27, hs⟩ := g_bind hs
                  refine a_invVv (pc := 119) (ok_X7_backs hc27) gyX7_backs vyX7_backs mlX7_182 sh_47 rfl (As := []) rfl rfl (by decide) (st := []) rfl (Nat.le_of_ble_eq_true rfl) dX7_walk_119 ?_
                  refine a_iinc (pc := 122) dX7_walk_122 rfl (v := x7 + (1 : Int32)) rfl (Nat.le_of_ble_eq_true rfl) rfl (L' := [some (.ref (gad X 47)), some (.int x1), some (.int x2), some (.int x3), some (.int x4), some (.int x5), some (.int x6), some (.int (x7 + (1 : Int32))), none]) rfl ?_
                  refine a_goto (pc := 125) (tgt := 53) dX7_walk_125 (by decide) ?_
                  obtain rfl := Option.some.inj hs
                  exact ih _ _ _ _ _ _ _ _ hR
                · rw [if_neg c25] at hs
                  refine a_aloadn (pc := 74) dX7_walk_74 rfl rfl ?_
                  refine a_iloadn (pc := 75) dX7_walk_75 rfl rfl ?_
                  obtain ⟨S28, hc29, hs⟩ := g_bind hs
                  refine a_invVv (pc := 76) (ok_X7_goesOn hc29) gyX7_goesOn vyX7_goesOn mlX7_179 sh_47 rfl (As := [.int x3]) rfl rfl (by decide) (st := []) rfl (Nat.le_of_ble_eq_true rfl) dX7_walk_76 ?_
                  refine a_aloadn (pc := 79) dX7_walk_79 rfl rfl ?_
                  refine a_iloadn (pc := 80) dX7_walk_80 rfl rfl ?_
                  obtain ⟨r32, S30, hc31, hs⟩ := g_bind2 hs
                  refine a_invVi (pc := 81) (ok_X7_landOf hc31) gyX7_landOf vyX7_landOf mlX7_93 sh_47 rfl (As := [.int x1]) rfl rfl (by decide) (st := []) rfl (Nat.le_of_ble_eq_true rfl) dX7_walk_81 ?_
                  refine a_istore (pc := 84) dX7_walk_84 (Nat.le_of_ble_eq_true rfl) rfl (L' := [some (.ref (gad X 47)), some (.int x1), some (.int x2), some (.int x3), some (.int x4), some (.int x5), some (.int x6), some (.int x7), some (.int r32)]) rfl ?_
                  refine a_iload (pc := 86) dX7_walk_86 rfl ?_
                  refine a_iload (pc := 88) dX7_walk_88 rfl ?_
                  refine a_icmp_le (pc := 90) (tgt := 98) dX7_walk_90 (by decide) (fun c33 => ?_) (fun c33 => ?_)
                  · rw [if_pos c33] at hs
                    refine a_iload (pc := 98) dX7_walk_98 rfl ?_
                    refine a_mask [true, true, true, true, true, false, true, true, true] (L' := [some (.ref (gad X 47)), some (.int x1), some (.int x2), some (.int x3), some (.int x4), none, some (.int x6), some (.int x7), some (.int r32)]) rfl ?_
                    exact J100 _ _ _ _ _ _ _ _ _ hs
                  · rw [if_neg c33] at hs
                    refine a_iload (pc := 93) dX7_walk_93 rfl ?_
                    refine a_goto (pc := 95) (tgt := 100) dX7_walk_95 (by decide) ?_
                    refine a_mask [true, true, true, true, true, false, true, true, true] (L' := [some (.ref (gad X 47)), some (.int x1), some (.int x2), some (.int x3), some (.int x4), none, some (.int x6), some (.int x7), some (.int r32)]) rfl ?_
                    exact J100 _ _ _ _ _ _ _ _ _ hs
          exact lp _ _ _ _ _ _ _ _ _ hR34
        · rw [if_neg c13] at h
          refine a_iconst (pc := 38) (v := (-1 : Int32)) dX7_walk_38 (by decide) ?_
          obtain ⟨rfl, rfl⟩ := Prod.mk.inj (Option.some.inj h)
          exact a_iret hp dX7_walk_39
theorem dX7_well_0 : decode cX7_well 0 = .ok (.aload_n 0, 1) := by decide +kernel
theorem dX7_well_1 : decode cX7_well 1 = .ok (.iload_n 1, 1) := by decide +kernel
theorem dX7_well_2 : decode cX7_well 2 = .ok (.invokevirtual 82, 3) := by decide +kernel
theorem dX7_well_5 : decode cX7_well 5 = .ok (.ifCond .eq 22, 3) := by decide +kernel
theorem dX7_well_8 : decode cX7_well 8 = .ok (.iload_n 2, 1) := by decide +kernel
theorem dX7_well_9 : decode cX7_well 9 = .ok (.invokestatic 65, 3) := by decide +kernel
theorem dX7_well_12 : decode cX7_well 12 = .ok (.ifCond .eq 15, 3) := by decide +kernel
theorem dX7_well_15 : decode cX7_well 15 = .ok (.iload_n 3, 1) := by decide +kernel
theorem dX7_well_16 : decode cX7_well 16 = .ok (.i2l, 1) := by decide +kernel
theorem dX7_well_17 : decode cX7_well 17 = .ok (.lconst 0, 1) := by decide +kernel
theorem dX7_well_18 : decode cX7_well 18 = .ok (.ldc2_w 102, 3) := by decide +kernel
theorem dX7_well_21 : decode cX7_well 21 = .ok (.invokestatic 51, 3) := by decide +kernel
theorem dX7_well_24 : decode cX7_well 24 = .ok (.ifCond .ne 5, 3) := by decide +kernel
theorem dX7_well_27 : decode cX7_well 27 = .ok (.iconst (-1), 1) := by decide +kernel
theorem dX7_well_28 : decode cX7_well 28 = .ok (.ireturn, 1) := by decide +kernel
theorem dX7_well_29 : decode cX7_well 29 = .ok (.aload_n 0, 1) := by decide +kernel
theorem dX7_well_30 : decode cX7_well 30 = .ok (.invokevirtual 176, 3) := by decide +kernel
theorem dX7_well_33 : decode cX7_well 33 = .ok (.iconst 0, 1) := by decide +kernel
theorem dX7_well_34 : decode cX7_well 34 = .ok (.istore 4, 2) := by decide +kernel
theorem dX7_well_36 : decode cX7_well 36 = .ok (.iload 4, 2) := by decide +kernel
theorem dX7_well_38 : decode cX7_well 38 = .ok (.iconst 5, 1) := by decide +kernel
theorem dX7_well_39 : decode cX7_well 39 = .ok (.if_icmp .ge 78, 3) := by decide +kernel
theorem dX7_well_42 : decode cX7_well 42 = .ok (.iconst 0, 1) := by decide +kernel
theorem dX7_well_43 : decode cX7_well 43 = .ok (.istore 5, 2) := by decide +kernel
theorem dX7_well_45 : decode cX7_well 45 = .ok (.iload 5, 2) := by decide +kernel
theorem dX7_well_47 : decode cX7_well 47 = .ok (.iconst 1, 1) := by decide +kernel
theorem dX7_well_48 : decode cX7_well 48 = .ok (.iconst 2, 1) := by decide +kernel
theorem dX7_well_49 : decode cX7_well 49 = .ok (.iload 4, 2) := by decide +kernel
theorem dX7_well_51 : decode cX7_well 51 = .ok (.imul, 1) := by decide +kernel
theorem dX7_well_52 : decode cX7_well 52 = .ok (.ishl, 1) := by decide +kernel
theorem dX7_well_53 : decode cX7_well 53 = .ok (.if_icmp .ge 58, 3) := by decide +kernel
theorem dX7_well_56 : decode cX7_well 56 = .ok (.aload_n 0, 1) := by decide +kernel
theorem dX7_well_57 : decode cX7_well 57 = .ok (.iload_n 1, 1) := by decide +kernel
theorem dX7_well_58 : decode cX7_well 58 = .ok (.iload 4, 2) := by decide +kernel
theorem dX7_well_60 : decode cX7_well 60 = .ok (.iload 5, 2) := by decide +kernel
theorem dX7_well_62 : decode cX7_well 62 = .ok (.invokevirtual 188, 3) := by decide +kernel
theorem dX7_well_65 : decode cX7_well 65 = .ok (.istore 6, 2) := by decide +kernel
theorem dX7_well_67 : decode cX7_well 67 = .ok (.iload 6, 2) := by decide +kernel
theorem dX7_well_69 : decode cX7_well 69 = .ok (.ifCond .eq 24, 3) := by decide +kernel
theorem dX7_well_72 : decode cX7_well 72 = .ok (.aload_n 0, 1) := by decide +kernel
theorem dX7_well_73 : decode cX7_well 73 = .ok (.iload_n 3, 1) := by decide +kernel
theorem dX7_well_74 : decode cX7_well 74 = .ok (.invokevirtual 179, 3) := by decide +kernel
theorem dX7_well_77 : decode cX7_well 77 = .ok (.aload_n 0, 1) := by decide +kernel
theorem dX7_well_78 : decode cX7_well 78 = .ok (.iload_n 2, 1) := by decide +kernel
theorem dX7_well_79 : decode cX7_well 79 = .ok (.invokevirtual 79, 3) := by decide +kernel
theorem dX7_well_82 : decode cX7_well 82 = .ok (.iload_n 1, 1) := by decide +kernel
theorem dX7_well_83 : decode cX7_well 83 = .ok (.if_icmp .ne 7, 3) := by decide +kernel
theorem dX7_well_86 : decode cX7_well 86 = .ok (.iconst 1, 1) := by decide +kernel
theorem dX7_well_87 : decode cX7_well 87 = .ok (.goto 4, 3) := by decide +kernel
theorem dX7_well_90 : decode cX7_well 90 = .ok (.iconst 0, 1) := by decide +kernel
theorem dX7_well_91 : decode cX7_well 91 = .ok (.istore 6, 2) := by decide +kernel
theorem dX7_well_93 : decode cX7_well 93 = .ok (.aload_n 0, 1) := by decide +kernel
theorem dX7_well_94 : decode cX7_well 94 = .ok (.invokevirtual 182, 3) := by decide +kernel
theorem dX7_well_97 : decode cX7_well 97 = .ok (.iload 6, 2) := by decide +kernel
theorem dX7_well_99 : decode cX7_well 99 = .ok (.ifCond .eq 6, 3) := by decide +kernel
theorem dX7_well_102 : decode cX7_well 102 = .ok (.iload 4, 2) := by decide +kernel
theorem dX7_well_104 : decode cX7_well 104 = .ok (.ireturn, 1) := by decide +kernel
theorem dX7_well_105 : decode cX7_well 105 = .ok (.iinc 5 1, 3) := by decide +kernel
theorem dX7_well_108 : decode cX7_well 108 = .ok (.goto (-63), 3) := by decide +kernel
theorem dX7_well_111 : decode cX7_well 111 = .ok (.iinc 4 1, 3) := by decide +kernel
theorem dX7_well_114 : decode cX7_well 114 = .ok (.goto (-78), 3) := by decide +kernel
theorem dX7_well_117 : decode cX7_well 117 = .ok (.bipush (-4), 2) := by decide +kernel
theorem dX7_well_119 : decode cX7_well 119 = .ok (.ireturn, 1) := by decide +kernel
def f_X7_well_j93 (x1 : Int32) (x2 : Int32) (x3 : Int32) (x4 : Int32) (x5 : Int32) (x6 : Int32) (S : gSt) : Option ((Int32 × Int32 × Int32 × Int32 × Int32 × gSt) ⊕ ((Int32 × gSt) ⊕ (Int32 × Int32 × Int32 × Int32 × gSt))) :=
(f_X7_backs S).bind fun S16 =>
(if x6 = 0 then
some (.inl (x1, x2, x3, x4, x5 + (1 : Int32), S16))
else
some (.inr (.inl (x4, S16))))
def f_X7_well_j91 (x1 : Int32) (x2 : Int32) (x3 : Int32) (x4 : Int32) (x5 : Int32) (t0 : Int32) (S : gSt) : Option ((Int32 × Int32 × Int32 × Int32 × Int32 × gSt) ⊕ ((Int32 × gSt) ⊕ (Int32 × Int32 × Int32 × Int32 × gSt))) :=
f_X7_well_j93 x1 x2 x3 x4 x5 t0 S
def f_X7_well_s45_b (x1 : Int32) (x2 : Int32) (x3 : Int32) (x4 : Int32) (x5 : Int32) (S : gSt) : Option ((Int32 × Int32 × Int32 × Int32 × Int32 × gSt) ⊕ ((Int32 × gSt) ⊕ (Int32 × Int32 × Int32 × Int32 × gSt))) :=
(if ((1 : Int32) <<< (((2 : Int32) * x4) &&& 31)) ≤ x5 then
some (.inr (.inr (x1, x2, x3, x4, S)))
else
gBind2 (f_X7_isGone x1 x4 x5 S) fun r22 S20 =>
(if r22 = 0 then
f_X7_well_j93 x1 x2 x3 x4 x5 r22 S20
else
(f_X7_goesOn x3 S20).bind fun S24 =>
gBind2 (f_X7_holder x2 S24) fun r28 S26 =>
(if r28 = x1 then
f_X7_well_j91 x1 x2 x3 x4 x5 (1 : Int32) S26
else
f_X7_well_j91 x1 x2 x3 x4 x5 (0 : Int32) S26)))
def f_X7_well_s45 : (Int32 × Int32 × Int32 × Int32 × Int32 × gSt) → Option ((Int32 × Int32 × Int32 × Int32 × Int32 × gSt) ⊕ ((Int32 × gSt) ⊕ (Int32 × Int32 × Int32 × Int32 × gSt))) := fun t => f_X7_well_s45_b t.1 t.2.1 t.2.2.1 t.2.2.2.1 t.2.2.2.2.1 t.2.2.2.2.2
def f_X7_well_s36_b (x1 : Int32) (x2 : Int32) (x3 : Int32) (x4 : Int32) (S : gSt) : Option ((Int32 × Int32 × Int32 × Int32 × gSt) ⊕ ((Int32 × gSt) ⊕ (gSt))) :=
(if (5 : Int32) ≤ x4 then
some (.inr (.inr (S)))
else
(gLoop (f_X7_well_s45) gFuel (x1, x2, x3, x4, (0 : Int32), S)).bind fun q30 => match q30 with
| .inl (v30, T30) => some (.inr (.inl (v30, T30)))
| .inr (y1_30, y2_30, y3_30, y4_30, S30) =>
some (.inl (y1_30, y2_30, y3_30, y4_30 + (1 : Int32), S30)))
def f_X7_well_s36 : (Int32 × Int32 × Int32 × Int32 × gSt) → Option ((Int32 × Int32 × Int32 × Int32 × gSt) ⊕ ((Int32 × gSt) ⊕ (gSt))) := fun t => f_X7_well_s36_b t.1 t.2.1 t.2.2.1 t.2.2.2.1 t.2.2.2.2
def f_X7_well (p1 : Int32) (p2 : Int32) (p3 : Int32) (S : gSt) : Option (Int32 × gSt) :=
gBind2 (f_X7_isWalker p1 S) fun r3 S1 =>
(if r3 = 0 then
some ((-1 : Int32), S1)
else
gBind2 (f_X7_isCell p2 S1) fun r7 S5 =>
(if r7 = 0 then
some ((-1 : Int32), S5)
else
gBind2 (f_X7_in (p3.toInt64) (0 : Int64) (12 : Int64) S5) fun r11 S9 =>
(if r11 = 0 then
some ((-1 : Int32), S9)
else
(f_X7_asides S9).bind fun S13 =>
(gLoop (f_X7_well_s36) gFuel (p1, p2, p3, (0 : Int32), S13)).bind fun q31 => match q31 with
| .inl (v31, T31) => some (v31, T31)
| .inr S31 =>
some ((-4 : Int32), S31))))
set_option maxHeartbeats 4000000 in
set_option maxRecDepth 20000 in
theorem ok_X7_well {p1 : Int32} {p2 : Int32} {p3 : Int32} {S S0 : gSt} {r0 : Int32}  (h : f_X7_well p1 p2 p3 S = some (r0, S0)) : gCT yX7_well cX7_well 7 (some .int) 5 (fun w => [.ref (w.2.1 47), .int p1, .int p2, .int p3]) S (some (.int r0)) S0 := by
  refine gEnter (fun X => [some (.ref (gad X 47)), some (.int p1), some (.int p2), some (.int p3), none, none, none]) (by decide) (fun X => ⟨rfl, rfl⟩) (fun w => Nat.le_of_ble_eq_true rfl) (fun X hp => ?_)
  show AW X RX7 5 cX7_well 0 [some (.ref (gad X 47)), some (.int p1), some (.int p2), some (.int p3), none, none, none] [] S
  unfold f_X7_well at h
  refine a_aloadn (pc := 0) dX7_well_0 rfl rfl ?_
  refine a_iloadn (pc := 1) dX7_well_1 rfl rfl ?_
  obtain ⟨r3, S1, hc2, h⟩ := g_bind2 h
  refine a_invVi (pc := 2) (ok_X7_isWalker hc2) gyX7_isWalker vyX7_isWalker mlX7_82 sh_47 rfl (As := [.int p1]) rfl rfl (by decide) (st := []) rfl (Nat.le_of_ble_eq_true rfl) dX7_well_2 ?_
  refine a_if_eq (pc := 5) (tgt := 27) dX7_well_5 (by decide) (fun c4 => ?_) (fun c4 => ?_)
  · rw [if_pos c4] at h
    refine a_iconst (pc := 27) (v := (-1 : Int32)) dX7_well_27 (by decide) ?_
    obtain ⟨rfl, rfl⟩ := Prod.mk.inj (Option.some.inj h)
    exact a_iret hp dX7_well_28
  · rw [if_neg c4] at h
    refine a_iloadn (pc := 8) dX7_well_8 rfl rfl ?_
    obtain ⟨r7, S5, hc6, h⟩ := g_bind2 h
    refine a_invSi (pc := 9) (ok_X7_isCell hc6) gyX7_isCell syX7_isCell mlX7_65 (As := [.int p2]) rfl rfl (by decide) (st := []) rfl (Nat.le_of_ble_eq_true rfl) dX7_well_9 ?_
    refine a_if_eq (pc := 12) (tgt := 27) dX7_well_12 (by decide) (fun c8 => ?_) (fun c8 => ?_)
    · rw [if_pos c8] at h
      refine a_iconst (pc := 27) (v := (-1 : Int32)) dX7_well_27 (by decide) ?_
      obtain ⟨rfl, rfl⟩ := Prod.mk.inj (Option.some.inj h)
      exact a_iret hp dX7_well_28
    · rw [if_neg c8] at h
      refine a_iloadn (pc := 15) dX7_well_15 rfl rfl ?_
      refine a_i2l (pc := 16) dX7_well_16 ?_
      refine a_lconst (pc := 17) (v := (0 : Int64)) dX7_well_17 (by decide) ?_
      refine a_ldc2 (pc := 18) kX7_102 dX7_well_18 ?_
      obtain ⟨r11, S9, hc10, h⟩ := g_bind2 h
      refine a_invSi (pc := 21) (ok_X7_in hc10) gyX7_in syX7_in mlX7_51 (As := [.long (p3.toInt64), .long (0 : Int64), .long (12 : Int64)]) rfl rfl (by decide) (st := []) rfl (Nat.le_of_ble_eq_true rfl) dX7_well_21 ?_
      refine a_if_ne (pc := 24) (tgt := 29) dX7_well_24 (by decide) (fun c12 => ?_) (fun c12 => ?_)
      · rw [if_neg c12] at h
        refine a_aloadn (pc := 29) dX7_well_29 rfl rfl ?_
        obtain ⟨S13, hc14, h⟩ := g_bind h
        refine a_invVv (pc := 30) (ok_X7_asides hc14) gyX7_asides vyX7_asides mlX7_176 sh_47 rfl (As := []) rfl rfl (by decide) (st := []) rfl (Nat.le_of_ble_eq_true rfl) dX7_well_30 ?_
        refine a_iconst (pc := 33) (v := (0 : Int32)) dX7_well_33 (by decide) ?_
        refine a_istore (pc := 34) dX7_well_34 (Nat.le_of_ble_eq_true rfl) rfl (L' := [some (.ref (gad X 47)), some (.int p1), some (.int p2), some (.int p3), some (.int (0 : Int32)), none, none]) rfl ?_
        obtain ⟨R31, hR31, h⟩ := g_bind h
        have E36 : ∀  (S31 : gSt), (some ((-4 : Int32), S31)) = some (r0, S0) → AW X RX7 5 cX7_well 117 [none, none, none, none, none, none, none] [] S31 := by
          intro S31 h
          refine a_bipush (pc := 117) (v := (-4 : Int32)) dX7_well_117 (by decide) ?_
          obtain ⟨rfl, rfl⟩ := Prod.mk.inj (Option.some.inj h)
          exact a_iret hp dX7_well_119
        have lp : ∀ (n : Nat) (x1 : Int32) (x2 : Int32) (x3 : Int32) (x4 : Int32) (S : gSt), gLoop (f_X7_well_s36) n (x1, x2, x3, x4, S) = some R31 → AW X RX7 5 cX7_well 36 [some (.ref (gad X 47)), some (.int x1), some (.int x2), some (.int x3), some (.int x4), none, none] [] S := by
          intro n
          induction n with
          | zero => intro x1 x2 x3 x4 S hR; cases hR
          | succ n ih =>
            intro x1 x2 x3 x4 S hR
            obtain ⟨q, hs, hR⟩ := g_bind hR
            have hs : f_X7_well_s36_b x1 x2 x3 x4 S = some q := hs
            unfold f_X7_well_s36_b at hs
            refine a_iload (pc := 36) dX7_well_36 rfl ?_
            refine a_iconst (pc := 38) (v := (5 : Int32)) dX7_well_38 (by decide) ?_
            refine a_icmp_ge (pc := 39) (tgt := 117) dX7_well_39 (by decide) (fun c15 => ?_) (fun c15 => ?_)
            · rw [if_pos c15] at hs
              obtain rfl := Option.some.inj hs
              obtain rfl := Option.some.inj hR
              refine a_mask [false, false, false, false, false, true, true] (L' := [none, none, none, none, none, none, none]) rfl ?_
              exact E36  _ h
            · rw [if_neg c15] at hs
              refine a_iconst (pc := 42) (v := (0 : Int32)) dX7_well_42 (by decide) ?_
              refine a_istore (pc := 43) dX7_well_43 (Nat.le_of_ble_eq_true rfl) rfl (L' := [some (.ref (gad X 47)), some (.int x1), some (.int x2), some (.int x3), some (.int x4), some (.int (0 : Int32)), none]) rfl ?_
              obtain ⟨R30, hR30, hs⟩ := g_bind hs
              have E45 : ∀ (y1_30 : Int32) (y2_30 : Int32) (y3_30 : Int32) (y4_30 : Int32) (S30 : gSt), (some (.inl (y1_30, y2_30, y3_30, y4_30 + (1 : Int32), S30))) = some q → AW X RX7 5 cX7_well 111 [some (.ref (gad X 47)), some (.int y1_30), some (.int y2_30), some (.int y3_30), some (.int y4_30), none, none] [] S30 := by
                intro y1_30 y2_30 y3_30 y4_30 S30 hs
                refine a_iinc (pc := 111) dX7_well_111 rfl (v := y4_30 + (1 : Int32)) rfl (Nat.le_of_ble_eq_true rfl) rfl (L' := [some (.ref (gad X 47)), some (.int y1_30), some (.int y2_30), some (.int y3_30), some (.int (y4_30 + (1 : Int32))), none, none]) rfl ?_
                refine a_goto (pc := 114) (tgt := 36) dX7_well_114 (by decide) ?_
                obtain rfl := Option.some.inj hs
                exact ih _ _ _ _ _ hR
              have lp : ∀ (n : Nat) (x1 : Int32) (x2 : Int32) (x3 : Int32) (x4 : Int32) (x5 : Int32) (S : gSt), gLoop (f_X7_well_s45) n (x1, x2, x3, x4, x5, S) = some R30 → AW X RX7 5 cX7_well 45 [some (.ref (gad X 47)), some (.int x1), some (.int x2), some (.int x3), some (.int x4), some (.int x5), none] [] S := by
                intro n
                induction n with
                | zero => intro x1 x2 x3 x4 x5 S hR; cases hR
                | succ n ih =>
                  intro x1 x2 x3 x4 x5 S hR
                  obtain ⟨q, hs, hR⟩ := g_bind hR
                  have hs : f_X7_well_s45_b x1 x2 x3 x4 x5 S = some q := hs
                  unfold f_X7_well_s45_b at hs
                  have J93 : ∀ (x1 : Int32) (x2 : Int32) (x3 : Int32) (x4 : Int32) (x5 : Int32) (x6 : Int32) (S : gSt), f_X7_well_j93 x1 x2 x3 x4 x5 x6 S = some q → AW X RX7 5 cX7_well 93 [some (.ref (gad X 47)), some (.int x1), some (.int x2), some (.int x3), some (.int x4), some (.int x5), some (.int x6)] [] S := by
                    intro x1 x2 x3 x4 x5 x6 S hs
                    unfold f_X7_well_j93 at hs
                    refine a_aloadn (pc := 93) dX7_well_93 rfl rfl ?_
                    obtain ⟨S16, hc17, hs⟩ := g_bind hs
                    refine a_invVv (pc := 94) (ok_X7_backs hc17) gyX7_backs vyX7_backs mlX7_182 sh_47 rfl (As := []) rfl rfl (by decide) (st := []) rfl (Nat.le_of_ble_eq_true rfl) dX7_well_94 ?_
                    refine a_iload (pc := 97) dX7_well_97 rfl ?_
                    refine a_if_eq (pc := 99) (tgt := 105) dX7_well_99 (by decide) (fun c18 => ?_) (fun c18 => ?_)
                    · rw [if_pos c18] at hs
                      refine a_iinc (pc := 105) dX7_well_105 rfl (v := x5 + (1 : Int32)) rfl (Nat.le_of_ble_eq_true rfl) rfl (L' := [some (.ref (gad X 47)), some (.int x1), some (.int x2), some (.int x3), some (.int x4), some (.int (x5 + (1 : Int32))), some (.int x6)]) rfl ?_
                      refine a_goto (pc := 108) (tgt := 45) dX7_well_108 (by decide) ?_
                      obtain rfl := Option.some.inj hs
                      refine a_mask [true, true, true, true, true, true, false] (L' := [some (.ref (gad X 47)), some (.int x1), some (.int x2), some (.int x3), some (.int x4), some (.int (x5 + (1 : Int32))), none]) rfl ?_
                      exact ih _ _ _ _ _ _ hR
                    · rw [if_neg c18] at hs
                      refine a_iload (pc := 102) dX7_well_102 rfl ?_
                      obtain rfl := Option.some.inj hs
                      obtain rfl := Option.some.inj hR
                      obtain rfl := Option.some.inj hs
                      obtain rfl := Option.some.inj hR
                      obtain ⟨rfl, rfl⟩ := Prod.mk.inj (Option.some.inj h)
                      exact a_iret hp dX7_well_104
                  have J91 : ∀ (x1 : Int32) (x2 : Int32) (x3 : Int32) (x4 : Int32) (x5 : Int32) (t0 : Int32) (S : gSt), f_X7_well_j91 x1 x2 x3 x4 x5 t0 S = some q → AW X RX7 5 cX7_well 91 [some (.ref (gad X 47)), some (.int x1), some (.int x2), some (.int x3), some (.int x4), some (.int x5), none] [.int t0] S := by
                    intro x1 x2 x3 x4 x5 t0 S hs
                    unfold f_X7_well_j91 at hs
                    refine a_istore (pc := 91) dX7_well_91 (Nat.le_of_ble_eq_true rfl) rfl (L' := [some (.ref (gad X 47)), some (.int x1), some (.int x2), some (.int x3), some (.int x4), some (.int x5), some (.int t0)]) rfl ?_
                    exact J93 _ _ _ _ _ _ _ hs
                  refine a_iload (pc := 45) dX7_well_45 rfl ?_
                  refine a_iconst (pc := 47) (v := (1 : Int32)) dX7_well_47 (by decide) ?_
                  refine a_iconst (pc := 48) (v := (2 : Int32)) dX7_well_48 (by decide) ?_
                  refine a_iload (pc := 49) dX7_well_49 rfl ?_
                  refine a_imul (pc := 51) dX7_well_51 ?_
                  refine a_ishl (pc := 52) dX7_well_52 ?_
                  refine a_icmp_ge (pc := 53) (tgt := 111) dX7_well_53 (by decide) (fun c19 => ?_) (fun c19 => ?_)
                  · rw [if_pos c19] at hs
                    obtain rfl := Option.some.inj hs
                    obtain rfl := Option.some.inj hR
                    refine a_mask [true, true, true, true, true, false, true] (L' := [some (.ref (gad X 47)), some (.int x1), some (.int x2), some (.int x3), some (.int x4), none, none]) rfl ?_
                    exact E45 _ _ _ _ _ hs
                  · rw [if_neg c19] at hs
                    refine a_aloadn (pc := 56) dX7_well_56 rfl rfl ?_
                    refine a_iloadn (pc := 57) dX7_well_57 rfl rfl ?_
                    refine a_iload (pc := 58) dX7_well_58 rfl ?_
                    refine a_iload (pc := 60) dX7_well_60 rfl ?_
                    obtain ⟨r22, S20, hc21, hs⟩ := g_bind2 hs
                    refine a_invVi (pc := 62) (ok_X7_isGone hc21) gyX7_isGone vyX7_isGone mlX7_188 sh_47 rfl (As := [.int x1, .int x4, .int x5]) rfl rfl (by decide) (st := []) rfl (Nat.le_of_ble_eq_true rfl) dX7_well_62 ?_
                    refine a_istore (pc := 65) dX7_well_65 (Nat.le_of_ble_eq_true rfl) rfl (L' := [some (.ref (gad X 47)), some (.int x1), some (.int x2), some (.int x3), some (.int x4), some (.int x5), some (.int r22)]) rfl ?_
                    refine a_iload (pc := 67) dX7_well_67 rfl ?_
                    refine a_if_eq (pc := 69) (tgt := 93) dX7_well_69 (by decide) (fun c23 => ?_) (fun c23 => ?_)
                    · rw [if_pos c23] at hs
                      exact J93 _ _ _ _ _ _ _ hs
                    · rw [if_neg c23] at hs
                      refine a_aloadn (pc := 72) dX7_well_72 rfl rfl ?_
                      refine a_iloadn (pc := 73) dX7_well_73 rfl rfl ?_
                      obtain ⟨S24, hc25, hs⟩ := g_bind hs
                      refine a_invVv (pc := 74) (ok_X7_goesOn hc25) gyX7_goesOn vyX7_goesOn mlX7_179 sh_47 rfl (As := [.int x3]) rfl rfl (by decide) (st := []) rfl (Nat.le_of_ble_eq_true rfl) dX7_well_74 ?_
                      refine a_aloadn (pc := 77) dX7_well_77 rfl rfl ?_
                      refine a_iloadn (pc := 78) dX7_well_78 rfl rfl ?_
                      obtain ⟨r28, S26, hc27, hs⟩ := g_bind2 hs
                      refine a_invVi (pc := 79) (ok_X7_holder hc27) gyX7_holder vyX7_holder mlX7_79 sh_47 rfl (As := [.int x2]) rfl rfl (by decide) (st := []) rfl (Nat.le_of_ble_eq_true rfl) dX7_well_79 ?_
                      refine a_iloadn (pc := 82) dX7_well_82 rfl rfl ?_
                      refine a_icmp_ne (pc := 83) (tgt := 90) dX7_well_83 (by decide) (fun c29 => ?_) (fun c29 => ?_)
                      · rw [if_neg c29] at hs
                        refine a_iconst (pc := 90) (v := (0 : Int32)) dX7_well_90 (by decide) ?_
                        refine a_mask [true, true, true, true, true, true, false] (L' := [some (.ref (gad X 47)), some (.int x1), some (.int x2), some (.int x3), some (.int x4), some (.int x5), none]) rfl ?_
                        exact J91 _ _ _ _ _ _ _ hs
                      · rw [if_pos c29] at hs
                        refine a_iconst (pc := 86) (v := (1 : Int32)) dX7_well_86 (by decide) ?_
                        refine a_goto (pc := 87) (tgt := 91) dX7_well_87 (by decide) ?_
                        refine a_mask [true, true, true, true, true, true, false] (L' := [some (.ref (gad X 47)), some (.int x1), some (.int x2), some (.int x3), some (.int x4), some (.int x5), none]) rfl ?_
                        exact J91 _ _ _ _ _ _ _ hs
              exact lp _ _ _ _ _ _ _ hR30
        exact lp _ _ _ _ _ _ hR31
      · rw [if_pos c12] at h
        refine a_iconst (pc := 27) (v := (-1 : Int32)) dX7_well_27 (by decide) ?_
        obtain ⟨rfl, rfl⟩ := Prod.mk.inj (Option.some.inj h)
        exact a_iret hp dX7_well_28
theorem dX7_crabs_0 : decode cX7_crabs 0 = .ok (.aload_n 0, 1) := by decide +kernel
theorem dX7_crabs_1 : decode cX7_crabs 1 = .ok (.iload_n 1, 1) := by decide +kernel
theorem dX7_crabs_2 : decode cX7_crabs 2 = .ok (.invokevirtual 82, 3) := by decide +kernel
theorem dX7_crabs_5 : decode cX7_crabs 5 = .ok (.ifCond .eq 35, 3) := by decide +kernel
theorem dX7_crabs_8 : decode cX7_crabs 8 = .ok (.iload_n 2, 1) := by decide +kernel
theorem dX7_crabs_9 : decode cX7_crabs 9 = .ok (.invokestatic 65, 3) := by decide +kernel
theorem dX7_crabs_12 : decode cX7_crabs 12 = .ok (.ifCond .eq 28, 3) := by decide +kernel
theorem dX7_crabs_15 : decode cX7_crabs 15 = .ok (.iload_n 3, 1) := by decide +kernel
theorem dX7_crabs_16 : decode cX7_crabs 16 = .ok (.i2l, 1) := by decide +kernel
theorem dX7_crabs_17 : decode cX7_crabs 17 = .ok (.lconst 0, 1) := by decide +kernel
theorem dX7_crabs_18 : decode cX7_crabs 18 = .ok (.ldc2_w 174, 3) := by decide +kernel
theorem dX7_crabs_21 : decode cX7_crabs 21 = .ok (.invokestatic 51, 3) := by decide +kernel
theorem dX7_crabs_24 : decode cX7_crabs 24 = .ok (.ifCond .eq 16, 3) := by decide +kernel
theorem dX7_crabs_27 : decode cX7_crabs 27 = .ok (.iload 4, 2) := by decide +kernel
theorem dX7_crabs_29 : decode cX7_crabs 29 = .ok (.i2l, 1) := by decide +kernel
theorem dX7_crabs_30 : decode cX7_crabs 30 = .ok (.lconst 0, 1) := by decide +kernel
theorem dX7_crabs_31 : decode cX7_crabs 31 = .ok (.ldc2_w 192, 3) := by decide +kernel
theorem dX7_crabs_34 : decode cX7_crabs 34 = .ok (.invokestatic 51, 3) := by decide +kernel
theorem dX7_crabs_37 : decode cX7_crabs 37 = .ok (.ifCond .ne 5, 3) := by decide +kernel
theorem dX7_crabs_40 : decode cX7_crabs 40 = .ok (.iconst (-1), 1) := by decide +kernel
theorem dX7_crabs_41 : decode cX7_crabs 41 = .ok (.ireturn, 1) := by decide +kernel
theorem dX7_crabs_42 : decode cX7_crabs 42 = .ok (.aload_n 0, 1) := by decide +kernel
theorem dX7_crabs_43 : decode cX7_crabs 43 = .ok (.invokevirtual 176, 3) := by decide +kernel
theorem dX7_crabs_46 : decode cX7_crabs 46 = .ok (.aload_n 0, 1) := by decide +kernel
theorem dX7_crabs_47 : decode cX7_crabs 47 = .ok (.iload_n 3, 1) := by decide +kernel
theorem dX7_crabs_48 : decode cX7_crabs 48 = .ok (.invokevirtual 179, 3) := by decide +kernel
theorem dX7_crabs_51 : decode cX7_crabs 51 = .ok (.aload_n 0, 1) := by decide +kernel
theorem dX7_crabs_52 : decode cX7_crabs 52 = .ok (.getfield 7, 3) := by decide +kernel
theorem dX7_crabs_55 : decode cX7_crabs 55 = .ok (.bipush 32, 2) := by decide +kernel
theorem dX7_crabs_57 : decode cX7_crabs 57 = .ok (.bipush 64, 2) := by decide +kernel
theorem dX7_crabs_59 : decode cX7_crabs 59 = .ok (.iload_n 1, 1) := by decide +kernel
theorem dX7_crabs_60 : decode cX7_crabs 60 = .ok (.imul, 1) := by decide +kernel
theorem dX7_crabs_61 : decode cX7_crabs 61 = .ok (.iadd, 1) := by decide +kernel
theorem dX7_crabs_62 : decode cX7_crabs 62 = .ok (.iload_n 2, 1) := by decide +kernel
theorem dX7_crabs_63 : decode cX7_crabs 63 = .ok (.iadd, 1) := by decide +kernel
theorem dX7_crabs_64 : decode cX7_crabs 64 = .ok (.iaload, 1) := by decide +kernel
theorem dX7_crabs_65 : decode cX7_crabs 65 = .ok (.ifCond .le 7, 3) := by decide +kernel
theorem dX7_crabs_68 : decode cX7_crabs 68 = .ok (.iconst 1, 1) := by decide +kernel
theorem dX7_crabs_69 : decode cX7_crabs 69 = .ok (.goto 4, 3) := by decide +kernel
theorem dX7_crabs_72 : decode cX7_crabs 72 = .ok (.iconst 0, 1) := by decide +kernel
theorem dX7_crabs_73 : decode cX7_crabs 73 = .ok (.istore 5, 2) := by decide +kernel
theorem dX7_crabs_75 : decode cX7_crabs 75 = .ok (.aload_n 0, 1) := by decide +kernel
theorem dX7_crabs_76 : decode cX7_crabs 76 = .ok (.invokevirtual 182, 3) := by decide +kernel
theorem dX7_crabs_79 : decode cX7_crabs 79 = .ok (.iload 5, 2) := by decide +kernel
theorem dX7_crabs_81 : decode cX7_crabs 81 = .ok (.ifCond .eq 8, 3) := by decide +kernel
theorem dX7_crabs_84 : decode cX7_crabs 84 = .ok (.ldc 194, 2) := by decide +kernel
theorem dX7_crabs_86 : decode cX7_crabs 86 = .ok (.goto 4, 3) := by decide +kernel
theorem dX7_crabs_89 : decode cX7_crabs 89 = .ok (.iconst 0, 1) := by decide +kernel
theorem dX7_crabs_90 : decode cX7_crabs 90 = .ok (.istore 6, 2) := by decide +kernel
theorem dX7_crabs_92 : decode cX7_crabs 92 = .ok (.iconst 0, 1) := by decide +kernel
theorem dX7_crabs_93 : decode cX7_crabs 93 = .ok (.istore 7, 2) := by decide +kernel
theorem dX7_crabs_95 : decode cX7_crabs 95 = .ok (.iload 7, 2) := by decide +kernel
theorem dX7_crabs_97 : decode cX7_crabs 97 = .ok (.iload_n 3, 1) := by decide +kernel
theorem dX7_crabs_98 : decode cX7_crabs 98 = .ok (.if_icmp .ge 22, 3) := by decide +kernel
theorem dX7_crabs_101 : decode cX7_crabs 101 = .ok (.iload 6, 2) := by decide +kernel
theorem dX7_crabs_103 : decode cX7_crabs 103 = .ok (.bipush 100, 2) := by decide +kernel
theorem dX7_crabs_105 : decode cX7_crabs 105 = .ok (.iload 4, 2) := by decide +kernel
theorem dX7_crabs_107 : decode cX7_crabs 107 = .ok (.isub, 1) := by decide +kernel
theorem dX7_crabs_108 : decode cX7_crabs 108 = .ok (.imul, 1) := by decide +kernel
theorem dX7_crabs_109 : decode cX7_crabs 109 = .ok (.bipush 100, 2) := by decide +kernel
theorem dX7_crabs_111 : decode cX7_crabs 111 = .ok (.idiv, 1) := by decide +kernel
theorem dX7_crabs_112 : decode cX7_crabs 112 = .ok (.istore 6, 2) := by decide +kernel
theorem dX7_crabs_114 : decode cX7_crabs 114 = .ok (.iinc 7 1, 3) := by decide +kernel
theorem dX7_crabs_117 : decode cX7_crabs 117 = .ok (.goto (-22), 3) := by decide +kernel
theorem dX7_crabs_120 : decode cX7_crabs 120 = .ok (.iload 6, 2) := by decide +kernel
theorem dX7_crabs_122 : decode cX7_crabs 122 = .ok (.ireturn, 1) := by decide +kernel
def f_X7_crabs_s95_b (x3 : Int32) (x4 : Int32) (x6 : Int32) (x7 : Int32) (S : gSt) : Option ((Int32 × Int32 × Int32 × Int32 × gSt) ⊕ (Int32 × gSt)) :=
(if x3 ≤ x7 then
some (.inr (x6, S))
else
gLet ((x6 * ((100 : Int32) - x4)) / (100 : Int32)) fun v2 =>
some (.inl (x3, x4, v2, x7 + (1 : Int32), S)))
def f_X7_crabs_s95 : (Int32 × Int32 × Int32 × Int32 × gSt) → Option ((Int32 × Int32 × Int32 × Int32 × gSt) ⊕ (Int32 × gSt)) := fun t => f_X7_crabs_s95_b t.1 t.2.1 t.2.2.1 t.2.2.2.1 t.2.2.2.2
def f_X7_crabs_j90 (x3 : Int32) (x4 : Int32) (t0 : Int32) (S : gSt) : Option (Int32 × gSt) :=
(gLoop (f_X7_crabs_s95) gFuel (x3, x4, t0, (0 : Int32), S)).bind fun q3 => match q3 with
| (y6_3, S3) =>
some (y6_3, S3)
def f_X7_crabs_j73 (x3 : Int32) (x4 : Int32) (t0 : Int32) (S : gSt) : Option (Int32 × gSt) :=
(f_X7_backs S).bind fun S4 =>
(if t0 = 0 then
f_X7_crabs_j90 x3 x4 (0 : Int32) S4
else
f_X7_crabs_j90 x3 x4 (1000000 : Int32) S4)
def f_X7_crabs (p1 : Int32) (p2 : Int32) (p3 : Int32) (p4 : Int32) (S : gSt) : Option (Int32 × gSt) :=
gBind2 (f_X7_isWalker p1 S) fun r9 S7 =>
(if r9 = 0 then
some ((-1 : Int32), S7)
else
gBind2 (f_X7_isCell p2 S7) fun r13 S11 =>
(if r13 = 0 then
some ((-1 : Int32), S11)
else
gBind2 (f_X7_in (p3.toInt64) (0 : Int64) (48 : Int64) S11) fun r17 S15 =>
(if r17 = 0 then
some ((-1 : Int32), S15)
else
gBind2 (f_X7_in (p4.toInt64) (0 : Int64) (100 : Int64) S15) fun r21 S19 =>
(if r21 = 0 then
some ((-1 : Int32), S19)
else
(f_X7_asides S19).bind fun S23 =>
(f_X7_goesOn p3 S23).bind fun S25 =>
if gin (((32 : Int32) + ((64 : Int32) * p1)) + p2) 416 then
((if (S25.1 48 (((32 : Int32) + ((64 : Int32) * p1)) + p2).toNatClampNeg) ≤ 0 then
f_X7_crabs_j73 p3 p4 (0 : Int32) S25
else
f_X7_crabs_j73 p3 p4 (1 : Int32) S25)) else none))))
set_option maxHeartbeats 4000000 in
set_option maxRecDepth 20000 in
theorem ok_X7_crabs {p1 : Int32} {p2 : Int32} {p3 : Int32} {p4 : Int32} {S S0 : gSt} {r0 : Int32}  (h : f_X7_crabs p1 p2 p3 p4 S = some (r0, S0)) : gCT yX7_crabs cX7_crabs 8 (some .int) 2 (fun w => [.ref (w.2.1 47), .int p1, .int p2, .int p3, .int p4]) S (some (.int r0)) S0 := by
  refine gEnter (fun X => [some (.ref (gad X 47)), some (.int p1), some (.int p2), some (.int p3), some (.int p4), none, none, none]) (by decide) (fun X => ⟨rfl, rfl⟩) (fun w => Nat.le_of_ble_eq_true rfl) (fun X hp => ?_)
  show AW X RX7 2 cX7_crabs 0 [some (.ref (gad X 47)), some (.int p1), some (.int p2), some (.int p3), some (.int p4), none, none, none] [] S
  unfold f_X7_crabs at h
  have J90 : ∀ (x3 : Int32) (x4 : Int32) (t0 : Int32) (S : gSt), f_X7_crabs_j90 x3 x4 t0 S = some (r0, S0) → AW X RX7 2 cX7_crabs 90 [none, none, none, some (.int x3), some (.int x4), none, none, none] [.int t0] S := by
    intro x3 x4 t0 S h
    unfold f_X7_crabs_j90 at h
    refine a_istore (pc := 90) dX7_crabs_90 (Nat.le_of_ble_eq_true rfl) rfl (L' := [none, none, none, some (.int x3), some (.int x4), none, some (.int t0), none]) rfl ?_
    refine a_iconst (pc := 92) (v := (0 : Int32)) dX7_crabs_92 (by decide) ?_
    refine a_istore (pc := 93) dX7_crabs_93 (Nat.le_of_ble_eq_true rfl) rfl (L' := [none, none, none, some (.int x3), some (.int x4), none, some (.int t0), some (.int (0 : Int32))]) rfl ?_
    obtain ⟨R3, hR3, h⟩ := g_bind h
    have E95 : ∀ (y6_3 : Int32) (S3 : gSt), (some (y6_3, S3)) = some (r0, S0) → AW X RX7 2 cX7_crabs 120 [none, none, none, none, none, none, some (.int y6_3), none] [] S3 := by
      intro y6_3 S3 h
      refine a_iload (pc := 120) dX7_crabs_120 rfl ?_
      obtain ⟨rfl, rfl⟩ := Prod.mk.inj (Option.some.inj h)
      exact a_iret hp dX7_crabs_122
    have lp : ∀ (n : Nat) (x3 : Int32) (x4 : Int32) (x6 : Int32) (x7 : Int32) (S : gSt), gLoop (f_X7_crabs_s95) n (x3, x4, x6, x7, S) = some R3 → AW X RX7 2 cX7_crabs 95 [none, none, none, some (.int x3), some (.int x4), none, some (.int x6), some (.int x7)] [] S := by
      intro n
      induction n with
      | zero => intro x3 x4 x6 x7 S hR; cases hR
      | succ n ih =>
        intro x3 x4 x6 x7 S hR
        obtain ⟨q, hs, hR⟩ := g_bind hR
        have hs : f_X7_crabs_s95_b x3 x4 x6 x7 S = some q := hs
        unfold f_X7_crabs_s95_b at hs
        refine a_iload (pc := 95) dX7_crabs_95 rfl ?_
        refine a_iloadn (pc := 97) dX7_crabs_97 rfl rfl ?_
        refine a_icmp_ge (pc := 98) (tgt := 120) dX7_crabs_98 (by decide) (fun c1 => ?_) (fun c1 => ?_)
        · rw [if_pos c1] at hs
          obtain rfl := Option.some.inj hs
          obtain rfl := Option.some.inj hR
          refine a_mask [true, true, true, false, false, true, true, false] (L' := [none, none, none, none, none, none, some (.int x6), none]) rfl ?_
          exact E95 _ _ h
        · rw [if_neg c1] at hs
          refine a_iload (pc := 101) dX7_crabs_101 rfl ?_
          refine a_bipush (pc := 103) (v := (100 : Int32)) dX7_crabs_103 (by decide) ?_
          refine a_iload (pc := 105) dX7_crabs_105 rfl ?_
          refine a_isub (pc := 107) dX7_crabs_107 ?_
          refine a_imul (pc := 108) dX7_crabs_108 ?_
          refine a_bipush (pc := 109) (v := (100 : Int32)) dX7_crabs_109 (by decide) ?_
          refine a_idiv (pc := 111) dX7_crabs_111 (by decide) ?_
          obtain ⟨v2, ev2, hs⟩ := g_let hs
          refine a_nmI ev2 ?_
          refine a_istore (pc := 112) dX7_crabs_112 (Nat.le_of_ble_eq_true rfl) rfl (L' := [none, none, none, some (.int x3), some (.int x4), none, some (.int v2), some (.int x7)]) rfl ?_
          refine a_iinc (pc := 114) dX7_crabs_114 rfl (v := x7 + (1 : Int32)) rfl (Nat.le_of_ble_eq_true rfl) rfl (L' := [none, none, none, some (.int x3), some (.int x4), none, some (.int v2), some (.int (x7 + (1 : Int32)))]) rfl ?_
          refine a_goto (pc := 117) (tgt := 95) dX7_crabs_117 (by decide) ?_
          obtain rfl := Option.some.inj hs
          exact ih _ _ _ _ _ hR
    exact lp _ _ _ _ _ _ hR3
  have J73 : ∀ (x3 : Int32) (x4 : Int32) (t0 : Int32) (S : gSt), f_X7_crabs_j73 x3 x4 t0 S = some (r0, S0) → AW X RX7 2 cX7_crabs 73 [some (.ref (gad X 47)), none, none, some (.int x3), some (.int x4), none, none, none] [.int t0] S := by
    intro x3 x4 t0 S h
    unfold f_X7_crabs_j73 at h
    refine a_istore (pc := 73) dX7_crabs_73 (Nat.le_of_ble_eq_true rfl) rfl (L' := [some (.ref (gad X 47)), none, none, some (.int x3), some (.int x4), some (.int t0), none, none]) rfl ?_
    refine a_aloadn (pc := 75) dX7_crabs_75 rfl rfl ?_
    obtain ⟨S4, hc5, h⟩ := g_bind h
    refine a_invVv (pc := 76) (ok_X7_backs hc5) gyX7_backs vyX7_backs mlX7_182 sh_47 rfl (As := []) rfl rfl (by decide) (st := []) rfl (Nat.le_of_ble_eq_true rfl) dX7_crabs_76 ?_
    refine a_iload (pc := 79) dX7_crabs_79 rfl ?_
    refine a_if_eq (pc := 81) (tgt := 89) dX7_crabs_81 (by decide) (fun c6 => ?_) (fun c6 => ?_)
    · rw [if_pos c6] at h
      refine a_iconst (pc := 89) (v := (0 : Int32)) dX7_crabs_89 (by decide) ?_
      refine a_mask [false, true, true, true, true, false, true, true] (L' := [none, none, none, some (.int x3), some (.int x4), none, none, none]) rfl ?_
      exact J90 _ _ _ _ h
    · rw [if_neg c6] at h
      refine a_ldc (pc := 84) kX7_194 dX7_crabs_84 ?_
      refine a_goto (pc := 86) (tgt := 90) dX7_crabs_86 (by decide) ?_
      refine a_mask [false, true, true, true, true, false, true, true] (L' := [none, none, none, some (.int x3), some (.int x4), none, none, none]) rfl ?_
      exact J90 _ _ _ _ h
  refine a_aloadn (pc := 0) dX7_crabs_0 rfl rfl ?_
  refine a_iloadn (pc := 1) dX7_crabs_1 rfl rfl ?_
  obtain ⟨r9, S7, hc8, h⟩ := g_bind2 h
  refine a_invVi (pc := 2) (ok_X7_isWalker hc8) gyX7_isWalker vyX7_isWalker mlX7_82 sh_47 rfl (As := [.int p1]) rfl rfl (by decide) (st := []) rfl (Nat.le_of_ble_eq_true rfl) dX7_crabs_2 ?_
  refine a_if_eq (pc := 5) (tgt := 40) dX7_crabs_5 (by decide) (fun c10 => ?_) (fun c10 => ?_)
  · rw [if_pos c10] at h
    refine a_iconst (pc := 40) (v := (-1 : Int32)) dX7_crabs_40 (by decide) ?_
    obtain ⟨rfl, rfl⟩ := Prod.mk.inj (Option.some.inj h)
    exact a_iret hp dX7_crabs_41
  · rw [if_neg c10] at h
    refine a_iloadn (pc := 8) dX7_crabs_8 rfl rfl ?_
    obtain ⟨r13, S11, hc12, h⟩ := g_bind2 h
    refine a_invSi (pc := 9) (ok_X7_isCell hc12) gyX7_isCell syX7_isCell mlX7_65 (As := [.int p2]) rfl rfl (by decide) (st := []) rfl (Nat.le_of_ble_eq_true rfl) dX7_crabs_9 ?_
    refine a_if_eq (pc := 12) (tgt := 40) dX7_crabs_12 (by decide) (fun c14 => ?_) (fun c14 => ?_)
    · rw [if_pos c14] at h
      refine a_iconst (pc := 40) (v := (-1 : Int32)) dX7_crabs_40 (by decide) ?_
      obtain ⟨rfl, rfl⟩ := Prod.mk.inj (Option.some.inj h)
      exact a_iret hp dX7_crabs_41
    · rw [if_neg c14] at h
      refine a_iloadn (pc := 15) dX7_crabs_15 rfl rfl ?_
      refine a_i2l (pc := 16) dX7_crabs_16 ?_
      refine a_lconst (pc := 17) (v := (0 : Int64)) dX7_crabs_17 (by decide) ?_
      refine a_ldc2 (pc := 18) kX7_174 dX7_crabs_18 ?_
      obtain ⟨r17, S15, hc16, h⟩ := g_bind2 h
      refine a_invSi (pc := 21) (ok_X7_in hc16) gyX7_in syX7_in mlX7_51 (As := [.long (p3.toInt64), .long (0 : Int64), .long (48 : Int64)]) rfl rfl (by decide) (st := []) rfl (Nat.le_of_ble_eq_true rfl) dX7_crabs_21 ?_
      refine a_if_eq (pc := 24) (tgt := 40) dX7_crabs_24 (by decide) (fun c18 => ?_) (fun c18 => ?_)
      · rw [if_pos c18] at h
        refine a_iconst (pc := 40) (v := (-1 : Int32)) dX7_crabs_40 (by decide) ?_
        obtain ⟨rfl, rfl⟩ := Prod.mk.inj (Option.some.inj h)
        exact a_iret hp dX7_crabs_41
      · rw [if_neg c18] at h
        refine a_iload (pc := 27) dX7_crabs_27 rfl ?_
        refine a_i2l (pc := 29) dX7_crabs_29 ?_
        refine a_lconst (pc := 30) (v := (0 : Int64)) dX7_crabs_30 (by decide) ?_
        refine a_ldc2 (pc := 31) kX7_192 dX7_crabs_31 ?_
        obtain ⟨r21, S19, hc20, h⟩ := g_bind2 h
        refine a_invSi (pc := 34) (ok_X7_in hc20) gyX7_in syX7_in mlX7_51 (As := [.long (p4.toInt64), .long (0 : Int64), .long (100 : Int64)]) rfl rfl (by decide) (st := []) rfl (Nat.le_of_ble_eq_true rfl) dX7_crabs_34 ?_
        refine a_if_ne (pc := 37) (tgt := 42) dX7_crabs_37 (by decide) (fun c22 => ?_) (fun c22 => ?_)
        · rw [if_neg c22] at h
          refine a_aloadn (pc := 42) dX7_crabs_42 rfl rfl ?_
          obtain ⟨S23, hc24, h⟩ := g_bind h
          refine a_invVv (pc := 43) (ok_X7_asides hc24) gyX7_asides vyX7_asides mlX7_176 sh_47 rfl (As := []) rfl rfl (by decide) (st := []) rfl (Nat.le_of_ble_eq_true rfl) dX7_crabs_43 ?_
          refine a_aloadn (pc := 46) dX7_crabs_46 rfl rfl ?_
          refine a_iloadn (pc := 47) dX7_crabs_47 rfl rfl ?_
          obtain ⟨S25, hc26, h⟩ := g_bind h
          refine a_invVv (pc := 48) (ok_X7_goesOn hc26) gyX7_goesOn vyX7_goesOn mlX7_179 sh_47 rfl (As := [.int p3]) rfl rfl (by decide) (st := []) rfl (Nat.le_of_ble_eq_true rfl) dX7_crabs_48 ?_
          refine a_aloadn (pc := 51) dX7_crabs_51 rfl rfl ?_
          refine a_getA (pc := 52) flX7_7 sh_47 rfl dX7_crabs_52 ?_
          refine a_bipush (pc := 55) (v := (32 : Int32)) dX7_crabs_55 (by decide) ?_
          refine a_bipush (pc := 57) (v := (64 : Int32)) dX7_crabs_57 (by decide) ?_
          refine a_iloadn (pc := 59) dX7_crabs_59 rfl rfl ?_
          refine a_imul (pc := 60) dX7_crabs_60 ?_
          refine a_iadd (pc := 61) dX7_crabs_61 ?_
          refine a_iloadn (pc := 62) dX7_crabs_62 rfl rfl ?_
          refine a_iadd (pc := 63) dX7_crabs_63 ?_
          obtain ⟨hi27, h⟩ := g_if h
          refine a_iald (pc := 64) sh_48 hi27 dX7_crabs_64 ?_
          refine a_if_le (pc := 65) (tgt := 72) dX7_crabs_65 (by decide) (fun c28 => ?_) (fun c28 => ?_)
          · rw [if_pos c28] at h
            refine a_iconst (pc := 72) (v := (0 : Int32)) dX7_crabs_72 (by decide) ?_
            refine a_mask [true, false, false, true, true, true, true, true] (L' := [some (.ref (gad X 47)), none, none, some (.int p3), some (.int p4), none, none, none]) rfl ?_
            exact J73 _ _ _ _ h
          · rw [if_neg c28] at h
            refine a_iconst (pc := 68) (v := (1 : Int32)) dX7_crabs_68 (by decide) ?_
            refine a_goto (pc := 69) (tgt := 73) dX7_crabs_69 (by decide) ?_
            refine a_mask [true, false, false, true, true, true, true, true] (L' := [some (.ref (gad X 47)), none, none, some (.int p3), some (.int p4), none, none, none]) rfl ?_
            exact J73 _ _ _ _ h
        · rw [if_pos c22] at h
          refine a_iconst (pc := 40) (v := (-1 : Int32)) dX7_crabs_40 (by decide) ?_
          obtain ⟨rfl, rfl⟩ := Prod.mk.inj (Option.some.inj h)
          exact a_iret hp dX7_crabs_41
theorem dX7_image_0 : decode cX7_image 0 = .ok (.iconst 0, 1) := by decide +kernel
theorem dX7_image_1 : decode cX7_image 1 = .ok (.istore_n 1, 1) := by decide +kernel
theorem dX7_image_2 : decode cX7_image 2 = .ok (.iload_n 1, 1) := by decide +kernel
theorem dX7_image_3 : decode cX7_image 3 = .ok (.sipush 416, 3) := by decide +kernel
theorem dX7_image_6 : decode cX7_image 6 = .ok (.if_icmp .ge 21, 3) := by decide +kernel
theorem dX7_image_9 : decode cX7_image 9 = .ok (.aload_n 0, 1) := by decide +kernel
theorem dX7_image_10 : decode cX7_image 10 = .ok (.getfield 35, 3) := by decide +kernel
theorem dX7_image_13 : decode cX7_image 13 = .ok (.iload_n 1, 1) := by decide +kernel
theorem dX7_image_14 : decode cX7_image 14 = .ok (.aload_n 0, 1) := by decide +kernel
theorem dX7_image_15 : decode cX7_image 15 = .ok (.getfield 7, 3) := by decide +kernel
theorem dX7_image_18 : decode cX7_image 18 = .ok (.iload_n 1, 1) := by decide +kernel
theorem dX7_image_19 : decode cX7_image 19 = .ok (.iaload, 1) := by decide +kernel
theorem dX7_image_20 : decode cX7_image 20 = .ok (.iastore, 1) := by decide +kernel
theorem dX7_image_21 : decode cX7_image 21 = .ok (.iinc 1 1, 3) := by decide +kernel
theorem dX7_image_24 : decode cX7_image 24 = .ok (.goto (-22), 3) := by decide +kernel
theorem dX7_image_27 : decode cX7_image 27 = .ok (.iconst 0, 1) := by decide +kernel
theorem dX7_image_28 : decode cX7_image 28 = .ok (.istore_n 1, 1) := by decide +kernel
theorem dX7_image_29 : decode cX7_image 29 = .ok (.iload_n 1, 1) := by decide +kernel
theorem dX7_image_30 : decode cX7_image 30 = .ok (.sipush 3328, 3) := by decide +kernel
theorem dX7_image_33 : decode cX7_image 33 = .ok (.if_icmp .ge 25, 3) := by decide +kernel
theorem dX7_image_36 : decode cX7_image 36 = .ok (.aload_n 0, 1) := by decide +kernel
theorem dX7_image_37 : decode cX7_image 37 = .ok (.getfield 35, 3) := by decide +kernel
theorem dX7_image_40 : decode cX7_image 40 = .ok (.sipush 416, 3) := by decide +kernel
theorem dX7_image_43 : decode cX7_image 43 = .ok (.iload_n 1, 1) := by decide +kernel
theorem dX7_image_44 : decode cX7_image 44 = .ok (.iadd, 1) := by decide +kernel
theorem dX7_image_45 : decode cX7_image 45 = .ok (.aload_n 0, 1) := by decide +kernel
theorem dX7_image_46 : decode cX7_image 46 = .ok (.getfield 22, 3) := by decide +kernel
theorem dX7_image_49 : decode cX7_image 49 = .ok (.iload_n 1, 1) := by decide +kernel
theorem dX7_image_50 : decode cX7_image 50 = .ok (.iaload, 1) := by decide +kernel
theorem dX7_image_51 : decode cX7_image 51 = .ok (.iastore, 1) := by decide +kernel
theorem dX7_image_52 : decode cX7_image 52 = .ok (.iinc 1 1, 3) := by decide +kernel
theorem dX7_image_55 : decode cX7_image 55 = .ok (.goto (-26), 3) := by decide +kernel
theorem dX7_image_58 : decode cX7_image 58 = .ok (.aload_n 0, 1) := by decide +kernel
theorem dX7_image_59 : decode cX7_image 59 = .ok (.aload_n 0, 1) := by decide +kernel
theorem dX7_image_60 : decode cX7_image 60 = .ok (.getfield 69, 3) := by decide +kernel
theorem dX7_image_63 : decode cX7_image 63 = .ok (.putfield 195, 3) := by decide +kernel
theorem dX7_image_66 : decode cX7_image 66 = .ok (.aload_n 0, 1) := by decide +kernel
theorem dX7_image_67 : decode cX7_image 67 = .ok (.iconst 1, 1) := by decide +kernel
theorem dX7_image_68 : decode cX7_image 68 = .ok (.putfield 198, 3) := by decide +kernel
theorem dX7_image_71 : decode cX7_image 71 = .ok (.iconst 1, 1) := by decide +kernel
theorem dX7_image_72 : decode cX7_image 72 = .ok (.ireturn, 1) := by decide +kernel
def f_X7_image_s2_b (x1 : Int32) (S : gSt) : Option ((Int32 × gSt) ⊕ (gSt)) :=
(if (416 : Int32) ≤ x1 then
some (.inr (S))
else
if gin x1 416 then
(if gin x1 3744 then
gLet (gI S 56 x1.toNatClampNeg (S.1 48 x1.toNatClampNeg)) fun S4 =>
(some (.inl (x1 + (1 : Int32), S4))) else none) else none)
def f_X7_image_s2 : (Int32 × gSt) → Option ((Int32 × gSt) ⊕ (gSt)) := fun t => f_X7_image_s2_b t.1 t.2
def f_X7_image_s29_b (x1 : Int32) (S : gSt) : Option ((Int32 × gSt) ⊕ (gSt)) :=
(if (3328 : Int32) ≤ x1 then
some (.inr (S))
else
if gin x1 3328 then
(if gin ((416 : Int32) + x1) 3744 then
gLet (gI S 56 ((416 : Int32) + x1).toNatClampNeg (S.1 52 x1.toNatClampNeg)) fun S9 =>
(some (.inl (x1 + (1 : Int32), S9))) else none) else none)
def f_X7_image_s29 : (Int32 × gSt) → Option ((Int32 × gSt) ⊕ (gSt)) := fun t => f_X7_image_s29_b t.1 t.2
def f_X7_image (S : gSt) : Option (Int32 × gSt) :=
(gLoop (f_X7_image_s2) gFuel ((0 : Int32), S)).bind fun q5 => match q5 with
| S5 =>
(gLoop (f_X7_image_s29) gFuel ((0 : Int32), S5)).bind fun q10 => match q10 with
| S10 =>
gLet (gI S10 47 13 (S10.1 47 8)) fun S11 =>
gLet (gI S11 47 14 (1 : Int32)) fun S12 =>
some ((1 : Int32), S12)
set_option maxHeartbeats 4000000 in
set_option maxRecDepth 20000 in
theorem ok_X7_image {S S0 : gSt} {r0 : Int32}  (h : f_X7_image S = some (r0, S0)) : gCT yX7_image cX7_image 2 (some .int) 0 (fun w => [.ref (w.2.1 47)]) S (some (.int r0)) S0 := by
  refine gEnter (fun X => [some (.ref (gad X 47)), none]) (by decide) (fun X => ⟨rfl, rfl⟩) (fun w => Nat.le_of_ble_eq_true rfl) (fun X hp => ?_)
  show AW X RX7 0 cX7_image 0 [some (.ref (gad X 47)), none] [] S
  unfold f_X7_image at h
  refine a_iconst (pc := 0) (v := (0 : Int32)) dX7_image_0 (by decide) ?_
  refine a_istoren (pc := 1) dX7_image_1 rfl (Nat.le_of_ble_eq_true rfl) rfl (L' := [some (.ref (gad X 47)), some (.int (0 : Int32))]) rfl ?_
  obtain ⟨R5, hR5, h⟩ := g_bind h
  have E2 : ∀  (S5 : gSt), ((gLoop (f_X7_image_s29) gFuel ((0 : Int32), S5)).bind fun q10 => match q10 with | S10 => gLet (gI S10 47 13 (S10.1 47 8)) fun S11 => gLet (gI S11 47 14 (1 : Int32)) fun S12 => some ((1 : Int32), S12)) = some (r0, S0) → AW X RX7 0 cX7_image 27 [some (.ref (gad X 47)), none] [] S5 := by
    intro S5 h
    refine a_iconst (pc := 27) (v := (0 : Int32)) dX7_image_27 (by decide) ?_
    refine a_istoren (pc := 28) dX7_image_28 rfl (Nat.le_of_ble_eq_true rfl) rfl (L' := [some (.ref (gad X 47)), some (.int (0 : Int32))]) rfl ?_
    obtain ⟨R10, hR10, h⟩ := g_bind h
    have E29 : ∀  (S10 : gSt), (gLet (gI S10 47 13 (S10.1 47 8)) fun S11 => gLet (gI S11 47 14 (1 : Int32)) fun S12 => some ((1 : Int32), S12)) = some (r0, S0) → AW X RX7 0 cX7_image 58 [some (.ref (gad X 47)), none] [] S10 := by
      intro S10 h
      refine a_aloadn (pc := 58) dX7_image_58 rfl rfl ?_
      refine a_aloadn (pc := 59) dX7_image_59 rfl rfl ?_
      refine a_getI (pc := 60) flX7_69 sh_47 rfl dX7_image_60 ?_
      refine a_putI (pc := 63) flX7_195 sh_47 rfl rfl rfl dX7_image_63 ?_
      obtain ⟨S11, eS11, h⟩ := g_let h
      refine a_nmS eS11 ?_
      refine a_aloadn (pc := 66) dX7_image_66 rfl rfl ?_
      refine a_iconst (pc := 67) (v := (1 : Int32)) dX7_image_67 (by decide) ?_
      refine a_putI (pc := 68) flX7_198 sh_47 rfl rfl rfl dX7_image_68 ?_
      obtain ⟨S12, eS12, h⟩ := g_let h
      refine a_nmS eS12 ?_
      refine a_iconst (pc := 71) (v := (1 : Int32)) dX7_image_71 (by decide) ?_
      obtain ⟨rfl, rfl⟩ := Prod.mk.inj (Option.some.inj h)
      exact a_iret hp dX7_image_72
    have lp : ∀ (n : Nat) (x1 : Int32) (S : gSt), gLoop (f_X7_image_s29) n (x1, S) = some R10 → AW X RX7 0 cX7_image 29 [some (.ref (gad X 47)), some (.int x1)] [] S := by
      intro n
      induction n with
      | zero => intro x1 S hR; cases hR
      | succ n ih =>
        intro x1 S hR
        obtain ⟨q, hs, hR⟩ := g_bind hR
        have hs : f_X7_image_s29_b x1 S = some q := hs
        unfold f_X7_image_s29_b at hs
        refine a_iloadn (pc := 29) dX7_image_29 rfl rfl ?_
        refine a_sipush (pc := 30) (v := (3328 : Int32)) dX7_image_30 (by decide) ?_
        refine a_icmp_ge (pc := 33) (tgt := 58) dX7_image_33 (by decide) (fun c6 => ?_) (fun c6 => ?_)
        · rw [if_pos c6] at hs
          obtain rfl := Option.some.inj hs
          obtain rfl := Option.some.inj hR
          refine a_mask [true, false] (L' := [some (.ref (gad X 47)), none]) rfl ?_
          exact E29  _ h
        · rw [if_neg c6] at hs
          refine a_aloadn (pc := 36) dX7_image_36 rfl rfl ?_
          refine a_getA (pc := 37) flX7_35 sh_47 rfl dX7_image_37 ?_
          refine a_sipush (pc := 40) (v := (416 : Int32)) dX7_image_40 (by decide) ?_
          refine a_iloadn (pc := 43) dX7_image_43 rfl rfl ?_
          refine a_iadd (pc := 44) dX7_image_44 ?_
          refine a_aloadn (pc := 45) dX7_image_45 rfl rfl ?_
          refine a_getA (pc := 46) flX7_22 sh_47 rfl dX7_image_46 ?_
          refine a_iloadn (pc := 49) dX7_image_49 rfl rfl ?_
          obtain ⟨hi7, hs⟩ := g_if hs
          refine a_iald (pc := 50) sh_52 hi7 dX7_image_50 ?_
          obtain ⟨hi8, hs⟩ := g_if hs
          refine a_iast (pc := 51) sh_56 hi8 dX7_image_51 ?_
          obtain ⟨S9, eS9, hs⟩ := g_let hs
          refine a_nmS eS9 ?_
          refine a_iinc (pc := 52) dX7_image_52 rfl (v := x1 + (1 : Int32)) rfl (Nat.le_of_ble_eq_true rfl) rfl (L' := [some (.ref (gad X 47)), some (.int (x1 + (1 : Int32)))]) rfl ?_
          refine a_goto (pc := 55) (tgt := 29) dX7_image_55 (by decide) ?_
          obtain rfl := Option.some.inj hs
          exact ih _ _ hR
    exact lp _ _ _ hR10
  have lp : ∀ (n : Nat) (x1 : Int32) (S : gSt), gLoop (f_X7_image_s2) n (x1, S) = some R5 → AW X RX7 0 cX7_image 2 [some (.ref (gad X 47)), some (.int x1)] [] S := by
    intro n
    induction n with
    | zero => intro x1 S hR; cases hR
    | succ n ih =>
      intro x1 S hR
      obtain ⟨q, hs, hR⟩ := g_bind hR
      have hs : f_X7_image_s2_b x1 S = some q := hs
      unfold f_X7_image_s2_b at hs
      refine a_iloadn (pc := 2) dX7_image_2 rfl rfl ?_
      refine a_sipush (pc := 3) (v := (416 : Int32)) dX7_image_3 (by decide) ?_
      refine a_icmp_ge (pc := 6) (tgt := 27) dX7_image_6 (by decide) (fun c1 => ?_) (fun c1 => ?_)
      · rw [if_pos c1] at hs
        obtain rfl := Option.some.inj hs
        obtain rfl := Option.some.inj hR
        refine a_mask [true, false] (L' := [some (.ref (gad X 47)), none]) rfl ?_
        exact E2  _ h
      · rw [if_neg c1] at hs
        refine a_aloadn (pc := 9) dX7_image_9 rfl rfl ?_
        refine a_getA (pc := 10) flX7_35 sh_47 rfl dX7_image_10 ?_
        refine a_iloadn (pc := 13) dX7_image_13 rfl rfl ?_
        refine a_aloadn (pc := 14) dX7_image_14 rfl rfl ?_
        refine a_getA (pc := 15) flX7_7 sh_47 rfl dX7_image_15 ?_
        refine a_iloadn (pc := 18) dX7_image_18 rfl rfl ?_
        obtain ⟨hi2, hs⟩ := g_if hs
        refine a_iald (pc := 19) sh_48 hi2 dX7_image_19 ?_
        obtain ⟨hi3, hs⟩ := g_if hs
        refine a_iast (pc := 20) sh_56 hi3 dX7_image_20 ?_
        obtain ⟨S4, eS4, hs⟩ := g_let hs
        refine a_nmS eS4 ?_
        refine a_iinc (pc := 21) dX7_image_21 rfl (v := x1 + (1 : Int32)) rfl (Nat.le_of_ble_eq_true rfl) rfl (L' := [some (.ref (gad X 47)), some (.int (x1 + (1 : Int32)))]) rfl ?_
        refine a_goto (pc := 24) (tgt := 2) dX7_image_24 (by decide) ?_
        obtain rfl := Option.some.inj hs
        exact ih _ _ hR
  exact lp _ _ _ hR5
theorem dX7_restore_0 : decode cX7_restore 0 = .ok (.aload_n 0, 1) := by decide +kernel
theorem dX7_restore_1 : decode cX7_restore 1 = .ok (.getfield 198, 3) := by decide +kernel
theorem dX7_restore_4 : decode cX7_restore 4 = .ok (.ifCond .ne 6, 3) := by decide +kernel
theorem dX7_restore_7 : decode cX7_restore 7 = .ok (.bipush (-4), 2) := by decide +kernel
theorem dX7_restore_9 : decode cX7_restore 9 = .ok (.ireturn, 1) := by decide +kernel
theorem dX7_restore_10 : decode cX7_restore 10 = .ok (.iconst 0, 1) := by decide +kernel
theorem dX7_restore_11 : decode cX7_restore 11 = .ok (.istore_n 1, 1) := by decide +kernel
theorem dX7_restore_12 : decode cX7_restore 12 = .ok (.iload_n 1, 1) := by decide +kernel
theorem dX7_restore_13 : decode cX7_restore 13 = .ok (.sipush 416, 3) := by decide +kernel
theorem dX7_restore_16 : decode cX7_restore 16 = .ok (.if_icmp .ge 21, 3) := by decide +kernel
theorem dX7_restore_19 : decode cX7_restore 19 = .ok (.aload_n 0, 1) := by decide +kernel
theorem dX7_restore_20 : decode cX7_restore 20 = .ok (.getfield 7, 3) := by decide +kernel
theorem dX7_restore_23 : decode cX7_restore 23 = .ok (.iload_n 1, 1) := by decide +kernel
theorem dX7_restore_24 : decode cX7_restore 24 = .ok (.aload_n 0, 1) := by decide +kernel
theorem dX7_restore_25 : decode cX7_restore 25 = .ok (.getfield 35, 3) := by decide +kernel
theorem dX7_restore_28 : decode cX7_restore 28 = .ok (.iload_n 1, 1) := by decide +kernel
theorem dX7_restore_29 : decode cX7_restore 29 = .ok (.iaload, 1) := by decide +kernel
theorem dX7_restore_30 : decode cX7_restore 30 = .ok (.iastore, 1) := by decide +kernel
theorem dX7_restore_31 : decode cX7_restore 31 = .ok (.iinc 1 1, 3) := by decide +kernel
theorem dX7_restore_34 : decode cX7_restore 34 = .ok (.goto (-22), 3) := by decide +kernel
theorem dX7_restore_37 : decode cX7_restore 37 = .ok (.iconst 0, 1) := by decide +kernel
theorem dX7_restore_38 : decode cX7_restore 38 = .ok (.istore_n 1, 1) := by decide +kernel
theorem dX7_restore_39 : decode cX7_restore 39 = .ok (.iload_n 1, 1) := by decide +kernel
theorem dX7_restore_40 : decode cX7_restore 40 = .ok (.sipush 3328, 3) := by decide +kernel
theorem dX7_restore_43 : decode cX7_restore 43 = .ok (.if_icmp .ge 25, 3) := by decide +kernel
theorem dX7_restore_46 : decode cX7_restore 46 = .ok (.aload_n 0, 1) := by decide +kernel
theorem dX7_restore_47 : decode cX7_restore 47 = .ok (.getfield 22, 3) := by decide +kernel
theorem dX7_restore_50 : decode cX7_restore 50 = .ok (.iload_n 1, 1) := by decide +kernel
theorem dX7_restore_51 : decode cX7_restore 51 = .ok (.aload_n 0, 1) := by decide +kernel
theorem dX7_restore_52 : decode cX7_restore 52 = .ok (.getfield 35, 3) := by decide +kernel
theorem dX7_restore_55 : decode cX7_restore 55 = .ok (.sipush 416, 3) := by decide +kernel
theorem dX7_restore_58 : decode cX7_restore 58 = .ok (.iload_n 1, 1) := by decide +kernel
theorem dX7_restore_59 : decode cX7_restore 59 = .ok (.iadd, 1) := by decide +kernel
theorem dX7_restore_60 : decode cX7_restore 60 = .ok (.iaload, 1) := by decide +kernel
theorem dX7_restore_61 : decode cX7_restore 61 = .ok (.iastore, 1) := by decide +kernel
theorem dX7_restore_62 : decode cX7_restore 62 = .ok (.iinc 1 1, 3) := by decide +kernel
theorem dX7_restore_65 : decode cX7_restore 65 = .ok (.goto (-26), 3) := by decide +kernel
theorem dX7_restore_68 : decode cX7_restore 68 = .ok (.aload_n 0, 1) := by decide +kernel
theorem dX7_restore_69 : decode cX7_restore 69 = .ok (.aload_n 0, 1) := by decide +kernel
theorem dX7_restore_70 : decode cX7_restore 70 = .ok (.getfield 195, 3) := by decide +kernel
theorem dX7_restore_73 : decode cX7_restore 73 = .ok (.putfield 69, 3) := by decide +kernel
theorem dX7_restore_76 : decode cX7_restore 76 = .ok (.iconst 1, 1) := by decide +kernel
theorem dX7_restore_77 : decode cX7_restore 77 = .ok (.ireturn, 1) := by decide +kernel
def f_X7_restore_s12_b (x1 : Int32) (S : gSt) : Option ((Int32 × gSt) ⊕ (gSt)) :=
(if (416 : Int32) ≤ x1 then
some (.inr (S))
else
if gin x1 3744 then
(if gin x1 416 then
gLet (gI S 48 x1.toNatClampNeg (S.1 56 x1.toNatClampNeg)) fun S5 =>
(some (.inl (x1 + (1 : Int32), S5))) else none) else none)
def f_X7_restore_s12 : (Int32 × gSt) → Option ((Int32 × gSt) ⊕ (gSt)) := fun t => f_X7_restore_s12_b t.1 t.2
def f_X7_restore_s39_b (x1 : Int32) (S : gSt) : Option ((Int32 × gSt) ⊕ (gSt)) :=
(if (3328 : Int32) ≤ x1 then
some (.inr (S))
else
if gin ((416 : Int32) + x1) 3744 then
(if gin x1 3328 then
gLet (gI S 52 x1.toNatClampNeg (S.1 56 ((416 : Int32) + x1).toNatClampNeg)) fun S10 =>
(some (.inl (x1 + (1 : Int32), S10))) else none) else none)
def f_X7_restore_s39 : (Int32 × gSt) → Option ((Int32 × gSt) ⊕ (gSt)) := fun t => f_X7_restore_s39_b t.1 t.2
def f_X7_restore (S : gSt) : Option (Int32 × gSt) :=
(if (S.1 47 14) = 0 then
some ((-4 : Int32), S)
else
(gLoop (f_X7_restore_s12) gFuel ((0 : Int32), S)).bind fun q6 => match q6 with
| S6 =>
(gLoop (f_X7_restore_s39) gFuel ((0 : Int32), S6)).bind fun q11 => match q11 with
| S11 =>
gLet (gI S11 47 8 (S11.1 47 13)) fun S12 =>
some ((1 : Int32), S12))
set_option maxHeartbeats 4000000 in
set_option maxRecDepth 20000 in
theorem ok_X7_restore {S S0 : gSt} {r0 : Int32}  (h : f_X7_restore S = some (r0, S0)) : gCT yX7_restore cX7_restore 2 (some .int) 0 (fun w => [.ref (w.2.1 47)]) S (some (.int r0)) S0 := by
  refine gEnter (fun X => [some (.ref (gad X 47)), none]) (by decide) (fun X => ⟨rfl, rfl⟩) (fun w => Nat.le_of_ble_eq_true rfl) (fun X hp => ?_)
  show AW X RX7 0 cX7_restore 0 [some (.ref (gad X 47)), none] [] S
  unfold f_X7_restore at h
  refine a_aloadn (pc := 0) dX7_restore_0 rfl rfl ?_
  refine a_getI (pc := 1) flX7_198 sh_47 rfl dX7_restore_1 ?_
  refine a_if_ne (pc := 4) (tgt := 10) dX7_restore_4 (by decide) (fun c1 => ?_) (fun c1 => ?_)
  · rw [if_neg c1] at h
    refine a_iconst (pc := 10) (v := (0 : Int32)) dX7_restore_10 (by decide) ?_
    refine a_istoren (pc := 11) dX7_restore_11 rfl (Nat.le_of_ble_eq_true rfl) rfl (L' := [some (.ref (gad X 47)), some (.int (0 : Int32))]) rfl ?_
    obtain ⟨R6, hR6, h⟩ := g_bind h
    have E12 : ∀  (S6 : gSt), ((gLoop (f_X7_restore_s39) gFuel ((0 : Int32), S6)).bind fun q11 => match q11 with | S11 => gLet (gI S11 47 8 (S11.1 47 13)) fun S12 => some ((1 : Int32), S12)) = some (r0, S0) → AW X RX7 0 cX7_restore 37 [some (.ref (gad X 47)), none] [] S6 := by
      intro S6 h
      refine a_iconst (pc := 37) (v := (0 : Int32)) dX7_restore_37 (by decide) ?_
      refine a_istoren (pc := 38) dX7_restore_38 rfl (Nat.le_of_ble_eq_true rfl) rfl (L' := [some (.ref (gad X 47)), some (.int (0 : Int32))]) rfl ?_
      obtain ⟨R11, hR11, h⟩ := g_bind h
      have E39 : ∀  (S11 : gSt), (gLet (gI S11 47 8 (S11.1 47 13)) fun S12 => some ((1 : Int32), S12)) = some (r0, S0) → AW X RX7 0 cX7_restore 68 [some (.ref (gad X 47)), none] [] S11 := by
        intro S11 h
        refine a_aloadn (pc := 68) dX7_restore_68 rfl rfl ?_
        refine a_aloadn (pc := 69) dX7_restore_69 rfl rfl ?_
        refine a_getI (pc := 70) flX7_195 sh_47 rfl dX7_restore_70 ?_
        refine a_putI (pc := 73) flX7_69 sh_47 rfl rfl rfl dX7_restore_73 ?_
        obtain ⟨S12, eS12, h⟩ := g_let h
        refine a_nmS eS12 ?_
        refine a_iconst (pc := 76) (v := (1 : Int32)) dX7_restore_76 (by decide) ?_
        obtain ⟨rfl, rfl⟩ := Prod.mk.inj (Option.some.inj h)
        exact a_iret hp dX7_restore_77
      have lp : ∀ (n : Nat) (x1 : Int32) (S : gSt), gLoop (f_X7_restore_s39) n (x1, S) = some R11 → AW X RX7 0 cX7_restore 39 [some (.ref (gad X 47)), some (.int x1)] [] S := by
        intro n
        induction n with
        | zero => intro x1 S hR; cases hR
        | succ n ih =>
          intro x1 S hR
          obtain ⟨q, hs, hR⟩ := g_bind hR
          have hs : f_X7_restore_s39_b x1 S = some q := hs
          unfold f_X7_restore_s39_b at hs
          refine a_iloadn (pc := 39) dX7_restore_39 rfl rfl ?_
          refine a_sipush (pc := 40) (v := (3328 : Int32)) dX7_restore_40 (by decide) ?_
          refine a_icmp_ge (pc := 43) (tgt := 68) dX7_restore_43 (by decide) (fun c7 => ?_) (fun c7 => ?_)
          · rw [if_pos c7] at hs
            obtain rfl := Option.some.inj hs
            obtain rfl := Option.some.inj hR
            refine a_mask [true, false] (L' := [some (.ref (gad X 47)), none]) rfl ?_
            exact E39  _ h
          · rw [if_neg c7] at hs
            refine a_aloadn (pc := 46) dX7_restore_46 rfl rfl ?_
            refine a_getA (pc := 47) flX7_22 sh_47 rfl dX7_restore_47 ?_
            refine a_iloadn (pc := 50) dX7_restore_50 rfl rfl ?_
            refine a_aloadn (pc := 51) dX7_restore_51 rfl rfl ?_
            refine a_getA (pc := 52) flX7_35 sh_47 rfl dX7_restore_52 ?_
            refine a_sipush (pc := 55) (v := (416 : Int32)) dX7_restore_55 (by decide) ?_
            refine a_iloadn (pc := 58) dX7_restore_58 rfl rfl ?_
            refine a_iadd (pc := 59) dX7_restore_59 ?_
            obtain ⟨hi8, hs⟩ := g_if hs
            refine a_iald (pc := 60) sh_56 hi8 dX7_restore_60 ?_
            obtain ⟨hi9, hs⟩ := g_if hs
            refine a_iast (pc := 61) sh_52 hi9 dX7_restore_61 ?_
            obtain ⟨S10, eS10, hs⟩ := g_let hs
            refine a_nmS eS10 ?_
            refine a_iinc (pc := 62) dX7_restore_62 rfl (v := x1 + (1 : Int32)) rfl (Nat.le_of_ble_eq_true rfl) rfl (L' := [some (.ref (gad X 47)), some (.int (x1 + (1 : Int32)))]) rfl ?_
            refine a_goto (pc := 65) (tgt := 39) dX7_restore_65 (by decide) ?_
            obtain rfl := Option.some.inj hs
            exact ih _ _ hR
      exact lp _ _ _ hR11
    have lp : ∀ (n : Nat) (x1 : Int32) (S : gSt), gLoop (f_X7_restore_s12) n (x1, S) = some R6 → AW X RX7 0 cX7_restore 12 [some (.ref (gad X 47)), some (.int x1)] [] S := by
      intro n
      induction n with
      | zero => intro x1 S hR; cases hR
      | succ n ih =>
        intro x1 S hR
        obtain ⟨q, hs, hR⟩ := g_bind hR
        have hs : f_X7_restore_s12_b x1 S = some q := hs
        unfold f_X7_restore_s12_b at hs
        refine a_iloadn (pc := 12) dX7_restore_12 rfl rfl ?_
        refine a_sipush (pc := 13) (v := (416 : Int32)) dX7_restore_13 (by decide) ?_
        refine a_icmp_ge (pc := 16) (tgt := 37) dX7_restore_16 (by decide) (fun c2 => ?_) (fun c2 => ?_)
        · rw [if_pos c2] at hs
          obtain rfl := Option.some.inj hs
          obtain rfl := Option.some.inj hR
          refine a_mask [true, false] (L' := [some (.ref (gad X 47)), none]) rfl ?_
          exact E12  _ h
        · rw [if_neg c2] at hs
          refine a_aloadn (pc := 19) dX7_restore_19 rfl rfl ?_
          refine a_getA (pc := 20) flX7_7 sh_47 rfl dX7_restore_20 ?_
          refine a_iloadn (pc := 23) dX7_restore_23 rfl rfl ?_
          refine a_aloadn (pc := 24) dX7_restore_24 rfl rfl ?_
          refine a_getA (pc := 25) flX7_35 sh_47 rfl dX7_restore_25 ?_
          refine a_iloadn (pc := 28) dX7_restore_28 rfl rfl ?_
          obtain ⟨hi3, hs⟩ := g_if hs
          refine a_iald (pc := 29) sh_56 hi3 dX7_restore_29 ?_
          obtain ⟨hi4, hs⟩ := g_if hs
          refine a_iast (pc := 30) sh_48 hi4 dX7_restore_30 ?_
          obtain ⟨S5, eS5, hs⟩ := g_let hs
          refine a_nmS eS5 ?_
          refine a_iinc (pc := 31) dX7_restore_31 rfl (v := x1 + (1 : Int32)) rfl (Nat.le_of_ble_eq_true rfl) rfl (L' := [some (.ref (gad X 47)), some (.int (x1 + (1 : Int32)))]) rfl ?_
          refine a_goto (pc := 34) (tgt := 12) dX7_restore_34 (by decide) ?_
          obtain rfl := Option.some.inj hs
          exact ih _ _ hR
    exact lp _ _ _ hR6
  · rw [if_pos c1] at h
    refine a_bipush (pc := 7) (v := (-4 : Int32)) dX7_restore_7 (by decide) ?_
    obtain ⟨rfl, rfl⟩ := Prod.mk.inj (Option.some.inj h)
    exact a_iret hp dX7_restore_9
theorem dX7_isSheet_0 : decode cX7_isSheet 0 = .ok (.iload_n 0, 1) := by decide +kernel
theorem dX7_isSheet_1 : decode cX7_isSheet 1 = .ok (.i2l, 1) := by decide +kernel
theorem dX7_isSheet_2 : decode cX7_isSheet 2 = .ok (.lconst 0, 1) := by decide +kernel
theorem dX7_isSheet_3 : decode cX7_isSheet 3 = .ok (.ldc2_w 98, 3) := by decide +kernel
theorem dX7_isSheet_6 : decode cX7_isSheet 6 = .ok (.invokestatic 51, 3) := by decide +kernel
theorem dX7_isSheet_9 : decode cX7_isSheet 9 = .ok (.ireturn, 1) := by decide +kernel
def f_X7_isSheet (p0 : Int32) (S : gSt) : Option (Int32 × gSt) :=
gBind2 (f_X7_in (p0.toInt64) (0 : Int64) (3 : Int64) S) fun r3 S1 =>
if gbool r3 then
some (r3, S1) else none
set_option maxHeartbeats 4000000 in
set_option maxRecDepth 20000 in
theorem ok_X7_isSheet {p0 : Int32} {S S0 : gSt} {r0 : Int32}  (h : f_X7_isSheet p0 S = some (r0, S0)) : gCT yX7_isSheet cX7_isSheet 1 (some .boolean) 1 (fun w => [.int p0]) S (some (.int r0)) S0 := by
  refine gEnter (fun X => [some (.int p0)]) (by decide) (fun X => ⟨rfl, rfl⟩) (fun w => Nat.le_of_ble_eq_true rfl) (fun X hp => ?_)
  show AW X RX7 1 cX7_isSheet 0 [some (.int p0)] [] S
  unfold f_X7_isSheet at h
  refine a_iloadn (pc := 0) dX7_isSheet_0 rfl rfl ?_
  refine a_i2l (pc := 1) dX7_isSheet_1 ?_
  refine a_lconst (pc := 2) (v := (0 : Int64)) dX7_isSheet_2 (by decide) ?_
  refine a_ldc2 (pc := 3) kX7_98 dX7_isSheet_3 ?_
  obtain ⟨r3, S1, hc2, h⟩ := g_bind2 h
  refine a_invSi (pc := 6) (ok_X7_in hc2) gyX7_in syX7_in mlX7_51 (As := [.long (p0.toInt64), .long (0 : Int64), .long (3 : Int64)]) rfl rfl (by decide) (st := []) rfl (Nat.le_of_ble_eq_true rfl) dX7_isSheet_6 ?_
  obtain ⟨hb4, h⟩ := g_if h
  obtain ⟨rfl, rfl⟩ := Prod.mk.inj (Option.some.inj h)
  exact a_zret hp hb4  dX7_isSheet_9
theorem dX7_isLane_0 : decode cX7_isLane 0 = .ok (.iload_n 0, 1) := by decide +kernel
theorem dX7_isLane_1 : decode cX7_isLane 1 = .ok (.i2l, 1) := by decide +kernel
theorem dX7_isLane_2 : decode cX7_isLane 2 = .ok (.lconst 0, 1) := by decide +kernel
theorem dX7_isLane_3 : decode cX7_isLane 3 = .ok (.ldc2_w 98, 3) := by decide +kernel
theorem dX7_isLane_6 : decode cX7_isLane 6 = .ok (.invokestatic 51, 3) := by decide +kernel
theorem dX7_isLane_9 : decode cX7_isLane 9 = .ok (.ireturn, 1) := by decide +kernel
def f_X7_isLane (p0 : Int32) (S : gSt) : Option (Int32 × gSt) :=
gBind2 (f_X7_in (p0.toInt64) (0 : Int64) (3 : Int64) S) fun r3 S1 =>
if gbool r3 then
some (r3, S1) else none
set_option maxHeartbeats 4000000 in
set_option maxRecDepth 20000 in
theorem ok_X7_isLane {p0 : Int32} {S S0 : gSt} {r0 : Int32}  (h : f_X7_isLane p0 S = some (r0, S0)) : gCT yX7_isLane cX7_isLane 1 (some .boolean) 1 (fun w => [.int p0]) S (some (.int r0)) S0 := by
  refine gEnter (fun X => [some (.int p0)]) (by decide) (fun X => ⟨rfl, rfl⟩) (fun w => Nat.le_of_ble_eq_true rfl) (fun X hp => ?_)
  show AW X RX7 1 cX7_isLane 0 [some (.int p0)] [] S
  unfold f_X7_isLane at h
  refine a_iloadn (pc := 0) dX7_isLane_0 rfl rfl ?_
  refine a_i2l (pc := 1) dX7_isLane_1 ?_
  refine a_lconst (pc := 2) (v := (0 : Int64)) dX7_isLane_2 (by decide) ?_
  refine a_ldc2 (pc := 3) kX7_98 dX7_isLane_3 ?_
  obtain ⟨r3, S1, hc2, h⟩ := g_bind2 h
  refine a_invSi (pc := 6) (ok_X7_in hc2) gyX7_in syX7_in mlX7_51 (As := [.long (p0.toInt64), .long (0 : Int64), .long (3 : Int64)]) rfl rfl (by decide) (st := []) rfl (Nat.le_of_ble_eq_true rfl) dX7_isLane_6 ?_
  obtain ⟨hb4, h⟩ := g_if h
  obtain ⟨rfl, rfl⟩ := Prod.mk.inj (Option.some.inj h)
  exact a_zret hp hb4  dX7_isLane_9
theorem dX7_why_0 : decode cX7_why 0 = .ok (.aload_n 0, 1) := by decide +kernel
theorem dX7_why_1 : decode cX7_why 1 = .ok (.getfield 38, 3) := by decide +kernel
theorem dX7_why_4 : decode cX7_why 4 = .ok (.iload_n 1, 1) := by decide +kernel
theorem dX7_why_5 : decode cX7_why 5 = .ok (.iaload, 1) := by decide +kernel
theorem dX7_why_6 : decode cX7_why 6 = .ok (.ifCond .ge 6, 3) := by decide +kernel
theorem dX7_why_9 : decode cX7_why 9 = .ok (.bipush (-11), 2) := by decide +kernel
theorem dX7_why_11 : decode cX7_why 11 = .ok (.ireturn, 1) := by decide +kernel
theorem dX7_why_12 : decode cX7_why 12 = .ok (.aload_n 0, 1) := by decide +kernel
theorem dX7_why_13 : decode cX7_why 13 = .ok (.getfield 38, 3) := by decide +kernel
theorem dX7_why_16 : decode cX7_why 16 = .ok (.iload_n 1, 1) := by decide +kernel
theorem dX7_why_17 : decode cX7_why 17 = .ok (.iaload, 1) := by decide +kernel
theorem dX7_why_18 : decode cX7_why 18 = .ok (.iload_n 2, 1) := by decide +kernel
theorem dX7_why_19 : decode cX7_why 19 = .ok (.if_icmp .eq 6, 3) := by decide +kernel
theorem dX7_why_22 : decode cX7_why 22 = .ok (.bipush (-12), 2) := by decide +kernel
theorem dX7_why_24 : decode cX7_why 24 = .ok (.ireturn, 1) := by decide +kernel
theorem dX7_why_25 : decode cX7_why 25 = .ok (.iload_n 3, 1) := by decide +kernel
theorem dX7_why_26 : decode cX7_why 26 = .ok (.ifCond .lt 25, 3) := by decide +kernel
theorem dX7_why_29 : decode cX7_why 29 = .ok (.iload 4, 2) := by decide +kernel
theorem dX7_why_31 : decode cX7_why 31 = .ok (.ifCond .lt 20, 3) := by decide +kernel
theorem dX7_why_34 : decode cX7_why 34 = .ok (.iload_n 3, 1) := by decide +kernel
theorem dX7_why_35 : decode cX7_why 35 = .ok (.i2l, 1) := by decide +kernel
theorem dX7_why_36 : decode cX7_why 36 = .ok (.iload 4, 2) := by decide +kernel
theorem dX7_why_38 : decode cX7_why 38 = .ok (.i2l, 1) := by decide +kernel
theorem dX7_why_39 : decode cX7_why 39 = .ok (.ladd, 1) := by decide +kernel
theorem dX7_why_40 : decode cX7_why 40 = .ok (.aload_n 0, 1) := by decide +kernel
theorem dX7_why_41 : decode cX7_why 41 = .ok (.getfield 41, 3) := by decide +kernel
theorem dX7_why_44 : decode cX7_why 44 = .ok (.iload_n 1, 1) := by decide +kernel
theorem dX7_why_45 : decode cX7_why 45 = .ok (.iaload, 1) := by decide +kernel
theorem dX7_why_46 : decode cX7_why 46 = .ok (.i2l, 1) := by decide +kernel
theorem dX7_why_47 : decode cX7_why 47 = .ok (.lcmp, 1) := by decide +kernel
theorem dX7_why_48 : decode cX7_why 48 = .ok (.ifCond .le 8, 3) := by decide +kernel
theorem dX7_why_51 : decode cX7_why 51 = .ok (.bipush (-13), 2) := by decide +kernel
theorem dX7_why_53 : decode cX7_why 53 = .ok (.goto 4, 3) := by decide +kernel
theorem dX7_why_56 : decode cX7_why 56 = .ok (.iconst 0, 1) := by decide +kernel
theorem dX7_why_57 : decode cX7_why 57 = .ok (.ireturn, 1) := by decide +kernel
def f_X7_why (p1 : Int32) (p2 : Int32) (p3 : Int32) (p4 : Int32) (S : gSt) : Option (Int32 × gSt) :=
if gin p1 4 then
((if 0 ≤ (S.1 57 p1.toNatClampNeg) then
if gin p1 4 then
((if (S.1 57 p1.toNatClampNeg) = p2 then
(if p3 < 0 then
some ((-13 : Int32), S)
else
(if p4 < 0 then
some ((-13 : Int32), S)
else
if gin p1 4 then
((if (lg_cmp ((p3.toInt64) + (p4.toInt64)) ((S.1 58 p1.toNatClampNeg).toInt64)) ≤ 0 then
some ((0 : Int32), S)
else
some ((-13 : Int32), S))) else none))
else
some ((-12 : Int32), S))) else none
else
some ((-11 : Int32), S))) else none
set_option maxHeartbeats 4000000 in
set_option maxRecDepth 20000 in
theorem ok_X7_why {p1 : Int32} {p2 : Int32} {p3 : Int32} {p4 : Int32} {S S0 : gSt} {r0 : Int32}  (h : f_X7_why p1 p2 p3 p4 S = some (r0, S0)) : gCT yX7_why cX7_why 5 (some .int) 0 (fun w => [.ref (w.2.1 47), .int p1, .int p2, .int p3, .int p4]) S (some (.int r0)) S0 := by
  refine gEnter (fun X => [some (.ref (gad X 47)), some (.int p1), some (.int p2), some (.int p3), some (.int p4)]) (by decide) (fun X => ⟨rfl, rfl⟩) (fun w => Nat.le_of_ble_eq_true rfl) (fun X hp => ?_)
  show AW X RX7 0 cX7_why 0 [some (.ref (gad X 47)), some (.int p1), some (.int p2), some (.int p3), some (.int p4)] [] S
  unfold f_X7_why at h
  refine a_aloadn (pc := 0) dX7_why_0 rfl rfl ?_
  refine a_getA (pc := 1) flX7_38 sh_47 rfl dX7_why_1 ?_
  refine a_iloadn (pc := 4) dX7_why_4 rfl rfl ?_
  obtain ⟨hi1, h⟩ := g_if h
  refine a_iald (pc := 5) sh_57 hi1 dX7_why_5 ?_
  refine a_if_ge (pc := 6) (tgt := 12) dX7_why_6 (by decide) (fun c2 => ?_) (fun c2 => ?_)
  · rw [if_pos c2] at h
    refine a_aloadn (pc := 12) dX7_why_12 rfl rfl ?_
    refine a_getA (pc := 13) flX7_38 sh_47 rfl dX7_why_13 ?_
    refine a_iloadn (pc := 16) dX7_why_16 rfl rfl ?_
    obtain ⟨hi3, h⟩ := g_if h
    refine a_iald (pc := 17) sh_57 hi3 dX7_why_17 ?_
    refine a_iloadn (pc := 18) dX7_why_18 rfl rfl ?_
    refine a_icmp_eq (pc := 19) (tgt := 25) dX7_why_19 (by decide) (fun c4 => ?_) (fun c4 => ?_)
    · rw [if_pos c4] at h
      refine a_iloadn (pc := 25) dX7_why_25 rfl rfl ?_
      refine a_if_lt (pc := 26) (tgt := 51) dX7_why_26 (by decide) (fun c5 => ?_) (fun c5 => ?_)
      · rw [if_pos c5] at h
        refine a_bipush (pc := 51) (v := (-13 : Int32)) dX7_why_51 (by decide) ?_
        refine a_goto (pc := 53) (tgt := 57) dX7_why_53 (by decide) ?_
        obtain ⟨rfl, rfl⟩ := Prod.mk.inj (Option.some.inj h)
        exact a_iret hp dX7_why_57
      · rw [if_neg c5] at h
        refine a_iload (pc := 29) dX7_why_29 rfl ?_
        refine a_if_lt (pc := 31) (tgt := 51) dX7_why_31 (by decide) (fun c6 => ?_) (fun c6 => ?_)
        · rw [if_pos c6] at h
          refine a_bipush (pc := 51) (v := (-13 : Int32)) dX7_why_51 (by decide) ?_
          refine a_goto (pc := 53) (tgt := 57) dX7_why_53 (by decide) ?_
          obtain ⟨rfl, rfl⟩ := Prod.mk.inj (Option.some.inj h)
          exact a_iret hp dX7_why_57
        · rw [if_neg c6] at h
          refine a_iloadn (pc := 34) dX7_why_34 rfl rfl ?_
          refine a_i2l (pc := 35) dX7_why_35 ?_
          refine a_iload (pc := 36) dX7_why_36 rfl ?_
          refine a_i2l (pc := 38) dX7_why_38 ?_
          refine a_ladd (pc := 39) dX7_why_39 ?_
          refine a_aloadn (pc := 40) dX7_why_40 rfl rfl ?_
          refine a_getA (pc := 41) flX7_41 sh_47 rfl dX7_why_41 ?_
          refine a_iloadn (pc := 44) dX7_why_44 rfl rfl ?_
          obtain ⟨hi7, h⟩ := g_if h
          refine a_iald (pc := 45) sh_58 hi7 dX7_why_45 ?_
          refine a_i2l (pc := 46) dX7_why_46 ?_
          refine a_lcmp (pc := 47) dX7_why_47 ?_
          refine a_if_le (pc := 48) (tgt := 56) dX7_why_48 (by decide) (fun c8 => ?_) (fun c8 => ?_)
          · rw [if_pos c8] at h
            refine a_iconst (pc := 56) (v := (0 : Int32)) dX7_why_56 (by decide) ?_
            obtain ⟨rfl, rfl⟩ := Prod.mk.inj (Option.some.inj h)
            exact a_iret hp dX7_why_57
          · rw [if_neg c8] at h
            refine a_bipush (pc := 51) (v := (-13 : Int32)) dX7_why_51 (by decide) ?_
            refine a_goto (pc := 53) (tgt := 57) dX7_why_53 (by decide) ?_
            obtain ⟨rfl, rfl⟩ := Prod.mk.inj (Option.some.inj h)
            exact a_iret hp dX7_why_57
    · rw [if_neg c4] at h
      refine a_bipush (pc := 22) (v := (-12 : Int32)) dX7_why_22 (by decide) ?_
      obtain ⟨rfl, rfl⟩ := Prod.mk.inj (Option.some.inj h)
      exact a_iret hp dX7_why_24
  · rw [if_neg c2] at h
    refine a_bipush (pc := 9) (v := (-11 : Int32)) dX7_why_9 (by decide) ?_
    obtain ⟨rfl, rfl⟩ := Prod.mk.inj (Option.some.inj h)
    exact a_iret hp dX7_why_11
theorem dX7_raked_0 : decode cX7_raked 0 = .ok (.iload_n 1, 1) := by decide +kernel
theorem dX7_raked_1 : decode cX7_raked 1 = .ok (.invokestatic 201, 3) := by decide +kernel
theorem dX7_raked_4 : decode cX7_raked 4 = .ok (.ifCond .eq 21, 3) := by decide +kernel
theorem dX7_raked_7 : decode cX7_raked 7 = .ok (.iload_n 2, 1) := by decide +kernel
theorem dX7_raked_8 : decode cX7_raked 8 = .ok (.invokestatic 204, 3) := by decide +kernel
theorem dX7_raked_11 : decode cX7_raked 11 = .ok (.ifCond .eq 14, 3) := by decide +kernel
theorem dX7_raked_14 : decode cX7_raked 14 = .ok (.iload 4, 2) := by decide +kernel
theorem dX7_raked_16 : decode cX7_raked 16 = .ok (.i2l, 1) := by decide +kernel
theorem dX7_raked_17 : decode cX7_raked 17 = .ok (.lconst 0, 1) := by decide +kernel
theorem dX7_raked_18 : decode cX7_raked 18 = .ok (.lconst 1, 1) := by decide +kernel
theorem dX7_raked_19 : decode cX7_raked 19 = .ok (.invokestatic 51, 3) := by decide +kernel
theorem dX7_raked_22 : decode cX7_raked 22 = .ok (.ifCond .ne 5, 3) := by decide +kernel
theorem dX7_raked_25 : decode cX7_raked 25 = .ok (.iconst (-1), 1) := by decide +kernel
theorem dX7_raked_26 : decode cX7_raked 26 = .ok (.ireturn, 1) := by decide +kernel
theorem dX7_raked_27 : decode cX7_raked 27 = .ok (.aload_n 0, 1) := by decide +kernel
theorem dX7_raked_28 : decode cX7_raked 28 = .ok (.iload_n 1, 1) := by decide +kernel
theorem dX7_raked_29 : decode cX7_raked 29 = .ok (.iload_n 2, 1) := by decide +kernel
theorem dX7_raked_30 : decode cX7_raked 30 = .ok (.iload_n 3, 1) := by decide +kernel
theorem dX7_raked_31 : decode cX7_raked 31 = .ok (.aload_n 0, 1) := by decide +kernel
theorem dX7_raked_32 : decode cX7_raked 32 = .ok (.getfield 7, 3) := by decide +kernel
theorem dX7_raked_35 : decode cX7_raked 35 = .ok (.iconst 5, 1) := by decide +kernel
theorem dX7_raked_36 : decode cX7_raked 36 = .ok (.iaload, 1) := by decide +kernel
theorem dX7_raked_37 : decode cX7_raked 37 = .ok (.invokevirtual 207, 3) := by decide +kernel
theorem dX7_raked_40 : decode cX7_raked 40 = .ok (.istore 5, 2) := by decide +kernel
theorem dX7_raked_42 : decode cX7_raked 42 = .ok (.iload 5, 2) := by decide +kernel
theorem dX7_raked_44 : decode cX7_raked 44 = .ok (.ifCond .ge 6, 3) := by decide +kernel
theorem dX7_raked_47 : decode cX7_raked 47 = .ok (.iload 5, 2) := by decide +kernel
theorem dX7_raked_49 : decode cX7_raked 49 = .ok (.ireturn, 1) := by decide +kernel
theorem dX7_raked_50 : decode cX7_raked 50 = .ok (.bipush 24, 2) := by decide +kernel
theorem dX7_raked_52 : decode cX7_raked 52 = .ok (.iload_n 1, 1) := by decide +kernel
theorem dX7_raked_53 : decode cX7_raked 53 = .ok (.imul, 1) := by decide +kernel
theorem dX7_raked_54 : decode cX7_raked 54 = .ok (.iload_n 3, 1) := by decide +kernel
theorem dX7_raked_55 : decode cX7_raked 55 = .ok (.iadd, 1) := by decide +kernel
theorem dX7_raked_56 : decode cX7_raked 56 = .ok (.istore 6, 2) := by decide +kernel
theorem dX7_raked_58 : decode cX7_raked 58 = .ok (.iconst 0, 1) := by decide +kernel
theorem dX7_raked_59 : decode cX7_raked 59 = .ok (.istore 7, 2) := by decide +kernel
theorem dX7_raked_61 : decode cX7_raked 61 = .ok (.iload 7, 2) := by decide +kernel
theorem dX7_raked_63 : decode cX7_raked 63 = .ok (.aload_n 0, 1) := by decide +kernel
theorem dX7_raked_64 : decode cX7_raked 64 = .ok (.getfield 7, 3) := by decide +kernel
theorem dX7_raked_67 : decode cX7_raked 67 = .ok (.iconst 5, 1) := by decide +kernel
theorem dX7_raked_68 : decode cX7_raked 68 = .ok (.iaload, 1) := by decide +kernel
theorem dX7_raked_69 : decode cX7_raked 69 = .ok (.if_icmp .ge 32, 3) := by decide +kernel
theorem dX7_raked_72 : decode cX7_raked 72 = .ok (.aload_n 0, 1) := by decide +kernel
theorem dX7_raked_73 : decode cX7_raked 73 = .ok (.getfield 44, 3) := by decide +kernel
theorem dX7_raked_76 : decode cX7_raked 76 = .ok (.iload 6, 2) := by decide +kernel
theorem dX7_raked_78 : decode cX7_raked 78 = .ok (.iload 7, 2) := by decide +kernel
theorem dX7_raked_80 : decode cX7_raked 80 = .ok (.iadd, 1) := by decide +kernel
theorem dX7_raked_81 : decode cX7_raked 81 = .ok (.laload, 1) := by decide +kernel
theorem dX7_raked_82 : decode cX7_raked 82 = .ok (.lconst 0, 1) := by decide +kernel
theorem dX7_raked_83 : decode cX7_raked 83 = .ok (.ldc2_w 211, 3) := by decide +kernel
theorem dX7_raked_86 : decode cX7_raked 86 = .ok (.invokestatic 51, 3) := by decide +kernel
theorem dX7_raked_89 : decode cX7_raked 89 = .ok (.ifCond .ne 6, 3) := by decide +kernel
theorem dX7_raked_92 : decode cX7_raked 92 = .ok (.bipush (-2), 2) := by decide +kernel
theorem dX7_raked_94 : decode cX7_raked 94 = .ok (.ireturn, 1) := by decide +kernel
theorem dX7_raked_95 : decode cX7_raked 95 = .ok (.iinc 7 1, 3) := by decide +kernel
theorem dX7_raked_98 : decode cX7_raked 98 = .ok (.goto (-37), 3) := by decide +kernel
theorem dX7_raked_101 : decode cX7_raked 101 = .ok (.aload_n 0, 1) := by decide +kernel
theorem dX7_raked_102 : decode cX7_raked 102 = .ok (.invokevirtual 176, 3) := by decide +kernel
theorem dX7_raked_105 : decode cX7_raked 105 = .ok (.iconst 0, 1) := by decide +kernel
theorem dX7_raked_106 : decode cX7_raked 106 = .ok (.istore 7, 2) := by decide +kernel
theorem dX7_raked_108 : decode cX7_raked 108 = .ok (.bipush (-4), 2) := by decide +kernel
theorem dX7_raked_110 : decode cX7_raked 110 = .ok (.istore 8, 2) := by decide +kernel
theorem dX7_raked_112 : decode cX7_raked 112 = .ok (.iconst 0, 1) := by decide +kernel
theorem dX7_raked_113 : decode cX7_raked 113 = .ok (.istore 9, 2) := by decide +kernel
theorem dX7_raked_115 : decode cX7_raked 115 = .ok (.iload 9, 2) := by decide +kernel
theorem dX7_raked_117 : decode cX7_raked 117 = .ok (.bipush 64, 2) := by decide +kernel
theorem dX7_raked_119 : decode cX7_raked 119 = .ok (.if_icmp .ge 151, 3) := by decide +kernel
theorem dX7_raked_122 : decode cX7_raked 122 = .ok (.aload_n 0, 1) := by decide +kernel
theorem dX7_raked_123 : decode cX7_raked 123 = .ok (.iload 9, 2) := by decide +kernel
theorem dX7_raked_125 : decode cX7_raked 125 = .ok (.invokevirtual 171, 3) := by decide +kernel
theorem dX7_raked_128 : decode cX7_raked 128 = .ok (.pop, 1) := by decide +kernel
theorem dX7_raked_129 : decode cX7_raked 129 = .ok (.aload_n 0, 1) := by decide +kernel
theorem dX7_raked_130 : decode cX7_raked 130 = .ok (.invokevirtual 185, 3) := by decide +kernel
theorem dX7_raked_133 : decode cX7_raked 133 = .ok (.iconst 1, 1) := by decide +kernel
theorem dX7_raked_134 : decode cX7_raked 134 = .ok (.istore 10, 2) := by decide +kernel
theorem dX7_raked_136 : decode cX7_raked 136 = .ok (.iconst 0, 1) := by decide +kernel
theorem dX7_raked_137 : decode cX7_raked 137 = .ok (.istore 11, 2) := by decide +kernel
theorem dX7_raked_139 : decode cX7_raked 139 = .ok (.iload 11, 2) := by decide +kernel
theorem dX7_raked_141 : decode cX7_raked 141 = .ok (.aload_n 0, 1) := by decide +kernel
theorem dX7_raked_142 : decode cX7_raked 142 = .ok (.getfield 7, 3) := by decide +kernel
theorem dX7_raked_145 : decode cX7_raked 145 = .ok (.iconst 5, 1) := by decide +kernel
theorem dX7_raked_146 : decode cX7_raked 146 = .ok (.iaload, 1) := by decide +kernel
theorem dX7_raked_147 : decode cX7_raked 147 = .ok (.if_icmp .ge 79, 3) := by decide +kernel
theorem dX7_raked_150 : decode cX7_raked 150 = .ok (.iconst 0, 1) := by decide +kernel
theorem dX7_raked_151 : decode cX7_raked 151 = .ok (.istore 12, 2) := by decide +kernel
theorem dX7_raked_153 : decode cX7_raked 153 = .ok (.iconst 0, 1) := by decide +kernel
theorem dX7_raked_154 : decode cX7_raked 154 = .ok (.istore 13, 2) := by decide +kernel
theorem dX7_raked_156 : decode cX7_raked 156 = .ok (.iload 13, 2) := by decide +kernel
theorem dX7_raked_158 : decode cX7_raked 158 = .ok (.bipush 64, 2) := by decide +kernel
theorem dX7_raked_160 : decode cX7_raked 160 = .ok (.if_icmp .ge 31, 3) := by decide +kernel
theorem dX7_raked_163 : decode cX7_raked 163 = .ok (.iload 12, 2) := by decide +kernel
theorem dX7_raked_165 : decode cX7_raked 165 = .ok (.aload_n 0, 1) := by decide +kernel
theorem dX7_raked_166 : decode cX7_raked 166 = .ok (.getfield 13, 3) := by decide +kernel
theorem dX7_raked_169 : decode cX7_raked 169 = .ok (.iload 13, 2) := by decide +kernel
theorem dX7_raked_171 : decode cX7_raked 171 = .ok (.iaload, 1) := by decide +kernel
theorem dX7_raked_172 : decode cX7_raked 172 = .ok (.iload 11, 2) := by decide +kernel
theorem dX7_raked_174 : decode cX7_raked 174 = .ok (.if_icmp .ne 7, 3) := by decide +kernel
theorem dX7_raked_177 : decode cX7_raked 177 = .ok (.iconst 1, 1) := by decide +kernel
theorem dX7_raked_178 : decode cX7_raked 178 = .ok (.goto 4, 3) := by decide +kernel
theorem dX7_raked_181 : decode cX7_raked 181 = .ok (.iconst 0, 1) := by decide +kernel
theorem dX7_raked_182 : decode cX7_raked 182 = .ok (.iadd, 1) := by decide +kernel
theorem dX7_raked_183 : decode cX7_raked 183 = .ok (.istore 12, 2) := by decide +kernel
theorem dX7_raked_185 : decode cX7_raked 185 = .ok (.iinc 13 1, 3) := by decide +kernel
theorem dX7_raked_188 : decode cX7_raked 188 = .ok (.goto (-32), 3) := by decide +kernel
theorem dX7_raked_191 : decode cX7_raked 191 = .ok (.iload 10, 2) := by decide +kernel
theorem dX7_raked_193 : decode cX7_raked 193 = .ok (.ifCond .eq 24, 3) := by decide +kernel
theorem dX7_raked_196 : decode cX7_raked 196 = .ok (.aload_n 0, 1) := by decide +kernel
theorem dX7_raked_197 : decode cX7_raked 197 = .ok (.getfield 44, 3) := by decide +kernel
theorem dX7_raked_200 : decode cX7_raked 200 = .ok (.iload 6, 2) := by decide +kernel
theorem dX7_raked_202 : decode cX7_raked 202 = .ok (.iload 11, 2) := by decide +kernel
theorem dX7_raked_204 : decode cX7_raked 204 = .ok (.iadd, 1) := by decide +kernel
theorem dX7_raked_205 : decode cX7_raked 205 = .ok (.laload, 1) := by decide +kernel
theorem dX7_raked_206 : decode cX7_raked 206 = .ok (.iload 12, 2) := by decide +kernel
theorem dX7_raked_208 : decode cX7_raked 208 = .ok (.i2l, 1) := by decide +kernel
theorem dX7_raked_209 : decode cX7_raked 209 = .ok (.lcmp, 1) := by decide +kernel
theorem dX7_raked_210 : decode cX7_raked 210 = .ok (.ifCond .ne 7, 3) := by decide +kernel
theorem dX7_raked_213 : decode cX7_raked 213 = .ok (.iconst 1, 1) := by decide +kernel
theorem dX7_raked_214 : decode cX7_raked 214 = .ok (.goto 4, 3) := by decide +kernel
theorem dX7_raked_217 : decode cX7_raked 217 = .ok (.iconst 0, 1) := by decide +kernel
theorem dX7_raked_218 : decode cX7_raked 218 = .ok (.istore 10, 2) := by decide +kernel
theorem dX7_raked_220 : decode cX7_raked 220 = .ok (.iinc 11 1, 3) := by decide +kernel
theorem dX7_raked_223 : decode cX7_raked 223 = .ok (.goto (-84), 3) := by decide +kernel
theorem dX7_raked_226 : decode cX7_raked 226 = .ok (.iload 10, 2) := by decide +kernel
theorem dX7_raked_228 : decode cX7_raked 228 = .ok (.ifCond .eq 13, 3) := by decide +kernel
theorem dX7_raked_231 : decode cX7_raked 231 = .ok (.iload 7, 2) := by decide +kernel
theorem dX7_raked_233 : decode cX7_raked 233 = .ok (.ifCond .ne 8, 3) := by decide +kernel
theorem dX7_raked_236 : decode cX7_raked 236 = .ok (.iload 9, 2) := by decide +kernel
theorem dX7_raked_238 : decode cX7_raked 238 = .ok (.goto 5, 3) := by decide +kernel
theorem dX7_raked_241 : decode cX7_raked 241 = .ok (.iload 8, 2) := by decide +kernel
theorem dX7_raked_243 : decode cX7_raked 243 = .ok (.istore 8, 2) := by decide +kernel
theorem dX7_raked_245 : decode cX7_raked 245 = .ok (.iload 7, 2) := by decide +kernel
theorem dX7_raked_247 : decode cX7_raked 247 = .ok (.iload 10, 2) := by decide +kernel
theorem dX7_raked_249 : decode cX7_raked 249 = .ok (.ifCond .eq 7, 3) := by decide +kernel
theorem dX7_raked_252 : decode cX7_raked 252 = .ok (.iconst 1, 1) := by decide +kernel
theorem dX7_raked_253 : decode cX7_raked 253 = .ok (.goto 4, 3) := by decide +kernel
theorem dX7_raked_256 : decode cX7_raked 256 = .ok (.iconst 0, 1) := by decide +kernel
theorem dX7_raked_257 : decode cX7_raked 257 = .ok (.iadd, 1) := by decide +kernel
theorem dX7_raked_258 : decode cX7_raked 258 = .ok (.istore 7, 2) := by decide +kernel
theorem dX7_raked_260 : decode cX7_raked 260 = .ok (.aload_n 0, 1) := by decide +kernel
theorem dX7_raked_261 : decode cX7_raked 261 = .ok (.invokevirtual 182, 3) := by decide +kernel
theorem dX7_raked_264 : decode cX7_raked 264 = .ok (.iinc 9 1, 3) := by decide +kernel
theorem dX7_raked_267 : decode cX7_raked 267 = .ok (.goto (-152), 3) := by decide +kernel
theorem dX7_raked_270 : decode cX7_raked 270 = .ok (.iload 4, 2) := by decide +kernel
theorem dX7_raked_272 : decode cX7_raked 272 = .ok (.ifCond .ne 8, 3) := by decide +kernel
theorem dX7_raked_275 : decode cX7_raked 275 = .ok (.iload 7, 2) := by decide +kernel
theorem dX7_raked_277 : decode cX7_raked 277 = .ok (.goto 5, 3) := by decide +kernel
theorem dX7_raked_280 : decode cX7_raked 280 = .ok (.iload 8, 2) := by decide +kernel
theorem dX7_raked_282 : decode cX7_raked 282 = .ok (.ireturn, 1) := by decide +kernel
def f_X7_raked_s61_b (x4 : Int32) (x6 : Int32) (x7 : Int32) (S : gSt) : Option ((Int32 × Int32 × Int32 × gSt) ⊕ ((Int32 × gSt) ⊕ (Int32 × Int32 × gSt))) :=
if gin (5 : Int32) 416 then
((if (S.1 48 (5 : Int32).toNatClampNeg) ≤ x7 then
some (.inr (.inr (x4, x6, S)))
else
if gin (x6 + x7) 96 then
(gBind2 (f_X7_in (S.2 59 (x6 + x7).toNatClampNeg) (0 : Int64) (64 : Int64) S) fun r24 S22 =>
(if r24 = 0 then
some (.inr (.inl ((-2 : Int32), S22)))
else
some (.inl (x4, x6, x7 + (1 : Int32), S22)))) else none)) else none
def f_X7_raked_s61 : (Int32 × Int32 × Int32 × gSt) → Option ((Int32 × Int32 × Int32 × gSt) ⊕ ((Int32 × gSt) ⊕ (Int32 × Int32 × gSt))) := fun t => f_X7_raked_s61_b t.1 t.2.1 t.2.2.1 t.2.2.2
def f_X7_raked_j243 (x4 : Int32) (x6 : Int32) (x7 : Int32) (x9 : Int32) (x10 : Int32) (t0 : Int32) (S : gSt) : Option ((Int32 × Int32 × Int32 × Int32 × Int32 × gSt) ⊕ (Int32 × Int32 × Int32 × gSt)) :=
(if x10 = 0 then
gLet (x7 + (0 : Int32)) fun v30 =>
(f_X7_backs S).bind fun S31 =>
some (.inl (x4, x6, v30, t0, x9 + (1 : Int32), S31))
else
gLet (x7 + (1 : Int32)) fun v33 =>
(f_X7_backs S).bind fun S34 =>
some (.inl (x4, x6, v33, t0, x9 + (1 : Int32), S34)))
def f_X7_raked_j241 (x4 : Int32) (x6 : Int32) (x7 : Int32) (x8 : Int32) (x9 : Int32) (x10 : Int32) (S : gSt) : Option ((Int32 × Int32 × Int32 × Int32 × Int32 × gSt) ⊕ (Int32 × Int32 × Int32 × gSt)) :=
f_X7_raked_j243 x4 x6 x7 x9 x10 x8 S
def f_X7_raked_s156_b (x4 : Int32) (x6 : Int32) (x7 : Int32) (x8 : Int32) (x9 : Int32) (x10 : Int32) (x11 : Int32) (x12 : Int32) (x13 : Int32) (S : gSt) : Option ((Int32 × Int32 × Int32 × Int32 × Int32 × Int32 × Int32 × Int32 × Int32 × gSt) ⊕ (Int32 × Int32 × Int32 × Int32 × Int32 × Int32 × Int32 × Int32 × gSt)) :=
(if (64 : Int32) ≤ x13 then
some (.inr (x4, x6, x7, x8, x9, x10, x11, x12, S))
else
if gin x13 64 then
((if (S.1 49 x13.toNatClampNeg) = x11 then
gLet (x12 + (1 : Int32)) fun v48 =>
some (.inl (x4, x6, x7, x8, x9, x10, x11, v48, x13 + (1 : Int32), S))
else
gLet (x12 + (0 : Int32)) fun v47 =>
some (.inl (x4, x6, x7, x8, x9, x10, x11, v47, x13 + (1 : Int32), S)))) else none)
def f_X7_raked_s156 : (Int32 × Int32 × Int32 × Int32 × Int32 × Int32 × Int32 × Int32 × Int32 × gSt) → Option ((Int32 × Int32 × Int32 × Int32 × Int32 × Int32 × Int32 × Int32 × Int32 × gSt) ⊕ (Int32 × Int32 × Int32 × Int32 × Int32 × Int32 × Int32 × Int32 × gSt)) := fun t => f_X7_raked_s156_b t.1 t.2.1 t.2.2.1 t.2.2.2.1 t.2.2.2.2.1 t.2.2.2.2.2.1 t.2.2.2.2.2.2.1 t.2.2.2.2.2.2.2.1 t.2.2.2.2.2.2.2.2.1 t.2.2.2.2.2.2.2.2.2
def f_X7_raked_s139_b (x4 : Int32) (x6 : Int32) (x7 : Int32) (x8 : Int32) (x9 : Int32) (x10 : Int32) (x11 : Int32) (S : gSt) : Option ((Int32 × Int32 × Int32 × Int32 × Int32 × Int32 × Int32 × gSt) ⊕ (Int32 × Int32 × Int32 × Int32 × Int32 × Int32 × gSt)) :=
if gin (5 : Int32) 416 then
((if (S.1 48 (5 : Int32).toNatClampNeg) ≤ x11 then
some (.inr (x4, x6, x7, x8, x9, x10, S))
else
(gLoop (f_X7_raked_s156) gFuel (x4, x6, x7, x8, x9, x10, x11, (0 : Int32), (0 : Int32), S)).bind fun q49 => match q49 with
| (y4_49, y6_49, y7_49, y8_49, y9_49, y10_49, y11_49, y12_49, S49) =>
(if y10_49 = 0 then
some (.inl (y4_49, y6_49, y7_49, y8_49, y9_49, (0 : Int32), y11_49 + (1 : Int32), S49))
else
if gin (y6_49 + y11_49) 96 then
((if (lg_cmp (S49.2 59 (y6_49 + y11_49).toNatClampNeg) (y12_49.toInt64)) = 0 then
some (.inl (y4_49, y6_49, y7_49, y8_49, y9_49, (1 : Int32), y11_49 + (1 : Int32), S49))
else
some (.inl (y4_49, y6_49, y7_49, y8_49, y9_49, (0 : Int32), y11_49 + (1 : Int32), S49)))) else none))) else none
def f_X7_raked_s139 : (Int32 × Int32 × Int32 × Int32 × Int32 × Int32 × Int32 × gSt) → Option ((Int32 × Int32 × Int32 × Int32 × Int32 × Int32 × Int32 × gSt) ⊕ (Int32 × Int32 × Int32 × Int32 × Int32 × Int32 × gSt)) := fun t => f_X7_raked_s139_b t.1 t.2.1 t.2.2.1 t.2.2.2.1 t.2.2.2.2.1 t.2.2.2.2.2.1 t.2.2.2.2.2.2.1 t.2.2.2.2.2.2.2
def f_X7_raked_s115_b (x4 : Int32) (x6 : Int32) (x7 : Int32) (x8 : Int32) (x9 : Int32) (S : gSt) : Option ((Int32 × Int32 × Int32 × Int32 × Int32 × gSt) ⊕ (Int32 × Int32 × Int32 × gSt)) :=
(if (64 : Int32) ≤ x9 then
some (.inr (x4, x7, x8, S))
else
gBind2 (f_X7_rakes x9 S) fun r39 S37 =>
(f_X7_holds S37).bind fun S40 =>
(gLoop (f_X7_raked_s139) gFuel (x4, x6, x7, x8, x9, (1 : Int32), (0 : Int32), S40)).bind fun q53 => match q53 with
| (y4_53, y6_53, y7_53, y8_53, y9_53, y10_53, S53) =>
(if y10_53 = 0 then
f_X7_raked_j241 y4_53 y6_53 y7_53 y8_53 y9_53 y10_53 S53
else
(if y7_53 = 0 then
f_X7_raked_j243 y4_53 y6_53 y7_53 y9_53 y10_53 y9_53 S53
else
f_X7_raked_j241 y4_53 y6_53 y7_53 y8_53 y9_53 y10_53 S53)))
def f_X7_raked_s115 : (Int32 × Int32 × Int32 × Int32 × Int32 × gSt) → Option ((Int32 × Int32 × Int32 × Int32 × Int32 × gSt) ⊕ (Int32 × Int32 × Int32 × gSt)) := fun t => f_X7_raked_s115_b t.1 t.2.1 t.2.2.1 t.2.2.2.1 t.2.2.2.2.1 t.2.2.2.2.2
def f_X7_raked (p1 : Int32) (p2 : Int32) (p3 : Int32) (p4 : Int32) (S : gSt) : Option (Int32 × gSt) :=
gBind2 (f_X7_isSheet p1 S) fun r3 S1 =>
(if r3 = 0 then
some ((-1 : Int32), S1)
else
gBind2 (f_X7_isLane p2 S1) fun r7 S5 =>
(if r7 = 0 then
some ((-1 : Int32), S5)
else
gBind2 (f_X7_in (p4.toInt64) (0 : Int64) (1 : Int64) S5) fun r11 S9 =>
(if r11 = 0 then
some ((-1 : Int32), S9)
else
if gin (5 : Int32) 416 then
(gBind2 (f_X7_why p1 p2 p3 (S9.1 48 (5 : Int32).toNatClampNeg) S9) fun r16 S14 =>
(if 0 ≤ r16 then
gLet (((24 : Int32) * p1) + p3) fun v18 =>
(gLoop (f_X7_raked_s61) gFuel (p4, v18, (0 : Int32), S14)).bind fun q26 => match q26 with
| .inl (v26, T26) => some (v26, T26)
| .inr (y4_26, y6_26, S26) =>
(f_X7_asides S26).bind fun S27 =>
(gLoop (f_X7_raked_s115) gFuel (y4_26, y6_26, (0 : Int32), (-4 : Int32), (0 : Int32), S27)).bind fun q56 => match q56 with
| (y4_56, y7_56, y8_56, S56) =>
(if y4_56 = 0 then
some (y7_56, S56)
else
some (y8_56, S56))
else
some (r16, S14))) else none)))
set_option maxHeartbeats 4000000 in
set_option maxRecDepth 20000 in
theorem ok_X7_raked {p1 : Int32} {p2 : Int32} {p3 : Int32} {p4 : Int32} {S S0 : gSt} {r0 : Int32}  (h : f_X7_raked p1 p2 p3 p4 S = some (r0, S0)) : gCT yX7_raked cX7_raked 14 (some .int) 4 (fun w => [.ref (w.2.1 47), .int p1, .int p2, .int p3, .int p4]) S (some (.int r0)) S0 := by
  refine gEnter (fun X => [some (.ref (gad X 47)), some (.int p1), some (.int p2), some (.int p3), some (.int p4), none, none, none, none, none, none, none, none, none]) (by decide) (fun X => ⟨rfl, rfl⟩) (fun w => Nat.le_of_ble_eq_true rfl) (fun X hp => ?_)
  show AW X RX7 4 cX7_raked 0 [some (.ref (gad X 47)), some (.int p1), some (.int p2), some (.int p3), some (.int p4), none, none, none, none, none, none, none, none, none] [] S
  unfold f_X7_raked at h
  refine a_iloadn (pc := 0) dX7_raked_0 rfl rfl ?_
  obtain ⟨r3, S1, hc2, h⟩ := g_bind2 h
  refine a_invSi (pc := 1) (ok_X7_isSheet hc2) gyX7_isSheet syX7_isSheet mlX7_201 (As := [.int p1]) rfl rfl (by decide) (st := []) rfl (Nat.le_of_ble_eq_true rfl) dX7_raked_1 ?_
  refine a_if_eq (pc := 4) (tgt := 25) dX7_raked_4 (by decide) (fun c4 => ?_) (fun c4 => ?_)
  · rw [if_pos c4] at h
    refine a_iconst (pc := 25) (v := (-1 : Int32)) dX7_raked_25 (by decide) ?_
    obtain ⟨rfl, rfl⟩ := Prod.mk.inj (Option.some.inj h)
    exact a_iret hp dX7_raked_26
  · rw [if_neg c4] at h
    refine a_iloadn (pc := 7) dX7_raked_7 rfl rfl ?_
    obtain ⟨r7, S5, hc6, h⟩ := g_bind2 h
    refine a_invSi (pc := 8) (ok_X7_isLane hc6) gyX7_isLane syX7_isLane mlX7_204 (As := [.int p2]) rfl rfl (by decide) (st := []) rfl (Nat.le_of_ble_eq_true rfl) dX7_raked_8 ?_
    refine a_if_eq (pc := 11) (tgt := 25) dX7_raked_11 (by decide) (fun c8 => ?_) (fun c8 => ?_)
    · rw [if_pos c8] at h
      refine a_iconst (pc := 25) (v := (-1 : Int32)) dX7_raked_25 (by decide) ?_
      obtain ⟨rfl, rfl⟩ := Prod.mk.inj (Option.some.inj h)
      exact a_iret hp dX7_raked_26
    · rw [if_neg c8] at h
      refine a_iload (pc := 14) dX7_raked_14 rfl ?_
      refine a_i2l (pc := 16) dX7_raked_16 ?_
      refine a_lconst (pc := 17) (v := (0 : Int64)) dX7_raked_17 (by decide) ?_
      refine a_lconst (pc := 18) (v := (1 : Int64)) dX7_raked_18 (by decide) ?_
      obtain ⟨r11, S9, hc10, h⟩ := g_bind2 h
      refine a_invSi (pc := 19) (ok_X7_in hc10) gyX7_in syX7_in mlX7_51 (As := [.long (p4.toInt64), .long (0 : Int64), .long (1 : Int64)]) rfl rfl (by decide) (st := []) rfl (Nat.le_of_ble_eq_true rfl) dX7_raked_19 ?_
      refine a_if_ne (pc := 22) (tgt := 27) dX7_raked_22 (by decide) (fun c12 => ?_) (fun c12 => ?_)
      · rw [if_neg c12] at h
        refine a_aloadn (pc := 27) dX7_raked_27 rfl rfl ?_
        refine a_iloadn (pc := 28) dX7_raked_28 rfl rfl ?_
        refine a_iloadn (pc := 29) dX7_raked_29 rfl rfl ?_
        refine a_iloadn (pc := 30) dX7_raked_30 rfl rfl ?_
        refine a_aloadn (pc := 31) dX7_raked_31 rfl rfl ?_
        refine a_getA (pc := 32) flX7_7 sh_47 rfl dX7_raked_32 ?_
        refine a_iconst (pc := 35) (v := (5 : Int32)) dX7_raked_35 (by decide) ?_
        obtain ⟨hi13, h⟩ := g_if h
        refine a_iald (pc := 36) sh_48 hi13 dX7_raked_36 ?_
        obtain ⟨r16, S14, hc15, h⟩ := g_bind2 h
        refine a_invVi (pc := 37) (ok_X7_why hc15) gyX7_why vyX7_why mlX7_207 sh_47 rfl (As := [.int p1, .int p2, .int p3, .int (S9.1 48 (5 : Int32).toNatClampNeg)]) rfl rfl (by decide) (st := []) rfl (Nat.le_of_ble_eq_true rfl) dX7_raked_37 ?_
        refine a_istore (pc := 40) dX7_raked_40 (Nat.le_of_ble_eq_true rfl) rfl (L' := [some (.ref (gad X 47)), some (.int p1), some (.int p2), some (.int p3), some (.int p4), some (.int r16), none, none, none, none, none, none, none, none]) rfl ?_
        refine a_iload (pc := 42) dX7_raked_42 rfl ?_
        refine a_if_ge (pc := 44) (tgt := 50) dX7_raked_44 (by decide) (fun c17 => ?_) (fun c17 => ?_)
        · rw [if_pos c17] at h
          refine a_bipush (pc := 50) (v := (24 : Int32)) dX7_raked_50 (by decide) ?_
          refine a_iloadn (pc := 52) dX7_raked_52 rfl rfl ?_
          refine a_imul (pc := 53) dX7_raked_53 ?_
          refine a_iloadn (pc := 54) dX7_raked_54 rfl rfl ?_
          refine a_iadd (pc := 55) dX7_raked_55 ?_
          obtain ⟨v18, ev18, h⟩ := g_let h
          refine a_nmI ev18 ?_
          refine a_istore (pc := 56) dX7_raked_56 (Nat.le_of_ble_eq_true rfl) rfl (L' := [some (.ref (gad X 47)), some (.int p1), some (.int p2), some (.int p3), some (.int p4), some (.int r16), some (.int v18), none, none, none, none, none, none, none]) rfl ?_
          refine a_iconst (pc := 58) (v := (0 : Int32)) dX7_raked_58 (by decide) ?_
          refine a_istore (pc := 59) dX7_raked_59 (Nat.le_of_ble_eq_true rfl) rfl (L' := [some (.ref (gad X 47)), some (.int p1), some (.int p2), some (.int p3), some (.int p4), some (.int r16), some (.int v18), some (.int (0 : Int32)), none, none, none, none, none, none]) rfl ?_
          obtain ⟨R26, hR26, h⟩ := g_bind h
          refine a_mask [true, false, false, false, true, false, true, true, true, true, true, true, true, true] (L' := [some (.ref (gad X 47)), none, none, none, some (.int p4), none, some (.int v18), some (.int (0 : Int32)), none, none, none, none, none, none]) rfl ?_
          have E61 : ∀ (y4_26 : Int32) (y6_26 : Int32) (S26 : gSt), ((f_X7_asides S26).bind fun S27 => (gLoop (f_X7_raked_s115) gFuel (y4_26, y6_26, (0 : Int32), (-4 : Int32), (0 : Int32), S27)).bind fun q56 => match q56 with | (y4_56, y7_56, y8_56, S56) => (if y4_56 = 0 then some (y7_56, S56) else some (y8_56, S56))) = some (r0, S0) → AW X RX7 4 cX7_raked 101 [some (.ref (gad X 47)), none, none, none, some (.int y4_26), none, some (.int y6_26), none, none, none, none, none, none, none] [] S26 := by
            intro y4_26 y6_26 S26 h
            refine a_aloadn (pc := 101) dX7_raked_101 rfl rfl ?_
            obtain ⟨S27, hc28, h⟩ := g_bind h
            refine a_invVv (pc := 102) (ok_X7_asides hc28) gyX7_asides vyX7_asides mlX7_176 sh_47 rfl (As := []) rfl rfl (by decide) (st := []) rfl (Nat.le_of_ble_eq_true rfl) dX7_raked_102 ?_
            refine a_iconst (pc := 105) (v := (0 : Int32)) dX7_raked_105 (by decide) ?_
            refine a_istore (pc := 106) dX7_raked_106 (Nat.le_of_ble_eq_true rfl) rfl (L' := [some (.ref (gad X 47)), none, none, none, some (.int y4_26), none, some (.int y6_26), some (.int (0 : Int32)), none, none, none, none, none, none]) rfl ?_
            refine a_bipush (pc := 108) (v := (-4 : Int32)) dX7_raked_108 (by decide) ?_
            refine a_istore (pc := 110) dX7_raked_110 (Nat.le_of_ble_eq_true rfl) rfl (L' := [some (.ref (gad X 47)), none, none, none, some (.int y4_26), none, some (.int y6_26), some (.int (0 : Int32)), some (.int (-4 : Int32)), none, none, none, none, none]) rfl ?_
            refine a_iconst (pc := 112) (v := (0 : Int32)) dX7_raked_112 (by decide) ?_
            refine a_istore (pc := 113) dX7_raked_113 (Nat.le_of_ble_eq_true rfl) rfl (L' := [some (.ref (gad X 47)), none, none, none, some (.int y4_26), none, some (.int y6_26), some (.int (0 : Int32)), some (.int (-4 : Int32)), some (.int (0 : Int32)), none, none, none, none]) rfl ?_
            obtain ⟨R56, hR56, h⟩ := g_bind h
            have E115 : ∀ (y4_56 : Int32) (y7_56 : Int32) (y8_56 : Int32) (S56 : gSt), ((if y4_56 = 0 then some (y7_56, S56) else some (y8_56, S56))) = some (r0, S0) → AW X RX7 4 cX7_raked 270 [none, none, none, none, some (.int y4_56), none, none, some (.int y7_56), some (.int y8_56), none, none, none, none, none] [] S56 := by
              intro y4_56 y7_56 y8_56 S56 h
              refine a_iload (pc := 270) dX7_raked_270 rfl ?_
              refine a_if_ne (pc := 272) (tgt := 280) dX7_raked_272 (by decide) (fun c57 => ?_) (fun c57 => ?_)
              · rw [if_neg c57] at h
                refine a_iload (pc := 280) dX7_raked_280 rfl ?_
                obtain ⟨rfl, rfl⟩ := Prod.mk.inj (Option.some.inj h)
                exact a_iret hp dX7_raked_282
              · rw [if_pos c57] at h
                refine a_iload (pc := 275) dX7_raked_275 rfl ?_
                refine a_goto (pc := 277) (tgt := 282) dX7_raked_277 (by decide) ?_
                obtain ⟨rfl, rfl⟩ := Prod.mk.inj (Option.some.inj h)
                exact a_iret hp dX7_raked_282
            have lp : ∀ (n : Nat) (x4 : Int32) (x6 : Int32) (x7 : Int32) (x8 : Int32) (x9 : Int32) (S : gSt), gLoop (f_X7_raked_s115) n (x4, x6, x7, x8, x9, S) = some R56 → AW X RX7 4 cX7_raked 115 [some (.ref (gad X 47)), none, none, none, some (.int x4), none, some (.int x6), some (.int x7), some (.int x8), some (.int x9), none, none, none, none] [] S := by
              intro n
              induction n with
              | zero => intro x4 x6 x7 x8 x9 S hR; cases hR
              | succ n ih =>
                intro x4 x6 x7 x8 x9 S hR
                obtain ⟨q, hs, hR⟩ := g_bind hR
                have hs : f_X7_raked_s115_b x4 x6 x7 x8 x9 S = some q := hs
                unfold f_X7_raked_s115_b at hs
                have J243 : ∀ (x4 : Int32) (x6 : Int32) (x7 : Int32) (x9 : Int32) (x10 : Int32) (t0 : Int32) (S : gSt), f_X7_raked_j243 x4 x6 x7 x9 x10 t0 S = some q → AW X RX7 4 cX7_raked 243 [some (.ref (gad X 47)), none, none, none, some (.int x4), none, some (.int x6), some (.int x7), none, some (.int x9), some (.int x10), none, none, none] [.int t0] S := by
                  intro x4 x6 x7 x9 x10 t0 S hs
                  unfold f_X7_raked_j243 at hs
                  refine a_istore (pc := 243) dX7_raked_243 (Nat.le_of_ble_eq_true rfl) rfl (L' := [some (.ref (gad X 47)), none, none, none, some (.int x4), none, some (.int x6), some (.int x7), some (.int t0), some (.int x9), some (.int x10), none, none, none]) rfl ?_
                  refine a_iload (pc := 245) dX7_raked_245 rfl ?_
                  refine a_iload (pc := 247) dX7_raked_247 rfl ?_
                  refine a_if_eq (pc := 249) (tgt := 256) dX7_raked_249 (by decide) (fun c29 => ?_) (fun c29 => ?_)
                  · rw [if_pos c29] at hs
                    refine a_iconst (pc := 256) (v := (0 : Int32)) dX7_raked_256 (by decide) ?_
                    refine a_iadd (pc := 257) dX7_raked_257 ?_
                    obtain ⟨v30, ev30, hs⟩ := g_let hs
                    refine a_nmI ev30 ?_
                    refine a_istore (pc := 258) dX7_raked_258 (Nat.le_of_ble_eq_true rfl) rfl (L' := [some (.ref (gad X 47)), none, none, none, some (.int x4), none, some (.int x6), some (.int v30), some (.int t0), some (.int x9), some (.int x10), none, none, none]) rfl ?_
                    refine a_aloadn (pc := 260) dX7_raked_260 rfl rfl ?_
                    obtain ⟨S31, hc32, hs⟩ := g_bind hs
                    refine a_invVv (pc := 261) (ok_X7_backs hc32) gyX7_backs vyX7_backs mlX7_182 sh_47 rfl (As := []) rfl rfl (by decide) (st := []) rfl (Nat.le_of_ble_eq_true rfl) dX7_raked_261 ?_
                    refine a_iinc (pc := 264) dX7_raked_264 rfl (v := x9 + (1 : Int32)) rfl (Nat.le_of_ble_eq_true rfl) rfl (L' := [some (.ref (gad X 47)), none, none, none, some (.int x4), none, some (.int x6), some (.int v30), some (.int t0), some (.int (x9 + (1 : Int32))), some (.int x10), none, none, none]) rfl ?_
                    refine a_goto (pc := 267) (tgt := 115) dX7_raked_267 (by decide) ?_
                    obtain rfl := Option.some.inj hs
                    refine a_mask [true, true, true, true, true, true, true, true, true, true, false, true, true, true] (L' := [some (.ref (gad X 47)), none, none, none, some (.int x4), none, some (.int x6), some (.int v30), some (.int t0), some (.int (x9 + (1 : Int32))), none, none, none, none]) rfl ?_
                    exact ih _ _ _ _ _ _ hR
                  · rw [if_neg c29] at hs
                    refine a_iconst (pc := 252) (v := (1 : Int32)) dX7_raked_252 (by decide) ?_
                    refine a_goto (pc := 253) (tgt := 257) dX7_raked_253 (by decide) ?_
                    refine a_iadd (pc := 257) dX7_raked_257 ?_
                    obtain ⟨v33, ev33, hs⟩ := g_let hs
                    refine a_nmI ev33 ?_
                    refine a_istore (pc := 258) dX7_raked_258 (Nat.le_of_ble_eq_true rfl) rfl (L' := [some (.ref (gad X 47)), none, none, none, some (.int x4), none, some (.int x6), some (.int v33), some (.int t0), some (.int x9), some (.int x10), none, none, none]) rfl ?_
                    refine a_aloadn (pc := 260) dX7_raked_260 rfl rfl ?_
                    obtain ⟨S34, hc35, hs⟩ := g_bind hs
                    refine a_invVv (pc := 261) (ok_X7_backs hc35) gyX7_backs vyX7_backs mlX7_182 sh_47 rfl (As := []) rfl rfl (by decide) (st := []) rfl (Nat.le_of_ble_eq_true rfl) dX7_raked_261 ?_
                    refine a_iinc (pc := 264) dX7_raked_264 rfl (v := x9 + (1 : Int32)) rfl (Nat.le_of_ble_eq_true rfl) rfl (L' := [some (.ref (gad X 47)), none, none, none, some (.int x4), none, some (.int x6), some (.int v33), some (.int t0), some (.int (x9 + (1 : Int32))), some (.int x10), none, none, none]) rfl ?_
                    refine a_goto (pc := 267) (tgt := 115) dX7_raked_267 (by decide) ?_
                    obtain rfl := Option.some.inj hs
                    refine a_mask [true, true, true, true, true, true, true, true, true, true, false, true, true, true] (L' := [some (.ref (gad X 47)), none, none, none, some (.int x4), none, some (.int x6), some (.int v33), some (.int t0), some (.int (x9 + (1 : Int32))), none, none, none, none]) rfl ?_
                    exact ih _ _ _ _ _ _ hR
                have J241 : ∀ (x4 : Int32) (x6 : Int32) (x7 : Int32) (x8 : Int32) (x9 : Int32) (x10 : Int32) (S : gSt), f_X7_raked_j241 x4 x6 x7 x8 x9 x10 S = some q → AW X RX7 4 cX7_raked 241 [some (.ref (gad X 47)), none, none, none, some (.int x4), none, some (.int x6), some (.int x7), some (.int x8), some (.int x9), some (.int x10), none, none, none] [] S := by
                  intro x4 x6 x7 x8 x9 x10 S hs
                  unfold f_X7_raked_j241 at hs
                  refine a_iload (pc := 241) dX7_raked_241 rfl ?_
                  refine a_mask [true, true, true, true, true, true, true, true, false, true, true, true, true, true] (L' := [some (.ref (gad X 47)), none, none, none, some (.int x4), none, some (.int x6), some (.int x7), none, some (.int x9), some (.int x10), none, none, none]) rfl ?_
                  exact J243 _ _ _ _ _ _ _ hs
                refine a_iload (pc := 115) dX7_raked_115 rfl ?_
                refine a_bipush (pc := 117) (v := (64 : Int32)) dX7_raked_117 (by decide) ?_
                refine a_icmp_ge (pc := 119) (tgt := 270) dX7_raked_119 (by decide) (fun c36 => ?_) (fun c36 => ?_)
                · rw [if_pos c36] at hs
                  obtain rfl := Option.some.inj hs
                  obtain rfl := Option.some.inj hR
                  refine a_mask [false, true, true, true, true, true, false, true, true, false, true, true, true, true] (L' := [none, none, none, none, some (.int x4), none, none, some (.int x7), some (.int x8), none, none, none, none, none]) rfl ?_
                  exact E115 _ _ _ _ h
                · rw [if_neg c36] at hs
                  refine a_aloadn (pc := 122) dX7_raked_122 rfl rfl ?_
                  refine a_iload (pc := 123) dX7_raked_123 rfl ?_
                  obtain ⟨r39, S37, hc38, hs⟩ := g_bind2 hs
                  refine a_invVi (pc := 125) (ok_X7_rakes hc38) gyX7_rakes vyX7_rakes mlX7_171 sh_47 rfl (As := [.int x9]) rfl rfl (by decide) (st := []) rfl (Nat.le_of_ble_eq_true rfl) dX7_raked_125 ?_
                  refine a_pop (pc := 128) dX7_raked_128 rfl ?_
                  refine a_aloadn (pc := 129) dX7_raked_129 rfl rfl ?_
                  obtain ⟨S40, hc41, hs⟩ := g_bind hs
                  refine a_invVv (pc := 130) (ok_X7_holds hc41) gyX7_holds vyX7_holds mlX7_185 sh_47 rfl (As := []) rfl rfl (by decide) (st := []) rfl (Nat.le_of_ble_eq_true rfl) dX7_raked_130 ?_
                  refine a_iconst (pc := 133) (v := (1 : Int32)) dX7_raked_133 (by decide) ?_
                  refine a_istore (pc := 134) dX7_raked_134 (Nat.le_of_ble_eq_true rfl) rfl (L' := [some (.ref (gad X 47)), none, none, none, some (.int x4), none, some (.int x6), some (.int x7), some (.int x8), some (.int x9), some (.int (1 : Int32)), none, none, none]) rfl ?_
                  refine a_iconst (pc := 136) (v := (0 : Int32)) dX7_raked_136 (by decide) ?_
                  refine a_istore (pc := 137) dX7_raked_137 (Nat.le_of_ble_eq_true rfl) rfl (L' := [some (.ref (gad X 47)), none, none, none, some (.int x4), none, some (.int x6), some (.int x7), some (.int x8), some (.int x9), some (.int (1 : Int32)), some (.int (0 : Int32)), none, none]) rfl ?_
                  obtain ⟨R53, hR53, hs⟩ := g_bind hs
                  have E139 : ∀ (y4_53 : Int32) (y6_53 : Int32) (y7_53 : Int32) (y8_53 : Int32) (y9_53 : Int32) (y10_53 : Int32) (S53 : gSt), ((if y10_53 = 0 then f_X7_raked_j241 y4_53 y6_53 y7_53 y8_53 y9_53 y10_53 S53 else (if y7_53 = 0 then f_X7_raked_j243 y4_53 y6_53 y7_53 y9_53 y10_53 y9_53 S53 else f_X7_raked_j241 y4_53 y6_53 y7_53 y8_53 y9_53 y10_53 S53))) = some q → AW X RX7 4 cX7_raked 226 [some (.ref (gad X 47)), none, none, none, some (.int y4_53), none, some (.int y6_53), some (.int y7_53), some (.int y8_53), some (.int y9_53), some (.int y10_53), none, none, none] [] S53 := by
                    intro y4_53 y6_53 y7_53 y8_53 y9_53 y10_53 S53 hs
                    refine a_iload (pc := 226) dX7_raked_226 rfl ?_
                    refine a_if_eq (pc := 228) (tgt := 241) dX7_raked_228 (by decide) (fun c54 => ?_) (fun c54 => ?_)
                    · rw [if_pos c54] at hs
                      exact J241 _ _ _ _ _ _ _ hs
                    · rw [if_neg c54] at hs
                      refine a_iload (pc := 231) dX7_raked_231 rfl ?_
                      refine a_if_ne (pc := 233) (tgt := 241) dX7_raked_233 (by decide) (fun c55 => ?_) (fun c55 => ?_)
                      · rw [if_neg c55] at hs
                        exact J241 _ _ _ _ _ _ _ hs
                      · rw [if_pos c55] at hs
                        refine a_iload (pc := 236) dX7_raked_236 rfl ?_
                        refine a_goto (pc := 238) (tgt := 243) dX7_raked_238 (by decide) ?_
                        refine a_mask [true, true, true, true, true, true, true, true, false, true, true, true, true, true] (L' := [some (.ref (gad X 47)), none, none, none, some (.int y4_53), none, some (.int y6_53), some (.int y7_53), none, some (.int y9_53), some (.int y10_53), none, none, none]) rfl ?_
                        exact J243 _ _ _ _ _ _ _ hs
                  have lp : ∀ (n : Nat) (x4 : Int32) (x6 : Int32) (x7 : Int32) (x8 : Int32) (x9 : Int32) (x10 : Int32) (x11 : Int32) (S : gSt), gLoop (f_X7_raked_s139) n (x4, x6, x7, x8, x9, x10, x11, S) = some R53 → AW X RX7 4 cX7_raked 139 [some (.ref (gad X 47)), none, none, none, some (.int x4), none, some (.int x6), some (.int x7), some (.int x8), some (.int x9), some (.int x10), some (.int x11), none, none] [] S := by
                    intro n
                    induction n with
                    | zero => intro x4 x6 x7 x8 x9 x10 x11 S hR; cases hR
                    | succ n ih =>
                      intro x4 x6 x7 x8 x9 x10 x11 S hR
                      obtain ⟨q, hs, hR⟩ := g_bind hR
                      have hs : f_X7_raked_s139_b x4 x6 x7 x8 x9 x10 x11 S = some q := hs
                      unfold f_X7_raked_s139_b at hs
                      refine a_iload (pc := 139) dX7_raked_139 rfl ?_
                      refine a_aloadn (pc := 141) dX7_raked_141 rfl rfl ?_
                      refine a_getA (pc := 142) flX7_7 sh_47 rfl dX7_raked_142 ?_
                      refine a_iconst (pc := 145) (v := (5 : Int32)) dX7_raked_145 (by decide) ?_
                      obtain ⟨hi42, hs⟩ := g_if hs
                      refine a_iald (pc := 146) sh_48 hi42 dX7_raked_146 ?_
                      refine a_icmp_ge (pc := 147) (tgt := 226) dX7_raked_147 (by decide) (fun c43 => ?_) (fun c43 => ?_)
                      · rw [if_pos c43] at hs
                        obtain rfl := Option.some.inj hs
                        obtain rfl := Option.some.inj hR
                        refine a_mask [true, true, true, true, true, true, true, true, true, true, true, false, true, true] (L' := [some (.ref (gad X 47)), none, none, none, some (.int x4), none, some (.int x6), some (.int x7), some (.int x8), some (.int x9), some (.int x10), none, none, none]) rfl ?_
                        exact E139 _ _ _ _ _ _ _ hs
                      · rw [if_neg c43] at hs
                        refine a_iconst (pc := 150) (v := (0 : Int32)) dX7_raked_150 (by decide) ?_
                        refine a_istore (pc := 151) dX7_raked_151 (Nat.le_of_ble_eq_true rfl) rfl (L' := [some (.ref (gad X 47)), none, none, none, some (.int x4), none, some (.int x6), some (.int x7), some (.int x8), some (.int x9), some (.int x10), some (.int x11), some (.int (0 : Int32)), none]) rfl ?_
                        refine a_iconst (pc := 153) (v := (0 : Int32)) dX7_raked_153 (by decide) ?_
                        refine a_istore (pc := 154) dX7_raked_154 (Nat.le_of_ble_eq_true rfl) rfl (L' := [some (.ref (gad X 47)), none, none, none, some (.int x4), none, some (.int x6), some (.int x7), some (.int x8), some (.int x9), some (.int x10), some (.int x11), some (.int (0 : Int32)), some (.int (0 : Int32))]) rfl ?_
                        obtain ⟨R49, hR49, hs⟩ := g_bind hs
                        have E156 : ∀ (y4_49 : Int32) (y6_49 : Int32) (y7_49 : Int32) (y8_49 : Int32) (y9_49 : Int32) (y10_49 : Int32) (y11_49 : Int32) (y12_49 : Int32) (S49 : gSt), ((if y10_49 = 0 then some (.inl (y4_49, y6_49, y7_49, y8_49, y9_49, (0 : Int32), y11_49 + (1 : Int32), S49)) else if gin (y6_49 + y11_49) 96 then ((if (lg_cmp (S49.2 59 (y6_49 + y11_49).toNatClampNeg) (y12_49.toInt64)) = 0 then some (.inl (y4_49, y6_49, y7_49, y8_49, y9_49, (1 : Int32), y11_49 + (1 : Int32), S49)) else some (.inl (y4_49, y6_49, y7_49, y8_49, y9_49, (0 : Int32), y11_49 + (1 : Int32), S49)))) else none)) = some q → AW X RX7 4 cX7_raked 191 [some (.ref (gad X 47)), none, none, none, some (.int y4_49), none, some (.int y6_49), some (.int y7_49), some (.int y8_49), some (.int y9_49), some (.int y10_49), some (.int y11_49), some (.int y12_49), none] [] S49 := by
                          intro y4_49 y6_49 y7_49 y8_49 y9_49 y10_49 y11_49 y12_49 S49 hs
                          refine a_iload (pc := 191) dX7_raked_191 rfl ?_
                          refine a_if_eq (pc := 193) (tgt := 217) dX7_raked_193 (by decide) (fun c50 => ?_) (fun c50 => ?_)
                          · rw [if_pos c50] at hs
                            refine a_iconst (pc := 217) (v := (0 : Int32)) dX7_raked_217 (by decide) ?_
                            refine a_istore (pc := 218) dX7_raked_218 (Nat.le_of_ble_eq_true rfl) rfl (L' := [some (.ref (gad X 47)), none, none, none, some (.int y4_49), none, some (.int y6_49), some (.int y7_49), some (.int y8_49), some (.int y9_49), some (.int (0 : Int32)), some (.int y11_49), some (.int y12_49), none]) rfl ?_
                            refine a_iinc (pc := 220) dX7_raked_220 rfl (v := y11_49 + (1 : Int32)) rfl (Nat.le_of_ble_eq_true rfl) rfl (L' := [some (.ref (gad X 47)), none, none, none, some (.int y4_49), none, some (.int y6_49), some (.int y7_49), some (.int y8_49), some (.int y9_49), some (.int (0 : Int32)), some (.int (y11_49 + (1 : Int32))), some (.int y12_49), none]) rfl ?_
                            refine a_goto (pc := 223) (tgt := 139) dX7_raked_223 (by decide) ?_
                            obtain rfl := Option.some.inj hs
                            refine a_mask [true, true, true, true, true, true, true, true, true, true, true, true, false, true] (L' := [some (.ref (gad X 47)), none, none, none, some (.int y4_49), none, some (.int y6_49), some (.int y7_49), some (.int y8_49), some (.int y9_49), some (.int (0 : Int32)), some (.int (y11_49 + (1 : Int32))), none, none]) rfl ?_
                            exact ih _ _ _ _ _ _ _ _ hR
                          · rw [if_neg c50] at hs
                            refine a_aloadn (pc := 196) dX7_raked_196 rfl rfl ?_
                            refine a_getA (pc := 197) flX7_44 sh_47 rfl dX7_raked_197 ?_
                            refine a_iload (pc := 200) dX7_raked_200 rfl ?_
                            refine a_iload (pc := 202) dX7_raked_202 rfl ?_
                            refine a_iadd (pc := 204) dX7_raked_204 ?_
                            obtain ⟨hi51, hs⟩ := g_if hs
                            refine a_lald (pc := 205) sh_59 hi51 dX7_raked_205 ?_
                            refine a_iload (pc := 206) dX7_raked_206 rfl ?_
                            refine a_i2l (pc := 208) dX7_raked_208 ?_
                            refine a_lcmp (pc := 209) dX7_raked_209 ?_
                            refine a_if_ne (pc := 210) (tgt := 217) dX7_raked_210 (by decide) (fun c52 => ?_) (fun c52 => ?_)
                            · rw [if_neg c52] at hs
                              refine a_iconst (pc := 217) (v := (0 : Int32)) dX7_raked_217 (by decide) ?_
                              refine a_istore (pc := 218) dX7_raked_218 (Nat.le_of_ble_eq_true rfl) rfl (L' := [some (.ref (gad X 47)), none, none, none, some (.int y4_49), none, some (.int y6_49), some (.int y7_49), some (.int y8_49), some (.int y9_49), some (.int (0 : Int32)), some (.int y11_49), some (.int y12_49), none]) rfl ?_
                              refine a_iinc (pc := 220) dX7_raked_220 rfl (v := y11_49 + (1 : Int32)) rfl (Nat.le_of_ble_eq_true rfl) rfl (L' := [some (.ref (gad X 47)), none, none, none, some (.int y4_49), none, some (.int y6_49), some (.int y7_49), some (.int y8_49), some (.int y9_49), some (.int (0 : Int32)), some (.int (y11_49 + (1 : Int32))), some (.int y12_49), none]) rfl ?_
                              refine a_goto (pc := 223) (tgt := 139) dX7_raked_223 (by decide) ?_
                              obtain rfl := Option.some.inj hs
                              refine a_mask [true, true, true, true, true, true, true, true, true, true, true, true, false, true] (L' := [some (.ref (gad X 47)), none, none, none, some (.int y4_49), none, some (.int y6_49), some (.int y7_49), some (.int y8_49), some (.int y9_49), some (.int (0 : Int32)), some (.int (y11_49 + (1 : Int32))), none, none]) rfl ?_
                              exact ih _ _ _ _ _ _ _ _ hR
                            · rw [if_pos c52] at hs
                              refine a_iconst (pc := 213) (v := (1 : Int32)) dX7_raked_213 (by decide) ?_
                              refine a_goto (pc := 214) (tgt := 218) dX7_raked_214 (by decide) ?_
                              refine a_istore (pc := 218) dX7_raked_218 (Nat.le_of_ble_eq_true rfl) rfl (L' := [some (.ref (gad X 47)), none, none, none, some (.int y4_49), none, some (.int y6_49), some (.int y7_49), some (.int y8_49), some (.int y9_49), some (.int (1 : Int32)), some (.int y11_49), some (.int y12_49), none]) rfl ?_
                              refine a_iinc (pc := 220) dX7_raked_220 rfl (v := y11_49 + (1 : Int32)) rfl (Nat.le_of_ble_eq_true rfl) rfl (L' := [some (.ref (gad X 47)), none, none, none, some (.int y4_49), none, some (.int y6_49), some (.int y7_49), some (.int y8_49), some (.int y9_49), some (.int (1 : Int32)), some (.int (y11_49 + (1 : Int32))), some (.int y12_49), none]) rfl ?_
                              refine a_goto (pc := 223) (tgt := 139) dX7_raked_223 (by decide) ?_
                              obtain rfl := Option.some.inj hs
                              refine a_mask [true, true, true, true, true, true, true, true, true, true, true, true, false, true] (L' := [some (.ref (gad X 47)), none, none, none, some (.int y4_49), none, some (.int y6_49), some (.int y7_49), some (.int y8_49), some (.int y9_49), some (.int (1 : Int32)), some (.int (y11_49 + (1 : Int32))), none, none]) rfl ?_
                              exact ih _ _ _ _ _ _ _ _ hR
                        have lp : ∀ (n : Nat) (x4 : Int32) (x6 : Int32) (x7 : Int32) (x8 : Int32) (x9 : Int32) (x10 : Int32) (x11 : Int32) (x12 : Int32) (x13 : Int32) (S : gSt), gLoop (f_X7_raked_s156) n (x4, x6, x7, x8, x9, x10, x11, x12, x13, S) = some R49 → AW X RX7 4 cX7_raked 156 [some (.ref (gad X 47)), none, none, none, some (.int x4), none, some (.int x6), some (.int x7), some (.int x8), some (.int x9), some (.int x10), some (.int x11), some (.int x12), some (.int x13)] [] S := by
                          intro n
                          induction n with
                          | zero => intro x4 x6 x7 x8 x9 x10 x11 x12 x13 S hR; cases hR
                          | succ n ih =>
                            intro x4 x6 x7 x8 x9 x10 x11 x12 x13 S hR
                            obtain ⟨q, hs, hR⟩ := g_bind hR
                            have hs : f_X7_raked_s156_b x4 x6 x7 x8 x9 x10 x11 x12 x13 S = some q := hs
                            unfold f_X7_raked_s156_b at hs
                            refine a_iload (pc := 156) dX7_raked_156 rfl ?_
                            refine a_bipush (pc := 158) (v := (64 : Int32)) dX7_raked_158 (by decide) ?_
                            refine a_icmp_ge (pc := 160) (tgt := 191) dX7_raked_160 (by decide) (fun c44 => ?_) (fun c44 => ?_)
                            · rw [if_pos c44] at hs
                              obtain rfl := Option.some.inj hs
                              obtain rfl := Option.some.inj hR
                              refine a_mask [true, true, true, true, true, true, true, true, true, true, true, true, true, false] (L' := [some (.ref (gad X 47)), none, none, none, some (.int x4), none, some (.int x6), some (.int x7), some (.int x8), some (.int x9), some (.int x10), some (.int x11), some (.int x12), none]) rfl ?_
                              exact E156 _ _ _ _ _ _ _ _ _ hs
                            · rw [if_neg c44] at hs
                              refine a_iload (pc := 163) dX7_raked_163 rfl ?_
                              refine a_aloadn (pc := 165) dX7_raked_165 rfl rfl ?_
                              refine a_getA (pc := 166) flX7_13 sh_47 rfl dX7_raked_166 ?_
                              refine a_iload (pc := 169) dX7_raked_169 rfl ?_
                              obtain ⟨hi45, hs⟩ := g_if hs
                              refine a_iald (pc := 171) sh_49 hi45 dX7_raked_171 ?_
                              refine a_iload (pc := 172) dX7_raked_172 rfl ?_
                              refine a_icmp_ne (pc := 174) (tgt := 181) dX7_raked_174 (by decide) (fun c46 => ?_) (fun c46 => ?_)
                              · rw [if_neg c46] at hs
                                refine a_iconst (pc := 181) (v := (0 : Int32)) dX7_raked_181 (by decide) ?_
                                refine a_iadd (pc := 182) dX7_raked_182 ?_
                                obtain ⟨v47, ev47, hs⟩ := g_let hs
                                refine a_nmI ev47 ?_
                                refine a_istore (pc := 183) dX7_raked_183 (Nat.le_of_ble_eq_true rfl) rfl (L' := [some (.ref (gad X 47)), none, none, none, some (.int x4), none, some (.int x6), some (.int x7), some (.int x8), some (.int x9), some (.int x10), some (.int x11), some (.int v47), some (.int x13)]) rfl ?_
                                refine a_iinc (pc := 185) dX7_raked_185 rfl (v := x13 + (1 : Int32)) rfl (Nat.le_of_ble_eq_true rfl) rfl (L' := [some (.ref (gad X 47)), none, none, none, some (.int x4), none, some (.int x6), some (.int x7), some (.int x8), some (.int x9), some (.int x10), some (.int x11), some (.int v47), some (.int (x13 + (1 : Int32)))]) rfl ?_
                                refine a_goto (pc := 188) (tgt := 156) dX7_raked_188 (by decide) ?_
                                obtain rfl := Option.some.inj hs
                                exact ih _ _ _ _ _ _ _ _ _ _ hR
                              · rw [if_pos c46] at hs
                                refine a_iconst (pc := 177) (v := (1 : Int32)) dX7_raked_177 (by decide) ?_
                                refine a_goto (pc := 178) (tgt := 182) dX7_raked_178 (by decide) ?_
                                refine a_iadd (pc := 182) dX7_raked_182 ?_
                                obtain ⟨v48, ev48, hs⟩ := g_let hs
                                refine a_nmI ev48 ?_
                                refine a_istore (pc := 183) dX7_raked_183 (Nat.le_of_ble_eq_true rfl) rfl (L' := [some (.ref (gad X 47)), none, none, none, some (.int x4), none, some (.int x6), some (.int x7), some (.int x8), some (.int x9), some (.int x10), some (.int x11), some (.int v48), some (.int x13)]) rfl ?_
                                refine a_iinc (pc := 185) dX7_raked_185 rfl (v := x13 + (1 : Int32)) rfl (Nat.le_of_ble_eq_true rfl) rfl (L' := [some (.ref (gad X 47)), none, none, none, some (.int x4), none, some (.int x6), some (.int x7), some (.int x8), some (.int x9), some (.int x10), some (.int x11), some (.int v48), some (.int (x13 + (1 : Int32)))]) rfl ?_
                                refine a_goto (pc := 188) (tgt := 156) dX7_raked_188 (by decide) ?_
                                obtain rfl := Option.some.inj hs
                                exact ih _ _ _ _ _ _ _ _ _ _ hR
                        exact lp _ _ _ _ _ _ _ _ _ _ _ hR49
                  exact lp _ _ _ _ _ _ _ _ _ hR53
            exact lp _ _ _ _ _ _ _ hR56
          have lp : ∀ (n : Nat) (x4 : Int32) (x6 : Int32) (x7 : Int32) (S : gSt), gLoop (f_X7_raked_s61) n (x4, x6, x7, S) = some R26 → AW X RX7 4 cX7_raked 61 [some (.ref (gad X 47)), none, none, none, some (.int x4), none, some (.int x6), some (.int x7), none, none, none, none, none, none] [] S := by
            intro n
            induction n with
            | zero => intro x4 x6 x7 S hR; cases hR
            | succ n ih =>
              intro x4 x6 x7 S hR
              obtain ⟨q, hs, hR⟩ := g_bind hR
              have hs : f_X7_raked_s61_b x4 x6 x7 S = some q := hs
              unfold f_X7_raked_s61_b at hs
              refine a_iload (pc := 61) dX7_raked_61 rfl ?_
              refine a_aloadn (pc := 63) dX7_raked_63 rfl rfl ?_
              refine a_getA (pc := 64) flX7_7 sh_47 rfl dX7_raked_64 ?_
              refine a_iconst (pc := 67) (v := (5 : Int32)) dX7_raked_67 (by decide) ?_
              obtain ⟨hi19, hs⟩ := g_if hs
              refine a_iald (pc := 68) sh_48 hi19 dX7_raked_68 ?_
              refine a_icmp_ge (pc := 69) (tgt := 101) dX7_raked_69 (by decide) (fun c20 => ?_) (fun c20 => ?_)
              · rw [if_pos c20] at hs
                obtain rfl := Option.some.inj hs
                obtain rfl := Option.some.inj hR
                refine a_mask [true, true, true, true, true, true, true, false, true, true, true, true, true, true] (L' := [some (.ref (gad X 47)), none, none, none, some (.int x4), none, some (.int x6), none, none, none, none, none, none, none]) rfl ?_
                exact E61 _ _ _ h
              · rw [if_neg c20] at hs
                refine a_aloadn (pc := 72) dX7_raked_72 rfl rfl ?_
                refine a_getA (pc := 73) flX7_44 sh_47 rfl dX7_raked_73 ?_
                refine a_iload (pc := 76) dX7_raked_76 rfl ?_
                refine a_iload (pc := 78) dX7_raked_78 rfl ?_
                refine a_iadd (pc := 80) dX7_raked_80 ?_
                obtain ⟨hi21, hs⟩ := g_if hs
                refine a_lald (pc := 81) sh_59 hi21 dX7_raked_81 ?_
                refine a_lconst (pc := 82) (v := (0 : Int64)) dX7_raked_82 (by decide) ?_
                refine a_ldc2 (pc := 83) kX7_211 dX7_raked_83 ?_
                obtain ⟨r24, S22, hc23, hs⟩ := g_bind2 hs
                refine a_invSi (pc := 86) (ok_X7_in hc23) gyX7_in syX7_in mlX7_51 (As := [.long (S.2 59 (x6 + x7).toNatClampNeg), .long (0 : Int64), .long (64 : Int64)]) rfl rfl (by decide) (st := []) rfl (Nat.le_of_ble_eq_true rfl) dX7_raked_86 ?_
                refine a_if_ne (pc := 89) (tgt := 95) dX7_raked_89 (by decide) (fun c25 => ?_) (fun c25 => ?_)
                · rw [if_neg c25] at hs
                  refine a_iinc (pc := 95) dX7_raked_95 rfl (v := x7 + (1 : Int32)) rfl (Nat.le_of_ble_eq_true rfl) rfl (L' := [some (.ref (gad X 47)), none, none, none, some (.int x4), none, some (.int x6), some (.int (x7 + (1 : Int32))), none, none, none, none, none, none]) rfl ?_
                  refine a_goto (pc := 98) (tgt := 61) dX7_raked_98 (by decide) ?_
                  obtain rfl := Option.some.inj hs
                  exact ih _ _ _ _ hR
                · rw [if_pos c25] at hs
                  refine a_bipush (pc := 92) (v := (-2 : Int32)) dX7_raked_92 (by decide) ?_
                  obtain rfl := Option.some.inj hs
                  obtain rfl := Option.some.inj hR
                  obtain ⟨rfl, rfl⟩ := Prod.mk.inj (Option.some.inj h)
                  exact a_iret hp dX7_raked_94
          exact lp _ _ _ _ _ hR26
        · rw [if_neg c17] at h
          refine a_iload (pc := 47) dX7_raked_47 rfl ?_
          obtain ⟨rfl, rfl⟩ := Prod.mk.inj (Option.some.inj h)
          exact a_iret hp dX7_raked_49
      · rw [if_pos c12] at h
        refine a_iconst (pc := 25) (v := (-1 : Int32)) dX7_raked_25 (by decide) ?_
        obtain ⟨rfl, rfl⟩ := Prod.mk.inj (Option.some.inj h)
        exact a_iret hp dX7_raked_26
