theorem dX7_seed_0 : decode cX7_seed 0 = .ok (.iload_n 1, 1) := by decide +kernel
theorem dX7_seed_1 : decode cX7_seed 1 = .ok (.ifCond .ge 5, 3) := by decide +kernel
theorem dX7_seed_4 : decode cX7_seed 4 = .ok (.iconst (-1), 1) := by decide +kernel
theorem dX7_seed_5 : decode cX7_seed 5 = .ok (.ireturn, 1) := by decide +kernel
theorem dX7_seed_6 : decode cX7_seed 6 = .ok (.aload_n 0, 1) := by decide +kernel
theorem dX7_seed_7 : decode cX7_seed 7 = .ok (.getfield 7, 3) := by decide +kernel
theorem dX7_seed_10 : decode cX7_seed 10 = .ok (.bipush 7, 2) := by decide +kernel
theorem dX7_seed_12 : decode cX7_seed 12 = .ok (.iaload, 1) := by decide +kernel
theorem dX7_seed_13 : decode cX7_seed 13 = .ok (.istore_n 2, 1) := by decide +kernel
theorem dX7_seed_14 : decode cX7_seed 14 = .ok (.aload_n 0, 1) := by decide +kernel
theorem dX7_seed_15 : decode cX7_seed 15 = .ok (.getfield 7, 3) := by decide +kernel
theorem dX7_seed_18 : decode cX7_seed 18 = .ok (.bipush 7, 2) := by decide +kernel
theorem dX7_seed_20 : decode cX7_seed 20 = .ok (.iload_n 1, 1) := by decide +kernel
theorem dX7_seed_21 : decode cX7_seed 21 = .ok (.iastore, 1) := by decide +kernel
theorem dX7_seed_22 : decode cX7_seed 22 = .ok (.iload_n 2, 1) := by decide +kernel
theorem dX7_seed_23 : decode cX7_seed 23 = .ok (.ireturn, 1) := by decide +kernel
def f_X7_seed (p1 : Int32) (S : gSt) : Option (Int32 × gSt) :=
(if 0 ≤ p1 then
if gin (7 : Int32) 416 then
(gLet (S.1 48 (7 : Int32).toNatClampNeg) fun v3 =>
if gin (7 : Int32) 416 then
gLet (gI S 48 (7 : Int32).toNatClampNeg p1) fun S5 =>
(some (v3, S5)) else none) else none
else
some ((-1 : Int32), S))
set_option maxHeartbeats 4000000 in
set_option maxRecDepth 20000 in
theorem ok_X7_seed {p1 : Int32} {S S0 : gSt} {r0 : Int32}  (h : f_X7_seed p1 S = some (r0, S0)) : gCT yX7_seed cX7_seed 3 (some .int) 0 (fun w => [.ref (w.2.1 47), .int p1]) S (some (.int r0)) S0 := by
  refine gEnter (fun X => [some (.ref (gad X 47)), some (.int p1), none]) (by decide) (fun X => ⟨rfl, rfl⟩) (fun w => Nat.le_of_ble_eq_true rfl) (fun X hp => ?_)
  show AW X RX7 0 cX7_seed 0 [some (.ref (gad X 47)), some (.int p1), none] [] S
  unfold f_X7_seed at h
  refine a_iloadn (pc := 0) dX7_seed_0 rfl rfl ?_
  refine a_if_ge (pc := 1) (tgt := 6) dX7_seed_1 (by decide) (fun c1 => ?_) (fun c1 => ?_)
  · rw [if_pos c1] at h
    refine a_aloadn (pc := 6) dX7_seed_6 rfl rfl ?_
    refine a_getA (pc := 7) flX7_7 sh_47 rfl dX7_seed_7 ?_
    refine a_bipush (pc := 10) (v := (7 : Int32)) dX7_seed_10 (by decide) ?_
    obtain ⟨hi2, h⟩ := g_if h
    refine a_iald (pc := 12) sh_48 hi2 dX7_seed_12 ?_
    obtain ⟨v3, ev3, h⟩ := g_let h
    refine a_nmI ev3 ?_
    refine a_istoren (pc := 13) dX7_seed_13 rfl (Nat.le_of_ble_eq_true rfl) rfl (L' := [some (.ref (gad X 47)), some (.int p1), some (.int v3)]) rfl ?_
    refine a_aloadn (pc := 14) dX7_seed_14 rfl rfl ?_
    refine a_getA (pc := 15) flX7_7 sh_47 rfl dX7_seed_15 ?_
    refine a_bipush (pc := 18) (v := (7 : Int32)) dX7_seed_18 (by decide) ?_
    refine a_iloadn (pc := 20) dX7_seed_20 rfl rfl ?_
    obtain ⟨hi4, h⟩ := g_if h
    refine a_iast (pc := 21) sh_48 hi4 dX7_seed_21 ?_
    obtain ⟨S5, eS5, h⟩ := g_let h
    refine a_nmS eS5 ?_
    refine a_iloadn (pc := 22) dX7_seed_22 rfl rfl ?_
    obtain ⟨rfl, rfl⟩ := Prod.mk.inj (Option.some.inj h)
    exact a_iret hp dX7_seed_23
  · rw [if_neg c1] at h
    refine a_iconst (pc := 4) (v := (-1 : Int32)) dX7_seed_4 (by decide) ?_
    obtain ⟨rfl, rfl⟩ := Prod.mk.inj (Option.some.inj h)
    exact a_iret hp dX7_seed_5
theorem dX7_asides_0 : decode cX7_asides 0 = .ok (.iconst 0, 1) := by decide +kernel
theorem dX7_asides_1 : decode cX7_asides 1 = .ok (.istore_n 1, 1) := by decide +kernel
theorem dX7_asides_2 : decode cX7_asides 2 = .ok (.iload_n 1, 1) := by decide +kernel
theorem dX7_asides_3 : decode cX7_asides 3 = .ok (.sipush 416, 3) := by decide +kernel
theorem dX7_asides_6 : decode cX7_asides 6 = .ok (.if_icmp .ge 21, 3) := by decide +kernel
theorem dX7_asides_9 : decode cX7_asides 9 = .ok (.aload_n 0, 1) := by decide +kernel
theorem dX7_asides_10 : decode cX7_asides 10 = .ok (.getfield 25, 3) := by decide +kernel
theorem dX7_asides_13 : decode cX7_asides 13 = .ok (.iload_n 1, 1) := by decide +kernel
theorem dX7_asides_14 : decode cX7_asides 14 = .ok (.aload_n 0, 1) := by decide +kernel
theorem dX7_asides_15 : decode cX7_asides 15 = .ok (.getfield 7, 3) := by decide +kernel
theorem dX7_asides_18 : decode cX7_asides 18 = .ok (.iload_n 1, 1) := by decide +kernel
theorem dX7_asides_19 : decode cX7_asides 19 = .ok (.iaload, 1) := by decide +kernel
theorem dX7_asides_20 : decode cX7_asides 20 = .ok (.iastore, 1) := by decide +kernel
theorem dX7_asides_21 : decode cX7_asides 21 = .ok (.iinc 1 1, 3) := by decide +kernel
theorem dX7_asides_24 : decode cX7_asides 24 = .ok (.goto (-22), 3) := by decide +kernel
theorem dX7_asides_27 : decode cX7_asides 27 = .ok (.return_, 1) := by decide +kernel
def f_X7_asides_s2_b (x1 : Int32) (S : gSt) : Option ((Int32 × gSt) ⊕ (gSt)) :=
(if (416 : Int32) ≤ x1 then
some (.inr (S))
else
if gin x1 416 then
(if gin x1 416 then
gLet (gI S 53 x1.toNatClampNeg (S.1 48 x1.toNatClampNeg)) fun S4 =>
(some (.inl (x1 + (1 : Int32), S4))) else none) else none)
def f_X7_asides_s2 : (Int32 × gSt) → Option ((Int32 × gSt) ⊕ (gSt)) := fun t => f_X7_asides_s2_b t.1 t.2
def f_X7_asides (S : gSt) : Option gSt :=
(gLoop (f_X7_asides_s2) gFuel ((0 : Int32), S)).bind fun q5 => match q5 with
| S5 =>
some S5
set_option maxHeartbeats 4000000 in
set_option maxRecDepth 20000 in
theorem ok_X7_asides {S S0 : gSt}  (h : f_X7_asides S = some S0) : gCT yX7_asides cX7_asides 2 none 0 (fun w => [.ref (w.2.1 47)]) S none S0 := by
  refine gEnter (fun X => [some (.ref (gad X 47)), none]) (by decide) (fun X => ⟨rfl, rfl⟩) (fun w => Nat.le_of_ble_eq_true rfl) (fun X hp => ?_)
  show AW X RX7 0 cX7_asides 0 [some (.ref (gad X 47)), none] [] S
  unfold f_X7_asides at h
  refine a_iconst (pc := 0) (v := (0 : Int32)) dX7_asides_0 (by decide) ?_
  refine a_istoren (pc := 1) dX7_asides_1 rfl (Nat.le_of_ble_eq_true rfl) rfl (L' := [some (.ref (gad X 47)), some (.int (0 : Int32))]) rfl ?_
  obtain ⟨R5, hR5, h⟩ := g_bind h
  have E2 : ∀  (S5 : gSt), (some S5) = some S0 → AW X RX7 0 cX7_asides 27 [none, none] [] S5 := by
    intro S5 h
    obtain rfl := Option.some.inj h
    exact a_vret hp dX7_asides_27
  have lp : ∀ (n : Nat) (x1 : Int32) (S : gSt), gLoop (f_X7_asides_s2) n (x1, S) = some R5 → AW X RX7 0 cX7_asides 2 [some (.ref (gad X 47)), some (.int x1)] [] S := by
    intro n
    induction n with
    | zero => intro x1 S hR; cases hR
    | succ n ih =>
      intro x1 S hR
      obtain ⟨q, hs, hR⟩ := g_bind hR
      have hs : f_X7_asides_s2_b x1 S = some q := hs
      unfold f_X7_asides_s2_b at hs
      refine a_iloadn (pc := 2) dX7_asides_2 rfl rfl ?_
      refine a_sipush (pc := 3) (v := (416 : Int32)) dX7_asides_3 (by decide) ?_
      refine a_icmp_ge (pc := 6) (tgt := 27) dX7_asides_6 (by decide) (fun c1 => ?_) (fun c1 => ?_)
      · rw [if_pos c1] at hs
        obtain rfl := Option.some.inj hs
        obtain rfl := Option.some.inj hR
        refine a_mask [false, false] (L' := [none, none]) rfl ?_
        exact E2  _ h
      · rw [if_neg c1] at hs
        refine a_aloadn (pc := 9) dX7_asides_9 rfl rfl ?_
        refine a_getA (pc := 10) flX7_25 sh_47 rfl dX7_asides_10 ?_
        refine a_iloadn (pc := 13) dX7_asides_13 rfl rfl ?_
        refine a_aloadn (pc := 14) dX7_asides_14 rfl rfl ?_
        refine a_getA (pc := 15) flX7_7 sh_47 rfl dX7_asides_15 ?_
        refine a_iloadn (pc := 18) dX7_asides_18 rfl rfl ?_
        obtain ⟨hi2, hs⟩ := g_if hs
        refine a_iald (pc := 19) sh_48 hi2 dX7_asides_19 ?_
        obtain ⟨hi3, hs⟩ := g_if hs
        refine a_iast (pc := 20) sh_53 hi3 dX7_asides_20 ?_
        obtain ⟨S4, eS4, hs⟩ := g_let hs
        refine a_nmS eS4 ?_
        refine a_iinc (pc := 21) dX7_asides_21 rfl (v := x1 + (1 : Int32)) rfl (Nat.le_of_ble_eq_true rfl) rfl (L' := [some (.ref (gad X 47)), some (.int (x1 + (1 : Int32)))]) rfl ?_
        refine a_goto (pc := 24) (tgt := 2) dX7_asides_24 (by decide) ?_
        obtain rfl := Option.some.inj hs
        exact ih _ _ hR
  exact lp _ _ _ hR5
theorem dX7_goesOn_0 : decode cX7_goesOn 0 = .ok (.iconst 0, 1) := by decide +kernel
theorem dX7_goesOn_1 : decode cX7_goesOn 1 = .ok (.istore_n 2, 1) := by decide +kernel
theorem dX7_goesOn_2 : decode cX7_goesOn 2 = .ok (.iload_n 2, 1) := by decide +kernel
theorem dX7_goesOn_3 : decode cX7_goesOn 3 = .ok (.iload_n 1, 1) := by decide +kernel
theorem dX7_goesOn_4 : decode cX7_goesOn 4 = .ok (.if_icmp .ge 13, 3) := by decide +kernel
theorem dX7_goesOn_7 : decode cX7_goesOn 7 = .ok (.aload_n 0, 1) := by decide +kernel
theorem dX7_goesOn_8 : decode cX7_goesOn 8 = .ok (.invokevirtual 161, 3) := by decide +kernel
theorem dX7_goesOn_11 : decode cX7_goesOn 11 = .ok (.iinc 2 1, 3) := by decide +kernel
theorem dX7_goesOn_14 : decode cX7_goesOn 14 = .ok (.goto (-12), 3) := by decide +kernel
theorem dX7_goesOn_17 : decode cX7_goesOn 17 = .ok (.return_, 1) := by decide +kernel
def f_X7_goesOn_s2_b (x1 : Int32) (x2 : Int32) (S : gSt) : Option ((Int32 × Int32 × gSt) ⊕ (gSt)) :=
(if x1 ≤ x2 then
some (.inr (S))
else
(f_X7_goesBy S).bind fun S2 =>
some (.inl (x1, x2 + (1 : Int32), S2)))
def f_X7_goesOn_s2 : (Int32 × Int32 × gSt) → Option ((Int32 × Int32 × gSt) ⊕ (gSt)) := fun t => f_X7_goesOn_s2_b t.1 t.2.1 t.2.2
def f_X7_goesOn (p1 : Int32) (S : gSt) : Option gSt :=
(gLoop (f_X7_goesOn_s2) gFuel (p1, (0 : Int32), S)).bind fun q4 => match q4 with
| S4 =>
some S4
set_option maxHeartbeats 4000000 in
set_option maxRecDepth 20000 in
theorem ok_X7_goesOn {p1 : Int32} {S S0 : gSt}  (h : f_X7_goesOn p1 S = some S0) : gCT yX7_goesOn cX7_goesOn 3 none 1 (fun w => [.ref (w.2.1 47), .int p1]) S none S0 := by
  refine gEnter (fun X => [some (.ref (gad X 47)), some (.int p1), none]) (by decide) (fun X => ⟨rfl, rfl⟩) (fun w => Nat.le_of_ble_eq_true rfl) (fun X hp => ?_)
  show AW X RX7 1 cX7_goesOn 0 [some (.ref (gad X 47)), some (.int p1), none] [] S
  unfold f_X7_goesOn at h
  refine a_iconst (pc := 0) (v := (0 : Int32)) dX7_goesOn_0 (by decide) ?_
  refine a_istoren (pc := 1) dX7_goesOn_1 rfl (Nat.le_of_ble_eq_true rfl) rfl (L' := [some (.ref (gad X 47)), some (.int p1), some (.int (0 : Int32))]) rfl ?_
  obtain ⟨R4, hR4, h⟩ := g_bind h
  have E2 : ∀  (S4 : gSt), (some S4) = some S0 → AW X RX7 1 cX7_goesOn 17 [none, none, none] [] S4 := by
    intro S4 h
    obtain rfl := Option.some.inj h
    exact a_vret hp dX7_goesOn_17
  have lp : ∀ (n : Nat) (x1 : Int32) (x2 : Int32) (S : gSt), gLoop (f_X7_goesOn_s2) n (x1, x2, S) = some R4 → AW X RX7 1 cX7_goesOn 2 [some (.ref (gad X 47)), some (.int x1), some (.int x2)] [] S := by
    intro n
    induction n with
    | zero => intro x1 x2 S hR; cases hR
    | succ n ih =>
      intro x1 x2 S hR
      obtain ⟨q, hs, hR⟩ := g_bind hR
      have hs : f_X7_goesOn_s2_b x1 x2 S = some q := hs
      unfold f_X7_goesOn_s2_b at hs
      refine a_iloadn (pc := 2) dX7_goesOn_2 rfl rfl ?_
      refine a_iloadn (pc := 3) dX7_goesOn_3 rfl rfl ?_
      refine a_icmp_ge (pc := 4) (tgt := 17) dX7_goesOn_4 (by decide) (fun c1 => ?_) (fun c1 => ?_)
      · rw [if_pos c1] at hs
        obtain rfl := Option.some.inj hs
        obtain rfl := Option.some.inj hR
        refine a_mask [false, false, false] (L' := [none, none, none]) rfl ?_
        exact E2  _ h
      · rw [if_neg c1] at hs
        refine a_aloadn (pc := 7) dX7_goesOn_7 rfl rfl ?_
        obtain ⟨S2, hc3, hs⟩ := g_bind hs
        refine a_invVv (pc := 8) (ok_X7_goesBy hc3) gyX7_goesBy vyX7_goesBy mlX7_161 sh_47 rfl (As := []) rfl rfl (by decide) (st := []) rfl (Nat.le_of_ble_eq_true rfl) dX7_goesOn_8 ?_
        refine a_iinc (pc := 11) dX7_goesOn_11 rfl (v := x2 + (1 : Int32)) rfl (Nat.le_of_ble_eq_true rfl) rfl (L' := [some (.ref (gad X 47)), some (.int x1), some (.int (x2 + (1 : Int32)))]) rfl ?_
        refine a_goto (pc := 14) (tgt := 2) dX7_goesOn_14 (by decide) ?_
        obtain rfl := Option.some.inj hs
        exact ih _ _ _ hR
  exact lp _ _ _ _ hR4
theorem dX7_backs_0 : decode cX7_backs 0 = .ok (.iconst 0, 1) := by decide +kernel
theorem dX7_backs_1 : decode cX7_backs 1 = .ok (.istore_n 1, 1) := by decide +kernel
theorem dX7_backs_2 : decode cX7_backs 2 = .ok (.iload_n 1, 1) := by decide +kernel
theorem dX7_backs_3 : decode cX7_backs 3 = .ok (.sipush 416, 3) := by decide +kernel
theorem dX7_backs_6 : decode cX7_backs 6 = .ok (.if_icmp .ge 21, 3) := by decide +kernel
theorem dX7_backs_9 : decode cX7_backs 9 = .ok (.aload_n 0, 1) := by decide +kernel
theorem dX7_backs_10 : decode cX7_backs 10 = .ok (.getfield 7, 3) := by decide +kernel
theorem dX7_backs_13 : decode cX7_backs 13 = .ok (.iload_n 1, 1) := by decide +kernel
theorem dX7_backs_14 : decode cX7_backs 14 = .ok (.aload_n 0, 1) := by decide +kernel
theorem dX7_backs_15 : decode cX7_backs 15 = .ok (.getfield 25, 3) := by decide +kernel
theorem dX7_backs_18 : decode cX7_backs 18 = .ok (.iload_n 1, 1) := by decide +kernel
theorem dX7_backs_19 : decode cX7_backs 19 = .ok (.iaload, 1) := by decide +kernel
theorem dX7_backs_20 : decode cX7_backs 20 = .ok (.iastore, 1) := by decide +kernel
theorem dX7_backs_21 : decode cX7_backs 21 = .ok (.iinc 1 1, 3) := by decide +kernel
theorem dX7_backs_24 : decode cX7_backs 24 = .ok (.goto (-22), 3) := by decide +kernel
theorem dX7_backs_27 : decode cX7_backs 27 = .ok (.return_, 1) := by decide +kernel
def f_X7_backs_s2_b (x1 : Int32) (S : gSt) : Option ((Int32 × gSt) ⊕ (gSt)) :=
(if (416 : Int32) ≤ x1 then
some (.inr (S))
else
if gin x1 416 then
(if gin x1 416 then
gLet (gI S 48 x1.toNatClampNeg (S.1 53 x1.toNatClampNeg)) fun S4 =>
(some (.inl (x1 + (1 : Int32), S4))) else none) else none)
def f_X7_backs_s2 : (Int32 × gSt) → Option ((Int32 × gSt) ⊕ (gSt)) := fun t => f_X7_backs_s2_b t.1 t.2
def f_X7_backs (S : gSt) : Option gSt :=
(gLoop (f_X7_backs_s2) gFuel ((0 : Int32), S)).bind fun q5 => match q5 with
| S5 =>
some S5
set_option maxHeartbeats 4000000 in
set_option maxRecDepth 20000 in
theorem ok_X7_backs {S S0 : gSt}  (h : f_X7_backs S = some S0) : gCT yX7_backs cX7_backs 2 none 0 (fun w => [.ref (w.2.1 47)]) S none S0 := by
  refine gEnter (fun X => [some (.ref (gad X 47)), none]) (by decide) (fun X => ⟨rfl, rfl⟩) (fun w => Nat.le_of_ble_eq_true rfl) (fun X hp => ?_)
  show AW X RX7 0 cX7_backs 0 [some (.ref (gad X 47)), none] [] S
  unfold f_X7_backs at h
  refine a_iconst (pc := 0) (v := (0 : Int32)) dX7_backs_0 (by decide) ?_
  refine a_istoren (pc := 1) dX7_backs_1 rfl (Nat.le_of_ble_eq_true rfl) rfl (L' := [some (.ref (gad X 47)), some (.int (0 : Int32))]) rfl ?_
  obtain ⟨R5, hR5, h⟩ := g_bind h
  have E2 : ∀  (S5 : gSt), (some S5) = some S0 → AW X RX7 0 cX7_backs 27 [none, none] [] S5 := by
    intro S5 h
    obtain rfl := Option.some.inj h
    exact a_vret hp dX7_backs_27
  have lp : ∀ (n : Nat) (x1 : Int32) (S : gSt), gLoop (f_X7_backs_s2) n (x1, S) = some R5 → AW X RX7 0 cX7_backs 2 [some (.ref (gad X 47)), some (.int x1)] [] S := by
    intro n
    induction n with
    | zero => intro x1 S hR; cases hR
    | succ n ih =>
      intro x1 S hR
      obtain ⟨q, hs, hR⟩ := g_bind hR
      have hs : f_X7_backs_s2_b x1 S = some q := hs
      unfold f_X7_backs_s2_b at hs
      refine a_iloadn (pc := 2) dX7_backs_2 rfl rfl ?_
      refine a_sipush (pc := 3) (v := (416 : Int32)) dX7_backs_3 (by decide) ?_
      refine a_icmp_ge (pc := 6) (tgt := 27) dX7_backs_6 (by decide) (fun c1 => ?_) (fun c1 => ?_)
      · rw [if_pos c1] at hs
        obtain rfl := Option.some.inj hs
        obtain rfl := Option.some.inj hR
        refine a_mask [false, false] (L' := [none, none]) rfl ?_
        exact E2  _ h
      · rw [if_neg c1] at hs
        refine a_aloadn (pc := 9) dX7_backs_9 rfl rfl ?_
        refine a_getA (pc := 10) flX7_7 sh_47 rfl dX7_backs_10 ?_
        refine a_iloadn (pc := 13) dX7_backs_13 rfl rfl ?_
        refine a_aloadn (pc := 14) dX7_backs_14 rfl rfl ?_
        refine a_getA (pc := 15) flX7_25 sh_47 rfl dX7_backs_15 ?_
        refine a_iloadn (pc := 18) dX7_backs_18 rfl rfl ?_
        obtain ⟨hi2, hs⟩ := g_if hs
        refine a_iald (pc := 19) sh_53 hi2 dX7_backs_19 ?_
        obtain ⟨hi3, hs⟩ := g_if hs
        refine a_iast (pc := 20) sh_48 hi3 dX7_backs_20 ?_
        obtain ⟨S4, eS4, hs⟩ := g_let hs
        refine a_nmS eS4 ?_
        refine a_iinc (pc := 21) dX7_backs_21 rfl (v := x1 + (1 : Int32)) rfl (Nat.le_of_ble_eq_true rfl) rfl (L' := [some (.ref (gad X 47)), some (.int (x1 + (1 : Int32)))]) rfl ?_
        refine a_goto (pc := 24) (tgt := 2) dX7_backs_24 (by decide) ?_
        obtain rfl := Option.some.inj hs
        exact ih _ _ hR
  exact lp _ _ _ hR5
theorem dX7_ahead_0 : decode cX7_ahead 0 = .ok (.iload_n 1, 1) := by decide +kernel
theorem dX7_ahead_1 : decode cX7_ahead 1 = .ok (.invokestatic 65, 3) := by decide +kernel
theorem dX7_ahead_4 : decode cX7_ahead 4 = .ok (.ifCond .eq 15, 3) := by decide +kernel
theorem dX7_ahead_7 : decode cX7_ahead 7 = .ok (.iload_n 2, 1) := by decide +kernel
theorem dX7_ahead_8 : decode cX7_ahead 8 = .ok (.i2l, 1) := by decide +kernel
theorem dX7_ahead_9 : decode cX7_ahead 9 = .ok (.lconst 0, 1) := by decide +kernel
theorem dX7_ahead_10 : decode cX7_ahead 10 = .ok (.ldc2_w 174, 3) := by decide +kernel
theorem dX7_ahead_13 : decode cX7_ahead 13 = .ok (.invokestatic 51, 3) := by decide +kernel
theorem dX7_ahead_16 : decode cX7_ahead 16 = .ok (.ifCond .ne 5, 3) := by decide +kernel
theorem dX7_ahead_19 : decode cX7_ahead 19 = .ok (.iconst (-1), 1) := by decide +kernel
theorem dX7_ahead_20 : decode cX7_ahead 20 = .ok (.ireturn, 1) := by decide +kernel
theorem dX7_ahead_21 : decode cX7_ahead 21 = .ok (.aload_n 0, 1) := by decide +kernel
theorem dX7_ahead_22 : decode cX7_ahead 22 = .ok (.invokevirtual 176, 3) := by decide +kernel
theorem dX7_ahead_25 : decode cX7_ahead 25 = .ok (.aload_n 0, 1) := by decide +kernel
theorem dX7_ahead_26 : decode cX7_ahead 26 = .ok (.iload_n 2, 1) := by decide +kernel
theorem dX7_ahead_27 : decode cX7_ahead 27 = .ok (.invokevirtual 179, 3) := by decide +kernel
theorem dX7_ahead_30 : decode cX7_ahead 30 = .ok (.aload_n 0, 1) := by decide +kernel
theorem dX7_ahead_31 : decode cX7_ahead 31 = .ok (.iload_n 1, 1) := by decide +kernel
theorem dX7_ahead_32 : decode cX7_ahead 32 = .ok (.invokevirtual 79, 3) := by decide +kernel
theorem dX7_ahead_35 : decode cX7_ahead 35 = .ok (.istore_n 3, 1) := by decide +kernel
theorem dX7_ahead_36 : decode cX7_ahead 36 = .ok (.aload_n 0, 1) := by decide +kernel
theorem dX7_ahead_37 : decode cX7_ahead 37 = .ok (.invokevirtual 182, 3) := by decide +kernel
theorem dX7_ahead_40 : decode cX7_ahead 40 = .ok (.iload_n 3, 1) := by decide +kernel
theorem dX7_ahead_41 : decode cX7_ahead 41 = .ok (.ireturn, 1) := by decide +kernel
def f_X7_ahead (p1 : Int32) (p2 : Int32) (S : gSt) : Option (Int32 × gSt) :=
gBind2 (f_X7_isCell p1 S) fun r3 S1 =>
(if r3 = 0 then
some ((-1 : Int32), S1)
else
gBind2 (f_X7_in (p2.toInt64) (0 : Int64) (48 : Int64) S1) fun r7 S5 =>
(if r7 = 0 then
some ((-1 : Int32), S5)
else
(f_X7_asides S5).bind fun S9 =>
(f_X7_goesOn p2 S9).bind fun S11 =>
gBind2 (f_X7_holder p1 S11) fun r15 S13 =>
(f_X7_backs S13).bind fun S16 =>
some (r15, S16)))
set_option maxHeartbeats 4000000 in
set_option maxRecDepth 20000 in
theorem ok_X7_ahead {p1 : Int32} {p2 : Int32} {S S0 : gSt} {r0 : Int32}  (h : f_X7_ahead p1 p2 S = some (r0, S0)) : gCT yX7_ahead cX7_ahead 4 (some .int) 3 (fun w => [.ref (w.2.1 47), .int p1, .int p2]) S (some (.int r0)) S0 := by
  refine gEnter (fun X => [some (.ref (gad X 47)), some (.int p1), some (.int p2), none]) (by decide) (fun X => ⟨rfl, rfl⟩) (fun w => Nat.le_of_ble_eq_true rfl) (fun X hp => ?_)
  show AW X RX7 3 cX7_ahead 0 [some (.ref (gad X 47)), some (.int p1), some (.int p2), none] [] S
  unfold f_X7_ahead at h
  refine a_iloadn (pc := 0) dX7_ahead_0 rfl rfl ?_
  obtain ⟨r3, S1, hc2, h⟩ := g_bind2 h
  refine a_invSi (pc := 1) (ok_X7_isCell hc2) gyX7_isCell syX7_isCell mlX7_65 (As := [.int p1]) rfl rfl (by decide) (st := []) rfl (Nat.le_of_ble_eq_true rfl) dX7_ahead_1 ?_
  refine a_if_eq (pc := 4) (tgt := 19) dX7_ahead_4 (by decide) (fun c4 => ?_) (fun c4 => ?_)
  · rw [if_pos c4] at h
    refine a_iconst (pc := 19) (v := (-1 : Int32)) dX7_ahead_19 (by decide) ?_
    obtain ⟨rfl, rfl⟩ := Prod.mk.inj (Option.some.inj h)
    exact a_iret hp dX7_ahead_20
  · rw [if_neg c4] at h
    refine a_iloadn (pc := 7) dX7_ahead_7 rfl rfl ?_
    refine a_i2l (pc := 8) dX7_ahead_8 ?_
    refine a_lconst (pc := 9) (v := (0 : Int64)) dX7_ahead_9 (by decide) ?_
    refine a_ldc2 (pc := 10) kX7_174 dX7_ahead_10 ?_
    obtain ⟨r7, S5, hc6, h⟩ := g_bind2 h
    refine a_invSi (pc := 13) (ok_X7_in hc6) gyX7_in syX7_in mlX7_51 (As := [.long (p2.toInt64), .long (0 : Int64), .long (48 : Int64)]) rfl rfl (by decide) (st := []) rfl (Nat.le_of_ble_eq_true rfl) dX7_ahead_13 ?_
    refine a_if_ne (pc := 16) (tgt := 21) dX7_ahead_16 (by decide) (fun c8 => ?_) (fun c8 => ?_)
    · rw [if_neg c8] at h
      refine a_aloadn (pc := 21) dX7_ahead_21 rfl rfl ?_
      obtain ⟨S9, hc10, h⟩ := g_bind h
      refine a_invVv (pc := 22) (ok_X7_asides hc10) gyX7_asides vyX7_asides mlX7_176 sh_47 rfl (As := []) rfl rfl (by decide) (st := []) rfl (Nat.le_of_ble_eq_true rfl) dX7_ahead_22 ?_
      refine a_aloadn (pc := 25) dX7_ahead_25 rfl rfl ?_
      refine a_iloadn (pc := 26) dX7_ahead_26 rfl rfl ?_
      obtain ⟨S11, hc12, h⟩ := g_bind h
      refine a_invVv (pc := 27) (ok_X7_goesOn hc12) gyX7_goesOn vyX7_goesOn mlX7_179 sh_47 rfl (As := [.int p2]) rfl rfl (by decide) (st := []) rfl (Nat.le_of_ble_eq_true rfl) dX7_ahead_27 ?_
      refine a_aloadn (pc := 30) dX7_ahead_30 rfl rfl ?_
      refine a_iloadn (pc := 31) dX7_ahead_31 rfl rfl ?_
      obtain ⟨r15, S13, hc14, h⟩ := g_bind2 h
      refine a_invVi (pc := 32) (ok_X7_holder hc14) gyX7_holder vyX7_holder mlX7_79 sh_47 rfl (As := [.int p1]) rfl rfl (by decide) (st := []) rfl (Nat.le_of_ble_eq_true rfl) dX7_ahead_32 ?_
      refine a_istoren (pc := 35) dX7_ahead_35 rfl (Nat.le_of_ble_eq_true rfl) rfl (L' := [some (.ref (gad X 47)), some (.int p1), some (.int p2), some (.int r15)]) rfl ?_
      refine a_aloadn (pc := 36) dX7_ahead_36 rfl rfl ?_
      obtain ⟨S16, hc17, h⟩ := g_bind h
      refine a_invVv (pc := 37) (ok_X7_backs hc17) gyX7_backs vyX7_backs mlX7_182 sh_47 rfl (As := []) rfl rfl (by decide) (st := []) rfl (Nat.le_of_ble_eq_true rfl) dX7_ahead_37 ?_
      refine a_iloadn (pc := 40) dX7_ahead_40 rfl rfl ?_
      obtain ⟨rfl, rfl⟩ := Prod.mk.inj (Option.some.inj h)
      exact a_iret hp dX7_ahead_41
    · rw [if_pos c8] at h
      refine a_iconst (pc := 19) (v := (-1 : Int32)) dX7_ahead_19 (by decide) ?_
      obtain ⟨rfl, rfl⟩ := Prod.mk.inj (Option.some.inj h)
      exact a_iret hp dX7_ahead_20
theorem dX7_land_0 : decode cX7_land 0 = .ok (.aload_n 0, 1) := by decide +kernel
theorem dX7_land_1 : decode cX7_land 1 = .ok (.iload_n 1, 1) := by decide +kernel
theorem dX7_land_2 : decode cX7_land 2 = .ok (.invokevirtual 82, 3) := by decide +kernel
theorem dX7_land_5 : decode cX7_land 5 = .ok (.ifCond .eq 15, 3) := by decide +kernel
theorem dX7_land_8 : decode cX7_land 8 = .ok (.iload_n 2, 1) := by decide +kernel
theorem dX7_land_9 : decode cX7_land 9 = .ok (.i2l, 1) := by decide +kernel
theorem dX7_land_10 : decode cX7_land 10 = .ok (.lconst 0, 1) := by decide +kernel
theorem dX7_land_11 : decode cX7_land 11 = .ok (.ldc2_w 174, 3) := by decide +kernel
theorem dX7_land_14 : decode cX7_land 14 = .ok (.invokestatic 51, 3) := by decide +kernel
theorem dX7_land_17 : decode cX7_land 17 = .ok (.ifCond .ne 5, 3) := by decide +kernel
theorem dX7_land_20 : decode cX7_land 20 = .ok (.iconst (-1), 1) := by decide +kernel
theorem dX7_land_21 : decode cX7_land 21 = .ok (.ireturn, 1) := by decide +kernel
theorem dX7_land_22 : decode cX7_land 22 = .ok (.aload_n 0, 1) := by decide +kernel
theorem dX7_land_23 : decode cX7_land 23 = .ok (.invokevirtual 176, 3) := by decide +kernel
theorem dX7_land_26 : decode cX7_land 26 = .ok (.aload_n 0, 1) := by decide +kernel
theorem dX7_land_27 : decode cX7_land 27 = .ok (.iload_n 2, 1) := by decide +kernel
theorem dX7_land_28 : decode cX7_land 28 = .ok (.invokevirtual 179, 3) := by decide +kernel
theorem dX7_land_31 : decode cX7_land 31 = .ok (.aload_n 0, 1) := by decide +kernel
theorem dX7_land_32 : decode cX7_land 32 = .ok (.iload_n 1, 1) := by decide +kernel
theorem dX7_land_33 : decode cX7_land 33 = .ok (.invokevirtual 93, 3) := by decide +kernel
theorem dX7_land_36 : decode cX7_land 36 = .ok (.istore_n 3, 1) := by decide +kernel
theorem dX7_land_37 : decode cX7_land 37 = .ok (.aload_n 0, 1) := by decide +kernel
theorem dX7_land_38 : decode cX7_land 38 = .ok (.invokevirtual 182, 3) := by decide +kernel
theorem dX7_land_41 : decode cX7_land 41 = .ok (.iload_n 3, 1) := by decide +kernel
theorem dX7_land_42 : decode cX7_land 42 = .ok (.ireturn, 1) := by decide +kernel
def f_X7_land (p1 : Int32) (p2 : Int32) (S : gSt) : Option (Int32 × gSt) :=
gBind2 (f_X7_isWalker p1 S) fun r3 S1 =>
(if r3 = 0 then
some ((-1 : Int32), S1)
else
gBind2 (f_X7_in (p2.toInt64) (0 : Int64) (48 : Int64) S1) fun r7 S5 =>
(if r7 = 0 then
some ((-1 : Int32), S5)
else
(f_X7_asides S5).bind fun S9 =>
(f_X7_goesOn p2 S9).bind fun S11 =>
gBind2 (f_X7_landOf p1 S11) fun r15 S13 =>
(f_X7_backs S13).bind fun S16 =>
some (r15, S16)))
set_option maxHeartbeats 4000000 in
set_option maxRecDepth 20000 in
theorem ok_X7_land {p1 : Int32} {p2 : Int32} {S S0 : gSt} {r0 : Int32}  (h : f_X7_land p1 p2 S = some (r0, S0)) : gCT yX7_land cX7_land 4 (some .int) 4 (fun w => [.ref (w.2.1 47), .int p1, .int p2]) S (some (.int r0)) S0 := by
  refine gEnter (fun X => [some (.ref (gad X 47)), some (.int p1), some (.int p2), none]) (by decide) (fun X => ⟨rfl, rfl⟩) (fun w => Nat.le_of_ble_eq_true rfl) (fun X hp => ?_)
  show AW X RX7 4 cX7_land 0 [some (.ref (gad X 47)), some (.int p1), some (.int p2), none] [] S
  unfold f_X7_land at h
  refine a_aloadn (pc := 0) dX7_land_0 rfl rfl ?_
  refine a_iloadn (pc := 1) dX7_land_1 rfl rfl ?_
  obtain ⟨r3, S1, hc2, h⟩ := g_bind2 h
  refine a_invVi (pc := 2) (ok_X7_isWalker hc2) gyX7_isWalker vyX7_isWalker mlX7_82 sh_47 rfl (As := [.int p1]) rfl rfl (by decide) (st := []) rfl (Nat.le_of_ble_eq_true rfl) dX7_land_2 ?_
  refine a_if_eq (pc := 5) (tgt := 20) dX7_land_5 (by decide) (fun c4 => ?_) (fun c4 => ?_)
  · rw [if_pos c4] at h
    refine a_iconst (pc := 20) (v := (-1 : Int32)) dX7_land_20 (by decide) ?_
    obtain ⟨rfl, rfl⟩ := Prod.mk.inj (Option.some.inj h)
    exact a_iret hp dX7_land_21
  · rw [if_neg c4] at h
    refine a_iloadn (pc := 8) dX7_land_8 rfl rfl ?_
    refine a_i2l (pc := 9) dX7_land_9 ?_
    refine a_lconst (pc := 10) (v := (0 : Int64)) dX7_land_10 (by decide) ?_
    refine a_ldc2 (pc := 11) kX7_174 dX7_land_11 ?_
    obtain ⟨r7, S5, hc6, h⟩ := g_bind2 h
    refine a_invSi (pc := 14) (ok_X7_in hc6) gyX7_in syX7_in mlX7_51 (As := [.long (p2.toInt64), .long (0 : Int64), .long (48 : Int64)]) rfl rfl (by decide) (st := []) rfl (Nat.le_of_ble_eq_true rfl) dX7_land_14 ?_
    refine a_if_ne (pc := 17) (tgt := 22) dX7_land_17 (by decide) (fun c8 => ?_) (fun c8 => ?_)
    · rw [if_neg c8] at h
      refine a_aloadn (pc := 22) dX7_land_22 rfl rfl ?_
      obtain ⟨S9, hc10, h⟩ := g_bind h
      refine a_invVv (pc := 23) (ok_X7_asides hc10) gyX7_asides vyX7_asides mlX7_176 sh_47 rfl (As := []) rfl rfl (by decide) (st := []) rfl (Nat.le_of_ble_eq_true rfl) dX7_land_23 ?_
      refine a_aloadn (pc := 26) dX7_land_26 rfl rfl ?_
      refine a_iloadn (pc := 27) dX7_land_27 rfl rfl ?_
      obtain ⟨S11, hc12, h⟩ := g_bind h
      refine a_invVv (pc := 28) (ok_X7_goesOn hc12) gyX7_goesOn vyX7_goesOn mlX7_179 sh_47 rfl (As := [.int p2]) rfl rfl (by decide) (st := []) rfl (Nat.le_of_ble_eq_true rfl) dX7_land_28 ?_
      refine a_aloadn (pc := 31) dX7_land_31 rfl rfl ?_
      refine a_iloadn (pc := 32) dX7_land_32 rfl rfl ?_
      obtain ⟨r15, S13, hc14, h⟩ := g_bind2 h
      refine a_invVi (pc := 33) (ok_X7_landOf hc14) gyX7_landOf vyX7_landOf mlX7_93 sh_47 rfl (As := [.int p1]) rfl rfl (by decide) (st := []) rfl (Nat.le_of_ble_eq_true rfl) dX7_land_33 ?_
      refine a_istoren (pc := 36) dX7_land_36 rfl (Nat.le_of_ble_eq_true rfl) rfl (L' := [some (.ref (gad X 47)), some (.int p1), some (.int p2), some (.int r15)]) rfl ?_
      refine a_aloadn (pc := 37) dX7_land_37 rfl rfl ?_
      obtain ⟨S16, hc17, h⟩ := g_bind h
      refine a_invVv (pc := 38) (ok_X7_backs hc17) gyX7_backs vyX7_backs mlX7_182 sh_47 rfl (As := []) rfl rfl (by decide) (st := []) rfl (Nat.le_of_ble_eq_true rfl) dX7_land_38 ?_
      refine a_iloadn (pc := 41) dX7_land_41 rfl rfl ?_
      obtain ⟨rfl, rfl⟩ := Prod.mk.inj (Option.some.inj h)
      exact a_iret hp dX7_land_42
    · rw [if_pos c8] at h
      refine a_iconst (pc := 20) (v := (-1 : Int32)) dX7_land_20 (by decide) ?_
      obtain ⟨rfl, rfl⟩ := Prod.mk.inj (Option.some.inj h)
      exact a_iret hp dX7_land_21
theorem dX7_lasts_0 : decode cX7_lasts 0 = .ok (.aload_n 0, 1) := by decide +kernel
theorem dX7_lasts_1 : decode cX7_lasts 1 = .ok (.iload_n 1, 1) := by decide +kernel
theorem dX7_lasts_2 : decode cX7_lasts 2 = .ok (.invokevirtual 82, 3) := by decide +kernel
theorem dX7_lasts_5 : decode cX7_lasts 5 = .ok (.ifCond .eq 10, 3) := by decide +kernel
theorem dX7_lasts_8 : decode cX7_lasts 8 = .ok (.iload_n 2, 1) := by decide +kernel
theorem dX7_lasts_9 : decode cX7_lasts 9 = .ok (.invokestatic 65, 3) := by decide +kernel
theorem dX7_lasts_12 : decode cX7_lasts 12 = .ok (.ifCond .ne 5, 3) := by decide +kernel
theorem dX7_lasts_15 : decode cX7_lasts 15 = .ok (.iconst (-1), 1) := by decide +kernel
theorem dX7_lasts_16 : decode cX7_lasts 16 = .ok (.ireturn, 1) := by decide +kernel
theorem dX7_lasts_17 : decode cX7_lasts 17 = .ok (.aload_n 0, 1) := by decide +kernel
theorem dX7_lasts_18 : decode cX7_lasts 18 = .ok (.iload_n 2, 1) := by decide +kernel
theorem dX7_lasts_19 : decode cX7_lasts 19 = .ok (.invokevirtual 79, 3) := by decide +kernel
theorem dX7_lasts_22 : decode cX7_lasts 22 = .ok (.iload_n 1, 1) := by decide +kernel
theorem dX7_lasts_23 : decode cX7_lasts 23 = .ok (.if_icmp .eq 6, 3) := by decide +kernel
theorem dX7_lasts_26 : decode cX7_lasts 26 = .ok (.bipush (-2), 2) := by decide +kernel
theorem dX7_lasts_28 : decode cX7_lasts 28 = .ok (.ireturn, 1) := by decide +kernel
theorem dX7_lasts_29 : decode cX7_lasts 29 = .ok (.aload_n 0, 1) := by decide +kernel
theorem dX7_lasts_30 : decode cX7_lasts 30 = .ok (.invokevirtual 176, 3) := by decide +kernel
theorem dX7_lasts_33 : decode cX7_lasts 33 = .ok (.iconst 0, 1) := by decide +kernel
theorem dX7_lasts_34 : decode cX7_lasts 34 = .ok (.istore_n 3, 1) := by decide +kernel
theorem dX7_lasts_35 : decode cX7_lasts 35 = .ok (.iload_n 3, 1) := by decide +kernel
theorem dX7_lasts_36 : decode cX7_lasts 36 = .ok (.bipush 49, 2) := by decide +kernel
theorem dX7_lasts_38 : decode cX7_lasts 38 = .ok (.if_icmp .ge 22, 3) := by decide +kernel
theorem dX7_lasts_41 : decode cX7_lasts 41 = .ok (.aload_n 0, 1) := by decide +kernel
theorem dX7_lasts_42 : decode cX7_lasts 42 = .ok (.iload_n 2, 1) := by decide +kernel
theorem dX7_lasts_43 : decode cX7_lasts 43 = .ok (.invokevirtual 79, 3) := by decide +kernel
theorem dX7_lasts_46 : decode cX7_lasts 46 = .ok (.iload_n 1, 1) := by decide +kernel
theorem dX7_lasts_47 : decode cX7_lasts 47 = .ok (.if_icmp .ne 13, 3) := by decide +kernel
theorem dX7_lasts_50 : decode cX7_lasts 50 = .ok (.aload_n 0, 1) := by decide +kernel
theorem dX7_lasts_51 : decode cX7_lasts 51 = .ok (.invokevirtual 161, 3) := by decide +kernel
theorem dX7_lasts_54 : decode cX7_lasts 54 = .ok (.iinc 3 1, 3) := by decide +kernel
theorem dX7_lasts_57 : decode cX7_lasts 57 = .ok (.goto (-22), 3) := by decide +kernel
theorem dX7_lasts_60 : decode cX7_lasts 60 = .ok (.aload_n 0, 1) := by decide +kernel
theorem dX7_lasts_61 : decode cX7_lasts 61 = .ok (.invokevirtual 182, 3) := by decide +kernel
theorem dX7_lasts_64 : decode cX7_lasts 64 = .ok (.iload_n 3, 1) := by decide +kernel
theorem dX7_lasts_65 : decode cX7_lasts 65 = .ok (.bipush 48, 2) := by decide +kernel
theorem dX7_lasts_67 : decode cX7_lasts 67 = .ok (.if_icmp .le 8, 3) := by decide +kernel
theorem dX7_lasts_70 : decode cX7_lasts 70 = .ok (.bipush (-4), 2) := by decide +kernel
theorem dX7_lasts_72 : decode cX7_lasts 72 = .ok (.goto 4, 3) := by decide +kernel
theorem dX7_lasts_75 : decode cX7_lasts 75 = .ok (.iload_n 3, 1) := by decide +kernel
theorem dX7_lasts_76 : decode cX7_lasts 76 = .ok (.ireturn, 1) := by decide +kernel
def f_X7_lasts_j60 (x3 : Int32) (S : gSt) : Option (Int32 × gSt) :=
(f_X7_backs S).bind fun S1 =>
(if x3 ≤ (48 : Int32) then
some (x3, S1)
else
some ((-4 : Int32), S1))
def f_X7_lasts_s35_b (x1 : Int32) (x2 : Int32) (x3 : Int32) (S : gSt) : Option ((Int32 × Int32 × Int32 × gSt) ⊕ (Int32 × gSt)) :=
(if (49 : Int32) ≤ x3 then
some (.inr (x3, S))
else
gBind2 (f_X7_holder x2 S) fun r21 S19 =>
(if r21 = x1 then
(f_X7_goesBy S19).bind fun S23 =>
some (.inl (x1, x2, x3 + (1 : Int32), S23))
else
some (.inr (x3, S19))))
def f_X7_lasts_s35 : (Int32 × Int32 × Int32 × gSt) → Option ((Int32 × Int32 × Int32 × gSt) ⊕ (Int32 × gSt)) := fun t => f_X7_lasts_s35_b t.1 t.2.1 t.2.2.1 t.2.2.2
def f_X7_lasts (p1 : Int32) (p2 : Int32) (S : gSt) : Option (Int32 × gSt) :=
gBind2 (f_X7_isWalker p1 S) fun r6 S4 =>
(if r6 = 0 then
some ((-1 : Int32), S4)
else
gBind2 (f_X7_isCell p2 S4) fun r10 S8 =>
(if r10 = 0 then
some ((-1 : Int32), S8)
else
gBind2 (f_X7_holder p2 S8) fun r14 S12 =>
(if r14 = p1 then
(f_X7_asides S12).bind fun S16 =>
(gLoop (f_X7_lasts_s35) gFuel (p1, p2, (0 : Int32), S16)).bind fun q25 => match q25 with
| (y3_25, S25) =>
f_X7_lasts_j60 y3_25 S25
else
some ((-2 : Int32), S12))))
set_option maxHeartbeats 4000000 in
set_option maxRecDepth 20000 in
theorem ok_X7_lasts {p1 : Int32} {p2 : Int32} {S S0 : gSt} {r0 : Int32}  (h : f_X7_lasts p1 p2 S = some (r0, S0)) : gCT yX7_lasts cX7_lasts 4 (some .int) 3 (fun w => [.ref (w.2.1 47), .int p1, .int p2]) S (some (.int r0)) S0 := by
  refine gEnter (fun X => [some (.ref (gad X 47)), some (.int p1), some (.int p2), none]) (by decide) (fun X => ⟨rfl, rfl⟩) (fun w => Nat.le_of_ble_eq_true rfl) (fun X hp => ?_)
  show AW X RX7 3 cX7_lasts 0 [some (.ref (gad X 47)), some (.int p1), some (.int p2), none] [] S
  unfold f_X7_lasts at h
  have J60 : ∀ (x3 : Int32) (S : gSt), f_X7_lasts_j60 x3 S = some (r0, S0) → AW X RX7 3 cX7_lasts 60 [some (.ref (gad X 47)), none, none, some (.int x3)] [] S := by
    intro x3 S h
    unfold f_X7_lasts_j60 at h
    refine a_aloadn (pc := 60) dX7_lasts_60 rfl rfl ?_
    obtain ⟨S1, hc2, h⟩ := g_bind h
    refine a_invVv (pc := 61) (ok_X7_backs hc2) gyX7_backs vyX7_backs mlX7_182 sh_47 rfl (As := []) rfl rfl (by decide) (st := []) rfl (Nat.le_of_ble_eq_true rfl) dX7_lasts_61 ?_
    refine a_iloadn (pc := 64) dX7_lasts_64 rfl rfl ?_
    refine a_bipush (pc := 65) (v := (48 : Int32)) dX7_lasts_65 (by decide) ?_
    refine a_icmp_le (pc := 67) (tgt := 75) dX7_lasts_67 (by decide) (fun c3 => ?_) (fun c3 => ?_)
    · rw [if_pos c3] at h
      refine a_iloadn (pc := 75) dX7_lasts_75 rfl rfl ?_
      obtain ⟨rfl, rfl⟩ := Prod.mk.inj (Option.some.inj h)
      exact a_iret hp dX7_lasts_76
    · rw [if_neg c3] at h
      refine a_bipush (pc := 70) (v := (-4 : Int32)) dX7_lasts_70 (by decide) ?_
      refine a_goto (pc := 72) (tgt := 76) dX7_lasts_72 (by decide) ?_
      obtain ⟨rfl, rfl⟩ := Prod.mk.inj (Option.some.inj h)
      exact a_iret hp dX7_lasts_76
  refine a_aloadn (pc := 0) dX7_lasts_0 rfl rfl ?_
  refine a_iloadn (pc := 1) dX7_lasts_1 rfl rfl ?_
  obtain ⟨r6, S4, hc5, h⟩ := g_bind2 h
  refine a_invVi (pc := 2) (ok_X7_isWalker hc5) gyX7_isWalker vyX7_isWalker mlX7_82 sh_47 rfl (As := [.int p1]) rfl rfl (by decide) (st := []) rfl (Nat.le_of_ble_eq_true rfl) dX7_lasts_2 ?_
  refine a_if_eq (pc := 5) (tgt := 15) dX7_lasts_5 (by decide) (fun c7 => ?_) (fun c7 => ?_)
  · rw [if_pos c7] at h
    refine a_iconst (pc := 15) (v := (-1 : Int32)) dX7_lasts_15 (by decide) ?_
    obtain ⟨rfl, rfl⟩ := Prod.mk.inj (Option.some.inj h)
    exact a_iret hp dX7_lasts_16
  · rw [if_neg c7] at h
    refine a_iloadn (pc := 8) dX7_lasts_8 rfl rfl ?_
    obtain ⟨r10, S8, hc9, h⟩ := g_bind2 h
    refine a_invSi (pc := 9) (ok_X7_isCell hc9) gyX7_isCell syX7_isCell mlX7_65 (As := [.int p2]) rfl rfl (by decide) (st := []) rfl (Nat.le_of_ble_eq_true rfl) dX7_lasts_9 ?_
    refine a_if_ne (pc := 12) (tgt := 17) dX7_lasts_12 (by decide) (fun c11 => ?_) (fun c11 => ?_)
    · rw [if_neg c11] at h
      refine a_aloadn (pc := 17) dX7_lasts_17 rfl rfl ?_
      refine a_iloadn (pc := 18) dX7_lasts_18 rfl rfl ?_
      obtain ⟨r14, S12, hc13, h⟩ := g_bind2 h
      refine a_invVi (pc := 19) (ok_X7_holder hc13) gyX7_holder vyX7_holder mlX7_79 sh_47 rfl (As := [.int p2]) rfl rfl (by decide) (st := []) rfl (Nat.le_of_ble_eq_true rfl) dX7_lasts_19 ?_
      refine a_iloadn (pc := 22) dX7_lasts_22 rfl rfl ?_
      refine a_icmp_eq (pc := 23) (tgt := 29) dX7_lasts_23 (by decide) (fun c15 => ?_) (fun c15 => ?_)
      · rw [if_pos c15] at h
        refine a_aloadn (pc := 29) dX7_lasts_29 rfl rfl ?_
        obtain ⟨S16, hc17, h⟩ := g_bind h
        refine a_invVv (pc := 30) (ok_X7_asides hc17) gyX7_asides vyX7_asides mlX7_176 sh_47 rfl (As := []) rfl rfl (by decide) (st := []) rfl (Nat.le_of_ble_eq_true rfl) dX7_lasts_30 ?_
        refine a_iconst (pc := 33) (v := (0 : Int32)) dX7_lasts_33 (by decide) ?_
        refine a_istoren (pc := 34) dX7_lasts_34 rfl (Nat.le_of_ble_eq_true rfl) rfl (L' := [some (.ref (gad X 47)), some (.int p1), some (.int p2), some (.int (0 : Int32))]) rfl ?_
        obtain ⟨R25, hR25, h⟩ := g_bind h
        have E35 : ∀ (y3_25 : Int32) (S25 : gSt), (f_X7_lasts_j60 y3_25 S25) = some (r0, S0) → AW X RX7 3 cX7_lasts 60 [some (.ref (gad X 47)), none, none, some (.int y3_25)] [] S25 := by
          intro y3_25 S25 h
          exact J60 _ _ h
        have lp : ∀ (n : Nat) (x1 : Int32) (x2 : Int32) (x3 : Int32) (S : gSt), gLoop (f_X7_lasts_s35) n (x1, x2, x3, S) = some R25 → AW X RX7 3 cX7_lasts 35 [some (.ref (gad X 47)), some (.int x1), some (.int x2), some (.int x3)] [] S := by
          intro n
          induction n with
          | zero => intro x1 x2 x3 S hR; cases hR
          | succ n ih =>
            intro x1 x2 x3 S hR
            obtain ⟨q, hs, hR⟩ := g_bind hR
            have hs : f_X7_lasts_s35_b x1 x2 x3 S = some q := hs
            unfold f_X7_lasts_s35_b at hs
            refine a_iloadn (pc := 35) dX7_lasts_35 rfl rfl ?_
            refine a_bipush (pc := 36) (v := (49 : Int32)) dX7_lasts_36 (by decide) ?_
            refine a_icmp_ge (pc := 38) (tgt := 60) dX7_lasts_38 (by decide) (fun c18 => ?_) (fun c18 => ?_)
            · rw [if_pos c18] at hs
              obtain rfl := Option.some.inj hs
              obtain rfl := Option.some.inj hR
              refine a_mask [true, false, false, true] (L' := [some (.ref (gad X 47)), none, none, some (.int x3)]) rfl ?_
              exact E35 _ _ h
            · rw [if_neg c18] at hs
              refine a_aloadn (pc := 41) dX7_lasts_41 rfl rfl ?_
              refine a_iloadn (pc := 42) dX7_lasts_42 rfl rfl ?_
              obtain ⟨r21, S19, hc20, hs⟩ := g_bind2 hs
              refine a_invVi (pc := 43) (ok_X7_holder hc20) gyX7_holder vyX7_holder mlX7_79 sh_47 rfl (As := [.int x2]) rfl rfl (by decide) (st := []) rfl (Nat.le_of_ble_eq_true rfl) dX7_lasts_43 ?_
              refine a_iloadn (pc := 46) dX7_lasts_46 rfl rfl ?_
              refine a_icmp_ne (pc := 47) (tgt := 60) dX7_lasts_47 (by decide) (fun c22 => ?_) (fun c22 => ?_)
              · rw [if_neg c22] at hs
                obtain rfl := Option.some.inj hs
                obtain rfl := Option.some.inj hR
                refine a_mask [true, false, false, true] (L' := [some (.ref (gad X 47)), none, none, some (.int x3)]) rfl ?_
                exact E35 _ _ h
              · rw [if_pos c22] at hs
                refine a_aloadn (pc := 50) dX7_lasts_50 rfl rfl ?_
                obtain ⟨S23, hc24, hs⟩ := g_bind hs
                refine a_invVv (pc := 51) (ok_X7_goesBy hc24) gyX7_goesBy vyX7_goesBy mlX7_161 sh_47 rfl (As := []) rfl rfl (by decide) (st := []) rfl (Nat.le_of_ble_eq_true rfl) dX7_lasts_51 ?_
                refine a_iinc (pc := 54) dX7_lasts_54 rfl (v := x3 + (1 : Int32)) rfl (Nat.le_of_ble_eq_true rfl) rfl (L' := [some (.ref (gad X 47)), some (.int x1), some (.int x2), some (.int (x3 + (1 : Int32)))]) rfl ?_
                refine a_goto (pc := 57) (tgt := 35) dX7_lasts_57 (by decide) ?_
                obtain rfl := Option.some.inj hs
                exact ih _ _ _ _ hR
        exact lp _ _ _ _ _ hR25
      · rw [if_neg c15] at h
        refine a_bipush (pc := 26) (v := (-2 : Int32)) dX7_lasts_26 (by decide) ?_
        obtain ⟨rfl, rfl⟩ := Prod.mk.inj (Option.some.inj h)
        exact a_iret hp dX7_lasts_28
    · rw [if_pos c11] at h
      refine a_iconst (pc := 15) (v := (-1 : Int32)) dX7_lasts_15 (by decide) ?_
      obtain ⟨rfl, rfl⟩ := Prod.mk.inj (Option.some.inj h)
      exact a_iret hp dX7_lasts_16
theorem dX7_county_0 : decode cX7_county 0 = .ok (.aload_n 0, 1) := by decide +kernel
theorem dX7_county_1 : decode cX7_county 1 = .ok (.iload_n 1, 1) := by decide +kernel
theorem dX7_county_2 : decode cX7_county 2 = .ok (.invokevirtual 82, 3) := by decide +kernel
theorem dX7_county_5 : decode cX7_county 5 = .ok (.ifCond .ne 5, 3) := by decide +kernel
theorem dX7_county_8 : decode cX7_county 8 = .ok (.iconst (-1), 1) := by decide +kernel
theorem dX7_county_9 : decode cX7_county 9 = .ok (.ireturn, 1) := by decide +kernel
theorem dX7_county_10 : decode cX7_county 10 = .ok (.iconst 0, 1) := by decide +kernel
theorem dX7_county_11 : decode cX7_county 11 = .ok (.istore_n 2, 1) := by decide +kernel
theorem dX7_county_12 : decode cX7_county 12 = .ok (.iload_n 2, 1) := by decide +kernel
theorem dX7_county_13 : decode cX7_county 13 = .ok (.bipush 64, 2) := by decide +kernel
theorem dX7_county_15 : decode cX7_county 15 = .ok (.if_icmp .ge 75, 3) := by decide +kernel
theorem dX7_county_18 : decode cX7_county 18 = .ok (.iload_n 2, 1) := by decide +kernel
theorem dX7_county_19 : decode cX7_county 19 = .ok (.bipush 8, 2) := by decide +kernel
theorem dX7_county_21 : decode cX7_county 21 = .ok (.irem, 1) := by decide +kernel
theorem dX7_county_22 : decode cX7_county 22 = .ok (.ifCond .eq 24, 3) := by decide +kernel
theorem dX7_county_25 : decode cX7_county 25 = .ok (.iload_n 2, 1) := by decide +kernel
theorem dX7_county_26 : decode cX7_county 26 = .ok (.bipush 8, 2) := by decide +kernel
theorem dX7_county_28 : decode cX7_county 28 = .ok (.irem, 1) := by decide +kernel
theorem dX7_county_29 : decode cX7_county 29 = .ok (.bipush 7, 2) := by decide +kernel
theorem dX7_county_31 : decode cX7_county 31 = .ok (.if_icmp .eq 15, 3) := by decide +kernel
theorem dX7_county_34 : decode cX7_county 34 = .ok (.iload_n 2, 1) := by decide +kernel
theorem dX7_county_35 : decode cX7_county 35 = .ok (.bipush 8, 2) := by decide +kernel
theorem dX7_county_37 : decode cX7_county 37 = .ok (.if_icmp .lt 9, 3) := by decide +kernel
theorem dX7_county_40 : decode cX7_county 40 = .ok (.iload_n 2, 1) := by decide +kernel
theorem dX7_county_41 : decode cX7_county 41 = .ok (.bipush 55, 2) := by decide +kernel
theorem dX7_county_43 : decode cX7_county 43 = .ok (.if_icmp .le 7, 3) := by decide +kernel
theorem dX7_county_46 : decode cX7_county 46 = .ok (.iconst 1, 1) := by decide +kernel
theorem dX7_county_47 : decode cX7_county 47 = .ok (.goto 4, 3) := by decide +kernel
theorem dX7_county_50 : decode cX7_county 50 = .ok (.iconst 0, 1) := by decide +kernel
theorem dX7_county_51 : decode cX7_county 51 = .ok (.istore_n 3, 1) := by decide +kernel
theorem dX7_county_52 : decode cX7_county 52 = .ok (.aload_n 0, 1) := by decide +kernel
theorem dX7_county_53 : decode cX7_county 53 = .ok (.getfield 28, 3) := by decide +kernel
theorem dX7_county_56 : decode cX7_county 56 = .ok (.iload_n 2, 1) := by decide +kernel
theorem dX7_county_57 : decode cX7_county 57 = .ok (.iload_n 3, 1) := by decide +kernel
theorem dX7_county_58 : decode cX7_county 58 = .ok (.ifCond .eq 24, 3) := by decide +kernel
theorem dX7_county_61 : decode cX7_county 61 = .ok (.aload_n 0, 1) := by decide +kernel
theorem dX7_county_62 : decode cX7_county 62 = .ok (.getfield 7, 3) := by decide +kernel
theorem dX7_county_65 : decode cX7_county 65 = .ok (.bipush 32, 2) := by decide +kernel
theorem dX7_county_67 : decode cX7_county 67 = .ok (.bipush 64, 2) := by decide +kernel
theorem dX7_county_69 : decode cX7_county 69 = .ok (.iload_n 1, 1) := by decide +kernel
theorem dX7_county_70 : decode cX7_county 70 = .ok (.imul, 1) := by decide +kernel
theorem dX7_county_71 : decode cX7_county 71 = .ok (.iadd, 1) := by decide +kernel
theorem dX7_county_72 : decode cX7_county 72 = .ok (.iload_n 2, 1) := by decide +kernel
theorem dX7_county_73 : decode cX7_county 73 = .ok (.iadd, 1) := by decide +kernel
theorem dX7_county_74 : decode cX7_county 74 = .ok (.iaload, 1) := by decide +kernel
theorem dX7_county_75 : decode cX7_county 75 = .ok (.ifCond .ne 7, 3) := by decide +kernel
theorem dX7_county_78 : decode cX7_county 78 = .ok (.iconst 1, 1) := by decide +kernel
theorem dX7_county_79 : decode cX7_county 79 = .ok (.goto 4, 3) := by decide +kernel
theorem dX7_county_82 : decode cX7_county 82 = .ok (.iconst 0, 1) := by decide +kernel
theorem dX7_county_83 : decode cX7_county 83 = .ok (.bastore, 1) := by decide +kernel
theorem dX7_county_84 : decode cX7_county 84 = .ok (.iinc 2 1, 3) := by decide +kernel
theorem dX7_county_87 : decode cX7_county 87 = .ok (.goto (-75), 3) := by decide +kernel
theorem dX7_county_90 : decode cX7_county 90 = .ok (.iconst 1, 1) := by decide +kernel
theorem dX7_county_91 : decode cX7_county 91 = .ok (.istore_n 2, 1) := by decide +kernel
theorem dX7_county_92 : decode cX7_county 92 = .ok (.iload_n 2, 1) := by decide +kernel
theorem dX7_county_93 : decode cX7_county 93 = .ok (.ifCond .eq 99, 3) := by decide +kernel
theorem dX7_county_96 : decode cX7_county 96 = .ok (.iconst 0, 1) := by decide +kernel
theorem dX7_county_97 : decode cX7_county 97 = .ok (.istore_n 2, 1) := by decide +kernel
theorem dX7_county_98 : decode cX7_county 98 = .ok (.iconst 0, 1) := by decide +kernel
theorem dX7_county_99 : decode cX7_county 99 = .ok (.istore_n 3, 1) := by decide +kernel
theorem dX7_county_100 : decode cX7_county 100 = .ok (.iload_n 3, 1) := by decide +kernel
theorem dX7_county_101 : decode cX7_county 101 = .ok (.bipush 64, 2) := by decide +kernel
theorem dX7_county_103 : decode cX7_county 103 = .ok (.if_icmp .ge 86, 3) := by decide +kernel
theorem dX7_county_106 : decode cX7_county 106 = .ok (.iconst 0, 1) := by decide +kernel
theorem dX7_county_107 : decode cX7_county 107 = .ok (.istore 4, 2) := by decide +kernel
theorem dX7_county_109 : decode cX7_county 109 = .ok (.iload 4, 2) := by decide +kernel
theorem dX7_county_111 : decode cX7_county 111 = .ok (.iconst 4, 1) := by decide +kernel
theorem dX7_county_112 : decode cX7_county 112 = .ok (.if_icmp .ge 71, 3) := by decide +kernel
theorem dX7_county_115 : decode cX7_county 115 = .ok (.aload_n 0, 1) := by decide +kernel
theorem dX7_county_116 : decode cX7_county 116 = .ok (.getfield 28, 3) := by decide +kernel
theorem dX7_county_119 : decode cX7_county 119 = .ok (.iload_n 3, 1) := by decide +kernel
theorem dX7_county_120 : decode cX7_county 120 = .ok (.baload, 1) := by decide +kernel
theorem dX7_county_121 : decode cX7_county 121 = .ok (.ifCond .eq 62, 3) := by decide +kernel
theorem dX7_county_124 : decode cX7_county 124 = .ok (.iload_n 3, 1) := by decide +kernel
theorem dX7_county_125 : decode cX7_county 125 = .ok (.iload 4, 2) := by decide +kernel
theorem dX7_county_127 : decode cX7_county 127 = .ok (.invokestatic 146, 3) := by decide +kernel
theorem dX7_county_130 : decode cX7_county 130 = .ok (.istore 5, 2) := by decide +kernel
theorem dX7_county_132 : decode cX7_county 132 = .ok (.iload 5, 2) := by decide +kernel
theorem dX7_county_134 : decode cX7_county 134 = .ok (.bipush (-4), 2) := by decide +kernel
theorem dX7_county_136 : decode cX7_county 136 = .ok (.if_icmp .eq 41, 3) := by decide +kernel
theorem dX7_county_139 : decode cX7_county 139 = .ok (.aload_n 0, 1) := by decide +kernel
theorem dX7_county_140 : decode cX7_county 140 = .ok (.getfield 28, 3) := by decide +kernel
theorem dX7_county_143 : decode cX7_county 143 = .ok (.iload 5, 2) := by decide +kernel
theorem dX7_county_145 : decode cX7_county 145 = .ok (.baload, 1) := by decide +kernel
theorem dX7_county_146 : decode cX7_county 146 = .ok (.ifCond .ne 31, 3) := by decide +kernel
theorem dX7_county_149 : decode cX7_county 149 = .ok (.aload_n 0, 1) := by decide +kernel
theorem dX7_county_150 : decode cX7_county 150 = .ok (.getfield 7, 3) := by decide +kernel
theorem dX7_county_153 : decode cX7_county 153 = .ok (.bipush 32, 2) := by decide +kernel
theorem dX7_county_155 : decode cX7_county 155 = .ok (.bipush 64, 2) := by decide +kernel
theorem dX7_county_157 : decode cX7_county 157 = .ok (.iload_n 1, 1) := by decide +kernel
theorem dX7_county_158 : decode cX7_county 158 = .ok (.imul, 1) := by decide +kernel
theorem dX7_county_159 : decode cX7_county 159 = .ok (.iadd, 1) := by decide +kernel
theorem dX7_county_160 : decode cX7_county 160 = .ok (.iload 5, 2) := by decide +kernel
theorem dX7_county_162 : decode cX7_county 162 = .ok (.iadd, 1) := by decide +kernel
theorem dX7_county_163 : decode cX7_county 163 = .ok (.iaload, 1) := by decide +kernel
theorem dX7_county_164 : decode cX7_county 164 = .ok (.ifCond .ne 13, 3) := by decide +kernel
theorem dX7_county_167 : decode cX7_county 167 = .ok (.aload_n 0, 1) := by decide +kernel
theorem dX7_county_168 : decode cX7_county 168 = .ok (.getfield 28, 3) := by decide +kernel
theorem dX7_county_171 : decode cX7_county 171 = .ok (.iload 5, 2) := by decide +kernel
theorem dX7_county_173 : decode cX7_county 173 = .ok (.iconst 1, 1) := by decide +kernel
theorem dX7_county_174 : decode cX7_county 174 = .ok (.bastore, 1) := by decide +kernel
theorem dX7_county_175 : decode cX7_county 175 = .ok (.iconst 1, 1) := by decide +kernel
theorem dX7_county_176 : decode cX7_county 176 = .ok (.istore_n 2, 1) := by decide +kernel
theorem dX7_county_177 : decode cX7_county 177 = .ok (.iinc 4 1, 3) := by decide +kernel
theorem dX7_county_180 : decode cX7_county 180 = .ok (.goto (-71), 3) := by decide +kernel
theorem dX7_county_183 : decode cX7_county 183 = .ok (.iinc 3 1, 3) := by decide +kernel
theorem dX7_county_186 : decode cX7_county 186 = .ok (.goto (-86), 3) := by decide +kernel
theorem dX7_county_189 : decode cX7_county 189 = .ok (.goto (-97), 3) := by decide +kernel
theorem dX7_county_192 : decode cX7_county 192 = .ok (.iconst 0, 1) := by decide +kernel
theorem dX7_county_193 : decode cX7_county 193 = .ok (.istore_n 3, 1) := by decide +kernel
theorem dX7_county_194 : decode cX7_county 194 = .ok (.iconst 0, 1) := by decide +kernel
theorem dX7_county_195 : decode cX7_county 195 = .ok (.istore 4, 2) := by decide +kernel
theorem dX7_county_197 : decode cX7_county 197 = .ok (.iload 4, 2) := by decide +kernel
theorem dX7_county_199 : decode cX7_county 199 = .ok (.bipush 64, 2) := by decide +kernel
theorem dX7_county_201 : decode cX7_county 201 = .ok (.if_icmp .ge 45, 3) := by decide +kernel
theorem dX7_county_204 : decode cX7_county 204 = .ok (.iload_n 3, 1) := by decide +kernel
theorem dX7_county_205 : decode cX7_county 205 = .ok (.aload_n 0, 1) := by decide +kernel
theorem dX7_county_206 : decode cX7_county 206 = .ok (.getfield 28, 3) := by decide +kernel
theorem dX7_county_209 : decode cX7_county 209 = .ok (.iload 4, 2) := by decide +kernel
theorem dX7_county_211 : decode cX7_county 211 = .ok (.baload, 1) := by decide +kernel
theorem dX7_county_212 : decode cX7_county 212 = .ok (.ifCond .ne 25, 3) := by decide +kernel
theorem dX7_county_215 : decode cX7_county 215 = .ok (.aload_n 0, 1) := by decide +kernel
theorem dX7_county_216 : decode cX7_county 216 = .ok (.getfield 7, 3) := by decide +kernel
theorem dX7_county_219 : decode cX7_county 219 = .ok (.bipush 32, 2) := by decide +kernel
theorem dX7_county_221 : decode cX7_county 221 = .ok (.bipush 64, 2) := by decide +kernel
theorem dX7_county_223 : decode cX7_county 223 = .ok (.iload_n 1, 1) := by decide +kernel
theorem dX7_county_224 : decode cX7_county 224 = .ok (.imul, 1) := by decide +kernel
theorem dX7_county_225 : decode cX7_county 225 = .ok (.iadd, 1) := by decide +kernel
theorem dX7_county_226 : decode cX7_county 226 = .ok (.iload 4, 2) := by decide +kernel
theorem dX7_county_228 : decode cX7_county 228 = .ok (.iadd, 1) := by decide +kernel
theorem dX7_county_229 : decode cX7_county 229 = .ok (.iaload, 1) := by decide +kernel
theorem dX7_county_230 : decode cX7_county 230 = .ok (.ifCond .ne 7, 3) := by decide +kernel
theorem dX7_county_233 : decode cX7_county 233 = .ok (.iconst 1, 1) := by decide +kernel
theorem dX7_county_234 : decode cX7_county 234 = .ok (.goto 4, 3) := by decide +kernel
theorem dX7_county_237 : decode cX7_county 237 = .ok (.iconst 0, 1) := by decide +kernel
theorem dX7_county_238 : decode cX7_county 238 = .ok (.iadd, 1) := by decide +kernel
theorem dX7_county_239 : decode cX7_county 239 = .ok (.istore_n 3, 1) := by decide +kernel
theorem dX7_county_240 : decode cX7_county 240 = .ok (.iinc 4 1, 3) := by decide +kernel
theorem dX7_county_243 : decode cX7_county 243 = .ok (.goto (-46), 3) := by decide +kernel
theorem dX7_county_246 : decode cX7_county 246 = .ok (.iload_n 3, 1) := by decide +kernel
theorem dX7_county_247 : decode cX7_county 247 = .ok (.ireturn, 1) := by decide +kernel
def f_X7_county_j51 (x1 : Int32) (x2 : Int32) (t0 : Int32) (S : gSt) : Option ((Int32 × Int32 × gSt) ⊕ (Int32 × gSt)) :=
(if t0 = 0 then
if gin x2 64 then
gLet (gI S 54 x2.toNatClampNeg (0 : Int32)) fun S7 =>
(some (.inl (x1, x2 + (1 : Int32), S7))) else none
else
if gin (((32 : Int32) + ((64 : Int32) * x1)) + x2) 416 then
((if (S.1 48 (((32 : Int32) + ((64 : Int32) * x1)) + x2).toNatClampNeg) = 0 then
if gin x2 64 then
gLet (gI S 54 x2.toNatClampNeg (1 : Int32)) fun S13 =>
(some (.inl (x1, x2 + (1 : Int32), S13))) else none
else
if gin x2 64 then
gLet (gI S 54 x2.toNatClampNeg (0 : Int32)) fun S11 =>
(some (.inl (x1, x2 + (1 : Int32), S11))) else none)) else none)
def f_X7_county_j46 (x1 : Int32) (x2 : Int32) (S : gSt) : Option ((Int32 × Int32 × gSt) ⊕ (Int32 × gSt)) :=
f_X7_county_j51 x1 x2 (1 : Int32) S
def f_X7_county_s12_b (x1 : Int32) (x2 : Int32) (S : gSt) : Option ((Int32 × Int32 × gSt) ⊕ (Int32 × gSt)) :=
(if (64 : Int32) ≤ x2 then
some (.inr (x1, S))
else
(if (x2 - x2 / (8 : Int32) * (8 : Int32)) = 0 then
f_X7_county_j46 x1 x2 S
else
(if (x2 - x2 / (8 : Int32) * (8 : Int32)) = (7 : Int32) then
f_X7_county_j46 x1 x2 S
else
(if x2 < (8 : Int32) then
f_X7_county_j46 x1 x2 S
else
(if x2 ≤ (55 : Int32) then
f_X7_county_j51 x1 x2 (0 : Int32) S
else
f_X7_county_j46 x1 x2 S)))))
def f_X7_county_s12 : (Int32 × Int32 × gSt) → Option ((Int32 × Int32 × gSt) ⊕ (Int32 × gSt)) := fun t => f_X7_county_s12_b t.1 t.2.1 t.2.2
def f_X7_county_s109_b (x1 : Int32) (x2 : Int32) (x3 : Int32) (x4 : Int32) (S : gSt) : Option ((Int32 × Int32 × Int32 × Int32 × gSt) ⊕ (Int32 × Int32 × Int32 × gSt)) :=
(if (4 : Int32) ≤ x4 then
some (.inr (x1, x2, x3, S))
else
if gin x3 64 then
((if (S.1 54 x3.toNatClampNeg) = 0 then
some (.inr (x1, x2, x3, S))
else
gBind2 (f_X7_beside x3 x4 S) fun r27 S25 =>
(if r27 = (-4 : Int32) then
some (.inl (x1, x2, x3, x4 + (1 : Int32), S25))
else
if gin r27 64 then
((if (S25.1 54 r27.toNatClampNeg) = 0 then
if gin (((32 : Int32) + ((64 : Int32) * x1)) + r27) 416 then
((if (S25.1 48 (((32 : Int32) + ((64 : Int32) * x1)) + r27).toNatClampNeg) = 0 then
if gin r27 64 then
gLet (gI S25 54 r27.toNatClampNeg (1 : Int32)) fun S34 =>
(some (.inl (x1, (1 : Int32), x3, x4 + (1 : Int32), S34))) else none
else
some (.inl (x1, x2, x3, x4 + (1 : Int32), S25)))) else none
else
some (.inl (x1, x2, x3, x4 + (1 : Int32), S25)))) else none))) else none)
def f_X7_county_s109 : (Int32 × Int32 × Int32 × Int32 × gSt) → Option ((Int32 × Int32 × Int32 × Int32 × gSt) ⊕ (Int32 × Int32 × Int32 × gSt)) := fun t => f_X7_county_s109_b t.1 t.2.1 t.2.2.1 t.2.2.2.1 t.2.2.2.2
def f_X7_county_s100_b (x1 : Int32) (x2 : Int32) (x3 : Int32) (S : gSt) : Option ((Int32 × Int32 × Int32 × gSt) ⊕ (Int32 × Int32 × gSt)) :=
(if (64 : Int32) ≤ x3 then
some (.inr (x1, x2, S))
else
(gLoop (f_X7_county_s109) gFuel (x1, x2, x3, (0 : Int32), S)).bind fun q35 => match q35 with
| (y1_35, y2_35, y3_35, S35) =>
some (.inl (y1_35, y2_35, y3_35 + (1 : Int32), S35)))
def f_X7_county_s100 : (Int32 × Int32 × Int32 × gSt) → Option ((Int32 × Int32 × Int32 × gSt) ⊕ (Int32 × Int32 × gSt)) := fun t => f_X7_county_s100_b t.1 t.2.1 t.2.2.1 t.2.2.2
def f_X7_county_s92_b (x1 : Int32) (x2 : Int32) (S : gSt) : Option ((Int32 × Int32 × gSt) ⊕ (Int32 × gSt)) :=
(if x2 = 0 then
some (.inr (x1, S))
else
(gLoop (f_X7_county_s100) gFuel (x1, (0 : Int32), (0 : Int32), S)).bind fun q36 => match q36 with
| (y1_36, y2_36, S36) =>
some (.inl (y1_36, y2_36, S36)))
def f_X7_county_s92 : (Int32 × Int32 × gSt) → Option ((Int32 × Int32 × gSt) ⊕ (Int32 × gSt)) := fun t => f_X7_county_s92_b t.1 t.2.1 t.2.2
def f_X7_county_s197_b (x1 : Int32) (x3 : Int32) (x4 : Int32) (S : gSt) : Option ((Int32 × Int32 × Int32 × gSt) ⊕ (Int32 × gSt)) :=
(if (64 : Int32) ≤ x4 then
some (.inr (x3, S))
else
if gin x4 64 then
((if (S.1 54 x4.toNatClampNeg) = 0 then
if gin (((32 : Int32) + ((64 : Int32) * x1)) + x4) 416 then
((if (S.1 48 (((32 : Int32) + ((64 : Int32) * x1)) + x4).toNatClampNeg) = 0 then
gLet (x3 + (1 : Int32)) fun v45 =>
some (.inl (x1, v45, x4 + (1 : Int32), S))
else
gLet (x3 + (0 : Int32)) fun v44 =>
some (.inl (x1, v44, x4 + (1 : Int32), S)))) else none
else
gLet (x3 + (0 : Int32)) fun v41 =>
some (.inl (x1, v41, x4 + (1 : Int32), S)))) else none)
def f_X7_county_s197 : (Int32 × Int32 × Int32 × gSt) → Option ((Int32 × Int32 × Int32 × gSt) ⊕ (Int32 × gSt)) := fun t => f_X7_county_s197_b t.1 t.2.1 t.2.2.1 t.2.2.2
def f_X7_county (p1 : Int32) (S : gSt) : Option (Int32 × gSt) :=
gBind2 (f_X7_isWalker p1 S) fun r3 S1 =>
(if r3 = 0 then
some ((-1 : Int32), S1)
else
(gLoop (f_X7_county_s12) gFuel (p1, (0 : Int32), S1)).bind fun q19 => match q19 with
| (y1_19, S19) =>
(gLoop (f_X7_county_s92) gFuel (y1_19, (1 : Int32), S19)).bind fun q37 => match q37 with
| (y1_37, S37) =>
(gLoop (f_X7_county_s197) gFuel (y1_37, (0 : Int32), (0 : Int32), S37)).bind fun q46 => match q46 with
| (y3_46, S46) =>
some (y3_46, S46))
set_option maxHeartbeats 4000000 in
set_option maxRecDepth 20000 in
theorem ok_X7_county {p1 : Int32} {S S0 : gSt} {r0 : Int32}  (h : f_X7_county p1 S = some (r0, S0)) : gCT yX7_county cX7_county 6 (some .int) 2 (fun w => [.ref (w.2.1 47), .int p1]) S (some (.int r0)) S0 := by
  refine gEnter (fun X => [some (.ref (gad X 47)), some (.int p1), none, none, none, none]) (by decide) (fun X => ⟨rfl, rfl⟩) (fun w => Nat.le_of_ble_eq_true rfl) (fun X hp => ?_)
  show AW X RX7 2 cX7_county 0 [some (.ref (gad X 47)), some (.int p1), none, none, none, none] [] S
  unfold f_X7_county at h
  refine a_aloadn (pc := 0) dX7_county_0 rfl rfl ?_
  refine a_iloadn (pc := 1) dX7_county_1 rfl rfl ?_
  obtain ⟨r3, S1, hc2, h⟩ := g_bind2 h
  refine a_invVi (pc := 2) (ok_X7_isWalker hc2) gyX7_isWalker vyX7_isWalker mlX7_82 sh_47 rfl (As := [.int p1]) rfl rfl (by decide) (st := []) rfl (Nat.le_of_ble_eq_true rfl) dX7_county_2 ?_
  refine a_if_ne (pc := 5) (tgt := 10) dX7_county_5 (by decide) (fun c4 => ?_) (fun c4 => ?_)
  · rw [if_neg c4] at h
    refine a_iconst (pc := 10) (v := (0 : Int32)) dX7_county_10 (by decide) ?_
    refine a_istoren (pc := 11) dX7_county_11 rfl (Nat.le_of_ble_eq_true rfl) rfl (L' := [some (.ref (gad X 47)), some (.int p1), some (.int (0 : Int32)), none, none, none]) rfl ?_
    obtain ⟨R19, hR19, h⟩ := g_bind h
    have E12 : ∀ (y1_19 : Int32) (S19 : gSt), ((gLoop (f_X7_county_s92) gFuel (y1_19, (1 : Int32), S19)).bind fun q37 => match q37 with | (y1_37, S37) => (gLoop (f_X7_county_s197) gFuel (y1_37, (0 : Int32), (0 : Int32), S37)).bind fun q46 => match q46 with | (y3_46, S46) => some (y3_46, S46)) = some (r0, S0) → AW X RX7 2 cX7_county 90 [some (.ref (gad X 47)), some (.int y1_19), none, none, none, none] [] S19 := by
      intro y1_19 S19 h
      refine a_iconst (pc := 90) (v := (1 : Int32)) dX7_county_90 (by decide) ?_
      refine a_istoren (pc := 91) dX7_county_91 rfl (Nat.le_of_ble_eq_true rfl) rfl (L' := [some (.ref (gad X 47)), some (.int y1_19), some (.int (1 : Int32)), none, none, none]) rfl ?_
      obtain ⟨R37, hR37, h⟩ := g_bind h
      have E92 : ∀ (y1_37 : Int32) (S37 : gSt), ((gLoop (f_X7_county_s197) gFuel (y1_37, (0 : Int32), (0 : Int32), S37)).bind fun q46 => match q46 with | (y3_46, S46) => some (y3_46, S46)) = some (r0, S0) → AW X RX7 2 cX7_county 192 [some (.ref (gad X 47)), some (.int y1_37), none, none, none, none] [] S37 := by
        intro y1_37 S37 h
        refine a_iconst (pc := 192) (v := (0 : Int32)) dX7_county_192 (by decide) ?_
        refine a_istoren (pc := 193) dX7_county_193 rfl (Nat.le_of_ble_eq_true rfl) rfl (L' := [some (.ref (gad X 47)), some (.int y1_37), none, some (.int (0 : Int32)), none, none]) rfl ?_
        refine a_iconst (pc := 194) (v := (0 : Int32)) dX7_county_194 (by decide) ?_
        refine a_istore (pc := 195) dX7_county_195 (Nat.le_of_ble_eq_true rfl) rfl (L' := [some (.ref (gad X 47)), some (.int y1_37), none, some (.int (0 : Int32)), some (.int (0 : Int32)), none]) rfl ?_
        obtain ⟨R46, hR46, h⟩ := g_bind h
        have E197 : ∀ (y3_46 : Int32) (S46 : gSt), (some (y3_46, S46)) = some (r0, S0) → AW X RX7 2 cX7_county 246 [none, none, none, some (.int y3_46), none, none] [] S46 := by
          intro y3_46 S46 h
          refine a_iloadn (pc := 246) dX7_county_246 rfl rfl ?_
          obtain ⟨rfl, rfl⟩ := Prod.mk.inj (Option.some.inj h)
          exact a_iret hp dX7_county_247
        have lp : ∀ (n : Nat) (x1 : Int32) (x3 : Int32) (x4 : Int32) (S : gSt), gLoop (f_X7_county_s197) n (x1, x3, x4, S) = some R46 → AW X RX7 2 cX7_county 197 [some (.ref (gad X 47)), some (.int x1), none, some (.int x3), some (.int x4), none] [] S := by
          intro n
          induction n with
          | zero => intro x1 x3 x4 S hR; cases hR
          | succ n ih =>
            intro x1 x3 x4 S hR
            obtain ⟨q, hs, hR⟩ := g_bind hR
            have hs : f_X7_county_s197_b x1 x3 x4 S = some q := hs
            unfold f_X7_county_s197_b at hs
            refine a_iload (pc := 197) dX7_county_197 rfl ?_
            refine a_bipush (pc := 199) (v := (64 : Int32)) dX7_county_199 (by decide) ?_
            refine a_icmp_ge (pc := 201) (tgt := 246) dX7_county_201 (by decide) (fun c38 => ?_) (fun c38 => ?_)
            · rw [if_pos c38] at hs
              obtain rfl := Option.some.inj hs
              obtain rfl := Option.some.inj hR
              refine a_mask [false, false, true, true, false, true] (L' := [none, none, none, some (.int x3), none, none]) rfl ?_
              exact E197 _ _ h
            · rw [if_neg c38] at hs
              refine a_iloadn (pc := 204) dX7_county_204 rfl rfl ?_
              refine a_aloadn (pc := 205) dX7_county_205 rfl rfl ?_
              refine a_getA (pc := 206) flX7_28 sh_47 rfl dX7_county_206 ?_
              refine a_iload (pc := 209) dX7_county_209 rfl ?_
              obtain ⟨hi39, hs⟩ := g_if hs
              refine a_zald (pc := 211) sh_54 hi39 dX7_county_211 ?_
              refine a_if_ne (pc := 212) (tgt := 237) dX7_county_212 (by decide) (fun c40 => ?_) (fun c40 => ?_)
              · rw [if_neg c40] at hs
                refine a_iconst (pc := 237) (v := (0 : Int32)) dX7_county_237 (by decide) ?_
                refine a_iadd (pc := 238) dX7_county_238 ?_
                obtain ⟨v41, ev41, hs⟩ := g_let hs
                refine a_nmI ev41 ?_
                refine a_istoren (pc := 239) dX7_county_239 rfl (Nat.le_of_ble_eq_true rfl) rfl (L' := [some (.ref (gad X 47)), some (.int x1), none, some (.int v41), some (.int x4), none]) rfl ?_
                refine a_iinc (pc := 240) dX7_county_240 rfl (v := x4 + (1 : Int32)) rfl (Nat.le_of_ble_eq_true rfl) rfl (L' := [some (.ref (gad X 47)), some (.int x1), none, some (.int v41), some (.int (x4 + (1 : Int32))), none]) rfl ?_
                refine a_goto (pc := 243) (tgt := 197) dX7_county_243 (by decide) ?_
                obtain rfl := Option.some.inj hs
                exact ih _ _ _ _ hR
              · rw [if_pos c40] at hs
                refine a_aloadn (pc := 215) dX7_county_215 rfl rfl ?_
                refine a_getA (pc := 216) flX7_7 sh_47 rfl dX7_county_216 ?_
                refine a_bipush (pc := 219) (v := (32 : Int32)) dX7_county_219 (by decide) ?_
                refine a_bipush (pc := 221) (v := (64 : Int32)) dX7_county_221 (by decide) ?_
                refine a_iloadn (pc := 223) dX7_county_223 rfl rfl ?_
                refine a_imul (pc := 224) dX7_county_224 ?_
                refine a_iadd (pc := 225) dX7_county_225 ?_
                refine a_iload (pc := 226) dX7_county_226 rfl ?_
                refine a_iadd (pc := 228) dX7_county_228 ?_
                obtain ⟨hi42, hs⟩ := g_if hs
                refine a_iald (pc := 229) sh_48 hi42 dX7_county_229 ?_
                refine a_if_ne (pc := 230) (tgt := 237) dX7_county_230 (by decide) (fun c43 => ?_) (fun c43 => ?_)
                · rw [if_neg c43] at hs
                  refine a_iconst (pc := 237) (v := (0 : Int32)) dX7_county_237 (by decide) ?_
                  refine a_iadd (pc := 238) dX7_county_238 ?_
                  obtain ⟨v44, ev44, hs⟩ := g_let hs
                  refine a_nmI ev44 ?_
                  refine a_istoren (pc := 239) dX7_county_239 rfl (Nat.le_of_ble_eq_true rfl) rfl (L' := [some (.ref (gad X 47)), some (.int x1), none, some (.int v44), some (.int x4), none]) rfl ?_
                  refine a_iinc (pc := 240) dX7_county_240 rfl (v := x4 + (1 : Int32)) rfl (Nat.le_of_ble_eq_true rfl) rfl (L' := [some (.ref (gad X 47)), some (.int x1), none, some (.int v44), some (.int (x4 + (1 : Int32))), none]) rfl ?_
                  refine a_goto (pc := 243) (tgt := 197) dX7_county_243 (by decide) ?_
                  obtain rfl := Option.some.inj hs
                  exact ih _ _ _ _ hR
                · rw [if_pos c43] at hs
                  refine a_iconst (pc := 233) (v := (1 : Int32)) dX7_county_233 (by decide) ?_
                  refine a_goto (pc := 234) (tgt := 238) dX7_county_234 (by decide) ?_
                  refine a_iadd (pc := 238) dX7_county_238 ?_
                  obtain ⟨v45, ev45, hs⟩ := g_let hs
                  refine a_nmI ev45 ?_
                  refine a_istoren (pc := 239) dX7_county_239 rfl (Nat.le_of_ble_eq_true rfl) rfl (L' := [some (.ref (gad X 47)), some (.int x1), none, some (.int v45), some (.int x4), none]) rfl ?_
                  refine a_iinc (pc := 240) dX7_county_240 rfl (v := x4 + (1 : Int32)) rfl (Nat.le_of_ble_eq_true rfl) rfl (L' := [some (.ref (gad X 47)), some (.int x1), none, some (.int v45), some (.int (x4 + (1 : Int32))), none]) rfl ?_
                  refine a_goto (pc := 243) (tgt := 197) dX7_county_243 (by decide) ?_
                  obtain rfl := Option.some.inj hs
                  exact ih _ _ _ _ hR
        exact lp _ _ _ _ _ hR46
      have lp : ∀ (n : Nat) (x1 : Int32) (x2 : Int32) (S : gSt), gLoop (f_X7_county_s92) n (x1, x2, S) = some R37 → AW X RX7 2 cX7_county 92 [some (.ref (gad X 47)), some (.int x1), some (.int x2), none, none, none] [] S := by
        intro n
        induction n with
        | zero => intro x1 x2 S hR; cases hR
        | succ n ih =>
          intro x1 x2 S hR
          obtain ⟨q, hs, hR⟩ := g_bind hR
          have hs : f_X7_county_s92_b x1 x2 S = some q := hs
          unfold f_X7_county_s92_b at hs
          refine a_iloadn (pc := 92) dX7_county_92 rfl rfl ?_
          refine a_if_eq (pc := 93) (tgt := 192) dX7_county_93 (by decide) (fun c20 => ?_) (fun c20 => ?_)
          · rw [if_pos c20] at hs
            obtain rfl := Option.some.inj hs
            obtain rfl := Option.some.inj hR
            refine a_mask [true, true, false, true, true, true] (L' := [some (.ref (gad X 47)), some (.int x1), none, none, none, none]) rfl ?_
            exact E92 _ _ h
          · rw [if_neg c20] at hs
            refine a_iconst (pc := 96) (v := (0 : Int32)) dX7_county_96 (by decide) ?_
            refine a_istoren (pc := 97) dX7_county_97 rfl (Nat.le_of_ble_eq_true rfl) rfl (L' := [some (.ref (gad X 47)), some (.int x1), some (.int (0 : Int32)), none, none, none]) rfl ?_
            refine a_iconst (pc := 98) (v := (0 : Int32)) dX7_county_98 (by decide) ?_
            refine a_istoren (pc := 99) dX7_county_99 rfl (Nat.le_of_ble_eq_true rfl) rfl (L' := [some (.ref (gad X 47)), some (.int x1), some (.int (0 : Int32)), some (.int (0 : Int32)), none, none]) rfl ?_
            obtain ⟨R36, hR36, hs⟩ := g_bind hs
            have E100 : ∀ (y1_36 : Int32) (y2_36 : Int32) (S36 : gSt), (some (.inl (y1_36, y2_36, S36))) = some q → AW X RX7 2 cX7_county 189 [some (.ref (gad X 47)), some (.int y1_36), some (.int y2_36), none, none, none] [] S36 := by
              intro y1_36 y2_36 S36 hs
              refine a_goto (pc := 189) (tgt := 92) dX7_county_189 (by decide) ?_
              obtain rfl := Option.some.inj hs
              exact ih _ _ _ hR
            have lp : ∀ (n : Nat) (x1 : Int32) (x2 : Int32) (x3 : Int32) (S : gSt), gLoop (f_X7_county_s100) n (x1, x2, x3, S) = some R36 → AW X RX7 2 cX7_county 100 [some (.ref (gad X 47)), some (.int x1), some (.int x2), some (.int x3), none, none] [] S := by
              intro n
              induction n with
              | zero => intro x1 x2 x3 S hR; cases hR
              | succ n ih =>
                intro x1 x2 x3 S hR
                obtain ⟨q, hs, hR⟩ := g_bind hR
                have hs : f_X7_county_s100_b x1 x2 x3 S = some q := hs
                unfold f_X7_county_s100_b at hs
                refine a_iloadn (pc := 100) dX7_county_100 rfl rfl ?_
                refine a_bipush (pc := 101) (v := (64 : Int32)) dX7_county_101 (by decide) ?_
                refine a_icmp_ge (pc := 103) (tgt := 189) dX7_county_103 (by decide) (fun c21 => ?_) (fun c21 => ?_)
                · rw [if_pos c21] at hs
                  obtain rfl := Option.some.inj hs
                  obtain rfl := Option.some.inj hR
                  refine a_mask [true, true, true, false, true, true] (L' := [some (.ref (gad X 47)), some (.int x1), some (.int x2), none, none, none]) rfl ?_
                  exact E100 _ _ _ hs
                · rw [if_neg c21] at hs
                  refine a_iconst (pc := 106) (v := (0 : Int32)) dX7_county_106 (by decide) ?_
                  refine a_istore (pc := 107) dX7_county_107 (Nat.le_of_ble_eq_true rfl) rfl (L' := [some (.ref (gad X 47)), some (.int x1), some (.int x2), some (.int x3), some (.int (0 : Int32)), none]) rfl ?_
                  obtain ⟨R35, hR35, hs⟩ := g_bind hs
                  have E109 : ∀ (y1_35 : Int32) (y2_35 : Int32) (y3_35 : Int32) (S35 : gSt), (some (.inl (y1_35, y2_35, y3_35 + (1 : Int32), S35))) = some q → AW X RX7 2 cX7_county 183 [some (.ref (gad X 47)), some (.int y1_35), some (.int y2_35), some (.int y3_35), none, none] [] S35 := by
                    intro y1_35 y2_35 y3_35 S35 hs
                    refine a_iinc (pc := 183) dX7_county_183 rfl (v := y3_35 + (1 : Int32)) rfl (Nat.le_of_ble_eq_true rfl) rfl (L' := [some (.ref (gad X 47)), some (.int y1_35), some (.int y2_35), some (.int (y3_35 + (1 : Int32))), none, none]) rfl ?_
                    refine a_goto (pc := 186) (tgt := 100) dX7_county_186 (by decide) ?_
                    obtain rfl := Option.some.inj hs
                    exact ih _ _ _ _ hR
                  have lp : ∀ (n : Nat) (x1 : Int32) (x2 : Int32) (x3 : Int32) (x4 : Int32) (S : gSt), gLoop (f_X7_county_s109) n (x1, x2, x3, x4, S) = some R35 → AW X RX7 2 cX7_county 109 [some (.ref (gad X 47)), some (.int x1), some (.int x2), some (.int x3), some (.int x4), none] [] S := by
                    intro n
                    induction n with
                    | zero => intro x1 x2 x3 x4 S hR; cases hR
                    | succ n ih =>
                      intro x1 x2 x3 x4 S hR
                      obtain ⟨q, hs, hR⟩ := g_bind hR
                      have hs : f_X7_county_s109_b x1 x2 x3 x4 S = some q := hs
                      unfold f_X7_county_s109_b at hs
                      refine a_iload (pc := 109) dX7_county_109 rfl ?_
                      refine a_iconst (pc := 111) (v := (4 : Int32)) dX7_county_111 (by decide) ?_
                      refine a_icmp_ge (pc := 112) (tgt := 183) dX7_county_112 (by decide) (fun c22 => ?_) (fun c22 => ?_)
                      · rw [if_pos c22] at hs
                        obtain rfl := Option.some.inj hs
                        obtain rfl := Option.some.inj hR
                        refine a_mask [true, true, true, true, false, true] (L' := [some (.ref (gad X 47)), some (.int x1), some (.int x2), some (.int x3), none, none]) rfl ?_
                        exact E109 _ _ _ _ hs
                      · rw [if_neg c22] at hs
                        refine a_aloadn (pc := 115) dX7_county_115 rfl rfl ?_
                        refine a_getA (pc := 116) flX7_28 sh_47 rfl dX7_county_116 ?_
                        refine a_iloadn (pc := 119) dX7_county_119 rfl rfl ?_
                        obtain ⟨hi23, hs⟩ := g_if hs
                        refine a_zald (pc := 120) sh_54 hi23 dX7_county_120 ?_
                        refine a_if_eq (pc := 121) (tgt := 183) dX7_county_121 (by decide) (fun c24 => ?_) (fun c24 => ?_)
                        · rw [if_pos c24] at hs
                          obtain rfl := Option.some.inj hs
                          obtain rfl := Option.some.inj hR
                          refine a_mask [true, true, true, true, false, true] (L' := [some (.ref (gad X 47)), some (.int x1), some (.int x2), some (.int x3), none, none]) rfl ?_
                          exact E109 _ _ _ _ hs
                        · rw [if_neg c24] at hs
                          refine a_iloadn (pc := 124) dX7_county_124 rfl rfl ?_
                          refine a_iload (pc := 125) dX7_county_125 rfl ?_
                          obtain ⟨r27, S25, hc26, hs⟩ := g_bind2 hs
                          refine a_invSi (pc := 127) (ok_X7_beside hc26) gyX7_beside syX7_beside mlX7_146 (As := [.int x3, .int x4]) rfl rfl (by decide) (st := []) rfl (Nat.le_of_ble_eq_true rfl) dX7_county_127 ?_
                          refine a_istore (pc := 130) dX7_county_130 (Nat.le_of_ble_eq_true rfl) rfl (L' := [some (.ref (gad X 47)), some (.int x1), some (.int x2), some (.int x3), some (.int x4), some (.int r27)]) rfl ?_
                          refine a_iload (pc := 132) dX7_county_132 rfl ?_
                          refine a_bipush (pc := 134) (v := (-4 : Int32)) dX7_county_134 (by decide) ?_
                          refine a_icmp_eq (pc := 136) (tgt := 177) dX7_county_136 (by decide) (fun c28 => ?_) (fun c28 => ?_)
                          · rw [if_pos c28] at hs
                            refine a_iinc (pc := 177) dX7_county_177 rfl (v := x4 + (1 : Int32)) rfl (Nat.le_of_ble_eq_true rfl) rfl (L' := [some (.ref (gad X 47)), some (.int x1), some (.int x2), some (.int x3), some (.int (x4 + (1 : Int32))), some (.int r27)]) rfl ?_
                            refine a_goto (pc := 180) (tgt := 109) dX7_county_180 (by decide) ?_
                            obtain rfl := Option.some.inj hs
                            refine a_mask [true, true, true, true, true, false] (L' := [some (.ref (gad X 47)), some (.int x1), some (.int x2), some (.int x3), some (.int (x4 + (1 : Int32))), none]) rfl ?_
                            exact ih _ _ _ _ _ hR
                          · rw [if_neg c28] at hs
                            refine a_aloadn (pc := 139) dX7_county_139 rfl rfl ?_
                            refine a_getA (pc := 140) flX7_28 sh_47 rfl dX7_county_140 ?_
                            refine a_iload (pc := 143) dX7_county_143 rfl ?_
                            obtain ⟨hi29, hs⟩ := g_if hs
                            refine a_zald (pc := 145) sh_54 hi29 dX7_county_145 ?_
                            refine a_if_ne (pc := 146) (tgt := 177) dX7_county_146 (by decide) (fun c30 => ?_) (fun c30 => ?_)
                            · rw [if_neg c30] at hs
                              refine a_iinc (pc := 177) dX7_county_177 rfl (v := x4 + (1 : Int32)) rfl (Nat.le_of_ble_eq_true rfl) rfl (L' := [some (.ref (gad X 47)), some (.int x1), some (.int x2), some (.int x3), some (.int (x4 + (1 : Int32))), some (.int r27)]) rfl ?_
                              refine a_goto (pc := 180) (tgt := 109) dX7_county_180 (by decide) ?_
                              obtain rfl := Option.some.inj hs
                              refine a_mask [true, true, true, true, true, false] (L' := [some (.ref (gad X 47)), some (.int x1), some (.int x2), some (.int x3), some (.int (x4 + (1 : Int32))), none]) rfl ?_
                              exact ih _ _ _ _ _ hR
                            · rw [if_pos c30] at hs
                              refine a_aloadn (pc := 149) dX7_county_149 rfl rfl ?_
                              refine a_getA (pc := 150) flX7_7 sh_47 rfl dX7_county_150 ?_
                              refine a_bipush (pc := 153) (v := (32 : Int32)) dX7_county_153 (by decide) ?_
                              refine a_bipush (pc := 155) (v := (64 : Int32)) dX7_county_155 (by decide) ?_
                              refine a_iloadn (pc := 157) dX7_county_157 rfl rfl ?_
                              refine a_imul (pc := 158) dX7_county_158 ?_
                              refine a_iadd (pc := 159) dX7_county_159 ?_
                              refine a_iload (pc := 160) dX7_county_160 rfl ?_
                              refine a_iadd (pc := 162) dX7_county_162 ?_
                              obtain ⟨hi31, hs⟩ := g_if hs
                              refine a_iald (pc := 163) sh_48 hi31 dX7_county_163 ?_
                              refine a_if_ne (pc := 164) (tgt := 177) dX7_county_164 (by decide) (fun c32 => ?_) (fun c32 => ?_)
                              · rw [if_neg c32] at hs
                                refine a_iinc (pc := 177) dX7_county_177 rfl (v := x4 + (1 : Int32)) rfl (Nat.le_of_ble_eq_true rfl) rfl (L' := [some (.ref (gad X 47)), some (.int x1), some (.int x2), some (.int x3), some (.int (x4 + (1 : Int32))), some (.int r27)]) rfl ?_
                                refine a_goto (pc := 180) (tgt := 109) dX7_county_180 (by decide) ?_
                                obtain rfl := Option.some.inj hs
                                refine a_mask [true, true, true, true, true, false] (L' := [some (.ref (gad X 47)), some (.int x1), some (.int x2), some (.int x3), some (.int (x4 + (1 : Int32))), none]) rfl ?_
                                exact ih _ _ _ _ _ hR
                              · rw [if_pos c32] at hs
                                refine a_aloadn (pc := 167) dX7_county_167 rfl rfl ?_
                                refine a_getA (pc := 168) flX7_28 sh_47 rfl dX7_county_168 ?_
                                refine a_iload (pc := 171) dX7_county_171 rfl ?_
                                refine a_iconst (pc := 173) (v := (1 : Int32)) dX7_county_173 (by decide) ?_
                                obtain ⟨hi33, hs⟩ := g_if hs
                                refine a_zast (pc := 174) sh_54 hi33 rfl dX7_county_174 ?_
                                obtain ⟨S34, eS34, hs⟩ := g_let hs
                                refine a_nmS eS34 ?_
                                refine a_iconst (pc := 175) (v := (1 : Int32)) dX7_county_175 (by decide) ?_
                                refine a_istoren (pc := 176) dX7_county_176 rfl (Nat.le_of_ble_eq_true rfl) rfl (L' := [some (.ref (gad X 47)), some (.int x1), some (.int (1 : Int32)), some (.int x3), some (.int x4), some (.int r27)]) rfl ?_
                                refine a_iinc (pc := 177) dX7_county_177 rfl (v := x4 + (1 : Int32)) rfl (Nat.le_of_ble_eq_true rfl) rfl (L' := [some (.ref (gad X 47)), some (.int x1), some (.int (1 : Int32)), some (.int x3), some (.int (x4 + (1 : Int32))), some (.int r27)]) rfl ?_
                                refine a_goto (pc := 180) (tgt := 109) dX7_county_180 (by decide) ?_
                                obtain rfl := Option.some.inj hs
                                refine a_mask [true, true, true, true, true, false] (L' := [some (.ref (gad X 47)), some (.int x1), some (.int (1 : Int32)), some (.int x3), some (.int (x4 + (1 : Int32))), none]) rfl ?_
                                exact ih _ _ _ _ _ hR
                  exact lp _ _ _ _ _ _ hR35
            exact lp _ _ _ _ _ hR36
      exact lp _ _ _ _ hR37
    have lp : ∀ (n : Nat) (x1 : Int32) (x2 : Int32) (S : gSt), gLoop (f_X7_county_s12) n (x1, x2, S) = some R19 → AW X RX7 2 cX7_county 12 [some (.ref (gad X 47)), some (.int x1), some (.int x2), none, none, none] [] S := by
      intro n
      induction n with
      | zero => intro x1 x2 S hR; cases hR
      | succ n ih =>
        intro x1 x2 S hR
        obtain ⟨q, hs, hR⟩ := g_bind hR
        have hs : f_X7_county_s12_b x1 x2 S = some q := hs
        unfold f_X7_county_s12_b at hs
        have J51 : ∀ (x1 : Int32) (x2 : Int32) (t0 : Int32) (S : gSt), f_X7_county_j51 x1 x2 t0 S = some q → AW X RX7 2 cX7_county 51 [some (.ref (gad X 47)), some (.int x1), some (.int x2), none, none, none] [.int t0] S := by
          intro x1 x2 t0 S hs
          unfold f_X7_county_j51 at hs
          refine a_istoren (pc := 51) dX7_county_51 rfl (Nat.le_of_ble_eq_true rfl) rfl (L' := [some (.ref (gad X 47)), some (.int x1), some (.int x2), some (.int t0), none, none]) rfl ?_
          refine a_aloadn (pc := 52) dX7_county_52 rfl rfl ?_
          refine a_getA (pc := 53) flX7_28 sh_47 rfl dX7_county_53 ?_
          refine a_iloadn (pc := 56) dX7_county_56 rfl rfl ?_
          refine a_iloadn (pc := 57) dX7_county_57 rfl rfl ?_
          refine a_if_eq (pc := 58) (tgt := 82) dX7_county_58 (by decide) (fun c5 => ?_) (fun c5 => ?_)
          · rw [if_pos c5] at hs
            refine a_iconst (pc := 82) (v := (0 : Int32)) dX7_county_82 (by decide) ?_
            obtain ⟨hi6, hs⟩ := g_if hs
            refine a_zast (pc := 83) sh_54 hi6 rfl dX7_county_83 ?_
            obtain ⟨S7, eS7, hs⟩ := g_let hs
            refine a_nmS eS7 ?_
            refine a_iinc (pc := 84) dX7_county_84 rfl (v := x2 + (1 : Int32)) rfl (Nat.le_of_ble_eq_true rfl) rfl (L' := [some (.ref (gad X 47)), some (.int x1), some (.int (x2 + (1 : Int32))), some (.int t0), none, none]) rfl ?_
            refine a_goto (pc := 87) (tgt := 12) dX7_county_87 (by decide) ?_
            obtain rfl := Option.some.inj hs
            refine a_mask [true, true, true, false, true, true] (L' := [some (.ref (gad X 47)), some (.int x1), some (.int (x2 + (1 : Int32))), none, none, none]) rfl ?_
            exact ih _ _ _ hR
          · rw [if_neg c5] at hs
            refine a_aloadn (pc := 61) dX7_county_61 rfl rfl ?_
            refine a_getA (pc := 62) flX7_7 sh_47 rfl dX7_county_62 ?_
            refine a_bipush (pc := 65) (v := (32 : Int32)) dX7_county_65 (by decide) ?_
            refine a_bipush (pc := 67) (v := (64 : Int32)) dX7_county_67 (by decide) ?_
            refine a_iloadn (pc := 69) dX7_county_69 rfl rfl ?_
            refine a_imul (pc := 70) dX7_county_70 ?_
            refine a_iadd (pc := 71) dX7_county_71 ?_
            refine a_iloadn (pc := 72) dX7_county_72 rfl rfl ?_
            refine a_iadd (pc := 73) dX7_county_73 ?_
            obtain ⟨hi8, hs⟩ := g_if hs
            refine a_iald (pc := 74) sh_48 hi8 dX7_county_74 ?_
            refine a_if_ne (pc := 75) (tgt := 82) dX7_county_75 (by decide) (fun c9 => ?_) (fun c9 => ?_)
            · rw [if_neg c9] at hs
              refine a_iconst (pc := 82) (v := (0 : Int32)) dX7_county_82 (by decide) ?_
              obtain ⟨hi10, hs⟩ := g_if hs
              refine a_zast (pc := 83) sh_54 hi10 rfl dX7_county_83 ?_
              obtain ⟨S11, eS11, hs⟩ := g_let hs
              refine a_nmS eS11 ?_
              refine a_iinc (pc := 84) dX7_county_84 rfl (v := x2 + (1 : Int32)) rfl (Nat.le_of_ble_eq_true rfl) rfl (L' := [some (.ref (gad X 47)), some (.int x1), some (.int (x2 + (1 : Int32))), some (.int t0), none, none]) rfl ?_
              refine a_goto (pc := 87) (tgt := 12) dX7_county_87 (by decide) ?_
              obtain rfl := Option.some.inj hs
              refine a_mask [true, true, true, false, true, true] (L' := [some (.ref (gad X 47)), some (.int x1), some (.int (x2 + (1 : Int32))), none, none, none]) rfl ?_
              exact ih _ _ _ hR
            · rw [if_pos c9] at hs
              refine a_iconst (pc := 78) (v := (1 : Int32)) dX7_county_78 (by decide) ?_
              refine a_goto (pc := 79) (tgt := 83) dX7_county_79 (by decide) ?_
              obtain ⟨hi12, hs⟩ := g_if hs
              refine a_zast (pc := 83) sh_54 hi12 rfl dX7_county_83 ?_
              obtain ⟨S13, eS13, hs⟩ := g_let hs
              refine a_nmS eS13 ?_
              refine a_iinc (pc := 84) dX7_county_84 rfl (v := x2 + (1 : Int32)) rfl (Nat.le_of_ble_eq_true rfl) rfl (L' := [some (.ref (gad X 47)), some (.int x1), some (.int (x2 + (1 : Int32))), some (.int t0), none, none]) rfl ?_
              refine a_goto (pc := 87) (tgt := 12) dX7_county_87 (by decide) ?_
              obtain rfl := Option.some.inj hs
              refine a_mask [true, true, true, false, true, true] (L' := [some (.ref (gad X 47)), some (.int x1), some (.int (x2 + (1 : Int32))), none, none, none]) rfl ?_
              exact ih _ _ _ hR
        have J46 : ∀ (x1 : Int32) (x2 : Int32) (S : gSt), f_X7_county_j46 x1 x2 S = some q → AW X RX7 2 cX7_county 46 [some (.ref (gad X 47)), some (.int x1), some (.int x2), none, none, none] [] S := by
          intro x1 x2 S hs
          unfold f_X7_county_j46 at hs
          refine a_iconst (pc := 46) (v := (1 : Int32)) dX7_county_46 (by decide) ?_
          refine a_goto (pc := 47) (tgt := 51) dX7_county_47 (by decide) ?_
          exact J51 _ _ _ _ hs
        refine a_iloadn (pc := 12) dX7_county_12 rfl rfl ?_
        refine a_bipush (pc := 13) (v := (64 : Int32)) dX7_county_13 (by decide) ?_
        refine a_icmp_ge (pc := 15) (tgt := 90) dX7_county_15 (by decide) (fun c14 => ?_) (fun c14 => ?_)
        · rw [if_pos c14] at hs
          obtain rfl := Option.some.inj hs
          obtain rfl := Option.some.inj hR
          refine a_mask [true, true, false, true, true, true] (L' := [some (.ref (gad X 47)), some (.int x1), none, none, none, none]) rfl ?_
          exact E12 _ _ h
        · rw [if_neg c14] at hs
          refine a_iloadn (pc := 18) dX7_county_18 rfl rfl ?_
          refine a_bipush (pc := 19) (v := (8 : Int32)) dX7_county_19 (by decide) ?_
          refine a_irem (pc := 21) dX7_county_21 (by decide) ?_
          refine a_if_eq (pc := 22) (tgt := 46) dX7_county_22 (by decide) (fun c15 => ?_) (fun c15 => ?_)
          · rw [if_pos c15] at hs
            exact J46 _ _ _ hs
          · rw [if_neg c15] at hs
            refine a_iloadn (pc := 25) dX7_county_25 rfl rfl ?_
            refine a_bipush (pc := 26) (v := (8 : Int32)) dX7_county_26 (by decide) ?_
            refine a_irem (pc := 28) dX7_county_28 (by decide) ?_
            refine a_bipush (pc := 29) (v := (7 : Int32)) dX7_county_29 (by decide) ?_
            refine a_icmp_eq (pc := 31) (tgt := 46) dX7_county_31 (by decide) (fun c16 => ?_) (fun c16 => ?_)
            · rw [if_pos c16] at hs
              exact J46 _ _ _ hs
            · rw [if_neg c16] at hs
              refine a_iloadn (pc := 34) dX7_county_34 rfl rfl ?_
              refine a_bipush (pc := 35) (v := (8 : Int32)) dX7_county_35 (by decide) ?_
              refine a_icmp_lt (pc := 37) (tgt := 46) dX7_county_37 (by decide) (fun c17 => ?_) (fun c17 => ?_)
              · rw [if_pos c17] at hs
                exact J46 _ _ _ hs
              · rw [if_neg c17] at hs
                refine a_iloadn (pc := 40) dX7_county_40 rfl rfl ?_
                refine a_bipush (pc := 41) (v := (55 : Int32)) dX7_county_41 (by decide) ?_
                refine a_icmp_le (pc := 43) (tgt := 50) dX7_county_43 (by decide) (fun c18 => ?_) (fun c18 => ?_)
                · rw [if_pos c18] at hs
                  refine a_iconst (pc := 50) (v := (0 : Int32)) dX7_county_50 (by decide) ?_
                  exact J51 _ _ _ _ hs
                · rw [if_neg c18] at hs
                  exact J46 _ _ _ hs
    exact lp _ _ _ _ hR19
  · rw [if_pos c4] at h
    refine a_iconst (pc := 8) (v := (-1 : Int32)) dX7_county_8 (by decide) ?_
    obtain ⟨rfl, rfl⟩ := Prod.mk.inj (Option.some.inj h)
    exact a_iret hp dX7_county_9
theorem dX7_holds_0 : decode cX7_holds 0 = .ok (.iconst 0, 1) := by decide +kernel
theorem dX7_holds_1 : decode cX7_holds 1 = .ok (.istore_n 1, 1) := by decide +kernel
theorem dX7_holds_2 : decode cX7_holds 2 = .ok (.iload_n 1, 1) := by decide +kernel
theorem dX7_holds_3 : decode cX7_holds 3 = .ok (.bipush 64, 2) := by decide +kernel
theorem dX7_holds_5 : decode cX7_holds 5 = .ok (.if_icmp .ge 20, 3) := by decide +kernel
theorem dX7_holds_8 : decode cX7_holds 8 = .ok (.aload_n 0, 1) := by decide +kernel
theorem dX7_holds_9 : decode cX7_holds 9 = .ok (.getfield 13, 3) := by decide +kernel
theorem dX7_holds_12 : decode cX7_holds 12 = .ok (.iload_n 1, 1) := by decide +kernel
theorem dX7_holds_13 : decode cX7_holds 13 = .ok (.aload_n 0, 1) := by decide +kernel
theorem dX7_holds_14 : decode cX7_holds 14 = .ok (.iload_n 1, 1) := by decide +kernel
theorem dX7_holds_15 : decode cX7_holds 15 = .ok (.invokevirtual 79, 3) := by decide +kernel
theorem dX7_holds_18 : decode cX7_holds 18 = .ok (.iastore, 1) := by decide +kernel
theorem dX7_holds_19 : decode cX7_holds 19 = .ok (.iinc 1 1, 3) := by decide +kernel
theorem dX7_holds_22 : decode cX7_holds 22 = .ok (.goto (-20), 3) := by decide +kernel
theorem dX7_holds_25 : decode cX7_holds 25 = .ok (.return_, 1) := by decide +kernel
def f_X7_holds_s2_b (x1 : Int32) (S : gSt) : Option ((Int32 × gSt) ⊕ (gSt)) :=
(if (64 : Int32) ≤ x1 then
some (.inr (S))
else
gBind2 (f_X7_holder x1 S) fun r4 S2 =>
if gin x1 64 then
gLet (gI S2 49 x1.toNatClampNeg r4) fun S6 =>
(some (.inl (x1 + (1 : Int32), S6))) else none)
def f_X7_holds_s2 : (Int32 × gSt) → Option ((Int32 × gSt) ⊕ (gSt)) := fun t => f_X7_holds_s2_b t.1 t.2
def f_X7_holds (S : gSt) : Option gSt :=
(gLoop (f_X7_holds_s2) gFuel ((0 : Int32), S)).bind fun q7 => match q7 with
| S7 =>
some S7
set_option maxHeartbeats 4000000 in
set_option maxRecDepth 20000 in
theorem ok_X7_holds {S S0 : gSt}  (h : f_X7_holds S = some S0) : gCT yX7_holds cX7_holds 2 none 3 (fun w => [.ref (w.2.1 47)]) S none S0 := by
  refine gEnter (fun X => [some (.ref (gad X 47)), none]) (by decide) (fun X => ⟨rfl, rfl⟩) (fun w => Nat.le_of_ble_eq_true rfl) (fun X hp => ?_)
  show AW X RX7 3 cX7_holds 0 [some (.ref (gad X 47)), none] [] S
  unfold f_X7_holds at h
  refine a_iconst (pc := 0) (v := (0 : Int32)) dX7_holds_0 (by decide) ?_
  refine a_istoren (pc := 1) dX7_holds_1 rfl (Nat.le_of_ble_eq_true rfl) rfl (L' := [some (.ref (gad X 47)), some (.int (0 : Int32))]) rfl ?_
  obtain ⟨R7, hR7, h⟩ := g_bind h
  have E2 : ∀  (S7 : gSt), (some S7) = some S0 → AW X RX7 3 cX7_holds 25 [none, none] [] S7 := by
    intro S7 h
    obtain rfl := Option.some.inj h
    exact a_vret hp dX7_holds_25
  have lp : ∀ (n : Nat) (x1 : Int32) (S : gSt), gLoop (f_X7_holds_s2) n (x1, S) = some R7 → AW X RX7 3 cX7_holds 2 [some (.ref (gad X 47)), some (.int x1)] [] S := by
    intro n
    induction n with
    | zero => intro x1 S hR; cases hR
    | succ n ih =>
      intro x1 S hR
      obtain ⟨q, hs, hR⟩ := g_bind hR
      have hs : f_X7_holds_s2_b x1 S = some q := hs
      unfold f_X7_holds_s2_b at hs
      refine a_iloadn (pc := 2) dX7_holds_2 rfl rfl ?_
      refine a_bipush (pc := 3) (v := (64 : Int32)) dX7_holds_3 (by decide) ?_
      refine a_icmp_ge (pc := 5) (tgt := 25) dX7_holds_5 (by decide) (fun c1 => ?_) (fun c1 => ?_)
      · rw [if_pos c1] at hs
        obtain rfl := Option.some.inj hs
        obtain rfl := Option.some.inj hR
        refine a_mask [false, false] (L' := [none, none]) rfl ?_
        exact E2  _ h
      · rw [if_neg c1] at hs
        refine a_aloadn (pc := 8) dX7_holds_8 rfl rfl ?_
        refine a_getA (pc := 9) flX7_13 sh_47 rfl dX7_holds_9 ?_
        refine a_iloadn (pc := 12) dX7_holds_12 rfl rfl ?_
        refine a_aloadn (pc := 13) dX7_holds_13 rfl rfl ?_
        refine a_iloadn (pc := 14) dX7_holds_14 rfl rfl ?_
        obtain ⟨r4, S2, hc3, hs⟩ := g_bind2 hs
        refine a_invVi (pc := 15) (ok_X7_holder hc3) gyX7_holder vyX7_holder mlX7_79 sh_47 rfl (As := [.int x1]) rfl rfl (by decide) (st := [.int x1, .ref (gad X 49)]) rfl (Nat.le_of_ble_eq_true rfl) dX7_holds_15 ?_
        obtain ⟨hi5, hs⟩ := g_if hs
        refine a_iast (pc := 18) sh_49 hi5 dX7_holds_18 ?_
        obtain ⟨S6, eS6, hs⟩ := g_let hs
        refine a_nmS eS6 ?_
        refine a_iinc (pc := 19) dX7_holds_19 rfl (v := x1 + (1 : Int32)) rfl (Nat.le_of_ble_eq_true rfl) rfl (L' := [some (.ref (gad X 47)), some (.int (x1 + (1 : Int32)))]) rfl ?_
        refine a_goto (pc := 22) (tgt := 2) dX7_holds_22 (by decide) ?_
        obtain rfl := Option.some.inj hs
        exact ih _ _ hR
  exact lp _ _ _ hR7
theorem dX7_way_0 : decode cX7_way 0 = .ok (.aload_n 0, 1) := by decide +kernel
theorem dX7_way_1 : decode cX7_way 1 = .ok (.iload_n 1, 1) := by decide +kernel
theorem dX7_way_2 : decode cX7_way 2 = .ok (.invokevirtual 82, 3) := by decide +kernel
theorem dX7_way_5 : decode cX7_way 5 = .ok (.ifCond .eq 17, 3) := by decide +kernel
theorem dX7_way_8 : decode cX7_way 8 = .ok (.iload_n 2, 1) := by decide +kernel
theorem dX7_way_9 : decode cX7_way 9 = .ok (.invokestatic 65, 3) := by decide +kernel
theorem dX7_way_12 : decode cX7_way 12 = .ok (.ifCond .eq 10, 3) := by decide +kernel
theorem dX7_way_15 : decode cX7_way 15 = .ok (.iload_n 3, 1) := by decide +kernel
theorem dX7_way_16 : decode cX7_way 16 = .ok (.invokestatic 65, 3) := by decide +kernel
theorem dX7_way_19 : decode cX7_way 19 = .ok (.ifCond .ne 5, 3) := by decide +kernel
theorem dX7_way_22 : decode cX7_way 22 = .ok (.iconst (-1), 1) := by decide +kernel
theorem dX7_way_23 : decode cX7_way 23 = .ok (.ireturn, 1) := by decide +kernel
theorem dX7_way_24 : decode cX7_way 24 = .ok (.aload_n 0, 1) := by decide +kernel
theorem dX7_way_25 : decode cX7_way 25 = .ok (.invokevirtual 185, 3) := by decide +kernel
theorem dX7_way_28 : decode cX7_way 28 = .ok (.iconst 0, 1) := by decide +kernel
theorem dX7_way_29 : decode cX7_way 29 = .ok (.istore 4, 2) := by decide +kernel
theorem dX7_way_31 : decode cX7_way 31 = .ok (.iload 4, 2) := by decide +kernel
theorem dX7_way_33 : decode cX7_way 33 = .ok (.bipush 64, 2) := by decide +kernel
theorem dX7_way_35 : decode cX7_way 35 = .ok (.if_icmp .ge 29, 3) := by decide +kernel
theorem dX7_way_38 : decode cX7_way 38 = .ok (.aload_n 0, 1) := by decide +kernel
theorem dX7_way_39 : decode cX7_way 39 = .ok (.getfield 32, 3) := by decide +kernel
theorem dX7_way_42 : decode cX7_way 42 = .ok (.iload 4, 2) := by decide +kernel
theorem dX7_way_44 : decode cX7_way 44 = .ok (.iload 4, 2) := by decide +kernel
theorem dX7_way_46 : decode cX7_way 46 = .ok (.iload_n 2, 1) := by decide +kernel
theorem dX7_way_47 : decode cX7_way 47 = .ok (.if_icmp .ne 7, 3) := by decide +kernel
theorem dX7_way_50 : decode cX7_way 50 = .ok (.iconst 0, 1) := by decide +kernel
theorem dX7_way_51 : decode cX7_way 51 = .ok (.goto 6, 3) := by decide +kernel
theorem dX7_way_54 : decode cX7_way 54 = .ok (.sipush 999, 3) := by decide +kernel
theorem dX7_way_57 : decode cX7_way 57 = .ok (.iastore, 1) := by decide +kernel
theorem dX7_way_58 : decode cX7_way 58 = .ok (.iinc 4 1, 3) := by decide +kernel
theorem dX7_way_61 : decode cX7_way 61 = .ok (.goto (-30), 3) := by decide +kernel
theorem dX7_way_64 : decode cX7_way 64 = .ok (.iconst 1, 1) := by decide +kernel
theorem dX7_way_65 : decode cX7_way 65 = .ok (.istore 4, 2) := by decide +kernel
theorem dX7_way_67 : decode cX7_way 67 = .ok (.iload 4, 2) := by decide +kernel
theorem dX7_way_69 : decode cX7_way 69 = .ok (.ifCond .eq 131, 3) := by decide +kernel
theorem dX7_way_72 : decode cX7_way 72 = .ok (.iconst 0, 1) := by decide +kernel
theorem dX7_way_73 : decode cX7_way 73 = .ok (.istore 4, 2) := by decide +kernel
theorem dX7_way_75 : decode cX7_way 75 = .ok (.iconst 0, 1) := by decide +kernel
theorem dX7_way_76 : decode cX7_way 76 = .ok (.istore 5, 2) := by decide +kernel
theorem dX7_way_78 : decode cX7_way 78 = .ok (.iload 5, 2) := by decide +kernel
theorem dX7_way_80 : decode cX7_way 80 = .ok (.bipush 64, 2) := by decide +kernel
theorem dX7_way_82 : decode cX7_way 82 = .ok (.if_icmp .ge 115, 3) := by decide +kernel
theorem dX7_way_85 : decode cX7_way 85 = .ok (.iconst 0, 1) := by decide +kernel
theorem dX7_way_86 : decode cX7_way 86 = .ok (.istore 6, 2) := by decide +kernel
theorem dX7_way_88 : decode cX7_way 88 = .ok (.iload 6, 2) := by decide +kernel
theorem dX7_way_90 : decode cX7_way 90 = .ok (.iconst 4, 1) := by decide +kernel
theorem dX7_way_91 : decode cX7_way 91 = .ok (.if_icmp .ge 100, 3) := by decide +kernel
theorem dX7_way_94 : decode cX7_way 94 = .ok (.iload 5, 2) := by decide +kernel
theorem dX7_way_96 : decode cX7_way 96 = .ok (.iload 6, 2) := by decide +kernel
theorem dX7_way_98 : decode cX7_way 98 = .ok (.invokestatic 146, 3) := by decide +kernel
theorem dX7_way_101 : decode cX7_way 101 = .ok (.istore 7, 2) := by decide +kernel
theorem dX7_way_103 : decode cX7_way 103 = .ok (.iload 7, 2) := by decide +kernel
theorem dX7_way_105 : decode cX7_way 105 = .ok (.bipush (-4), 2) := by decide +kernel
theorem dX7_way_107 : decode cX7_way 107 = .ok (.if_icmp .ne 9, 3) := by decide +kernel
theorem dX7_way_110 : decode cX7_way 110 = .ok (.sipush 999, 3) := by decide +kernel
theorem dX7_way_113 : decode cX7_way 113 = .ok (.goto 39, 3) := by decide +kernel
theorem dX7_way_116 : decode cX7_way 116 = .ok (.aload_n 0, 1) := by decide +kernel
theorem dX7_way_117 : decode cX7_way 117 = .ok (.getfield 32, 3) := by decide +kernel
theorem dX7_way_120 : decode cX7_way 120 = .ok (.iload 5, 2) := by decide +kernel
theorem dX7_way_122 : decode cX7_way 122 = .ok (.iaload, 1) := by decide +kernel
theorem dX7_way_123 : decode cX7_way 123 = .ok (.aload_n 0, 1) := by decide +kernel
theorem dX7_way_124 : decode cX7_way 124 = .ok (.getfield 13, 3) := by decide +kernel
theorem dX7_way_127 : decode cX7_way 127 = .ok (.iload 7, 2) := by decide +kernel
theorem dX7_way_129 : decode cX7_way 129 = .ok (.iaload, 1) := by decide +kernel
theorem dX7_way_130 : decode cX7_way 130 = .ok (.bipush (-4), 2) := by decide +kernel
theorem dX7_way_132 : decode cX7_way 132 = .ok (.if_icmp .eq 14, 3) := by decide +kernel
theorem dX7_way_135 : decode cX7_way 135 = .ok (.aload_n 0, 1) := by decide +kernel
theorem dX7_way_136 : decode cX7_way 136 = .ok (.getfield 13, 3) := by decide +kernel
theorem dX7_way_139 : decode cX7_way 139 = .ok (.iload 7, 2) := by decide +kernel
theorem dX7_way_141 : decode cX7_way 141 = .ok (.iaload, 1) := by decide +kernel
theorem dX7_way_142 : decode cX7_way 142 = .ok (.iload_n 1, 1) := by decide +kernel
theorem dX7_way_143 : decode cX7_way 143 = .ok (.if_icmp .ne 7, 3) := by decide +kernel
theorem dX7_way_146 : decode cX7_way 146 = .ok (.iconst 0, 1) := by decide +kernel
theorem dX7_way_147 : decode cX7_way 147 = .ok (.goto 4, 3) := by decide +kernel
theorem dX7_way_150 : decode cX7_way 150 = .ok (.iconst 1, 1) := by decide +kernel
theorem dX7_way_151 : decode cX7_way 151 = .ok (.iadd, 1) := by decide +kernel
theorem dX7_way_152 : decode cX7_way 152 = .ok (.istore 8, 2) := by decide +kernel
theorem dX7_way_154 : decode cX7_way 154 = .ok (.iload 7, 2) := by decide +kernel
theorem dX7_way_156 : decode cX7_way 156 = .ok (.bipush (-4), 2) := by decide +kernel
theorem dX7_way_158 : decode cX7_way 158 = .ok (.if_icmp .eq 27, 3) := by decide +kernel
theorem dX7_way_161 : decode cX7_way 161 = .ok (.iload 8, 2) := by decide +kernel
theorem dX7_way_163 : decode cX7_way 163 = .ok (.aload_n 0, 1) := by decide +kernel
theorem dX7_way_164 : decode cX7_way 164 = .ok (.getfield 32, 3) := by decide +kernel
theorem dX7_way_167 : decode cX7_way 167 = .ok (.iload 7, 2) := by decide +kernel
theorem dX7_way_169 : decode cX7_way 169 = .ok (.iaload, 1) := by decide +kernel
theorem dX7_way_170 : decode cX7_way 170 = .ok (.if_icmp .ge 15, 3) := by decide +kernel
theorem dX7_way_173 : decode cX7_way 173 = .ok (.aload_n 0, 1) := by decide +kernel
theorem dX7_way_174 : decode cX7_way 174 = .ok (.getfield 32, 3) := by decide +kernel
theorem dX7_way_177 : decode cX7_way 177 = .ok (.iload 7, 2) := by decide +kernel
theorem dX7_way_179 : decode cX7_way 179 = .ok (.iload 8, 2) := by decide +kernel
theorem dX7_way_181 : decode cX7_way 181 = .ok (.iastore, 1) := by decide +kernel
theorem dX7_way_182 : decode cX7_way 182 = .ok (.iconst 1, 1) := by decide +kernel
theorem dX7_way_183 : decode cX7_way 183 = .ok (.istore 4, 2) := by decide +kernel
theorem dX7_way_185 : decode cX7_way 185 = .ok (.iinc 6 1, 3) := by decide +kernel
theorem dX7_way_188 : decode cX7_way 188 = .ok (.goto (-100), 3) := by decide +kernel
theorem dX7_way_191 : decode cX7_way 191 = .ok (.iinc 5 1, 3) := by decide +kernel
theorem dX7_way_194 : decode cX7_way 194 = .ok (.goto (-116), 3) := by decide +kernel
theorem dX7_way_197 : decode cX7_way 197 = .ok (.goto (-130), 3) := by decide +kernel
theorem dX7_way_200 : decode cX7_way 200 = .ok (.aload_n 0, 1) := by decide +kernel
theorem dX7_way_201 : decode cX7_way 201 = .ok (.getfield 32, 3) := by decide +kernel
theorem dX7_way_204 : decode cX7_way 204 = .ok (.iload_n 3, 1) := by decide +kernel
theorem dX7_way_205 : decode cX7_way 205 = .ok (.iaload, 1) := by decide +kernel
theorem dX7_way_206 : decode cX7_way 206 = .ok (.ireturn, 1) := by decide +kernel
def f_X7_way_s31_b (x1 : Int32) (x2 : Int32) (x3 : Int32) (x4 : Int32) (S : gSt) : Option ((Int32 × Int32 × Int32 × Int32 × gSt) ⊕ (Int32 × Int32 × gSt)) :=
(if (64 : Int32) ≤ x4 then
some (.inr (x1, x3, S))
else
(if x4 = x2 then
if gin x4 64 then
gLet (gI S 55 x4.toNatClampNeg (0 : Int32)) fun S20 =>
(some (.inl (x1, x2, x3, x4 + (1 : Int32), S20))) else none
else
if gin x4 64 then
gLet (gI S 55 x4.toNatClampNeg (999 : Int32)) fun S18 =>
(some (.inl (x1, x2, x3, x4 + (1 : Int32), S18))) else none))
def f_X7_way_s31 : (Int32 × Int32 × Int32 × Int32 × gSt) → Option ((Int32 × Int32 × Int32 × Int32 × gSt) ⊕ (Int32 × Int32 × gSt)) := fun t => f_X7_way_s31_b t.1 t.2.1 t.2.2.1 t.2.2.2.1 t.2.2.2.2
def f_X7_way_j152 (x1 : Int32) (x3 : Int32) (x4 : Int32) (x5 : Int32) (x6 : Int32) (x7 : Int32) (t0 : Int32) (S : gSt) : Option ((Int32 × Int32 × Int32 × Int32 × Int32 × gSt) ⊕ (Int32 × Int32 × Int32 × Int32 × gSt)) :=
(if x7 = (-4 : Int32) then
some (.inl (x1, x3, x4, x5, x6 + (1 : Int32), S))
else
if gin x7 64 then
((if (S.1 55 x7.toNatClampNeg) ≤ t0 then
some (.inl (x1, x3, x4, x5, x6 + (1 : Int32), S))
else
if gin x7 64 then
gLet (gI S 55 x7.toNatClampNeg t0) fun S28 =>
(some (.inl (x1, x3, (1 : Int32), x5, x6 + (1 : Int32), S28))) else none)) else none)
def f_X7_way_j151 (x1 : Int32) (x3 : Int32) (x4 : Int32) (x5 : Int32) (x6 : Int32) (x7 : Int32) (t0 : Int32) (t1 : Int32) (S : gSt) : Option ((Int32 × Int32 × Int32 × Int32 × Int32 × gSt) ⊕ (Int32 × Int32 × Int32 × Int32 × gSt)) :=
f_X7_way_j152 x1 x3 x4 x5 x6 x7 (t1 + t0) S
def f_X7_way_j146 (x1 : Int32) (x3 : Int32) (x4 : Int32) (x5 : Int32) (x6 : Int32) (x7 : Int32) (t0 : Int32) (S : gSt) : Option ((Int32 × Int32 × Int32 × Int32 × Int32 × gSt) ⊕ (Int32 × Int32 × Int32 × Int32 × gSt)) :=
f_X7_way_j151 x1 x3 x4 x5 x6 x7 (0 : Int32) t0 S
def f_X7_way_s88_b (x1 : Int32) (x3 : Int32) (x4 : Int32) (x5 : Int32) (x6 : Int32) (S : gSt) : Option ((Int32 × Int32 × Int32 × Int32 × Int32 × gSt) ⊕ (Int32 × Int32 × Int32 × Int32 × gSt)) :=
(if (4 : Int32) ≤ x6 then
some (.inr (x1, x3, x4, x5, S))
else
gBind2 (f_X7_beside x5 x6 S) fun r32 S30 =>
(if r32 = (-4 : Int32) then
f_X7_way_j152 x1 x3 x4 x5 x6 r32 (999 : Int32) S30
else
if gin x5 64 then
(if gin r32 64 then
((if (S30.1 49 r32.toNatClampNeg) = (-4 : Int32) then
f_X7_way_j146 x1 x3 x4 x5 x6 r32 (S30.1 55 x5.toNatClampNeg) S30
else
if gin r32 64 then
((if (S30.1 49 r32.toNatClampNeg) = x1 then
f_X7_way_j146 x1 x3 x4 x5 x6 r32 (S30.1 55 x5.toNatClampNeg) S30
else
f_X7_way_j151 x1 x3 x4 x5 x6 r32 (1 : Int32) (S30.1 55 x5.toNatClampNeg) S30)) else none)) else none) else none))
def f_X7_way_s88 : (Int32 × Int32 × Int32 × Int32 × Int32 × gSt) → Option ((Int32 × Int32 × Int32 × Int32 × Int32 × gSt) ⊕ (Int32 × Int32 × Int32 × Int32 × gSt)) := fun t => f_X7_way_s88_b t.1 t.2.1 t.2.2.1 t.2.2.2.1 t.2.2.2.2.1 t.2.2.2.2.2
def f_X7_way_s78_b (x1 : Int32) (x3 : Int32) (x4 : Int32) (x5 : Int32) (S : gSt) : Option ((Int32 × Int32 × Int32 × Int32 × gSt) ⊕ (Int32 × Int32 × Int32 × gSt)) :=
(if (64 : Int32) ≤ x5 then
some (.inr (x1, x3, x4, S))
else
(gLoop (f_X7_way_s88) gFuel (x1, x3, x4, x5, (0 : Int32), S)).bind fun q39 => match q39 with
| (y1_39, y3_39, y4_39, y5_39, S39) =>
some (.inl (y1_39, y3_39, y4_39, y5_39 + (1 : Int32), S39)))
def f_X7_way_s78 : (Int32 × Int32 × Int32 × Int32 × gSt) → Option ((Int32 × Int32 × Int32 × Int32 × gSt) ⊕ (Int32 × Int32 × Int32 × gSt)) := fun t => f_X7_way_s78_b t.1 t.2.1 t.2.2.1 t.2.2.2.1 t.2.2.2.2
def f_X7_way_s67_b (x1 : Int32) (x3 : Int32) (x4 : Int32) (S : gSt) : Option ((Int32 × Int32 × Int32 × gSt) ⊕ (Int32 × gSt)) :=
(if x4 = 0 then
some (.inr (x3, S))
else
(gLoop (f_X7_way_s78) gFuel (x1, x3, (0 : Int32), (0 : Int32), S)).bind fun q40 => match q40 with
| (y1_40, y3_40, y4_40, S40) =>
some (.inl (y1_40, y3_40, y4_40, S40)))
def f_X7_way_s67 : (Int32 × Int32 × Int32 × gSt) → Option ((Int32 × Int32 × Int32 × gSt) ⊕ (Int32 × gSt)) := fun t => f_X7_way_s67_b t.1 t.2.1 t.2.2.1 t.2.2.2
def f_X7_way (p1 : Int32) (p2 : Int32) (p3 : Int32) (S : gSt) : Option (Int32 × gSt) :=
gBind2 (f_X7_isWalker p1 S) fun r3 S1 =>
(if r3 = 0 then
some ((-1 : Int32), S1)
else
gBind2 (f_X7_isCell p2 S1) fun r7 S5 =>
(if r7 = 0 then
some ((-1 : Int32), S5)
else
gBind2 (f_X7_isCell p3 S5) fun r11 S9 =>
(if r11 = 0 then
some ((-1 : Int32), S9)
else
(f_X7_holds S9).bind fun S13 =>
(gLoop (f_X7_way_s31) gFuel (p1, p2, p3, (0 : Int32), S13)).bind fun q21 => match q21 with
| (y1_21, y3_21, S21) =>
(gLoop (f_X7_way_s67) gFuel (y1_21, y3_21, (1 : Int32), S21)).bind fun q41 => match q41 with
| (y3_41, S41) =>
if gin y3_41 64 then
(some (S41.1 55 y3_41.toNatClampNeg, S41)) else none)))
set_option maxHeartbeats 4000000 in
set_option maxRecDepth 20000 in
theorem ok_X7_way {p1 : Int32} {p2 : Int32} {p3 : Int32} {S S0 : gSt} {r0 : Int32}  (h : f_X7_way p1 p2 p3 S = some (r0, S0)) : gCT yX7_way cX7_way 9 (some .int) 4 (fun w => [.ref (w.2.1 47), .int p1, .int p2, .int p3]) S (some (.int r0)) S0 := by
  refine gEnter (fun X => [some (.ref (gad X 47)), some (.int p1), some (.int p2), some (.int p3), none, none, none, none, none]) (by decide) (fun X => ⟨rfl, rfl⟩) (fun w => Nat.le_of_ble_eq_true rfl) (fun X hp => ?_)
  show AW X RX7 4 cX7_way 0 [some (.ref (gad X 47)), some (.int p1), some (.int p2), some (.int p3), none, none, none, none, none] [] S
  unfold f_X7_way at h
  refine a_aloadn (pc := 0) dX7_way_0 rfl rfl ?_
  refine a_iloadn (pc := 1) dX7_way_1 rfl rfl ?_
  obtain ⟨r3, S1, hc2, h⟩ := g_bind2 h
  refine a_invVi (pc := 2) (ok_X7_isWalker hc2) gyX7_isWalker vyX7_isWalker mlX7_82 sh_47 rfl (As := [.int p1]) rfl rfl (by decide) (st := []) rfl (Nat.le_of_ble_eq_true rfl) dX7_way_2 ?_
  refine a_if_eq (pc := 5) (tgt := 22) dX7_way_5 (by decide) (fun c4 => ?_) (fun c4 => ?_)
  · rw [if_pos c4] at h
    refine a_iconst (pc := 22) (v := (-1 : Int32)) dX7_way_22 (by decide) ?_
    obtain ⟨rfl, rfl⟩ := Prod.mk.inj (Option.some.inj h)
    exact a_iret hp dX7_way_23
  · rw [if_neg c4] at h
    refine a_iloadn (pc := 8) dX7_way_8 rfl rfl ?_
    obtain ⟨r7, S5, hc6, h⟩ := g_bind2 h
    refine a_invSi (pc := 9) (ok_X7_isCell hc6) gyX7_isCell syX7_isCell mlX7_65 (As := [.int p2]) rfl rfl (by decide) (st := []) rfl (Nat.le_of_ble_eq_true rfl) dX7_way_9 ?_
    refine a_if_eq (pc := 12) (tgt := 22) dX7_way_12 (by decide) (fun c8 => ?_) (fun c8 => ?_)
    · rw [if_pos c8] at h
      refine a_iconst (pc := 22) (v := (-1 : Int32)) dX7_way_22 (by decide) ?_
      obtain ⟨rfl, rfl⟩ := Prod.mk.inj (Option.some.inj h)
      exact a_iret hp dX7_way_23
    · rw [if_neg c8] at h
      refine a_iloadn (pc := 15) dX7_way_15 rfl rfl ?_
      obtain ⟨r11, S9, hc10, h⟩ := g_bind2 h
      refine a_invSi (pc := 16) (ok_X7_isCell hc10) gyX7_isCell syX7_isCell mlX7_65 (As := [.int p3]) rfl rfl (by decide) (st := []) rfl (Nat.le_of_ble_eq_true rfl) dX7_way_16 ?_
      refine a_if_ne (pc := 19) (tgt := 24) dX7_way_19 (by decide) (fun c12 => ?_) (fun c12 => ?_)
      · rw [if_neg c12] at h
        refine a_aloadn (pc := 24) dX7_way_24 rfl rfl ?_
        obtain ⟨S13, hc14, h⟩ := g_bind h
        refine a_invVv (pc := 25) (ok_X7_holds hc14) gyX7_holds vyX7_holds mlX7_185 sh_47 rfl (As := []) rfl rfl (by decide) (st := []) rfl (Nat.le_of_ble_eq_true rfl) dX7_way_25 ?_
        refine a_iconst (pc := 28) (v := (0 : Int32)) dX7_way_28 (by decide) ?_
        refine a_istore (pc := 29) dX7_way_29 (Nat.le_of_ble_eq_true rfl) rfl (L' := [some (.ref (gad X 47)), some (.int p1), some (.int p2), some (.int p3), some (.int (0 : Int32)), none, none, none, none]) rfl ?_
        obtain ⟨R21, hR21, h⟩ := g_bind h
        have E31 : ∀ (y1_21 : Int32) (y3_21 : Int32) (S21 : gSt), ((gLoop (f_X7_way_s67) gFuel (y1_21, y3_21, (1 : Int32), S21)).bind fun q41 => match q41 with | (y3_41, S41) => if gin y3_41 64 then (some (S41.1 55 y3_41.toNatClampNeg, S41)) else none) = some (r0, S0) → AW X RX7 4 cX7_way 64 [some (.ref (gad X 47)), some (.int y1_21), none, some (.int y3_21), none, none, none, none, none] [] S21 := by
          intro y1_21 y3_21 S21 h
          refine a_iconst (pc := 64) (v := (1 : Int32)) dX7_way_64 (by decide) ?_
          refine a_istore (pc := 65) dX7_way_65 (Nat.le_of_ble_eq_true rfl) rfl (L' := [some (.ref (gad X 47)), some (.int y1_21), none, some (.int y3_21), some (.int (1 : Int32)), none, none, none, none]) rfl ?_
          obtain ⟨R41, hR41, h⟩ := g_bind h
          have E67 : ∀ (y3_41 : Int32) (S41 : gSt), (if gin y3_41 64 then (some (S41.1 55 y3_41.toNatClampNeg, S41)) else none) = some (r0, S0) → AW X RX7 4 cX7_way 200 [some (.ref (gad X 47)), none, none, some (.int y3_41), none, none, none, none, none] [] S41 := by
            intro y3_41 S41 h
            refine a_aloadn (pc := 200) dX7_way_200 rfl rfl ?_
            refine a_getA (pc := 201) flX7_32 sh_47 rfl dX7_way_201 ?_
            refine a_iloadn (pc := 204) dX7_way_204 rfl rfl ?_
            obtain ⟨hi42, h⟩ := g_if h
            refine a_iald (pc := 205) sh_55 hi42 dX7_way_205 ?_
            obtain ⟨rfl, rfl⟩ := Prod.mk.inj (Option.some.inj h)
            exact a_iret hp dX7_way_206
          have lp : ∀ (n : Nat) (x1 : Int32) (x3 : Int32) (x4 : Int32) (S : gSt), gLoop (f_X7_way_s67) n (x1, x3, x4, S) = some R41 → AW X RX7 4 cX7_way 67 [some (.ref (gad X 47)), some (.int x1), none, some (.int x3), some (.int x4), none, none, none, none] [] S := by
            intro n
            induction n with
            | zero => intro x1 x3 x4 S hR; cases hR
            | succ n ih =>
              intro x1 x3 x4 S hR
              obtain ⟨q, hs, hR⟩ := g_bind hR
              have hs : f_X7_way_s67_b x1 x3 x4 S = some q := hs
              unfold f_X7_way_s67_b at hs
              refine a_iload (pc := 67) dX7_way_67 rfl ?_
              refine a_if_eq (pc := 69) (tgt := 200) dX7_way_69 (by decide) (fun c22 => ?_) (fun c22 => ?_)
              · rw [if_pos c22] at hs
                obtain rfl := Option.some.inj hs
                obtain rfl := Option.some.inj hR
                refine a_mask [true, false, true, true, false, true, true, true, true] (L' := [some (.ref (gad X 47)), none, none, some (.int x3), none, none, none, none, none]) rfl ?_
                exact E67 _ _ h
              · rw [if_neg c22] at hs
                refine a_iconst (pc := 72) (v := (0 : Int32)) dX7_way_72 (by decide) ?_
                refine a_istore (pc := 73) dX7_way_73 (Nat.le_of_ble_eq_true rfl) rfl (L' := [some (.ref (gad X 47)), some (.int x1), none, some (.int x3), some (.int (0 : Int32)), none, none, none, none]) rfl ?_
                refine a_iconst (pc := 75) (v := (0 : Int32)) dX7_way_75 (by decide) ?_
                refine a_istore (pc := 76) dX7_way_76 (Nat.le_of_ble_eq_true rfl) rfl (L' := [some (.ref (gad X 47)), some (.int x1), none, some (.int x3), some (.int (0 : Int32)), some (.int (0 : Int32)), none, none, none]) rfl ?_
                obtain ⟨R40, hR40, hs⟩ := g_bind hs
                have E78 : ∀ (y1_40 : Int32) (y3_40 : Int32) (y4_40 : Int32) (S40 : gSt), (some (.inl (y1_40, y3_40, y4_40, S40))) = some q → AW X RX7 4 cX7_way 197 [some (.ref (gad X 47)), some (.int y1_40), none, some (.int y3_40), some (.int y4_40), none, none, none, none] [] S40 := by
                  intro y1_40 y3_40 y4_40 S40 hs
                  refine a_goto (pc := 197) (tgt := 67) dX7_way_197 (by decide) ?_
                  obtain rfl := Option.some.inj hs
                  exact ih _ _ _ _ hR
                have lp : ∀ (n : Nat) (x1 : Int32) (x3 : Int32) (x4 : Int32) (x5 : Int32) (S : gSt), gLoop (f_X7_way_s78) n (x1, x3, x4, x5, S) = some R40 → AW X RX7 4 cX7_way 78 [some (.ref (gad X 47)), some (.int x1), none, some (.int x3), some (.int x4), some (.int x5), none, none, none] [] S := by
                  intro n
                  induction n with
                  | zero => intro x1 x3 x4 x5 S hR; cases hR
                  | succ n ih =>
                    intro x1 x3 x4 x5 S hR
                    obtain ⟨q, hs, hR⟩ := g_bind hR
                    have hs : f_X7_way_s78_b x1 x3 x4 x5 S = some q := hs
                    unfold f_X7_way_s78_b at hs
                    refine a_iload (pc := 78) dX7_way_78 rfl ?_
                    refine a_bipush (pc := 80) (v := (64 : Int32)) dX7_way_80 (by decide) ?_
                    refine a_icmp_ge (pc := 82) (tgt := 197) dX7_way_82 (by decide) (fun c23 => ?_) (fun c23 => ?_)
                    · rw [if_pos c23] at hs
                      obtain rfl := Option.some.inj hs
                      obtain rfl := Option.some.inj hR
                      refine a_mask [true, true, true, true, true, false, true, true, true] (L' := [some (.ref (gad X 47)), some (.int x1), none, some (.int x3), some (.int x4), none, none, none, none]) rfl ?_
                      exact E78 _ _ _ _ hs
                    · rw [if_neg c23] at hs
                      refine a_iconst (pc := 85) (v := (0 : Int32)) dX7_way_85 (by decide) ?_
                      refine a_istore (pc := 86) dX7_way_86 (Nat.le_of_ble_eq_true rfl) rfl (L' := [some (.ref (gad X 47)), some (.int x1), none, some (.int x3), some (.int x4), some (.int x5), some (.int (0 : Int32)), none, none]) rfl ?_
                      obtain ⟨R39, hR39, hs⟩ := g_bind hs
                      have E88 : ∀ (y1_39 : Int32) (y3_39 : Int32) (y4_39 : Int32) (y5_39 : Int32) (S39 : gSt), (some (.inl (y1_39, y3_39, y4_39, y5_39 + (1 : Int32), S39))) = some q → AW X RX7 4 cX7_way 191 [some (.ref (gad X 47)), some (.int y1_39), none, some (.int y3_39), some (.int y4_39), some (.int y5_39), none, none, none] [] S39 := by
                        intro y1_39 y3_39 y4_39 y5_39 S39 hs
                        refine a_iinc (pc := 191) dX7_way_191 rfl (v := y5_39 + (1 : Int32)) rfl (Nat.le_of_ble_eq_true rfl) rfl (L' := [some (.ref (gad X 47)), some (.int y1_39), none, some (.int y3_39), some (.int y4_39), some (.int (y5_39 + (1 : Int32))), none, none, none]) rfl ?_
                        refine a_goto (pc := 194) (tgt := 78) dX7_way_194 (by decide) ?_
                        obtain rfl := Option.some.inj hs
                        exact ih _ _ _ _ _ hR
                      have lp : ∀ (n : Nat) (x1 : Int32) (x3 : Int32) (x4 : Int32) (x5 : Int32) (x6 : Int32) (S : gSt), gLoop (f_X7_way_s88) n (x1, x3, x4, x5, x6, S) = some R39 → AW X RX7 4 cX7_way 88 [some (.ref (gad X 47)), some (.int x1), none, some (.int x3), some (.int x4), some (.int x5), some (.int x6), none, none] [] S := by
                        intro n
                        induction n with
                        | zero => intro x1 x3 x4 x5 x6 S hR; cases hR
                        | succ n ih =>
                          intro x1 x3 x4 x5 x6 S hR
                          obtain ⟨q, hs, hR⟩ := g_bind hR
                          have hs : f_X7_way_s88_b x1 x3 x4 x5 x6 S = some q := hs
                          unfold f_X7_way_s88_b at hs
                          have J152 : ∀ (x1 : Int32) (x3 : Int32) (x4 : Int32) (x5 : Int32) (x6 : Int32) (x7 : Int32) (t0 : Int32) (S : gSt), f_X7_way_j152 x1 x3 x4 x5 x6 x7 t0 S = some q → AW X RX7 4 cX7_way 152 [some (.ref (gad X 47)), some (.int x1), none, some (.int x3), some (.int x4), some (.int x5), some (.int x6), some (.int x7), none] [.int t0] S := by
                            intro x1 x3 x4 x5 x6 x7 t0 S hs
                            unfold f_X7_way_j152 at hs
                            refine a_istore (pc := 152) dX7_way_152 (Nat.le_of_ble_eq_true rfl) rfl (L' := [some (.ref (gad X 47)), some (.int x1), none, some (.int x3), some (.int x4), some (.int x5), some (.int x6), some (.int x7), some (.int t0)]) rfl ?_
                            refine a_iload (pc := 154) dX7_way_154 rfl ?_
                            refine a_bipush (pc := 156) (v := (-4 : Int32)) dX7_way_156 (by decide) ?_
                            refine a_icmp_eq (pc := 158) (tgt := 185) dX7_way_158 (by decide) (fun c24 => ?_) (fun c24 => ?_)
                            · rw [if_pos c24] at hs
                              refine a_iinc (pc := 185) dX7_way_185 rfl (v := x6 + (1 : Int32)) rfl (Nat.le_of_ble_eq_true rfl) rfl (L' := [some (.ref (gad X 47)), some (.int x1), none, some (.int x3), some (.int x4), some (.int x5), some (.int (x6 + (1 : Int32))), some (.int x7), some (.int t0)]) rfl ?_
                              refine a_goto (pc := 188) (tgt := 88) dX7_way_188 (by decide) ?_
                              obtain rfl := Option.some.inj hs
                              refine a_mask [true, true, true, true, true, true, true, false, false] (L' := [some (.ref (gad X 47)), some (.int x1), none, some (.int x3), some (.int x4), some (.int x5), some (.int (x6 + (1 : Int32))), none, none]) rfl ?_
                              exact ih _ _ _ _ _ _ hR
                            · rw [if_neg c24] at hs
                              refine a_iload (pc := 161) dX7_way_161 rfl ?_
                              refine a_aloadn (pc := 163) dX7_way_163 rfl rfl ?_
                              refine a_getA (pc := 164) flX7_32 sh_47 rfl dX7_way_164 ?_
                              refine a_iload (pc := 167) dX7_way_167 rfl ?_
                              obtain ⟨hi25, hs⟩ := g_if hs
                              refine a_iald (pc := 169) sh_55 hi25 dX7_way_169 ?_
                              refine a_icmp_ge (pc := 170) (tgt := 185) dX7_way_170 (by decide) (fun c26 => ?_) (fun c26 => ?_)
                              · rw [if_pos c26] at hs
                                refine a_iinc (pc := 185) dX7_way_185 rfl (v := x6 + (1 : Int32)) rfl (Nat.le_of_ble_eq_true rfl) rfl (L' := [some (.ref (gad X 47)), some (.int x1), none, some (.int x3), some (.int x4), some (.int x5), some (.int (x6 + (1 : Int32))), some (.int x7), some (.int t0)]) rfl ?_
                                refine a_goto (pc := 188) (tgt := 88) dX7_way_188 (by decide) ?_
                                obtain rfl := Option.some.inj hs
                                refine a_mask [true, true, true, true, true, true, true, false, false] (L' := [some (.ref (gad X 47)), some (.int x1), none, some (.int x3), some (.int x4), some (.int x5), some (.int (x6 + (1 : Int32))), none, none]) rfl ?_
                                exact ih _ _ _ _ _ _ hR
                              · rw [if_neg c26] at hs
                                refine a_aloadn (pc := 173) dX7_way_173 rfl rfl ?_
                                refine a_getA (pc := 174) flX7_32 sh_47 rfl dX7_way_174 ?_
                                refine a_iload (pc := 177) dX7_way_177 rfl ?_
                                refine a_iload (pc := 179) dX7_way_179 rfl ?_
                                obtain ⟨hi27, hs⟩ := g_if hs
                                refine a_iast (pc := 181) sh_55 hi27 dX7_way_181 ?_
                                obtain ⟨S28, eS28, hs⟩ := g_let hs
                                refine a_nmS eS28 ?_
                                refine a_iconst (pc := 182) (v := (1 : Int32)) dX7_way_182 (by decide) ?_
                                refine a_istore (pc := 183) dX7_way_183 (Nat.le_of_ble_eq_true rfl) rfl (L' := [some (.ref (gad X 47)), some (.int x1), none, some (.int x3), some (.int (1 : Int32)), some (.int x5), some (.int x6), some (.int x7), some (.int t0)]) rfl ?_
                                refine a_iinc (pc := 185) dX7_way_185 rfl (v := x6 + (1 : Int32)) rfl (Nat.le_of_ble_eq_true rfl) rfl (L' := [some (.ref (gad X 47)), some (.int x1), none, some (.int x3), some (.int (1 : Int32)), some (.int x5), some (.int (x6 + (1 : Int32))), some (.int x7), some (.int t0)]) rfl ?_
                                refine a_goto (pc := 188) (tgt := 88) dX7_way_188 (by decide) ?_
                                obtain rfl := Option.some.inj hs
                                refine a_mask [true, true, true, true, true, true, true, false, false] (L' := [some (.ref (gad X 47)), some (.int x1), none, some (.int x3), some (.int (1 : Int32)), some (.int x5), some (.int (x6 + (1 : Int32))), none, none]) rfl ?_
                                exact ih _ _ _ _ _ _ hR
                          have J151 : ∀ (x1 : Int32) (x3 : Int32) (x4 : Int32) (x5 : Int32) (x6 : Int32) (x7 : Int32) (t0 : Int32) (t1 : Int32) (S : gSt), f_X7_way_j151 x1 x3 x4 x5 x6 x7 t0 t1 S = some q → AW X RX7 4 cX7_way 151 [some (.ref (gad X 47)), some (.int x1), none, some (.int x3), some (.int x4), some (.int x5), some (.int x6), some (.int x7), none] [.int t0, .int t1] S := by
                            intro x1 x3 x4 x5 x6 x7 t0 t1 S hs
                            unfold f_X7_way_j151 at hs
                            refine a_iadd (pc := 151) dX7_way_151 ?_
                            exact J152 _ _ _ _ _ _ _ _ hs
                          have J146 : ∀ (x1 : Int32) (x3 : Int32) (x4 : Int32) (x5 : Int32) (x6 : Int32) (x7 : Int32) (t0 : Int32) (S : gSt), f_X7_way_j146 x1 x3 x4 x5 x6 x7 t0 S = some q → AW X RX7 4 cX7_way 146 [some (.ref (gad X 47)), some (.int x1), none, some (.int x3), some (.int x4), some (.int x5), some (.int x6), some (.int x7), none] [.int t0] S := by
                            intro x1 x3 x4 x5 x6 x7 t0 S hs
                            unfold f_X7_way_j146 at hs
                            refine a_iconst (pc := 146) (v := (0 : Int32)) dX7_way_146 (by decide) ?_
                            refine a_goto (pc := 147) (tgt := 151) dX7_way_147 (by decide) ?_
                            exact J151 _ _ _ _ _ _ _ _ _ hs
                          refine a_iload (pc := 88) dX7_way_88 rfl ?_
                          refine a_iconst (pc := 90) (v := (4 : Int32)) dX7_way_90 (by decide) ?_
                          refine a_icmp_ge (pc := 91) (tgt := 191) dX7_way_91 (by decide) (fun c29 => ?_) (fun c29 => ?_)
                          · rw [if_pos c29] at hs
                            obtain rfl := Option.some.inj hs
                            obtain rfl := Option.some.inj hR
                            refine a_mask [true, true, true, true, true, true, false, true, true] (L' := [some (.ref (gad X 47)), some (.int x1), none, some (.int x3), some (.int x4), some (.int x5), none, none, none]) rfl ?_
                            exact E88 _ _ _ _ _ hs
                          · rw [if_neg c29] at hs
                            refine a_iload (pc := 94) dX7_way_94 rfl ?_
                            refine a_iload (pc := 96) dX7_way_96 rfl ?_
                            obtain ⟨r32, S30, hc31, hs⟩ := g_bind2 hs
                            refine a_invSi (pc := 98) (ok_X7_beside hc31) gyX7_beside syX7_beside mlX7_146 (As := [.int x5, .int x6]) rfl rfl (by decide) (st := []) rfl (Nat.le_of_ble_eq_true rfl) dX7_way_98 ?_
                            refine a_istore (pc := 101) dX7_way_101 (Nat.le_of_ble_eq_true rfl) rfl (L' := [some (.ref (gad X 47)), some (.int x1), none, some (.int x3), some (.int x4), some (.int x5), some (.int x6), some (.int r32), none]) rfl ?_
                            refine a_iload (pc := 103) dX7_way_103 rfl ?_
                            refine a_bipush (pc := 105) (v := (-4 : Int32)) dX7_way_105 (by decide) ?_
                            refine a_icmp_ne (pc := 107) (tgt := 116) dX7_way_107 (by decide) (fun c33 => ?_) (fun c33 => ?_)
                            · rw [if_neg c33] at hs
                              refine a_aloadn (pc := 116) dX7_way_116 rfl rfl ?_
                              refine a_getA (pc := 117) flX7_32 sh_47 rfl dX7_way_117 ?_
                              refine a_iload (pc := 120) dX7_way_120 rfl ?_
                              obtain ⟨hi34, hs⟩ := g_if hs
                              refine a_iald (pc := 122) sh_55 hi34 dX7_way_122 ?_
                              refine a_aloadn (pc := 123) dX7_way_123 rfl rfl ?_
                              refine a_getA (pc := 124) flX7_13 sh_47 rfl dX7_way_124 ?_
                              refine a_iload (pc := 127) dX7_way_127 rfl ?_
                              obtain ⟨hi35, hs⟩ := g_if hs
                              refine a_iald (pc := 129) sh_49 hi35 dX7_way_129 ?_
                              refine a_bipush (pc := 130) (v := (-4 : Int32)) dX7_way_130 (by decide) ?_
                              refine a_icmp_eq (pc := 132) (tgt := 146) dX7_way_132 (by decide) (fun c36 => ?_) (fun c36 => ?_)
                              · rw [if_pos c36] at hs
                                exact J146 _ _ _ _ _ _ _ _ hs
                              · rw [if_neg c36] at hs
                                refine a_aloadn (pc := 135) dX7_way_135 rfl rfl ?_
                                refine a_getA (pc := 136) flX7_13 sh_47 rfl dX7_way_136 ?_
                                refine a_iload (pc := 139) dX7_way_139 rfl ?_
                                obtain ⟨hi37, hs⟩ := g_if hs
                                refine a_iald (pc := 141) sh_49 hi37 dX7_way_141 ?_
                                refine a_iloadn (pc := 142) dX7_way_142 rfl rfl ?_
                                refine a_icmp_ne (pc := 143) (tgt := 150) dX7_way_143 (by decide) (fun c38 => ?_) (fun c38 => ?_)
                                · rw [if_neg c38] at hs
                                  refine a_iconst (pc := 150) (v := (1 : Int32)) dX7_way_150 (by decide) ?_
                                  exact J151 _ _ _ _ _ _ _ _ _ hs
                                · rw [if_pos c38] at hs
                                  exact J146 _ _ _ _ _ _ _ _ hs
                            · rw [if_pos c33] at hs
                              refine a_sipush (pc := 110) (v := (999 : Int32)) dX7_way_110 (by decide) ?_
                              refine a_goto (pc := 113) (tgt := 152) dX7_way_113 (by decide) ?_
                              exact J152 _ _ _ _ _ _ _ _ hs
                      exact lp _ _ _ _ _ _ _ hR39
                exact lp _ _ _ _ _ _ hR40
          exact lp _ _ _ _ _ hR41
        have lp : ∀ (n : Nat) (x1 : Int32) (x2 : Int32) (x3 : Int32) (x4 : Int32) (S : gSt), gLoop (f_X7_way_s31) n (x1, x2, x3, x4, S) = some R21 → AW X RX7 4 cX7_way 31 [some (.ref (gad X 47)), some (.int x1), some (.int x2), some (.int x3), some (.int x4), none, none, none, none] [] S := by
          intro n
          induction n with
          | zero => intro x1 x2 x3 x4 S hR; cases hR
          | succ n ih =>
            intro x1 x2 x3 x4 S hR
            obtain ⟨q, hs, hR⟩ := g_bind hR
            have hs : f_X7_way_s31_b x1 x2 x3 x4 S = some q := hs
            unfold f_X7_way_s31_b at hs
            refine a_iload (pc := 31) dX7_way_31 rfl ?_
            refine a_bipush (pc := 33) (v := (64 : Int32)) dX7_way_33 (by decide) ?_
            refine a_icmp_ge (pc := 35) (tgt := 64) dX7_way_35 (by decide) (fun c15 => ?_) (fun c15 => ?_)
            · rw [if_pos c15] at hs
              obtain rfl := Option.some.inj hs
              obtain rfl := Option.some.inj hR
              refine a_mask [true, true, false, true, false, true, true, true, true] (L' := [some (.ref (gad X 47)), some (.int x1), none, some (.int x3), none, none, none, none, none]) rfl ?_
              exact E31 _ _ _ h
            · rw [if_neg c15] at hs
              refine a_aloadn (pc := 38) dX7_way_38 rfl rfl ?_
              refine a_getA (pc := 39) flX7_32 sh_47 rfl dX7_way_39 ?_
              refine a_iload (pc := 42) dX7_way_42 rfl ?_
              refine a_iload (pc := 44) dX7_way_44 rfl ?_
              refine a_iloadn (pc := 46) dX7_way_46 rfl rfl ?_
              refine a_icmp_ne (pc := 47) (tgt := 54) dX7_way_47 (by decide) (fun c16 => ?_) (fun c16 => ?_)
              · rw [if_neg c16] at hs
                refine a_sipush (pc := 54) (v := (999 : Int32)) dX7_way_54 (by decide) ?_
                obtain ⟨hi17, hs⟩ := g_if hs
                refine a_iast (pc := 57) sh_55 hi17 dX7_way_57 ?_
                obtain ⟨S18, eS18, hs⟩ := g_let hs
                refine a_nmS eS18 ?_
                refine a_iinc (pc := 58) dX7_way_58 rfl (v := x4 + (1 : Int32)) rfl (Nat.le_of_ble_eq_true rfl) rfl (L' := [some (.ref (gad X 47)), some (.int x1), some (.int x2), some (.int x3), some (.int (x4 + (1 : Int32))), none, none, none, none]) rfl ?_
                refine a_goto (pc := 61) (tgt := 31) dX7_way_61 (by decide) ?_
                obtain rfl := Option.some.inj hs
                exact ih _ _ _ _ _ hR
              · rw [if_pos c16] at hs
                refine a_iconst (pc := 50) (v := (0 : Int32)) dX7_way_50 (by decide) ?_
                refine a_goto (pc := 51) (tgt := 57) dX7_way_51 (by decide) ?_
                obtain ⟨hi19, hs⟩ := g_if hs
                refine a_iast (pc := 57) sh_55 hi19 dX7_way_57 ?_
                obtain ⟨S20, eS20, hs⟩ := g_let hs
                refine a_nmS eS20 ?_
                refine a_iinc (pc := 58) dX7_way_58 rfl (v := x4 + (1 : Int32)) rfl (Nat.le_of_ble_eq_true rfl) rfl (L' := [some (.ref (gad X 47)), some (.int x1), some (.int x2), some (.int x3), some (.int (x4 + (1 : Int32))), none, none, none, none]) rfl ?_
                refine a_goto (pc := 61) (tgt := 31) dX7_way_61 (by decide) ?_
                obtain rfl := Option.some.inj hs
                exact ih _ _ _ _ _ hR
        exact lp _ _ _ _ _ _ hR21
      · rw [if_pos c12] at h
        refine a_iconst (pc := 22) (v := (-1 : Int32)) dX7_way_22 (by decide) ?_
        obtain ⟨rfl, rfl⟩ := Prod.mk.inj (Option.some.inj h)
        exact a_iret hp dX7_way_23
