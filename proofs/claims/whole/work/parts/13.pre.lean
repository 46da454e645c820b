def gFuel : Nat := 100000
def gLet {α β : Type} (v : α) (f : α → β) : β := f v
theorem g_let {α β : Type} {v : α} {f : α → Option β} {x : β} (h : gLet v f = some x) : ∃ a, v = a ∧ f a = some x := ⟨v, rfl, h⟩
def gBind2 {α β γ : Type} (o : Option (α × β)) (f : α → β → Option γ) : Option γ := o.bind fun q => f q.1 q.2
theorem g_bind2 {α β γ : Type} {o : Option (α × β)} {f : α → β → Option γ} {x : γ} (h : gBind2 o f = some x) : ∃ a b, o = some (a, b) ∧ f a b = some x := by
  cases o with
  | none => cases h
  | some q => exact ⟨q.1, q.2, rfl, h⟩
theorem g_ifn {α : Type} {c : Prop} [Decidable c] {a : Option α} {x : α} (h : (if c then none else a) = some x) : ¬ c ∧ a = some x := by
  by_cases hc : c
  · rw [if_pos hc] at h; cases h
  · rw [if_neg hc] at h; exact ⟨hc, h⟩
theorem gin_lt {i : Int32} {n : Nat} (h : gin i n = true) : i.toNatClampNeg < n := by
  simp only [gin, Bool.and_eq_true, decide_eq_true_eq] at h
  exact h.2
section Names
variable {X : gX} {own : String} {d : Nat} {cc : ByteArray} {pc : Nat} {L : List (Option Value)} {st : List Value} {S S2 : gSt}
theorem a_nmI {x v : Int32} (he : x = v) (k : AW X own d cc pc L (.int v :: st) S) : AW X own d cc pc L (.int x :: st) S := he ▸ k
theorem a_nmJ {x v : Int64} (he : x = v) (k : AW X own d cc pc L (.long v :: st) S) : AW X own d cc pc L (.long x :: st) S := he ▸ k
theorem a_nmS (he : S = S2) (k : AW X own d cc pc L st S2) : AW X own d cc pc L st S := he ▸ k
end Names
theorem sh_0 : gSH[0]? = some (.inl (6, [some 1, some 14, none, some 27, some 32, some 41, some 44])) := rfl
theorem sh_1 : gSH[1]? = some (.inl (0, [some 2, some 3, some 4, some 5, some 6, some 7, some 8, none, none, none])) := rfl
theorem sh_2 : gSH[2]? = some (.inr (0, 5, 0)) := rfl
theorem sh_3 : gSH[3]? = some (.inr (0, 6, 0)) := rfl
theorem sh_4 : gSH[4]? = some (.inr (0, 6, 0)) := rfl
theorem sh_5 : gSH[5]? = some (.inr (0, 6, 0)) := rfl
theorem sh_6 : gSH[6]? = some (.inr (0, 6, 0)) := rfl
theorem sh_7 : gSH[7]? = some (.inr (0, 384, 0)) := rfl
theorem sh_8 : gSH[8]? = some (.inl (1, [some 9, some 10, some 11, some 12, some 13, none, none])) := rfl
theorem sh_9 : gSH[9]? = some (.inr (0, 3072, 0)) := rfl
theorem sh_10 : gSH[10]? = some (.inr (0, 48, 0)) := rfl
theorem sh_11 : gSH[11]? = some (.inr (0, 48, 0)) := rfl
theorem sh_12 : gSH[12]? = some (.inr (0, 8, 0)) := rfl
theorem sh_13 : gSH[13]? = some (.inr (0, 8, 0)) := rfl
theorem sh_14 : gSH[14]? = some (.inl (0, [some 15, some 16, some 17, some 18, some 19, some 20, some 21, none, none, none])) := rfl
theorem sh_15 : gSH[15]? = some (.inr (0, 5, 0)) := rfl
theorem sh_16 : gSH[16]? = some (.inr (0, 6, 0)) := rfl
theorem sh_17 : gSH[17]? = some (.inr (0, 6, 0)) := rfl
theorem sh_18 : gSH[18]? = some (.inr (0, 6, 0)) := rfl
theorem sh_19 : gSH[19]? = some (.inr (0, 6, 0)) := rfl
theorem sh_20 : gSH[20]? = some (.inr (0, 384, 0)) := rfl
theorem sh_21 : gSH[21]? = some (.inl (1, [some 22, some 23, some 24, some 25, some 26, none, none])) := rfl
theorem sh_22 : gSH[22]? = some (.inr (0, 3072, 0)) := rfl
theorem sh_23 : gSH[23]? = some (.inr (0, 48, 0)) := rfl
theorem sh_24 : gSH[24]? = some (.inr (0, 48, 0)) := rfl
theorem sh_25 : gSH[25]? = some (.inr (0, 8, 0)) := rfl
theorem sh_26 : gSH[26]? = some (.inr (0, 8, 0)) := rfl
theorem sh_27 : gSH[27]? = some (.inl (4, [some 28, some 29, some 30, some 31, none, none, none, none, none])) := rfl
theorem sh_28 : gSH[28]? = some (.inr (0, 60, 0)) := rfl
theorem sh_29 : gSH[29]? = some (.inr (0, 6, 0)) := rfl
theorem sh_30 : gSH[30]? = some (.inr (0, 6, 0)) := rfl
theorem sh_31 : gSH[31]? = some (.inr (0, 6, 0)) := rfl
theorem sh_32 : gSH[32]? = some (.inr (3, 4, 33)) := rfl
theorem sh_33 : gSH[33]? = some (.inl (2, [some 37, none, none])) := rfl
theorem sh_34 : gSH[34]? = some (.inl (2, [some 38, none, none])) := rfl
theorem sh_35 : gSH[35]? = some (.inl (2, [some 39, none, none])) := rfl
theorem sh_36 : gSH[36]? = some (.inl (2, [some 40, none, none])) := rfl
theorem sh_37 : gSH[37]? = some (.inr (2, 24, 0)) := rfl
theorem sh_38 : gSH[38]? = some (.inr (2, 24, 0)) := rfl
theorem sh_39 : gSH[39]? = some (.inr (2, 24, 0)) := rfl
theorem sh_40 : gSH[40]? = some (.inr (2, 24, 0)) := rfl
theorem sh_41 : gSH[41]? = some (.inl (3, [some 42, some 43, none, none])) := rfl
theorem sh_42 : gSH[42]? = some (.inr (0, 384, 0)) := rfl
theorem sh_43 : gSH[43]? = some (.inr (0, 6, 0)) := rfl
theorem sh_44 : gSH[44]? = some (.inl (5, [some 45, some 46, none, none, none])) := rfl
theorem sh_45 : gSH[45]? = some (.inr (0, 64, 0)) := rfl
theorem sh_46 : gSH[46]? = some (.inr (0, 64, 0)) := rfl
theorem sh_47 : gSH[47]? = some (.inl (7, [some 48, some 49, some 50, none, none, none, some 51, some 52, none, some 53, some 54, some 55, some 56, none, none, some 57, some 58, some 59, some 60])) := rfl
theorem sh_48 : gSH[48]? = some (.inr (0, 416, 0)) := rfl
theorem sh_49 : gSH[49]? = some (.inr (0, 64, 0)) := rfl
theorem sh_50 : gSH[50]? = some (.inr (0, 60, 0)) := rfl
theorem sh_51 : gSH[51]? = some (.inr (0, 18, 0)) := rfl
theorem sh_52 : gSH[52]? = some (.inr (0, 3328, 0)) := rfl
theorem sh_53 : gSH[53]? = some (.inr (0, 416, 0)) := rfl
theorem sh_54 : gSH[54]? = some (.inr (1, 64, 0)) := rfl
theorem sh_55 : gSH[55]? = some (.inr (0, 64, 0)) := rfl
theorem sh_56 : gSH[56]? = some (.inr (0, 3744, 0)) := rfl
theorem sh_57 : gSH[57]? = some (.inr (0, 4, 0)) := rfl
theorem sh_58 : gSH[58]? = some (.inr (0, 4, 0)) := rfl
theorem sh_59 : gSH[59]? = some (.inr (2, 96, 0)) := rfl
theorem sh_60 : gSH[60]? = some (.inr (2, 24, 0)) := rfl
theorem sh_sheet {j : Nat} (h : j < 4) : gSH[33 + j]? = some (.inl (2, [some (37 + j), none, none])) := by
  rcases (show j = 0 ∨ j = 1 ∨ j = 2 ∨ j = 3 by omega) with rfl | rfl | rfl | rfl <;> rfl
theorem sh_items {j : Nat} (h : j < 4) : gSH[37 + j]? = some (.inr (2, 24, 0)) := by
  rcases (show j = 0 ∨ j = 1 ∨ j = 2 ∨ j = 3 by omega) with rfl | rfl | rfl | rfl <;> rfl
section Rows3
variable {X : gX} {own : String} {d : Nat} {cc : ByteArray} {pc : Nat} {L : List (Option Value)} {st : List Value} {S S' : gSt}
variable {y : MethodName} {cy : ByteArray} {mL n dy idx : Nat} {ret : Option FieldType} {as : gWd → List Value} {As st0 : List Value}
theorem a_invVi {r : Int32} {k ci : Nat} {fs : List (Option Nat)} {T : u_T} {N : Nat} (hc : gCT y cy mL ret dy as S (some (.int r)) S') (hY : gY y cy mL ret n) (hV : Cond.instanceMethod y ∈ gALL ∧ Cond.selects y.cls y y ∈ gALL) (hl : Cond.methodLink own idx y ∈ gALL) (hs : gSH[k]? = some (.inl (ci, fs))) (hcl : vwCl[ci]? = some (y.cls, T, N)) (has : as (gw X) = .ref (gad X k) :: As) (hn : As.length = n) (hdy : dy < d) (hst : st0 = As.reverse ++ .ref (gad X k) :: st) (hroom : (st.map fun v => v.category).sum ≤ 8) (hd : decode cc pc = .ok (.invokevirtual idx, 3)) (kk : AW X own d cc (pc + 3) L (.int r :: st) S') : AW X own d cc pc L st0 S := a_invV hc hY hV hl hs hcl has hn hdy hst hroom hd kk
theorem a_invSi {r : Int32} (hc : gCT y cy mL ret dy as S (some (.int r)) S') (hY : gY y cy mL ret n) (hV : Cond.static y ∈ gALL) (hl : Cond.methodLink own idx y ∈ gALL) (has : as (gw X) = As) (hn : As.length = n) (hdy : dy < d) (hst : st0 = As.reverse ++ st) (hroom : (st.map fun v => v.category).sum ≤ 8) (hd : decode cc pc = .ok (.invokestatic idx, 3)) (kk : AW X own d cc (pc + 3) L (.int r :: st) S') : AW X own d cc pc L st0 S := a_invS hc hY hV hl has hn hdy hst hroom hd kk
theorem a_invSNi {r : Int32} (hc : gCT y cy mL ret dy as S (some (.int r)) S') (hY : gY y cy mL ret n) (hV : Cond.static y ∈ gALL) (hl : Cond.methodLinkNest own idx y "FootIsle" ∈ gNest) (has : as (gw X) = As) (hn : As.length = n) (hdy : dy < d) (hst : st0 = As.reverse ++ st) (hroom : (st.map fun v => v.category).sum ≤ 8) (hd : decode cc pc = .ok (.invokestatic idx, 3)) (kk : AW X own d cc (pc + 3) L (.int r :: st) S') : AW X own d cc pc L st0 S := a_invSN hc hY hV hl has hn hdy hst hroom hd kk
theorem a_invVl {r : Int64} {k ci : Nat} {fs : List (Option Nat)} {T : u_T} {N : Nat} (hc : gCT y cy mL ret dy as S (some (.long r)) S') (hY : gY y cy mL ret n) (hV : Cond.instanceMethod y ∈ gALL ∧ Cond.selects y.cls y y ∈ gALL) (hl : Cond.methodLink own idx y ∈ gALL) (hs : gSH[k]? = some (.inl (ci, fs))) (hcl : vwCl[ci]? = some (y.cls, T, N)) (has : as (gw X) = .ref (gad X k) :: As) (hn : As.length = n) (hdy : dy < d) (hst : st0 = As.reverse ++ .ref (gad X k) :: st) (hroom : (st.map fun v => v.category).sum ≤ 8) (hd : decode cc pc = .ok (.invokevirtual idx, 3)) (kk : AW X own d cc (pc + 3) L (.long r :: st) S') : AW X own d cc pc L st0 S := a_invV hc hY hV hl hs hcl has hn hdy hst hroom hd kk
theorem a_invSl {r : Int64} (hc : gCT y cy mL ret dy as S (some (.long r)) S') (hY : gY y cy mL ret n) (hV : Cond.static y ∈ gALL) (hl : Cond.methodLink own idx y ∈ gALL) (has : as (gw X) = As) (hn : As.length = n) (hdy : dy < d) (hst : st0 = As.reverse ++ st) (hroom : (st.map fun v => v.category).sum ≤ 8) (hd : decode cc pc = .ok (.invokestatic idx, 3)) (kk : AW X own d cc (pc + 3) L (.long r :: st) S') : AW X own d cc pc L st0 S := a_invS hc hY hV hl has hn hdy hst hroom hd kk
theorem a_invSNl {r : Int64} (hc : gCT y cy mL ret dy as S (some (.long r)) S') (hY : gY y cy mL ret n) (hV : Cond.static y ∈ gALL) (hl : Cond.methodLinkNest own idx y "FootIsle" ∈ gNest) (has : as (gw X) = As) (hn : As.length = n) (hdy : dy < d) (hst : st0 = As.reverse ++ st) (hroom : (st.map fun v => v.category).sum ≤ 8) (hd : decode cc pc = .ok (.invokestatic idx, 3)) (kk : AW X own d cc (pc + 3) L (.long r :: st) S') : AW X own d cc pc L st0 S := a_invSN hc hY hV hl has hn hdy hst hroom hd kk
theorem a_invVv {k ci : Nat} {fs : List (Option Nat)} {T : u_T} {N : Nat} (hc : gCT y cy mL ret dy as S none S') (hY : gY y cy mL ret n) (hV : Cond.instanceMethod y ∈ gALL ∧ Cond.selects y.cls y y ∈ gALL) (hl : Cond.methodLink own idx y ∈ gALL) (hs : gSH[k]? = some (.inl (ci, fs))) (hcl : vwCl[ci]? = some (y.cls, T, N)) (has : as (gw X) = .ref (gad X k) :: As) (hn : As.length = n) (hdy : dy < d) (hst : st0 = As.reverse ++ .ref (gad X k) :: st) (hroom : (st.map fun v => v.category).sum ≤ 8) (hd : decode cc pc = .ok (.invokevirtual idx, 3)) (kk : AW X own d cc (pc + 3) L (st) S') : AW X own d cc pc L st0 S := a_invV hc hY hV hl hs hcl has hn hdy hst hroom hd kk
theorem a_invSv (hc : gCT y cy mL ret dy as S none S') (hY : gY y cy mL ret n) (hV : Cond.static y ∈ gALL) (hl : Cond.methodLink own idx y ∈ gALL) (has : as (gw X) = As) (hn : As.length = n) (hdy : dy < d) (hst : st0 = As.reverse ++ st) (hroom : (st.map fun v => v.category).sum ≤ 8) (hd : decode cc pc = .ok (.invokestatic idx, 3)) (kk : AW X own d cc (pc + 3) L (st) S') : AW X own d cc pc L st0 S := a_invS hc hY hV hl has hn hdy hst hroom hd kk
theorem a_invSNv (hc : gCT y cy mL ret dy as S none S') (hY : gY y cy mL ret n) (hV : Cond.static y ∈ gALL) (hl : Cond.methodLinkNest own idx y "FootIsle" ∈ gNest) (has : as (gw X) = As) (hn : As.length = n) (hdy : dy < d) (hst : st0 = As.reverse ++ st) (hroom : (st.map fun v => v.category).sum ≤ 8) (hd : decode cc pc = .ok (.invokestatic idx, 3)) (kk : AW X own d cc (pc + 3) L (st) S') : AW X own d cc pc L st0 S := a_invSN hc hY hV hl has hn hdy hst hroom hd kk
end Rows3
