def gALL : List Cond := lw_tbl.filter goodWord
theorem gmem {i : Nat} {w : Cond} (h : lw_tbl[i]? = some w) (g : goodWord w = true) : w ∈ gALL := List.mem_filter.mpr ⟨List.mem_of_getElem? h, g⟩
theorem gALL_tbl : ∀ w ∈ gALL, w ∈ lw_tbl := fun _ h => (List.mem_filter.mp h).1
theorem gALL_good : ∀ w ∈ gALL, w ∈ gALL ∧ ((w.onTables && w.keeps) = true ∨ ∃ ty, w = .arrayClass ty) := fun _ h => ⟨h, good_of_word (List.mem_filter.mp h).2⟩
/-- the constant pool's place idx of class own names field f of the class of number ci -/
def gFL (own : String) (idx ci f : Nat) (ty : FieldType) (fin : Bool) : Prop := ∃ (C : String) (T : u_T) (N : Nat) (ty0 : Nat → FieldType), vwCl[ci]? = some (C, T, N) ∧ f < N ∧ (∀ q ∈ u_ws C T N, q ∈ gALL) ∧ Cond.fieldLink own idx C (T f).2.1 (T f).2.2.1 ∈ gALL ∧ (T f).1 = C ∧ (T f).2.2.2 = fin ∧ (∀ k, k < N → parseFieldDescriptor (T k).2.2.1 = some (ty0 k)) ∧ ty0 f = ty ∧ (∀ a, a < N → ∀ b, b < N → a ≠ b → (T a).2.1 ≠ (T b).2.1)
def gY (y : MethodName) (cc : ByteArray) (mL : Nat) (ret : Option FieldType) (n : Nat) : Prop :=
  Cond.code y cc mL ret ∈ gALL ∧ Cond.initialized y.cls ∈ gALL ∧ (y.cls ≠ "java/lang/invoke/MethodHandle" ∧ y.cls ≠ "java/lang/invoke/VarHandle" ∧ (parseMethodDescriptor y.desc).map (fun d => d.parameters.length) = some n) ∧ mL ≤ 21
theorem ginX0 : ∀ q ∈ u_ws RX0 TX0 10, q ∈ gALL := by
  intro q hq
  obtain ⟨k, hk, rfl⟩ := List.mem_map.mp hq
  have hk := List.mem_range.mp hk
  match k, hk with
  | 0, _ => exact gmem (i := 129) (by decide +kernel) (by decide +kernel)
  | 1, _ => exact gmem (i := 131) (by decide +kernel) (by decide +kernel)
  | 2, _ => exact gmem (i := 133) (by decide +kernel) (by decide +kernel)
  | 3, _ => exact gmem (i := 135) (by decide +kernel) (by decide +kernel)
  | 4, _ => exact gmem (i := 137) (by decide +kernel) (by decide +kernel)
  | 5, _ => exact gmem (i := 139) (by decide +kernel) (by decide +kernel)
  | 6, _ => exact gmem (i := 141) (by decide +kernel) (by decide +kernel)
  | 7, _ => exact gmem (i := 143) (by decide +kernel) (by decide +kernel)
  | 8, _ => exact gmem (i := 145) (by decide +kernel) (by decide +kernel)
  | 9, _ => exact gmem (i := 147) (by decide +kernel) (by decide +kernel)
  | k + 10, h => exact absurd h (by omega)
theorem ginX1 : ∀ q ∈ u_ws RX1 TX1 7, q ∈ gALL := by
  intro q hq
  obtain ⟨k, hk, rfl⟩ := List.mem_map.mp hq
  have hk := List.mem_range.mp hk
  match k, hk with
  | 0, _ => exact gmem (i := 80) (by decide +kernel) (by decide +kernel)
  | 1, _ => exact gmem (i := 82) (by decide +kernel) (by decide +kernel)
  | 2, _ => exact gmem (i := 84) (by decide +kernel) (by decide +kernel)
  | 3, _ => exact gmem (i := 86) (by decide +kernel) (by decide +kernel)
  | 4, _ => exact gmem (i := 88) (by decide +kernel) (by decide +kernel)
  | 5, _ => exact gmem (i := 90) (by decide +kernel) (by decide +kernel)
  | 6, _ => exact gmem (i := 92) (by decide +kernel) (by decide +kernel)
  | k + 7, h => exact absurd h (by omega)
theorem ginX2 : ∀ q ∈ u_ws RX2 TX2 3, q ∈ gALL := by
  intro q hq
  obtain ⟨k, hk, rfl⟩ := List.mem_map.mp hq
  have hk := List.mem_range.mp hk
  match k, hk with
  | 0, _ => exact gmem (i := 248) (by decide +kernel) (by decide +kernel)
  | 1, _ => exact gmem (i := 250) (by decide +kernel) (by decide +kernel)
  | 2, _ => exact gmem (i := 252) (by decide +kernel) (by decide +kernel)
  | k + 3, h => exact absurd h (by omega)
theorem ginX3 : ∀ q ∈ u_ws RX3 TX3 4, q ∈ gALL := by
  intro q hq
  obtain ⟨k, hk, rfl⟩ := List.mem_map.mp hq
  have hk := List.mem_range.mp hk
  match k, hk with
  | 0, _ => exact gmem (i := 207) (by decide +kernel) (by decide +kernel)
  | 1, _ => exact gmem (i := 209) (by decide +kernel) (by decide +kernel)
  | 2, _ => exact gmem (i := 211) (by decide +kernel) (by decide +kernel)
  | 3, _ => exact gmem (i := 213) (by decide +kernel) (by decide +kernel)
  | k + 4, h => exact absurd h (by omega)
theorem ginX4 : ∀ q ∈ u_ws RX4 TX4 9, q ∈ gALL := by
  intro q hq
  obtain ⟨k, hk, rfl⟩ := List.mem_map.mp hq
  have hk := List.mem_range.mp hk
  match k, hk with
  | 0, _ => exact gmem (i := 172) (by decide +kernel) (by decide +kernel)
  | 1, _ => exact gmem (i := 174) (by decide +kernel) (by decide +kernel)
  | 2, _ => exact gmem (i := 176) (by decide +kernel) (by decide +kernel)
  | 3, _ => exact gmem (i := 178) (by decide +kernel) (by decide +kernel)
  | 4, _ => exact gmem (i := 180) (by decide +kernel) (by decide +kernel)
  | 5, _ => exact gmem (i := 182) (by decide +kernel) (by decide +kernel)
  | 6, _ => exact gmem (i := 184) (by decide +kernel) (by decide +kernel)
  | 7, _ => exact gmem (i := 186) (by decide +kernel) (by decide +kernel)
  | 8, _ => exact gmem (i := 188) (by decide +kernel) (by decide +kernel)
  | k + 9, h => exact absurd h (by omega)
theorem ginX5 : ∀ q ∈ u_ws RX5 TX5 5, q ∈ gALL := by
  intro q hq
  obtain ⟨k, hk, rfl⟩ := List.mem_map.mp hq
  have hk := List.mem_range.mp hk
  match k, hk with
  | 0, _ => exact gmem (i := 227) (by decide +kernel) (by decide +kernel)
  | 1, _ => exact gmem (i := 229) (by decide +kernel) (by decide +kernel)
  | 2, _ => exact gmem (i := 231) (by decide +kernel) (by decide +kernel)
  | 3, _ => exact gmem (i := 233) (by decide +kernel) (by decide +kernel)
  | 4, _ => exact gmem (i := 235) (by decide +kernel) (by decide +kernel)
  | k + 5, h => exact absurd h (by omega)
theorem ginX6 : ∀ q ∈ u_ws RX6 TX6 7, q ∈ gALL := by
  intro q hq
  obtain ⟨k, hk, rfl⟩ := List.mem_map.mp hq
  have hk := List.mem_range.mp hk
  match k, hk with
  | 0, _ => exact gmem (i := 263) (by decide +kernel) (by decide +kernel)
  | 1, _ => exact gmem (i := 265) (by decide +kernel) (by decide +kernel)
  | 2, _ => exact gmem (i := 267) (by decide +kernel) (by decide +kernel)
  | 3, _ => exact gmem (i := 269) (by decide +kernel) (by decide +kernel)
  | 4, _ => exact gmem (i := 271) (by decide +kernel) (by decide +kernel)
  | 5, _ => exact gmem (i := 273) (by decide +kernel) (by decide +kernel)
  | 6, _ => exact gmem (i := 275) (by decide +kernel) (by decide +kernel)
  | k + 7, h => exact absurd h (by omega)
theorem ginX7 : ∀ q ∈ u_ws RX7 TX7 19, q ∈ gALL := by
  intro q hq
  obtain ⟨k, hk, rfl⟩ := List.mem_map.mp hq
  have hk := List.mem_range.mp hk
  match k, hk with
  | 0, _ => exact gmem (i := 778) (by decide +kernel) (by decide +kernel)
  | 1, _ => exact gmem (i := 780) (by decide +kernel) (by decide +kernel)
  | 2, _ => exact gmem (i := 782) (by decide +kernel) (by decide +kernel)
  | 3, _ => exact gmem (i := 784) (by decide +kernel) (by decide +kernel)
  | 4, _ => exact gmem (i := 786) (by decide +kernel) (by decide +kernel)
  | 5, _ => exact gmem (i := 788) (by decide +kernel) (by decide +kernel)
  | 6, _ => exact gmem (i := 790) (by decide +kernel) (by decide +kernel)
  | 7, _ => exact gmem (i := 792) (by decide +kernel) (by decide +kernel)
  | 8, _ => exact gmem (i := 794) (by decide +kernel) (by decide +kernel)
  | 9, _ => exact gmem (i := 796) (by decide +kernel) (by decide +kernel)
  | 10, _ => exact gmem (i := 798) (by decide +kernel) (by decide +kernel)
  | 11, _ => exact gmem (i := 800) (by decide +kernel) (by decide +kernel)
  | 12, _ => exact gmem (i := 802) (by decide +kernel) (by decide +kernel)
  | 13, _ => exact gmem (i := 804) (by decide +kernel) (by decide +kernel)
  | 14, _ => exact gmem (i := 806) (by decide +kernel) (by decide +kernel)
  | 15, _ => exact gmem (i := 808) (by decide +kernel) (by decide +kernel)
  | 16, _ => exact gmem (i := 810) (by decide +kernel) (by decide +kernel)
  | 17, _ => exact gmem (i := 812) (by decide +kernel) (by decide +kernel)
  | 18, _ => exact gmem (i := 814) (by decide +kernel) (by decide +kernel)
  | k + 19, h => exact absurd h (by omega)
theorem flX1_9 : gFL RX1 9 1 0 (tyX1 0) true := ⟨RX1, TX1, 7, tyX1, rfl, by decide, ginX1, gmem (i := 72) (by decide +kernel) rfl, rfl, rfl, tyX1_ok, rfl, nmX1⟩
theorem flX1_15 : gFL RX1 15 1 1 (tyX1 1) true := ⟨RX1, TX1, 7, tyX1, rfl, by decide, ginX1, gmem (i := 73) (by decide +kernel) rfl, rfl, rfl, tyX1_ok, rfl, nmX1⟩
theorem flX1_18 : gFL RX1 18 1 2 (tyX1 2) true := ⟨RX1, TX1, 7, tyX1, rfl, by decide, ginX1, gmem (i := 74) (by decide +kernel) rfl, rfl, rfl, tyX1_ok, rfl, nmX1⟩
theorem flX1_21 : gFL RX1 21 1 3 (tyX1 3) true := ⟨RX1, TX1, 7, tyX1, rfl, by decide, ginX1, gmem (i := 75) (by decide +kernel) rfl, rfl, rfl, tyX1_ok, rfl, nmX1⟩
theorem flX1_24 : gFL RX1 24 1 4 (tyX1 4) true := ⟨RX1, TX1, 7, tyX1, rfl, by decide, ginX1, gmem (i := 76) (by decide +kernel) rfl, rfl, rfl, tyX1_ok, rfl, nmX1⟩
theorem flX1_27 : gFL RX1 27 1 5 (tyX1 5) false := ⟨RX1, TX1, 7, tyX1, rfl, by decide, ginX1, gmem (i := 77) (by decide +kernel) rfl, rfl, rfl, tyX1_ok, rfl, nmX1⟩
theorem flX1_31 : gFL RX1 31 1 6 (tyX1 6) false := ⟨RX1, TX1, 7, tyX1, rfl, by decide, ginX1, gmem (i := 78) (by decide +kernel) rfl, rfl, rfl, tyX1_ok, rfl, nmX1⟩
theorem flX6_138 : gFL RX6 138 1 6 (tyX1 6) false := ⟨RX1, TX1, 7, tyX1, rfl, by decide, ginX1, gmem (i := 79) (by decide +kernel) rfl, rfl, rfl, tyX1_ok, rfl, nmX1⟩
theorem flX0_9 : gFL RX0 9 0 0 (tyX0 0) true := ⟨RX0, TX0, 10, tyX0, rfl, by decide, ginX0, gmem (i := 96) (by decide +kernel) rfl, rfl, rfl, tyX0_ok, rfl, nmX0⟩
theorem flX3_45 : gFL RX3 45 0 0 (tyX0 0) true := ⟨RX0, TX0, 10, tyX0, rfl, by decide, ginX0, gmem (i := 97) (by decide +kernel) rfl, rfl, rfl, tyX0_ok, rfl, nmX0⟩
theorem flX6_108 : gFL RX6 108 0 0 (tyX0 0) true := ⟨RX0, TX0, 10, tyX0, rfl, by decide, ginX0, gmem (i := 98) (by decide +kernel) rfl, rfl, rfl, tyX0_ok, rfl, nmX0⟩
theorem flX5_83 : gFL RX5 83 0 0 (tyX0 0) true := ⟨RX0, TX0, 10, tyX0, rfl, by decide, ginX0, gmem (i := 99) (by decide +kernel) rfl, rfl, rfl, tyX0_ok, rfl, nmX0⟩
theorem flX0_15 : gFL RX0 15 0 1 (tyX0 1) true := ⟨RX0, TX0, 10, tyX0, rfl, by decide, ginX0, gmem (i := 100) (by decide +kernel) rfl, rfl, rfl, tyX0_ok, rfl, nmX0⟩
theorem flX6_75 : gFL RX6 75 0 1 (tyX0 1) true := ⟨RX0, TX0, 10, tyX0, rfl, by decide, ginX0, gmem (i := 101) (by decide +kernel) rfl, rfl, rfl, tyX0_ok, rfl, nmX0⟩
theorem flX5_59 : gFL RX5 59 0 1 (tyX0 1) true := ⟨RX0, TX0, 10, tyX0, rfl, by decide, ginX0, gmem (i := 102) (by decide +kernel) rfl, rfl, rfl, tyX0_ok, rfl, nmX0⟩
theorem flX0_18 : gFL RX0 18 0 2 (tyX0 2) true := ⟨RX0, TX0, 10, tyX0, rfl, by decide, ginX0, gmem (i := 103) (by decide +kernel) rfl, rfl, rfl, tyX0_ok, rfl, nmX0⟩
theorem flX6_79 : gFL RX6 79 0 2 (tyX0 2) true := ⟨RX0, TX0, 10, tyX0, rfl, by decide, ginX0, gmem (i := 104) (by decide +kernel) rfl, rfl, rfl, tyX0_ok, rfl, nmX0⟩
theorem flX0_21 : gFL RX0 21 0 3 (tyX0 3) true := ⟨RX0, TX0, 10, tyX0, rfl, by decide, ginX0, gmem (i := 105) (by decide +kernel) rfl, rfl, rfl, tyX0_ok, rfl, nmX0⟩
theorem flX1_43 : gFL RX1 43 0 3 (tyX0 3) true := ⟨RX0, TX0, 10, tyX0, rfl, by decide, ginX0, gmem (i := 106) (by decide +kernel) rfl, rfl, rfl, tyX0_ok, rfl, nmX0⟩
theorem flX5_48 : gFL RX5 48 0 3 (tyX0 3) true := ⟨RX0, TX0, 10, tyX0, rfl, by decide, ginX0, gmem (i := 107) (by decide +kernel) rfl, rfl, rfl, tyX0_ok, rfl, nmX0⟩
theorem flX6_82 : gFL RX6 82 0 3 (tyX0 3) true := ⟨RX0, TX0, 10, tyX0, rfl, by decide, ginX0, gmem (i := 108) (by decide +kernel) rfl, rfl, rfl, tyX0_ok, rfl, nmX0⟩
theorem flX0_24 : gFL RX0 24 0 4 (tyX0 4) true := ⟨RX0, TX0, 10, tyX0, rfl, by decide, ginX0, gmem (i := 109) (by decide +kernel) rfl, rfl, rfl, tyX0_ok, rfl, nmX0⟩
theorem flX1_44 : gFL RX1 44 0 4 (tyX0 4) true := ⟨RX0, TX0, 10, tyX0, rfl, by decide, ginX0, gmem (i := 110) (by decide +kernel) rfl, rfl, rfl, tyX0_ok, rfl, nmX0⟩
theorem flX5_62 : gFL RX5 62 0 4 (tyX0 4) true := ⟨RX0, TX0, 10, tyX0, rfl, by decide, ginX0, gmem (i := 111) (by decide +kernel) rfl, rfl, rfl, tyX0_ok, rfl, nmX0⟩
theorem flX6_85 : gFL RX6 85 0 4 (tyX0 4) true := ⟨RX0, TX0, 10, tyX0, rfl, by decide, ginX0, gmem (i := 112) (by decide +kernel) rfl, rfl, rfl, tyX0_ok, rfl, nmX0⟩
theorem flX0_27 : gFL RX0 27 0 5 (tyX0 5) true := ⟨RX0, TX0, 10, tyX0, rfl, by decide, ginX0, gmem (i := 113) (by decide +kernel) rfl, rfl, rfl, tyX0_ok, rfl, nmX0⟩
theorem flX1_34 : gFL RX1 34 0 5 (tyX0 5) true := ⟨RX0, TX0, 10, tyX0, rfl, by decide, ginX0, gmem (i := 114) (by decide +kernel) rfl, rfl, rfl, tyX0_ok, rfl, nmX0⟩
theorem flX5_47 : gFL RX5 47 0 5 (tyX0 5) true := ⟨RX0, TX0, 10, tyX0, rfl, by decide, ginX0, gmem (i := 115) (by decide +kernel) rfl, rfl, rfl, tyX0_ok, rfl, nmX0⟩
theorem flX3_38 : gFL RX3 38 0 5 (tyX0 5) true := ⟨RX0, TX0, 10, tyX0, rfl, by decide, ginX0, gmem (i := 116) (by decide +kernel) rfl, rfl, rfl, tyX0_ok, rfl, nmX0⟩
theorem flX6_111 : gFL RX6 111 0 5 (tyX0 5) true := ⟨RX0, TX0, 10, tyX0, rfl, by decide, ginX0, gmem (i := 117) (by decide +kernel) rfl, rfl, rfl, tyX0_ok, rfl, nmX0⟩
theorem flX0_33 : gFL RX0 33 0 6 (tyX0 6) true := ⟨RX0, TX0, 10, tyX0, rfl, by decide, ginX0, gmem (i := 118) (by decide +kernel) rfl, rfl, rfl, tyX0_ok, rfl, nmX0⟩
theorem flX6_59 : gFL RX6 59 0 6 (tyX0 6) true := ⟨RX0, TX0, 10, tyX0, rfl, by decide, ginX0, gmem (i := 119) (by decide +kernel) rfl, rfl, rfl, tyX0_ok, rfl, nmX0⟩
theorem flX0_37 : gFL RX0 37 0 7 (tyX0 7) false := ⟨RX0, TX0, 10, tyX0, rfl, by decide, ginX0, gmem (i := 120) (by decide +kernel) rfl, rfl, rfl, tyX0_ok, rfl, nmX0⟩
theorem flX6_55 : gFL RX6 55 0 7 (tyX0 7) false := ⟨RX0, TX0, 10, tyX0, rfl, by decide, ginX0, gmem (i := 121) (by decide +kernel) rfl, rfl, rfl, tyX0_ok, rfl, nmX0⟩
theorem flX3_29 : gFL RX3 29 0 7 (tyX0 7) false := ⟨RX0, TX0, 10, tyX0, rfl, by decide, ginX0, gmem (i := 122) (by decide +kernel) rfl, rfl, rfl, tyX0_ok, rfl, nmX0⟩
theorem flX0_41 : gFL RX0 41 0 8 (tyX0 8) false := ⟨RX0, TX0, 10, tyX0, rfl, by decide, ginX0, gmem (i := 123) (by decide +kernel) rfl, rfl, rfl, tyX0_ok, rfl, nmX0⟩
theorem flX1_45 : gFL RX1 45 0 8 (tyX0 8) false := ⟨RX0, TX0, 10, tyX0, rfl, by decide, ginX0, gmem (i := 124) (by decide +kernel) rfl, rfl, rfl, tyX0_ok, rfl, nmX0⟩
theorem flX6_135 : gFL RX6 135 0 8 (tyX0 8) false := ⟨RX0, TX0, 10, tyX0, rfl, by decide, ginX0, gmem (i := 125) (by decide +kernel) rfl, rfl, rfl, tyX0_ok, rfl, nmX0⟩
theorem flX0_44 : gFL RX0 44 0 9 (tyX0 9) false := ⟨RX0, TX0, 10, tyX0, rfl, by decide, ginX0, gmem (i := 126) (by decide +kernel) rfl, rfl, rfl, tyX0_ok, rfl, nmX0⟩
theorem flX1_48 : gFL RX1 48 0 9 (tyX0 9) false := ⟨RX0, TX0, 10, tyX0, rfl, by decide, ginX0, gmem (i := 127) (by decide +kernel) rfl, rfl, rfl, tyX0_ok, rfl, nmX0⟩
theorem flX6_173 : gFL RX6 173 0 9 (tyX0 9) false := ⟨RX0, TX0, 10, tyX0, rfl, by decide, ginX0, gmem (i := 128) (by decide +kernel) rfl, rfl, rfl, tyX0_ok, rfl, nmX0⟩
theorem flX4_9 : gFL RX4 9 4 0 (tyX4 0) true := ⟨RX4, TX4, 9, tyX4, rfl, by decide, ginX4, gmem (i := 156) (by decide +kernel) rfl, rfl, rfl, tyX4_ok, rfl, nmX4⟩
theorem flX4_15 : gFL RX4 15 4 1 (tyX4 1) true := ⟨RX4, TX4, 9, tyX4, rfl, by decide, ginX4, gmem (i := 157) (by decide +kernel) rfl, rfl, rfl, tyX4_ok, rfl, nmX4⟩
theorem flX0_75 : gFL RX0 75 4 1 (tyX4 1) true := ⟨RX4, TX4, 9, tyX4, rfl, by decide, ginX4, gmem (i := 158) (by decide +kernel) rfl, rfl, rfl, tyX4_ok, rfl, nmX4⟩
theorem flX4_18 : gFL RX4 18 4 2 (tyX4 2) true := ⟨RX4, TX4, 9, tyX4, rfl, by decide, ginX4, gmem (i := 159) (by decide +kernel) rfl, rfl, rfl, tyX4_ok, rfl, nmX4⟩
theorem flX0_76 : gFL RX0 76 4 2 (tyX4 2) true := ⟨RX4, TX4, 9, tyX4, rfl, by decide, ginX4, gmem (i := 160) (by decide +kernel) rfl, rfl, rfl, tyX4_ok, rfl, nmX4⟩
theorem flX4_21 : gFL RX4 21 4 3 (tyX4 3) true := ⟨RX4, TX4, 9, tyX4, rfl, by decide, ginX4, gmem (i := 161) (by decide +kernel) rfl, rfl, rfl, tyX4_ok, rfl, nmX4⟩
theorem flX0_77 : gFL RX0 77 4 3 (tyX4 3) true := ⟨RX4, TX4, 9, tyX4, rfl, by decide, ginX4, gmem (i := 162) (by decide +kernel) rfl, rfl, rfl, tyX4_ok, rfl, nmX4⟩
theorem flX4_24 : gFL RX4 24 4 4 (tyX4 4) false := ⟨RX4, TX4, 9, tyX4, rfl, by decide, ginX4, gmem (i := 163) (by decide +kernel) rfl, rfl, rfl, tyX4_ok, rfl, nmX4⟩
theorem flX6_124 : gFL RX6 124 4 4 (tyX4 4) false := ⟨RX4, TX4, 9, tyX4, rfl, by decide, ginX4, gmem (i := 164) (by decide +kernel) rfl, rfl, rfl, tyX4_ok, rfl, nmX4⟩
theorem flX4_28 : gFL RX4 28 4 5 (tyX4 5) false := ⟨RX4, TX4, 9, tyX4, rfl, by decide, ginX4, gmem (i := 165) (by decide +kernel) rfl, rfl, rfl, tyX4_ok, rfl, nmX4⟩
theorem flX4_31 : gFL RX4 31 4 6 (tyX4 6) false := ⟨RX4, TX4, 9, tyX4, rfl, by decide, ginX4, gmem (i := 166) (by decide +kernel) rfl, rfl, rfl, tyX4_ok, rfl, nmX4⟩
theorem flX0_66 : gFL RX0 66 4 6 (tyX4 6) false := ⟨RX4, TX4, 9, tyX4, rfl, by decide, ginX4, gmem (i := 167) (by decide +kernel) rfl, rfl, rfl, tyX4_ok, rfl, nmX4⟩
theorem flX4_34 : gFL RX4 34 4 7 (tyX4 7) false := ⟨RX4, TX4, 9, tyX4, rfl, by decide, ginX4, gmem (i := 168) (by decide +kernel) rfl, rfl, rfl, tyX4_ok, rfl, nmX4⟩
theorem flX0_71 : gFL RX0 71 4 7 (tyX4 7) false := ⟨RX4, TX4, 9, tyX4, rfl, by decide, ginX4, gmem (i := 169) (by decide +kernel) rfl, rfl, rfl, tyX4_ok, rfl, nmX4⟩
theorem flX4_37 : gFL RX4 37 4 8 (tyX4 8) false := ⟨RX4, TX4, 9, tyX4, rfl, by decide, ginX4, gmem (i := 170) (by decide +kernel) rfl, rfl, rfl, tyX4_ok, rfl, nmX4⟩
theorem flX0_74 : gFL RX0 74 4 8 (tyX4 8) false := ⟨RX4, TX4, 9, tyX4, rfl, by decide, ginX4, gmem (i := 171) (by decide +kernel) rfl, rfl, rfl, tyX4_ok, rfl, nmX4⟩
theorem flX3_9 : gFL RX3 9 3 0 (tyX3 0) true := ⟨RX3, TX3, 4, tyX3, rfl, by decide, ginX3, gmem (i := 199) (by decide +kernel) rfl, rfl, rfl, tyX3_ok, rfl, nmX3⟩
theorem flX5_40 : gFL RX5 40 3 0 (tyX3 0) true := ⟨RX3, TX3, 4, tyX3, rfl, by decide, ginX3, gmem (i := 200) (by decide +kernel) rfl, rfl, rfl, tyX3_ok, rfl, nmX3⟩
theorem flX6_114 : gFL RX6 114 3 0 (tyX3 0) true := ⟨RX3, TX3, 4, tyX3, rfl, by decide, ginX3, gmem (i := 201) (by decide +kernel) rfl, rfl, rfl, tyX3_ok, rfl, nmX3⟩
theorem flX3_15 : gFL RX3 15 3 1 (tyX3 1) true := ⟨RX3, TX3, 4, tyX3, rfl, by decide, ginX3, gmem (i := 202) (by decide +kernel) rfl, rfl, rfl, tyX3_ok, rfl, nmX3⟩
theorem flX6_99 : gFL RX6 99 3 1 (tyX3 1) true := ⟨RX3, TX3, 4, tyX3, rfl, by decide, ginX3, gmem (i := 203) (by decide +kernel) rfl, rfl, rfl, tyX3_ok, rfl, nmX3⟩
theorem flX3_18 : gFL RX3 18 3 2 (tyX3 2) false := ⟨RX3, TX3, 4, tyX3, rfl, by decide, ginX3, gmem (i := 204) (by decide +kernel) rfl, rfl, rfl, tyX3_ok, rfl, nmX3⟩
theorem flX6_141 : gFL RX6 141 3 2 (tyX3 2) false := ⟨RX3, TX3, 4, tyX3, rfl, by decide, ginX3, gmem (i := 205) (by decide +kernel) rfl, rfl, rfl, tyX3_ok, rfl, nmX3⟩
theorem flX3_22 : gFL RX3 22 3 3 (tyX3 3) false := ⟨RX3, TX3, 4, tyX3, rfl, by decide, ginX3, gmem (i := 206) (by decide +kernel) rfl, rfl, rfl, tyX3_ok, rfl, nmX3⟩
theorem flX5_9 : gFL RX5 9 5 0 (tyX5 0) true := ⟨RX5, TX5, 5, tyX5, rfl, by decide, ginX5, gmem (i := 222) (by decide +kernel) rfl, rfl, rfl, tyX5_ok, rfl, nmX5⟩
theorem flX5_15 : gFL RX5 15 5 1 (tyX5 1) true := ⟨RX5, TX5, 5, tyX5, rfl, by decide, ginX5, gmem (i := 223) (by decide +kernel) rfl, rfl, rfl, tyX5_ok, rfl, nmX5⟩
theorem flX5_18 : gFL RX5 18 5 2 (tyX5 2) false := ⟨RX5, TX5, 5, tyX5, rfl, by decide, ginX5, gmem (i := 224) (by decide +kernel) rfl, rfl, rfl, tyX5_ok, rfl, nmX5⟩
theorem flX5_22 : gFL RX5 22 5 3 (tyX5 3) false := ⟨RX5, TX5, 5, tyX5, rfl, by decide, ginX5, gmem (i := 225) (by decide +kernel) rfl, rfl, rfl, tyX5_ok, rfl, nmX5⟩
theorem flX5_25 : gFL RX5 25 5 4 (tyX5 4) false := ⟨RX5, TX5, 5, tyX5, rfl, by decide, ginX5, gmem (i := 226) (by decide +kernel) rfl, rfl, rfl, tyX5_ok, rfl, nmX5⟩
theorem flX2_9 : gFL RX2 9 2 0 (tyX2 0) true := ⟨RX2, TX2, 3, tyX2, rfl, by decide, ginX2, gmem (i := 243) (by decide +kernel) rfl, rfl, rfl, tyX2_ok, rfl, nmX2⟩
theorem flX6_237 : gFL RX6 237 2 0 (tyX2 0) true := ⟨RX2, TX2, 3, tyX2, rfl, by decide, ginX2, gmem (i := 244) (by decide +kernel) rfl, rfl, rfl, tyX2_ok, rfl, nmX2⟩
theorem flX2_15 : gFL RX2 15 2 1 (tyX2 1) false := ⟨RX2, TX2, 3, tyX2, rfl, by decide, ginX2, gmem (i := 245) (by decide +kernel) rfl, rfl, rfl, tyX2_ok, rfl, nmX2⟩
theorem flX6_261 : gFL RX6 261 2 1 (tyX2 1) false := ⟨RX2, TX2, 3, tyX2, rfl, by decide, ginX2, gmem (i := 246) (by decide +kernel) rfl, rfl, rfl, tyX2_ok, rfl, nmX2⟩
theorem flX2_19 : gFL RX2 19 2 2 (tyX2 2) false := ⟨RX2, TX2, 3, tyX2, rfl, by decide, ginX2, gmem (i := 247) (by decide +kernel) rfl, rfl, rfl, tyX2_ok, rfl, nmX2⟩
theorem flX6_12 : gFL RX6 12 6 0 (tyX6 0) true := ⟨RX6, TX6, 7, tyX6, rfl, by decide, ginX6, gmem (i := 256) (by decide +kernel) rfl, rfl, rfl, tyX6_ok, rfl, nmX6⟩
theorem flX6_16 : gFL RX6 16 6 1 (tyX6 1) true := ⟨RX6, TX6, 7, tyX6, rfl, by decide, ginX6, gmem (i := 257) (by decide +kernel) rfl, rfl, rfl, tyX6_ok, rfl, nmX6⟩
theorem flX6_19 : gFL RX6 19 6 2 (tyX6 2) false := ⟨RX6, TX6, 7, tyX6, rfl, by decide, ginX6, gmem (i := 258) (by decide +kernel) rfl, rfl, rfl, tyX6_ok, rfl, nmX6⟩
theorem flX6_26 : gFL RX6 26 6 3 (tyX6 3) true := ⟨RX6, TX6, 7, tyX6, rfl, by decide, ginX6, gmem (i := 259) (by decide +kernel) rfl, rfl, rfl, tyX6_ok, rfl, nmX6⟩
theorem flX6_32 : gFL RX6 32 6 4 (tyX6 4) true := ⟨RX6, TX6, 7, tyX6, rfl, by decide, ginX6, gmem (i := 260) (by decide +kernel) rfl, rfl, rfl, tyX6_ok, rfl, nmX6⟩
theorem flX6_39 : gFL RX6 39 6 5 (tyX6 5) true := ⟨RX6, TX6, 7, tyX6, rfl, by decide, ginX6, gmem (i := 261) (by decide +kernel) rfl, rfl, rfl, tyX6_ok, rfl, nmX6⟩
theorem flX6_46 : gFL RX6 46 6 6 (tyX6 6) true := ⟨RX6, TX6, 7, tyX6, rfl, by decide, ginX6, gmem (i := 262) (by decide +kernel) rfl, rfl, rfl, tyX6_ok, rfl, nmX6⟩
theorem flX7_7 : gFL RX7 7 7 0 (tyX7 0) true := ⟨RX7, TX7, 19, tyX7, rfl, by decide, ginX7, gmem (i := 759) (by decide +kernel) rfl, rfl, rfl, tyX7_ok, rfl, nmX7⟩
theorem flX7_13 : gFL RX7 13 7 1 (tyX7 1) true := ⟨RX7, TX7, 19, tyX7, rfl, by decide, ginX7, gmem (i := 760) (by decide +kernel) rfl, rfl, rfl, tyX7_ok, rfl, nmX7⟩
theorem flX7_16 : gFL RX7 16 7 2 (tyX7 2) true := ⟨RX7, TX7, 19, tyX7, rfl, by decide, ginX7, gmem (i := 761) (by decide +kernel) rfl, rfl, rfl, tyX7_ok, rfl, nmX7⟩
theorem flX7_119 : gFL RX7 119 7 3 (tyX7 3) false := ⟨RX7, TX7, 19, tyX7, rfl, by decide, ginX7, gmem (i := 762) (by decide +kernel) rfl, rfl, rfl, tyX7_ok, rfl, nmX7⟩
theorem flX7_122 : gFL RX7 122 7 4 (tyX7 4) false := ⟨RX7, TX7, 19, tyX7, rfl, by decide, ginX7, gmem (i := 763) (by decide +kernel) rfl, rfl, rfl, tyX7_ok, rfl, nmX7⟩
theorem flX7_125 : gFL RX7 125 7 5 (tyX7 5) false := ⟨RX7, TX7, 19, tyX7, rfl, by decide, ginX7, gmem (i := 764) (by decide +kernel) rfl, rfl, rfl, tyX7_ok, rfl, nmX7⟩
theorem flX7_19 : gFL RX7 19 7 6 (tyX7 6) true := ⟨RX7, TX7, 19, tyX7, rfl, by decide, ginX7, gmem (i := 765) (by decide +kernel) rfl, rfl, rfl, tyX7_ok, rfl, nmX7⟩
theorem flX7_22 : gFL RX7 22 7 7 (tyX7 7) true := ⟨RX7, TX7, 19, tyX7, rfl, by decide, ginX7, gmem (i := 766) (by decide +kernel) rfl, rfl, rfl, tyX7_ok, rfl, nmX7⟩
theorem flX7_69 : gFL RX7 69 7 8 (tyX7 8) false := ⟨RX7, TX7, 19, tyX7, rfl, by decide, ginX7, gmem (i := 767) (by decide +kernel) rfl, rfl, rfl, tyX7_ok, rfl, nmX7⟩
theorem flX7_25 : gFL RX7 25 7 9 (tyX7 9) true := ⟨RX7, TX7, 19, tyX7, rfl, by decide, ginX7, gmem (i := 768) (by decide +kernel) rfl, rfl, rfl, tyX7_ok, rfl, nmX7⟩
theorem flX7_28 : gFL RX7 28 7 10 (tyX7 10) true := ⟨RX7, TX7, 19, tyX7, rfl, by decide, ginX7, gmem (i := 769) (by decide +kernel) rfl, rfl, rfl, tyX7_ok, rfl, nmX7⟩
theorem flX7_32 : gFL RX7 32 7 11 (tyX7 11) true := ⟨RX7, TX7, 19, tyX7, rfl, by decide, ginX7, gmem (i := 770) (by decide +kernel) rfl, rfl, rfl, tyX7_ok, rfl, nmX7⟩
theorem flX7_35 : gFL RX7 35 7 12 (tyX7 12) true := ⟨RX7, TX7, 19, tyX7, rfl, by decide, ginX7, gmem (i := 771) (by decide +kernel) rfl, rfl, rfl, tyX7_ok, rfl, nmX7⟩
theorem flX7_195 : gFL RX7 195 7 13 (tyX7 13) false := ⟨RX7, TX7, 19, tyX7, rfl, by decide, ginX7, gmem (i := 772) (by decide +kernel) rfl, rfl, rfl, tyX7_ok, rfl, nmX7⟩
theorem flX7_198 : gFL RX7 198 7 14 (tyX7 14) false := ⟨RX7, TX7, 19, tyX7, rfl, by decide, ginX7, gmem (i := 773) (by decide +kernel) rfl, rfl, rfl, tyX7_ok, rfl, nmX7⟩
theorem flX7_38 : gFL RX7 38 7 15 (tyX7 15) true := ⟨RX7, TX7, 19, tyX7, rfl, by decide, ginX7, gmem (i := 774) (by decide +kernel) rfl, rfl, rfl, tyX7_ok, rfl, nmX7⟩
theorem flX7_41 : gFL RX7 41 7 16 (tyX7 16) true := ⟨RX7, TX7, 19, tyX7, rfl, by decide, ginX7, gmem (i := 775) (by decide +kernel) rfl, rfl, rfl, tyX7_ok, rfl, nmX7⟩
theorem flX7_44 : gFL RX7 44 7 17 (tyX7 17) true := ⟨RX7, TX7, 19, tyX7, rfl, by decide, ginX7, gmem (i := 776) (by decide +kernel) rfl, rfl, rfl, tyX7_ok, rfl, nmX7⟩
theorem flX7_48 : gFL RX7 48 7 18 (tyX7 18) true := ⟨RX7, TX7, 19, tyX7, rfl, by decide, ginX7, gmem (i := 777) (by decide +kernel) rfl, rfl, rfl, tyX7_ok, rfl, nmX7⟩
theorem gyX6_init : gY yX6_init cX6_init 2 none 0 := ⟨gmem (i := 56) (by decide +kernel) rfl, gmem (i := 35) (by decide +kernel) rfl, by decide +kernel, by decide⟩
theorem gyX0_init : gY yX0_init cX0_init 1 none 0 := ⟨gmem (i := 64) (by decide +kernel) rfl, gmem (i := 36) (by decide +kernel) rfl, by decide +kernel, by decide⟩
theorem gyX1_init : gY yX1_init cX1_init 1 none 0 := ⟨gmem (i := 70) (by decide +kernel) rfl, gmem (i := 37) (by decide +kernel) rfl, by decide +kernel, by decide⟩
theorem gyX4_init : gY yX4_init cX4_init 1 none 0 := ⟨gmem (i := 154) (by decide +kernel) rfl, gmem (i := 38) (by decide +kernel) rfl, by decide +kernel, by decide⟩
theorem gyX3_init : gY yX3_init cX3_init 1 none 0 := ⟨gmem (i := 197) (by decide +kernel) rfl, gmem (i := 39) (by decide +kernel) rfl, by decide +kernel, by decide⟩
theorem gyX5_init : gY yX5_init cX5_init 1 none 0 := ⟨gmem (i := 220) (by decide +kernel) rfl, gmem (i := 40) (by decide +kernel) rfl, by decide +kernel, by decide⟩
theorem gyX2_init : gY yX2_init cX2_init 1 none 0 := ⟨gmem (i := 241) (by decide +kernel) rfl, gmem (i := 41) (by decide +kernel) rfl, by decide +kernel, by decide⟩
theorem gyX6_walker : gY yX6_walker cX6_walker 4 (some .int) 3 := ⟨gmem (i := 281) (by decide +kernel) rfl, gmem (i := 35) (by decide +kernel) rfl, by decide +kernel, by decide⟩
theorem vyX6_walker : Cond.instanceMethod yX6_walker ∈ gALL ∧ Cond.selects yX6_walker.cls yX6_walker yX6_walker ∈ gALL := ⟨gmem (i := 279) (by decide +kernel) rfl, gmem (i := 280) (by decide +kernel) rfl⟩
theorem gyX6_isCell : gY yX6_isCell cX6_isCell 1 (some .boolean) 1 := ⟨gmem (i := 284) (by decide +kernel) rfl, gmem (i := 35) (by decide +kernel) rfl, by decide +kernel, by decide⟩
theorem syX6_isCell : Cond.static yX6_isCell ∈ gALL := gmem (i := 283) (by decide +kernel) rfl
theorem gyX1_forget : gY yX1_forget cX1_forget 1 none 0 := ⟨gmem (i := 288) (by decide +kernel) rfl, gmem (i := 37) (by decide +kernel) rfl, by decide +kernel, by decide⟩
theorem vyX1_forget : Cond.instanceMethod yX1_forget ∈ gALL ∧ Cond.selects yX1_forget.cls yX1_forget yX1_forget ∈ gALL := ⟨gmem (i := 286) (by decide +kernel) rfl, gmem (i := 287) (by decide +kernel) rfl⟩
theorem gyX0_enter : gY yX0_enter cX0_enter 5 (some .int) 3 := ⟨gmem (i := 292) (by decide +kernel) rfl, gmem (i := 36) (by decide +kernel) rfl, by decide +kernel, by decide⟩
theorem vyX0_enter : Cond.instanceMethod yX0_enter ∈ gALL ∧ Cond.selects yX0_enter.cls yX0_enter yX0_enter ∈ gALL := ⟨gmem (i := 290) (by decide +kernel) rfl, gmem (i := 291) (by decide +kernel) rfl⟩
theorem gyX6_of : gY yX6_of cX6_of 3 (some .int) 2 := ⟨gmem (i := 296) (by decide +kernel) rfl, gmem (i := 35) (by decide +kernel) rfl, by decide +kernel, by decide⟩
theorem vyX6_of : Cond.instanceMethod yX6_of ∈ gALL ∧ Cond.selects yX6_of.cls yX6_of yX6_of ∈ gALL := ⟨gmem (i := 294) (by decide +kernel) rfl, gmem (i := 295) (by decide +kernel) rfl⟩
theorem gyX0_has : gY yX0_has cX0_has 2 (some .boolean) 1 := ⟨gmem (i := 300) (by decide +kernel) rfl, gmem (i := 36) (by decide +kernel) rfl, by decide +kernel, by decide⟩
theorem vyX0_has : Cond.instanceMethod yX0_has ∈ gALL ∧ Cond.selects yX0_has.cls yX0_has yX0_has ∈ gALL := ⟨gmem (i := 298) (by decide +kernel) rfl, gmem (i := 299) (by decide +kernel) rfl⟩
theorem gyX0_treadOf : gY yX0_treadOf cX0_treadOf 2 (some .int) 1 := ⟨gmem (i := 304) (by decide +kernel) rfl, gmem (i := 36) (by decide +kernel) rfl, by decide +kernel, by decide⟩
theorem vyX0_treadOf : Cond.instanceMethod yX0_treadOf ∈ gALL ∧ Cond.selects yX0_treadOf.cls yX0_treadOf yX0_treadOf ∈ gALL := ⟨gmem (i := 302) (by decide +kernel) rfl, gmem (i := 303) (by decide +kernel) rfl⟩
theorem gyX0_shoesOf : gY yX0_shoesOf cX0_shoesOf 2 (some .int) 1 := ⟨gmem (i := 308) (by decide +kernel) rfl, gmem (i := 36) (by decide +kernel) rfl, by decide +kernel, by decide⟩
theorem vyX0_shoesOf : Cond.instanceMethod yX0_shoesOf ∈ gALL ∧ Cond.selects yX0_shoesOf.cls yX0_shoesOf yX0_shoesOf ∈ gALL := ⟨gmem (i := 306) (by decide +kernel) rfl, gmem (i := 307) (by decide +kernel) rfl⟩
theorem gyX3_look : gY yX3_look cX3_look 3 none 2 := ⟨gmem (i := 312) (by decide +kernel) rfl, gmem (i := 39) (by decide +kernel) rfl, by decide +kernel, by decide⟩
theorem vyX3_look : Cond.instanceMethod yX3_look ∈ gALL ∧ Cond.selects yX3_look.cls yX3_look yX3_look ∈ gALL := ⟨gmem (i := 310) (by decide +kernel) rfl, gmem (i := 311) (by decide +kernel) rfl⟩
theorem gyX3_lookWithout : gY yX3_lookWithout cX3_lookWithout 6 none 3 := ⟨gmem (i := 316) (by decide +kernel) rfl, gmem (i := 39) (by decide +kernel) rfl, by decide +kernel, by decide⟩
theorem vyX3_lookWithout : Cond.instanceMethod yX3_lookWithout ∈ gALL ∧ Cond.selects yX3_lookWithout.cls yX3_lookWithout yX3_lookWithout ∈ gALL := ⟨gmem (i := 314) (by decide +kernel) rfl, gmem (i := 315) (by decide +kernel) rfl⟩
theorem gyJ7_fill_53178 : gY yJ7_fill_53178 cJ7_fill_53178 4 none 2 := ⟨gmem (i := 319) (by decide +kernel) rfl, gmem (i := 43) (by decide +kernel) rfl, by decide +kernel, by decide⟩
theorem syJ7_fill_53178 : Cond.static yJ7_fill_53178 ∈ gALL := gmem (i := 318) (by decide +kernel) rfl
theorem gyX0_depthBehind : gY yX0_depthBehind cX0_depthBehind 6 (some .int) 3 := ⟨gmem (i := 323) (by decide +kernel) rfl, gmem (i := 36) (by decide +kernel) rfl, by decide +kernel, by decide⟩
theorem vyX0_depthBehind : Cond.instanceMethod yX0_depthBehind ∈ gALL ∧ Cond.selects yX0_depthBehind.cls yX0_depthBehind yX0_depthBehind ∈ gALL := ⟨gmem (i := 321) (by decide +kernel) rfl, gmem (i := 322) (by decide +kernel) rfl⟩
theorem gyX6_rowOf : gY yX6_rowOf cX6_rowOf 1 (some .int) 1 := ⟨gmem (i := 326) (by decide +kernel) rfl, gmem (i := 35) (by decide +kernel) rfl, by decide +kernel, by decide⟩
theorem syX6_rowOf : Cond.static yX6_rowOf ∈ gALL := gmem (i := 325) (by decide +kernel) rfl
theorem gyX0_isTideWithin : gY yX0_isTideWithin cX0_isTideWithin 3 (some .boolean) 1 := ⟨gmem (i := 330) (by decide +kernel) rfl, gmem (i := 36) (by decide +kernel) rfl, by decide +kernel, by decide⟩
theorem vyX0_isTideWithin : Cond.instanceMethod yX0_isTideWithin ∈ gALL ∧ Cond.selects yX0_isTideWithin.cls yX0_isTideWithin yX0_isTideWithin ∈ gALL := ⟨gmem (i := 328) (by decide +kernel) rfl, gmem (i := 329) (by decide +kernel) rfl⟩
theorem gyJ9_max_7cf53 : gY yJ9_max_7cf53 cJ9_max_7cf53 2 (some .int) 2 := ⟨gmem (i := 333) (by decide +kernel) rfl, gmem (i := 44) (by decide +kernel) rfl, by decide +kernel, by decide⟩
theorem syJ9_max_7cf53 : Cond.static yJ9_max_7cf53 ∈ gALL := gmem (i := 332) (by decide +kernel) rfl
theorem gyX3_raise : gY yX3_raise cX3_raise 10 none 4 := ⟨gmem (i := 337) (by decide +kernel) rfl, gmem (i := 39) (by decide +kernel) rfl, by decide +kernel, by decide⟩
theorem vyX3_raise : Cond.instanceMethod yX3_raise ∈ gALL ∧ Cond.selects yX3_raise.cls yX3_raise yX3_raise ∈ gALL := ⟨gmem (i := 335) (by decide +kernel) rfl, gmem (i := 336) (by decide +kernel) rfl⟩
theorem gyX6_columnOf : gY yX6_columnOf cX6_columnOf 1 (some .int) 1 := ⟨gmem (i := 340) (by decide +kernel) rfl, gmem (i := 35) (by decide +kernel) rfl, by decide +kernel, by decide⟩
theorem syX6_columnOf : Cond.static yX6_columnOf ∈ gALL := gmem (i := 339) (by decide +kernel) rfl
theorem gyJ9_min_7cf53 : gY yJ9_min_7cf53 cJ9_min_7cf53 2 (some .int) 2 := ⟨gmem (i := 343) (by decide +kernel) rfl, gmem (i := 44) (by decide +kernel) rfl, by decide +kernel, by decide⟩
theorem syJ9_min_7cf53 : Cond.static yJ9_min_7cf53 ∈ gALL := gmem (i := 342) (by decide +kernel) rfl
theorem gyX3_tally : gY yX3_tally cX3_tally 3 none 0 := ⟨gmem (i := 349) (by decide +kernel) rfl, gmem (i := 39) (by decide +kernel) rfl, by decide +kernel, by decide⟩
theorem vyX3_tally : Cond.instanceMethod yX3_tally ∈ gALL ∧ Cond.selects yX3_tally.cls yX3_tally yX3_tally ∈ gALL := ⟨gmem (i := 347) (by decide +kernel) rfl, gmem (i := 348) (by decide +kernel) rfl⟩
theorem gyX3_holderOf : gY yX3_holderOf cX3_holderOf 6 (some .int) 1 := ⟨gmem (i := 353) (by decide +kernel) rfl, gmem (i := 39) (by decide +kernel) rfl, by decide +kernel, by decide⟩
theorem vyX3_holderOf : Cond.instanceMethod yX3_holderOf ∈ gALL ∧ Cond.selects yX3_holderOf.cls yX3_holderOf yX3_holderOf ∈ gALL := ⟨gmem (i := 351) (by decide +kernel) rfl, gmem (i := 352) (by decide +kernel) rfl⟩
theorem gyX6_isle : gY yX6_isle cX6_isle 4 (some .int) 2 := ⟨gmem (i := 357) (by decide +kernel) rfl, gmem (i := 35) (by decide +kernel) rfl, by decide +kernel, by decide⟩
theorem vyX6_isle : Cond.instanceMethod yX6_isle ∈ gALL ∧ Cond.selects yX6_isle.cls yX6_isle yX6_isle ∈ gALL := ⟨gmem (i := 355) (by decide +kernel) rfl, gmem (i := 356) (by decide +kernel) rfl⟩
theorem gyX6_print : gY yX6_print cX6_print 3 (some .int) 2 := ⟨gmem (i := 365) (by decide +kernel) rfl, gmem (i := 35) (by decide +kernel) rfl, by decide +kernel, by decide⟩
theorem vyX6_print : Cond.instanceMethod yX6_print ∈ gALL ∧ Cond.selects yX6_print.cls yX6_print yX6_print ∈ gALL := ⟨gmem (i := 363) (by decide +kernel) rfl, gmem (i := 364) (by decide +kernel) rfl⟩
theorem gyX6_claim : gY yX6_claim cX6_claim 3 (some .int) 2 := ⟨gmem (i := 369) (by decide +kernel) rfl, gmem (i := 35) (by decide +kernel) rfl, by decide +kernel, by decide⟩
theorem vyX6_claim : Cond.instanceMethod yX6_claim ∈ gALL ∧ Cond.selects yX6_claim.cls yX6_claim yX6_claim ∈ gALL := ⟨gmem (i := 367) (by decide +kernel) rfl, gmem (i := 368) (by decide +kernel) rfl⟩
theorem gyX6_held : gY yX6_held cX6_held 2 (some .int) 1 := ⟨gmem (i := 373) (by decide +kernel) rfl, gmem (i := 35) (by decide +kernel) rfl, by decide +kernel, by decide⟩
theorem vyX6_held : Cond.instanceMethod yX6_held ∈ gALL ∧ Cond.selects yX6_held.cls yX6_held yX6_held ∈ gALL := ⟨gmem (i := 371) (by decide +kernel) rfl, gmem (i := 372) (by decide +kernel) rfl⟩
theorem gyX6_ahead : gY yX6_ahead cX6_ahead 3 (some .int) 2 := ⟨gmem (i := 377) (by decide +kernel) rfl, gmem (i := 35) (by decide +kernel) rfl, by decide +kernel, by decide⟩
theorem vyX6_ahead : Cond.instanceMethod yX6_ahead ∈ gALL ∧ Cond.selects yX6_ahead.cls yX6_ahead yX6_ahead ∈ gALL := ⟨gmem (i := 375) (by decide +kernel) rfl, gmem (i := 376) (by decide +kernel) rfl⟩
theorem gyX6_type : gY yX6_type cX6_type 2 (some .int) 1 := ⟨gmem (i := 382) (by decide +kernel) rfl, gmem (i := 35) (by decide +kernel) rfl, by decide +kernel, by decide⟩
theorem vyX6_type : Cond.instanceMethod yX6_type ∈ gALL ∧ Cond.selects yX6_type.cls yX6_type yX6_type ∈ gALL := ⟨gmem (i := 380) (by decide +kernel) rfl, gmem (i := 381) (by decide +kernel) rfl⟩
theorem gyX4_put : gY yX4_put cX4_put 2 (some .boolean) 1 := ⟨gmem (i := 386) (by decide +kernel) rfl, gmem (i := 38) (by decide +kernel) rfl, by decide +kernel, by decide⟩
theorem vyX4_put : Cond.instanceMethod yX4_put ∈ gALL ∧ Cond.selects yX4_put.cls yX4_put yX4_put ∈ gALL := ⟨gmem (i := 384) (by decide +kernel) rfl, gmem (i := 385) (by decide +kernel) rfl⟩
theorem gyX6_settle : gY yX6_settle cX6_settle 2 (some .int) 0 := ⟨gmem (i := 390) (by decide +kernel) rfl, gmem (i := 35) (by decide +kernel) rfl, by decide +kernel, by decide⟩
theorem vyX6_settle : Cond.instanceMethod yX6_settle ∈ gALL ∧ Cond.selects yX6_settle.cls yX6_settle yX6_settle ∈ gALL := ⟨gmem (i := 388) (by decide +kernel) rfl, gmem (i := 389) (by decide +kernel) rfl⟩
theorem gyX4_parse : gY yX4_parse cX4_parse 2 (some .int) 0 := ⟨gmem (i := 394) (by decide +kernel) rfl, gmem (i := 38) (by decide +kernel) rfl, by decide +kernel, by decide⟩
theorem vyX4_parse : Cond.instanceMethod yX4_parse ∈ gALL ∧ Cond.selects yX4_parse.cls yX4_parse yX4_parse ∈ gALL := ⟨gmem (i := 392) (by decide +kernel) rfl, gmem (i := 393) (by decide +kernel) rfl⟩
theorem gyX4_take : gY yX4_take cX4_take 3 (some .int) 2 := ⟨gmem (i := 398) (by decide +kernel) rfl, gmem (i := 38) (by decide +kernel) rfl, by decide +kernel, by decide⟩
theorem vyX4_take : Cond.instanceMethod yX4_take ∈ gALL ∧ Cond.selects yX4_take.cls yX4_take yX4_take ∈ gALL := ⟨gmem (i := 397) (by decide +kernel) rfl, gmem (i := 0) (by decide +kernel) rfl⟩
theorem gyX4_skipBlanks : gY yX4_skipBlanks cX4_skipBlanks 1 none 0 := ⟨gmem (i := 402) (by decide +kernel) rfl, gmem (i := 38) (by decide +kernel) rfl, by decide +kernel, by decide⟩
theorem vyX4_skipBlanks : Cond.instanceMethod yX4_skipBlanks ∈ gALL ∧ Cond.selects yX4_skipBlanks.cls yX4_skipBlanks yX4_skipBlanks ∈ gALL := ⟨gmem (i := 401) (by decide +kernel) rfl, gmem (i := 1) (by decide +kernel) rfl⟩
theorem gyX4_takeWalker : gY yX4_takeWalker cX4_takeWalker 6 (some .boolean) 1 := ⟨gmem (i := 406) (by decide +kernel) rfl, gmem (i := 38) (by decide +kernel) rfl, by decide +kernel, by decide⟩
theorem vyX4_takeWalker : Cond.instanceMethod yX4_takeWalker ∈ gALL ∧ Cond.selects yX4_takeWalker.cls yX4_takeWalker yX4_takeWalker ∈ gALL := ⟨gmem (i := 405) (by decide +kernel) rfl, gmem (i := 2) (by decide +kernel) rfl⟩
theorem gyX4_takeKind : gY yX4_takeKind cX4_takeKind 2 (some .int) 0 := ⟨gmem (i := 410) (by decide +kernel) rfl, gmem (i := 38) (by decide +kernel) rfl, by decide +kernel, by decide⟩
theorem vyX4_takeKind : Cond.instanceMethod yX4_takeKind ∈ gALL ∧ Cond.selects yX4_takeKind.cls yX4_takeKind yX4_takeKind ∈ gALL := ⟨gmem (i := 409) (by decide +kernel) rfl, gmem (i := 3) (by decide +kernel) rfl⟩
theorem gyJ0_indexOf_0f7a4 : gY yJ0_indexOf_0f7a4 cJ0_indexOf_0f7a4 2 (some .int) 1 := ⟨gmem (i := 415) (by decide +kernel) rfl, gmem (i := 45) (by decide +kernel) rfl, by decide +kernel, by decide⟩
theorem vyJ0_indexOf_0f7a4 : Cond.instanceMethod yJ0_indexOf_0f7a4 ∈ gALL ∧ Cond.selects yJ0_indexOf_0f7a4.cls yJ0_indexOf_0f7a4 yJ0_indexOf_0f7a4 ∈ gALL := ⟨gmem (i := 413) (by decide +kernel) rfl, gmem (i := 414) (by decide +kernel) rfl⟩
theorem gyJ0_indexOf_7cf53 : gY yJ0_indexOf_7cf53 cJ0_indexOf_7cf53 3 (some .int) 2 := ⟨gmem (i := 419) (by decide +kernel) rfl, gmem (i := 45) (by decide +kernel) rfl, by decide +kernel, by decide⟩
theorem vyJ0_indexOf_7cf53 : Cond.instanceMethod yJ0_indexOf_7cf53 ∈ gALL ∧ Cond.selects yJ0_indexOf_7cf53.cls yJ0_indexOf_7cf53 yJ0_indexOf_7cf53 ∈ gALL := ⟨gmem (i := 417) (by decide +kernel) rfl, gmem (i := 418) (by decide +kernel) rfl⟩
theorem gyJ0_isLatin1_aae02 : gY yJ0_isLatin1_aae02 cJ0_isLatin1_aae02 1 (some .boolean) 0 := ⟨gmem (i := 423) (by decide +kernel) rfl, gmem (i := 45) (by decide +kernel) rfl, by decide +kernel, by decide⟩
theorem vyJ0_isLatin1_aae02 : Cond.instanceMethod yJ0_isLatin1_aae02 ∈ gALL ∧ Cond.selects yJ0_isLatin1_aae02.cls yJ0_isLatin1_aae02 yJ0_isLatin1_aae02 ∈ gALL := ⟨gmem (i := 421) (by decide +kernel) rfl, gmem (i := 422) (by decide +kernel) rfl⟩
theorem gyJ0_length_8abf5 : gY yJ0_length_8abf5 cJ0_length_8abf5 1 (some .int) 0 := ⟨gmem (i := 429) (by decide +kernel) rfl, gmem (i := 45) (by decide +kernel) rfl, by decide +kernel, by decide⟩
theorem vyJ0_length_8abf5 : Cond.instanceMethod yJ0_length_8abf5 ∈ gALL ∧ Cond.selects yJ0_length_8abf5.cls yJ0_length_8abf5 yJ0_length_8abf5 ∈ gALL := ⟨gmem (i := 427) (by decide +kernel) rfl, gmem (i := 428) (by decide +kernel) rfl⟩
theorem gyJ0_coder_7d493 : gY yJ0_coder_7d493 cJ0_coder_7d493 1 (some .byte) 0 := ⟨gmem (i := 433) (by decide +kernel) rfl, gmem (i := 45) (by decide +kernel) rfl, by decide +kernel, by decide⟩
theorem vyJ0_coder_7d493 : Cond.instanceMethod yJ0_coder_7d493 ∈ gALL ∧ Cond.selects yJ0_coder_7d493.cls yJ0_coder_7d493 yJ0_coder_7d493 ∈ gALL := ⟨gmem (i := 431) (by decide +kernel) rfl, gmem (i := 432) (by decide +kernel) rfl⟩
theorem gyJ1_indexOf_4cfef : gY yJ1_indexOf_4cfef cJ1_indexOf_4cfef 4 (some .int) 4 := ⟨gmem (i := 436) (by decide +kernel) rfl, gmem (i := 46) (by decide +kernel) rfl, by decide +kernel, by decide⟩
theorem syJ1_indexOf_4cfef : Cond.static yJ1_indexOf_4cfef ∈ gALL := gmem (i := 435) (by decide +kernel) rfl
theorem gyJ1_canEncode_9a6ad : gY yJ1_canEncode_9a6ad cJ1_canEncode_9a6ad 1 (some .boolean) 1 := ⟨gmem (i := 439) (by decide +kernel) rfl, gmem (i := 46) (by decide +kernel) rfl, by decide +kernel, by decide⟩
theorem syJ1_canEncode_9a6ad : Cond.static yJ1_canEncode_9a6ad ∈ gALL := gmem (i := 438) (by decide +kernel) rfl
theorem gyJ1_indexOfChar_4cfef : gY yJ1_indexOfChar_4cfef cJ1_indexOfChar_4cfef 6 (some .int) 4 := ⟨gmem (i := 444) (by decide +kernel) rfl, gmem (i := 46) (by decide +kernel) rfl, by decide +kernel, by decide⟩
theorem syJ1_indexOfChar_4cfef : Cond.static yJ1_indexOfChar_4cfef ∈ gALL := gmem (i := 443) (by decide +kernel) rfl
theorem gyJ2_indexOf_4cfef : gY yJ2_indexOf_4cfef cJ2_indexOf_4cfef 4 (some .int) 4 := ⟨gmem (i := 447) (by decide +kernel) rfl, gmem (i := 47) (by decide +kernel) rfl, by decide +kernel, by decide⟩
theorem syJ2_indexOf_4cfef : Cond.static yJ2_indexOf_4cfef ∈ gALL := gmem (i := 446) (by decide +kernel) rfl
theorem gyJ2_indexOfChar_4cfef : gY yJ2_indexOfChar_4cfef cJ2_indexOfChar_4cfef 4 (some .int) 4 := ⟨gmem (i := 453) (by decide +kernel) rfl, gmem (i := 47) (by decide +kernel) rfl, by decide +kernel, by decide⟩
theorem syJ2_indexOfChar_4cfef : Cond.static yJ2_indexOfChar_4cfef ∈ gALL := gmem (i := 452) (by decide +kernel) rfl
theorem gyJ2_checkBoundsBeginEnd_d044e : gY yJ2_checkBoundsBeginEnd_d044e cJ2_checkBoundsBeginEnd_d044e 3 none 3 := ⟨gmem (i := 456) (by decide +kernel) rfl, gmem (i := 47) (by decide +kernel) rfl, by decide +kernel, by decide⟩
theorem syJ2_checkBoundsBeginEnd_d044e : Cond.static yJ2_checkBoundsBeginEnd_d044e ∈ gALL := gmem (i := 455) (by decide +kernel) rfl
theorem gyJ2_length_9d52b : gY yJ2_length_9d52b cJ2_length_9d52b 1 (some .int) 1 := ⟨gmem (i := 459) (by decide +kernel) rfl, gmem (i := 47) (by decide +kernel) rfl, by decide +kernel, by decide⟩
theorem syJ2_length_9d52b : Cond.static yJ2_length_9d52b ∈ gALL := gmem (i := 458) (by decide +kernel) rfl
theorem gyJ0_checkBoundsBeginEnd_23922 : gY yJ0_checkBoundsBeginEnd_23922 cJ0_checkBoundsBeginEnd_23922 3 none 3 := ⟨gmem (i := 462) (by decide +kernel) rfl, gmem (i := 45) (by decide +kernel) rfl, by decide +kernel, by decide⟩
theorem syJ0_checkBoundsBeginEnd_23922 : Cond.static yJ0_checkBoundsBeginEnd_23922 ∈ gALL := gmem (i := 461) (by decide +kernel) rfl
theorem gyJ3_checkFromToIndex_8c36e : gY yJ3_checkFromToIndex_8c36e cJ3_checkFromToIndex_8c36e 4 (some .int) 4 := ⟨gmem (i := 467) (by decide +kernel) rfl, gmem (i := 48) (by decide +kernel) rfl, by decide +kernel, by decide⟩
theorem syJ3_checkFromToIndex_8c36e : Cond.static yJ3_checkFromToIndex_8c36e ∈ gALL := gmem (i := 466) (by decide +kernel) rfl
theorem gyJ2_indexOfCharUnsafe_4cfef : gY yJ2_indexOfCharUnsafe_4cfef cJ2_indexOfCharUnsafe_4cfef 5 (some .int) 4 := ⟨gmem (i := 470) (by decide +kernel) rfl, gmem (i := 47) (by decide +kernel) rfl, by decide +kernel, by decide⟩
theorem syJ2_indexOfCharUnsafe_4cfef : Cond.static yJ2_indexOfCharUnsafe_4cfef ∈ gALL := gmem (i := 469) (by decide +kernel) rfl
theorem gyJ2_getChar_3b067 : gY yJ2_getChar_3b067 cJ2_getChar_3b067 2 (some .char) 2 := ⟨gmem (i := 473) (by decide +kernel) rfl, gmem (i := 47) (by decide +kernel) rfl, by decide +kernel, by decide⟩
theorem syJ2_getChar_3b067 : Cond.static yJ2_getChar_3b067 ∈ gALL := gmem (i := 472) (by decide +kernel) rfl
theorem gyJ2_indexOfSupplementary_4cfef : gY yJ2_indexOfSupplementary_4cfef cJ2_indexOfSupplementary_4cfef 7 (some .int) 4 := ⟨gmem (i := 482) (by decide +kernel) rfl, gmem (i := 47) (by decide +kernel) rfl, by decide +kernel, by decide⟩
theorem syJ2_indexOfSupplementary_4cfef : Cond.static yJ2_indexOfSupplementary_4cfef ∈ gALL := gmem (i := 481) (by decide +kernel) rfl
theorem gyJ11_isValidCodePoint_9a6ad : gY yJ11_isValidCodePoint_9a6ad cJ11_isValidCodePoint_9a6ad 2 (some .boolean) 1 := ⟨gmem (i := 485) (by decide +kernel) rfl, gmem (i := 49) (by decide +kernel) rfl, by decide +kernel, by decide⟩
theorem syJ11_isValidCodePoint_9a6ad : Cond.static yJ11_isValidCodePoint_9a6ad ∈ gALL := gmem (i := 484) (by decide +kernel) rfl
theorem gyJ11_highSurrogate_5068e : gY yJ11_highSurrogate_5068e cJ11_highSurrogate_5068e 1 (some .char) 1 := ⟨gmem (i := 488) (by decide +kernel) rfl, gmem (i := 49) (by decide +kernel) rfl, by decide +kernel, by decide⟩
theorem syJ11_highSurrogate_5068e : Cond.static yJ11_highSurrogate_5068e ∈ gALL := gmem (i := 487) (by decide +kernel) rfl
theorem gyJ11_lowSurrogate_5068e : gY yJ11_lowSurrogate_5068e cJ11_lowSurrogate_5068e 1 (some .char) 1 := ⟨gmem (i := 492) (by decide +kernel) rfl, gmem (i := 49) (by decide +kernel) rfl, by decide +kernel, by decide⟩
theorem syJ11_lowSurrogate_5068e : Cond.static yJ11_lowSurrogate_5068e ∈ gALL := gmem (i := 491) (by decide +kernel) rfl
theorem gyX0_settleAs : gY yX0_settleAs cX0_settleAs 3 none 1 := ⟨gmem (i := 497) (by decide +kernel) rfl, gmem (i := 36) (by decide +kernel) rfl, by decide +kernel, by decide⟩
theorem vyX0_settleAs : Cond.instanceMethod yX0_settleAs ∈ gALL ∧ Cond.selects yX0_settleAs.cls yX0_settleAs yX0_settleAs ∈ gALL := ⟨gmem (i := 495) (by decide +kernel) rfl, gmem (i := 496) (by decide +kernel) rfl⟩
theorem gyX6_count : gY yX6_count cX6_count 2 (some .int) 1 := ⟨gmem (i := 505) (by decide +kernel) rfl, gmem (i := 35) (by decide +kernel) rfl, by decide +kernel, by decide⟩
theorem vyX6_count : Cond.instanceMethod yX6_count ∈ gALL ∧ Cond.selects yX6_count.cls yX6_count yX6_count ∈ gALL := ⟨gmem (i := 503) (by decide +kernel) rfl, gmem (i := 504) (by decide +kernel) rfl⟩
theorem gyX0_troddenCells : gY yX0_troddenCells cX0_troddenCells 3 (some .int) 0 := ⟨gmem (i := 509) (by decide +kernel) rfl, gmem (i := 36) (by decide +kernel) rfl, by decide +kernel, by decide⟩
theorem vyX0_troddenCells : Cond.instanceMethod yX0_troddenCells ∈ gALL ∧ Cond.selects yX0_troddenCells.cls yX0_troddenCells yX0_troddenCells ∈ gALL := ⟨gmem (i := 507) (by decide +kernel) rfl, gmem (i := 508) (by decide +kernel) rfl⟩
theorem gyX0_isTrodden : gY yX0_isTrodden cX0_isTrodden 3 (some .boolean) 1 := ⟨gmem (i := 513) (by decide +kernel) rfl, gmem (i := 36) (by decide +kernel) rfl, by decide +kernel, by decide⟩
theorem vyX0_isTrodden : Cond.instanceMethod yX0_isTrodden ∈ gALL ∧ Cond.selects yX0_isTrodden.cls yX0_isTrodden yX0_isTrodden ∈ gALL := ⟨gmem (i := 511) (by decide +kernel) rfl, gmem (i := 512) (by decide +kernel) rfl⟩
theorem gyX6_step : gY yX6_step cX6_step 4 (some .int) 2 := ⟨gmem (i := 517) (by decide +kernel) rfl, gmem (i := 35) (by decide +kernel) rfl, by decide +kernel, by decide⟩
theorem vyX6_step : Cond.instanceMethod yX6_step ∈ gALL ∧ Cond.selects yX6_step.cls yX6_step yX6_step ∈ gALL := ⟨gmem (i := 515) (by decide +kernel) rfl, gmem (i := 516) (by decide +kernel) rfl⟩
theorem gyX6_beside : gY yX6_beside cX6_beside 2 (some .int) 2 := ⟨gmem (i := 520) (by decide +kernel) rfl, gmem (i := 35) (by decide +kernel) rfl, by decide +kernel, by decide⟩
theorem syX6_beside : Cond.static yX6_beside ∈ gALL := gmem (i := 519) (by decide +kernel) rfl
theorem gyX1_keep : gY yX1_keep cX1_keep 2 none 1 := ⟨gmem (i := 526) (by decide +kernel) rfl, gmem (i := 37) (by decide +kernel) rfl, by decide +kernel, by decide⟩
theorem vyX1_keep : Cond.instanceMethod yX1_keep ∈ gALL ∧ Cond.selects yX1_keep.cls yX1_keep yX1_keep ∈ gALL := ⟨gmem (i := 524) (by decide +kernel) rfl, gmem (i := 525) (by decide +kernel) rfl⟩
theorem gyX0_stepTo : gY yX0_stepTo cX0_stepTo 5 none 2 := ⟨gmem (i := 534) (by decide +kernel) rfl, gmem (i := 36) (by decide +kernel) rfl, by decide +kernel, by decide⟩
theorem vyX0_stepTo : Cond.instanceMethod yX0_stepTo ∈ gALL ∧ Cond.selects yX0_stepTo.cls yX0_stepTo yX0_stepTo ∈ gALL := ⟨gmem (i := 532) (by decide +kernel) rfl, gmem (i := 533) (by decide +kernel) rfl⟩
theorem gyX6_comesDown : gY yX6_comesDown cX6_comesDown 2 (some .boolean) 2 := ⟨gmem (i := 537) (by decide +kernel) rfl, gmem (i := 35) (by decide +kernel) rfl, by decide +kernel, by decide⟩
theorem syX6_comesDown : Cond.static yX6_comesDown ∈ gALL := gmem (i := 536) (by decide +kernel) rfl
theorem gyX6_deepen : gY yX6_deepen cX6_deepen 3 none 3 := ⟨gmem (i := 542) (by decide +kernel) rfl, gmem (i := 35) (by decide +kernel) rfl, by decide +kernel, by decide⟩
theorem syX6_deepen : Cond.static yX6_deepen ∈ gALL := gmem (i := 541) (by decide +kernel) rfl
theorem gyX6_hours : gY yX6_hours cX6_hours 4 (some .int) 1 := ⟨gmem (i := 547) (by decide +kernel) rfl, gmem (i := 35) (by decide +kernel) rfl, by decide +kernel, by decide⟩
theorem vyX6_hours : Cond.instanceMethod yX6_hours ∈ gALL ∧ Cond.selects yX6_hours.cls yX6_hours yX6_hours ∈ gALL := ⟨gmem (i := 545) (by decide +kernel) rfl, gmem (i := 546) (by decide +kernel) rfl⟩
theorem gyX6_hoursFault : gY yX6_hoursFault cX6_hoursFault 2 (some .int) 1 := ⟨gmem (i := 551) (by decide +kernel) rfl, gmem (i := 35) (by decide +kernel) rfl, by decide +kernel, by decide⟩
theorem vyX6_hoursFault : Cond.instanceMethod yX6_hoursFault ∈ gALL ∧ Cond.selects yX6_hoursFault.cls yX6_hoursFault yX6_hoursFault ∈ gALL := ⟨gmem (i := 550) (by decide +kernel) rfl, gmem (i := 4) (by decide +kernel) rfl⟩
theorem gyX0_passHour : gY yX0_passHour cX0_passHour 2 none 0 := ⟨gmem (i := 555) (by decide +kernel) rfl, gmem (i := 36) (by decide +kernel) rfl, by decide +kernel, by decide⟩
theorem vyX0_passHour : Cond.instanceMethod yX0_passHour ∈ gALL ∧ Cond.selects yX0_passHour.cls yX0_passHour yX0_passHour ∈ gALL := ⟨gmem (i := 553) (by decide +kernel) rfl, gmem (i := 554) (by decide +kernel) rfl⟩
theorem gyX6_drift : gY yX6_drift cX6_drift 5 (some .int) 1 := ⟨gmem (i := 560) (by decide +kernel) rfl, gmem (i := 35) (by decide +kernel) rfl, by decide +kernel, by decide⟩
theorem vyX6_drift : Cond.instanceMethod yX6_drift ∈ gALL ∧ Cond.selects yX6_drift.cls yX6_drift yX6_drift ∈ gALL := ⟨gmem (i := 558) (by decide +kernel) rfl, gmem (i := 559) (by decide +kernel) rfl⟩
theorem gyX0_drawCell : gY yX0_drawCell cX0_drawCell 1 (some .int) 0 := ⟨gmem (i := 564) (by decide +kernel) rfl, gmem (i := 36) (by decide +kernel) rfl, by decide +kernel, by decide⟩
theorem vyX0_drawCell : Cond.instanceMethod yX0_drawCell ∈ gALL ∧ Cond.selects yX0_drawCell.cls yX0_drawCell yX0_drawCell ∈ gALL := ⟨gmem (i := 562) (by decide +kernel) rfl, gmem (i := 563) (by decide +kernel) rfl⟩
theorem gyX0_sweep : gY yX0_sweep cX0_sweep 4 (some .int) 1 := ⟨gmem (i := 571) (by decide +kernel) rfl, gmem (i := 36) (by decide +kernel) rfl, by decide +kernel, by decide⟩
theorem vyX0_sweep : Cond.instanceMethod yX0_sweep ∈ gALL ∧ Cond.selects yX0_sweep.cls yX0_sweep yX0_sweep ∈ gALL := ⟨gmem (i := 569) (by decide +kernel) rfl, gmem (i := 570) (by decide +kernel) rfl⟩
theorem gyX6_rake : gY yX6_rake cX6_rake 2 (some .int) 1 := ⟨gmem (i := 575) (by decide +kernel) rfl, gmem (i := 35) (by decide +kernel) rfl, by decide +kernel, by decide⟩
theorem vyX6_rake : Cond.instanceMethod yX6_rake ∈ gALL ∧ Cond.selects yX6_rake.cls yX6_rake yX6_rake ∈ gALL := ⟨gmem (i := 573) (by decide +kernel) rfl, gmem (i := 574) (by decide +kernel) rfl⟩
theorem gyX6_undo : gY yX6_undo cX6_undo 1 (some .int) 0 := ⟨gmem (i := 579) (by decide +kernel) rfl, gmem (i := 35) (by decide +kernel) rfl, by decide +kernel, by decide⟩
theorem vyX6_undo : Cond.instanceMethod yX6_undo ∈ gALL ∧ Cond.selects yX6_undo.cls yX6_undo yX6_undo ∈ gALL := ⟨gmem (i := 577) (by decide +kernel) rfl, gmem (i := 578) (by decide +kernel) rfl⟩
theorem gyX1_giveBack : gY yX1_giveBack cX1_giveBack 2 none 1 := ⟨gmem (i := 583) (by decide +kernel) rfl, gmem (i := 37) (by decide +kernel) rfl, by decide +kernel, by decide⟩
theorem vyX1_giveBack : Cond.instanceMethod yX1_giveBack ∈ gALL ∧ Cond.selects yX1_giveBack.cls yX1_giveBack yX1_giveBack ∈ gALL := ⟨gmem (i := 581) (by decide +kernel) rfl, gmem (i := 582) (by decide +kernel) rfl⟩
theorem gyX6_seed : gY yX6_seed cX6_seed 3 (some .int) 1 := ⟨gmem (i := 587) (by decide +kernel) rfl, gmem (i := 35) (by decide +kernel) rfl, by decide +kernel, by decide⟩
theorem vyX6_seed : Cond.instanceMethod yX6_seed ∈ gALL ∧ Cond.selects yX6_seed.cls yX6_seed yX6_seed ∈ gALL := ⟨gmem (i := 585) (by decide +kernel) rfl, gmem (i := 586) (by decide +kernel) rfl⟩
theorem gyX6_land : gY yX6_land cX6_land 3 (some .int) 2 := ⟨gmem (i := 592) (by decide +kernel) rfl, gmem (i := 35) (by decide +kernel) rfl, by decide +kernel, by decide⟩
theorem vyX6_land : Cond.instanceMethod yX6_land ∈ gALL ∧ Cond.selects yX6_land.cls yX6_land yX6_land ∈ gALL := ⟨gmem (i := 590) (by decide +kernel) rfl, gmem (i := 591) (by decide +kernel) rfl⟩
theorem gyX6_lasts : gY yX6_lasts cX6_lasts 4 (some .int) 2 := ⟨gmem (i := 596) (by decide +kernel) rfl, gmem (i := 35) (by decide +kernel) rfl, by decide +kernel, by decide⟩
theorem vyX6_lasts : Cond.instanceMethod yX6_lasts ∈ gALL ∧ Cond.selects yX6_lasts.cls yX6_lasts yX6_lasts ∈ gALL := ⟨gmem (i := 594) (by decide +kernel) rfl, gmem (i := 595) (by decide +kernel) rfl⟩
theorem gyX6_county : gY yX6_county cX6_county 5 (some .int) 1 := ⟨gmem (i := 600) (by decide +kernel) rfl, gmem (i := 35) (by decide +kernel) rfl, by decide +kernel, by decide⟩
theorem vyX6_county : Cond.instanceMethod yX6_county ∈ gALL ∧ Cond.selects yX6_county.cls yX6_county yX6_county ∈ gALL := ⟨gmem (i := 598) (by decide +kernel) rfl, gmem (i := 599) (by decide +kernel) rfl⟩
theorem gyX6_spreadOver : gY yX6_spreadOver cX6_spreadOver 9 (some .long) 2 := ⟨gmem (i := 604) (by decide +kernel) rfl, gmem (i := 35) (by decide +kernel) rfl, by decide +kernel, by decide⟩
theorem syX6_spreadOver : Cond.static yX6_spreadOver ∈ gALL := gmem (i := 603) (by decide +kernel) rfl
theorem gyX6_besideSet : gY yX6_besideSet cX6_besideSet 2 (some .long) 1 := ⟨gmem (i := 607) (by decide +kernel) rfl, gmem (i := 35) (by decide +kernel) rfl, by decide +kernel, by decide⟩
theorem syX6_besideSet : Cond.static yX6_besideSet ∈ gALL := gmem (i := 606) (by decide +kernel) rfl
theorem gyJ13_bitCount_95d88 : gY yJ13_bitCount_95d88 cJ13_bitCount_95d88 2 (some .int) 1 := ⟨gmem (i := 613) (by decide +kernel) rfl, gmem (i := 51) (by decide +kernel) rfl, by decide +kernel, by decide⟩
theorem syJ13_bitCount_95d88 : Cond.static yJ13_bitCount_95d88 ∈ gALL := gmem (i := 612) (by decide +kernel) rfl
theorem gyX6_way : gY yX6_way cX6_way 8 (some .int) 3 := ⟨gmem (i := 620) (by decide +kernel) rfl, gmem (i := 35) (by decide +kernel) rfl, by decide +kernel, by decide⟩
theorem vyX6_way : Cond.instanceMethod yX6_way ∈ gALL ∧ Cond.selects yX6_way.cls yX6_way yX6_way ∈ gALL := ⟨gmem (i := 618) (by decide +kernel) rfl, gmem (i := 619) (by decide +kernel) rfl⟩
theorem gyX6_fewestTrodden : gY yX6_fewestTrodden cX6_fewestTrodden 9 (some .int) 3 := ⟨gmem (i := 623) (by decide +kernel) rfl, gmem (i := 35) (by decide +kernel) rfl, by decide +kernel, by decide⟩
theorem syX6_fewestTrodden : Cond.static yX6_fewestTrodden ∈ gALL := gmem (i := 622) (by decide +kernel) rfl
theorem gyX6_walk : gY yX6_walk cX6_walk 8 (some .int) 4 := ⟨gmem (i := 627) (by decide +kernel) rfl, gmem (i := 35) (by decide +kernel) rfl, by decide +kernel, by decide⟩
theorem vyX6_walk : Cond.instanceMethod yX6_walk ∈ gALL ∧ Cond.selects yX6_walk.cls yX6_walk yX6_walk ∈ gALL := ⟨gmem (i := 625) (by decide +kernel) rfl, gmem (i := 626) (by decide +kernel) rfl⟩
theorem gyX5_begin : gY yX5_begin cX5_begin 5 none 4 := ⟨gmem (i := 631) (by decide +kernel) rfl, gmem (i := 40) (by decide +kernel) rfl, by decide +kernel, by decide⟩
theorem vyX5_begin : Cond.instanceMethod yX5_begin ∈ gALL ∧ Cond.selects yX5_begin.cls yX5_begin yX5_begin ∈ gALL := ⟨gmem (i := 629) (by decide +kernel) rfl, gmem (i := 630) (by decide +kernel) rfl⟩
theorem gyX5_go : gY yX5_go cX5_go 8 (some .boolean) 4 := ⟨gmem (i := 638) (by decide +kernel) rfl, gmem (i := 40) (by decide +kernel) rfl, by decide +kernel, by decide⟩
theorem vyX5_go : Cond.instanceMethod yX5_go ∈ gALL ∧ Cond.selects yX5_go.cls yX5_go yX5_go ∈ gALL := ⟨gmem (i := 636) (by decide +kernel) rfl, gmem (i := 637) (by decide +kernel) rfl⟩
theorem gyX6_wayAt : gY yX6_wayAt cX6_wayAt 3 (some .int) 3 := ⟨gmem (i := 641) (by decide +kernel) rfl, gmem (i := 35) (by decide +kernel) rfl, by decide +kernel, by decide⟩
theorem syX6_wayAt : Cond.static yX6_wayAt ∈ gALL := gmem (i := 640) (by decide +kernel) rfl
theorem gyX5_tread : gY yX5_tread cX5_tread 4 none 3 := ⟨gmem (i := 647) (by decide +kernel) rfl, gmem (i := 40) (by decide +kernel) rfl, by decide +kernel, by decide⟩
theorem vyX5_tread : Cond.instanceMethod yX5_tread ∈ gALL ∧ Cond.selects yX5_tread.cls yX5_tread yX5_tread ∈ gALL := ⟨gmem (i := 646) (by decide +kernel) rfl, gmem (i := 5) (by decide +kernel) rfl⟩
theorem gyX6_well : gY yX6_well cX6_well 6 (some .int) 3 := ⟨gmem (i := 657) (by decide +kernel) rfl, gmem (i := 35) (by decide +kernel) rfl, by decide +kernel, by decide⟩
theorem vyX6_well : Cond.instanceMethod yX6_well ∈ gALL ∧ Cond.selects yX6_well.cls yX6_well yX6_well ∈ gALL := ⟨gmem (i := 655) (by decide +kernel) rfl, gmem (i := 656) (by decide +kernel) rfl⟩
theorem gyX6_crabs : gY yX6_crabs cX6_crabs 7 (some .int) 4 := ⟨gmem (i := 661) (by decide +kernel) rfl, gmem (i := 35) (by decide +kernel) rfl, by decide +kernel, by decide⟩
theorem vyX6_crabs : Cond.instanceMethod yX6_crabs ∈ gALL ∧ Cond.selects yX6_crabs.cls yX6_crabs yX6_crabs ∈ gALL := ⟨gmem (i := 659) (by decide +kernel) rfl, gmem (i := 660) (by decide +kernel) rfl⟩
theorem gyX6_image : gY yX6_image cX6_image 1 (some .int) 0 := ⟨gmem (i := 667) (by decide +kernel) rfl, gmem (i := 35) (by decide +kernel) rfl, by decide +kernel, by decide⟩
theorem vyX6_image : Cond.instanceMethod yX6_image ∈ gALL ∧ Cond.selects yX6_image.cls yX6_image yX6_image ∈ gALL := ⟨gmem (i := 665) (by decide +kernel) rfl, gmem (i := 666) (by decide +kernel) rfl⟩
theorem gyX0_become : gY yX0_become cX0_become 2 none 1 := ⟨gmem (i := 671) (by decide +kernel) rfl, gmem (i := 36) (by decide +kernel) rfl, by decide +kernel, by decide⟩
theorem vyX0_become : Cond.instanceMethod yX0_become ∈ gALL ∧ Cond.selects yX0_become.cls yX0_become yX0_become ∈ gALL := ⟨gmem (i := 669) (by decide +kernel) rfl, gmem (i := 670) (by decide +kernel) rfl⟩
theorem gyX1_become : gY yX1_become cX1_become 2 none 1 := ⟨gmem (i := 676) (by decide +kernel) rfl, gmem (i := 37) (by decide +kernel) rfl, by decide +kernel, by decide⟩
theorem vyX1_become : Cond.instanceMethod yX1_become ∈ gALL ∧ Cond.selects yX1_become.cls yX1_become yX1_become ∈ gALL := ⟨gmem (i := 674) (by decide +kernel) rfl, gmem (i := 675) (by decide +kernel) rfl⟩
theorem gyX6_restore : gY yX6_restore cX6_restore 1 (some .int) 0 := ⟨gmem (i := 680) (by decide +kernel) rfl, gmem (i := 35) (by decide +kernel) rfl, by decide +kernel, by decide⟩
theorem vyX6_restore : Cond.instanceMethod yX6_restore ∈ gALL ∧ Cond.selects yX6_restore.cls yX6_restore yX6_restore ∈ gALL := ⟨gmem (i := 678) (by decide +kernel) rfl, gmem (i := 679) (by decide +kernel) rfl⟩
theorem gyX6_raked : gY yX6_raked cX6_raked 11 (some .int) 4 := ⟨gmem (i := 684) (by decide +kernel) rfl, gmem (i := 35) (by decide +kernel) rfl, by decide +kernel, by decide⟩
theorem vyX6_raked : Cond.instanceMethod yX6_raked ∈ gALL ∧ Cond.selects yX6_raked.cls yX6_raked yX6_raked ∈ gALL := ⟨gmem (i := 682) (by decide +kernel) rfl, gmem (i := 683) (by decide +kernel) rfl⟩
theorem gyX6_itemsFault : gY yX6_itemsFault cX6_itemsFault 5 (some .int) 4 := ⟨gmem (i := 688) (by decide +kernel) rfl, gmem (i := 35) (by decide +kernel) rfl, by decide +kernel, by decide⟩
theorem vyX6_itemsFault : Cond.instanceMethod yX6_itemsFault ∈ gALL ∧ Cond.selects yX6_itemsFault.cls yX6_itemsFault yX6_itemsFault ∈ gALL := ⟨gmem (i := 687) (by decide +kernel) rfl, gmem (i := 6) (by decide +kernel) rfl⟩
theorem gyX6_isSheet : gY yX6_isSheet cX6_isSheet 1 (some .boolean) 1 := ⟨gmem (i := 691) (by decide +kernel) rfl, gmem (i := 35) (by decide +kernel) rfl, by decide +kernel, by decide⟩
theorem syX6_isSheet : Cond.static yX6_isSheet ∈ gALL := gmem (i := 690) (by decide +kernel) rfl
theorem gyX2_isNothing : gY yX2_isNothing cX2_isNothing 1 (some .boolean) 0 := ⟨gmem (i := 695) (by decide +kernel) rfl, gmem (i := 41) (by decide +kernel) rfl, by decide +kernel, by decide⟩
theorem vyX2_isNothing : Cond.instanceMethod yX2_isNothing ∈ gALL ∧ Cond.selects yX2_isNothing.cls yX2_isNothing yX2_isNothing ∈ gALL := ⟨gmem (i := 693) (by decide +kernel) rfl, gmem (i := 694) (by decide +kernel) rfl⟩
theorem gyX2_spans : gY yX2_spans cX2_spans 3 (some .boolean) 2 := ⟨gmem (i := 699) (by decide +kernel) rfl, gmem (i := 41) (by decide +kernel) rfl, by decide +kernel, by decide⟩
theorem vyX2_spans : Cond.instanceMethod yX2_spans ∈ gALL ∧ Cond.selects yX2_spans.cls yX2_spans yX2_spans ∈ gALL := ⟨gmem (i := 697) (by decide +kernel) rfl, gmem (i := 698) (by decide +kernel) rfl⟩
theorem gyX2_isWithin : gY yX2_isWithin cX2_isWithin 3 (some .boolean) 2 := ⟨gmem (i := 703) (by decide +kernel) rfl, gmem (i := 41) (by decide +kernel) rfl, by decide +kernel, by decide⟩
theorem vyX2_isWithin : Cond.instanceMethod yX2_isWithin ∈ gALL ∧ Cond.selects yX2_isWithin.cls yX2_isWithin yX2_isWithin ∈ gALL := ⟨gmem (i := 701) (by decide +kernel) rfl, gmem (i := 702) (by decide +kernel) rfl⟩
theorem gyX6_isLandOfAll : gY yX6_isLandOfAll cX6_isLandOfAll 4 (some .boolean) 2 := ⟨gmem (i := 707) (by decide +kernel) rfl, gmem (i := 35) (by decide +kernel) rfl, by decide +kernel, by decide⟩
theorem vyX6_isLandOfAll : Cond.instanceMethod yX6_isLandOfAll ∈ gALL ∧ Cond.selects yX6_isLandOfAll.cls yX6_isLandOfAll yX6_isLandOfAll ∈ gALL := ⟨gmem (i := 706) (by decide +kernel) rfl, gmem (i := 7) (by decide +kernel) rfl⟩
theorem gyX6_shoes : gY yX6_shoes cX6_shoes 8 (some .int) 4 := ⟨gmem (i := 713) (by decide +kernel) rfl, gmem (i := 35) (by decide +kernel) rfl, by decide +kernel, by decide⟩
theorem vyX6_shoes : Cond.instanceMethod yX6_shoes ∈ gALL ∧ Cond.selects yX6_shoes.cls yX6_shoes yX6_shoes ∈ gALL := ⟨gmem (i := 711) (by decide +kernel) rfl, gmem (i := 712) (by decide +kernel) rfl⟩
theorem gyX6_hasPrints : gY yX6_hasPrints cX6_hasPrints 7 (some .boolean) 4 := ⟨gmem (i := 717) (by decide +kernel) rfl, gmem (i := 35) (by decide +kernel) rfl, by decide +kernel, by decide⟩
theorem vyX6_hasPrints : Cond.instanceMethod yX6_hasPrints ∈ gALL ∧ Cond.selects yX6_hasPrints.cls yX6_hasPrints yX6_hasPrints ∈ gALL := ⟨gmem (i := 716) (by decide +kernel) rfl, gmem (i := 8) (by decide +kernel) rfl⟩
theorem gyX6_film : gY yX6_film cX6_film 8 (some .int) 5 := ⟨gmem (i := 721) (by decide +kernel) rfl, gmem (i := 35) (by decide +kernel) rfl, by decide +kernel, by decide⟩
theorem vyX6_film : Cond.instanceMethod yX6_film ∈ gALL ∧ Cond.selects yX6_film.cls yX6_film yX6_film ∈ gALL := ⟨gmem (i := 719) (by decide +kernel) rfl, gmem (i := 720) (by decide +kernel) rfl⟩
theorem gyX6_sheet : gY yX6_sheet cX6_sheet 4 (some .int) 3 := ⟨gmem (i := 725) (by decide +kernel) rfl, gmem (i := 35) (by decide +kernel) rfl, by decide +kernel, by decide⟩
theorem vyX6_sheet : Cond.instanceMethod yX6_sheet ∈ gALL ∧ Cond.selects yX6_sheet.cls yX6_sheet yX6_sheet ∈ gALL := ⟨gmem (i := 723) (by decide +kernel) rfl, gmem (i := 724) (by decide +kernel) rfl⟩
theorem gyX2_begin : gY yX2_begin cX2_begin 3 none 2 := ⟨gmem (i := 729) (by decide +kernel) rfl, gmem (i := 41) (by decide +kernel) rfl, by decide +kernel, by decide⟩
theorem vyX2_begin : Cond.instanceMethod yX2_begin ∈ gALL ∧ Cond.selects yX2_begin.cls yX2_begin yX2_begin ∈ gALL := ⟨gmem (i := 727) (by decide +kernel) rfl, gmem (i := 728) (by decide +kernel) rfl⟩
theorem gyJ7_fill_d0a16 : gY yJ7_fill_d0a16 cJ7_fill_d0a16 5 none 2 := ⟨gmem (i := 732) (by decide +kernel) rfl, gmem (i := 43) (by decide +kernel) rfl, by decide +kernel, by decide⟩
theorem syJ7_fill_d0a16 : Cond.static yJ7_fill_d0a16 ∈ gALL := gmem (i := 731) (by decide +kernel) rfl
theorem gyX6_drop : gY yX6_drop cX6_drop 2 (some .int) 1 := ⟨gmem (i := 736) (by decide +kernel) rfl, gmem (i := 35) (by decide +kernel) rfl, by decide +kernel, by decide⟩
theorem vyX6_drop : Cond.instanceMethod yX6_drop ∈ gALL ∧ Cond.selects yX6_drop.cls yX6_drop yX6_drop ∈ gALL := ⟨gmem (i := 734) (by decide +kernel) rfl, gmem (i := 735) (by decide +kernel) rfl⟩
theorem gyX2_end : gY yX2_end cX2_end 2 (some .int) 0 := ⟨gmem (i := 740) (by decide +kernel) rfl, gmem (i := 41) (by decide +kernel) rfl, by decide +kernel, by decide⟩
theorem vyX2_end : Cond.instanceMethod yX2_end ∈ gALL ∧ Cond.selects yX2_end.cls yX2_end yX2_end ∈ gALL := ⟨gmem (i := 738) (by decide +kernel) rfl, gmem (i := 739) (by decide +kernel) rfl⟩
theorem gyX6_item : gY yX6_item cX6_item 7 (some .int) 4 := ⟨gmem (i := 744) (by decide +kernel) rfl, gmem (i := 35) (by decide +kernel) rfl, by decide +kernel, by decide⟩
theorem vyX6_item : Cond.instanceMethod yX6_item ∈ gALL ∧ Cond.selects yX6_item.cls yX6_item yX6_item ∈ gALL := ⟨gmem (i := 742) (by decide +kernel) rfl, gmem (i := 743) (by decide +kernel) rfl⟩
theorem gyX6_lowestBits : gY yX6_lowestBits cX6_lowestBits 3 (some .long) 2 := ⟨gmem (i := 747) (by decide +kernel) rfl, gmem (i := 35) (by decide +kernel) rfl, by decide +kernel, by decide⟩
theorem syX6_lowestBits : Cond.static yX6_lowestBits ∈ gALL := gmem (i := 746) (by decide +kernel) rfl
theorem gyX6_copy : gY yX6_copy cX6_copy 8 (some .int) 5 := ⟨gmem (i := 751) (by decide +kernel) rfl, gmem (i := 35) (by decide +kernel) rfl, by decide +kernel, by decide⟩
theorem vyX6_copy : Cond.instanceMethod yX6_copy ∈ gALL ∧ Cond.selects yX6_copy.cls yX6_copy yX6_copy ∈ gALL := ⟨gmem (i := 749) (by decide +kernel) rfl, gmem (i := 750) (by decide +kernel) rfl⟩
theorem gyX7_init : gY yX7_init cX7_init 2 none 0 := ⟨gmem (i := 757) (by decide +kernel) rfl, gmem (i := 42) (by decide +kernel) rfl, by decide +kernel, by decide⟩
theorem gyX7_walker : gY yX7_walker cX7_walker 5 (some .int) 3 := ⟨gmem (i := 821) (by decide +kernel) rfl, gmem (i := 42) (by decide +kernel) rfl, by decide +kernel, by decide⟩
theorem vyX7_walker : Cond.instanceMethod yX7_walker ∈ gALL ∧ Cond.selects yX7_walker.cls yX7_walker yX7_walker ∈ gALL := ⟨gmem (i := 819) (by decide +kernel) rfl, gmem (i := 820) (by decide +kernel) rfl⟩
theorem gyX7_in : gY yX7_in cX7_in 6 (some .boolean) 3 := ⟨gmem (i := 825) (by decide +kernel) rfl, gmem (i := 42) (by decide +kernel) rfl, by decide +kernel, by decide⟩
theorem syX7_in : Cond.static yX7_in ∈ gALL := gmem (i := 824) (by decide +kernel) rfl
theorem gyX7_isCell : gY yX7_isCell cX7_isCell 1 (some .boolean) 1 := ⟨gmem (i := 829) (by decide +kernel) rfl, gmem (i := 42) (by decide +kernel) rfl, by decide +kernel, by decide⟩
theorem syX7_isCell : Cond.static yX7_isCell ∈ gALL := gmem (i := 828) (by decide +kernel) rfl
theorem gyX7_of : gY yX7_of cX7_of 3 (some .int) 2 := ⟨gmem (i := 834) (by decide +kernel) rfl, gmem (i := 42) (by decide +kernel) rfl, by decide +kernel, by decide⟩
theorem vyX7_of : Cond.instanceMethod yX7_of ∈ gALL ∧ Cond.selects yX7_of.cls yX7_of yX7_of ∈ gALL := ⟨gmem (i := 832) (by decide +kernel) rfl, gmem (i := 833) (by decide +kernel) rfl⟩
theorem gyX7_isWalker : gY yX7_isWalker cX7_isWalker 2 (some .boolean) 1 := ⟨gmem (i := 838) (by decide +kernel) rfl, gmem (i := 42) (by decide +kernel) rfl, by decide +kernel, by decide⟩
theorem vyX7_isWalker : Cond.instanceMethod yX7_isWalker ∈ gALL ∧ Cond.selects yX7_isWalker.cls yX7_isWalker yX7_isWalker ∈ gALL := ⟨gmem (i := 837) (by decide +kernel) rfl, gmem (i := 9) (by decide +kernel) rfl⟩
theorem gyX7_deep : gY yX7_deep cX7_deep 3 (some .int) 1 := ⟨gmem (i := 843) (by decide +kernel) rfl, gmem (i := 42) (by decide +kernel) rfl, by decide +kernel, by decide⟩
theorem vyX7_deep : Cond.instanceMethod yX7_deep ∈ gALL ∧ Cond.selects yX7_deep.cls yX7_deep yX7_deep ∈ gALL := ⟨gmem (i := 842) (by decide +kernel) rfl, gmem (i := 10) (by decide +kernel) rfl⟩
theorem gyX7_kind : gY yX7_kind cX7_kind 2 (some .int) 1 := ⟨gmem (i := 847) (by decide +kernel) rfl, gmem (i := 42) (by decide +kernel) rfl, by decide +kernel, by decide⟩
theorem vyX7_kind : Cond.instanceMethod yX7_kind ∈ gALL ∧ Cond.selects yX7_kind.cls yX7_kind yX7_kind ∈ gALL := ⟨gmem (i := 846) (by decide +kernel) rfl, gmem (i := 11) (by decide +kernel) rfl⟩
theorem gyX7_shoesOf : gY yX7_shoesOf cX7_shoesOf 2 (some .int) 1 := ⟨gmem (i := 851) (by decide +kernel) rfl, gmem (i := 42) (by decide +kernel) rfl, by decide +kernel, by decide⟩
theorem vyX7_shoesOf : Cond.instanceMethod yX7_shoesOf ∈ gALL ∧ Cond.selects yX7_shoesOf.cls yX7_shoesOf yX7_shoesOf ∈ gALL := ⟨gmem (i := 850) (by decide +kernel) rfl, gmem (i := 12) (by decide +kernel) rfl⟩
theorem gyX7_landOf : gY yX7_landOf cX7_landOf 4 (some .int) 1 := ⟨gmem (i := 855) (by decide +kernel) rfl, gmem (i := 42) (by decide +kernel) rfl, by decide +kernel, by decide⟩
theorem vyX7_landOf : Cond.instanceMethod yX7_landOf ∈ gALL ∧ Cond.selects yX7_landOf.cls yX7_landOf yX7_landOf ∈ gALL := ⟨gmem (i := 854) (by decide +kernel) rfl, gmem (i := 13) (by decide +kernel) rfl⟩
theorem gyX7_holder : gY yX7_holder cX7_holder 6 (some .int) 1 := ⟨gmem (i := 859) (by decide +kernel) rfl, gmem (i := 42) (by decide +kernel) rfl, by decide +kernel, by decide⟩
theorem vyX7_holder : Cond.instanceMethod yX7_holder ∈ gALL ∧ Cond.selects yX7_holder.cls yX7_holder yX7_holder ∈ gALL := ⟨gmem (i := 858) (by decide +kernel) rfl, gmem (i := 14) (by decide +kernel) rfl⟩
theorem gyX7_claimOf : gY yX7_claimOf cX7_claimOf 8 (some .int) 2 := ⟨gmem (i := 863) (by decide +kernel) rfl, gmem (i := 42) (by decide +kernel) rfl, by decide +kernel, by decide⟩
theorem vyX7_claimOf : Cond.instanceMethod yX7_claimOf ∈ gALL ∧ Cond.selects yX7_claimOf.cls yX7_claimOf yX7_claimOf ∈ gALL := ⟨gmem (i := 862) (by decide +kernel) rfl, gmem (i := 15) (by decide +kernel) rfl⟩
theorem gyX7_isle : gY yX7_isle cX7_isle 4 (some .int) 2 := ⟨gmem (i := 868) (by decide +kernel) rfl, gmem (i := 42) (by decide +kernel) rfl, by decide +kernel, by decide⟩
theorem vyX7_isle : Cond.instanceMethod yX7_isle ∈ gALL ∧ Cond.selects yX7_isle.cls yX7_isle yX7_isle ∈ gALL := ⟨gmem (i := 866) (by decide +kernel) rfl, gmem (i := 867) (by decide +kernel) rfl⟩
theorem gyX7_canIsle : gY yX7_canIsle cX7_canIsle 2 (some .boolean) 2 := ⟨gmem (i := 871) (by decide +kernel) rfl, gmem (i := 42) (by decide +kernel) rfl, by decide +kernel, by decide⟩
theorem syX7_canIsle : Cond.static yX7_canIsle ∈ gALL := gmem (i := 870) (by decide +kernel) rfl
theorem gyX7_print : gY yX7_print cX7_print 3 (some .int) 2 := ⟨gmem (i := 879) (by decide +kernel) rfl, gmem (i := 42) (by decide +kernel) rfl, by decide +kernel, by decide⟩
theorem vyX7_print : Cond.instanceMethod yX7_print ∈ gALL ∧ Cond.selects yX7_print.cls yX7_print yX7_print ∈ gALL := ⟨gmem (i := 877) (by decide +kernel) rfl, gmem (i := 878) (by decide +kernel) rfl⟩
theorem gyX7_claim : gY yX7_claim cX7_claim 3 (some .int) 2 := ⟨gmem (i := 883) (by decide +kernel) rfl, gmem (i := 42) (by decide +kernel) rfl, by decide +kernel, by decide⟩
theorem vyX7_claim : Cond.instanceMethod yX7_claim ∈ gALL ∧ Cond.selects yX7_claim.cls yX7_claim yX7_claim ∈ gALL := ⟨gmem (i := 881) (by decide +kernel) rfl, gmem (i := 882) (by decide +kernel) rfl⟩
theorem gyX7_held : gY yX7_held cX7_held 2 (some .int) 1 := ⟨gmem (i := 887) (by decide +kernel) rfl, gmem (i := 42) (by decide +kernel) rfl, by decide +kernel, by decide⟩
theorem vyX7_held : Cond.instanceMethod yX7_held ∈ gALL ∧ Cond.selects yX7_held.cls yX7_held yX7_held ∈ gALL := ⟨gmem (i := 885) (by decide +kernel) rfl, gmem (i := 886) (by decide +kernel) rfl⟩
theorem gyX7_count : gY yX7_count cX7_count 4 (some .int) 1 := ⟨gmem (i := 891) (by decide +kernel) rfl, gmem (i := 42) (by decide +kernel) rfl, by decide +kernel, by decide⟩
theorem vyX7_count : Cond.instanceMethod yX7_count ∈ gALL ∧ Cond.selects yX7_count.cls yX7_count yX7_count ∈ gALL := ⟨gmem (i := 889) (by decide +kernel) rfl, gmem (i := 890) (by decide +kernel) rfl⟩
theorem gyX7_prints : gY yX7_prints cX7_prints 4 (some .int) 1 := ⟨gmem (i := 895) (by decide +kernel) rfl, gmem (i := 42) (by decide +kernel) rfl, by decide +kernel, by decide⟩
theorem vyX7_prints : Cond.instanceMethod yX7_prints ∈ gALL ∧ Cond.selects yX7_prints.cls yX7_prints yX7_prints ∈ gALL := ⟨gmem (i := 894) (by decide +kernel) rfl, gmem (i := 16) (by decide +kernel) rfl⟩
theorem gyX7_allHeld : gY yX7_allHeld cX7_allHeld 3 (some .int) 0 := ⟨gmem (i := 899) (by decide +kernel) rfl, gmem (i := 42) (by decide +kernel) rfl, by decide +kernel, by decide⟩
theorem vyX7_allHeld : Cond.instanceMethod yX7_allHeld ∈ gALL ∧ Cond.selects yX7_allHeld.cls yX7_allHeld yX7_allHeld ∈ gALL := ⟨gmem (i := 898) (by decide +kernel) rfl, gmem (i := 17) (by decide +kernel) rfl⟩
theorem gyX7_type : gY yX7_type cX7_type 2 (some .int) 1 := ⟨gmem (i := 903) (by decide +kernel) rfl, gmem (i := 42) (by decide +kernel) rfl, by decide +kernel, by decide⟩
theorem vyX7_type : Cond.instanceMethod yX7_type ∈ gALL ∧ Cond.selects yX7_type.cls yX7_type yX7_type ∈ gALL := ⟨gmem (i := 901) (by decide +kernel) rfl, gmem (i := 902) (by decide +kernel) rfl⟩
theorem gyX7_settle : gY yX7_settle cX7_settle 6 (some .int) 0 := ⟨gmem (i := 909) (by decide +kernel) rfl, gmem (i := 42) (by decide +kernel) rfl, by decide +kernel, by decide⟩
theorem vyX7_settle : Cond.instanceMethod yX7_settle ∈ gALL ∧ Cond.selects yX7_settle.cls yX7_settle yX7_settle ∈ gALL := ⟨gmem (i := 907) (by decide +kernel) rfl, gmem (i := 908) (by decide +kernel) rfl⟩
theorem gyX7_digit : gY yX7_digit cX7_digit 4 (some .int) 2 := ⟨gmem (i := 913) (by decide +kernel) rfl, gmem (i := 42) (by decide +kernel) rfl, by decide +kernel, by decide⟩
theorem vyX7_digit : Cond.instanceMethod yX7_digit ∈ gALL ∧ Cond.selects yX7_digit.cls yX7_digit yX7_digit ∈ gALL := ⟨gmem (i := 912) (by decide +kernel) rfl, gmem (i := 18) (by decide +kernel) rfl⟩
theorem gyX7_here : gY yX7_here cX7_here 1 (some .int) 0 := ⟨gmem (i := 917) (by decide +kernel) rfl, gmem (i := 42) (by decide +kernel) rfl, by decide +kernel, by decide⟩
theorem vyX7_here : Cond.instanceMethod yX7_here ∈ gALL ∧ Cond.selects yX7_here.cls yX7_here yX7_here ∈ gALL := ⟨gmem (i := 916) (by decide +kernel) rfl, gmem (i := 19) (by decide +kernel) rfl⟩
theorem gyX7_must : gY yX7_must cX7_must 2 none 1 := ⟨gmem (i := 921) (by decide +kernel) rfl, gmem (i := 42) (by decide +kernel) rfl, by decide +kernel, by decide⟩
theorem vyX7_must : Cond.instanceMethod yX7_must ∈ gALL ∧ Cond.selects yX7_must.cls yX7_must yX7_must ∈ gALL := ⟨gmem (i := 920) (by decide +kernel) rfl, gmem (i := 20) (by decide +kernel) rfl⟩
theorem gyX7_takes : gY yX7_takes cX7_takes 2 none 1 := ⟨gmem (i := 925) (by decide +kernel) rfl, gmem (i := 42) (by decide +kernel) rfl, by decide +kernel, by decide⟩
theorem vyX7_takes : Cond.instanceMethod yX7_takes ∈ gALL ∧ Cond.selects yX7_takes.cls yX7_takes yX7_takes ∈ gALL := ⟨gmem (i := 924) (by decide +kernel) rfl, gmem (i := 21) (by decide +kernel) rfl⟩
theorem gyX7_readWalker : gY yX7_readWalker cX7_readWalker 7 none 1 := ⟨gmem (i := 929) (by decide +kernel) rfl, gmem (i := 42) (by decide +kernel) rfl, by decide +kernel, by decide⟩
theorem vyX7_readWalker : Cond.instanceMethod yX7_readWalker ∈ gALL ∧ Cond.selects yX7_readWalker.cls yX7_readWalker yX7_readWalker ∈ gALL := ⟨gmem (i := 928) (by decide +kernel) rfl, gmem (i := 22) (by decide +kernel) rfl⟩
theorem gyX7_step : gY yX7_step cX7_step 3 (some .int) 2 := ⟨gmem (i := 933) (by decide +kernel) rfl, gmem (i := 42) (by decide +kernel) rfl, by decide +kernel, by decide⟩
theorem vyX7_step : Cond.instanceMethod yX7_step ∈ gALL ∧ Cond.selects yX7_step.cls yX7_step yX7_step ∈ gALL := ⟨gmem (i := 931) (by decide +kernel) rfl, gmem (i := 932) (by decide +kernel) rfl⟩
theorem gyX7_beside : gY yX7_beside cX7_beside 4 (some .int) 2 := ⟨gmem (i := 936) (by decide +kernel) rfl, gmem (i := 42) (by decide +kernel) rfl, by decide +kernel, by decide⟩
theorem syX7_beside : Cond.static yX7_beside ∈ gALL := gmem (i := 935) (by decide +kernel) rfl
theorem gyX7_notes : gY yX7_notes cX7_notes 2 none 0 := ⟨gmem (i := 940) (by decide +kernel) rfl, gmem (i := 42) (by decide +kernel) rfl, by decide +kernel, by decide⟩
theorem vyX7_notes : Cond.instanceMethod yX7_notes ∈ gALL ∧ Cond.selects yX7_notes.cls yX7_notes yX7_notes ∈ gALL := ⟨gmem (i := 939) (by decide +kernel) rfl, gmem (i := 23) (by decide +kernel) rfl⟩
theorem gyX7_steps : gY yX7_steps cX7_steps 5 none 2 := ⟨gmem (i := 944) (by decide +kernel) rfl, gmem (i := 42) (by decide +kernel) rfl, by decide +kernel, by decide⟩
theorem vyX7_steps : Cond.instanceMethod yX7_steps ∈ gALL ∧ Cond.selects yX7_steps.cls yX7_steps yX7_steps ∈ gALL := ⟨gmem (i := 943) (by decide +kernel) rfl, gmem (i := 24) (by decide +kernel) rfl⟩
theorem gyX7_treads : gY yX7_treads cX7_treads 4 none 2 := ⟨gmem (i := 948) (by decide +kernel) rfl, gmem (i := 42) (by decide +kernel) rfl, by decide +kernel, by decide⟩
theorem vyX7_treads : Cond.instanceMethod yX7_treads ∈ gALL ∧ Cond.selects yX7_treads.cls yX7_treads yX7_treads ∈ gALL := ⟨gmem (i := 947) (by decide +kernel) rfl, gmem (i := 25) (by decide +kernel) rfl⟩
theorem gyX7_hours : gY yX7_hours cX7_hours 3 (some .int) 1 := ⟨gmem (i := 952) (by decide +kernel) rfl, gmem (i := 42) (by decide +kernel) rfl, by decide +kernel, by decide⟩
theorem vyX7_hours : Cond.instanceMethod yX7_hours ∈ gALL ∧ Cond.selects yX7_hours.cls yX7_hours yX7_hours ∈ gALL := ⟨gmem (i := 950) (by decide +kernel) rfl, gmem (i := 951) (by decide +kernel) rfl⟩
theorem gyX7_goesBy : gY yX7_goesBy cX7_goesBy 5 none 0 := ⟨gmem (i := 957) (by decide +kernel) rfl, gmem (i := 42) (by decide +kernel) rfl, by decide +kernel, by decide⟩
theorem vyX7_goesBy : Cond.instanceMethod yX7_goesBy ∈ gALL ∧ Cond.selects yX7_goesBy.cls yX7_goesBy yX7_goesBy ∈ gALL := ⟨gmem (i := 956) (by decide +kernel) rfl, gmem (i := 26) (by decide +kernel) rfl⟩
theorem gyX7_drift : gY yX7_drift cX7_drift 4 (some .int) 1 := ⟨gmem (i := 961) (by decide +kernel) rfl, gmem (i := 42) (by decide +kernel) rfl, by decide +kernel, by decide⟩
theorem vyX7_drift : Cond.instanceMethod yX7_drift ∈ gALL ∧ Cond.selects yX7_drift.cls yX7_drift yX7_drift ∈ gALL := ⟨gmem (i := 959) (by decide +kernel) rfl, gmem (i := 960) (by decide +kernel) rfl⟩
theorem gyX7_rakes : gY yX7_rakes cX7_rakes 4 (some .int) 1 := ⟨gmem (i := 969) (by decide +kernel) rfl, gmem (i := 42) (by decide +kernel) rfl, by decide +kernel, by decide⟩
theorem vyX7_rakes : Cond.instanceMethod yX7_rakes ∈ gALL ∧ Cond.selects yX7_rakes.cls yX7_rakes yX7_rakes ∈ gALL := ⟨gmem (i := 968) (by decide +kernel) rfl, gmem (i := 27) (by decide +kernel) rfl⟩
theorem gyX7_rake : gY yX7_rake cX7_rake 2 (some .int) 1 := ⟨gmem (i := 973) (by decide +kernel) rfl, gmem (i := 42) (by decide +kernel) rfl, by decide +kernel, by decide⟩
theorem vyX7_rake : Cond.instanceMethod yX7_rake ∈ gALL ∧ Cond.selects yX7_rake.cls yX7_rake yX7_rake ∈ gALL := ⟨gmem (i := 971) (by decide +kernel) rfl, gmem (i := 972) (by decide +kernel) rfl⟩
theorem gyX7_undo : gY yX7_undo cX7_undo 3 (some .int) 0 := ⟨gmem (i := 977) (by decide +kernel) rfl, gmem (i := 42) (by decide +kernel) rfl, by decide +kernel, by decide⟩
theorem vyX7_undo : Cond.instanceMethod yX7_undo ∈ gALL ∧ Cond.selects yX7_undo.cls yX7_undo yX7_undo ∈ gALL := ⟨gmem (i := 975) (by decide +kernel) rfl, gmem (i := 976) (by decide +kernel) rfl⟩
theorem gyX7_seed : gY yX7_seed cX7_seed 3 (some .int) 1 := ⟨gmem (i := 981) (by decide +kernel) rfl, gmem (i := 42) (by decide +kernel) rfl, by decide +kernel, by decide⟩
theorem vyX7_seed : Cond.instanceMethod yX7_seed ∈ gALL ∧ Cond.selects yX7_seed.cls yX7_seed yX7_seed ∈ gALL := ⟨gmem (i := 979) (by decide +kernel) rfl, gmem (i := 980) (by decide +kernel) rfl⟩
theorem gyX7_ahead : gY yX7_ahead cX7_ahead 4 (some .int) 2 := ⟨gmem (i := 985) (by decide +kernel) rfl, gmem (i := 42) (by decide +kernel) rfl, by decide +kernel, by decide⟩
theorem vyX7_ahead : Cond.instanceMethod yX7_ahead ∈ gALL ∧ Cond.selects yX7_ahead.cls yX7_ahead yX7_ahead ∈ gALL := ⟨gmem (i := 983) (by decide +kernel) rfl, gmem (i := 984) (by decide +kernel) rfl⟩
theorem gyX7_asides : gY yX7_asides cX7_asides 2 none 0 := ⟨gmem (i := 990) (by decide +kernel) rfl, gmem (i := 42) (by decide +kernel) rfl, by decide +kernel, by decide⟩
theorem vyX7_asides : Cond.instanceMethod yX7_asides ∈ gALL ∧ Cond.selects yX7_asides.cls yX7_asides yX7_asides ∈ gALL := ⟨gmem (i := 989) (by decide +kernel) rfl, gmem (i := 28) (by decide +kernel) rfl⟩
theorem gyX7_goesOn : gY yX7_goesOn cX7_goesOn 3 none 1 := ⟨gmem (i := 994) (by decide +kernel) rfl, gmem (i := 42) (by decide +kernel) rfl, by decide +kernel, by decide⟩
theorem vyX7_goesOn : Cond.instanceMethod yX7_goesOn ∈ gALL ∧ Cond.selects yX7_goesOn.cls yX7_goesOn yX7_goesOn ∈ gALL := ⟨gmem (i := 993) (by decide +kernel) rfl, gmem (i := 29) (by decide +kernel) rfl⟩
theorem gyX7_backs : gY yX7_backs cX7_backs 2 none 0 := ⟨gmem (i := 998) (by decide +kernel) rfl, gmem (i := 42) (by decide +kernel) rfl, by decide +kernel, by decide⟩
theorem vyX7_backs : Cond.instanceMethod yX7_backs ∈ gALL ∧ Cond.selects yX7_backs.cls yX7_backs yX7_backs ∈ gALL := ⟨gmem (i := 997) (by decide +kernel) rfl, gmem (i := 30) (by decide +kernel) rfl⟩
theorem gyX7_land : gY yX7_land cX7_land 4 (some .int) 2 := ⟨gmem (i := 1002) (by decide +kernel) rfl, gmem (i := 42) (by decide +kernel) rfl, by decide +kernel, by decide⟩
theorem vyX7_land : Cond.instanceMethod yX7_land ∈ gALL ∧ Cond.selects yX7_land.cls yX7_land yX7_land ∈ gALL := ⟨gmem (i := 1000) (by decide +kernel) rfl, gmem (i := 1001) (by decide +kernel) rfl⟩
theorem gyX7_lasts : gY yX7_lasts cX7_lasts 4 (some .int) 2 := ⟨gmem (i := 1006) (by decide +kernel) rfl, gmem (i := 42) (by decide +kernel) rfl, by decide +kernel, by decide⟩
theorem vyX7_lasts : Cond.instanceMethod yX7_lasts ∈ gALL ∧ Cond.selects yX7_lasts.cls yX7_lasts yX7_lasts ∈ gALL := ⟨gmem (i := 1004) (by decide +kernel) rfl, gmem (i := 1005) (by decide +kernel) rfl⟩
theorem gyX7_county : gY yX7_county cX7_county 6 (some .int) 1 := ⟨gmem (i := 1010) (by decide +kernel) rfl, gmem (i := 42) (by decide +kernel) rfl, by decide +kernel, by decide⟩
theorem vyX7_county : Cond.instanceMethod yX7_county ∈ gALL ∧ Cond.selects yX7_county.cls yX7_county yX7_county ∈ gALL := ⟨gmem (i := 1008) (by decide +kernel) rfl, gmem (i := 1009) (by decide +kernel) rfl⟩
theorem gyX7_way : gY yX7_way cX7_way 9 (some .int) 3 := ⟨gmem (i := 1014) (by decide +kernel) rfl, gmem (i := 42) (by decide +kernel) rfl, by decide +kernel, by decide⟩
theorem vyX7_way : Cond.instanceMethod yX7_way ∈ gALL ∧ Cond.selects yX7_way.cls yX7_way yX7_way ∈ gALL := ⟨gmem (i := 1012) (by decide +kernel) rfl, gmem (i := 1013) (by decide +kernel) rfl⟩
theorem gyX7_holds : gY yX7_holds cX7_holds 2 none 0 := ⟨gmem (i := 1018) (by decide +kernel) rfl, gmem (i := 42) (by decide +kernel) rfl, by decide +kernel, by decide⟩
theorem vyX7_holds : Cond.instanceMethod yX7_holds ∈ gALL ∧ Cond.selects yX7_holds.cls yX7_holds yX7_holds ∈ gALL := ⟨gmem (i := 1017) (by decide +kernel) rfl, gmem (i := 31) (by decide +kernel) rfl⟩
theorem gyX7_walk : gY yX7_walk cX7_walk 9 (some .int) 4 := ⟨gmem (i := 1022) (by decide +kernel) rfl, gmem (i := 42) (by decide +kernel) rfl, by decide +kernel, by decide⟩
theorem vyX7_walk : Cond.instanceMethod yX7_walk ∈ gALL ∧ Cond.selects yX7_walk.cls yX7_walk yX7_walk ∈ gALL := ⟨gmem (i := 1020) (by decide +kernel) rfl, gmem (i := 1021) (by decide +kernel) rfl⟩
theorem gyX7_isGone : gY yX7_isGone cX7_isGone 7 (some .boolean) 3 := ⟨gmem (i := 1026) (by decide +kernel) rfl, gmem (i := 42) (by decide +kernel) rfl, by decide +kernel, by decide⟩
theorem vyX7_isGone : Cond.instanceMethod yX7_isGone ∈ gALL ∧ Cond.selects yX7_isGone.cls yX7_isGone yX7_isGone ∈ gALL := ⟨gmem (i := 1025) (by decide +kernel) rfl, gmem (i := 32) (by decide +kernel) rfl⟩
theorem gyX7_well : gY yX7_well cX7_well 7 (some .int) 3 := ⟨gmem (i := 1030) (by decide +kernel) rfl, gmem (i := 42) (by decide +kernel) rfl, by decide +kernel, by decide⟩
theorem vyX7_well : Cond.instanceMethod yX7_well ∈ gALL ∧ Cond.selects yX7_well.cls yX7_well yX7_well ∈ gALL := ⟨gmem (i := 1028) (by decide +kernel) rfl, gmem (i := 1029) (by decide +kernel) rfl⟩
theorem gyX7_crabs : gY yX7_crabs cX7_crabs 8 (some .int) 4 := ⟨gmem (i := 1034) (by decide +kernel) rfl, gmem (i := 42) (by decide +kernel) rfl, by decide +kernel, by decide⟩
theorem vyX7_crabs : Cond.instanceMethod yX7_crabs ∈ gALL ∧ Cond.selects yX7_crabs.cls yX7_crabs yX7_crabs ∈ gALL := ⟨gmem (i := 1032) (by decide +kernel) rfl, gmem (i := 1033) (by decide +kernel) rfl⟩
theorem gyX7_image : gY yX7_image cX7_image 2 (some .int) 0 := ⟨gmem (i := 1040) (by decide +kernel) rfl, gmem (i := 42) (by decide +kernel) rfl, by decide +kernel, by decide⟩
theorem vyX7_image : Cond.instanceMethod yX7_image ∈ gALL ∧ Cond.selects yX7_image.cls yX7_image yX7_image ∈ gALL := ⟨gmem (i := 1038) (by decide +kernel) rfl, gmem (i := 1039) (by decide +kernel) rfl⟩
theorem gyX7_restore : gY yX7_restore cX7_restore 2 (some .int) 0 := ⟨gmem (i := 1044) (by decide +kernel) rfl, gmem (i := 42) (by decide +kernel) rfl, by decide +kernel, by decide⟩
theorem vyX7_restore : Cond.instanceMethod yX7_restore ∈ gALL ∧ Cond.selects yX7_restore.cls yX7_restore yX7_restore ∈ gALL := ⟨gmem (i := 1042) (by decide +kernel) rfl, gmem (i := 1043) (by decide +kernel) rfl⟩
theorem gyX7_raked : gY yX7_raked cX7_raked 14 (some .int) 4 := ⟨gmem (i := 1048) (by decide +kernel) rfl, gmem (i := 42) (by decide +kernel) rfl, by decide +kernel, by decide⟩
theorem vyX7_raked : Cond.instanceMethod yX7_raked ∈ gALL ∧ Cond.selects yX7_raked.cls yX7_raked yX7_raked ∈ gALL := ⟨gmem (i := 1046) (by decide +kernel) rfl, gmem (i := 1047) (by decide +kernel) rfl⟩
theorem gyX7_isSheet : gY yX7_isSheet cX7_isSheet 1 (some .boolean) 1 := ⟨gmem (i := 1051) (by decide +kernel) rfl, gmem (i := 42) (by decide +kernel) rfl, by decide +kernel, by decide⟩
theorem syX7_isSheet : Cond.static yX7_isSheet ∈ gALL := gmem (i := 1050) (by decide +kernel) rfl
theorem gyX7_isLane : gY yX7_isLane cX7_isLane 1 (some .boolean) 1 := ⟨gmem (i := 1054) (by decide +kernel) rfl, gmem (i := 42) (by decide +kernel) rfl, by decide +kernel, by decide⟩
theorem syX7_isLane : Cond.static yX7_isLane ∈ gALL := gmem (i := 1053) (by decide +kernel) rfl
theorem gyX7_why : gY yX7_why cX7_why 5 (some .int) 4 := ⟨gmem (i := 1058) (by decide +kernel) rfl, gmem (i := 42) (by decide +kernel) rfl, by decide +kernel, by decide⟩
theorem vyX7_why : Cond.instanceMethod yX7_why ∈ gALL ∧ Cond.selects yX7_why.cls yX7_why yX7_why ∈ gALL := ⟨gmem (i := 1057) (by decide +kernel) rfl, gmem (i := 33) (by decide +kernel) rfl⟩
theorem gyX7_shoes : gY yX7_shoes cX7_shoes 11 (some .int) 4 := ⟨gmem (i := 1063) (by decide +kernel) rfl, gmem (i := 42) (by decide +kernel) rfl, by decide +kernel, by decide⟩
theorem vyX7_shoes : Cond.instanceMethod yX7_shoes ∈ gALL ∧ Cond.selects yX7_shoes.cls yX7_shoes yX7_shoes ∈ gALL := ⟨gmem (i := 1061) (by decide +kernel) rfl, gmem (i := 1062) (by decide +kernel) rfl⟩
theorem gyX7_film : gY yX7_film cX7_film 8 (some .int) 5 := ⟨gmem (i := 1068) (by decide +kernel) rfl, gmem (i := 42) (by decide +kernel) rfl, by decide +kernel, by decide⟩
theorem vyX7_film : Cond.instanceMethod yX7_film ∈ gALL ∧ Cond.selects yX7_film.cls yX7_film yX7_film ∈ gALL := ⟨gmem (i := 1066) (by decide +kernel) rfl, gmem (i := 1067) (by decide +kernel) rfl⟩
theorem gyX7_sheet : gY yX7_sheet cX7_sheet 5 (some .int) 3 := ⟨gmem (i := 1072) (by decide +kernel) rfl, gmem (i := 42) (by decide +kernel) rfl, by decide +kernel, by decide⟩
theorem vyX7_sheet : Cond.instanceMethod yX7_sheet ∈ gALL ∧ Cond.selects yX7_sheet.cls yX7_sheet yX7_sheet ∈ gALL := ⟨gmem (i := 1070) (by decide +kernel) rfl, gmem (i := 1071) (by decide +kernel) rfl⟩
theorem gyX7_drop : gY yX7_drop cX7_drop 2 (some .int) 1 := ⟨gmem (i := 1076) (by decide +kernel) rfl, gmem (i := 42) (by decide +kernel) rfl, by decide +kernel, by decide⟩
theorem vyX7_drop : Cond.instanceMethod yX7_drop ∈ gALL ∧ Cond.selects yX7_drop.cls yX7_drop yX7_drop ∈ gALL := ⟨gmem (i := 1074) (by decide +kernel) rfl, gmem (i := 1075) (by decide +kernel) rfl⟩
theorem gyX7_item : gY yX7_item cX7_item 7 (some .int) 4 := ⟨gmem (i := 1080) (by decide +kernel) rfl, gmem (i := 42) (by decide +kernel) rfl, by decide +kernel, by decide⟩
theorem vyX7_item : Cond.instanceMethod yX7_item ∈ gALL ∧ Cond.selects yX7_item.cls yX7_item yX7_item ∈ gALL := ⟨gmem (i := 1078) (by decide +kernel) rfl, gmem (i := 1079) (by decide +kernel) rfl⟩
theorem gyX7_copy : gY yX7_copy cX7_copy 8 (some .int) 5 := ⟨gmem (i := 1084) (by decide +kernel) rfl, gmem (i := 42) (by decide +kernel) rfl, by decide +kernel, by decide⟩
theorem vyX7_copy : Cond.instanceMethod yX7_copy ∈ gALL ∧ Cond.selects yX7_copy.cls yX7_copy yX7_copy ∈ gALL := ⟨gmem (i := 1082) (by decide +kernel) rfl, gmem (i := 1083) (by decide +kernel) rfl⟩
theorem mlL_9 : Cond.methodLink RL 9 yX6_init ∈ gALL := gmem (i := 54) (by decide +kernel) rfl
theorem mlL_13 : Cond.methodLink RL 13 yX6_walker ∈ gALL := gmem (i := 278) (by decide +kernel) rfl
theorem mlX6_51 : Cond.methodLink RX6 51 yX6_isCell ∈ gALL := gmem (i := 282) (by decide +kernel) rfl
theorem mlX6_63 : Cond.methodLink RX6 63 yX1_forget ∈ gALL := gmem (i := 285) (by decide +kernel) rfl
theorem mlX6_68 : Cond.methodLink RX6 68 yX0_enter ∈ gALL := gmem (i := 289) (by decide +kernel) rfl
theorem mlL_18 : Cond.methodLink RL 18 yX6_of ∈ gALL := gmem (i := 293) (by decide +kernel) rfl
theorem mlX6_72 : Cond.methodLink RX6 72 yX0_has ∈ gALL := gmem (i := 297) (by decide +kernel) rfl
theorem mlX6_88 : Cond.methodLink RX6 88 yX0_treadOf ∈ gALL := gmem (i := 301) (by decide +kernel) rfl
theorem mlX6_92 : Cond.methodLink RX6 92 yX0_shoesOf ∈ gALL := gmem (i := 305) (by decide +kernel) rfl
theorem mlX6_95 : Cond.methodLink RX6 95 yX3_look ∈ gALL := gmem (i := 309) (by decide +kernel) rfl
theorem mlX3_25 : Cond.methodLink RX3 25 yX3_lookWithout ∈ gALL := gmem (i := 313) (by decide +kernel) rfl
theorem mlX3_32 : Cond.methodLink RX3 32 yJ7_fill_53178 ∈ gALL := gmem (i := 317) (by decide +kernel) rfl
theorem mlX3_41 : Cond.methodLink RX3 41 yX0_depthBehind ∈ gALL := gmem (i := 320) (by decide +kernel) rfl
theorem mlX0_103 : Cond.methodLink RX0 103 yX0_isTideWithin ∈ gALL := gmem (i := 327) (by decide +kernel) rfl
theorem mlX0_107 : Cond.methodLink RX0 107 Lib.Math.max.name ∈ gALL := gmem (i := 331) (by decide +kernel) rfl
theorem mlX3_48 : Cond.methodLink RX3 48 yX3_raise ∈ gALL := gmem (i := 334) (by decide +kernel) rfl
theorem mlX3_62 : Cond.methodLink RX3 62 Lib.Math.min.name ∈ gALL := gmem (i := 341) (by decide +kernel) rfl
theorem mlX3_71 : Cond.methodLink RX3 71 Lib.Math.max.name ∈ gALL := gmem (i := 345) (by decide +kernel) rfl
theorem mlX3_52 : Cond.methodLink RX3 52 yX3_tally ∈ gALL := gmem (i := 346) (by decide +kernel) rfl
theorem mlX3_55 : Cond.methodLink RX3 55 yX3_holderOf ∈ gALL := gmem (i := 350) (by decide +kernel) rfl
theorem mlL_23 : Cond.methodLink RL 23 yX6_isle ∈ gALL := gmem (i := 354) (by decide +kernel) rfl
theorem mlL_27 : Cond.methodLink RL 27 yX6_print ∈ gALL := gmem (i := 362) (by decide +kernel) rfl
theorem mlL_31 : Cond.methodLink RL 31 yX6_claim ∈ gALL := gmem (i := 366) (by decide +kernel) rfl
theorem mlL_35 : Cond.methodLink RL 35 yX6_held ∈ gALL := gmem (i := 370) (by decide +kernel) rfl
theorem mlX6_117 : Cond.methodLink RX6 117 yX6_ahead ∈ gALL := gmem (i := 374) (by decide +kernel) rfl
theorem mlX6_176 : Cond.methodLink RX6 176 yX3_holderOf ∈ gALL := gmem (i := 378) (by decide +kernel) rfl
theorem mlL_40 : Cond.methodLink RL 40 yX6_type ∈ gALL := gmem (i := 379) (by decide +kernel) rfl
theorem mlX6_121 : Cond.methodLink RX6 121 yX4_put ∈ gALL := gmem (i := 383) (by decide +kernel) rfl
theorem mlL_44 : Cond.methodLink RL 44 yX6_settle ∈ gALL := gmem (i := 387) (by decide +kernel) rfl
theorem mlX6_127 : Cond.methodLink RX6 127 yX4_parse ∈ gALL := gmem (i := 391) (by decide +kernel) rfl
theorem mlX4_40 : Cond.methodLink RX4 40 yX4_take ∈ gALL := gmem (i := 395) (by decide +kernel) rfl
theorem mlX4_48 : Cond.methodLink RX4 48 yX4_skipBlanks ∈ gALL := gmem (i := 399) (by decide +kernel) rfl
theorem mlX4_44 : Cond.methodLink RX4 44 yX4_takeWalker ∈ gALL := gmem (i := 403) (by decide +kernel) rfl
theorem mlX4_51 : Cond.methodLink RX4 51 yX4_takeKind ∈ gALL := gmem (i := 407) (by decide +kernel) rfl
theorem mlX4_57 : Cond.methodLink RX4 57 yJ0_indexOf_0f7a4 ∈ gALL := gmem (i := 412) (by decide +kernel) rfl
theorem mlJ0_633 : Cond.methodLink RJ0 633 yJ0_indexOf_7cf53 ∈ gALL := gmem (i := 416) (by decide +kernel) rfl
theorem mlJ0_492 : Cond.methodLink RJ0 492 yJ0_isLatin1_aae02 ∈ gALL := gmem (i := 420) (by decide +kernel) rfl
theorem mlJ0_505 : Cond.methodLink RJ0 505 yJ0_length_8abf5 ∈ gALL := gmem (i := 426) (by decide +kernel) rfl
theorem mlJ0_335 : Cond.methodLink RJ0 335 yJ0_coder_7d493 ∈ gALL := gmem (i := 430) (by decide +kernel) rfl
theorem mlJ0_637 : Cond.methodLink RJ0 637 yJ1_indexOf_4cfef ∈ gALL := gmem (i := 434) (by decide +kernel) rfl
theorem mlJ1_88 : Cond.methodLink RJ1 88 yJ1_canEncode_9a6ad ∈ gALL := gmem (i := 437) (by decide +kernel) rfl
theorem mlJ1_92 : Cond.methodLink RJ1 92 Lib.Math.max.name ∈ gALL := gmem (i := 440) (by decide +kernel) rfl
theorem mlJ1_38 : Cond.methodLink RJ1 38 Lib.Math.min.name ∈ gALL := gmem (i := 441) (by decide +kernel) rfl
theorem mlJ1_95 : Cond.methodLink RJ1 95 yJ1_indexOfChar_4cfef ∈ gALL := gmem (i := 442) (by decide +kernel) rfl
theorem mlJ0_640 : Cond.methodLink RJ0 640 yJ2_indexOf_4cfef ∈ gALL := gmem (i := 445) (by decide +kernel) rfl
theorem mlJ2_224 : Cond.methodLink RJ2 224 Lib.Math.max.name ∈ gALL := gmem (i := 448) (by decide +kernel) rfl
theorem mlJ2_183 : Cond.methodLink RJ2 183 Lib.Math.min.name ∈ gALL := gmem (i := 449) (by decide +kernel) rfl
theorem mlJ2_228 : Cond.methodLink RJ2 228 yJ2_indexOfChar_4cfef ∈ gALL := gmem (i := 451) (by decide +kernel) rfl
theorem mlJ2_96 : Cond.methodLink RJ2 96 yJ2_checkBoundsBeginEnd_d044e ∈ gALL := gmem (i := 454) (by decide +kernel) rfl
theorem mlJ2_48 : Cond.methodLink RJ2 48 yJ2_length_9d52b ∈ gALL := gmem (i := 457) (by decide +kernel) rfl
theorem mlJ2_241 : Cond.methodLink RJ2 241 yJ0_checkBoundsBeginEnd_23922 ∈ gALL := gmem (i := 460) (by decide +kernel) rfl
theorem mlJ0_1062 : Cond.methodLink RJ0 1062 yJ3_checkFromToIndex_8c36e ∈ gALL := gmem (i := 465) (by decide +kernel) rfl
theorem mlJ2_244 : Cond.methodLink RJ2 244 yJ2_indexOfCharUnsafe_4cfef ∈ gALL := gmem (i := 468) (by decide +kernel) rfl
theorem mlJ2_71 : Cond.methodLink RJ2 71 yJ2_getChar_3b067 ∈ gALL := gmem (i := 471) (by decide +kernel) rfl
theorem mlJ2_232 : Cond.methodLink RJ2 232 yJ2_indexOfSupplementary_4cfef ∈ gALL := gmem (i := 480) (by decide +kernel) rfl
theorem mlJ2_164 : Cond.methodLink RJ2 164 yJ11_isValidCodePoint_9a6ad ∈ gALL := gmem (i := 483) (by decide +kernel) rfl
theorem mlJ2_157 : Cond.methodLink RJ2 157 yJ11_highSurrogate_5068e ∈ gALL := gmem (i := 486) (by decide +kernel) rfl
theorem mlJ2_161 : Cond.methodLink RJ2 161 yJ11_lowSurrogate_5068e ∈ gALL := gmem (i := 490) (by decide +kernel) rfl
theorem mlX6_131 : Cond.methodLink RX6 131 yX0_settleAs ∈ gALL := gmem (i := 494) (by decide +kernel) rfl
theorem mlX0_57 : Cond.methodLink RX0 57 yX1_forget ∈ gALL := gmem (i := 498) (by decide +kernel) rfl
theorem mlX0_60 : Cond.methodLink RX0 60 yJ7_fill_53178 ∈ gALL := gmem (i := 499) (by decide +kernel) rfl
theorem mlX0_78 : Cond.methodLink RX0 78 yX0_enter ∈ gALL := gmem (i := 500) (by decide +kernel) rfl
theorem mlL_49 : Cond.methodLink RL 49 yX6_count ∈ gALL := gmem (i := 502) (by decide +kernel) rfl
theorem mlX6_144 : Cond.methodLink RX6 144 yX0_troddenCells ∈ gALL := gmem (i := 506) (by decide +kernel) rfl
theorem mlX0_119 : Cond.methodLink RX0 119 yX0_isTrodden ∈ gALL := gmem (i := 510) (by decide +kernel) rfl
theorem mlL_53 : Cond.methodLink RL 53 yX6_step ∈ gALL := gmem (i := 514) (by decide +kernel) rfl
theorem mlX6_147 : Cond.methodLink RX6 147 yX6_beside ∈ gALL := gmem (i := 518) (by decide +kernel) rfl
theorem mlX6_273 : Cond.methodLink RX6 273 yX6_columnOf ∈ gALL := gmem (i := 521) (by decide +kernel) rfl
theorem mlX6_276 : Cond.methodLink RX6 276 yX6_rowOf ∈ gALL := gmem (i := 522) (by decide +kernel) rfl
theorem mlX6_150 : Cond.methodLink RX6 150 yX1_keep ∈ gALL := gmem (i := 523) (by decide +kernel) rfl
theorem mlX1_37 : Cond.methodLink RX1 37 arraycopyName ∈ gALL := gmem (i := 527) (by decide +kernel) rfl
theorem mlX1_51 : Cond.methodLink RX1 51 Lib.Math.min.name ∈ gALL := gmem (i := 530) (by decide +kernel) rfl
theorem mlX6_154 : Cond.methodLink RX6 154 yX0_stepTo ∈ gALL := gmem (i := 531) (by decide +kernel) rfl
theorem mlX0_86 : Cond.methodLink RX0 86 yX0_shoesOf ∈ gALL := gmem (i := 538) (by decide +kernel) rfl
theorem mlX0_90 : Cond.methodLink RX0 90 yX0_treadOf ∈ gALL := gmem (i := 539) (by decide +kernel) rfl
theorem mlX6_287 : Cond.methodLink RX6 287 Lib.Math.min.name ∈ gALL := gmem (i := 543) (by decide +kernel) rfl
theorem mlL_57 : Cond.methodLink RL 57 yX6_hours ∈ gALL := gmem (i := 544) (by decide +kernel) rfl
theorem mlX6_158 : Cond.methodLink RX6 158 yX6_hoursFault ∈ gALL := gmem (i := 548) (by decide +kernel) rfl
theorem mlX6_161 : Cond.methodLink RX6 161 yX0_passHour ∈ gALL := gmem (i := 552) (by decide +kernel) rfl
theorem mlX0_97 : Cond.methodLink RX0 97 yX0_depthBehind ∈ gALL := gmem (i := 556) (by decide +kernel) rfl
theorem mlL_61 : Cond.methodLink RL 61 yX6_drift ∈ gALL := gmem (i := 557) (by decide +kernel) rfl
theorem mlX6_164 : Cond.methodLink RX6 164 yX0_drawCell ∈ gALL := gmem (i := 561) (by decide +kernel) rfl
theorem mlX6_167 : Cond.methodLink RX6 167 yX0_sweep ∈ gALL := gmem (i := 568) (by decide +kernel) rfl
theorem mlL_65 : Cond.methodLink RL 65 yX6_rake ∈ gALL := gmem (i := 572) (by decide +kernel) rfl
theorem mlL_69 : Cond.methodLink RL 69 yX6_undo ∈ gALL := gmem (i := 576) (by decide +kernel) rfl
theorem mlX6_170 : Cond.methodLink RX6 170 yX1_giveBack ∈ gALL := gmem (i := 580) (by decide +kernel) rfl
theorem mlL_73 : Cond.methodLink RL 73 yX6_seed ∈ gALL := gmem (i := 584) (by decide +kernel) rfl
theorem mlL_77 : Cond.methodLink RL 77 yX6_ahead ∈ gALL := gmem (i := 588) (by decide +kernel) rfl
theorem mlL_81 : Cond.methodLink RL 81 yX6_land ∈ gALL := gmem (i := 589) (by decide +kernel) rfl
theorem mlL_85 : Cond.methodLink RL 85 yX6_lasts ∈ gALL := gmem (i := 593) (by decide +kernel) rfl
theorem mlL_89 : Cond.methodLink RL 89 yX6_county ∈ gALL := gmem (i := 597) (by decide +kernel) rfl
theorem mlX6_181 : Cond.methodLink RX6 181 yX6_spreadOver ∈ gALL := gmem (i := 602) (by decide +kernel) rfl
theorem mlX6_283 : Cond.methodLink RX6 283 yX6_besideSet ∈ gALL := gmem (i := 605) (by decide +kernel) rfl
theorem mlX6_187 : Cond.methodLink RX6 187 yJ13_bitCount_95d88 ∈ gALL := gmem (i := 611) (by decide +kernel) rfl
theorem mlL_93 : Cond.methodLink RL 93 yX6_way ∈ gALL := gmem (i := 617) (by decide +kernel) rfl
theorem mlX6_193 : Cond.methodLink RX6 193 yX6_fewestTrodden ∈ gALL := gmem (i := 621) (by decide +kernel) rfl
theorem mlL_97 : Cond.methodLink RL 97 yX6_walk ∈ gALL := gmem (i := 624) (by decide +kernel) rfl
theorem mlX6_197 : Cond.methodLink RX6 197 yX5_begin ∈ gALL := gmem (i := 628) (by decide +kernel) rfl
theorem mlX5_28 : Cond.methodLink RX5 28 yX0_shoesOf ∈ gALL := gmem (i := 632) (by decide +kernel) rfl
theorem mlX5_34 : Cond.methodLink RX5 34 yX3_look ∈ gALL := gmem (i := 633) (by decide +kernel) rfl
theorem mlX5_41 : Cond.methodLink RX5 41 arraycopyName ∈ gALL := gmem (i := 634) (by decide +kernel) rfl
theorem mlX6_201 : Cond.methodLink RX6 201 yX5_go ∈ gALL := gmem (i := 635) (by decide +kernel) rfl
theorem mlX5_69 : Cond.methodLink RX5 69 yX5_tread ∈ gALL := gmem (i := 644) (by decide +kernel) rfl
theorem mlX5_73 : Cond.methodLink RX5 73 yX0_treadOf ∈ gALL := gmem (i := 648) (by decide +kernel) rfl
theorem mlX5_80 : Cond.methodLink RX5 80 yX0_depthBehind ∈ gALL := gmem (i := 650) (by decide +kernel) rfl
theorem mlX5_86 : Cond.methodLink RX5 86 yX3_raise ∈ gALL := gmem (i := 651) (by decide +kernel) rfl
theorem mlX6_205 : Cond.methodLink RX6 205 yX3_tally ∈ gALL := gmem (i := 652) (by decide +kernel) rfl
theorem mlX6_208 : Cond.methodLink RX6 208 yX6_wayAt ∈ gALL := gmem (i := 653) (by decide +kernel) rfl
theorem mlL_102 : Cond.methodLink RL 102 yX6_well ∈ gALL := gmem (i := 654) (by decide +kernel) rfl
theorem mlL_106 : Cond.methodLink RL 106 yX6_crabs ∈ gALL := gmem (i := 658) (by decide +kernel) rfl
theorem mlX6_211 : Cond.methodLink RX6 211 yX0_depthBehind ∈ gALL := gmem (i := 662) (by decide +kernel) rfl
theorem mlL_110 : Cond.methodLink RL 110 yX6_image ∈ gALL := gmem (i := 664) (by decide +kernel) rfl
theorem mlX6_215 : Cond.methodLink RX6 215 yX0_become ∈ gALL := gmem (i := 668) (by decide +kernel) rfl
theorem mlX0_47 : Cond.methodLink RX0 47 arraycopyName ∈ gALL := gmem (i := 672) (by decide +kernel) rfl
theorem mlX0_53 : Cond.methodLink RX0 53 yX1_become ∈ gALL := gmem (i := 673) (by decide +kernel) rfl
theorem mlL_114 : Cond.methodLink RL 114 yX6_restore ∈ gALL := gmem (i := 677) (by decide +kernel) rfl
theorem mlL_118 : Cond.methodLink RL 118 yX6_raked ∈ gALL := gmem (i := 681) (by decide +kernel) rfl
theorem mlX6_218 : Cond.methodLink RX6 218 yX6_itemsFault ∈ gALL := gmem (i := 685) (by decide +kernel) rfl
theorem mlX6_245 : Cond.methodLink RX6 245 yX6_isSheet ∈ gALL := gmem (i := 689) (by decide +kernel) rfl
theorem mlX6_250 : Cond.methodLink RX6 250 yX2_isNothing ∈ gALL := gmem (i := 692) (by decide +kernel) rfl
theorem mlX6_264 : Cond.methodLink RX6 264 yX2_spans ∈ gALL := gmem (i := 696) (by decide +kernel) rfl
theorem mlX6_222 : Cond.methodLink RX6 222 yX2_isWithin ∈ gALL := gmem (i := 700) (by decide +kernel) rfl
theorem mlX6_226 : Cond.methodLink RX6 226 yX6_isLandOfAll ∈ gALL := gmem (i := 704) (by decide +kernel) rfl
theorem mlX6_230 : Cond.methodLink RX6 230 yX0_isTrodden ∈ gALL := gmem (i := 708) (by decide +kernel) rfl
theorem mlX6_233 : Cond.methodLink RX6 233 yX3_lookWithout ∈ gALL := gmem (i := 709) (by decide +kernel) rfl
theorem mlL_122 : Cond.methodLink RL 122 yX6_shoes ∈ gALL := gmem (i := 710) (by decide +kernel) rfl
theorem mlX6_241 : Cond.methodLink RX6 241 yX6_hasPrints ∈ gALL := gmem (i := 714) (by decide +kernel) rfl
theorem mlL_126 : Cond.methodLink RL 126 yX6_film ∈ gALL := gmem (i := 718) (by decide +kernel) rfl
theorem mlL_131 : Cond.methodLink RL 131 yX6_sheet ∈ gALL := gmem (i := 722) (by decide +kernel) rfl
theorem mlX6_248 : Cond.methodLink RX6 248 yX2_begin ∈ gALL := gmem (i := 726) (by decide +kernel) rfl
theorem mlX2_22 : Cond.methodLink RX2 22 yJ7_fill_d0a16 ∈ gALL := gmem (i := 730) (by decide +kernel) rfl
theorem mlL_135 : Cond.methodLink RL 135 yX6_drop ∈ gALL := gmem (i := 733) (by decide +kernel) rfl
theorem mlX6_254 : Cond.methodLink RX6 254 yX2_end ∈ gALL := gmem (i := 737) (by decide +kernel) rfl
theorem mlL_141 : Cond.methodLink RL 141 yX6_item ∈ gALL := gmem (i := 741) (by decide +kernel) rfl
theorem mlX6_257 : Cond.methodLink RX6 257 yX6_lowestBits ∈ gALL := gmem (i := 745) (by decide +kernel) rfl
theorem mlL_146 : Cond.methodLink RL 146 yX6_copy ∈ gALL := gmem (i := 748) (by decide +kernel) rfl
theorem mlX6_267 : Cond.methodLink RX6 267 arraycopyName ∈ gALL := gmem (i := 752) (by decide +kernel) rfl
theorem mlL_12 : Cond.methodLink RL 12 yX7_init ∈ gALL := gmem (i := 755) (by decide +kernel) rfl
theorem mlL_17 : Cond.methodLink RL 17 yX7_walker ∈ gALL := gmem (i := 818) (by decide +kernel) rfl
theorem mlX7_51 : Cond.methodLink RX7 51 yX7_in ∈ gALL := gmem (i := 823) (by decide +kernel) rfl
theorem mlX7_65 : Cond.methodLink RX7 65 yX7_isCell ∈ gALL := gmem (i := 827) (by decide +kernel) rfl
theorem mlL_22 : Cond.methodLink RL 22 yX7_of ∈ gALL := gmem (i := 831) (by decide +kernel) rfl
theorem mlX7_82 : Cond.methodLink RX7 82 yX7_isWalker ∈ gALL := gmem (i := 835) (by decide +kernel) rfl
theorem mlX7_87 : Cond.methodLink RX7 87 yX7_deep ∈ gALL := gmem (i := 840) (by decide +kernel) rfl
theorem mlX7_57 : Cond.methodLink RX7 57 yX7_kind ∈ gALL := gmem (i := 844) (by decide +kernel) rfl
theorem mlX7_90 : Cond.methodLink RX7 90 yX7_shoesOf ∈ gALL := gmem (i := 848) (by decide +kernel) rfl
theorem mlX7_93 : Cond.methodLink RX7 93 yX7_landOf ∈ gALL := gmem (i := 852) (by decide +kernel) rfl
theorem mlX7_79 : Cond.methodLink RX7 79 yX7_holder ∈ gALL := gmem (i := 856) (by decide +kernel) rfl
theorem mlX7_75 : Cond.methodLink RX7 75 yX7_claimOf ∈ gALL := gmem (i := 860) (by decide +kernel) rfl
theorem mlL_26 : Cond.methodLink RL 26 yX7_isle ∈ gALL := gmem (i := 865) (by decide +kernel) rfl
theorem mlX7_104 : Cond.methodLink RX7 104 yX7_canIsle ∈ gALL := gmem (i := 869) (by decide +kernel) rfl
theorem mlL_30 : Cond.methodLink RL 30 yX7_print ∈ gALL := gmem (i := 876) (by decide +kernel) rfl
theorem mlL_34 : Cond.methodLink RL 34 yX7_claim ∈ gALL := gmem (i := 880) (by decide +kernel) rfl
theorem mlL_39 : Cond.methodLink RL 39 yX7_held ∈ gALL := gmem (i := 884) (by decide +kernel) rfl
theorem mlL_52 : Cond.methodLink RL 52 yX7_count ∈ gALL := gmem (i := 888) (by decide +kernel) rfl
theorem mlX7_108 : Cond.methodLink RX7 108 yX7_prints ∈ gALL := gmem (i := 892) (by decide +kernel) rfl
theorem mlX7_111 : Cond.methodLink RX7 111 yX7_allHeld ∈ gALL := gmem (i := 896) (by decide +kernel) rfl
theorem mlL_43 : Cond.methodLink RL 43 yX7_type ∈ gALL := gmem (i := 900) (by decide +kernel) rfl
theorem mlL_48 : Cond.methodLink RL 48 yX7_settle ∈ gALL := gmem (i := 906) (by decide +kernel) rfl
theorem mlX7_136 : Cond.methodLink RX7 136 yX7_digit ∈ gALL := gmem (i := 910) (by decide +kernel) rfl
theorem mlX7_129 : Cond.methodLink RX7 129 yX7_here ∈ gALL := gmem (i := 914) (by decide +kernel) rfl
theorem mlX7_132 : Cond.methodLink RX7 132 yX7_must ∈ gALL := gmem (i := 918) (by decide +kernel) rfl
theorem mlX7_139 : Cond.methodLink RX7 139 yX7_takes ∈ gALL := gmem (i := 922) (by decide +kernel) rfl
theorem mlX7_143 : Cond.methodLink RX7 143 yX7_readWalker ∈ gALL := gmem (i := 926) (by decide +kernel) rfl
theorem mlL_56 : Cond.methodLink RL 56 yX7_step ∈ gALL := gmem (i := 930) (by decide +kernel) rfl
theorem mlX7_146 : Cond.methodLink RX7 146 yX7_beside ∈ gALL := gmem (i := 934) (by decide +kernel) rfl
theorem mlX7_153 : Cond.methodLink RX7 153 yX7_notes ∈ gALL := gmem (i := 937) (by decide +kernel) rfl
theorem mlX7_156 : Cond.methodLink RX7 156 yX7_steps ∈ gALL := gmem (i := 941) (by decide +kernel) rfl
theorem mlX7_149 : Cond.methodLink RX7 149 yX7_treads ∈ gALL := gmem (i := 945) (by decide +kernel) rfl
theorem mlL_60 : Cond.methodLink RL 60 yX7_hours ∈ gALL := gmem (i := 949) (by decide +kernel) rfl
theorem mlX7_161 : Cond.methodLink RX7 161 yX7_goesBy ∈ gALL := gmem (i := 954) (by decide +kernel) rfl
theorem mlL_64 : Cond.methodLink RL 64 yX7_drift ∈ gALL := gmem (i := 958) (by decide +kernel) rfl
theorem mlX7_171 : Cond.methodLink RX7 171 yX7_rakes ∈ gALL := gmem (i := 966) (by decide +kernel) rfl
theorem mlL_68 : Cond.methodLink RL 68 yX7_rake ∈ gALL := gmem (i := 970) (by decide +kernel) rfl
theorem mlL_72 : Cond.methodLink RL 72 yX7_undo ∈ gALL := gmem (i := 974) (by decide +kernel) rfl
theorem mlL_76 : Cond.methodLink RL 76 yX7_seed ∈ gALL := gmem (i := 978) (by decide +kernel) rfl
theorem mlL_80 : Cond.methodLink RL 80 yX7_ahead ∈ gALL := gmem (i := 982) (by decide +kernel) rfl
theorem mlX7_176 : Cond.methodLink RX7 176 yX7_asides ∈ gALL := gmem (i := 987) (by decide +kernel) rfl
theorem mlX7_179 : Cond.methodLink RX7 179 yX7_goesOn ∈ gALL := gmem (i := 991) (by decide +kernel) rfl
theorem mlX7_182 : Cond.methodLink RX7 182 yX7_backs ∈ gALL := gmem (i := 995) (by decide +kernel) rfl
theorem mlL_84 : Cond.methodLink RL 84 yX7_land ∈ gALL := gmem (i := 999) (by decide +kernel) rfl
theorem mlL_88 : Cond.methodLink RL 88 yX7_lasts ∈ gALL := gmem (i := 1003) (by decide +kernel) rfl
theorem mlL_92 : Cond.methodLink RL 92 yX7_county ∈ gALL := gmem (i := 1007) (by decide +kernel) rfl
theorem mlL_96 : Cond.methodLink RL 96 yX7_way ∈ gALL := gmem (i := 1011) (by decide +kernel) rfl
theorem mlX7_185 : Cond.methodLink RX7 185 yX7_holds ∈ gALL := gmem (i := 1015) (by decide +kernel) rfl
theorem mlL_101 : Cond.methodLink RL 101 yX7_walk ∈ gALL := gmem (i := 1019) (by decide +kernel) rfl
theorem mlX7_188 : Cond.methodLink RX7 188 yX7_isGone ∈ gALL := gmem (i := 1023) (by decide +kernel) rfl
theorem mlL_105 : Cond.methodLink RL 105 yX7_well ∈ gALL := gmem (i := 1027) (by decide +kernel) rfl
theorem mlL_109 : Cond.methodLink RL 109 yX7_crabs ∈ gALL := gmem (i := 1031) (by decide +kernel) rfl
theorem mlL_113 : Cond.methodLink RL 113 yX7_image ∈ gALL := gmem (i := 1037) (by decide +kernel) rfl
theorem mlL_117 : Cond.methodLink RL 117 yX7_restore ∈ gALL := gmem (i := 1041) (by decide +kernel) rfl
theorem mlL_121 : Cond.methodLink RL 121 yX7_raked ∈ gALL := gmem (i := 1045) (by decide +kernel) rfl
theorem mlX7_201 : Cond.methodLink RX7 201 yX7_isSheet ∈ gALL := gmem (i := 1049) (by decide +kernel) rfl
theorem mlX7_204 : Cond.methodLink RX7 204 yX7_isLane ∈ gALL := gmem (i := 1052) (by decide +kernel) rfl
theorem mlX7_207 : Cond.methodLink RX7 207 yX7_why ∈ gALL := gmem (i := 1055) (by decide +kernel) rfl
theorem mlL_125 : Cond.methodLink RL 125 yX7_shoes ∈ gALL := gmem (i := 1060) (by decide +kernel) rfl
theorem mlL_130 : Cond.methodLink RL 130 yX7_film ∈ gALL := gmem (i := 1065) (by decide +kernel) rfl
theorem mlL_134 : Cond.methodLink RL 134 yX7_sheet ∈ gALL := gmem (i := 1069) (by decide +kernel) rfl
theorem mlL_138 : Cond.methodLink RL 138 yX7_drop ∈ gALL := gmem (i := 1073) (by decide +kernel) rfl
theorem mlL_145 : Cond.methodLink RL 145 yX7_item ∈ gALL := gmem (i := 1077) (by decide +kernel) rfl
theorem mlL_149 : Cond.methodLink RL 149 yX7_copy ∈ gALL := gmem (i := 1081) (by decide +kernel) rfl
def gNest : List Cond := [.methodLinkNest RX0 100 yX6_rowOf "FootIsle", .methodLinkNest RX3 59 yX6_columnOf "FootIsle", .methodLinkNest RX3 68 yX6_rowOf "FootIsle", .methodLinkNest RX0 82 yX6_comesDown "FootIsle", .methodLinkNest RX0 93 yX6_deepen "FootIsle", .methodLinkNest RX5 51 yX6_wayAt "FootIsle", .methodLinkNest RX5 55 yX6_beside "FootIsle", .methodLinkNest RX5 65 yX6_comesDown "FootIsle", .methodLinkNest RX5 76 yX6_deepen "FootIsle"]
theorem gNest_on : ∀ q ∈ gNest, q.onTables = true := by
  intro q hq
  simp only [gNest, List.mem_cons, List.not_mem_nil, or_false] at hq
  rcases hq with rfl | rfl | rfl | rfl | rfl | rfl | rfl | rfl | rfl <;> rfl
theorem gNest_warm : ∀ q ∈ gNest, ∀ {s U : State}, s.WarmedH U.vm → va_Nw q s → va_Nw q U := by
  intro q hq s U hW h
  simp only [gNest, List.mem_cons, List.not_mem_nil, or_false] at hq
  rcases hq with rfl | rfl | rfl | rfl | rfl | rfl | rfl | rfl | rfl <;> exact va_Nw.warmM hW h
theorem gNest_tbl : ∀ q ∈ gNest, q ∈ lw_tbl := by
  intro q hq
  simp only [gNest, List.mem_cons, List.not_mem_nil, or_false] at hq
  rcases hq with rfl | rfl | rfl | rfl | rfl | rfl | rfl | rfl | rfl
  · exact List.mem_of_getElem? (i := 324) (by decide +kernel)
  · exact List.mem_of_getElem? (i := 338) (by decide +kernel)
  · exact List.mem_of_getElem? (i := 344) (by decide +kernel)
  · exact List.mem_of_getElem? (i := 535) (by decide +kernel)
  · exact List.mem_of_getElem? (i := 540) (by decide +kernel)
  · exact List.mem_of_getElem? (i := 639) (by decide +kernel)
  · exact List.mem_of_getElem? (i := 642) (by decide +kernel)
  · exact List.mem_of_getElem? (i := 643) (by decide +kernel)
  · exact List.mem_of_getElem? (i := 649) (by decide +kernel)
theorem mlX0_100 : Cond.methodLinkNest RX0 100 yX6_rowOf "FootIsle" ∈ gNest := List.mem_of_getElem? (i := 0) rfl
theorem mlX3_59 : Cond.methodLinkNest RX3 59 yX6_columnOf "FootIsle" ∈ gNest := List.mem_of_getElem? (i := 1) rfl
theorem mlX3_68 : Cond.methodLinkNest RX3 68 yX6_rowOf "FootIsle" ∈ gNest := List.mem_of_getElem? (i := 2) rfl
theorem mlX0_82 : Cond.methodLinkNest RX0 82 yX6_comesDown "FootIsle" ∈ gNest := List.mem_of_getElem? (i := 3) rfl
theorem mlX0_93 : Cond.methodLinkNest RX0 93 yX6_deepen "FootIsle" ∈ gNest := List.mem_of_getElem? (i := 4) rfl
theorem mlX5_51 : Cond.methodLinkNest RX5 51 yX6_wayAt "FootIsle" ∈ gNest := List.mem_of_getElem? (i := 5) rfl
theorem mlX5_55 : Cond.methodLinkNest RX5 55 yX6_beside "FootIsle" ∈ gNest := List.mem_of_getElem? (i := 6) rfl
theorem mlX5_65 : Cond.methodLinkNest RX5 65 yX6_comesDown "FootIsle" ∈ gNest := List.mem_of_getElem? (i := 7) rfl
theorem mlX5_76 : Cond.methodLinkNest RX5 76 yX6_deepen "FootIsle" ∈ gNest := List.mem_of_getElem? (i := 8) rfl
theorem fsX6_102 : Cond.fieldLink RX6 102 "FootIsle" "LEAST_SETTING" "[I" ∈ gALL := gmem (i := 358) (by decide +kernel) rfl
theorem fsX6_105 : Cond.fieldLink RX6 105 "FootIsle" "MOST_SETTING" "[I" ∈ gALL := gmem (i := 360) (by decide +kernel) rfl
theorem kJ2_227 : Cond.constant RJ2 227 (65536) ∈ gALL := gmem (i := 450) (by decide +kernel) rfl
theorem kJ11_110 : Cond.constant RJ11 110 (55232) ∈ gALL := gmem (i := 489) (by decide +kernel) rfl
theorem kJ11_76 : Cond.constant RJ11 76 (56320) ∈ gALL := gmem (i := 493) (by decide +kernel) rfl
theorem kX0_113 : Cond.constantLong RX0 113 (1103515245) ∈ gALL := gmem (i := 565) (by decide +kernel) rfl
theorem kX0_115 : Cond.constantLong RX0 115 (12345) ∈ gALL := gmem (i := 566) (by decide +kernel) rfl
theorem kX0_117 : Cond.constantLong RX0 117 (2147483647) ∈ gALL := gmem (i := 567) (by decide +kernel) rfl
theorem kX6_179 : Cond.constantLong RX6 179 (-35604928818740737) ∈ gALL := gmem (i := 601) (by decide +kernel) rfl
theorem kX6_279 : Cond.constantLong RX6 279 (-72340172838076674) ∈ gALL := gmem (i := 608) (by decide +kernel) rfl
theorem kX6_281 : Cond.constantLong RX6 281 (9187201950435737471) ∈ gALL := gmem (i := 609) (by decide +kernel) rfl
theorem kX6_185 : Cond.constantLong RX6 185 (-1) ∈ gALL := gmem (i := 610) (by decide +kernel) rfl
theorem kJ13_314 : Cond.constantLong RJ13 314 (6148914691236517205) ∈ gALL := gmem (i := 614) (by decide +kernel) rfl
theorem kJ13_316 : Cond.constantLong RJ13 316 (3689348814741910323) ∈ gALL := gmem (i := 615) (by decide +kernel) rfl
theorem kJ13_318 : Cond.constantLong RJ13 318 (1085102592571150095) ∈ gALL := gmem (i := 616) (by decide +kernel) rfl
theorem kX6_214 : Cond.constant RX6 214 (1000000) ∈ gALL := gmem (i := 663) (by decide +kernel) rfl
theorem kX7_61 : Cond.constantLong RX7 61 (4) ∈ gALL := gmem (i := 822) (by decide +kernel) rfl
theorem kX7_63 : Cond.constantLong RX7 63 (9) ∈ gALL := gmem (i := 826) (by decide +kernel) rfl
theorem kX7_55 : Cond.constantLong RX7 55 (63) ∈ gALL := gmem (i := 830) (by decide +kernel) rfl
theorem kX7_85 : Cond.constantLong RX7 85 (6) ∈ gALL := gmem (i := 839) (by decide +kernel) rfl
theorem kX7_73 : Cond.constantLong RX7 73 (7) ∈ gALL := gmem (i := 864) (by decide +kernel) rfl
theorem kX7_96 : Cond.constantLong RX7 96 (8) ∈ gALL := gmem (i := 872) (by decide +kernel) rfl
theorem kX7_98 : Cond.constantLong RX7 98 (3) ∈ gALL := gmem (i := 873) (by decide +kernel) rfl
theorem kX7_100 : Cond.constantLong RX7 100 (2) ∈ gALL := gmem (i := 874) (by decide +kernel) rfl
theorem kX7_102 : Cond.constantLong RX7 102 (12) ∈ gALL := gmem (i := 875) (by decide +kernel) rfl
theorem kX7_115 : Cond.constantLong RX7 115 (32) ∈ gALL := gmem (i := 904) (by decide +kernel) rfl
theorem kX7_117 : Cond.constantLong RX7 117 (126) ∈ gALL := gmem (i := 905) (by decide +kernel) rfl
theorem kX7_159 : Cond.constantLong RX7 159 (24) ∈ gALL := gmem (i := 953) (by decide +kernel) rfl
theorem kX7_164 : Cond.constantLong RX7 164 (1103515245) ∈ gALL := gmem (i := 962) (by decide +kernel) rfl
theorem kX7_166 : Cond.constantLong RX7 166 (12345) ∈ gALL := gmem (i := 963) (by decide +kernel) rfl
theorem kX7_168 : Cond.constantLong RX7 168 (2147483647) ∈ gALL := gmem (i := 964) (by decide +kernel) rfl
theorem kX7_170 : Cond.constant RX7 170 (65536) ∈ gALL := gmem (i := 965) (by decide +kernel) rfl
theorem kX7_174 : Cond.constantLong RX7 174 (48) ∈ gALL := gmem (i := 986) (by decide +kernel) rfl
theorem kX7_192 : Cond.constantLong RX7 192 (100) ∈ gALL := gmem (i := 1035) (by decide +kernel) rfl
theorem kX7_194 : Cond.constant RX7 194 (1000000) ∈ gALL := gmem (i := 1036) (by decide +kernel) rfl
theorem kX7_211 : Cond.constantLong RX7 211 (64) ∈ gALL := gmem (i := 1059) (by decide +kernel) rfl
theorem kX7_213 : Cond.constantLong RX7 213 (99) ∈ gALL := gmem (i := 1064) (by decide +kernel) rfl
theorem kL_139 : Cond.constantLong RL 139 (4294967295) ∈ gALL := gmem (i := 1085) (by decide +kernel) rfl
theorem g_max1 : Cond.static Lib.Math.max.name ∈ gALL := gmem (i := 332) (by decide +kernel) rfl
theorem g_min1 : Cond.static Lib.Math.min.name ∈ gALL := gmem (i := 342) (by decide +kernel) rfl
theorem g_math : Cond.initialized "java/lang/Math" ∈ gALL := gmem (i := 44) (by decide +kernel) rfl
theorem g_max2 : Cond.code Lib.Math.max.name Lib.Math.max.code 2 (some .int) ∈ gALL := gmem (i := 333) (by decide +kernel) rfl
theorem g_min2 : Cond.code Lib.Math.min.name Lib.Math.min.code 2 (some .int) ∈ gALL := gmem (i := 343) (by decide +kernel) rfl
theorem g_cpy1 : Cond.native arraycopyName ∈ gALL := gmem (i := 529) (by decide +kernel) rfl
theorem g_cpy2 : Cond.static arraycopyName ∈ gALL := gmem (i := 528) (by decide +kernel) rfl
theorem g_cpy3 : Cond.initialized "java/lang/System" ∈ gALL := gmem (i := 50) (by decide +kernel) rfl
