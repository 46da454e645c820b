section
/-- a private method of a class that the tables say can be made, by its rows of tables_1 -/
def lw_okq (q : MethodName × Nat) : Prop := (q.1.cls ≠ "java/lang/invoke/MethodHandle" ∧ q.1.cls ≠ "java/lang/invoke/VarHandle") ∧ Cond.instantiable q.1.cls q.2 ∈ tables_1 ∧ Cond.privateMethod q.1 ∈ tables_1 ∧ Cond.instanceMethod q.1 ∈ tables_1
theorem lw_p0 : lw_okq (⟨"FootIsle$Tape", "take", "(CC)I"⟩, 9) := ⟨⟨by decide +kernel, by decide +kernel⟩, List.mem_of_getElem? (i := 117) (by decide +kernel), List.mem_of_getElem? (i := 362) (by decide +kernel), List.mem_of_getElem? (i := 363) (by decide +kernel)⟩
theorem lw_p1 : lw_okq (⟨"FootIsle$Tape", "skipBlanks", "()V"⟩, 9) := ⟨⟨by decide +kernel, by decide +kernel⟩, List.mem_of_getElem? (i := 117) (by decide +kernel), List.mem_of_getElem? (i := 366) (by decide +kernel), List.mem_of_getElem? (i := 367) (by decide +kernel)⟩
theorem lw_p2 : lw_okq (⟨"FootIsle$Tape", "takeWalker", "(I)Z"⟩, 9) := ⟨⟨by decide +kernel, by decide +kernel⟩, List.mem_of_getElem? (i := 117) (by decide +kernel), List.mem_of_getElem? (i := 370) (by decide +kernel), List.mem_of_getElem? (i := 371) (by decide +kernel)⟩
theorem lw_p3 : lw_okq (⟨"FootIsle$Tape", "takeKind", "()I"⟩, 9) := ⟨⟨by decide +kernel, by decide +kernel⟩, List.mem_of_getElem? (i := 117) (by decide +kernel), List.mem_of_getElem? (i := 374) (by decide +kernel), List.mem_of_getElem? (i := 375) (by decide +kernel)⟩
theorem lw_p4 : lw_okq (⟨"FootIsle", "hoursFault", "(I)I"⟩, 7) := ⟨⟨by decide +kernel, by decide +kernel⟩, List.mem_of_getElem? (i := 19) (by decide +kernel), List.mem_of_getElem? (i := 515) (by decide +kernel), List.mem_of_getElem? (i := 516) (by decide +kernel)⟩
theorem lw_p5 : lw_okq (⟨"FootIsle$Trial", "tread", "(LFootIsle$Isle;LFootIsle$Survey;I)V"⟩, 5) := ⟨⟨by decide +kernel, by decide +kernel⟩, List.mem_of_getElem? (i := 183) (by decide +kernel), List.mem_of_getElem? (i := 611) (by decide +kernel), List.mem_of_getElem? (i := 612) (by decide +kernel)⟩
theorem lw_p6 : lw_okq (⟨"FootIsle", "itemsFault", "(IIII)I"⟩, 7) := ⟨⟨by decide +kernel, by decide +kernel⟩, List.mem_of_getElem? (i := 19) (by decide +kernel), List.mem_of_getElem? (i := 652) (by decide +kernel), List.mem_of_getElem? (i := 653) (by decide +kernel)⟩
theorem lw_p7 : lw_okq (⟨"FootIsle", "isLandOfAll", "(LFootIsle$Sheet;I)Z"⟩, 7) := ⟨⟨by decide +kernel, by decide +kernel⟩, List.mem_of_getElem? (i := 19) (by decide +kernel), List.mem_of_getElem? (i := 671) (by decide +kernel), List.mem_of_getElem? (i := 672) (by decide +kernel)⟩
theorem lw_p8 : lw_okq (⟨"FootIsle", "hasPrints", "(ILFootIsle$Sheet;II)Z"⟩, 7) := ⟨⟨by decide +kernel, by decide +kernel⟩, List.mem_of_getElem? (i := 19) (by decide +kernel), List.mem_of_getElem? (i := 681) (by decide +kernel), List.mem_of_getElem? (i := 682) (by decide +kernel)⟩
theorem lw_p9 : lw_okq (⟨"FootIsleModel", "isWalker", "(I)Z"⟩, 19) := ⟨⟨by decide +kernel, by decide +kernel⟩, List.mem_of_getElem? (i := 720) (by decide +kernel), List.mem_of_getElem? (i := 802) (by decide +kernel), List.mem_of_getElem? (i := 803) (by decide +kernel)⟩
theorem lw_p10 : lw_okq (⟨"FootIsleModel", "deep", "(I)I"⟩, 19) := ⟨⟨by decide +kernel, by decide +kernel⟩, List.mem_of_getElem? (i := 720) (by decide +kernel), List.mem_of_getElem? (i := 807) (by decide +kernel), List.mem_of_getElem? (i := 808) (by decide +kernel)⟩
theorem lw_p11 : lw_okq (⟨"FootIsleModel", "kind", "(I)I"⟩, 19) := ⟨⟨by decide +kernel, by decide +kernel⟩, List.mem_of_getElem? (i := 720) (by decide +kernel), List.mem_of_getElem? (i := 811) (by decide +kernel), List.mem_of_getElem? (i := 812) (by decide +kernel)⟩
theorem lw_p12 : lw_okq (⟨"FootIsleModel", "shoesOf", "(I)I"⟩, 19) := ⟨⟨by decide +kernel, by decide +kernel⟩, List.mem_of_getElem? (i := 720) (by decide +kernel), List.mem_of_getElem? (i := 815) (by decide +kernel), List.mem_of_getElem? (i := 816) (by decide +kernel)⟩
theorem lw_p13 : lw_okq (⟨"FootIsleModel", "landOf", "(I)I"⟩, 19) := ⟨⟨by decide +kernel, by decide +kernel⟩, List.mem_of_getElem? (i := 720) (by decide +kernel), List.mem_of_getElem? (i := 819) (by decide +kernel), List.mem_of_getElem? (i := 820) (by decide +kernel)⟩
theorem lw_p14 : lw_okq (⟨"FootIsleModel", "holder", "(I)I"⟩, 19) := ⟨⟨by decide +kernel, by decide +kernel⟩, List.mem_of_getElem? (i := 720) (by decide +kernel), List.mem_of_getElem? (i := 823) (by decide +kernel), List.mem_of_getElem? (i := 824) (by decide +kernel)⟩
theorem lw_p15 : lw_okq (⟨"FootIsleModel", "claimOf", "(II)I"⟩, 19) := ⟨⟨by decide +kernel, by decide +kernel⟩, List.mem_of_getElem? (i := 720) (by decide +kernel), List.mem_of_getElem? (i := 827) (by decide +kernel), List.mem_of_getElem? (i := 828) (by decide +kernel)⟩
def lw_privs_1 : List (MethodName × Nat) := [(⟨"FootIsle$Tape", "take", "(CC)I"⟩, 9), (⟨"FootIsle$Tape", "skipBlanks", "()V"⟩, 9), (⟨"FootIsle$Tape", "takeWalker", "(I)Z"⟩, 9), (⟨"FootIsle$Tape", "takeKind", "()I"⟩, 9), (⟨"FootIsle", "hoursFault", "(I)I"⟩, 7), (⟨"FootIsle$Trial", "tread", "(LFootIsle$Isle;LFootIsle$Survey;I)V"⟩, 5), (⟨"FootIsle", "itemsFault", "(IIII)I"⟩, 7), (⟨"FootIsle", "isLandOfAll", "(LFootIsle$Sheet;I)Z"⟩, 7), (⟨"FootIsle", "hasPrints", "(ILFootIsle$Sheet;II)Z"⟩, 7), (⟨"FootIsleModel", "isWalker", "(I)Z"⟩, 19), (⟨"FootIsleModel", "deep", "(I)I"⟩, 19), (⟨"FootIsleModel", "kind", "(I)I"⟩, 19), (⟨"FootIsleModel", "shoesOf", "(I)I"⟩, 19), (⟨"FootIsleModel", "landOf", "(I)I"⟩, 19), (⟨"FootIsleModel", "holder", "(I)I"⟩, 19), (⟨"FootIsleModel", "claimOf", "(II)I"⟩, 19)]
theorem lw_r1 : ∀ q ∈ lw_privs_1, lw_okq q := List.forall_mem_cons.mpr ⟨lw_p0, List.forall_mem_cons.mpr ⟨lw_p1, List.forall_mem_cons.mpr ⟨lw_p2, List.forall_mem_cons.mpr ⟨lw_p3, List.forall_mem_cons.mpr ⟨lw_p4, List.forall_mem_cons.mpr ⟨lw_p5, List.forall_mem_cons.mpr ⟨lw_p6, List.forall_mem_cons.mpr ⟨lw_p7, List.forall_mem_cons.mpr ⟨lw_p8, List.forall_mem_cons.mpr ⟨lw_p9, List.forall_mem_cons.mpr ⟨lw_p10, List.forall_mem_cons.mpr ⟨lw_p11, List.forall_mem_cons.mpr ⟨lw_p12, List.forall_mem_cons.mpr ⟨lw_p13, List.forall_mem_cons.mpr ⟨lw_p14, List.forall_mem_cons.mpr ⟨lw_p15, fun _ h => absurd h List.not_mem_nil⟩⟩⟩⟩⟩⟩⟩⟩⟩⟩⟩⟩⟩⟩⟩⟩
theorem lw_p16 : lw_okq (⟨"FootIsleModel", "prints", "(I)I"⟩, 19) := ⟨⟨by decide +kernel, by decide +kernel⟩, List.mem_of_getElem? (i := 720) (by decide +kernel), List.mem_of_getElem? (i := 859) (by decide +kernel), List.mem_of_getElem? (i := 860) (by decide +kernel)⟩
theorem lw_p17 : lw_okq (⟨"FootIsleModel", "allHeld", "()I"⟩, 19) := ⟨⟨by decide +kernel, by decide +kernel⟩, List.mem_of_getElem? (i := 720) (by decide +kernel), List.mem_of_getElem? (i := 863) (by decide +kernel), List.mem_of_getElem? (i := 864) (by decide +kernel)⟩
theorem lw_p18 : lw_okq (⟨"FootIsleModel", "digit", "(II)I"⟩, 19) := ⟨⟨by decide +kernel, by decide +kernel⟩, List.mem_of_getElem? (i := 720) (by decide +kernel), List.mem_of_getElem? (i := 877) (by decide +kernel), List.mem_of_getElem? (i := 878) (by decide +kernel)⟩
theorem lw_p19 : lw_okq (⟨"FootIsleModel", "here", "()I"⟩, 19) := ⟨⟨by decide +kernel, by decide +kernel⟩, List.mem_of_getElem? (i := 720) (by decide +kernel), List.mem_of_getElem? (i := 881) (by decide +kernel), List.mem_of_getElem? (i := 882) (by decide +kernel)⟩
theorem lw_p20 : lw_okq (⟨"FootIsleModel", "must", "(Z)V"⟩, 19) := ⟨⟨by decide +kernel, by decide +kernel⟩, List.mem_of_getElem? (i := 720) (by decide +kernel), List.mem_of_getElem? (i := 885) (by decide +kernel), List.mem_of_getElem? (i := 886) (by decide +kernel)⟩
theorem lw_p21 : lw_okq (⟨"FootIsleModel", "takes", "(I)V"⟩, 19) := ⟨⟨by decide +kernel, by decide +kernel⟩, List.mem_of_getElem? (i := 720) (by decide +kernel), List.mem_of_getElem? (i := 889) (by decide +kernel), List.mem_of_getElem? (i := 890) (by decide +kernel)⟩
theorem lw_p22 : lw_okq (⟨"FootIsleModel", "readWalker", "(I)V"⟩, 19) := ⟨⟨by decide +kernel, by decide +kernel⟩, List.mem_of_getElem? (i := 720) (by decide +kernel), List.mem_of_getElem? (i := 893) (by decide +kernel), List.mem_of_getElem? (i := 894) (by decide +kernel)⟩
theorem lw_p23 : lw_okq (⟨"FootIsleModel", "notes", "()V"⟩, 19) := ⟨⟨by decide +kernel, by decide +kernel⟩, List.mem_of_getElem? (i := 720) (by decide +kernel), List.mem_of_getElem? (i := 904) (by decide +kernel), List.mem_of_getElem? (i := 905) (by decide +kernel)⟩
theorem lw_p24 : lw_okq (⟨"FootIsleModel", "steps", "(II)V"⟩, 19) := ⟨⟨by decide +kernel, by decide +kernel⟩, List.mem_of_getElem? (i := 720) (by decide +kernel), List.mem_of_getElem? (i := 908) (by decide +kernel), List.mem_of_getElem? (i := 909) (by decide +kernel)⟩
theorem lw_p25 : lw_okq (⟨"FootIsleModel", "treads", "(II)V"⟩, 19) := ⟨⟨by decide +kernel, by decide +kernel⟩, List.mem_of_getElem? (i := 720) (by decide +kernel), List.mem_of_getElem? (i := 912) (by decide +kernel), List.mem_of_getElem? (i := 913) (by decide +kernel)⟩
theorem lw_p26 : lw_okq (⟨"FootIsleModel", "goesBy", "()V"⟩, 19) := ⟨⟨by decide +kernel, by decide +kernel⟩, List.mem_of_getElem? (i := 720) (by decide +kernel), List.mem_of_getElem? (i := 921) (by decide +kernel), List.mem_of_getElem? (i := 922) (by decide +kernel)⟩
theorem lw_p27 : lw_okq (⟨"FootIsleModel", "rakes", "(I)I"⟩, 19) := ⟨⟨by decide +kernel, by decide +kernel⟩, List.mem_of_getElem? (i := 720) (by decide +kernel), List.mem_of_getElem? (i := 933) (by decide +kernel), List.mem_of_getElem? (i := 934) (by decide +kernel)⟩
theorem lw_p28 : lw_okq (⟨"FootIsleModel", "asides", "()V"⟩, 19) := ⟨⟨by decide +kernel, by decide +kernel⟩, List.mem_of_getElem? (i := 720) (by decide +kernel), List.mem_of_getElem? (i := 954) (by decide +kernel), List.mem_of_getElem? (i := 955) (by decide +kernel)⟩
theorem lw_p29 : lw_okq (⟨"FootIsleModel", "goesOn", "(I)V"⟩, 19) := ⟨⟨by decide +kernel, by decide +kernel⟩, List.mem_of_getElem? (i := 720) (by decide +kernel), List.mem_of_getElem? (i := 958) (by decide +kernel), List.mem_of_getElem? (i := 959) (by decide +kernel)⟩
theorem lw_p30 : lw_okq (⟨"FootIsleModel", "backs", "()V"⟩, 19) := ⟨⟨by decide +kernel, by decide +kernel⟩, List.mem_of_getElem? (i := 720) (by decide +kernel), List.mem_of_getElem? (i := 962) (by decide +kernel), List.mem_of_getElem? (i := 963) (by decide +kernel)⟩
theorem lw_p31 : lw_okq (⟨"FootIsleModel", "holds", "()V"⟩, 19) := ⟨⟨by decide +kernel, by decide +kernel⟩, List.mem_of_getElem? (i := 720) (by decide +kernel), List.mem_of_getElem? (i := 982) (by decide +kernel), List.mem_of_getElem? (i := 983) (by decide +kernel)⟩
def lw_privs_2 : List (MethodName × Nat) := [(⟨"FootIsleModel", "prints", "(I)I"⟩, 19), (⟨"FootIsleModel", "allHeld", "()I"⟩, 19), (⟨"FootIsleModel", "digit", "(II)I"⟩, 19), (⟨"FootIsleModel", "here", "()I"⟩, 19), (⟨"FootIsleModel", "must", "(Z)V"⟩, 19), (⟨"FootIsleModel", "takes", "(I)V"⟩, 19), (⟨"FootIsleModel", "readWalker", "(I)V"⟩, 19), (⟨"FootIsleModel", "notes", "()V"⟩, 19), (⟨"FootIsleModel", "steps", "(II)V"⟩, 19), (⟨"FootIsleModel", "treads", "(II)V"⟩, 19), (⟨"FootIsleModel", "goesBy", "()V"⟩, 19), (⟨"FootIsleModel", "rakes", "(I)I"⟩, 19), (⟨"FootIsleModel", "asides", "()V"⟩, 19), (⟨"FootIsleModel", "goesOn", "(I)V"⟩, 19), (⟨"FootIsleModel", "backs", "()V"⟩, 19), (⟨"FootIsleModel", "holds", "()V"⟩, 19)]
theorem lw_r2 : ∀ q ∈ lw_privs_2, lw_okq q := List.forall_mem_cons.mpr ⟨lw_p16, List.forall_mem_cons.mpr ⟨lw_p17, List.forall_mem_cons.mpr ⟨lw_p18, List.forall_mem_cons.mpr ⟨lw_p19, List.forall_mem_cons.mpr ⟨lw_p20, List.forall_mem_cons.mpr ⟨lw_p21, List.forall_mem_cons.mpr ⟨lw_p22, List.forall_mem_cons.mpr ⟨lw_p23, List.forall_mem_cons.mpr ⟨lw_p24, List.forall_mem_cons.mpr ⟨lw_p25, List.forall_mem_cons.mpr ⟨lw_p26, List.forall_mem_cons.mpr ⟨lw_p27, List.forall_mem_cons.mpr ⟨lw_p28, List.forall_mem_cons.mpr ⟨lw_p29, List.forall_mem_cons.mpr ⟨lw_p30, List.forall_mem_cons.mpr ⟨lw_p31, fun _ h => absurd h List.not_mem_nil⟩⟩⟩⟩⟩⟩⟩⟩⟩⟩⟩⟩⟩⟩⟩⟩
theorem lw_p32 : lw_okq (⟨"FootIsleModel", "isGone", "(III)Z"⟩, 19) := ⟨⟨by decide +kernel, by decide +kernel⟩, List.mem_of_getElem? (i := 720) (by decide +kernel), List.mem_of_getElem? (i := 990) (by decide +kernel), List.mem_of_getElem? (i := 991) (by decide +kernel)⟩
theorem lw_p33 : lw_okq (⟨"FootIsleModel", "why", "(IIII)I"⟩, 19) := ⟨⟨by decide +kernel, by decide +kernel⟩, List.mem_of_getElem? (i := 720) (by decide +kernel), List.mem_of_getElem? (i := 1022) (by decide +kernel), List.mem_of_getElem? (i := 1023) (by decide +kernel)⟩
def lw_privs_3 : List (MethodName × Nat) := [(⟨"FootIsleModel", "isGone", "(III)Z"⟩, 19), (⟨"FootIsleModel", "why", "(IIII)I"⟩, 19)]
theorem lw_r3 : ∀ q ∈ lw_privs_3, lw_okq q := List.forall_mem_cons.mpr ⟨lw_p32, List.forall_mem_cons.mpr ⟨lw_p33, fun _ h => absurd h List.not_mem_nil⟩⟩
def lw_privs : List (MethodName × Nat) := lw_privs_1 ++ (lw_privs_2 ++ (lw_privs_3))
def lw_tbl : List Cond := k2_sels lw_privs ++ tables_1
theorem lw_privs_ok : ∀ q ∈ lw_privs, lw_okq q := by
  show ∀ q ∈ lw_privs_1 ++ (lw_privs_2 ++ (lw_privs_3)), lw_okq q
  exact List.forall_mem_append.mpr ⟨lw_r1, List.forall_mem_append.mpr ⟨lw_r2, lw_r3⟩⟩
/-! ===== BEGIN words of one list among another's, by their places ===== -/
theorem goodIn_r {big : List Cond} (ws : List Cond) (ps : List Nat) (hp : ws = ps.filterMap (fun i => big[i]?)) (h : ws.all goodWord = true) : GoodIn big ws := by
  intro w hw
  have h1 := List.all_eq_true.mp h w hw
  rw [hp] at hw
  obtain ⟨i, -, hi⟩ := List.mem_filterMap.mp hw
  have hm : w ∈ big := by first | exact List.mem_of_getElem? hi | exact List.getElem?_mem hi
  exact ⟨hm, good_of_word h1⟩
theorem goodIn_app {big a b : List Cond} (ha : GoodIn big a) (hb : GoodIn big b) : GoodIn big (a ++ b) := fun w h => (List.mem_append.mp h).elim (ha w) (hb w)
theorem goodIn_ca {big a b : List Cond} {c : Cond} (ha : GoodIn big (c :: a)) (hb : GoodIn big b) : GoodIn big (c :: (a ++ b)) := fun w h => (List.mem_cons.mp h).elim (fun e => ha w (List.mem_cons.mpr (Or.inl e))) (fun h => (List.mem_append.mp h).elim (fun h => ha w (List.mem_cons.mpr (Or.inr h))) (hb w))
theorem goodIn_sub {big ws : List Cond} (hm : ∀ w ∈ ws, w ∈ big) (h : ws.all goodWord = true) : GoodIn big ws := fun w hw => ⟨hm w hw, good_of_word (List.all_eq_true.mp h w hw)⟩
/-! ===== END ===== -/

/-! ===== BEGIN printed: names, fields, word lists, decode rows ===== -/
def RX0 : String := "FootIsle$Isle"
def TX0 : u_T := fun k => match k with
  | 0 => ("FootIsle$Isle", "settings", "[I", true)
  | 1 => ("FootIsle$Isle", "kinds", "[I", true)
  | 2 => ("FootIsle$Isle", "weights", "[I", true)
  | 3 => ("FootIsle$Isle", "cells", "[I", true)
  | 4 => ("FootIsle$Isle", "steps", "[I", true)
  | 5 => ("FootIsle$Isle", "prints", "[I", true)
  | 6 => ("FootIsle$Isle", "past", "LFootIsle$Past;", true)
  | 7 => ("FootIsle$Isle", "walkers", "I", false)
  | 8 => ("FootIsle$Isle", "hour", "I", false)
  | _ => ("FootIsle$Isle", "draw", "I", false)
def tyX0 : Nat → FieldType := fun k => match k with
  | 0 => .array .int
  | 1 => .array .int
  | 2 => .array .int
  | 3 => .array .int
  | 4 => .array .int
  | 5 => .array .int
  | 6 => .object "FootIsle$Past"
  | 7 => .int
  | 8 => .int
  | _ => .int
abbrev wsX00 : List Cond := u_ws RX0 TX0 10
theorem nmX0 : ∀ a, a < 10 → ∀ b, b < 10 → a ≠ b → (TX0 a).2.1 ≠ (TX0 b).2.1 := by decide +kernel
theorem tyX0_ok : ∀ k, k < 10 → parseFieldDescriptor (TX0 k).2.2.1 = some (tyX0 k) := by decide +kernel
abbrev cX0_init : ByteArray := prog_2_method_1_code
def yX0_init : MethodName := ⟨RX0, "<init>", "()V"⟩
abbrev cX0_become : ByteArray := prog_2_method_2_code
def yX0_become : MethodName := ⟨RX0, "become", "(LFootIsle$Isle;)V"⟩
abbrev cX0_has : ByteArray := prog_2_method_3_code
def yX0_has : MethodName := ⟨RX0, "has", "(I)Z"⟩
abbrev cX0_enter : ByteArray := prog_2_method_4_code
def yX0_enter : MethodName := ⟨RX0, "enter", "(III)I"⟩
abbrev cX0_settleAs : ByteArray := prog_2_method_5_code
def yX0_settleAs : MethodName := ⟨RX0, "settleAs", "(LFootIsle$Tape;)V"⟩
abbrev cX0_treadOf : ByteArray := prog_2_method_6_code
def yX0_treadOf : MethodName := ⟨RX0, "treadOf", "(I)I"⟩
abbrev cX0_shoesOf : ByteArray := prog_2_method_7_code
def yX0_shoesOf : MethodName := ⟨RX0, "shoesOf", "(I)I"⟩
abbrev cX0_stepTo : ByteArray := prog_2_method_8_code
def yX0_stepTo : MethodName := ⟨RX0, "stepTo", "(II)V"⟩
abbrev cX0_passHour : ByteArray := prog_2_method_9_code
def yX0_passHour : MethodName := ⟨RX0, "passHour", "()V"⟩
abbrev cX0_depthBehind : ByteArray := prog_2_method_10_code
def yX0_depthBehind : MethodName := ⟨RX0, "depthBehind", "(III)I"⟩
abbrev cX0_isTideWithin : ByteArray := prog_2_method_11_code
def yX0_isTideWithin : MethodName := ⟨RX0, "isTideWithin", "(I)Z"⟩
abbrev cX0_drawCell : ByteArray := prog_2_method_12_code
def yX0_drawCell : MethodName := ⟨RX0, "drawCell", "()I"⟩
abbrev cX0_sweep : ByteArray := prog_2_method_13_code
def yX0_sweep : MethodName := ⟨RX0, "sweep", "(I)I"⟩
abbrev cX0_isTrodden : ByteArray := prog_2_method_14_code
def yX0_isTrodden : MethodName := ⟨RX0, "isTrodden", "(I)Z"⟩
abbrev cX0_troddenCells : ByteArray := prog_2_method_15_code
def yX0_troddenCells : MethodName := ⟨RX0, "troddenCells", "()I"⟩
def RX1 : String := "FootIsle$Past"
def TX1 : u_T := fun k => match k with
  | 0 => ("FootIsle$Past", "prints", "[I", true)
  | 1 => ("FootIsle$Past", "cells", "[I", true)
  | 2 => ("FootIsle$Past", "steps", "[I", true)
  | 3 => ("FootIsle$Past", "hours", "[I", true)
  | 4 => ("FootIsle$Past", "draws", "[I", true)
  | 5 => ("FootIsle$Past", "next", "I", false)
  | _ => ("FootIsle$Past", "known", "I", false)
def tyX1 : Nat → FieldType := fun k => match k with
  | 0 => .array .int
  | 1 => .array .int
  | 2 => .array .int
  | 3 => .array .int
  | 4 => .array .int
  | 5 => .int
  | _ => .int
abbrev wsX10 : List Cond := u_ws RX1 TX1 7
theorem nmX1 : ∀ a, a < 7 → ∀ b, b < 7 → a ≠ b → (TX1 a).2.1 ≠ (TX1 b).2.1 := by decide +kernel
theorem tyX1_ok : ∀ k, k < 7 → parseFieldDescriptor (TX1 k).2.2.1 = some (tyX1 k) := by decide +kernel
abbrev cX1_init : ByteArray := prog_3_method_1_code
def yX1_init : MethodName := ⟨RX1, "<init>", "()V"⟩
abbrev cX1_keep : ByteArray := prog_3_method_2_code
def yX1_keep : MethodName := ⟨RX1, "keep", "(LFootIsle$Isle;)V"⟩
abbrev cX1_giveBack : ByteArray := prog_3_method_3_code
def yX1_giveBack : MethodName := ⟨RX1, "giveBack", "(LFootIsle$Isle;)V"⟩
abbrev cX1_forget : ByteArray := prog_3_method_4_code
def yX1_forget : MethodName := ⟨RX1, "forget", "()V"⟩
abbrev cX1_become : ByteArray := prog_3_method_5_code
def yX1_become : MethodName := ⟨RX1, "become", "(LFootIsle$Past;)V"⟩
def RX2 : String := "FootIsle$Sheet"
def TX2 : u_T := fun k => match k with
  | 0 => ("FootIsle$Sheet", "items", "[J", true)
  | 1 => ("FootIsle$Sheet", "lane", "I", false)
  | _ => ("FootIsle$Sheet", "size", "I", false)
def tyX2 : Nat → FieldType := fun k => match k with
  | 0 => .array .long
  | 1 => .int
  | _ => .int
abbrev wsX20 : List Cond := u_ws RX2 TX2 3
theorem nmX2 : ∀ a, a < 3 → ∀ b, b < 3 → a ≠ b → (TX2 a).2.1 ≠ (TX2 b).2.1 := by decide +kernel
theorem tyX2_ok : ∀ k, k < 3 → parseFieldDescriptor (TX2 k).2.2.1 = some (tyX2 k) := by decide +kernel
abbrev cX2_init : ByteArray := prog_4_method_1_code
def yX2_init : MethodName := ⟨RX2, "<init>", "()V"⟩
abbrev cX2_isNothing : ByteArray := prog_4_method_2_code
def yX2_isNothing : MethodName := ⟨RX2, "isNothing", "()Z"⟩
abbrev cX2_begin : ByteArray := prog_4_method_3_code
def yX2_begin : MethodName := ⟨RX2, "begin", "(II)V"⟩
abbrev cX2_end : ByteArray := prog_4_method_4_code
def yX2_end : MethodName := ⟨RX2, "end", "()I"⟩
abbrev cX2_spans : ByteArray := prog_4_method_5_code
def yX2_spans : MethodName := ⟨RX2, "spans", "(II)Z"⟩
abbrev cX2_isWithin : ByteArray := prog_4_method_6_code
def yX2_isWithin : MethodName := ⟨RX2, "isWithin", "(II)Z"⟩
def RX3 : String := "FootIsle$Survey"
def TX3 : u_T := fun k => match k with
  | 0 => ("FootIsle$Survey", "claims", "[I", true)
  | 1 => ("FootIsle$Survey", "lands", "[I", true)
  | 2 => ("FootIsle$Survey", "heldCells", "I", false)
  | _ => ("FootIsle$Survey", "walkers", "I", false)
def tyX3 : Nat → FieldType := fun k => match k with
  | 0 => .array .int
  | 1 => .array .int
  | 2 => .int
  | _ => .int
abbrev wsX30 : List Cond := u_ws RX3 TX3 4
theorem nmX3 : ∀ a, a < 4 → ∀ b, b < 4 → a ≠ b → (TX3 a).2.1 ≠ (TX3 b).2.1 := by decide +kernel
theorem tyX3_ok : ∀ k, k < 4 → parseFieldDescriptor (TX3 k).2.2.1 = some (tyX3 k) := by decide +kernel
abbrev cX3_init : ByteArray := prog_5_method_1_code
def yX3_init : MethodName := ⟨RX3, "<init>", "()V"⟩
abbrev cX3_look : ByteArray := prog_5_method_2_code
def yX3_look : MethodName := ⟨RX3, "look", "(LFootIsle$Isle;I)V"⟩
abbrev cX3_lookWithout : ByteArray := prog_5_method_3_code
def yX3_lookWithout : MethodName := ⟨RX3, "lookWithout", "(LFootIsle$Isle;II)V"⟩
abbrev cX3_tally : ByteArray := prog_5_method_4_code
def yX3_tally : MethodName := ⟨RX3, "tally", "()V"⟩
abbrev cX3_holderOf : ByteArray := prog_5_method_5_code
def yX3_holderOf : MethodName := ⟨RX3, "holderOf", "(I)I"⟩
abbrev cX3_raise : ByteArray := prog_5_method_6_code
def yX3_raise : MethodName := ⟨RX3, "raise", "(IIII)V"⟩
def RX4 : String := "FootIsle$Tape"
def TX4 : u_T := fun k => match k with
  | 0 => ("FootIsle$Tape", "letters", "[I", true)
  | 1 => ("FootIsle$Tape", "kinds", "[I", true)
  | 2 => ("FootIsle$Tape", "weights", "[I", true)
  | 3 => ("FootIsle$Tape", "cells", "[I", true)
  | 4 => ("FootIsle$Tape", "length", "I", false)
  | 5 => ("FootIsle$Tape", "place", "I", false)
  | 6 => ("FootIsle$Tape", "wind", "I", false)
  | 7 => ("FootIsle$Tape", "reach", "I", false)
  | _ => ("FootIsle$Tape", "walkers", "I", false)
def tyX4 : Nat → FieldType := fun k => match k with
  | 0 => .array .int
  | 1 => .array .int
  | 2 => .array .int
  | 3 => .array .int
  | 4 => .int
  | 5 => .int
  | 6 => .int
  | 7 => .int
  | _ => .int
abbrev wsX40 : List Cond := u_ws RX4 TX4 9
theorem nmX4 : ∀ a, a < 9 → ∀ b, b < 9 → a ≠ b → (TX4 a).2.1 ≠ (TX4 b).2.1 := by decide +kernel
theorem tyX4_ok : ∀ k, k < 9 → parseFieldDescriptor (TX4 k).2.2.1 = some (tyX4 k) := by decide +kernel
abbrev cX4_init : ByteArray := prog_6_method_1_code
def yX4_init : MethodName := ⟨RX4, "<init>", "()V"⟩
abbrev cX4_put : ByteArray := prog_6_method_2_code
def yX4_put : MethodName := ⟨RX4, "put", "(I)Z"⟩
abbrev cX4_parse : ByteArray := prog_6_method_3_code
def yX4_parse : MethodName := ⟨RX4, "parse", "()I"⟩
abbrev cX4_takeWalker : ByteArray := prog_6_method_4_code
def yX4_takeWalker : MethodName := ⟨RX4, "takeWalker", "(I)Z"⟩
abbrev cX4_takeKind : ByteArray := prog_6_method_5_code
def yX4_takeKind : MethodName := ⟨RX4, "takeKind", "()I"⟩
abbrev cX4_take : ByteArray := prog_6_method_6_code
def yX4_take : MethodName := ⟨RX4, "take", "(CC)I"⟩
abbrev cX4_skipBlanks : ByteArray := prog_6_method_7_code
def yX4_skipBlanks : MethodName := ⟨RX4, "skipBlanks", "()V"⟩
def RX5 : String := "FootIsle$Trial"
def TX5 : u_T := fun k => match k with
  | 0 => ("FootIsle$Trial", "prints", "[I", true)
  | 1 => ("FootIsle$Trial", "claims", "[I", true)
  | 2 => ("FootIsle$Trial", "walker", "I", false)
  | 3 => ("FootIsle$Trial", "row", "I", false)
  | _ => ("FootIsle$Trial", "hours", "I", false)
def tyX5 : Nat → FieldType := fun k => match k with
  | 0 => .array .int
  | 1 => .array .int
  | 2 => .int
  | 3 => .int
  | _ => .int
abbrev wsX50 : List Cond := u_ws RX5 TX5 5
theorem nmX5 : ∀ a, a < 5 → ∀ b, b < 5 → a ≠ b → (TX5 a).2.1 ≠ (TX5 b).2.1 := by decide +kernel
theorem tyX5_ok : ∀ k, k < 5 → parseFieldDescriptor (TX5 k).2.2.1 = some (tyX5 k) := by decide +kernel
abbrev cX5_init : ByteArray := prog_7_method_1_code
def yX5_init : MethodName := ⟨RX5, "<init>", "()V"⟩
abbrev cX5_begin : ByteArray := prog_7_method_2_code
def yX5_begin : MethodName := ⟨RX5, "begin", "(LFootIsle$Isle;LFootIsle$Survey;II)V"⟩
abbrev cX5_go : ByteArray := prog_7_method_3_code
def yX5_go : MethodName := ⟨RX5, "go", "(LFootIsle$Isle;LFootIsle$Survey;II)Z"⟩
abbrev cX5_tread : ByteArray := prog_7_method_4_code
def yX5_tread : MethodName := ⟨RX5, "tread", "(LFootIsle$Isle;LFootIsle$Survey;I)V"⟩
def RX6 : String := "FootIsle"
def TX6 : u_T := fun k => match k with
  | 0 => ("FootIsle", "now", "LFootIsle$Isle;", true)
  | 1 => ("FootIsle", "kept", "LFootIsle$Isle;", true)
  | 2 => ("FootIsle", "isKept", "Z", false)
  | 3 => ("FootIsle", "tape", "LFootIsle$Tape;", true)
  | 4 => ("FootIsle", "sheets", "[LFootIsle$Sheet;", true)
  | 5 => ("FootIsle", "survey", "LFootIsle$Survey;", true)
  | _ => ("FootIsle", "trial", "LFootIsle$Trial;", true)
def tyX6 : Nat → FieldType := fun k => match k with
  | 0 => .object "FootIsle$Isle"
  | 1 => .object "FootIsle$Isle"
  | 2 => .boolean
  | 3 => .object "FootIsle$Tape"
  | 4 => .array (.object "FootIsle$Sheet")
  | 5 => .object "FootIsle$Survey"
  | _ => .object "FootIsle$Trial"
abbrev wsX60 : List Cond := u_ws RX6 TX6 7
theorem nmX6 : ∀ a, a < 7 → ∀ b, b < 7 → a ≠ b → (TX6 a).2.1 ≠ (TX6 b).2.1 := by decide +kernel
theorem tyX6_ok : ∀ k, k < 7 → parseFieldDescriptor (TX6 k).2.2.1 = some (tyX6 k) := by decide +kernel
abbrev cX6_init : ByteArray := prog_1_method_1_code
def yX6_init : MethodName := ⟨RX6, "<init>", "()V"⟩
abbrev cX6_walker : ByteArray := prog_1_method_2_code
def yX6_walker : MethodName := ⟨RX6, "walker", "(III)I"⟩
abbrev cX6_of : ByteArray := prog_1_method_3_code
def yX6_of : MethodName := ⟨RX6, "of", "(II)I"⟩
abbrev cX6_isle : ByteArray := prog_1_method_4_code
def yX6_isle : MethodName := ⟨RX6, "isle", "(II)I"⟩
abbrev cX6_print : ByteArray := prog_1_method_5_code
def yX6_print : MethodName := ⟨RX6, "print", "(II)I"⟩
abbrev cX6_claim : ByteArray := prog_1_method_6_code
def yX6_claim : MethodName := ⟨RX6, "claim", "(II)I"⟩
abbrev cX6_held : ByteArray := prog_1_method_7_code
def yX6_held : MethodName := ⟨RX6, "held", "(I)I"⟩
abbrev cX6_type : ByteArray := prog_1_method_8_code
def yX6_type : MethodName := ⟨RX6, "type", "(I)I"⟩
abbrev cX6_settle : ByteArray := prog_1_method_9_code
def yX6_settle : MethodName := ⟨RX6, "settle", "()I"⟩
abbrev cX6_count : ByteArray := prog_1_method_10_code
def yX6_count : MethodName := ⟨RX6, "count", "(I)I"⟩
abbrev cX6_step : ByteArray := prog_1_method_11_code
def yX6_step : MethodName := ⟨RX6, "step", "(II)I"⟩
abbrev cX6_hours : ByteArray := prog_1_method_12_code
def yX6_hours : MethodName := ⟨RX6, "hours", "(I)I"⟩
abbrev cX6_drift : ByteArray := prog_1_method_13_code
def yX6_drift : MethodName := ⟨RX6, "drift", "(I)I"⟩
abbrev cX6_hoursFault : ByteArray := prog_1_method_14_code
def yX6_hoursFault : MethodName := ⟨RX6, "hoursFault", "(I)I"⟩
abbrev cX6_rake : ByteArray := prog_1_method_15_code
def yX6_rake : MethodName := ⟨RX6, "rake", "(I)I"⟩
abbrev cX6_undo : ByteArray := prog_1_method_16_code
def yX6_undo : MethodName := ⟨RX6, "undo", "()I"⟩
abbrev cX6_seed : ByteArray := prog_1_method_17_code
def yX6_seed : MethodName := ⟨RX6, "seed", "(I)I"⟩
abbrev cX6_ahead : ByteArray := prog_1_method_18_code
def yX6_ahead : MethodName := ⟨RX6, "ahead", "(II)I"⟩
abbrev cX6_land : ByteArray := prog_1_method_19_code
def yX6_land : MethodName := ⟨RX6, "land", "(II)I"⟩
abbrev cX6_lasts : ByteArray := prog_1_method_20_code
def yX6_lasts : MethodName := ⟨RX6, "lasts", "(II)I"⟩
abbrev cX6_county : ByteArray := prog_1_method_21_code
def yX6_county : MethodName := ⟨RX6, "county", "(I)I"⟩
abbrev cX6_way : ByteArray := prog_1_method_22_code
def yX6_way : MethodName := ⟨RX6, "way", "(III)I"⟩
abbrev cX6_walk : ByteArray := prog_1_method_23_code
def yX6_walk : MethodName := ⟨RX6, "walk", "(IIII)I"⟩
abbrev cX6_well : ByteArray := prog_1_method_24_code
def yX6_well : MethodName := ⟨RX6, "well", "(III)I"⟩
abbrev cX6_crabs : ByteArray := prog_1_method_25_code
def yX6_crabs : MethodName := ⟨RX6, "crabs", "(IIII)I"⟩
abbrev cX6_image : ByteArray := prog_1_method_26_code
def yX6_image : MethodName := ⟨RX6, "image", "()I"⟩
abbrev cX6_restore : ByteArray := prog_1_method_27_code
def yX6_restore : MethodName := ⟨RX6, "restore", "()I"⟩
abbrev cX6_raked : ByteArray := prog_1_method_28_code
def yX6_raked : MethodName := ⟨RX6, "raked", "(IIII)I"⟩
abbrev cX6_isLandOfAll : ByteArray := prog_1_method_29_code
def yX6_isLandOfAll : MethodName := ⟨RX6, "isLandOfAll", "(LFootIsle$Sheet;I)Z"⟩
abbrev cX6_shoes : ByteArray := prog_1_method_30_code
def yX6_shoes : MethodName := ⟨RX6, "shoes", "(IIII)I"⟩
abbrev cX6_hasPrints : ByteArray := prog_1_method_31_code
def yX6_hasPrints : MethodName := ⟨RX6, "hasPrints", "(ILFootIsle$Sheet;II)Z"⟩
abbrev cX6_film : ByteArray := prog_1_method_32_code
def yX6_film : MethodName := ⟨RX6, "film", "(IIIII)I"⟩
abbrev cX6_sheet : ByteArray := prog_1_method_33_code
def yX6_sheet : MethodName := ⟨RX6, "sheet", "(III)I"⟩
abbrev cX6_drop : ByteArray := prog_1_method_34_code
def yX6_drop : MethodName := ⟨RX6, "drop", "(I)I"⟩
abbrev cX6_item : ByteArray := prog_1_method_35_code
def yX6_item : MethodName := ⟨RX6, "item", "(IIIJ)I"⟩
abbrev cX6_copy : ByteArray := prog_1_method_36_code
def yX6_copy : MethodName := ⟨RX6, "copy", "(IIIII)I"⟩
abbrev cX6_itemsFault : ByteArray := prog_1_method_37_code
def yX6_itemsFault : MethodName := ⟨RX6, "itemsFault", "(IIII)I"⟩
abbrev cX6_isSheet : ByteArray := prog_1_method_38_code
def yX6_isSheet : MethodName := ⟨RX6, "isSheet", "(I)Z"⟩
abbrev cX6_lowestBits : ByteArray := prog_1_method_39_code
def yX6_lowestBits : MethodName := ⟨RX6, "lowestBits", "(IJ)J"⟩
abbrev cX6_isCell : ByteArray := prog_1_method_40_code
def yX6_isCell : MethodName := ⟨RX6, "isCell", "(I)Z"⟩
abbrev cX6_columnOf : ByteArray := prog_1_method_41_code
def yX6_columnOf : MethodName := ⟨RX6, "columnOf", "(I)I"⟩
abbrev cX6_rowOf : ByteArray := prog_1_method_42_code
def yX6_rowOf : MethodName := ⟨RX6, "rowOf", "(I)I"⟩
abbrev cX6_beside : ByteArray := prog_1_method_43_code
def yX6_beside : MethodName := ⟨RX6, "beside", "(II)I"⟩
abbrev cX6_wayAt : ByteArray := prog_1_method_44_code
def yX6_wayAt : MethodName := ⟨RX6, "wayAt", "(III)I"⟩
abbrev cX6_besideSet : ByteArray := prog_1_method_45_code
def yX6_besideSet : MethodName := ⟨RX6, "besideSet", "(J)J"⟩
abbrev cX6_spreadOver : ByteArray := prog_1_method_46_code
def yX6_spreadOver : MethodName := ⟨RX6, "spreadOver", "(JJ)J"⟩
abbrev cX6_fewestTrodden : ByteArray := prog_1_method_47_code
def yX6_fewestTrodden : MethodName := ⟨RX6, "fewestTrodden", "(JJJ)I"⟩
abbrev cX6_comesDown : ByteArray := prog_1_method_48_code
def yX6_comesDown : MethodName := ⟨RX6, "comesDown", "(II)Z"⟩
abbrev cX6_deepen : ByteArray := prog_1_method_49_code
def yX6_deepen : MethodName := ⟨RX6, "deepen", "([III)V"⟩
def RX7 : String := "FootIsleModel"
def TX7 : u_T := fun k => match k with
  | 0 => ("FootIsleModel", "now", "[I", true)
  | 1 => ("FootIsleModel", "holders", "[I", true)
  | 2 => ("FootIsleModel", "tape", "[I", true)
  | 3 => ("FootIsleModel", "typed", "I", false)
  | 4 => ("FootIsleModel", "place", "I", false)
  | 5 => ("FootIsleModel", "isFault", "Z", false)
  | 6 => ("FootIsleModel", "read", "[I", true)
  | 7 => ("FootIsleModel", "undone", "[I", true)
  | 8 => ("FootIsleModel", "undos", "I", false)
  | 9 => ("FootIsleModel", "aside", "[I", true)
  | 10 => ("FootIsleModel", "met", "[Z", true)
  | 11 => ("FootIsleModel", "costs", "[I", true)
  | 12 => ("FootIsleModel", "kept", "[I", true)
  | 13 => ("FootIsleModel", "keptUndos", "I", false)
  | 14 => ("FootIsleModel", "isKept", "Z", false)
  | 15 => ("FootIsleModel", "lanes", "[I", true)
  | 16 => ("FootIsleModel", "sizes", "[I", true)
  | 17 => ("FootIsleModel", "items", "[J", true)
  | _ => ("FootIsleModel", "moved", "[J", true)
def tyX7 : Nat → FieldType := fun k => match k with
  | 0 => .array .int
  | 1 => .array .int
  | 2 => .array .int
  | 3 => .int
  | 4 => .int
  | 5 => .boolean
  | 6 => .array .int
  | 7 => .array .int
  | 8 => .int
  | 9 => .array .int
  | 10 => .array .boolean
  | 11 => .array .int
  | 12 => .array .int
  | 13 => .int
  | 14 => .boolean
  | 15 => .array .int
  | 16 => .array .int
  | 17 => .array .long
  | _ => .array .long
abbrev wsX70 : List Cond := u_ws RX7 TX7 19
theorem nmX7 : ∀ a, a < 19 → ∀ b, b < 19 → a ≠ b → (TX7 a).2.1 ≠ (TX7 b).2.1 := by decide +kernel
theorem tyX7_ok : ∀ k, k < 19 → parseFieldDescriptor (TX7 k).2.2.1 = some (tyX7 k) := by decide +kernel
abbrev cX7_in : ByteArray := prog_9_method_2_code
def yX7_in : MethodName := ⟨RX7, "in", "(JJJ)Z"⟩
abbrev cX7_init : ByteArray := prog_9_method_3_code
def yX7_init : MethodName := ⟨RX7, "<init>", "()V"⟩
abbrev cX7_isWalker : ByteArray := prog_9_method_4_code
def yX7_isWalker : MethodName := ⟨RX7, "isWalker", "(I)Z"⟩
abbrev cX7_isCell : ByteArray := prog_9_method_5_code
def yX7_isCell : MethodName := ⟨RX7, "isCell", "(I)Z"⟩
abbrev cX7_kind : ByteArray := prog_9_method_6_code
def yX7_kind : MethodName := ⟨RX7, "kind", "(I)I"⟩
abbrev cX7_deep : ByteArray := prog_9_method_7_code
def yX7_deep : MethodName := ⟨RX7, "deep", "(I)I"⟩
abbrev cX7_shoesOf : ByteArray := prog_9_method_8_code
def yX7_shoesOf : MethodName := ⟨RX7, "shoesOf", "(I)I"⟩
abbrev cX7_walker : ByteArray := prog_9_method_9_code
def yX7_walker : MethodName := ⟨RX7, "walker", "(III)I"⟩
abbrev cX7_claimOf : ByteArray := prog_9_method_10_code
def yX7_claimOf : MethodName := ⟨RX7, "claimOf", "(II)I"⟩
abbrev cX7_holder : ByteArray := prog_9_method_11_code
def yX7_holder : MethodName := ⟨RX7, "holder", "(I)I"⟩
abbrev cX7_holds : ByteArray := prog_9_method_12_code
def yX7_holds : MethodName := ⟨RX7, "holds", "()V"⟩
abbrev cX7_landOf : ByteArray := prog_9_method_13_code
def yX7_landOf : MethodName := ⟨RX7, "landOf", "(I)I"⟩
abbrev cX7_of : ByteArray := prog_9_method_14_code
def yX7_of : MethodName := ⟨RX7, "of", "(II)I"⟩
abbrev cX7_canIsle : ByteArray := prog_9_method_15_code
def yX7_canIsle : MethodName := ⟨RX7, "canIsle", "(II)Z"⟩
abbrev cX7_isle : ByteArray := prog_9_method_16_code
def yX7_isle : MethodName := ⟨RX7, "isle", "(II)I"⟩
abbrev cX7_print : ByteArray := prog_9_method_17_code
def yX7_print : MethodName := ⟨RX7, "print", "(II)I"⟩
abbrev cX7_claim : ByteArray := prog_9_method_18_code
def yX7_claim : MethodName := ⟨RX7, "claim", "(II)I"⟩
abbrev cX7_held : ByteArray := prog_9_method_19_code
def yX7_held : MethodName := ⟨RX7, "held", "(I)I"⟩
abbrev cX7_allHeld : ByteArray := prog_9_method_20_code
def yX7_allHeld : MethodName := ⟨RX7, "allHeld", "()I"⟩
abbrev cX7_prints : ByteArray := prog_9_method_21_code
def yX7_prints : MethodName := ⟨RX7, "prints", "(I)I"⟩
abbrev cX7_count : ByteArray := prog_9_method_22_code
def yX7_count : MethodName := ⟨RX7, "count", "(I)I"⟩
abbrev cX7_type : ByteArray := prog_9_method_23_code
def yX7_type : MethodName := ⟨RX7, "type", "(I)I"⟩
abbrev cX7_here : ByteArray := prog_9_method_24_code
def yX7_here : MethodName := ⟨RX7, "here", "()I"⟩
abbrev cX7_must : ByteArray := prog_9_method_25_code
def yX7_must : MethodName := ⟨RX7, "must", "(Z)V"⟩
abbrev cX7_takes : ByteArray := prog_9_method_26_code
def yX7_takes : MethodName := ⟨RX7, "takes", "(I)V"⟩
abbrev cX7_digit : ByteArray := prog_9_method_27_code
def yX7_digit : MethodName := ⟨RX7, "digit", "(II)I"⟩
abbrev cX7_readWalker : ByteArray := prog_9_method_28_code
def yX7_readWalker : MethodName := ⟨RX7, "readWalker", "(I)V"⟩
abbrev cX7_settle : ByteArray := prog_9_method_29_code
def yX7_settle : MethodName := ⟨RX7, "settle", "()I"⟩
abbrev cX7_notes : ByteArray := prog_9_method_30_code
def yX7_notes : MethodName := ⟨RX7, "notes", "()V"⟩
abbrev cX7_beside : ByteArray := prog_9_method_31_code
def yX7_beside : MethodName := ⟨RX7, "beside", "(II)I"⟩
abbrev cX7_treads : ByteArray := prog_9_method_32_code
def yX7_treads : MethodName := ⟨RX7, "treads", "(II)V"⟩
abbrev cX7_steps : ByteArray := prog_9_method_33_code
def yX7_steps : MethodName := ⟨RX7, "steps", "(II)V"⟩
abbrev cX7_step : ByteArray := prog_9_method_34_code
def yX7_step : MethodName := ⟨RX7, "step", "(II)I"⟩
abbrev cX7_goesBy : ByteArray := prog_9_method_35_code
def yX7_goesBy : MethodName := ⟨RX7, "goesBy", "()V"⟩
abbrev cX7_rakes : ByteArray := prog_9_method_36_code
def yX7_rakes : MethodName := ⟨RX7, "rakes", "(I)I"⟩
abbrev cX7_hours : ByteArray := prog_9_method_37_code
def yX7_hours : MethodName := ⟨RX7, "hours", "(I)I"⟩
abbrev cX7_drift : ByteArray := prog_9_method_38_code
def yX7_drift : MethodName := ⟨RX7, "drift", "(I)I"⟩
abbrev cX7_rake : ByteArray := prog_9_method_39_code
def yX7_rake : MethodName := ⟨RX7, "rake", "(I)I"⟩
abbrev cX7_undo : ByteArray := prog_9_method_40_code
def yX7_undo : MethodName := ⟨RX7, "undo", "()I"⟩
abbrev cX7_seed : ByteArray := prog_9_method_41_code
def yX7_seed : MethodName := ⟨RX7, "seed", "(I)I"⟩
abbrev cX7_asides : ByteArray := prog_9_method_42_code
def yX7_asides : MethodName := ⟨RX7, "asides", "()V"⟩
abbrev cX7_backs : ByteArray := prog_9_method_43_code
def yX7_backs : MethodName := ⟨RX7, "backs", "()V"⟩
abbrev cX7_goesOn : ByteArray := prog_9_method_44_code
def yX7_goesOn : MethodName := ⟨RX7, "goesOn", "(I)V"⟩
abbrev cX7_ahead : ByteArray := prog_9_method_45_code
def yX7_ahead : MethodName := ⟨RX7, "ahead", "(II)I"⟩
abbrev cX7_land : ByteArray := prog_9_method_46_code
def yX7_land : MethodName := ⟨RX7, "land", "(II)I"⟩
abbrev cX7_lasts : ByteArray := prog_9_method_47_code
def yX7_lasts : MethodName := ⟨RX7, "lasts", "(II)I"⟩
abbrev cX7_county : ByteArray := prog_9_method_48_code
def yX7_county : MethodName := ⟨RX7, "county", "(I)I"⟩
abbrev cX7_way : ByteArray := prog_9_method_49_code
def yX7_way : MethodName := ⟨RX7, "way", "(III)I"⟩
abbrev cX7_isGone : ByteArray := prog_9_method_50_code
def yX7_isGone : MethodName := ⟨RX7, "isGone", "(III)Z"⟩
abbrev cX7_walk : ByteArray := prog_9_method_51_code
def yX7_walk : MethodName := ⟨RX7, "walk", "(IIII)I"⟩
abbrev cX7_well : ByteArray := prog_9_method_52_code
def yX7_well : MethodName := ⟨RX7, "well", "(III)I"⟩
abbrev cX7_crabs : ByteArray := prog_9_method_53_code
def yX7_crabs : MethodName := ⟨RX7, "crabs", "(IIII)I"⟩
abbrev cX7_image : ByteArray := prog_9_method_54_code
def yX7_image : MethodName := ⟨RX7, "image", "()I"⟩
abbrev cX7_restore : ByteArray := prog_9_method_55_code
def yX7_restore : MethodName := ⟨RX7, "restore", "()I"⟩
abbrev cX7_isSheet : ByteArray := prog_9_method_56_code
def yX7_isSheet : MethodName := ⟨RX7, "isSheet", "(I)Z"⟩
abbrev cX7_isLane : ByteArray := prog_9_method_57_code
def yX7_isLane : MethodName := ⟨RX7, "isLane", "(I)Z"⟩
abbrev cX7_why : ByteArray := prog_9_method_58_code
def yX7_why : MethodName := ⟨RX7, "why", "(IIII)I"⟩
abbrev cX7_raked : ByteArray := prog_9_method_59_code
def yX7_raked : MethodName := ⟨RX7, "raked", "(IIII)I"⟩
abbrev cX7_shoes : ByteArray := prog_9_method_60_code
def yX7_shoes : MethodName := ⟨RX7, "shoes", "(IIII)I"⟩
abbrev cX7_film : ByteArray := prog_9_method_61_code
def yX7_film : MethodName := ⟨RX7, "film", "(IIIII)I"⟩
abbrev cX7_sheet : ByteArray := prog_9_method_62_code
def yX7_sheet : MethodName := ⟨RX7, "sheet", "(III)I"⟩
abbrev cX7_drop : ByteArray := prog_9_method_63_code
def yX7_drop : MethodName := ⟨RX7, "drop", "(I)I"⟩
abbrev cX7_item : ByteArray := prog_9_method_64_code
def yX7_item : MethodName := ⟨RX7, "item", "(IIIJ)I"⟩
abbrev cX7_copy : ByteArray := prog_9_method_65_code
def yX7_copy : MethodName := ⟨RX7, "copy", "(IIIII)I"⟩
def RJx145de : String := "java/io/Serializable"
def TJx145de : u_T := fun k => match k with
  | _ => ("", "", "", false)
def tyJx145de : Nat → FieldType := fun k => match k with
  | _ => .int
abbrev wsJx145de0 : List Cond := u_ws RJx145de TJx145de 0
theorem nmJx145de : ∀ a, a < 0 → ∀ b, b < 0 → a ≠ b → (TJx145de a).2.1 ≠ (TJx145de b).2.1 := by decide +kernel
theorem tyJx145de_ok : ∀ k, k < 0 → parseFieldDescriptor (TJx145de k).2.2.1 = some (tyJx145de k) := by decide +kernel
def RJx9f9b0 : String := "java/lang/CharSequence"
def TJx9f9b0 : u_T := fun k => match k with
  | _ => ("", "", "", false)
def tyJx9f9b0 : Nat → FieldType := fun k => match k with
  | _ => .int
abbrev wsJx9f9b00 : List Cond := u_ws RJx9f9b0 TJx9f9b0 0
theorem nmJx9f9b0 : ∀ a, a < 0 → ∀ b, b < 0 → a ≠ b → (TJx9f9b0 a).2.1 ≠ (TJx9f9b0 b).2.1 := by decide +kernel
theorem tyJx9f9b0_ok : ∀ k, k < 0 → parseFieldDescriptor (TJx9f9b0 k).2.2.1 = some (tyJx9f9b0 k) := by decide +kernel
def RJ11 : String := "java/lang/Character"
def TJ11 : u_T := fun k => match k with
  | _ => ("", "", "", false)
def tyJ11 : Nat → FieldType := fun k => match k with
  | _ => .int
abbrev wsJ110 : List Cond := u_ws RJ11 TJ11 0
theorem nmJ11 : ∀ a, a < 0 → ∀ b, b < 0 → a ≠ b → (TJ11 a).2.1 ≠ (TJ11 b).2.1 := by decide +kernel
theorem tyJ11_ok : ∀ k, k < 0 → parseFieldDescriptor (TJ11 k).2.2.1 = some (tyJ11 k) := by decide +kernel
abbrev cJ11_isValidCodePoint_9a6ad : ByteArray := prog_10_method_11_code
def yJ11_isValidCodePoint_9a6ad : MethodName := ⟨RJ11, "isValidCodePoint", "(I)Z"⟩
abbrev cJ11_highSurrogate_5068e : ByteArray := prog_10_method_28_code
def yJ11_highSurrogate_5068e : MethodName := ⟨RJ11, "highSurrogate", "(I)C"⟩
abbrev cJ11_lowSurrogate_5068e : ByteArray := prog_10_method_29_code
def yJ11_lowSurrogate_5068e : MethodName := ⟨RJ11, "lowSurrogate", "(I)C"⟩
def RJxb160c : String := "java/lang/Comparable"
def TJxb160c : u_T := fun k => match k with
  | _ => ("", "", "", false)
def tyJxb160c : Nat → FieldType := fun k => match k with
  | _ => .int
abbrev wsJxb160c0 : List Cond := u_ws RJxb160c TJxb160c 0
theorem nmJxb160c : ∀ a, a < 0 → ∀ b, b < 0 → a ≠ b → (TJxb160c a).2.1 ≠ (TJxb160c b).2.1 := by decide +kernel
theorem tyJxb160c_ok : ∀ k, k < 0 → parseFieldDescriptor (TJxb160c k).2.2.1 = some (tyJxb160c k) := by decide +kernel
def RJ13 : String := "java/lang/Long"
def TJ13 : u_T := fun k => match k with
  | _ => ("", "", "", false)
def tyJ13 : Nat → FieldType := fun k => match k with
  | _ => .int
abbrev wsJ130 : List Cond := u_ws RJ13 TJ13 0
theorem nmJ13 : ∀ a, a < 0 → ∀ b, b < 0 → a ≠ b → (TJ13 a).2.1 ≠ (TJ13 b).2.1 := by decide +kernel
theorem tyJ13_ok : ∀ k, k < 0 → parseFieldDescriptor (TJ13 k).2.2.1 = some (tyJ13 k) := by decide +kernel
abbrev cJ13_bitCount_95d88 : ByteArray := prog_11_method_50_code
def yJ13_bitCount_95d88 : MethodName := ⟨RJ13, "bitCount", "(J)I"⟩
def RJ9 : String := "java/lang/Math"
def TJ9 : u_T := fun k => match k with
  | _ => ("", "", "", false)
def tyJ9 : Nat → FieldType := fun k => match k with
  | _ => .int
abbrev wsJ90 : List Cond := u_ws RJ9 TJ9 0
theorem nmJ9 : ∀ a, a < 0 → ∀ b, b < 0 → a ≠ b → (TJ9 a).2.1 ≠ (TJ9 b).2.1 := by decide +kernel
theorem tyJ9_ok : ∀ k, k < 0 → parseFieldDescriptor (TJ9 k).2.2.1 = some (tyJ9 k) := by decide +kernel
abbrev cJ9_max_7cf53 : ByteArray := prog_12_method_65_code
def yJ9_max_7cf53 : MethodName := ⟨RJ9, "max", "(II)I"⟩
abbrev cJ9_min_7cf53 : ByteArray := prog_12_method_69_code
def yJ9_min_7cf53 : MethodName := ⟨RJ9, "min", "(II)I"⟩
def RJ0 : String := "java/lang/String"
def TJ0 : u_T := fun k => match k with
  | _ => ("", "", "", false)
def tyJ0 : Nat → FieldType := fun k => match k with
  | _ => .int
abbrev wsJ00 : List Cond := u_ws RJ0 TJ0 0
theorem nmJ0 : ∀ a, a < 0 → ∀ b, b < 0 → a ≠ b → (TJ0 a).2.1 ≠ (TJ0 b).2.1 := by decide +kernel
theorem tyJ0_ok : ∀ k, k < 0 → parseFieldDescriptor (TJ0 k).2.2.1 = some (tyJ0 k) := by decide +kernel
abbrev cJ0_length_8abf5 : ByteArray := prog_13_method_54_code
def yJ0_length_8abf5 : MethodName := ⟨RJ0, "length", "()I"⟩
abbrev cJ0_indexOf_0f7a4 : ByteArray := prog_13_method_79_code
def yJ0_indexOf_0f7a4 : MethodName := ⟨RJ0, "indexOf", "(I)I"⟩
abbrev cJ0_indexOf_7cf53 : ByteArray := prog_13_method_80_code
def yJ0_indexOf_7cf53 : MethodName := ⟨RJ0, "indexOf", "(II)I"⟩
abbrev cJ0_coder_7d493 : ByteArray := prog_13_method_152_code
def yJ0_coder_7d493 : MethodName := ⟨RJ0, "coder", "()B"⟩
abbrev cJ0_isLatin1_aae02 : ByteArray := prog_13_method_154_code
def yJ0_isLatin1_aae02 : MethodName := ⟨RJ0, "isLatin1", "()Z"⟩
abbrev cJ0_checkBoundsBeginEnd_23922 : ByteArray := prog_13_method_158_code
def yJ0_checkBoundsBeginEnd_23922 : MethodName := ⟨RJ0, "checkBoundsBeginEnd", "(III)V"⟩
def RJ1 : String := "java/lang/StringLatin1"
def TJ1 : u_T := fun k => match k with
  | _ => ("", "", "", false)
def tyJ1 : Nat → FieldType := fun k => match k with
  | _ => .int
abbrev wsJ10 : List Cond := u_ws RJ1 TJ1 0
theorem nmJ1 : ∀ a, a < 0 → ∀ b, b < 0 → a ≠ b → (TJ1 a).2.1 ≠ (TJ1 b).2.1 := by decide +kernel
theorem tyJ1_ok : ∀ k, k < 0 → parseFieldDescriptor (TJ1 k).2.2.1 = some (tyJ1 k) := by decide +kernel
abbrev cJ1_canEncode_9a6ad : ByteArray := prog_14_method_4_code
def yJ1_canEncode_9a6ad : MethodName := ⟨RJ1, "canEncode", "(I)Z"⟩
abbrev cJ1_indexOf_4cfef : ByteArray := prog_14_method_22_code
def yJ1_indexOf_4cfef : MethodName := ⟨RJ1, "indexOf", "([BIII)I"⟩
abbrev cJ1_indexOfChar_4cfef : ByteArray := prog_14_method_23_code
def yJ1_indexOfChar_4cfef : MethodName := ⟨RJ1, "indexOfChar", "([BIII)I"⟩
def RJ2 : String := "java/lang/StringUTF16"
def TJ2 : u_T := fun k => match k with
  | _ => ("", "", "", false)
def tyJ2 : Nat → FieldType := fun k => match k with
  | _ => .int
abbrev wsJ20 : List Cond := u_ws RJ2 TJ2 0
theorem nmJ2 : ∀ a, a < 0 → ∀ b, b < 0 → a ≠ b → (TJ2 a).2.1 ≠ (TJ2 b).2.1 := by decide +kernel
theorem tyJ2_ok : ∀ k, k < 0 → parseFieldDescriptor (TJ2 k).2.2.1 = some (tyJ2 k) := by decide +kernel
abbrev cJ2_getChar_3b067 : ByteArray := prog_15_method_5_code
def yJ2_getChar_3b067 : MethodName := ⟨RJ2, "getChar", "([BI)C"⟩
abbrev cJ2_length_9d52b : ByteArray := prog_15_method_6_code
def yJ2_length_9d52b : MethodName := ⟨RJ2, "length", "([B)I"⟩
abbrev cJ2_indexOf_4cfef : ByteArray := prog_15_method_40_code
def yJ2_indexOf_4cfef : MethodName := ⟨RJ2, "indexOf", "([BIII)I"⟩
abbrev cJ2_indexOfChar_4cfef : ByteArray := prog_15_method_47_code
def yJ2_indexOfChar_4cfef : MethodName := ⟨RJ2, "indexOfChar", "([BIII)I"⟩
abbrev cJ2_indexOfCharUnsafe_4cfef : ByteArray := prog_15_method_48_code
def yJ2_indexOfCharUnsafe_4cfef : MethodName := ⟨RJ2, "indexOfCharUnsafe", "([BIII)I"⟩
abbrev cJ2_indexOfSupplementary_4cfef : ByteArray := prog_15_method_49_code
def yJ2_indexOfSupplementary_4cfef : MethodName := ⟨RJ2, "indexOfSupplementary", "([BIII)I"⟩
abbrev cJ2_checkBoundsBeginEnd_d044e : ByteArray := prog_15_method_93_code
def yJ2_checkBoundsBeginEnd_d044e : MethodName := ⟨RJ2, "checkBoundsBeginEnd", "(II[B)V"⟩
def RJ10 : String := "java/lang/System"
def TJ10 : u_T := fun k => match k with
  | _ => ("", "", "", false)
def tyJ10 : Nat → FieldType := fun k => match k with
  | _ => .int
abbrev wsJ100 : List Cond := u_ws RJ10 TJ10 0
theorem nmJ10 : ∀ a, a < 0 → ∀ b, b < 0 → a ≠ b → (TJ10 a).2.1 ≠ (TJ10 b).2.1 := by decide +kernel
theorem tyJ10_ok : ∀ k, k < 0 → parseFieldDescriptor (TJ10 k).2.2.1 = some (tyJ10 k) := by decide +kernel
def RJxfd54e : String := "java/lang/constant/Constable"
def TJxfd54e : u_T := fun k => match k with
  | _ => ("", "", "", false)
def tyJxfd54e : Nat → FieldType := fun k => match k with
  | _ => .int
abbrev wsJxfd54e0 : List Cond := u_ws RJxfd54e TJxfd54e 0
theorem nmJxfd54e : ∀ a, a < 0 → ∀ b, b < 0 → a ≠ b → (TJxfd54e a).2.1 ≠ (TJxfd54e b).2.1 := by decide +kernel
theorem tyJxfd54e_ok : ∀ k, k < 0 → parseFieldDescriptor (TJxfd54e k).2.2.1 = some (tyJxfd54e k) := by decide +kernel
def RJx3cf43 : String := "java/lang/constant/ConstantDesc"
def TJx3cf43 : u_T := fun k => match k with
  | _ => ("", "", "", false)
def tyJx3cf43 : Nat → FieldType := fun k => match k with
  | _ => .int
abbrev wsJx3cf430 : List Cond := u_ws RJx3cf43 TJx3cf43 0
theorem nmJx3cf43 : ∀ a, a < 0 → ∀ b, b < 0 → a ≠ b → (TJx3cf43 a).2.1 ≠ (TJx3cf43 b).2.1 := by decide +kernel
theorem tyJx3cf43_ok : ∀ k, k < 0 → parseFieldDescriptor (TJx3cf43 k).2.2.1 = some (tyJx3cf43 k) := by decide +kernel
def RJ7 : String := "java/util/Arrays"
def TJ7 : u_T := fun k => match k with
  | _ => ("", "", "", false)
def tyJ7 : Nat → FieldType := fun k => match k with
  | _ => .int
abbrev wsJ70 : List Cond := u_ws RJ7 TJ7 0
theorem nmJ7 : ∀ a, a < 0 → ∀ b, b < 0 → a ≠ b → (TJ7 a).2.1 ≠ (TJ7 b).2.1 := by decide +kernel
theorem tyJ7_ok : ∀ k, k < 0 → parseFieldDescriptor (TJ7 k).2.2.1 = some (tyJ7 k) := by decide +kernel
abbrev cJ7_fill_d0a16 : ByteArray := prog_17_method_101_code
def yJ7_fill_d0a16 : MethodName := ⟨RJ7, "fill", "([JJ)V"⟩
abbrev cJ7_fill_53178 : ByteArray := prog_17_method_103_code
def yJ7_fill_53178 : MethodName := ⟨RJ7, "fill", "([II)V"⟩
def RJ3 : String := "jdk/internal/util/Preconditions"
def TJ3 : u_T := fun k => match k with
  | _ => ("", "", "", false)
def tyJ3 : Nat → FieldType := fun k => match k with
  | _ => .int
abbrev wsJ30 : List Cond := u_ws RJ3 TJ3 0
theorem nmJ3 : ∀ a, a < 0 → ∀ b, b < 0 → a ≠ b → (TJ3 a).2.1 ≠ (TJ3 b).2.1 := by decide +kernel
theorem tyJ3_ok : ∀ k, k < 0 → parseFieldDescriptor (TJ3 k).2.2.1 = some (tyJ3 k) := by decide +kernel
abbrev cJ3_checkFromToIndex_8c36e : ByteArray := prog_18_method_12_code
def yJ3_checkFromToIndex_8c36e : MethodName := ⟨RJ3, "checkFromToIndex", "(IIILjava/util/function/BiFunction;)I"⟩
def RL : String := "FootIsleLaw"
abbrev cL_law : ByteArray := code
def yL_law : MethodName := ⟨RL, "law", "([I)Z"⟩
abbrev vwCl : List vw_C := [(RX0, TX0, 10), (RX1, TX1, 7), (RX2, TX2, 3), (RX3, TX3, 4), (RX4, TX4, 9), (RX5, TX5, 5), (RX6, TX6, 7), (RX7, TX7, 19)]
end
section
def gALL : List Cond := lw_tbl.filter goodWord
theorem gmem {i : Nat} {w : Cond} (h : lw_tbl[i]? = some w) (g : goodWord w = true) : w ∈ gALL := List.mem_filter.mpr ⟨List.mem_of_getElem? h, g⟩
theorem gALL_tbl : ∀ w ∈ gALL, w ∈ lw_tbl := fun _ h => (List.mem_filter.mp h).1
theorem gALL_good : ∀ w ∈ gALL, w ∈ gALL ∧ ((w.onTables && w.keeps) = true ∨ ∃ ty, w = .arrayClass ty) := fun _ h => ⟨h, good_of_word (List.mem_filter.mp h).2⟩
/-- the constant pool's place idx of class own names field f of the class of number ci -/
def gFL (own : String) (idx ci f : Nat) (ty : FieldType) (fin : Bool) : Prop := ∃ (C : String) (T : u_T) (N : Nat) (ty0 : Nat → FieldType), vwCl[ci]? = some (C, T, N) ∧ f < N ∧ (∀ q ∈ u_ws C T N, q ∈ gALL) ∧ Cond.fieldLink own idx C (T f).2.1 (T f).2.2.1 ∈ gALL ∧ (T f).1 = C ∧ (T f).2.2.2 = fin ∧ (∀ k, k < N → parseFieldDescriptor (T k).2.2.1 = some (ty0 k)) ∧ ty0 f = ty ∧ (∀ a, a < N → ∀ b, b < N → a ≠ b → (T a).2.1 ≠ (T b).2.1)
def gY (y : MethodName) (cc : ByteArray) (mL : Nat) (ret : Option FieldType) (n : Nat) : Prop :=
  Cond.code y cc mL ret ∈ gALL ∧ Cond.initialized y.cls ∈ gALL ∧ (y.cls ≠ "java/lang/invoke/MethodHandle" ∧ y.cls ≠ "java/lang/invoke/VarHandle" ∧ (parseMethodDescriptor y.desc).map (fun d => d.parameters.length) = some n) ∧ mL ≤ 21
theorem ginX0 : ∀ q ∈ u_ws RX0 TX0 10, q ∈ gALL := by
  intro q hq
  obtain ⟨k, hk, rfl⟩ := List.mem_map.mp hq
  have hk := List.mem_range.mp hk
  match k, hk with
  | 0, _ => exact gmem (i := 129) (by decide +kernel) (by decide +kernel)
  | 1, _ => exact gmem (i := 131) (by decide +kernel) (by decide +kernel)
  | 2, _ => exact gmem (i := 133) (by decide +kernel) (by decide +kernel)
  | 3, _ => exact gmem (i := 135) (by decide +kernel) (by decide +kernel)
  | 4, _ => exact gmem (i := 137) (by decide +kernel) (by decide +kernel)
  | 5, _ => exact gmem (i := 139) (by decide +kernel) (by decide +kernel)
  | 6, _ => exact gmem (i := 141) (by decide +kernel) (by decide +kernel)
  | 7, _ => exact gmem (i := 143) (by decide +kernel) (by decide +kernel)
  | 8, _ => exact gmem (i := 145) (by decide +kernel) (by decide +kernel)
  | 9, _ => exact gmem (i := 147) (by decide +kernel) (by decide +kernel)
  | k + 10, h => exact absurd h (by omega)
theorem ginX1 : ∀ q ∈ u_ws RX1 TX1 7, q ∈ gALL := by
  intro q hq
  obtain ⟨k, hk, rfl⟩ := List.mem_map.mp hq
  have hk := List.mem_range.mp hk
  match k, hk with
  | 0, _ => exact gmem (i := 80) (by decide +kernel) (by decide +kernel)
  | 1, _ => exact gmem (i := 82) (by decide +kernel) (by decide +kernel)
  | 2, _ => exact gmem (i := 84) (by decide +kernel) (by decide +kernel)
  | 3, _ => exact gmem (i := 86) (by decide +kernel) (by decide +kernel)
  | 4, _ => exact gmem (i := 88) (by decide +kernel) (by decide +kernel)
  | 5, _ => exact gmem (i := 90) (by decide +kernel) (by decide +kernel)
  | 6, _ => exact gmem (i := 92) (by decide +kernel) (by decide +kernel)
  | k + 7, h => exact absurd h (by omega)
theorem ginX2 : ∀ q ∈ u_ws RX2 TX2 3, q ∈ gALL := by
  intro q hq
  obtain ⟨k, hk, rfl⟩ := List.mem_map.mp hq
  have hk := List.mem_range.mp hk
  match k, hk with
  | 0, _ => exact gmem (i := 248) (by decide +kernel) (by decide +kernel)
  | 1, _ => exact gmem (i := 250) (by decide +kernel) (by decide +kernel)
  | 2, _ => exact gmem (i := 252) (by decide +kernel) (by decide +kernel)
  | k + 3, h => exact absurd h (by omega)
theorem ginX3 : ∀ q ∈ u_ws RX3 TX3 4, q ∈ gALL := by
  intro q hq
  obtain ⟨k, hk, rfl⟩ := List.mem_map.mp hq
  have hk := List.mem_range.mp hk
  match k, hk with
  | 0, _ => exact gmem (i := 207) (by decide +kernel) (by decide +kernel)
  | 1, _ => exact gmem (i := 209) (by decide +kernel) (by decide +kernel)
  | 2, _ => exact gmem (i := 211) (by decide +kernel) (by decide +kernel)
  | 3, _ => exact gmem (i := 213) (by decide +kernel) (by decide +kernel)
  | k + 4, h => exact absurd h (by omega)
theorem ginX4 : ∀ q ∈ u_ws RX4 TX4 9, q ∈ gALL := by
  intro q hq
  obtain ⟨k, hk, rfl⟩ := List.mem_map.mp hq
  have hk := List.mem_range.mp hk
  match k, hk with
  | 0, _ => exact gmem (i := 172) (by decide +kernel) (by decide +kernel)
  | 1, _ => exact gmem (i := 174) (by decide +kernel) (by decide +kernel)
  | 2, _ => exact gmem (i := 176) (by decide +kernel) (by decide +kernel)
  | 3, _ => exact gmem (i := 178) (by decide +kernel) (by decide +kernel)
  | 4, _ => exact gmem (i := 180) (by decide +kernel) (by decide +kernel)
  | 5, _ => exact gmem (i := 182) (by decide +kernel) (by decide +kernel)
  | 6, _ => exact gmem (i := 184) (by decide +kernel) (by decide +kernel)
  | 7, _ => exact gmem (i := 186) (by decide +kernel) (by decide +kernel)
  | 8, _ => exact gmem (i := 188) (by decide +kernel) (by decide +kernel)
  | k + 9, h => exact absurd h (by omega)
theorem ginX5 : ∀ q ∈ u_ws RX5 TX5 5, q ∈ gALL := by
  intro q hq
  obtain ⟨k, hk, rfl⟩ := List.mem_map.mp hq
  have hk := List.mem_range.mp hk
  match k, hk with
  | 0, _ => exact gmem (i := 227) (by decide +kernel) (by decide +kernel)
  | 1, _ => exact gmem (i := 229) (by decide +kernel) (by decide +kernel)
  | 2, _ => exact gmem (i := 231) (by decide +kernel) (by decide +kernel)
  | 3, _ => exact gmem (i := 233) (by decide +kernel) (by decide +kernel)
  | 4, _ => exact gmem (i := 235) (by decide +kernel) (by decide +kernel)
  | k + 5, h => exact absurd h (by omega)
theorem ginX6 : ∀ q ∈ u_ws RX6 TX6 7, q ∈ gALL := by
  intro q hq
  obtain ⟨k, hk, rfl⟩ := List.mem_map.mp hq
  have hk := List.mem_range.mp hk
  match k, hk with
  | 0, _ => exact gmem (i := 263) (by decide +kernel) (by decide +kernel)
  | 1, _ => exact gmem (i := 265) (by decide +kernel) (by decide +kernel)
  | 2, _ => exact gmem (i := 267) (by decide +kernel) (by decide +kernel)
  | 3, _ => exact gmem (i := 269) (by decide +kernel) (by decide +kernel)
  | 4, _ => exact gmem (i := 271) (by decide +kernel) (by decide +kernel)
  | 5, _ => exact gmem (i := 273) (by decide +kernel) (by decide +kernel)
  | 6, _ => exact gmem (i := 275) (by decide +kernel) (by decide +kernel)
  | k + 7, h => exact absurd h (by omega)
theorem ginX7 : ∀ q ∈ u_ws RX7 TX7 19, q ∈ gALL := by
  intro q hq
  obtain ⟨k, hk, rfl⟩ := List.mem_map.mp hq
  have hk := List.mem_range.mp hk
  match k, hk with
  | 0, _ => exact gmem (i := 778) (by decide +kernel) (by decide +kernel)
  | 1, _ => exact gmem (i := 780) (by decide +kernel) (by decide +kernel)
  | 2, _ => exact gmem (i := 782) (by decide +kernel) (by decide +kernel)
  | 3, _ => exact gmem (i := 784) (by decide +kernel) (by decide +kernel)
  | 4, _ => exact gmem (i := 786) (by decide +kernel) (by decide +kernel)
  | 5, _ => exact gmem (i := 788) (by decide +kernel) (by decide +kernel)
  | 6, _ => exact gmem (i := 790) (by decide +kernel) (by decide +kernel)
  | 7, _ => exact gmem (i := 792) (by decide +kernel) (by decide +kernel)
  | 8, _ => exact gmem (i := 794) (by decide +kernel) (by decide +kernel)
  | 9, _ => exact gmem (i := 796) (by decide +kernel) (by decide +kernel)
  | 10, _ => exact gmem (i := 798) (by decide +kernel) (by decide +kernel)
  | 11, _ => exact gmem (i := 800) (by decide +kernel) (by decide +kernel)
  | 12, _ => exact gmem (i := 802) (by decide +kernel) (by decide +kernel)
  | 13, _ => exact gmem (i := 804) (by decide +kernel) (by decide +kernel)
  | 14, _ => exact gmem (i := 806) (by decide +kernel) (by decide +kernel)
  | 15, _ => exact gmem (i := 808) (by decide +kernel) (by decide +kernel)
  | 16, _ => exact gmem (i := 810) (by decide +kernel) (by decide +kernel)
  | 17, _ => exact gmem (i := 812) (by decide +kernel) (by decide +kernel)
  | 18, _ => exact gmem (i := 814) (by decide +kernel) (by decide +kernel)
  | k + 19, h => exact absurd h (by omega)
theorem flX1_9 : gFL RX1 9 1 0 (tyX1 0) true := ⟨RX1, TX1, 7, tyX1, rfl, by decide, ginX1, gmem (i := 72) (by decide +kernel) rfl, rfl, rfl, tyX1_ok, rfl, nmX1⟩
theorem flX1_15 : gFL RX1 15 1 1 (tyX1 1) true := ⟨RX1, TX1, 7, tyX1, rfl, by decide, ginX1, gmem (i := 73) (by decide +kernel) rfl, rfl, rfl, tyX1_ok, rfl, nmX1⟩
theorem flX1_18 : gFL RX1 18 1 2 (tyX1 2) true := ⟨RX1, TX1, 7, tyX1, rfl, by decide, ginX1, gmem (i := 74) (by decide +kernel) rfl, rfl, rfl, tyX1_ok, rfl, nmX1⟩
theorem flX1_21 : gFL RX1 21 1 3 (tyX1 3) true := ⟨RX1, TX1, 7, tyX1, rfl, by decide, ginX1, gmem (i := 75) (by decide +kernel) rfl, rfl, rfl, tyX1_ok, rfl, nmX1⟩
theorem flX1_24 : gFL RX1 24 1 4 (tyX1 4) true := ⟨RX1, TX1, 7, tyX1, rfl, by decide, ginX1, gmem (i := 76) (by decide +kernel) rfl, rfl, rfl, tyX1_ok, rfl, nmX1⟩
theorem flX1_27 : gFL RX1 27 1 5 (tyX1 5) false := ⟨RX1, TX1, 7, tyX1, rfl, by decide, ginX1, gmem (i := 77) (by decide +kernel) rfl, rfl, rfl, tyX1_ok, rfl, nmX1⟩
theorem flX1_31 : gFL RX1 31 1 6 (tyX1 6) false := ⟨RX1, TX1, 7, tyX1, rfl, by decide, ginX1, gmem (i := 78) (by decide +kernel) rfl, rfl, rfl, tyX1_ok, rfl, nmX1⟩
theorem flX6_138 : gFL RX6 138 1 6 (tyX1 6) false := ⟨RX1, TX1, 7, tyX1, rfl, by decide, ginX1, gmem (i := 79) (by decide +kernel) rfl, rfl, rfl, tyX1_ok, rfl, nmX1⟩
theorem flX0_9 : gFL RX0 9 0 0 (tyX0 0) true := ⟨RX0, TX0, 10, tyX0, rfl, by decide, ginX0, gmem (i := 96) (by decide +kernel) rfl, rfl, rfl, tyX0_ok, rfl, nmX0⟩
theorem flX3_45 : gFL RX3 45 0 0 (tyX0 0) true := ⟨RX0, TX0, 10, tyX0, rfl, by decide, ginX0, gmem (i := 97) (by decide +kernel) rfl, rfl, rfl, tyX0_ok, rfl, nmX0⟩
theorem flX6_108 : gFL RX6 108 0 0 (tyX0 0) true := ⟨RX0, TX0, 10, tyX0, rfl, by decide, ginX0, gmem (i := 98) (by decide +kernel) rfl, rfl, rfl, tyX0_ok, rfl, nmX0⟩
theorem flX5_83 : gFL RX5 83 0 0 (tyX0 0) true := ⟨RX0, TX0, 10, tyX0, rfl, by decide, ginX0, gmem (i := 99) (by decide +kernel) rfl, rfl, rfl, tyX0_ok, rfl, nmX0⟩
theorem flX0_15 : gFL RX0 15 0 1 (tyX0 1) true := ⟨RX0, TX0, 10, tyX0, rfl, by decide, ginX0, gmem (i := 100) (by decide +kernel) rfl, rfl, rfl, tyX0_ok, rfl, nmX0⟩
theorem flX6_75 : gFL RX6 75 0 1 (tyX0 1) true := ⟨RX0, TX0, 10, tyX0, rfl, by decide, ginX0, gmem (i := 101) (by decide +kernel) rfl, rfl, rfl, tyX0_ok, rfl, nmX0⟩
theorem flX5_59 : gFL RX5 59 0 1 (tyX0 1) true := ⟨RX0, TX0, 10, tyX0, rfl, by decide, ginX0, gmem (i := 102) (by decide +kernel) rfl, rfl, rfl, tyX0_ok, rfl, nmX0⟩
theorem flX0_18 : gFL RX0 18 0 2 (tyX0 2) true := ⟨RX0, TX0, 10, tyX0, rfl, by decide, ginX0, gmem (i := 103) (by decide +kernel) rfl, rfl, rfl, tyX0_ok, rfl, nmX0⟩
theorem flX6_79 : gFL RX6 79 0 2 (tyX0 2) true := ⟨RX0, TX0, 10, tyX0, rfl, by decide, ginX0, gmem (i := 104) (by decide +kernel) rfl, rfl, rfl, tyX0_ok, rfl, nmX0⟩
theorem flX0_21 : gFL RX0 21 0 3 (tyX0 3) true := ⟨RX0, TX0, 10, tyX0, rfl, by decide, ginX0, gmem (i := 105) (by decide +kernel) rfl, rfl, rfl, tyX0_ok, rfl, nmX0⟩
theorem flX1_43 : gFL RX1 43 0 3 (tyX0 3) true := ⟨RX0, TX0, 10, tyX0, rfl, by decide, ginX0, gmem (i := 106) (by decide +kernel) rfl, rfl, rfl, tyX0_ok, rfl, nmX0⟩
theorem flX5_48 : gFL RX5 48 0 3 (tyX0 3) true := ⟨RX0, TX0, 10, tyX0, rfl, by decide, ginX0, gmem (i := 107) (by decide +kernel) rfl, rfl, rfl, tyX0_ok, rfl, nmX0⟩
theorem flX6_82 : gFL RX6 82 0 3 (tyX0 3) true := ⟨RX0, TX0, 10, tyX0, rfl, by decide, ginX0, gmem (i := 108) (by decide +kernel) rfl, rfl, rfl, tyX0_ok, rfl, nmX0⟩
theorem flX0_24 : gFL RX0 24 0 4 (tyX0 4) true := ⟨RX0, TX0, 10, tyX0, rfl, by decide, ginX0, gmem (i := 109) (by decide +kernel) rfl, rfl, rfl, tyX0_ok, rfl, nmX0⟩
theorem flX1_44 : gFL RX1 44 0 4 (tyX0 4) true := ⟨RX0, TX0, 10, tyX0, rfl, by decide, ginX0, gmem (i := 110) (by decide +kernel) rfl, rfl, rfl, tyX0_ok, rfl, nmX0⟩
theorem flX5_62 : gFL RX5 62 0 4 (tyX0 4) true := ⟨RX0, TX0, 10, tyX0, rfl, by decide, ginX0, gmem (i := 111) (by decide +kernel) rfl, rfl, rfl, tyX0_ok, rfl, nmX0⟩
theorem flX6_85 : gFL RX6 85 0 4 (tyX0 4) true := ⟨RX0, TX0, 10, tyX0, rfl, by decide, ginX0, gmem (i := 112) (by decide +kernel) rfl, rfl, rfl, tyX0_ok, rfl, nmX0⟩
theorem flX0_27 : gFL RX0 27 0 5 (tyX0 5) true := ⟨RX0, TX0, 10, tyX0, rfl, by decide, ginX0, gmem (i := 113) (by decide +kernel) rfl, rfl, rfl, tyX0_ok, rfl, nmX0⟩
theorem flX1_34 : gFL RX1 34 0 5 (tyX0 5) true := ⟨RX0, TX0, 10, tyX0, rfl, by decide, ginX0, gmem (i := 114) (by decide +kernel) rfl, rfl, rfl, tyX0_ok, rfl, nmX0⟩
theorem flX5_47 : gFL RX5 47 0 5 (tyX0 5) true := ⟨RX0, TX0, 10, tyX0, rfl, by decide, ginX0, gmem (i := 115) (by decide +kernel) rfl, rfl, rfl, tyX0_ok, rfl, nmX0⟩
theorem flX3_38 : gFL RX3 38 0 5 (tyX0 5) true := ⟨RX0, TX0, 10, tyX0, rfl, by decide, ginX0, gmem (i := 116) (by decide +kernel) rfl, rfl, rfl, tyX0_ok, rfl, nmX0⟩
theorem flX6_111 : gFL RX6 111 0 5 (tyX0 5) true := ⟨RX0, TX0, 10, tyX0, rfl, by decide, ginX0, gmem (i := 117) (by decide +kernel) rfl, rfl, rfl, tyX0_ok, rfl, nmX0⟩
theorem flX0_33 : gFL RX0 33 0 6 (tyX0 6) true := ⟨RX0, TX0, 10, tyX0, rfl, by decide, ginX0, gmem (i := 118) (by decide +kernel) rfl, rfl, rfl, tyX0_ok, rfl, nmX0⟩
theorem flX6_59 : gFL RX6 59 0 6 (tyX0 6) true := ⟨RX0, TX0, 10, tyX0, rfl, by decide, ginX0, gmem (i := 119) (by decide +kernel) rfl, rfl, rfl, tyX0_ok, rfl, nmX0⟩
theorem flX0_37 : gFL RX0 37 0 7 (tyX0 7) false := ⟨RX0, TX0, 10, tyX0, rfl, by decide, ginX0, gmem (i := 120) (by decide +kernel) rfl, rfl, rfl, tyX0_ok, rfl, nmX0⟩
theorem flX6_55 : gFL RX6 55 0 7 (tyX0 7) false := ⟨RX0, TX0, 10, tyX0, rfl, by decide, ginX0, gmem (i := 121) (by decide +kernel) rfl, rfl, rfl, tyX0_ok, rfl, nmX0⟩
theorem flX3_29 : gFL RX3 29 0 7 (tyX0 7) false := ⟨RX0, TX0, 10, tyX0, rfl, by decide, ginX0, gmem (i := 122) (by decide +kernel) rfl, rfl, rfl, tyX0_ok, rfl, nmX0⟩
theorem flX0_41 : gFL RX0 41 0 8 (tyX0 8) false := ⟨RX0, TX0, 10, tyX0, rfl, by decide, ginX0, gmem (i := 123) (by decide +kernel) rfl, rfl, rfl, tyX0_ok, rfl, nmX0⟩
theorem flX1_45 : gFL RX1 45 0 8 (tyX0 8) false := ⟨RX0, TX0, 10, tyX0, rfl, by decide, ginX0, gmem (i := 124) (by decide +kernel) rfl, rfl, rfl, tyX0_ok, rfl, nmX0⟩
theorem flX6_135 : gFL RX6 135 0 8 (tyX0 8) false := ⟨RX0, TX0, 10, tyX0, rfl, by decide, ginX0, gmem (i := 125) (by decide +kernel) rfl, rfl, rfl, tyX0_ok, rfl, nmX0⟩
theorem flX0_44 : gFL RX0 44 0 9 (tyX0 9) false := ⟨RX0, TX0, 10, tyX0, rfl, by decide, ginX0, gmem (i := 126) (by decide +kernel) rfl, rfl, rfl, tyX0_ok, rfl, nmX0⟩
theorem flX1_48 : gFL RX1 48 0 9 (tyX0 9) false := ⟨RX0, TX0, 10, tyX0, rfl, by decide, ginX0, gmem (i := 127) (by decide +kernel) rfl, rfl, rfl, tyX0_ok, rfl, nmX0⟩
theorem flX6_173 : gFL RX6 173 0 9 (tyX0 9) false := ⟨RX0, TX0, 10, tyX0, rfl, by decide, ginX0, gmem (i := 128) (by decide +kernel) rfl, rfl, rfl, tyX0_ok, rfl, nmX0⟩
theorem flX4_9 : gFL RX4 9 4 0 (tyX4 0) true := ⟨RX4, TX4, 9, tyX4, rfl, by decide, ginX4, gmem (i := 156) (by decide +kernel) rfl, rfl, rfl, tyX4_ok, rfl, nmX4⟩
theorem flX4_15 : gFL RX4 15 4 1 (tyX4 1) true := ⟨RX4, TX4, 9, tyX4, rfl, by decide, ginX4, gmem (i := 157) (by decide +kernel) rfl, rfl, rfl, tyX4_ok, rfl, nmX4⟩
theorem flX0_75 : gFL RX0 75 4 1 (tyX4 1) true := ⟨RX4, TX4, 9, tyX4, rfl, by decide, ginX4, gmem (i := 158) (by decide +kernel) rfl, rfl, rfl, tyX4_ok, rfl, nmX4⟩
theorem flX4_18 : gFL RX4 18 4 2 (tyX4 2) true := ⟨RX4, TX4, 9, tyX4, rfl, by decide, ginX4, gmem (i := 159) (by decide +kernel) rfl, rfl, rfl, tyX4_ok, rfl, nmX4⟩
theorem flX0_76 : gFL RX0 76 4 2 (tyX4 2) true := ⟨RX4, TX4, 9, tyX4, rfl, by decide, ginX4, gmem (i := 160) (by decide +kernel) rfl, rfl, rfl, tyX4_ok, rfl, nmX4⟩
theorem flX4_21 : gFL RX4 21 4 3 (tyX4 3) true := ⟨RX4, TX4, 9, tyX4, rfl, by decide, ginX4, gmem (i := 161) (by decide +kernel) rfl, rfl, rfl, tyX4_ok, rfl, nmX4⟩
theorem flX0_77 : gFL RX0 77 4 3 (tyX4 3) true := ⟨RX4, TX4, 9, tyX4, rfl, by decide, ginX4, gmem (i := 162) (by decide +kernel) rfl, rfl, rfl, tyX4_ok, rfl, nmX4⟩
theorem flX4_24 : gFL RX4 24 4 4 (tyX4 4) false := ⟨RX4, TX4, 9, tyX4, rfl, by decide, ginX4, gmem (i := 163) (by decide +kernel) rfl, rfl, rfl, tyX4_ok, rfl, nmX4⟩
theorem flX6_124 : gFL RX6 124 4 4 (tyX4 4) false := ⟨RX4, TX4, 9, tyX4, rfl, by decide, ginX4, gmem (i := 164) (by decide +kernel) rfl, rfl, rfl, tyX4_ok, rfl, nmX4⟩
theorem flX4_28 : gFL RX4 28 4 5 (tyX4 5) false := ⟨RX4, TX4, 9, tyX4, rfl, by decide, ginX4, gmem (i := 165) (by decide +kernel) rfl, rfl, rfl, tyX4_ok, rfl, nmX4⟩
theorem flX4_31 : gFL RX4 31 4 6 (tyX4 6) false := ⟨RX4, TX4, 9, tyX4, rfl, by decide, ginX4, gmem (i := 166) (by decide +kernel) rfl, rfl, rfl, tyX4_ok, rfl, nmX4⟩
theorem flX0_66 : gFL RX0 66 4 6 (tyX4 6) false := ⟨RX4, TX4, 9, tyX4, rfl, by decide, ginX4, gmem (i := 167) (by decide +kernel) rfl, rfl, rfl, tyX4_ok, rfl, nmX4⟩
theorem flX4_34 : gFL RX4 34 4 7 (tyX4 7) false := ⟨RX4, TX4, 9, tyX4, rfl, by decide, ginX4, gmem (i := 168) (by decide +kernel) rfl, rfl, rfl, tyX4_ok, rfl, nmX4⟩
theorem flX0_71 : gFL RX0 71 4 7 (tyX4 7) false := ⟨RX4, TX4, 9, tyX4, rfl, by decide, ginX4, gmem (i := 169) (by decide +kernel) rfl, rfl, rfl, tyX4_ok, rfl, nmX4⟩
theorem flX4_37 : gFL RX4 37 4 8 (tyX4 8) false := ⟨RX4, TX4, 9, tyX4, rfl, by decide, ginX4, gmem (i := 170) (by decide +kernel) rfl, rfl, rfl, tyX4_ok, rfl, nmX4⟩
theorem flX0_74 : gFL RX0 74 4 8 (tyX4 8) false := ⟨RX4, TX4, 9, tyX4, rfl, by decide, ginX4, gmem (i := 171) (by decide +kernel) rfl, rfl, rfl, tyX4_ok, rfl, nmX4⟩
theorem flX3_9 : gFL RX3 9 3 0 (tyX3 0) true := ⟨RX3, TX3, 4, tyX3, rfl, by decide, ginX3, gmem (i := 199) (by decide +kernel) rfl, rfl, rfl, tyX3_ok, rfl, nmX3⟩
theorem flX5_40 : gFL RX5 40 3 0 (tyX3 0) true := ⟨RX3, TX3, 4, tyX3, rfl, by decide, ginX3, gmem (i := 200) (by decide +kernel) rfl, rfl, rfl, tyX3_ok, rfl, nmX3⟩
theorem flX6_114 : gFL RX6 114 3 0 (tyX3 0) true := ⟨RX3, TX3, 4, tyX3, rfl, by decide, ginX3, gmem (i := 201) (by decide +kernel) rfl, rfl, rfl, tyX3_ok, rfl, nmX3⟩
theorem flX3_15 : gFL RX3 15 3 1 (tyX3 1) true := ⟨RX3, TX3, 4, tyX3, rfl, by decide, ginX3, gmem (i := 202) (by decide +kernel) rfl, rfl, rfl, tyX3_ok, rfl, nmX3⟩
theorem flX6_99 : gFL RX6 99 3 1 (tyX3 1) true := ⟨RX3, TX3, 4, tyX3, rfl, by decide, ginX3, gmem (i := 203) (by decide +kernel) rfl, rfl, rfl, tyX3_ok, rfl, nmX3⟩
theorem flX3_18 : gFL RX3 18 3 2 (tyX3 2) false := ⟨RX3, TX3, 4, tyX3, rfl, by decide, ginX3, gmem (i := 204) (by decide +kernel) rfl, rfl, rfl, tyX3_ok, rfl, nmX3⟩
theorem flX6_141 : gFL RX6 141 3 2 (tyX3 2) false := ⟨RX3, TX3, 4, tyX3, rfl, by decide, ginX3, gmem (i := 205) (by decide +kernel) rfl, rfl, rfl, tyX3_ok, rfl, nmX3⟩
theorem flX3_22 : gFL RX3 22 3 3 (tyX3 3) false := ⟨RX3, TX3, 4, tyX3, rfl, by decide, ginX3, gmem (i := 206) (by decide +kernel) rfl, rfl, rfl, tyX3_ok, rfl, nmX3⟩
theorem flX5_9 : gFL RX5 9 5 0 (tyX5 0) true := ⟨RX5, TX5, 5, tyX5, rfl, by decide, ginX5, gmem (i := 222) (by decide +kernel) rfl, rfl, rfl, tyX5_ok, rfl, nmX5⟩
theorem flX5_15 : gFL RX5 15 5 1 (tyX5 1) true := ⟨RX5, TX5, 5, tyX5, rfl, by decide, ginX5, gmem (i := 223) (by decide +kernel) rfl, rfl, rfl, tyX5_ok, rfl, nmX5⟩
theorem flX5_18 : gFL RX5 18 5 2 (tyX5 2) false := ⟨RX5, TX5, 5, tyX5, rfl, by decide, ginX5, gmem (i := 224) (by decide +kernel) rfl, rfl, rfl, tyX5_ok, rfl, nmX5⟩
theorem flX5_22 : gFL RX5 22 5 3 (tyX5 3) false := ⟨RX5, TX5, 5, tyX5, rfl, by decide, ginX5, gmem (i := 225) (by decide +kernel) rfl, rfl, rfl, tyX5_ok, rfl, nmX5⟩
theorem flX5_25 : gFL RX5 25 5 4 (tyX5 4) false := ⟨RX5, TX5, 5, tyX5, rfl, by decide, ginX5, gmem (i := 226) (by decide +kernel) rfl, rfl, rfl, tyX5_ok, rfl, nmX5⟩
theorem flX2_9 : gFL RX2 9 2 0 (tyX2 0) true := ⟨RX2, TX2, 3, tyX2, rfl, by decide, ginX2, gmem (i := 243) (by decide +kernel) rfl, rfl, rfl, tyX2_ok, rfl, nmX2⟩
theorem flX6_237 : gFL RX6 237 2 0 (tyX2 0) true := ⟨RX2, TX2, 3, tyX2, rfl, by decide, ginX2, gmem (i := 244) (by decide +kernel) rfl, rfl, rfl, tyX2_ok, rfl, nmX2⟩
theorem flX2_15 : gFL RX2 15 2 1 (tyX2 1) false := ⟨RX2, TX2, 3, tyX2, rfl, by decide, ginX2, gmem (i := 245) (by decide +kernel) rfl, rfl, rfl, tyX2_ok, rfl, nmX2⟩
theorem flX6_261 : gFL RX6 261 2 1 (tyX2 1) false := ⟨RX2, TX2, 3, tyX2, rfl, by decide, ginX2, gmem (i := 246) (by decide +kernel) rfl, rfl, rfl, tyX2_ok, rfl, nmX2⟩
theorem flX2_19 : gFL RX2 19 2 2 (tyX2 2) false := ⟨RX2, TX2, 3, tyX2, rfl, by decide, ginX2, gmem (i := 247) (by decide +kernel) rfl, rfl, rfl, tyX2_ok, rfl, nmX2⟩
theorem flX6_12 : gFL RX6 12 6 0 (tyX6 0) true := ⟨RX6, TX6, 7, tyX6, rfl, by decide, ginX6, gmem (i := 256) (by decide +kernel) rfl, rfl, rfl, tyX6_ok, rfl, nmX6⟩
theorem flX6_16 : gFL RX6 16 6 1 (tyX6 1) true := ⟨RX6, TX6, 7, tyX6, rfl, by decide, ginX6, gmem (i := 257) (by decide +kernel) rfl, rfl, rfl, tyX6_ok, rfl, nmX6⟩
theorem flX6_19 : gFL RX6 19 6 2 (tyX6 2) false := ⟨RX6, TX6, 7, tyX6, rfl, by decide, ginX6, gmem (i := 258) (by decide +kernel) rfl, rfl, rfl, tyX6_ok, rfl, nmX6⟩
theorem flX6_26 : gFL RX6 26 6 3 (tyX6 3) true := ⟨RX6, TX6, 7, tyX6, rfl, by decide, ginX6, gmem (i := 259) (by decide +kernel) rfl, rfl, rfl, tyX6_ok, rfl, nmX6⟩
theorem flX6_32 : gFL RX6 32 6 4 (tyX6 4) true := ⟨RX6, TX6, 7, tyX6, rfl, by decide, ginX6, gmem (i := 260) (by decide +kernel) rfl, rfl, rfl, tyX6_ok, rfl, nmX6⟩
theorem flX6_39 : gFL RX6 39 6 5 (tyX6 5) true := ⟨RX6, TX6, 7, tyX6, rfl, by decide, ginX6, gmem (i := 261) (by decide +kernel) rfl, rfl, rfl, tyX6_ok, rfl, nmX6⟩
theorem flX6_46 : gFL RX6 46 6 6 (tyX6 6) true := ⟨RX6, TX6, 7, tyX6, rfl, by decide, ginX6, gmem (i := 262) (by decide +kernel) rfl, rfl, rfl, tyX6_ok, rfl, nmX6⟩
theorem flX7_7 : gFL RX7 7 7 0 (tyX7 0) true := ⟨RX7, TX7, 19, tyX7, rfl, by decide, ginX7, gmem (i := 759) (by decide +kernel) rfl, rfl, rfl, tyX7_ok, rfl, nmX7⟩
theorem flX7_13 : gFL RX7 13 7 1 (tyX7 1) true := ⟨RX7, TX7, 19, tyX7, rfl, by decide, ginX7, gmem (i := 760) (by decide +kernel) rfl, rfl, rfl, tyX7_ok, rfl, nmX7⟩
theorem flX7_16 : gFL RX7 16 7 2 (tyX7 2) true := ⟨RX7, TX7, 19, tyX7, rfl, by decide, ginX7, gmem (i := 761) (by decide +kernel) rfl, rfl, rfl, tyX7_ok, rfl, nmX7⟩
theorem flX7_119 : gFL RX7 119 7 3 (tyX7 3) false := ⟨RX7, TX7, 19, tyX7, rfl, by decide, ginX7, gmem (i := 762) (by decide +kernel) rfl, rfl, rfl, tyX7_ok, rfl, nmX7⟩
theorem flX7_122 : gFL RX7 122 7 4 (tyX7 4) false := ⟨RX7, TX7, 19, tyX7, rfl, by decide, ginX7, gmem (i := 763) (by decide +kernel) rfl, rfl, rfl, tyX7_ok, rfl, nmX7⟩
theorem flX7_125 : gFL RX7 125 7 5 (tyX7 5) false := ⟨RX7, TX7, 19, tyX7, rfl, by decide, ginX7, gmem (i := 764) (by decide +kernel) rfl, rfl, rfl, tyX7_ok, rfl, nmX7⟩
theorem flX7_19 : gFL RX7 19 7 6 (tyX7 6) true := ⟨RX7, TX7, 19, tyX7, rfl, by decide, ginX7, gmem (i := 765) (by decide +kernel) rfl, rfl, rfl, tyX7_ok, rfl, nmX7⟩
theorem flX7_22 : gFL RX7 22 7 7 (tyX7 7) true := ⟨RX7, TX7, 19, tyX7, rfl, by decide, ginX7, gmem (i := 766) (by decide +kernel) rfl, rfl, rfl, tyX7_ok, rfl, nmX7⟩
theorem flX7_69 : gFL RX7 69 7 8 (tyX7 8) false := ⟨RX7, TX7, 19, tyX7, rfl, by decide, ginX7, gmem (i := 767) (by decide +kernel) rfl, rfl, rfl, tyX7_ok, rfl, nmX7⟩
theorem flX7_25 : gFL RX7 25 7 9 (tyX7 9) true := ⟨RX7, TX7, 19, tyX7, rfl, by decide, ginX7, gmem (i := 768) (by decide +kernel) rfl, rfl, rfl, tyX7_ok, rfl, nmX7⟩
theorem flX7_28 : gFL RX7 28 7 10 (tyX7 10) true := ⟨RX7, TX7, 19, tyX7, rfl, by decide, ginX7, gmem (i := 769) (by decide +kernel) rfl, rfl, rfl, tyX7_ok, rfl, nmX7⟩
theorem flX7_32 : gFL RX7 32 7 11 (tyX7 11) true := ⟨RX7, TX7, 19, tyX7, rfl, by decide, ginX7, gmem (i := 770) (by decide +kernel) rfl, rfl, rfl, tyX7_ok, rfl, nmX7⟩
theorem flX7_35 : gFL RX7 35 7 12 (tyX7 12) true := ⟨RX7, TX7, 19, tyX7, rfl, by decide, ginX7, gmem (i := 771) (by decide +kernel) rfl, rfl, rfl, tyX7_ok, rfl, nmX7⟩
theorem flX7_195 : gFL RX7 195 7 13 (tyX7 13) false := ⟨RX7, TX7, 19, tyX7, rfl, by decide, ginX7, gmem (i := 772) (by decide +kernel) rfl, rfl, rfl, tyX7_ok, rfl, nmX7⟩
theorem flX7_198 : gFL RX7 198 7 14 (tyX7 14) false := ⟨RX7, TX7, 19, tyX7, rfl, by decide, ginX7, gmem (i := 773) (by decide +kernel) rfl, rfl, rfl, tyX7_ok, rfl, nmX7⟩
theorem flX7_38 : gFL RX7 38 7 15 (tyX7 15) true := ⟨RX7, TX7, 19, tyX7, rfl, by decide, ginX7, gmem (i := 774) (by decide +kernel) rfl, rfl, rfl, tyX7_ok, rfl, nmX7⟩
theorem flX7_41 : gFL RX7 41 7 16 (tyX7 16) true := ⟨RX7, TX7, 19, tyX7, rfl, by decide, ginX7, gmem (i := 775) (by decide +kernel) rfl, rfl, rfl, tyX7_ok, rfl, nmX7⟩
theorem flX7_44 : gFL RX7 44 7 17 (tyX7 17) true := ⟨RX7, TX7, 19, tyX7, rfl, by decide, ginX7, gmem (i := 776) (by decide +kernel) rfl, rfl, rfl, tyX7_ok, rfl, nmX7⟩
theorem flX7_48 : gFL RX7 48 7 18 (tyX7 18) true := ⟨RX7, TX7, 19, tyX7, rfl, by decide, ginX7, gmem (i := 777) (by decide +kernel) rfl, rfl, rfl, tyX7_ok, rfl, nmX7⟩
theorem gyX6_init : gY yX6_init cX6_init 2 none 0 := ⟨gmem (i := 56) (by decide +kernel) rfl, gmem (i := 35) (by decide +kernel) rfl, by decide +kernel, by decide⟩
theorem gyX0_init : gY yX0_init cX0_init 1 none 0 := ⟨gmem (i := 64) (by decide +kernel) rfl, gmem (i := 36) (by decide +kernel) rfl, by decide +kernel, by decide⟩
theorem gyX1_init : gY yX1_init cX1_init 1 none 0 := ⟨gmem (i := 70) (by decide +kernel) rfl, gmem (i := 37) (by decide +kernel) rfl, by decide +kernel, by decide⟩
theorem gyX4_init : gY yX4_init cX4_init 1 none 0 := ⟨gmem (i := 154) (by decide +kernel) rfl, gmem (i := 38) (by decide +kernel) rfl, by decide +kernel, by decide⟩
theorem gyX3_init : gY yX3_init cX3_init 1 none 0 := ⟨gmem (i := 197) (by decide +kernel) rfl, gmem (i := 39) (by decide +kernel) rfl, by decide +kernel, by decide⟩
theorem gyX5_init : gY yX5_init cX5_init 1 none 0 := ⟨gmem (i := 220) (by decide +kernel) rfl, gmem (i := 40) (by decide +kernel) rfl, by decide +kernel, by decide⟩
theorem gyX2_init : gY yX2_init cX2_init 1 none 0 := ⟨gmem (i := 241) (by decide +kernel) rfl, gmem (i := 41) (by decide +kernel) rfl, by decide +kernel, by decide⟩
theorem gyX6_walker : gY yX6_walker cX6_walker 4 (some .int) 3 := ⟨gmem (i := 281) (by decide +kernel) rfl, gmem (i := 35) (by decide +kernel) rfl, by decide +kernel, by decide⟩
theorem vyX6_walker : Cond.instanceMethod yX6_walker ∈ gALL ∧ Cond.selects yX6_walker.cls yX6_walker yX6_walker ∈ gALL := ⟨gmem (i := 279) (by decide +kernel) rfl, gmem (i := 280) (by decide +kernel) rfl⟩
theorem gyX6_isCell : gY yX6_isCell cX6_isCell 1 (some .boolean) 1 := ⟨gmem (i := 284) (by decide +kernel) rfl, gmem (i := 35) (by decide +kernel) rfl, by decide +kernel, by decide⟩
theorem syX6_isCell : Cond.static yX6_isCell ∈ gALL := gmem (i := 283) (by decide +kernel) rfl
theorem gyX1_forget : gY yX1_forget cX1_forget 1 none 0 := ⟨gmem (i := 288) (by decide +kernel) rfl, gmem (i := 37) (by decide +kernel) rfl, by decide +kernel, by decide⟩
theorem vyX1_forget : Cond.instanceMethod yX1_forget ∈ gALL ∧ Cond.selects yX1_forget.cls yX1_forget yX1_forget ∈ gALL := ⟨gmem (i := 286) (by decide +kernel) rfl, gmem (i := 287) (by decide +kernel) rfl⟩
theorem gyX0_enter : gY yX0_enter cX0_enter 5 (some .int) 3 := ⟨gmem (i := 292) (by decide +kernel) rfl, gmem (i := 36) (by decide +kernel) rfl, by decide +kernel, by decide⟩
theorem vyX0_enter : Cond.instanceMethod yX0_enter ∈ gALL ∧ Cond.selects yX0_enter.cls yX0_enter yX0_enter ∈ gALL := ⟨gmem (i := 290) (by decide +kernel) rfl, gmem (i := 291) (by decide +kernel) rfl⟩
theorem gyX6_of : gY yX6_of cX6_of 3 (some .int) 2 := ⟨gmem (i := 296) (by decide +kernel) rfl, gmem (i := 35) (by decide +kernel) rfl, by decide +kernel, by decide⟩
theorem vyX6_of : Cond.instanceMethod yX6_of ∈ gALL ∧ Cond.selects yX6_of.cls yX6_of yX6_of ∈ gALL := ⟨gmem (i := 294) (by decide +kernel) rfl, gmem (i := 295) (by decide +kernel) rfl⟩
theorem gyX0_has : gY yX0_has cX0_has 2 (some .boolean) 1 := ⟨gmem (i := 300) (by decide +kernel) rfl, gmem (i := 36) (by decide +kernel) rfl, by decide +kernel, by decide⟩
theorem vyX0_has : Cond.instanceMethod yX0_has ∈ gALL ∧ Cond.selects yX0_has.cls yX0_has yX0_has ∈ gALL := ⟨gmem (i := 298) (by decide +kernel) rfl, gmem (i := 299) (by decide +kernel) rfl⟩
theorem gyX0_treadOf : gY yX0_treadOf cX0_treadOf 2 (some .int) 1 := ⟨gmem (i := 304) (by decide +kernel) rfl, gmem (i := 36) (by decide +kernel) rfl, by decide +kernel, by decide⟩
theorem vyX0_treadOf : Cond.instanceMethod yX0_treadOf ∈ gALL ∧ Cond.selects yX0_treadOf.cls yX0_treadOf yX0_treadOf ∈ gALL := ⟨gmem (i := 302) (by decide +kernel) rfl, gmem (i := 303) (by decide +kernel) rfl⟩
theorem gyX0_shoesOf : gY yX0_shoesOf cX0_shoesOf 2 (some .int) 1 := ⟨gmem (i := 308) (by decide +kernel) rfl, gmem (i := 36) (by decide +kernel) rfl, by decide +kernel, by decide⟩
theorem vyX0_shoesOf : Cond.instanceMethod yX0_shoesOf ∈ gALL ∧ Cond.selects yX0_shoesOf.cls yX0_shoesOf yX0_shoesOf ∈ gALL := ⟨gmem (i := 306) (by decide +kernel) rfl, gmem (i := 307) (by decide +kernel) rfl⟩
theorem gyX3_look : gY yX3_look cX3_look 3 none 2 := ⟨gmem (i := 312) (by decide +kernel) rfl, gmem (i := 39) (by decide +kernel) rfl, by decide +kernel, by decide⟩
theorem vyX3_look : Cond.instanceMethod yX3_look ∈ gALL ∧ Cond.selects yX3_look.cls yX3_look yX3_look ∈ gALL := ⟨gmem (i := 310) (by decide +kernel) rfl, gmem (i := 311) (by decide +kernel) rfl⟩
theorem gyX3_lookWithout : gY yX3_lookWithout cX3_lookWithout 6 none 3 := ⟨gmem (i := 316) (by decide +kernel) rfl, gmem (i := 39) (by decide +kernel) rfl, by decide +kernel, by decide⟩
theorem vyX3_lookWithout : Cond.instanceMethod yX3_lookWithout ∈ gALL ∧ Cond.selects yX3_lookWithout.cls yX3_lookWithout yX3_lookWithout ∈ gALL := ⟨gmem (i := 314) (by decide +kernel) rfl, gmem (i := 315) (by decide +kernel) rfl⟩
theorem gyJ7_fill_53178 : gY yJ7_fill_53178 cJ7_fill_53178 4 none 2 := ⟨gmem (i := 319) (by decide +kernel) rfl, gmem (i := 43) (by decide +kernel) rfl, by decide +kernel, by decide⟩
theorem syJ7_fill_53178 : Cond.static yJ7_fill_53178 ∈ gALL := gmem (i := 318) (by decide +kernel) rfl
theorem gyX0_depthBehind : gY yX0_depthBehind cX0_depthBehind 6 (some .int) 3 := ⟨gmem (i := 323) (by decide +kernel) rfl, gmem (i := 36) (by decide +kernel) rfl, by decide +kernel, by decide⟩
theorem vyX0_depthBehind : Cond.instanceMethod yX0_depthBehind ∈ gALL ∧ Cond.selects yX0_depthBehind.cls yX0_depthBehind yX0_depthBehind ∈ gALL := ⟨gmem (i := 321) (by decide +kernel) rfl, gmem (i := 322) (by decide +kernel) rfl⟩
theorem gyX6_rowOf : gY yX6_rowOf cX6_rowOf 1 (some .int) 1 := ⟨gmem (i := 326) (by decide +kernel) rfl, gmem (i := 35) (by decide +kernel) rfl, by decide +kernel, by decide⟩
theorem syX6_rowOf : Cond.static yX6_rowOf ∈ gALL := gmem (i := 325) (by decide +kernel) rfl
theorem gyX0_isTideWithin : gY yX0_isTideWithin cX0_isTideWithin 3 (some .boolean) 1 := ⟨gmem (i := 330) (by decide +kernel) rfl, gmem (i := 36) (by decide +kernel) rfl, by decide +kernel, by decide⟩
theorem vyX0_isTideWithin : Cond.instanceMethod yX0_isTideWithin ∈ gALL ∧ Cond.selects yX0_isTideWithin.cls yX0_isTideWithin yX0_isTideWithin ∈ gALL := ⟨gmem (i := 328) (by decide +kernel) rfl, gmem (i := 329) (by decide +kernel) rfl⟩
theorem gyJ9_max_7cf53 : gY yJ9_max_7cf53 cJ9_max_7cf53 2 (some .int) 2 := ⟨gmem (i := 333) (by decide +kernel) rfl, gmem (i := 44) (by decide +kernel) rfl, by decide +kernel, by decide⟩
theorem syJ9_max_7cf53 : Cond.static yJ9_max_7cf53 ∈ gALL := gmem (i := 332) (by decide +kernel) rfl
theorem gyX3_raise : gY yX3_raise cX3_raise 10 none 4 := ⟨gmem (i := 337) (by decide +kernel) rfl, gmem (i := 39) (by decide +kernel) rfl, by decide +kernel, by decide⟩
theorem vyX3_raise : Cond.instanceMethod yX3_raise ∈ gALL ∧ Cond.selects yX3_raise.cls yX3_raise yX3_raise ∈ gALL := ⟨gmem (i := 335) (by decide +kernel) rfl, gmem (i := 336) (by decide +kernel) rfl⟩
theorem gyX6_columnOf : gY yX6_columnOf cX6_columnOf 1 (some .int) 1 := ⟨gmem (i := 340) (by decide +kernel) rfl, gmem (i := 35) (by decide +kernel) rfl, by decide +kernel, by decide⟩
theorem syX6_columnOf : Cond.static yX6_columnOf ∈ gALL := gmem (i := 339) (by decide +kernel) rfl
theorem gyJ9_min_7cf53 : gY yJ9_min_7cf53 cJ9_min_7cf53 2 (some .int) 2 := ⟨gmem (i := 343) (by decide +kernel) rfl, gmem (i := 44) (by decide +kernel) rfl, by decide +kernel, by decide⟩
theorem syJ9_min_7cf53 : Cond.static yJ9_min_7cf53 ∈ gALL := gmem (i := 342) (by decide +kernel) rfl
theorem gyX3_tally : gY yX3_tally cX3_tally 3 none 0 := ⟨gmem (i := 349) (by decide +kernel) rfl, gmem (i := 39) (by decide +kernel) rfl, by decide +kernel, by decide⟩
theorem vyX3_tally : Cond.instanceMethod yX3_tally ∈ gALL ∧ Cond.selects yX3_tally.cls yX3_tally yX3_tally ∈ gALL := ⟨gmem (i := 347) (by decide +kernel) rfl, gmem (i := 348) (by decide +kernel) rfl⟩
theorem gyX3_holderOf : gY yX3_holderOf cX3_holderOf 6 (some .int) 1 := ⟨gmem (i := 353) (by decide +kernel) rfl, gmem (i := 39) (by decide +kernel) rfl, by decide +kernel, by decide⟩
theorem vyX3_holderOf : Cond.instanceMethod yX3_holderOf ∈ gALL ∧ Cond.selects yX3_holderOf.cls yX3_holderOf yX3_holderOf ∈ gALL := ⟨gmem (i := 351) (by decide +kernel) rfl, gmem (i := 352) (by decide +kernel) rfl⟩
theorem gyX6_isle : gY yX6_isle cX6_isle 4 (some .int) 2 := ⟨gmem (i := 357) (by decide +kernel) rfl, gmem (i := 35) (by decide +kernel) rfl, by decide +kernel, by decide⟩
theorem vyX6_isle : Cond.instanceMethod yX6_isle ∈ gALL ∧ Cond.selects yX6_isle.cls yX6_isle yX6_isle ∈ gALL := ⟨gmem (i := 355) (by decide +kernel) rfl, gmem (i := 356) (by decide +kernel) rfl⟩
theorem gyX6_print : gY yX6_print cX6_print 3 (some .int) 2 := ⟨gmem (i := 365) (by decide +kernel) rfl, gmem (i := 35) (by decide +kernel) rfl, by decide +kernel, by decide⟩
theorem vyX6_print : Cond.instanceMethod yX6_print ∈ gALL ∧ Cond.selects yX6_print.cls yX6_print yX6_print ∈ gALL := ⟨gmem (i := 363) (by decide +kernel) rfl, gmem (i := 364) (by decide +kernel) rfl⟩
theorem gyX6_claim : gY yX6_claim cX6_claim 3 (some .int) 2 := ⟨gmem (i := 369) (by decide +kernel) rfl, gmem (i := 35) (by decide +kernel) rfl, by decide +kernel, by decide⟩
theorem vyX6_claim : Cond.instanceMethod yX6_claim ∈ gALL ∧ Cond.selects yX6_claim.cls yX6_claim yX6_claim ∈ gALL := ⟨gmem (i := 367) (by decide +kernel) rfl, gmem (i := 368) (by decide +kernel) rfl⟩
theorem gyX6_held : gY yX6_held cX6_held 2 (some .int) 1 := ⟨gmem (i := 373) (by decide +kernel) rfl, gmem (i := 35) (by decide +kernel) rfl, by decide +kernel, by decide⟩
theorem vyX6_held : Cond.instanceMethod yX6_held ∈ gALL ∧ Cond.selects yX6_held.cls yX6_held yX6_held ∈ gALL := ⟨gmem (i := 371) (by decide +kernel) rfl, gmem (i := 372) (by decide +kernel) rfl⟩
theorem gyX6_ahead : gY yX6_ahead cX6_ahead 3 (some .int) 2 := ⟨gmem (i := 377) (by decide +kernel) rfl, gmem (i := 35) (by decide +kernel) rfl, by decide +kernel, by decide⟩
theorem vyX6_ahead : Cond.instanceMethod yX6_ahead ∈ gALL ∧ Cond.selects yX6_ahead.cls yX6_ahead yX6_ahead ∈ gALL := ⟨gmem (i := 375) (by decide +kernel) rfl, gmem (i := 376) (by decide +kernel) rfl⟩
theorem gyX6_type : gY yX6_type cX6_type 2 (some .int) 1 := ⟨gmem (i := 382) (by decide +kernel) rfl, gmem (i := 35) (by decide +kernel) rfl, by decide +kernel, by decide⟩
theorem vyX6_type : Cond.instanceMethod yX6_type ∈ gALL ∧ Cond.selects yX6_type.cls yX6_type yX6_type ∈ gALL := ⟨gmem (i := 380) (by decide +kernel) rfl, gmem (i := 381) (by decide +kernel) rfl⟩
theorem gyX4_put : gY yX4_put cX4_put 2 (some .boolean) 1 := ⟨gmem (i := 386) (by decide +kernel) rfl, gmem (i := 38) (by decide +kernel) rfl, by decide +kernel, by decide⟩
theorem vyX4_put : Cond.instanceMethod yX4_put ∈ gALL ∧ Cond.selects yX4_put.cls yX4_put yX4_put ∈ gALL := ⟨gmem (i := 384) (by decide +kernel) rfl, gmem (i := 385) (by decide +kernel) rfl⟩
theorem gyX6_settle : gY yX6_settle cX6_settle 2 (some .int) 0 := ⟨gmem (i := 390) (by decide +kernel) rfl, gmem (i := 35) (by decide +kernel) rfl, by decide +kernel, by decide⟩
theorem vyX6_settle : Cond.instanceMethod yX6_settle ∈ gALL ∧ Cond.selects yX6_settle.cls yX6_settle yX6_settle ∈ gALL := ⟨gmem (i := 388) (by decide +kernel) rfl, gmem (i := 389) (by decide +kernel) rfl⟩
theorem gyX4_parse : gY yX4_parse cX4_parse 2 (some .int) 0 := ⟨gmem (i := 394) (by decide +kernel) rfl, gmem (i := 38) (by decide +kernel) rfl, by decide +kernel, by decide⟩
theorem vyX4_parse : Cond.instanceMethod yX4_parse ∈ gALL ∧ Cond.selects yX4_parse.cls yX4_parse yX4_parse ∈ gALL := ⟨gmem (i := 392) (by decide +kernel) rfl, gmem (i := 393) (by decide +kernel) rfl⟩
theorem gyX4_take : gY yX4_take cX4_take 3 (some .int) 2 := ⟨gmem (i := 398) (by decide +kernel) rfl, gmem (i := 38) (by decide +kernel) rfl, by decide +kernel, by decide⟩
theorem vyX4_take : Cond.instanceMethod yX4_take ∈ gALL ∧ Cond.selects yX4_take.cls yX4_take yX4_take ∈ gALL := ⟨gmem (i := 397) (by decide +kernel) rfl, gmem (i := 0) (by decide +kernel) rfl⟩
theorem gyX4_skipBlanks : gY yX4_skipBlanks cX4_skipBlanks 1 none 0 := ⟨gmem (i := 402) (by decide +kernel) rfl, gmem (i := 38) (by decide +kernel) rfl, by decide +kernel, by decide⟩
theorem vyX4_skipBlanks : Cond.instanceMethod yX4_skipBlanks ∈ gALL ∧ Cond.selects yX4_skipBlanks.cls yX4_skipBlanks yX4_skipBlanks ∈ gALL := ⟨gmem (i := 401) (by decide +kernel) rfl, gmem (i := 1) (by decide +kernel) rfl⟩
theorem gyX4_takeWalker : gY yX4_takeWalker cX4_takeWalker 6 (some .boolean) 1 := ⟨gmem (i := 406) (by decide +kernel) rfl, gmem (i := 38) (by decide +kernel) rfl, by decide +kernel, by decide⟩
theorem vyX4_takeWalker : Cond.instanceMethod yX4_takeWalker ∈ gALL ∧ Cond.selects yX4_takeWalker.cls yX4_takeWalker yX4_takeWalker ∈ gALL := ⟨gmem (i := 405) (by decide +kernel) rfl, gmem (i := 2) (by decide +kernel) rfl⟩
theorem gyX4_takeKind : gY yX4_takeKind cX4_takeKind 2 (some .int) 0 := ⟨gmem (i := 410) (by decide +kernel) rfl, gmem (i := 38) (by decide +kernel) rfl, by decide +kernel, by decide⟩
theorem vyX4_takeKind : Cond.instanceMethod yX4_takeKind ∈ gALL ∧ Cond.selects yX4_takeKind.cls yX4_takeKind yX4_takeKind ∈ gALL := ⟨gmem (i := 409) (by decide +kernel) rfl, gmem (i := 3) (by decide +kernel) rfl⟩
theorem gyJ0_indexOf_0f7a4 : gY yJ0_indexOf_0f7a4 cJ0_indexOf_0f7a4 2 (some .int) 1 := ⟨gmem (i := 415) (by decide +kernel) rfl, gmem (i := 45) (by decide +kernel) rfl, by decide +kernel, by decide⟩
theorem vyJ0_indexOf_0f7a4 : Cond.instanceMethod yJ0_indexOf_0f7a4 ∈ gALL ∧ Cond.selects yJ0_indexOf_0f7a4.cls yJ0_indexOf_0f7a4 yJ0_indexOf_0f7a4 ∈ gALL := ⟨gmem (i := 413) (by decide +kernel) rfl, gmem (i := 414) (by decide +kernel) rfl⟩
theorem gyJ0_indexOf_7cf53 : gY yJ0_indexOf_7cf53 cJ0_indexOf_7cf53 3 (some .int) 2 := ⟨gmem (i := 419) (by decide +kernel) rfl, gmem (i := 45) (by decide +kernel) rfl, by decide +kernel, by decide⟩
theorem vyJ0_indexOf_7cf53 : Cond.instanceMethod yJ0_indexOf_7cf53 ∈ gALL ∧ Cond.selects yJ0_indexOf_7cf53.cls yJ0_indexOf_7cf53 yJ0_indexOf_7cf53 ∈ gALL := ⟨gmem (i := 417) (by decide +kernel) rfl, gmem (i := 418) (by decide +kernel) rfl⟩
theorem gyJ0_isLatin1_aae02 : gY yJ0_isLatin1_aae02 cJ0_isLatin1_aae02 1 (some .boolean) 0 := ⟨gmem (i := 423) (by decide +kernel) rfl, gmem (i := 45) (by decide +kernel) rfl, by decide +kernel, by decide⟩
theorem vyJ0_isLatin1_aae02 : Cond.instanceMethod yJ0_isLatin1_aae02 ∈ gALL ∧ Cond.selects yJ0_isLatin1_aae02.cls yJ0_isLatin1_aae02 yJ0_isLatin1_aae02 ∈ gALL := ⟨gmem (i := 421) (by decide +kernel) rfl, gmem (i := 422) (by decide +kernel) rfl⟩
theorem gyJ0_length_8abf5 : gY yJ0_length_8abf5 cJ0_length_8abf5 1 (some .int) 0 := ⟨gmem (i := 429) (by decide +kernel) rfl, gmem (i := 45) (by decide +kernel) rfl, by decide +kernel, by decide⟩
theorem vyJ0_length_8abf5 : Cond.instanceMethod yJ0_length_8abf5 ∈ gALL ∧ Cond.selects yJ0_length_8abf5.cls yJ0_length_8abf5 yJ0_length_8abf5 ∈ gALL := ⟨gmem (i := 427) (by decide +kernel) rfl, gmem (i := 428) (by decide +kernel) rfl⟩
theorem gyJ0_coder_7d493 : gY yJ0_coder_7d493 cJ0_coder_7d493 1 (some .byte) 0 := ⟨gmem (i := 433) (by decide +kernel) rfl, gmem (i := 45) (by decide +kernel) rfl, by decide +kernel, by decide⟩
theorem vyJ0_coder_7d493 : Cond.instanceMethod yJ0_coder_7d493 ∈ gALL ∧ Cond.selects yJ0_coder_7d493.cls yJ0_coder_7d493 yJ0_coder_7d493 ∈ gALL := ⟨gmem (i := 431) (by decide +kernel) rfl, gmem (i := 432) (by decide +kernel) rfl⟩
theorem gyJ1_indexOf_4cfef : gY yJ1_indexOf_4cfef cJ1_indexOf_4cfef 4 (some .int) 4 := ⟨gmem (i := 436) (by decide +kernel) rfl, gmem (i := 46) (by decide +kernel) rfl, by decide +kernel, by decide⟩
theorem syJ1_indexOf_4cfef : Cond.static yJ1_indexOf_4cfef ∈ gALL := gmem (i := 435) (by decide +kernel) rfl
theorem gyJ1_canEncode_9a6ad : gY yJ1_canEncode_9a6ad cJ1_canEncode_9a6ad 1 (some .boolean) 1 := ⟨gmem (i := 439) (by decide +kernel) rfl, gmem (i := 46) (by decide +kernel) rfl, by decide +kernel, by decide⟩
theorem syJ1_canEncode_9a6ad : Cond.static yJ1_canEncode_9a6ad ∈ gALL := gmem (i := 438) (by decide +kernel) rfl
theorem gyJ1_indexOfChar_4cfef : gY yJ1_indexOfChar_4cfef cJ1_indexOfChar_4cfef 6 (some .int) 4 := ⟨gmem (i := 444) (by decide +kernel) rfl, gmem (i := 46) (by decide +kernel) rfl, by decide +kernel, by decide⟩
theorem syJ1_indexOfChar_4cfef : Cond.static yJ1_indexOfChar_4cfef ∈ gALL := gmem (i := 443) (by decide +kernel) rfl
theorem gyJ2_indexOf_4cfef : gY yJ2_indexOf_4cfef cJ2_indexOf_4cfef 4 (some .int) 4 := ⟨gmem (i := 447) (by decide +kernel) rfl, gmem (i := 47) (by decide +kernel) rfl, by decide +kernel, by decide⟩
theorem syJ2_indexOf_4cfef : Cond.static yJ2_indexOf_4cfef ∈ gALL := gmem (i := 446) (by decide +kernel) rfl
theorem gyJ2_indexOfChar_4cfef : gY yJ2_indexOfChar_4cfef cJ2_indexOfChar_4cfef 4 (some .int) 4 := ⟨gmem (i := 453) (by decide +kernel) rfl, gmem (i := 47) (by decide +kernel) rfl, by decide +kernel, by decide⟩
theorem syJ2_indexOfChar_4cfef : Cond.static yJ2_indexOfChar_4cfef ∈ gALL := gmem (i := 452) (by decide +kernel) rfl
theorem gyJ2_checkBoundsBeginEnd_d044e : gY yJ2_checkBoundsBeginEnd_d044e cJ2_checkBoundsBeginEnd_d044e 3 none 3 := ⟨gmem (i := 456) (by decide +kernel) rfl, gmem (i := 47) (by decide +kernel) rfl, by decide +kernel, by decide⟩
theorem syJ2_checkBoundsBeginEnd_d044e : Cond.static yJ2_checkBoundsBeginEnd_d044e ∈ gALL := gmem (i := 455) (by decide +kernel) rfl
theorem gyJ2_length_9d52b : gY yJ2_length_9d52b cJ2_length_9d52b 1 (some .int) 1 := ⟨gmem (i := 459) (by decide +kernel) rfl, gmem (i := 47) (by decide +kernel) rfl, by decide +kernel, by decide⟩
theorem syJ2_length_9d52b : Cond.static yJ2_length_9d52b ∈ gALL := gmem (i := 458) (by decide +kernel) rfl
theorem gyJ0_checkBoundsBeginEnd_23922 : gY yJ0_checkBoundsBeginEnd_23922 cJ0_checkBoundsBeginEnd_23922 3 none 3 := ⟨gmem (i := 462) (by decide +kernel) rfl, gmem (i := 45) (by decide +kernel) rfl, by decide +kernel, by decide⟩
theorem syJ0_checkBoundsBeginEnd_23922 : Cond.static yJ0_checkBoundsBeginEnd_23922 ∈ gALL := gmem (i := 461) (by decide +kernel) rfl
theorem gyJ3_checkFromToIndex_8c36e : gY yJ3_checkFromToIndex_8c36e cJ3_checkFromToIndex_8c36e 4 (some .int) 4 := ⟨gmem (i := 467) (by decide +kernel) rfl, gmem (i := 48) (by decide +kernel) rfl, by decide +kernel, by decide⟩
theorem syJ3_checkFromToIndex_8c36e : Cond.static yJ3_checkFromToIndex_8c36e ∈ gALL := gmem (i := 466) (by decide +kernel) rfl
theorem gyJ2_indexOfCharUnsafe_4cfef : gY yJ2_indexOfCharUnsafe_4cfef cJ2_indexOfCharUnsafe_4cfef 5 (some .int) 4 := ⟨gmem (i := 470) (by decide +kernel) rfl, gmem (i := 47) (by decide +kernel) rfl, by decide +kernel, by decide⟩
theorem syJ2_indexOfCharUnsafe_4cfef : Cond.static yJ2_indexOfCharUnsafe_4cfef ∈ gALL := gmem (i := 469) (by decide +kernel) rfl
theorem gyJ2_getChar_3b067 : gY yJ2_getChar_3b067 cJ2_getChar_3b067 2 (some .char) 2 := ⟨gmem (i := 473) (by decide +kernel) rfl, gmem (i := 47) (by decide +kernel) rfl, by decide +kernel, by decide⟩
theorem syJ2_getChar_3b067 : Cond.static yJ2_getChar_3b067 ∈ gALL := gmem (i := 472) (by decide +kernel) rfl
theorem gyJ2_indexOfSupplementary_4cfef : gY yJ2_indexOfSupplementary_4cfef cJ2_indexOfSupplementary_4cfef 7 (some .int) 4 := ⟨gmem (i := 482) (by decide +kernel) rfl, gmem (i := 47) (by decide +kernel) rfl, by decide +kernel, by decide⟩
theorem syJ2_indexOfSupplementary_4cfef : Cond.static yJ2_indexOfSupplementary_4cfef ∈ gALL := gmem (i := 481) (by decide +kernel) rfl
theorem gyJ11_isValidCodePoint_9a6ad : gY yJ11_isValidCodePoint_9a6ad cJ11_isValidCodePoint_9a6ad 2 (some .boolean) 1 := ⟨gmem (i := 485) (by decide +kernel) rfl, gmem (i := 49) (by decide +kernel) rfl, by decide +kernel, by decide⟩
theorem syJ11_isValidCodePoint_9a6ad : Cond.static yJ11_isValidCodePoint_9a6ad ∈ gALL := gmem (i := 484) (by decide +kernel) rfl
theorem gyJ11_highSurrogate_5068e : gY yJ11_highSurrogate_5068e cJ11_highSurrogate_5068e 1 (some .char) 1 := ⟨gmem (i := 488) (by decide +kernel) rfl, gmem (i := 49) (by decide +kernel) rfl, by decide +kernel, by decide⟩
theorem syJ11_highSurrogate_5068e : Cond.static yJ11_highSurrogate_5068e ∈ gALL := gmem (i := 487) (by decide +kernel) rfl
theorem gyJ11_lowSurrogate_5068e : gY yJ11_lowSurrogate_5068e cJ11_lowSurrogate_5068e 1 (some .char) 1 := ⟨gmem (i := 492) (by decide +kernel) rfl, gmem (i := 49) (by decide +kernel) rfl, by decide +kernel, by decide⟩
theorem syJ11_lowSurrogate_5068e : Cond.static yJ11_lowSurrogate_5068e ∈ gALL := gmem (i := 491) (by decide +kernel) rfl
theorem gyX0_settleAs : gY yX0_settleAs cX0_settleAs 3 none 1 := ⟨gmem (i := 497) (by decide +kernel) rfl, gmem (i := 36) (by decide +kernel) rfl, by decide +kernel, by decide⟩
theorem vyX0_settleAs : Cond.instanceMethod yX0_settleAs ∈ gALL ∧ Cond.selects yX0_settleAs.cls yX0_settleAs yX0_settleAs ∈ gALL := ⟨gmem (i := 495) (by decide +kernel) rfl, gmem (i := 496) (by decide +kernel) rfl⟩
theorem gyX6_count : gY yX6_count cX6_count 2 (some .int) 1 := ⟨gmem (i := 505) (by decide +kernel) rfl, gmem (i := 35) (by decide +kernel) rfl, by decide +kernel, by decide⟩
theorem vyX6_count : Cond.instanceMethod yX6_count ∈ gALL ∧ Cond.selects yX6_count.cls yX6_count yX6_count ∈ gALL := ⟨gmem (i := 503) (by decide +kernel) rfl, gmem (i := 504) (by decide +kernel) rfl⟩
theorem gyX0_troddenCells : gY yX0_troddenCells cX0_troddenCells 3 (some .int) 0 := ⟨gmem (i := 509) (by decide +kernel) rfl, gmem (i := 36) (by decide +kernel) rfl, by decide +kernel, by decide⟩
theorem vyX0_troddenCells : Cond.instanceMethod yX0_troddenCells ∈ gALL ∧ Cond.selects yX0_troddenCells.cls yX0_troddenCells yX0_troddenCells ∈ gALL := ⟨gmem (i := 507) (by decide +kernel) rfl, gmem (i := 508) (by decide +kernel) rfl⟩
theorem gyX0_isTrodden : gY yX0_isTrodden cX0_isTrodden 3 (some .boolean) 1 := ⟨gmem (i := 513) (by decide +kernel) rfl, gmem (i := 36) (by decide +kernel) rfl, by decide +kernel, by decide⟩
theorem vyX0_isTrodden : Cond.instanceMethod yX0_isTrodden ∈ gALL ∧ Cond.selects yX0_isTrodden.cls yX0_isTrodden yX0_isTrodden ∈ gALL := ⟨gmem (i := 511) (by decide +kernel) rfl, gmem (i := 512) (by decide +kernel) rfl⟩
theorem gyX6_step : gY yX6_step cX6_step 4 (some .int) 2 := ⟨gmem (i := 517) (by decide +kernel) rfl, gmem (i := 35) (by decide +kernel) rfl, by decide +kernel, by decide⟩
theorem vyX6_step : Cond.instanceMethod yX6_step ∈ gALL ∧ Cond.selects yX6_step.cls yX6_step yX6_step ∈ gALL := ⟨gmem (i := 515) (by decide +kernel) rfl, gmem (i := 516) (by decide +kernel) rfl⟩
theorem gyX6_beside : gY yX6_beside cX6_beside 2 (some .int) 2 := ⟨gmem (i := 520) (by decide +kernel) rfl, gmem (i := 35) (by decide +kernel) rfl, by decide +kernel, by decide⟩
theorem syX6_beside : Cond.static yX6_beside ∈ gALL := gmem (i := 519) (by decide +kernel) rfl
theorem gyX1_keep : gY yX1_keep cX1_keep 2 none 1 := ⟨gmem (i := 526) (by decide +kernel) rfl, gmem (i := 37) (by decide +kernel) rfl, by decide +kernel, by decide⟩
theorem vyX1_keep : Cond.instanceMethod yX1_keep ∈ gALL ∧ Cond.selects yX1_keep.cls yX1_keep yX1_keep ∈ gALL := ⟨gmem (i := 524) (by decide +kernel) rfl, gmem (i := 525) (by decide +kernel) rfl⟩
theorem gyX0_stepTo : gY yX0_stepTo cX0_stepTo 5 none 2 := ⟨gmem (i := 534) (by decide +kernel) rfl, gmem (i := 36) (by decide +kernel) rfl, by decide +kernel, by decide⟩
theorem vyX0_stepTo : Cond.instanceMethod yX0_stepTo ∈ gALL ∧ Cond.selects yX0_stepTo.cls yX0_stepTo yX0_stepTo ∈ gALL := ⟨gmem (i := 532) (by decide +kernel) rfl, gmem (i := 533) (by decide +kernel) rfl⟩
theorem gyX6_comesDown : gY yX6_comesDown cX6_comesDown 2 (some .boolean) 2 := ⟨gmem (i := 537) (by decide +kernel) rfl, gmem (i := 35) (by decide +kernel) rfl, by decide +kernel, by decide⟩
theorem syX6_comesDown : Cond.static yX6_comesDown ∈ gALL := gmem (i := 536) (by decide +kernel) rfl
theorem gyX6_deepen : gY yX6_deepen cX6_deepen 3 none 3 := ⟨gmem (i := 542) (by decide +kernel) rfl, gmem (i := 35) (by decide +kernel) rfl, by decide +kernel, by decide⟩
theorem syX6_deepen : Cond.static yX6_deepen ∈ gALL := gmem (i := 541) (by decide +kernel) rfl
theorem gyX6_hours : gY yX6_hours cX6_hours 4 (some .int) 1 := ⟨gmem (i := 547) (by decide +kernel) rfl, gmem (i := 35) (by decide +kernel) rfl, by decide +kernel, by decide⟩
theorem vyX6_hours : Cond.instanceMethod yX6_hours ∈ gALL ∧ Cond.selects yX6_hours.cls yX6_hours yX6_hours ∈ gALL := ⟨gmem (i := 545) (by decide +kernel) rfl, gmem (i := 546) (by decide +kernel) rfl⟩
theorem gyX6_hoursFault : gY yX6_hoursFault cX6_hoursFault 2 (some .int) 1 := ⟨gmem (i := 551) (by decide +kernel) rfl, gmem (i := 35) (by decide +kernel) rfl, by decide +kernel, by decide⟩
theorem vyX6_hoursFault : Cond.instanceMethod yX6_hoursFault ∈ gALL ∧ Cond.selects yX6_hoursFault.cls yX6_hoursFault yX6_hoursFault ∈ gALL := ⟨gmem (i := 550) (by decide +kernel) rfl, gmem (i := 4) (by decide +kernel) rfl⟩
theorem gyX0_passHour : gY yX0_passHour cX0_passHour 2 none 0 := ⟨gmem (i := 555) (by decide +kernel) rfl, gmem (i := 36) (by decide +kernel) rfl, by decide +kernel, by decide⟩
theorem vyX0_passHour : Cond.instanceMethod yX0_passHour ∈ gALL ∧ Cond.selects yX0_passHour.cls yX0_passHour yX0_passHour ∈ gALL := ⟨gmem (i := 553) (by decide +kernel) rfl, gmem (i := 554) (by decide +kernel) rfl⟩
theorem gyX6_drift : gY yX6_drift cX6_drift 5 (some .int) 1 := ⟨gmem (i := 560) (by decide +kernel) rfl, gmem (i := 35) (by decide +kernel) rfl, by decide +kernel, by decide⟩
theorem vyX6_drift : Cond.instanceMethod yX6_drift ∈ gALL ∧ Cond.selects yX6_drift.cls yX6_drift yX6_drift ∈ gALL := ⟨gmem (i := 558) (by decide +kernel) rfl, gmem (i := 559) (by decide +kernel) rfl⟩
theorem gyX0_drawCell : gY yX0_drawCell cX0_drawCell 1 (some .int) 0 := ⟨gmem (i := 564) (by decide +kernel) rfl, gmem (i := 36) (by decide +kernel) rfl, by decide +kernel, by decide⟩
theorem vyX0_drawCell : Cond.instanceMethod yX0_drawCell ∈ gALL ∧ Cond.selects yX0_drawCell.cls yX0_drawCell yX0_drawCell ∈ gALL := ⟨gmem (i := 562) (by decide +kernel) rfl, gmem (i := 563) (by decide +kernel) rfl⟩
theorem gyX0_sweep : gY yX0_sweep cX0_sweep 4 (some .int) 1 := ⟨gmem (i := 571) (by decide +kernel) rfl, gmem (i := 36) (by decide +kernel) rfl, by decide +kernel, by decide⟩
theorem vyX0_sweep : Cond.instanceMethod yX0_sweep ∈ gALL ∧ Cond.selects yX0_sweep.cls yX0_sweep yX0_sweep ∈ gALL := ⟨gmem (i := 569) (by decide +kernel) rfl, gmem (i := 570) (by decide +kernel) rfl⟩
theorem gyX6_rake : gY yX6_rake cX6_rake 2 (some .int) 1 := ⟨gmem (i := 575) (by decide +kernel) rfl, gmem (i := 35) (by decide +kernel) rfl, by decide +kernel, by decide⟩
theorem vyX6_rake : Cond.instanceMethod yX6_rake ∈ gALL ∧ Cond.selects yX6_rake.cls yX6_rake yX6_rake ∈ gALL := ⟨gmem (i := 573) (by decide +kernel) rfl, gmem (i := 574) (by decide +kernel) rfl⟩
theorem gyX6_undo : gY yX6_undo cX6_undo 1 (some .int) 0 := ⟨gmem (i := 579) (by decide +kernel) rfl, gmem (i := 35) (by decide +kernel) rfl, by decide +kernel, by decide⟩
theorem vyX6_undo : Cond.instanceMethod yX6_undo ∈ gALL ∧ Cond.selects yX6_undo.cls yX6_undo yX6_undo ∈ gALL := ⟨gmem (i := 577) (by decide +kernel) rfl, gmem (i := 578) (by decide +kernel) rfl⟩
theorem gyX1_giveBack : gY yX1_giveBack cX1_giveBack 2 none 1 := ⟨gmem (i := 583) (by decide +kernel) rfl, gmem (i := 37) (by decide +kernel) rfl, by decide +kernel, by decide⟩
theorem vyX1_giveBack : Cond.instanceMethod yX1_giveBack ∈ gALL ∧ Cond.selects yX1_giveBack.cls yX1_giveBack yX1_giveBack ∈ gALL := ⟨gmem (i := 581) (by decide +kernel) rfl, gmem (i := 582) (by decide +kernel) rfl⟩
theorem gyX6_seed : gY yX6_seed cX6_seed 3 (some .int) 1 := ⟨gmem (i := 587) (by decide +kernel) rfl, gmem (i := 35) (by decide +kernel) rfl, by decide +kernel, by decide⟩
theorem vyX6_seed : Cond.instanceMethod yX6_seed ∈ gALL ∧ Cond.selects yX6_seed.cls yX6_seed yX6_seed ∈ gALL := ⟨gmem (i := 585) (by decide +kernel) rfl, gmem (i := 586) (by decide +kernel) rfl⟩
theorem gyX6_land : gY yX6_land cX6_land 3 (some .int) 2 := ⟨gmem (i := 592) (by decide +kernel) rfl, gmem (i := 35) (by decide +kernel) rfl, by decide +kernel, by decide⟩
theorem vyX6_land : Cond.instanceMethod yX6_land ∈ gALL ∧ Cond.selects yX6_land.cls yX6_land yX6_land ∈ gALL := ⟨gmem (i := 590) (by decide +kernel) rfl, gmem (i := 591) (by decide +kernel) rfl⟩
theorem gyX6_lasts : gY yX6_lasts cX6_lasts 4 (some .int) 2 := ⟨gmem (i := 596) (by decide +kernel) rfl, gmem (i := 35) (by decide +kernel) rfl, by decide +kernel, by decide⟩
theorem vyX6_lasts : Cond.instanceMethod yX6_lasts ∈ gALL ∧ Cond.selects yX6_lasts.cls yX6_lasts yX6_lasts ∈ gALL := ⟨gmem (i := 594) (by decide +kernel) rfl, gmem (i := 595) (by decide +kernel) rfl⟩
theorem gyX6_county : gY yX6_county cX6_county 5 (some .int) 1 := ⟨gmem (i := 600) (by decide +kernel) rfl, gmem (i := 35) (by decide +kernel) rfl, by decide +kernel, by decide⟩
theorem vyX6_county : Cond.instanceMethod yX6_county ∈ gALL ∧ Cond.selects yX6_county.cls yX6_county yX6_county ∈ gALL := ⟨gmem (i := 598) (by decide +kernel) rfl, gmem (i := 599) (by decide +kernel) rfl⟩
theorem gyX6_spreadOver : gY yX6_spreadOver cX6_spreadOver 9 (some .long) 2 := ⟨gmem (i := 604) (by decide +kernel) rfl, gmem (i := 35) (by decide +kernel) rfl, by decide +kernel, by decide⟩
theorem syX6_spreadOver : Cond.static yX6_spreadOver ∈ gALL := gmem (i := 603) (by decide +kernel) rfl
theorem gyX6_besideSet : gY yX6_besideSet cX6_besideSet 2 (some .long) 1 := ⟨gmem (i := 607) (by decide +kernel) rfl, gmem (i := 35) (by decide +kernel) rfl, by decide +kernel, by decide⟩
theorem syX6_besideSet : Cond.static yX6_besideSet ∈ gALL := gmem (i := 606) (by decide +kernel) rfl
theorem gyJ13_bitCount_95d88 : gY yJ13_bitCount_95d88 cJ13_bitCount_95d88 2 (some .int) 1 := ⟨gmem (i := 613) (by decide +kernel) rfl, gmem (i := 51) (by decide +kernel) rfl, by decide +kernel, by decide⟩
theorem syJ13_bitCount_95d88 : Cond.static yJ13_bitCount_95d88 ∈ gALL := gmem (i := 612) (by decide +kernel) rfl
theorem gyX6_way : gY yX6_way cX6_way 8 (some .int) 3 := ⟨gmem (i := 620) (by decide +kernel) rfl, gmem (i := 35) (by decide +kernel) rfl, by decide +kernel, by decide⟩
theorem vyX6_way : Cond.instanceMethod yX6_way ∈ gALL ∧ Cond.selects yX6_way.cls yX6_way yX6_way ∈ gALL := ⟨gmem (i := 618) (by decide +kernel) rfl, gmem (i := 619) (by decide +kernel) rfl⟩
theorem gyX6_fewestTrodden : gY yX6_fewestTrodden cX6_fewestTrodden 9 (some .int) 3 := ⟨gmem (i := 623) (by decide +kernel) rfl, gmem (i := 35) (by decide +kernel) rfl, by decide +kernel, by decide⟩
theorem syX6_fewestTrodden : Cond.static yX6_fewestTrodden ∈ gALL := gmem (i := 622) (by decide +kernel) rfl
theorem gyX6_walk : gY yX6_walk cX6_walk 8 (some .int) 4 := ⟨gmem (i := 627) (by decide +kernel) rfl, gmem (i := 35) (by decide +kernel) rfl, by decide +kernel, by decide⟩
theorem vyX6_walk : Cond.instanceMethod yX6_walk ∈ gALL ∧ Cond.selects yX6_walk.cls yX6_walk yX6_walk ∈ gALL := ⟨gmem (i := 625) (by decide +kernel) rfl, gmem (i := 626) (by decide +kernel) rfl⟩
theorem gyX5_begin : gY yX5_begin cX5_begin 5 none 4 := ⟨gmem (i := 631) (by decide +kernel) rfl, gmem (i := 40) (by decide +kernel) rfl, by decide +kernel, by decide⟩
theorem vyX5_begin : Cond.instanceMethod yX5_begin ∈ gALL ∧ Cond.selects yX5_begin.cls yX5_begin yX5_begin ∈ gALL := ⟨gmem (i := 629) (by decide +kernel) rfl, gmem (i := 630) (by decide +kernel) rfl⟩
theorem gyX5_go : gY yX5_go cX5_go 8 (some .boolean) 4 := ⟨gmem (i := 638) (by decide +kernel) rfl, gmem (i := 40) (by decide +kernel) rfl, by decide +kernel, by decide⟩
theorem vyX5_go : Cond.instanceMethod yX5_go ∈ gALL ∧ Cond.selects yX5_go.cls yX5_go yX5_go ∈ gALL := ⟨gmem (i := 636) (by decide +kernel) rfl, gmem (i := 637) (by decide +kernel) rfl⟩
theorem gyX6_wayAt : gY yX6_wayAt cX6_wayAt 3 (some .int) 3 := ⟨gmem (i := 641) (by decide +kernel) rfl, gmem (i := 35) (by decide +kernel) rfl, by decide +kernel, by decide⟩
theorem syX6_wayAt : Cond.static yX6_wayAt ∈ gALL := gmem (i := 640) (by decide +kernel) rfl
theorem gyX5_tread : gY yX5_tread cX5_tread 4 none 3 := ⟨gmem (i := 647) (by decide +kernel) rfl, gmem (i := 40) (by decide +kernel) rfl, by decide +kernel, by decide⟩
theorem vyX5_tread : Cond.instanceMethod yX5_tread ∈ gALL ∧ Cond.selects yX5_tread.cls yX5_tread yX5_tread ∈ gALL := ⟨gmem (i := 646) (by decide +kernel) rfl, gmem (i := 5) (by decide +kernel) rfl⟩
theorem gyX6_well : gY yX6_well cX6_well 6 (some .int) 3 := ⟨gmem (i := 657) (by decide +kernel) rfl, gmem (i := 35) (by decide +kernel) rfl, by decide +kernel, by decide⟩
theorem vyX6_well : Cond.instanceMethod yX6_well ∈ gALL ∧ Cond.selects yX6_well.cls yX6_well yX6_well ∈ gALL := ⟨gmem (i := 655) (by decide +kernel) rfl, gmem (i := 656) (by decide +kernel) rfl⟩
theorem gyX6_crabs : gY yX6_crabs cX6_crabs 7 (some .int) 4 := ⟨gmem (i := 661) (by decide +kernel) rfl, gmem (i := 35) (by decide +kernel) rfl, by decide +kernel, by decide⟩
theorem vyX6_crabs : Cond.instanceMethod yX6_crabs ∈ gALL ∧ Cond.selects yX6_crabs.cls yX6_crabs yX6_crabs ∈ gALL := ⟨gmem (i := 659) (by decide +kernel) rfl, gmem (i := 660) (by decide +kernel) rfl⟩
theorem gyX6_image : gY yX6_image cX6_image 1 (some .int) 0 := ⟨gmem (i := 667) (by decide +kernel) rfl, gmem (i := 35) (by decide +kernel) rfl, by decide +kernel, by decide⟩
theorem vyX6_image : Cond.instanceMethod yX6_image ∈ gALL ∧ Cond.selects yX6_image.cls yX6_image yX6_image ∈ gALL := ⟨gmem (i := 665) (by decide +kernel) rfl, gmem (i := 666) (by decide +kernel) rfl⟩
theorem gyX0_become : gY yX0_become cX0_become 2 none 1 := ⟨gmem (i := 671) (by decide +kernel) rfl, gmem (i := 36) (by decide +kernel) rfl, by decide +kernel, by decide⟩
theorem vyX0_become : Cond.instanceMethod yX0_become ∈ gALL ∧ Cond.selects yX0_become.cls yX0_become yX0_become ∈ gALL := ⟨gmem (i := 669) (by decide +kernel) rfl, gmem (i := 670) (by decide +kernel) rfl⟩
theorem gyX1_become : gY yX1_become cX1_become 2 none 1 := ⟨gmem (i := 676) (by decide +kernel) rfl, gmem (i := 37) (by decide +kernel) rfl, by decide +kernel, by decide⟩
theorem vyX1_become : Cond.instanceMethod yX1_become ∈ gALL ∧ Cond.selects yX1_become.cls yX1_become yX1_become ∈ gALL := ⟨gmem (i := 674) (by decide +kernel) rfl, gmem (i := 675) (by decide +kernel) rfl⟩
theorem gyX6_restore : gY yX6_restore cX6_restore 1 (some .int) 0 := ⟨gmem (i := 680) (by decide +kernel) rfl, gmem (i := 35) (by decide +kernel) rfl, by decide +kernel, by decide⟩
theorem vyX6_restore : Cond.instanceMethod yX6_restore ∈ gALL ∧ Cond.selects yX6_restore.cls yX6_restore yX6_restore ∈ gALL := ⟨gmem (i := 678) (by decide +kernel) rfl, gmem (i := 679) (by decide +kernel) rfl⟩
theorem gyX6_raked : gY yX6_raked cX6_raked 11 (some .int) 4 := ⟨gmem (i := 684) (by decide +kernel) rfl, gmem (i := 35) (by decide +kernel) rfl, by decide +kernel, by decide⟩
theorem vyX6_raked : Cond.instanceMethod yX6_raked ∈ gALL ∧ Cond.selects yX6_raked.cls yX6_raked yX6_raked ∈ gALL := ⟨gmem (i := 682) (by decide +kernel) rfl, gmem (i := 683) (by decide +kernel) rfl⟩
theorem gyX6_itemsFault : gY yX6_itemsFault cX6_itemsFault 5 (some .int) 4 := ⟨gmem (i := 688) (by decide +kernel) rfl, gmem (i := 35) (by decide +kernel) rfl, by decide +kernel, by decide⟩
theorem vyX6_itemsFault : Cond.instanceMethod yX6_itemsFault ∈ gALL ∧ Cond.selects yX6_itemsFault.cls yX6_itemsFault yX6_itemsFault ∈ gALL := ⟨gmem (i := 687) (by decide +kernel) rfl, gmem (i := 6) (by decide +kernel) rfl⟩
theorem gyX6_isSheet : gY yX6_isSheet cX6_isSheet 1 (some .boolean) 1 := ⟨gmem (i := 691) (by decide +kernel) rfl, gmem (i := 35) (by decide +kernel) rfl, by decide +kernel, by decide⟩
theorem syX6_isSheet : Cond.static yX6_isSheet ∈ gALL := gmem (i := 690) (by decide +kernel) rfl
theorem gyX2_isNothing : gY yX2_isNothing cX2_isNothing 1 (some .boolean) 0 := ⟨gmem (i := 695) (by decide +kernel) rfl, gmem (i := 41) (by decide +kernel) rfl, by decide +kernel, by decide⟩
theorem vyX2_isNothing : Cond.instanceMethod yX2_isNothing ∈ gALL ∧ Cond.selects yX2_isNothing.cls yX2_isNothing yX2_isNothing ∈ gALL := ⟨gmem (i := 693) (by decide +kernel) rfl, gmem (i := 694) (by decide +kernel) rfl⟩
theorem gyX2_spans : gY yX2_spans cX2_spans 3 (some .boolean) 2 := ⟨gmem (i := 699) (by decide +kernel) rfl, gmem (i := 41) (by decide +kernel) rfl, by decide +kernel, by decide⟩
theorem vyX2_spans : Cond.instanceMethod yX2_spans ∈ gALL ∧ Cond.selects yX2_spans.cls yX2_spans yX2_spans ∈ gALL := ⟨gmem (i := 697) (by decide +kernel) rfl, gmem (i := 698) (by decide +kernel) rfl⟩
theorem gyX2_isWithin : gY yX2_isWithin cX2_isWithin 3 (some .boolean) 2 := ⟨gmem (i := 703) (by decide +kernel) rfl, gmem (i := 41) (by decide +kernel) rfl, by decide +kernel, by decide⟩
theorem vyX2_isWithin : Cond.instanceMethod yX2_isWithin ∈ gALL ∧ Cond.selects yX2_isWithin.cls yX2_isWithin yX2_isWithin ∈ gALL := ⟨gmem (i := 701) (by decide +kernel) rfl, gmem (i := 702) (by decide +kernel) rfl⟩
theorem gyX6_isLandOfAll : gY yX6_isLandOfAll cX6_isLandOfAll 4 (some .boolean) 2 := ⟨gmem (i := 707) (by decide +kernel) rfl, gmem (i := 35) (by decide +kernel) rfl, by decide +kernel, by decide⟩
theorem vyX6_isLandOfAll : Cond.instanceMethod yX6_isLandOfAll ∈ gALL ∧ Cond.selects yX6_isLandOfAll.cls yX6_isLandOfAll yX6_isLandOfAll ∈ gALL := ⟨gmem (i := 706) (by decide +kernel) rfl, gmem (i := 7) (by decide +kernel) rfl⟩
theorem gyX6_shoes : gY yX6_shoes cX6_shoes 8 (some .int) 4 := ⟨gmem (i := 713) (by decide +kernel) rfl, gmem (i := 35) (by decide +kernel) rfl, by decide +kernel, by decide⟩
theorem vyX6_shoes : Cond.instanceMethod yX6_shoes ∈ gALL ∧ Cond.selects yX6_shoes.cls yX6_shoes yX6_shoes ∈ gALL := ⟨gmem (i := 711) (by decide +kernel) rfl, gmem (i := 712) (by decide +kernel) rfl⟩
theorem gyX6_hasPrints : gY yX6_hasPrints cX6_hasPrints 7 (some .boolean) 4 := ⟨gmem (i := 717) (by decide +kernel) rfl, gmem (i := 35) (by decide +kernel) rfl, by decide +kernel, by decide⟩
theorem vyX6_hasPrints : Cond.instanceMethod yX6_hasPrints ∈ gALL ∧ Cond.selects yX6_hasPrints.cls yX6_hasPrints yX6_hasPrints ∈ gALL := ⟨gmem (i := 716) (by decide +kernel) rfl, gmem (i := 8) (by decide +kernel) rfl⟩
theorem gyX6_film : gY yX6_film cX6_film 8 (some .int) 5 := ⟨gmem (i := 721) (by decide +kernel) rfl, gmem (i := 35) (by decide +kernel) rfl, by decide +kernel, by decide⟩
theorem vyX6_film : Cond.instanceMethod yX6_film ∈ gALL ∧ Cond.selects yX6_film.cls yX6_film yX6_film ∈ gALL := ⟨gmem (i := 719) (by decide +kernel) rfl, gmem (i := 720) (by decide +kernel) rfl⟩
theorem gyX6_sheet : gY yX6_sheet cX6_sheet 4 (some .int) 3 := ⟨gmem (i := 725) (by decide +kernel) rfl, gmem (i := 35) (by decide +kernel) rfl, by decide +kernel, by decide⟩
theorem vyX6_sheet : Cond.instanceMethod yX6_sheet ∈ gALL ∧ Cond.selects yX6_sheet.cls yX6_sheet yX6_sheet ∈ gALL := ⟨gmem (i := 723) (by decide +kernel) rfl, gmem (i := 724) (by decide +kernel) rfl⟩
theorem gyX2_begin : gY yX2_begin cX2_begin 3 none 2 := ⟨gmem (i := 729) (by decide +kernel) rfl, gmem (i := 41) (by decide +kernel) rfl, by decide +kernel, by decide⟩
theorem vyX2_begin : Cond.instanceMethod yX2_begin ∈ gALL ∧ Cond.selects yX2_begin.cls yX2_begin yX2_begin ∈ gALL := ⟨gmem (i := 727) (by decide +kernel) rfl, gmem (i := 728) (by decide +kernel) rfl⟩
theorem gyJ7_fill_d0a16 : gY yJ7_fill_d0a16 cJ7_fill_d0a16 5 none 2 := ⟨gmem (i := 732) (by decide +kernel) rfl, gmem (i := 43) (by decide +kernel) rfl, by decide +kernel, by decide⟩
theorem syJ7_fill_d0a16 : Cond.static yJ7_fill_d0a16 ∈ gALL := gmem (i := 731) (by decide +kernel) rfl
theorem gyX6_drop : gY yX6_drop cX6_drop 2 (some .int) 1 := ⟨gmem (i := 736) (by decide +kernel) rfl, gmem (i := 35) (by decide +kernel) rfl, by decide +kernel, by decide⟩
theorem vyX6_drop : Cond.instanceMethod yX6_drop ∈ gALL ∧ Cond.selects yX6_drop.cls yX6_drop yX6_drop ∈ gALL := ⟨gmem (i := 734) (by decide +kernel) rfl, gmem (i := 735) (by decide +kernel) rfl⟩
theorem gyX2_end : gY yX2_end cX2_end 2 (some .int) 0 := ⟨gmem (i := 740) (by decide +kernel) rfl, gmem (i := 41) (by decide +kernel) rfl, by decide +kernel, by decide⟩
theorem vyX2_end : Cond.instanceMethod yX2_end ∈ gALL ∧ Cond.selects yX2_end.cls yX2_end yX2_end ∈ gALL := ⟨gmem (i := 738) (by decide +kernel) rfl, gmem (i := 739) (by decide +kernel) rfl⟩
theorem gyX6_item : gY yX6_item cX6_item 7 (some .int) 4 := ⟨gmem (i := 744) (by decide +kernel) rfl, gmem (i := 35) (by decide +kernel) rfl, by decide +kernel, by decide⟩
theorem vyX6_item : Cond.instanceMethod yX6_item ∈ gALL ∧ Cond.selects yX6_item.cls yX6_item yX6_item ∈ gALL := ⟨gmem (i := 742) (by decide +kernel) rfl, gmem (i := 743) (by decide +kernel) rfl⟩
theorem gyX6_lowestBits : gY yX6_lowestBits cX6_lowestBits 3 (some .long) 2 := ⟨gmem (i := 747) (by decide +kernel) rfl, gmem (i := 35) (by decide +kernel) rfl, by decide +kernel, by decide⟩
theorem syX6_lowestBits : Cond.static yX6_lowestBits ∈ gALL := gmem (i := 746) (by decide +kernel) rfl
theorem gyX6_copy : gY yX6_copy cX6_copy 8 (some .int) 5 := ⟨gmem (i := 751) (by decide +kernel) rfl, gmem (i := 35) (by decide +kernel) rfl, by decide +kernel, by decide⟩
theorem vyX6_copy : Cond.instanceMethod yX6_copy ∈ gALL ∧ Cond.selects yX6_copy.cls yX6_copy yX6_copy ∈ gALL := ⟨gmem (i := 749) (by decide +kernel) rfl, gmem (i := 750) (by decide +kernel) rfl⟩
theorem gyX7_init : gY yX7_init cX7_init 2 none 0 := ⟨gmem (i := 757) (by decide +kernel) rfl, gmem (i := 42) (by decide +kernel) rfl, by decide +kernel, by decide⟩
theorem gyX7_walker : gY yX7_walker cX7_walker 5 (some .int) 3 := ⟨gmem (i := 821) (by decide +kernel) rfl, gmem (i := 42) (by decide +kernel) rfl, by decide +kernel, by decide⟩
theorem vyX7_walker : Cond.instanceMethod yX7_walker ∈ gALL ∧ Cond.selects yX7_walker.cls yX7_walker yX7_walker ∈ gALL := ⟨gmem (i := 819) (by decide +kernel) rfl, gmem (i := 820) (by decide +kernel) rfl⟩
theorem gyX7_in : gY yX7_in cX7_in 6 (some .boolean) 3 := ⟨gmem (i := 825) (by decide +kernel) rfl, gmem (i := 42) (by decide +kernel) rfl, by decide +kernel, by decide⟩
theorem syX7_in : Cond.static yX7_in ∈ gALL := gmem (i := 824) (by decide +kernel) rfl
theorem gyX7_isCell : gY yX7_isCell cX7_isCell 1 (some .boolean) 1 := ⟨gmem (i := 829) (by decide +kernel) rfl, gmem (i := 42) (by decide +kernel) rfl, by decide +kernel, by decide⟩
theorem syX7_isCell : Cond.static yX7_isCell ∈ gALL := gmem (i := 828) (by decide +kernel) rfl
theorem gyX7_of : gY yX7_of cX7_of 3 (some .int) 2 := ⟨gmem (i := 834) (by decide +kernel) rfl, gmem (i := 42) (by decide +kernel) rfl, by decide +kernel, by decide⟩
theorem vyX7_of : Cond.instanceMethod yX7_of ∈ gALL ∧ Cond.selects yX7_of.cls yX7_of yX7_of ∈ gALL := ⟨gmem (i := 832) (by decide +kernel) rfl, gmem (i := 833) (by decide +kernel) rfl⟩
theorem gyX7_isWalker : gY yX7_isWalker cX7_isWalker 2 (some .boolean) 1 := ⟨gmem (i := 838) (by decide +kernel) rfl, gmem (i := 42) (by decide +kernel) rfl, by decide +kernel, by decide⟩
theorem vyX7_isWalker : Cond.instanceMethod yX7_isWalker ∈ gALL ∧ Cond.selects yX7_isWalker.cls yX7_isWalker yX7_isWalker ∈ gALL := ⟨gmem (i := 837) (by decide +kernel) rfl, gmem (i := 9) (by decide +kernel) rfl⟩
theorem gyX7_deep : gY yX7_deep cX7_deep 3 (some .int) 1 := ⟨gmem (i := 843) (by decide +kernel) rfl, gmem (i := 42) (by decide +kernel) rfl, by decide +kernel, by decide⟩
theorem vyX7_deep : Cond.instanceMethod yX7_deep ∈ gALL ∧ Cond.selects yX7_deep.cls yX7_deep yX7_deep ∈ gALL := ⟨gmem (i := 842) (by decide +kernel) rfl, gmem (i := 10) (by decide +kernel) rfl⟩
theorem gyX7_kind : gY yX7_kind cX7_kind 2 (some .int) 1 := ⟨gmem (i := 847) (by decide +kernel) rfl, gmem (i := 42) (by decide +kernel) rfl, by decide +kernel, by decide⟩
theorem vyX7_kind : Cond.instanceMethod yX7_kind ∈ gALL ∧ Cond.selects yX7_kind.cls yX7_kind yX7_kind ∈ gALL := ⟨gmem (i := 846) (by decide +kernel) rfl, gmem (i := 11) (by decide +kernel) rfl⟩
theorem gyX7_shoesOf : gY yX7_shoesOf cX7_shoesOf 2 (some .int) 1 := ⟨gmem (i := 851) (by decide +kernel) rfl, gmem (i := 42) (by decide +kernel) rfl, by decide +kernel, by decide⟩
theorem vyX7_shoesOf : Cond.instanceMethod yX7_shoesOf ∈ gALL ∧ Cond.selects yX7_shoesOf.cls yX7_shoesOf yX7_shoesOf ∈ gALL := ⟨gmem (i := 850) (by decide +kernel) rfl, gmem (i := 12) (by decide +kernel) rfl⟩
theorem gyX7_landOf : gY yX7_landOf cX7_landOf 4 (some .int) 1 := ⟨gmem (i := 855) (by decide +kernel) rfl, gmem (i := 42) (by decide +kernel) rfl, by decide +kernel, by decide⟩
theorem vyX7_landOf : Cond.instanceMethod yX7_landOf ∈ gALL ∧ Cond.selects yX7_landOf.cls yX7_landOf yX7_landOf ∈ gALL := ⟨gmem (i := 854) (by decide +kernel) rfl, gmem (i := 13) (by decide +kernel) rfl⟩
theorem gyX7_holder : gY yX7_holder cX7_holder 6 (some .int) 1 := ⟨gmem (i := 859) (by decide +kernel) rfl, gmem (i := 42) (by decide +kernel) rfl, by decide +kernel, by decide⟩
theorem vyX7_holder : Cond.instanceMethod yX7_holder ∈ gALL ∧ Cond.selects yX7_holder.cls yX7_holder yX7_holder ∈ gALL := ⟨gmem (i := 858) (by decide +kernel) rfl, gmem (i := 14) (by decide +kernel) rfl⟩
theorem gyX7_claimOf : gY yX7_claimOf cX7_claimOf 8 (some .int) 2 := ⟨gmem (i := 863) (by decide +kernel) rfl, gmem (i := 42) (by decide +kernel) rfl, by decide +kernel, by decide⟩
theorem vyX7_claimOf : Cond.instanceMethod yX7_claimOf ∈ gALL ∧ Cond.selects yX7_claimOf.cls yX7_claimOf yX7_claimOf ∈ gALL := ⟨gmem (i := 862) (by decide +kernel) rfl, gmem (i := 15) (by decide +kernel) rfl⟩
theorem gyX7_isle : gY yX7_isle cX7_isle 4 (some .int) 2 := ⟨gmem (i := 868) (by decide +kernel) rfl, gmem (i := 42) (by decide +kernel) rfl, by decide +kernel, by decide⟩
theorem vyX7_isle : Cond.instanceMethod yX7_isle ∈ gALL ∧ Cond.selects yX7_isle.cls yX7_isle yX7_isle ∈ gALL := ⟨gmem (i := 866) (by decide +kernel) rfl, gmem (i := 867) (by decide +kernel) rfl⟩
theorem gyX7_canIsle : gY yX7_canIsle cX7_canIsle 2 (some .boolean) 2 := ⟨gmem (i := 871) (by decide +kernel) rfl, gmem (i := 42) (by decide +kernel) rfl, by decide +kernel, by decide⟩
theorem syX7_canIsle : Cond.static yX7_canIsle ∈ gALL := gmem (i := 870) (by decide +kernel) rfl
theorem gyX7_print : gY yX7_print cX7_print 3 (some .int) 2 := ⟨gmem (i := 879) (by decide +kernel) rfl, gmem (i := 42) (by decide +kernel) rfl, by decide +kernel, by decide⟩
theorem vyX7_print : Cond.instanceMethod yX7_print ∈ gALL ∧ Cond.selects yX7_print.cls yX7_print yX7_print ∈ gALL := ⟨gmem (i := 877) (by decide +kernel) rfl, gmem (i := 878) (by decide +kernel) rfl⟩
theorem gyX7_claim : gY yX7_claim cX7_claim 3 (some .int) 2 := ⟨gmem (i := 883) (by decide +kernel) rfl, gmem (i := 42) (by decide +kernel) rfl, by decide +kernel, by decide⟩
theorem vyX7_claim : Cond.instanceMethod yX7_claim ∈ gALL ∧ Cond.selects yX7_claim.cls yX7_claim yX7_claim ∈ gALL := ⟨gmem (i := 881) (by decide +kernel) rfl, gmem (i := 882) (by decide +kernel) rfl⟩
theorem gyX7_held : gY yX7_held cX7_held 2 (some .int) 1 := ⟨gmem (i := 887) (by decide +kernel) rfl, gmem (i := 42) (by decide +kernel) rfl, by decide +kernel, by decide⟩
theorem vyX7_held : Cond.instanceMethod yX7_held ∈ gALL ∧ Cond.selects yX7_held.cls yX7_held yX7_held ∈ gALL := ⟨gmem (i := 885) (by decide +kernel) rfl, gmem (i := 886) (by decide +kernel) rfl⟩
theorem gyX7_count : gY yX7_count cX7_count 4 (some .int) 1 := ⟨gmem (i := 891) (by decide +kernel) rfl, gmem (i := 42) (by decide +kernel) rfl, by decide +kernel, by decide⟩
theorem vyX7_count : Cond.instanceMethod yX7_count ∈ gALL ∧ Cond.selects yX7_count.cls yX7_count yX7_count ∈ gALL := ⟨gmem (i := 889) (by decide +kernel) rfl, gmem (i := 890) (by decide +kernel) rfl⟩
theorem gyX7_prints : gY yX7_prints cX7_prints 4 (some .int) 1 := ⟨gmem (i := 895) (by decide +kernel) rfl, gmem (i := 42) (by decide +kernel) rfl, by decide +kernel, by decide⟩
theorem vyX7_prints : Cond.instanceMethod yX7_prints ∈ gALL ∧ Cond.selects yX7_prints.cls yX7_prints yX7_prints ∈ gALL := ⟨gmem (i := 894) (by decide +kernel) rfl, gmem (i := 16) (by decide +kernel) rfl⟩
theorem gyX7_allHeld : gY yX7_allHeld cX7_allHeld 3 (some .int) 0 := ⟨gmem (i := 899) (by decide +kernel) rfl, gmem (i := 42) (by decide +kernel) rfl, by decide +kernel, by decide⟩
theorem vyX7_allHeld : Cond.instanceMethod yX7_allHeld ∈ gALL ∧ Cond.selects yX7_allHeld.cls yX7_allHeld yX7_allHeld ∈ gALL := ⟨gmem (i := 898) (by decide +kernel) rfl, gmem (i := 17) (by decide +kernel) rfl⟩
theorem gyX7_type : gY yX7_type cX7_type 2 (some .int) 1 := ⟨gmem (i := 903) (by decide +kernel) rfl, gmem (i := 42) (by decide +kernel) rfl, by decide +kernel, by decide⟩
theorem vyX7_type : Cond.instanceMethod yX7_type ∈ gALL ∧ Cond.selects yX7_type.cls yX7_type yX7_type ∈ gALL := ⟨gmem (i := 901) (by decide +kernel) rfl, gmem (i := 902) (by decide +kernel) rfl⟩
theorem gyX7_settle : gY yX7_settle cX7_settle 6 (some .int) 0 := ⟨gmem (i := 909) (by decide +kernel) rfl, gmem (i := 42) (by decide +kernel) rfl, by decide +kernel, by decide⟩
theorem vyX7_settle : Cond.instanceMethod yX7_settle ∈ gALL ∧ Cond.selects yX7_settle.cls yX7_settle yX7_settle ∈ gALL := ⟨gmem (i := 907) (by decide +kernel) rfl, gmem (i := 908) (by decide +kernel) rfl⟩
theorem gyX7_digit : gY yX7_digit cX7_digit 4 (some .int) 2 := ⟨gmem (i := 913) (by decide +kernel) rfl, gmem (i := 42) (by decide +kernel) rfl, by decide +kernel, by decide⟩
theorem vyX7_digit : Cond.instanceMethod yX7_digit ∈ gALL ∧ Cond.selects yX7_digit.cls yX7_digit yX7_digit ∈ gALL := ⟨gmem (i := 912) (by decide +kernel) rfl, gmem (i := 18) (by decide +kernel) rfl⟩
theorem gyX7_here : gY yX7_here cX7_here 1 (some .int) 0 := ⟨gmem (i := 917) (by decide +kernel) rfl, gmem (i := 42) (by decide +kernel) rfl, by decide +kernel, by decide⟩
theorem vyX7_here : Cond.instanceMethod yX7_here ∈ gALL ∧ Cond.selects yX7_here.cls yX7_here yX7_here ∈ gALL := ⟨gmem (i := 916) (by decide +kernel) rfl, gmem (i := 19) (by decide +kernel) rfl⟩
theorem gyX7_must : gY yX7_must cX7_must 2 none 1 := ⟨gmem (i := 921) (by decide +kernel) rfl, gmem (i := 42) (by decide +kernel) rfl, by decide +kernel, by decide⟩
theorem vyX7_must : Cond.instanceMethod yX7_must ∈ gALL ∧ Cond.selects yX7_must.cls yX7_must yX7_must ∈ gALL := ⟨gmem (i := 920) (by decide +kernel) rfl, gmem (i := 20) (by decide +kernel) rfl⟩
theorem gyX7_takes : gY yX7_takes cX7_takes 2 none 1 := ⟨gmem (i := 925) (by decide +kernel) rfl, gmem (i := 42) (by decide +kernel) rfl, by decide +kernel, by decide⟩
theorem vyX7_takes : Cond.instanceMethod yX7_takes ∈ gALL ∧ Cond.selects yX7_takes.cls yX7_takes yX7_takes ∈ gALL := ⟨gmem (i := 924) (by decide +kernel) rfl, gmem (i := 21) (by decide +kernel) rfl⟩
theorem gyX7_readWalker : gY yX7_readWalker cX7_readWalker 7 none 1 := ⟨gmem (i := 929) (by decide +kernel) rfl, gmem (i := 42) (by decide +kernel) rfl, by decide +kernel, by decide⟩
theorem vyX7_readWalker : Cond.instanceMethod yX7_readWalker ∈ gALL ∧ Cond.selects yX7_readWalker.cls yX7_readWalker yX7_readWalker ∈ gALL := ⟨gmem (i := 928) (by decide +kernel) rfl, gmem (i := 22) (by decide +kernel) rfl⟩
theorem gyX7_step : gY yX7_step cX7_step 3 (some .int) 2 := ⟨gmem (i := 933) (by decide +kernel) rfl, gmem (i := 42) (by decide +kernel) rfl, by decide +kernel, by decide⟩
theorem vyX7_step : Cond.instanceMethod yX7_step ∈ gALL ∧ Cond.selects yX7_step.cls yX7_step yX7_step ∈ gALL := ⟨gmem (i := 931) (by decide +kernel) rfl, gmem (i := 932) (by decide +kernel) rfl⟩
theorem gyX7_beside : gY yX7_beside cX7_beside 4 (some .int) 2 := ⟨gmem (i := 936) (by decide +kernel) rfl, gmem (i := 42) (by decide +kernel) rfl, by decide +kernel, by decide⟩
theorem syX7_beside : Cond.static yX7_beside ∈ gALL := gmem (i := 935) (by decide +kernel) rfl
theorem gyX7_notes : gY yX7_notes cX7_notes 2 none 0 := ⟨gmem (i := 940) (by decide +kernel) rfl, gmem (i := 42) (by decide +kernel) rfl, by decide +kernel, by decide⟩
theorem vyX7_notes : Cond.instanceMethod yX7_notes ∈ gALL ∧ Cond.selects yX7_notes.cls yX7_notes yX7_notes ∈ gALL := ⟨gmem (i := 939) (by decide +kernel) rfl, gmem (i := 23) (by decide +kernel) rfl⟩
theorem gyX7_steps : gY yX7_steps cX7_steps 5 none 2 := ⟨gmem (i := 944) (by decide +kernel) rfl, gmem (i := 42) (by decide +kernel) rfl, by decide +kernel, by decide⟩
theorem vyX7_steps : Cond.instanceMethod yX7_steps ∈ gALL ∧ Cond.selects yX7_steps.cls yX7_steps yX7_steps ∈ gALL := ⟨gmem (i := 943) (by decide +kernel) rfl, gmem (i := 24) (by decide +kernel) rfl⟩
theorem gyX7_treads : gY yX7_treads cX7_treads 4 none 2 := ⟨gmem (i := 948) (by decide +kernel) rfl, gmem (i := 42) (by decide +kernel) rfl, by decide +kernel, by decide⟩
theorem vyX7_treads : Cond.instanceMethod yX7_treads ∈ gALL ∧ Cond.selects yX7_treads.cls yX7_treads yX7_treads ∈ gALL := ⟨gmem (i := 947) (by decide +kernel) rfl, gmem (i := 25) (by decide +kernel) rfl⟩
theorem gyX7_hours : gY yX7_hours cX7_hours 3 (some .int) 1 := ⟨gmem (i := 952) (by decide +kernel) rfl, gmem (i := 42) (by decide +kernel) rfl, by decide +kernel, by decide⟩
theorem vyX7_hours : Cond.instanceMethod yX7_hours ∈ gALL ∧ Cond.selects yX7_hours.cls yX7_hours yX7_hours ∈ gALL := ⟨gmem (i := 950) (by decide +kernel) rfl, gmem (i := 951) (by decide +kernel) rfl⟩
theorem gyX7_goesBy : gY yX7_goesBy cX7_goesBy 5 none 0 := ⟨gmem (i := 957) (by decide +kernel) rfl, gmem (i := 42) (by decide +kernel) rfl, by decide +kernel, by decide⟩
theorem vyX7_goesBy : Cond.instanceMethod yX7_goesBy ∈ gALL ∧ Cond.selects yX7_goesBy.cls yX7_goesBy yX7_goesBy ∈ gALL := ⟨gmem (i := 956) (by decide +kernel) rfl, gmem (i := 26) (by decide +kernel) rfl⟩
theorem gyX7_drift : gY yX7_drift cX7_drift 4 (some .int) 1 := ⟨gmem (i := 961) (by decide +kernel) rfl, gmem (i := 42) (by decide +kernel) rfl, by decide +kernel, by decide⟩
theorem vyX7_drift : Cond.instanceMethod yX7_drift ∈ gALL ∧ Cond.selects yX7_drift.cls yX7_drift yX7_drift ∈ gALL := ⟨gmem (i := 959) (by decide +kernel) rfl, gmem (i := 960) (by decide +kernel) rfl⟩
theorem gyX7_rakes : gY yX7_rakes cX7_rakes 4 (some .int) 1 := ⟨gmem (i := 969) (by decide +kernel) rfl, gmem (i := 42) (by decide +kernel) rfl, by decide +kernel, by decide⟩
theorem vyX7_rakes : Cond.instanceMethod yX7_rakes ∈ gALL ∧ Cond.selects yX7_rakes.cls yX7_rakes yX7_rakes ∈ gALL := ⟨gmem (i := 968) (by decide +kernel) rfl, gmem (i := 27) (by decide +kernel) rfl⟩
theorem gyX7_rake : gY yX7_rake cX7_rake 2 (some .int) 1 := ⟨gmem (i := 973) (by decide +kernel) rfl, gmem (i := 42) (by decide +kernel) rfl, by decide +kernel, by decide⟩
theorem vyX7_rake : Cond.instanceMethod yX7_rake ∈ gALL ∧ Cond.selects yX7_rake.cls yX7_rake yX7_rake ∈ gALL := ⟨gmem (i := 971) (by decide +kernel) rfl, gmem (i := 972) (by decide +kernel) rfl⟩
theorem gyX7_undo : gY yX7_undo cX7_undo 3 (some .int) 0 := ⟨gmem (i := 977) (by decide +kernel) rfl, gmem (i := 42) (by decide +kernel) rfl, by decide +kernel, by decide⟩
theorem vyX7_undo : Cond.instanceMethod yX7_undo ∈ gALL ∧ Cond.selects yX7_undo.cls yX7_undo yX7_undo ∈ gALL := ⟨gmem (i := 975) (by decide +kernel) rfl, gmem (i := 976) (by decide +kernel) rfl⟩
theorem gyX7_seed : gY yX7_seed cX7_seed 3 (some .int) 1 := ⟨gmem (i := 981) (by decide +kernel) rfl, gmem (i := 42) (by decide +kernel) rfl, by decide +kernel, by decide⟩
theorem vyX7_seed : Cond.instanceMethod yX7_seed ∈ gALL ∧ Cond.selects yX7_seed.cls yX7_seed yX7_seed ∈ gALL := ⟨gmem (i := 979) (by decide +kernel) rfl, gmem (i := 980) (by decide +kernel) rfl⟩
theorem gyX7_ahead : gY yX7_ahead cX7_ahead 4 (some .int) 2 := ⟨gmem (i := 985) (by decide +kernel) rfl, gmem (i := 42) (by decide +kernel) rfl, by decide +kernel, by decide⟩
theorem vyX7_ahead : Cond.instanceMethod yX7_ahead ∈ gALL ∧ Cond.selects yX7_ahead.cls yX7_ahead yX7_ahead ∈ gALL := ⟨gmem (i := 983) (by decide +kernel) rfl, gmem (i := 984) (by decide +kernel) rfl⟩
theorem gyX7_asides : gY yX7_asides cX7_asides 2 none 0 := ⟨gmem (i := 990) (by decide +kernel) rfl, gmem (i := 42) (by decide +kernel) rfl, by decide +kernel, by decide⟩
theorem vyX7_asides : Cond.instanceMethod yX7_asides ∈ gALL ∧ Cond.selects yX7_asides.cls yX7_asides yX7_asides ∈ gALL := ⟨gmem (i := 989) (by decide +kernel) rfl, gmem (i := 28) (by decide +kernel) rfl⟩
theorem gyX7_goesOn : gY yX7_goesOn cX7_goesOn 3 none 1 := ⟨gmem (i := 994) (by decide +kernel) rfl, gmem (i := 42) (by decide +kernel) rfl, by decide +kernel, by decide⟩
theorem vyX7_goesOn : Cond.instanceMethod yX7_goesOn ∈ gALL ∧ Cond.selects yX7_goesOn.cls yX7_goesOn yX7_goesOn ∈ gALL := ⟨gmem (i := 993) (by decide +kernel) rfl, gmem (i := 29) (by decide +kernel) rfl⟩
theorem gyX7_backs : gY yX7_backs cX7_backs 2 none 0 := ⟨gmem (i := 998) (by decide +kernel) rfl, gmem (i := 42) (by decide +kernel) rfl, by decide +kernel, by decide⟩
theorem vyX7_backs : Cond.instanceMethod yX7_backs ∈ gALL ∧ Cond.selects yX7_backs.cls yX7_backs yX7_backs ∈ gALL := ⟨gmem (i := 997) (by decide +kernel) rfl, gmem (i := 30) (by decide +kernel) rfl⟩
theorem gyX7_land : gY yX7_land cX7_land 4 (some .int) 2 := ⟨gmem (i := 1002) (by decide +kernel) rfl, gmem (i := 42) (by decide +kernel) rfl, by decide +kernel, by decide⟩
theorem vyX7_land : Cond.instanceMethod yX7_land ∈ gALL ∧ Cond.selects yX7_land.cls yX7_land yX7_land ∈ gALL := ⟨gmem (i := 1000) (by decide +kernel) rfl, gmem (i := 1001) (by decide +kernel) rfl⟩
theorem gyX7_lasts : gY yX7_lasts cX7_lasts 4 (some .int) 2 := ⟨gmem (i := 1006) (by decide +kernel) rfl, gmem (i := 42) (by decide +kernel) rfl, by decide +kernel, by decide⟩
theorem vyX7_lasts : Cond.instanceMethod yX7_lasts ∈ gALL ∧ Cond.selects yX7_lasts.cls yX7_lasts yX7_lasts ∈ gALL := ⟨gmem (i := 1004) (by decide +kernel) rfl, gmem (i := 1005) (by decide +kernel) rfl⟩
theorem gyX7_county : gY yX7_county cX7_county 6 (some .int) 1 := ⟨gmem (i := 1010) (by decide +kernel) rfl, gmem (i := 42) (by decide +kernel) rfl, by decide +kernel, by decide⟩
theorem vyX7_county : Cond.instanceMethod yX7_county ∈ gALL ∧ Cond.selects yX7_county.cls yX7_county yX7_county ∈ gALL := ⟨gmem (i := 1008) (by decide +kernel) rfl, gmem (i := 1009) (by decide +kernel) rfl⟩
theorem gyX7_way : gY yX7_way cX7_way 9 (some .int) 3 := ⟨gmem (i := 1014) (by decide +kernel) rfl, gmem (i := 42) (by decide +kernel) rfl, by decide +kernel, by decide⟩
theorem vyX7_way : Cond.instanceMethod yX7_way ∈ gALL ∧ Cond.selects yX7_way.cls yX7_way yX7_way ∈ gALL := ⟨gmem (i := 1012) (by decide +kernel) rfl, gmem (i := 1013) (by decide +kernel) rfl⟩
theorem gyX7_holds : gY yX7_holds cX7_holds 2 none 0 := ⟨gmem (i := 1018) (by decide +kernel) rfl, gmem (i := 42) (by decide +kernel) rfl, by decide +kernel, by decide⟩
theorem vyX7_holds : Cond.instanceMethod yX7_holds ∈ gALL ∧ Cond.selects yX7_holds.cls yX7_holds yX7_holds ∈ gALL := ⟨gmem (i := 1017) (by decide +kernel) rfl, gmem (i := 31) (by decide +kernel) rfl⟩
theorem gyX7_walk : gY yX7_walk cX7_walk 9 (some .int) 4 := ⟨gmem (i := 1022) (by decide +kernel) rfl, gmem (i := 42) (by decide +kernel) rfl, by decide +kernel, by decide⟩
theorem vyX7_walk : Cond.instanceMethod yX7_walk ∈ gALL ∧ Cond.selects yX7_walk.cls yX7_walk yX7_walk ∈ gALL := ⟨gmem (i := 1020) (by decide +kernel) rfl, gmem (i := 1021) (by decide +kernel) rfl⟩
theorem gyX7_isGone : gY yX7_isGone cX7_isGone 7 (some .boolean) 3 := ⟨gmem (i := 1026) (by decide +kernel) rfl, gmem (i := 42) (by decide +kernel) rfl, by decide +kernel, by decide⟩
theorem vyX7_isGone : Cond.instanceMethod yX7_isGone ∈ gALL ∧ Cond.selects yX7_isGone.cls yX7_isGone yX7_isGone ∈ gALL := ⟨gmem (i := 1025) (by decide +kernel) rfl, gmem (i := 32) (by decide +kernel) rfl⟩
theorem gyX7_well : gY yX7_well cX7_well 7 (some .int) 3 := ⟨gmem (i := 1030) (by decide +kernel) rfl, gmem (i := 42) (by decide +kernel) rfl, by decide +kernel, by decide⟩
theorem vyX7_well : Cond.instanceMethod yX7_well ∈ gALL ∧ Cond.selects yX7_well.cls yX7_well yX7_well ∈ gALL := ⟨gmem (i := 1028) (by decide +kernel) rfl, gmem (i := 1029) (by decide +kernel) rfl⟩
theorem gyX7_crabs : gY yX7_crabs cX7_crabs 8 (some .int) 4 := ⟨gmem (i := 1034) (by decide +kernel) rfl, gmem (i := 42) (by decide +kernel) rfl, by decide +kernel, by decide⟩
theorem vyX7_crabs : Cond.instanceMethod yX7_crabs ∈ gALL ∧ Cond.selects yX7_crabs.cls yX7_crabs yX7_crabs ∈ gALL := ⟨gmem (i := 1032) (by decide +kernel) rfl, gmem (i := 1033) (by decide +kernel) rfl⟩
theorem gyX7_image : gY yX7_image cX7_image 2 (some .int) 0 := ⟨gmem (i := 1040) (by decide +kernel) rfl, gmem (i := 42) (by decide +kernel) rfl, by decide +kernel, by decide⟩
theorem vyX7_image : Cond.instanceMethod yX7_image ∈ gALL ∧ Cond.selects yX7_image.cls yX7_image yX7_image ∈ gALL := ⟨gmem (i := 1038) (by decide +kernel) rfl, gmem (i := 1039) (by decide +kernel) rfl⟩
theorem gyX7_restore : gY yX7_restore cX7_restore 2 (some .int) 0 := ⟨gmem (i := 1044) (by decide +kernel) rfl, gmem (i := 42) (by decide +kernel) rfl, by decide +kernel, by decide⟩
theorem vyX7_restore : Cond.instanceMethod yX7_restore ∈ gALL ∧ Cond.selects yX7_restore.cls yX7_restore yX7_restore ∈ gALL := ⟨gmem (i := 1042) (by decide +kernel) rfl, gmem (i := 1043) (by decide +kernel) rfl⟩
theorem gyX7_raked : gY yX7_raked cX7_raked 14 (some .int) 4 := ⟨gmem (i := 1048) (by decide +kernel) rfl, gmem (i := 42) (by decide +kernel) rfl, by decide +kernel, by decide⟩
theorem vyX7_raked : Cond.instanceMethod yX7_raked ∈ gALL ∧ Cond.selects yX7_raked.cls yX7_raked yX7_raked ∈ gALL := ⟨gmem (i := 1046) (by decide +kernel) rfl, gmem (i := 1047) (by decide +kernel) rfl⟩
theorem gyX7_isSheet : gY yX7_isSheet cX7_isSheet 1 (some .boolean) 1 := ⟨gmem (i := 1051) (by decide +kernel) rfl, gmem (i := 42) (by decide +kernel) rfl, by decide +kernel, by decide⟩
theorem syX7_isSheet : Cond.static yX7_isSheet ∈ gALL := gmem (i := 1050) (by decide +kernel) rfl
theorem gyX7_isLane : gY yX7_isLane cX7_isLane 1 (some .boolean) 1 := ⟨gmem (i := 1054) (by decide +kernel) rfl, gmem (i := 42) (by decide +kernel) rfl, by decide +kernel, by decide⟩
theorem syX7_isLane : Cond.static yX7_isLane ∈ gALL := gmem (i := 1053) (by decide +kernel) rfl
theorem gyX7_why : gY yX7_why cX7_why 5 (some .int) 4 := ⟨gmem (i := 1058) (by decide +kernel) rfl, gmem (i := 42) (by decide +kernel) rfl, by decide +kernel, by decide⟩
theorem vyX7_why : Cond.instanceMethod yX7_why ∈ gALL ∧ Cond.selects yX7_why.cls yX7_why yX7_why ∈ gALL := ⟨gmem (i := 1057) (by decide +kernel) rfl, gmem (i := 33) (by decide +kernel) rfl⟩
theorem gyX7_shoes : gY yX7_shoes cX7_shoes 11 (some .int) 4 := ⟨gmem (i := 1063) (by decide +kernel) rfl, gmem (i := 42) (by decide +kernel) rfl, by decide +kernel, by decide⟩
theorem vyX7_shoes : Cond.instanceMethod yX7_shoes ∈ gALL ∧ Cond.selects yX7_shoes.cls yX7_shoes yX7_shoes ∈ gALL := ⟨gmem (i := 1061) (by decide +kernel) rfl, gmem (i := 1062) (by decide +kernel) rfl⟩
theorem gyX7_film : gY yX7_film cX7_film 8 (some .int) 5 := ⟨gmem (i := 1068) (by decide +kernel) rfl, gmem (i := 42) (by decide +kernel) rfl, by decide +kernel, by decide⟩
theorem vyX7_film : Cond.instanceMethod yX7_film ∈ gALL ∧ Cond.selects yX7_film.cls yX7_film yX7_film ∈ gALL := ⟨gmem (i := 1066) (by decide +kernel) rfl, gmem (i := 1067) (by decide +kernel) rfl⟩
theorem gyX7_sheet : gY yX7_sheet cX7_sheet 5 (some .int) 3 := ⟨gmem (i := 1072) (by decide +kernel) rfl, gmem (i := 42) (by decide +kernel) rfl, by decide +kernel, by decide⟩
theorem vyX7_sheet : Cond.instanceMethod yX7_sheet ∈ gALL ∧ Cond.selects yX7_sheet.cls yX7_sheet yX7_sheet ∈ gALL := ⟨gmem (i := 1070) (by decide +kernel) rfl, gmem (i := 1071) (by decide +kernel) rfl⟩
theorem gyX7_drop : gY yX7_drop cX7_drop 2 (some .int) 1 := ⟨gmem (i := 1076) (by decide +kernel) rfl, gmem (i := 42) (by decide +kernel) rfl, by decide +kernel, by decide⟩
theorem vyX7_drop : Cond.instanceMethod yX7_drop ∈ gALL ∧ Cond.selects yX7_drop.cls yX7_drop yX7_drop ∈ gALL := ⟨gmem (i := 1074) (by decide +kernel) rfl, gmem (i := 1075) (by decide +kernel) rfl⟩
theorem gyX7_item : gY yX7_item cX7_item 7 (some .int) 4 := ⟨gmem (i := 1080) (by decide +kernel) rfl, gmem (i := 42) (by decide +kernel) rfl, by decide +kernel, by decide⟩
theorem vyX7_item : Cond.instanceMethod yX7_item ∈ gALL ∧ Cond.selects yX7_item.cls yX7_item yX7_item ∈ gALL := ⟨gmem (i := 1078) (by decide +kernel) rfl, gmem (i := 1079) (by decide +kernel) rfl⟩
theorem gyX7_copy : gY yX7_copy cX7_copy 8 (some .int) 5 := ⟨gmem (i := 1084) (by decide +kernel) rfl, gmem (i := 42) (by decide +kernel) rfl, by decide +kernel, by decide⟩
theorem vyX7_copy : Cond.instanceMethod yX7_copy ∈ gALL ∧ Cond.selects yX7_copy.cls yX7_copy yX7_copy ∈ gALL := ⟨gmem (i := 1082) (by decide +kernel) rfl, gmem (i := 1083) (by decide +kernel) rfl⟩
theorem mlL_9 : Cond.methodLink RL 9 yX6_init ∈ gALL := gmem (i := 54) (by decide +kernel) rfl
theorem mlL_13 : Cond.methodLink RL 13 yX6_walker ∈ gALL := gmem (i := 278) (by decide +kernel) rfl
theorem mlX6_51 : Cond.methodLink RX6 51 yX6_isCell ∈ gALL := gmem (i := 282) (by decide +kernel) rfl
theorem mlX6_63 : Cond.methodLink RX6 63 yX1_forget ∈ gALL := gmem (i := 285) (by decide +kernel) rfl
theorem mlX6_68 : Cond.methodLink RX6 68 yX0_enter ∈ gALL := gmem (i := 289) (by decide +kernel) rfl
theorem mlL_18 : Cond.methodLink RL 18 yX6_of ∈ gALL := gmem (i := 293) (by decide +kernel) rfl
theorem mlX6_72 : Cond.methodLink RX6 72 yX0_has ∈ gALL := gmem (i := 297) (by decide +kernel) rfl
theorem mlX6_88 : Cond.methodLink RX6 88 yX0_treadOf ∈ gALL := gmem (i := 301) (by decide +kernel) rfl
theorem mlX6_92 : Cond.methodLink RX6 92 yX0_shoesOf ∈ gALL := gmem (i := 305) (by decide +kernel) rfl
theorem mlX6_95 : Cond.methodLink RX6 95 yX3_look ∈ gALL := gmem (i := 309) (by decide +kernel) rfl
theorem mlX3_25 : Cond.methodLink RX3 25 yX3_lookWithout ∈ gALL := gmem (i := 313) (by decide +kernel) rfl
theorem mlX3_32 : Cond.methodLink RX3 32 yJ7_fill_53178 ∈ gALL := gmem (i := 317) (by decide +kernel) rfl
theorem mlX3_41 : Cond.methodLink RX3 41 yX0_depthBehind ∈ gALL := gmem (i := 320) (by decide +kernel) rfl
theorem mlX0_103 : Cond.methodLink RX0 103 yX0_isTideWithin ∈ gALL := gmem (i := 327) (by decide +kernel) rfl
theorem mlX0_107 : Cond.methodLink RX0 107 Lib.Math.max.name ∈ gALL := gmem (i := 331) (by decide +kernel) rfl
theorem mlX3_48 : Cond.methodLink RX3 48 yX3_raise ∈ gALL := gmem (i := 334) (by decide +kernel) rfl
theorem mlX3_62 : Cond.methodLink RX3 62 Lib.Math.min.name ∈ gALL := gmem (i := 341) (by decide +kernel) rfl
theorem mlX3_71 : Cond.methodLink RX3 71 Lib.Math.max.name ∈ gALL := gmem (i := 345) (by decide +kernel) rfl
theorem mlX3_52 : Cond.methodLink RX3 52 yX3_tally ∈ gALL := gmem (i := 346) (by decide +kernel) rfl
theorem mlX3_55 : Cond.methodLink RX3 55 yX3_holderOf ∈ gALL := gmem (i := 350) (by decide +kernel) rfl
theorem mlL_23 : Cond.methodLink RL 23 yX6_isle ∈ gALL := gmem (i := 354) (by decide +kernel) rfl
theorem mlL_27 : Cond.methodLink RL 27 yX6_print ∈ gALL := gmem (i := 362) (by decide +kernel) rfl
theorem mlL_31 : Cond.methodLink RL 31 yX6_claim ∈ gALL := gmem (i := 366) (by decide +kernel) rfl
theorem mlL_35 : Cond.methodLink RL 35 yX6_held ∈ gALL := gmem (i := 370) (by decide +kernel) rfl
theorem mlX6_117 : Cond.methodLink RX6 117 yX6_ahead ∈ gALL := gmem (i := 374) (by decide +kernel) rfl
theorem mlX6_176 : Cond.methodLink RX6 176 yX3_holderOf ∈ gALL := gmem (i := 378) (by decide +kernel) rfl
theorem mlL_40 : Cond.methodLink RL 40 yX6_type ∈ gALL := gmem (i := 379) (by decide +kernel) rfl
theorem mlX6_121 : Cond.methodLink RX6 121 yX4_put ∈ gALL := gmem (i := 383) (by decide +kernel) rfl
theorem mlL_44 : Cond.methodLink RL 44 yX6_settle ∈ gALL := gmem (i := 387) (by decide +kernel) rfl
theorem mlX6_127 : Cond.methodLink RX6 127 yX4_parse ∈ gALL := gmem (i := 391) (by decide +kernel) rfl
theorem mlX4_40 : Cond.methodLink RX4 40 yX4_take ∈ gALL := gmem (i := 395) (by decide +kernel) rfl
theorem mlX4_48 : Cond.methodLink RX4 48 yX4_skipBlanks ∈ gALL := gmem (i := 399) (by decide +kernel) rfl
theorem mlX4_44 : Cond.methodLink RX4 44 yX4_takeWalker ∈ gALL := gmem (i := 403) (by decide +kernel) rfl
theorem mlX4_51 : Cond.methodLink RX4 51 yX4_takeKind ∈ gALL := gmem (i := 407) (by decide +kernel) rfl
theorem mlX4_57 : Cond.methodLink RX4 57 yJ0_indexOf_0f7a4 ∈ gALL := gmem (i := 412) (by decide +kernel) rfl
theorem mlJ0_633 : Cond.methodLink RJ0 633 yJ0_indexOf_7cf53 ∈ gALL := gmem (i := 416) (by decide +kernel) rfl
theorem mlJ0_492 : Cond.methodLink RJ0 492 yJ0_isLatin1_aae02 ∈ gALL := gmem (i := 420) (by decide +kernel) rfl
theorem mlJ0_505 : Cond.methodLink RJ0 505 yJ0_length_8abf5 ∈ gALL := gmem (i := 426) (by decide +kernel) rfl
theorem mlJ0_335 : Cond.methodLink RJ0 335 yJ0_coder_7d493 ∈ gALL := gmem (i := 430) (by decide +kernel) rfl
theorem mlJ0_637 : Cond.methodLink RJ0 637 yJ1_indexOf_4cfef ∈ gALL := gmem (i := 434) (by decide +kernel) rfl
theorem mlJ1_88 : Cond.methodLink RJ1 88 yJ1_canEncode_9a6ad ∈ gALL := gmem (i := 437) (by decide +kernel) rfl
theorem mlJ1_92 : Cond.methodLink RJ1 92 Lib.Math.max.name ∈ gALL := gmem (i := 440) (by decide +kernel) rfl
theorem mlJ1_38 : Cond.methodLink RJ1 38 Lib.Math.min.name ∈ gALL := gmem (i := 441) (by decide +kernel) rfl
theorem mlJ1_95 : Cond.methodLink RJ1 95 yJ1_indexOfChar_4cfef ∈ gALL := gmem (i := 442) (by decide +kernel) rfl
theorem mlJ0_640 : Cond.methodLink RJ0 640 yJ2_indexOf_4cfef ∈ gALL := gmem (i := 445) (by decide +kernel) rfl
theorem mlJ2_224 : Cond.methodLink RJ2 224 Lib.Math.max.name ∈ gALL := gmem (i := 448) (by decide +kernel) rfl
theorem mlJ2_183 : Cond.methodLink RJ2 183 Lib.Math.min.name ∈ gALL := gmem (i := 449) (by decide +kernel) rfl
theorem mlJ2_228 : Cond.methodLink RJ2 228 yJ2_indexOfChar_4cfef ∈ gALL := gmem (i := 451) (by decide +kernel) rfl
theorem mlJ2_96 : Cond.methodLink RJ2 96 yJ2_checkBoundsBeginEnd_d044e ∈ gALL := gmem (i := 454) (by decide +kernel) rfl
theorem mlJ2_48 : Cond.methodLink RJ2 48 yJ2_length_9d52b ∈ gALL := gmem (i := 457) (by decide +kernel) rfl
theorem mlJ2_241 : Cond.methodLink RJ2 241 yJ0_checkBoundsBeginEnd_23922 ∈ gALL := gmem (i := 460) (by decide +kernel) rfl
theorem mlJ0_1062 : Cond.methodLink RJ0 1062 yJ3_checkFromToIndex_8c36e ∈ gALL := gmem (i := 465) (by decide +kernel) rfl
theorem mlJ2_244 : Cond.methodLink RJ2 244 yJ2_indexOfCharUnsafe_4cfef ∈ gALL := gmem (i := 468) (by decide +kernel) rfl
theorem mlJ2_71 : Cond.methodLink RJ2 71 yJ2_getChar_3b067 ∈ gALL := gmem (i := 471) (by decide +kernel) rfl
theorem mlJ2_232 : Cond.methodLink RJ2 232 yJ2_indexOfSupplementary_4cfef ∈ gALL := gmem (i := 480) (by decide +kernel) rfl
theorem mlJ2_164 : Cond.methodLink RJ2 164 yJ11_isValidCodePoint_9a6ad ∈ gALL := gmem (i := 483) (by decide +kernel) rfl
theorem mlJ2_157 : Cond.methodLink RJ2 157 yJ11_highSurrogate_5068e ∈ gALL := gmem (i := 486) (by decide +kernel) rfl
theorem mlJ2_161 : Cond.methodLink RJ2 161 yJ11_lowSurrogate_5068e ∈ gALL := gmem (i := 490) (by decide +kernel) rfl
theorem mlX6_131 : Cond.methodLink RX6 131 yX0_settleAs ∈ gALL := gmem (i := 494) (by decide +kernel) rfl
theorem mlX0_57 : Cond.methodLink RX0 57 yX1_forget ∈ gALL := gmem (i := 498) (by decide +kernel) rfl
theorem mlX0_60 : Cond.methodLink RX0 60 yJ7_fill_53178 ∈ gALL := gmem (i := 499) (by decide +kernel) rfl
theorem mlX0_78 : Cond.methodLink RX0 78 yX0_enter ∈ gALL := gmem (i := 500) (by decide +kernel) rfl
theorem mlL_49 : Cond.methodLink RL 49 yX6_count ∈ gALL := gmem (i := 502) (by decide +kernel) rfl
theorem mlX6_144 : Cond.methodLink RX6 144 yX0_troddenCells ∈ gALL := gmem (i := 506) (by decide +kernel) rfl
theorem mlX0_119 : Cond.methodLink RX0 119 yX0_isTrodden ∈ gALL := gmem (i := 510) (by decide +kernel) rfl
theorem mlL_53 : Cond.methodLink RL 53 yX6_step ∈ gALL := gmem (i := 514) (by decide +kernel) rfl
theorem mlX6_147 : Cond.methodLink RX6 147 yX6_beside ∈ gALL := gmem (i := 518) (by decide +kernel) rfl
theorem mlX6_273 : Cond.methodLink RX6 273 yX6_columnOf ∈ gALL := gmem (i := 521) (by decide +kernel) rfl
theorem mlX6_276 : Cond.methodLink RX6 276 yX6_rowOf ∈ gALL := gmem (i := 522) (by decide +kernel) rfl
theorem mlX6_150 : Cond.methodLink RX6 150 yX1_keep ∈ gALL := gmem (i := 523) (by decide +kernel) rfl
theorem mlX1_37 : Cond.methodLink RX1 37 arraycopyName ∈ gALL := gmem (i := 527) (by decide +kernel) rfl
theorem mlX1_51 : Cond.methodLink RX1 51 Lib.Math.min.name ∈ gALL := gmem (i := 530) (by decide +kernel) rfl
theorem mlX6_154 : Cond.methodLink RX6 154 yX0_stepTo ∈ gALL := gmem (i := 531) (by decide +kernel) rfl
theorem mlX0_86 : Cond.methodLink RX0 86 yX0_shoesOf ∈ gALL := gmem (i := 538) (by decide +kernel) rfl
theorem mlX0_90 : Cond.methodLink RX0 90 yX0_treadOf ∈ gALL := gmem (i := 539) (by decide +kernel) rfl
theorem mlX6_287 : Cond.methodLink RX6 287 Lib.Math.min.name ∈ gALL := gmem (i := 543) (by decide +kernel) rfl
theorem mlL_57 : Cond.methodLink RL 57 yX6_hours ∈ gALL := gmem (i := 544) (by decide +kernel) rfl
theorem mlX6_158 : Cond.methodLink RX6 158 yX6_hoursFault ∈ gALL := gmem (i := 548) (by decide +kernel) rfl
theorem mlX6_161 : Cond.methodLink RX6 161 yX0_passHour ∈ gALL := gmem (i := 552) (by decide +kernel) rfl
theorem mlX0_97 : Cond.methodLink RX0 97 yX0_depthBehind ∈ gALL := gmem (i := 556) (by decide +kernel) rfl
theorem mlL_61 : Cond.methodLink RL 61 yX6_drift ∈ gALL := gmem (i := 557) (by decide +kernel) rfl
theorem mlX6_164 : Cond.methodLink RX6 164 yX0_drawCell ∈ gALL := gmem (i := 561) (by decide +kernel) rfl
theorem mlX6_167 : Cond.methodLink RX6 167 yX0_sweep ∈ gALL := gmem (i := 568) (by decide +kernel) rfl
theorem mlL_65 : Cond.methodLink RL 65 yX6_rake ∈ gALL := gmem (i := 572) (by decide +kernel) rfl
theorem mlL_69 : Cond.methodLink RL 69 yX6_undo ∈ gALL := gmem (i := 576) (by decide +kernel) rfl
theorem mlX6_170 : Cond.methodLink RX6 170 yX1_giveBack ∈ gALL := gmem (i := 580) (by decide +kernel) rfl
theorem mlL_73 : Cond.methodLink RL 73 yX6_seed ∈ gALL := gmem (i := 584) (by decide +kernel) rfl
theorem mlL_77 : Cond.methodLink RL 77 yX6_ahead ∈ gALL := gmem (i := 588) (by decide +kernel) rfl
theorem mlL_81 : Cond.methodLink RL 81 yX6_land ∈ gALL := gmem (i := 589) (by decide +kernel) rfl
theorem mlL_85 : Cond.methodLink RL 85 yX6_lasts ∈ gALL := gmem (i := 593) (by decide +kernel) rfl
theorem mlL_89 : Cond.methodLink RL 89 yX6_county ∈ gALL := gmem (i := 597) (by decide +kernel) rfl
theorem mlX6_181 : Cond.methodLink RX6 181 yX6_spreadOver ∈ gALL := gmem (i := 602) (by decide +kernel) rfl
theorem mlX6_283 : Cond.methodLink RX6 283 yX6_besideSet ∈ gALL := gmem (i := 605) (by decide +kernel) rfl
theorem mlX6_187 : Cond.methodLink RX6 187 yJ13_bitCount_95d88 ∈ gALL := gmem (i := 611) (by decide +kernel) rfl
theorem mlL_93 : Cond.methodLink RL 93 yX6_way ∈ gALL := gmem (i := 617) (by decide +kernel) rfl
theorem mlX6_193 : Cond.methodLink RX6 193 yX6_fewestTrodden ∈ gALL := gmem (i := 621) (by decide +kernel) rfl
theorem mlL_97 : Cond.methodLink RL 97 yX6_walk ∈ gALL := gmem (i := 624) (by decide +kernel) rfl
theorem mlX6_197 : Cond.methodLink RX6 197 yX5_begin ∈ gALL := gmem (i := 628) (by decide +kernel) rfl
theorem mlX5_28 : Cond.methodLink RX5 28 yX0_shoesOf ∈ gALL := gmem (i := 632) (by decide +kernel) rfl
theorem mlX5_34 : Cond.methodLink RX5 34 yX3_look ∈ gALL := gmem (i := 633) (by decide +kernel) rfl
theorem mlX5_41 : Cond.methodLink RX5 41 arraycopyName ∈ gALL := gmem (i := 634) (by decide +kernel) rfl
theorem mlX6_201 : Cond.methodLink RX6 201 yX5_go ∈ gALL := gmem (i := 635) (by decide +kernel) rfl
theorem mlX5_69 : Cond.methodLink RX5 69 yX5_tread ∈ gALL := gmem (i := 644) (by decide +kernel) rfl
theorem mlX5_73 : Cond.methodLink RX5 73 yX0_treadOf ∈ gALL := gmem (i := 648) (by decide +kernel) rfl
theorem mlX5_80 : Cond.methodLink RX5 80 yX0_depthBehind ∈ gALL := gmem (i := 650) (by decide +kernel) rfl
theorem mlX5_86 : Cond.methodLink RX5 86 yX3_raise ∈ gALL := gmem (i := 651) (by decide +kernel) rfl
theorem mlX6_205 : Cond.methodLink RX6 205 yX3_tally ∈ gALL := gmem (i := 652) (by decide +kernel) rfl
theorem mlX6_208 : Cond.methodLink RX6 208 yX6_wayAt ∈ gALL := gmem (i := 653) (by decide +kernel) rfl
theorem mlL_102 : Cond.methodLink RL 102 yX6_well ∈ gALL := gmem (i := 654) (by decide +kernel) rfl
theorem mlL_106 : Cond.methodLink RL 106 yX6_crabs ∈ gALL := gmem (i := 658) (by decide +kernel) rfl
theorem mlX6_211 : Cond.methodLink RX6 211 yX0_depthBehind ∈ gALL := gmem (i := 662) (by decide +kernel) rfl
theorem mlL_110 : Cond.methodLink RL 110 yX6_image ∈ gALL := gmem (i := 664) (by decide +kernel) rfl
theorem mlX6_215 : Cond.methodLink RX6 215 yX0_become ∈ gALL := gmem (i := 668) (by decide +kernel) rfl
theorem mlX0_47 : Cond.methodLink RX0 47 arraycopyName ∈ gALL := gmem (i := 672) (by decide +kernel) rfl
theorem mlX0_53 : Cond.methodLink RX0 53 yX1_become ∈ gALL := gmem (i := 673) (by decide +kernel) rfl
theorem mlL_114 : Cond.methodLink RL 114 yX6_restore ∈ gALL := gmem (i := 677) (by decide +kernel) rfl
theorem mlL_118 : Cond.methodLink RL 118 yX6_raked ∈ gALL := gmem (i := 681) (by decide +kernel) rfl
theorem mlX6_218 : Cond.methodLink RX6 218 yX6_itemsFault ∈ gALL := gmem (i := 685) (by decide +kernel) rfl
theorem mlX6_245 : Cond.methodLink RX6 245 yX6_isSheet ∈ gALL := gmem (i := 689) (by decide +kernel) rfl
theorem mlX6_250 : Cond.methodLink RX6 250 yX2_isNothing ∈ gALL := gmem (i := 692) (by decide +kernel) rfl
theorem mlX6_264 : Cond.methodLink RX6 264 yX2_spans ∈ gALL := gmem (i := 696) (by decide +kernel) rfl
theorem mlX6_222 : Cond.methodLink RX6 222 yX2_isWithin ∈ gALL := gmem (i := 700) (by decide +kernel) rfl
theorem mlX6_226 : Cond.methodLink RX6 226 yX6_isLandOfAll ∈ gALL := gmem (i := 704) (by decide +kernel) rfl
theorem mlX6_230 : Cond.methodLink RX6 230 yX0_isTrodden ∈ gALL := gmem (i := 708) (by decide +kernel) rfl
theorem mlX6_233 : Cond.methodLink RX6 233 yX3_lookWithout ∈ gALL := gmem (i := 709) (by decide +kernel) rfl
theorem mlL_122 : Cond.methodLink RL 122 yX6_shoes ∈ gALL := gmem (i := 710) (by decide +kernel) rfl
theorem mlX6_241 : Cond.methodLink RX6 241 yX6_hasPrints ∈ gALL := gmem (i := 714) (by decide +kernel) rfl
theorem mlL_126 : Cond.methodLink RL 126 yX6_film ∈ gALL := gmem (i := 718) (by decide +kernel) rfl
theorem mlL_131 : Cond.methodLink RL 131 yX6_sheet ∈ gALL := gmem (i := 722) (by decide +kernel) rfl
theorem mlX6_248 : Cond.methodLink RX6 248 yX2_begin ∈ gALL := gmem (i := 726) (by decide +kernel) rfl
theorem mlX2_22 : Cond.methodLink RX2 22 yJ7_fill_d0a16 ∈ gALL := gmem (i := 730) (by decide +kernel) rfl
theorem mlL_135 : Cond.methodLink RL 135 yX6_drop ∈ gALL := gmem (i := 733) (by decide +kernel) rfl
theorem mlX6_254 : Cond.methodLink RX6 254 yX2_end ∈ gALL := gmem (i := 737) (by decide +kernel) rfl
theorem mlL_141 : Cond.methodLink RL 141 yX6_item ∈ gALL := gmem (i := 741) (by decide +kernel) rfl
theorem mlX6_257 : Cond.methodLink RX6 257 yX6_lowestBits ∈ gALL := gmem (i := 745) (by decide +kernel) rfl
theorem mlL_146 : Cond.methodLink RL 146 yX6_copy ∈ gALL := gmem (i := 748) (by decide +kernel) rfl
theorem mlX6_267 : Cond.methodLink RX6 267 arraycopyName ∈ gALL := gmem (i := 752) (by decide +kernel) rfl
theorem mlL_12 : Cond.methodLink RL 12 yX7_init ∈ gALL := gmem (i := 755) (by decide +kernel) rfl
theorem mlL_17 : Cond.methodLink RL 17 yX7_walker ∈ gALL := gmem (i := 818) (by decide +kernel) rfl
theorem mlX7_51 : Cond.methodLink RX7 51 yX7_in ∈ gALL := gmem (i := 823) (by decide +kernel) rfl
theorem mlX7_65 : Cond.methodLink RX7 65 yX7_isCell ∈ gALL := gmem (i := 827) (by decide +kernel) rfl
theorem mlL_22 : Cond.methodLink RL 22 yX7_of ∈ gALL := gmem (i := 831) (by decide +kernel) rfl
theorem mlX7_82 : Cond.methodLink RX7 82 yX7_isWalker ∈ gALL := gmem (i := 835) (by decide +kernel) rfl
theorem mlX7_87 : Cond.methodLink RX7 87 yX7_deep ∈ gALL := gmem (i := 840) (by decide +kernel) rfl
theorem mlX7_57 : Cond.methodLink RX7 57 yX7_kind ∈ gALL := gmem (i := 844) (by decide +kernel) rfl
theorem mlX7_90 : Cond.methodLink RX7 90 yX7_shoesOf ∈ gALL := gmem (i := 848) (by decide +kernel) rfl
theorem mlX7_93 : Cond.methodLink RX7 93 yX7_landOf ∈ gALL := gmem (i := 852) (by decide +kernel) rfl
theorem mlX7_79 : Cond.methodLink RX7 79 yX7_holder ∈ gALL := gmem (i := 856) (by decide +kernel) rfl
theorem mlX7_75 : Cond.methodLink RX7 75 yX7_claimOf ∈ gALL := gmem (i := 860) (by decide +kernel) rfl
theorem mlL_26 : Cond.methodLink RL 26 yX7_isle ∈ gALL := gmem (i := 865) (by decide +kernel) rfl
theorem mlX7_104 : Cond.methodLink RX7 104 yX7_canIsle ∈ gALL := gmem (i := 869) (by decide +kernel) rfl
theorem mlL_30 : Cond.methodLink RL 30 yX7_print ∈ gALL := gmem (i := 876) (by decide +kernel) rfl
theorem mlL_34 : Cond.methodLink RL 34 yX7_claim ∈ gALL := gmem (i := 880) (by decide +kernel) rfl
theorem mlL_39 : Cond.methodLink RL 39 yX7_held ∈ gALL := gmem (i := 884) (by decide +kernel) rfl
theorem mlL_52 : Cond.methodLink RL 52 yX7_count ∈ gALL := gmem (i := 888) (by decide +kernel) rfl
theorem mlX7_108 : Cond.methodLink RX7 108 yX7_prints ∈ gALL := gmem (i := 892) (by decide +kernel) rfl
theorem mlX7_111 : Cond.methodLink RX7 111 yX7_allHeld ∈ gALL := gmem (i := 896) (by decide +kernel) rfl
theorem mlL_43 : Cond.methodLink RL 43 yX7_type ∈ gALL := gmem (i := 900) (by decide +kernel) rfl
theorem mlL_48 : Cond.methodLink RL 48 yX7_settle ∈ gALL := gmem (i := 906) (by decide +kernel) rfl
theorem mlX7_136 : Cond.methodLink RX7 136 yX7_digit ∈ gALL := gmem (i := 910) (by decide +kernel) rfl
theorem mlX7_129 : Cond.methodLink RX7 129 yX7_here ∈ gALL := gmem (i := 914) (by decide +kernel) rfl
theorem mlX7_132 : Cond.methodLink RX7 132 yX7_must ∈ gALL := gmem (i := 918) (by decide +kernel) rfl
theorem mlX7_139 : Cond.methodLink RX7 139 yX7_takes ∈ gALL := gmem (i := 922) (by decide +kernel) rfl
theorem mlX7_143 : Cond.methodLink RX7 143 yX7_readWalker ∈ gALL := gmem (i := 926) (by decide +kernel) rfl
theorem mlL_56 : Cond.methodLink RL 56 yX7_step ∈ gALL := gmem (i := 930) (by decide +kernel) rfl
theorem mlX7_146 : Cond.methodLink RX7 146 yX7_beside ∈ gALL := gmem (i := 934) (by decide +kernel) rfl
theorem mlX7_153 : Cond.methodLink RX7 153 yX7_notes ∈ gALL := gmem (i := 937) (by decide +kernel) rfl
theorem mlX7_156 : Cond.methodLink RX7 156 yX7_steps ∈ gALL := gmem (i := 941) (by decide +kernel) rfl
theorem mlX7_149 : Cond.methodLink RX7 149 yX7_treads ∈ gALL := gmem (i := 945) (by decide +kernel) rfl
theorem mlL_60 : Cond.methodLink RL 60 yX7_hours ∈ gALL := gmem (i := 949) (by decide +kernel) rfl
theorem mlX7_161 : Cond.methodLink RX7 161 yX7_goesBy ∈ gALL := gmem (i := 954) (by decide +kernel) rfl
theorem mlL_64 : Cond.methodLink RL 64 yX7_drift ∈ gALL := gmem (i := 958) (by decide +kernel) rfl
theorem mlX7_171 : Cond.methodLink RX7 171 yX7_rakes ∈ gALL := gmem (i := 966) (by decide +kernel) rfl
theorem mlL_68 : Cond.methodLink RL 68 yX7_rake ∈ gALL := gmem (i := 970) (by decide +kernel) rfl
theorem mlL_72 : Cond.methodLink RL 72 yX7_undo ∈ gALL := gmem (i := 974) (by decide +kernel) rfl
theorem mlL_76 : Cond.methodLink RL 76 yX7_seed ∈ gALL := gmem (i := 978) (by decide +kernel) rfl
theorem mlL_80 : Cond.methodLink RL 80 yX7_ahead ∈ gALL := gmem (i := 982) (by decide +kernel) rfl
theorem mlX7_176 : Cond.methodLink RX7 176 yX7_asides ∈ gALL := gmem (i := 987) (by decide +kernel) rfl
theorem mlX7_179 : Cond.methodLink RX7 179 yX7_goesOn ∈ gALL := gmem (i := 991) (by decide +kernel) rfl
theorem mlX7_182 : Cond.methodLink RX7 182 yX7_backs ∈ gALL := gmem (i := 995) (by decide +kernel) rfl
theorem mlL_84 : Cond.methodLink RL 84 yX7_land ∈ gALL := gmem (i := 999) (by decide +kernel) rfl
theorem mlL_88 : Cond.methodLink RL 88 yX7_lasts ∈ gALL := gmem (i := 1003) (by decide +kernel) rfl
theorem mlL_92 : Cond.methodLink RL 92 yX7_county ∈ gALL := gmem (i := 1007) (by decide +kernel) rfl
theorem mlL_96 : Cond.methodLink RL 96 yX7_way ∈ gALL := gmem (i := 1011) (by decide +kernel) rfl
theorem mlX7_185 : Cond.methodLink RX7 185 yX7_holds ∈ gALL := gmem (i := 1015) (by decide +kernel) rfl
theorem mlL_101 : Cond.methodLink RL 101 yX7_walk ∈ gALL := gmem (i := 1019) (by decide +kernel) rfl
theorem mlX7_188 : Cond.methodLink RX7 188 yX7_isGone ∈ gALL := gmem (i := 1023) (by decide +kernel) rfl
theorem mlL_105 : Cond.methodLink RL 105 yX7_well ∈ gALL := gmem (i := 1027) (by decide +kernel) rfl
theorem mlL_109 : Cond.methodLink RL 109 yX7_crabs ∈ gALL := gmem (i := 1031) (by decide +kernel) rfl
theorem mlL_113 : Cond.methodLink RL 113 yX7_image ∈ gALL := gmem (i := 1037) (by decide +kernel) rfl
theorem mlL_117 : Cond.methodLink RL 117 yX7_restore ∈ gALL := gmem (i := 1041) (by decide +kernel) rfl
theorem mlL_121 : Cond.methodLink RL 121 yX7_raked ∈ gALL := gmem (i := 1045) (by decide +kernel) rfl
theorem mlX7_201 : Cond.methodLink RX7 201 yX7_isSheet ∈ gALL := gmem (i := 1049) (by decide +kernel) rfl
theorem mlX7_204 : Cond.methodLink RX7 204 yX7_isLane ∈ gALL := gmem (i := 1052) (by decide +kernel) rfl
theorem mlX7_207 : Cond.methodLink RX7 207 yX7_why ∈ gALL := gmem (i := 1055) (by decide +kernel) rfl
theorem mlL_125 : Cond.methodLink RL 125 yX7_shoes ∈ gALL := gmem (i := 1060) (by decide +kernel) rfl
theorem mlL_130 : Cond.methodLink RL 130 yX7_film ∈ gALL := gmem (i := 1065) (by decide +kernel) rfl
theorem mlL_134 : Cond.methodLink RL 134 yX7_sheet ∈ gALL := gmem (i := 1069) (by decide +kernel) rfl
theorem mlL_138 : Cond.methodLink RL 138 yX7_drop ∈ gALL := gmem (i := 1073) (by decide +kernel) rfl
theorem mlL_145 : Cond.methodLink RL 145 yX7_item ∈ gALL := gmem (i := 1077) (by decide +kernel) rfl
theorem mlL_149 : Cond.methodLink RL 149 yX7_copy ∈ gALL := gmem (i := 1081) (by decide +kernel) rfl
def gNest : List Cond := [.methodLinkNest RX0 100 yX6_rowOf "FootIsle", .methodLinkNest RX3 59 yX6_columnOf "FootIsle", .methodLinkNest RX3 68 yX6_rowOf "FootIsle", .methodLinkNest RX0 82 yX6_comesDown "FootIsle", .methodLinkNest RX0 93 yX6_deepen "FootIsle", .methodLinkNest RX5 51 yX6_wayAt "FootIsle", .methodLinkNest RX5 55 yX6_beside "FootIsle", .methodLinkNest RX5 65 yX6_comesDown "FootIsle", .methodLinkNest RX5 76 yX6_deepen "FootIsle"]
theorem gNest_on : ∀ q ∈ gNest, q.onTables = true := by
  intro q hq
  simp only [gNest, List.mem_cons, List.not_mem_nil, or_false] at hq
  rcases hq with rfl | rfl | rfl | rfl | rfl | rfl | rfl | rfl | rfl <;> rfl
theorem gNest_warm : ∀ q ∈ gNest, ∀ {s U : State}, s.WarmedH U.vm → va_Nw q s → va_Nw q U := by
  intro q hq s U hW h
  simp only [gNest, List.mem_cons, List.not_mem_nil, or_false] at hq
  rcases hq with rfl | rfl | rfl | rfl | rfl | rfl | rfl | rfl | rfl <;> exact va_Nw.warmM hW h
theorem gNest_tbl : ∀ q ∈ gNest, q ∈ lw_tbl := by
  intro q hq
  simp only [gNest, List.mem_cons, List.not_mem_nil, or_false] at hq
  rcases hq with rfl | rfl | rfl | rfl | rfl | rfl | rfl | rfl | rfl
  · exact List.mem_of_getElem? (i := 324) (by decide +kernel)
  · exact List.mem_of_getElem? (i := 338) (by decide +kernel)
  · exact List.mem_of_getElem? (i := 344) (by decide +kernel)
  · exact List.mem_of_getElem? (i := 535) (by decide +kernel)
  · exact List.mem_of_getElem? (i := 540) (by decide +kernel)
  · exact List.mem_of_getElem? (i := 639) (by decide +kernel)
  · exact List.mem_of_getElem? (i := 642) (by decide +kernel)
  · exact List.mem_of_getElem? (i := 643) (by decide +kernel)
  · exact List.mem_of_getElem? (i := 649) (by decide +kernel)
theorem mlX0_100 : Cond.methodLinkNest RX0 100 yX6_rowOf "FootIsle" ∈ gNest := List.mem_of_getElem? (i := 0) rfl
theorem mlX3_59 : Cond.methodLinkNest RX3 59 yX6_columnOf "FootIsle" ∈ gNest := List.mem_of_getElem? (i := 1) rfl
theorem mlX3_68 : Cond.methodLinkNest RX3 68 yX6_rowOf "FootIsle" ∈ gNest := List.mem_of_getElem? (i := 2) rfl
theorem mlX0_82 : Cond.methodLinkNest RX0 82 yX6_comesDown "FootIsle" ∈ gNest := List.mem_of_getElem? (i := 3) rfl
theorem mlX0_93 : Cond.methodLinkNest RX0 93 yX6_deepen "FootIsle" ∈ gNest := List.mem_of_getElem? (i := 4) rfl
theorem mlX5_51 : Cond.methodLinkNest RX5 51 yX6_wayAt "FootIsle" ∈ gNest := List.mem_of_getElem? (i := 5) rfl
theorem mlX5_55 : Cond.methodLinkNest RX5 55 yX6_beside "FootIsle" ∈ gNest := List.mem_of_getElem? (i := 6) rfl
theorem mlX5_65 : Cond.methodLinkNest RX5 65 yX6_comesDown "FootIsle" ∈ gNest := List.mem_of_getElem? (i := 7) rfl
theorem mlX5_76 : Cond.methodLinkNest RX5 76 yX6_deepen "FootIsle" ∈ gNest := List.mem_of_getElem? (i := 8) rfl
theorem fsX6_102 : Cond.fieldLink RX6 102 "FootIsle" "LEAST_SETTING" "[I" ∈ gALL := gmem (i := 358) (by decide +kernel) rfl
theorem fsX6_105 : Cond.fieldLink RX6 105 "FootIsle" "MOST_SETTING" "[I" ∈ gALL := gmem (i := 360) (by decide +kernel) rfl
theorem kJ2_227 : Cond.constant RJ2 227 (65536) ∈ gALL := gmem (i := 450) (by decide +kernel) rfl
theorem kJ11_110 : Cond.constant RJ11 110 (55232) ∈ gALL := gmem (i := 489) (by decide +kernel) rfl
theorem kJ11_76 : Cond.constant RJ11 76 (56320) ∈ gALL := gmem (i := 493) (by decide +kernel) rfl
theorem kX0_113 : Cond.constantLong RX0 113 (1103515245) ∈ gALL := gmem (i := 565) (by decide +kernel) rfl
theorem kX0_115 : Cond.constantLong RX0 115 (12345) ∈ gALL := gmem (i := 566) (by decide +kernel) rfl
theorem kX0_117 : Cond.constantLong RX0 117 (2147483647) ∈ gALL := gmem (i := 567) (by decide +kernel) rfl
theorem kX6_179 : Cond.constantLong RX6 179 (-35604928818740737) ∈ gALL := gmem (i := 601) (by decide +kernel) rfl
theorem kX6_279 : Cond.constantLong RX6 279 (-72340172838076674) ∈ gALL := gmem (i := 608) (by decide +kernel) rfl
theorem kX6_281 : Cond.constantLong RX6 281 (9187201950435737471) ∈ gALL := gmem (i := 609) (by decide +kernel) rfl
theorem kX6_185 : Cond.constantLong RX6 185 (-1) ∈ gALL := gmem (i := 610) (by decide +kernel) rfl
theorem kJ13_314 : Cond.constantLong RJ13 314 (6148914691236517205) ∈ gALL := gmem (i := 614) (by decide +kernel) rfl
theorem kJ13_316 : Cond.constantLong RJ13 316 (3689348814741910323) ∈ gALL := gmem (i := 615) (by decide +kernel) rfl
theorem kJ13_318 : Cond.constantLong RJ13 318 (1085102592571150095) ∈ gALL := gmem (i := 616) (by decide +kernel) rfl
theorem kX6_214 : Cond.constant RX6 214 (1000000) ∈ gALL := gmem (i := 663) (by decide +kernel) rfl
theorem kX7_61 : Cond.constantLong RX7 61 (4) ∈ gALL := gmem (i := 822) (by decide +kernel) rfl
theorem kX7_63 : Cond.constantLong RX7 63 (9) ∈ gALL := gmem (i := 826) (by decide +kernel) rfl
theorem kX7_55 : Cond.constantLong RX7 55 (63) ∈ gALL := gmem (i := 830) (by decide +kernel) rfl
theorem kX7_85 : Cond.constantLong RX7 85 (6) ∈ gALL := gmem (i := 839) (by decide +kernel) rfl
theorem kX7_73 : Cond.constantLong RX7 73 (7) ∈ gALL := gmem (i := 864) (by decide +kernel) rfl
theorem kX7_96 : Cond.constantLong RX7 96 (8) ∈ gALL := gmem (i := 872) (by decide +kernel) rfl
theorem kX7_98 : Cond.constantLong RX7 98 (3) ∈ gALL := gmem (i := 873) (by decide +kernel) rfl
theorem kX7_100 : Cond.constantLong RX7 100 (2) ∈ gALL := gmem (i := 874) (by decide +kernel) rfl
theorem kX7_102 : Cond.constantLong RX7 102 (12) ∈ gALL := gmem (i := 875) (by decide +kernel) rfl
theorem kX7_115 : Cond.constantLong RX7 115 (32) ∈ gALL := gmem (i := 904) (by decide +kernel) rfl
theorem kX7_117 : Cond.constantLong RX7 117 (126) ∈ gALL := gmem (i := 905) (by decide +kernel) rfl
theorem kX7_159 : Cond.constantLong RX7 159 (24) ∈ gALL := gmem (i := 953) (by decide +kernel) rfl
theorem kX7_164 : Cond.constantLong RX7 164 (1103515245) ∈ gALL := gmem (i := 962) (by decide +kernel) rfl
theorem kX7_166 : Cond.constantLong RX7 166 (12345) ∈ gALL := gmem (i := 963) (by decide +kernel) rfl
theorem kX7_168 : Cond.constantLong RX7 168 (2147483647) ∈ gALL := gmem (i := 964) (by decide +kernel) rfl
theorem kX7_170 : Cond.constant RX7 170 (65536) ∈ gALL := gmem (i := 965) (by decide +kernel) rfl
theorem kX7_174 : Cond.constantLong RX7 174 (48) ∈ gALL := gmem (i := 986) (by decide +kernel) rfl
theorem kX7_192 : Cond.constantLong RX7 192 (100) ∈ gALL := gmem (i := 1035) (by decide +kernel) rfl
theorem kX7_194 : Cond.constant RX7 194 (1000000) ∈ gALL := gmem (i := 1036) (by decide +kernel) rfl
theorem kX7_211 : Cond.constantLong RX7 211 (64) ∈ gALL := gmem (i := 1059) (by decide +kernel) rfl
theorem kX7_213 : Cond.constantLong RX7 213 (99) ∈ gALL := gmem (i := 1064) (by decide +kernel) rfl
theorem kL_139 : Cond.constantLong RL 139 (4294967295) ∈ gALL := gmem (i := 1085) (by decide +kernel) rfl
theorem g_max1 : Cond.static Lib.Math.max.name ∈ gALL := gmem (i := 332) (by decide +kernel) rfl
theorem g_min1 : Cond.static Lib.Math.min.name ∈ gALL := gmem (i := 342) (by decide +kernel) rfl
theorem g_math : Cond.initialized "java/lang/Math" ∈ gALL := gmem (i := 44) (by decide +kernel) rfl
theorem g_max2 : Cond.code Lib.Math.max.name Lib.Math.max.code 2 (some .int) ∈ gALL := gmem (i := 333) (by decide +kernel) rfl
theorem g_min2 : Cond.code Lib.Math.min.name Lib.Math.min.code 2 (some .int) ∈ gALL := gmem (i := 343) (by decide +kernel) rfl
theorem g_cpy1 : Cond.native arraycopyName ∈ gALL := gmem (i := 529) (by decide +kernel) rfl
theorem g_cpy2 : Cond.static arraycopyName ∈ gALL := gmem (i := 528) (by decide +kernel) rfl
theorem g_cpy3 : Cond.initialized "java/lang/System" ∈ gALL := gmem (i := 50) (by decide +kernel) rfl
end
section
/-! the abstract state: regions of ints (fields of an object, cells of an array) and of longs, by the cell's number -/
abbrev gSt : Type := (Nat → Nat → Int32) × (Nat → Nat → Int64)
abbrev gShp : Type := (Nat × List (Option Nat)) ⊕ (Nat × Nat × Nat)
/-- class data, addresses of the cells, array classes, addresses of statics -/
abbrev gWd : Type := va_G × (Nat → Nat) × (Nat → ClassId) × (Nat → Nat)
def gfld (w : gWd) (S : gSt) (k j : Nat) (o : Option Nat) : Value := match o with
  | some i => .ref (w.2.1 i)
  | none => .int (S.1 k j)
def gE (w : gWd) (S : gSt) (k : Nat) (q : gShp) : va_E := match q with
  | .inl (ci, fs) => .inr (ci, fs.mapIdx (gfld w S k))
  | .inr (0, n, _) => .inl (w.2.2.1 0, n, .inl (S.1 k))
  | .inr (1, n, _) => .inl (w.2.2.1 1, n, .inl (S.1 k))
  | .inr (2, n, _) => .inl (w.2.2.1 2, n, .inr (.inl (S.2 k)))
  | .inr (_, n, b) => .inl (w.2.2.1 3, n, .inr (.inr (.inr (.inr (fun j => some (w.2.1 (b + j)))))))
def gSH : List gShp := [
  .inl (6, [some 1, some 14, none, some 27, some 32, some 41, some 44]),
  .inl (0, [some 2, some 3, some 4, some 5, some 6, some 7, some 8, none, none, none]),
  .inr (0, 5, 0), .inr (0, 6, 0), .inr (0, 6, 0), .inr (0, 6, 0), .inr (0, 6, 0), .inr (0, 384, 0),
  .inl (1, [some 9, some 10, some 11, some 12, some 13, none, none]),
  .inr (0, 3072, 0), .inr (0, 48, 0), .inr (0, 48, 0), .inr (0, 8, 0), .inr (0, 8, 0),
  .inl (0, [some 15, some 16, some 17, some 18, some 19, some 20, some 21, none, none, none]),
  .inr (0, 5, 0), .inr (0, 6, 0), .inr (0, 6, 0), .inr (0, 6, 0), .inr (0, 6, 0), .inr (0, 384, 0),
  .inl (1, [some 22, some 23, some 24, some 25, some 26, none, none]),
  .inr (0, 3072, 0), .inr (0, 48, 0), .inr (0, 48, 0), .inr (0, 8, 0), .inr (0, 8, 0),
  .inl (4, [some 28, some 29, some 30, some 31, none, none, none, none, none]),
  .inr (0, 60, 0), .inr (0, 6, 0), .inr (0, 6, 0), .inr (0, 6, 0),
  .inr (3, 4, 33),
  .inl (2, [some 37, none, none]), .inl (2, [some 38, none, none]), .inl (2, [some 39, none, none]), .inl (2, [some 40, none, none]),
  .inr (2, 24, 0), .inr (2, 24, 0), .inr (2, 24, 0), .inr (2, 24, 0),
  .inl (3, [some 42, some 43, none, none]),
  .inr (0, 384, 0), .inr (0, 6, 0),
  .inl (5, [some 45, some 46, none, none, none]),
  .inr (0, 64, 0), .inr (0, 64, 0),
  .inl (7, [some 48, some 49, some 50, none, none, none, some 51, some 52, none, some 53, some 54, some 55, some 56, none, none, some 57, some 58, some 59, some 60]),
  .inr (0, 416, 0), .inr (0, 64, 0), .inr (0, 60, 0), .inr (0, 18, 0), .inr (0, 3328, 0), .inr (0, 416, 0), .inr (1, 64, 0), .inr (0, 64, 0), .inr (0, 3744, 0), .inr (0, 4, 0), .inr (0, 4, 0), .inr (2, 96, 0), .inr (2, 24, 0)]
def gC (w : gWd) (S : gSt) : va_W := gSH.mapIdx (fun k q => (w.2.1 k, gE w S k q))
def gTy (w : gWd) : List (ClassId × FieldType) := [(w.2.2.1 0, .int), (w.2.2.1 1, .boolean), (w.2.2.1 2, .long), (w.2.2.1 3, .object "FootIsle$Sheet")]
theorem gSH_len : gSH.length = 61 := rfl
def gInj (w : gWd) : Prop := ∀ i j, i < 61 → j < 61 → w.2.1 i = w.2.1 j → i = j
def gIn (w : gWd) (A : Nat → Prop) : Prop := ∀ i, i < 61 → A (w.2.1 i)
/-- the cells of the world, and all that are new -/
def gA (w : gWd) (sz : Nat) : Nat → Prop := fun q => (∃ i, i < 61 ∧ q = w.2.1 i) ∨ sz ≤ q
def gI (S : gSt) (k j : Nat) (v : Int32) : gSt := (va_up S.1 k (upd (S.1 k) j v), S.2)
def gR (S : gSt) (k : Nat) (f : Nat → Int32) : gSt := (va_up S.1 k f, S.2)
def gJ (S : gSt) (k j : Nat) (v : Int64) : gSt := (S.1, va_up S.2 k (vp_updL (S.2 k) j v))
def gQ2 (S : gSt) (k : Nat) (f : Nat → Int64) : gSt := (S.1, va_up S.2 k f)
theorem gC_get {w : gWd} {S : gSt} {k : Nat} {q : gShp} (h : gSH[k]? = some q) : (gC w S)[k]? = some (w.2.1 k, gE w S k q) := by
  unfold gC
  rw [List.getElem?_mapIdx, h]
  rfl
theorem gC_of {w : gWd} {S : gSt} {k : Nat} {x : Nat × va_E} (h : (gC w S)[k]? = some x) : ∃ q, gSH[k]? = some q ∧ x = (w.2.1 k, gE w S k q) := by
  unfold gC at h
  rw [List.getElem?_mapIdx] at h
  cases hq : gSH[k]? with
  | none => rw [hq] at h; cases h
  | some q => rw [hq] at h; exact ⟨q, rfl, (Option.some.inj h).symm⟩
theorem gSH_lt {k : Nat} {q : gShp} (h : gSH[k]? = some q) : k < 61 := by
  have := (List.getElem?_eq_some_iff.mp h).1
  rw [gSH_len] at this
  exact this
theorem gE_eq {w : gWd} {S S' : gSt} {k : Nat} (q : gShp) (h1 : S'.1 k = S.1 k) (h2 : S'.2 k = S.2 k) : gE w S' k q = gE w S k q := by
  have hf : gfld w S' k = gfld w S k := by
    funext j o
    cases o with
    | none => simp only [gfld, h1]
    | some i => rfl
  rcases q with ⟨ci, fs⟩ | ⟨t, n, b⟩
  · simp only [gE, hf]
  · match t with
    | 0 => simp only [gE, h1]
    | 1 => simp only [gE, h1]
    | 2 => simp only [gE, h2]
    | t + 3 => rfl
theorem gC_set {w : gWd} {S S' : gSt} {k : Nat} {q : gShp} (h : gSH[k]? = some q) (h1 : ∀ i, i ≠ k → S'.1 i = S.1 i) (h2 : ∀ i, i ≠ k → S'.2 i = S.2 i) : (gC w S).set k (w.2.1 k, gE w S' k q) = gC w S' := by
  apply List.ext_getElem?
  intro i
  by_cases hi : i = k
  · subst hi
    rw [gC_get h, List.getElem?_set_self' , gC_get h]
    rfl
  · rw [List.getElem?_set_ne (fun e => hi e.symm)]
    unfold gC
    rw [List.getElem?_mapIdx, List.getElem?_mapIdx]
    cases hq : gSH[i]? with
    | none => rfl
    | some q2 =>
      show some (w.2.1 i, gE w S i q2) = some (w.2.1 i, gE w S' i q2)
      rw [gE_eq q2 (h1 i hi) (h2 i hi)]
theorem gC_D {w : gWd} {S : gSt} {A : Nat → Prop} (h1 : gInj w) (h2 : gIn w A) : va_D A (gC w S) := by
  constructor
  · intro i j p q hp hq e
    obtain ⟨a, ha, rfl⟩ := gC_of hp
    obtain ⟨b, hb, rfl⟩ := gC_of hq
    exact h1 i j (gSH_lt ha) (gSH_lt hb) e
  · intro k q hq
    obtain ⟨a, ha, rfl⟩ := gC_of hq
    exact h2 k (gSH_lt ha)
theorem va_up_s {α : Type} (f : Nat → α) (k : Nat) (v : α) : va_up f k v k = v := by simp [va_up]
theorem va_up_n {α : Type} (f : Nat → α) {k i : Nat} (h : i ≠ k) (v : α) : va_up f k v i = f i := by simp [va_up, h]
/-! locals by place -/
def lP : Nat → List (Option Value) → List (Nat × Value)
  | _, [] => []
  | i, none :: t => lP (i + 1) t
  | i, some v :: t => (i, v) :: lP (i + 1) t
theorem lP_mem {L : List (Option Value)} : ∀ {i j : Nat} {v : Value}, (j, v) ∈ lP i L ↔ i ≤ j ∧ L[j - i]? = some (some v) := by
  induction L with
  | nil => intro i j v; simp [lP]
  | cons a t ih =>
    intro i j v
    have key : ((j, v) ∈ lP (i + 1) t) ↔ i + 1 ≤ j ∧ t[j - (i + 1)]? = some (some v) := ih
    have idx : i + 1 ≤ j → j - i = (j - (i + 1)) + 1 := fun h => by omega
    cases a with
    | none =>
      show (j, v) ∈ lP (i + 1) t ↔ _
      rw [key]
      constructor
      · rintro ⟨h1, h2⟩
        refine ⟨by omega, ?_⟩
        rw [idx h1]; exact h2
      · rintro ⟨h1, h2⟩
        by_cases hj : j = i
        · subst hj
          rw [Nat.sub_self] at h2
          cases h2
        · have h3 : i + 1 ≤ j := by omega
          rw [idx h3] at h2
          exact ⟨h3, h2⟩
    | some x =>
      show (j, v) ∈ (i, x) :: lP (i + 1) t ↔ _
      rw [List.mem_cons, key]
      constructor
      · rintro (h | ⟨h1, h2⟩)
        · cases h
          exact ⟨Nat.le_refl _, by rw [Nat.sub_self]; rfl⟩
        · refine ⟨by omega, ?_⟩
          rw [idx h1]; exact h2
      · rintro ⟨h1, h2⟩
        by_cases hj : j = i
        · subst hj
          rw [Nat.sub_self] at h2
          cases h2
          exact Or.inl rfl
        · have h3 : i + 1 ≤ j := by omega
          rw [idx h3] at h2
          exact Or.inr ⟨h3, h2⟩
abbrev lh (ls : Array Slot) (L : List (Option Value)) : Prop := lv_has ls L.length (lP 0 L)
theorem lh_at {ls : Array Slot} {L : List (Option Value)} (h : lh ls L) {i : Nat} {v : Value} (hi : L[i]? = some (some v)) : ls[i]? = some (.val v) := h.2.2 (i, v) (lP_mem.mpr ⟨Nat.zero_le _, hi⟩)
/-- no long stands in the place below -/
def lOk (L : List (Option Value)) (i : Nat) : Bool := match i with
  | 0 => true
  | j + 1 => match L[j]? with
    | some (some (.long _)) => false
    | some (some (.double _)) => false
    | _ => true
theorem lOk_cat {L : List (Option Value)} {i j : Nat} {v : Value} (h : lOk L i = true) (hj : j + 1 = i) (hv : L[j]? = some (some v)) : ¬ v.category = 2 := by
  subst hj
  simp only [lOk, hv] at h
  cases v <;> simp [Value.category] at h ⊢
theorem lh_set1 {ls' : Array Slot} {L : List (Option Value)} {i : Nat} {v : Value} (hk : lOk L i = true) (h : lv_has ls' L.length ((i, v) :: (lP 0 L).filter (fun q => !(q.1 == i) && !(q.1 + 1 == i && q.2.category == 2)))) : lh ls' (L.set i (some v)) := by
  refine ⟨by rw [List.length_set]; exact h.1, h.2.1, ?_⟩
  rintro ⟨j, u⟩ hq
  obtain ⟨-, hq⟩ := lP_mem.mp hq
  refine h.2.2 (j, u) ?_
  rw [Nat.sub_zero] at hq
  by_cases hj : j = i
  · subst hj
    have hl : j < (L.set j (some v)).length := (List.getElem?_eq_some_iff.mp hq).1
    rw [List.length_set] at hl
    rw [List.getElem?_set_self hl] at hq
    cases hq
    exact List.mem_cons_self
  · rw [List.getElem?_set_ne (fun e => hj e.symm)] at hq
    refine List.mem_cons_of_mem _ (List.mem_filter.mpr ⟨lP_mem.mpr ⟨Nat.zero_le _, hq⟩, ?_⟩)
    have h1 : (j == i) = false := by simpa using hj
    simp only [h1, Bool.not_false, Bool.true_and, Bool.not_eq_true', Bool.and_eq_false_iff]
    by_cases h2 : j + 1 = i
    · right
      simpa using lOk_cat hk h2 hq
    · left
      simpa using h2
theorem lh_set2 {ls' : Array Slot} {L : List (Option Value)} {i : Nat} {v : Value} (hk : lOk L i = true) (h : lv_has ls' L.length ((i, v) :: (lP 0 L).filter (fun q => !(q.1 == i) && (!(q.1 == i + 1) && !(q.1 + 1 == i && q.2.category == 2))))) : lh ls' ((L.set i (some v)).set (i + 1) none) := by
  refine ⟨by rw [List.length_set, List.length_set]; exact h.1, h.2.1, ?_⟩
  rintro ⟨j, u⟩ hq
  obtain ⟨-, hq⟩ := lP_mem.mp hq
  refine h.2.2 (j, u) ?_
  rw [Nat.sub_zero] at hq
  by_cases hj1 : j = i + 1
  · subst hj1
    have hl : i + 1 < ((L.set i (some v)).set (i + 1) none).length := (List.getElem?_eq_some_iff.mp hq).1
    rw [List.length_set] at hl
    rw [List.getElem?_set_self hl] at hq
    cases hq
  · rw [List.getElem?_set_ne (fun e => hj1 e.symm)] at hq
    by_cases hj : j = i
    · subst hj
      have hl : j < (L.set j (some v)).length := (List.getElem?_eq_some_iff.mp hq).1
      rw [List.length_set] at hl
      rw [List.getElem?_set_self hl] at hq
      cases hq
      exact List.mem_cons_self
    · rw [List.getElem?_set_ne (fun e => hj e.symm)] at hq
      refine List.mem_cons_of_mem _ (List.mem_filter.mpr ⟨lP_mem.mpr ⟨Nat.zero_le _, hq⟩, ?_⟩)
      have h1 : (j == i) = false := by simpa using hj
      have h3 : (j == i + 1) = false := by simpa using hj1
      simp only [h1, h3, Bool.not_false, Bool.true_and, Bool.not_eq_true', Bool.and_eq_false_iff]
      by_cases h2 : j + 1 = i
      · right
        simpa using lOk_cat hk h2 hq
      · left
        simpa using h2
def gmask : List Bool → List (Option Value) → List (Option Value)
  | b :: bs, a :: t => (if b then a else none) :: gmask bs t
  | _, t => t.map (fun _ => none)
theorem gmask_len : ∀ (ms : List Bool) (L : List (Option Value)), (gmask ms L).length = L.length
  | [], L => by simp [gmask]
  | _ :: _, [] => rfl
  | b :: bs, a :: t => by simp [gmask, gmask_len bs t]
theorem gmask_get : ∀ (ms : List Bool) (L : List (Option Value)) (i : Nat) (v : Value), (gmask ms L)[i]? = some (some v) → L[i]? = some (some v)
  | [], L, i, v, h => by
    simp only [gmask, List.getElem?_map] at h
    cases hL : L[i]? with
    | none => rw [hL] at h; cases h
    | some x => rw [hL] at h; cases h
  | _ :: _, [], i, v, h => by simp [gmask] at h
  | b :: bs, a :: t, 0, v, h => by
    cases b with
    | true => exact h
    | false => cases h
  | b :: bs, a :: t, i + 1, v, h => gmask_get bs t i v h
theorem lh_mask {ls : Array Slot} {L : List (Option Value)} (ms : List Bool) (h : lh ls L) : lh ls (gmask ms L) := by
  refine ⟨by rw [gmask_len]; exact h.1, h.2.1, ?_⟩
  rintro ⟨j, u⟩ hq
  obtain ⟨-, hq⟩ := lP_mem.mp hq
  exact lh_at h (gmask_get ms L j u hq)
end
section
/-! the judgement: the machine in one method, its world as the abstract state tells -/
abbrev gX : Type := Program × Launch × Env × Room × State × MethodId × Array Value × List Frame × Method × Code × gWd × (Nat → Prop) × Nat × Nat × (State → Prop)
abbrev gw (X : gX) : gWd := X.2.2.2.2.2.2.2.2.2.2.1
/-- the address of a cell -/
abbrev gad (X : gX) (k : Nat) : Nat := (gw X).2.1 k
/-- statics: addresses that no method of ours may change -/
def gStat (w : gWd) (A : Nat → Prop) (U : State) (H : Heap) : Prop :=
  (va_Z "FootIsle" "LEAST_SETTING" "[I" (.ref (w.2.2.2 0)) A U H ∧ va_T .int (w.2.2.2 0) 5 (fun j => .int (([0, 0, 0, 2, 0] : List Int32).getD j 0)) A U H) ∧
  (va_Z "FootIsle" "MOST_SETTING" "[I" (.ref (w.2.2.2 1)) A U H ∧ va_T .int (w.2.2.2 1) 5 (fun j => .int (([8, 9, 3, 12, 8] : List Int32).getD j 0)) A U H)
theorem gStat.moved {w : gWd} {A : Nat → Prop} {u U : State} {H : Heap} (hvm : u.vm.Alike U.vm) (h : gStat w A u H) : gStat w A U H :=
  ⟨⟨h.1.1.moved hvm, h.1.2.moved hvm⟩, h.2.1.moved hvm, h.2.2.moved hvm⟩
theorem gStat.kept {w : gWd} {A : Nat → Prop} {U : State} {H H1 : Heap} (h : gStat w A U H) (hq : ∀ a : Nat, a < H.size → ¬ A a → H1[a]? = H[a]?) : gStat w A U H1 :=
  ⟨⟨h.1.1.kept hq, h.1.2.kept hq⟩, h.2.1.kept hq, h.2.2.kept hq⟩
theorem gStat.narrow {w : gWd} {A B : Nat → Prop} {U : State} {H : Heap} (h : gStat w A U H) (hAB : ∀ q, B q → A q) : gStat w B U H :=
  ⟨⟨h.1.1.narrow hAB, h.1.2.narrow hAB⟩, h.2.1.narrow hAB, h.2.2.narrow hAB⟩
def gOK (p : Program) (R : Room) (s : State) (m : MethodId) (args : Array Value) (meth : Method) (c : Code) (w : gWd) (A : Nat → Prop) (kc ks : Nat) (own : String) (d : Nat) (cc : ByteArray) : Prop :=
  p.tables.exec = Jvm.exec ∧ c.code = cc ∧ s.vm.findClass own = some m.cls ∧ (∀ q ∈ gALL, q.before args s = true) ∧ va_K w.1 vwCl (gTy w) s ∧ gInj w ∧ gIn w A ∧ (∀ q, s.heap.size ≤ q → A q) ∧ (∀ q ∈ gNest, va_Nw q s) ∧ meth.locks = false ∧ (d ≤ R.frames ∧ 40 * d ≤ R.locals ∧ kc ≤ R.cells ∧ ks ≤ R.slots) ∧ gStat w A s s.heap
def AW (X : gX) (own : String) (d : Nat) (cc : ByteArray) (pc : Nat) (L : List (Option Value)) (st : List Value) (S : gSt) : Prop :=
  match X with
  | (p, l, e, R, s, m, args, below, meth, c, w, A, kc, ks, Q) => gOK p R s m args meth c w A kc ks own d cc → c.maxLocals = L.length → ∀ (H : Heap) (locs : List Loc) (ls : Array Slot), va_P w.1 vwCl (gC w S) H → va_S A s.heap H locs → lh ls L → W p l e R s m args below meth c H locs kc ks Q (F0 m pc ls st)
/-- what a method's end must show -/
def gQ (w : gWd) (A : Nat → Prop) (r : Option Value) (S' : gSt) : Array Value → State → Outcome → State → Prop := fun _ st oc t => oc = .returned r ∧ va_P w.1 vwCl (gC w S') t.heap ∧ va_F A st t
def gPost (X : gX) (ret : Option FieldType) (r : Option Value) (S' : gSt) : Prop :=
  match X with
  | (p, l, e, R, s, m, args, below, meth, c, w, A, kc, ks, Q) => meth.sig.returnType = ret ∧ Q = MQ below (gQ w A r S') args s kc ks A
/-- a method's start -/
def gB (w : gWd) (sz : Nat) (S : gSt) (U : State) : Prop := U.heap.size = sz ∧ va_P w.1 vwCl (gC w S) U.heap ∧ va_K w.1 vwCl (gTy w) U ∧ gInj w ∧ (∀ q ∈ gNest, va_Nw q U) ∧ gStat w (gA w sz) U U.heap
def gRm (d : Nat) : Room := { frames := d, cells := 0, slots := 0, locals := 40 * d }
abbrev gWs (y : MethodName) (cc : ByteArray) (mL : Nat) (ret : Option FieldType) : List Cond := .code y cc mL ret :: gALL
/-- THE CONTRACT: called with 'as' in state S, the method answers r and leaves S' -/
def gCT (y : MethodName) (cc : ByteArray) (mL : Nat) (ret : Option FieldType) (d : Nat) (as : gWd → List Value) (S : gSt) (r : Option Value) (S' : gSt) : Prop :=
  ∀ (l : Launch) (w : gWd) (sz : Nat), Met l y (gWs y cc mL ret) (gRm d) (va_Pc (as w) (gB w sz S)) (gQ w (gA w sz) r S') 0 0 (gA w sz)
theorem gEnter {y : MethodName} {cc : ByteArray} {mL : Nat} {ret : Option FieldType} {d : Nat} {as : gWd → List Value} {S S' : gSt} {r : Option Value} (L0 : gX → List (Option Value)) (hy : plainName y.cls = true)
    (hL : ∀ X, lP 0 (L0 X) = lv_args 0 (as (gw X)) ∧ (L0 X).length = mL) (hn : ∀ w, (lg_sl (as w)).length ≤ mL) (h : ∀ X : gX, gPost X ret r S' → AW X y.cls d cc 0 (L0 X) [] S) : gCT y cc mL ret d as S r S' := by
  intro l w sz
  refine Met.ofW (cc := cc) (maxL := mL) (ret := ret) hy rfl ?_
  intro p e s m args below meth c s₁ B hml hv
  obtain ⟨rfl, hsz, hP, hK, hI, hN, hG⟩ := hv
  have hts := atoms_spec (ws := gWs y cc mL ret) B.pre
  have hl := lv_entry (as w) (n := mL) (hn w)
  rw [lg_entry_eq]
  generalize (lg_sl (as w) ++ List.replicate (mL - (lg_sl (as w)).length) Slot.unset).toArray = ls at hl ⊢
  have hA := hL (p, l, e, (headSpec (gWs y cc mL ret) (gRm d)).room, s, m, (as w).toArray, below, meth, c, w, gA w sz, 0, 0, MQ below (gQ w (gA w sz) r S') (as w).toArray s 0 0 (gA w sz))
  refine h (p, l, e, (headSpec (gWs y cc mL ret) (gRm d)).room, s, m, (as w).toArray, below, meth, c, w, gA w sz, 0, 0, MQ below (gQ w (gA w sz) r S') (as w).toArray s 0 0 (gA w sz)) ⟨B.returns, rfl⟩ ⟨B.exec, B.bytes, findClass_of_methodNamed B.named, fun q hq => hts q (List.mem_cons_of_mem _ hq), hK, hI, fun i hi => Or.inl ⟨i, hi, rfl⟩, fun q hq => Or.inr (by rw [← hsz]; exact hq), hN, B.notSynchronized, ⟨Nat.le_refl _, Nat.le_refl _, Nat.le_refl _, Nat.le_refl _⟩, hG⟩ (by rw [hA.2]; exact hml) s.heap [] ls hP va_S.rf ?_
  show lv_has ls _ _
  rw [hA.1, hA.2]
  exact hl
section Rows
variable {X : gX} {own : String} {d : Nat} {cc : ByteArray} {pc : Nat} {L : List (Option Value)} {st : List Value} {S : gSt}
theorem a_iconst {n : Int} {v : Int32} (hd : decode cc pc = .ok (.iconst n, 1)) (hv : Int32.ofInt n = v) (k : AW X own d cc (pc + 1) L (.int v :: st) S) : AW X own d cc pc L st S := by
  obtain ⟨p, l, e, R, s, m, args, below, meth, c, w, A, kc, ks, Q⟩ := X
  intro ok hml H locs ls hP hS hl
  exact lv_iconst ok.1 ok.2.1 hd hv (k ok hml H locs ls hP hS hl)
theorem a_bipush {n : Int} {v : Int32} (hd : decode cc pc = .ok (.bipush n, 2)) (hv : (Int8.ofInt n).toInt32 = v) (k : AW X own d cc (pc + 2) L (.int v :: st) S) : AW X own d cc pc L st S := by
  obtain ⟨p, l, e, R, s, m, args, below, meth, c, w, A, kc, ks, Q⟩ := X
  intro ok hml H locs ls hP hS hl
  exact lv_bipush ok.1 ok.2.1 hd hv (k ok hml H locs ls hP hS hl)
theorem a_sipush {n : Int} {v : Int32} (hd : decode cc pc = .ok (.sipush n, 3)) (hv : (Int16.ofInt n).toInt32 = v) (k : AW X own d cc (pc + 3) L (.int v :: st) S) : AW X own d cc pc L st S := by
  obtain ⟨p, l, e, R, s, m, args, below, meth, c, w, A, kc, ks, Q⟩ := X
  intro ok hml H locs ls hP hS hl
  exact lv_sipush ok.1 ok.2.1 hd hv (k ok hml H locs ls hP hS hl)
theorem a_lconst {n : Fin 2} {v : Int64} (hd : decode cc pc = .ok (.lconst n, 1)) (hv : Int64.ofNat (n : Nat) = v) (k : AW X own d cc (pc + 1) L (.long v :: st) S) : AW X own d cc pc L st S := by
  obtain ⟨p, l, e, R, s, m, args, below, meth, c, w, A, kc, ks, Q⟩ := X
  intro ok hml H locs ls hP hS hl
  exact lv_lconst ok.1 ok.2.1 hd hv (k ok hml H locs ls hP hS hl)
theorem a_ldc {i : Nat} {v : Int32} (hw : Cond.constant own i v ∈ gALL) (hd : decode cc pc = .ok (.ldc i, 2)) (k : AW X own d cc (pc + 2) L (.int v :: st) S) : AW X own d cc pc L st S := by
  obtain ⟨p, l, e, R, s, m, args, below, meth, c, w, A, kc, ks, Q⟩ := X
  intro ok hml H locs ls hP hS hl
  exact lv_ldc ok.1 ok.2.1 ok.2.2.1 (ok.2.2.2.1 _ hw) hd (k ok hml H locs ls hP hS hl)
theorem a_ldc2 {i : Nat} {v : Int64} (hw : Cond.constantLong own i v ∈ gALL) (hd : decode cc pc = .ok (.ldc2_w i, 3)) (k : AW X own d cc (pc + 3) L (.long v :: st) S) : AW X own d cc pc L st S := by
  obtain ⟨p, l, e, R, s, m, args, below, meth, c, w, A, kc, ks, Q⟩ := X
  intro ok hml H locs ls hP hS hl
  exact lv_ldc2 ok.1 ok.2.1 ok.2.2.1 (ok.2.2.2.1 _ hw) hd (k ok hml H locs ls hP hS hl)
theorem a_iloadn {q : Fin 4} {i : Nat} {x : Int32} (hd : decode cc pc = .ok (.iload_n q, 1)) (hi : (q : Nat) = i) (hx : L[i]? = some (some (.int x))) (k : AW X own d cc (pc + 1) L (.int x :: st) S) : AW X own d cc pc L st S := by
  obtain ⟨p, l, e, R, s, m, args, below, meth, c, w, A, kc, ks, Q⟩ := X
  intro ok hml H locs ls hP hS hl
  exact lv_iload_n ok.1 ok.2.1 hd hi (lh_at hl hx) (k ok hml H locs ls hP hS hl)
theorem a_iload {i : Nat} {x : Int32} (hd : decode cc pc = .ok (.iload i, 2)) (hx : L[i]? = some (some (.int x))) (k : AW X own d cc (pc + 2) L (.int x :: st) S) : AW X own d cc pc L st S := by
  obtain ⟨p, l, e, R, s, m, args, below, meth, c, w, A, kc, ks, Q⟩ := X
  intro ok hml H locs ls hP hS hl
  exact lv_iload ok.1 ok.2.1 hd (lh_at hl hx) (k ok hml H locs ls hP hS hl)
theorem a_lloadn {q : Fin 4} {i : Nat} {x : Int64} (hd : decode cc pc = .ok (.lload_n q, 1)) (hi : (q : Nat) = i) (hx : L[i]? = some (some (.long x))) (k : AW X own d cc (pc + 1) L (.long x :: st) S) : AW X own d cc pc L st S := by
  obtain ⟨p, l, e, R, s, m, args, below, meth, c, w, A, kc, ks, Q⟩ := X
  intro ok hml H locs ls hP hS hl
  exact lv_lload_n ok.1 ok.2.1 hd hi (lh_at hl hx) (k ok hml H locs ls hP hS hl)
theorem a_lload {i : Nat} {x : Int64} (hd : decode cc pc = .ok (.lload i, 2)) (hx : L[i]? = some (some (.long x))) (k : AW X own d cc (pc + 2) L (.long x :: st) S) : AW X own d cc pc L st S := by
  obtain ⟨p, l, e, R, s, m, args, below, meth, c, w, A, kc, ks, Q⟩ := X
  intro ok hml H locs ls hP hS hl
  exact lv_lload ok.1 ok.2.1 hd (lh_at hl hx) (k ok hml H locs ls hP hS hl)
theorem a_aloadn {q : Fin 4} {i x : Nat} (hd : decode cc pc = .ok (.aload_n q, 1)) (hi : (q : Nat) = i) (hx : L[i]? = some (some (.ref x))) (k : AW X own d cc (pc + 1) L (.ref x :: st) S) : AW X own d cc pc L st S := by
  obtain ⟨p, l, e, R, s, m, args, below, meth, c, w, A, kc, ks, Q⟩ := X
  intro ok hml H locs ls hP hS hl
  exact lv_aload_n ok.1 ok.2.1 hd hi (lh_at hl hx) (k ok hml H locs ls hP hS hl)
theorem a_aload {i x : Nat} (hd : decode cc pc = .ok (.aload i, 2)) (hx : L[i]? = some (some (.ref x))) (k : AW X own d cc (pc + 2) L (.ref x :: st) S) : AW X own d cc pc L st S := by
  obtain ⟨p, l, e, R, s, m, args, below, meth, c, w, A, kc, ks, Q⟩ := X
  intro ok hml H locs ls hP hS hl
  exact lv_aload ok.1 ok.2.1 hd (lh_at hl hx) (k ok hml H locs ls hP hS hl)
theorem a_istoren {q : Fin 4} {i : Nat} {x : Int32} {L' : List (Option Value)} (hd : decode cc pc = .ok (.istore_n q, 1)) (hi : (q : Nat) = i) (hn : i < L.length) (hk : lOk L i = true) (he : L.set i (some (.int x)) = L') (k : AW X own d cc (pc + 1) L' st S) : AW X own d cc pc L (.int x :: st) S := by
  subst he
  obtain ⟨p, l, e, R, s, m, args, below, meth, c, w, A, kc, ks, Q⟩ := X
  intro ok hml H locs ls hP hS hl
  exact lv_istore_n ok.1 ok.2.1 hd hi hl hn rfl (fun ls' hl' => k ok (by rw [List.length_set]; exact hml) H locs ls' hP hS (lh_set1 hk hl'))
theorem a_istore {i : Nat} {x : Int32} {L' : List (Option Value)} (hd : decode cc pc = .ok (.istore i, 2)) (hn : i < L.length) (hk : lOk L i = true) (he : L.set i (some (.int x)) = L') (k : AW X own d cc (pc + 2) L' st S) : AW X own d cc pc L (.int x :: st) S := by
  subst he
  obtain ⟨p, l, e, R, s, m, args, below, meth, c, w, A, kc, ks, Q⟩ := X
  intro ok hml H locs ls hP hS hl
  exact lv_istore ok.1 ok.2.1 hd hl hn rfl (fun ls' hl' => k ok (by rw [List.length_set]; exact hml) H locs ls' hP hS (lh_set1 hk hl'))
theorem a_astoren {q : Fin 4} {i x : Nat} {L' : List (Option Value)} (hd : decode cc pc = .ok (.astore_n q, 1)) (hi : (q : Nat) = i) (hn : i < L.length) (hk : lOk L i = true) (he : L.set i (some (.ref x)) = L') (k : AW X own d cc (pc + 1) L' st S) : AW X own d cc pc L (.ref x :: st) S := by
  subst he
  obtain ⟨p, l, e, R, s, m, args, below, meth, c, w, A, kc, ks, Q⟩ := X
  intro ok hml H locs ls hP hS hl
  exact lv_astore_n ok.1 ok.2.1 hd hi hl hn rfl (fun ls' hl' => k ok (by rw [List.length_set]; exact hml) H locs ls' hP hS (lh_set1 hk hl'))
theorem a_astore {i x : Nat} {L' : List (Option Value)} (hd : decode cc pc = .ok (.astore i, 2)) (hn : i < L.length) (hk : lOk L i = true) (he : L.set i (some (.ref x)) = L') (k : AW X own d cc (pc + 2) L' st S) : AW X own d cc pc L (.ref x :: st) S := by
  subst he
  obtain ⟨p, l, e, R, s, m, args, below, meth, c, w, A, kc, ks, Q⟩ := X
  intro ok hml H locs ls hP hS hl
  exact lv_astore ok.1 ok.2.1 hd hl hn rfl (fun ls' hl' => k ok (by rw [List.length_set]; exact hml) H locs ls' hP hS (lh_set1 hk hl'))
theorem a_lstoren {q : Fin 4} {i : Nat} {x : Int64} {L' : List (Option Value)} (hd : decode cc pc = .ok (.lstore_n q, 1)) (hi : (q : Nat) = i) (hn : i + 1 < L.length) (hk : lOk L i = true) (he : (L.set i (some (.long x))).set (i + 1) none = L') (k : AW X own d cc (pc + 1) L' st S) : AW X own d cc pc L (.long x :: st) S := by
  subst he
  obtain ⟨p, l, e, R, s, m, args, below, meth, c, w, A, kc, ks, Q⟩ := X
  intro ok hml H locs ls hP hS hl
  exact lv_lstore_n ok.1 ok.2.1 hd hi hl hn rfl (fun ls' hl' => k ok (by rw [List.length_set, List.length_set]; exact hml) H locs ls' hP hS (lh_set2 hk hl'))
theorem a_lstore {i : Nat} {x : Int64} {L' : List (Option Value)} (hd : decode cc pc = .ok (.lstore i, 2)) (hn : i + 1 < L.length) (hk : lOk L i = true) (he : (L.set i (some (.long x))).set (i + 1) none = L') (k : AW X own d cc (pc + 2) L' st S) : AW X own d cc pc L (.long x :: st) S := by
  subst he
  obtain ⟨p, l, e, R, s, m, args, below, meth, c, w, A, kc, ks, Q⟩ := X
  intro ok hml H locs ls hP hS hl
  exact lv_lstore ok.1 ok.2.1 hd hl hn rfl (fun ls' hl' => k ok (by rw [List.length_set, List.length_set]; exact hml) H locs ls' hP hS (lh_set2 hk hl'))
theorem a_iinc {i : Nat} {n : Int} {x v : Int32} {L' : List (Option Value)} (hd : decode cc pc = .ok (.iinc i n, 3)) (hx : L[i]? = some (some (.int x))) (hv : x + Int32.ofInt n = v) (hn : i < L.length) (hk : lOk L i = true) (he : L.set i (some (.int v)) = L') (k : AW X own d cc (pc + 3) L' st S) : AW X own d cc pc L st S := by
  subst he
  obtain ⟨p, l, e, R, s, m, args, below, meth, c, w, A, kc, ks, Q⟩ := X
  intro ok hml H locs ls hP hS hl
  have hm : (i, Value.int x) ∈ lP 0 L := lP_mem.mpr ⟨Nat.zero_le _, hx⟩
  obtain ⟨q, hq⟩ := List.mem_iff_getElem?.mp hm
  exact lv_iinc ok.1 ok.2.1 hd hl hq hv hn rfl (fun ls' hl' => k ok (by rw [List.length_set]; exact hml) H locs ls' hP hS (lh_set1 hk hl'))
theorem a_mask {L' : List (Option Value)} (ms : List Bool) (he : gmask ms L = L') (k : AW X own d cc pc L' st S) : AW X own d cc pc L st S := by
  subst he
  obtain ⟨p, l, e, R, s, m, args, below, meth, c, w, A, kc, ks, Q⟩ := X
  intro ok hml H locs ls hP hS hl
  exact k ok (by rw [gmask_len]; exact hml) H locs ls hP hS (lh_mask ms hl)
theorem a_iadd {x y : Int32} (hd : decode cc pc = .ok (.iadd, 1)) (k : AW X own d cc (pc + 1) L (.int (x + y) :: st) S) : AW X own d cc pc L (.int y :: .int x :: st) S := by
  obtain ⟨p, l, e, R, s, m, args, below, meth, c, w, A, kc, ks, Q⟩ := X
  intro ok hml H locs ls hP hS hl
  exact lv_iadd ok.1 ok.2.1 hd (k ok hml H locs ls hP hS hl)
theorem a_isub {x y : Int32} (hd : decode cc pc = .ok (.isub, 1)) (k : AW X own d cc (pc + 1) L (.int (x - y) :: st) S) : AW X own d cc pc L (.int y :: .int x :: st) S := by
  obtain ⟨p, l, e, R, s, m, args, below, meth, c, w, A, kc, ks, Q⟩ := X
  intro ok hml H locs ls hP hS hl
  exact lv_isub ok.1 ok.2.1 hd (k ok hml H locs ls hP hS hl)
theorem a_imul {x y : Int32} (hd : decode cc pc = .ok (.imul, 1)) (k : AW X own d cc (pc + 1) L (.int (x * y) :: st) S) : AW X own d cc pc L (.int y :: .int x :: st) S := by
  obtain ⟨p, l, e, R, s, m, args, below, meth, c, w, A, kc, ks, Q⟩ := X
  intro ok hml H locs ls hP hS hl
  exact lv_imul ok.1 ok.2.1 hd (k ok hml H locs ls hP hS hl)
theorem a_iand {x y : Int32} (hd : decode cc pc = .ok (.iand, 1)) (k : AW X own d cc (pc + 1) L (.int (x &&& y) :: st) S) : AW X own d cc pc L (.int y :: .int x :: st) S := by
  obtain ⟨p, l, e, R, s, m, args, below, meth, c, w, A, kc, ks, Q⟩ := X
  intro ok hml H locs ls hP hS hl
  exact lv_iand ok.1 ok.2.1 hd (k ok hml H locs ls hP hS hl)
theorem a_ior {x y : Int32} (hd : decode cc pc = .ok (.ior, 1)) (k : AW X own d cc (pc + 1) L (.int (x ||| y) :: st) S) : AW X own d cc pc L (.int y :: .int x :: st) S := by
  obtain ⟨p, l, e, R, s, m, args, below, meth, c, w, A, kc, ks, Q⟩ := X
  intro ok hml H locs ls hP hS hl
  exact lv_ior ok.1 ok.2.1 hd (k ok hml H locs ls hP hS hl)
theorem a_ishl {x y : Int32} (hd : decode cc pc = .ok (.ishl, 1)) (k : AW X own d cc (pc + 1) L (.int (x <<< (y &&& 31)) :: st) S) : AW X own d cc pc L (.int y :: .int x :: st) S := by
  obtain ⟨p, l, e, R, s, m, args, below, meth, c, w, A, kc, ks, Q⟩ := X
  intro ok hml H locs ls hP hS hl
  exact lv_ishl ok.1 ok.2.1 hd (k ok hml H locs ls hP hS hl)
theorem a_ishr {x y : Int32} (hd : decode cc pc = .ok (.ishr, 1)) (k : AW X own d cc (pc + 1) L (.int (x >>> (y &&& 31)) :: st) S) : AW X own d cc pc L (.int y :: .int x :: st) S := by
  obtain ⟨p, l, e, R, s, m, args, below, meth, c, w, A, kc, ks, Q⟩ := X
  intro ok hml H locs ls hP hS hl
  exact lv_ishr ok.1 ok.2.1 hd (k ok hml H locs ls hP hS hl)
theorem a_idiv {x y : Int32} (hd : decode cc pc = .ok (.idiv, 1)) (hne : ¬ y = 0) (k : AW X own d cc (pc + 1) L (.int (x / y) :: st) S) : AW X own d cc pc L (.int y :: .int x :: st) S := by
  obtain ⟨p, l, e, R, s, m, args, below, meth, c, w, A, kc, ks, Q⟩ := X
  intro ok hml H locs ls hP hS hl
  exact lv_idiv ok.1 ok.2.1 hd hne (k ok hml H locs ls hP hS hl)
theorem a_irem {x y : Int32} (hd : decode cc pc = .ok (.irem, 1)) (hne : ¬ y = 0) (k : AW X own d cc (pc + 1) L (.int (x - x / y * y) :: st) S) : AW X own d cc pc L (.int y :: .int x :: st) S := by
  obtain ⟨p, l, e, R, s, m, args, below, meth, c, w, A, kc, ks, Q⟩ := X
  intro ok hml H locs ls hP hS hl
  exact lv_irem ok.1 ok.2.1 hd hne (k ok hml H locs ls hP hS hl)
theorem a_ladd {x y : Int64} (hd : decode cc pc = .ok (.ladd, 1)) (k : AW X own d cc (pc + 1) L (.long (x + y) :: st) S) : AW X own d cc pc L (.long y :: .long x :: st) S := by
  obtain ⟨p, l, e, R, s, m, args, below, meth, c, w, A, kc, ks, Q⟩ := X
  intro ok hml H locs ls hP hS hl
  exact lv_ladd ok.1 ok.2.1 hd (k ok hml H locs ls hP hS hl)
theorem a_lsub {x y : Int64} (hd : decode cc pc = .ok (.lsub, 1)) (k : AW X own d cc (pc + 1) L (.long (x - y) :: st) S) : AW X own d cc pc L (.long y :: .long x :: st) S := by
  obtain ⟨p, l, e, R, s, m, args, below, meth, c, w, A, kc, ks, Q⟩ := X
  intro ok hml H locs ls hP hS hl
  exact lv_lsub ok.1 ok.2.1 hd (k ok hml H locs ls hP hS hl)
theorem a_lmul {x y : Int64} (hd : decode cc pc = .ok (.lmul, 1)) (k : AW X own d cc (pc + 1) L (.long (x * y) :: st) S) : AW X own d cc pc L (.long y :: .long x :: st) S := by
  obtain ⟨p, l, e, R, s, m, args, below, meth, c, w, A, kc, ks, Q⟩ := X
  intro ok hml H locs ls hP hS hl
  exact lv_lmul ok.1 ok.2.1 hd (k ok hml H locs ls hP hS hl)
theorem a_land {x y : Int64} (hd : decode cc pc = .ok (.land, 1)) (k : AW X own d cc (pc + 1) L (.long (x &&& y) :: st) S) : AW X own d cc pc L (.long y :: .long x :: st) S := by
  obtain ⟨p, l, e, R, s, m, args, below, meth, c, w, A, kc, ks, Q⟩ := X
  intro ok hml H locs ls hP hS hl
  exact lv_land ok.1 ok.2.1 hd (k ok hml H locs ls hP hS hl)
theorem a_lor {x y : Int64} (hd : decode cc pc = .ok (.lor, 1)) (k : AW X own d cc (pc + 1) L (.long (x ||| y) :: st) S) : AW X own d cc pc L (.long y :: .long x :: st) S := by
  obtain ⟨p, l, e, R, s, m, args, below, meth, c, w, A, kc, ks, Q⟩ := X
  intro ok hml H locs ls hP hS hl
  exact lv_lor ok.1 ok.2.1 hd (k ok hml H locs ls hP hS hl)
theorem a_lxor {x y : Int64} (hd : decode cc pc = .ok (.lxor, 1)) (k : AW X own d cc (pc + 1) L (.long (x ^^^ y) :: st) S) : AW X own d cc pc L (.long y :: .long x :: st) S := by
  obtain ⟨p, l, e, R, s, m, args, below, meth, c, w, A, kc, ks, Q⟩ := X
  intro ok hml H locs ls hP hS hl
  exact lv_lxor ok.1 ok.2.1 hd (k ok hml H locs ls hP hS hl)
theorem a_lshl {x : Int64} {y : Int32} (hd : decode cc pc = .ok (.lshl, 1)) (k : AW X own d cc (pc + 1) L (.long (x <<< (y.toInt64 &&& 63)) :: st) S) : AW X own d cc pc L (.int y :: .long x :: st) S := by
  obtain ⟨p, l, e, R, s, m, args, below, meth, c, w, A, kc, ks, Q⟩ := X
  intro ok hml H locs ls hP hS hl
  exact lv_lshl ok.1 ok.2.1 hd rfl (k ok hml H locs ls hP hS hl)
theorem a_lushr {x : Int64} {y : Int32} (hd : decode cc pc = .ok (.lushr, 1)) (k : AW X own d cc (pc + 1) L (.long ((x.toUInt64 >>> (y.toInt64.toUInt64 &&& Int64.toUInt64 63)).toInt64) :: st) S) : AW X own d cc pc L (.int y :: .long x :: st) S := by
  obtain ⟨p, l, e, R, s, m, args, below, meth, c, w, A, kc, ks, Q⟩ := X
  intro ok hml H locs ls hP hS hl
  exact lv_lushr ok.1 ok.2.1 hd rfl (k ok hml H locs ls hP hS hl)
theorem a_iushr {x y : Int32} (hd : decode cc pc = .ok (.iushr, 1)) (k : AW X own d cc (pc + 1) L (.int ((x.toUInt32 >>> (y.toUInt32 &&& Int32.toUInt32 31)).toInt32) :: st) S) : AW X own d cc pc L (.int y :: .int x :: st) S := by
  obtain ⟨p, l, e, R, s, m, args, below, meth, c, w, A, kc, ks, Q⟩ := X
  intro ok hml H locs ls hP hS hl
  exact lv_iushr ok.1 ok.2.1 hd rfl (k ok hml H locs ls hP hS hl)
theorem a_i2l {x : Int32} (hd : decode cc pc = .ok (.i2l, 1)) (k : AW X own d cc (pc + 1) L (.long (x.toInt64) :: st) S) : AW X own d cc pc L (.int x :: st) S := by
  obtain ⟨p, l, e, R, s, m, args, below, meth, c, w, A, kc, ks, Q⟩ := X
  intro ok hml H locs ls hP hS hl
  exact lv_i2l ok.1 ok.2.1 hd rfl (k ok hml H locs ls hP hS hl)
theorem a_l2i {x : Int64} (hd : decode cc pc = .ok (.l2i, 1)) (k : AW X own d cc (pc + 1) L (.int (x.toInt32) :: st) S) : AW X own d cc pc L (.long x :: st) S := by
  obtain ⟨p, l, e, R, s, m, args, below, meth, c, w, A, kc, ks, Q⟩ := X
  intro ok hml H locs ls hP hS hl
  exact lv_l2i ok.1 ok.2.1 hd rfl (k ok hml H locs ls hP hS hl)
theorem a_i2b {x : Int32} (hd : decode cc pc = .ok (.i2b, 1)) (k : AW X own d cc (pc + 1) L (.int (x.toInt8.toInt32) :: st) S) : AW X own d cc pc L (.int x :: st) S := by
  obtain ⟨p, l, e, R, s, m, args, below, meth, c, w, A, kc, ks, Q⟩ := X
  intro ok hml H locs ls hP hS hl
  exact lv_i2b ok.1 ok.2.1 hd rfl (k ok hml H locs ls hP hS hl)
theorem a_i2s {x : Int32} (hd : decode cc pc = .ok (.i2s, 1)) (k : AW X own d cc (pc + 1) L (.int (x.toInt16.toInt32) :: st) S) : AW X own d cc pc L (.int x :: st) S := by
  obtain ⟨p, l, e, R, s, m, args, below, meth, c, w, A, kc, ks, Q⟩ := X
  intro ok hml H locs ls hP hS hl
  exact lv_i2s ok.1 ok.2.1 hd rfl (k ok hml H locs ls hP hS hl)
theorem a_i2c {x : Int32} (hd : decode cc pc = .ok (.i2c, 1)) (k : AW X own d cc (pc + 1) L (.int ((x.toUInt32 % 65536).toInt32) :: st) S) : AW X own d cc pc L (.int x :: st) S := by
  obtain ⟨p, l, e, R, s, m, args, below, meth, c, w, A, kc, ks, Q⟩ := X
  intro ok hml H locs ls hP hS hl
  exact lv_i2c ok.1 ok.2.1 hd rfl (k ok hml H locs ls hP hS hl)
theorem a_lcmp {x y : Int64} (hd : decode cc pc = .ok (.lcmp, 1)) (k : AW X own d cc (pc + 1) L (.int (lg_cmp x y) :: st) S) : AW X own d cc pc L (.long y :: .long x :: st) S := by
  obtain ⟨p, l, e, R, s, m, args, below, meth, c, w, A, kc, ks, Q⟩ := X
  intro ok hml H locs ls hP hS hl
  exact W.lcmp ok.1 ok.2.1 hd (k ok hml H locs ls hP hS hl)
theorem a_dup {v : Value} (hd : decode cc pc = .ok (.dup, 1)) (hv : v.category = 1) (k : AW X own d cc (pc + 1) L (v :: v :: st) S) : AW X own d cc pc L (v :: st) S := by
  obtain ⟨p, l, e, R, s, m, args, below, meth, c, w, A, kc, ks, Q⟩ := X
  intro ok hml H locs ls hP hS hl
  exact lv_dup ok.1 ok.2.1 hd hv (k ok hml H locs ls hP hS hl)
theorem a_pop {v : Value} (hd : decode cc pc = .ok (.pop, 1)) (hv : v.category = 1) (k : AW X own d cc (pc + 1) L (st) S) : AW X own d cc pc L (v :: st) S := by
  obtain ⟨p, l, e, R, s, m, args, below, meth, c, w, A, kc, ks, Q⟩ := X
  intro ok hml H locs ls hP hS hl
  exact lv_pop ok.1 ok.2.1 hd hv (k ok hml H locs ls hP hS hl)
theorem a_dup2 {v u : Value} (hd : decode cc pc = .ok (.dup2, 1)) (hv : v.category = 1) (hu : u.category = 1) (k : AW X own d cc (pc + 1) L (v :: u :: v :: u :: st) S) : AW X own d cc pc L (v :: u :: st) S := by
  obtain ⟨p, l, e, R, s, m, args, below, meth, c, w, A, kc, ks, Q⟩ := X
  intro ok hml H locs ls hP hS hl
  exact lv_dup2_11 ok.1 ok.2.1 hd hv hu (k ok hml H locs ls hP hS hl)
theorem a_if_eq {x : Int32} {off : Int} {tgt : Nat} (hd : decode cc pc = .ok (.ifCond .eq off, 3)) (ht : (pc : Int) + off = (tgt : Int)) (kt : x = 0 → AW X own d cc tgt L st S) (kf : ¬ x = 0 → AW X own d cc (pc + 3) L st S) : AW X own d cc pc L (.int x :: st) S := by
  obtain ⟨p, l, e, R, s, m, args, below, meth, c, w, A, kc, ks, Q⟩ := X
  intro ok hml H locs ls hP hS hl
  exact lv_if_eq ok.1 ok.2.1 hd ht (fun h => kt h ok hml H locs ls hP hS hl) (fun h => kf h ok hml H locs ls hP hS hl)
theorem a_if_ne {x : Int32} {off : Int} {tgt : Nat} (hd : decode cc pc = .ok (.ifCond .ne off, 3)) (ht : (pc : Int) + off = (tgt : Int)) (kt : ¬ x = 0 → AW X own d cc tgt L st S) (kf : x = 0 → AW X own d cc (pc + 3) L st S) : AW X own d cc pc L (.int x :: st) S := by
  obtain ⟨p, l, e, R, s, m, args, below, meth, c, w, A, kc, ks, Q⟩ := X
  intro ok hml H locs ls hP hS hl
  exact lv_if_ne ok.1 ok.2.1 hd ht (fun h => kt h ok hml H locs ls hP hS hl) (fun h => kf h ok hml H locs ls hP hS hl)
theorem a_if_lt {x : Int32} {off : Int} {tgt : Nat} (hd : decode cc pc = .ok (.ifCond .lt off, 3)) (ht : (pc : Int) + off = (tgt : Int)) (kt : x < 0 → AW X own d cc tgt L st S) (kf : ¬ x < 0 → AW X own d cc (pc + 3) L st S) : AW X own d cc pc L (.int x :: st) S := by
  obtain ⟨p, l, e, R, s, m, args, below, meth, c, w, A, kc, ks, Q⟩ := X
  intro ok hml H locs ls hP hS hl
  exact lv_if_lt ok.1 ok.2.1 hd ht (fun h => kt h ok hml H locs ls hP hS hl) (fun h => kf h ok hml H locs ls hP hS hl)
theorem a_if_ge {x : Int32} {off : Int} {tgt : Nat} (hd : decode cc pc = .ok (.ifCond .ge off, 3)) (ht : (pc : Int) + off = (tgt : Int)) (kt : 0 ≤ x → AW X own d cc tgt L st S) (kf : ¬ 0 ≤ x → AW X own d cc (pc + 3) L st S) : AW X own d cc pc L (.int x :: st) S := by
  obtain ⟨p, l, e, R, s, m, args, below, meth, c, w, A, kc, ks, Q⟩ := X
  intro ok hml H locs ls hP hS hl
  exact lv_if_ge ok.1 ok.2.1 hd ht (fun h => kt h ok hml H locs ls hP hS hl) (fun h => kf h ok hml H locs ls hP hS hl)
theorem a_if_gt {x : Int32} {off : Int} {tgt : Nat} (hd : decode cc pc = .ok (.ifCond .gt off, 3)) (ht : (pc : Int) + off = (tgt : Int)) (kt : 0 < x → AW X own d cc tgt L st S) (kf : ¬ 0 < x → AW X own d cc (pc + 3) L st S) : AW X own d cc pc L (.int x :: st) S := by
  obtain ⟨p, l, e, R, s, m, args, below, meth, c, w, A, kc, ks, Q⟩ := X
  intro ok hml H locs ls hP hS hl
  exact lv_if_gt ok.1 ok.2.1 hd ht (fun h => kt h ok hml H locs ls hP hS hl) (fun h => kf h ok hml H locs ls hP hS hl)
theorem a_if_le {x : Int32} {off : Int} {tgt : Nat} (hd : decode cc pc = .ok (.ifCond .le off, 3)) (ht : (pc : Int) + off = (tgt : Int)) (kt : x ≤ 0 → AW X own d cc tgt L st S) (kf : ¬ x ≤ 0 → AW X own d cc (pc + 3) L st S) : AW X own d cc pc L (.int x :: st) S := by
  obtain ⟨p, l, e, R, s, m, args, below, meth, c, w, A, kc, ks, Q⟩ := X
  intro ok hml H locs ls hP hS hl
  exact lv_if_le ok.1 ok.2.1 hd ht (fun h => kt h ok hml H locs ls hP hS hl) (fun h => kf h ok hml H locs ls hP hS hl)
theorem a_icmp_eq {x y : Int32} {off : Int} {tgt : Nat} (hd : decode cc pc = .ok (.if_icmp .eq off, 3)) (ht : (pc : Int) + off = (tgt : Int)) (kt : x = y → AW X own d cc tgt L st S) (kf : ¬ x = y → AW X own d cc (pc + 3) L st S) : AW X own d cc pc L (.int y :: .int x :: st) S := by
  obtain ⟨p, l, e, R, s, m, args, below, meth, c, w, A, kc, ks, Q⟩ := X
  intro ok hml H locs ls hP hS hl
  exact lv_icmp_eq ok.1 ok.2.1 hd ht (fun h => kt h ok hml H locs ls hP hS hl) (fun h => kf h ok hml H locs ls hP hS hl)
theorem a_icmp_ne {x y : Int32} {off : Int} {tgt : Nat} (hd : decode cc pc = .ok (.if_icmp .ne off, 3)) (ht : (pc : Int) + off = (tgt : Int)) (kt : ¬ x = y → AW X own d cc tgt L st S) (kf : x = y → AW X own d cc (pc + 3) L st S) : AW X own d cc pc L (.int y :: .int x :: st) S := by
  obtain ⟨p, l, e, R, s, m, args, below, meth, c, w, A, kc, ks, Q⟩ := X
  intro ok hml H locs ls hP hS hl
  exact lv_icmp_ne ok.1 ok.2.1 hd ht (fun h => kt h ok hml H locs ls hP hS hl) (fun h => kf h ok hml H locs ls hP hS hl)
theorem a_icmp_lt {x y : Int32} {off : Int} {tgt : Nat} (hd : decode cc pc = .ok (.if_icmp .lt off, 3)) (ht : (pc : Int) + off = (tgt : Int)) (kt : x < y → AW X own d cc tgt L st S) (kf : ¬ x < y → AW X own d cc (pc + 3) L st S) : AW X own d cc pc L (.int y :: .int x :: st) S := by
  obtain ⟨p, l, e, R, s, m, args, below, meth, c, w, A, kc, ks, Q⟩ := X
  intro ok hml H locs ls hP hS hl
  exact lv_icmp_lt ok.1 ok.2.1 hd ht (fun h => kt h ok hml H locs ls hP hS hl) (fun h => kf h ok hml H locs ls hP hS hl)
theorem a_icmp_ge {x y : Int32} {off : Int} {tgt : Nat} (hd : decode cc pc = .ok (.if_icmp .ge off, 3)) (ht : (pc : Int) + off = (tgt : Int)) (kt : y ≤ x → AW X own d cc tgt L st S) (kf : ¬ y ≤ x → AW X own d cc (pc + 3) L st S) : AW X own d cc pc L (.int y :: .int x :: st) S := by
  obtain ⟨p, l, e, R, s, m, args, below, meth, c, w, A, kc, ks, Q⟩ := X
  intro ok hml H locs ls hP hS hl
  exact lv_icmp_ge ok.1 ok.2.1 hd ht (fun h => kt h ok hml H locs ls hP hS hl) (fun h => kf h ok hml H locs ls hP hS hl)
theorem a_icmp_gt {x y : Int32} {off : Int} {tgt : Nat} (hd : decode cc pc = .ok (.if_icmp .gt off, 3)) (ht : (pc : Int) + off = (tgt : Int)) (kt : y < x → AW X own d cc tgt L st S) (kf : ¬ y < x → AW X own d cc (pc + 3) L st S) : AW X own d cc pc L (.int y :: .int x :: st) S := by
  obtain ⟨p, l, e, R, s, m, args, below, meth, c, w, A, kc, ks, Q⟩ := X
  intro ok hml H locs ls hP hS hl
  exact lv_icmp_gt ok.1 ok.2.1 hd ht (fun h => kt h ok hml H locs ls hP hS hl) (fun h => kf h ok hml H locs ls hP hS hl)
theorem a_icmp_le {x y : Int32} {off : Int} {tgt : Nat} (hd : decode cc pc = .ok (.if_icmp .le off, 3)) (ht : (pc : Int) + off = (tgt : Int)) (kt : x ≤ y → AW X own d cc tgt L st S) (kf : ¬ x ≤ y → AW X own d cc (pc + 3) L st S) : AW X own d cc pc L (.int y :: .int x :: st) S := by
  obtain ⟨p, l, e, R, s, m, args, below, meth, c, w, A, kc, ks, Q⟩ := X
  intro ok hml H locs ls hP hS hl
  exact lv_icmp_le ok.1 ok.2.1 hd ht (fun h => kt h ok hml H locs ls hP hS hl) (fun h => kf h ok hml H locs ls hP hS hl)
theorem a_goto {off : Int} {tgt : Nat} (hd : decode cc pc = .ok (.goto off, 3)) (ht : (pc : Int) + off = (tgt : Int)) (k : AW X own d cc tgt L st S) : AW X own d cc pc L st S := by
  obtain ⟨p, l, e, R, s, m, args, below, meth, c, w, A, kc, ks, Q⟩ := X
  intro ok hml H locs ls hP hS hl
  exact lv_goto ok.1 ok.2.1 hd ht (k ok hml H locs ls hP hS hl)
theorem a_tabOut {dflt lo hi : Int} {offs : Array Int} {len : Nat} {x : Int32} {tgt : Nat} (hd : decode cc pc = .ok (.tableswitch dflt lo hi offs, len)) (h : x.toInt < lo ∨ hi < x.toInt) (ht : (pc : Int) + dflt = (tgt : Int)) (k : AW X own d cc tgt L st S) : AW X own d cc pc L (.int x :: st) S := by
  obtain ⟨p, l, e, R, s, m, args, below, meth, c, w, A, kc, ks, Q⟩ := X
  intro ok hml H locs ls hP hS hl
  exact lv_tableOut ok.1 ok.2.1 hd h ht (k ok hml H locs ls hP hS hl)
theorem a_tabIn {dflt lo hi : Int} {offs : Array Int} {len : Nat} {x : Int32} {off : Int} {tgt : Nat} (hd : decode cc pc = .ok (.tableswitch dflt lo hi offs, len)) (h1 : ¬ x.toInt < lo) (h2 : ¬ hi < x.toInt) (ho : offs[(x.toInt - lo).toNat]? = some off) (ht : (pc : Int) + off = (tgt : Int)) (k : AW X own d cc tgt L st S) : AW X own d cc pc L (.int x :: st) S := by
  obtain ⟨p, l, e, R, s, m, args, below, meth, c, w, A, kc, ks, Q⟩ := X
  intro ok hml H locs ls hP hS hl
  exact lv_tableIn ok.1 ok.2.1 hd h1 h2 ho ht (k ok hml H locs ls hP hS hl)
/-! fields and arrays -/
theorem a_get {k f ci idx : Nat} {fs : List (Option Nat)} {ty : FieldType} {fin : Bool} {o : Option Nat} (hf : gFL own idx ci f ty fin) (hs : gSH[k]? = some (.inl (ci, fs))) (ho : fs[f]? = some o) (hd : decode cc pc = .ok (.getfield idx, 3)) (kk : AW X own d cc (pc + 3) L (gfld (gw X) S k f o :: st) S) : AW X own d cc pc L (.ref (gad X k) :: st) S := by
  obtain ⟨p, l, e, R, s, m, args, below, meth, c, w, A, kc, ks, Q⟩ := X
  intro ok hml H locs ls hP hS hl
  obtain ⟨C, T, N, ty0, h1, h2, h3, h4, h5, h6, h7, h8, h9⟩ := hf
  refine va_get (D := w.1) (cl := vwCl) (ws := gC w S) (own := own) (ref := C) (fs := fs.mapIdx (gfld w S k)) ok.1 ok.2.1 ok.2.2.2.1 h3 ok.2.2.1 ok.2.2.2.2.1 hP k (gC_get hs) h1 f h2 (ok.2.2.2.1 _ h4) (fun x hx => by rw [h5] at hx; exact hx) ?_ hd (kk ok hml H locs ls hP hS hl)
  rw [List.getElem?_mapIdx, ho]
  rfl
theorem a_getI {k f ci idx : Nat} {fs : List (Option Nat)} {ty : FieldType} {fin : Bool} (hf : gFL own idx ci f ty fin) (hs : gSH[k]? = some (.inl (ci, fs))) (ho : fs[f]? = some none) (hd : decode cc pc = .ok (.getfield idx, 3)) (kk : AW X own d cc (pc + 3) L (.int (S.1 k f) :: st) S) : AW X own d cc pc L (.ref (gad X k) :: st) S := a_get hf hs ho hd kk
theorem a_getA {k f ci idx i : Nat} {fs : List (Option Nat)} {ty : FieldType} {fin : Bool} (hf : gFL own idx ci f ty fin) (hs : gSH[k]? = some (.inl (ci, fs))) (ho : fs[f]? = some (some i)) (hd : decode cc pc = .ok (.getfield idx, 3)) (kk : AW X own d cc (pc + 3) L (.ref (gad X i) :: st) S) : AW X own d cc pc L (.ref (gad X k) :: st) S := a_get hf hs ho hd kk
theorem mapIdx_set {w : gWd} {S : gSt} {k f : Nat} {fs : List (Option Nat)} {v : Int32} (ho : fs[f]? = some none) : (fs.mapIdx (gfld w S k)).set f (.int v) = fs.mapIdx (gfld w (gI S k f v) k) := by
  apply List.ext_getElem?
  intro i
  by_cases hi : i = f
  · subst hi
    have hl : i < (fs.mapIdx (gfld w S k)).length := by rw [List.length_mapIdx]; exact (List.getElem?_eq_some_iff.mp ho).1
    rw [List.getElem?_set_self hl, List.getElem?_mapIdx, ho]
    simp [gfld, gI, va_up, upd]
  · rw [List.getElem?_set_ne (fun e => hi e.symm), List.getElem?_mapIdx, List.getElem?_mapIdx]
    cases hq : fs[i]? with
    | none => rfl
    | some o =>
      cases o with
      | none => simp [gfld, gI, va_up, upd, hi]
      | some j => rfl
theorem gI_ne1 {S : gSt} {k j : Nat} {v : Int32} : ∀ i, i ≠ k → (gI S k j v).1 i = S.1 i := fun i h => va_up_n _ h _
theorem gI_ne2 {S : gSt} {k j : Nat} {v : Int32} : ∀ i, i ≠ k → (gI S k j v).2 i = S.2 i := fun _ _ => rfl
theorem gR_ne1 {S : gSt} {k : Nat} {f : Nat → Int32} : ∀ i, i ≠ k → (gR S k f).1 i = S.1 i := fun i h => va_up_n _ h _
theorem gR_ne2 {S : gSt} {k : Nat} {f : Nat → Int32} : ∀ i, i ≠ k → (gR S k f).2 i = S.2 i := fun _ _ => rfl
theorem gJ_ne1 {S : gSt} {k j : Nat} {v : Int64} : ∀ i, i ≠ k → (gJ S k j v).1 i = S.1 i := fun _ _ => rfl
theorem gJ_ne2 {S : gSt} {k j : Nat} {v : Int64} : ∀ i, i ≠ k → (gJ S k j v).2 i = S.2 i := fun i h => va_up_n _ h _
theorem gQ2_ne1 {S : gSt} {k : Nat} {f : Nat → Int64} : ∀ i, i ≠ k → (gQ2 S k f).1 i = S.1 i := fun _ _ => rfl
theorem gQ2_ne2 {S : gSt} {k : Nat} {f : Nat → Int64} : ∀ i, i ≠ k → (gQ2 S k f).2 i = S.2 i := fun i h => va_up_n _ h _
theorem a_putI {k f ci idx : Nat} {fs : List (Option Nat)} {ty : FieldType} {v : Int32} (hf : gFL own idx ci f ty false) (hs : gSH[k]? = some (.inl (ci, fs))) (ho : fs[f]? = some none) (hn : narrow ty (.int v) = .int v) (hfit : fits ty (.int v) = true) (hd : decode cc pc = .ok (.putfield idx, 3)) (kk : AW X own d cc (pc + 3) L st (gI S k f v)) : AW X own d cc pc L (.int v :: .ref (gad X k) :: st) S := by
  obtain ⟨p, l, e, R, s, m, args, below, meth, c, w, A, kc, ks, Q⟩ := X
  intro ok hml H locs ls hP hS hl
  obtain ⟨C, T, N, ty0, h1, h2, h3, h4, h5, h6, h7, h8, h9⟩ := hf
  refine va_put (D := w.1) (cl := vwCl) (ws := gC w S) (own := own) (ref := C) (fs := fs.mapIdx (gfld w S k)) (A := A) (v := .int v) (ty := ty) ok.1 ok.2.1 ok.2.2.2.1 h3 ty0 h7 h9 ok.2.2.1 ok.2.2.2.2.1 hP (gC_D ok.2.2.2.2.2.1 ok.2.2.2.2.2.2.1) hS k (gC_get hs) h1 f h2 (ok.2.2.2.1 _ h4) (fun x hx => by rw [h5] at hx; exact hx) h6 (by rw [h7 f h2, h8]) hn hfit (by rw [List.length_mapIdx]; exact (List.getElem?_eq_some_iff.mp ho).1) hd (fun H1 locs1 hP1 _ hS1 => ?_)
  rw [mapIdx_set ho] at hP1
  have e1 : (gC w S).set k (w.2.1 k, gE w (gI S k f v) k (.inl (ci, fs))) = gC w (gI S k f v) := gC_set hs gI_ne1 gI_ne2
  exact kk ok hml H1 locs1 ls (by rw [← e1]; exact hP1) hS1 hl
/-- an index within a row -/
def gin (i : Int32) (n : Nat) : Bool := !(decide (i < 0)) && decide (i.toNatClampNeg < n)
theorem gin_in {i : Int32} {n : Nat} (h : gin i n = true) : vp_in i n := by
  simp only [gin, Bool.and_eq_true, Bool.not_eq_true', decide_eq_false_iff_not, decide_eq_true_eq] at h
  exact fun q => q.elim h.1 (fun z => absurd h.2 (Nat.not_lt.mpr z))
theorem a_iald {k n b : Nat} {i : Int32} (hs : gSH[k]? = some (.inr (0, n, b))) (hi : gin i n = true) (hd : decode cc pc = .ok (.iaload, 1)) (kk : AW X own d cc (pc + 1) L (.int (S.1 k i.toNatClampNeg) :: st) S) : AW X own d cc pc L (.int i :: .ref (gad X k) :: st) S := by
  obtain ⟨p, l, e, R, s, m, args, below, meth, c, w, A, kc, ks, Q⟩ := X
  intro ok hml H locs ls hP hS hl
  exact va_iald (D := w.1) (cl := vwCl) (ws := gC w S) (tys := gTy w) ok.1 ok.2.1 ok.2.2.2.2.1 hP k 0 (gC_get hs) rfl (gin_in hi) hd (kk ok hml H locs ls hP hS hl)
theorem a_zald {k n b : Nat} {i : Int32} (hs : gSH[k]? = some (.inr (1, n, b))) (hi : gin i n = true) (hd : decode cc pc = .ok (.baload, 1)) (kk : AW X own d cc (pc + 1) L (.int (S.1 k i.toNatClampNeg) :: st) S) : AW X own d cc pc L (.int i :: .ref (gad X k) :: st) S := by
  obtain ⟨p, l, e, R, s, m, args, below, meth, c, w, A, kc, ks, Q⟩ := X
  intro ok hml H locs ls hP hS hl
  exact va_zald (D := w.1) (cl := vwCl) (ws := gC w S) (tys := gTy w) ok.1 ok.2.1 ok.2.2.2.2.1 hP k 1 (gC_get hs) rfl (gin_in hi) hd (kk ok hml H locs ls hP hS hl)
theorem a_lald {k n b : Nat} {i : Int32} (hs : gSH[k]? = some (.inr (2, n, b))) (hi : gin i n = true) (hd : decode cc pc = .ok (.laload, 1)) (kk : AW X own d cc (pc + 1) L (.long (S.2 k i.toNatClampNeg) :: st) S) : AW X own d cc pc L (.int i :: .ref (gad X k) :: st) S := by
  obtain ⟨p, l, e, R, s, m, args, below, meth, c, w, A, kc, ks, Q⟩ := X
  intro ok hml H locs ls hP hS hl
  exact va_lald (D := w.1) (cl := vwCl) (ws := gC w S) (tys := gTy w) ok.1 ok.2.1 ok.2.2.2.2.1 hP k 2 (gC_get hs) rfl (gin_in hi) hd (kk ok hml H locs ls hP hS hl)
theorem a_aald {k n b : Nat} {i : Int32} (hs : gSH[k]? = some (.inr (3, n, b))) (hi : gin i n = true) (hd : decode cc pc = .ok (.aaload, 1)) (kk : AW X own d cc (pc + 1) L (.ref (gad X (b + i.toNatClampNeg)) :: st) S) : AW X own d cc pc L (.int i :: .ref (gad X k) :: st) S := by
  obtain ⟨p, l, e, R, s, m, args, below, meth, c, w, A, kc, ks, Q⟩ := X
  intro ok hml H locs ls hP hS hl
  exact va_aldq (D := w.1) (cl := vwCl) (ws := gC w S) (tys := gTy w) ok.1 ok.2.1 ok.2.2.2.2.1 hP k 3 (gC_get hs) rfl (gin_in hi) hd (kk ok hml H locs ls hP hS hl)
theorem a_alen {k t n b : Nat} {v : Int32} (hs : gSH[k]? = some (.inr (t, n, b))) (ht : t < 4) (hv : Int32.ofNat n = v) (hd : decode cc pc = .ok (.arraylength, 1)) (kk : AW X own d cc (pc + 1) L (.int v :: st) S) : AW X own d cc pc L (.ref (gad X k) :: st) S := by
  obtain ⟨p, l, e, R, s, m, args, below, meth, c, w, A, kc, ks, Q⟩ := X
  intro ok hml H locs ls hP hS hl
  rcases (show t = 0 ∨ t = 1 ∨ t = 2 ∨ t = 3 by omega) with rfl | rfl | rfl | rfl
  · exact va_alen (D := w.1) (cl := vwCl) (ws := gC w S) (tys := gTy w) ok.1 ok.2.1 ok.2.2.2.2.1 hP k 0 (gC_get hs) rfl hv hd (kk ok hml H locs ls hP hS hl)
  · exact va_alen (D := w.1) (cl := vwCl) (ws := gC w S) (tys := gTy w) ok.1 ok.2.1 ok.2.2.2.2.1 hP k 1 (gC_get hs) rfl hv hd (kk ok hml H locs ls hP hS hl)
  · exact va_alen (D := w.1) (cl := vwCl) (ws := gC w S) (tys := gTy w) ok.1 ok.2.1 ok.2.2.2.2.1 hP k 2 (gC_get hs) rfl hv hd (kk ok hml H locs ls hP hS hl)
  · exact va_alen (D := w.1) (cl := vwCl) (ws := gC w S) (tys := gTy w) ok.1 ok.2.1 ok.2.2.2.2.1 hP k 3 (gC_get hs) rfl hv hd (kk ok hml H locs ls hP hS hl)
theorem a_iast {k n b : Nat} {i x : Int32} (hs : gSH[k]? = some (.inr (0, n, b))) (hi : gin i n = true) (hd : decode cc pc = .ok (.iastore, 1)) (kk : AW X own d cc (pc + 1) L st (gI S k i.toNatClampNeg x)) : AW X own d cc pc L (.int x :: .int i :: .ref (gad X k) :: st) S := by
  obtain ⟨p, l, e, R, s, m, args, below, meth, c, w, A, kc, ks, Q⟩ := X
  intro ok hml H locs ls hP hS hl
  refine va_iast (D := w.1) (cl := vwCl) (ws := gC w S) (tys := gTy w) (A := A) ok.1 ok.2.1 ok.2.2.2.2.1 hP (gC_D ok.2.2.2.2.2.1 ok.2.2.2.2.2.2.1) hS k 0 (gC_get hs) rfl (gin_in hi) hd (fun H1 locs1 hP1 _ hS1 => ?_)
  have e1 : (gC w S).set k (w.2.1 k, gE w (gI S k i.toNatClampNeg x) k (.inr (0, n, b))) = gC w (gI S k i.toNatClampNeg x) := gC_set hs gI_ne1 gI_ne2
  refine kk ok hml H1 locs1 ls ?_ hS1 hl
  rw [← e1]
  simpa only [gE, gI, va_up_s] using hP1
theorem a_zast {k n b : Nat} {i x : Int32} (hs : gSH[k]? = some (.inr (1, n, b))) (hi : gin i n = true) (hx : vp_nar .boolean x = x) (hd : decode cc pc = .ok (.bastore, 1)) (kk : AW X own d cc (pc + 1) L st (gI S k i.toNatClampNeg x)) : AW X own d cc pc L (.int x :: .int i :: .ref (gad X k) :: st) S := by
  obtain ⟨p, l, e, R, s, m, args, below, meth, c, w, A, kc, ks, Q⟩ := X
  intro ok hml H locs ls hP hS hl
  refine va_zast (D := w.1) (cl := vwCl) (ws := gC w S) (tys := gTy w) (A := A) ok.1 ok.2.1 ok.2.2.2.2.1 hP (gC_D ok.2.2.2.2.2.1 ok.2.2.2.2.2.2.1) hS k 1 (gC_get hs) rfl (gin_in hi) hd (fun H1 locs1 hP1 _ hS1 => ?_)
  have e1 : (gC w S).set k (w.2.1 k, gE w (gI S k i.toNatClampNeg x) k (.inr (1, n, b))) = gC w (gI S k i.toNatClampNeg x) := gC_set hs gI_ne1 gI_ne2
  refine kk ok hml H1 locs1 ls ?_ hS1 hl
  rw [← e1]
  rw [hx] at hP1
  simpa only [gE, gI, va_up_s] using hP1
theorem a_last {k n b : Nat} {i : Int32} {x : Int64} (hs : gSH[k]? = some (.inr (2, n, b))) (hi : gin i n = true) (hd : decode cc pc = .ok (.lastore, 1)) (kk : AW X own d cc (pc + 1) L st (gJ S k i.toNatClampNeg x)) : AW X own d cc pc L (.long x :: .int i :: .ref (gad X k) :: st) S := by
  obtain ⟨p, l, e, R, s, m, args, below, meth, c, w, A, kc, ks, Q⟩ := X
  intro ok hml H locs ls hP hS hl
  refine va_last (D := w.1) (cl := vwCl) (ws := gC w S) (tys := gTy w) (A := A) ok.1 ok.2.1 ok.2.2.2.2.1 hP (gC_D ok.2.2.2.2.2.1 ok.2.2.2.2.2.2.1) hS k 2 (gC_get hs) rfl (gin_in hi) hd (fun H1 locs1 hP1 _ hS1 => ?_)
  have e1 : (gC w S).set k (w.2.1 k, gE w (gJ S k i.toNatClampNeg x) k (.inr (2, n, b))) = gC w (gJ S k i.toNatClampNeg x) := gC_set hs gJ_ne1 gJ_ne2
  refine kk ok hml H1 locs1 ls ?_ hS1 hl
  rw [← e1]
  simpa only [gE, gJ, va_up_s] using hP1
end Rows
end
section
theorem gQ_moved {w : gWd} {sz : Nat} {S : gSt} {as : List Value} : FrameBlind (va_Pc as (gB w sz S)) := by
  intro a U g mk h
  obtain ⟨h0, h1, h2, h3, h4, h5, h6⟩ := h
  refine ⟨h0, h1, h2, va_K.moved (u := U) (U := U.calling g mk a) (Vm.Alike.refl U.vm) h3, h4, fun q hq => ?_, ?_⟩
  · exact va_Nw.same (u := U) (U := U.calling g mk a) (gNest_on q hq) rfl (h5 q hq)
  · exact gStat.moved (u := U) (U := U.calling g mk a) (Vm.Alike.refl U.vm) h6
theorem gGood {y : MethodName} {cc : ByteArray} {mL : Nat} {ret : Option FieldType} (h : Cond.code y cc mL ret ∈ gALL) : GoodIn gALL (gWs y cc mL ret) := by
  intro w hw
  rcases List.mem_cons.mp hw with rfl | hw
  · exact gALL_good _ h
  · exact gALL_good _ hw
section Calls2
variable {p : Program} {l : Launch} {e : Env} {R : Room} {s : State} {m : MethodId} {args : Array Value} {below : List Frame} {meth : Method} {c : Code} {H : Heap} {locs : List Loc} {kc ks : Nat} {Q : State → Prop} {w : gWd} {A A1 : Nat → Prop}
theorem g_call {pc : Nat} {ls : Array Slot} {st0 rest : List Value} {r : Option Value} {S' : gSt} {a : Array Value} (hr : va_Run p l e R s m args below meth c H locs kc ks 0 0 (F0 m pc ls st0) rest (gQ w A1 r S' a) A1) (hS : va_S A s.heap H locs) (hA : ∀ q, A1 q → A q)
    (kk : ∀ (H1 : Heap) (locs1 : List Loc), va_P w.1 vwCl (gC w S') H1 → va_S A s.heap H1 locs1 → W p l e R s m args below meth c H1 locs1 kc ks Q (F0 m (pc + 3) ls (r.toList ++ rest))) : W p l e R s m args below meth c H locs kc ks Q (F0 m pc ls st0) := by
  intro T hT X
  obtain ⟨v, st₀, t, T', L, h0, X', hL, e1, e2, ⟨hv, hp, hz, hk⟩, st⟩ := hr T hT X
  cases hv
  rw [h0] at hz hk
  obtain ⟨t2, a1, b1⟩ := kk T'.heap (locs ++ L) (by rw [e1]; exact hp)
    ⟨Nat.le_trans hS.1 (by rw [e1]; exact hz), fun q h1 h2 => by rw [e1, hk q (Nat.lt_of_lt_of_le h1 hS.1) (fun z => h2 (hA q z))]; exact hS.2.1 q h1 h2, fun q hq => by
      rcases List.mem_append.mp hq with h | h
      · exact hS.2.2 q h
      · exact hA _ (hL q h)⟩ T' rfl X'
  exact ⟨t2, st t2 a1, b1⟩
/-- what a call hands to the callee -/
theorem g_pre {S : gSt} {cc : ByteArray} {own : String} {d : Nat} (ok : gOK p R s m args meth c w A kc ks own d cc) (hP : va_P w.1 vwCl (gC w S) H) (hS : va_S A s.heap H locs) : ∀ U : State, U.heap = H → s.WarmedH U.vm → gB w H.size S U := by
  intro U hU hW
  have hA : ∀ q, gA w H.size q → A q := fun q h => h.elim (fun ⟨i, hi, e⟩ => by rw [e]; exact ok.2.2.2.2.2.2.1 i hi) (fun h => ok.2.2.2.2.2.2.2.1 q (Nat.le_trans hS.1 h))
  refine ⟨by rw [hU], by rw [hU]; exact hP, va_K.moved hW.alike ok.2.2.2.2.1, ok.2.2.2.2.2.1, fun q hq => gNest_warm q hq hW (ok.2.2.2.2.2.2.2.2.1 q hq), ?_⟩
  rw [hU]
  exact gStat.narrow (gStat.moved hW.alike (gStat.kept ok.2.2.2.2.2.2.2.2.2.2.2 (fun a h1 h2 => hS.2.1 a h1 h2))) hA
theorem g_sub {S : gSt} {cc : ByteArray} {own : String} {d : Nat} (ok : gOK p R s m args meth c w A kc ks own d cc) (hS : va_S A s.heap H locs) : ∀ q, gA w H.size q → A q :=
  fun q h => h.elim (fun ⟨i, hi, e⟩ => by rw [e]; exact ok.2.2.2.2.2.2.1 i hi) (fun h => ok.2.2.2.2.2.2.2.1 q (Nat.le_trans hS.1 h))
end Calls2
section Rows2
variable {X : gX} {own : String} {d : Nat} {cc : ByteArray} {pc : Nat} {L : List (Option Value)} {st : List Value} {S S' : gSt}
variable {y : MethodName} {cy : ByteArray} {mL n dy idx : Nat} {ret : Option FieldType} {as : gWd → List Value} {r : Option Value} {As st0 : List Value}
theorem a_invV {k ci : Nat} {fs : List (Option Nat)} {T : u_T} {N : Nat} (hc : gCT y cy mL ret dy as S r S') (hY : gY y cy mL ret n) (hV : Cond.instanceMethod y ∈ gALL ∧ Cond.selects y.cls y y ∈ gALL) (hl : Cond.methodLink own idx y ∈ gALL) (hs : gSH[k]? = some (.inl (ci, fs))) (hcl : vwCl[ci]? = some (y.cls, T, N)) (has : as (gw X) = .ref (gad X k) :: As) (hn : As.length = n) (hdy : dy < d) (hst : st0 = As.reverse ++ .ref (gad X k) :: st) (hroom : (st.map fun v => v.category).sum ≤ 8) (hd : decode cc pc = .ok (.invokevirtual idx, 3)) (kk : AW X own d cc (pc + 3) L (r.toList ++ st) S') : AW X own d cc pc L st0 S := by
  obtain ⟨p, l, e, R, s, m, args, below, meth, c, w, A, kc, ks, Q⟩ := X
  intro ok hml H locs ls hP hS hlv
  have hc := hc l w H.size
  have hts := ok.2.2.2.1
  rw [show as w = .ref (w.2.1 k) :: As from has] at hc
  have hR := ok.2.2.2.2.2.2.2.2.2.2.1
  have cb : CallB R s args own idx y cy mL ret (gWs y cy mL ret) (gRm dy) 0 0 n := callB_of n hts (gGood hY.1) rfl rfl rfl (hts _ hY.2.1) (hts _ hl) hY.2.2.1 (by
    have := hR.1; have := hR.2.1; have := hY.2.2.2
    show dy + 1 ≤ R.frames ∧ 8 + (mL + 11) + 40 * dy ≤ R.locals
    omega)
  have hrun := va_runV (e := e) (below := below) (meth := meth) (cells := kc) (slots := ks) (locs := locs) (g := F0 m pc ls st0) (rest := st) (b := w.2.1 k) (As := As) (H := H) (nL := L.length) ⟨ok.1, ok.2.1, hml, ok.2.2.1, hts⟩ hc (C := y.cls) ⟨cb, hts _ hV.1, hts _ hV.2⟩ ⟨gQ_moved, va_recv ok.2.2.2.2.1 hP hcl (gC_get hs), fun U hU hW => ⟨rfl, g_pre ok hP hS U hU hW⟩⟩ rfl hn hlv.1 hst (lv_room (m := m) (pc := pc) (ls := ls) (rest := st0) hroom) hd ⟨hR.2.2.1, hR.2.2.2⟩
  exact g_call hrun hS (g_sub (S := S) ok hS) (fun H1 locs1 hP1 hS1 => kk ok hml H1 locs1 ls hP1 hS1 hlv)
theorem a_invS (hc : gCT y cy mL ret dy as S r S') (hY : gY y cy mL ret n) (hV : Cond.static y ∈ gALL) (hl : Cond.methodLink own idx y ∈ gALL) (has : as (gw X) = As) (hn : As.length = n) (hdy : dy < d) (hst : st0 = As.reverse ++ st) (hroom : (st.map fun v => v.category).sum ≤ 8) (hd : decode cc pc = .ok (.invokestatic idx, 3)) (kk : AW X own d cc (pc + 3) L (r.toList ++ st) S') : AW X own d cc pc L st0 S := by
  obtain ⟨p, l, e, R, s, m, args, below, meth, c, w, A, kc, ks, Q⟩ := X
  intro ok hml H locs ls hP hS hlv
  have hc := hc l w H.size
  have hts := ok.2.2.2.1
  rw [show as w = As from has] at hc
  have hR := ok.2.2.2.2.2.2.2.2.2.2.1
  have cb : CallB R s args own idx y cy mL ret (gWs y cy mL ret) (gRm dy) 0 0 n := callB_of n hts (gGood hY.1) rfl rfl rfl (hts _ hY.2.1) (hts _ hl) hY.2.2.1 (by
    have := hR.1; have := hR.2.1; have := hY.2.2.2
    show dy + 1 ≤ R.frames ∧ 8 + (mL + 11) + 40 * dy ≤ R.locals
    omega)
  have hrun := va_runS (e := e) (below := below) (meth := meth) (cells := kc) (slots := ks) (locs := locs) (g := F0 m pc ls st0) (rest := st) (As := As) (H := H) (nL := L.length) ⟨ok.1, ok.2.1, hml, ok.2.2.1, hts⟩ hc ⟨cb, hts _ hV⟩ ⟨gQ_moved, fun U hU hW => ⟨rfl, g_pre ok hP hS U hU hW⟩⟩ rfl hn hlv.1 hst (lv_room (m := m) (pc := pc) (ls := ls) (rest := st0) hroom) hd ⟨hR.2.2.1, hR.2.2.2⟩
  exact g_call hrun hS (g_sub (S := S) ok hS) (fun H1 locs1 hP1 hS1 => kk ok hml H1 locs1 ls hP1 hS1 hlv)
theorem a_invSN (hc : gCT y cy mL ret dy as S r S') (hY : gY y cy mL ret n) (hV : Cond.static y ∈ gALL) (hl : Cond.methodLinkNest own idx y "FootIsle" ∈ gNest) (has : as (gw X) = As) (hn : As.length = n) (hdy : dy < d) (hst : st0 = As.reverse ++ st) (hroom : (st.map fun v => v.category).sum ≤ 8) (hd : decode cc pc = .ok (.invokestatic idx, 3)) (kk : AW X own d cc (pc + 3) L (r.toList ++ st) S') : AW X own d cc pc L st0 S := by
  obtain ⟨p, l, e, R, s, m, args, below, meth, c, w, A, kc, ks, Q⟩ := X
  intro ok hml H locs ls hP hS hlv
  have hc := hc l w H.size
  have hts := ok.2.2.2.1
  rw [show as w = As from has] at hc
  have hR := ok.2.2.2.2.2.2.2.2.2.2.1
  have cb : va_CN R s args own idx y "FootIsle" cy mL ret (gWs y cy mL ret) (gRm dy) 0 0 n := va_cnB n hts (gGood hY.1) rfl rfl rfl (ok.2.2.2.2.2.2.2.2.1 _ hl) (hts _ hY.2.1) hY.2.2.1 (by
    have := hR.1; have := hR.2.1; have := hY.2.2.2
    show dy + 1 ≤ R.frames ∧ 8 + (mL + 11) + 40 * dy ≤ R.locals
    omega)
  have hrun := va_runSN (e := e) (below := below) (meth := meth) (cells := kc) (slots := ks) (locs := locs) (g := F0 m pc ls st0) (rest := st) (As := As) (H := H) (nL := L.length) ⟨ok.1, ok.2.1, hml, ok.2.2.1, hts⟩ hc ⟨cb, hts _ hV, trivial⟩ ⟨gQ_moved, fun U hU hW => ⟨rfl, g_pre ok hP hS U hU hW⟩⟩ rfl hn hlv.1 hst (lv_room (m := m) (pc := pc) (ls := ls) (rest := st0) hroom) hd ⟨hR.2.2.1, hR.2.2.2⟩
  exact g_call hrun hS (g_sub (S := S) ok hS) (fun H1 locs1 hP1 hS1 => kk ok hml H1 locs1 ls hP1 hS1 hlv)
/-! returns -/
theorem a_iret {v : Int32} (hp : gPost X (some .int) (some (.int v)) S) (hd : decode cc pc = .ok (.ireturn, 1)) : AW X own d cc pc L [.int v] S := by
  obtain ⟨p, l, e, R, s, m, args, below, meth, c, w, A, kc, ks, Q⟩ := X
  obtain ⟨hr, rfl⟩ := hp
  intro ok hml H locs ls hP hS hl
  exact W.iret ok.1 ok.2.1 hr (fun t ht hW => ⟨rfl, by rw [ht]; exact hP, hS.F ht⟩) hS.2.2 hd ok.2.2.2.2.2.2.2.2.2.1
def gbool (v : Int32) : Bool := v == 0 || v == 1
theorem gbool_n {v : Int32} (h : gbool v = true) : narrow .boolean (.int v) = .int v := by
  simp only [gbool, Bool.or_eq_true, beq_iff_eq] at h
  rcases h with rfl | rfl <;> rfl
theorem gbool_f {v : Int32} (h : gbool v = true) : fits .boolean (.int v) = true := h
theorem gbool_v {v : Int32} (h : gbool v = true) : vp_nar .boolean v = v := by
  simp only [gbool, Bool.or_eq_true, beq_iff_eq] at h
  rcases h with rfl | rfl <;> rfl
theorem a_zret {v : Int32} (hp : gPost X (some .boolean) (some (.int v)) S) (hn : gbool v = true) (hd : decode cc pc = .ok (.ireturn, 1)) : AW X own d cc pc L [.int v] S := by
  obtain ⟨p, l, e, R, s, m, args, below, meth, c, w, A, kc, ks, Q⟩ := X
  obtain ⟨hr, rfl⟩ := hp
  intro ok hml H locs ls hP hS hl
  exact W.zret ok.1 ok.2.1 hr (gbool_n hn) (fun t ht hW => ⟨rfl, by rw [ht]; exact hP, hS.F ht⟩) hS.2.2 hd ok.2.2.2.2.2.2.2.2.2.1
theorem a_lret {v : Int64} (hp : gPost X (some .long) (some (.long v)) S) (hd : decode cc pc = .ok (.lreturn, 1)) : AW X own d cc pc L [.long v] S := by
  obtain ⟨p, l, e, R, s, m, args, below, meth, c, w, A, kc, ks, Q⟩ := X
  obtain ⟨hr, rfl⟩ := hp
  intro ok hml H locs ls hP hS hl
  exact W.lret ok.1 ok.2.1 hr (fun t ht hW => ⟨rfl, by rw [ht]; exact hP, hS.F ht⟩) hS.2.2 hd ok.2.2.2.2.2.2.2.2.2.1
theorem a_vret (hp : gPost X none none S) (hd : decode cc pc = .ok (.return_, 1)) : AW X own d cc pc L [] S := by
  obtain ⟨p, l, e, R, s, m, args, below, meth, c, w, A, kc, ks, Q⟩ := X
  obtain ⟨hr, rfl⟩ := hp
  intro ok hml H locs ls hP hS hl
  exact W.vret ok.1 ok.2.1 hr (fun t ht hW => ⟨rfl, by rw [ht]; exact hP, hS.F ht⟩) hS.2.2 hd ok.2.2.2.2.2.2.2.2.2.1
/-! the library's own -/
theorem a_max {x z : Int32} (hl : Cond.methodLink own idx Lib.Math.max.name ∈ gALL) (hd1 : 0 < d) (hroom : (st.map fun v => v.category).sum ≤ 8) (hd : decode cc pc = .ok (.invokestatic idx, 3)) (kk : AW X own d cc (pc + 3) L (.int (if x < z then z else x) :: st) S) : AW X own d cc pc L (.int z :: .int x :: st) S := by
  obtain ⟨p, l, e, R, s, m, args, below, meth, c, w, A, kc, ks, Q⟩ := X
  intro ok hml H locs ls hP hS hlv
  have hts := ok.2.2.2.1
  have hR := ok.2.2.2.2.2.2.2.2.2.2.1
  exact va_mmax ok.1 ok.2.1 (by rw [hml]; exact hlv.1.symm) ok.2.2.1 (hts _ hl) (hts _ g_max1) (hts _ g_math) (hts _ g_max2) (by omega) (by omega) hR.2.2.1 hR.2.2.2 hd (kk ok hml H locs ls hP hS hlv)
theorem a_min {x z : Int32} (hl : Cond.methodLink own idx Lib.Math.min.name ∈ gALL) (hd1 : 0 < d) (hroom : (st.map fun v => v.category).sum ≤ 8) (hd : decode cc pc = .ok (.invokestatic idx, 3)) (kk : AW X own d cc (pc + 3) L (.int (if z < x then z else x) :: st) S) : AW X own d cc pc L (.int z :: .int x :: st) S := by
  obtain ⟨p, l, e, R, s, m, args, below, meth, c, w, A, kc, ks, Q⟩ := X
  intro ok hml H locs ls hP hS hlv
  have hts := ok.2.2.2.1
  have hR := ok.2.2.2.2.2.2.2.2.2.2.1
  exact va_mmin ok.1 ok.2.1 (by rw [hml]; exact hlv.1.symm) ok.2.2.1 (hts _ hl) (hts _ g_min1) (hts _ g_math) (hts _ g_min2) (by omega) (by omega) hR.2.2.1 hR.2.2.2 hd (kk ok hml H locs ls hP hS hlv)
/-- n places from sp on within n0, from dp on within n1 -/
def gcp (sp dp n : Int32) (n0 n1 : Nat) : Bool := !decide (sp < 0) && (!decide (dp < 0) && (!decide (n < 0) && (decide (sp.toNatClampNeg + n.toNatClampNeg ≤ n0) && decide (dp.toNatClampNeg + n.toNatClampNeg ≤ n1))))
theorem gcp_of {sp dp n : Int32} {n0 n1 : Nat} (h : gcp sp dp n n0 n1 = true) : ¬ sp < 0 ∧ ¬ dp < 0 ∧ ¬ n < 0 ∧ sp.toNatClampNeg + n.toNatClampNeg ≤ n0 ∧ dp.toNatClampNeg + n.toNatClampNeg ≤ n1 := by
  simpa only [gcp, Bool.and_eq_true, Bool.not_eq_true', decide_eq_false_iff_not, decide_eq_true_eq] using h
theorem a_copyi {k0 k1 n0 n1 b0 b1 : Nat} {sp dp n : Int32} (h0 : gSH[k0]? = some (.inr (0, n0, b0))) (h1 : gSH[k1]? = some (.inr (0, n1, b1))) (hc : gcp sp dp n n0 n1 = true) (hl : Cond.methodLink own idx arraycopyName ∈ gALL) (hd1 : 0 < d) (hroom : (st.map fun v => v.category).sum ≤ 8) (hd : decode cc pc = .ok (.invokestatic idx, 3)) (kk : AW X own d cc (pc + 3) L st (gR S k1 (va_cpy (S.1 k0) (S.1 k1) sp.toNatClampNeg dp.toNatClampNeg n.toNatClampNeg))) : AW X own d cc pc L (.int n :: .int dp :: .ref (gad X k1) :: .int sp :: .ref (gad X k0) :: st) S := by
  obtain ⟨p, l, e, R, s, m, args, below, meth, c, w, A, kc, ks, Q⟩ := X
  intro ok hml H locs ls hP hS hlv
  have hts := ok.2.2.2.1
  have hR := ok.2.2.2.2.2.2.2.2.2.2.1
  obtain ⟨c1, c2, c3, c4, c5⟩ := gcp_of hc
  have hnw : nativeFrameWords "java/lang/System" "arraycopy" 5 = 7 := by decide
  refine va_copyi (D := w.1) (cl := vwCl) (ws := gC w S) (tys := gTy w) (A := A) (ty := .int) ok.1 ok.2.1 (by rw [hml]; exact hlv.1.symm) ok.2.2.1 (hts _ hl) (hts _ g_cpy1) (hts _ g_cpy2) (hts _ g_cpy3) ok.2.2.2.2.1 hP (gC_D ok.2.2.2.2.2.1 ok.2.2.2.2.2.2.1) hS k0 k1 0 0 (gC_get h0) (gC_get h1) rfl rfl rfl c1 c2 c3 c4 c5 (fun _ _ => rfl) (by omega) (by rw [hnw]; omega) hd (fun H1 locs1 hP1 _ hS1 => ?_)
  have e1 : (gC w S).set k1 (w.2.1 k1, gE w (gR S k1 (va_cpy (S.1 k0) (S.1 k1) sp.toNatClampNeg dp.toNatClampNeg n.toNatClampNeg)) k1 (.inr (0, n1, b1))) = gC w (gR S k1 (va_cpy (S.1 k0) (S.1 k1) sp.toNatClampNeg dp.toNatClampNeg n.toNatClampNeg)) := gC_set h1 gR_ne1 gR_ne2
  refine kk ok hml H1 locs1 ls ?_ hS1 hlv
  rw [← e1]
  simpa only [gE, gR, va_up_s] using hP1
theorem a_copyl {k0 k1 n0 n1 b0 b1 : Nat} {sp dp n : Int32} (h0 : gSH[k0]? = some (.inr (2, n0, b0))) (h1 : gSH[k1]? = some (.inr (2, n1, b1))) (hc : gcp sp dp n n0 n1 = true) (hl : Cond.methodLink own idx arraycopyName ∈ gALL) (hd1 : 0 < d) (hroom : (st.map fun v => v.category).sum ≤ 8) (hd : decode cc pc = .ok (.invokestatic idx, 3)) (kk : AW X own d cc (pc + 3) L st (gQ2 S k1 (va_cpy (S.2 k0) (S.2 k1) sp.toNatClampNeg dp.toNatClampNeg n.toNatClampNeg))) : AW X own d cc pc L (.int n :: .int dp :: .ref (gad X k1) :: .int sp :: .ref (gad X k0) :: st) S := by
  obtain ⟨p, l, e, R, s, m, args, below, meth, c, w, A, kc, ks, Q⟩ := X
  intro ok hml H locs ls hP hS hlv
  have hts := ok.2.2.2.1
  have hR := ok.2.2.2.2.2.2.2.2.2.2.1
  obtain ⟨c1, c2, c3, c4, c5⟩ := gcp_of hc
  have hnw : nativeFrameWords "java/lang/System" "arraycopy" 5 = 7 := by decide
  refine va_copyl (D := w.1) (cl := vwCl) (ws := gC w S) (tys := gTy w) (A := A) (ty := .long) ok.1 ok.2.1 (by rw [hml]; exact hlv.1.symm) ok.2.2.1 (hts _ hl) (hts _ g_cpy1) (hts _ g_cpy2) (hts _ g_cpy3) ok.2.2.2.2.1 hP (gC_D ok.2.2.2.2.2.1 ok.2.2.2.2.2.2.1) hS k0 k1 2 2 (gC_get h0) (gC_get h1) rfl rfl rfl c1 c2 c3 c4 c5 (fun _ _ => rfl) (by omega) (by rw [hnw]; omega) hd (fun H1 locs1 hP1 _ hS1 => ?_)
  have e1 : (gC w S).set k1 (w.2.1 k1, gE w (gQ2 S k1 (va_cpy (S.2 k0) (S.2 k1) sp.toNatClampNeg dp.toNatClampNeg n.toNatClampNeg)) k1 (.inr (2, n1, b1))) = gC w (gQ2 S k1 (va_cpy (S.2 k0) (S.2 k1) sp.toNatClampNeg dp.toNatClampNeg n.toNatClampNeg)) := gC_set h1 gQ2_ne1 gQ2_ne2
  refine kk ok hml H1 locs1 ls ?_ hS1 hlv
  rw [← e1]
  simpa only [gE, gQ2, va_up_s] using hP1
/-- static arrays of ints -/
theorem a_gets0 {ref : String} (hl : Cond.fieldLink own idx "FootIsle" "LEAST_SETTING" "[I" ∈ gALL) (hd : decode cc pc = .ok (.getstatic idx, 3)) (kk : AW X own d cc (pc + 3) L (.ref ((gw X).2.2.2 0) :: st) S) : AW X own d cc pc L st S := by
  obtain ⟨p, l, e, R, s, m, args, below, meth, c, w, A, kc, ks, Q⟩ := X
  intro ok hml H locs ls hP hS hlv
  exact va_gets (A := A) ok.1 ok.2.1 ok.2.2.2.2.2.2.2.2.2.2.2.1.1 hS ok.2.2.1 (ok.2.2.2.1 _ hl) (fun _ h => h) hd (kk ok hml H locs ls hP hS hlv)
theorem a_gets1 {ref : String} (hl : Cond.fieldLink own idx "FootIsle" "MOST_SETTING" "[I" ∈ gALL) (hd : decode cc pc = .ok (.getstatic idx, 3)) (kk : AW X own d cc (pc + 3) L (.ref ((gw X).2.2.2 1) :: st) S) : AW X own d cc pc L st S := by
  obtain ⟨p, l, e, R, s, m, args, below, meth, c, w, A, kc, ks, Q⟩ := X
  intro ok hml H locs ls hP hS hlv
  exact va_gets (A := A) ok.1 ok.2.1 ok.2.2.2.2.2.2.2.2.2.2.2.2.1 hS ok.2.2.1 (ok.2.2.2.1 _ hl) (fun _ h => h) hd (kk ok hml H locs ls hP hS hlv)
theorem a_sald0 {i : Int32} (hi : gin i 5 = true) (hd : decode cc pc = .ok (.iaload, 1)) (kk : AW X own d cc (pc + 1) L (.int (([0, 0, 0, 2, 0] : List Int32).getD i.toNatClampNeg 0) :: st) S) : AW X own d cc pc L (.int i :: .ref ((gw X).2.2.2 0) :: st) S := by
  obtain ⟨p, l, e, R, s, m, args, below, meth, c, w, A, kc, ks, Q⟩ := X
  intro ok hml H locs ls hP hS hlv
  exact va_ti (A := A) ok.1 ok.2.1 ok.2.2.2.2.2.2.2.2.2.2.2.1.2 hS (gin_in hi) rfl hd (kk ok hml H locs ls hP hS hlv)
theorem a_sald1 {i : Int32} (hi : gin i 5 = true) (hd : decode cc pc = .ok (.iaload, 1)) (kk : AW X own d cc (pc + 1) L (.int (([8, 9, 3, 12, 8] : List Int32).getD i.toNatClampNeg 0) :: st) S) : AW X own d cc pc L (.int i :: .ref ((gw X).2.2.2 1) :: st) S := by
  obtain ⟨p, l, e, R, s, m, args, below, meth, c, w, A, kc, ks, Q⟩ := X
  intro ok hml H locs ls hP hS hlv
  exact va_ti (A := A) ok.1 ok.2.1 ok.2.2.2.2.2.2.2.2.2.2.2.2.2 hS (gin_in hi) rfl hd (kk ok hml H locs ls hP hS hlv)
end Rows2
/-! taking an Option's answer apart -/
theorem g_if {α : Type} {c : Bool} {a : Option α} {x : α} (h : (if c = true then a else none) = some x) : c = true ∧ a = some x := by
  cases c with
  | true => exact ⟨rfl, h⟩
  | false => cases h
theorem g_ifP {α : Type} {c : Prop} [Decidable c] {a : Option α} {x : α} (h : (if c then a else none) = some x) : c ∧ a = some x := by
  by_cases hc : c
  · rw [if_pos hc] at h; exact ⟨hc, h⟩
  · rw [if_neg hc] at h; cases h
theorem g_bind {α β : Type} {o : Option α} {f : α → Option β} {x : β} (h : o.bind f = some x) : ∃ a, o = some a ∧ f a = some x := by
  cases o with
  | none => cases h
  | some a => exact ⟨a, rfl, h⟩
/-- loops: a step goes on (inl) or ends (inr) -/
def gLoop {P R : Type} (step : P → Option (P ⊕ R)) : Nat → P → Option R
  | 0, _ => none
  | n + 1, p => (step p).bind fun q => match q with
    | .inl p' => gLoop step n p'
    | .inr r => some r
theorem gLoop_s {P R : Type} {step : P → Option (P ⊕ R)} {n : Nat} {p : P} {r : R} (h : gLoop step (n + 1) p = some r) : (∃ p', step p = some (.inl p') ∧ gLoop step n p' = some r) ∨ step p = some (.inr r) := by
  obtain ⟨q, hq, h⟩ := g_bind h
  cases q with
  | inl p' => exact Or.inl ⟨p', hq, h⟩
  | inr r' => cases h; exact Or.inr hq
end
