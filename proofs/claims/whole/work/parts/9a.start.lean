theorem g_inj {w : gWd} {S : gSt} {A : Nat → Prop} (h : va_D A (gC w S)) : gInj w := by
  intro i j hi hj e
  have get : ∀ i, i < 61 → ∃ x, (gC w S)[i]? = some (w.2.1 i, x) := by
    intro i hi
    have hl : i < gSH.length := by rw [gSH_len]; exact hi
    exact ⟨_, gC_get (List.getElem?_eq_getElem hl)⟩
  obtain ⟨x, hx⟩ := get i hi
  obtain ⟨y, hy⟩ := get j hj
  exact h.1 i j _ _ hx hy e
theorem g_in {w : gWd} {S : gSt} {A : Nat → Prop} (h : va_D A (gC w S)) : gIn w A := by
  intro i hi
  have hl : i < gSH.length := by rw [gSH_len]; exact hi
  exact h.2 i _ (gC_get (List.getElem?_eq_getElem hl))
def lwW (w : gWd) (a1 : Nat) (a3 : Nat) (q2 : Nat → Nat) (q4 : Nat → Nat) : va_W := [(a1, .inr (6, [.ref (q2 0), .ref (q2 13), .int 0, .ref (q2 26), .ref (q2 31), .ref (q2 32), .ref (q2 35)])), ((q2 0), .inr (0, [.ref (q2 1), .ref (q2 2), .ref (q2 3), .ref (q2 4), .ref (q2 5), .ref (q2 6), .ref (q2 7), .int 0, .int 0, .int (1 : Int32)])), ((q2 1), .inl (w.2.2.1 0, 5, .inl (upd (upd (upd (upd (upd (fun _ => 0) (0 : Int32).toNatClampNeg (3 : Int32)) (1 : Int32).toNatClampNeg (2 : Int32)) (2 : Int32).toNatClampNeg (1 : Int32)) (3 : Int32).toNatClampNeg (6 : Int32)) (4 : Int32).toNatClampNeg (2 : Int32)))), ((q2 2), .inl (w.2.2.1 0, 6, .inl (fun _ => 0))), ((q2 3), .inl (w.2.2.1 0, 6, .inl (fun _ => 0))), ((q2 4), .inl (w.2.2.1 0, 6, .inl (fun _ => 0))), ((q2 5), .inl (w.2.2.1 0, 6, .inl (fun _ => 0))), ((q2 6), .inl (w.2.2.1 0, 384, .inl (fun _ => 0))), ((q2 7), .inr (1, [.ref (q2 8), .ref (q2 9), .ref (q2 10), .ref (q2 11), .ref (q2 12), .int 0, .int 0])), ((q2 8), .inl (w.2.2.1 0, 3072, .inl (fun _ => 0))), ((q2 9), .inl (w.2.2.1 0, 48, .inl (fun _ => 0))), ((q2 10), .inl (w.2.2.1 0, 48, .inl (fun _ => 0))), ((q2 11), .inl (w.2.2.1 0, 8, .inl (fun _ => 0))), ((q2 12), .inl (w.2.2.1 0, 8, .inl (fun _ => 0))), ((q2 13), .inr (0, [.ref (q2 14), .ref (q2 15), .ref (q2 16), .ref (q2 17), .ref (q2 18), .ref (q2 19), .ref (q2 20), .int 0, .int 0, .int (1 : Int32)])), ((q2 14), .inl (w.2.2.1 0, 5, .inl (upd (upd (upd (upd (upd (fun _ => 0) (0 : Int32).toNatClampNeg (3 : Int32)) (1 : Int32).toNatClampNeg (2 : Int32)) (2 : Int32).toNatClampNeg (1 : Int32)) (3 : Int32).toNatClampNeg (6 : Int32)) (4 : Int32).toNatClampNeg (2 : Int32)))), ((q2 15), .inl (w.2.2.1 0, 6, .inl (fun _ => 0))), ((q2 16), .inl (w.2.2.1 0, 6, .inl (fun _ => 0))), ((q2 17), .inl (w.2.2.1 0, 6, .inl (fun _ => 0))), ((q2 18), .inl (w.2.2.1 0, 6, .inl (fun _ => 0))), ((q2 19), .inl (w.2.2.1 0, 384, .inl (fun _ => 0))), ((q2 20), .inr (1, [.ref (q2 21), .ref (q2 22), .ref (q2 23), .ref (q2 24), .ref (q2 25), .int 0, .int 0])), ((q2 21), .inl (w.2.2.1 0, 3072, .inl (fun _ => 0))), ((q2 22), .inl (w.2.2.1 0, 48, .inl (fun _ => 0))), ((q2 23), .inl (w.2.2.1 0, 48, .inl (fun _ => 0))), ((q2 24), .inl (w.2.2.1 0, 8, .inl (fun _ => 0))), ((q2 25), .inl (w.2.2.1 0, 8, .inl (fun _ => 0))), ((q2 26), .inr (4, [.ref (q2 27), .ref (q2 28), .ref (q2 29), .ref (q2 30), .int 0, .int 0, .int 0, .int 0, .int 0])), ((q2 27), .inl (w.2.2.1 0, 60, .inl (fun _ => 0))), ((q2 28), .inl (w.2.2.1 0, 6, .inl (fun _ => 0))), ((q2 29), .inl (w.2.2.1 0, 6, .inl (fun _ => 0))), ((q2 30), .inl (w.2.2.1 0, 6, .inl (fun _ => 0))), ((q2 31), .inl (w.2.2.1 3, 4, .inr (.inr (.inr (.inr (va_up (va_up (va_up (va_up (fun _ => none) (0 : Int32).toNatClampNeg (some (q2 38))) (1 : Int32).toNatClampNeg (some (q2 40))) (2 : Int32).toNatClampNeg (some (q2 42))) (3 : Int32).toNatClampNeg (some (q2 44)))))))), ((q2 32), .inr (3, [.ref (q2 33), .ref (q2 34), .int 0, .int 0])), ((q2 33), .inl (w.2.2.1 0, 384, .inl (fun _ => 0))), ((q2 34), .inl (w.2.2.1 0, 6, .inl (fun _ => 0))), ((q2 35), .inr (5, [.ref (q2 36), .ref (q2 37), .int 0, .int 0, .int 0])), ((q2 36), .inl (w.2.2.1 0, 64, .inl (fun _ => 0))), ((q2 37), .inl (w.2.2.1 0, 64, .inl (fun _ => 0))), ((q2 38), .inr (2, [.ref (q2 39), .int (-1 : Int32), .int 0])), ((q2 39), .inl (w.2.2.1 2, 24, .inr (.inl (fun _ => 0)))), ((q2 40), .inr (2, [.ref (q2 41), .int (-1 : Int32), .int 0])), ((q2 41), .inl (w.2.2.1 2, 24, .inr (.inl (fun _ => 0)))), ((q2 42), .inr (2, [.ref (q2 43), .int (-1 : Int32), .int 0])), ((q2 43), .inl (w.2.2.1 2, 24, .inr (.inl (fun _ => 0)))), ((q2 44), .inr (2, [.ref (q2 45), .int (-1 : Int32), .int 0])), ((q2 45), .inl (w.2.2.1 2, 24, .inr (.inl (fun _ => 0)))), (a3, .inr (7, [.ref (q4 0), .ref (q4 1), .ref (q4 2), .int 0, .int 0, .int 0, .ref (q4 3), .ref (q4 4), .int 0, .ref (q4 5), .ref (q4 6), .ref (q4 7), .ref (q4 8), .int 0, .int 0, .ref (q4 9), .ref (q4 10), .ref (q4 11), .ref (q4 12)])), ((q4 0), .inl (w.2.2.1 0, 416, .inl (upd (upd (upd (upd (upd (upd (fun _ => 0) (0 : Int32).toNatClampNeg (3 : Int32)) (1 : Int32).toNatClampNeg (2 : Int32)) (2 : Int32).toNatClampNeg (1 : Int32)) (3 : Int32).toNatClampNeg (6 : Int32)) (4 : Int32).toNatClampNeg (2 : Int32)) (7 : Int32).toNatClampNeg (1 : Int32)))), ((q4 1), .inl (w.2.2.1 0, 64, .inl (fun _ => 0))), ((q4 2), .inl (w.2.2.1 0, 60, .inl (fun _ => 0))), ((q4 3), .inl (w.2.2.1 0, 18, .inl (fun _ => 0))), ((q4 4), .inl (w.2.2.1 0, 3328, .inl (fun _ => 0))), ((q4 5), .inl (w.2.2.1 0, 416, .inl (fun _ => 0))), ((q4 6), .inl (w.2.2.1 1, 64, .inl (fun _ => 0))), ((q4 7), .inl (w.2.2.1 0, 64, .inl (fun _ => 0))), ((q4 8), .inl (w.2.2.1 0, 3744, .inl (fun _ => 0))), ((q4 9), .inl (w.2.2.1 0, 4, .inl (upd (upd (upd (upd (fun _ => 0) (0 : Int32).toNatClampNeg (-1 : Int32)) (1 : Int32).toNatClampNeg (-1 : Int32)) (2 : Int32).toNatClampNeg (-1 : Int32)) (3 : Int32).toNatClampNeg (-1 : Int32)))), ((q4 10), .inl (w.2.2.1 0, 4, .inl (fun _ => 0))), ((q4 11), .inl (w.2.2.1 2, 96, .inr (.inl (fun _ => 0)))), ((q4 12), .inl (w.2.2.1 2, 24, .inr (.inl (fun _ => 0))))]
def lwA (a1 : Nat) (a3 : Nat) (q2 : Nat → Nat) (q4 : Nat → Nat) : Nat → Nat := fun k => ([a1, q2 0, q2 1, q2 2, q2 3, q2 4, q2 5, q2 6, q2 7, q2 8, q2 9, q2 10, q2 11, q2 12, q2 13, q2 14, q2 15, q2 16, q2 17, q2 18, q2 19, q2 20, q2 21, q2 22, q2 23, q2 24, q2 25, q2 26, q2 27, q2 28, q2 29, q2 30, q2 31, q2 38, q2 40, q2 42, q2 44, q2 39, q2 41, q2 43, q2 45, q2 32, q2 33, q2 34, q2 35, q2 36, q2 37, a3, q4 0, q4 1, q4 2, q4 3, q4 4, q4 5, q4 6, q4 7, q4 8, q4 9, q4 10, q4 11, q4 12] : List Nat).getD k 0
abbrev lwD (w : gWd) (a1 : Nat) (a3 : Nat) (q2 : Nat → Nat) (q4 : Nat → Nat) : gWd := (w.1, lwA a1 a3 q2 q4, w.2.2.1, w.2.2.2)
section LW
variable {w : gWd} {a1 : Nat} {a3 : Nat} {q2 : Nat → Nat} {q4 : Nat → Nat} {H : Heap} {A : Nat → Prop}
theorem lw_g0 : (lwW w a1 a3 q2 q4)[0]? = some (a1, .inr (6, [.ref (q2 0), .ref (q2 13), .int 0, .ref (q2 26), .ref (q2 31), .ref (q2 32), .ref (q2 35)])) := rfl
theorem lw_a0 : lwA a1 a3 q2 q4 0 = a1 := rfl
theorem lw_e0 : gE (lwD w a1 a3 q2 q4) gS0 0 (.inl (6, [some 1, some 14, none, some 27, some 32, some 41, some 44])) = .inr (6, [.ref (q2 0), .ref (q2 13), .int 0, .ref (q2 26), .ref (q2 31), .ref (q2 32), .ref (q2 35)]) := rfl
theorem lw_c0 (hP : va_P w.1 vwCl (lwW w a1 a3 q2 q4) H) : ∀ shp, gSH[0]? = some shp → va_at w.1 vwCl ((lwD w a1 a3 q2 q4).2.1 0, gE (lwD w a1 a3 q2 q4) gS0 0 shp) H := by
  intro shp hs
  obtain rfl := Option.some.inj (sh_0.symm.trans hs)
  rw [lw_e0]
  exact hP 0 _ lw_g0
theorem lw_g1 : (lwW w a1 a3 q2 q4)[1]? = some ((q2 0), .inr (0, [.ref (q2 1), .ref (q2 2), .ref (q2 3), .ref (q2 4), .ref (q2 5), .ref (q2 6), .ref (q2 7), .int 0, .int 0, .int (1 : Int32)])) := rfl
theorem lw_a1 : lwA a1 a3 q2 q4 1 = (q2 0) := rfl
theorem lw_e1 : gE (lwD w a1 a3 q2 q4) gS0 1 (.inl (0, [some 2, some 3, some 4, some 5, some 6, some 7, some 8, none, none, none])) = .inr (0, [.ref (q2 1), .ref (q2 2), .ref (q2 3), .ref (q2 4), .ref (q2 5), .ref (q2 6), .ref (q2 7), .int 0, .int 0, .int (1 : Int32)]) := rfl
theorem lw_c1 (hP : va_P w.1 vwCl (lwW w a1 a3 q2 q4) H) : ∀ shp, gSH[1]? = some shp → va_at w.1 vwCl ((lwD w a1 a3 q2 q4).2.1 1, gE (lwD w a1 a3 q2 q4) gS0 1 shp) H := by
  intro shp hs
  obtain rfl := Option.some.inj (sh_1.symm.trans hs)
  rw [lw_e1]
  exact hP 1 _ lw_g1
theorem lw_g2 : (lwW w a1 a3 q2 q4)[2]? = some ((q2 1), .inl (w.2.2.1 0, 5, .inl (upd (upd (upd (upd (upd (fun _ => 0) (0 : Int32).toNatClampNeg (3 : Int32)) (1 : Int32).toNatClampNeg (2 : Int32)) (2 : Int32).toNatClampNeg (1 : Int32)) (3 : Int32).toNatClampNeg (6 : Int32)) (4 : Int32).toNatClampNeg (2 : Int32)))) := rfl
theorem lw_a2 : lwA a1 a3 q2 q4 2 = (q2 1) := rfl
theorem lw_e2 : gE (lwD w a1 a3 q2 q4) gS0 2 (.inr (0, 5, 0)) = .inl (w.2.2.1 0, 5, .inl (upd (upd (upd (upd (upd (fun _ => 0) (0 : Int32).toNatClampNeg (3 : Int32)) (1 : Int32).toNatClampNeg (2 : Int32)) (2 : Int32).toNatClampNeg (1 : Int32)) (3 : Int32).toNatClampNeg (6 : Int32)) (4 : Int32).toNatClampNeg (2 : Int32))) := rfl
theorem lw_c2 (hP : va_P w.1 vwCl (lwW w a1 a3 q2 q4) H) : ∀ shp, gSH[2]? = some shp → va_at w.1 vwCl ((lwD w a1 a3 q2 q4).2.1 2, gE (lwD w a1 a3 q2 q4) gS0 2 shp) H := by
  intro shp hs
  obtain rfl := Option.some.inj (sh_2.symm.trans hs)
  rw [lw_e2]
  exact hP 2 _ lw_g2
theorem lw_g3 : (lwW w a1 a3 q2 q4)[3]? = some ((q2 2), .inl (w.2.2.1 0, 6, .inl (fun _ => 0))) := rfl
theorem lw_a3 : lwA a1 a3 q2 q4 3 = (q2 2) := rfl
theorem lw_e3 : gE (lwD w a1 a3 q2 q4) gS0 3 (.inr (0, 6, 0)) = .inl (w.2.2.1 0, 6, .inl (fun _ => 0)) := rfl
theorem lw_c3 (hP : va_P w.1 vwCl (lwW w a1 a3 q2 q4) H) : ∀ shp, gSH[3]? = some shp → va_at w.1 vwCl ((lwD w a1 a3 q2 q4).2.1 3, gE (lwD w a1 a3 q2 q4) gS0 3 shp) H := by
  intro shp hs
  obtain rfl := Option.some.inj (sh_3.symm.trans hs)
  rw [lw_e3]
  exact hP 3 _ lw_g3
theorem lw_g4 : (lwW w a1 a3 q2 q4)[4]? = some ((q2 3), .inl (w.2.2.1 0, 6, .inl (fun _ => 0))) := rfl
theorem lw_a4 : lwA a1 a3 q2 q4 4 = (q2 3) := rfl
theorem lw_e4 : gE (lwD w a1 a3 q2 q4) gS0 4 (.inr (0, 6, 0)) = .inl (w.2.2.1 0, 6, .inl (fun _ => 0)) := rfl
theorem lw_c4 (hP : va_P w.1 vwCl (lwW w a1 a3 q2 q4) H) : ∀ shp, gSH[4]? = some shp → va_at w.1 vwCl ((lwD w a1 a3 q2 q4).2.1 4, gE (lwD w a1 a3 q2 q4) gS0 4 shp) H := by
  intro shp hs
  obtain rfl := Option.some.inj (sh_4.symm.trans hs)
  rw [lw_e4]
  exact hP 4 _ lw_g4
theorem lw_g5 : (lwW w a1 a3 q2 q4)[5]? = some ((q2 4), .inl (w.2.2.1 0, 6, .inl (fun _ => 0))) := rfl
theorem lw_a5 : lwA a1 a3 q2 q4 5 = (q2 4) := rfl
theorem lw_e5 : gE (lwD w a1 a3 q2 q4) gS0 5 (.inr (0, 6, 0)) = .inl (w.2.2.1 0, 6, .inl (fun _ => 0)) := rfl
theorem lw_c5 (hP : va_P w.1 vwCl (lwW w a1 a3 q2 q4) H) : ∀ shp, gSH[5]? = some shp → va_at w.1 vwCl ((lwD w a1 a3 q2 q4).2.1 5, gE (lwD w a1 a3 q2 q4) gS0 5 shp) H := by
  intro shp hs
  obtain rfl := Option.some.inj (sh_5.symm.trans hs)
  rw [lw_e5]
  exact hP 5 _ lw_g5
theorem lw_g6 : (lwW w a1 a3 q2 q4)[6]? = some ((q2 5), .inl (w.2.2.1 0, 6, .inl (fun _ => 0))) := rfl
theorem lw_a6 : lwA a1 a3 q2 q4 6 = (q2 5) := rfl
theorem lw_e6 : gE (lwD w a1 a3 q2 q4) gS0 6 (.inr (0, 6, 0)) = .inl (w.2.2.1 0, 6, .inl (fun _ => 0)) := rfl
theorem lw_c6 (hP : va_P w.1 vwCl (lwW w a1 a3 q2 q4) H) : ∀ shp, gSH[6]? = some shp → va_at w.1 vwCl ((lwD w a1 a3 q2 q4).2.1 6, gE (lwD w a1 a3 q2 q4) gS0 6 shp) H := by
  intro shp hs
  obtain rfl := Option.some.inj (sh_6.symm.trans hs)
  rw [lw_e6]
  exact hP 6 _ lw_g6
theorem lw_g7 : (lwW w a1 a3 q2 q4)[7]? = some ((q2 6), .inl (w.2.2.1 0, 384, .inl (fun _ => 0))) := rfl
theorem lw_a7 : lwA a1 a3 q2 q4 7 = (q2 6) := rfl
theorem lw_e7 : gE (lwD w a1 a3 q2 q4) gS0 7 (.inr (0, 384, 0)) = .inl (w.2.2.1 0, 384, .inl (fun _ => 0)) := rfl
theorem lw_c7 (hP : va_P w.1 vwCl (lwW w a1 a3 q2 q4) H) : ∀ shp, gSH[7]? = some shp → va_at w.1 vwCl ((lwD w a1 a3 q2 q4).2.1 7, gE (lwD w a1 a3 q2 q4) gS0 7 shp) H := by
  intro shp hs
  obtain rfl := Option.some.inj (sh_7.symm.trans hs)
  rw [lw_e7]
  exact hP 7 _ lw_g7
theorem lw_g8 : (lwW w a1 a3 q2 q4)[8]? = some ((q2 7), .inr (1, [.ref (q2 8), .ref (q2 9), .ref (q2 10), .ref (q2 11), .ref (q2 12), .int 0, .int 0])) := rfl
theorem lw_a8 : lwA a1 a3 q2 q4 8 = (q2 7) := rfl
theorem lw_e8 : gE (lwD w a1 a3 q2 q4) gS0 8 (.inl (1, [some 9, some 10, some 11, some 12, some 13, none, none])) = .inr (1, [.ref (q2 8), .ref (q2 9), .ref (q2 10), .ref (q2 11), .ref (q2 12), .int 0, .int 0]) := rfl
theorem lw_c8 (hP : va_P w.1 vwCl (lwW w a1 a3 q2 q4) H) : ∀ shp, gSH[8]? = some shp → va_at w.1 vwCl ((lwD w a1 a3 q2 q4).2.1 8, gE (lwD w a1 a3 q2 q4) gS0 8 shp) H := by
  intro shp hs
  obtain rfl := Option.some.inj (sh_8.symm.trans hs)
  rw [lw_e8]
  exact hP 8 _ lw_g8
theorem lw_g9 : (lwW w a1 a3 q2 q4)[9]? = some ((q2 8), .inl (w.2.2.1 0, 3072, .inl (fun _ => 0))) := rfl
theorem lw_a9 : lwA a1 a3 q2 q4 9 = (q2 8) := rfl
theorem lw_e9 : gE (lwD w a1 a3 q2 q4) gS0 9 (.inr (0, 3072, 0)) = .inl (w.2.2.1 0, 3072, .inl (fun _ => 0)) := rfl
theorem lw_c9 (hP : va_P w.1 vwCl (lwW w a1 a3 q2 q4) H) : ∀ shp, gSH[9]? = some shp → va_at w.1 vwCl ((lwD w a1 a3 q2 q4).2.1 9, gE (lwD w a1 a3 q2 q4) gS0 9 shp) H := by
  intro shp hs
  obtain rfl := Option.some.inj (sh_9.symm.trans hs)
  rw [lw_e9]
  exact hP 9 _ lw_g9
theorem lw_g10 : (lwW w a1 a3 q2 q4)[10]? = some ((q2 9), .inl (w.2.2.1 0, 48, .inl (fun _ => 0))) := rfl
theorem lw_a10 : lwA a1 a3 q2 q4 10 = (q2 9) := rfl
theorem lw_e10 : gE (lwD w a1 a3 q2 q4) gS0 10 (.inr (0, 48, 0)) = .inl (w.2.2.1 0, 48, .inl (fun _ => 0)) := rfl
theorem lw_c10 (hP : va_P w.1 vwCl (lwW w a1 a3 q2 q4) H) : ∀ shp, gSH[10]? = some shp → va_at w.1 vwCl ((lwD w a1 a3 q2 q4).2.1 10, gE (lwD w a1 a3 q2 q4) gS0 10 shp) H := by
  intro shp hs
  obtain rfl := Option.some.inj (sh_10.symm.trans hs)
  rw [lw_e10]
  exact hP 10 _ lw_g10
theorem lw_g11 : (lwW w a1 a3 q2 q4)[11]? = some ((q2 10), .inl (w.2.2.1 0, 48, .inl (fun _ => 0))) := rfl
theorem lw_a11 : lwA a1 a3 q2 q4 11 = (q2 10) := rfl
theorem lw_e11 : gE (lwD w a1 a3 q2 q4) gS0 11 (.inr (0, 48, 0)) = .inl (w.2.2.1 0, 48, .inl (fun _ => 0)) := rfl
theorem lw_c11 (hP : va_P w.1 vwCl (lwW w a1 a3 q2 q4) H) : ∀ shp, gSH[11]? = some shp → va_at w.1 vwCl ((lwD w a1 a3 q2 q4).2.1 11, gE (lwD w a1 a3 q2 q4) gS0 11 shp) H := by
  intro shp hs
  obtain rfl := Option.some.inj (sh_11.symm.trans hs)
  rw [lw_e11]
  exact hP 11 _ lw_g11
theorem lw_g12 : (lwW w a1 a3 q2 q4)[12]? = some ((q2 11), .inl (w.2.2.1 0, 8, .inl (fun _ => 0))) := rfl
theorem lw_a12 : lwA a1 a3 q2 q4 12 = (q2 11) := rfl
theorem lw_e12 : gE (lwD w a1 a3 q2 q4) gS0 12 (.inr (0, 8, 0)) = .inl (w.2.2.1 0, 8, .inl (fun _ => 0)) := rfl
theorem lw_c12 (hP : va_P w.1 vwCl (lwW w a1 a3 q2 q4) H) : ∀ shp, gSH[12]? = some shp → va_at w.1 vwCl ((lwD w a1 a3 q2 q4).2.1 12, gE (lwD w a1 a3 q2 q4) gS0 12 shp) H := by
  intro shp hs
  obtain rfl := Option.some.inj (sh_12.symm.trans hs)
  rw [lw_e12]
  exact hP 12 _ lw_g12
theorem lw_g13 : (lwW w a1 a3 q2 q4)[13]? = some ((q2 12), .inl (w.2.2.1 0, 8, .inl (fun _ => 0))) := rfl
theorem lw_a13 : lwA a1 a3 q2 q4 13 = (q2 12) := rfl
theorem lw_e13 : gE (lwD w a1 a3 q2 q4) gS0 13 (.inr (0, 8, 0)) = .inl (w.2.2.1 0, 8, .inl (fun _ => 0)) := rfl
theorem lw_c13 (hP : va_P w.1 vwCl (lwW w a1 a3 q2 q4) H) : ∀ shp, gSH[13]? = some shp → va_at w.1 vwCl ((lwD w a1 a3 q2 q4).2.1 13, gE (lwD w a1 a3 q2 q4) gS0 13 shp) H := by
  intro shp hs
  obtain rfl := Option.some.inj (sh_13.symm.trans hs)
  rw [lw_e13]
  exact hP 13 _ lw_g13
theorem lw_g14 : (lwW w a1 a3 q2 q4)[14]? = some ((q2 13), .inr (0, [.ref (q2 14), .ref (q2 15), .ref (q2 16), .ref (q2 17), .ref (q2 18), .ref (q2 19), .ref (q2 20), .int 0, .int 0, .int (1 : Int32)])) := rfl
theorem lw_a14 : lwA a1 a3 q2 q4 14 = (q2 13) := rfl
theorem lw_e14 : gE (lwD w a1 a3 q2 q4) gS0 14 (.inl (0, [some 15, some 16, some 17, some 18, some 19, some 20, some 21, none, none, none])) = .inr (0, [.ref (q2 14), .ref (q2 15), .ref (q2 16), .ref (q2 17), .ref (q2 18), .ref (q2 19), .ref (q2 20), .int 0, .int 0, .int (1 : Int32)]) := rfl
theorem lw_c14 (hP : va_P w.1 vwCl (lwW w a1 a3 q2 q4) H) : ∀ shp, gSH[14]? = some shp → va_at w.1 vwCl ((lwD w a1 a3 q2 q4).2.1 14, gE (lwD w a1 a3 q2 q4) gS0 14 shp) H := by
  intro shp hs
  obtain rfl := Option.some.inj (sh_14.symm.trans hs)
  rw [lw_e14]
  exact hP 14 _ lw_g14
theorem lw_g15 : (lwW w a1 a3 q2 q4)[15]? = some ((q2 14), .inl (w.2.2.1 0, 5, .inl (upd (upd (upd (upd (upd (fun _ => 0) (0 : Int32).toNatClampNeg (3 : Int32)) (1 : Int32).toNatClampNeg (2 : Int32)) (2 : Int32).toNatClampNeg (1 : Int32)) (3 : Int32).toNatClampNeg (6 : Int32)) (4 : Int32).toNatClampNeg (2 : Int32)))) := rfl
theorem lw_a15 : lwA a1 a3 q2 q4 15 = (q2 14) := rfl
theorem lw_e15 : gE (lwD w a1 a3 q2 q4) gS0 15 (.inr (0, 5, 0)) = .inl (w.2.2.1 0, 5, .inl (upd (upd (upd (upd (upd (fun _ => 0) (0 : Int32).toNatClampNeg (3 : Int32)) (1 : Int32).toNatClampNeg (2 : Int32)) (2 : Int32).toNatClampNeg (1 : Int32)) (3 : Int32).toNatClampNeg (6 : Int32)) (4 : Int32).toNatClampNeg (2 : Int32))) := rfl
theorem lw_c15 (hP : va_P w.1 vwCl (lwW w a1 a3 q2 q4) H) : ∀ shp, gSH[15]? = some shp → va_at w.1 vwCl ((lwD w a1 a3 q2 q4).2.1 15, gE (lwD w a1 a3 q2 q4) gS0 15 shp) H := by
  intro shp hs
  obtain rfl := Option.some.inj (sh_15.symm.trans hs)
  rw [lw_e15]
  exact hP 15 _ lw_g15
theorem lw_g16 : (lwW w a1 a3 q2 q4)[16]? = some ((q2 15), .inl (w.2.2.1 0, 6, .inl (fun _ => 0))) := rfl
theorem lw_a16 : lwA a1 a3 q2 q4 16 = (q2 15) := rfl
theorem lw_e16 : gE (lwD w a1 a3 q2 q4) gS0 16 (.inr (0, 6, 0)) = .inl (w.2.2.1 0, 6, .inl (fun _ => 0)) := rfl
theorem lw_c16 (hP : va_P w.1 vwCl (lwW w a1 a3 q2 q4) H) : ∀ shp, gSH[16]? = some shp → va_at w.1 vwCl ((lwD w a1 a3 q2 q4).2.1 16, gE (lwD w a1 a3 q2 q4) gS0 16 shp) H := by
  intro shp hs
  obtain rfl := Option.some.inj (sh_16.symm.trans hs)
  rw [lw_e16]
  exact hP 16 _ lw_g16
theorem lw_g17 : (lwW w a1 a3 q2 q4)[17]? = some ((q2 16), .inl (w.2.2.1 0, 6, .inl (fun _ => 0))) := rfl
theorem lw_a17 : lwA a1 a3 q2 q4 17 = (q2 16) := rfl
theorem lw_e17 : gE (lwD w a1 a3 q2 q4) gS0 17 (.inr (0, 6, 0)) = .inl (w.2.2.1 0, 6, .inl (fun _ => 0)) := rfl
theorem lw_c17 (hP : va_P w.1 vwCl (lwW w a1 a3 q2 q4) H) : ∀ shp, gSH[17]? = some shp → va_at w.1 vwCl ((lwD w a1 a3 q2 q4).2.1 17, gE (lwD w a1 a3 q2 q4) gS0 17 shp) H := by
  intro shp hs
  obtain rfl := Option.some.inj (sh_17.symm.trans hs)
  rw [lw_e17]
  exact hP 17 _ lw_g17
theorem lw_g18 : (lwW w a1 a3 q2 q4)[18]? = some ((q2 17), .inl (w.2.2.1 0, 6, .inl (fun _ => 0))) := rfl
theorem lw_a18 : lwA a1 a3 q2 q4 18 = (q2 17) := rfl
theorem lw_e18 : gE (lwD w a1 a3 q2 q4) gS0 18 (.inr (0, 6, 0)) = .inl (w.2.2.1 0, 6, .inl (fun _ => 0)) := rfl
theorem lw_c18 (hP : va_P w.1 vwCl (lwW w a1 a3 q2 q4) H) : ∀ shp, gSH[18]? = some shp → va_at w.1 vwCl ((lwD w a1 a3 q2 q4).2.1 18, gE (lwD w a1 a3 q2 q4) gS0 18 shp) H := by
  intro shp hs
  obtain rfl := Option.some.inj (sh_18.symm.trans hs)
  rw [lw_e18]
  exact hP 18 _ lw_g18
theorem lw_g19 : (lwW w a1 a3 q2 q4)[19]? = some ((q2 18), .inl (w.2.2.1 0, 6, .inl (fun _ => 0))) := rfl
theorem lw_a19 : lwA a1 a3 q2 q4 19 = (q2 18) := rfl
theorem lw_e19 : gE (lwD w a1 a3 q2 q4) gS0 19 (.inr (0, 6, 0)) = .inl (w.2.2.1 0, 6, .inl (fun _ => 0)) := rfl
theorem lw_c19 (hP : va_P w.1 vwCl (lwW w a1 a3 q2 q4) H) : ∀ shp, gSH[19]? = some shp → va_at w.1 vwCl ((lwD w a1 a3 q2 q4).2.1 19, gE (lwD w a1 a3 q2 q4) gS0 19 shp) H := by
  intro shp hs
  obtain rfl := Option.some.inj (sh_19.symm.trans hs)
  rw [lw_e19]
  exact hP 19 _ lw_g19
theorem lw_g20 : (lwW w a1 a3 q2 q4)[20]? = some ((q2 19), .inl (w.2.2.1 0, 384, .inl (fun _ => 0))) := rfl
theorem lw_a20 : lwA a1 a3 q2 q4 20 = (q2 19) := rfl
theorem lw_e20 : gE (lwD w a1 a3 q2 q4) gS0 20 (.inr (0, 384, 0)) = .inl (w.2.2.1 0, 384, .inl (fun _ => 0)) := rfl
theorem lw_c20 (hP : va_P w.1 vwCl (lwW w a1 a3 q2 q4) H) : ∀ shp, gSH[20]? = some shp → va_at w.1 vwCl ((lwD w a1 a3 q2 q4).2.1 20, gE (lwD w a1 a3 q2 q4) gS0 20 shp) H := by
  intro shp hs
  obtain rfl := Option.some.inj (sh_20.symm.trans hs)
  rw [lw_e20]
  exact hP 20 _ lw_g20
theorem lw_g21 : (lwW w a1 a3 q2 q4)[21]? = some ((q2 20), .inr (1, [.ref (q2 21), .ref (q2 22), .ref (q2 23), .ref (q2 24), .ref (q2 25), .int 0, .int 0])) := rfl
theorem lw_a21 : lwA a1 a3 q2 q4 21 = (q2 20) := rfl
theorem lw_e21 : gE (lwD w a1 a3 q2 q4) gS0 21 (.inl (1, [some 22, some 23, some 24, some 25, some 26, none, none])) = .inr (1, [.ref (q2 21), .ref (q2 22), .ref (q2 23), .ref (q2 24), .ref (q2 25), .int 0, .int 0]) := rfl
theorem lw_c21 (hP : va_P w.1 vwCl (lwW w a1 a3 q2 q4) H) : ∀ shp, gSH[21]? = some shp → va_at w.1 vwCl ((lwD w a1 a3 q2 q4).2.1 21, gE (lwD w a1 a3 q2 q4) gS0 21 shp) H := by
  intro shp hs
  obtain rfl := Option.some.inj (sh_21.symm.trans hs)
  rw [lw_e21]
  exact hP 21 _ lw_g21
theorem lw_g22 : (lwW w a1 a3 q2 q4)[22]? = some ((q2 21), .inl (w.2.2.1 0, 3072, .inl (fun _ => 0))) := rfl
theorem lw_a22 : lwA a1 a3 q2 q4 22 = (q2 21) := rfl
theorem lw_e22 : gE (lwD w a1 a3 q2 q4) gS0 22 (.inr (0, 3072, 0)) = .inl (w.2.2.1 0, 3072, .inl (fun _ => 0)) := rfl
theorem lw_c22 (hP : va_P w.1 vwCl (lwW w a1 a3 q2 q4) H) : ∀ shp, gSH[22]? = some shp → va_at w.1 vwCl ((lwD w a1 a3 q2 q4).2.1 22, gE (lwD w a1 a3 q2 q4) gS0 22 shp) H := by
  intro shp hs
  obtain rfl := Option.some.inj (sh_22.symm.trans hs)
  rw [lw_e22]
  exact hP 22 _ lw_g22
theorem lw_g23 : (lwW w a1 a3 q2 q4)[23]? = some ((q2 22), .inl (w.2.2.1 0, 48, .inl (fun _ => 0))) := rfl
theorem lw_a23 : lwA a1 a3 q2 q4 23 = (q2 22) := rfl
theorem lw_e23 : gE (lwD w a1 a3 q2 q4) gS0 23 (.inr (0, 48, 0)) = .inl (w.2.2.1 0, 48, .inl (fun _ => 0)) := rfl
theorem lw_c23 (hP : va_P w.1 vwCl (lwW w a1 a3 q2 q4) H) : ∀ shp, gSH[23]? = some shp → va_at w.1 vwCl ((lwD w a1 a3 q2 q4).2.1 23, gE (lwD w a1 a3 q2 q4) gS0 23 shp) H := by
  intro shp hs
  obtain rfl := Option.some.inj (sh_23.symm.trans hs)
  rw [lw_e23]
  exact hP 23 _ lw_g23
theorem lw_g24 : (lwW w a1 a3 q2 q4)[24]? = some ((q2 23), .inl (w.2.2.1 0, 48, .inl (fun _ => 0))) := rfl
theorem lw_a24 : lwA a1 a3 q2 q4 24 = (q2 23) := rfl
theorem lw_e24 : gE (lwD w a1 a3 q2 q4) gS0 24 (.inr (0, 48, 0)) = .inl (w.2.2.1 0, 48, .inl (fun _ => 0)) := rfl
theorem lw_c24 (hP : va_P w.1 vwCl (lwW w a1 a3 q2 q4) H) : ∀ shp, gSH[24]? = some shp → va_at w.1 vwCl ((lwD w a1 a3 q2 q4).2.1 24, gE (lwD w a1 a3 q2 q4) gS0 24 shp) H := by
  intro shp hs
  obtain rfl := Option.some.inj (sh_24.symm.trans hs)
  rw [lw_e24]
  exact hP 24 _ lw_g24
theorem lw_g25 : (lwW w a1 a3 q2 q4)[25]? = some ((q2 24), .inl (w.2.2.1 0, 8, .inl (fun _ => 0))) := rfl
theorem lw_a25 : lwA a1 a3 q2 q4 25 = (q2 24) := rfl
theorem lw_e25 : gE (lwD w a1 a3 q2 q4) gS0 25 (.inr (0, 8, 0)) = .inl (w.2.2.1 0, 8, .inl (fun _ => 0)) := rfl
theorem lw_c25 (hP : va_P w.1 vwCl (lwW w a1 a3 q2 q4) H) : ∀ shp, gSH[25]? = some shp → va_at w.1 vwCl ((lwD w a1 a3 q2 q4).2.1 25, gE (lwD w a1 a3 q2 q4) gS0 25 shp) H := by
  intro shp hs
  obtain rfl := Option.some.inj (sh_25.symm.trans hs)
  rw [lw_e25]
  exact hP 25 _ lw_g25
theorem lw_g26 : (lwW w a1 a3 q2 q4)[26]? = some ((q2 25), .inl (w.2.2.1 0, 8, .inl (fun _ => 0))) := rfl
theorem lw_a26 : lwA a1 a3 q2 q4 26 = (q2 25) := rfl
theorem lw_e26 : gE (lwD w a1 a3 q2 q4) gS0 26 (.inr (0, 8, 0)) = .inl (w.2.2.1 0, 8, .inl (fun _ => 0)) := rfl
theorem lw_c26 (hP : va_P w.1 vwCl (lwW w a1 a3 q2 q4) H) : ∀ shp, gSH[26]? = some shp → va_at w.1 vwCl ((lwD w a1 a3 q2 q4).2.1 26, gE (lwD w a1 a3 q2 q4) gS0 26 shp) H := by
  intro shp hs
  obtain rfl := Option.some.inj (sh_26.symm.trans hs)
  rw [lw_e26]
  exact hP 26 _ lw_g26
theorem lw_g27 : (lwW w a1 a3 q2 q4)[27]? = some ((q2 26), .inr (4, [.ref (q2 27), .ref (q2 28), .ref (q2 29), .ref (q2 30), .int 0, .int 0, .int 0, .int 0, .int 0])) := rfl
theorem lw_a27 : lwA a1 a3 q2 q4 27 = (q2 26) := rfl
theorem lw_e27 : gE (lwD w a1 a3 q2 q4) gS0 27 (.inl (4, [some 28, some 29, some 30, some 31, none, none, none, none, none])) = .inr (4, [.ref (q2 27), .ref (q2 28), .ref (q2 29), .ref (q2 30), .int 0, .int 0, .int 0, .int 0, .int 0]) := rfl
theorem lw_c27 (hP : va_P w.1 vwCl (lwW w a1 a3 q2 q4) H) : ∀ shp, gSH[27]? = some shp → va_at w.1 vwCl ((lwD w a1 a3 q2 q4).2.1 27, gE (lwD w a1 a3 q2 q4) gS0 27 shp) H := by
  intro shp hs
  obtain rfl := Option.some.inj (sh_27.symm.trans hs)
  rw [lw_e27]
  exact hP 27 _ lw_g27
theorem lw_g28 : (lwW w a1 a3 q2 q4)[28]? = some ((q2 27), .inl (w.2.2.1 0, 60, .inl (fun _ => 0))) := rfl
theorem lw_a28 : lwA a1 a3 q2 q4 28 = (q2 27) := rfl
theorem lw_e28 : gE (lwD w a1 a3 q2 q4) gS0 28 (.inr (0, 60, 0)) = .inl (w.2.2.1 0, 60, .inl (fun _ => 0)) := rfl
theorem lw_c28 (hP : va_P w.1 vwCl (lwW w a1 a3 q2 q4) H) : ∀ shp, gSH[28]? = some shp → va_at w.1 vwCl ((lwD w a1 a3 q2 q4).2.1 28, gE (lwD w a1 a3 q2 q4) gS0 28 shp) H := by
  intro shp hs
  obtain rfl := Option.some.inj (sh_28.symm.trans hs)
  rw [lw_e28]
  exact hP 28 _ lw_g28
theorem lw_g29 : (lwW w a1 a3 q2 q4)[29]? = some ((q2 28), .inl (w.2.2.1 0, 6, .inl (fun _ => 0))) := rfl
theorem lw_a29 : lwA a1 a3 q2 q4 29 = (q2 28) := rfl
theorem lw_e29 : gE (lwD w a1 a3 q2 q4) gS0 29 (.inr (0, 6, 0)) = .inl (w.2.2.1 0, 6, .inl (fun _ => 0)) := rfl
theorem lw_c29 (hP : va_P w.1 vwCl (lwW w a1 a3 q2 q4) H) : ∀ shp, gSH[29]? = some shp → va_at w.1 vwCl ((lwD w a1 a3 q2 q4).2.1 29, gE (lwD w a1 a3 q2 q4) gS0 29 shp) H := by
  intro shp hs
  obtain rfl := Option.some.inj (sh_29.symm.trans hs)
  rw [lw_e29]
  exact hP 29 _ lw_g29
theorem lw_g30 : (lwW w a1 a3 q2 q4)[30]? = some ((q2 29), .inl (w.2.2.1 0, 6, .inl (fun _ => 0))) := rfl
theorem lw_a30 : lwA a1 a3 q2 q4 30 = (q2 29) := rfl
theorem lw_e30 : gE (lwD w a1 a3 q2 q4) gS0 30 (.inr (0, 6, 0)) = .inl (w.2.2.1 0, 6, .inl (fun _ => 0)) := rfl
theorem lw_c30 (hP : va_P w.1 vwCl (lwW w a1 a3 q2 q4) H) : ∀ shp, gSH[30]? = some shp → va_at w.1 vwCl ((lwD w a1 a3 q2 q4).2.1 30, gE (lwD w a1 a3 q2 q4) gS0 30 shp) H := by
  intro shp hs
  obtain rfl := Option.some.inj (sh_30.symm.trans hs)
  rw [lw_e30]
  exact hP 30 _ lw_g30
theorem lw_g31 : (lwW w a1 a3 q2 q4)[31]? = some ((q2 30), .inl (w.2.2.1 0, 6, .inl (fun _ => 0))) := rfl
theorem lw_a31 : lwA a1 a3 q2 q4 31 = (q2 30) := rfl
theorem lw_e31 : gE (lwD w a1 a3 q2 q4) gS0 31 (.inr (0, 6, 0)) = .inl (w.2.2.1 0, 6, .inl (fun _ => 0)) := rfl
theorem lw_c31 (hP : va_P w.1 vwCl (lwW w a1 a3 q2 q4) H) : ∀ shp, gSH[31]? = some shp → va_at w.1 vwCl ((lwD w a1 a3 q2 q4).2.1 31, gE (lwD w a1 a3 q2 q4) gS0 31 shp) H := by
  intro shp hs
  obtain rfl := Option.some.inj (sh_31.symm.trans hs)
  rw [lw_e31]
  exact hP 31 _ lw_g31
theorem lw_g32 : (lwW w a1 a3 q2 q4)[32]? = some ((q2 31), .inl (w.2.2.1 3, 4, .inr (.inr (.inr (.inr (va_up (va_up (va_up (va_up (fun _ => none) (0 : Int32).toNatClampNeg (some (q2 38))) (1 : Int32).toNatClampNeg (some (q2 40))) (2 : Int32).toNatClampNeg (some (q2 42))) (3 : Int32).toNatClampNeg (some (q2 44)))))))) := rfl
theorem lw_a32 : lwA a1 a3 q2 q4 32 = (q2 31) := rfl
theorem lw_c32 (hP : va_P w.1 vwCl (lwW w a1 a3 q2 q4) H) : ∀ shp, gSH[32]? = some shp → va_at w.1 vwCl ((lwD w a1 a3 q2 q4).2.1 32, gE (lwD w a1 a3 q2 q4) gS0 32 shp) H := by
  intro shp hs
  obtain rfl := Option.some.inj (sh_32.symm.trans hs)
  have h1 := hP 32 _ (lw_g32 (w := w) (a1 := a1) (a3 := a3) (q2 := q2) (q4 := q4))
  refine Eq.trans h1 (congrArg some ?_)
  show vp_cell (w.2.2.1 3) (4, .inr (.inr (.inr (.inr _)))) = vp_cell (w.2.2.1 3) (4, .inr (.inr (.inr (.inr _))))
  rw [vp_cell_q, vp_cell_q]
  unfold arrV
  refine congrArg (fun a => ({ cls := w.2.2.1 3, slots := a, vm := .none } : Cell)) (congrArg (fun f => Array.ofFn (n := 4) f) (funext fun j => ?_))
  match j with
  | ⟨0, _⟩ => rfl
  | ⟨1, _⟩ => rfl
  | ⟨2, _⟩ => rfl
  | ⟨3, _⟩ => rfl
theorem lw_g33 : (lwW w a1 a3 q2 q4)[39]? = some ((q2 38), .inr (2, [.ref (q2 39), .int (-1 : Int32), .int 0])) := rfl
theorem lw_a33 : lwA a1 a3 q2 q4 33 = (q2 38) := rfl
theorem lw_e33 : gE (lwD w a1 a3 q2 q4) gS0 33 (.inl (2, [some 37, none, none])) = .inr (2, [.ref (q2 39), .int (-1 : Int32), .int 0]) := rfl
theorem lw_c33 (hP : va_P w.1 vwCl (lwW w a1 a3 q2 q4) H) : ∀ shp, gSH[33]? = some shp → va_at w.1 vwCl ((lwD w a1 a3 q2 q4).2.1 33, gE (lwD w a1 a3 q2 q4) gS0 33 shp) H := by
  intro shp hs
  obtain rfl := Option.some.inj (sh_33.symm.trans hs)
  rw [lw_e33]
  exact hP 39 _ lw_g33
theorem lw_g34 : (lwW w a1 a3 q2 q4)[41]? = some ((q2 40), .inr (2, [.ref (q2 41), .int (-1 : Int32), .int 0])) := rfl
theorem lw_a34 : lwA a1 a3 q2 q4 34 = (q2 40) := rfl
theorem lw_e34 : gE (lwD w a1 a3 q2 q4) gS0 34 (.inl (2, [some 38, none, none])) = .inr (2, [.ref (q2 41), .int (-1 : Int32), .int 0]) := rfl
theorem lw_c34 (hP : va_P w.1 vwCl (lwW w a1 a3 q2 q4) H) : ∀ shp, gSH[34]? = some shp → va_at w.1 vwCl ((lwD w a1 a3 q2 q4).2.1 34, gE (lwD w a1 a3 q2 q4) gS0 34 shp) H := by
  intro shp hs
  obtain rfl := Option.some.inj (sh_34.symm.trans hs)
  rw [lw_e34]
  exact hP 41 _ lw_g34
theorem lw_g35 : (lwW w a1 a3 q2 q4)[43]? = some ((q2 42), .inr (2, [.ref (q2 43), .int (-1 : Int32), .int 0])) := rfl
theorem lw_a35 : lwA a1 a3 q2 q4 35 = (q2 42) := rfl
theorem lw_e35 : gE (lwD w a1 a3 q2 q4) gS0 35 (.inl (2, [some 39, none, none])) = .inr (2, [.ref (q2 43), .int (-1 : Int32), .int 0]) := rfl
theorem lw_c35 (hP : va_P w.1 vwCl (lwW w a1 a3 q2 q4) H) : ∀ shp, gSH[35]? = some shp → va_at w.1 vwCl ((lwD w a1 a3 q2 q4).2.1 35, gE (lwD w a1 a3 q2 q4) gS0 35 shp) H := by
  intro shp hs
  obtain rfl := Option.some.inj (sh_35.symm.trans hs)
  rw [lw_e35]
  exact hP 43 _ lw_g35
theorem lw_g36 : (lwW w a1 a3 q2 q4)[45]? = some ((q2 44), .inr (2, [.ref (q2 45), .int (-1 : Int32), .int 0])) := rfl
theorem lw_a36 : lwA a1 a3 q2 q4 36 = (q2 44) := rfl
theorem lw_e36 : gE (lwD w a1 a3 q2 q4) gS0 36 (.inl (2, [some 40, none, none])) = .inr (2, [.ref (q2 45), .int (-1 : Int32), .int 0]) := rfl
theorem lw_c36 (hP : va_P w.1 vwCl (lwW w a1 a3 q2 q4) H) : ∀ shp, gSH[36]? = some shp → va_at w.1 vwCl ((lwD w a1 a3 q2 q4).2.1 36, gE (lwD w a1 a3 q2 q4) gS0 36 shp) H := by
  intro shp hs
  obtain rfl := Option.some.inj (sh_36.symm.trans hs)
  rw [lw_e36]
  exact hP 45 _ lw_g36
theorem lw_g37 : (lwW w a1 a3 q2 q4)[40]? = some ((q2 39), .inl (w.2.2.1 2, 24, .inr (.inl (fun _ => 0)))) := rfl
theorem lw_a37 : lwA a1 a3 q2 q4 37 = (q2 39) := rfl
theorem lw_e37 : gE (lwD w a1 a3 q2 q4) gS0 37 (.inr (2, 24, 0)) = .inl (w.2.2.1 2, 24, .inr (.inl (fun _ => 0))) := rfl
theorem lw_c37 (hP : va_P w.1 vwCl (lwW w a1 a3 q2 q4) H) : ∀ shp, gSH[37]? = some shp → va_at w.1 vwCl ((lwD w a1 a3 q2 q4).2.1 37, gE (lwD w a1 a3 q2 q4) gS0 37 shp) H := by
  intro shp hs
  obtain rfl := Option.some.inj (sh_37.symm.trans hs)
  rw [lw_e37]
  exact hP 40 _ lw_g37
theorem lw_g38 : (lwW w a1 a3 q2 q4)[42]? = some ((q2 41), .inl (w.2.2.1 2, 24, .inr (.inl (fun _ => 0)))) := rfl
theorem lw_a38 : lwA a1 a3 q2 q4 38 = (q2 41) := rfl
theorem lw_e38 : gE (lwD w a1 a3 q2 q4) gS0 38 (.inr (2, 24, 0)) = .inl (w.2.2.1 2, 24, .inr (.inl (fun _ => 0))) := rfl
theorem lw_c38 (hP : va_P w.1 vwCl (lwW w a1 a3 q2 q4) H) : ∀ shp, gSH[38]? = some shp → va_at w.1 vwCl ((lwD w a1 a3 q2 q4).2.1 38, gE (lwD w a1 a3 q2 q4) gS0 38 shp) H := by
  intro shp hs
  obtain rfl := Option.some.inj (sh_38.symm.trans hs)
  rw [lw_e38]
  exact hP 42 _ lw_g38
theorem lw_g39 : (lwW w a1 a3 q2 q4)[44]? = some ((q2 43), .inl (w.2.2.1 2, 24, .inr (.inl (fun _ => 0)))) := rfl
theorem lw_a39 : lwA a1 a3 q2 q4 39 = (q2 43) := rfl
theorem lw_e39 : gE (lwD w a1 a3 q2 q4) gS0 39 (.inr (2, 24, 0)) = .inl (w.2.2.1 2, 24, .inr (.inl (fun _ => 0))) := rfl
theorem lw_c39 (hP : va_P w.1 vwCl (lwW w a1 a3 q2 q4) H) : ∀ shp, gSH[39]? = some shp → va_at w.1 vwCl ((lwD w a1 a3 q2 q4).2.1 39, gE (lwD w a1 a3 q2 q4) gS0 39 shp) H := by
  intro shp hs
  obtain rfl := Option.some.inj (sh_39.symm.trans hs)
  rw [lw_e39]
  exact hP 44 _ lw_g39
theorem lw_g40 : (lwW w a1 a3 q2 q4)[46]? = some ((q2 45), .inl (w.2.2.1 2, 24, .inr (.inl (fun _ => 0)))) := rfl
theorem lw_a40 : lwA a1 a3 q2 q4 40 = (q2 45) := rfl
theorem lw_e40 : gE (lwD w a1 a3 q2 q4) gS0 40 (.inr (2, 24, 0)) = .inl (w.2.2.1 2, 24, .inr (.inl (fun _ => 0))) := rfl
theorem lw_c40 (hP : va_P w.1 vwCl (lwW w a1 a3 q2 q4) H) : ∀ shp, gSH[40]? = some shp → va_at w.1 vwCl ((lwD w a1 a3 q2 q4).2.1 40, gE (lwD w a1 a3 q2 q4) gS0 40 shp) H := by
  intro shp hs
  obtain rfl := Option.some.inj (sh_40.symm.trans hs)
  rw [lw_e40]
  exact hP 46 _ lw_g40
theorem lw_g41 : (lwW w a1 a3 q2 q4)[33]? = some ((q2 32), .inr (3, [.ref (q2 33), .ref (q2 34), .int 0, .int 0])) := rfl
theorem lw_a41 : lwA a1 a3 q2 q4 41 = (q2 32) := rfl
theorem lw_e41 : gE (lwD w a1 a3 q2 q4) gS0 41 (.inl (3, [some 42, some 43, none, none])) = .inr (3, [.ref (q2 33), .ref (q2 34), .int 0, .int 0]) := rfl
theorem lw_c41 (hP : va_P w.1 vwCl (lwW w a1 a3 q2 q4) H) : ∀ shp, gSH[41]? = some shp → va_at w.1 vwCl ((lwD w a1 a3 q2 q4).2.1 41, gE (lwD w a1 a3 q2 q4) gS0 41 shp) H := by
  intro shp hs
  obtain rfl := Option.some.inj (sh_41.symm.trans hs)
  rw [lw_e41]
  exact hP 33 _ lw_g41
theorem lw_g42 : (lwW w a1 a3 q2 q4)[34]? = some ((q2 33), .inl (w.2.2.1 0, 384, .inl (fun _ => 0))) := rfl
theorem lw_a42 : lwA a1 a3 q2 q4 42 = (q2 33) := rfl
theorem lw_e42 : gE (lwD w a1 a3 q2 q4) gS0 42 (.inr (0, 384, 0)) = .inl (w.2.2.1 0, 384, .inl (fun _ => 0)) := rfl
theorem lw_c42 (hP : va_P w.1 vwCl (lwW w a1 a3 q2 q4) H) : ∀ shp, gSH[42]? = some shp → va_at w.1 vwCl ((lwD w a1 a3 q2 q4).2.1 42, gE (lwD w a1 a3 q2 q4) gS0 42 shp) H := by
  intro shp hs
  obtain rfl := Option.some.inj (sh_42.symm.trans hs)
  rw [lw_e42]
  exact hP 34 _ lw_g42
theorem lw_g43 : (lwW w a1 a3 q2 q4)[35]? = some ((q2 34), .inl (w.2.2.1 0, 6, .inl (fun _ => 0))) := rfl
theorem lw_a43 : lwA a1 a3 q2 q4 43 = (q2 34) := rfl
theorem lw_e43 : gE (lwD w a1 a3 q2 q4) gS0 43 (.inr (0, 6, 0)) = .inl (w.2.2.1 0, 6, .inl (fun _ => 0)) := rfl
theorem lw_c43 (hP : va_P w.1 vwCl (lwW w a1 a3 q2 q4) H) : ∀ shp, gSH[43]? = some shp → va_at w.1 vwCl ((lwD w a1 a3 q2 q4).2.1 43, gE (lwD w a1 a3 q2 q4) gS0 43 shp) H := by
  intro shp hs
  obtain rfl := Option.some.inj (sh_43.symm.trans hs)
  rw [lw_e43]
  exact hP 35 _ lw_g43
theorem lw_g44 : (lwW w a1 a3 q2 q4)[36]? = some ((q2 35), .inr (5, [.ref (q2 36), .ref (q2 37), .int 0, .int 0, .int 0])) := rfl
theorem lw_a44 : lwA a1 a3 q2 q4 44 = (q2 35) := rfl
theorem lw_e44 : gE (lwD w a1 a3 q2 q4) gS0 44 (.inl (5, [some 45, some 46, none, none, none])) = .inr (5, [.ref (q2 36), .ref (q2 37), .int 0, .int 0, .int 0]) := rfl
theorem lw_c44 (hP : va_P w.1 vwCl (lwW w a1 a3 q2 q4) H) : ∀ shp, gSH[44]? = some shp → va_at w.1 vwCl ((lwD w a1 a3 q2 q4).2.1 44, gE (lwD w a1 a3 q2 q4) gS0 44 shp) H := by
  intro shp hs
  obtain rfl := Option.some.inj (sh_44.symm.trans hs)
  rw [lw_e44]
  exact hP 36 _ lw_g44
theorem lw_g45 : (lwW w a1 a3 q2 q4)[37]? = some ((q2 36), .inl (w.2.2.1 0, 64, .inl (fun _ => 0))) := rfl
theorem lw_a45 : lwA a1 a3 q2 q4 45 = (q2 36) := rfl
theorem lw_e45 : gE (lwD w a1 a3 q2 q4) gS0 45 (.inr (0, 64, 0)) = .inl (w.2.2.1 0, 64, .inl (fun _ => 0)) := rfl
theorem lw_c45 (hP : va_P w.1 vwCl (lwW w a1 a3 q2 q4) H) : ∀ shp, gSH[45]? = some shp → va_at w.1 vwCl ((lwD w a1 a3 q2 q4).2.1 45, gE (lwD w a1 a3 q2 q4) gS0 45 shp) H := by
  intro shp hs
  obtain rfl := Option.some.inj (sh_45.symm.trans hs)
  rw [lw_e45]
  exact hP 37 _ lw_g45
theorem lw_g46 : (lwW w a1 a3 q2 q4)[38]? = some ((q2 37), .inl (w.2.2.1 0, 64, .inl (fun _ => 0))) := rfl
theorem lw_a46 : lwA a1 a3 q2 q4 46 = (q2 37) := rfl
theorem lw_e46 : gE (lwD w a1 a3 q2 q4) gS0 46 (.inr (0, 64, 0)) = .inl (w.2.2.1 0, 64, .inl (fun _ => 0)) := rfl
theorem lw_c46 (hP : va_P w.1 vwCl (lwW w a1 a3 q2 q4) H) : ∀ shp, gSH[46]? = some shp → va_at w.1 vwCl ((lwD w a1 a3 q2 q4).2.1 46, gE (lwD w a1 a3 q2 q4) gS0 46 shp) H := by
  intro shp hs
  obtain rfl := Option.some.inj (sh_46.symm.trans hs)
  rw [lw_e46]
  exact hP 38 _ lw_g46
theorem lw_g47 : (lwW w a1 a3 q2 q4)[47]? = some (a3, .inr (7, [.ref (q4 0), .ref (q4 1), .ref (q4 2), .int 0, .int 0, .int 0, .ref (q4 3), .ref (q4 4), .int 0, .ref (q4 5), .ref (q4 6), .ref (q4 7), .ref (q4 8), .int 0, .int 0, .ref (q4 9), .ref (q4 10), .ref (q4 11), .ref (q4 12)])) := rfl
theorem lw_a47 : lwA a1 a3 q2 q4 47 = a3 := rfl
theorem lw_e47 : gE (lwD w a1 a3 q2 q4) gS0 47 (.inl (7, [some 48, some 49, some 50, none, none, none, some 51, some 52, none, some 53, some 54, some 55, some 56, none, none, some 57, some 58, some 59, some 60])) = .inr (7, [.ref (q4 0), .ref (q4 1), .ref (q4 2), .int 0, .int 0, .int 0, .ref (q4 3), .ref (q4 4), .int 0, .ref (q4 5), .ref (q4 6), .ref (q4 7), .ref (q4 8), .int 0, .int 0, .ref (q4 9), .ref (q4 10), .ref (q4 11), .ref (q4 12)]) := rfl
theorem lw_c47 (hP : va_P w.1 vwCl (lwW w a1 a3 q2 q4) H) : ∀ shp, gSH[47]? = some shp → va_at w.1 vwCl ((lwD w a1 a3 q2 q4).2.1 47, gE (lwD w a1 a3 q2 q4) gS0 47 shp) H := by
  intro shp hs
  obtain rfl := Option.some.inj (sh_47.symm.trans hs)
  rw [lw_e47]
  exact hP 47 _ lw_g47
theorem lw_g48 : (lwW w a1 a3 q2 q4)[48]? = some ((q4 0), .inl (w.2.2.1 0, 416, .inl (upd (upd (upd (upd (upd (upd (fun _ => 0) (0 : Int32).toNatClampNeg (3 : Int32)) (1 : Int32).toNatClampNeg (2 : Int32)) (2 : Int32).toNatClampNeg (1 : Int32)) (3 : Int32).toNatClampNeg (6 : Int32)) (4 : Int32).toNatClampNeg (2 : Int32)) (7 : Int32).toNatClampNeg (1 : Int32)))) := rfl
theorem lw_a48 : lwA a1 a3 q2 q4 48 = (q4 0) := rfl
theorem lw_e48 : gE (lwD w a1 a3 q2 q4) gS0 48 (.inr (0, 416, 0)) = .inl (w.2.2.1 0, 416, .inl (upd (upd (upd (upd (upd (upd (fun _ => 0) (0 : Int32).toNatClampNeg (3 : Int32)) (1 : Int32).toNatClampNeg (2 : Int32)) (2 : Int32).toNatClampNeg (1 : Int32)) (3 : Int32).toNatClampNeg (6 : Int32)) (4 : Int32).toNatClampNeg (2 : Int32)) (7 : Int32).toNatClampNeg (1 : Int32))) := rfl
theorem lw_c48 (hP : va_P w.1 vwCl (lwW w a1 a3 q2 q4) H) : ∀ shp, gSH[48]? = some shp → va_at w.1 vwCl ((lwD w a1 a3 q2 q4).2.1 48, gE (lwD w a1 a3 q2 q4) gS0 48 shp) H := by
  intro shp hs
  obtain rfl := Option.some.inj (sh_48.symm.trans hs)
  rw [lw_e48]
  exact hP 48 _ lw_g48
theorem lw_g49 : (lwW w a1 a3 q2 q4)[49]? = some ((q4 1), .inl (w.2.2.1 0, 64, .inl (fun _ => 0))) := rfl
theorem lw_a49 : lwA a1 a3 q2 q4 49 = (q4 1) := rfl
theorem lw_e49 : gE (lwD w a1 a3 q2 q4) gS0 49 (.inr (0, 64, 0)) = .inl (w.2.2.1 0, 64, .inl (fun _ => 0)) := rfl
theorem lw_c49 (hP : va_P w.1 vwCl (lwW w a1 a3 q2 q4) H) : ∀ shp, gSH[49]? = some shp → va_at w.1 vwCl ((lwD w a1 a3 q2 q4).2.1 49, gE (lwD w a1 a3 q2 q4) gS0 49 shp) H := by
  intro shp hs
  obtain rfl := Option.some.inj (sh_49.symm.trans hs)
  rw [lw_e49]
  exact hP 49 _ lw_g49
theorem lw_g50 : (lwW w a1 a3 q2 q4)[50]? = some ((q4 2), .inl (w.2.2.1 0, 60, .inl (fun _ => 0))) := rfl
theorem lw_a50 : lwA a1 a3 q2 q4 50 = (q4 2) := rfl
theorem lw_e50 : gE (lwD w a1 a3 q2 q4) gS0 50 (.inr (0, 60, 0)) = .inl (w.2.2.1 0, 60, .inl (fun _ => 0)) := rfl
theorem lw_c50 (hP : va_P w.1 vwCl (lwW w a1 a3 q2 q4) H) : ∀ shp, gSH[50]? = some shp → va_at w.1 vwCl ((lwD w a1 a3 q2 q4).2.1 50, gE (lwD w a1 a3 q2 q4) gS0 50 shp) H := by
  intro shp hs
  obtain rfl := Option.some.inj (sh_50.symm.trans hs)
  rw [lw_e50]
  exact hP 50 _ lw_g50
theorem lw_g51 : (lwW w a1 a3 q2 q4)[51]? = some ((q4 3), .inl (w.2.2.1 0, 18, .inl (fun _ => 0))) := rfl
theorem lw_a51 : lwA a1 a3 q2 q4 51 = (q4 3) := rfl
theorem lw_e51 : gE (lwD w a1 a3 q2 q4) gS0 51 (.inr (0, 18, 0)) = .inl (w.2.2.1 0, 18, .inl (fun _ => 0)) := rfl
theorem lw_c51 (hP : va_P w.1 vwCl (lwW w a1 a3 q2 q4) H) : ∀ shp, gSH[51]? = some shp → va_at w.1 vwCl ((lwD w a1 a3 q2 q4).2.1 51, gE (lwD w a1 a3 q2 q4) gS0 51 shp) H := by
  intro shp hs
  obtain rfl := Option.some.inj (sh_51.symm.trans hs)
  rw [lw_e51]
  exact hP 51 _ lw_g51
theorem lw_g52 : (lwW w a1 a3 q2 q4)[52]? = some ((q4 4), .inl (w.2.2.1 0, 3328, .inl (fun _ => 0))) := rfl
theorem lw_a52 : lwA a1 a3 q2 q4 52 = (q4 4) := rfl
theorem lw_e52 : gE (lwD w a1 a3 q2 q4) gS0 52 (.inr (0, 3328, 0)) = .inl (w.2.2.1 0, 3328, .inl (fun _ => 0)) := rfl
theorem lw_c52 (hP : va_P w.1 vwCl (lwW w a1 a3 q2 q4) H) : ∀ shp, gSH[52]? = some shp → va_at w.1 vwCl ((lwD w a1 a3 q2 q4).2.1 52, gE (lwD w a1 a3 q2 q4) gS0 52 shp) H := by
  intro shp hs
  obtain rfl := Option.some.inj (sh_52.symm.trans hs)
  rw [lw_e52]
  exact hP 52 _ lw_g52
theorem lw_g53 : (lwW w a1 a3 q2 q4)[53]? = some ((q4 5), .inl (w.2.2.1 0, 416, .inl (fun _ => 0))) := rfl
theorem lw_a53 : lwA a1 a3 q2 q4 53 = (q4 5) := rfl
theorem lw_e53 : gE (lwD w a1 a3 q2 q4) gS0 53 (.inr (0, 416, 0)) = .inl (w.2.2.1 0, 416, .inl (fun _ => 0)) := rfl
theorem lw_c53 (hP : va_P w.1 vwCl (lwW w a1 a3 q2 q4) H) : ∀ shp, gSH[53]? = some shp → va_at w.1 vwCl ((lwD w a1 a3 q2 q4).2.1 53, gE (lwD w a1 a3 q2 q4) gS0 53 shp) H := by
  intro shp hs
  obtain rfl := Option.some.inj (sh_53.symm.trans hs)
  rw [lw_e53]
  exact hP 53 _ lw_g53
theorem lw_g54 : (lwW w a1 a3 q2 q4)[54]? = some ((q4 6), .inl (w.2.2.1 1, 64, .inl (fun _ => 0))) := rfl
theorem lw_a54 : lwA a1 a3 q2 q4 54 = (q4 6) := rfl
theorem lw_e54 : gE (lwD w a1 a3 q2 q4) gS0 54 (.inr (1, 64, 0)) = .inl (w.2.2.1 1, 64, .inl (fun _ => 0)) := rfl
theorem lw_c54 (hP : va_P w.1 vwCl (lwW w a1 a3 q2 q4) H) : ∀ shp, gSH[54]? = some shp → va_at w.1 vwCl ((lwD w a1 a3 q2 q4).2.1 54, gE (lwD w a1 a3 q2 q4) gS0 54 shp) H := by
  intro shp hs
  obtain rfl := Option.some.inj (sh_54.symm.trans hs)
  rw [lw_e54]
  exact hP 54 _ lw_g54
theorem lw_g55 : (lwW w a1 a3 q2 q4)[55]? = some ((q4 7), .inl (w.2.2.1 0, 64, .inl (fun _ => 0))) := rfl
theorem lw_a55 : lwA a1 a3 q2 q4 55 = (q4 7) := rfl
theorem lw_e55 : gE (lwD w a1 a3 q2 q4) gS0 55 (.inr (0, 64, 0)) = .inl (w.2.2.1 0, 64, .inl (fun _ => 0)) := rfl
theorem lw_c55 (hP : va_P w.1 vwCl (lwW w a1 a3 q2 q4) H) : ∀ shp, gSH[55]? = some shp → va_at w.1 vwCl ((lwD w a1 a3 q2 q4).2.1 55, gE (lwD w a1 a3 q2 q4) gS0 55 shp) H := by
  intro shp hs
  obtain rfl := Option.some.inj (sh_55.symm.trans hs)
  rw [lw_e55]
  exact hP 55 _ lw_g55
theorem lw_g56 : (lwW w a1 a3 q2 q4)[56]? = some ((q4 8), .inl (w.2.2.1 0, 3744, .inl (fun _ => 0))) := rfl
theorem lw_a56 : lwA a1 a3 q2 q4 56 = (q4 8) := rfl
theorem lw_e56 : gE (lwD w a1 a3 q2 q4) gS0 56 (.inr (0, 3744, 0)) = .inl (w.2.2.1 0, 3744, .inl (fun _ => 0)) := rfl
theorem lw_c56 (hP : va_P w.1 vwCl (lwW w a1 a3 q2 q4) H) : ∀ shp, gSH[56]? = some shp → va_at w.1 vwCl ((lwD w a1 a3 q2 q4).2.1 56, gE (lwD w a1 a3 q2 q4) gS0 56 shp) H := by
  intro shp hs
  obtain rfl := Option.some.inj (sh_56.symm.trans hs)
  rw [lw_e56]
  exact hP 56 _ lw_g56
theorem lw_g57 : (lwW w a1 a3 q2 q4)[57]? = some ((q4 9), .inl (w.2.2.1 0, 4, .inl (upd (upd (upd (upd (fun _ => 0) (0 : Int32).toNatClampNeg (-1 : Int32)) (1 : Int32).toNatClampNeg (-1 : Int32)) (2 : Int32).toNatClampNeg (-1 : Int32)) (3 : Int32).toNatClampNeg (-1 : Int32)))) := rfl
theorem lw_a57 : lwA a1 a3 q2 q4 57 = (q4 9) := rfl
theorem lw_e57 : gE (lwD w a1 a3 q2 q4) gS0 57 (.inr (0, 4, 0)) = .inl (w.2.2.1 0, 4, .inl (upd (upd (upd (upd (fun _ => 0) (0 : Int32).toNatClampNeg (-1 : Int32)) (1 : Int32).toNatClampNeg (-1 : Int32)) (2 : Int32).toNatClampNeg (-1 : Int32)) (3 : Int32).toNatClampNeg (-1 : Int32))) := rfl
theorem lw_c57 (hP : va_P w.1 vwCl (lwW w a1 a3 q2 q4) H) : ∀ shp, gSH[57]? = some shp → va_at w.1 vwCl ((lwD w a1 a3 q2 q4).2.1 57, gE (lwD w a1 a3 q2 q4) gS0 57 shp) H := by
  intro shp hs
  obtain rfl := Option.some.inj (sh_57.symm.trans hs)
  rw [lw_e57]
  exact hP 57 _ lw_g57
theorem lw_g58 : (lwW w a1 a3 q2 q4)[58]? = some ((q4 10), .inl (w.2.2.1 0, 4, .inl (fun _ => 0))) := rfl
theorem lw_a58 : lwA a1 a3 q2 q4 58 = (q4 10) := rfl
theorem lw_e58 : gE (lwD w a1 a3 q2 q4) gS0 58 (.inr (0, 4, 0)) = .inl (w.2.2.1 0, 4, .inl (fun _ => 0)) := rfl
theorem lw_c58 (hP : va_P w.1 vwCl (lwW w a1 a3 q2 q4) H) : ∀ shp, gSH[58]? = some shp → va_at w.1 vwCl ((lwD w a1 a3 q2 q4).2.1 58, gE (lwD w a1 a3 q2 q4) gS0 58 shp) H := by
  intro shp hs
  obtain rfl := Option.some.inj (sh_58.symm.trans hs)
  rw [lw_e58]
  exact hP 58 _ lw_g58
theorem lw_g59 : (lwW w a1 a3 q2 q4)[59]? = some ((q4 11), .inl (w.2.2.1 2, 96, .inr (.inl (fun _ => 0)))) := rfl
theorem lw_a59 : lwA a1 a3 q2 q4 59 = (q4 11) := rfl
theorem lw_e59 : gE (lwD w a1 a3 q2 q4) gS0 59 (.inr (2, 96, 0)) = .inl (w.2.2.1 2, 96, .inr (.inl (fun _ => 0))) := rfl
theorem lw_c59 (hP : va_P w.1 vwCl (lwW w a1 a3 q2 q4) H) : ∀ shp, gSH[59]? = some shp → va_at w.1 vwCl ((lwD w a1 a3 q2 q4).2.1 59, gE (lwD w a1 a3 q2 q4) gS0 59 shp) H := by
  intro shp hs
  obtain rfl := Option.some.inj (sh_59.symm.trans hs)
  rw [lw_e59]
  exact hP 59 _ lw_g59
theorem lw_g60 : (lwW w a1 a3 q2 q4)[60]? = some ((q4 12), .inl (w.2.2.1 2, 24, .inr (.inl (fun _ => 0)))) := rfl
theorem lw_a60 : lwA a1 a3 q2 q4 60 = (q4 12) := rfl
theorem lw_e60 : gE (lwD w a1 a3 q2 q4) gS0 60 (.inr (2, 24, 0)) = .inl (w.2.2.1 2, 24, .inr (.inl (fun _ => 0))) := rfl
theorem lw_c60 (hP : va_P w.1 vwCl (lwW w a1 a3 q2 q4) H) : ∀ shp, gSH[60]? = some shp → va_at w.1 vwCl ((lwD w a1 a3 q2 q4).2.1 60, gE (lwD w a1 a3 q2 q4) gS0 60 shp) H := by
  intro shp hs
  obtain rfl := Option.some.inj (sh_60.symm.trans hs)
  rw [lw_e60]
  exact hP 60 _ lw_g60
theorem g_permP (hP : va_P w.1 vwCl (lwW w a1 a3 q2 q4) H) : va_P w.1 vwCl (gC (lwD w a1 a3 q2 q4) gS0) H := by
  have key : ∀ k, k < 61 → ∀ shp, gSH[k]? = some shp → va_at w.1 vwCl ((lwD w a1 a3 q2 q4).2.1 k, gE (lwD w a1 a3 q2 q4) gS0 k shp) H := by
    have h0 := lt_0 (p := fun k => ∀ shp, gSH[k]? = some shp → va_at w.1 vwCl ((lwD w a1 a3 q2 q4).2.1 k, gE (lwD w a1 a3 q2 q4) gS0 k shp) H)
    have h1 := lt_s h0 (lw_c0 hP)
    have h2 := lt_s h1 (lw_c1 hP)
    have h3 := lt_s h2 (lw_c2 hP)
    have h4 := lt_s h3 (lw_c3 hP)
    have h5 := lt_s h4 (lw_c4 hP)
    have h6 := lt_s h5 (lw_c5 hP)
    have h7 := lt_s h6 (lw_c6 hP)
    have h8 := lt_s h7 (lw_c7 hP)
    have h9 := lt_s h8 (lw_c8 hP)
    have h10 := lt_s h9 (lw_c9 hP)
    have h11 := lt_s h10 (lw_c10 hP)
    have h12 := lt_s h11 (lw_c11 hP)
    have h13 := lt_s h12 (lw_c12 hP)
    have h14 := lt_s h13 (lw_c13 hP)
    have h15 := lt_s h14 (lw_c14 hP)
    have h16 := lt_s h15 (lw_c15 hP)
    have h17 := lt_s h16 (lw_c16 hP)
    have h18 := lt_s h17 (lw_c17 hP)
    have h19 := lt_s h18 (lw_c18 hP)
    have h20 := lt_s h19 (lw_c19 hP)
    have h21 := lt_s h20 (lw_c20 hP)
    have h22 := lt_s h21 (lw_c21 hP)
    have h23 := lt_s h22 (lw_c22 hP)
    have h24 := lt_s h23 (lw_c23 hP)
    have h25 := lt_s h24 (lw_c24 hP)
    have h26 := lt_s h25 (lw_c25 hP)
    have h27 := lt_s h26 (lw_c26 hP)
    have h28 := lt_s h27 (lw_c27 hP)
    have h29 := lt_s h28 (lw_c28 hP)
    have h30 := lt_s h29 (lw_c29 hP)
    have h31 := lt_s h30 (lw_c30 hP)
    have h32 := lt_s h31 (lw_c31 hP)
    have h33 := lt_s h32 (lw_c32 hP)
    have h34 := lt_s h33 (lw_c33 hP)
    have h35 := lt_s h34 (lw_c34 hP)
    have h36 := lt_s h35 (lw_c35 hP)
    have h37 := lt_s h36 (lw_c36 hP)
    have h38 := lt_s h37 (lw_c37 hP)
    have h39 := lt_s h38 (lw_c38 hP)
    have h40 := lt_s h39 (lw_c39 hP)
    have h41 := lt_s h40 (lw_c40 hP)
    have h42 := lt_s h41 (lw_c41 hP)
    have h43 := lt_s h42 (lw_c42 hP)
    have h44 := lt_s h43 (lw_c43 hP)
    have h45 := lt_s h44 (lw_c44 hP)
    have h46 := lt_s h45 (lw_c45 hP)
    have h47 := lt_s h46 (lw_c46 hP)
    have h48 := lt_s h47 (lw_c47 hP)
    have h49 := lt_s h48 (lw_c48 hP)
    have h50 := lt_s h49 (lw_c49 hP)
    have h51 := lt_s h50 (lw_c50 hP)
    have h52 := lt_s h51 (lw_c51 hP)
    have h53 := lt_s h52 (lw_c52 hP)
    have h54 := lt_s h53 (lw_c53 hP)
    have h55 := lt_s h54 (lw_c54 hP)
    have h56 := lt_s h55 (lw_c55 hP)
    have h57 := lt_s h56 (lw_c56 hP)
    have h58 := lt_s h57 (lw_c57 hP)
    have h59 := lt_s h58 (lw_c58 hP)
    have h60 := lt_s h59 (lw_c59 hP)
    have h61 := lt_s h60 (lw_c60 hP)
    exact h61
  intro k q hq
  obtain ⟨shp, hs, rfl⟩ := gC_of hq
  exact key k (gSH_lt hs) shp hs
theorem g_permD (hD : va_D A (lwW w a1 a3 q2 q4)) : gInj (lwD w a1 a3 q2 q4) ∧ gIn (lwD w a1 a3 q2 q4) A := by
  have hg : ∀ i, i < 61 → ∃ x, (lwW w a1 a3 q2 q4)[([0, 1, 2, 3, 4, 5, 6, 7, 8, 9, 10, 11, 12, 13, 14, 15, 16, 17, 18, 19, 20, 21, 22, 23, 24, 25, 26, 27, 28, 29, 30, 31, 32, 39, 41, 43, 45, 40, 42, 44, 46, 33, 34, 35, 36, 37, 38, 47, 48, 49, 50, 51, 52, 53, 54, 55, 56, 57, 58, 59, 60] : List Nat).getD i 0]? = some ((lwD w a1 a3 q2 q4).2.1 i, x) := by
    have h0 := lt_0 (p := fun i => ∃ x, (lwW w a1 a3 q2 q4)[([0, 1, 2, 3, 4, 5, 6, 7, 8, 9, 10, 11, 12, 13, 14, 15, 16, 17, 18, 19, 20, 21, 22, 23, 24, 25, 26, 27, 28, 29, 30, 31, 32, 39, 41, 43, 45, 40, 42, 44, 46, 33, 34, 35, 36, 37, 38, 47, 48, 49, 50, 51, 52, 53, 54, 55, 56, 57, 58, 59, 60] : List Nat).getD i 0]? = some ((lwD w a1 a3 q2 q4).2.1 i, x))
    have h1 := lt_s h0 ⟨_, lw_g0⟩
    have h2 := lt_s h1 ⟨_, lw_g1⟩
    have h3 := lt_s h2 ⟨_, lw_g2⟩
    have h4 := lt_s h3 ⟨_, lw_g3⟩
    have h5 := lt_s h4 ⟨_, lw_g4⟩
    have h6 := lt_s h5 ⟨_, lw_g5⟩
    have h7 := lt_s h6 ⟨_, lw_g6⟩
    have h8 := lt_s h7 ⟨_, lw_g7⟩
    have h9 := lt_s h8 ⟨_, lw_g8⟩
    have h10 := lt_s h9 ⟨_, lw_g9⟩
    have h11 := lt_s h10 ⟨_, lw_g10⟩
    have h12 := lt_s h11 ⟨_, lw_g11⟩
    have h13 := lt_s h12 ⟨_, lw_g12⟩
    have h14 := lt_s h13 ⟨_, lw_g13⟩
    have h15 := lt_s h14 ⟨_, lw_g14⟩
    have h16 := lt_s h15 ⟨_, lw_g15⟩
    have h17 := lt_s h16 ⟨_, lw_g16⟩
    have h18 := lt_s h17 ⟨_, lw_g17⟩
    have h19 := lt_s h18 ⟨_, lw_g18⟩
    have h20 := lt_s h19 ⟨_, lw_g19⟩
    have h21 := lt_s h20 ⟨_, lw_g20⟩
    have h22 := lt_s h21 ⟨_, lw_g21⟩
    have h23 := lt_s h22 ⟨_, lw_g22⟩
    have h24 := lt_s h23 ⟨_, lw_g23⟩
    have h25 := lt_s h24 ⟨_, lw_g24⟩
    have h26 := lt_s h25 ⟨_, lw_g25⟩
    have h27 := lt_s h26 ⟨_, lw_g26⟩
    have h28 := lt_s h27 ⟨_, lw_g27⟩
    have h29 := lt_s h28 ⟨_, lw_g28⟩
    have h30 := lt_s h29 ⟨_, lw_g29⟩
    have h31 := lt_s h30 ⟨_, lw_g30⟩
    have h32 := lt_s h31 ⟨_, lw_g31⟩
    have h33 := lt_s h32 ⟨_, lw_g32⟩
    have h34 := lt_s h33 ⟨_, lw_g33⟩
    have h35 := lt_s h34 ⟨_, lw_g34⟩
    have h36 := lt_s h35 ⟨_, lw_g35⟩
    have h37 := lt_s h36 ⟨_, lw_g36⟩
    have h38 := lt_s h37 ⟨_, lw_g37⟩
    have h39 := lt_s h38 ⟨_, lw_g38⟩
    have h40 := lt_s h39 ⟨_, lw_g39⟩
    have h41 := lt_s h40 ⟨_, lw_g40⟩
    have h42 := lt_s h41 ⟨_, lw_g41⟩
    have h43 := lt_s h42 ⟨_, lw_g42⟩
    have h44 := lt_s h43 ⟨_, lw_g43⟩
    have h45 := lt_s h44 ⟨_, lw_g44⟩
    have h46 := lt_s h45 ⟨_, lw_g45⟩
    have h47 := lt_s h46 ⟨_, lw_g46⟩
    have h48 := lt_s h47 ⟨_, lw_g47⟩
    have h49 := lt_s h48 ⟨_, lw_g48⟩
    have h50 := lt_s h49 ⟨_, lw_g49⟩
    have h51 := lt_s h50 ⟨_, lw_g50⟩
    have h52 := lt_s h51 ⟨_, lw_g51⟩
    have h53 := lt_s h52 ⟨_, lw_g52⟩
    have h54 := lt_s h53 ⟨_, lw_g53⟩
    have h55 := lt_s h54 ⟨_, lw_g54⟩
    have h56 := lt_s h55 ⟨_, lw_g55⟩
    have h57 := lt_s h56 ⟨_, lw_g56⟩
    have h58 := lt_s h57 ⟨_, lw_g57⟩
    have h59 := lt_s h58 ⟨_, lw_g58⟩
    have h60 := lt_s h59 ⟨_, lw_g59⟩
    have h61 := lt_s h60 ⟨_, lw_g60⟩
    exact h61
  have hperm : ∀ i, i < 61 → ∀ j, j < 61 → ([0, 1, 2, 3, 4, 5, 6, 7, 8, 9, 10, 11, 12, 13, 14, 15, 16, 17, 18, 19, 20, 21, 22, 23, 24, 25, 26, 27, 28, 29, 30, 31, 32, 39, 41, 43, 45, 40, 42, 44, 46, 33, 34, 35, 36, 37, 38, 47, 48, 49, 50, 51, 52, 53, 54, 55, 56, 57, 58, 59, 60] : List Nat).getD i 0 = ([0, 1, 2, 3, 4, 5, 6, 7, 8, 9, 10, 11, 12, 13, 14, 15, 16, 17, 18, 19, 20, 21, 22, 23, 24, 25, 26, 27, 28, 29, 30, 31, 32, 39, 41, 43, 45, 40, 42, 44, 46, 33, 34, 35, 36, 37, 38, 47, 48, 49, 50, 51, 52, 53, 54, 55, 56, 57, 58, 59, 60] : List Nat).getD j 0 → i = j := by decide +kernel
  constructor
  · intro i j hi hj e
    obtain ⟨x, hx⟩ := hg i hi
    obtain ⟨y, hy⟩ := hg j hj
    exact hperm i hi j hj (hD.1 _ _ _ _ hx hy e)
  · intro i hi
    obtain ⟨x, hx⟩ := hg i hi
    exact hD.2 _ _ hx
end LW
theorem g_tys {s : State} {args : Array Value} (hts : ∀ w ∈ lw_tbl, w.before args s = true) : ∃ cid : Nat → ClassId, ∀ (k : Nat) (q : ClassId × FieldType), ([(cid 0, .int), (cid 1, .boolean), (cid 2, .long), (cid 3, .object "FootIsle$Sheet")] : List (ClassId × FieldType))[k]? = some q → ArrOfT s q.1 q.2 ∧ va_RA s q.1 q.2 := by
  obtain ⟨i0, k0, p0, f0, g0, h0⟩ := Cond.arrayClass_spec (hts _ (gALL_tbl _ ac_int))
  obtain ⟨i1, k1, p1, f1, g1, h1⟩ := Cond.arrayClass_spec (hts _ (gALL_tbl _ ac_boolean))
  obtain ⟨i2, k2, p2, f2, g2, h2⟩ := Cond.arrayClass_spec (hts _ (gALL_tbl _ ac_long))
  obtain ⟨p3, i3, k3, e1, e2, g3, h3, f3⟩ := Cond.arrayOver_spec (hts (.arrayOver (.object "FootIsle$Sheet")) (List.mem_of_getElem? (i := 192) (by decide +kernel)))
  refine ⟨fun k => if k = 0 then i0 else if k = 1 then i1 else if k = 2 then i2 else i3, ?_⟩
  intro k q hq
  match k, hq with
  | 0, hq => cases hq; exact ⟨fun n z => ⟨fun k h => (by cases h), k0, g0, p0, h0⟩, f0⟩
  | 1, hq => cases hq; exact ⟨fun n z => ⟨fun k h => (by cases h), k1, g1, p1, h1⟩, f1⟩
  | 2, hq => cases hq; exact ⟨fun n z => ⟨fun k h => (by cases h), k2, g2, p2, h2⟩, f2⟩
  | 3, hq => cases hq; exact ⟨fun n z => ⟨fun k h => (by cases h), k3, g3, p3, h3⟩, ⟨k3, p3, g3, h3, e1, f3⟩⟩
  | k + 4, hq => simp at hq
theorem g_stat {s : State} {b : Nat} {A : Nat → Prop} (hts : ∀ w ∈ lw_tbl, w.before #[Value.ref b] s = true) (hgv : (Jvm.Cond.and given_1 narrow_1).before #[Value.ref b] s = true) (hA : ∀ a : Nat, a < s.heap.size → ¬ A a) : ∃ stt : Nat → Nat, ∀ (D : va_G) (ad : Nat → Nat) (cid : Nat → ClassId), gStat (D, ad, cid, stt) A s s.heap := by
  have hs := flat_of_before _ hgv
  obtain ⟨t0, ht0, hT0⟩ := va_Tof (tm := (.static "FootIsle" "LEAST_SETTING" "[I")) (ty := .int) (N := 5) (f := fun j => .int (([0, 0, 0, 2, 0] : List Int32).getD j 0)) (A := A) (by decide) (hs (.arrayOf (.static "FootIsle" "LEAST_SETTING" "[I") .int) (by decide +kernel)) (va_eqt (hs (.eq (.length (.static "FootIsle" "LEAST_SETTING" "[I")) (.int 5)) (by decide +kernel))) (fun j hj => by
    match j, hj with
    | 0, _ => exact va_eqt (hs (.eq (.elem (.static "FootIsle" "LEAST_SETTING" "[I") (.int 0)) (.int 0)) (by decide +kernel))
    | 1, _ => exact va_eqt (hs (.eq (.elem (.static "FootIsle" "LEAST_SETTING" "[I") (.int 1)) (.int 0)) (by decide +kernel))
    | 2, _ => exact va_eqt (hs (.eq (.elem (.static "FootIsle" "LEAST_SETTING" "[I") (.int 2)) (.int 0)) (by decide +kernel))
    | 3, _ => exact va_eqt (hs (.eq (.elem (.static "FootIsle" "LEAST_SETTING" "[I") (.int 3)) (.int 2)) (by decide +kernel))
    | 4, _ => exact va_eqt (hs (.eq (.elem (.static "FootIsle" "LEAST_SETTING" "[I") (.int 4)) (.int 0)) (by decide +kernel))
    | j + 5, hj => exact absurd hj (by omega)) hA
  obtain ⟨t1, ht1, hT1⟩ := va_Tof (tm := (.static "FootIsle" "MOST_SETTING" "[I")) (ty := .int) (N := 5) (f := fun j => .int (([8, 9, 3, 12, 8] : List Int32).getD j 0)) (A := A) (by decide) (hs (.arrayOf (.static "FootIsle" "MOST_SETTING" "[I") .int) (by decide +kernel)) (va_eqt (hs (.eq (.length (.static "FootIsle" "MOST_SETTING" "[I")) (.int 5)) (by decide +kernel))) (fun j hj => by
    match j, hj with
    | 0, _ => exact va_eqt (hs (.eq (.elem (.static "FootIsle" "MOST_SETTING" "[I") (.int 0)) (.int 8)) (by decide +kernel))
    | 1, _ => exact va_eqt (hs (.eq (.elem (.static "FootIsle" "MOST_SETTING" "[I") (.int 1)) (.int 9)) (by decide +kernel))
    | 2, _ => exact va_eqt (hs (.eq (.elem (.static "FootIsle" "MOST_SETTING" "[I") (.int 2)) (.int 3)) (by decide +kernel))
    | 3, _ => exact va_eqt (hs (.eq (.elem (.static "FootIsle" "MOST_SETTING" "[I") (.int 3)) (.int 12)) (by decide +kernel))
    | 4, _ => exact va_eqt (hs (.eq (.elem (.static "FootIsle" "MOST_SETTING" "[I") (.int 4)) (.int 8)) (by decide +kernel))
    | j + 5, hj => exact absurd hj (by omega)) hA
  obtain ⟨adK, adV, hS, hK⟩ := vk_Sof (args := #[Value.ref b]) (N := 1) (tm := fun _ => (.string "FootIsle$Tape" 55)) (len := [5]) (byt := [[112, 115, 104, 107, 111]]) (A := A) (fun i hi => by match i, hi with | 0, _ => decide) (fun i hi => hs (.exactly (.string "FootIsle$Tape" 55) "java/lang/String") (by decide +kernel)) (fun i hi => hs (.eq (.field (.string "FootIsle$Tape" 55) "java/lang/String" "coder" "B") (.int 0)) (by decide +kernel)) (fun i hi => hs (.arrayOf (.field (.string "FootIsle$Tape" 55) "java/lang/String" "value" "[B") .byte) (by decide +kernel)) (fun i hi => by match i, hi with | 0, _ => exact hs (.eq (.length (.field (.string "FootIsle$Tape" 55) "java/lang/String" "value" "[B")) (.int 5)) (by decide +kernel)) (fun i hi j hj => by
    match i, hi, j, hj with
    | 0, _, 0, _ => exact hs (.eq (.elem (.field (.string "FootIsle$Tape" 55) "java/lang/String" "value" "[B") (.int 0)) (.int 112)) (by decide +kernel)
    | 0, _, 1, _ => exact hs (.eq (.elem (.field (.string "FootIsle$Tape" 55) "java/lang/String" "value" "[B") (.int 1)) (.int 115)) (by decide +kernel)
    | 0, _, 2, _ => exact hs (.eq (.elem (.field (.string "FootIsle$Tape" 55) "java/lang/String" "value" "[B") (.int 2)) (.int 104)) (by decide +kernel)
    | 0, _, 3, _ => exact hs (.eq (.elem (.field (.string "FootIsle$Tape" 55) "java/lang/String" "value" "[B") (.int 3)) (.int 107)) (by decide +kernel)
    | 0, _, 4, _ => exact hs (.eq (.elem (.field (.string "FootIsle$Tape" 55) "java/lang/String" "value" "[B") (.int 4)) (.int 111)) (by decide +kernel)
    | 0, _, j + 5, hj => exact absurd hj (by simp)) (fun i j hi hj h => absurd (show i = j by omega) h) hA
  obtain ⟨h1, h2, h3, h4⟩ := hS.1 0 (by decide)
  refine ⟨fun k => if k = 0 then t0 else if k = 1 then t1 else if k = 2 then adK 0 else adV 0, fun D ad cid => ⟨⟨⟨va_Zref (hts (.laysStatic "FootIsle" "LEAST_SETTING" "[I") (List.mem_of_getElem? (i := 359) (by decide +kernel))) (hts (.initialized "FootIsle") (List.mem_of_getElem? (i := 35) (by decide +kernel))) ht0 hA, hT0⟩, ⟨va_Zref (hts (.laysStatic "FootIsle" "MOST_SETTING" "[I") (List.mem_of_getElem? (i := 361) (by decide +kernel))) (hts (.initialized "FootIsle") (List.mem_of_getElem? (i := 35) (by decide +kernel))) ht1 hA, hT1⟩, va_Zof (hts (.laysStatic "java/lang/String" "COMPACT_STRINGS" "Z") (List.mem_of_getElem? (i := 425) (by decide +kernel))) (hts (.initialized "java/lang/String") (List.mem_of_getElem? (i := 45) (by decide +kernel))) (va_eqt (hs (.eq (.static "java/lang/String" "COMPACT_STRINGS" "Z") (.int 1)) (by decide +kernel))) hA, h1, h2, h3, h4⟩, ?_⟩⟩
  have hR := hts (.stringRef "FootIsle$Tape" 55 "pshko") (List.mem_of_getElem? (i := 411) (by decide +kernel))
  exact vk_R.of (A := #[Value.ref b]) hR (hK 0 (by decide))
set_option maxHeartbeats 8000000 in
set_option maxRecDepth 100000 in
/-- THE LAW, from its entry -/
theorem whole_start {p : Program} {e : Env} {s : State} {m : MethodId} {below : List Frame} {meth : Method} {c : Code} (l : Launch) {b L : Nat} {xs : Nat → Int32} (hL : L ≤ 384) (C0 : lw_At p s m meth c b L xs) : W p l e room_1 s m #[Value.ref b] below meth c s.heap [] 0 0 (lw_Z below #[Value.ref b] s) (entryFrame m ([Value.ref b] : List Value).toArray 4) := by
  obtain ⟨hx, hb, hr, hml, hown, hts, hX, hbl, hlocks, hgv⟩ := C0
  obtain ⟨S9, hf⟩ := law_pure L hL xs
  have hts9 : ∀ w ∈ gALL, w.before #[Value.ref b] s = true := fun w hw => hts w (gALL_tbl w hw)
  obtain ⟨c0, iS0, hKn0⟩ := u_known (C := RX0) (T := TX0) (N := 10) (n := 10) hts9 ginX0 (hts _ (gALL_tbl _ in_X0))
  obtain ⟨c1, iS1, hKn1⟩ := u_known (C := RX1) (T := TX1) (N := 7) (n := 7) hts9 ginX1 (hts _ (gALL_tbl _ in_X1))
  obtain ⟨c2, iS2, hKn2⟩ := u_known (C := RX2) (T := TX2) (N := 3) (n := 3) hts9 ginX2 (hts _ (gALL_tbl _ in_X2))
  obtain ⟨c3, iS3, hKn3⟩ := u_known (C := RX3) (T := TX3) (N := 4) (n := 4) hts9 ginX3 (hts _ (gALL_tbl _ in_X3))
  obtain ⟨c4, iS4, hKn4⟩ := u_known (C := RX4) (T := TX4) (N := 9) (n := 9) hts9 ginX4 (hts _ (gALL_tbl _ in_X4))
  obtain ⟨c5, iS5, hKn5⟩ := u_known (C := RX5) (T := TX5) (N := 5) (n := 5) hts9 ginX5 (hts _ (gALL_tbl _ in_X5))
  obtain ⟨c6, iS6, hKn6⟩ := u_known (C := RX6) (T := TX6) (N := 7) (n := 7) hts9 ginX6 (hts _ (gALL_tbl _ in_X6))
  obtain ⟨c7, iS7, hKn7⟩ := u_known (C := RX7) (T := TX7) (N := 19) (n := 19) hts9 ginX7 (hts _ (gALL_tbl _ in_X7))
  obtain ⟨dC, dI, hKc⟩ : ∃ (dC : Nat → ClassId) (dI : Nat → Nat → Nat), ∀ (k : Nat) (q : vw_C), vwCl[k]? = some q → u_Kn s q.1 q.2.1 q.2.2 (dC k) (dI k) := by
    refine ⟨fun k => if k = 0 then c0 else if k = 1 then c1 else if k = 2 then c2 else if k = 3 then c3 else if k = 4 then c4 else if k = 5 then c5 else if k = 6 then c6 else c7, fun k => if k = 0 then iS0 else if k = 1 then iS1 else if k = 2 then iS2 else if k = 3 then iS3 else if k = 4 then iS4 else if k = 5 then iS5 else if k = 6 then iS6 else iS7, ?_⟩
    intro k q hq
    match k, hq with
    | 0, hq => cases hq; exact hKn0
    | 1, hq => cases hq; exact hKn1
    | 2, hq => cases hq; exact hKn2
    | 3, hq => cases hq; exact hKn3
    | 4, hq => cases hq; exact hKn4
    | 5, hq => cases hq; exact hKn5
    | 6, hq => cases hq; exact hKn6
    | 7, hq => cases hq; exact hKn7
    | k + 8, hq => simp [vwCl] at hq
  obtain ⟨cid, hcid⟩ := g_tys hts
  obtain ⟨stt, hst⟩ := g_stat (A := fun q : Nat => s.heap.size ≤ q) hts hgv (fun a h => Nat.not_le.mpr h)
  have hAO : va_AO "FootIsle$Sheet" s := va_AO.of (hts (.arrayOver (.object "FootIsle$Sheet")) (List.mem_of_getElem? (i := 192) (by decide +kernel)))
  have hK : ∀ ad : Nat → Nat, va_K (dC, dI) vwCl (gTy ((dC, dI), ad, cid, stt)) s := fun ad => ⟨hKc, hcid⟩
  have hl := lv_entry ([.ref b]) (n := 4) (Nat.le_of_ble_eq_true rfl)
  rw [lg_entry_eq]
  generalize (lg_sl ([.ref b]) ++ List.replicate (4 - (lg_sl ([.ref b])).length) Slot.unset).toArray = ls at hl ⊢
  have key : AC (p, l, e, room_1, s, m, #[Value.ref b], below, meth, c, ((dC, dI), (fun _ => 0), cid, stt), (fun q : Nat => s.heap.size ≤ q), 0, 0, lw_Z below #[Value.ref b] s) RL 12 cL_law 600000 7302250 0 [some (.ref b), none, none, none] [] [] 0 0 := by
    generalize hXe : ((p, l, e, room_1, s, m, #[Value.ref b], below, meth, c, ((dC, dI), (fun _ => 0), cid, stt), (fun q : Nat => s.heap.size ≤ q), 0, 0, lw_Z below #[Value.ref b] s) : gX) = X
    refine c_new (pc := 0) (ci := 6) (fs := [.null, .null, .int 0, .null, .null, .null, .null]) clL_7 ginX6 tyX6_ok in_X6 ini_X6 rfl (fun j hj => by match j, hj with | 0, _ => rfl | 1, _ => rfl | 2, _ => rfl | 3, _ => rfl | 4, _ => rfl | 5, _ => rfl | 6, _ => rfl | j + 7, hj => exact absurd hj (by omega)) (by decide) (by decide) dL_law_0 (fun a1 => ?_)
    refine c_ws (ws' := [(a1, .inr (6, [.null, .null, .int 0, .null, .null, .null, .null]))]) rfl ?_
    refine c_dup (pc := 3) dL_law_3 rfl ?_
    refine c_init (pc := 4) (k0 := 0) (wr := []) ck_X6 gyX6_init rfl im_yX6_init mlL_9 [] rfl rfl (by decide) (by decide) (by decide) (by decide) (by decide) (Nat.le_of_ble_eq_true rfl) dL_law_4 (fun q2 => ?_)
    refine c_ws (ws' := [(a1, .inr (6, [.ref (q2 0), .ref (q2 13), .int 0, .ref (q2 26), .ref (q2 31), .ref (q2 32), .ref (q2 35)])), ((q2 0), .inr (0, [.ref (q2 1), .ref (q2 2), .ref (q2 3), .ref (q2 4), .ref (q2 5), .ref (q2 6), .ref (q2 7), .int 0, .int 0, .int (1 : Int32)])), ((q2 1), .inl ((gw X).2.2.1 0, 5, .inl (upd (upd (upd (upd (upd (fun _ => 0) (0 : Int32).toNatClampNeg (3 : Int32)) (1 : Int32).toNatClampNeg (2 : Int32)) (2 : Int32).toNatClampNeg (1 : Int32)) (3 : Int32).toNatClampNeg (6 : Int32)) (4 : Int32).toNatClampNeg (2 : Int32)))), ((q2 2), .inl ((gw X).2.2.1 0, 6, .inl (fun _ => 0))), ((q2 3), .inl ((gw X).2.2.1 0, 6, .inl (fun _ => 0))), ((q2 4), .inl ((gw X).2.2.1 0, 6, .inl (fun _ => 0))), ((q2 5), .inl ((gw X).2.2.1 0, 6, .inl (fun _ => 0))), ((q2 6), .inl ((gw X).2.2.1 0, 384, .inl (fun _ => 0))), ((q2 7), .inr (1, [.ref (q2 8), .ref (q2 9), .ref (q2 10), .ref (q2 11), .ref (q2 12), .int 0, .int 0])), ((q2 8), .inl ((gw X).2.2.1 0, 3072, .inl (fun _ => 0))), ((q2 9), .inl ((gw X).2.2.1 0, 48, .inl (fun _ => 0))), ((q2 10), .inl ((gw X).2.2.1 0, 48, .inl (fun _ => 0))), ((q2 11), .inl ((gw X).2.2.1 0, 8, .inl (fun _ => 0))), ((q2 12), .inl ((gw X).2.2.1 0, 8, .inl (fun _ => 0))), ((q2 13), .inr (0, [.ref (q2 14), .ref (q2 15), .ref (q2 16), .ref (q2 17), .ref (q2 18), .ref (q2 19), .ref (q2 20), .int 0, .int 0, .int (1 : Int32)])), ((q2 14), .inl ((gw X).2.2.1 0, 5, .inl (upd (upd (upd (upd (upd (fun _ => 0) (0 : Int32).toNatClampNeg (3 : Int32)) (1 : Int32).toNatClampNeg (2 : Int32)) (2 : Int32).toNatClampNeg (1 : Int32)) (3 : Int32).toNatClampNeg (6 : Int32)) (4 : Int32).toNatClampNeg (2 : Int32)))), ((q2 15), .inl ((gw X).2.2.1 0, 6, .inl (fun _ => 0))), ((q2 16), .inl ((gw X).2.2.1 0, 6, .inl (fun _ => 0))), ((q2 17), .inl ((gw X).2.2.1 0, 6, .inl (fun _ => 0))), ((q2 18), .inl ((gw X).2.2.1 0, 6, .inl (fun _ => 0))), ((q2 19), .inl ((gw X).2.2.1 0, 384, .inl (fun _ => 0))), ((q2 20), .inr (1, [.ref (q2 21), .ref (q2 22), .ref (q2 23), .ref (q2 24), .ref (q2 25), .int 0, .int 0])), ((q2 21), .inl ((gw X).2.2.1 0, 3072, .inl (fun _ => 0))), ((q2 22), .inl ((gw X).2.2.1 0, 48, .inl (fun _ => 0))), ((q2 23), .inl ((gw X).2.2.1 0, 48, .inl (fun _ => 0))), ((q2 24), .inl ((gw X).2.2.1 0, 8, .inl (fun _ => 0))), ((q2 25), .inl ((gw X).2.2.1 0, 8, .inl (fun _ => 0))), ((q2 26), .inr (4, [.ref (q2 27), .ref (q2 28), .ref (q2 29), .ref (q2 30), .int 0, .int 0, .int 0, .int 0, .int 0])), ((q2 27), .inl ((gw X).2.2.1 0, 60, .inl (fun _ => 0))), ((q2 28), .inl ((gw X).2.2.1 0, 6, .inl (fun _ => 0))), ((q2 29), .inl ((gw X).2.2.1 0, 6, .inl (fun _ => 0))), ((q2 30), .inl ((gw X).2.2.1 0, 6, .inl (fun _ => 0))), ((q2 31), .inl ((gw X).2.2.1 3, 4, .inr (.inr (.inr (.inr (va_up (va_up (va_up (va_up (fun _ => none) (0 : Int32).toNatClampNeg (some (q2 38))) (1 : Int32).toNatClampNeg (some (q2 40))) (2 : Int32).toNatClampNeg (some (q2 42))) (3 : Int32).toNatClampNeg (some (q2 44)))))))), ((q2 32), .inr (3, [.ref (q2 33), .ref (q2 34), .int 0, .int 0])), ((q2 33), .inl ((gw X).2.2.1 0, 384, .inl (fun _ => 0))), ((q2 34), .inl ((gw X).2.2.1 0, 6, .inl (fun _ => 0))), ((q2 35), .inr (5, [.ref (q2 36), .ref (q2 37), .int 0, .int 0, .int 0])), ((q2 36), .inl ((gw X).2.2.1 0, 64, .inl (fun _ => 0))), ((q2 37), .inl ((gw X).2.2.1 0, 64, .inl (fun _ => 0))), ((q2 38), .inr (2, [.ref (q2 39), .int (-1 : Int32), .int 0])), ((q2 39), .inl ((gw X).2.2.1 2, 24, .inr (.inl (fun _ => 0)))), ((q2 40), .inr (2, [.ref (q2 41), .int (-1 : Int32), .int 0])), ((q2 41), .inl ((gw X).2.2.1 2, 24, .inr (.inl (fun _ => 0)))), ((q2 42), .inr (2, [.ref (q2 43), .int (-1 : Int32), .int 0])), ((q2 43), .inl ((gw X).2.2.1 2, 24, .inr (.inl (fun _ => 0)))), ((q2 44), .inr (2, [.ref (q2 45), .int (-1 : Int32), .int 0])), ((q2 45), .inl ((gw X).2.2.1 2, 24, .inr (.inl (fun _ => 0))))]) rfl ?_
    refine c_astoren (pc := 7) dL_law_7 rfl (Nat.le_of_ble_eq_true rfl) rfl (L' := [some (.ref b), some (.ref a1), none, none]) rfl ?_
    refine c_new (pc := 8) (ci := 7) (fs := [.null, .null, .null, .int 0, .int 0, .int 0, .null, .null, .int 0, .null, .null, .null, .null, .int 0, .int 0, .null, .null, .null, .null]) clL_10 ginX7 tyX7_ok in_X7 ini_X7 rfl (fun j hj => by match j, hj with | 0, _ => rfl | 1, _ => rfl | 2, _ => rfl | 3, _ => rfl | 4, _ => rfl | 5, _ => rfl | 6, _ => rfl | 7, _ => rfl | 8, _ => rfl | 9, _ => rfl | 10, _ => rfl | 11, _ => rfl | 12, _ => rfl | 13, _ => rfl | 14, _ => rfl | 15, _ => rfl | 16, _ => rfl | 17, _ => rfl | 18, _ => rfl | j + 19, hj => exact absurd hj (by omega)) (by decide) (by decide) dL_law_8 (fun a3 => ?_)
    refine c_ws (ws' := [(a1, .inr (6, [.ref (q2 0), .ref (q2 13), .int 0, .ref (q2 26), .ref (q2 31), .ref (q2 32), .ref (q2 35)])), ((q2 0), .inr (0, [.ref (q2 1), .ref (q2 2), .ref (q2 3), .ref (q2 4), .ref (q2 5), .ref (q2 6), .ref (q2 7), .int 0, .int 0, .int (1 : Int32)])), ((q2 1), .inl ((gw X).2.2.1 0, 5, .inl (upd (upd (upd (upd (upd (fun _ => 0) (0 : Int32).toNatClampNeg (3 : Int32)) (1 : Int32).toNatClampNeg (2 : Int32)) (2 : Int32).toNatClampNeg (1 : Int32)) (3 : Int32).toNatClampNeg (6 : Int32)) (4 : Int32).toNatClampNeg (2 : Int32)))), ((q2 2), .inl ((gw X).2.2.1 0, 6, .inl (fun _ => 0))), ((q2 3), .inl ((gw X).2.2.1 0, 6, .inl (fun _ => 0))), ((q2 4), .inl ((gw X).2.2.1 0, 6, .inl (fun _ => 0))), ((q2 5), .inl ((gw X).2.2.1 0, 6, .inl (fun _ => 0))), ((q2 6), .inl ((gw X).2.2.1 0, 384, .inl (fun _ => 0))), ((q2 7), .inr (1, [.ref (q2 8), .ref (q2 9), .ref (q2 10), .ref (q2 11), .ref (q2 12), .int 0, .int 0])), ((q2 8), .inl ((gw X).2.2.1 0, 3072, .inl (fun _ => 0))), ((q2 9), .inl ((gw X).2.2.1 0, 48, .inl (fun _ => 0))), ((q2 10), .inl ((gw X).2.2.1 0, 48, .inl (fun _ => 0))), ((q2 11), .inl ((gw X).2.2.1 0, 8, .inl (fun _ => 0))), ((q2 12), .inl ((gw X).2.2.1 0, 8, .inl (fun _ => 0))), ((q2 13), .inr (0, [.ref (q2 14), .ref (q2 15), .ref (q2 16), .ref (q2 17), .ref (q2 18), .ref (q2 19), .ref (q2 20), .int 0, .int 0, .int (1 : Int32)])), ((q2 14), .inl ((gw X).2.2.1 0, 5, .inl (upd (upd (upd (upd (upd (fun _ => 0) (0 : Int32).toNatClampNeg (3 : Int32)) (1 : Int32).toNatClampNeg (2 : Int32)) (2 : Int32).toNatClampNeg (1 : Int32)) (3 : Int32).toNatClampNeg (6 : Int32)) (4 : Int32).toNatClampNeg (2 : Int32)))), ((q2 15), .inl ((gw X).2.2.1 0, 6, .inl (fun _ => 0))), ((q2 16), .inl ((gw X).2.2.1 0, 6, .inl (fun _ => 0))), ((q2 17), .inl ((gw X).2.2.1 0, 6, .inl (fun _ => 0))), ((q2 18), .inl ((gw X).2.2.1 0, 6, .inl (fun _ => 0))), ((q2 19), .inl ((gw X).2.2.1 0, 384, .inl (fun _ => 0))), ((q2 20), .inr (1, [.ref (q2 21), .ref (q2 22), .ref (q2 23), .ref (q2 24), .ref (q2 25), .int 0, .int 0])), ((q2 21), .inl ((gw X).2.2.1 0, 3072, .inl (fun _ => 0))), ((q2 22), .inl ((gw X).2.2.1 0, 48, .inl (fun _ => 0))), ((q2 23), .inl ((gw X).2.2.1 0, 48, .inl (fun _ => 0))), ((q2 24), .inl ((gw X).2.2.1 0, 8, .inl (fun _ => 0))), ((q2 25), .inl ((gw X).2.2.1 0, 8, .inl (fun _ => 0))), ((q2 26), .inr (4, [.ref (q2 27), .ref (q2 28), .ref (q2 29), .ref (q2 30), .int 0, .int 0, .int 0, .int 0, .int 0])), ((q2 27), .inl ((gw X).2.2.1 0, 60, .inl (fun _ => 0))), ((q2 28), .inl ((gw X).2.2.1 0, 6, .inl (fun _ => 0))), ((q2 29), .inl ((gw X).2.2.1 0, 6, .inl (fun _ => 0))), ((q2 30), .inl ((gw X).2.2.1 0, 6, .inl (fun _ => 0))), ((q2 31), .inl ((gw X).2.2.1 3, 4, .inr (.inr (.inr (.inr (va_up (va_up (va_up (va_up (fun _ => none) (0 : Int32).toNatClampNeg (some (q2 38))) (1 : Int32).toNatClampNeg (some (q2 40))) (2 : Int32).toNatClampNeg (some (q2 42))) (3 : Int32).toNatClampNeg (some (q2 44)))))))), ((q2 32), .inr (3, [.ref (q2 33), .ref (q2 34), .int 0, .int 0])), ((q2 33), .inl ((gw X).2.2.1 0, 384, .inl (fun _ => 0))), ((q2 34), .inl ((gw X).2.2.1 0, 6, .inl (fun _ => 0))), ((q2 35), .inr (5, [.ref (q2 36), .ref (q2 37), .int 0, .int 0, .int 0])), ((q2 36), .inl ((gw X).2.2.1 0, 64, .inl (fun _ => 0))), ((q2 37), .inl ((gw X).2.2.1 0, 64, .inl (fun _ => 0))), ((q2 38), .inr (2, [.ref (q2 39), .int (-1 : Int32), .int 0])), ((q2 39), .inl ((gw X).2.2.1 2, 24, .inr (.inl (fun _ => 0)))), ((q2 40), .inr (2, [.ref (q2 41), .int (-1 : Int32), .int 0])), ((q2 41), .inl ((gw X).2.2.1 2, 24, .inr (.inl (fun _ => 0)))), ((q2 42), .inr (2, [.ref (q2 43), .int (-1 : Int32), .int 0])), ((q2 43), .inl ((gw X).2.2.1 2, 24, .inr (.inl (fun _ => 0)))), ((q2 44), .inr (2, [.ref (q2 45), .int (-1 : Int32), .int 0])), ((q2 45), .inl ((gw X).2.2.1 2, 24, .inr (.inl (fun _ => 0)))), (a3, .inr (7, [.null, .null, .null, .int 0, .int 0, .int 0, .null, .null, .int 0, .null, .null, .null, .null, .int 0, .int 0, .null, .null, .null, .null]))]) rfl ?_
    refine c_dup (pc := 11) dL_law_11 rfl ?_
    refine c_init (pc := 12) (k0 := 47) (wr := [(a1, .inr (6, [.ref (q2 0), .ref (q2 13), .int 0, .ref (q2 26), .ref (q2 31), .ref (q2 32), .ref (q2 35)])), ((q2 0), .inr (0, [.ref (q2 1), .ref (q2 2), .ref (q2 3), .ref (q2 4), .ref (q2 5), .ref (q2 6), .ref (q2 7), .int 0, .int 0, .int (1 : Int32)])), ((q2 1), .inl ((gw X).2.2.1 0, 5, .inl (upd (upd (upd (upd (upd (fun _ => 0) (0 : Int32).toNatClampNeg (3 : Int32)) (1 : Int32).toNatClampNeg (2 : Int32)) (2 : Int32).toNatClampNeg (1 : Int32)) (3 : Int32).toNatClampNeg (6 : Int32)) (4 : Int32).toNatClampNeg (2 : Int32)))), ((q2 2), .inl ((gw X).2.2.1 0, 6, .inl (fun _ => 0))), ((q2 3), .inl ((gw X).2.2.1 0, 6, .inl (fun _ => 0))), ((q2 4), .inl ((gw X).2.2.1 0, 6, .inl (fun _ => 0))), ((q2 5), .inl ((gw X).2.2.1 0, 6, .inl (fun _ => 0))), ((q2 6), .inl ((gw X).2.2.1 0, 384, .inl (fun _ => 0))), ((q2 7), .inr (1, [.ref (q2 8), .ref (q2 9), .ref (q2 10), .ref (q2 11), .ref (q2 12), .int 0, .int 0])), ((q2 8), .inl ((gw X).2.2.1 0, 3072, .inl (fun _ => 0))), ((q2 9), .inl ((gw X).2.2.1 0, 48, .inl (fun _ => 0))), ((q2 10), .inl ((gw X).2.2.1 0, 48, .inl (fun _ => 0))), ((q2 11), .inl ((gw X).2.2.1 0, 8, .inl (fun _ => 0))), ((q2 12), .inl ((gw X).2.2.1 0, 8, .inl (fun _ => 0))), ((q2 13), .inr (0, [.ref (q2 14), .ref (q2 15), .ref (q2 16), .ref (q2 17), .ref (q2 18), .ref (q2 19), .ref (q2 20), .int 0, .int 0, .int (1 : Int32)])), ((q2 14), .inl ((gw X).2.2.1 0, 5, .inl (upd (upd (upd (upd (upd (fun _ => 0) (0 : Int32).toNatClampNeg (3 : Int32)) (1 : Int32).toNatClampNeg (2 : Int32)) (2 : Int32).toNatClampNeg (1 : Int32)) (3 : Int32).toNatClampNeg (6 : Int32)) (4 : Int32).toNatClampNeg (2 : Int32)))), ((q2 15), .inl ((gw X).2.2.1 0, 6, .inl (fun _ => 0))), ((q2 16), .inl ((gw X).2.2.1 0, 6, .inl (fun _ => 0))), ((q2 17), .inl ((gw X).2.2.1 0, 6, .inl (fun _ => 0))), ((q2 18), .inl ((gw X).2.2.1 0, 6, .inl (fun _ => 0))), ((q2 19), .inl ((gw X).2.2.1 0, 384, .inl (fun _ => 0))), ((q2 20), .inr (1, [.ref (q2 21), .ref (q2 22), .ref (q2 23), .ref (q2 24), .ref (q2 25), .int 0, .int 0])), ((q2 21), .inl ((gw X).2.2.1 0, 3072, .inl (fun _ => 0))), ((q2 22), .inl ((gw X).2.2.1 0, 48, .inl (fun _ => 0))), ((q2 23), .inl ((gw X).2.2.1 0, 48, .inl (fun _ => 0))), ((q2 24), .inl ((gw X).2.2.1 0, 8, .inl (fun _ => 0))), ((q2 25), .inl ((gw X).2.2.1 0, 8, .inl (fun _ => 0))), ((q2 26), .inr (4, [.ref (q2 27), .ref (q2 28), .ref (q2 29), .ref (q2 30), .int 0, .int 0, .int 0, .int 0, .int 0])), ((q2 27), .inl ((gw X).2.2.1 0, 60, .inl (fun _ => 0))), ((q2 28), .inl ((gw X).2.2.1 0, 6, .inl (fun _ => 0))), ((q2 29), .inl ((gw X).2.2.1 0, 6, .inl (fun _ => 0))), ((q2 30), .inl ((gw X).2.2.1 0, 6, .inl (fun _ => 0))), ((q2 31), .inl ((gw X).2.2.1 3, 4, .inr (.inr (.inr (.inr (va_up (va_up (va_up (va_up (fun _ => none) (0 : Int32).toNatClampNeg (some (q2 38))) (1 : Int32).toNatClampNeg (some (q2 40))) (2 : Int32).toNatClampNeg (some (q2 42))) (3 : Int32).toNatClampNeg (some (q2 44)))))))), ((q2 32), .inr (3, [.ref (q2 33), .ref (q2 34), .int 0, .int 0])), ((q2 33), .inl ((gw X).2.2.1 0, 384, .inl (fun _ => 0))), ((q2 34), .inl ((gw X).2.2.1 0, 6, .inl (fun _ => 0))), ((q2 35), .inr (5, [.ref (q2 36), .ref (q2 37), .int 0, .int 0, .int 0])), ((q2 36), .inl ((gw X).2.2.1 0, 64, .inl (fun _ => 0))), ((q2 37), .inl ((gw X).2.2.1 0, 64, .inl (fun _ => 0))), ((q2 38), .inr (2, [.ref (q2 39), .int (-1 : Int32), .int 0])), ((q2 39), .inl ((gw X).2.2.1 2, 24, .inr (.inl (fun _ => 0)))), ((q2 40), .inr (2, [.ref (q2 41), .int (-1 : Int32), .int 0])), ((q2 41), .inl ((gw X).2.2.1 2, 24, .inr (.inl (fun _ => 0)))), ((q2 42), .inr (2, [.ref (q2 43), .int (-1 : Int32), .int 0])), ((q2 43), .inl ((gw X).2.2.1 2, 24, .inr (.inl (fun _ => 0)))), ((q2 44), .inr (2, [.ref (q2 45), .int (-1 : Int32), .int 0])), ((q2 45), .inl ((gw X).2.2.1 2, 24, .inr (.inl (fun _ => 0))))]) ck_X7 gyX7_init rfl im_yX7_init mlL_12 [0, 1, 2, 3, 4, 5, 6, 7, 8, 9, 10, 11, 12, 13, 14, 15, 16, 17, 18, 19, 20, 21, 22, 23, 24, 25, 26, 27, 28, 29, 30, 31, 32, 33, 34, 35, 36, 37, 38, 39, 40, 41, 42, 43, 44, 45, 46] rfl rfl (by decide) (by decide) (by decide) (by decide) (by decide) (Nat.le_of_ble_eq_true rfl) dL_law_12 (fun q4 => ?_)
    refine c_ws (ws' := [(a1, .inr (6, [.ref (q2 0), .ref (q2 13), .int 0, .ref (q2 26), .ref (q2 31), .ref (q2 32), .ref (q2 35)])), ((q2 0), .inr (0, [.ref (q2 1), .ref (q2 2), .ref (q2 3), .ref (q2 4), .ref (q2 5), .ref (q2 6), .ref (q2 7), .int 0, .int 0, .int (1 : Int32)])), ((q2 1), .inl ((gw X).2.2.1 0, 5, .inl (upd (upd (upd (upd (upd (fun _ => 0) (0 : Int32).toNatClampNeg (3 : Int32)) (1 : Int32).toNatClampNeg (2 : Int32)) (2 : Int32).toNatClampNeg (1 : Int32)) (3 : Int32).toNatClampNeg (6 : Int32)) (4 : Int32).toNatClampNeg (2 : Int32)))), ((q2 2), .inl ((gw X).2.2.1 0, 6, .inl (fun _ => 0))), ((q2 3), .inl ((gw X).2.2.1 0, 6, .inl (fun _ => 0))), ((q2 4), .inl ((gw X).2.2.1 0, 6, .inl (fun _ => 0))), ((q2 5), .inl ((gw X).2.2.1 0, 6, .inl (fun _ => 0))), ((q2 6), .inl ((gw X).2.2.1 0, 384, .inl (fun _ => 0))), ((q2 7), .inr (1, [.ref (q2 8), .ref (q2 9), .ref (q2 10), .ref (q2 11), .ref (q2 12), .int 0, .int 0])), ((q2 8), .inl ((gw X).2.2.1 0, 3072, .inl (fun _ => 0))), ((q2 9), .inl ((gw X).2.2.1 0, 48, .inl (fun _ => 0))), ((q2 10), .inl ((gw X).2.2.1 0, 48, .inl (fun _ => 0))), ((q2 11), .inl ((gw X).2.2.1 0, 8, .inl (fun _ => 0))), ((q2 12), .inl ((gw X).2.2.1 0, 8, .inl (fun _ => 0))), ((q2 13), .inr (0, [.ref (q2 14), .ref (q2 15), .ref (q2 16), .ref (q2 17), .ref (q2 18), .ref (q2 19), .ref (q2 20), .int 0, .int 0, .int (1 : Int32)])), ((q2 14), .inl ((gw X).2.2.1 0, 5, .inl (upd (upd (upd (upd (upd (fun _ => 0) (0 : Int32).toNatClampNeg (3 : Int32)) (1 : Int32).toNatClampNeg (2 : Int32)) (2 : Int32).toNatClampNeg (1 : Int32)) (3 : Int32).toNatClampNeg (6 : Int32)) (4 : Int32).toNatClampNeg (2 : Int32)))), ((q2 15), .inl ((gw X).2.2.1 0, 6, .inl (fun _ => 0))), ((q2 16), .inl ((gw X).2.2.1 0, 6, .inl (fun _ => 0))), ((q2 17), .inl ((gw X).2.2.1 0, 6, .inl (fun _ => 0))), ((q2 18), .inl ((gw X).2.2.1 0, 6, .inl (fun _ => 0))), ((q2 19), .inl ((gw X).2.2.1 0, 384, .inl (fun _ => 0))), ((q2 20), .inr (1, [.ref (q2 21), .ref (q2 22), .ref (q2 23), .ref (q2 24), .ref (q2 25), .int 0, .int 0])), ((q2 21), .inl ((gw X).2.2.1 0, 3072, .inl (fun _ => 0))), ((q2 22), .inl ((gw X).2.2.1 0, 48, .inl (fun _ => 0))), ((q2 23), .inl ((gw X).2.2.1 0, 48, .inl (fun _ => 0))), ((q2 24), .inl ((gw X).2.2.1 0, 8, .inl (fun _ => 0))), ((q2 25), .inl ((gw X).2.2.1 0, 8, .inl (fun _ => 0))), ((q2 26), .inr (4, [.ref (q2 27), .ref (q2 28), .ref (q2 29), .ref (q2 30), .int 0, .int 0, .int 0, .int 0, .int 0])), ((q2 27), .inl ((gw X).2.2.1 0, 60, .inl (fun _ => 0))), ((q2 28), .inl ((gw X).2.2.1 0, 6, .inl (fun _ => 0))), ((q2 29), .inl ((gw X).2.2.1 0, 6, .inl (fun _ => 0))), ((q2 30), .inl ((gw X).2.2.1 0, 6, .inl (fun _ => 0))), ((q2 31), .inl ((gw X).2.2.1 3, 4, .inr (.inr (.inr (.inr (va_up (va_up (va_up (va_up (fun _ => none) (0 : Int32).toNatClampNeg (some (q2 38))) (1 : Int32).toNatClampNeg (some (q2 40))) (2 : Int32).toNatClampNeg (some (q2 42))) (3 : Int32).toNatClampNeg (some (q2 44)))))))), ((q2 32), .inr (3, [.ref (q2 33), .ref (q2 34), .int 0, .int 0])), ((q2 33), .inl ((gw X).2.2.1 0, 384, .inl (fun _ => 0))), ((q2 34), .inl ((gw X).2.2.1 0, 6, .inl (fun _ => 0))), ((q2 35), .inr (5, [.ref (q2 36), .ref (q2 37), .int 0, .int 0, .int 0])), ((q2 36), .inl ((gw X).2.2.1 0, 64, .inl (fun _ => 0))), ((q2 37), .inl ((gw X).2.2.1 0, 64, .inl (fun _ => 0))), ((q2 38), .inr (2, [.ref (q2 39), .int (-1 : Int32), .int 0])), ((q2 39), .inl ((gw X).2.2.1 2, 24, .inr (.inl (fun _ => 0)))), ((q2 40), .inr (2, [.ref (q2 41), .int (-1 : Int32), .int 0])), ((q2 41), .inl ((gw X).2.2.1 2, 24, .inr (.inl (fun _ => 0)))), ((q2 42), .inr (2, [.ref (q2 43), .int (-1 : Int32), .int 0])), ((q2 43), .inl ((gw X).2.2.1 2, 24, .inr (.inl (fun _ => 0)))), ((q2 44), .inr (2, [.ref (q2 45), .int (-1 : Int32), .int 0])), ((q2 45), .inl ((gw X).2.2.1 2, 24, .inr (.inl (fun _ => 0)))), (a3, .inr (7, [.ref (q4 0), .ref (q4 1), .ref (q4 2), .int 0, .int 0, .int 0, .ref (q4 3), .ref (q4 4), .int 0, .ref (q4 5), .ref (q4 6), .ref (q4 7), .ref (q4 8), .int 0, .int 0, .ref (q4 9), .ref (q4 10), .ref (q4 11), .ref (q4 12)])), ((q4 0), .inl ((gw X).2.2.1 0, 416, .inl (upd (upd (upd (upd (upd (upd (fun _ => 0) (0 : Int32).toNatClampNeg (3 : Int32)) (1 : Int32).toNatClampNeg (2 : Int32)) (2 : Int32).toNatClampNeg (1 : Int32)) (3 : Int32).toNatClampNeg (6 : Int32)) (4 : Int32).toNatClampNeg (2 : Int32)) (7 : Int32).toNatClampNeg (1 : Int32)))), ((q4 1), .inl ((gw X).2.2.1 0, 64, .inl (fun _ => 0))), ((q4 2), .inl ((gw X).2.2.1 0, 60, .inl (fun _ => 0))), ((q4 3), .inl ((gw X).2.2.1 0, 18, .inl (fun _ => 0))), ((q4 4), .inl ((gw X).2.2.1 0, 3328, .inl (fun _ => 0))), ((q4 5), .inl ((gw X).2.2.1 0, 416, .inl (fun _ => 0))), ((q4 6), .inl ((gw X).2.2.1 1, 64, .inl (fun _ => 0))), ((q4 7), .inl ((gw X).2.2.1 0, 64, .inl (fun _ => 0))), ((q4 8), .inl ((gw X).2.2.1 0, 3744, .inl (fun _ => 0))), ((q4 9), .inl ((gw X).2.2.1 0, 4, .inl (upd (upd (upd (upd (fun _ => 0) (0 : Int32).toNatClampNeg (-1 : Int32)) (1 : Int32).toNatClampNeg (-1 : Int32)) (2 : Int32).toNatClampNeg (-1 : Int32)) (3 : Int32).toNatClampNeg (-1 : Int32)))), ((q4 10), .inl ((gw X).2.2.1 0, 4, .inl (fun _ => 0))), ((q4 11), .inl ((gw X).2.2.1 2, 96, .inr (.inl (fun _ => 0)))), ((q4 12), .inl ((gw X).2.2.1 2, 24, .inr (.inl (fun _ => 0))))]) rfl ?_
    refine c_astoren (pc := 15) dL_law_15 rfl (Nat.le_of_ble_eq_true rfl) rfl (L' := [some (.ref b), some (.ref a1), some (.ref a3), none]) rfl ?_
    refine c_iconst (pc := 16) (v := (0 : Int32)) dL_law_16 (by decide) ?_
    refine c_istoren (pc := 17) dL_law_17 rfl (Nat.le_of_ble_eq_true rfl) rfl (L' := [some (.ref b), some (.ref a1), some (.ref a3), some (.int (0 : Int32))]) rfl ?_
    subst hXe
    intro ok hml9 H locs ls hP hD hS hl
    refine W.widen (k := 600000) (n := 7302250) (by decide) (by decide) ?_
    have hP9 := g_permP (w := ((dC, dI), (fun _ => 0), cid, stt)) hP
    have hD9 := g_permD (w := ((dC, dI), (fun _ => 0), cid, stt)) hD
    exact ok_law (X := (p, l, e, room_1, s, m, #[Value.ref b], below, meth, c, ((dC, dI), lwA a1 a3 q2 q4, cid, stt), (fun q : Nat => s.heap.size ≤ q), 600000, 7302250, lw_Z below #[Value.ref b] s)) (b := b) (nL := L) (xs := xs) ⟨rfl, rfl, rfl, rfl, rfl, rfl, hr, hX, hbl⟩ hf ⟨hx, hb, hown, hts9, hK _, hD9.1, hD9.2, fun q h => h, fun q hq => va_Nw.of (gNest_on q hq) (hts q (gNest_tbl q hq)), hlocks, ⟨by decide, by decide, by decide, by decide⟩, hst _ _ _⟩ hml9 H locs ls hP9 hS hl
  refine key ⟨hx, hb, hown, hts9, hK _, fun q h => h, fun q hq => va_Nw.of (gNestC_on q hq) (hts q (gNestC_tbl q hq)), hlocks, Or.inl rfl, ⟨by decide, by decide, by decide, by decide⟩, hAO⟩ hml s.heap [] ls (fun k q h => by simp at h) ⟨fun i j p q h => by simp at h, fun k q h => by simp at h⟩ va_S.rf ?_
  exact hl
