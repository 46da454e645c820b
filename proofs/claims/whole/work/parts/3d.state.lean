def gS0 : gSt := (fun k => match k with
  | 1 => fun j => if j = 9 then (1 : Int32) else 0
  | 2 => (upd (upd (upd (upd (upd (fun _ => 0) (0 : Int32).toNatClampNeg (3 : Int32)) (1 : Int32).toNatClampNeg (2 : Int32)) (2 : Int32).toNatClampNeg (1 : Int32)) (3 : Int32).toNatClampNeg (6 : Int32)) (4 : Int32).toNatClampNeg (2 : Int32))
  | 14 => fun j => if j = 9 then (1 : Int32) else 0
  | 15 => (upd (upd (upd (upd (upd (fun _ => 0) (0 : Int32).toNatClampNeg (3 : Int32)) (1 : Int32).toNatClampNeg (2 : Int32)) (2 : Int32).toNatClampNeg (1 : Int32)) (3 : Int32).toNatClampNeg (6 : Int32)) (4 : Int32).toNatClampNeg (2 : Int32))
  | 33 => fun j => if j = 1 then (-1 : Int32) else 0
  | 34 => fun j => if j = 1 then (-1 : Int32) else 0
  | 35 => fun j => if j = 1 then (-1 : Int32) else 0
  | 36 => fun j => if j = 1 then (-1 : Int32) else 0
  | 48 => (upd (upd (upd (upd (upd (upd (fun _ => 0) (0 : Int32).toNatClampNeg (3 : Int32)) (1 : Int32).toNatClampNeg (2 : Int32)) (2 : Int32).toNatClampNeg (1 : Int32)) (3 : Int32).toNatClampNeg (6 : Int32)) (4 : Int32).toNatClampNeg (2 : Int32)) (7 : Int32).toNatClampNeg (1 : Int32))
  | 57 => (upd (upd (upd (upd (fun _ => 0) (0 : Int32).toNatClampNeg (-1 : Int32)) (1 : Int32).toNatClampNeg (-1 : Int32)) (2 : Int32).toNatClampNeg (-1 : Int32)) (3 : Int32).toNatClampNeg (-1 : Int32))
  | _ => fun _ => 0, fun _ _ => 0)
