/-! The law's function over the beginning: what Layer 2 shows. -/
/-- the state behind the constructors -/
def sX0 : Sg := fun j => match j with
  | 0 => fun i => if i = 11 then (-1) else 0
  | 2 => fun i => if i = 8 then 1 else 0
  | 3 => fun i => if i = 8 then 255 else 0
  | 4 => fun i => if i = 6 then (-1) else 0
  | 8 => fun i => if i = 8 then 255 else 0
  | _ => fun _ => 0
/-- the state behind the constructors -/
def sM0 : Sg := fun j => match j with
  | 0 => fun i => if i = 9 then (-1) else 0
  | 1 => upd (fun _ => 0) 1 255
  | _ => fun _ => 0
def sL0 : LT := (sX0, sM0, fun _ => 0)
