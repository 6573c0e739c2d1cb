/-- the first state -/
def u0S : zS :=
  (fun i => match i with
    | 0 => qone
    | 1 => qone
    | _ => fun _ => 0,
   fun i => match i with
    | 11 => fun j => match j with
      | 0 => 25
      | 3 => 1
      | _ => 0
    | _ => fun _ => 0,
   fun _ => 0,
   fun _ _ => false)
