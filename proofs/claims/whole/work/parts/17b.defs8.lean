def resetF (u : zS) : zS :=
  (fun i => match i with
    | 0 => qone
    | 1 => qone
    | 2 => fun _ => 0
    | 3 => fun _ => 0
    | 4 => fun _ => 0
    | 6 => fun _ => 0
    | 7 => fun _ => 0
    | 8 => fun _ => 0
    | 9 => fun _ => 0
    | i => u.1 i,
   fun i => match i with
    | 0 => fun _ => 0
    | 1 => fun _ => 0
    | 2 => fun _ => 0
    | 3 => fun _ => 0
    | 4 => fun _ => 0
    | 9 => fun _ => 0
    | 11 => fun j => match j with
      | 0 => 25
      | 3 => 1
      | _ => 0
    | i => u.2.1 i,
   fun _ => 0,
   fun _ _ => false)
