/-- the cells behind the constructors -/
def h00 : Hp := (fun k => if k = 39 then (upd (upd (upd (upd (upd (upd (fun _ => 0) 0 (-1)) 1 (-1)) 2 (-1)) 3 (-1)) 4 (-1)) 5 (-1)) else if k = 79 then (upd (upd (upd (upd (upd (upd (fun _ => 0) 0 (-1)) 1 (-1)) 2 (-1)) 3 (-1)) 4 (-1)) 5 (-1)) else fun _ => 0, fun _ _ => 0, fun k j => if k = 7 then (if j = 2 then 9 else if j = 4 then 10 else 0) else 0)
