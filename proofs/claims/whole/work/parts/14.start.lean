/-- the abstract heap behind the constructors -/
def hs0 : HS := (fun a => if a = 38 then (upd (upd (upd (upd zI 13 (-9)) 14 (-9)) 15 (-9)) 16 (-9)) else zI, fun _ => 0)
