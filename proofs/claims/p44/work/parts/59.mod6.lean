/-! ROWS of the model: isKept. -/
def keptF (o : Nat) (x y : Bool) (p1 p2 : Nat) : Bool := if o = 1 then x || y else if o = 2 then x && !y else if o = 3 then x && y else if o = 13 then decide (0 < p1) else if o = 8 then x && decide (0 < p2) else if o = 9 then x && decide (0 < p2) else x && decide (p1 = 1)
