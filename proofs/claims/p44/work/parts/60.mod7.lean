/-! ROWS of the model: filter. -/
noncomputable def p1F (o : Nat) (F : Nat → Bool) (x : Nat) : Nat := if o = 11 then dn F 12 x else upc F 12 x
noncomputable def p2F (o : Nat) (G : Nat → Bool) (x : Nat) : Nat := if o = 8 then dn G 12 x else upc G 12 x
noncomputable def keepF (o : Nat) (F G : Nat → Bool) (x : Nat) : Bool := keptF o (F x) (G x) (p1F o F x) (p2F o G x)
