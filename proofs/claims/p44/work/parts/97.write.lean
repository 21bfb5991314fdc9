/-! ROWS of FamilyStore: families by cost; writing. -/
def bx (x : Int32) : Int32 := Int8.toInt32 (Int32.toInt8 x)
section WR
variable {Γ : Gm} {d : Nat} {σ : AH} {own ad : Nat → Nat} {S : StT} {c w : Nat}
/-- fields and arrays of ints -/
def IN (ad : Nat → Nat) (a : Nat) : Prop := a = ad 0 ∨ a = ad 1 ∨ a = ad 2 ∨ a = ad 19
end WR

