/-! ROWS of the model's parser: numbers of families, factors. -/
def okf (n : Nat) (rel : Nat → Bool) (v : Nat) : Bool := decide (v < n) && !rel v
section MP
variable {Γ : Gm} {mo tx pg ir tl n : Nat} {t : Nat → Int32} {rel : Nat → Bool}
end MP

