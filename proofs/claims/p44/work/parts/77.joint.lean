/-! ROWS: the class's parser and the model's come to the same. -/
def nF (o : Nat) : Nat := 2 * (20 - o) + 1
section JP
variable (Γ : Gm) (rd tx fm kn vl mo tx2 pg ir : Nat) (t : Nat → Int32) (tl n : Nat) (rel : Nat → Bool)
variable {Γ rd tx fm kn vl mo tx2 pg ir t tl n rel}

end JP

