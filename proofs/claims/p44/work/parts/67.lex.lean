/-! PURE ROWS: the text of an expression: scanning, tokens, words, numbers. -/
def scan (f : Int32 → Bool) (t : Nat → Int32) : Nat → Nat → Nat
  | 0, p => p
  | n + 1, p => if f (t p) = true then scan f t n (p + 1) else p
def scn (f : Int32 → Bool) (t : Nat → Int32) (tl p : Nat) : Nat := scan f t (tl - p) p
def isLb (x : Int32) : Bool := !decide (x < 97) && !decide (122 < x)
def isDb (x : Int32) : Bool := !decide (x < 48) && !decide (57 < x)
def isSP (x : Int32) : Bool := decide (x = 32)
/-- the place of the next byte that is no space -/
def skp (t : Nat → Int32) (tl p : Nat) : Nat := scn isSP t tl p
/-- .. and its end -/
def tnd (t : Nat → Int32) (tl s : Nat) : Nat := if tl ≤ s then s else if isLb (t s) = true then scn isLb t tl (s + 1) else if isDb (t s) = true then scn isDb t tl (s + 1) else s + 1
/-- the place of the token behind the one at s -/
def nxt (t : Nat → Int32) (tl s : Nat) : Nat := skp t tl (tnd t tl s)
/-- which operation the word from p to q names, in the model's numbers; 0 if none -/
def w3 (t : Nat → Int32) (p q : Nat) (a b c : Int32) : Bool := decide (q = p + 3) && (decide (t p = a) && (decide (t (p + 1) = b) && decide (t (p + 2) = c)))
