/-! ROWS of Costs and Heap. -/
/-- the sum of the costs of the elements below n -/
def csum (c : Nat → Int32) : Nat → Nat → Int32
  | 0, _ => 0
  | n + 1, m => csum c n m + (if m.testBit n then c n else 0)
def CostOK (σ : AH) (co ea lw upp : Nat) (c : Nat → Int32) : Prop := hs σ co = some (2, 3) ∧ gr σ co 0 = some ea ∧ gr σ co 1 = some lw ∧ gr σ co 2 = some upp ∧ hs σ ea = some (22, 12) ∧ hs σ lw = some (22, 64) ∧ hs σ upp = some (22, 64) ∧ ea ≠ lw ∧ ea ≠ upp ∧ lw ≠ upp ∧ (∀ e, e < 12 → gi σ ea e = c e) ∧ (∀ m, m < 64 → gi σ lw m = csum c 6 m) ∧ (∀ m, m < 64 → gi σ upp m = csum (fun j => c (6 + j)) 6 m)
