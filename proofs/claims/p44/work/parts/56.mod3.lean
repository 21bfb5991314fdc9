/-! ROWS of the model: joinRows, meetRows. -/
def MA (σ : AH) (mo wk f1 f2 : Nat) : Prop := hs σ mo = some (7, 27) ∧ gr σ mo 13 = some f1 ∧ gr σ mo 14 = some f2 ∧ gr σ mo 15 = some wk ∧ hs σ f1 = some (23, 4096) ∧ hs σ f2 = some (23, 4096) ∧ hs σ wk = some (23, 7040) ∧ f1 ≠ f2 ∧ f1 ≠ wk ∧ f2 ≠ wk
theorem MA.chg {I J : Nat → Prop} {σ σ' : AH} {mo wk f1 f2 : Nat} (h : MA σ mo wk f1 f2) (c : Chg I J σ σ') : MA σ' mo wk f1 f2 := by
  unfold MA at *
  rw [c.2.2.1, c.2.2.2.1]
  exact h
