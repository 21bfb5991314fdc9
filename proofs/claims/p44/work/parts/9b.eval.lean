/-! ROWS of FamilyStore: an expression evaluated. -/
section EVL
variable {Γ : Gm} {d : Nat} {σ : AH} {own ad : Nat → Nat} {S : StT} {c w : Nat}
def RD3 (ad : Nat → Nat) (a : Nat) : Prop := a = ad 10 ∨ a = ad 11 ∨ a = ad 12
theorem IN.cw {a b : Nat} (O : OWc own ad b) (h : IN ad a) : CW (own a) := IE.cw O (Or.inl h)
theorem RD3.cw {a b : Nat} (O : OWc own ad b) (h : RD3 ad a) : CW (own a) := by
  unfold CW
  rcases h with z | z | z
  · rw [z, (O 10 (by omega)).1]; omega
  · rw [z, (O 11 (by omega)).1]; omega
  · rw [z, (O 12 (by omega)).1]; omega
theorem cW.cw {r : Nat} (h : cW r) : CW r := by unfold cW at h; unfold CW; omega
end EVL

