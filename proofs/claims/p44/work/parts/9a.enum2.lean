/-! ROWS of FamilyStore: the cheapest sets kept. -/
section EN2
variable {Γ : Gm} {d : Nat} {σ : AH} {own ad : Nat → Nat} {S : StT} {c w : Nat}
/-- fields, arrays of ints, the two arrays of work -/
def IE (ad : Nat → Nat) (a : Nat) : Prop := IN ad a ∨ a = ad 4 ∨ a = ad 5
theorem IE.cw {a b : Nat} (O : OWc own ad b) (h : IE ad a) : CW (own a) := by
  unfold CW
  rcases h with (z | z | z | z) | z | z
  · rw [z, (O 0 (by omega)).1]; omega
  · rw [z, (O 1 (by omega)).1]; omega
  · rw [z, (O 2 (by omega)).1]; omega
  · rw [z, (O 19 (by omega)).1]; omega
  · rw [z, (O 4 (by omega)).1]; omega
  · rw [z, (O 5 (by omega)).1]; omega
theorem IN.no (O : OWc own ad (lo Γ + hc σ)) {i : Nat} (hi : i < 20) (h0 : i ≠ 0) (h1 : i ≠ 1) (h2 : i ≠ 2) (h3 : i ≠ 19) : ¬ IN ad (ad i) := by
  rintro (z | z | z | z)
  · exact O.ne hi (by omega) h0 z
  · exact O.ne hi (by omega) h1 z
  · exact O.ne hi (by omega) h2 z
  · exact O.ne hi (by omega) h3 z
end EN2

