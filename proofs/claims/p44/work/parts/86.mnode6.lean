/-! ROWS of the model: counting nodes; what a count of nodes is. -/
/-- there are k families with Q -/
def cardN (Q : (Nat → Bool) → Prop) (k : Nat) : Prop := ∃ (n : Nat) (den : Nat → Nat → Bool), (∀ i j, i < n → j < n → den i = den j → i = j) ∧ (∀ g, Q g → ∃ i, 2 ≤ i ∧ i < n ∧ den i = g) ∧ k = ctp (fun i => 2 ≤ i ∧ Q (den i)) n
def MSh (σ : AH) (mo tp lw hg sl c : Nat) : Prop := hs σ mo = some (7, 27) ∧ gr σ mo 16 = some tp ∧ gr σ mo 17 = some lw ∧ gr σ mo 18 = some hg ∧ gr σ mo 19 = some sl ∧ hs σ tp = some (22, 2 ^ c) ∧ hs σ lw = some (22, 2 ^ c) ∧ hs σ hg = some (22, 2 ^ c) ∧ hs σ sl = some (22, 2 ^ (c + 2)) ∧ (tp ≠ lw ∧ tp ≠ hg ∧ tp ≠ sl ∧ lw ≠ hg ∧ lw ≠ sl ∧ hg ≠ sl) ∧ 6 ≤ c ∧ c ≤ 17
theorem MG.sh {σ : AH} {mo tp lw hg sl c n : Nat} {K : Nat → Nat × Nat × Nat} {den : Nat → Nat → Bool} (M : MG σ mo tp lw hg sl c n K den) : MSh σ mo tp lw hg sl c := by
  obtain ⟨⟨N0, N1, N2, N3, N4, N5, N6, N7, N8, m, N9, N10, N11, N12, N13, N14, N15⟩, T, c17⟩ := M
  exact ⟨N0, N1, N2, N3, N4, N5, N6, N7, N8, m, N11, c17⟩
def den0 (i : Nat) : Nat → Bool := if i = 0 then zf else onef
section MC
variable {Γ : Gm} {d : Nat} {σ : AH} {P : Nat → Prop} {mo tp lw hg sl c pa fa : Nat}
end MC

