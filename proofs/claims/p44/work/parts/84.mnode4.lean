/-! ROWS of the model: a node with what it stands for; all parts of a family numbered. -/
/-- the model's table, and what its nodes stand for -/
def MG (σ : AH) (mo tp lw hg sl c n : Nat) (K : Nat → Nat × Nat × Nat) (den : Nat → Nat → Bool) : Prop := NTab σ mo tp lw hg sl c n (fun i => K (i + 2)) ∧ NT K (n + 2) den ∧ c ≤ 17
/-- the model's own frame while it counts nodes: other fields stay -/
def OF (mo : Nat) (P : Nat → Prop) (σ σ' : AH) : Prop := FR P σ σ' ∧ (∀ j, j ≠ 20 → gi σ' mo j = gi σ mo j) ∧ ∀ j, (j < 16 ∨ 20 ≤ j) → gr σ' mo j = gr σ mo j
theorem OF.refl (mo : Nat) (P : Nat → Prop) (σ : AH) : OF mo P σ σ := ⟨FR.refl _ _, fun _ _ => rfl, fun _ _ => rfl⟩
theorem OF.trans {mo : Nat} {P : Nat → Prop} {σ σ1 σ2 : AH} (h : OF mo P σ σ1) (k : OF mo P σ1 σ2) : OF mo P σ σ2 := ⟨h.1.trans k.1, fun j hj => (k.2.1 j hj).trans (h.2.1 j hj), fun j hj => (k.2.2 j hj).trans (h.2.2 j hj)⟩
theorem NF.of {mo tp lw hg sl b : Nat} {P : Nat → Prop} {σ σ' : AH} (h : NF mo tp lw hg sl b σ σ') (p : P mo ∧ P tp ∧ P lw ∧ P hg ∧ P sl) (q : ∀ a, b ≤ a → P a) : OF mo P σ σ' := by
  refine ⟨h.1.mono (fun a ha => ?_), h.2.1, h.2.2⟩
  rcases ha with z | z | z | z | z | z
  · rw [z]; exact p.1
  · rw [z]; exact p.2.1
  · rw [z]; exact p.2.2.1
  · rw [z]; exact p.2.2.2.1
  · rw [z]; exact p.2.2.2.2
  · exact q a z
theorem MG.inj {σ : AH} {mo tp lw hg sl c n : Nat} {K : Nat → Nat × Nat × Nat} {den : Nat → Nat → Bool} (M : MG σ mo tp lw hg sl c n K den) : ∀ i j, i < n → j < n → K (i + 2) = K (j + 2) → i = j := by
  intro i j hi hj e
  obtain ⟨-, T, -⟩ := M
  have a := T.2.2.1 (i + 2) (by omega) (by omega)
  have b := T.2.2.1 (j + 2) (by omega) (by omega)
  have := T.2.2.2.1 (i + 2) (j + 2) (by omega) (by omega) (by rw [a.2.2.2.2.2.2, b.2.2.2.2.2.2, e])
  omega
