/-! ROWS of the model: the table grows. -/
def NF (mo tp lw hg sl b : Nat) (σ σ' : AH) : Prop := FR (fun a => a = mo ∨ a = tp ∨ a = lw ∨ a = hg ∨ a = sl ∨ b ≤ a) σ σ' ∧ (∀ j, j ≠ 20 → gi σ' mo j = gi σ mo j) ∧ ∀ j, (j < 16 ∨ 20 ≤ j) → gr σ' mo j = gr σ mo j
theorem NF.refl (mo tp lw hg sl b : Nat) (σ : AH) : NF mo tp lw hg sl b σ σ := ⟨FR.refl _ _, fun _ _ => rfl, fun _ _ => rfl⟩
theorem NF.trans {mo tp lw hg sl b tp' lw' hg' sl' b' : Nat} {σ σ1 σ2 : AH} (h : NF mo tp lw hg sl b σ σ1) (k : NF mo tp' lw' hg' sl' b' σ1 σ2) (e1 : tp' = tp ∨ b ≤ tp') (e2 : lw' = lw ∨ b ≤ lw') (e3 : hg' = hg ∨ b ≤ hg') (e4 : sl' = sl ∨ b ≤ sl') (e5 : b ≤ b') : NF mo tp lw hg sl b σ σ2 := by
  refine ⟨h.1.trans (k.1.mono (fun a ha => ?_)), fun j hj => (k.2.1 j hj).trans (h.2.1 j hj), fun j hj => (k.2.2 j hj).trans (h.2.2 j hj)⟩
  rcases ha with z | z | z | z | z | z
  · exact Or.inl z
  · rcases e1 with y | y
    · exact Or.inr (Or.inl (z.trans y))
    · exact Or.inr (Or.inr (Or.inr (Or.inr (Or.inr (by omega)))))
  · rcases e2 with y | y
    · exact Or.inr (Or.inr (Or.inl (z.trans y)))
    · exact Or.inr (Or.inr (Or.inr (Or.inr (Or.inr (by omega)))))
  · rcases e3 with y | y
    · exact Or.inr (Or.inr (Or.inr (Or.inl (z.trans y))))
    · exact Or.inr (Or.inr (Or.inr (Or.inr (Or.inr (by omega)))))
  · rcases e4 with y | y
    · exact Or.inr (Or.inr (Or.inr (Or.inr (Or.inl (z.trans y)))))
    · exact Or.inr (Or.inr (Or.inr (Or.inr (Or.inr (by omega)))))
  · exact Or.inr (Or.inr (Or.inr (Or.inr (Or.inr (by omega)))))
