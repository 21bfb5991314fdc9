/-! ROWS of Calculator: pushFamily, apply, run. -/
theorem RP_no {W : Nat → Prop} {own : Nat → Nat} {a b r : Nat} (h : own a = r) (hb : a < b) (hW : ¬ W r) : ¬ RP W own b a := fun z => z.elim (fun z => hW (by rw [← h]; exact z)) (fun z => by omega)
section CA
variable {Γ : Gm} {d b : Nat} {σ0 τ : AH} {own0 own : Nat → Nat} {al f1 f2 sp st ca ra dp h : Nat} {S : Nat → Nat → Bool}
theorem clsU_k : ∀ s, s < 14 → 10 ≤ s → isB1 (clsOp s) ∧ (nI (clsOp s) = 4 ∨ nI (clsOp s) = 5 ∨ nI (clsOp s) = 6 ∨ nI (clsOp s) = 7) := by
  intro s h1 h2
  have : s = 10 ∨ s = 11 ∨ s = 12 ∨ s = 13 := by omega
  rcases this with h | h | h | h <;> (subst h; exact ⟨by unfold isB1 clsOp; decide, by decide⟩)
theorem clsB_k : ∀ s, s < 10 → 1 ≤ s → isB2 (clsOp s) ∧ (isDiv (clsOp s) ↔ isDv s) ∧ (nI (clsOp s) ≠ 4 ∧ nI (clsOp s) ≠ 5 ∧ nI (clsOp s) ≠ 6 ∧ nI (clsOp s) ≠ 7) ∧ ((nI (clsOp s) = 47 ∨ nI (clsOp s) = 37) ↔ isDv s) := by
  intro s h1 h2
  have : s = 1 ∨ s = 2 ∨ s = 3 ∨ s = 4 ∨ s = 5 ∨ s = 6 ∨ s = 7 ∨ s = 8 ∨ s = 9 := by omega
  rcases this with h | h | h | h | h | h | h | h | h <;> (subst h; exact ⟨by unfold isB2 clsOp; decide, by unfold isDiv isDv clsOp; decide, by decide, by unfold isDv; decide⟩)
theorem CRI.ne {k t : Nat} (I : CRI b σ0 own0 al f1 f2 sp st ca ra τ own dp h S) (hk : k < 43) (ht : gr τ ra k = some t) : t ≠ sp ∧ t ≠ st ∧ hs τ t = some (23, 64) ∧ own t = 100 + k := by
  obtain ⟨I0, I1, I2, I3, ⟨w1, w2, w3, w4, w5, w6, w7, w8, w9, w10, w11, w12, w13, w14⟩, I5, I6, I7, I8⟩ := I
  obtain ⟨t1, t2⟩ := I1.2.2.2 k t hk ht
  exact ⟨fun z => by rw [z, I3 sp w7, w3] at t2; omega, fun z => by rw [z, I3 st w8, w4] at t2; omega, t1, t2⟩
end CA

