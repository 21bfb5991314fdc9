/-! ROWS of the model: where the first error was. -/
section MQ5
variable {Γ : Gm} {d : Nat} {σ : AH} {own mad : Nat → Nat} {S : StT} {c : Nat}
theorem merrorPosition_C (R : RepM Γ σ own mad S c) : CMN Γ d MX9_errorPosition [.ref (mad 0)] σ own mad c (0, sE S, S) := by
  refine RUN.wf (fun W => eX9_errorPosition ⟨R.2.1.1, fun σ2 e2 => ?_⟩)
  obtain ⟨R2, F2, g2, st, W2⟩ := mq_code R W e2
  rw [R2.2.2.2.1.2.2.1]
  exact ⟨⟨rfl, g2⟩, st⟩
end MQ5
