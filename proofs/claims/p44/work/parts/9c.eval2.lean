/-! ROWS of FamilyStore: evaluate; the operations by their names. -/
theorem CALL.mono {Γ : Gm} {d d2 : Nat} {M : MI} {vs : List Value} {σ : AH} {P : Oc → AH → Prop} {K : Option Value → AH → Prop} {KX : String → AH → Prop} (h : RUN Γ d2 M vs σ P) (hd : d2 < d) (k1 : ∀ v σ1, WF Γ σ1 → P (.inl v) σ1 → K v σ1) (k2 : ∀ E σ1, WF Γ σ1 → P (.inr E) σ1 → KX E σ1) : CALL Γ d M vs σ K KX := by
  intro W
  obtain ⟨o, σ1, r, w, q⟩ := h W
  refine ⟨d2, hd, o, σ1, r, w, ?_⟩
  cases o with
  | inl v => exact k1 v σ1 w q
  | inr E => exact k2 E σ1 w q
section EV2
variable {Γ : Gm} {d : Nat} {σ : AH} {own ad : Nat → Nat} {S : StT} {c w : Nat}
theorem two_wrap {o : Nat} {f g : Int32} (R : RepC Γ σ own ad S c w) (h1 : 1 ≤ o) (h9 : o ≤ 9) (hd : 11 ≤ d) (l : List String) (hl : l = [IOB, NSE, ISE, ARE] ∨ (l = [IOB, NSE, ISE] ∧ ¬ isDv o)) : CI Γ d MX8_addOfTwo [.ref (ad 0), .int f, .int g, .int (nI (clsOp o))] σ (fun r2 σ1 => ansO l (aTwo o S f g) (.inl (some (.int r2))) ∧ StepC Γ σ own ad c w (aTwo o S f g).2.2 σ1) (fun E σ1 => ansO l (aTwo o S f g) (.inr E) ∧ StepC Γ σ own ad c w (aTwo o S f g).2.2 σ1) := by
  have h := addOfTwo_R (f := f) (g := g) R h1 h9 (Nat.le_refl 10)
  have le : ∀ oc, ansO [IOB, NSE, ISE, ARE] (aTwo o S f g) oc → ansO l (aTwo o S f g) oc := by
    intro oc ho
    rcases hl with e | ⟨e, nd⟩
    · rw [e]; exact ho
    · rw [e]
      unfold ansO at ho ⊢
      have : (aTwo o S f g).1 ≤ 3 := by
        unfold aTwo
        split
        · show 1 ≤ 3; omega
        · split
          · show 2 ≤ 3; omega
          · split
            · show 3 ≤ 3; omega
            · rw [if_neg (by rw [bd_false.mpr (fun z => nd z.1)]; decide)]
              show 0 ≤ 3; omega
      generalize (aTwo o S f g).1 = k at *
      have kc : k = 0 ∨ k = 1 ∨ k = 2 ∨ k = 3 := by omega
      rcases kc with rfl | rfl | rfl | rfl <;> exact ho
  refine CALL.mono h (by omega) (fun v σ1 _ q => ?_) (fun E σ1 _ q => ⟨le _ q.1, q.2⟩)
  have q1 := q.1
  unfold ansO at q1
  split at q1
  · exact ⟨_, by rw [Sum.inl.inj q1], le _ (by rw [← q1]; exact q.1), q.2⟩
  · exact absurd q1 (by simp)
end EV2

