/-! ROWS of Calculator: its rows, push, apply. Roles of arrays and objects: own a. -/
def RP (W : Nat → Prop) (own : Nat → Nat) (b : Nat) : Nat → Prop := fun a => W (own a) ∨ b ≤ a
def cW (r : Nat) : Prop := r = 5 ∨ r = 6 ∨ r = 8 ∨ r = 9 ∨ r = 14 ∨ r = 15 ∨ (100 ≤ r ∧ r < 143)
def CalOK (σ : AH) (own : Nat → Nat) (ca ra : Nat) : Prop := hs σ ca = some (1, 2) ∧ gr σ ca 0 = some ra ∧ hs σ ra = some (26, 43) ∧ ∀ k t, k < 43 → gr σ ra k = some t → hs σ t = some (23, 64) ∧ own t = 100 + k
noncomputable def nnr (σ : AH) (ra : Nat) : Nat := ctp (fun k => gr σ ra k = none) 43
theorem AlgOK.fr {P : Nat → Prop} {σ σ' : AH} {al f1 f2 sp st : Nat} (A : AlgOK σ al f1 f2 sp st) (h : FR P σ σ') (ha : ¬ P al) : AlgOK σ' al f1 f2 sp st := by
  obtain ⟨A0, A1, A2, A3, A4, A5, A6, A7, A8, A9, A10⟩ := A
  have g := h.gr ha
  exact ⟨h.gh A0, by rw [g]; exact A1, by rw [g]; exact A2, by rw [g]; exact A3, by rw [g]; exact A4, h.gh A5, h.gh A6, h.gh A7, h.gh A8, A9, A10⟩
def CRI (b : Nat) (σ0 : AH) (own0 : Nat → Nat) (al f1 f2 sp st ca ra : Nat) (τ : AH) (own : Nat → Nat) (dp h : Nat) (S : Nat → Nat → Bool) : Prop :=
  AlgOK τ al f1 f2 sp st ∧ CalOK τ own ca ra ∧ FR (RP cW own0 b) σ0 τ ∧ (∀ a, a < b → own a = own0 a) ∧ (own0 f1 = 5 ∧ own0 f2 = 6 ∧ own0 sp = 8 ∧ own0 st = 9 ∧ own0 ca = 14 ∧ own0 ra = 15 ∧ sp < b ∧ st < b ∧ own0 al = 7 ∧ al < b ∧ ca < b ∧ ra < b ∧ f1 < b ∧ f2 < b) ∧ gi τ ca 1 = nI dp ∧ (∀ k, k < h → ∃ t, gr τ ra k = some t ∧ fam (gj τ t) = S k) ∧ hc τ + nnr τ ra = hc σ0 + nnr σ0 ra ∧ hv τ + 64 * nnr τ ra = hv σ0 + 64 * nnr σ0 ra
section CA
variable {Γ : Gm} {d b : Nat} {σ0 τ : AH} {own0 own : Nat → Nat} {al f1 f2 sp st ca ra dp h : Nat} {S : Nat → Nat → Bool}
end CA

