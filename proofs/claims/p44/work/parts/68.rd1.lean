/-! ROWS of Reader: the state, and the small methods. -/
def cI (rd kn vl : Nat) : Nat → Prop := fun a => a = rd ∨ a = kn ∨ a = vl
def nJ : Nat → Prop := fun _ => False
/-- what stands while an expression is read -/
def CRs (σ : AH) (rd tx fm kn vl : Nat) (t : Nat → Int32) (tl : Nat) (ok : Nat → Bool) : Prop :=
  hs σ rd = some (5, 10) ∧ gr σ rd 0 = some kn ∧ gr σ rd 1 = some vl ∧ gr σ rd 3 = some tx ∧ gr σ rd 5 = some fm ∧ hs σ kn = some (22, 200) ∧ hs σ vl = some (22, 200) ∧ kn ≠ vl ∧ hs σ tx = some (20, 200) ∧ hs σ fm = some (25, 200) ∧ tl ≤ 200 ∧ (∀ i, i < tl → gi σ tx i = t i) ∧ ∀ i, i < 200 → (gr σ fm i = none ↔ ok i = false)
theorem CRs.chg {σ σ' : AH} {rd tx fm kn vl tl : Nat} {t : Nat → Int32} {ok : Nat → Bool} (C : CRs σ rd tx fm kn vl t tl ok) (h : Chg (cI rd kn vl) nJ σ σ') : CRs σ' rd tx fm kn vl t tl ok := by
  obtain ⟨C0, C1, C2, C3, C4, C5, C6, C7, C8, C9, C10, C11, C12⟩ := C
  have n1 : tx ≠ rd := hs_ne C8 C0 (show (20 : Nat) ≠ 5 by decide)
  have n2 : tx ≠ kn := hs_ne C8 C5 (show (20 : Nat) ≠ 22 by decide)
  have n3 : tx ≠ vl := hs_ne C8 C6 (show (20 : Nat) ≠ 22 by decide)
  refine ⟨h.gh C0, h.gg C1, h.gg C2, h.gg C3, h.gg C4, h.gh C5, h.gh C6, C7, h.gh C8, h.gh C9, C10, fun i hi => ?_, fun i hi => ?_⟩
  · rw [h.gi (fun z => z.elim n1 (fun z => z.elim n2 n3))]; exact C11 i hi
  · rw [h.2.2.2.1]; exact C12 i hi
section RD
variable {Γ : Gm} {d : Nat} {σ : AH} {rd tx fm kn vl tl p : Nat} {t : Nat → Int32} {ok : Nat → Bool} {pr : List Nat} {e : Option Nat}
theorem list_snoc {pr : List Nat} {s j x : Nat} (h : (pr ++ [s])[j]? = some x) : (j < pr.length ∧ pr[j]? = some x) ∨ (j = pr.length ∧ x = s) := by
  rcases Nat.lt_or_ge j pr.length with c | c
  · rw [List.getElem?_append_left c] at h
    exact Or.inl ⟨c, h⟩
  · rw [List.getElem?_append_right c] at h
    rcases Nat.eq_zero_or_pos (j - pr.length) with z | z
    · rw [z] at h
      exact Or.inr ⟨by omega, (Option.some.inj h).symm⟩
    · have : ([s] : List Nat)[j - pr.length]? = none := List.getElem?_eq_none (show 1 ≤ j - pr.length from z)
      rw [this] at h; exact absurd h (by simp)
theorem b2i_ne0 (b : Bool) : b2i b ≠ 0 ↔ b = true := by cases b <;> decide
end RD

