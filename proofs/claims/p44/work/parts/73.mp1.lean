/-! ROWS of the model's parser: the state, and the small methods. -/
/-- a byte as an int -/
def by8 (x : Int32) : Prop := ∃ m, m < 256 ∧ x = (nI m).toInt8.toInt32
def MRs (σ : AH) (mo tx pg ir : Nat) (t : Nat → Int32) (tl n : Nat) (rel : Nat → Bool) : Prop :=
  hs σ mo = some (7, 27) ∧ gr σ mo 1 = some tx ∧ gr σ mo 8 = some ir ∧ gr σ mo 22 = some pg ∧ hs σ tx = some (20, 200) ∧ hs σ ir = some (21, 200) ∧ hs σ pg = some (22, 200) ∧ tl ≤ 200 ∧ n ≤ 200 ∧ gi σ mo 2 = nI tl ∧ gi σ mo 6 = nI n ∧ (∀ i, i < tl → gi σ tx i = t i) ∧ (∀ i, i < n → gi σ ir i = b2i (rel i)) ∧ ∀ i, i < tl → by8 (t i)
def CM (mo pg : Nat) (σ σ' : AH) : Prop := Chg (fun a => a = mo ∨ a = pg) nJ σ σ' ∧ ∀ i, i < 23 → gi σ' mo i = gi σ mo i
theorem CM.refl (mo pg : Nat) (σ : AH) : CM mo pg σ σ := ⟨Chg.refl _ _ _, fun _ _ => rfl⟩
theorem CM.trans {mo pg : Nat} {σ σ1 σ2 : AH} (h : CM mo pg σ σ1) (k : CM mo pg σ1 σ2) : CM mo pg σ σ2 := ⟨h.1.trans k.1, fun i hi => (k.2 i hi).trans (h.2 i hi)⟩
theorem MRs.ne {σ : AH} {mo tx pg ir tl n : Nat} {t : Nat → Int32} {rel : Nat → Bool} (C : MRs σ mo tx pg ir t tl n rel) : mo ≠ pg ∧ pg ≠ mo := ⟨hs_ne C.1 C.2.2.2.2.2.2.1 (show (7 : Nat) ≠ 22 by decide), hs_ne C.2.2.2.2.2.2.1 C.1 (show (22 : Nat) ≠ 7 by decide)⟩
theorem MRs.chg {σ σ' : AH} {mo tx pg ir tl n : Nat} {t : Nat → Int32} {rel : Nat → Bool} (C : MRs σ mo tx pg ir t tl n rel) (h : CM mo pg σ σ') : MRs σ' mo tx pg ir t tl n rel := by
  obtain ⟨C0, C1, C2, C3, C4, C5, C6, C7, C8, C9, C10, C11, C12, C13⟩ := C
  have n1 : tx ≠ mo := hs_ne C4 C0 (show (20 : Nat) ≠ 7 by decide)
  have n2 : tx ≠ pg := hs_ne C4 C6 (show (20 : Nat) ≠ 22 by decide)
  have n3 : ir ≠ mo := hs_ne C5 C0 (show (21 : Nat) ≠ 7 by decide)
  have n4 : ir ≠ pg := hs_ne C5 C6 (show (21 : Nat) ≠ 22 by decide)
  refine ⟨h.1.gh C0, h.1.gg C1, h.1.gg C2, h.1.gg C3, h.1.gh C4, h.1.gh C5, h.1.gh C6, C7, C8, (h.2 2 (by omega)).trans C9, (h.2 6 (by omega)).trans C10, fun i hi => ?_, fun i hi => ?_, C13⟩
  · rw [h.1.gi (fun z => z.elim n1 n2)]; exact C11 i hi
  · rw [h.1.gi (fun z => z.elim n3 n4)]; exact C12 i hi
def MD (σ : AH) (mo pg a : Nat) (pr : List Nat) (o : Nat) : Prop := gi σ mo 24 = nI a ∧ gi σ mo 23 = nI pr.length ∧ gi σ mo 25 = nI o ∧ gi σ mo 26 = -1 ∧ ∀ j s, pr[j]? = some s → gi σ pg j = nI s
def ME (σ : AH) (mo a k e : Nat) : Prop := gi σ mo 24 = nI a ∧ gi σ mo 23 = nI k ∧ gi σ mo 26 = nI e
section MP
variable {Γ : Gm} {d : Nat} {σ : AH} {mo tx pg ir tl n a : Nat} {t : Nat → Int32} {rel : Nat → Bool}
end MP

