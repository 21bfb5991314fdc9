/-! ROWS of Heap. -/
/-- the values in the first n places, each once -/
def hasV (f : Nat → Int32) (n : Nat) (v : Int32) : Prop := ∃ i, i < n ∧ f i = v
def injV (f : Nat → Int32) (n : Nat) : Prop := ∀ i j, i < n → j < n → f i = f j → i = j
def sameV (n : Nat) (f g : Nat → Int32) : Prop := (∀ v, hasV f n v ↔ hasV g n v) ∧ (injV f n → injV g n) ∧ ∀ i, n ≤ i → g i = f i
theorem sameV.refl (n : Nat) (f : Nat → Int32) : sameV n f f := ⟨fun _ => Iff.rfl, id, fun _ _ => rfl⟩
theorem sameV.trans {n : Nat} {f g h : Nat → Int32} (a : sameV n f g) (b : sameV n g h) : sameV n f h := ⟨fun v => (a.1 v).trans (b.1 v), fun z => b.2.1 (a.2.1 z), fun i hi => (b.2.2 i hi).trans (a.2.2 i hi)⟩
