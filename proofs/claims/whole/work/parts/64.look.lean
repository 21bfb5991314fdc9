/-! ROWS of the model: look, isMask, isElement. -/
/-- a family's number: there, and released -/
def isNo (n : Nat) (x : Int32) (k : Nat) : Prop := x = nI k ∧ k < n
theorem no_cases (n : Nat) (x : Int32) (hn : n < 2 ^ 31) : (∃ k, isNo n x k) ∨ (x < 0 ∨ (¬ x < 0 ∧ ¬ x < nI n)) := by
  rcases i_cases x with h | ⟨k, hk, rfl⟩
  · exact Or.inr (Or.inl h)
  · rcases Nat.lt_or_ge k n with c | c
    · exact Or.inl ⟨k, rfl, c⟩
    · exact Or.inr (Or.inr ⟨nn0 hk, fun z => by have := (nI_ltI hk hn).mp z; omega⟩)
theorem look_no {Γ : Gm} {d : Nat} {σ : AH} {mo n : Nat} {x : Int32} (h0 : hs σ mo = some (7, 27)) (h1 : gi σ mo 6 = nI n) (hx : x < 0 ∨ (¬ x < 0 ∧ ¬ x < nI n)) : RI Γ d MX9_look_ [.ref mo, .int x] σ (fun r σ' => σ' = σ ∧ r = 1) := by
  refine eX9_look_ ⟨fun z => ⟨_, rfl, rfl, rfl⟩, fun z => ⟨h0, fun w => ?_, fun w => ⟨_, rfl, rfl, rfl⟩⟩⟩
  rw [h1] at w
  rcases hx with q | q
  · exact absurd q z
  · exact absurd w q.2
theorem look_R {Γ : Gm} {d : Nat} {σ : AH} {mo ir n k : Nat} {rel : Nat → Bool} (h0 : hs σ mo = some (7, 27)) (h1 : gi σ mo 6 = nI n) (hn : n ≤ 200) (h2 : gr σ mo 8 = some ir) (h3 : hs σ ir = some (21, 200)) (h4 : ∀ i, i < n → gi σ ir i = b2i (rel i)) (hk : k < n) : RI Γ d MX9_look_ [.ref mo, .int (nI k)] σ (fun r σ' => σ' = σ ∧ r = if rel k then 2 else 0) := by
  refine eX9_look_ ⟨fun z => absurd z (nn0 (by omega)), fun z => ⟨h0, fun w => ⟨ir, h2, 200, h3, k, IXn (by omega) (by omega), fun q => ⟨_, rfl, rfl, ?_⟩, fun q => ⟨_, rfl, rfl, ?_⟩⟩, fun w => absurd (by rw [h1]; exact (nI_ltI (by omega) (by omega)).mpr hk) w⟩⟩
  · rw [h4 k hk] at q
    rw [(b2i_0 _).mp q]; rfl
  · rw [h4 k hk] at q
    rw [ts_nf (fun w => q ((b2i_0 _).mpr w))]; rfl
theorem isMask_R {Γ : Gm} {d : Nat} {σ : AH} {x : Int32} : RI Γ d MX9_isMask [.int x] σ (fun r σ' => σ' = σ ∧ ((r = 1 ∧ isM x) ∨ (r = 0 ∧ ¬ isM x))) :=
  eX9_isMask ⟨fun z => ⟨_, rfl, rfl, Or.inr ⟨rfl, fun q => q.1 z⟩⟩, fun z => ⟨fun w => ⟨_, rfl, rfl, Or.inr ⟨rfl, fun q => q.2 w⟩⟩, fun w => ⟨_, rfl, rfl, Or.inl ⟨rfl, z, w⟩⟩⟩⟩
def isE (x : Int32) : Prop := ¬ x < 0 ∧ ¬ (12 : Int32) ≤ x
theorem isE_of {x : Int32} (h : isE x) : ∃ e, e < 12 ∧ x = nI e := by
  obtain ⟨k, hk, rfl⟩ := nI_of h.1
  exact ⟨k, by have := h.2; rw [c12le hk] at this; omega, rfl⟩
theorem isElement_R {Γ : Gm} {d : Nat} {σ : AH} {x : Int32} : RI Γ d MX9_isElement [.int x] σ (fun r σ' => σ' = σ ∧ ((r = 1 ∧ isE x) ∨ (r = 0 ∧ ¬ isE x))) :=
  eX9_isElement ⟨fun z => ⟨_, rfl, rfl, Or.inr ⟨rfl, fun q => q.1 z⟩⟩, fun z => ⟨fun w => ⟨_, rfl, rfl, Or.inr ⟨rfl, fun q => q.2 w⟩⟩, fun w => ⟨_, rfl, rfl, Or.inl ⟨rfl, z, w⟩⟩⟩⟩
