/-! ROWS of Diagrams: visit. -/
/-- the nodes met so far: those of the tops above e, and of top e below q -/
def PR (F : Nat → Bool) (e q : Nat) (g : Nat → Bool) : Prop := ∃ e' p', e' < 12 ∧ ((e < e' ∧ p' < 2 ^ e') ∨ (e' = e ∧ p' < q)) ∧ part F (e' + 1) (p' + 2 ^ e') ≠ zf ∧ g = part F e' p'
theorem PR_0 (F : Nat → Bool) (g : Nat → Bool) : PR F 0 1 g ↔ NP F g := by
  constructor
  · rintro ⟨e', p', h, z, a, b⟩
    refine ⟨e', p', h, ?_, a, b⟩
    rcases z with z | z
    · exact z.2
    · rw [z.1]; simpa using z.2
  · rintro ⟨e', p', h, z, a, b⟩
    refine ⟨e', p', h, ?_, a, b⟩
    rcases Nat.eq_zero_or_pos e' with c | c
    · right; subst c; exact ⟨rfl, by simpa using z⟩
    · exact Or.inl ⟨c, z⟩
/-- a whole top done -/
theorem PR_next (F : Nat → Bool) (e : Nat) (g : Nat → Bool) : PR F (e + 1) (2 ^ (e + 1)) g ↔ PR F e 0 g := by
  constructor
  · rintro ⟨e', p', h, z, a, b⟩
    refine ⟨e', p', h, Or.inl ?_, a, b⟩
    rcases z with z | z
    · exact ⟨by omega, z.2⟩
    · exact ⟨by omega, by rw [z.1]; exact z.2⟩
  · rintro ⟨e', p', h, z, a, b⟩
    refine ⟨e', p', h, ?_, a, b⟩
    rcases z with z | z
    · by_cases c : e' = e + 1
      · right; exact ⟨c, by rw [← c]; exact z.2⟩
      · left; exact ⟨by omega, z.2⟩
    · omega
theorem PR_skip {F : Nat → Bool} {k e : Nat} (hF : ∀ m, F m = true → m < 2 ^ k) (hk : k ≤ e) (q : Nat) (g : Nat → Bool) : ¬ PR F e q g := by
  rintro ⟨e', p', h, z, a, b⟩
  exact a (part_big hF (by omega))
theorem PR_zero {F : Nat → Bool} {e q : Nat} (h : part F (e + 1) (q + 2 ^ e) = zf) (g : Nat → Bool) : PR F e (q + 1) g ↔ PR F e q g := by
  constructor
  · rintro ⟨e', p', h1, z, a, b⟩
    refine ⟨e', p', h1, ?_, a, b⟩
    rcases z with z | z
    · exact Or.inl z
    · by_cases c : p' = q
      · rw [z.1, c] at a; exact absurd h a
      · right; exact ⟨z.1, by omega⟩
  · rintro ⟨e', p', h1, z, a, b⟩
    refine ⟨e', p', h1, ?_, a, b⟩
    rcases z with z | z
    · exact Or.inl z
    · right; exact ⟨z.1, by omega⟩
theorem PR_one {F : Nat → Bool} {e q : Nat} (he : e < 12) (h : part F (e + 1) (q + 2 ^ e) ≠ zf) (g : Nat → Bool) : PR F e (q + 1) g ↔ PR F e q g ∨ g = part F e q := by
  constructor
  · rintro ⟨e', p', h1, z, a, b⟩
    rcases z with z | z
    · exact Or.inl ⟨e', p', h1, Or.inl z, a, b⟩
    · by_cases c : p' = q
      · right; rw [b, z.1, c]
      · exact Or.inl ⟨e', p', h1, Or.inr ⟨z.1, by omega⟩, a, b⟩
  · rintro (⟨e', p', h1, z, a, b⟩ | c)
    · refine ⟨e', p', h1, ?_, a, b⟩
      rcases z with z | z
      · exact Or.inl z
      · right; exact ⟨z.1, by omega⟩
    · exact ⟨e, q, he, Or.inr ⟨rfl, by omega⟩, h, c⟩
def cntv (sg : Bool) (c : Nat) (b : Bool) : Nat := if b then inc sg c else c
/-- nodes made so far with a top below 9, at most -/
def made (e q : Nat) : Nat := if e < 9 then 512 - 2 ^ (e + 1) + q else 0
/-- the state within a visit -/
def VI (Γ : Gm) (sg : Bool) (F : Nat → Bool) (k v dg pa : Nat) (ke0 us0 me0 pl0 c0 nx0 : Nat) (K0 : Nat → Nat × Nat × Nat) (den0 : Nat → Nat → Bool) (cnt0 : Nat → Nat) (σ : AH) (e q : Nat) (τ : AH) (ke us me pl c nx : Nat) (K : Nat → Nat × Nat × Nat) (den : Nat → Nat → Bool) (cnt : Nat → Nat) : Prop :=
  DV τ dg pa ke us me pl c nx K den cnt v ∧ nx0 ≤ nx ∧ (∀ i, i < nx0 → K i = K0 i ∧ den i = den0 i) ∧ (∀ p, p < 2 ^ k → p < 2 ^ (e + 1) → ∃ x, x < nx ∧ gi τ pa p = nI x ∧ den x = if p < q then part F e p else part F (e + 1) p) ∧ (∀ i, 2 ≤ i → i < nx → (gi τ me i = nI v ↔ PR F e q (den i))) ∧ (∀ g, PR F e q g → ∃ i, 2 ≤ i ∧ i < nx ∧ den i = g) ∧ (∀ i, 2 ≤ i → i < nx → cnt i = cntv sg (cnt0 i) (bd (PR F e q (den i)))) ∧ lowc K nx ≤ lowc K0 nx0 + made e q ∧ FR (fun a => a = pa ∨ dO dg ke0 us0 me0 pl0 (lo Γ + hc σ) a) σ τ ∧ hc τ + 4 * c0 = hc σ + 4 * c ∧ hv τ + 5 * 2 ^ (c0 + 1) = hv σ + 5 * 2 ^ (c + 1) ∧ (ke = ke0 ∨ lo Γ + hc σ ≤ ke) ∧ (us = us0 ∨ lo Γ + hc σ ≤ us) ∧ (me = me0 ∨ lo Γ + hc σ ≤ me) ∧ (pl = pl0 ∨ lo Γ + hc σ ≤ pl) ∧ c0 ≤ c

