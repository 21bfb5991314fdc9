/-! ROWS of the model: its table of nodes, and a node in it where there is room. -/
/-- a table of slots: -1, or the number of a node, which is found from where its search begins -/
def MT (sl : Nat → Int32) (st : Nat → Nat) (n M : Nat) : Prop :=
  (∀ p, p < M → sl p = -1 ∨ ∃ i, i < n ∧ sl p = nI i) ∧ (∀ p q, p < M → q < M → sl p = sl q → sl p ≠ -1 → p = q) ∧ (∀ i, i < n → ∃ t, t < M ∧ sl ((st i + t) % M) = nI i ∧ ∀ s, s < t → sl ((st i + s) % M) ≠ -1)
theorem m1_nI {i : Nat} (h : i < 2 ^ 31) : nI i ≠ -1 := fun e => by
  have := congrArg Int32.toInt e
  rw [nI_toInt h, show (-1 : Int32).toInt = -1 by decide] at this
  omega
theorem MT.empty (sl : Nat → Int32) (st : Nat → Nat) (M : Nat) (h : ∀ p, p < M → sl p = -1) : MT sl st 0 M :=
  ⟨fun p hp => Or.inl (h p hp), fun p q hp hq e hne => absurd (h p hp) hne, fun i hn => absurd hn (by omega)⟩
def freeM (sl : Nat → Int32) (s0 M p : Nat) : Prop := sl p = -1 ∧ ∃ t, t < M ∧ p = (s0 + t) % M ∧ ∀ s, s < t → sl ((s0 + s) % M) ≠ -1
theorem MT.insert {sl : Nat → Int32} {st : Nat → Nat} {n M p : Nat} (hn2 : n < 2 ^ 30) (hp : p < M) (h : MT sl st n M) (f : freeM sl (st n) M p) : MT (up sl p (nI n)) st (n + 1) M := by
  obtain ⟨f1, t, ht, ep, hs'⟩ := f
  have nz : nI n ≠ -1 := m1_nI (by omega)
  have keep : ∀ q, sl q ≠ -1 → up sl p (nI n) q ≠ -1 := by
    intro q hq
    by_cases c : q = p
    · rw [c, up_same]; exact nz
    · rw [up_ne _ _ c]; exact hq
  have neq : ∀ q, q < M → q ≠ p → sl q ≠ nI n := by
    intro q hq hqp e
    rcases h.1 q hq with z | ⟨i, h3, z⟩
    · exact nz (e.symm.trans z)
    · have := (nI_eq (a := i) (b := n) (by omega) (by omega)).mp (z.symm.trans e)
      omega
  refine ⟨fun q hq => ?_, fun a b ha hb e hne => ?_, fun i hi => ?_⟩
  · by_cases c : q = p
    · exact Or.inr ⟨n, by omega, by rw [c, up_same]⟩
    · rw [up_ne _ _ c]
      rcases h.1 q hq with z | ⟨i, h3, z⟩
      · exact Or.inl z
      · exact Or.inr ⟨i, by omega, z⟩
  · by_cases c : a = p
    · by_cases c2 : b = p
      · rw [c, c2]
      · rw [c, up_same, up_ne _ _ c2] at e
        exact absurd e.symm (neq b hb c2)
    · by_cases c2 : b = p
      · rw [c2, up_same, up_ne _ _ c] at e
        exact absurd e (neq a ha c)
      · rw [up_ne _ _ c, up_ne _ _ c2] at e
        rw [up_ne _ _ c] at hne
        exact h.2.1 a b ha hb e hne
  · by_cases c : i = n
    · subst c
      exact ⟨t, ht, by rw [← ep, up_same], fun s hs2 => keep _ (hs' s hs2)⟩
    · obtain ⟨t', ht', h3, h4⟩ := h.2.2 i (by omega)
      refine ⟨t', ht', ?_, fun s hs2 => keep _ (h4 s hs2)⟩
      have iz : nI i ≠ -1 := m1_nI (by omega)
      have : (st i + t') % M ≠ p := fun z => by rw [z, f1] at h3; exact iz h3.symm
      rw [up_ne _ _ this]; exact h3
theorem MT.room {sl : Nat → Int32} {st : Nat → Nat} {n M : Nat} (hn2 : n < 2 ^ 30) (h : MT sl st n M) (hM : n < M) : ∃ p, p < M ∧ sl p = -1 := by
  by_cases c : ∃ p, p < M ∧ sl p = -1
  · exact c
  · exfalso
    have hv' : ∀ p, p < M → ∃ i, i < n ∧ sl p = nI i := fun p hp => by
      rcases h.1 p hp with z | z
      · exact absurd ⟨p, hp, z⟩ c
      · exact z
    have := fb_holes n M (fun p => (sl p).toBitVec.toNat) (fun p hp => ?_) (fun p q hpq hq e => ?_)
    · omega
    · obtain ⟨i, h2, h3⟩ := hv' p hp
      show (sl p).toBitVec.toNat < n
      rw [h3, pk_tn (by omega)]; exact h2
    · obtain ⟨i, h2, h3⟩ := hv' p (by omega)
      obtain ⟨j, j2, j3⟩ := hv' q hq
      have e : (sl p).toBitVec.toNat = (sl q).toBitVec.toNat := e
      rw [h3, j3, pk_tn (by omega), pk_tn (by omega)] at e
      have := h.2.1 p q (by omega) hq (by rw [h3, j3, e]) (by rw [h3]; exact m1_nI (by omega))
      omega
def mhx (t l h : Nat) : Int32 := (((((nI t * 1000003) + (nI l * 8191)) + (nI h * 31)) * 40503).toUInt32 >>> (Int32.toUInt32 3 &&& Int32.toUInt32 31)).toInt32
def mst (k : Nat × Nat × Nat) (M : Nat) : Nat := (mhx k.1 k.2.1 k.2.2 &&& (nI M - 1)).toBitVec.toNat
def NTab (σ : AH) (mo tp lw hg sl c n : Nat) (Kr : Nat → Nat × Nat × Nat) : Prop :=
  hs σ mo = some (7, 27) ∧ gr σ mo 16 = some tp ∧ gr σ mo 17 = some lw ∧ gr σ mo 18 = some hg ∧ gr σ mo 19 = some sl ∧ hs σ tp = some (22, 2 ^ c) ∧ hs σ lw = some (22, 2 ^ c) ∧ hs σ hg = some (22, 2 ^ c) ∧ hs σ sl = some (22, 2 ^ (c + 2)) ∧ (tp ≠ lw ∧ tp ≠ hg ∧ tp ≠ sl ∧ lw ≠ hg ∧ lw ≠ sl ∧ hg ≠ sl) ∧ gi σ mo 20 = nI n ∧ n ≤ 2 ^ c ∧ 6 ≤ c ∧ c ≤ 20 ∧ (∀ i, i < n → gi σ tp i = nI (Kr i).1 ∧ gi σ lw i = nI (Kr i).2.1 ∧ gi σ hg i = nI (Kr i).2.2) ∧ MT (gi σ sl) (fun i => mst (Kr i) (2 ^ (c + 2))) n (2 ^ (c + 2)) ∧ ∀ i, i < n → (Kr i).1 < 12 ∧ (Kr i).2.1 < 2 ^ 20 ∧ (Kr i).2.2 < 2 ^ 20
