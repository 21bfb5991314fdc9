/-! ROWS of Diagrams: mark. -/
noncomputable def iuN (u m iu : Int32) : Int32 := if (u ≤ 0 ↔ u + m ≤ 0) then iu else iu + m
theorem mark_R {Γ : Gm} {d : Nat} {σ : AH} {dg pa ke us me pl c nx id : Nat} {more : Int32} (D : DG σ dg pa ke us me pl c nx) (hid : id < nx) : RI Γ d MX3_mark [.ref dg, .int (nI id), .int more] σ (fun r σ' => (r = 0 ∧ σ' = σ ∧ gi σ me id = gi σ dg 6) ∨ (r = 1 ∧ gi σ me id ≠ gi σ dg 6 ∧ DG σ' dg pa ke us me pl c nx ∧ gi σ' me = up (gi σ me) id (gi σ dg 6) ∧ gi σ' us = up (gi σ us) id (gi σ us id + more) ∧ gi σ' dg = up (gi σ dg) 7 (iuN (gi σ us id) more (gi σ dg 7)) ∧ Chg (fun a => a = dg ∨ a = us ∨ a = me) (fun _ => False) σ σ')) := by
  have D' := D
  obtain ⟨D0, D1, D2, D3, D4, D5, D6, D7, D8, D9, D10, n1, n2, n3, n4, n5, n6, D11, D12, D13, D14, D15, D16, D17, D18⟩ := D'
  have hp : 2 ^ c ≤ 2 ^ 20 := Nat.pow_le_pow_right (by decide) D15
  have dgu : dg ≠ us := hs_ne D0 D8 (show (3 : Nat) ≠ 22 by decide)
  have dgm : dg ≠ me := hs_ne D0 D9 (show (3 : Nat) ≠ 22 by decide)
  have dgp : dg ≠ pl := hs_ne D0 D10 (show (3 : Nat) ≠ 22 by decide)
  refine eX3_mark ⟨fun z => absurd z (nn0 (by omega)), fun _ => ⟨D0, me, D4, 2 ^ c, D9, fun z => absurd ((nI_leI (by omega) (by omega)).mp z) (by omega), fun _ => ⟨us, D3, 2 ^ c, D8, fun z => absurd ((nI_leI (by omega) (by omega)).mp z) (by omega), fun _ => ⟨id, IXn (by omega) (by omega), fun ne σ16 h16 => ⟨id, IXn (by omega) (by omega), ?_⟩, fun e => ⟨_, rfl, Or.inl ⟨rfl, rfl, e⟩⟩⟩⟩⟩⟩
  have u16 : gi σ16 us = gi σ us := by rw [h16]; exact gi_setI_n _ _ _ n1
  have m16 : gi σ16 me = up (gi σ me) id (gi σ dg 6) := by rw [h16, gi_setI_s]
  have d16 : gi σ16 dg = gi σ dg := by rw [h16]; exact gi_setI_n _ _ _ dgm
  have C16 : Chg (fun a => a = dg ∨ a = us ∨ a = me) (fun _ => False) σ σ16 := by rw [h16]; exact Chg.rowI _ _ (Or.inr (Or.inr rfl))
  have fin : ∀ s0 : Int32, (s0 = 0 ∨ s0 = 1) → (s0 = 0 ↔ gi σ us id ≤ 0) → EV Γ MX3_mark d 61 [some (.ref dg), some (.int (nI id)), some (.int more), none, none] [.int s0] σ16 (fun o σ' => ∃ r : Int32, o = .inl (some (.int r)) ∧ ((r = 0 ∧ σ' = σ ∧ gi σ me id = gi σ dg 6) ∨ (r = 1 ∧ gi σ me id ≠ gi σ dg 6 ∧ DG σ' dg pa ke us me pl c nx ∧ gi σ' me = up (gi σ me) id (gi σ dg 6) ∧ gi σ' us = up (gi σ us) id (gi σ us id + more) ∧ gi σ' dg = up (gi σ dg) 7 (iuN (gi σ us id) more (gi σ dg 7)) ∧ Chg (fun a => a = dg ∨ a = us ∨ a = me) (fun _ => False) σ σ'))) := by
    intro s0 h01 hs0
    refine gX3_mark_61 ⟨C16.gh D0, us, C16.gg D3, 2 ^ c, C16.gh D8, id, IXn (by omega) (by omega), fun σ8 h8 => ?_⟩
    have u8 : gi σ8 us = up (gi σ us) id (gi σ us id + more) := by rw [h8, gi_setI_s, u16]
    have o8 : ∀ b, b ≠ us → gi σ8 b = gi σ16 b := fun b hb => by rw [h8, gi_setI_n _ _ _ hb]
    have C8 : Chg (fun a => a = dg ∨ a = us ∨ a = me) (fun _ => False) σ σ8 := by rw [h8]; exact C16.trans (Chg.rowI _ _ (Or.inr (Or.inl rfl)))
    have m8 : gi σ8 me = up (gi σ me) id (gi σ dg 6) := by rw [o8 _ (Ne.symm n1), m16]
    have d8 : gi σ8 dg = gi σ dg := by rw [o8 _ dgu, d16]
    have DGof : ∀ τ, Chg (fun a => a = dg ∨ a = us ∨ a = me) (fun _ => False) σ τ → gi τ us = up (gi σ us) id (gi σ us id + more) → gi τ me = up (gi σ me) id (gi σ dg 6) → gi τ dg 5 = gi σ dg 5 → DG τ dg pa ke us me pl c nx := by
      intro τ C hu hm h5
      have ep : gi τ pl = gi σ pl := C.gi (fun z => by rcases z with z | z | z; exact dgp z.symm; exact n2 z.symm; exact n3 z.symm)
      have ek : gj τ ke = gj σ ke := C.gj (fun z => z)
      refine ⟨C.gh D0, C.gg D1, C.gg D2, C.gg D3, C.gg D4, C.gg D5, C.gh D6, C.gh D7, C.gh D8, C.gh D9, C.gh D10, n1, n2, n3, n4, n5, n6, by rw [h5]; exact D11, D12, D13, D14, D15, by rw [ep, ek]; exact D16, fun i h1 h2 => ?_, fun i j => by rw [ek]; exact D18 i j⟩
      rw [hu, hm, up_ne _ _ (by omega), up_ne _ _ (by omega)]
      exact D17 i h1 h2
    have last : ∀ s1 : Int32, (s1 = 0 ∨ s1 = 1) → (s1 = 0 ↔ gi σ us id + more ≤ 0) → EV Γ MX3_mark d 86 [some (.ref dg), none, some (.int more), some (.int s0), none] [.int s1] σ8 (fun o σ' => ∃ r : Int32, o = .inl (some (.int r)) ∧ ((r = 0 ∧ σ' = σ ∧ gi σ me id = gi σ dg 6) ∨ (r = 1 ∧ gi σ me id ≠ gi σ dg 6 ∧ DG σ' dg pa ke us me pl c nx ∧ gi σ' me = up (gi σ me) id (gi σ dg 6) ∧ gi σ' us = up (gi σ us) id (gi σ us id + more) ∧ gi σ' dg = up (gi σ dg) 7 (iuN (gi σ us id) more (gi σ dg 7)) ∧ Chg (fun a => a = dg ∨ a = us ∨ a = me) (fun _ => False) σ σ'))) := by
      intro s1 h11 hs1
      refine gX3_mark_86 ⟨fun e => ⟨_, rfl, Or.inr ⟨rfl, ne, DGof σ8 C8 u8 m8 (by rw [d8]), m8, u8, ?_, C8⟩⟩, fun e => ⟨C8.gh D0, fun σ3 h3 => ?_⟩⟩
      · have : iuN (gi σ us id) more (gi σ dg 7) = gi σ dg 7 := if_pos (by rw [← hs0, ← hs1, e])
        rw [this, d8, up_self]
      · have C3 : Chg (fun a => a = dg ∨ a = us ∨ a = me) (fun _ => False) σ σ3 := by rw [h3]; exact C8.trans (Chg.rowI _ _ (Or.inl rfl))
        have u3 : gi σ3 us = up (gi σ us) id (gi σ us id + more) := by rw [h3, gi_setI_n _ _ _ (Ne.symm dgu), u8]
        have m3 : gi σ3 me = up (gi σ me) id (gi σ dg 6) := by rw [h3, gi_setI_n _ _ _ (Ne.symm dgm), m8]
        have d3 : gi σ3 dg = up (gi σ dg) 7 (gi σ dg 7 + more) := by rw [h3, gi_setI_s, d8]
        refine ⟨_, rfl, Or.inr ⟨rfl, ne, DGof σ3 C3 u3 m3 (by rw [d3, up_ne _ _ (by decide)]), m3, u3, ?_, C3⟩⟩
        have : iuN (gi σ us id) more (gi σ dg 7) = gi σ dg 7 + more := by
          refine if_neg (fun z => e ?_)
          rw [← hs0, ← hs1] at z
          rcases h01 with a | a <;> rcases h11 with b | b
          · rw [a, b]
          · rw [b] at z; exact absurd (z.mp a) (by decide)
          · rw [a] at z; exact absurd (z.mpr b) (by decide)
          · rw [a, b]
        rw [this, d3]
    rw [u8, up_same]
    exact ⟨fun z => last 0 (Or.inl rfl) ⟨fun _ => z, fun _ => rfl⟩, fun z => last 1 (Or.inr rfl) ⟨fun q => absurd q (by decide), fun q => absurd q z⟩⟩
  rw [u16]
  exact ⟨fun z => fin 0 (Or.inl rfl) ⟨fun _ => z, fun _ => rfl⟩, fun z => fin 1 (Or.inr rfl) ⟨fun q => absurd q (by decide), fun q => absurd q z⟩⟩

