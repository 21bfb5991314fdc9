/-! ROWS of Diagrams: numberOf, mark. -/
def keyN (t l h : Nat) : Nat := (t * 2 ^ 20 + l) * 2 ^ 20 + h
theorem key_N {t l h : Nat} (ht : t < 12) (hl : l < 2 ^ 20) (hh : h < 2 ^ 20) : (((((Int32.toInt64 (nI t)) <<< 20) ||| (Int32.toInt64 (nI l))) <<< 20) ||| (Int32.toInt64 (nI h))) = lN (keyN t l h) := by
  rw [nI_l (by omega), nI_l (by omega), nI_l (by omega), g_shl (k := 20) (p := 2 ^ 20) (by decide) (by decide) rfl (by omega), g_or (k := 20) rfl hl (by omega), g_shl (k := 20) (p := 2 ^ 20) (by decide) (by decide) rfl (by omega), g_or (k := 20) rfl hh (by omega)]
  rfl
theorem lN_inj64 {a b : Nat} (ha : a < 2 ^ 63) (hb : b < 2 ^ 63) (h : lN a = lN b) : a = b := (fb_lN_inj ha hb).mp h
theorem keyN_lt {t l h : Nat} (ht : t < 12) (hl : l < 2 ^ 20) (hh : h < 2 ^ 20) : keyN t l h < 2 ^ 63 := by unfold keyN; omega
theorem keyN_inj {t l h t' l' h' : Nat} (hl : l < 2 ^ 20) (hh : h < 2 ^ 20) (hl' : l' < 2 ^ 20) (hh' : h' < 2 ^ 20) (e : keyN t l h = keyN t' l' h') : t = t' ∧ l = l' ∧ h = h' := by unfold keyN at e; omega
theorem fr_setI_of {P : Nat → Prop} {σ τ : AH} {a i : Nat} {x : Int32} (e : τ = setI σ a i x) (h : P a) : FR P σ τ := by rw [e]; exact FR.setI _ _ _ h
theorem fr_setJ_of {P : Nat → Prop} {σ τ : AH} {a i : Nat} {x : Int64} (e : τ = setJ σ a i x) (h : P a) : FR P σ τ := by rw [e]; exact FR.setJ _ _ _ h
/-- the Diagrams' own cells -/
def dO (dg ke us me pl b : Nat) : Nat → Prop := fun a => a = dg ∨ a = ke ∨ a = us ∨ a = me ∨ a = pl ∨ b ≤ a
theorem numberOf_R {Γ : Gm} {d : Nat} {σ : AH} {dg pa ke us me pl c nx t l h : Nat} (D : DG σ dg pa ke us me pl c nx) (hnx : nx < 2 ^ 20) (ht : t < 12) (hl : l < 2 ^ 20) (hh : h < 2 ^ 20) (hd : 6 ≤ d) : RI Γ d MX3_numberOf [.ref dg, .int (nI t), .int (nI l), .int (nI h)] σ (fun r σ' => ∃ ke' us' me' pl' c' nx' id, r = nI id ∧ DG σ' dg pa ke' us' me' pl' c' nx' ∧ 2 ≤ id ∧ id < nx' ∧ gj σ' ke' id = lN (keyN t l h) ∧ (nx' = nx ∨ (nx' = nx + 1 ∧ id = nx)) ∧ (∀ i, i < nx → gj σ' ke' i = gj σ ke i ∧ gi σ' us' i = gi σ us i ∧ gi σ' me' i = gi σ me i) ∧ gi σ' dg 6 = gi σ dg 6 ∧ gi σ' dg 7 = gi σ dg 7 ∧ FR (dO dg ke us me pl (lo Γ + hc σ)) σ σ' ∧ hc σ' + 4 * c = hc σ + 4 * c' ∧ hv σ' + 5 * 2 ^ (c + 1) = hv σ + 5 * 2 ^ (c' + 1) ∧ (ke' = ke ∨ lo Γ + hc σ ≤ ke') ∧ (us' = us ∨ lo Γ + hc σ ≤ us') ∧ (me' = me ∨ lo Γ + hc σ ≤ me') ∧ (pl' = pl ∨ lo Γ + hc σ ≤ pl') ∧ c ≤ c' ∧ ∀ i, nx ≤ i → i < nx' → gi σ' us' i = 0 ∧ gi σ' me' i = 0) := by
  have main : ∀ τ ke' us' me' pl' c', DG τ dg pa ke' us' me' pl' c' nx → nx < 2 ^ c' → (∀ i, i < nx → gj τ ke' i = gj σ ke i ∧ gi τ us' i = gi σ us i ∧ gi τ me' i = gi σ me i) → gi τ dg 6 = gi σ dg 6 → gi τ dg 7 = gi σ dg 7 → FR (dO dg ke us me pl (lo Γ + hc σ)) σ τ → hc τ + 4 * c = hc σ + 4 * c' → hv τ + 5 * 2 ^ (c + 1) = hv σ + 5 * 2 ^ (c' + 1) → (ke' = ke ∨ lo Γ + hc σ ≤ ke') → (us' = us ∨ lo Γ + hc σ ≤ us') → (me' = me ∨ lo Γ + hc σ ≤ me') → (pl' = pl ∨ lo Γ + hc σ ≤ pl') → c ≤ c' → EV Γ MX3_numberOf d 16 [some (.ref dg), some (.int (nI t)), some (.int (nI l)), some (.int (nI h)), none, none, none] [] τ (fun o σ' => ∃ r : Int32, o = .inl (some (.int r)) ∧ ∃ ke' us' me' pl' c' nx' id, r = nI id ∧ DG σ' dg pa ke' us' me' pl' c' nx' ∧ 2 ≤ id ∧ id < nx' ∧ gj σ' ke' id = lN (keyN t l h) ∧ (nx' = nx ∨ (nx' = nx + 1 ∧ id = nx)) ∧ (∀ i, i < nx → gj σ' ke' i = gj σ ke i ∧ gi σ' us' i = gi σ us i ∧ gi σ' me' i = gi σ me i) ∧ gi σ' dg 6 = gi σ dg 6 ∧ gi σ' dg 7 = gi σ dg 7 ∧ FR (dO dg ke us me pl (lo Γ + hc σ)) σ σ' ∧ hc σ' + 4 * c = hc σ + 4 * c' ∧ hv σ' + 5 * 2 ^ (c + 1) = hv σ + 5 * 2 ^ (c' + 1) ∧ (ke' = ke ∨ lo Γ + hc σ ≤ ke') ∧ (us' = us ∨ lo Γ + hc σ ≤ us') ∧ (me' = me ∨ lo Γ + hc σ ≤ me') ∧ (pl' = pl ∨ lo Γ + hc σ ≤ pl') ∧ c ≤ c' ∧ ∀ i, nx ≤ i → i < nx' → gi σ' us' i = 0 ∧ gi σ' me' i = 0) := by
    intro τ ke' us' me' pl' c' D hlt pres g6 g7 F rc rv oke ous ome opl hcc
    have D' := D
    obtain ⟨D0, D1, D2, D3, D4, D5, D6, D7, D8, D9, D10, n1, n2, n3, n4, n5, n6, D11, D12, D13, D14, D15, D16, D17, D18⟩ := D'
    have hp : 2 ^ c' ≤ 2 ^ 20 := Nat.pow_le_pow_right (by decide) D15
    have hp1 : 2 ^ (c' + 1) = 2 * 2 ^ c' := by rw [Nat.pow_succ]; omega
    have dgu : dg ≠ us' := hs_ne D0 D8 (show (3 : Nat) ≠ 22 by decide)
    have dgm : dg ≠ me' := hs_ne D0 D9 (show (3 : Nat) ≠ 22 by decide)
    have dgp : dg ≠ pl' := hs_ne D0 D10 (show (3 : Nat) ≠ 22 by decide)
    refine gX3_numberOf_16 ⟨D0, ?_⟩
    rw [key_N ht hl hh]
    refine CI.of (d2 := 5) (placeOf_R (j := c' + 1) D0 D2 D5 D7 D10 (by omega) D13 (by omega) (by omega) D16) (by omega) (fun r τ1 hw e1 => ?_)
    obtain ⟨rfl, p, hp3, rfl, hcase⟩ := e1
    refine ⟨D0, pl', D5, 2 ^ (c' + 1), D10, p, IXn hp3 (by omega), ?_⟩
    rcases hcase with ⟨⟨f1, f2⟩, nk⟩ | ⟨i, h2, hi, w, ek⟩
    · refine ⟨fun z => absurd f1 z, fun _ => ⟨ke', D2, 2 ^ c', D7, nx, by rw [D11]; exact IXn hlt (by omega), fun σ18 h18 σ25 h25 σ32 h32 => ?_⟩⟩
      have e18 : gi σ18 = gi τ1 := by rw [h18]; rfl
      have e25 : gi σ25 pl' = up (gi τ1 pl') p (nI nx) := by rw [h25, gi_setI_s, e18, D11]
      have o25 : ∀ b, b ≠ pl' → gi σ25 b = gi τ1 b := fun b hb => by rw [h25, gi_setI_n _ _ _ hb, e18]
      have e32 : gi σ32 dg = up (gi τ1 dg) 5 (nI (nx + 1)) := by rw [h32, gi_setI_s, o25 dg dgp, D11, nI_1]
      have o32 : ∀ b, b ≠ dg → gi σ32 b = gi σ25 b := fun b hb => by rw [h32, gi_setI_n _ _ _ hb]
      have j32 : gj σ32 = gj σ18 := by rw [h32, h25]; rfl
      have k32 : gj σ32 ke' = up (gj τ1 ke') nx (lN (keyN t l h)) := by rw [j32, h18, gj_setJ_s]
      have r32 : gr σ32 = gr τ1 := by rw [h32, h25, h18]; rfl
      have s32 : hs σ32 = hs τ1 := by rw [h32, h25, h18]; rfl
      have pl32 : gi σ32 pl' = up (gi τ1 pl') p (nI nx) := by rw [o32 _ (Ne.symm dgp), e25]
      have us32 : gi σ32 us' = gi τ1 us' := by rw [o32 _ (Ne.symm dgu), o25 _ n2]
      have me32 : gi σ32 me' = gi τ1 me' := by rw [o32 _ (Ne.symm dgm), o25 _ n3]
      have F32 : FR (dO dg ke us me pl (lo Γ + hc σ)) σ σ32 := by
        refine F.trans ((fr_setJ_of h18 ?_).trans ((fr_setI_of h25 ?_).trans (fr_setI_of h32 (Or.inl rfl))))
        · rcases oke with z | z
          · exact Or.inr (Or.inl z)
          · exact Or.inr (Or.inr (Or.inr (Or.inr (Or.inr z))))
        · rcases opl with z | z
          · exact Or.inr (Or.inr (Or.inr (Or.inr (Or.inl z))))
          · exact Or.inr (Or.inr (Or.inr (Or.inr (Or.inr z))))
      refine ⟨_, rfl, ke', us', me', pl', c', nx + 1, nx, by rw [pl32, up_same], ?_, D12, by omega, by rw [k32, up_same], Or.inr ⟨rfl, rfl⟩, fun i hi => ?_, ?_, ?_, F32, ?_, ?_, oke, ous, ome, opl, hcc, fun i a b => by rw [us32, me32]; exact D17 i a (by omega)⟩
      · refine ⟨by rw [s32]; exact D0, by rw [r32]; exact D1, by rw [r32]; exact D2, by rw [r32]; exact D3, by rw [r32]; exact D4, by rw [r32]; exact D5, by rw [s32]; exact D6, by rw [s32]; exact D7, by rw [s32]; exact D8, by rw [s32]; exact D9, by rw [s32]; exact D10, n1, n2, n3, n4, n5, n6, by rw [e32, up_same], by omega, by omega, ⟨D14.1, D14.2.imp id (fun z => Nat.le_succ_of_le z)⟩, D15, ?_, fun i h1 h2 => ?_, fun i j a1 a2 a3 a4 e => ?_⟩
        · rw [pl32, k32]
          refine HT.insert D12 (by omega) hp3 (D16.keys (fun i hi => up_ne _ _ (by omega))) ?_
          rw [up_same]; exact ⟨f1, f2⟩
        · rw [us32, me32]; exact D17 i (by omega) h2
        · rw [k32] at e
          by_cases q : i = nx
          · by_cases q2 : j = nx
            · omega
            · rw [q, up_same, up_ne _ _ q2] at e
              exact absurd e.symm (nk j a3 (by omega))
          · by_cases q2 : j = nx
            · rw [q2, up_same, up_ne _ _ q] at e
              exact absurd e (nk i a1 (by omega))
            · rw [up_ne _ _ q, up_ne _ _ q2] at e
              exact D18 i j a1 (by omega) a3 (by omega) e
      · rw [k32, us32, me32, up_ne _ _ (by omega)]; exact pres i hi
      · rw [e32, up_ne _ _ (by decide)]; exact g6
      · rw [e32, up_ne _ _ (by decide)]; exact g7
      · rw [h32, h25, h18]; exact rc
      · rw [h32, h25, h18]; exact rv
    · have iz : nI i ≠ 0 := nI_ne0 (by omega) (by omega)
      refine ⟨fun _ => ⟨_, rfl, ke', us', me', pl', c', nx, i, w, D, h2, hi, ek, Or.inl rfl, pres, g6, g7, F, rc, rv, oke, ous, ome, opl, hcc, fun i a b => absurd b (by omega)⟩, fun z => absurd (w.symm.trans z) iz⟩
  have D' := D
  obtain ⟨D0, D1, D2, D3, D4, D5, D6, D7, D8, D9, D10, n1, n2, n3, n4, n5, n6, D11, D12, D13, D14, D15, D16, D17, D18⟩ := D'
  have hp : 2 ^ c ≤ 2 ^ 20 := Nat.pow_le_pow_right (by decide) D15
  refine eX3_numberOf ⟨D0, ke, D2, 2 ^ c, D7, ?_⟩
  rw [D11]
  refine ⟨fun z => ?_, fun z => ?_⟩
  · exact main σ ke us me pl c D ((nI_ltI (by omega) (by omega)).mp z) (fun i _ => ⟨rfl, rfl, rfl⟩) rfl rfl (FR.refl _ _) rfl rfl (Or.inl rfl) (Or.inl rfl) (Or.inl rfl) (Or.inl rfl) (Nat.le_refl _)
  · have ge : ¬ nx < 2 ^ c := fun q => z ((nI_ltI (by omega) (by omega)).mpr q)
    have c19 : c ≤ 19 := by
      rcases Nat.lt_or_ge c 20 with q | q
      · omega
      · have : c = 20 := by omega
        rw [this] at ge; omega
    have hp1 : 2 ^ (c + 1) = 2 * 2 ^ c := by rw [Nat.pow_succ]; omega
    have hp2 : 2 ^ (c + 1 + 1) = 2 * (2 * 2 ^ c) := by rw [Nat.pow_succ, hp1]; omega
    have h0 := Nat.two_pow_pos c
    refine CV.of (d2 := 5) (enlarge_R D c19 (by omega) (by omega)) (by omega) (fun τ hw e => ?_)
    obtain ⟨ke', us', me', pl', D2', ow, pr, idg, F, rc, rv⟩ := e
    refine main τ ke' us' me' pl' (c + 1) D2' (by omega) (fun i hi => pr i (by omega)) (by rw [idg]) (by rw [idg]) (F.mono (fun a ha => ?_)) (by omega) (by omega) (Or.inr ow.1) (Or.inr ow.2.1) (Or.inr ow.2.2.1) (Or.inr ow.2.2.2) (by omega)
    rcases ha with q | q
    · exact Or.inl q
    · exact Or.inr (Or.inr (Or.inr (Or.inr (Or.inr q))))

