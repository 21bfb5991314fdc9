theorem gX1_init_0 {Γ : Gm} {d : Nat} {σ : AH} {Q : Oc → AH → Prop} {v0 : Nat} (h : 1 ≤ d ∧ ∀ (q2 : Nat) (σ3 : AH), q2 = lo Γ + hc σ → σ3 = mk σ q2 26 43 → hs σ3 v0 = some (1, 2) ∧ ∀ σ6 : AH, σ6 = setR σ3 v0 0 (some q2) → ∀ σ10 : AH, σ10 = setI σ6 v0 1 0 → Q (.inl none) σ10) : EV Γ MX1_init d 0 [some (.ref v0)] [] σ Q := by
  refine EV.aload_n 1 rfl 0 rfl rfl dX1_init_0 ?_
  obtain ⟨z1, h⟩ := h
  refine EV.objInit 4 rfl oi_X1_3 z1 (Nat.le_of_ble_eq_true rfl) dX1_init_1 ?_
  refine EV.aload_n 5 rfl 0 rfl rfl dX1_init_4 ?_
  refine EV.bipush 7 rfl dX1_init_5 (v := 43) (by decide) ?_
  refine EV.newM 10 rfl (n := 43) an_X1_11 ao_J dX1_init_7 (by decide) (Nat.le_of_ble_eq_true rfl) (EV.nq (fun q2 σ3 eq2 eσ3 => ?_))
  have h := h q2 σ3 eq2 eσ3
  have w4 : hs σ3 q2 = some (26, 43) := by rw [eσ3]; exact up_same _ _ _
  obtain ⟨w5, h⟩ := h
  refine EV.putFR 13 rfl rfl ff_X1_13 rfl (by decide) dX1_init_10 w5 (EV.nm (fun σ6 e7 => ?_))
  have h := h σ6 e7
  have w8 := tr_hs (hs_setR_of e7) w4
  have w9 := tr_hs (hs_setR_of e7) w5
  refine EV.aload_n 14 rfl 0 rfl rfl dX1_init_13 ?_
  refine EV.iconst 15 rfl dX1_init_14 (v := 0) (by decide) ?_
  refine EV.putI 18 rfl fw_X1_17 rfl (by decide) dX1_init_15 w9 (EV.nm (fun σ10 e11 => ?_))
  have h := h σ10 e11
  have w12 := tr_hs (hs_setI_of e11) w8
  have w13 := tr_hs (hs_setI_of e11) w9
  exact EV.vret rfl dX1_init_18 h
theorem eX1_init {Γ : Gm} {d : Nat} {σ : AH} {Q : Oc → AH → Prop} {v0 : Nat} (h : 1 ≤ d ∧ ∀ (q2 : Nat) (σ3 : AH), q2 = lo Γ + hc σ → σ3 = mk σ q2 26 43 → hs σ3 v0 = some (1, 2) ∧ ∀ σ6 : AH, σ6 = setR σ3 v0 0 (some q2) → ∀ σ10 : AH, σ10 = setI σ6 v0 1 0 → Q (.inl none) σ10) : RUN Γ d MX1_init [.ref v0] σ Q :=
  EV.enter [some (.ref v0)] rfl (by decide +kernel) (Nat.le_of_ble_eq_true rfl) rfl (gX1_init_0 h)
