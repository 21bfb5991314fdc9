theorem gX6_init_0 {Γ : Gm} {d : Nat} {σ : AH} {Q : Oc → AH → Prop} {v0 : Nat} (h : 1 ≤ d ∧ ∀ (q2 : Nat) (σ3 : AH), q2 = lo Γ + hc σ → σ3 = mk σ q2 22 200 → hs σ3 v0 = some (5, 10) ∧ ∀ σ6 : AH, σ6 = setR σ3 v0 0 (some q2) → ∀ (q10 : Nat) (σ11 : AH), q10 = lo Γ + hc σ6 → σ11 = mk σ6 q10 22 200 → hs σ11 v0 = some (5, 10) ∧ ∀ σ14 : AH, σ14 = setR σ11 v0 1 (some q10) → ∀ σ18 : AH, σ18 = setI σ14 v0 2 0 → ∀ (q22 : Nat) (σ23 : AH), q22 = lo Γ + hc σ18 → σ23 = mk σ18 q22 20 0 → hs σ23 v0 = some (5, 10) ∧ ∀ σ26 : AH, σ26 = setR σ23 v0 3 (some q22) → ∀ σ30 : AH, σ30 = setI σ26 v0 4 0 → ∀ (q34 : Nat) (σ35 : AH), q34 = lo Γ + hc σ30 → σ35 = mk σ30 q34 25 0 → hs σ35 v0 = some (5, 10) ∧ ∀ σ38 : AH, σ38 = setR σ35 v0 5 (some q34) → ∀ σ42 : AH, σ42 = setI σ38 v0 6 11 → ∀ σ46 : AH, σ46 = setI σ42 v0 7 0 → ∀ σ50 : AH, σ50 = setI σ46 v0 8 0 → ∀ σ54 : AH, σ54 = setI σ50 v0 9 (-1) → Q (.inl none) σ54) : EV Γ MX6_init d 0 [some (.ref v0)] [] σ Q := by
  refine EV.aload_n 1 rfl 0 rfl rfl dX6_init_0 ?_
  obtain ⟨z1, h⟩ := h
  refine EV.objInit 4 rfl oi_X6_3 z1 (Nat.le_of_ble_eq_true rfl) dX6_init_1 ?_
  refine EV.aload_n 5 rfl 0 rfl rfl dX6_init_4 ?_
  refine EV.sipush 8 rfl dX6_init_5 (v := 200) (by decide) ?_
  refine EV.newI 10 rfl (n := 200) ac_int dX6_init_8 (by decide) (Nat.le_of_ble_eq_true rfl) (EV.nq (fun q2 σ3 eq2 eσ3 => ?_))
  have h := h q2 σ3 eq2 eσ3
  have w4 : hs σ3 q2 = some (22, 200) := by rw [eσ3]; exact up_same _ _ _
  obtain ⟨w5, h⟩ := h
  refine EV.putFR 13 rfl rfl ff_X6_9 rfl (by decide) dX6_init_10 w5 (EV.nm (fun σ6 e7 => ?_))
  have h := h σ6 e7
  have w8 := tr_hs (hs_setR_of e7) w4
  have w9 := tr_hs (hs_setR_of e7) w5
  refine EV.aload_n 14 rfl 0 rfl rfl dX6_init_13 ?_
  refine EV.sipush 17 rfl dX6_init_14 (v := 200) (by decide) ?_
  refine EV.newI 19 rfl (n := 200) ac_int dX6_init_17 (by decide) (Nat.le_of_ble_eq_true rfl) (EV.nq (fun q10 σ11 eq10 eσ11 => ?_))
  have h := h q10 σ11 eq10 eσ11
  have w12 : hs σ11 q10 = some (22, 200) := by rw [eσ11]; exact up_same _ _ _
  obtain ⟨w13, h⟩ := h
  refine EV.putFR 22 rfl rfl ff_X6_15 rfl (by decide) dX6_init_19 w13 (EV.nm (fun σ14 e15 => ?_))
  have h := h σ14 e15
  have w16 := tr_hs (hs_setR_of e15) w12
  have w17 := tr_hs (hs_setR_of e15) w13
  refine EV.aload_n 23 rfl 0 rfl rfl dX6_init_22 ?_
  refine EV.iconst 24 rfl dX6_init_23 (v := 0) (by decide) ?_
  refine EV.putI 27 rfl fw_X6_18 rfl (by decide) dX6_init_24 w17 (EV.nm (fun σ18 e19 => ?_))
  have h := h σ18 e19
  have w20 := tr_hs (hs_setI_of e19) w16
  have w21 := tr_hs (hs_setI_of e19) w17
  refine EV.aload_n 28 rfl 0 rfl rfl dX6_init_27 ?_
  refine EV.iconst 29 rfl dX6_init_28 (v := 0) (by decide) ?_
  refine EV.newB 31 rfl (n := 0) ac_byte dX6_init_29 (by decide) (Nat.le_of_ble_eq_true rfl) (EV.nq (fun q22 σ23 eq22 eσ23 => ?_))
  have h := h q22 σ23 eq22 eσ23
  have w24 : hs σ23 q22 = some (20, 0) := by rw [eσ23]; exact up_same _ _ _
  obtain ⟨w25, h⟩ := h
  refine EV.putR 34 rfl fw_X6_22 rfl (by decide) dX6_init_31 w25 (EV.nm (fun σ26 e27 => ?_))
  have h := h σ26 e27
  have w28 := tr_hs (hs_setR_of e27) w24
  have w29 := tr_hs (hs_setR_of e27) w25
  refine EV.aload_n 35 rfl 0 rfl rfl dX6_init_34 ?_
  refine EV.iconst 36 rfl dX6_init_35 (v := 0) (by decide) ?_
  refine EV.putI 39 rfl fw_X6_26 rfl (by decide) dX6_init_36 w29 (EV.nm (fun σ30 e31 => ?_))
  have h := h σ30 e31
  have w32 := tr_hs (hs_setI_of e31) w28
  have w33 := tr_hs (hs_setI_of e31) w29
  refine EV.aload_n 40 rfl 0 rfl rfl dX6_init_39 ?_
  refine EV.iconst 41 rfl dX6_init_40 (v := 0) (by decide) ?_
  refine EV.newF 44 rfl (n := 0) an_X6_29 ao_F dX6_init_41 (by decide) (Nat.le_of_ble_eq_true rfl) (EV.nq (fun q34 σ35 eq34 eσ35 => ?_))
  have h := h q34 σ35 eq34 eσ35
  have w36 : hs σ35 q34 = some (25, 0) := by rw [eσ35]; exact up_same _ _ _
  obtain ⟨w37, h⟩ := h
  refine EV.putR 47 rfl fw_X6_31 rfl (by decide) dX6_init_44 w37 (EV.nm (fun σ38 e39 => ?_))
  have h := h σ38 e39
  have w40 := tr_hs (hs_setR_of e39) w36
  have w41 := tr_hs (hs_setR_of e39) w37
  refine EV.aload_n 48 rfl 0 rfl rfl dX6_init_47 ?_
  refine EV.bipush 50 rfl dX6_init_48 (v := 11) (by decide) ?_
  refine EV.putI 53 rfl fw_X6_35 rfl (by decide) dX6_init_50 w41 (EV.nm (fun σ42 e43 => ?_))
  have h := h σ42 e43
  have w44 := tr_hs (hs_setI_of e43) w40
  have w45 := tr_hs (hs_setI_of e43) w41
  refine EV.aload_n 54 rfl 0 rfl rfl dX6_init_53 ?_
  refine EV.iconst 55 rfl dX6_init_54 (v := 0) (by decide) ?_
  refine EV.putI 58 rfl fw_X6_38 rfl (by decide) dX6_init_55 w45 (EV.nm (fun σ46 e47 => ?_))
  have h := h σ46 e47
  have w48 := tr_hs (hs_setI_of e47) w44
  have w49 := tr_hs (hs_setI_of e47) w45
  refine EV.aload_n 59 rfl 0 rfl rfl dX6_init_58 ?_
  refine EV.iconst 60 rfl dX6_init_59 (v := 0) (by decide) ?_
  refine EV.putI 63 rfl fw_X6_41 rfl (by decide) dX6_init_60 w49 (EV.nm (fun σ50 e51 => ?_))
  have h := h σ50 e51
  have w52 := tr_hs (hs_setI_of e51) w48
  have w53 := tr_hs (hs_setI_of e51) w49
  refine EV.aload_n 64 rfl 0 rfl rfl dX6_init_63 ?_
  refine EV.iconst 65 rfl dX6_init_64 (v := (-1)) (by decide) ?_
  refine EV.putI 68 rfl fw_X6_44 rfl (by decide) dX6_init_65 w53 (EV.nm (fun σ54 e55 => ?_))
  have h := h σ54 e55
  have w56 := tr_hs (hs_setI_of e55) w52
  have w57 := tr_hs (hs_setI_of e55) w53
  exact EV.vret rfl dX6_init_68 h
theorem eX6_init {Γ : Gm} {d : Nat} {σ : AH} {Q : Oc → AH → Prop} {v0 : Nat} (h : 1 ≤ d ∧ ∀ (q2 : Nat) (σ3 : AH), q2 = lo Γ + hc σ → σ3 = mk σ q2 22 200 → hs σ3 v0 = some (5, 10) ∧ ∀ σ6 : AH, σ6 = setR σ3 v0 0 (some q2) → ∀ (q10 : Nat) (σ11 : AH), q10 = lo Γ + hc σ6 → σ11 = mk σ6 q10 22 200 → hs σ11 v0 = some (5, 10) ∧ ∀ σ14 : AH, σ14 = setR σ11 v0 1 (some q10) → ∀ σ18 : AH, σ18 = setI σ14 v0 2 0 → ∀ (q22 : Nat) (σ23 : AH), q22 = lo Γ + hc σ18 → σ23 = mk σ18 q22 20 0 → hs σ23 v0 = some (5, 10) ∧ ∀ σ26 : AH, σ26 = setR σ23 v0 3 (some q22) → ∀ σ30 : AH, σ30 = setI σ26 v0 4 0 → ∀ (q34 : Nat) (σ35 : AH), q34 = lo Γ + hc σ30 → σ35 = mk σ30 q34 25 0 → hs σ35 v0 = some (5, 10) ∧ ∀ σ38 : AH, σ38 = setR σ35 v0 5 (some q34) → ∀ σ42 : AH, σ42 = setI σ38 v0 6 11 → ∀ σ46 : AH, σ46 = setI σ42 v0 7 0 → ∀ σ50 : AH, σ50 = setI σ46 v0 8 0 → ∀ σ54 : AH, σ54 = setI σ50 v0 9 (-1) → Q (.inl none) σ54) : RUN Γ d MX6_init [.ref v0] σ Q :=
  EV.enter [some (.ref v0)] rfl (by decide +kernel) (Nat.le_of_ble_eq_true rfl) rfl (gX6_init_0 h)
