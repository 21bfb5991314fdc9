theorem gX6_init_0 {Γ : Gm} {d : Nat} {σ : AH} {Q : Oc → AH → Prop} {v0 : Nat} (h : 1 ≤ d ∧ ∀ (q2 : Nat) (σ3 : AH), q2 = lo Γ + hc σ → σ3 = mk σ q2 22 200 → hs σ3 v0 = some (5, 10) ∧ ∀ σ6 : AH, σ6 = setR σ3 v0 0 (some q2) → ∀ (q10 : Nat) (σ11 : AH), q10 = lo Γ + hc σ6 → σ11 = mk σ6 q10 22 200 → hs σ11 v0 = some (5, 10) ∧ ∀ σ14 : AH, σ14 = setR σ11 v0 1 (some q10) → ∀ σ18 : AH, σ18 = setI σ14 v0 2 0 → ∀ (q22 : Nat) (σ23 : AH), q22 = lo Γ + hc σ18 → σ23 = mk σ18 q22 20 0 → hs σ23 v0 = some (5, 10) ∧ ∀ σ26 : AH, σ26 = setR σ23 v0 3 (some q22) → ∀ σ30 : AH, σ30 = setI σ26 v0 4 0 → ∀ (q34 : Nat) (σ35 : AH), q34 = lo Γ + hc σ30 → σ35 = mk σ30 q34 25 0 → hs σ35 v0 = some (5, 10) ∧ ∀ σ38 : AH, σ38 = setR σ35 v0 5 (some q34) → ∀ σ42 : AH, σ42 = setI σ38 v0 6 11 → ∀ σ46 : AH, σ46 = setI σ42 v0 7 0 → ∀ σ50 : AH, σ50 = setI σ46 v0 8 0 → ∀ σ54 : AH, σ54 = setI σ50 v0 9 (-1) → Q (.inl none) σ54) : EV Γ MX6_init d 0 [some (.ref v0)] [] σ Q := by
  refine EV.aload_n 1 rfl 0 rfl rfl dX6_init_0 ?_
  obtain ⟨z1, h⟩ := h
  refine EV.objInit 4 rfl oi_X6_3 z1 (Nat.le_of_ble_eq_true rfl) dX6_init_1 ?_
  refine EV.aload_n 5 rfl 0 rfl rfl dX6_init_4 ?_
  refine EV.sipush 8 rfl dX6_init_5 (v := 200) (by decide) ?_
  refine EV.newI 10 rfl (n := 200) ac_int dX6_init_8 (by decide) (Nat.le_of_ble_eq_true rfl) (EV.nq (fun q2 σ3 eq2 eσ3 => ?_))
  have h := h q2 σ3 eq2 eσ3
  have w4 : hs σ3 q2 = some (22, 200) := by rw [eσ3]; exact up_same _ _ _
  obtain ⟨w5, h⟩ := h
  refine EV.putFR 13 rfl rfl ff_X6_9 rfl (by decide) dX6_init_10 w5 (EV.nm (fun σ6 e7 => ?_))
  have h := h σ6 e7
  have w8 := tr_hs (hs_setR_of e7) w4
  have w9 := tr_hs (hs_setR_of e7) w5
  refine EV.aload_n 14 rfl 0 rfl rfl dX6_init_13 ?_
  refine EV.sipush 17 rfl dX6_init_14 (v := 200) (by decide) ?_
  refine EV.newI 19 rfl (n := 200) ac_int dX6_init_17 (by decide) (Nat.le_of_ble_eq_true rfl) (EV.nq (fun q10 σ11 eq10 eσ11 => ?_))
  have h := h q10 σ11 eq10 eσ11
  have w12 : hs σ11 q10 = some (22, 200) := by rw [eσ11]; exact up_same _ _ _
  obtain ⟨w13, h⟩ := h
  refine EV.putFR 22 rfl rfl ff_X6_15 rfl (by decide) dX6_init_19 w13 (EV.nm (fun σ14 e15 => ?_))
  have h := h σ14 e15
  have w16 := tr_hs (hs_setR_of e15) w12
  have w17 := tr_hs (hs_setR_of e15) w13
  refine EV.aload_n 23 rfl 0 rfl rfl dX6_init_22 ?_
  refine EV.iconst 24 rfl dX6_init_23 (v := 0) (by decide) ?_
  refine EV.putI 27 rfl fw_X6_18 rfl (by decide) dX6_init_24 w17 (EV.nm (fun σ18 e19 => ?_))
  have h := h σ18 e19
  have w20 := tr_hs (hs_setI_of e19) w16
  have w21 := tr_hs (hs_setI_of e19) w17
  refine EV.aload_n 28 rfl 0 rfl rfl dX6_init_27 ?_
  refine EV.iconst 29 rfl dX6_init_28 (v := 0) (by decide) ?_
  refine EV.newB 31 rfl (n := 0) ac_byte dX6_init_29 (by decide) (Nat.le_of_ble_eq_true rfl) (EV.nq (fun q22 σ23 eq22 eσ23 => ?_))
  have h := h q22 σ23 eq22 eσ23
  have w24 : hs σ23 q22 = some (20, 0) := by rw [eσ23]; exact up_same _ _ _
  obtain ⟨w25, h⟩ := h
  refine EV.putR 34 rfl fw_X6_22 rfl (by decide) dX6_init_31 w25 (EV.nm (fun σ26 e27 => ?_))
  have h := h σ26 e27
  have w28 := tr_hs (hs_setR_of e27) w24
  have w29 := tr_hs (hs_setR_of e27) w25
  refine EV.aload_n 35 rfl 0 rfl rfl dX6_init_34 ?_
  refine EV.iconst 36 rfl dX6_init_35 (v := 0) (by decide) ?_
  refine EV.putI 39 rfl fw_X6_26 rfl (by decide) dX6_init_36 w29 (EV.nm (fun σ30 e31 => ?_))
  have h := h σ30 e31
  have w32 := tr_hs (hs_setI_of e31) w28
  have w33 := tr_hs (hs_setI_of e31) w29
  refine EV.aload_n 40 rfl 0 rfl rfl dX6_init_39 ?_
  refine EV.iconst 41 rfl dX6_init_40 (v := 0) (by decide) ?_
  refine EV.newF 44 rfl (n := 0) an_X6_29 ao_F dX6_init_41 (by decide) (Nat.le_of_ble_eq_true rfl) (EV.nq (fun q34 σ35 eq34 eσ35 => ?_))
  have h := h q34 σ35 eq34 eσ35
  have w36 : hs σ35 q34 = some (25, 0) := by rw [eσ35]; exact up_same _ _ _
  obtain ⟨w37, h⟩ := h
  refine EV.putR 47 rfl fw_X6_31 rfl (by decide) dX6_init_44 w37 (EV.nm (fun σ38 e39 => ?_))
  have h := h σ38 e39
  have w40 := tr_hs (hs_setR_of e39) w36
  have w41 := tr_hs (hs_setR_of e39) w37
  refine EV.aload_n 48 rfl 0 rfl rfl dX6_init_47 ?_
  refine EV.bipush 50 rfl dX6_init_48 (v := 11) (by decide) ?_
  refine EV.putI 53 rfl fw_X6_35 rfl (by decide) dX6_init_50 w41 (EV.nm (fun σ42 e43 => ?_))
  have h := h σ42 e43
  have w44 := tr_hs (hs_setI_of e43) w40
  have w45 := tr_hs (hs_setI_of e43) w41
  refine EV.aload_n 54 rfl 0 rfl rfl dX6_init_53 ?_
  refine EV.iconst 55 rfl dX6_init_54 (v := 0) (by decide) ?_
  refine EV.putI 58 rfl fw_X6_38 rfl (by decide) dX6_init_55 w45 (EV.nm (fun σ46 e47 => ?_))
  have h := h σ46 e47
  have w48 := tr_hs (hs_setI_of e47) w44
  have w49 := tr_hs (hs_setI_of e47) w45
  refine EV.aload_n 59 rfl 0 rfl rfl dX6_init_58 ?_
  refine EV.iconst 60 rfl dX6_init_59 (v := 0) (by decide) ?_
  refine EV.putI 63 rfl fw_X6_41 rfl (by decide) dX6_init_60 w49 (EV.nm (fun σ50 e51 => ?_))
  have h := h σ50 e51
  have w52 := tr_hs (hs_setI_of e51) w48
  have w53 := tr_hs (hs_setI_of e51) w49
  refine EV.aload_n 64 rfl 0 rfl rfl dX6_init_63 ?_
  refine EV.iconst 65 rfl dX6_init_64 (v := (-1)) (by decide) ?_
  refine EV.putI 68 rfl fw_X6_44 rfl (by decide) dX6_init_65 w53 (EV.nm (fun σ54 e55 => ?_))
  have h := h σ54 e55
  have w56 := tr_hs (hs_setI_of e55) w52
  have w57 := tr_hs (hs_setI_of e55) w53
  exact EV.vret rfl dX6_init_68 h
theorem eX6_init {Γ : Gm} {d : Nat} {σ : AH} {Q : Oc → AH → Prop} {v0 : Nat} (h : 1 ≤ d ∧ ∀ (q2 : Nat) (σ3 : AH), q2 = lo Γ + hc σ → σ3 = mk σ q2 22 200 → hs σ3 v0 = some (5, 10) ∧ ∀ σ6 : AH, σ6 = setR σ3 v0 0 (some q2) → ∀ (q10 : Nat) (σ11 : AH), q10 = lo Γ + hc σ6 → σ11 = mk σ6 q10 22 200 → hs σ11 v0 = some (5, 10) ∧ ∀ σ14 : AH, σ14 = setR σ11 v0 1 (some q10) → ∀ σ18 : AH, σ18 = setI σ14 v0 2 0 → ∀ (q22 : Nat) (σ23 : AH), q22 = lo Γ + hc σ18 → σ23 = mk σ18 q22 20 0 → hs σ23 v0 = some (5, 10) ∧ ∀ σ26 : AH, σ26 = setR σ23 v0 3 (some q22) → ∀ σ30 : AH, σ30 = setI σ26 v0 4 0 → ∀ (q34 : Nat) (σ35 : AH), q34 = lo Γ + hc σ30 → σ35 = mk σ30 q34 25 0 → hs σ35 v0 = some (5, 10) ∧ ∀ σ38 : AH, σ38 = setR σ35 v0 5 (some q34) → ∀ σ42 : AH, σ42 = setI σ38 v0 6 11 → ∀ σ46 : AH, σ46 = setI σ42 v0 7 0 → ∀ σ50 : AH, σ50 = setI σ46 v0 8 0 → ∀ σ54 : AH, σ54 = setI σ50 v0 9 (-1) → Q (.inl none) σ54) : RUN Γ d MX6_init [.ref v0] σ Q :=
  EV.enter [some (.ref v0)] rfl (by decide +kernel) (Nat.le_of_ble_eq_true rfl) rfl (gX6_init_0 h)
theorem gX6_read_0 {Γ : Gm} {d : Nat} {σ : AH} {Q : Oc → AH → Prop} {v0 : Nat} {v1 : Nat} {v2 : Int32} {v3 : Nat} (h : hs σ v0 = some (5, 10) ∧ ∀ σ2 : AH, σ2 = setR σ v0 3 (some v1) → ∃ n6 : Nat, hs σ2 v1 = some (20, n6) ∧ 1 ≤ d ∧ ∀ σ8 : AH, σ8 = setI σ2 v0 4 (if (nI n6) < v2 then (nI n6) else v2) → ∀ σ12 : AH, σ12 = setR σ8 v0 5 (some v3) → ∀ σ16 : AH, σ16 = setI σ12 v0 2 0 → ∀ σ20 : AH, σ20 = setI σ16 v0 8 0 → ∀ σ24 : AH, σ24 = setI σ20 v0 9 (-1) → CV Γ d MX6_advance [.ref v0] σ24 (fun σ28 => hs σ28 v0 = some (5, 10) ∧ CV Γ d MX6_readSum [.ref v0, .int 0] σ28 (fun σ30 => hs σ30 v0 = some (5, 10) ∧ (((gi σ30 v0 6) = 11 → Q (.inl (some (.int (gi σ30 v0 9)))) σ30) ∧ (¬ (gi σ30 v0 6) = 11 → CV Γ d MX6_fail [.ref v0] σ30 (fun σ35 => hs σ35 v0 = some (5, 10) ∧ Q (.inl (some (.int (gi σ35 v0 9)))) σ35) (fun E σ35 => Q (.inr E) σ35)))) (fun E σ30 => Q (.inr E) σ30)) (fun E σ28 => Q (.inr E) σ28)) : EV Γ MX6_read d 0 [some (.ref v0), some (.ref v1), some (.int v2), some (.ref v3)] [] σ Q := by
  refine EV.aload_n 1 rfl 0 rfl rfl dX6_read_0 ?_
  refine EV.aload_n 2 rfl 1 rfl rfl dX6_read_1 ?_
  obtain ⟨w1, h⟩ := h
  refine EV.putR 5 rfl fw_X6_22 rfl (by decide) dX6_read_2 w1 (EV.nm (fun σ2 e3 => ?_))
  have h := h σ2 e3
  have w4 := tr_hs (hs_setR_of e3) w1
  refine EV.aload_n 6 rfl 0 rfl rfl dX6_read_5 ?_
  refine EV.iload_n 7 rfl 2 rfl rfl dX6_read_6 ?_
  refine EV.aload_n 8 rfl 1 rfl rfl dX6_read_7 ?_
  obtain ⟨n6, w5, h⟩ := h
  refine EV.alenB 9 rfl dX6_read_8 w5 ?_
  obtain ⟨z7, h⟩ := h
  refine EV.mmin 12 rfl mm_X6_47 z7 (Nat.le_of_ble_eq_true rfl) dX6_read_9 ?_
  refine EV.putI 15 rfl fw_X6_26 rfl (by decide) dX6_read_12 w4 (EV.nm (fun σ8 e9 => ?_))
  have h := h σ8 e9
  have w10 := tr_hs (hs_setI_of e9) w4
  have w11 := tr_hs (hs_setI_of e9) w5
  refine EV.aload_n 16 rfl 0 rfl rfl dX6_read_15 ?_
  refine EV.aload_n 17 rfl 3 rfl rfl dX6_read_16 ?_
  refine EV.putR 20 rfl fw_X6_31 rfl (by decide) dX6_read_17 w10 (EV.nm (fun σ12 e13 => ?_))
  have h := h σ12 e13
  have w14 := tr_hs (hs_setR_of e13) w10
  have w15 := tr_hs (hs_setR_of e13) w11
  refine EV.aload_n 21 rfl 0 rfl rfl dX6_read_20 ?_
  refine EV.iconst 22 rfl dX6_read_21 (v := 0) (by decide) ?_
  refine EV.putI 25 rfl fw_X6_18 rfl (by decide) dX6_read_22 w14 (EV.nm (fun σ16 e17 => ?_))
  have h := h σ16 e17
  have w18 := tr_hs (hs_setI_of e17) w14
  have w19 := tr_hs (hs_setI_of e17) w15
  refine EV.aload_n 26 rfl 0 rfl rfl dX6_read_25 ?_
  refine EV.iconst 27 rfl dX6_read_26 (v := 0) (by decide) ?_
  refine EV.putI 30 rfl fw_X6_41 rfl (by decide) dX6_read_27 w18 (EV.nm (fun σ20 e21 => ?_))
  have h := h σ20 e21
  have w22 := tr_hs (hs_setI_of e21) w18
  have w23 := tr_hs (hs_setI_of e21) w19
  refine EV.aload_n 31 rfl 0 rfl rfl dX6_read_30 ?_
  refine EV.iconst 32 rfl dX6_read_31 (v := (-1)) (by decide) ?_
  refine EV.putI 35 rfl fw_X6_44 rfl (by decide) dX6_read_32 w22 (EV.nm (fun σ24 e25 => ?_))
  have h := h σ24 e25
  have w26 := tr_hs (hs_setI_of e25) w22
  have w27 := tr_hs (hs_setI_of e25) w23
  refine EV.aload_n 36 rfl 0 rfl rfl dX6_read_35 ?_
  refine EV.cV rfl rfl lk_X6_53 rfl (vs := []) (st := []) rfl rfl (Nat.le_of_ble_eq_true rfl) dX6_read_36 w26 h (fun v σ28 h => ?_)
  obtain ⟨rfl, h⟩ := h
  show EV Γ MX6_read d 39 [some (.ref v0), some (.ref v1), some (.int v2), some (.ref v3)] [] σ28 Q
  refine EV.aload_n 40 rfl 0 rfl rfl dX6_read_39 ?_
  refine EV.iconst 41 rfl dX6_read_40 (v := 0) (by decide) ?_
  obtain ⟨w32, h⟩ := h
  refine EV.cV rfl rfl lk_X6_56 rfl (vs := [.int 0]) (st := []) rfl rfl (Nat.le_of_ble_eq_true rfl) dX6_read_41 w32 h (fun v σ30 h => ?_)
  obtain ⟨rfl, h⟩ := h
  show EV Γ MX6_read d 44 [some (.ref v0), some (.ref v1), some (.int v2), some (.ref v3)] [] σ30 Q
  refine EV.aload_n 45 rfl 0 rfl rfl dX6_read_44 ?_
  obtain ⟨w33, h⟩ := h
  refine EV.getI 48 rfl fl_X6_35 rfl dX6_read_45 w33 ?_
  refine EV.bipush 50 rfl dX6_read_48 (v := 11) (by decide) ?_
  refine EV.icmp_eq 53 57 rfl (by decide) dX6_read_50 (fun c34 => ?_) (fun c34 => ?_)
  · have h := h.1 c34
    refine EV.aload_n 58 rfl 0 rfl rfl dX6_read_57 ?_
    refine EV.getI 61 rfl fl_X6_44 rfl dX6_read_58 w33 ?_
    exact EV.iret rfl dX6_read_61 h
  · have h := h.2 c34
    refine EV.aload_n 54 rfl 0 rfl rfl dX6_read_53 ?_
    refine EV.cV rfl rfl lk_X6_60 rfl (vs := []) (st := []) rfl rfl (Nat.le_of_ble_eq_true rfl) dX6_read_54 w33 h (fun v σ35 h => ?_)
    obtain ⟨rfl, h⟩ := h
    show EV Γ MX6_read d 57 [some (.ref v0), some (.ref v1), some (.int v2), some (.ref v3)] [] σ35 Q
    refine EV.aload_n 58 rfl 0 rfl rfl dX6_read_57 ?_
    obtain ⟨w37, h⟩ := h
    refine EV.getI 61 rfl fl_X6_44 rfl dX6_read_58 w37 ?_
    exact EV.iret rfl dX6_read_61 h
theorem eX6_read {Γ : Gm} {d : Nat} {σ : AH} {Q : Oc → AH → Prop} {v0 : Nat} {v1 : Nat} {v2 : Int32} {v3 : Nat} (h : hs σ v0 = some (5, 10) ∧ ∀ σ2 : AH, σ2 = setR σ v0 3 (some v1) → ∃ n6 : Nat, hs σ2 v1 = some (20, n6) ∧ 1 ≤ d ∧ ∀ σ8 : AH, σ8 = setI σ2 v0 4 (if (nI n6) < v2 then (nI n6) else v2) → ∀ σ12 : AH, σ12 = setR σ8 v0 5 (some v3) → ∀ σ16 : AH, σ16 = setI σ12 v0 2 0 → ∀ σ20 : AH, σ20 = setI σ16 v0 8 0 → ∀ σ24 : AH, σ24 = setI σ20 v0 9 (-1) → CV Γ d MX6_advance [.ref v0] σ24 (fun σ28 => hs σ28 v0 = some (5, 10) ∧ CV Γ d MX6_readSum [.ref v0, .int 0] σ28 (fun σ30 => hs σ30 v0 = some (5, 10) ∧ (((gi σ30 v0 6) = 11 → Q (.inl (some (.int (gi σ30 v0 9)))) σ30) ∧ (¬ (gi σ30 v0 6) = 11 → CV Γ d MX6_fail [.ref v0] σ30 (fun σ35 => hs σ35 v0 = some (5, 10) ∧ Q (.inl (some (.int (gi σ35 v0 9)))) σ35) (fun E σ35 => Q (.inr E) σ35)))) (fun E σ30 => Q (.inr E) σ30)) (fun E σ28 => Q (.inr E) σ28)) : RUN Γ d MX6_read [.ref v0, .ref v1, .int v2, .ref v3] σ Q :=
  EV.enter [some (.ref v0), some (.ref v1), some (.int v2), some (.ref v3)] rfl (by decide +kernel) (Nat.le_of_ble_eq_true rfl) rfl (gX6_read_0 h)
theorem gX6_fail_0 {Γ : Gm} {d : Nat} {σ : AH} {Q : Oc → AH → Prop} {v0 : Nat} (h : hs σ v0 = some (5, 10) ∧ ((0 ≤ (gi σ v0 9) → Q (.inl none) σ) ∧ (¬ 0 ≤ (gi σ v0 9) → ∀ σ3 : AH, σ3 = setI σ v0 9 (gi σ v0 7) → Q (.inl none) σ3))) : EV Γ MX6_fail d 0 [some (.ref v0)] [] σ Q := by
  refine EV.aload_n 1 rfl 0 rfl rfl dX6_fail_0 ?_
  obtain ⟨w1, h⟩ := h
  refine EV.getI 4 rfl fl_X6_44 rfl dX6_fail_1 w1 ?_
  refine EV.if_ge 7 15 rfl (by decide) dX6_fail_4 (fun c2 => ?_) (fun c2 => ?_)
  · have h := h.1 c2
    exact EV.vret rfl dX6_fail_15 h
  · have h := h.2 c2
    refine EV.aload_n 8 rfl 0 rfl rfl dX6_fail_7 ?_
    refine EV.aload_n 9 rfl 0 rfl rfl dX6_fail_8 ?_
    refine EV.getI 12 rfl fl_X6_38 rfl dX6_fail_9 w1 ?_
    refine EV.putI 15 rfl fw_X6_44 rfl (by decide) dX6_fail_12 w1 (EV.nm (fun σ3 e4 => ?_))
    have h := h σ3 e4
    have w5 := tr_hs (hs_setI_of e4) w1
    exact EV.vret rfl dX6_fail_15 h
theorem eX6_fail {Γ : Gm} {d : Nat} {σ : AH} {Q : Oc → AH → Prop} {v0 : Nat} (h : hs σ v0 = some (5, 10) ∧ ((0 ≤ (gi σ v0 9) → Q (.inl none) σ) ∧ (¬ 0 ≤ (gi σ v0 9) → ∀ σ3 : AH, σ3 = setI σ v0 9 (gi σ v0 7) → Q (.inl none) σ3))) : RUN Γ d MX6_fail [.ref v0] σ Q :=
  EV.enter [some (.ref v0)] rfl (by decide +kernel) (Nat.le_of_ble_eq_true rfl) rfl (gX6_fail_0 h)
theorem gX6_addStep_0 {Γ : Gm} {d : Nat} {σ : AH} {Q : Oc → AH → Prop} {v0 : Nat} {v1 : Int32} {v2 : Int32} (h : hs σ v0 = some (5, 10) ∧ ∃ t2 : Nat, gr σ v0 0 = some t2 ∧ ∃ n5 : Nat, hs σ t2 = some (22, n5) ∧ (((nI n5) ≤ (gi σ v0 2) → Q (.inl none) σ) ∧ (¬ (nI n5) ≤ (gi σ v0 2) → ∃ t7 : Nat, gr σ v0 1 = some t7 ∧ ∃ n10 : Nat, hs σ t7 = some (22, n10) ∧ (((nI n10) ≤ (gi σ v0 2) → Q (.inl none) σ) ∧ (¬ (nI n10) ≤ (gi σ v0 2) → ∃ j12 : Nat, IX (gi σ v0 2) n5 j12 ∧ ∀ σ14 : AH, σ14 = setI σ t2 j12 v1 → ∃ j21 : Nat, IX (gi σ14 v0 2) n10 j21 ∧ ∀ σ23 : AH, σ23 = setI σ14 t7 j21 v2 → ∀ σ30 : AH, σ30 = setI σ23 v0 2 ((gi σ23 v0 2) + 1) → Q (.inl none) σ30))))) : EV Γ MX6_addStep d 0 [some (.ref v0), some (.int v1), some (.int v2)] [] σ Q := by
  refine EV.aload_n 1 rfl 0 rfl rfl dX6_addStep_0 ?_
  obtain ⟨w1, h⟩ := h
  refine EV.getI 4 rfl fl_X6_18 rfl dX6_addStep_1 w1 ?_
  refine EV.aload_n 5 rfl 0 rfl rfl dX6_addStep_4 ?_
  obtain ⟨t2, g3, h⟩ := h
  refine EV.getR 8 rfl fl_X6_9 rfl dX6_addStep_5 w1 g3 ?_
  obtain ⟨n5, w4, h⟩ := h
  refine EV.alenI 9 rfl dX6_addStep_8 w4 ?_
  refine EV.icmp_ge 12 54 rfl (by decide) dX6_addStep_9 (fun c6 => ?_) (fun c6 => ?_)
  · have h := h.1 c6
    exact EV.vret rfl dX6_addStep_54 h
  · have h := h.2 c6
    refine EV.aload_n 13 rfl 0 rfl rfl dX6_addStep_12 ?_
    refine EV.getI 16 rfl fl_X6_18 rfl dX6_addStep_13 w1 ?_
    refine EV.aload_n 17 rfl 0 rfl rfl dX6_addStep_16 ?_
    obtain ⟨t7, g8, h⟩ := h
    refine EV.getR 20 rfl fl_X6_15 rfl dX6_addStep_17 w1 g8 ?_
    obtain ⟨n10, w9, h⟩ := h
    refine EV.alenI 21 rfl dX6_addStep_20 w9 ?_
    refine EV.icmp_ge 24 54 rfl (by decide) dX6_addStep_21 (fun c11 => ?_) (fun c11 => ?_)
    · have h := h.1 c11
      exact EV.vret rfl dX6_addStep_54 h
    · have h := h.2 c11
      refine EV.aload_n 25 rfl 0 rfl rfl dX6_addStep_24 ?_
      refine EV.getR 28 rfl fl_X6_9 rfl dX6_addStep_25 w1 g3 ?_
      refine EV.aload_n 29 rfl 0 rfl rfl dX6_addStep_28 ?_
      refine EV.getI 32 rfl fl_X6_18 rfl dX6_addStep_29 w1 ?_
      refine EV.iload_n 33 rfl 1 rfl rfl dX6_addStep_32 ?_
      obtain ⟨j12, x13, h⟩ := h
      refine EV.iast 34 rfl dX6_addStep_33 w4 x13 (EV.nm (fun σ14 e15 => ?_))
      have h := h σ14 e15
      have w16 := tr_hs (hs_setI_of e15) w1
      have w17 := tr_hs (hs_setI_of e15) w4
      have w18 := tr_hs (hs_setI_of e15) w9
      have g19 := tr_gr (gr_setI_of e15) g3
      have g20 := tr_gr (gr_setI_of e15) g8
      refine EV.aload_n 35 rfl 0 rfl rfl dX6_addStep_34 ?_
      refine EV.getR 38 rfl fl_X6_15 rfl dX6_addStep_35 w16 g20 ?_
      refine EV.aload_n 39 rfl 0 rfl rfl dX6_addStep_38 ?_
      refine EV.getI 42 rfl fl_X6_18 rfl dX6_addStep_39 w16 ?_
      refine EV.iload_n 43 rfl 2 rfl rfl dX6_addStep_42 ?_
      obtain ⟨j21, x22, h⟩ := h
      refine EV.iast 44 rfl dX6_addStep_43 w18 x22 (EV.nm (fun σ23 e24 => ?_))
      have h := h σ23 e24
      have w25 := tr_hs (hs_setI_of e24) w16
      have w26 := tr_hs (hs_setI_of e24) w17
      have w27 := tr_hs (hs_setI_of e24) w18
      have g28 := tr_gr (gr_setI_of e24) g19
      have g29 := tr_gr (gr_setI_of e24) g20
      refine EV.aload_n 45 rfl 0 rfl rfl dX6_addStep_44 ?_
      refine EV.dup 46 rfl dX6_addStep_45 rfl ?_
      refine EV.getI 49 rfl fl_X6_18 rfl dX6_addStep_46 w25 ?_
      refine EV.iconst 50 rfl dX6_addStep_49 (v := 1) (by decide) ?_
      refine EV.iadd 51 rfl dX6_addStep_50 ?_
      refine EV.putI 54 rfl fw_X6_18 rfl (by decide) dX6_addStep_51 w25 (EV.nm (fun σ30 e31 => ?_))
      have h := h σ30 e31
      have w32 := tr_hs (hs_setI_of e31) w25
      have w33 := tr_hs (hs_setI_of e31) w26
      have w34 := tr_hs (hs_setI_of e31) w27
      have g35 := tr_gr (gr_setI_of e31) g28
      have g36 := tr_gr (gr_setI_of e31) g29
      exact EV.vret rfl dX6_addStep_54 h
theorem eX6_addStep {Γ : Gm} {d : Nat} {σ : AH} {Q : Oc → AH → Prop} {v0 : Nat} {v1 : Int32} {v2 : Int32} (h : hs σ v0 = some (5, 10) ∧ ∃ t2 : Nat, gr σ v0 0 = some t2 ∧ ∃ n5 : Nat, hs σ t2 = some (22, n5) ∧ (((nI n5) ≤ (gi σ v0 2) → Q (.inl none) σ) ∧ (¬ (nI n5) ≤ (gi σ v0 2) → ∃ t7 : Nat, gr σ v0 1 = some t7 ∧ ∃ n10 : Nat, hs σ t7 = some (22, n10) ∧ (((nI n10) ≤ (gi σ v0 2) → Q (.inl none) σ) ∧ (¬ (nI n10) ≤ (gi σ v0 2) → ∃ j12 : Nat, IX (gi σ v0 2) n5 j12 ∧ ∀ σ14 : AH, σ14 = setI σ t2 j12 v1 → ∃ j21 : Nat, IX (gi σ14 v0 2) n10 j21 ∧ ∀ σ23 : AH, σ23 = setI σ14 t7 j21 v2 → ∀ σ30 : AH, σ30 = setI σ23 v0 2 ((gi σ23 v0 2) + 1) → Q (.inl none) σ30))))) : RUN Γ d MX6_addStep [.ref v0, .int v1, .int v2] σ Q :=
  EV.enter [some (.ref v0), some (.int v1), some (.int v2)] rfl (by decide +kernel) (Nat.le_of_ble_eq_true rfl) rfl (gX6_addStep_0 h)
theorem gX6_readSum_0 {Γ : Gm} {d : Nat} {σ : AH} {Q : Oc → AH → Prop} {v0 : Nat} {v1 : Int32} (h : hs σ v0 = some (5, 10) ∧ CV Γ d MX6_readProduct [.ref v0, .int v1] σ (fun σ1 => EV Γ MX6_readSum d 7 [some (.ref v0), some (.int v1), some (.int 0), none] [] σ1 Q) (fun E σ1 => Q (.inr E) σ1)) : EV Γ MX6_readSum d 0 [some (.ref v0), some (.int v1), none, none] [] σ Q := by
  refine EV.aload_n 1 rfl 0 rfl rfl dX6_readSum_0 ?_
  refine EV.iload_n 2 rfl 1 rfl rfl dX6_readSum_1 ?_
  obtain ⟨w3, h⟩ := h
  refine EV.cV rfl rfl lk_X6_63 rfl (vs := [.int v1]) (st := []) rfl rfl (Nat.le_of_ble_eq_true rfl) dX6_readSum_2 w3 h (fun v σ1 h => ?_)
  obtain ⟨rfl, h⟩ := h
  show EV Γ MX6_readSum d 5 [some (.ref v0), some (.int v1), none, none] [] σ1 Q
  refine EV.iconst 6 rfl dX6_readSum_5 (v := 0) (by decide) ?_
  refine EV.istore_n 7 rfl 2 [some (.ref v0), some (.int v1), some (.int 0), none] rfl (by decide) rfl dX6_readSum_6 ?_
  exact h
theorem eX6_readSum {Γ : Gm} {d : Nat} {σ : AH} {Q : Oc → AH → Prop} {v0 : Nat} {v1 : Int32} (h : hs σ v0 = some (5, 10) ∧ CV Γ d MX6_readProduct [.ref v0, .int v1] σ (fun σ1 => EV Γ MX6_readSum d 7 [some (.ref v0), some (.int v1), some (.int 0), none] [] σ1 Q) (fun E σ1 => Q (.inr E) σ1)) : RUN Γ d MX6_readSum [.ref v0, .int v1] σ Q :=
  EV.enter [some (.ref v0), some (.int v1), none, none] rfl (by decide +kernel) (Nat.le_of_ble_eq_true rfl) rfl (gX6_readSum_0 h)
theorem gX6_readSum_7 {Γ : Gm} {d : Nat} {σ : AH} {Q : Oc → AH → Prop} {v0 : Nat} {v1 : Int32} {v2 : Int32} (h : ((200 ≤ v2 → Q (.inl none) σ) ∧ (¬ 200 ≤ v2 → hs σ v0 = some (5, 10) ∧ ((0 ≤ (gi σ v0 9) → Q (.inl none) σ) ∧ (¬ 0 ≤ (gi σ v0 9) → CI Γ d MX6_isSumSign [.int (gi σ v0 6)] σ (fun r5 σ4 => ((r5 = 0 → Q (.inl none) σ4) ∧ (¬ r5 = 0 → hs σ4 v0 = some (5, 10) ∧ CV Γ d MX6_advance [.ref v0] σ4 (fun σ8 => hs σ8 v0 = some (5, 10) ∧ CV Γ d MX6_readProduct [.ref v0, .int v1] σ8 (fun σ10 => hs σ10 v0 = some (5, 10) ∧ CV Γ d MX6_addStep [.ref v0, .int (gi σ4 v0 6), .int 0] σ10 (fun σ13 => EV Γ MX6_readSum d 7 [some (.ref v0), some (.int v1), some (.int (v2 + 1)), none] [] σ13 Q) (fun E σ13 => Q (.inr E) σ13)) (fun E σ10 => Q (.inr E) σ10)) (fun E σ8 => Q (.inr E) σ8)))) (fun _ _ => False)))))) : EV Γ MX6_readSum d 7 [some (.ref v0), some (.int v1), some (.int v2), none] [] σ Q := by
  refine EV.iload_n 8 rfl 2 rfl rfl dX6_readSum_7 ?_
  refine EV.sipush 11 rfl dX6_readSum_8 (v := 200) (by decide) ?_
  refine EV.icmp_ge 14 57 rfl (by decide) dX6_readSum_11 (fun c1 => ?_) (fun c1 => ?_)
  · have h := h.1 c1
    exact EV.vret rfl dX6_readSum_57 h
  · have h := h.2 c1
    refine EV.aload_n 15 rfl 0 rfl rfl dX6_readSum_14 ?_
    obtain ⟨w2, h⟩ := h
    refine EV.getI 18 rfl fl_X6_44 rfl dX6_readSum_15 w2 ?_
    refine EV.if_ge 21 57 rfl (by decide) dX6_readSum_18 (fun c3 => ?_) (fun c3 => ?_)
    · have h := h.1 c3
      exact EV.vret rfl dX6_readSum_57 h
    · have h := h.2 c3
      refine EV.aload_n 22 rfl 0 rfl rfl dX6_readSum_21 ?_
      refine EV.getI 25 rfl fl_X6_35 rfl dX6_readSum_22 w2 ?_
      refine EV.cS rfl lk_X6_66 rfl (vs := [.int (gi σ v0 6)]) (st := []) rfl rfl (Nat.le_of_ble_eq_true rfl) dX6_readSum_25 h (fun v σ4 h => ?_)
      obtain ⟨r5, rfl, h⟩ := h
      show EV Γ MX6_readSum d 28 [some (.ref v0), some (.int v1), some (.int v2), none] [.int r5] σ4 Q
      refine EV.if_eq 31 57 rfl (by decide) dX6_readSum_28 (fun c6 => ?_) (fun c6 => ?_)
      · have h := h.1 c6
        exact EV.vret rfl dX6_readSum_57 h
      · have h := h.2 c6
        refine EV.aload_n 32 rfl 0 rfl rfl dX6_readSum_31 ?_
        obtain ⟨w7, h⟩ := h
        refine EV.getI 35 rfl fl_X6_35 rfl dX6_readSum_32 w7 ?_
        refine EV.istore_n 36 rfl 3 [some (.ref v0), some (.int v1), some (.int v2), some (.int (gi σ4 v0 6))] rfl (by decide) rfl dX6_readSum_35 ?_
        refine EV.aload_n 37 rfl 0 rfl rfl dX6_readSum_36 ?_
        refine EV.cV rfl rfl lk_X6_53 rfl (vs := []) (st := []) rfl rfl (Nat.le_of_ble_eq_true rfl) dX6_readSum_37 w7 h (fun v σ8 h => ?_)
        obtain ⟨rfl, h⟩ := h
        show EV Γ MX6_readSum d 40 [some (.ref v0), some (.int v1), some (.int v2), some (.int (gi σ4 v0 6))] [] σ8 Q
        refine EV.aload_n 41 rfl 0 rfl rfl dX6_readSum_40 ?_
        refine EV.iload_n 42 rfl 1 rfl rfl dX6_readSum_41 ?_
        obtain ⟨w12, h⟩ := h
        refine EV.cV rfl rfl lk_X6_63 rfl (vs := [.int v1]) (st := []) rfl rfl (Nat.le_of_ble_eq_true rfl) dX6_readSum_42 w12 h (fun v σ10 h => ?_)
        obtain ⟨rfl, h⟩ := h
        show EV Γ MX6_readSum d 45 [some (.ref v0), some (.int v1), some (.int v2), some (.int (gi σ4 v0 6))] [] σ10 Q
        refine EV.aload_n 46 rfl 0 rfl rfl dX6_readSum_45 ?_
        refine EV.iload_n 47 rfl 3 rfl rfl dX6_readSum_46 ?_
        refine EV.iconst 48 rfl dX6_readSum_47 (v := 0) (by decide) ?_
        obtain ⟨w15, h⟩ := h
        refine EV.cV rfl rfl lk_X6_70 rfl (vs := [.int (gi σ4 v0 6), .int 0]) (st := []) rfl rfl (Nat.le_of_ble_eq_true rfl) dX6_readSum_48 w15 h (fun v σ13 h => ?_)
        obtain ⟨rfl, h⟩ := h
        show EV Γ MX6_readSum d 51 [some (.ref v0), some (.int v1), some (.int v2), some (.int (gi σ4 v0 6))] [] σ13 Q
        refine EV.iinc 54 rfl [some (.ref v0), some (.int v1), some (.int (v2 + 1)), some (.int (gi σ4 v0 6))] (v := 1) (by decide) (by decide) rfl rfl dX6_readSum_51 ?_
        refine EV.goto 7 (by decide) dX6_readSum_54 ?_
        refine EV.mask [true, true, true, false] (L' := [some (.ref v0), some (.int v1), some (.int (v2 + 1)), none]) rfl ?_
        exact h
theorem gX6_readProduct_0 {Γ : Gm} {d : Nat} {σ : AH} {Q : Oc → AH → Prop} {v0 : Nat} {v1 : Int32} (h : hs σ v0 = some (5, 10) ∧ CV Γ d MX6_readFactor [.ref v0, .int v1] σ (fun σ1 => EV Γ MX6_readProduct d 7 [some (.ref v0), some (.int v1), some (.int 0), none] [] σ1 Q) (fun E σ1 => Q (.inr E) σ1)) : EV Γ MX6_readProduct d 0 [some (.ref v0), some (.int v1), none, none] [] σ Q := by
  refine EV.aload_n 1 rfl 0 rfl rfl dX6_readProduct_0 ?_
  refine EV.iload_n 2 rfl 1 rfl rfl dX6_readProduct_1 ?_
  obtain ⟨w3, h⟩ := h
  refine EV.cV rfl rfl lk_X6_74 rfl (vs := [.int v1]) (st := []) rfl rfl (Nat.le_of_ble_eq_true rfl) dX6_readProduct_2 w3 h (fun v σ1 h => ?_)
  obtain ⟨rfl, h⟩ := h
  show EV Γ MX6_readProduct d 5 [some (.ref v0), some (.int v1), none, none] [] σ1 Q
  refine EV.iconst 6 rfl dX6_readProduct_5 (v := 0) (by decide) ?_
  refine EV.istore_n 7 rfl 2 [some (.ref v0), some (.int v1), some (.int 0), none] rfl (by decide) rfl dX6_readProduct_6 ?_
  exact h
theorem eX6_readProduct {Γ : Gm} {d : Nat} {σ : AH} {Q : Oc → AH → Prop} {v0 : Nat} {v1 : Int32} (h : hs σ v0 = some (5, 10) ∧ CV Γ d MX6_readFactor [.ref v0, .int v1] σ (fun σ1 => EV Γ MX6_readProduct d 7 [some (.ref v0), some (.int v1), some (.int 0), none] [] σ1 Q) (fun E σ1 => Q (.inr E) σ1)) : RUN Γ d MX6_readProduct [.ref v0, .int v1] σ Q :=
  EV.enter [some (.ref v0), some (.int v1), none, none] rfl (by decide +kernel) (Nat.le_of_ble_eq_true rfl) rfl (gX6_readProduct_0 h)
theorem gX6_readProduct_7 {Γ : Gm} {d : Nat} {σ : AH} {Q : Oc → AH → Prop} {v0 : Nat} {v1 : Int32} {v2 : Int32} (h : ((200 ≤ v2 → Q (.inl none) σ) ∧ (¬ 200 ≤ v2 → hs σ v0 = some (5, 10) ∧ ((0 ≤ (gi σ v0 9) → Q (.inl none) σ) ∧ (¬ 0 ≤ (gi σ v0 9) → CI Γ d MX6_isProductSign [.int (gi σ v0 6)] σ (fun r5 σ4 => ((r5 = 0 → Q (.inl none) σ4) ∧ (¬ r5 = 0 → hs σ4 v0 = some (5, 10) ∧ CV Γ d MX6_advance [.ref v0] σ4 (fun σ8 => hs σ8 v0 = some (5, 10) ∧ CV Γ d MX6_readFactor [.ref v0, .int v1] σ8 (fun σ10 => hs σ10 v0 = some (5, 10) ∧ CV Γ d MX6_addStep [.ref v0, .int (gi σ4 v0 6), .int 0] σ10 (fun σ13 => EV Γ MX6_readProduct d 7 [some (.ref v0), some (.int v1), some (.int (v2 + 1)), none] [] σ13 Q) (fun E σ13 => Q (.inr E) σ13)) (fun E σ10 => Q (.inr E) σ10)) (fun E σ8 => Q (.inr E) σ8)))) (fun _ _ => False)))))) : EV Γ MX6_readProduct d 7 [some (.ref v0), some (.int v1), some (.int v2), none] [] σ Q := by
  refine EV.iload_n 8 rfl 2 rfl rfl dX6_readProduct_7 ?_
  refine EV.sipush 11 rfl dX6_readProduct_8 (v := 200) (by decide) ?_
  refine EV.icmp_ge 14 57 rfl (by decide) dX6_readProduct_11 (fun c1 => ?_) (fun c1 => ?_)
  · have h := h.1 c1
    exact EV.vret rfl dX6_readProduct_57 h
  · have h := h.2 c1
    refine EV.aload_n 15 rfl 0 rfl rfl dX6_readProduct_14 ?_
    obtain ⟨w2, h⟩ := h
    refine EV.getI 18 rfl fl_X6_44 rfl dX6_readProduct_15 w2 ?_
    refine EV.if_ge 21 57 rfl (by decide) dX6_readProduct_18 (fun c3 => ?_) (fun c3 => ?_)
    · have h := h.1 c3
      exact EV.vret rfl dX6_readProduct_57 h
    · have h := h.2 c3
      refine EV.aload_n 22 rfl 0 rfl rfl dX6_readProduct_21 ?_
      refine EV.getI 25 rfl fl_X6_35 rfl dX6_readProduct_22 w2 ?_
      refine EV.cS rfl lk_X6_77 rfl (vs := [.int (gi σ v0 6)]) (st := []) rfl rfl (Nat.le_of_ble_eq_true rfl) dX6_readProduct_25 h (fun v σ4 h => ?_)
      obtain ⟨r5, rfl, h⟩ := h
      show EV Γ MX6_readProduct d 28 [some (.ref v0), some (.int v1), some (.int v2), none] [.int r5] σ4 Q
      refine EV.if_eq 31 57 rfl (by decide) dX6_readProduct_28 (fun c6 => ?_) (fun c6 => ?_)
      · have h := h.1 c6
        exact EV.vret rfl dX6_readProduct_57 h
      · have h := h.2 c6
        refine EV.aload_n 32 rfl 0 rfl rfl dX6_readProduct_31 ?_
        obtain ⟨w7, h⟩ := h
        refine EV.getI 35 rfl fl_X6_35 rfl dX6_readProduct_32 w7 ?_
        refine EV.istore_n 36 rfl 3 [some (.ref v0), some (.int v1), some (.int v2), some (.int (gi σ4 v0 6))] rfl (by decide) rfl dX6_readProduct_35 ?_
        refine EV.aload_n 37 rfl 0 rfl rfl dX6_readProduct_36 ?_
        refine EV.cV rfl rfl lk_X6_53 rfl (vs := []) (st := []) rfl rfl (Nat.le_of_ble_eq_true rfl) dX6_readProduct_37 w7 h (fun v σ8 h => ?_)
        obtain ⟨rfl, h⟩ := h
        show EV Γ MX6_readProduct d 40 [some (.ref v0), some (.int v1), some (.int v2), some (.int (gi σ4 v0 6))] [] σ8 Q
        refine EV.aload_n 41 rfl 0 rfl rfl dX6_readProduct_40 ?_
        refine EV.iload_n 42 rfl 1 rfl rfl dX6_readProduct_41 ?_
        obtain ⟨w12, h⟩ := h
        refine EV.cV rfl rfl lk_X6_74 rfl (vs := [.int v1]) (st := []) rfl rfl (Nat.le_of_ble_eq_true rfl) dX6_readProduct_42 w12 h (fun v σ10 h => ?_)
        obtain ⟨rfl, h⟩ := h
        show EV Γ MX6_readProduct d 45 [some (.ref v0), some (.int v1), some (.int v2), some (.int (gi σ4 v0 6))] [] σ10 Q
        refine EV.aload_n 46 rfl 0 rfl rfl dX6_readProduct_45 ?_
        refine EV.iload_n 47 rfl 3 rfl rfl dX6_readProduct_46 ?_
        refine EV.iconst 48 rfl dX6_readProduct_47 (v := 0) (by decide) ?_
        obtain ⟨w15, h⟩ := h
        refine EV.cV rfl rfl lk_X6_70 rfl (vs := [.int (gi σ4 v0 6), .int 0]) (st := []) rfl rfl (Nat.le_of_ble_eq_true rfl) dX6_readProduct_48 w15 h (fun v σ13 h => ?_)
        obtain ⟨rfl, h⟩ := h
        show EV Γ MX6_readProduct d 51 [some (.ref v0), some (.int v1), some (.int v2), some (.int (gi σ4 v0 6))] [] σ13 Q
        refine EV.iinc 54 rfl [some (.ref v0), some (.int v1), some (.int (v2 + 1)), some (.int (gi σ4 v0 6))] (v := 1) (by decide) (by decide) rfl rfl dX6_readProduct_51 ?_
        refine EV.goto 7 (by decide) dX6_readProduct_54 ?_
        refine EV.mask [true, true, true, false] (L' := [some (.ref v0), some (.int v1), some (.int (v2 + 1)), none]) rfl ?_
        exact h
theorem gX6_isSumSign_0 {Γ : Gm} {d : Nat} {σ : AH} {Q : Oc → AH → Prop} {v0 : Int32} (h : ((v0 = 43 → Q (.inl (some (.int 1))) σ) ∧ (¬ v0 = 43 → ((v0 = 45 → Q (.inl (some (.int 1))) σ) ∧ (¬ v0 = 45 → ((v0 ≠ 38 → Q (.inl (some (.int 0))) σ) ∧ (v0 = 38 → Q (.inl (some (.int 1))) σ))))))) : EV Γ MX6_isSumSign d 0 [some (.int v0)] [] σ Q := by
  refine EV.iload_n 1 rfl 0 rfl rfl dX6_isSumSign_0 ?_
  refine EV.bipush 3 rfl dX6_isSumSign_1 (v := 43) (by decide) ?_
  refine EV.icmp_eq 6 18 rfl (by decide) dX6_isSumSign_3 (fun c1 => ?_) (fun c1 => ?_)
  · have h := h.1 c1
    refine EV.iconst 19 rfl dX6_isSumSign_18 (v := 1) (by decide) ?_
    refine EV.goto 23 (by decide) dX6_isSumSign_19 ?_
    exact EV.zret rfl rfl dX6_isSumSign_23 h
  · have h := h.2 c1
    refine EV.iload_n 7 rfl 0 rfl rfl dX6_isSumSign_6 ?_
    refine EV.bipush 9 rfl dX6_isSumSign_7 (v := 45) (by decide) ?_
    refine EV.icmp_eq 12 18 rfl (by decide) dX6_isSumSign_9 (fun c2 => ?_) (fun c2 => ?_)
    · have h := h.1 c2
      refine EV.iconst 19 rfl dX6_isSumSign_18 (v := 1) (by decide) ?_
      refine EV.goto 23 (by decide) dX6_isSumSign_19 ?_
      exact EV.zret rfl rfl dX6_isSumSign_23 h
    · have h := h.2 c2
      refine EV.iload_n 13 rfl 0 rfl rfl dX6_isSumSign_12 ?_
      refine EV.bipush 15 rfl dX6_isSumSign_13 (v := 38) (by decide) ?_
      refine EV.icmp_ne 18 22 rfl (by decide) dX6_isSumSign_15 (fun c3 => ?_) (fun c3 => ?_)
      · have h := h.1 c3
        refine EV.iconst 23 rfl dX6_isSumSign_22 (v := 0) (by decide) ?_
        exact EV.zret rfl rfl dX6_isSumSign_23 h
      · have h := h.2 c3
        refine EV.iconst 19 rfl dX6_isSumSign_18 (v := 1) (by decide) ?_
        refine EV.goto 23 (by decide) dX6_isSumSign_19 ?_
        exact EV.zret rfl rfl dX6_isSumSign_23 h
theorem eX6_isSumSign {Γ : Gm} {d : Nat} {σ : AH} {Q : Oc → AH → Prop} {v0 : Int32} (h : ((v0 = 43 → Q (.inl (some (.int 1))) σ) ∧ (¬ v0 = 43 → ((v0 = 45 → Q (.inl (some (.int 1))) σ) ∧ (¬ v0 = 45 → ((v0 ≠ 38 → Q (.inl (some (.int 0))) σ) ∧ (v0 = 38 → Q (.inl (some (.int 1))) σ))))))) : RUN Γ d MX6_isSumSign [.int v0] σ Q :=
  EV.enter [some (.int v0)] rfl (by decide +kernel) (Nat.le_of_ble_eq_true rfl) rfl (gX6_isSumSign_0 h)
theorem gX6_isProductSign_0 {Γ : Gm} {d : Nat} {σ : AH} {Q : Oc → AH → Prop} {v0 : Int32} (h : ((v0 = 42 → Q (.inl (some (.int 1))) σ) ∧ (¬ v0 = 42 → ((v0 = 47 → Q (.inl (some (.int 1))) σ) ∧ (¬ v0 = 47 → ((v0 ≠ 37 → Q (.inl (some (.int 0))) σ) ∧ (v0 = 37 → Q (.inl (some (.int 1))) σ))))))) : EV Γ MX6_isProductSign d 0 [some (.int v0)] [] σ Q := by
  refine EV.iload_n 1 rfl 0 rfl rfl dX6_isProductSign_0 ?_
  refine EV.bipush 3 rfl dX6_isProductSign_1 (v := 42) (by decide) ?_
  refine EV.icmp_eq 6 18 rfl (by decide) dX6_isProductSign_3 (fun c1 => ?_) (fun c1 => ?_)
  · have h := h.1 c1
    refine EV.iconst 19 rfl dX6_isProductSign_18 (v := 1) (by decide) ?_
    refine EV.goto 23 (by decide) dX6_isProductSign_19 ?_
    exact EV.zret rfl rfl dX6_isProductSign_23 h
  · have h := h.2 c1
    refine EV.iload_n 7 rfl 0 rfl rfl dX6_isProductSign_6 ?_
    refine EV.bipush 9 rfl dX6_isProductSign_7 (v := 47) (by decide) ?_
    refine EV.icmp_eq 12 18 rfl (by decide) dX6_isProductSign_9 (fun c2 => ?_) (fun c2 => ?_)
    · have h := h.1 c2
      refine EV.iconst 19 rfl dX6_isProductSign_18 (v := 1) (by decide) ?_
      refine EV.goto 23 (by decide) dX6_isProductSign_19 ?_
      exact EV.zret rfl rfl dX6_isProductSign_23 h
    · have h := h.2 c2
      refine EV.iload_n 13 rfl 0 rfl rfl dX6_isProductSign_12 ?_
      refine EV.bipush 15 rfl dX6_isProductSign_13 (v := 37) (by decide) ?_
      refine EV.icmp_ne 18 22 rfl (by decide) dX6_isProductSign_15 (fun c3 => ?_) (fun c3 => ?_)
      · have h := h.1 c3
        refine EV.iconst 23 rfl dX6_isProductSign_22 (v := 0) (by decide) ?_
        exact EV.zret rfl rfl dX6_isProductSign_23 h
      · have h := h.2 c3
        refine EV.iconst 19 rfl dX6_isProductSign_18 (v := 1) (by decide) ?_
        refine EV.goto 23 (by decide) dX6_isProductSign_19 ?_
        exact EV.zret rfl rfl dX6_isProductSign_23 h
theorem eX6_isProductSign {Γ : Gm} {d : Nat} {σ : AH} {Q : Oc → AH → Prop} {v0 : Int32} (h : ((v0 = 42 → Q (.inl (some (.int 1))) σ) ∧ (¬ v0 = 42 → ((v0 = 47 → Q (.inl (some (.int 1))) σ) ∧ (¬ v0 = 47 → ((v0 ≠ 37 → Q (.inl (some (.int 0))) σ) ∧ (v0 = 37 → Q (.inl (some (.int 1))) σ))))))) : RUN Γ d MX6_isProductSign [.int v0] σ Q :=
  EV.enter [some (.int v0)] rfl (by decide +kernel) (Nat.le_of_ble_eq_true rfl) rfl (gX6_isProductSign_0 h)
theorem gX6_readFactor_0 {Γ : Gm} {d : Nat} {σ : AH} {Q : Oc → AH → Prop} {v0 : Nat} {v1 : Int32} (h : hs σ v0 = some (5, 10) ∧ (((gi σ v0 9) < 0 → ((Int32.toInt (gi σ v0 6) = 12 → CV Γ d MX6_readWord [.ref v0, .int v1] σ (fun σ4 => Q (.inl none) σ4) (fun E σ4 => Q (.inr E) σ4)) ∧ (Int32.toInt (gi σ v0 6) = 13 → CV Γ d MX6_readConstant [.ref v0] σ (fun σ7 => Q (.inl none) σ7) (fun E σ7 => Q (.inr E) σ7)) ∧ (Int32.toInt (gi σ v0 6) = 35 → CV Γ d MX6_advance [.ref v0] σ (fun σ10 => hs σ10 v0 = some (5, 10) ∧ CV Γ d MX6_readFamilyNumber [.ref v0] σ10 (fun σ12 => Q (.inl none) σ12) (fun E σ12 => Q (.inr E) σ12)) (fun E σ10 => Q (.inr E) σ10)) ∧ (Int32.toInt (gi σ v0 6) = 40 → CV Γ d MX6_readBracket [.ref v0, .int v1] σ (fun σ16 => Q (.inl none) σ16) (fun E σ16 => Q (.inr E) σ16)) ∧ (¬ Int32.toInt (gi σ v0 6) = 12 ∧ ¬ Int32.toInt (gi σ v0 6) = 13 ∧ ¬ Int32.toInt (gi σ v0 6) = 35 ∧ ¬ Int32.toInt (gi σ v0 6) = 40 → CV Γ d MX6_fail [.ref v0] σ (fun σ18 => Q (.inl none) σ18) (fun E σ18 => Q (.inr E) σ18)))) ∧ (¬ (gi σ v0 9) < 0 → Q (.inl none) σ))) : EV Γ MX6_readFactor d 0 [some (.ref v0), some (.int v1)] [] σ Q := by
  refine EV.aload_n 1 rfl 0 rfl rfl dX6_readFactor_0 ?_
  obtain ⟨w1, h⟩ := h
  refine EV.getI 4 rfl fl_X6_44 rfl dX6_readFactor_1 w1 ?_
  refine EV.if_lt 7 8 rfl (by decide) dX6_readFactor_4 (fun c2 => ?_) (fun c2 => ?_)
  · have h := h.1 c2
    refine EV.aload_n 9 rfl 0 rfl rfl dX6_readFactor_8 ?_
    refine EV.getI 12 rfl fl_X6_35 rfl dX6_readFactor_9 w1 ?_
    refine EV.lookupswitch (by decide) dX6_readFactor_12 ?_
    by_cases c3 : Int32.toInt (gi σ v0 6) = 12
    · refine ⟨64, ?_, ?_⟩
      · rw [c3]; rfl
      have h := h.1 c3
      refine EV.aload_n 65 rfl 0 rfl rfl dX6_readFactor_64 ?_
      refine EV.iload_n 66 rfl 1 rfl rfl dX6_readFactor_65 ?_
      refine EV.cV rfl rfl lk_X6_83 rfl (vs := [.int v1]) (st := []) rfl rfl (Nat.le_of_ble_eq_true rfl) dX6_readFactor_66 w1 h (fun v σ4 h => ?_)
      obtain ⟨rfl, h⟩ := h
      show EV Γ MX6_readFactor d 69 [some (.ref v0), some (.int v1)] [] σ4 Q
      refine EV.goto 94 (by decide) dX6_readFactor_69 ?_
      exact EV.vret rfl dX6_readFactor_94 h
    replace h := h.2
    by_cases c6 : Int32.toInt (gi σ v0 6) = 13
    · refine ⟨72, ?_, ?_⟩
      · rw [c6]; rfl
      have h := h.1 c6
      refine EV.aload_n 73 rfl 0 rfl rfl dX6_readFactor_72 ?_
      refine EV.cV rfl rfl lk_X6_86 rfl (vs := []) (st := []) rfl rfl (Nat.le_of_ble_eq_true rfl) dX6_readFactor_73 w1 h (fun v σ7 h => ?_)
      obtain ⟨rfl, h⟩ := h
      show EV Γ MX6_readFactor d 76 [some (.ref v0), some (.int v1)] [] σ7 Q
      refine EV.goto 94 (by decide) dX6_readFactor_76 ?_
      exact EV.vret rfl dX6_readFactor_94 h
    replace h := h.2
    by_cases c9 : Int32.toInt (gi σ v0 6) = 35
    · refine ⟨79, ?_, ?_⟩
      · rw [c9]; rfl
      have h := h.1 c9
      refine EV.aload_n 80 rfl 0 rfl rfl dX6_readFactor_79 ?_
      refine EV.cV rfl rfl lk_X6_53 rfl (vs := []) (st := []) rfl rfl (Nat.le_of_ble_eq_true rfl) dX6_readFactor_80 w1 h (fun v σ10 h => ?_)
      obtain ⟨rfl, h⟩ := h
      show EV Γ MX6_readFactor d 83 [some (.ref v0), some (.int v1)] [] σ10 Q
      refine EV.aload_n 84 rfl 0 rfl rfl dX6_readFactor_83 ?_
      obtain ⟨w14, h⟩ := h
      refine EV.cV rfl rfl lk_X6_89 rfl (vs := []) (st := []) rfl rfl (Nat.le_of_ble_eq_true rfl) dX6_readFactor_84 w14 h (fun v σ12 h => ?_)
      obtain ⟨rfl, h⟩ := h
      show EV Γ MX6_readFactor d 87 [some (.ref v0), some (.int v1)] [] σ12 Q
      refine EV.goto 94 (by decide) dX6_readFactor_87 ?_
      exact EV.vret rfl dX6_readFactor_94 h
    replace h := h.2
    by_cases c15 : Int32.toInt (gi σ v0 6) = 40
    · refine ⟨56, ?_, ?_⟩
      · rw [c15]; rfl
      have h := h.1 c15
      refine EV.aload_n 57 rfl 0 rfl rfl dX6_readFactor_56 ?_
      refine EV.iload_n 58 rfl 1 rfl rfl dX6_readFactor_57 ?_
      refine EV.cV rfl rfl lk_X6_80 rfl (vs := [.int v1]) (st := []) rfl rfl (Nat.le_of_ble_eq_true rfl) dX6_readFactor_58 w1 h (fun v σ16 h => ?_)
      obtain ⟨rfl, h⟩ := h
      show EV Γ MX6_readFactor d 61 [some (.ref v0), some (.int v1)] [] σ16 Q
      refine EV.goto 94 (by decide) dX6_readFactor_61 ?_
      exact EV.vret rfl dX6_readFactor_94 h
    replace h := h.2
    refine ⟨90, ?_, ?_⟩
    · show _ + Op.lookupswitch.offset _ _ _ = _
      have fc3 : ¬ (12 : Int) = Int32.toInt (gi σ v0 6) := fun q => c3 q.symm
      have fc6 : ¬ (13 : Int) = Int32.toInt (gi σ v0 6) := fun q => c6 q.symm
      have fc9 : ¬ (35 : Int) = Int32.toInt (gi σ v0 6) := fun q => c9 q.symm
      have fc15 : ¬ (40 : Int) = Int32.toInt (gi σ v0 6) := fun q => c15 q.symm
      simp [Op.lookupswitch.offset, fc3, fc6, fc9, fc15]
    have h := h ⟨c3, c6, c9, c15⟩
    refine EV.aload_n 91 rfl 0 rfl rfl dX6_readFactor_90 ?_
    refine EV.cV rfl rfl lk_X6_60 rfl (vs := []) (st := []) rfl rfl (Nat.le_of_ble_eq_true rfl) dX6_readFactor_91 w1 h (fun v σ18 h => ?_)
    obtain ⟨rfl, h⟩ := h
    show EV Γ MX6_readFactor d 94 [some (.ref v0), some (.int v1)] [] σ18 Q
    exact EV.vret rfl dX6_readFactor_94 h
  · have h := h.2 c2
    exact EV.vret rfl dX6_readFactor_7 h
theorem eX6_readFactor {Γ : Gm} {d : Nat} {σ : AH} {Q : Oc → AH → Prop} {v0 : Nat} {v1 : Int32} (h : hs σ v0 = some (5, 10) ∧ (((gi σ v0 9) < 0 → ((Int32.toInt (gi σ v0 6) = 12 → CV Γ d MX6_readWord [.ref v0, .int v1] σ (fun σ4 => Q (.inl none) σ4) (fun E σ4 => Q (.inr E) σ4)) ∧ (Int32.toInt (gi σ v0 6) = 13 → CV Γ d MX6_readConstant [.ref v0] σ (fun σ7 => Q (.inl none) σ7) (fun E σ7 => Q (.inr E) σ7)) ∧ (Int32.toInt (gi σ v0 6) = 35 → CV Γ d MX6_advance [.ref v0] σ (fun σ10 => hs σ10 v0 = some (5, 10) ∧ CV Γ d MX6_readFamilyNumber [.ref v0] σ10 (fun σ12 => Q (.inl none) σ12) (fun E σ12 => Q (.inr E) σ12)) (fun E σ10 => Q (.inr E) σ10)) ∧ (Int32.toInt (gi σ v0 6) = 40 → CV Γ d MX6_readBracket [.ref v0, .int v1] σ (fun σ16 => Q (.inl none) σ16) (fun E σ16 => Q (.inr E) σ16)) ∧ (¬ Int32.toInt (gi σ v0 6) = 12 ∧ ¬ Int32.toInt (gi σ v0 6) = 13 ∧ ¬ Int32.toInt (gi σ v0 6) = 35 ∧ ¬ Int32.toInt (gi σ v0 6) = 40 → CV Γ d MX6_fail [.ref v0] σ (fun σ18 => Q (.inl none) σ18) (fun E σ18 => Q (.inr E) σ18)))) ∧ (¬ (gi σ v0 9) < 0 → Q (.inl none) σ))) : RUN Γ d MX6_readFactor [.ref v0, .int v1] σ Q :=
  EV.enter [some (.ref v0), some (.int v1)] rfl (by decide +kernel) (Nat.le_of_ble_eq_true rfl) rfl (gX6_readFactor_0 h)
theorem gX6_readBracket_0 {Γ : Gm} {d : Nat} {σ : AH} {Q : Oc → AH → Prop} {v0 : Nat} {v1 : Int32} (h : hs σ v0 = some (5, 10) ∧ (((gi σ v0 6) ≠ 40 → EV Γ MX6_readBracket d 15 [some (.ref v0), none] [] σ Q) ∧ ((gi σ v0 6) = 40 → ((v1 < 20 → CV Γ d MX6_advance [.ref v0] σ (fun σ4 => hs σ4 v0 = some (5, 10) ∧ CV Γ d MX6_readSum [.ref v0, .int (v1 + 1)] σ4 (fun σ6 => hs σ6 v0 = some (5, 10) ∧ (((gi σ6 v0 6) = 41 → CV Γ d MX6_advance [.ref v0] σ6 (fun σ11 => Q (.inl none) σ11) (fun E σ11 => Q (.inr E) σ11)) ∧ (¬ (gi σ6 v0 6) = 41 → CV Γ d MX6_fail [.ref v0] σ6 (fun σ13 => Q (.inl none) σ13) (fun E σ13 => Q (.inr E) σ13)))) (fun E σ6 => Q (.inr E) σ6)) (fun E σ4 => Q (.inr E) σ4)) ∧ (¬ v1 < 20 → EV Γ MX6_readBracket d 15 [some (.ref v0), none] [] σ Q))))) : EV Γ MX6_readBracket d 0 [some (.ref v0), some (.int v1)] [] σ Q := by
  refine EV.aload_n 1 rfl 0 rfl rfl dX6_readBracket_0 ?_
  obtain ⟨w1, h⟩ := h
  refine EV.getI 4 rfl fl_X6_35 rfl dX6_readBracket_1 w1 ?_
  refine EV.bipush 6 rfl dX6_readBracket_4 (v := 40) (by decide) ?_
  refine EV.icmp_ne 9 15 rfl (by decide) dX6_readBracket_6 (fun c2 => ?_) (fun c2 => ?_)
  · have h := h.1 c2
    refine EV.mask [true, false] (L' := [some (.ref v0), none]) rfl ?_
    exact h
  · have h := h.2 c2
    refine EV.iload_n 10 rfl 1 rfl rfl dX6_readBracket_9 ?_
    refine EV.bipush 12 rfl dX6_readBracket_10 (v := 20) (by decide) ?_
    refine EV.icmp_lt 15 20 rfl (by decide) dX6_readBracket_12 (fun c3 => ?_) (fun c3 => ?_)
    · have h := h.1 c3
      refine EV.aload_n 21 rfl 0 rfl rfl dX6_readBracket_20 ?_
      refine EV.cV rfl rfl lk_X6_53 rfl (vs := []) (st := []) rfl rfl (Nat.le_of_ble_eq_true rfl) dX6_readBracket_21 w1 h (fun v σ4 h => ?_)
      obtain ⟨rfl, h⟩ := h
      show EV Γ MX6_readBracket d 24 [some (.ref v0), some (.int v1)] [] σ4 Q
      refine EV.aload_n 25 rfl 0 rfl rfl dX6_readBracket_24 ?_
      refine EV.iload_n 26 rfl 1 rfl rfl dX6_readBracket_25 ?_
      refine EV.iconst 27 rfl dX6_readBracket_26 (v := 1) (by decide) ?_
      refine EV.iadd 28 rfl dX6_readBracket_27 ?_
      obtain ⟨w8, h⟩ := h
      refine EV.cV rfl rfl lk_X6_56 rfl (vs := [.int (v1 + 1)]) (st := []) rfl rfl (Nat.le_of_ble_eq_true rfl) dX6_readBracket_28 w8 h (fun v σ6 h => ?_)
      obtain ⟨rfl, h⟩ := h
      show EV Γ MX6_readBracket d 31 [some (.ref v0), some (.int v1)] [] σ6 Q
      refine EV.aload_n 32 rfl 0 rfl rfl dX6_readBracket_31 ?_
      obtain ⟨w9, h⟩ := h
      refine EV.getI 35 rfl fl_X6_35 rfl dX6_readBracket_32 w9 ?_
      refine EV.bipush 37 rfl dX6_readBracket_35 (v := 41) (by decide) ?_
      refine EV.icmp_eq 40 45 rfl (by decide) dX6_readBracket_37 (fun c10 => ?_) (fun c10 => ?_)
      · have h := h.1 c10
        refine EV.aload_n 46 rfl 0 rfl rfl dX6_readBracket_45 ?_
        refine EV.cV rfl rfl lk_X6_53 rfl (vs := []) (st := []) rfl rfl (Nat.le_of_ble_eq_true rfl) dX6_readBracket_46 w9 h (fun v σ11 h => ?_)
        obtain ⟨rfl, h⟩ := h
        show EV Γ MX6_readBracket d 49 [some (.ref v0), some (.int v1)] [] σ11 Q
        exact EV.vret rfl dX6_readBracket_49 h
      · have h := h.2 c10
        refine EV.aload_n 41 rfl 0 rfl rfl dX6_readBracket_40 ?_
        refine EV.cV rfl rfl lk_X6_60 rfl (vs := []) (st := []) rfl rfl (Nat.le_of_ble_eq_true rfl) dX6_readBracket_41 w9 h (fun v σ13 h => ?_)
        obtain ⟨rfl, h⟩ := h
        show EV Γ MX6_readBracket d 44 [some (.ref v0), some (.int v1)] [] σ13 Q
        exact EV.vret rfl dX6_readBracket_44 h
    · have h := h.2 c3
      refine EV.mask [true, false] (L' := [some (.ref v0), none]) rfl ?_
      exact h
theorem eX6_readBracket {Γ : Gm} {d : Nat} {σ : AH} {Q : Oc → AH → Prop} {v0 : Nat} {v1 : Int32} (h : hs σ v0 = some (5, 10) ∧ (((gi σ v0 6) ≠ 40 → EV Γ MX6_readBracket d 15 [some (.ref v0), none] [] σ Q) ∧ ((gi σ v0 6) = 40 → ((v1 < 20 → CV Γ d MX6_advance [.ref v0] σ (fun σ4 => hs σ4 v0 = some (5, 10) ∧ CV Γ d MX6_readSum [.ref v0, .int (v1 + 1)] σ4 (fun σ6 => hs σ6 v0 = some (5, 10) ∧ (((gi σ6 v0 6) = 41 → CV Γ d MX6_advance [.ref v0] σ6 (fun σ11 => Q (.inl none) σ11) (fun E σ11 => Q (.inr E) σ11)) ∧ (¬ (gi σ6 v0 6) = 41 → CV Γ d MX6_fail [.ref v0] σ6 (fun σ13 => Q (.inl none) σ13) (fun E σ13 => Q (.inr E) σ13)))) (fun E σ6 => Q (.inr E) σ6)) (fun E σ4 => Q (.inr E) σ4)) ∧ (¬ v1 < 20 → EV Γ MX6_readBracket d 15 [some (.ref v0), none] [] σ Q))))) : RUN Γ d MX6_readBracket [.ref v0, .int v1] σ Q :=
  EV.enter [some (.ref v0), some (.int v1)] rfl (by decide +kernel) (Nat.le_of_ble_eq_true rfl) rfl (gX6_readBracket_0 h)
theorem gX6_readBracket_15 {Γ : Gm} {d : Nat} {σ : AH} {Q : Oc → AH → Prop} {v0 : Nat} (h : hs σ v0 = some (5, 10) ∧ CV Γ d MX6_fail [.ref v0] σ (fun σ1 => Q (.inl none) σ1) (fun E σ1 => Q (.inr E) σ1)) : EV Γ MX6_readBracket d 15 [some (.ref v0), none] [] σ Q := by
  refine EV.aload_n 16 rfl 0 rfl rfl dX6_readBracket_15 ?_
  obtain ⟨w3, h⟩ := h
  refine EV.cV rfl rfl lk_X6_60 rfl (vs := []) (st := []) rfl rfl (Nat.le_of_ble_eq_true rfl) dX6_readBracket_16 w3 h (fun v σ1 h => ?_)
  obtain ⟨rfl, h⟩ := h
  show EV Γ MX6_readBracket d 19 [some (.ref v0), none] [] σ1 Q
  exact EV.vret rfl dX6_readBracket_19 h
theorem gX6_readWord_0 {Γ : Gm} {d : Nat} {σ : AH} {Q : Oc → AH → Prop} {v0 : Nat} {v1 : Int32} (h : hs σ v0 = some (5, 10) ∧ CI Γ d MX6_functionOfWord [.ref v0] σ (fun r2 σ1 => ((r2 = 0 → hs σ1 v0 = some (5, 10) ∧ CI Γ d MX6_maskOfWord [.ref v0] σ1 (fun r6 σ5 => ((r6 ≠ 0 → hs σ5 v0 = some (5, 10) ∧ CV Γ d MX6_addStep [.ref v0, .int 8, .int r6] σ5 (fun σ9 => hs σ9 v0 = some (5, 10) ∧ CV Γ d MX6_advance [.ref v0] σ9 (fun σ12 => Q (.inl none) σ12) (fun E σ12 => Q (.inr E) σ12)) (fun E σ9 => Q (.inr E) σ9)) ∧ (r6 = 0 → hs σ5 v0 = some (5, 10) ∧ CV Γ d MX6_fail [.ref v0] σ5 (fun σ15 => Q (.inl none) σ15) (fun E σ15 => Q (.inr E) σ15)))) (fun E σ5 => Q (.inr E) σ5)) ∧ (¬ r2 = 0 → hs σ1 v0 = some (5, 10) ∧ CV Γ d MX6_advance [.ref v0] σ1 (fun σ18 => hs σ18 v0 = some (5, 10) ∧ CV Γ d MX6_readBracket [.ref v0, .int v1] σ18 (fun σ21 => hs σ21 v0 = some (5, 10) ∧ CV Γ d MX6_addStep [.ref v0, .int r2, .int 0] σ21 (fun σ24 => Q (.inl none) σ24) (fun E σ24 => Q (.inr E) σ24)) (fun E σ21 => Q (.inr E) σ21)) (fun E σ18 => Q (.inr E) σ18)))) (fun E σ1 => Q (.inr E) σ1)) : EV Γ MX6_readWord d 0 [some (.ref v0), some (.int v1), none, none] [] σ Q := by
  refine EV.aload_n 1 rfl 0 rfl rfl dX6_readWord_0 ?_
  obtain ⟨w3, h⟩ := h
  refine EV.cV rfl rfl lk_X6_92 rfl (vs := []) (st := []) rfl rfl (Nat.le_of_ble_eq_true rfl) dX6_readWord_1 w3 h (fun v σ1 h => ?_)
  obtain ⟨r2, rfl, h⟩ := h
  show EV Γ MX6_readWord d 4 [some (.ref v0), some (.int v1), none, none] [.int r2] σ1 Q
  refine EV.istore_n 5 rfl 2 [some (.ref v0), some (.int v1), some (.int r2), none] rfl (by decide) rfl dX6_readWord_4 ?_
  refine EV.iload_n 6 rfl 2 rfl rfl dX6_readWord_5 ?_
  refine EV.if_eq 9 25 rfl (by decide) dX6_readWord_6 (fun c4 => ?_) (fun c4 => ?_)
  · have h := h.1 c4
    refine EV.aload_n 26 rfl 0 rfl rfl dX6_readWord_25 ?_
    obtain ⟨w7, h⟩ := h
    refine EV.cV rfl rfl lk_X6_96 rfl (vs := []) (st := []) rfl rfl (Nat.le_of_ble_eq_true rfl) dX6_readWord_26 w7 h (fun v σ5 h => ?_)
    obtain ⟨r6, rfl, h⟩ := h
    show EV Γ MX6_readWord d 29 [some (.ref v0), some (.int v1), some (.int r2), none] [.int r6] σ5 Q
    refine EV.istore_n 30 rfl 3 [some (.ref v0), some (.int v1), some (.int r2), some (.int r6)] rfl (by decide) rfl dX6_readWord_29 ?_
    refine EV.iload_n 31 rfl 3 rfl rfl dX6_readWord_30 ?_
    refine EV.if_ne 34 39 rfl (by decide) dX6_readWord_31 (fun c8 => ?_) (fun c8 => ?_)
    · have h := h.1 c8
      refine EV.aload_n 40 rfl 0 rfl rfl dX6_readWord_39 ?_
      refine EV.bipush 42 rfl dX6_readWord_40 (v := 8) (by decide) ?_
      refine EV.iload_n 43 rfl 3 rfl rfl dX6_readWord_42 ?_
      obtain ⟨w11, h⟩ := h
      refine EV.cV rfl rfl lk_X6_70 rfl (vs := [.int 8, .int r6]) (st := []) rfl rfl (Nat.le_of_ble_eq_true rfl) dX6_readWord_43 w11 h (fun v σ9 h => ?_)
      obtain ⟨rfl, h⟩ := h
      show EV Γ MX6_readWord d 46 [some (.ref v0), some (.int v1), some (.int r2), some (.int r6)] [] σ9 Q
      refine EV.aload_n 47 rfl 0 rfl rfl dX6_readWord_46 ?_
      obtain ⟨w14, h⟩ := h
      refine EV.cV rfl rfl lk_X6_53 rfl (vs := []) (st := []) rfl rfl (Nat.le_of_ble_eq_true rfl) dX6_readWord_47 w14 h (fun v σ12 h => ?_)
      obtain ⟨rfl, h⟩ := h
      show EV Γ MX6_readWord d 50 [some (.ref v0), some (.int v1), some (.int r2), some (.int r6)] [] σ12 Q
      exact EV.vret rfl dX6_readWord_50 h
    · have h := h.2 c8
      refine EV.aload_n 35 rfl 0 rfl rfl dX6_readWord_34 ?_
      obtain ⟨w17, h⟩ := h
      refine EV.cV rfl rfl lk_X6_60 rfl (vs := []) (st := []) rfl rfl (Nat.le_of_ble_eq_true rfl) dX6_readWord_35 w17 h (fun v σ15 h => ?_)
      obtain ⟨rfl, h⟩ := h
      show EV Γ MX6_readWord d 38 [some (.ref v0), some (.int v1), some (.int r2), some (.int r6)] [] σ15 Q
      exact EV.vret rfl dX6_readWord_38 h
  · have h := h.2 c4
    refine EV.aload_n 10 rfl 0 rfl rfl dX6_readWord_9 ?_
    obtain ⟨w20, h⟩ := h
    refine EV.cV rfl rfl lk_X6_53 rfl (vs := []) (st := []) rfl rfl (Nat.le_of_ble_eq_true rfl) dX6_readWord_10 w20 h (fun v σ18 h => ?_)
    obtain ⟨rfl, h⟩ := h
    show EV Γ MX6_readWord d 13 [some (.ref v0), some (.int v1), some (.int r2), none] [] σ18 Q
    refine EV.aload_n 14 rfl 0 rfl rfl dX6_readWord_13 ?_
    refine EV.iload_n 15 rfl 1 rfl rfl dX6_readWord_14 ?_
    obtain ⟨w23, h⟩ := h
    refine EV.cV rfl rfl lk_X6_80 rfl (vs := [.int v1]) (st := []) rfl rfl (Nat.le_of_ble_eq_true rfl) dX6_readWord_15 w23 h (fun v σ21 h => ?_)
    obtain ⟨rfl, h⟩ := h
    show EV Γ MX6_readWord d 18 [some (.ref v0), some (.int v1), some (.int r2), none] [] σ21 Q
    refine EV.aload_n 19 rfl 0 rfl rfl dX6_readWord_18 ?_
    refine EV.iload_n 20 rfl 2 rfl rfl dX6_readWord_19 ?_
    refine EV.iconst 21 rfl dX6_readWord_20 (v := 0) (by decide) ?_
    obtain ⟨w26, h⟩ := h
    refine EV.cV rfl rfl lk_X6_70 rfl (vs := [.int r2, .int 0]) (st := []) rfl rfl (Nat.le_of_ble_eq_true rfl) dX6_readWord_21 w26 h (fun v σ24 h => ?_)
    obtain ⟨rfl, h⟩ := h
    show EV Γ MX6_readWord d 24 [some (.ref v0), some (.int v1), some (.int r2), none] [] σ24 Q
    exact EV.vret rfl dX6_readWord_24 h
theorem eX6_readWord {Γ : Gm} {d : Nat} {σ : AH} {Q : Oc → AH → Prop} {v0 : Nat} {v1 : Int32} (h : hs σ v0 = some (5, 10) ∧ CI Γ d MX6_functionOfWord [.ref v0] σ (fun r2 σ1 => ((r2 = 0 → hs σ1 v0 = some (5, 10) ∧ CI Γ d MX6_maskOfWord [.ref v0] σ1 (fun r6 σ5 => ((r6 ≠ 0 → hs σ5 v0 = some (5, 10) ∧ CV Γ d MX6_addStep [.ref v0, .int 8, .int r6] σ5 (fun σ9 => hs σ9 v0 = some (5, 10) ∧ CV Γ d MX6_advance [.ref v0] σ9 (fun σ12 => Q (.inl none) σ12) (fun E σ12 => Q (.inr E) σ12)) (fun E σ9 => Q (.inr E) σ9)) ∧ (r6 = 0 → hs σ5 v0 = some (5, 10) ∧ CV Γ d MX6_fail [.ref v0] σ5 (fun σ15 => Q (.inl none) σ15) (fun E σ15 => Q (.inr E) σ15)))) (fun E σ5 => Q (.inr E) σ5)) ∧ (¬ r2 = 0 → hs σ1 v0 = some (5, 10) ∧ CV Γ d MX6_advance [.ref v0] σ1 (fun σ18 => hs σ18 v0 = some (5, 10) ∧ CV Γ d MX6_readBracket [.ref v0, .int v1] σ18 (fun σ21 => hs σ21 v0 = some (5, 10) ∧ CV Γ d MX6_addStep [.ref v0, .int r2, .int 0] σ21 (fun σ24 => Q (.inl none) σ24) (fun E σ24 => Q (.inr E) σ24)) (fun E σ21 => Q (.inr E) σ21)) (fun E σ18 => Q (.inr E) σ18)))) (fun E σ1 => Q (.inr E) σ1)) : RUN Γ d MX6_readWord [.ref v0, .int v1] σ Q :=
  EV.enter [some (.ref v0), some (.int v1), none, none] rfl (by decide +kernel) (Nat.le_of_ble_eq_true rfl) rfl (gX6_readWord_0 h)
theorem gX6_readConstant_0 {Γ : Gm} {d : Nat} {σ : AH} {Q : Oc → AH → Prop} {v0 : Nat} (h : hs σ v0 = some (5, 10) ∧ CI Γ d MX6_at [.ref v0, .int (gi σ v0 7)] σ (fun r3 σ2 => hs σ2 v0 = some (5, 10) ∧ ((((gi σ2 v0 8) - (gi σ2 v0 7)) ≠ 1 → EV Γ MX6_readConstant d 34 [some (.ref v0), none] [] σ2 Q) ∧ (((gi σ2 v0 8) - (gi σ2 v0 7)) = 1 → ((r3 = 48 → EV Γ MX6_readConstant d 39 [some (.ref v0), some (.int r3)] [] σ2 Q) ∧ (¬ r3 = 48 → ((r3 = 49 → EV Γ MX6_readConstant d 39 [some (.ref v0), some (.int r3)] [] σ2 Q) ∧ (¬ r3 = 49 → EV Γ MX6_readConstant d 34 [some (.ref v0), none] [] σ2 Q))))))) (fun E σ2 => Q (.inr E) σ2)) : EV Γ MX6_readConstant d 0 [some (.ref v0), none] [] σ Q := by
  refine EV.aload_n 1 rfl 0 rfl rfl dX6_readConstant_0 ?_
  refine EV.aload_n 2 rfl 0 rfl rfl dX6_readConstant_1 ?_
  obtain ⟨w1, h⟩ := h
  refine EV.getI 5 rfl fl_X6_38 rfl dX6_readConstant_2 w1 ?_
  refine EV.cV rfl rfl lk_X6_99 rfl (vs := [.int (gi σ v0 7)]) (st := []) rfl rfl (Nat.le_of_ble_eq_true rfl) dX6_readConstant_5 w1 h (fun v σ2 h => ?_)
  obtain ⟨r3, rfl, h⟩ := h
  show EV Γ MX6_readConstant d 8 [some (.ref v0), none] [.int r3] σ2 Q
  refine EV.istore_n 9 rfl 1 [some (.ref v0), some (.int r3)] rfl (by decide) rfl dX6_readConstant_8 ?_
  refine EV.aload_n 10 rfl 0 rfl rfl dX6_readConstant_9 ?_
  obtain ⟨w4, h⟩ := h
  refine EV.getI 13 rfl fl_X6_41 rfl dX6_readConstant_10 w4 ?_
  refine EV.aload_n 14 rfl 0 rfl rfl dX6_readConstant_13 ?_
  refine EV.getI 17 rfl fl_X6_38 rfl dX6_readConstant_14 w4 ?_
  refine EV.isub 18 rfl dX6_readConstant_17 ?_
  refine EV.iconst 19 rfl dX6_readConstant_18 (v := 1) (by decide) ?_
  refine EV.icmp_ne 22 34 rfl (by decide) dX6_readConstant_19 (fun c5 => ?_) (fun c5 => ?_)
  · have h := h.1 c5
    refine EV.mask [true, false] (L' := [some (.ref v0), none]) rfl ?_
    exact h
  · have h := h.2 c5
    refine EV.iload_n 23 rfl 1 rfl rfl dX6_readConstant_22 ?_
    refine EV.bipush 25 rfl dX6_readConstant_23 (v := 48) (by decide) ?_
    refine EV.icmp_eq 28 39 rfl (by decide) dX6_readConstant_25 (fun c6 => ?_) (fun c6 => ?_)
    · have h := h.1 c6
      exact h
    · have h := h.2 c6
      refine EV.iload_n 29 rfl 1 rfl rfl dX6_readConstant_28 ?_
      refine EV.bipush 31 rfl dX6_readConstant_29 (v := 49) (by decide) ?_
      refine EV.icmp_eq 34 39 rfl (by decide) dX6_readConstant_31 (fun c7 => ?_) (fun c7 => ?_)
      · have h := h.1 c7
        exact h
      · have h := h.2 c7
        refine EV.mask [true, false] (L' := [some (.ref v0), none]) rfl ?_
        exact h
theorem eX6_readConstant {Γ : Gm} {d : Nat} {σ : AH} {Q : Oc → AH → Prop} {v0 : Nat} (h : hs σ v0 = some (5, 10) ∧ CI Γ d MX6_at [.ref v0, .int (gi σ v0 7)] σ (fun r3 σ2 => hs σ2 v0 = some (5, 10) ∧ ((((gi σ2 v0 8) - (gi σ2 v0 7)) ≠ 1 → EV Γ MX6_readConstant d 34 [some (.ref v0), none] [] σ2 Q) ∧ (((gi σ2 v0 8) - (gi σ2 v0 7)) = 1 → ((r3 = 48 → EV Γ MX6_readConstant d 39 [some (.ref v0), some (.int r3)] [] σ2 Q) ∧ (¬ r3 = 48 → ((r3 = 49 → EV Γ MX6_readConstant d 39 [some (.ref v0), some (.int r3)] [] σ2 Q) ∧ (¬ r3 = 49 → EV Γ MX6_readConstant d 34 [some (.ref v0), none] [] σ2 Q))))))) (fun E σ2 => Q (.inr E) σ2)) : RUN Γ d MX6_readConstant [.ref v0] σ Q :=
  EV.enter [some (.ref v0), none] rfl (by decide +kernel) (Nat.le_of_ble_eq_true rfl) rfl (gX6_readConstant_0 h)
theorem gX6_readConstant_34 {Γ : Gm} {d : Nat} {σ : AH} {Q : Oc → AH → Prop} {v0 : Nat} (h : hs σ v0 = some (5, 10) ∧ CV Γ d MX6_fail [.ref v0] σ (fun σ1 => Q (.inl none) σ1) (fun E σ1 => Q (.inr E) σ1)) : EV Γ MX6_readConstant d 34 [some (.ref v0), none] [] σ Q := by
  refine EV.aload_n 35 rfl 0 rfl rfl dX6_readConstant_34 ?_
  obtain ⟨w3, h⟩ := h
  refine EV.cV rfl rfl lk_X6_60 rfl (vs := []) (st := []) rfl rfl (Nat.le_of_ble_eq_true rfl) dX6_readConstant_35 w3 h (fun v σ1 h => ?_)
  obtain ⟨rfl, h⟩ := h
  show EV Γ MX6_readConstant d 38 [some (.ref v0), none] [] σ1 Q
  exact EV.vret rfl dX6_readConstant_38 h
theorem gX6_readConstant_39 {Γ : Gm} {d : Nat} {σ : AH} {Q : Oc → AH → Prop} {v0 : Nat} {v1 : Int32} (h : ((v1 ≠ 48 → EV Γ MX6_readConstant d 53 [some (.ref v0), none] [.int 8, .ref v0] σ Q) ∧ (v1 = 48 → EV Γ MX6_readConstant d 53 [some (.ref v0), none] [.int 9, .ref v0] σ Q))) : EV Γ MX6_readConstant d 39 [some (.ref v0), some (.int v1)] [] σ Q := by
  refine EV.aload_n 40 rfl 0 rfl rfl dX6_readConstant_39 ?_
  refine EV.iload_n 41 rfl 1 rfl rfl dX6_readConstant_40 ?_
  refine EV.bipush 43 rfl dX6_readConstant_41 (v := 48) (by decide) ?_
  refine EV.icmp_ne 46 51 rfl (by decide) dX6_readConstant_43 (fun c1 => ?_) (fun c1 => ?_)
  · have h := h.1 c1
    refine EV.bipush 53 rfl dX6_readConstant_51 (v := 8) (by decide) ?_
    refine EV.mask [true, false] (L' := [some (.ref v0), none]) rfl ?_
    exact h
  · have h := h.2 c1
    refine EV.bipush 48 rfl dX6_readConstant_46 (v := 9) (by decide) ?_
    refine EV.goto 53 (by decide) dX6_readConstant_48 ?_
    refine EV.mask [true, false] (L' := [some (.ref v0), none]) rfl ?_
    exact h
theorem gX6_readConstant_53 {Γ : Gm} {d : Nat} {σ : AH} {Q : Oc → AH → Prop} {v0 : Nat} {s0 : Int32} {s1 : Nat} (h : hs σ s1 = some (5, 10) ∧ CV Γ d MX6_addStep [.ref s1, .int s0, .int 0] σ (fun σ1 => hs σ1 v0 = some (5, 10) ∧ CV Γ d MX6_advance [.ref v0] σ1 (fun σ4 => Q (.inl none) σ4) (fun E σ4 => Q (.inr E) σ4)) (fun E σ1 => Q (.inr E) σ1)) : EV Γ MX6_readConstant d 53 [some (.ref v0), none] [.int s0, .ref s1] σ Q := by
  refine EV.iconst 54 rfl dX6_readConstant_53 (v := 0) (by decide) ?_
  obtain ⟨w3, h⟩ := h
  refine EV.cV rfl rfl lk_X6_70 rfl (vs := [.int s0, .int 0]) (st := []) rfl rfl (Nat.le_of_ble_eq_true rfl) dX6_readConstant_54 w3 h (fun v σ1 h => ?_)
  obtain ⟨rfl, h⟩ := h
  show EV Γ MX6_readConstant d 57 [some (.ref v0), none] [] σ1 Q
  refine EV.aload_n 58 rfl 0 rfl rfl dX6_readConstant_57 ?_
  obtain ⟨w6, h⟩ := h
  refine EV.cV rfl rfl lk_X6_53 rfl (vs := []) (st := []) rfl rfl (Nat.le_of_ble_eq_true rfl) dX6_readConstant_58 w6 h (fun v σ4 h => ?_)
  obtain ⟨rfl, h⟩ := h
  show EV Γ MX6_readConstant d 61 [some (.ref v0), none] [] σ4 Q
  exact EV.vret rfl dX6_readConstant_61 h
theorem gX6_readFamilyNumber_0 {Γ : Gm} {d : Nat} {σ : AH} {Q : Oc → AH → Prop} {v0 : Nat} (h : hs σ v0 = some (5, 10) ∧ (((gi σ v0 6) ≠ 13 → EV Γ MX6_readFamilyNumber d 23 [some (.ref v0), none, none] [] σ Q) ∧ ((gi σ v0 6) = 13 → ((((gi σ v0 8) - (gi σ v0 7)) ≤ 9 → EV Γ MX6_readFamilyNumber d 35 [some (.ref v0), some (.int 0), some (.int (gi σ v0 7))] [] σ Q) ∧ (¬ ((gi σ v0 8) - (gi σ v0 7)) ≤ 9 → EV Γ MX6_readFamilyNumber d 23 [some (.ref v0), none, none] [] σ Q))))) : EV Γ MX6_readFamilyNumber d 0 [some (.ref v0), none, none] [] σ Q := by
  refine EV.aload_n 1 rfl 0 rfl rfl dX6_readFamilyNumber_0 ?_
  obtain ⟨w1, h⟩ := h
  refine EV.getI 4 rfl fl_X6_35 rfl dX6_readFamilyNumber_1 w1 ?_
  refine EV.bipush 6 rfl dX6_readFamilyNumber_4 (v := 13) (by decide) ?_
  refine EV.icmp_ne 9 23 rfl (by decide) dX6_readFamilyNumber_6 (fun c2 => ?_) (fun c2 => ?_)
  · have h := h.1 c2
    exact h
  · have h := h.2 c2
    refine EV.aload_n 10 rfl 0 rfl rfl dX6_readFamilyNumber_9 ?_
    refine EV.getI 13 rfl fl_X6_41 rfl dX6_readFamilyNumber_10 w1 ?_
    refine EV.aload_n 14 rfl 0 rfl rfl dX6_readFamilyNumber_13 ?_
    refine EV.getI 17 rfl fl_X6_38 rfl dX6_readFamilyNumber_14 w1 ?_
    refine EV.isub 18 rfl dX6_readFamilyNumber_17 ?_
    refine EV.bipush 20 rfl dX6_readFamilyNumber_18 (v := 9) (by decide) ?_
    refine EV.icmp_le 23 28 rfl (by decide) dX6_readFamilyNumber_20 (fun c3 => ?_) (fun c3 => ?_)
    · have h := h.1 c3
      refine EV.iconst 29 rfl dX6_readFamilyNumber_28 (v := 0) (by decide) ?_
      refine EV.istore_n 30 rfl 1 [some (.ref v0), some (.int 0), none] rfl (by decide) rfl dX6_readFamilyNumber_29 ?_
      refine EV.aload_n 31 rfl 0 rfl rfl dX6_readFamilyNumber_30 ?_
      refine EV.getI 34 rfl fl_X6_38 rfl dX6_readFamilyNumber_31 w1 ?_
      refine EV.istore_n 35 rfl 2 [some (.ref v0), some (.int 0), some (.int (gi σ v0 7))] rfl (by decide) rfl dX6_readFamilyNumber_34 ?_
      exact h
    · have h := h.2 c3
      exact h
theorem eX6_readFamilyNumber {Γ : Gm} {d : Nat} {σ : AH} {Q : Oc → AH → Prop} {v0 : Nat} (h : hs σ v0 = some (5, 10) ∧ (((gi σ v0 6) ≠ 13 → EV Γ MX6_readFamilyNumber d 23 [some (.ref v0), none, none] [] σ Q) ∧ ((gi σ v0 6) = 13 → ((((gi σ v0 8) - (gi σ v0 7)) ≤ 9 → EV Γ MX6_readFamilyNumber d 35 [some (.ref v0), some (.int 0), some (.int (gi σ v0 7))] [] σ Q) ∧ (¬ ((gi σ v0 8) - (gi σ v0 7)) ≤ 9 → EV Γ MX6_readFamilyNumber d 23 [some (.ref v0), none, none] [] σ Q))))) : RUN Γ d MX6_readFamilyNumber [.ref v0] σ Q :=
  EV.enter [some (.ref v0), none, none] rfl (by decide +kernel) (Nat.le_of_ble_eq_true rfl) rfl (gX6_readFamilyNumber_0 h)
theorem gX6_readFamilyNumber_23 {Γ : Gm} {d : Nat} {σ : AH} {Q : Oc → AH → Prop} {v0 : Nat} (h : hs σ v0 = some (5, 10) ∧ CV Γ d MX6_fail [.ref v0] σ (fun σ1 => Q (.inl none) σ1) (fun E σ1 => Q (.inr E) σ1)) : EV Γ MX6_readFamilyNumber d 23 [some (.ref v0), none, none] [] σ Q := by
  refine EV.aload_n 24 rfl 0 rfl rfl dX6_readFamilyNumber_23 ?_
  obtain ⟨w3, h⟩ := h
  refine EV.cV rfl rfl lk_X6_60 rfl (vs := []) (st := []) rfl rfl (Nat.le_of_ble_eq_true rfl) dX6_readFamilyNumber_24 w3 h (fun v σ1 h => ?_)
  obtain ⟨rfl, h⟩ := h
  show EV Γ MX6_readFamilyNumber d 27 [some (.ref v0), none, none] [] σ1 Q
  exact EV.vret rfl dX6_readFamilyNumber_27 h
theorem gX6_readFamilyNumber_35 {Γ : Gm} {d : Nat} {σ : AH} {Q : Oc → AH → Prop} {v0 : Nat} {v1 : Int32} {v2 : Int32} (h : hs σ v0 = some (5, 10) ∧ (((gi σ v0 8) ≤ v2 → ((v1 < 0 → EV Γ MX6_readFamilyNumber d 85 [some (.ref v0), none, none] [] σ Q) ∧ (¬ v1 < 0 → ∃ t4 : Nat, gr σ v0 5 = some t4 ∧ ∃ n7 : Nat, hs σ t4 = some (25, n7) ∧ (((nI n7) ≤ v1 → EV Γ MX6_readFamilyNumber d 85 [some (.ref v0), none, none] [] σ Q) ∧ (¬ (nI n7) ≤ v1 → ∃ j9 : Nat, IX v1 n7 j9 ∧ ((gr σ t4 j9 = none → EV Γ MX6_readFamilyNumber d 85 [some (.ref v0), none, none] [] σ Q) ∧ (∀ t11 : Nat, gr σ t4 j9 = some t11 → CV Γ d MX6_addStep [.ref v0, .int 10, .int v1] σ (fun σ13 => hs σ13 v0 = some (5, 10) ∧ CV Γ d MX6_advance [.ref v0] σ13 (fun σ15 => Q (.inl none) σ15) (fun E σ15 => Q (.inr E) σ15)) (fun E σ13 => Q (.inr E) σ13)))))))) ∧ (¬ (gi σ v0 8) ≤ v2 → CI Γ d MX6_at [.ref v0, .int v2] σ (fun r19 σ18 => EV Γ MX6_readFamilyNumber d 35 [some (.ref v0), some (.int (((v1 * 10) + r19) - 48)), some (.int (v2 + 1))] [] σ18 Q) (fun E σ18 => Q (.inr E) σ18)))) : EV Γ MX6_readFamilyNumber d 35 [some (.ref v0), some (.int v1), some (.int v2)] [] σ Q := by
  refine EV.iload_n 36 rfl 2 rfl rfl dX6_readFamilyNumber_35 ?_
  refine EV.aload_n 37 rfl 0 rfl rfl dX6_readFamilyNumber_36 ?_
  obtain ⟨w1, h⟩ := h
  refine EV.getI 40 rfl fl_X6_41 rfl dX6_readFamilyNumber_37 w1 ?_
  refine EV.icmp_ge 43 63 rfl (by decide) dX6_readFamilyNumber_40 (fun c2 => ?_) (fun c2 => ?_)
  · have h := h.1 c2
    refine EV.iload_n 64 rfl 1 rfl rfl dX6_readFamilyNumber_63 ?_
    refine EV.if_lt 67 85 rfl (by decide) dX6_readFamilyNumber_64 (fun c3 => ?_) (fun c3 => ?_)
    · have h := h.1 c3
      refine EV.mask [true, false, false] (L' := [some (.ref v0), none, none]) rfl ?_
      exact h
    · have h := h.2 c3
      refine EV.iload_n 68 rfl 1 rfl rfl dX6_readFamilyNumber_67 ?_
      refine EV.aload_n 69 rfl 0 rfl rfl dX6_readFamilyNumber_68 ?_
      obtain ⟨t4, g5, h⟩ := h
      refine EV.getR 72 rfl fl_X6_31 rfl dX6_readFamilyNumber_69 w1 g5 ?_
      obtain ⟨n7, w6, h⟩ := h
      refine EV.alenF 73 rfl dX6_readFamilyNumber_72 w6 ?_
      refine EV.icmp_ge 76 85 rfl (by decide) dX6_readFamilyNumber_73 (fun c8 => ?_) (fun c8 => ?_)
      · have h := h.1 c8
        refine EV.mask [true, false, false] (L' := [some (.ref v0), none, none]) rfl ?_
        exact h
      · have h := h.2 c8
        refine EV.aload_n 77 rfl 0 rfl rfl dX6_readFamilyNumber_76 ?_
        refine EV.getR 80 rfl fl_X6_31 rfl dX6_readFamilyNumber_77 w1 g5 ?_
        refine EV.iload_n 81 rfl 1 rfl rfl dX6_readFamilyNumber_80 ?_
        obtain ⟨j9, x10, h⟩ := h
        refine EV.aaldF 82 rfl dX6_readFamilyNumber_81 w6 x10 ?_
        rcases g12 : gr σ t4 j9 with _ | t11
        · have h := h.1 g12
          show EV Γ MX6_readFamilyNumber d 82 [some (.ref v0), some (.int v1), some (.int v2)] [.null] σ Q
          refine EV.ifnonnull 85 90 rfl (r := none) (by decide) dX6_readFamilyNumber_82 (fun _ hh => by cases hh) (fun _ => ?_)
          refine EV.mask [true, false, false] (L' := [some (.ref v0), none, none]) rfl ?_
          exact h
        · have h := h.2 t11 g12
          show EV Γ MX6_readFamilyNumber d 82 [some (.ref v0), some (.int v1), some (.int v2)] [.ref t11] σ Q
          refine EV.ifnonnull 85 90 rfl (r := some t11) (by decide) dX6_readFamilyNumber_82 (fun _ _ => ?_) (fun hh => by cases hh)
          refine EV.aload_n 91 rfl 0 rfl rfl dX6_readFamilyNumber_90 ?_
          refine EV.bipush 93 rfl dX6_readFamilyNumber_91 (v := 10) (by decide) ?_
          refine EV.iload_n 94 rfl 1 rfl rfl dX6_readFamilyNumber_93 ?_
          refine EV.cV rfl rfl lk_X6_70 rfl (vs := [.int 10, .int v1]) (st := []) rfl rfl (Nat.le_of_ble_eq_true rfl) dX6_readFamilyNumber_94 w1 h (fun v σ13 h => ?_)
          obtain ⟨rfl, h⟩ := h
          show EV Γ MX6_readFamilyNumber d 97 [some (.ref v0), some (.int v1), some (.int v2)] [] σ13 Q
          refine EV.aload_n 98 rfl 0 rfl rfl dX6_readFamilyNumber_97 ?_
          obtain ⟨w17, h⟩ := h
          refine EV.cV rfl rfl lk_X6_53 rfl (vs := []) (st := []) rfl rfl (Nat.le_of_ble_eq_true rfl) dX6_readFamilyNumber_98 w17 h (fun v σ15 h => ?_)
          obtain ⟨rfl, h⟩ := h
          show EV Γ MX6_readFamilyNumber d 101 [some (.ref v0), some (.int v1), some (.int v2)] [] σ15 Q
          exact EV.vret rfl dX6_readFamilyNumber_101 h
  · have h := h.2 c2
    refine EV.iload_n 44 rfl 1 rfl rfl dX6_readFamilyNumber_43 ?_
    refine EV.bipush 46 rfl dX6_readFamilyNumber_44 (v := 10) (by decide) ?_
    refine EV.imul 47 rfl dX6_readFamilyNumber_46 ?_
    refine EV.aload_n 48 rfl 0 rfl rfl dX6_readFamilyNumber_47 ?_
    refine EV.iload_n 49 rfl 2 rfl rfl dX6_readFamilyNumber_48 ?_
    refine EV.cV rfl rfl lk_X6_99 rfl (vs := [.int v2]) (st := [.int (v1 * 10)]) rfl rfl (Nat.le_of_ble_eq_true rfl) dX6_readFamilyNumber_49 w1 h (fun v σ18 h => ?_)
    obtain ⟨r19, rfl, h⟩ := h
    show EV Γ MX6_readFamilyNumber d 52 [some (.ref v0), some (.int v1), some (.int v2)] [.int r19, .int (v1 * 10)] σ18 Q
    refine EV.iadd 53 rfl dX6_readFamilyNumber_52 ?_
    refine EV.bipush 55 rfl dX6_readFamilyNumber_53 (v := 48) (by decide) ?_
    refine EV.isub 56 rfl dX6_readFamilyNumber_55 ?_
    refine EV.istore_n 57 rfl 1 [some (.ref v0), some (.int (((v1 * 10) + r19) - 48)), some (.int v2)] rfl (by decide) rfl dX6_readFamilyNumber_56 ?_
    refine EV.iinc 60 rfl [some (.ref v0), some (.int (((v1 * 10) + r19) - 48)), some (.int (v2 + 1))] (v := 1) (by decide) (by decide) rfl rfl dX6_readFamilyNumber_57 ?_
    refine EV.goto 35 (by decide) dX6_readFamilyNumber_60 ?_
    exact h
theorem gX6_readFamilyNumber_85 {Γ : Gm} {d : Nat} {σ : AH} {Q : Oc → AH → Prop} {v0 : Nat} (h : hs σ v0 = some (5, 10) ∧ CV Γ d MX6_fail [.ref v0] σ (fun σ1 => Q (.inl none) σ1) (fun E σ1 => Q (.inr E) σ1)) : EV Γ MX6_readFamilyNumber d 85 [some (.ref v0), none, none] [] σ Q := by
  refine EV.aload_n 86 rfl 0 rfl rfl dX6_readFamilyNumber_85 ?_
  obtain ⟨w3, h⟩ := h
  refine EV.cV rfl rfl lk_X6_60 rfl (vs := []) (st := []) rfl rfl (Nat.le_of_ble_eq_true rfl) dX6_readFamilyNumber_86 w3 h (fun v σ1 h => ?_)
  obtain ⟨rfl, h⟩ := h
  show EV Γ MX6_readFamilyNumber d 89 [some (.ref v0), none, none] [] σ1 Q
  exact EV.vret rfl dX6_readFamilyNumber_89 h
theorem gX6_functionOfWord_0 {Γ : Gm} {d : Nat} {σ : AH} {Q : Oc → AH → Prop} {v0 : Nat} (h : hs σ v0 = some (5, 10) ∧ CI Γ d MX6_isWord [.ref v0, .int 109, .int 97, .int 120] σ (fun r2 σ1 => ((r2 = 0 → hs σ1 v0 = some (5, 10) ∧ CI Γ d MX6_isWord [.ref v0, .int 109, .int 105, .int 110] σ1 (fun r6 σ5 => ((r6 = 0 → hs σ5 v0 = some (5, 10) ∧ CI Γ d MX6_isWord [.ref v0, .int 104, .int 105, .int 116] σ5 (fun r10 σ9 => ((r10 = 0 → hs σ9 v0 = some (5, 10) ∧ CI Γ d MX6_isWord [.ref v0, .int 115, .int 117, .int 98] σ9 (fun r14 σ13 => ((r14 = 0 → Q (.inl (some (.int 0))) σ13) ∧ (¬ r14 = 0 → Q (.inl (some (.int 7))) σ13))) (fun E σ13 => Q (.inr E) σ13)) ∧ (¬ r10 = 0 → Q (.inl (some (.int 6))) σ9))) (fun E σ9 => Q (.inr E) σ9)) ∧ (¬ r6 = 0 → Q (.inl (some (.int 5))) σ5))) (fun E σ5 => Q (.inr E) σ5)) ∧ (¬ r2 = 0 → Q (.inl (some (.int 4))) σ1))) (fun E σ1 => Q (.inr E) σ1)) : EV Γ MX6_functionOfWord d 0 [some (.ref v0)] [] σ Q := by
  refine EV.aload_n 1 rfl 0 rfl rfl dX6_functionOfWord_0 ?_
  refine EV.bipush 3 rfl dX6_functionOfWord_1 (v := 109) (by decide) ?_
  refine EV.bipush 5 rfl dX6_functionOfWord_3 (v := 97) (by decide) ?_
  refine EV.bipush 7 rfl dX6_functionOfWord_5 (v := 120) (by decide) ?_
  obtain ⟨w3, h⟩ := h
  refine EV.cV rfl rfl lk_X6_103 rfl (vs := [.int 109, .int 97, .int 120]) (st := []) rfl rfl (Nat.le_of_ble_eq_true rfl) dX6_functionOfWord_7 w3 h (fun v σ1 h => ?_)
  obtain ⟨r2, rfl, h⟩ := h
  show EV Γ MX6_functionOfWord d 10 [some (.ref v0)] [.int r2] σ1 Q
  refine EV.if_eq 13 15 rfl (by decide) dX6_functionOfWord_10 (fun c4 => ?_) (fun c4 => ?_)
  · have h := h.1 c4
    refine EV.aload_n 16 rfl 0 rfl rfl dX6_functionOfWord_15 ?_
    refine EV.bipush 18 rfl dX6_functionOfWord_16 (v := 109) (by decide) ?_
    refine EV.bipush 20 rfl dX6_functionOfWord_18 (v := 105) (by decide) ?_
    refine EV.bipush 22 rfl dX6_functionOfWord_20 (v := 110) (by decide) ?_
    obtain ⟨w7, h⟩ := h
    refine EV.cV rfl rfl lk_X6_103 rfl (vs := [.int 109, .int 105, .int 110]) (st := []) rfl rfl (Nat.le_of_ble_eq_true rfl) dX6_functionOfWord_22 w7 h (fun v σ5 h => ?_)
    obtain ⟨r6, rfl, h⟩ := h
    show EV Γ MX6_functionOfWord d 25 [some (.ref v0)] [.int r6] σ5 Q
    refine EV.if_eq 28 30 rfl (by decide) dX6_functionOfWord_25 (fun c8 => ?_) (fun c8 => ?_)
    · have h := h.1 c8
      refine EV.aload_n 31 rfl 0 rfl rfl dX6_functionOfWord_30 ?_
      refine EV.bipush 33 rfl dX6_functionOfWord_31 (v := 104) (by decide) ?_
      refine EV.bipush 35 rfl dX6_functionOfWord_33 (v := 105) (by decide) ?_
      refine EV.bipush 37 rfl dX6_functionOfWord_35 (v := 116) (by decide) ?_
      obtain ⟨w11, h⟩ := h
      refine EV.cV rfl rfl lk_X6_103 rfl (vs := [.int 104, .int 105, .int 116]) (st := []) rfl rfl (Nat.le_of_ble_eq_true rfl) dX6_functionOfWord_37 w11 h (fun v σ9 h => ?_)
      obtain ⟨r10, rfl, h⟩ := h
      show EV Γ MX6_functionOfWord d 40 [some (.ref v0)] [.int r10] σ9 Q
      refine EV.if_eq 43 46 rfl (by decide) dX6_functionOfWord_40 (fun c12 => ?_) (fun c12 => ?_)
      · have h := h.1 c12
        refine EV.aload_n 47 rfl 0 rfl rfl dX6_functionOfWord_46 ?_
        refine EV.bipush 49 rfl dX6_functionOfWord_47 (v := 115) (by decide) ?_
        refine EV.bipush 51 rfl dX6_functionOfWord_49 (v := 117) (by decide) ?_
        refine EV.bipush 53 rfl dX6_functionOfWord_51 (v := 98) (by decide) ?_
        obtain ⟨w15, h⟩ := h
        refine EV.cV rfl rfl lk_X6_103 rfl (vs := [.int 115, .int 117, .int 98]) (st := []) rfl rfl (Nat.le_of_ble_eq_true rfl) dX6_functionOfWord_53 w15 h (fun v σ13 h => ?_)
        obtain ⟨r14, rfl, h⟩ := h
        show EV Γ MX6_functionOfWord d 56 [some (.ref v0)] [.int r14] σ13 Q
        refine EV.if_eq 59 64 rfl (by decide) dX6_functionOfWord_56 (fun c16 => ?_) (fun c16 => ?_)
        · have h := h.1 c16
          refine EV.iconst 65 rfl dX6_functionOfWord_64 (v := 0) (by decide) ?_
          exact EV.iret rfl dX6_functionOfWord_65 h
        · have h := h.2 c16
          refine EV.bipush 61 rfl dX6_functionOfWord_59 (v := 7) (by decide) ?_
          refine EV.goto 65 (by decide) dX6_functionOfWord_61 ?_
          exact EV.iret rfl dX6_functionOfWord_65 h
      · have h := h.2 c12
        refine EV.bipush 45 rfl dX6_functionOfWord_43 (v := 6) (by decide) ?_
        exact EV.iret rfl dX6_functionOfWord_45 h
    · have h := h.2 c8
      refine EV.iconst 29 rfl dX6_functionOfWord_28 (v := 5) (by decide) ?_
      exact EV.iret rfl dX6_functionOfWord_29 h
  · have h := h.2 c4
    refine EV.iconst 14 rfl dX6_functionOfWord_13 (v := 4) (by decide) ?_
    exact EV.iret rfl dX6_functionOfWord_14 h
theorem eX6_functionOfWord {Γ : Gm} {d : Nat} {σ : AH} {Q : Oc → AH → Prop} {v0 : Nat} (h : hs σ v0 = some (5, 10) ∧ CI Γ d MX6_isWord [.ref v0, .int 109, .int 97, .int 120] σ (fun r2 σ1 => ((r2 = 0 → hs σ1 v0 = some (5, 10) ∧ CI Γ d MX6_isWord [.ref v0, .int 109, .int 105, .int 110] σ1 (fun r6 σ5 => ((r6 = 0 → hs σ5 v0 = some (5, 10) ∧ CI Γ d MX6_isWord [.ref v0, .int 104, .int 105, .int 116] σ5 (fun r10 σ9 => ((r10 = 0 → hs σ9 v0 = some (5, 10) ∧ CI Γ d MX6_isWord [.ref v0, .int 115, .int 117, .int 98] σ9 (fun r14 σ13 => ((r14 = 0 → Q (.inl (some (.int 0))) σ13) ∧ (¬ r14 = 0 → Q (.inl (some (.int 7))) σ13))) (fun E σ13 => Q (.inr E) σ13)) ∧ (¬ r10 = 0 → Q (.inl (some (.int 6))) σ9))) (fun E σ9 => Q (.inr E) σ9)) ∧ (¬ r6 = 0 → Q (.inl (some (.int 5))) σ5))) (fun E σ5 => Q (.inr E) σ5)) ∧ (¬ r2 = 0 → Q (.inl (some (.int 4))) σ1))) (fun E σ1 => Q (.inr E) σ1)) : RUN Γ d MX6_functionOfWord [.ref v0] σ Q :=
  EV.enter [some (.ref v0)] rfl (by decide +kernel) (Nat.le_of_ble_eq_true rfl) rfl (gX6_functionOfWord_0 h)
theorem gX6_isWord_0 {Γ : Gm} {d : Nat} {σ : AH} {Q : Oc → AH → Prop} {v0 : Nat} {v1 : Int32} {v2 : Int32} {v3 : Int32} (h : hs σ v0 = some (5, 10) ∧ ((((gi σ v0 8) - (gi σ v0 7)) ≠ 3 → Q (.inl (some (.int 0))) σ) ∧ (((gi σ v0 8) - (gi σ v0 7)) = 3 → CI Γ d MX6_at [.ref v0, .int (gi σ v0 7)] σ (fun r4 σ3 => ((r4 ≠ v1 → Q (.inl (some (.int 0))) σ3) ∧ (r4 = v1 → hs σ3 v0 = some (5, 10) ∧ CI Γ d MX6_at [.ref v0, .int ((gi σ3 v0 7) + 1)] σ3 (fun r8 σ7 => ((r8 ≠ v2 → Q (.inl (some (.int 0))) σ7) ∧ (r8 = v2 → hs σ7 v0 = some (5, 10) ∧ CI Γ d MX6_at [.ref v0, .int ((gi σ7 v0 7) + 2)] σ7 (fun r12 σ11 => ((r12 ≠ v3 → Q (.inl (some (.int 0))) σ11) ∧ (r12 = v3 → Q (.inl (some (.int 1))) σ11))) (fun E σ11 => Q (.inr E) σ11)))) (fun E σ7 => Q (.inr E) σ7)))) (fun E σ3 => Q (.inr E) σ3)))) : EV Γ MX6_isWord d 0 [some (.ref v0), some (.int v1), some (.int v2), some (.int v3)] [] σ Q := by
  refine EV.aload_n 1 rfl 0 rfl rfl dX6_isWord_0 ?_
  obtain ⟨w1, h⟩ := h
  refine EV.getI 4 rfl fl_X6_41 rfl dX6_isWord_1 w1 ?_
  refine EV.aload_n 5 rfl 0 rfl rfl dX6_isWord_4 ?_
  refine EV.getI 8 rfl fl_X6_38 rfl dX6_isWord_5 w1 ?_
  refine EV.isub 9 rfl dX6_isWord_8 ?_
  refine EV.iconst 10 rfl dX6_isWord_9 (v := 3) (by decide) ?_
  refine EV.icmp_ne 13 57 rfl (by decide) dX6_isWord_10 (fun c2 => ?_) (fun c2 => ?_)
  · have h := h.1 c2
    refine EV.iconst 58 rfl dX6_isWord_57 (v := 0) (by decide) ?_
    exact EV.zret rfl rfl dX6_isWord_58 h
  · have h := h.2 c2
    refine EV.aload_n 14 rfl 0 rfl rfl dX6_isWord_13 ?_
    refine EV.aload_n 15 rfl 0 rfl rfl dX6_isWord_14 ?_
    refine EV.getI 18 rfl fl_X6_38 rfl dX6_isWord_15 w1 ?_
    refine EV.cV rfl rfl lk_X6_99 rfl (vs := [.int (gi σ v0 7)]) (st := []) rfl rfl (Nat.le_of_ble_eq_true rfl) dX6_isWord_18 w1 h (fun v σ3 h => ?_)
    obtain ⟨r4, rfl, h⟩ := h
    show EV Γ MX6_isWord d 21 [some (.ref v0), some (.int v1), some (.int v2), some (.int v3)] [.int r4] σ3 Q
    refine EV.iload_n 22 rfl 1 rfl rfl dX6_isWord_21 ?_
    refine EV.icmp_ne 25 57 rfl (by decide) dX6_isWord_22 (fun c5 => ?_) (fun c5 => ?_)
    · have h := h.1 c5
      refine EV.iconst 58 rfl dX6_isWord_57 (v := 0) (by decide) ?_
      exact EV.zret rfl rfl dX6_isWord_58 h
    · have h := h.2 c5
      refine EV.aload_n 26 rfl 0 rfl rfl dX6_isWord_25 ?_
      refine EV.aload_n 27 rfl 0 rfl rfl dX6_isWord_26 ?_
      obtain ⟨w6, h⟩ := h
      refine EV.getI 30 rfl fl_X6_38 rfl dX6_isWord_27 w6 ?_
      refine EV.iconst 31 rfl dX6_isWord_30 (v := 1) (by decide) ?_
      refine EV.iadd 32 rfl dX6_isWord_31 ?_
      refine EV.cV rfl rfl lk_X6_99 rfl (vs := [.int ((gi σ3 v0 7) + 1)]) (st := []) rfl rfl (Nat.le_of_ble_eq_true rfl) dX6_isWord_32 w6 h (fun v σ7 h => ?_)
      obtain ⟨r8, rfl, h⟩ := h
      show EV Γ MX6_isWord d 35 [some (.ref v0), some (.int v1), some (.int v2), some (.int v3)] [.int r8] σ7 Q
      refine EV.iload_n 36 rfl 2 rfl rfl dX6_isWord_35 ?_
      refine EV.icmp_ne 39 57 rfl (by decide) dX6_isWord_36 (fun c9 => ?_) (fun c9 => ?_)
      · have h := h.1 c9
        refine EV.iconst 58 rfl dX6_isWord_57 (v := 0) (by decide) ?_
        exact EV.zret rfl rfl dX6_isWord_58 h
      · have h := h.2 c9
        refine EV.aload_n 40 rfl 0 rfl rfl dX6_isWord_39 ?_
        refine EV.aload_n 41 rfl 0 rfl rfl dX6_isWord_40 ?_
        obtain ⟨w10, h⟩ := h
        refine EV.getI 44 rfl fl_X6_38 rfl dX6_isWord_41 w10 ?_
        refine EV.iconst 45 rfl dX6_isWord_44 (v := 2) (by decide) ?_
        refine EV.iadd 46 rfl dX6_isWord_45 ?_
        refine EV.cV rfl rfl lk_X6_99 rfl (vs := [.int ((gi σ7 v0 7) + 2)]) (st := []) rfl rfl (Nat.le_of_ble_eq_true rfl) dX6_isWord_46 w10 h (fun v σ11 h => ?_)
        obtain ⟨r12, rfl, h⟩ := h
        show EV Γ MX6_isWord d 49 [some (.ref v0), some (.int v1), some (.int v2), some (.int v3)] [.int r12] σ11 Q
        refine EV.iload_n 50 rfl 3 rfl rfl dX6_isWord_49 ?_
        refine EV.icmp_ne 53 57 rfl (by decide) dX6_isWord_50 (fun c13 => ?_) (fun c13 => ?_)
        · have h := h.1 c13
          refine EV.iconst 58 rfl dX6_isWord_57 (v := 0) (by decide) ?_
          exact EV.zret rfl rfl dX6_isWord_58 h
        · have h := h.2 c13
          refine EV.iconst 54 rfl dX6_isWord_53 (v := 1) (by decide) ?_
          refine EV.goto 58 (by decide) dX6_isWord_54 ?_
          exact EV.zret rfl rfl dX6_isWord_58 h
theorem eX6_isWord {Γ : Gm} {d : Nat} {σ : AH} {Q : Oc → AH → Prop} {v0 : Nat} {v1 : Int32} {v2 : Int32} {v3 : Int32} (h : hs σ v0 = some (5, 10) ∧ ((((gi σ v0 8) - (gi σ v0 7)) ≠ 3 → Q (.inl (some (.int 0))) σ) ∧ (((gi σ v0 8) - (gi σ v0 7)) = 3 → CI Γ d MX6_at [.ref v0, .int (gi σ v0 7)] σ (fun r4 σ3 => ((r4 ≠ v1 → Q (.inl (some (.int 0))) σ3) ∧ (r4 = v1 → hs σ3 v0 = some (5, 10) ∧ CI Γ d MX6_at [.ref v0, .int ((gi σ3 v0 7) + 1)] σ3 (fun r8 σ7 => ((r8 ≠ v2 → Q (.inl (some (.int 0))) σ7) ∧ (r8 = v2 → hs σ7 v0 = some (5, 10) ∧ CI Γ d MX6_at [.ref v0, .int ((gi σ7 v0 7) + 2)] σ7 (fun r12 σ11 => ((r12 ≠ v3 → Q (.inl (some (.int 0))) σ11) ∧ (r12 = v3 → Q (.inl (some (.int 1))) σ11))) (fun E σ11 => Q (.inr E) σ11)))) (fun E σ7 => Q (.inr E) σ7)))) (fun E σ3 => Q (.inr E) σ3)))) : RUN Γ d MX6_isWord [.ref v0, .int v1, .int v2, .int v3] σ Q :=
  EV.enter [some (.ref v0), some (.int v1), some (.int v2), some (.int v3)] rfl (by decide +kernel) (Nat.le_of_ble_eq_true rfl) rfl (gX6_isWord_0 h)
theorem gX6_maskOfWord_0 {Γ : Gm} {d : Nat} {σ : AH} {Q : Oc → AH → Prop} {v0 : Nat} (h : hs σ v0 = some (5, 10) ∧ EV Γ MX6_maskOfWord d 7 [some (.ref v0), some (.int 0), some (.int (gi σ v0 7)), none] [] σ Q) : EV Γ MX6_maskOfWord d 0 [some (.ref v0), none, none, none] [] σ Q := by
  refine EV.iconst 1 rfl dX6_maskOfWord_0 (v := 0) (by decide) ?_
  refine EV.istore_n 2 rfl 1 [some (.ref v0), some (.int 0), none, none] rfl (by decide) rfl dX6_maskOfWord_1 ?_
  refine EV.aload_n 3 rfl 0 rfl rfl dX6_maskOfWord_2 ?_
  obtain ⟨w1, h⟩ := h
  refine EV.getI 6 rfl fl_X6_38 rfl dX6_maskOfWord_3 w1 ?_
  refine EV.istore_n 7 rfl 2 [some (.ref v0), some (.int 0), some (.int (gi σ v0 7)), none] rfl (by decide) rfl dX6_maskOfWord_6 ?_
  exact h
theorem eX6_maskOfWord {Γ : Gm} {d : Nat} {σ : AH} {Q : Oc → AH → Prop} {v0 : Nat} (h : hs σ v0 = some (5, 10) ∧ EV Γ MX6_maskOfWord d 7 [some (.ref v0), some (.int 0), some (.int (gi σ v0 7)), none] [] σ Q) : RUN Γ d MX6_maskOfWord [.ref v0] σ Q :=
  EV.enter [some (.ref v0), none, none, none] rfl (by decide +kernel) (Nat.le_of_ble_eq_true rfl) rfl (gX6_maskOfWord_0 h)
theorem gX6_maskOfWord_7 {Γ : Gm} {d : Nat} {σ : AH} {Q : Oc → AH → Prop} {v0 : Nat} {v1 : Int32} {v2 : Int32} (h : hs σ v0 = some (5, 10) ∧ (((gi σ v0 8) ≤ v2 → Q (.inl (some (.int v1))) σ) ∧ (¬ (gi σ v0 8) ≤ v2 → CI Γ d MX6_at [.ref v0, .int v2] σ (fun r4 σ3 => (((r4 - 97) < 0 → Q (.inl (some (.int 0))) σ3) ∧ (¬ (r4 - 97) < 0 → ((12 ≤ (r4 - 97) → Q (.inl (some (.int 0))) σ3) ∧ (¬ 12 ≤ (r4 - 97) → ((((v1 >>> ((r4 - 97) &&& 31)) &&& 1) = 0 → EV Γ MX6_maskOfWord d 7 [some (.ref v0), some (.int (v1 ||| ((1 : Int32) <<< ((r4 - 97) &&& 31)))), some (.int (v2 + 1)), none] [] σ3 Q) ∧ (¬ ((v1 >>> ((r4 - 97) &&& 31)) &&& 1) = 0 → Q (.inl (some (.int 0))) σ3))))))) (fun E σ3 => Q (.inr E) σ3)))) : EV Γ MX6_maskOfWord d 7 [some (.ref v0), some (.int v1), some (.int v2), none] [] σ Q := by
  refine EV.iload_n 8 rfl 2 rfl rfl dX6_maskOfWord_7 ?_
  refine EV.aload_n 9 rfl 0 rfl rfl dX6_maskOfWord_8 ?_
  obtain ⟨w1, h⟩ := h
  refine EV.getI 12 rfl fl_X6_41 rfl dX6_maskOfWord_9 w1 ?_
  refine EV.icmp_ge 15 56 rfl (by decide) dX6_maskOfWord_12 (fun c2 => ?_) (fun c2 => ?_)
  · have h := h.1 c2
    refine EV.iload_n 57 rfl 1 rfl rfl dX6_maskOfWord_56 ?_
    exact EV.iret rfl dX6_maskOfWord_57 h
  · have h := h.2 c2
    refine EV.aload_n 16 rfl 0 rfl rfl dX6_maskOfWord_15 ?_
    refine EV.iload_n 17 rfl 2 rfl rfl dX6_maskOfWord_16 ?_
    refine EV.cV rfl rfl lk_X6_99 rfl (vs := [.int v2]) (st := []) rfl rfl (Nat.le_of_ble_eq_true rfl) dX6_maskOfWord_17 w1 h (fun v σ3 h => ?_)
    obtain ⟨r4, rfl, h⟩ := h
    show EV Γ MX6_maskOfWord d 20 [some (.ref v0), some (.int v1), some (.int v2), none] [.int r4] σ3 Q
    refine EV.bipush 22 rfl dX6_maskOfWord_20 (v := 97) (by decide) ?_
    refine EV.isub 23 rfl dX6_maskOfWord_22 ?_
    refine EV.istore_n 24 rfl 3 [some (.ref v0), some (.int v1), some (.int v2), some (.int (r4 - 97))] rfl (by decide) rfl dX6_maskOfWord_23 ?_
    refine EV.iload_n 25 rfl 3 rfl rfl dX6_maskOfWord_24 ?_
    refine EV.if_lt 28 42 rfl (by decide) dX6_maskOfWord_25 (fun c5 => ?_) (fun c5 => ?_)
    · have h := h.1 c5
      refine EV.iconst 43 rfl dX6_maskOfWord_42 (v := 0) (by decide) ?_
      exact EV.iret rfl dX6_maskOfWord_43 h
    · have h := h.2 c5
      refine EV.iload_n 29 rfl 3 rfl rfl dX6_maskOfWord_28 ?_
      refine EV.bipush 31 rfl dX6_maskOfWord_29 (v := 12) (by decide) ?_
      refine EV.icmp_ge 34 42 rfl (by decide) dX6_maskOfWord_31 (fun c6 => ?_) (fun c6 => ?_)
      · have h := h.1 c6
        refine EV.iconst 43 rfl dX6_maskOfWord_42 (v := 0) (by decide) ?_
        exact EV.iret rfl dX6_maskOfWord_43 h
      · have h := h.2 c6
        refine EV.iload_n 35 rfl 1 rfl rfl dX6_maskOfWord_34 ?_
        refine EV.iload_n 36 rfl 3 rfl rfl dX6_maskOfWord_35 ?_
        refine EV.ishr 37 rfl dX6_maskOfWord_36 ?_
        refine EV.iconst 38 rfl dX6_maskOfWord_37 (v := 1) (by decide) ?_
        refine EV.iand 39 rfl dX6_maskOfWord_38 ?_
        refine EV.if_eq 42 44 rfl (by decide) dX6_maskOfWord_39 (fun c7 => ?_) (fun c7 => ?_)
        · have h := h.1 c7
          refine EV.iload_n 45 rfl 1 rfl rfl dX6_maskOfWord_44 ?_
          refine EV.iconst 46 rfl dX6_maskOfWord_45 (v := 1) (by decide) ?_
          refine EV.iload_n 47 rfl 3 rfl rfl dX6_maskOfWord_46 ?_
          refine EV.ishl 48 rfl dX6_maskOfWord_47 ?_
          refine EV.ior 49 rfl dX6_maskOfWord_48 ?_
          refine EV.istore_n 50 rfl 1 [some (.ref v0), some (.int (v1 ||| ((1 : Int32) <<< ((r4 - 97) &&& 31)))), some (.int v2), some (.int (r4 - 97))] rfl (by decide) rfl dX6_maskOfWord_49 ?_
          refine EV.iinc 53 rfl [some (.ref v0), some (.int (v1 ||| ((1 : Int32) <<< ((r4 - 97) &&& 31)))), some (.int (v2 + 1)), some (.int (r4 - 97))] (v := 1) (by decide) (by decide) rfl rfl dX6_maskOfWord_50 ?_
          refine EV.goto 7 (by decide) dX6_maskOfWord_53 ?_
          refine EV.mask [true, true, true, false] (L' := [some (.ref v0), some (.int (v1 ||| ((1 : Int32) <<< ((r4 - 97) &&& 31)))), some (.int (v2 + 1)), none]) rfl ?_
          exact h
        · have h := h.2 c7
          refine EV.iconst 43 rfl dX6_maskOfWord_42 (v := 0) (by decide) ?_
          exact EV.iret rfl dX6_maskOfWord_43 h
theorem gX6_advance_0 {Γ : Gm} {d : Nat} {σ : AH} {Q : Oc → AH → Prop} {v0 : Nat} (h : hs σ v0 = some (5, 10) ∧ ∀ σ2 : AH, σ2 = setI σ v0 7 (gi σ v0 8) → EV Γ MX6_advance d 8 [some (.ref v0), none] [] σ2 Q) : EV Γ MX6_advance d 0 [some (.ref v0), none] [] σ Q := by
  refine EV.aload_n 1 rfl 0 rfl rfl dX6_advance_0 ?_
  refine EV.aload_n 2 rfl 0 rfl rfl dX6_advance_1 ?_
  obtain ⟨w1, h⟩ := h
  refine EV.getI 5 rfl fl_X6_41 rfl dX6_advance_2 w1 ?_
  refine EV.putI 8 rfl fw_X6_38 rfl (by decide) dX6_advance_5 w1 (EV.nm (fun σ2 e3 => ?_))
  have h := h σ2 e3
  have w4 := tr_hs (hs_setI_of e3) w1
  exact h
theorem eX6_advance {Γ : Gm} {d : Nat} {σ : AH} {Q : Oc → AH → Prop} {v0 : Nat} (h : hs σ v0 = some (5, 10) ∧ ∀ σ2 : AH, σ2 = setI σ v0 7 (gi σ v0 8) → EV Γ MX6_advance d 8 [some (.ref v0), none] [] σ2 Q) : RUN Γ d MX6_advance [.ref v0] σ Q :=
  EV.enter [some (.ref v0), none] rfl (by decide +kernel) (Nat.le_of_ble_eq_true rfl) rfl (gX6_advance_0 h)
theorem gX6_advance_8 {Γ : Gm} {d : Nat} {σ : AH} {Q : Oc → AH → Prop} {v0 : Nat} (h : hs σ v0 = some (5, 10) ∧ (((gi σ v0 4) ≤ (gi σ v0 7) → EV Γ MX6_advance d 45 [some (.ref v0), none] [] σ Q) ∧ (¬ (gi σ v0 4) ≤ (gi σ v0 7) → CI Γ d MX6_at [.ref v0, .int (gi σ v0 7)] σ (fun r4 σ3 => ((r4 ≠ 32 → EV Γ MX6_advance d 45 [some (.ref v0), none] [] σ3 Q) ∧ (r4 = 32 → hs σ3 v0 = some (5, 10) ∧ ∀ σ7 : AH, σ7 = setI σ3 v0 7 ((gi σ3 v0 7) + 1) → EV Γ MX6_advance d 8 [some (.ref v0), none] [] σ7 Q))) (fun E σ3 => Q (.inr E) σ3)))) : EV Γ MX6_advance d 8 [some (.ref v0), none] [] σ Q := by
  refine EV.aload_n 9 rfl 0 rfl rfl dX6_advance_8 ?_
  obtain ⟨w1, h⟩ := h
  refine EV.getI 12 rfl fl_X6_38 rfl dX6_advance_9 w1 ?_
  refine EV.aload_n 13 rfl 0 rfl rfl dX6_advance_12 ?_
  refine EV.getI 16 rfl fl_X6_26 rfl dX6_advance_13 w1 ?_
  refine EV.icmp_ge 19 45 rfl (by decide) dX6_advance_16 (fun c2 => ?_) (fun c2 => ?_)
  · have h := h.1 c2
    exact h
  · have h := h.2 c2
    refine EV.aload_n 20 rfl 0 rfl rfl dX6_advance_19 ?_
    refine EV.aload_n 21 rfl 0 rfl rfl dX6_advance_20 ?_
    refine EV.getI 24 rfl fl_X6_38 rfl dX6_advance_21 w1 ?_
    refine EV.cV rfl rfl lk_X6_99 rfl (vs := [.int (gi σ v0 7)]) (st := []) rfl rfl (Nat.le_of_ble_eq_true rfl) dX6_advance_24 w1 h (fun v σ3 h => ?_)
    obtain ⟨r4, rfl, h⟩ := h
    show EV Γ MX6_advance d 27 [some (.ref v0), none] [.int r4] σ3 Q
    refine EV.bipush 29 rfl dX6_advance_27 (v := 32) (by decide) ?_
    refine EV.icmp_ne 32 45 rfl (by decide) dX6_advance_29 (fun c5 => ?_) (fun c5 => ?_)
    · have h := h.1 c5
      exact h
    · have h := h.2 c5
      refine EV.aload_n 33 rfl 0 rfl rfl dX6_advance_32 ?_
      refine EV.dup 34 rfl dX6_advance_33 rfl ?_
      obtain ⟨w6, h⟩ := h
      refine EV.getI 37 rfl fl_X6_38 rfl dX6_advance_34 w6 ?_
      refine EV.iconst 38 rfl dX6_advance_37 (v := 1) (by decide) ?_
      refine EV.iadd 39 rfl dX6_advance_38 ?_
      refine EV.putI 42 rfl fw_X6_38 rfl (by decide) dX6_advance_39 w6 (EV.nm (fun σ7 e8 => ?_))
      have h := h σ7 e8
      have w9 := tr_hs (hs_setI_of e8) w6
      refine EV.goto 8 (by decide) dX6_advance_42 ?_
      exact h
theorem gX6_advance_45 {Γ : Gm} {d : Nat} {σ : AH} {Q : Oc → AH → Prop} {v0 : Nat} (h : hs σ v0 = some (5, 10) ∧ ∀ σ2 : AH, σ2 = setI σ v0 8 (gi σ v0 7) → (((gi σ2 v0 7) < (gi σ2 v0 4) → CI Γ d MX6_at [.ref v0, .int (gi σ2 v0 7)] σ2 (fun r7 σ6 => hs σ6 v0 = some (5, 10) ∧ ∀ σ9 : AH, σ9 = setI σ6 v0 8 ((gi σ6 v0 8) + 1) → CI Γ d MX6_isLetter [.int r7] σ9 (fun r13 σ12 => ((r13 = 0 → CI Γ d MX6_isDigit [.int r7] σ12 (fun r16 σ15 => ((r16 = 0 → CI Γ d MX6_isSymbol [.int r7] σ15 (fun r19 σ18 => ((r19 = 0 → hs σ18 v0 = some (5, 10) ∧ ∀ σ22 : AH, σ22 = setI σ18 v0 6 14 → Q (.inl none) σ22) ∧ (¬ r19 = 0 → hs σ18 v0 = some (5, 10) ∧ ∀ σ26 : AH, σ26 = setI σ18 v0 6 r7 → Q (.inl none) σ26))) (fun _ _ => False)) ∧ (¬ r16 = 0 → hs σ15 v0 = some (5, 10) ∧ ∀ σ30 : AH, σ30 = setI σ15 v0 6 13 → EV Γ MX6_advance d 154 [some (.ref v0), none] [] σ30 Q))) (fun _ _ => False)) ∧ (¬ r13 = 0 → hs σ12 v0 = some (5, 10) ∧ ∀ σ34 : AH, σ34 = setI σ12 v0 6 12 → EV Γ MX6_advance d 103 [some (.ref v0), none] [] σ34 Q))) (fun _ _ => False)) (fun E σ6 => Q (.inr E) σ6)) ∧ (¬ (gi σ2 v0 7) < (gi σ2 v0 4) → ∀ σ37 : AH, σ37 = setI σ2 v0 6 11 → Q (.inl none) σ37))) : EV Γ MX6_advance d 45 [some (.ref v0), none] [] σ Q := by
  refine EV.aload_n 46 rfl 0 rfl rfl dX6_advance_45 ?_
  refine EV.aload_n 47 rfl 0 rfl rfl dX6_advance_46 ?_
  obtain ⟨w1, h⟩ := h
  refine EV.getI 50 rfl fl_X6_38 rfl dX6_advance_47 w1 ?_
  refine EV.putI 53 rfl fw_X6_41 rfl (by decide) dX6_advance_50 w1 (EV.nm (fun σ2 e3 => ?_))
  have h := h σ2 e3
  have w4 := tr_hs (hs_setI_of e3) w1
  refine EV.aload_n 54 rfl 0 rfl rfl dX6_advance_53 ?_
  refine EV.getI 57 rfl fl_X6_38 rfl dX6_advance_54 w4 ?_
  refine EV.aload_n 58 rfl 0 rfl rfl dX6_advance_57 ?_
  refine EV.getI 61 rfl fl_X6_26 rfl dX6_advance_58 w4 ?_
  refine EV.icmp_lt 64 71 rfl (by decide) dX6_advance_61 (fun c5 => ?_) (fun c5 => ?_)
  · have h := h.1 c5
    refine EV.aload_n 72 rfl 0 rfl rfl dX6_advance_71 ?_
    refine EV.aload_n 73 rfl 0 rfl rfl dX6_advance_72 ?_
    refine EV.getI 76 rfl fl_X6_38 rfl dX6_advance_73 w4 ?_
    refine EV.cV rfl rfl lk_X6_99 rfl (vs := [.int (gi σ2 v0 7)]) (st := []) rfl rfl (Nat.le_of_ble_eq_true rfl) dX6_advance_76 w4 h (fun v σ6 h => ?_)
    obtain ⟨r7, rfl, h⟩ := h
    show EV Γ MX6_advance d 79 [some (.ref v0), none] [.int r7] σ6 Q
    refine EV.istore_n 80 rfl 1 [some (.ref v0), some (.int r7)] rfl (by decide) rfl dX6_advance_79 ?_
    refine EV.aload_n 81 rfl 0 rfl rfl dX6_advance_80 ?_
    refine EV.dup 82 rfl dX6_advance_81 rfl ?_
    obtain ⟨w8, h⟩ := h
    refine EV.getI 85 rfl fl_X6_41 rfl dX6_advance_82 w8 ?_
    refine EV.iconst 86 rfl dX6_advance_85 (v := 1) (by decide) ?_
    refine EV.iadd 87 rfl dX6_advance_86 ?_
    refine EV.putI 90 rfl fw_X6_41 rfl (by decide) dX6_advance_87 w8 (EV.nm (fun σ9 e10 => ?_))
    have h := h σ9 e10
    have w11 := tr_hs (hs_setI_of e10) w8
    refine EV.iload_n 91 rfl 1 rfl rfl dX6_advance_90 ?_
    refine EV.cS rfl lk_X6_107 rfl (vs := [.int r7]) (st := []) rfl rfl (Nat.le_of_ble_eq_true rfl) dX6_advance_91 h (fun v σ12 h => ?_)
    obtain ⟨r13, rfl, h⟩ := h
    show EV Γ MX6_advance d 94 [some (.ref v0), some (.int r7)] [.int r13] σ12 Q
    refine EV.if_eq 97 141 rfl (by decide) dX6_advance_94 (fun c14 => ?_) (fun c14 => ?_)
    · have h := h.1 c14
      refine EV.iload_n 142 rfl 1 rfl rfl dX6_advance_141 ?_
      refine EV.cS rfl lk_X6_110 rfl (vs := [.int r7]) (st := []) rfl rfl (Nat.le_of_ble_eq_true rfl) dX6_advance_142 h (fun v σ15 h => ?_)
      obtain ⟨r16, rfl, h⟩ := h
      show EV Γ MX6_advance d 145 [some (.ref v0), some (.int r7)] [.int r16] σ15 Q
      refine EV.if_eq 148 192 rfl (by decide) dX6_advance_145 (fun c17 => ?_) (fun c17 => ?_)
      · have h := h.1 c17
        refine EV.aload_n 193 rfl 0 rfl rfl dX6_advance_192 ?_
        refine EV.iload_n 194 rfl 1 rfl rfl dX6_advance_193 ?_
        refine EV.cS rfl lk_X6_113 rfl (vs := [.int r7]) (st := [.ref v0]) rfl rfl (Nat.le_of_ble_eq_true rfl) dX6_advance_194 h (fun v σ18 h => ?_)
        obtain ⟨r19, rfl, h⟩ := h
        show EV Γ MX6_advance d 197 [some (.ref v0), some (.int r7)] [.int r19, .ref v0] σ18 Q
        refine EV.if_eq 200 204 rfl (by decide) dX6_advance_197 (fun c20 => ?_) (fun c20 => ?_)
        · have h := h.1 c20
          refine EV.bipush 206 rfl dX6_advance_204 (v := 14) (by decide) ?_
          obtain ⟨w21, h⟩ := h
          refine EV.putI 209 rfl fw_X6_35 rfl (by decide) dX6_advance_206 w21 (EV.nm (fun σ22 e23 => ?_))
          have h := h σ22 e23
          have w24 := tr_hs (hs_setI_of e23) w21
          exact EV.vret rfl dX6_advance_209 h
        · have h := h.2 c20
          refine EV.iload_n 201 rfl 1 rfl rfl dX6_advance_200 ?_
          refine EV.goto 206 (by decide) dX6_advance_201 ?_
          obtain ⟨w25, h⟩ := h
          refine EV.putI 209 rfl fw_X6_35 rfl (by decide) dX6_advance_206 w25 (EV.nm (fun σ26 e27 => ?_))
          have h := h σ26 e27
          have w28 := tr_hs (hs_setI_of e27) w25
          exact EV.vret rfl dX6_advance_209 h
      · have h := h.2 c17
        refine EV.aload_n 149 rfl 0 rfl rfl dX6_advance_148 ?_
        refine EV.bipush 151 rfl dX6_advance_149 (v := 13) (by decide) ?_
        obtain ⟨w29, h⟩ := h
        refine EV.putI 154 rfl fw_X6_35 rfl (by decide) dX6_advance_151 w29 (EV.nm (fun σ30 e31 => ?_))
        have h := h σ30 e31
        have w32 := tr_hs (hs_setI_of e31) w29
        refine EV.mask [true, false] (L' := [some (.ref v0), none]) rfl ?_
        exact h
    · have h := h.2 c14
      refine EV.aload_n 98 rfl 0 rfl rfl dX6_advance_97 ?_
      refine EV.bipush 100 rfl dX6_advance_98 (v := 12) (by decide) ?_
      obtain ⟨w33, h⟩ := h
      refine EV.putI 103 rfl fw_X6_35 rfl (by decide) dX6_advance_100 w33 (EV.nm (fun σ34 e35 => ?_))
      have h := h σ34 e35
      have w36 := tr_hs (hs_setI_of e35) w33
      refine EV.mask [true, false] (L' := [some (.ref v0), none]) rfl ?_
      exact h
  · have h := h.2 c5
    refine EV.aload_n 65 rfl 0 rfl rfl dX6_advance_64 ?_
    refine EV.bipush 67 rfl dX6_advance_65 (v := 11) (by decide) ?_
    refine EV.putI 70 rfl fw_X6_35 rfl (by decide) dX6_advance_67 w4 (EV.nm (fun σ37 e38 => ?_))
    have h := h σ37 e38
    have w39 := tr_hs (hs_setI_of e38) w4
    exact EV.vret rfl dX6_advance_70 h
theorem gX6_advance_103 {Γ : Gm} {d : Nat} {σ : AH} {Q : Oc → AH → Prop} {v0 : Nat} (h : hs σ v0 = some (5, 10) ∧ (((gi σ v0 4) ≤ (gi σ v0 8) → Q (.inl none) σ) ∧ (¬ (gi σ v0 4) ≤ (gi σ v0 8) → CI Γ d MX6_at [.ref v0, .int (gi σ v0 8)] σ (fun r4 σ3 => CI Γ d MX6_isLetter [.int r4] σ3 (fun r6 σ5 => ((r6 = 0 → Q (.inl none) σ5) ∧ (¬ r6 = 0 → hs σ5 v0 = some (5, 10) ∧ ∀ σ9 : AH, σ9 = setI σ5 v0 8 ((gi σ5 v0 8) + 1) → EV Γ MX6_advance d 103 [some (.ref v0), none] [] σ9 Q))) (fun _ _ => False)) (fun E σ3 => Q (.inr E) σ3)))) : EV Γ MX6_advance d 103 [some (.ref v0), none] [] σ Q := by
  refine EV.aload_n 104 rfl 0 rfl rfl dX6_advance_103 ?_
  obtain ⟨w1, h⟩ := h
  refine EV.getI 107 rfl fl_X6_41 rfl dX6_advance_104 w1 ?_
  refine EV.aload_n 108 rfl 0 rfl rfl dX6_advance_107 ?_
  refine EV.getI 111 rfl fl_X6_26 rfl dX6_advance_108 w1 ?_
  refine EV.icmp_ge 114 209 rfl (by decide) dX6_advance_111 (fun c2 => ?_) (fun c2 => ?_)
  · have h := h.1 c2
    exact EV.vret rfl dX6_advance_209 h
  · have h := h.2 c2
    refine EV.aload_n 115 rfl 0 rfl rfl dX6_advance_114 ?_
    refine EV.aload_n 116 rfl 0 rfl rfl dX6_advance_115 ?_
    refine EV.getI 119 rfl fl_X6_41 rfl dX6_advance_116 w1 ?_
    refine EV.cV rfl rfl lk_X6_99 rfl (vs := [.int (gi σ v0 8)]) (st := []) rfl rfl (Nat.le_of_ble_eq_true rfl) dX6_advance_119 w1 h (fun v σ3 h => ?_)
    obtain ⟨r4, rfl, h⟩ := h
    show EV Γ MX6_advance d 122 [some (.ref v0), none] [.int r4] σ3 Q
    refine EV.cS rfl lk_X6_107 rfl (vs := [.int r4]) (st := []) rfl rfl (Nat.le_of_ble_eq_true rfl) dX6_advance_122 h (fun v σ5 h => ?_)
    obtain ⟨r6, rfl, h⟩ := h
    show EV Γ MX6_advance d 125 [some (.ref v0), none] [.int r6] σ5 Q
    refine EV.if_eq 128 209 rfl (by decide) dX6_advance_125 (fun c7 => ?_) (fun c7 => ?_)
    · have h := h.1 c7
      exact EV.vret rfl dX6_advance_209 h
    · have h := h.2 c7
      refine EV.aload_n 129 rfl 0 rfl rfl dX6_advance_128 ?_
      refine EV.dup 130 rfl dX6_advance_129 rfl ?_
      obtain ⟨w8, h⟩ := h
      refine EV.getI 133 rfl fl_X6_41 rfl dX6_advance_130 w8 ?_
      refine EV.iconst 134 rfl dX6_advance_133 (v := 1) (by decide) ?_
      refine EV.iadd 135 rfl dX6_advance_134 ?_
      refine EV.putI 138 rfl fw_X6_41 rfl (by decide) dX6_advance_135 w8 (EV.nm (fun σ9 e10 => ?_))
      have h := h σ9 e10
      have w11 := tr_hs (hs_setI_of e10) w8
      refine EV.goto 103 (by decide) dX6_advance_138 ?_
      exact h
theorem gX6_advance_154 {Γ : Gm} {d : Nat} {σ : AH} {Q : Oc → AH → Prop} {v0 : Nat} (h : hs σ v0 = some (5, 10) ∧ (((gi σ v0 4) ≤ (gi σ v0 8) → Q (.inl none) σ) ∧ (¬ (gi σ v0 4) ≤ (gi σ v0 8) → CI Γ d MX6_at [.ref v0, .int (gi σ v0 8)] σ (fun r4 σ3 => CI Γ d MX6_isDigit [.int r4] σ3 (fun r6 σ5 => ((r6 = 0 → Q (.inl none) σ5) ∧ (¬ r6 = 0 → hs σ5 v0 = some (5, 10) ∧ ∀ σ9 : AH, σ9 = setI σ5 v0 8 ((gi σ5 v0 8) + 1) → EV Γ MX6_advance d 154 [some (.ref v0), none] [] σ9 Q))) (fun _ _ => False)) (fun E σ3 => Q (.inr E) σ3)))) : EV Γ MX6_advance d 154 [some (.ref v0), none] [] σ Q := by
  refine EV.aload_n 155 rfl 0 rfl rfl dX6_advance_154 ?_
  obtain ⟨w1, h⟩ := h
  refine EV.getI 158 rfl fl_X6_41 rfl dX6_advance_155 w1 ?_
  refine EV.aload_n 159 rfl 0 rfl rfl dX6_advance_158 ?_
  refine EV.getI 162 rfl fl_X6_26 rfl dX6_advance_159 w1 ?_
  refine EV.icmp_ge 165 209 rfl (by decide) dX6_advance_162 (fun c2 => ?_) (fun c2 => ?_)
  · have h := h.1 c2
    exact EV.vret rfl dX6_advance_209 h
  · have h := h.2 c2
    refine EV.aload_n 166 rfl 0 rfl rfl dX6_advance_165 ?_
    refine EV.aload_n 167 rfl 0 rfl rfl dX6_advance_166 ?_
    refine EV.getI 170 rfl fl_X6_41 rfl dX6_advance_167 w1 ?_
    refine EV.cV rfl rfl lk_X6_99 rfl (vs := [.int (gi σ v0 8)]) (st := []) rfl rfl (Nat.le_of_ble_eq_true rfl) dX6_advance_170 w1 h (fun v σ3 h => ?_)
    obtain ⟨r4, rfl, h⟩ := h
    show EV Γ MX6_advance d 173 [some (.ref v0), none] [.int r4] σ3 Q
    refine EV.cS rfl lk_X6_110 rfl (vs := [.int r4]) (st := []) rfl rfl (Nat.le_of_ble_eq_true rfl) dX6_advance_173 h (fun v σ5 h => ?_)
    obtain ⟨r6, rfl, h⟩ := h
    show EV Γ MX6_advance d 176 [some (.ref v0), none] [.int r6] σ5 Q
    refine EV.if_eq 179 209 rfl (by decide) dX6_advance_176 (fun c7 => ?_) (fun c7 => ?_)
    · have h := h.1 c7
      exact EV.vret rfl dX6_advance_209 h
    · have h := h.2 c7
      refine EV.aload_n 180 rfl 0 rfl rfl dX6_advance_179 ?_
      refine EV.dup 181 rfl dX6_advance_180 rfl ?_
      obtain ⟨w8, h⟩ := h
      refine EV.getI 184 rfl fl_X6_41 rfl dX6_advance_181 w8 ?_
      refine EV.iconst 185 rfl dX6_advance_184 (v := 1) (by decide) ?_
      refine EV.iadd 186 rfl dX6_advance_185 ?_
      refine EV.putI 189 rfl fw_X6_41 rfl (by decide) dX6_advance_186 w8 (EV.nm (fun σ9 e10 => ?_))
      have h := h σ9 e10
      have w11 := tr_hs (hs_setI_of e10) w8
      refine EV.goto 154 (by decide) dX6_advance_189 ?_
      exact h
theorem gX6_at_0 {Γ : Gm} {d : Nat} {σ : AH} {Q : Oc → AH → Prop} {v0 : Nat} {v1 : Int32} (h : ((v1 < 0 → Q (.inl (some (.int 0))) σ) ∧ (¬ v1 < 0 → hs σ v0 = some (5, 10) ∧ (((gi σ v0 4) ≤ v1 → Q (.inl (some (.int 0))) σ) ∧ (¬ (gi σ v0 4) ≤ v1 → ∃ t4 : Nat, gr σ v0 3 = some t4 ∧ ∃ n7 : Nat, hs σ t4 = some (20, n7) ∧ (((nI n7) ≤ v1 → Q (.inl (some (.int 0))) σ) ∧ (¬ (nI n7) ≤ v1 → ∃ j9 : Nat, IX v1 n7 j9 ∧ Q (.inl (some (.int (gi σ t4 j9)))) σ))))))) : EV Γ MX6_at d 0 [some (.ref v0), some (.int v1)] [] σ Q := by
  refine EV.iload_n 1 rfl 1 rfl rfl dX6_at_0 ?_
  refine EV.if_lt 4 30 rfl (by decide) dX6_at_1 (fun c1 => ?_) (fun c1 => ?_)
  · have h := h.1 c1
    refine EV.iconst 31 rfl dX6_at_30 (v := 0) (by decide) ?_
    exact EV.iret rfl dX6_at_31 h
  · have h := h.2 c1
    refine EV.iload_n 5 rfl 1 rfl rfl dX6_at_4 ?_
    refine EV.aload_n 6 rfl 0 rfl rfl dX6_at_5 ?_
    obtain ⟨w2, h⟩ := h
    refine EV.getI 9 rfl fl_X6_26 rfl dX6_at_6 w2 ?_
    refine EV.icmp_ge 12 30 rfl (by decide) dX6_at_9 (fun c3 => ?_) (fun c3 => ?_)
    · have h := h.1 c3
      refine EV.iconst 31 rfl dX6_at_30 (v := 0) (by decide) ?_
      exact EV.iret rfl dX6_at_31 h
    · have h := h.2 c3
      refine EV.iload_n 13 rfl 1 rfl rfl dX6_at_12 ?_
      refine EV.aload_n 14 rfl 0 rfl rfl dX6_at_13 ?_
      obtain ⟨t4, g5, h⟩ := h
      refine EV.getR 17 rfl fl_X6_22 rfl dX6_at_14 w2 g5 ?_
      obtain ⟨n7, w6, h⟩ := h
      refine EV.alenB 18 rfl dX6_at_17 w6 ?_
      refine EV.icmp_ge 21 30 rfl (by decide) dX6_at_18 (fun c8 => ?_) (fun c8 => ?_)
      · have h := h.1 c8
        refine EV.iconst 31 rfl dX6_at_30 (v := 0) (by decide) ?_
        exact EV.iret rfl dX6_at_31 h
      · have h := h.2 c8
        refine EV.aload_n 22 rfl 0 rfl rfl dX6_at_21 ?_
        refine EV.getR 25 rfl fl_X6_22 rfl dX6_at_22 w2 g5 ?_
        refine EV.iload_n 26 rfl 1 rfl rfl dX6_at_25 ?_
        obtain ⟨j9, x10, h⟩ := h
        refine EV.bald 27 rfl dX6_at_26 w6 x10 ?_
        refine EV.goto 31 (by decide) dX6_at_27 ?_
        exact EV.iret rfl dX6_at_31 h
theorem eX6_at {Γ : Gm} {d : Nat} {σ : AH} {Q : Oc → AH → Prop} {v0 : Nat} {v1 : Int32} (h : ((v1 < 0 → Q (.inl (some (.int 0))) σ) ∧ (¬ v1 < 0 → hs σ v0 = some (5, 10) ∧ (((gi σ v0 4) ≤ v1 → Q (.inl (some (.int 0))) σ) ∧ (¬ (gi σ v0 4) ≤ v1 → ∃ t4 : Nat, gr σ v0 3 = some t4 ∧ ∃ n7 : Nat, hs σ t4 = some (20, n7) ∧ (((nI n7) ≤ v1 → Q (.inl (some (.int 0))) σ) ∧ (¬ (nI n7) ≤ v1 → ∃ j9 : Nat, IX v1 n7 j9 ∧ Q (.inl (some (.int (gi σ t4 j9)))) σ))))))) : RUN Γ d MX6_at [.ref v0, .int v1] σ Q :=
  EV.enter [some (.ref v0), some (.int v1)] rfl (by decide +kernel) (Nat.le_of_ble_eq_true rfl) rfl (gX6_at_0 h)
theorem gX6_isLetter_0 {Γ : Gm} {d : Nat} {σ : AH} {Q : Oc → AH → Prop} {v0 : Int32} (h : ((v0 < 97 → Q (.inl (some (.int 0))) σ) ∧ (¬ v0 < 97 → ((122 < v0 → Q (.inl (some (.int 0))) σ) ∧ (¬ 122 < v0 → Q (.inl (some (.int 1))) σ))))) : EV Γ MX6_isLetter d 0 [some (.int v0)] [] σ Q := by
  refine EV.iload_n 1 rfl 0 rfl rfl dX6_isLetter_0 ?_
  refine EV.bipush 3 rfl dX6_isLetter_1 (v := 97) (by decide) ?_
  refine EV.icmp_lt 6 16 rfl (by decide) dX6_isLetter_3 (fun c1 => ?_) (fun c1 => ?_)
  · have h := h.1 c1
    refine EV.iconst 17 rfl dX6_isLetter_16 (v := 0) (by decide) ?_
    exact EV.zret rfl rfl dX6_isLetter_17 h
  · have h := h.2 c1
    refine EV.iload_n 7 rfl 0 rfl rfl dX6_isLetter_6 ?_
    refine EV.bipush 9 rfl dX6_isLetter_7 (v := 122) (by decide) ?_
    refine EV.icmp_gt 12 16 rfl (by decide) dX6_isLetter_9 (fun c2 => ?_) (fun c2 => ?_)
    · have h := h.1 c2
      refine EV.iconst 17 rfl dX6_isLetter_16 (v := 0) (by decide) ?_
      exact EV.zret rfl rfl dX6_isLetter_17 h
    · have h := h.2 c2
      refine EV.iconst 13 rfl dX6_isLetter_12 (v := 1) (by decide) ?_
      refine EV.goto 17 (by decide) dX6_isLetter_13 ?_
      exact EV.zret rfl rfl dX6_isLetter_17 h
theorem eX6_isLetter {Γ : Gm} {d : Nat} {σ : AH} {Q : Oc → AH → Prop} {v0 : Int32} (h : ((v0 < 97 → Q (.inl (some (.int 0))) σ) ∧ (¬ v0 < 97 → ((122 < v0 → Q (.inl (some (.int 0))) σ) ∧ (¬ 122 < v0 → Q (.inl (some (.int 1))) σ))))) : RUN Γ d MX6_isLetter [.int v0] σ Q :=
  EV.enter [some (.int v0)] rfl (by decide +kernel) (Nat.le_of_ble_eq_true rfl) rfl (gX6_isLetter_0 h)
theorem gX6_isDigit_0 {Γ : Gm} {d : Nat} {σ : AH} {Q : Oc → AH → Prop} {v0 : Int32} (h : ((v0 < 48 → Q (.inl (some (.int 0))) σ) ∧ (¬ v0 < 48 → ((57 < v0 → Q (.inl (some (.int 0))) σ) ∧ (¬ 57 < v0 → Q (.inl (some (.int 1))) σ))))) : EV Γ MX6_isDigit d 0 [some (.int v0)] [] σ Q := by
  refine EV.iload_n 1 rfl 0 rfl rfl dX6_isDigit_0 ?_
  refine EV.bipush 3 rfl dX6_isDigit_1 (v := 48) (by decide) ?_
  refine EV.icmp_lt 6 16 rfl (by decide) dX6_isDigit_3 (fun c1 => ?_) (fun c1 => ?_)
  · have h := h.1 c1
    refine EV.iconst 17 rfl dX6_isDigit_16 (v := 0) (by decide) ?_
    exact EV.zret rfl rfl dX6_isDigit_17 h
  · have h := h.2 c1
    refine EV.iload_n 7 rfl 0 rfl rfl dX6_isDigit_6 ?_
    refine EV.bipush 9 rfl dX6_isDigit_7 (v := 57) (by decide) ?_
    refine EV.icmp_gt 12 16 rfl (by decide) dX6_isDigit_9 (fun c2 => ?_) (fun c2 => ?_)
    · have h := h.1 c2
      refine EV.iconst 17 rfl dX6_isDigit_16 (v := 0) (by decide) ?_
      exact EV.zret rfl rfl dX6_isDigit_17 h
    · have h := h.2 c2
      refine EV.iconst 13 rfl dX6_isDigit_12 (v := 1) (by decide) ?_
      refine EV.goto 17 (by decide) dX6_isDigit_13 ?_
      exact EV.zret rfl rfl dX6_isDigit_17 h
theorem eX6_isDigit {Γ : Gm} {d : Nat} {σ : AH} {Q : Oc → AH → Prop} {v0 : Int32} (h : ((v0 < 48 → Q (.inl (some (.int 0))) σ) ∧ (¬ v0 < 48 → ((57 < v0 → Q (.inl (some (.int 0))) σ) ∧ (¬ 57 < v0 → Q (.inl (some (.int 1))) σ))))) : RUN Γ d MX6_isDigit [.int v0] σ Q :=
  EV.enter [some (.int v0)] rfl (by decide +kernel) (Nat.le_of_ble_eq_true rfl) rfl (gX6_isDigit_0 h)
theorem gX6_isSymbol_0 {Γ : Gm} {d : Nat} {σ : AH} {Q : Oc → AH → Prop} {v0 : Int32} (h : CI Γ d MX6_isSumSign [.int v0] σ (fun r2 σ1 => ((r2 ≠ 0 → Q (.inl (some (.int 1))) σ1) ∧ (r2 = 0 → CI Γ d MX6_isProductSign [.int v0] σ1 (fun r5 σ4 => ((r5 ≠ 0 → Q (.inl (some (.int 1))) σ4) ∧ (r5 = 0 → ((v0 = 40 → Q (.inl (some (.int 1))) σ4) ∧ (¬ v0 = 40 → ((v0 = 41 → Q (.inl (some (.int 1))) σ4) ∧ (¬ v0 = 41 → ((v0 ≠ 35 → Q (.inl (some (.int 0))) σ4) ∧ (v0 = 35 → Q (.inl (some (.int 1))) σ4))))))))) (fun _ _ => False)))) (fun _ _ => False)) : EV Γ MX6_isSymbol d 0 [some (.int v0)] [] σ Q := by
  refine EV.iload_n 1 rfl 0 rfl rfl dX6_isSymbol_0 ?_
  refine EV.cS rfl lk_X6_66 rfl (vs := [.int v0]) (st := []) rfl rfl (Nat.le_of_ble_eq_true rfl) dX6_isSymbol_1 h (fun v σ1 h => ?_)
  obtain ⟨r2, rfl, h⟩ := h
  show EV Γ MX6_isSymbol d 4 [some (.int v0)] [.int r2] σ1 Q
  refine EV.if_ne 7 32 rfl (by decide) dX6_isSymbol_4 (fun c3 => ?_) (fun c3 => ?_)
  · have h := h.1 c3
    refine EV.iconst 33 rfl dX6_isSymbol_32 (v := 1) (by decide) ?_
    refine EV.goto 37 (by decide) dX6_isSymbol_33 ?_
    exact EV.zret rfl rfl dX6_isSymbol_37 h
  · have h := h.2 c3
    refine EV.iload_n 8 rfl 0 rfl rfl dX6_isSymbol_7 ?_
    refine EV.cS rfl lk_X6_77 rfl (vs := [.int v0]) (st := []) rfl rfl (Nat.le_of_ble_eq_true rfl) dX6_isSymbol_8 h (fun v σ4 h => ?_)
    obtain ⟨r5, rfl, h⟩ := h
    show EV Γ MX6_isSymbol d 11 [some (.int v0)] [.int r5] σ4 Q
    refine EV.if_ne 14 32 rfl (by decide) dX6_isSymbol_11 (fun c6 => ?_) (fun c6 => ?_)
    · have h := h.1 c6
      refine EV.iconst 33 rfl dX6_isSymbol_32 (v := 1) (by decide) ?_
      refine EV.goto 37 (by decide) dX6_isSymbol_33 ?_
      exact EV.zret rfl rfl dX6_isSymbol_37 h
    · have h := h.2 c6
      refine EV.iload_n 15 rfl 0 rfl rfl dX6_isSymbol_14 ?_
      refine EV.bipush 17 rfl dX6_isSymbol_15 (v := 40) (by decide) ?_
      refine EV.icmp_eq 20 32 rfl (by decide) dX6_isSymbol_17 (fun c7 => ?_) (fun c7 => ?_)
      · have h := h.1 c7
        refine EV.iconst 33 rfl dX6_isSymbol_32 (v := 1) (by decide) ?_
        refine EV.goto 37 (by decide) dX6_isSymbol_33 ?_
        exact EV.zret rfl rfl dX6_isSymbol_37 h
      · have h := h.2 c7
        refine EV.iload_n 21 rfl 0 rfl rfl dX6_isSymbol_20 ?_
        refine EV.bipush 23 rfl dX6_isSymbol_21 (v := 41) (by decide) ?_
        refine EV.icmp_eq 26 32 rfl (by decide) dX6_isSymbol_23 (fun c8 => ?_) (fun c8 => ?_)
        · have h := h.1 c8
          refine EV.iconst 33 rfl dX6_isSymbol_32 (v := 1) (by decide) ?_
          refine EV.goto 37 (by decide) dX6_isSymbol_33 ?_
          exact EV.zret rfl rfl dX6_isSymbol_37 h
        · have h := h.2 c8
          refine EV.iload_n 27 rfl 0 rfl rfl dX6_isSymbol_26 ?_
          refine EV.bipush 29 rfl dX6_isSymbol_27 (v := 35) (by decide) ?_
          refine EV.icmp_ne 32 36 rfl (by decide) dX6_isSymbol_29 (fun c9 => ?_) (fun c9 => ?_)
          · have h := h.1 c9
            refine EV.iconst 37 rfl dX6_isSymbol_36 (v := 0) (by decide) ?_
            exact EV.zret rfl rfl dX6_isSymbol_37 h
          · have h := h.2 c9
            refine EV.iconst 33 rfl dX6_isSymbol_32 (v := 1) (by decide) ?_
            refine EV.goto 37 (by decide) dX6_isSymbol_33 ?_
            exact EV.zret rfl rfl dX6_isSymbol_37 h
theorem eX6_isSymbol {Γ : Gm} {d : Nat} {σ : AH} {Q : Oc → AH → Prop} {v0 : Int32} (h : CI Γ d MX6_isSumSign [.int v0] σ (fun r2 σ1 => ((r2 ≠ 0 → Q (.inl (some (.int 1))) σ1) ∧ (r2 = 0 → CI Γ d MX6_isProductSign [.int v0] σ1 (fun r5 σ4 => ((r5 ≠ 0 → Q (.inl (some (.int 1))) σ4) ∧ (r5 = 0 → ((v0 = 40 → Q (.inl (some (.int 1))) σ4) ∧ (¬ v0 = 40 → ((v0 = 41 → Q (.inl (some (.int 1))) σ4) ∧ (¬ v0 = 41 → ((v0 ≠ 35 → Q (.inl (some (.int 0))) σ4) ∧ (v0 = 35 → Q (.inl (some (.int 1))) σ4))))))))) (fun _ _ => False)))) (fun _ _ => False)) : RUN Γ d MX6_isSymbol [.int v0] σ Q :=
  EV.enter [some (.int v0)] rfl (by decide +kernel) (Nat.le_of_ble_eq_true rfl) rfl (gX6_isSymbol_0 h)
